set_option maxRecDepth 100000 in
set_option maxHeartbeats 4000000 in
theorem e_X11_falls (L0 d : Nat) (hd : 3 ≤ d) {p1 p2 : Int} {D : DT} {t0 : (Int × DT)} (h : m_X11_falls p1 p2 D = some t0) : Ret mtab d 138 [.inr (.inr 2), .inl p1, .inl p2] (SH L0, D) (some (.inl t0.1), (SH L0, t0.2)) := by
  obtain ⟨d, rfl⟩ : ∃ e, d = e + 1 := ⟨d - 1, by omega⟩
  refine Ret.of (code := k_X11_falls) (ml := 3) rfl ?_
  show EvF mtab d k_X11_falls 0 [some (.inr (.inr 2)), some (.inl p1), some (.inl p2)] [] (SH L0, D) (some (.inl t0.1), (SH L0, t0.2))
  unfold m_X11_falls at h
  obtain ⟨x1, hx, h⟩ := bnd h
  refine ev_call (e_X11_isOrder L0 d (by omega) hx) 3 (pc' := 5) (L' := [some (.inr (.inr 2)), some (.inl p1), some (.inl p2)]) (S' := []) (fun _ _ => rfl) ?_
  rcases ite_or h with ⟨hc, h⟩ | ⟨hc, h⟩
  · refine ev_ift hc 1 (pc' := 8) (L' := [some (.inr (.inr 2)), some (.inl p1), some (.inl p2)]) (S' := []) (σ' := (SH L0, D)) (fun _ _ => rfl) ?_
    obtain ⟨⟨x2, D3⟩, hx, h⟩ := bnd h
    refine ev_call (e_X11_refuse L0 d (by omega) hx) 3 (pc' := 13) (L' := [some (.inr (.inr 2)), some (.inl p1), some (.inl p2)]) (S' := []) (fun _ _ => rfl) ?_
    cases h
    exact ev_ret 1 (fun _ _ => rfl)
  · refine ev_iff hc 1 (pc' := 14) (L' := [some (.inr (.inr 2)), some (.inl p1), some (.inl p2)]) (S' := []) (σ' := (SH L0, D)) (fun _ _ => rfl) ?_
    obtain ⟨x4, hx, h⟩ := bnd h
    refine ev_call (e_X11_isArc L0 d (by omega) hx) 3 (pc' := 19) (L' := [some (.inr (.inr 2)), some (.inl p1), some (.inl p2)]) (S' := []) (fun _ _ => rfl) ?_
    rcases ite_or h with ⟨hc, h⟩ | ⟨hc, h⟩
    · refine ev_ift hc 1 (pc' := 22) (L' := [some (.inr (.inr 2)), some (.inl p1), some (.inl p2)]) (S' := []) (σ' := (SH L0, D)) (fun _ _ => rfl) ?_
      obtain ⟨⟨x5, D6⟩, hx, h⟩ := bnd h
      refine ev_call (e_X11_refuse L0 d (by omega) hx) 3 (pc' := 27) (L' := [some (.inr (.inr 2)), some (.inl p1), some (.inl p2)]) (S' := []) (fun _ _ => rfl) ?_
      cases h
      exact ev_ret 1 (fun _ _ => rfl)
    · refine ev_iff hc 1 (pc' := 28) (L' := [some (.inr (.inr 2)), some (.inl p1), some (.inl p2)]) (S' := []) (σ' := (SH L0, D)) (fun _ _ => rfl) ?_
      rcases ite_or h with ⟨hc, h⟩ | ⟨_, h⟩
      · have hx : aref [163, 168, 173, 178, 183] 5 p1 = some 162 := by rw [hc]; rfl
        refine ev_bind hx 5 (pc' := 35) (L' := fun q => [some (.inr (.inr 2)), some (.inl p1), some (.inl p2)]) (S' := fun q => [.inr (.inr q), .inr (.inr 2)]) (σ' := fun q => (SH L0, D)) (fun _ _ => rfl) ?_
        obtain ⟨x7, hx, h⟩ := bnd h
        refine ev_call (e_X4_isFall_162 L0 d (by omega) hx) 2 (pc' := 39) (L' := [some (.inr (.inr 2)), some (.inl p1), some (.inl p2)]) (S' := [.inr (.inr 2)]) (fun _ _ => rfl) ?_
        obtain ⟨t8, hv, h⟩ := bnd h
        have hJ : EvF mtab d k_X11_falls 47 [some (.inr (.inr 2)), some (.inl p1), some (.inl p2)] [.inl t8, .inr (.inr 2)] (SH L0, D) (some (.inl t0.1), (SH L0, t0.2)) := by
          obtain ⟨⟨x9, D10⟩, hx, h⟩ := bnd h
          refine ev_call (e_X11_answer L0 d (by omega) hx) 1 (pc' := 50) (L' := [some (.inr (.inr 2)), some (.inl p1), some (.inl p2)]) (S' := []) (fun _ _ => rfl) ?_
          cases h
          exact ev_ret 1 (fun _ _ => rfl)
        clear h
        rcases ite_or hv with ⟨hc, hv⟩ | ⟨hc, hv⟩
        · refine ev_ift hc 1 (pc' := 46) (L' := [some (.inr (.inr 2)), some (.inl p1), some (.inl p2)]) (S' := [.inr (.inr 2)]) (σ' := (SH L0, D)) (fun _ _ => rfl) ?_
          have he0 := Option.some.inj hv
          subst he0
          exact ev_go 1 (pc' := 47) (L' := [some (.inr (.inr 2)), some (.inl p1), some (.inl p2)]) (S' := [.inl 0, .inr (.inr 2)]) (σ' := (SH L0, D)) (fun _ _ => rfl) hJ
        · refine ev_iff hc 1 (pc' := 42) (L' := [some (.inr (.inr 2)), some (.inl p1), some (.inl p2)]) (S' := [.inr (.inr 2)]) (σ' := (SH L0, D)) (fun _ _ => rfl) ?_
          have he0 := Option.some.inj hv
          subst he0
          exact ev_go 2 (pc' := 47) (L' := [some (.inr (.inr 2)), some (.inl p1), some (.inl p2)]) (S' := [.inl 1, .inr (.inr 2)]) (σ' := (SH L0, D)) (fun _ _ => rfl) hJ
      rcases ite_or h with ⟨hc, h⟩ | ⟨_, h⟩
      · have hx : aref [163, 168, 173, 178, 183] 5 p1 = some 167 := by rw [hc]; rfl
        refine ev_bind hx 5 (pc' := 35) (L' := fun q => [some (.inr (.inr 2)), some (.inl p1), some (.inl p2)]) (S' := fun q => [.inr (.inr q), .inr (.inr 2)]) (σ' := fun q => (SH L0, D)) (fun _ _ => rfl) ?_
        obtain ⟨x11, hx, h⟩ := bnd h
        refine ev_call (e_X4_isFall_167 L0 d (by omega) hx) 2 (pc' := 39) (L' := [some (.inr (.inr 2)), some (.inl p1), some (.inl p2)]) (S' := [.inr (.inr 2)]) (fun _ _ => rfl) ?_
        obtain ⟨t12, hv, h⟩ := bnd h
        have hJ : EvF mtab d k_X11_falls 47 [some (.inr (.inr 2)), some (.inl p1), some (.inl p2)] [.inl t12, .inr (.inr 2)] (SH L0, D) (some (.inl t0.1), (SH L0, t0.2)) := by
          obtain ⟨⟨x13, D14⟩, hx, h⟩ := bnd h
          refine ev_call (e_X11_answer L0 d (by omega) hx) 1 (pc' := 50) (L' := [some (.inr (.inr 2)), some (.inl p1), some (.inl p2)]) (S' := []) (fun _ _ => rfl) ?_
          cases h
          exact ev_ret 1 (fun _ _ => rfl)
        clear h
        rcases ite_or hv with ⟨hc, hv⟩ | ⟨hc, hv⟩
        · refine ev_ift hc 1 (pc' := 46) (L' := [some (.inr (.inr 2)), some (.inl p1), some (.inl p2)]) (S' := [.inr (.inr 2)]) (σ' := (SH L0, D)) (fun _ _ => rfl) ?_
          have he0 := Option.some.inj hv
          subst he0
          exact ev_go 1 (pc' := 47) (L' := [some (.inr (.inr 2)), some (.inl p1), some (.inl p2)]) (S' := [.inl 0, .inr (.inr 2)]) (σ' := (SH L0, D)) (fun _ _ => rfl) hJ
        · refine ev_iff hc 1 (pc' := 42) (L' := [some (.inr (.inr 2)), some (.inl p1), some (.inl p2)]) (S' := [.inr (.inr 2)]) (σ' := (SH L0, D)) (fun _ _ => rfl) ?_
          have he0 := Option.some.inj hv
          subst he0
          exact ev_go 2 (pc' := 47) (L' := [some (.inr (.inr 2)), some (.inl p1), some (.inl p2)]) (S' := [.inl 1, .inr (.inr 2)]) (σ' := (SH L0, D)) (fun _ _ => rfl) hJ
      rcases ite_or h with ⟨hc, h⟩ | ⟨_, h⟩
      · have hx : aref [163, 168, 173, 178, 183] 5 p1 = some 172 := by rw [hc]; rfl
        refine ev_bind hx 5 (pc' := 35) (L' := fun q => [some (.inr (.inr 2)), some (.inl p1), some (.inl p2)]) (S' := fun q => [.inr (.inr q), .inr (.inr 2)]) (σ' := fun q => (SH L0, D)) (fun _ _ => rfl) ?_
        obtain ⟨x15, hx, h⟩ := bnd h
        refine ev_call (e_X4_isFall_172 L0 d (by omega) hx) 2 (pc' := 39) (L' := [some (.inr (.inr 2)), some (.inl p1), some (.inl p2)]) (S' := [.inr (.inr 2)]) (fun _ _ => rfl) ?_
        obtain ⟨t16, hv, h⟩ := bnd h
        have hJ : EvF mtab d k_X11_falls 47 [some (.inr (.inr 2)), some (.inl p1), some (.inl p2)] [.inl t16, .inr (.inr 2)] (SH L0, D) (some (.inl t0.1), (SH L0, t0.2)) := by
          obtain ⟨⟨x17, D18⟩, hx, h⟩ := bnd h
          refine ev_call (e_X11_answer L0 d (by omega) hx) 1 (pc' := 50) (L' := [some (.inr (.inr 2)), some (.inl p1), some (.inl p2)]) (S' := []) (fun _ _ => rfl) ?_
          cases h
          exact ev_ret 1 (fun _ _ => rfl)
        clear h
        rcases ite_or hv with ⟨hc, hv⟩ | ⟨hc, hv⟩
        · refine ev_ift hc 1 (pc' := 46) (L' := [some (.inr (.inr 2)), some (.inl p1), some (.inl p2)]) (S' := [.inr (.inr 2)]) (σ' := (SH L0, D)) (fun _ _ => rfl) ?_
          have he0 := Option.some.inj hv
          subst he0
          exact ev_go 1 (pc' := 47) (L' := [some (.inr (.inr 2)), some (.inl p1), some (.inl p2)]) (S' := [.inl 0, .inr (.inr 2)]) (σ' := (SH L0, D)) (fun _ _ => rfl) hJ
        · refine ev_iff hc 1 (pc' := 42) (L' := [some (.inr (.inr 2)), some (.inl p1), some (.inl p2)]) (S' := [.inr (.inr 2)]) (σ' := (SH L0, D)) (fun _ _ => rfl) ?_
          have he0 := Option.some.inj hv
          subst he0
          exact ev_go 2 (pc' := 47) (L' := [some (.inr (.inr 2)), some (.inl p1), some (.inl p2)]) (S' := [.inl 1, .inr (.inr 2)]) (σ' := (SH L0, D)) (fun _ _ => rfl) hJ
      rcases ite_or h with ⟨hc, h⟩ | ⟨_, h⟩
      · have hx : aref [163, 168, 173, 178, 183] 5 p1 = some 177 := by rw [hc]; rfl
        refine ev_bind hx 5 (pc' := 35) (L' := fun q => [some (.inr (.inr 2)), some (.inl p1), some (.inl p2)]) (S' := fun q => [.inr (.inr q), .inr (.inr 2)]) (σ' := fun q => (SH L0, D)) (fun _ _ => rfl) ?_
        obtain ⟨x19, hx, h⟩ := bnd h
        refine ev_call (e_X4_isFall_177 L0 d (by omega) hx) 2 (pc' := 39) (L' := [some (.inr (.inr 2)), some (.inl p1), some (.inl p2)]) (S' := [.inr (.inr 2)]) (fun _ _ => rfl) ?_
        obtain ⟨t20, hv, h⟩ := bnd h
        have hJ : EvF mtab d k_X11_falls 47 [some (.inr (.inr 2)), some (.inl p1), some (.inl p2)] [.inl t20, .inr (.inr 2)] (SH L0, D) (some (.inl t0.1), (SH L0, t0.2)) := by
          obtain ⟨⟨x21, D22⟩, hx, h⟩ := bnd h
          refine ev_call (e_X11_answer L0 d (by omega) hx) 1 (pc' := 50) (L' := [some (.inr (.inr 2)), some (.inl p1), some (.inl p2)]) (S' := []) (fun _ _ => rfl) ?_
          cases h
          exact ev_ret 1 (fun _ _ => rfl)
        clear h
        rcases ite_or hv with ⟨hc, hv⟩ | ⟨hc, hv⟩
        · refine ev_ift hc 1 (pc' := 46) (L' := [some (.inr (.inr 2)), some (.inl p1), some (.inl p2)]) (S' := [.inr (.inr 2)]) (σ' := (SH L0, D)) (fun _ _ => rfl) ?_
          have he0 := Option.some.inj hv
          subst he0
          exact ev_go 1 (pc' := 47) (L' := [some (.inr (.inr 2)), some (.inl p1), some (.inl p2)]) (S' := [.inl 0, .inr (.inr 2)]) (σ' := (SH L0, D)) (fun _ _ => rfl) hJ
        · refine ev_iff hc 1 (pc' := 42) (L' := [some (.inr (.inr 2)), some (.inl p1), some (.inl p2)]) (S' := [.inr (.inr 2)]) (σ' := (SH L0, D)) (fun _ _ => rfl) ?_
          have he0 := Option.some.inj hv
          subst he0
          exact ev_go 2 (pc' := 47) (L' := [some (.inr (.inr 2)), some (.inl p1), some (.inl p2)]) (S' := [.inl 1, .inr (.inr 2)]) (σ' := (SH L0, D)) (fun _ _ => rfl) hJ
      rcases ite_or h with ⟨hc, h⟩ | ⟨_, h⟩
      · have hx : aref [163, 168, 173, 178, 183] 5 p1 = some 182 := by rw [hc]; rfl
        refine ev_bind hx 5 (pc' := 35) (L' := fun q => [some (.inr (.inr 2)), some (.inl p1), some (.inl p2)]) (S' := fun q => [.inr (.inr q), .inr (.inr 2)]) (σ' := fun q => (SH L0, D)) (fun _ _ => rfl) ?_
        obtain ⟨x23, hx, h⟩ := bnd h
        refine ev_call (e_X4_isFall_182 L0 d (by omega) hx) 2 (pc' := 39) (L' := [some (.inr (.inr 2)), some (.inl p1), some (.inl p2)]) (S' := [.inr (.inr 2)]) (fun _ _ => rfl) ?_
        obtain ⟨t24, hv, h⟩ := bnd h
        have hJ : EvF mtab d k_X11_falls 47 [some (.inr (.inr 2)), some (.inl p1), some (.inl p2)] [.inl t24, .inr (.inr 2)] (SH L0, D) (some (.inl t0.1), (SH L0, t0.2)) := by
          obtain ⟨⟨x25, D26⟩, hx, h⟩ := bnd h
          refine ev_call (e_X11_answer L0 d (by omega) hx) 1 (pc' := 50) (L' := [some (.inr (.inr 2)), some (.inl p1), some (.inl p2)]) (S' := []) (fun _ _ => rfl) ?_
          cases h
          exact ev_ret 1 (fun _ _ => rfl)
        clear h
        rcases ite_or hv with ⟨hc, hv⟩ | ⟨hc, hv⟩
        · refine ev_ift hc 1 (pc' := 46) (L' := [some (.inr (.inr 2)), some (.inl p1), some (.inl p2)]) (S' := [.inr (.inr 2)]) (σ' := (SH L0, D)) (fun _ _ => rfl) ?_
          have he0 := Option.some.inj hv
          subst he0
          exact ev_go 1 (pc' := 47) (L' := [some (.inr (.inr 2)), some (.inl p1), some (.inl p2)]) (S' := [.inl 0, .inr (.inr 2)]) (σ' := (SH L0, D)) (fun _ _ => rfl) hJ
        · refine ev_iff hc 1 (pc' := 42) (L' := [some (.inr (.inr 2)), some (.inl p1), some (.inl p2)]) (S' := [.inr (.inr 2)]) (σ' := (SH L0, D)) (fun _ _ => rfl) ?_
          have he0 := Option.some.inj hv
          subst he0
          exact ev_go 2 (pc' := 47) (L' := [some (.inr (.inr 2)), some (.inl p1), some (.inl p2)]) (S' := [.inl 1, .inr (.inr 2)]) (σ' := (SH L0, D)) (fun _ _ => rfl) hJ
      cases h
set_option maxRecDepth 100000 in
set_option maxHeartbeats 4000000 in
theorem e_X11_cost (L0 d : Nat) (hd : 5 ≤ d) {p1 p2 : Int} {D : DT} {t0 : (Int × DT)} (h : m_X11_cost p1 p2 D = some t0) : Ret mtab d 139 [.inr (.inr 2), .inl p1, .inl p2] (SH L0, D) (some (.inl t0.1), (SH L0, t0.2)) := by
  obtain ⟨d, rfl⟩ : ∃ e, d = e + 1 := ⟨d - 1, by omega⟩
  refine Ret.of (code := k_X11_cost) (ml := 4) rfl ?_
  show EvF mtab d k_X11_cost 0 [some (.inr (.inr 2)), some (.inl p1), some (.inl p2), none] [] (SH L0, D) (some (.inl t0.1), (SH L0, t0.2))
  unfold m_X11_cost at h
  obtain ⟨x1, hx, h⟩ := bnd h
  refine ev_call (e_X11_isOrder L0 d (by omega) hx) 3 (pc' := 5) (L' := [some (.inr (.inr 2)), some (.inl p1), some (.inl p2), none]) (S' := []) (fun _ _ => rfl) ?_
  rcases ite_or h with ⟨hc, h⟩ | ⟨hc, h⟩
  · refine ev_ift hc 1 (pc' := 8) (L' := [some (.inr (.inr 2)), some (.inl p1), some (.inl p2), none]) (S' := []) (σ' := (SH L0, D)) (fun _ _ => rfl) ?_
    obtain ⟨⟨x2, D3⟩, hx, h⟩ := bnd h
    refine ev_call (e_X11_refuse L0 d (by omega) hx) 3 (pc' := 13) (L' := [some (.inr (.inr 2)), some (.inl p1), some (.inl p2), none]) (S' := []) (fun _ _ => rfl) ?_
    cases h
    exact ev_ret 1 (fun _ _ => rfl)
  · refine ev_iff hc 1 (pc' := 14) (L' := [some (.inr (.inr 2)), some (.inl p1), some (.inl p2), none]) (S' := []) (σ' := (SH L0, D)) (fun _ _ => rfl) ?_
    rcases ite_or h with ⟨hc, h⟩ | ⟨_, h⟩
    · have hx : aref [163, 168, 173, 178, 183] 5 p1 = some 162 := by rw [hc]; rfl
      refine ev_bind hx 4 (pc' := 20) (L' := fun q => [some (.inr (.inr 2)), some (.inl p1), some (.inl p2), none]) (S' := fun q => [.inr (.inr q)]) (σ' := fun q => (SH L0, D)) (fun _ _ => rfl) ?_
      rcases ite_or h with ⟨hc0, h⟩ | ⟨hc0, h⟩
      · refine ev_tsw 3 (tgt := 60) (L' := [some (.inr (.inr 2)), some (.inl p1), some (.inl p2), some (.inr (.inr 162))]) (S' := []) (σ' := (SH L0, D)) (fun _ _ => rfl) (fun g => by simp [tsw, hc0]) ?_
        obtain ⟨x4, hx, h⟩ := bnd h
        refine ev_call (e_X4_allJumps_162 L0 d (by omega) hx) 3 (pc' := 65) (L' := [some (.inr (.inr 2)), some (.inl p1), some (.inl p2), some (.inr (.inr 162))]) (S' := [.inr (.inr 2)]) (fun _ _ => rfl) ?_
        obtain ⟨⟨x5, D6⟩, hx, h⟩ := bnd h
        refine ev_call (e_X11_answer L0 d (by omega) hx) 1 (pc' := 68) (L' := [some (.inr (.inr 2)), some (.inl p1), some (.inl p2), some (.inr (.inr 162))]) (S' := []) (fun _ _ => rfl) ?_
        cases h
        exact ev_ret 1 (fun _ _ => rfl)
      rcases ite_or h with ⟨hc1, h⟩ | ⟨hc1, h⟩
      · refine ev_tsw 3 (tgt := 69) (L' := [some (.inr (.inr 2)), some (.inl p1), some (.inl p2), some (.inr (.inr 162))]) (S' := []) (σ' := (SH L0, D)) (fun _ _ => rfl) (fun g => by simp [tsw, hc0, hc1]) ?_
        obtain ⟨⟨x7, D8⟩, hx, h⟩ := bnd h
        refine ev_call (e_X11_answer L0 d (by omega) hx) 4 (pc' := 77) (L' := [some (.inr (.inr 2)), some (.inl p1), some (.inl p2), some (.inr (.inr 162))]) (S' := []) (fun _ _ => rfl) ?_
        cases h
        exact ev_ret 1 (fun _ _ => rfl)
      rcases ite_or h with ⟨hc2, h⟩ | ⟨hc2, h⟩
      · refine ev_tsw 3 (tgt := 78) (L' := [some (.inr (.inr 2)), some (.inl p1), some (.inl p2), some (.inr (.inr 162))]) (S' := []) (σ' := (SH L0, D)) (fun _ _ => rfl) (fun g => by simp [tsw, hc0, hc1, hc2]) ?_
        obtain ⟨x9, hx, h⟩ := bnd h
        refine ev_call (e_X4_turned_162 L0 d (by omega) hx) 3 (pc' := 83) (L' := [some (.inr (.inr 2)), some (.inl p1), some (.inl p2), some (.inr (.inr 162))]) (S' := [.inr (.inr 2)]) (fun _ _ => rfl) ?_
        obtain ⟨⟨x10, D11⟩, hx, h⟩ := bnd h
        refine ev_call (e_X11_answer L0 d (by omega) hx) 1 (pc' := 86) (L' := [some (.inr (.inr 2)), some (.inl p1), some (.inl p2), some (.inr (.inr 162))]) (S' := []) (fun _ _ => rfl) ?_
        cases h
        exact ev_ret 1 (fun _ _ => rfl)
      rcases ite_or h with ⟨hc3, h⟩ | ⟨hc3, h⟩
      · refine ev_tsw 3 (tgt := 87) (L' := [some (.inr (.inr 2)), some (.inl p1), some (.inl p2), some (.inr (.inr 162))]) (S' := []) (σ' := (SH L0, D)) (fun _ _ => rfl) (fun g => by simp [tsw, hc0, hc1, hc2, hc3]) ?_
        obtain ⟨x12, hx, h⟩ := bnd h
        refine ev_call (e_X4_pageCount_162 L0 d (by omega) hx) 3 (pc' := 92) (L' := [some (.inr (.inr 2)), some (.inl p1), some (.inl p2), some (.inr (.inr 162))]) (S' := [.inr (.inr 2)]) (fun _ _ => rfl) ?_
        obtain ⟨⟨x13, D14⟩, hx, h⟩ := bnd h
        refine ev_call (e_X11_answer L0 d (by omega) hx) 1 (pc' := 95) (L' := [some (.inr (.inr 2)), some (.inl p1), some (.inl p2), some (.inr (.inr 162))]) (S' := []) (fun _ _ => rfl) ?_
        cases h
        exact ev_ret 1 (fun _ _ => rfl)
      rcases ite_or h with ⟨hc4, h⟩ | ⟨hc4, h⟩
      · refine ev_tsw 3 (tgt := 96) (L' := [some (.inr (.inr 2)), some (.inl p1), some (.inl p2), some (.inr (.inr 162))]) (S' := []) (σ' := (SH L0, D)) (fun _ _ => rfl) (fun g => by simp [tsw, hc0, hc1, hc2, hc3, hc4]) ?_
        obtain ⟨⟨x15, D16⟩, hx, h⟩ := bnd h
        refine ev_call (e_X4_touched_162_153 L0 d (by omega) hx) 5 (pc' := 105) (L' := [some (.inr (.inr 2)), some (.inl p1), some (.inl p2), some (.inr (.inr 162))]) (S' := [.inr (.inr 2)]) (fun _ _ => rfl) ?_
        obtain ⟨⟨x17, D18⟩, hx, h⟩ := bnd h
        refine ev_call (e_X11_answer L0 d (by omega) hx) 1 (pc' := 108) (L' := [some (.inr (.inr 2)), some (.inl p1), some (.inl p2), some (.inr (.inr 162))]) (S' := []) (fun _ _ => rfl) ?_
        cases h
        exact ev_ret 1 (fun _ _ => rfl)
      rcases ite_or h with ⟨hc5, h⟩ | ⟨hc5, h⟩
      · refine ev_tsw 3 (tgt := 109) (L' := [some (.inr (.inr 2)), some (.inl p1), some (.inl p2), some (.inr (.inr 162))]) (S' := []) (σ' := (SH L0, D)) (fun _ _ => rfl) (fun g => by simp [tsw, hc0, hc1, hc2, hc3, hc4, hc5]) ?_
        obtain ⟨x19, hx, h⟩ := bnd h
        refine ev_call (e_X4_fallCount_162 L0 d (by omega) hx) 3 (pc' := 114) (L' := [some (.inr (.inr 2)), some (.inl p1), some (.inl p2), some (.inr (.inr 162))]) (S' := [.inr (.inr 2)]) (fun _ _ => rfl) ?_
        obtain ⟨⟨x20, D21⟩, hx, h⟩ := bnd h
        refine ev_call (e_X11_answer L0 d (by omega) hx) 1 (pc' := 117) (L' := [some (.inr (.inr 2)), some (.inl p1), some (.inl p2), some (.inr (.inr 162))]) (S' := []) (fun _ _ => rfl) ?_
        cases h
        exact ev_ret 1 (fun _ _ => rfl)
      refine ev_tsw 3 (tgt := 118) (L' := [some (.inr (.inr 2)), some (.inl p1), some (.inl p2), some (.inr (.inr 162))]) (S' := []) (σ' := (SH L0, D)) (fun _ _ => rfl) (fun g => by simp [tsw, hc0, hc1, hc2, hc3, hc4, hc5]) ?_
      obtain ⟨⟨x22, D23⟩, hx, h⟩ := bnd h
      refine ev_call (e_X11_refuse L0 d (by omega) hx) 3 (pc' := 123) (L' := [some (.inr (.inr 2)), some (.inl p1), some (.inl p2), some (.inr (.inr 162))]) (S' := []) (fun _ _ => rfl) ?_
      cases h
      exact ev_ret 1 (fun _ _ => rfl)
    rcases ite_or h with ⟨hc, h⟩ | ⟨_, h⟩
    · have hx : aref [163, 168, 173, 178, 183] 5 p1 = some 167 := by rw [hc]; rfl
      refine ev_bind hx 4 (pc' := 20) (L' := fun q => [some (.inr (.inr 2)), some (.inl p1), some (.inl p2), none]) (S' := fun q => [.inr (.inr q)]) (σ' := fun q => (SH L0, D)) (fun _ _ => rfl) ?_
      rcases ite_or h with ⟨hc0, h⟩ | ⟨hc0, h⟩
      · refine ev_tsw 3 (tgt := 60) (L' := [some (.inr (.inr 2)), some (.inl p1), some (.inl p2), some (.inr (.inr 167))]) (S' := []) (σ' := (SH L0, D)) (fun _ _ => rfl) (fun g => by simp [tsw, hc0]) ?_
        obtain ⟨x24, hx, h⟩ := bnd h
        refine ev_call (e_X4_allJumps_167 L0 d (by omega) hx) 3 (pc' := 65) (L' := [some (.inr (.inr 2)), some (.inl p1), some (.inl p2), some (.inr (.inr 167))]) (S' := [.inr (.inr 2)]) (fun _ _ => rfl) ?_
        obtain ⟨⟨x25, D26⟩, hx, h⟩ := bnd h
        refine ev_call (e_X11_answer L0 d (by omega) hx) 1 (pc' := 68) (L' := [some (.inr (.inr 2)), some (.inl p1), some (.inl p2), some (.inr (.inr 167))]) (S' := []) (fun _ _ => rfl) ?_
        cases h
        exact ev_ret 1 (fun _ _ => rfl)
      rcases ite_or h with ⟨hc1, h⟩ | ⟨hc1, h⟩
      · refine ev_tsw 3 (tgt := 69) (L' := [some (.inr (.inr 2)), some (.inl p1), some (.inl p2), some (.inr (.inr 167))]) (S' := []) (σ' := (SH L0, D)) (fun _ _ => rfl) (fun g => by simp [tsw, hc0, hc1]) ?_
        obtain ⟨⟨x27, D28⟩, hx, h⟩ := bnd h
        refine ev_call (e_X11_answer L0 d (by omega) hx) 4 (pc' := 77) (L' := [some (.inr (.inr 2)), some (.inl p1), some (.inl p2), some (.inr (.inr 167))]) (S' := []) (fun _ _ => rfl) ?_
        cases h
        exact ev_ret 1 (fun _ _ => rfl)
      rcases ite_or h with ⟨hc2, h⟩ | ⟨hc2, h⟩
      · refine ev_tsw 3 (tgt := 78) (L' := [some (.inr (.inr 2)), some (.inl p1), some (.inl p2), some (.inr (.inr 167))]) (S' := []) (σ' := (SH L0, D)) (fun _ _ => rfl) (fun g => by simp [tsw, hc0, hc1, hc2]) ?_
        obtain ⟨x29, hx, h⟩ := bnd h
        refine ev_call (e_X4_turned_167 L0 d (by omega) hx) 3 (pc' := 83) (L' := [some (.inr (.inr 2)), some (.inl p1), some (.inl p2), some (.inr (.inr 167))]) (S' := [.inr (.inr 2)]) (fun _ _ => rfl) ?_
        obtain ⟨⟨x30, D31⟩, hx, h⟩ := bnd h
        refine ev_call (e_X11_answer L0 d (by omega) hx) 1 (pc' := 86) (L' := [some (.inr (.inr 2)), some (.inl p1), some (.inl p2), some (.inr (.inr 167))]) (S' := []) (fun _ _ => rfl) ?_
        cases h
        exact ev_ret 1 (fun _ _ => rfl)
      rcases ite_or h with ⟨hc3, h⟩ | ⟨hc3, h⟩
      · refine ev_tsw 3 (tgt := 87) (L' := [some (.inr (.inr 2)), some (.inl p1), some (.inl p2), some (.inr (.inr 167))]) (S' := []) (σ' := (SH L0, D)) (fun _ _ => rfl) (fun g => by simp [tsw, hc0, hc1, hc2, hc3]) ?_
        obtain ⟨x32, hx, h⟩ := bnd h
        refine ev_call (e_X4_pageCount_167 L0 d (by omega) hx) 3 (pc' := 92) (L' := [some (.inr (.inr 2)), some (.inl p1), some (.inl p2), some (.inr (.inr 167))]) (S' := [.inr (.inr 2)]) (fun _ _ => rfl) ?_
        obtain ⟨⟨x33, D34⟩, hx, h⟩ := bnd h
        refine ev_call (e_X11_answer L0 d (by omega) hx) 1 (pc' := 95) (L' := [some (.inr (.inr 2)), some (.inl p1), some (.inl p2), some (.inr (.inr 167))]) (S' := []) (fun _ _ => rfl) ?_
        cases h
        exact ev_ret 1 (fun _ _ => rfl)
      rcases ite_or h with ⟨hc4, h⟩ | ⟨hc4, h⟩
      · refine ev_tsw 3 (tgt := 96) (L' := [some (.inr (.inr 2)), some (.inl p1), some (.inl p2), some (.inr (.inr 167))]) (S' := []) (σ' := (SH L0, D)) (fun _ _ => rfl) (fun g => by simp [tsw, hc0, hc1, hc2, hc3, hc4]) ?_
        obtain ⟨⟨x35, D36⟩, hx, h⟩ := bnd h
        refine ev_call (e_X4_touched_167_153 L0 d (by omega) hx) 5 (pc' := 105) (L' := [some (.inr (.inr 2)), some (.inl p1), some (.inl p2), some (.inr (.inr 167))]) (S' := [.inr (.inr 2)]) (fun _ _ => rfl) ?_
        obtain ⟨⟨x37, D38⟩, hx, h⟩ := bnd h
        refine ev_call (e_X11_answer L0 d (by omega) hx) 1 (pc' := 108) (L' := [some (.inr (.inr 2)), some (.inl p1), some (.inl p2), some (.inr (.inr 167))]) (S' := []) (fun _ _ => rfl) ?_
        cases h
        exact ev_ret 1 (fun _ _ => rfl)
      rcases ite_or h with ⟨hc5, h⟩ | ⟨hc5, h⟩
      · refine ev_tsw 3 (tgt := 109) (L' := [some (.inr (.inr 2)), some (.inl p1), some (.inl p2), some (.inr (.inr 167))]) (S' := []) (σ' := (SH L0, D)) (fun _ _ => rfl) (fun g => by simp [tsw, hc0, hc1, hc2, hc3, hc4, hc5]) ?_
        obtain ⟨x39, hx, h⟩ := bnd h
        refine ev_call (e_X4_fallCount_167 L0 d (by omega) hx) 3 (pc' := 114) (L' := [some (.inr (.inr 2)), some (.inl p1), some (.inl p2), some (.inr (.inr 167))]) (S' := [.inr (.inr 2)]) (fun _ _ => rfl) ?_
        obtain ⟨⟨x40, D41⟩, hx, h⟩ := bnd h
        refine ev_call (e_X11_answer L0 d (by omega) hx) 1 (pc' := 117) (L' := [some (.inr (.inr 2)), some (.inl p1), some (.inl p2), some (.inr (.inr 167))]) (S' := []) (fun _ _ => rfl) ?_
        cases h
        exact ev_ret 1 (fun _ _ => rfl)
      refine ev_tsw 3 (tgt := 118) (L' := [some (.inr (.inr 2)), some (.inl p1), some (.inl p2), some (.inr (.inr 167))]) (S' := []) (σ' := (SH L0, D)) (fun _ _ => rfl) (fun g => by simp [tsw, hc0, hc1, hc2, hc3, hc4, hc5]) ?_
      obtain ⟨⟨x42, D43⟩, hx, h⟩ := bnd h
      refine ev_call (e_X11_refuse L0 d (by omega) hx) 3 (pc' := 123) (L' := [some (.inr (.inr 2)), some (.inl p1), some (.inl p2), some (.inr (.inr 167))]) (S' := []) (fun _ _ => rfl) ?_
      cases h
      exact ev_ret 1 (fun _ _ => rfl)
    rcases ite_or h with ⟨hc, h⟩ | ⟨_, h⟩
    · have hx : aref [163, 168, 173, 178, 183] 5 p1 = some 172 := by rw [hc]; rfl
      refine ev_bind hx 4 (pc' := 20) (L' := fun q => [some (.inr (.inr 2)), some (.inl p1), some (.inl p2), none]) (S' := fun q => [.inr (.inr q)]) (σ' := fun q => (SH L0, D)) (fun _ _ => rfl) ?_
      rcases ite_or h with ⟨hc0, h⟩ | ⟨hc0, h⟩
      · refine ev_tsw 3 (tgt := 60) (L' := [some (.inr (.inr 2)), some (.inl p1), some (.inl p2), some (.inr (.inr 172))]) (S' := []) (σ' := (SH L0, D)) (fun _ _ => rfl) (fun g => by simp [tsw, hc0]) ?_
        obtain ⟨x44, hx, h⟩ := bnd h
        refine ev_call (e_X4_allJumps_172 L0 d (by omega) hx) 3 (pc' := 65) (L' := [some (.inr (.inr 2)), some (.inl p1), some (.inl p2), some (.inr (.inr 172))]) (S' := [.inr (.inr 2)]) (fun _ _ => rfl) ?_
        obtain ⟨⟨x45, D46⟩, hx, h⟩ := bnd h
        refine ev_call (e_X11_answer L0 d (by omega) hx) 1 (pc' := 68) (L' := [some (.inr (.inr 2)), some (.inl p1), some (.inl p2), some (.inr (.inr 172))]) (S' := []) (fun _ _ => rfl) ?_
        cases h
        exact ev_ret 1 (fun _ _ => rfl)
      rcases ite_or h with ⟨hc1, h⟩ | ⟨hc1, h⟩
      · refine ev_tsw 3 (tgt := 69) (L' := [some (.inr (.inr 2)), some (.inl p1), some (.inl p2), some (.inr (.inr 172))]) (S' := []) (σ' := (SH L0, D)) (fun _ _ => rfl) (fun g => by simp [tsw, hc0, hc1]) ?_
        obtain ⟨⟨x47, D48⟩, hx, h⟩ := bnd h
        refine ev_call (e_X11_answer L0 d (by omega) hx) 4 (pc' := 77) (L' := [some (.inr (.inr 2)), some (.inl p1), some (.inl p2), some (.inr (.inr 172))]) (S' := []) (fun _ _ => rfl) ?_
        cases h
        exact ev_ret 1 (fun _ _ => rfl)
      rcases ite_or h with ⟨hc2, h⟩ | ⟨hc2, h⟩
      · refine ev_tsw 3 (tgt := 78) (L' := [some (.inr (.inr 2)), some (.inl p1), some (.inl p2), some (.inr (.inr 172))]) (S' := []) (σ' := (SH L0, D)) (fun _ _ => rfl) (fun g => by simp [tsw, hc0, hc1, hc2]) ?_
        obtain ⟨x49, hx, h⟩ := bnd h
        refine ev_call (e_X4_turned_172 L0 d (by omega) hx) 3 (pc' := 83) (L' := [some (.inr (.inr 2)), some (.inl p1), some (.inl p2), some (.inr (.inr 172))]) (S' := [.inr (.inr 2)]) (fun _ _ => rfl) ?_
        obtain ⟨⟨x50, D51⟩, hx, h⟩ := bnd h
        refine ev_call (e_X11_answer L0 d (by omega) hx) 1 (pc' := 86) (L' := [some (.inr (.inr 2)), some (.inl p1), some (.inl p2), some (.inr (.inr 172))]) (S' := []) (fun _ _ => rfl) ?_
        cases h
        exact ev_ret 1 (fun _ _ => rfl)
      rcases ite_or h with ⟨hc3, h⟩ | ⟨hc3, h⟩
      · refine ev_tsw 3 (tgt := 87) (L' := [some (.inr (.inr 2)), some (.inl p1), some (.inl p2), some (.inr (.inr 172))]) (S' := []) (σ' := (SH L0, D)) (fun _ _ => rfl) (fun g => by simp [tsw, hc0, hc1, hc2, hc3]) ?_
        obtain ⟨x52, hx, h⟩ := bnd h
        refine ev_call (e_X4_pageCount_172 L0 d (by omega) hx) 3 (pc' := 92) (L' := [some (.inr (.inr 2)), some (.inl p1), some (.inl p2), some (.inr (.inr 172))]) (S' := [.inr (.inr 2)]) (fun _ _ => rfl) ?_
        obtain ⟨⟨x53, D54⟩, hx, h⟩ := bnd h
        refine ev_call (e_X11_answer L0 d (by omega) hx) 1 (pc' := 95) (L' := [some (.inr (.inr 2)), some (.inl p1), some (.inl p2), some (.inr (.inr 172))]) (S' := []) (fun _ _ => rfl) ?_
        cases h
        exact ev_ret 1 (fun _ _ => rfl)
      rcases ite_or h with ⟨hc4, h⟩ | ⟨hc4, h⟩
      · refine ev_tsw 3 (tgt := 96) (L' := [some (.inr (.inr 2)), some (.inl p1), some (.inl p2), some (.inr (.inr 172))]) (S' := []) (σ' := (SH L0, D)) (fun _ _ => rfl) (fun g => by simp [tsw, hc0, hc1, hc2, hc3, hc4]) ?_
        obtain ⟨⟨x55, D56⟩, hx, h⟩ := bnd h
        refine ev_call (e_X4_touched_172_153 L0 d (by omega) hx) 5 (pc' := 105) (L' := [some (.inr (.inr 2)), some (.inl p1), some (.inl p2), some (.inr (.inr 172))]) (S' := [.inr (.inr 2)]) (fun _ _ => rfl) ?_
        obtain ⟨⟨x57, D58⟩, hx, h⟩ := bnd h
        refine ev_call (e_X11_answer L0 d (by omega) hx) 1 (pc' := 108) (L' := [some (.inr (.inr 2)), some (.inl p1), some (.inl p2), some (.inr (.inr 172))]) (S' := []) (fun _ _ => rfl) ?_
        cases h
        exact ev_ret 1 (fun _ _ => rfl)
      rcases ite_or h with ⟨hc5, h⟩ | ⟨hc5, h⟩
      · refine ev_tsw 3 (tgt := 109) (L' := [some (.inr (.inr 2)), some (.inl p1), some (.inl p2), some (.inr (.inr 172))]) (S' := []) (σ' := (SH L0, D)) (fun _ _ => rfl) (fun g => by simp [tsw, hc0, hc1, hc2, hc3, hc4, hc5]) ?_
        obtain ⟨x59, hx, h⟩ := bnd h
        refine ev_call (e_X4_fallCount_172 L0 d (by omega) hx) 3 (pc' := 114) (L' := [some (.inr (.inr 2)), some (.inl p1), some (.inl p2), some (.inr (.inr 172))]) (S' := [.inr (.inr 2)]) (fun _ _ => rfl) ?_
        obtain ⟨⟨x60, D61⟩, hx, h⟩ := bnd h
        refine ev_call (e_X11_answer L0 d (by omega) hx) 1 (pc' := 117) (L' := [some (.inr (.inr 2)), some (.inl p1), some (.inl p2), some (.inr (.inr 172))]) (S' := []) (fun _ _ => rfl) ?_
        cases h
        exact ev_ret 1 (fun _ _ => rfl)
      refine ev_tsw 3 (tgt := 118) (L' := [some (.inr (.inr 2)), some (.inl p1), some (.inl p2), some (.inr (.inr 172))]) (S' := []) (σ' := (SH L0, D)) (fun _ _ => rfl) (fun g => by simp [tsw, hc0, hc1, hc2, hc3, hc4, hc5]) ?_
      obtain ⟨⟨x62, D63⟩, hx, h⟩ := bnd h
      refine ev_call (e_X11_refuse L0 d (by omega) hx) 3 (pc' := 123) (L' := [some (.inr (.inr 2)), some (.inl p1), some (.inl p2), some (.inr (.inr 172))]) (S' := []) (fun _ _ => rfl) ?_
      cases h
      exact ev_ret 1 (fun _ _ => rfl)
    rcases ite_or h with ⟨hc, h⟩ | ⟨_, h⟩
    · have hx : aref [163, 168, 173, 178, 183] 5 p1 = some 177 := by rw [hc]; rfl
      refine ev_bind hx 4 (pc' := 20) (L' := fun q => [some (.inr (.inr 2)), some (.inl p1), some (.inl p2), none]) (S' := fun q => [.inr (.inr q)]) (σ' := fun q => (SH L0, D)) (fun _ _ => rfl) ?_
      rcases ite_or h with ⟨hc0, h⟩ | ⟨hc0, h⟩
      · refine ev_tsw 3 (tgt := 60) (L' := [some (.inr (.inr 2)), some (.inl p1), some (.inl p2), some (.inr (.inr 177))]) (S' := []) (σ' := (SH L0, D)) (fun _ _ => rfl) (fun g => by simp [tsw, hc0]) ?_
        obtain ⟨x64, hx, h⟩ := bnd h
        refine ev_call (e_X4_allJumps_177 L0 d (by omega) hx) 3 (pc' := 65) (L' := [some (.inr (.inr 2)), some (.inl p1), some (.inl p2), some (.inr (.inr 177))]) (S' := [.inr (.inr 2)]) (fun _ _ => rfl) ?_
        obtain ⟨⟨x65, D66⟩, hx, h⟩ := bnd h
        refine ev_call (e_X11_answer L0 d (by omega) hx) 1 (pc' := 68) (L' := [some (.inr (.inr 2)), some (.inl p1), some (.inl p2), some (.inr (.inr 177))]) (S' := []) (fun _ _ => rfl) ?_
        cases h
        exact ev_ret 1 (fun _ _ => rfl)
      rcases ite_or h with ⟨hc1, h⟩ | ⟨hc1, h⟩
      · refine ev_tsw 3 (tgt := 69) (L' := [some (.inr (.inr 2)), some (.inl p1), some (.inl p2), some (.inr (.inr 177))]) (S' := []) (σ' := (SH L0, D)) (fun _ _ => rfl) (fun g => by simp [tsw, hc0, hc1]) ?_
        obtain ⟨⟨x67, D68⟩, hx, h⟩ := bnd h
        refine ev_call (e_X11_answer L0 d (by omega) hx) 4 (pc' := 77) (L' := [some (.inr (.inr 2)), some (.inl p1), some (.inl p2), some (.inr (.inr 177))]) (S' := []) (fun _ _ => rfl) ?_
        cases h
        exact ev_ret 1 (fun _ _ => rfl)
      rcases ite_or h with ⟨hc2, h⟩ | ⟨hc2, h⟩
      · refine ev_tsw 3 (tgt := 78) (L' := [some (.inr (.inr 2)), some (.inl p1), some (.inl p2), some (.inr (.inr 177))]) (S' := []) (σ' := (SH L0, D)) (fun _ _ => rfl) (fun g => by simp [tsw, hc0, hc1, hc2]) ?_
        obtain ⟨x69, hx, h⟩ := bnd h
        refine ev_call (e_X4_turned_177 L0 d (by omega) hx) 3 (pc' := 83) (L' := [some (.inr (.inr 2)), some (.inl p1), some (.inl p2), some (.inr (.inr 177))]) (S' := [.inr (.inr 2)]) (fun _ _ => rfl) ?_
        obtain ⟨⟨x70, D71⟩, hx, h⟩ := bnd h
        refine ev_call (e_X11_answer L0 d (by omega) hx) 1 (pc' := 86) (L' := [some (.inr (.inr 2)), some (.inl p1), some (.inl p2), some (.inr (.inr 177))]) (S' := []) (fun _ _ => rfl) ?_
        cases h
        exact ev_ret 1 (fun _ _ => rfl)
      rcases ite_or h with ⟨hc3, h⟩ | ⟨hc3, h⟩
      · refine ev_tsw 3 (tgt := 87) (L' := [some (.inr (.inr 2)), some (.inl p1), some (.inl p2), some (.inr (.inr 177))]) (S' := []) (σ' := (SH L0, D)) (fun _ _ => rfl) (fun g => by simp [tsw, hc0, hc1, hc2, hc3]) ?_
        obtain ⟨x72, hx, h⟩ := bnd h
        refine ev_call (e_X4_pageCount_177 L0 d (by omega) hx) 3 (pc' := 92) (L' := [some (.inr (.inr 2)), some (.inl p1), some (.inl p2), some (.inr (.inr 177))]) (S' := [.inr (.inr 2)]) (fun _ _ => rfl) ?_
        obtain ⟨⟨x73, D74⟩, hx, h⟩ := bnd h
        refine ev_call (e_X11_answer L0 d (by omega) hx) 1 (pc' := 95) (L' := [some (.inr (.inr 2)), some (.inl p1), some (.inl p2), some (.inr (.inr 177))]) (S' := []) (fun _ _ => rfl) ?_
        cases h
        exact ev_ret 1 (fun _ _ => rfl)
      rcases ite_or h with ⟨hc4, h⟩ | ⟨hc4, h⟩
      · refine ev_tsw 3 (tgt := 96) (L' := [some (.inr (.inr 2)), some (.inl p1), some (.inl p2), some (.inr (.inr 177))]) (S' := []) (σ' := (SH L0, D)) (fun _ _ => rfl) (fun g => by simp [tsw, hc0, hc1, hc2, hc3, hc4]) ?_
        obtain ⟨⟨x75, D76⟩, hx, h⟩ := bnd h
        refine ev_call (e_X4_touched_177_153 L0 d (by omega) hx) 5 (pc' := 105) (L' := [some (.inr (.inr 2)), some (.inl p1), some (.inl p2), some (.inr (.inr 177))]) (S' := [.inr (.inr 2)]) (fun _ _ => rfl) ?_
        obtain ⟨⟨x77, D78⟩, hx, h⟩ := bnd h
        refine ev_call (e_X11_answer L0 d (by omega) hx) 1 (pc' := 108) (L' := [some (.inr (.inr 2)), some (.inl p1), some (.inl p2), some (.inr (.inr 177))]) (S' := []) (fun _ _ => rfl) ?_
        cases h
        exact ev_ret 1 (fun _ _ => rfl)
      rcases ite_or h with ⟨hc5, h⟩ | ⟨hc5, h⟩
      · refine ev_tsw 3 (tgt := 109) (L' := [some (.inr (.inr 2)), some (.inl p1), some (.inl p2), some (.inr (.inr 177))]) (S' := []) (σ' := (SH L0, D)) (fun _ _ => rfl) (fun g => by simp [tsw, hc0, hc1, hc2, hc3, hc4, hc5]) ?_
        obtain ⟨x79, hx, h⟩ := bnd h
        refine ev_call (e_X4_fallCount_177 L0 d (by omega) hx) 3 (pc' := 114) (L' := [some (.inr (.inr 2)), some (.inl p1), some (.inl p2), some (.inr (.inr 177))]) (S' := [.inr (.inr 2)]) (fun _ _ => rfl) ?_
        obtain ⟨⟨x80, D81⟩, hx, h⟩ := bnd h
        refine ev_call (e_X11_answer L0 d (by omega) hx) 1 (pc' := 117) (L' := [some (.inr (.inr 2)), some (.inl p1), some (.inl p2), some (.inr (.inr 177))]) (S' := []) (fun _ _ => rfl) ?_
        cases h
        exact ev_ret 1 (fun _ _ => rfl)
      refine ev_tsw 3 (tgt := 118) (L' := [some (.inr (.inr 2)), some (.inl p1), some (.inl p2), some (.inr (.inr 177))]) (S' := []) (σ' := (SH L0, D)) (fun _ _ => rfl) (fun g => by simp [tsw, hc0, hc1, hc2, hc3, hc4, hc5]) ?_
      obtain ⟨⟨x82, D83⟩, hx, h⟩ := bnd h
      refine ev_call (e_X11_refuse L0 d (by omega) hx) 3 (pc' := 123) (L' := [some (.inr (.inr 2)), some (.inl p1), some (.inl p2), some (.inr (.inr 177))]) (S' := []) (fun _ _ => rfl) ?_
      cases h
      exact ev_ret 1 (fun _ _ => rfl)
    rcases ite_or h with ⟨hc, h⟩ | ⟨_, h⟩
    · have hx : aref [163, 168, 173, 178, 183] 5 p1 = some 182 := by rw [hc]; rfl
      refine ev_bind hx 4 (pc' := 20) (L' := fun q => [some (.inr (.inr 2)), some (.inl p1), some (.inl p2), none]) (S' := fun q => [.inr (.inr q)]) (σ' := fun q => (SH L0, D)) (fun _ _ => rfl) ?_
      rcases ite_or h with ⟨hc0, h⟩ | ⟨hc0, h⟩
      · refine ev_tsw 3 (tgt := 60) (L' := [some (.inr (.inr 2)), some (.inl p1), some (.inl p2), some (.inr (.inr 182))]) (S' := []) (σ' := (SH L0, D)) (fun _ _ => rfl) (fun g => by simp [tsw, hc0]) ?_
        obtain ⟨x84, hx, h⟩ := bnd h
        refine ev_call (e_X4_allJumps_182 L0 d (by omega) hx) 3 (pc' := 65) (L' := [some (.inr (.inr 2)), some (.inl p1), some (.inl p2), some (.inr (.inr 182))]) (S' := [.inr (.inr 2)]) (fun _ _ => rfl) ?_
        obtain ⟨⟨x85, D86⟩, hx, h⟩ := bnd h
        refine ev_call (e_X11_answer L0 d (by omega) hx) 1 (pc' := 68) (L' := [some (.inr (.inr 2)), some (.inl p1), some (.inl p2), some (.inr (.inr 182))]) (S' := []) (fun _ _ => rfl) ?_
        cases h
        exact ev_ret 1 (fun _ _ => rfl)
      rcases ite_or h with ⟨hc1, h⟩ | ⟨hc1, h⟩
      · refine ev_tsw 3 (tgt := 69) (L' := [some (.inr (.inr 2)), some (.inl p1), some (.inl p2), some (.inr (.inr 182))]) (S' := []) (σ' := (SH L0, D)) (fun _ _ => rfl) (fun g => by simp [tsw, hc0, hc1]) ?_
        obtain ⟨⟨x87, D88⟩, hx, h⟩ := bnd h
        refine ev_call (e_X11_answer L0 d (by omega) hx) 4 (pc' := 77) (L' := [some (.inr (.inr 2)), some (.inl p1), some (.inl p2), some (.inr (.inr 182))]) (S' := []) (fun _ _ => rfl) ?_
        cases h
        exact ev_ret 1 (fun _ _ => rfl)
      rcases ite_or h with ⟨hc2, h⟩ | ⟨hc2, h⟩
      · refine ev_tsw 3 (tgt := 78) (L' := [some (.inr (.inr 2)), some (.inl p1), some (.inl p2), some (.inr (.inr 182))]) (S' := []) (σ' := (SH L0, D)) (fun _ _ => rfl) (fun g => by simp [tsw, hc0, hc1, hc2]) ?_
        obtain ⟨x89, hx, h⟩ := bnd h
        refine ev_call (e_X4_turned_182 L0 d (by omega) hx) 3 (pc' := 83) (L' := [some (.inr (.inr 2)), some (.inl p1), some (.inl p2), some (.inr (.inr 182))]) (S' := [.inr (.inr 2)]) (fun _ _ => rfl) ?_
        obtain ⟨⟨x90, D91⟩, hx, h⟩ := bnd h
        refine ev_call (e_X11_answer L0 d (by omega) hx) 1 (pc' := 86) (L' := [some (.inr (.inr 2)), some (.inl p1), some (.inl p2), some (.inr (.inr 182))]) (S' := []) (fun _ _ => rfl) ?_
        cases h
        exact ev_ret 1 (fun _ _ => rfl)
      rcases ite_or h with ⟨hc3, h⟩ | ⟨hc3, h⟩
      · refine ev_tsw 3 (tgt := 87) (L' := [some (.inr (.inr 2)), some (.inl p1), some (.inl p2), some (.inr (.inr 182))]) (S' := []) (σ' := (SH L0, D)) (fun _ _ => rfl) (fun g => by simp [tsw, hc0, hc1, hc2, hc3]) ?_
        obtain ⟨x92, hx, h⟩ := bnd h
        refine ev_call (e_X4_pageCount_182 L0 d (by omega) hx) 3 (pc' := 92) (L' := [some (.inr (.inr 2)), some (.inl p1), some (.inl p2), some (.inr (.inr 182))]) (S' := [.inr (.inr 2)]) (fun _ _ => rfl) ?_
        obtain ⟨⟨x93, D94⟩, hx, h⟩ := bnd h
        refine ev_call (e_X11_answer L0 d (by omega) hx) 1 (pc' := 95) (L' := [some (.inr (.inr 2)), some (.inl p1), some (.inl p2), some (.inr (.inr 182))]) (S' := []) (fun _ _ => rfl) ?_
        cases h
        exact ev_ret 1 (fun _ _ => rfl)
      rcases ite_or h with ⟨hc4, h⟩ | ⟨hc4, h⟩
      · refine ev_tsw 3 (tgt := 96) (L' := [some (.inr (.inr 2)), some (.inl p1), some (.inl p2), some (.inr (.inr 182))]) (S' := []) (σ' := (SH L0, D)) (fun _ _ => rfl) (fun g => by simp [tsw, hc0, hc1, hc2, hc3, hc4]) ?_
        obtain ⟨⟨x95, D96⟩, hx, h⟩ := bnd h
        refine ev_call (e_X4_touched_182_153 L0 d (by omega) hx) 5 (pc' := 105) (L' := [some (.inr (.inr 2)), some (.inl p1), some (.inl p2), some (.inr (.inr 182))]) (S' := [.inr (.inr 2)]) (fun _ _ => rfl) ?_
        obtain ⟨⟨x97, D98⟩, hx, h⟩ := bnd h
        refine ev_call (e_X11_answer L0 d (by omega) hx) 1 (pc' := 108) (L' := [some (.inr (.inr 2)), some (.inl p1), some (.inl p2), some (.inr (.inr 182))]) (S' := []) (fun _ _ => rfl) ?_
        cases h
        exact ev_ret 1 (fun _ _ => rfl)
      rcases ite_or h with ⟨hc5, h⟩ | ⟨hc5, h⟩
      · refine ev_tsw 3 (tgt := 109) (L' := [some (.inr (.inr 2)), some (.inl p1), some (.inl p2), some (.inr (.inr 182))]) (S' := []) (σ' := (SH L0, D)) (fun _ _ => rfl) (fun g => by simp [tsw, hc0, hc1, hc2, hc3, hc4, hc5]) ?_
        obtain ⟨x99, hx, h⟩ := bnd h
        refine ev_call (e_X4_fallCount_182 L0 d (by omega) hx) 3 (pc' := 114) (L' := [some (.inr (.inr 2)), some (.inl p1), some (.inl p2), some (.inr (.inr 182))]) (S' := [.inr (.inr 2)]) (fun _ _ => rfl) ?_
        obtain ⟨⟨x100, D101⟩, hx, h⟩ := bnd h
        refine ev_call (e_X11_answer L0 d (by omega) hx) 1 (pc' := 117) (L' := [some (.inr (.inr 2)), some (.inl p1), some (.inl p2), some (.inr (.inr 182))]) (S' := []) (fun _ _ => rfl) ?_
        cases h
        exact ev_ret 1 (fun _ _ => rfl)
      refine ev_tsw 3 (tgt := 118) (L' := [some (.inr (.inr 2)), some (.inl p1), some (.inl p2), some (.inr (.inr 182))]) (S' := []) (σ' := (SH L0, D)) (fun _ _ => rfl) (fun g => by simp [tsw, hc0, hc1, hc2, hc3, hc4, hc5]) ?_
      obtain ⟨⟨x102, D103⟩, hx, h⟩ := bnd h
      refine ev_call (e_X11_refuse L0 d (by omega) hx) 3 (pc' := 123) (L' := [some (.inr (.inr 2)), some (.inl p1), some (.inl p2), some (.inr (.inr 182))]) (S' := []) (fun _ _ => rfl) ?_
      cases h
      exact ev_ret 1 (fun _ _ => rfl)
    cases h
set_option maxRecDepth 100000 in
set_option maxHeartbeats 4000000 in
theorem e_X11_jumps (L0 d : Nat) (hd : 5 ≤ d) {p1 p2 : Int} {D : DT} {t0 : (Int × DT)} (h : m_X11_jumps p1 p2 D = some t0) : Ret mtab d 140 [.inr (.inr 2), .inl p1, .inl p2] (SH L0, D) (some (.inl t0.1), (SH L0, t0.2)) := by
  obtain ⟨d, rfl⟩ : ∃ e, d = e + 1 := ⟨d - 1, by omega⟩
  refine Ret.of (code := k_X11_jumps) (ml := 3) rfl ?_
  show EvF mtab d k_X11_jumps 0 [some (.inr (.inr 2)), some (.inl p1), some (.inl p2)] [] (SH L0, D) (some (.inl t0.1), (SH L0, t0.2))
  unfold m_X11_jumps at h
  obtain ⟨x1, hx, h⟩ := bnd h
  refine ev_call (e_X11_isOrder L0 d (by omega) hx) 3 (pc' := 5) (L' := [some (.inr (.inr 2)), some (.inl p1), some (.inl p2)]) (S' := []) (fun _ _ => rfl) ?_
  rcases ite_or h with ⟨hc, h⟩ | ⟨hc, h⟩
  · refine ev_ift hc 1 (pc' := 8) (L' := [some (.inr (.inr 2)), some (.inl p1), some (.inl p2)]) (S' := []) (σ' := (SH L0, D)) (fun _ _ => rfl) ?_
    obtain ⟨⟨x2, D3⟩, hx, h⟩ := bnd h
    refine ev_call (e_X11_refuse L0 d (by omega) hx) 3 (pc' := 13) (L' := [some (.inr (.inr 2)), some (.inl p1), some (.inl p2)]) (S' := []) (fun _ _ => rfl) ?_
    cases h
    exact ev_ret 1 (fun _ _ => rfl)
  · refine ev_iff hc 1 (pc' := 14) (L' := [some (.inr (.inr 2)), some (.inl p1), some (.inl p2)]) (S' := []) (σ' := (SH L0, D)) (fun _ _ => rfl) ?_
    obtain ⟨x4, hx, h⟩ := bnd h
    refine ev_call (e_X11_isFunction L0 d (by omega) hx) 3 (pc' := 19) (L' := [some (.inr (.inr 2)), some (.inl p1), some (.inl p2)]) (S' := []) (fun _ _ => rfl) ?_
    rcases ite_or h with ⟨hc, h⟩ | ⟨hc, h⟩
    · refine ev_ift hc 1 (pc' := 22) (L' := [some (.inr (.inr 2)), some (.inl p1), some (.inl p2)]) (S' := []) (σ' := (SH L0, D)) (fun _ _ => rfl) ?_
      obtain ⟨⟨x5, D6⟩, hx, h⟩ := bnd h
      refine ev_call (e_X11_refuse L0 d (by omega) hx) 3 (pc' := 27) (L' := [some (.inr (.inr 2)), some (.inl p1), some (.inl p2)]) (S' := []) (fun _ _ => rfl) ?_
      cases h
      exact ev_ret 1 (fun _ _ => rfl)
    · refine ev_iff hc 1 (pc' := 28) (L' := [some (.inr (.inr 2)), some (.inl p1), some (.inl p2)]) (S' := []) (σ' := (SH L0, D)) (fun _ _ => rfl) ?_
      rcases ite_or h with ⟨hc, h⟩ | ⟨_, h⟩
      · have hx : aref [163, 168, 173, 178, 183] 5 p1 = some 162 := by rw [hc]; rfl
        refine ev_bind hx 5 (pc' := 35) (L' := fun q => [some (.inr (.inr 2)), some (.inl p1), some (.inl p2)]) (S' := fun q => [.inr (.inr q), .inr (.inr 2)]) (σ' := fun q => (SH L0, D)) (fun _ _ => rfl) ?_
        obtain ⟨x7, hx, h⟩ := bnd h
        refine ev_call (e_X4_jumpsOf_162 L0 d (by omega) hx) 2 (pc' := 39) (L' := [some (.inr (.inr 2)), some (.inl p1), some (.inl p2)]) (S' := [.inr (.inr 2)]) (fun _ _ => rfl) ?_
        obtain ⟨⟨x8, D9⟩, hx, h⟩ := bnd h
        refine ev_call (e_X11_answer L0 d (by omega) hx) 1 (pc' := 42) (L' := [some (.inr (.inr 2)), some (.inl p1), some (.inl p2)]) (S' := []) (fun _ _ => rfl) ?_
        cases h
        exact ev_ret 1 (fun _ _ => rfl)
      rcases ite_or h with ⟨hc, h⟩ | ⟨_, h⟩
      · have hx : aref [163, 168, 173, 178, 183] 5 p1 = some 167 := by rw [hc]; rfl
        refine ev_bind hx 5 (pc' := 35) (L' := fun q => [some (.inr (.inr 2)), some (.inl p1), some (.inl p2)]) (S' := fun q => [.inr (.inr q), .inr (.inr 2)]) (σ' := fun q => (SH L0, D)) (fun _ _ => rfl) ?_
        obtain ⟨x10, hx, h⟩ := bnd h
        refine ev_call (e_X4_jumpsOf_167 L0 d (by omega) hx) 2 (pc' := 39) (L' := [some (.inr (.inr 2)), some (.inl p1), some (.inl p2)]) (S' := [.inr (.inr 2)]) (fun _ _ => rfl) ?_
        obtain ⟨⟨x11, D12⟩, hx, h⟩ := bnd h
        refine ev_call (e_X11_answer L0 d (by omega) hx) 1 (pc' := 42) (L' := [some (.inr (.inr 2)), some (.inl p1), some (.inl p2)]) (S' := []) (fun _ _ => rfl) ?_
        cases h
        exact ev_ret 1 (fun _ _ => rfl)
      rcases ite_or h with ⟨hc, h⟩ | ⟨_, h⟩
      · have hx : aref [163, 168, 173, 178, 183] 5 p1 = some 172 := by rw [hc]; rfl
        refine ev_bind hx 5 (pc' := 35) (L' := fun q => [some (.inr (.inr 2)), some (.inl p1), some (.inl p2)]) (S' := fun q => [.inr (.inr q), .inr (.inr 2)]) (σ' := fun q => (SH L0, D)) (fun _ _ => rfl) ?_
        obtain ⟨x13, hx, h⟩ := bnd h
        refine ev_call (e_X4_jumpsOf_172 L0 d (by omega) hx) 2 (pc' := 39) (L' := [some (.inr (.inr 2)), some (.inl p1), some (.inl p2)]) (S' := [.inr (.inr 2)]) (fun _ _ => rfl) ?_
        obtain ⟨⟨x14, D15⟩, hx, h⟩ := bnd h
        refine ev_call (e_X11_answer L0 d (by omega) hx) 1 (pc' := 42) (L' := [some (.inr (.inr 2)), some (.inl p1), some (.inl p2)]) (S' := []) (fun _ _ => rfl) ?_
        cases h
        exact ev_ret 1 (fun _ _ => rfl)
      rcases ite_or h with ⟨hc, h⟩ | ⟨_, h⟩
      · have hx : aref [163, 168, 173, 178, 183] 5 p1 = some 177 := by rw [hc]; rfl
        refine ev_bind hx 5 (pc' := 35) (L' := fun q => [some (.inr (.inr 2)), some (.inl p1), some (.inl p2)]) (S' := fun q => [.inr (.inr q), .inr (.inr 2)]) (σ' := fun q => (SH L0, D)) (fun _ _ => rfl) ?_
        obtain ⟨x16, hx, h⟩ := bnd h
        refine ev_call (e_X4_jumpsOf_177 L0 d (by omega) hx) 2 (pc' := 39) (L' := [some (.inr (.inr 2)), some (.inl p1), some (.inl p2)]) (S' := [.inr (.inr 2)]) (fun _ _ => rfl) ?_
        obtain ⟨⟨x17, D18⟩, hx, h⟩ := bnd h
        refine ev_call (e_X11_answer L0 d (by omega) hx) 1 (pc' := 42) (L' := [some (.inr (.inr 2)), some (.inl p1), some (.inl p2)]) (S' := []) (fun _ _ => rfl) ?_
        cases h
        exact ev_ret 1 (fun _ _ => rfl)
      rcases ite_or h with ⟨hc, h⟩ | ⟨_, h⟩
      · have hx : aref [163, 168, 173, 178, 183] 5 p1 = some 182 := by rw [hc]; rfl
        refine ev_bind hx 5 (pc' := 35) (L' := fun q => [some (.inr (.inr 2)), some (.inl p1), some (.inl p2)]) (S' := fun q => [.inr (.inr q), .inr (.inr 2)]) (σ' := fun q => (SH L0, D)) (fun _ _ => rfl) ?_
        obtain ⟨x19, hx, h⟩ := bnd h
        refine ev_call (e_X4_jumpsOf_182 L0 d (by omega) hx) 2 (pc' := 39) (L' := [some (.inr (.inr 2)), some (.inl p1), some (.inl p2)]) (S' := [.inr (.inr 2)]) (fun _ _ => rfl) ?_
        obtain ⟨⟨x20, D21⟩, hx, h⟩ := bnd h
        refine ev_call (e_X11_answer L0 d (by omega) hx) 1 (pc' := 42) (L' := [some (.inr (.inr 2)), some (.inl p1), some (.inl p2)]) (S' := []) (fun _ _ => rfl) ?_
        cases h
        exact ev_ret 1 (fun _ _ => rfl)
      cases h
set_option maxRecDepth 100000 in
set_option maxHeartbeats 4000000 in
theorem e_X11_least (L0 d : Nat) (hd : 5 ≤ d) {p1 : Int} {D : DT} {t0 : (Int × DT)} (h : m_X11_least p1 D = some t0) : Ret mtab d 141 [.inr (.inr 2), .inl p1] (SH L0, D) (some (.inl t0.1), (SH L0, t0.2)) := by
  obtain ⟨d, rfl⟩ : ∃ e, d = e + 1 := ⟨d - 1, by omega⟩
  refine Ret.of (code := k_X11_least) (ml := 2) rfl ?_
  show EvF mtab d k_X11_least 0 [some (.inr (.inr 2)), some (.inl p1)] [] (SH L0, D) (some (.inl t0.1), (SH L0, t0.2))
  unfold m_X11_least at h
  obtain ⟨x1, hx, h⟩ := bnd h
  refine ev_call (e_X11_isFunction L0 d (by omega) hx) 3 (pc' := 5) (L' := [some (.inr (.inr 2)), some (.inl p1)]) (S' := []) (fun _ _ => rfl) ?_
  rcases ite_or h with ⟨hc, h⟩ | ⟨hc, h⟩
  · refine ev_ift hc 1 (pc' := 8) (L' := [some (.inr (.inr 2)), some (.inl p1)]) (S' := []) (σ' := (SH L0, D)) (fun _ _ => rfl) ?_
    obtain ⟨⟨x2, D3⟩, hx, h⟩ := bnd h
    refine ev_call (e_X11_refuse L0 d (by omega) hx) 3 (pc' := 13) (L' := [some (.inr (.inr 2)), some (.inl p1)]) (S' := []) (fun _ _ => rfl) ?_
    cases h
    exact ev_ret 1 (fun _ _ => rfl)
  · refine ev_iff hc 1 (pc' := 14) (L' := [some (.inr (.inr 2)), some (.inl p1)]) (S' := []) (σ' := (SH L0, D)) (fun _ _ => rfl) ?_
    obtain ⟨x4, hx, h⟩ := bnd h
    refine ev_bind hx 5 (pc' := 23) (L' := fun x4 => [some (.inr (.inr 2)), some (.inl p1)]) (S' := fun x4 => [.inl x4]) (σ' := fun x4 => (SH L0, D)) (fun _ _ => rfl) ?_
    rcases ite_or h with ⟨hc, h⟩ | ⟨hc, h⟩
    · refine ev_ift hc 2 (pc' := 28) (L' := [some (.inr (.inr 2)), some (.inl p1)]) (S' := []) (σ' := (SH L0, D)) (fun _ _ => rfl) ?_
      obtain ⟨⟨x5, D6⟩, hx, h⟩ := bnd h
      refine ev_call (e_X11_refuse L0 d (by omega) hx) 3 (pc' := 33) (L' := [some (.inr (.inr 2)), some (.inl p1)]) (S' := []) (fun _ _ => rfl) ?_
      cases h
      exact ev_ret 1 (fun _ _ => rfl)
    · refine ev_iff hc 2 (pc' := 34) (L' := [some (.inr (.inr 2)), some (.inl p1)]) (S' := []) (σ' := (SH L0, D)) (fun _ _ => rfl) ?_
      obtain ⟨⟨x7, D8⟩, hx, h⟩ := bnd h
      refine ev_call (e_X6_leastJumps L0 d (by omega) hx) 5 (pc' := 43) (L' := [some (.inr (.inr 2)), some (.inl p1)]) (S' := [.inr (.inr 2)]) (fun _ _ => rfl) ?_
      obtain ⟨⟨x9, D10⟩, hx, h⟩ := bnd h
      refine ev_call (e_X11_answer L0 d (by omega) hx) 1 (pc' := 46) (L' := [some (.inr (.inr 2)), some (.inl p1)]) (S' := []) (fun _ _ => rfl) ?_
      cases h
      exact ev_ret 1 (fun _ _ => rfl)
set_option maxRecDepth 100000 in
set_option maxHeartbeats 4000000 in
theorem e_X11_run (L0 d : Nat) (hd : 6 ≤ d) {p1 p2 p3 p4 p5 : Int} {D : DT} {t0 : (Int × DT)} (h : m_X11_run p1 p2 p3 p4 p5 D = some t0) : Ret mtab d 142 [.inr (.inr 2), .inl p1, .inl p2, .inl p3, .inl p4, .inl p5] (SH L0, D) (some (.inl t0.1), (SH L0, t0.2)) := by
  obtain ⟨d, rfl⟩ : ∃ e, d = e + 1 := ⟨d - 1, by omega⟩
  refine Ret.of (code := k_X11_run) (ml := 7) rfl ?_
  show EvF mtab d k_X11_run 0 [some (.inr (.inr 2)), some (.inl p1), some (.inl p2), some (.inl p3), some (.inl p4), some (.inl p5), none] [] (SH L0, D) (some (.inl t0.1), (SH L0, t0.2))
  unfold m_X11_run at h
  obtain ⟨t1, hv, h⟩ := bnd h
  have hJ : EvF mtab d k_X11_run 30 [some (.inr (.inr 2)), some (.inl p1), some (.inl p2), some (.inl p3), some (.inl p4), some (.inl p5), none] [.inl t1] (SH L0, D) (some (.inl t0.1), (SH L0, t0.2)) := by
    obtain ⟨x2, hx, h⟩ := bnd h
    refine ev_call (e_X11_isOrder L0 d (by omega) hx) 4 (pc' := 37) (L' := [some (.inr (.inr 2)), some (.inl p1), some (.inl p2), some (.inl p3), some (.inl p4), some (.inl p5), some (.inl t1)]) (S' := []) (fun _ _ => rfl) ?_
    rcases ite_or h with ⟨hc, h⟩ | ⟨hc, h⟩
    · refine ev_ift hc 1 (pc' := 56) (L' := [some (.inr (.inr 2)), some (.inl p1), some (.inl p2), some (.inl p3), some (.inl p4), some (.inl p5), some (.inl t1)]) (S' := []) (σ' := (SH L0, D)) (fun _ _ => rfl) ?_
      obtain ⟨⟨x3, D4⟩, hx, h⟩ := bnd h
      refine ev_call (e_X11_refuse L0 d (by omega) hx) 3 (pc' := 61) (L' := [some (.inr (.inr 2)), some (.inl p1), some (.inl p2), some (.inl p3), some (.inl p4), some (.inl p5), some (.inl t1)]) (S' := []) (fun _ _ => rfl) ?_
      cases h
      exact ev_ret 1 (fun _ _ => rfl)
    · refine ev_iff hc 1 (pc' := 40) (L' := [some (.inr (.inr 2)), some (.inl p1), some (.inl p2), some (.inl p3), some (.inl p4), some (.inl p5), some (.inl t1)]) (S' := []) (σ' := (SH L0, D)) (fun _ _ => rfl) ?_
      rcases ite_or h with ⟨hc, h⟩ | ⟨hc, h⟩
      · refine ev_ift hc 2 (pc' := 56) (L' := [some (.inr (.inr 2)), some (.inl p1), some (.inl p2), some (.inl p3), some (.inl p4), some (.inl p5), some (.inl t1)]) (S' := []) (σ' := (SH L0, D)) (fun _ _ => rfl) ?_
        obtain ⟨⟨x5, D6⟩, hx, h⟩ := bnd h
        refine ev_call (e_X11_refuse L0 d (by omega) hx) 3 (pc' := 61) (L' := [some (.inr (.inr 2)), some (.inl p1), some (.inl p2), some (.inl p3), some (.inl p4), some (.inl p5), some (.inl t1)]) (S' := []) (fun _ _ => rfl) ?_
        cases h
        exact ev_ret 1 (fun _ _ => rfl)
      · refine ev_iff hc 2 (pc' := 45) (L' := [some (.inr (.inr 2)), some (.inl p1), some (.inl p2), some (.inl p3), some (.inl p4), some (.inl p5), some (.inl t1)]) (S' := []) (σ' := (SH L0, D)) (fun _ _ => rfl) ?_
        rcases ite_or h with ⟨hc, h⟩ | ⟨hc, h⟩
        · refine ev_ift hc 2 (pc' := 56) (L' := [some (.inr (.inr 2)), some (.inl p1), some (.inl p2), some (.inl p3), some (.inl p4), some (.inl p5), some (.inl t1)]) (S' := []) (σ' := (SH L0, D)) (fun _ _ => rfl) ?_
          obtain ⟨⟨x7, D8⟩, hx, h⟩ := bnd h
          refine ev_call (e_X11_refuse L0 d (by omega) hx) 3 (pc' := 61) (L' := [some (.inr (.inr 2)), some (.inl p1), some (.inl p2), some (.inl p3), some (.inl p4), some (.inl p5), some (.inl t1)]) (S' := []) (fun _ _ => rfl) ?_
          cases h
          exact ev_ret 1 (fun _ _ => rfl)
        · refine ev_iff hc 2 (pc' := 50) (L' := [some (.inr (.inr 2)), some (.inl p1), some (.inl p2), some (.inl p3), some (.inl p4), some (.inl p5), some (.inl t1)]) (S' := []) (σ' := (SH L0, D)) (fun _ _ => rfl) ?_
          rcases ite_or h with ⟨hc, h⟩ | ⟨hc, h⟩
          · refine ev_ift hc 3 (pc' := 56) (L' := [some (.inr (.inr 2)), some (.inl p1), some (.inl p2), some (.inl p3), some (.inl p4), some (.inl p5), some (.inl t1)]) (S' := []) (σ' := (SH L0, D)) (fun _ _ => rfl) ?_
            obtain ⟨⟨x9, D10⟩, hx, h⟩ := bnd h
            refine ev_call (e_X11_refuse L0 d (by omega) hx) 3 (pc' := 61) (L' := [some (.inr (.inr 2)), some (.inl p1), some (.inl p2), some (.inl p3), some (.inl p4), some (.inl p5), some (.inl t1)]) (S' := []) (fun _ _ => rfl) ?_
            cases h
            exact ev_ret 1 (fun _ _ => rfl)
          · refine ev_iff hc 3 (pc' := 62) (L' := [some (.inr (.inr 2)), some (.inl p1), some (.inl p2), some (.inl p3), some (.inl p4), some (.inl p5), some (.inl t1)]) (S' := []) (σ' := (SH L0, D)) (fun _ _ => rfl) ?_
            obtain ⟨x11, hx, h⟩ := bnd h
            refine ev_call (e_X11_isFunction L0 d (by omega) hx) 3 (pc' := 67) (L' := [some (.inr (.inr 2)), some (.inl p1), some (.inl p2), some (.inl p3), some (.inl p4), some (.inl p5), some (.inl t1)]) (S' := []) (fun _ _ => rfl) ?_
            rcases ite_or h with ⟨hc, h⟩ | ⟨hc, h⟩
            · refine ev_ift hc 1 (pc' := 70) (L' := [some (.inr (.inr 2)), some (.inl p1), some (.inl p2), some (.inl p3), some (.inl p4), some (.inl p5), some (.inl t1)]) (S' := []) (σ' := (SH L0, D)) (fun _ _ => rfl) ?_
              obtain ⟨⟨x12, D13⟩, hx, h⟩ := bnd h
              refine ev_call (e_X11_refuse L0 d (by omega) hx) 3 (pc' := 75) (L' := [some (.inr (.inr 2)), some (.inl p1), some (.inl p2), some (.inl p3), some (.inl p4), some (.inl p5), some (.inl t1)]) (S' := []) (fun _ _ => rfl) ?_
              cases h
              exact ev_ret 1 (fun _ _ => rfl)
            · refine ev_iff hc 1 (pc' := 76) (L' := [some (.inr (.inr 2)), some (.inl p1), some (.inl p2), some (.inl p3), some (.inl p4), some (.inl p5), some (.inl t1)]) (S' := []) (σ' := (SH L0, D)) (fun _ _ => rfl) ?_
              obtain ⟨D14, hx, h⟩ := bnd h
              refine ev_call (e_X5_clear L0 d (by omega) hx) 3 (pc' := 83) (L' := [some (.inr (.inr 2)), some (.inl p1), some (.inl p2), some (.inl p3), some (.inl p4), some (.inl p5), some (.inl t1)]) (S' := []) (fun _ _ => rfl) ?_
              rcases ite_or h with ⟨hc, h⟩ | ⟨_, h⟩
              · have hx : aref [163, 168, 173, 178, 183] 5 p1 = some 162 := by rw [hc]; rfl
                refine ev_bind hx 6 (pc' := 93) (L' := fun q => [some (.inr (.inr 2)), some (.inl p1), some (.inl p2), some (.inl p3), some (.inl p4), some (.inl p5), some (.inl t1)]) (S' := fun q => [.inr (.inr q), .inr (.inr 155)]) (σ' := fun q => (SH L0, D14)) (fun _ _ => rfl) ?_
                obtain ⟨D15, hx, h⟩ := bnd h
                refine ev_call (e_X10_follow_155_162_153 L0 d (by omega) hx) 6 (pc' := 104) (L' := [some (.inr (.inr 2)), some (.inl p1), some (.inl p2), some (.inl p3), some (.inl p4), some (.inl p5), some (.inl t1)]) (S' := []) (fun _ _ => rfl) ?_
                rcases ite_or h with ⟨hc0, h⟩ | ⟨hc0, h⟩
                · refine ev_tsw 2 (tgt := 132) (L' := [some (.inr (.inr 2)), some (.inl p1), some (.inl p2), some (.inl p3), some (.inl p4), some (.inl p5), some (.inl t1)]) (S' := []) (σ' := (SH L0, D15)) (fun _ _ => rfl) (fun g => by simp [tsw, hc0]) ?_
                  obtain ⟨⟨x16, D17⟩, hx, h⟩ := bnd h
                  refine ev_call (e_X11_answer L0 d (by omega) hx) 5 (pc' := 143) (L' := [some (.inr (.inr 2)), some (.inl p1), some (.inl p2), some (.inl p3), some (.inl p4), some (.inl p5), some (.inl t1)]) (S' := []) (fun _ _ => rfl) ?_
                  cases h
                  exact ev_ret 1 (fun _ _ => rfl)
                rcases ite_or h with ⟨hc1, h⟩ | ⟨hc1, h⟩
                · refine ev_tsw 2 (tgt := 144) (L' := [some (.inr (.inr 2)), some (.inl p1), some (.inl p2), some (.inl p3), some (.inl p4), some (.inl p5), some (.inl t1)]) (S' := []) (σ' := (SH L0, D15)) (fun _ _ => rfl) (fun g => by simp [tsw, hc0, hc1]) ?_
                  obtain ⟨⟨x18, D19⟩, hx, h⟩ := bnd h
                  refine ev_call (e_X11_answer L0 d (by omega) hx) 5 (pc' := 155) (L' := [some (.inr (.inr 2)), some (.inl p1), some (.inl p2), some (.inl p3), some (.inl p4), some (.inl p5), some (.inl t1)]) (S' := []) (fun _ _ => rfl) ?_
                  cases h
                  exact ev_ret 1 (fun _ _ => rfl)
                rcases ite_or h with ⟨hc2, h⟩ | ⟨hc2, h⟩
                · refine ev_tsw 2 (tgt := 156) (L' := [some (.inr (.inr 2)), some (.inl p1), some (.inl p2), some (.inl p3), some (.inl p4), some (.inl p5), some (.inl t1)]) (S' := []) (σ' := (SH L0, D15)) (fun _ _ => rfl) (fun g => by simp [tsw, hc0, hc1, hc2]) ?_
                  obtain ⟨⟨x20, D21⟩, hx, h⟩ := bnd h
                  refine ev_call (e_X11_answer L0 d (by omega) hx) 5 (pc' := 167) (L' := [some (.inr (.inr 2)), some (.inl p1), some (.inl p2), some (.inl p3), some (.inl p4), some (.inl p5), some (.inl t1)]) (S' := []) (fun _ _ => rfl) ?_
                  cases h
                  exact ev_ret 1 (fun _ _ => rfl)
                refine ev_tsw 2 (tgt := 168) (L' := [some (.inr (.inr 2)), some (.inl p1), some (.inl p2), some (.inl p3), some (.inl p4), some (.inl p5), some (.inl t1)]) (S' := []) (σ' := (SH L0, D15)) (fun _ _ => rfl) (fun g => by simp [tsw, hc0, hc1, hc2]) ?_
                obtain ⟨⟨x22, D23⟩, hx, h⟩ := bnd h
                refine ev_call (e_X11_answer L0 d (by omega) hx) 5 (pc' := 179) (L' := [some (.inr (.inr 2)), some (.inl p1), some (.inl p2), some (.inl p3), some (.inl p4), some (.inl p5), some (.inl t1)]) (S' := []) (fun _ _ => rfl) ?_
                cases h
                exact ev_ret 1 (fun _ _ => rfl)
              rcases ite_or h with ⟨hc, h⟩ | ⟨_, h⟩
              · have hx : aref [163, 168, 173, 178, 183] 5 p1 = some 167 := by rw [hc]; rfl
                refine ev_bind hx 6 (pc' := 93) (L' := fun q => [some (.inr (.inr 2)), some (.inl p1), some (.inl p2), some (.inl p3), some (.inl p4), some (.inl p5), some (.inl t1)]) (S' := fun q => [.inr (.inr q), .inr (.inr 155)]) (σ' := fun q => (SH L0, D14)) (fun _ _ => rfl) ?_
                obtain ⟨D24, hx, h⟩ := bnd h
                refine ev_call (e_X10_follow_155_167_153 L0 d (by omega) hx) 6 (pc' := 104) (L' := [some (.inr (.inr 2)), some (.inl p1), some (.inl p2), some (.inl p3), some (.inl p4), some (.inl p5), some (.inl t1)]) (S' := []) (fun _ _ => rfl) ?_
                rcases ite_or h with ⟨hc0, h⟩ | ⟨hc0, h⟩
                · refine ev_tsw 2 (tgt := 132) (L' := [some (.inr (.inr 2)), some (.inl p1), some (.inl p2), some (.inl p3), some (.inl p4), some (.inl p5), some (.inl t1)]) (S' := []) (σ' := (SH L0, D24)) (fun _ _ => rfl) (fun g => by simp [tsw, hc0]) ?_
                  obtain ⟨⟨x25, D26⟩, hx, h⟩ := bnd h
                  refine ev_call (e_X11_answer L0 d (by omega) hx) 5 (pc' := 143) (L' := [some (.inr (.inr 2)), some (.inl p1), some (.inl p2), some (.inl p3), some (.inl p4), some (.inl p5), some (.inl t1)]) (S' := []) (fun _ _ => rfl) ?_
                  cases h
                  exact ev_ret 1 (fun _ _ => rfl)
                rcases ite_or h with ⟨hc1, h⟩ | ⟨hc1, h⟩
                · refine ev_tsw 2 (tgt := 144) (L' := [some (.inr (.inr 2)), some (.inl p1), some (.inl p2), some (.inl p3), some (.inl p4), some (.inl p5), some (.inl t1)]) (S' := []) (σ' := (SH L0, D24)) (fun _ _ => rfl) (fun g => by simp [tsw, hc0, hc1]) ?_
                  obtain ⟨⟨x27, D28⟩, hx, h⟩ := bnd h
                  refine ev_call (e_X11_answer L0 d (by omega) hx) 5 (pc' := 155) (L' := [some (.inr (.inr 2)), some (.inl p1), some (.inl p2), some (.inl p3), some (.inl p4), some (.inl p5), some (.inl t1)]) (S' := []) (fun _ _ => rfl) ?_
                  cases h
                  exact ev_ret 1 (fun _ _ => rfl)
                rcases ite_or h with ⟨hc2, h⟩ | ⟨hc2, h⟩
                · refine ev_tsw 2 (tgt := 156) (L' := [some (.inr (.inr 2)), some (.inl p1), some (.inl p2), some (.inl p3), some (.inl p4), some (.inl p5), some (.inl t1)]) (S' := []) (σ' := (SH L0, D24)) (fun _ _ => rfl) (fun g => by simp [tsw, hc0, hc1, hc2]) ?_
                  obtain ⟨⟨x29, D30⟩, hx, h⟩ := bnd h
                  refine ev_call (e_X11_answer L0 d (by omega) hx) 5 (pc' := 167) (L' := [some (.inr (.inr 2)), some (.inl p1), some (.inl p2), some (.inl p3), some (.inl p4), some (.inl p5), some (.inl t1)]) (S' := []) (fun _ _ => rfl) ?_
                  cases h
                  exact ev_ret 1 (fun _ _ => rfl)
                refine ev_tsw 2 (tgt := 168) (L' := [some (.inr (.inr 2)), some (.inl p1), some (.inl p2), some (.inl p3), some (.inl p4), some (.inl p5), some (.inl t1)]) (S' := []) (σ' := (SH L0, D24)) (fun _ _ => rfl) (fun g => by simp [tsw, hc0, hc1, hc2]) ?_
                obtain ⟨⟨x31, D32⟩, hx, h⟩ := bnd h
                refine ev_call (e_X11_answer L0 d (by omega) hx) 5 (pc' := 179) (L' := [some (.inr (.inr 2)), some (.inl p1), some (.inl p2), some (.inl p3), some (.inl p4), some (.inl p5), some (.inl t1)]) (S' := []) (fun _ _ => rfl) ?_
                cases h
                exact ev_ret 1 (fun _ _ => rfl)
              rcases ite_or h with ⟨hc, h⟩ | ⟨_, h⟩
              · have hx : aref [163, 168, 173, 178, 183] 5 p1 = some 172 := by rw [hc]; rfl
                refine ev_bind hx 6 (pc' := 93) (L' := fun q => [some (.inr (.inr 2)), some (.inl p1), some (.inl p2), some (.inl p3), some (.inl p4), some (.inl p5), some (.inl t1)]) (S' := fun q => [.inr (.inr q), .inr (.inr 155)]) (σ' := fun q => (SH L0, D14)) (fun _ _ => rfl) ?_
                obtain ⟨D33, hx, h⟩ := bnd h
                refine ev_call (e_X10_follow_155_172_153 L0 d (by omega) hx) 6 (pc' := 104) (L' := [some (.inr (.inr 2)), some (.inl p1), some (.inl p2), some (.inl p3), some (.inl p4), some (.inl p5), some (.inl t1)]) (S' := []) (fun _ _ => rfl) ?_
                rcases ite_or h with ⟨hc0, h⟩ | ⟨hc0, h⟩
                · refine ev_tsw 2 (tgt := 132) (L' := [some (.inr (.inr 2)), some (.inl p1), some (.inl p2), some (.inl p3), some (.inl p4), some (.inl p5), some (.inl t1)]) (S' := []) (σ' := (SH L0, D33)) (fun _ _ => rfl) (fun g => by simp [tsw, hc0]) ?_
                  obtain ⟨⟨x34, D35⟩, hx, h⟩ := bnd h
                  refine ev_call (e_X11_answer L0 d (by omega) hx) 5 (pc' := 143) (L' := [some (.inr (.inr 2)), some (.inl p1), some (.inl p2), some (.inl p3), some (.inl p4), some (.inl p5), some (.inl t1)]) (S' := []) (fun _ _ => rfl) ?_
                  cases h
                  exact ev_ret 1 (fun _ _ => rfl)
                rcases ite_or h with ⟨hc1, h⟩ | ⟨hc1, h⟩
                · refine ev_tsw 2 (tgt := 144) (L' := [some (.inr (.inr 2)), some (.inl p1), some (.inl p2), some (.inl p3), some (.inl p4), some (.inl p5), some (.inl t1)]) (S' := []) (σ' := (SH L0, D33)) (fun _ _ => rfl) (fun g => by simp [tsw, hc0, hc1]) ?_
                  obtain ⟨⟨x36, D37⟩, hx, h⟩ := bnd h
                  refine ev_call (e_X11_answer L0 d (by omega) hx) 5 (pc' := 155) (L' := [some (.inr (.inr 2)), some (.inl p1), some (.inl p2), some (.inl p3), some (.inl p4), some (.inl p5), some (.inl t1)]) (S' := []) (fun _ _ => rfl) ?_
                  cases h
                  exact ev_ret 1 (fun _ _ => rfl)
                rcases ite_or h with ⟨hc2, h⟩ | ⟨hc2, h⟩
                · refine ev_tsw 2 (tgt := 156) (L' := [some (.inr (.inr 2)), some (.inl p1), some (.inl p2), some (.inl p3), some (.inl p4), some (.inl p5), some (.inl t1)]) (S' := []) (σ' := (SH L0, D33)) (fun _ _ => rfl) (fun g => by simp [tsw, hc0, hc1, hc2]) ?_
                  obtain ⟨⟨x38, D39⟩, hx, h⟩ := bnd h
                  refine ev_call (e_X11_answer L0 d (by omega) hx) 5 (pc' := 167) (L' := [some (.inr (.inr 2)), some (.inl p1), some (.inl p2), some (.inl p3), some (.inl p4), some (.inl p5), some (.inl t1)]) (S' := []) (fun _ _ => rfl) ?_
                  cases h
                  exact ev_ret 1 (fun _ _ => rfl)
                refine ev_tsw 2 (tgt := 168) (L' := [some (.inr (.inr 2)), some (.inl p1), some (.inl p2), some (.inl p3), some (.inl p4), some (.inl p5), some (.inl t1)]) (S' := []) (σ' := (SH L0, D33)) (fun _ _ => rfl) (fun g => by simp [tsw, hc0, hc1, hc2]) ?_
                obtain ⟨⟨x40, D41⟩, hx, h⟩ := bnd h
                refine ev_call (e_X11_answer L0 d (by omega) hx) 5 (pc' := 179) (L' := [some (.inr (.inr 2)), some (.inl p1), some (.inl p2), some (.inl p3), some (.inl p4), some (.inl p5), some (.inl t1)]) (S' := []) (fun _ _ => rfl) ?_
                cases h
                exact ev_ret 1 (fun _ _ => rfl)
              rcases ite_or h with ⟨hc, h⟩ | ⟨_, h⟩
              · have hx : aref [163, 168, 173, 178, 183] 5 p1 = some 177 := by rw [hc]; rfl
                refine ev_bind hx 6 (pc' := 93) (L' := fun q => [some (.inr (.inr 2)), some (.inl p1), some (.inl p2), some (.inl p3), some (.inl p4), some (.inl p5), some (.inl t1)]) (S' := fun q => [.inr (.inr q), .inr (.inr 155)]) (σ' := fun q => (SH L0, D14)) (fun _ _ => rfl) ?_
                obtain ⟨D42, hx, h⟩ := bnd h
                refine ev_call (e_X10_follow_155_177_153 L0 d (by omega) hx) 6 (pc' := 104) (L' := [some (.inr (.inr 2)), some (.inl p1), some (.inl p2), some (.inl p3), some (.inl p4), some (.inl p5), some (.inl t1)]) (S' := []) (fun _ _ => rfl) ?_
                rcases ite_or h with ⟨hc0, h⟩ | ⟨hc0, h⟩
                · refine ev_tsw 2 (tgt := 132) (L' := [some (.inr (.inr 2)), some (.inl p1), some (.inl p2), some (.inl p3), some (.inl p4), some (.inl p5), some (.inl t1)]) (S' := []) (σ' := (SH L0, D42)) (fun _ _ => rfl) (fun g => by simp [tsw, hc0]) ?_
                  obtain ⟨⟨x43, D44⟩, hx, h⟩ := bnd h
                  refine ev_call (e_X11_answer L0 d (by omega) hx) 5 (pc' := 143) (L' := [some (.inr (.inr 2)), some (.inl p1), some (.inl p2), some (.inl p3), some (.inl p4), some (.inl p5), some (.inl t1)]) (S' := []) (fun _ _ => rfl) ?_
                  cases h
                  exact ev_ret 1 (fun _ _ => rfl)
                rcases ite_or h with ⟨hc1, h⟩ | ⟨hc1, h⟩
                · refine ev_tsw 2 (tgt := 144) (L' := [some (.inr (.inr 2)), some (.inl p1), some (.inl p2), some (.inl p3), some (.inl p4), some (.inl p5), some (.inl t1)]) (S' := []) (σ' := (SH L0, D42)) (fun _ _ => rfl) (fun g => by simp [tsw, hc0, hc1]) ?_
                  obtain ⟨⟨x45, D46⟩, hx, h⟩ := bnd h
                  refine ev_call (e_X11_answer L0 d (by omega) hx) 5 (pc' := 155) (L' := [some (.inr (.inr 2)), some (.inl p1), some (.inl p2), some (.inl p3), some (.inl p4), some (.inl p5), some (.inl t1)]) (S' := []) (fun _ _ => rfl) ?_
                  cases h
                  exact ev_ret 1 (fun _ _ => rfl)
                rcases ite_or h with ⟨hc2, h⟩ | ⟨hc2, h⟩
                · refine ev_tsw 2 (tgt := 156) (L' := [some (.inr (.inr 2)), some (.inl p1), some (.inl p2), some (.inl p3), some (.inl p4), some (.inl p5), some (.inl t1)]) (S' := []) (σ' := (SH L0, D42)) (fun _ _ => rfl) (fun g => by simp [tsw, hc0, hc1, hc2]) ?_
                  obtain ⟨⟨x47, D48⟩, hx, h⟩ := bnd h
                  refine ev_call (e_X11_answer L0 d (by omega) hx) 5 (pc' := 167) (L' := [some (.inr (.inr 2)), some (.inl p1), some (.inl p2), some (.inl p3), some (.inl p4), some (.inl p5), some (.inl t1)]) (S' := []) (fun _ _ => rfl) ?_
                  cases h
                  exact ev_ret 1 (fun _ _ => rfl)
                refine ev_tsw 2 (tgt := 168) (L' := [some (.inr (.inr 2)), some (.inl p1), some (.inl p2), some (.inl p3), some (.inl p4), some (.inl p5), some (.inl t1)]) (S' := []) (σ' := (SH L0, D42)) (fun _ _ => rfl) (fun g => by simp [tsw, hc0, hc1, hc2]) ?_
                obtain ⟨⟨x49, D50⟩, hx, h⟩ := bnd h
                refine ev_call (e_X11_answer L0 d (by omega) hx) 5 (pc' := 179) (L' := [some (.inr (.inr 2)), some (.inl p1), some (.inl p2), some (.inl p3), some (.inl p4), some (.inl p5), some (.inl t1)]) (S' := []) (fun _ _ => rfl) ?_
                cases h
                exact ev_ret 1 (fun _ _ => rfl)
              rcases ite_or h with ⟨hc, h⟩ | ⟨_, h⟩
              · have hx : aref [163, 168, 173, 178, 183] 5 p1 = some 182 := by rw [hc]; rfl
                refine ev_bind hx 6 (pc' := 93) (L' := fun q => [some (.inr (.inr 2)), some (.inl p1), some (.inl p2), some (.inl p3), some (.inl p4), some (.inl p5), some (.inl t1)]) (S' := fun q => [.inr (.inr q), .inr (.inr 155)]) (σ' := fun q => (SH L0, D14)) (fun _ _ => rfl) ?_
                obtain ⟨D51, hx, h⟩ := bnd h
                refine ev_call (e_X10_follow_155_182_153 L0 d (by omega) hx) 6 (pc' := 104) (L' := [some (.inr (.inr 2)), some (.inl p1), some (.inl p2), some (.inl p3), some (.inl p4), some (.inl p5), some (.inl t1)]) (S' := []) (fun _ _ => rfl) ?_
                rcases ite_or h with ⟨hc0, h⟩ | ⟨hc0, h⟩
                · refine ev_tsw 2 (tgt := 132) (L' := [some (.inr (.inr 2)), some (.inl p1), some (.inl p2), some (.inl p3), some (.inl p4), some (.inl p5), some (.inl t1)]) (S' := []) (σ' := (SH L0, D51)) (fun _ _ => rfl) (fun g => by simp [tsw, hc0]) ?_
                  obtain ⟨⟨x52, D53⟩, hx, h⟩ := bnd h
                  refine ev_call (e_X11_answer L0 d (by omega) hx) 5 (pc' := 143) (L' := [some (.inr (.inr 2)), some (.inl p1), some (.inl p2), some (.inl p3), some (.inl p4), some (.inl p5), some (.inl t1)]) (S' := []) (fun _ _ => rfl) ?_
                  cases h
                  exact ev_ret 1 (fun _ _ => rfl)
                rcases ite_or h with ⟨hc1, h⟩ | ⟨hc1, h⟩
                · refine ev_tsw 2 (tgt := 144) (L' := [some (.inr (.inr 2)), some (.inl p1), some (.inl p2), some (.inl p3), some (.inl p4), some (.inl p5), some (.inl t1)]) (S' := []) (σ' := (SH L0, D51)) (fun _ _ => rfl) (fun g => by simp [tsw, hc0, hc1]) ?_
                  obtain ⟨⟨x54, D55⟩, hx, h⟩ := bnd h
                  refine ev_call (e_X11_answer L0 d (by omega) hx) 5 (pc' := 155) (L' := [some (.inr (.inr 2)), some (.inl p1), some (.inl p2), some (.inl p3), some (.inl p4), some (.inl p5), some (.inl t1)]) (S' := []) (fun _ _ => rfl) ?_
                  cases h
                  exact ev_ret 1 (fun _ _ => rfl)
                rcases ite_or h with ⟨hc2, h⟩ | ⟨hc2, h⟩
                · refine ev_tsw 2 (tgt := 156) (L' := [some (.inr (.inr 2)), some (.inl p1), some (.inl p2), some (.inl p3), some (.inl p4), some (.inl p5), some (.inl t1)]) (S' := []) (σ' := (SH L0, D51)) (fun _ _ => rfl) (fun g => by simp [tsw, hc0, hc1, hc2]) ?_
                  obtain ⟨⟨x56, D57⟩, hx, h⟩ := bnd h
                  refine ev_call (e_X11_answer L0 d (by omega) hx) 5 (pc' := 167) (L' := [some (.inr (.inr 2)), some (.inl p1), some (.inl p2), some (.inl p3), some (.inl p4), some (.inl p5), some (.inl t1)]) (S' := []) (fun _ _ => rfl) ?_
                  cases h
                  exact ev_ret 1 (fun _ _ => rfl)
                refine ev_tsw 2 (tgt := 168) (L' := [some (.inr (.inr 2)), some (.inl p1), some (.inl p2), some (.inl p3), some (.inl p4), some (.inl p5), some (.inl t1)]) (S' := []) (σ' := (SH L0, D51)) (fun _ _ => rfl) (fun g => by simp [tsw, hc0, hc1, hc2]) ?_
                obtain ⟨⟨x58, D59⟩, hx, h⟩ := bnd h
                refine ev_call (e_X11_answer L0 d (by omega) hx) 5 (pc' := 179) (L' := [some (.inr (.inr 2)), some (.inl p1), some (.inl p2), some (.inl p3), some (.inl p4), some (.inl p5), some (.inl t1)]) (S' := []) (fun _ _ => rfl) ?_
                cases h
                exact ev_ret 1 (fun _ _ => rfl)
              cases h
  clear h
  rcases ite_or hv with ⟨hc, hv⟩ | ⟨hc, hv⟩
  · refine ev_ift hc 3 (pc' := 29) (L' := [some (.inr (.inr 2)), some (.inl p1), some (.inl p2), some (.inl p3), some (.inl p4), some (.inl p5), none]) (S' := []) (σ' := (SH L0, D)) (fun _ _ => rfl) ?_
    have he0 := Option.some.inj hv
    subst he0
    exact ev_go 1 (pc' := 30) (L' := [some (.inr (.inr 2)), some (.inl p1), some (.inl p2), some (.inl p3), some (.inl p4), some (.inl p5), none]) (S' := [.inl 0]) (σ' := (SH L0, D)) (fun _ _ => rfl) hJ
  · refine ev_iff hc 3 (pc' := 5) (L' := [some (.inr (.inr 2)), some (.inl p1), some (.inl p2), some (.inl p3), some (.inl p4), some (.inl p5), none]) (S' := []) (σ' := (SH L0, D)) (fun _ _ => rfl) ?_
    rcases ite_or hv with ⟨hc, hv⟩ | ⟨hc, hv⟩
    · refine ev_ift hc 3 (pc' := 29) (L' := [some (.inr (.inr 2)), some (.inl p1), some (.inl p2), some (.inl p3), some (.inl p4), some (.inl p5), none]) (S' := []) (σ' := (SH L0, D)) (fun _ _ => rfl) ?_
      have he0 := Option.some.inj hv
      subst he0
      exact ev_go 1 (pc' := 30) (L' := [some (.inr (.inr 2)), some (.inl p1), some (.inl p2), some (.inl p3), some (.inl p4), some (.inl p5), none]) (S' := [.inl 0]) (σ' := (SH L0, D)) (fun _ _ => rfl) hJ
    · refine ev_iff hc 3 (pc' := 12) (L' := [some (.inr (.inr 2)), some (.inl p1), some (.inl p2), some (.inl p3), some (.inl p4), some (.inl p5), none]) (S' := []) (σ' := (SH L0, D)) (fun _ _ => rfl) ?_
      rcases ite_or hv with ⟨hc, hv⟩ | ⟨hc, hv⟩
      · refine ev_ift hc 2 (pc' := 29) (L' := [some (.inr (.inr 2)), some (.inl p1), some (.inl p2), some (.inl p3), some (.inl p4), some (.inl p5), none]) (S' := []) (σ' := (SH L0, D)) (fun _ _ => rfl) ?_
        have he0 := Option.some.inj hv
        subst he0
        exact ev_go 1 (pc' := 30) (L' := [some (.inr (.inr 2)), some (.inl p1), some (.inl p2), some (.inl p3), some (.inl p4), some (.inl p5), none]) (S' := [.inl 0]) (σ' := (SH L0, D)) (fun _ _ => rfl) hJ
      · refine ev_iff hc 2 (pc' := 17) (L' := [some (.inr (.inr 2)), some (.inl p1), some (.inl p2), some (.inl p3), some (.inl p4), some (.inl p5), none]) (S' := []) (σ' := (SH L0, D)) (fun _ _ => rfl) ?_
        rcases ite_or hv with ⟨hc, hv⟩ | ⟨hc, hv⟩
        · refine ev_ift hc 3 (pc' := 29) (L' := [some (.inr (.inr 2)), some (.inl p1), some (.inl p2), some (.inl p3), some (.inl p4), some (.inl p5), none]) (S' := []) (σ' := (SH L0, D)) (fun _ _ => rfl) ?_
          have he0 := Option.some.inj hv
          subst he0
          exact ev_go 1 (pc' := 30) (L' := [some (.inr (.inr 2)), some (.inl p1), some (.inl p2), some (.inl p3), some (.inl p4), some (.inl p5), none]) (S' := [.inl 0]) (σ' := (SH L0, D)) (fun _ _ => rfl) hJ
        · refine ev_iff hc 3 (pc' := 25) (L' := [some (.inr (.inr 2)), some (.inl p1), some (.inl p2), some (.inl p3), some (.inl p4), some (.inl p5), none]) (S' := []) (σ' := (SH L0, D)) (fun _ _ => rfl) ?_
          have he0 := Option.some.inj hv
          subst he0
          exact ev_go 2 (pc' := 30) (L' := [some (.inr (.inr 2)), some (.inl p1), some (.inl p2), some (.inl p3), some (.inl p4), some (.inl p5), none]) (S' := [.inl 1]) (σ' := (SH L0, D)) (fun _ _ => rfl) hJ
set_option maxRecDepth 100000 in
set_option maxHeartbeats 4000000 in
theorem e_X11_count (L0 d : Nat) (hd : 7 ≤ d) {p1 p2 : Int} {D : DT} {t0 : (Int × DT)} (h : m_X11_count p1 p2 D = some t0) : Ret mtab d 143 [.inr (.inr 2), .inl p1, .inl p2] (SH L0, D) (some (.inl t0.1), (SH L0, t0.2)) := by
  obtain ⟨d, rfl⟩ : ∃ e, d = e + 1 := ⟨d - 1, by omega⟩
  refine Ret.of (code := k_X11_count) (ml := 4) rfl ?_
  show EvF mtab d k_X11_count 0 [some (.inr (.inr 2)), some (.inl p1), some (.inl p2), none] [] (SH L0, D) (some (.inl t0.1), (SH L0, t0.2))
  unfold m_X11_count at h
  rcases ite_or h with ⟨hc, h⟩ | ⟨hc, h⟩
  · refine ev_ift hc 2 (pc' := 11) (L' := [some (.inr (.inr 2)), some (.inl p1), some (.inl p2), none]) (S' := []) (σ' := (SH L0, D)) (fun _ _ => rfl) ?_
    obtain ⟨⟨x1, D2⟩, hx, h⟩ := bnd h
    refine ev_call (e_X11_refuse L0 d (by omega) hx) 3 (pc' := 16) (L' := [some (.inr (.inr 2)), some (.inl p1), some (.inl p2), none]) (S' := []) (fun _ _ => rfl) ?_
    cases h
    exact ev_ret 1 (fun _ _ => rfl)
  · refine ev_iff hc 2 (pc' := 4) (L' := [some (.inr (.inr 2)), some (.inl p1), some (.inl p2), none]) (S' := []) (σ' := (SH L0, D)) (fun _ _ => rfl) ?_
    rcases ite_or h with ⟨hc, h⟩ | ⟨hc, h⟩
    · refine ev_ift hc 3 (pc' := 11) (L' := [some (.inr (.inr 2)), some (.inl p1), some (.inl p2), none]) (S' := []) (σ' := (SH L0, D)) (fun _ _ => rfl) ?_
      obtain ⟨⟨x3, D4⟩, hx, h⟩ := bnd h
      refine ev_call (e_X11_refuse L0 d (by omega) hx) 3 (pc' := 16) (L' := [some (.inr (.inr 2)), some (.inl p1), some (.inl p2), none]) (S' := []) (fun _ _ => rfl) ?_
      cases h
      exact ev_ret 1 (fun _ _ => rfl)
    · refine ev_iff hc 3 (pc' := 17) (L' := [some (.inr (.inr 2)), some (.inl p1), some (.inl p2), none]) (S' := []) (σ' := (SH L0, D)) (fun _ _ => rfl) ?_
      obtain ⟨x5, hx, h⟩ := bnd h
      refine ev_call (e_X11_isArc L0 d (by omega) hx) 3 (pc' := 22) (L' := [some (.inr (.inr 2)), some (.inl p1), some (.inl p2), none]) (S' := []) (fun _ _ => rfl) ?_
      rcases ite_or h with ⟨hc, h⟩ | ⟨hc, h⟩
      · refine ev_ift hc 1 (pc' := 25) (L' := [some (.inr (.inr 2)), some (.inl p1), some (.inl p2), none]) (S' := []) (σ' := (SH L0, D)) (fun _ _ => rfl) ?_
        obtain ⟨⟨x6, D7⟩, hx, h⟩ := bnd h
        refine ev_call (e_X11_refuse L0 d (by omega) hx) 3 (pc' := 30) (L' := [some (.inr (.inr 2)), some (.inl p1), some (.inl p2), none]) (S' := []) (fun _ _ => rfl) ?_
        cases h
        exact ev_ret 1 (fun _ _ => rfl)
      · refine ev_iff hc 1 (pc' := 31) (L' := [some (.inr (.inr 2)), some (.inl p1), some (.inl p2), none]) (S' := []) (σ' := (SH L0, D)) (fun _ _ => rfl) ?_
        obtain ⟨x8, hx, h⟩ := bnd h
        refine ev_bind hx 5 (pc' := 40) (L' := fun x8 => [some (.inr (.inr 2)), some (.inl p1), some (.inl p2), none]) (S' := fun x8 => [.inl x8]) (σ' := fun x8 => (SH L0, D)) (fun _ _ => rfl) ?_
        rcases ite_or h with ⟨hc, h⟩ | ⟨hc, h⟩
        · refine ev_ift hc 4 (pc' := 46) (L' := [some (.inr (.inr 2)), some (.inl p1), some (.inl p2), some (.inl x8)]) (S' := []) (σ' := (SH L0, D)) (fun _ _ => rfl) ?_
          obtain ⟨⟨x9, D10⟩, hx, h⟩ := bnd h
          refine ev_call (e_X11_refuse L0 d (by omega) hx) 3 (pc' := 51) (L' := [some (.inr (.inr 2)), some (.inl p1), some (.inl p2), some (.inl x8)]) (S' := []) (fun _ _ => rfl) ?_
          cases h
          exact ev_ret 1 (fun _ _ => rfl)
        · refine ev_iff hc 4 (pc' := 52) (L' := [some (.inr (.inr 2)), some (.inl p1), some (.inl p2), some (.inl x8)]) (S' := []) (σ' := (SH L0, D)) (fun _ _ => rfl) ?_
          obtain ⟨D11, hx, h⟩ := bnd h
          refine ev_call (e_X3_keep L0 d (by omega) hx) 5 (pc' := 63) (L' := [some (.inr (.inr 2)), some (.inl p1), some (.inl p2), some (.inl x8)]) (S' := []) (fun _ _ => rfl) ?_
          obtain ⟨D12, hx, h⟩ := bnd h
          refine ev_bind hx 6 (pc' := 73) (L' := fun D12 => [some (.inr (.inr 2)), some (.inl p1), some (.inl p2), some (.inl x8)]) (S' := fun D12 => []) (σ' := fun D12 => (SH L0, D12)) (fun _ _ => rfl) ?_
          obtain ⟨D13, hx, h⟩ := bnd h
          refine ev_call (e_X11_workOut L0 d (by omega) hx) 2 (pc' := 77) (L' := [some (.inr (.inr 2)), some (.inl p1), some (.inl p2), some (.inl x8)]) (S' := []) (fun _ _ => rfl) ?_
          obtain ⟨⟨x14, D15⟩, hx, h⟩ := bnd h
          refine ev_call (e_X11_answer L0 d (by omega) hx) 3 (pc' := 82) (L' := [some (.inr (.inr 2)), some (.inl p1), some (.inl p2), some (.inl x8)]) (S' := []) (fun _ _ => rfl) ?_
          cases h
          exact ev_ret 1 (fun _ _ => rfl)
set_option maxRecDepth 100000 in
set_option maxHeartbeats 4000000 in
theorem e_X11_set (L0 d : Nat) (hd : 7 ≤ d) {p1 p2 : Int} {D : DT} {t0 : (Int × DT)} (h : m_X11_set p1 p2 D = some t0) : Ret mtab d 144 [.inr (.inr 2), .inl p1, .inl p2] (SH L0, D) (some (.inl t0.1), (SH L0, t0.2)) := by
  obtain ⟨d, rfl⟩ : ∃ e, d = e + 1 := ⟨d - 1, by omega⟩
  refine Ret.of (code := k_X11_set) (ml := 4) rfl ?_
  show EvF mtab d k_X11_set 0 [some (.inr (.inr 2)), some (.inl p1), some (.inl p2), none] [] (SH L0, D) (some (.inl t0.1), (SH L0, t0.2))
  unfold m_X11_set at h
  obtain ⟨x1, hx, h⟩ := bnd h
  refine ev_call (e_X7_canBe L0 d (by omega) hx) 3 (pc' := 5) (L' := [some (.inr (.inr 2)), some (.inl p1), some (.inl p2), none]) (S' := []) (fun _ _ => rfl) ?_
  rcases ite_or h with ⟨hc, h⟩ | ⟨hc, h⟩
  · refine ev_ift hc 1 (pc' := 8) (L' := [some (.inr (.inr 2)), some (.inl p1), some (.inl p2), none]) (S' := []) (σ' := (SH L0, D)) (fun _ _ => rfl) ?_
    obtain ⟨⟨x2, D3⟩, hx, h⟩ := bnd h
    refine ev_call (e_X11_refuse L0 d (by omega) hx) 3 (pc' := 13) (L' := [some (.inr (.inr 2)), some (.inl p1), some (.inl p2), none]) (S' := []) (fun _ _ => rfl) ?_
    cases h
    exact ev_ret 1 (fun _ _ => rfl)
  · refine ev_iff hc 1 (pc' := 14) (L' := [some (.inr (.inr 2)), some (.inl p1), some (.inl p2), none]) (S' := []) (σ' := (SH L0, D)) (fun _ _ => rfl) ?_
    obtain ⟨x4, hx, h⟩ := bnd h
    refine ev_call (e_X7_setting L0 d (by omega) hx) 4 (pc' := 22) (L' := [some (.inr (.inr 2)), some (.inl p1), some (.inl p2), none]) (S' := []) (fun _ _ => rfl) ?_
    rcases ite_or h with ⟨hc, h⟩ | ⟨hc, h⟩
    · refine ev_ift hc 4 (pc' := 28) (L' := [some (.inr (.inr 2)), some (.inl p1), some (.inl p2), some (.inl x4)]) (S' := []) (σ' := (SH L0, D)) (fun _ _ => rfl) ?_
      obtain ⟨⟨x5, D6⟩, hx, h⟩ := bnd h
      refine ev_call (e_X11_refuse L0 d (by omega) hx) 3 (pc' := 33) (L' := [some (.inr (.inr 2)), some (.inl p1), some (.inl p2), some (.inl x4)]) (S' := []) (fun _ _ => rfl) ?_
      cases h
      exact ev_ret 1 (fun _ _ => rfl)
    · refine ev_iff hc 4 (pc' := 34) (L' := [some (.inr (.inr 2)), some (.inl p1), some (.inl p2), some (.inl x4)]) (S' := []) (σ' := (SH L0, D)) (fun _ _ => rfl) ?_
      obtain ⟨D7, hx, h⟩ := bnd h
      refine ev_call (e_X3_keep L0 d (by omega) hx) 5 (pc' := 45) (L' := [some (.inr (.inr 2)), some (.inl p1), some (.inl p2), some (.inl x4)]) (S' := []) (fun _ _ => rfl) ?_
      obtain ⟨D8, hx, h⟩ := bnd h
      refine ev_call (e_X7_change_4 L0 d (by omega) hx) 5 (pc' := 54) (L' := [some (.inr (.inr 2)), some (.inl p1), some (.inl p2), some (.inl x4)]) (S' := []) (fun _ _ => rfl) ?_
      obtain ⟨D9, hx, h⟩ := bnd h
      refine ev_call (e_X11_workOut L0 d (by omega) hx) 2 (pc' := 58) (L' := [some (.inr (.inr 2)), some (.inl p1), some (.inl p2), some (.inl x4)]) (S' := []) (fun _ _ => rfl) ?_
      obtain ⟨⟨x10, D11⟩, hx, h⟩ := bnd h
      refine ev_call (e_X11_answer L0 d (by omega) hx) 3 (pc' := 63) (L' := [some (.inr (.inr 2)), some (.inl p1), some (.inl p2), some (.inl x4)]) (S' := []) (fun _ _ => rfl) ?_
      cases h
      exact ev_ret 1 (fun _ _ => rfl)
set_option maxRecDepth 100000 in
set_option maxHeartbeats 4000000 in
theorem e_X11_take (L0 d : Nat) (hd : 6 ≤ d) {p1 : Int} {D : DT} {t0 : (Int × DT)} (h : m_X11_take p1 D = some t0) : Ret mtab d 145 [.inr (.inr 2), .inl p1] (SH L0, D) (some (.inl t0.1), (SH L0, t0.2)) := by
  obtain ⟨d, rfl⟩ : ∃ e, d = e + 1 := ⟨d - 1, by omega⟩
  refine Ret.of (code := k_X11_take) (ml := 2) rfl ?_
  show EvF mtab d k_X11_take 0 [some (.inr (.inr 2)), some (.inl p1)] [] (SH L0, D) (some (.inl t0.1), (SH L0, t0.2))
  unfold m_X11_take at h
  obtain ⟨x1, hx, h⟩ := bnd h
  refine ev_call (e_X11_isOrder L0 d (by omega) hx) 3 (pc' := 5) (L' := [some (.inr (.inr 2)), some (.inl p1)]) (S' := []) (fun _ _ => rfl) ?_
  rcases ite_or h with ⟨hc, h⟩ | ⟨hc, h⟩
  · refine ev_ift hc 1 (pc' := 13) (L' := [some (.inr (.inr 2)), some (.inl p1)]) (S' := []) (σ' := (SH L0, D)) (fun _ _ => rfl) ?_
    obtain ⟨⟨x2, D3⟩, hx, h⟩ := bnd h
    refine ev_call (e_X11_refuse L0 d (by omega) hx) 3 (pc' := 18) (L' := [some (.inr (.inr 2)), some (.inl p1)]) (S' := []) (fun _ _ => rfl) ?_
    cases h
    exact ev_ret 1 (fun _ _ => rfl)
  · refine ev_iff hc 1 (pc' := 8) (L' := [some (.inr (.inr 2)), some (.inl p1)]) (S' := []) (σ' := (SH L0, D)) (fun _ _ => rfl) ?_
    rcases ite_or h with ⟨hc, h⟩ | ⟨hc, h⟩
    · refine ev_ift hc 3 (pc' := 13) (L' := [some (.inr (.inr 2)), some (.inl p1)]) (S' := []) (σ' := (SH L0, D)) (fun _ _ => rfl) ?_
      obtain ⟨⟨x4, D5⟩, hx, h⟩ := bnd h
      refine ev_call (e_X11_refuse L0 d (by omega) hx) 3 (pc' := 18) (L' := [some (.inr (.inr 2)), some (.inl p1)]) (S' := []) (fun _ _ => rfl) ?_
      cases h
      exact ev_ret 1 (fun _ _ => rfl)
    · refine ev_iff hc 3 (pc' := 19) (L' := [some (.inr (.inr 2)), some (.inl p1)]) (S' := []) (σ' := (SH L0, D)) (fun _ _ => rfl) ?_
      rcases ite_or h with ⟨hc, h⟩ | ⟨_, h⟩
      · have hx : aref [163, 168, 173, 178, 183] 5 p1 = some 162 := by rw [hc]; rfl
        refine ev_bind hx 4 (pc' := 25) (L' := fun q => [some (.inr (.inr 2)), some (.inl p1)]) (S' := fun q => [.inr (.inr q)]) (σ' := fun q => (SH L0, D)) (fun _ _ => rfl) ?_
        obtain ⟨x6, hx, h⟩ := bnd h
        refine ev_call (e_X4_isLine_162_17 L0 d (by omega) hx) 4 (pc' := 35) (L' := [some (.inr (.inr 2)), some (.inl p1)]) (S' := []) (fun _ _ => rfl) ?_
        rcases ite_or h with ⟨hc, h⟩ | ⟨hc, h⟩
        · refine ev_ift hc 1 (pc' := 44) (L' := [some (.inr (.inr 2)), some (.inl p1)]) (S' := []) (σ' := (SH L0, D)) (fun _ _ => rfl) ?_
          obtain ⟨D7, hx, h⟩ := bnd h
          refine ev_call (e_X3_keep L0 d (by omega) hx) 5 (pc' := 55) (L' := [some (.inr (.inr 2)), some (.inl p1)]) (S' := []) (fun _ _ => rfl) ?_
          rcases ite_or h with ⟨hc, h⟩ | ⟨_, h⟩
          · have hx : aref [163, 168, 173, 178, 183] 5 p1 = some 162 := by rw [hc]; rfl
            refine ev_bind hx 4 (pc' := 61) (L' := fun q => [some (.inr (.inr 2)), some (.inl p1)]) (S' := fun q => [.inr (.inr q)]) (σ' := fun q => (SH L0, D7)) (fun _ _ => rfl) ?_
            obtain ⟨D8, hx, h⟩ := bnd h
            refine ev_bind hx 8 (pc' := 78) (L' := fun D8 => [some (.inr (.inr 2)), some (.inl p1)]) (S' := fun D8 => []) (σ' := fun D8 => (SH L0, D8)) (fun _ _ => rfl) ?_
            obtain ⟨D9, hx, h⟩ := bnd h
            refine ev_call (e_X4_byLine_182_17 L0 d (by omega) hx) 8 (pc' := 94) (L' := [some (.inr (.inr 2)), some (.inl p1)]) (S' := []) (fun _ _ => rfl) ?_
            obtain ⟨x10, hx, h⟩ := bnd h
            refine ev_call (e_X4_allJumps_182 L0 d (by omega) hx) 6 (pc' := 104) (L' := [some (.inr (.inr 2)), some (.inl p1)]) (S' := [.inr (.inr 2)]) (fun _ _ => rfl) ?_
            obtain ⟨⟨x11, D12⟩, hx, h⟩ := bnd h
            refine ev_call (e_X11_answer L0 d (by omega) hx) 1 (pc' := 107) (L' := [some (.inr (.inr 2)), some (.inl p1)]) (S' := []) (fun _ _ => rfl) ?_
            cases h
            exact ev_ret 1 (fun _ _ => rfl)
          rcases ite_or h with ⟨hc, h⟩ | ⟨_, h⟩
          · have hx : aref [163, 168, 173, 178, 183] 5 p1 = some 167 := by rw [hc]; rfl
            refine ev_bind hx 4 (pc' := 61) (L' := fun q => [some (.inr (.inr 2)), some (.inl p1)]) (S' := fun q => [.inr (.inr q)]) (σ' := fun q => (SH L0, D7)) (fun _ _ => rfl) ?_
            obtain ⟨D13, hx, h⟩ := bnd h
            refine ev_bind hx 8 (pc' := 78) (L' := fun D13 => [some (.inr (.inr 2)), some (.inl p1)]) (S' := fun D13 => []) (σ' := fun D13 => (SH L0, D13)) (fun _ _ => rfl) ?_
            obtain ⟨D14, hx, h⟩ := bnd h
            refine ev_call (e_X4_byLine_182_17 L0 d (by omega) hx) 8 (pc' := 94) (L' := [some (.inr (.inr 2)), some (.inl p1)]) (S' := []) (fun _ _ => rfl) ?_
            obtain ⟨x15, hx, h⟩ := bnd h
            refine ev_call (e_X4_allJumps_182 L0 d (by omega) hx) 6 (pc' := 104) (L' := [some (.inr (.inr 2)), some (.inl p1)]) (S' := [.inr (.inr 2)]) (fun _ _ => rfl) ?_
            obtain ⟨⟨x16, D17⟩, hx, h⟩ := bnd h
            refine ev_call (e_X11_answer L0 d (by omega) hx) 1 (pc' := 107) (L' := [some (.inr (.inr 2)), some (.inl p1)]) (S' := []) (fun _ _ => rfl) ?_
            cases h
            exact ev_ret 1 (fun _ _ => rfl)
          rcases ite_or h with ⟨hc, h⟩ | ⟨_, h⟩
          · have hx : aref [163, 168, 173, 178, 183] 5 p1 = some 172 := by rw [hc]; rfl
            refine ev_bind hx 4 (pc' := 61) (L' := fun q => [some (.inr (.inr 2)), some (.inl p1)]) (S' := fun q => [.inr (.inr q)]) (σ' := fun q => (SH L0, D7)) (fun _ _ => rfl) ?_
            obtain ⟨D18, hx, h⟩ := bnd h
            refine ev_bind hx 8 (pc' := 78) (L' := fun D18 => [some (.inr (.inr 2)), some (.inl p1)]) (S' := fun D18 => []) (σ' := fun D18 => (SH L0, D18)) (fun _ _ => rfl) ?_
            obtain ⟨D19, hx, h⟩ := bnd h
            refine ev_call (e_X4_byLine_182_17 L0 d (by omega) hx) 8 (pc' := 94) (L' := [some (.inr (.inr 2)), some (.inl p1)]) (S' := []) (fun _ _ => rfl) ?_
            obtain ⟨x20, hx, h⟩ := bnd h
            refine ev_call (e_X4_allJumps_182 L0 d (by omega) hx) 6 (pc' := 104) (L' := [some (.inr (.inr 2)), some (.inl p1)]) (S' := [.inr (.inr 2)]) (fun _ _ => rfl) ?_
            obtain ⟨⟨x21, D22⟩, hx, h⟩ := bnd h
            refine ev_call (e_X11_answer L0 d (by omega) hx) 1 (pc' := 107) (L' := [some (.inr (.inr 2)), some (.inl p1)]) (S' := []) (fun _ _ => rfl) ?_
            cases h
            exact ev_ret 1 (fun _ _ => rfl)
          rcases ite_or h with ⟨hc, h⟩ | ⟨_, h⟩
          · have hx : aref [163, 168, 173, 178, 183] 5 p1 = some 177 := by rw [hc]; rfl
            refine ev_bind hx 4 (pc' := 61) (L' := fun q => [some (.inr (.inr 2)), some (.inl p1)]) (S' := fun q => [.inr (.inr q)]) (σ' := fun q => (SH L0, D7)) (fun _ _ => rfl) ?_
            obtain ⟨D23, hx, h⟩ := bnd h
            refine ev_bind hx 8 (pc' := 78) (L' := fun D23 => [some (.inr (.inr 2)), some (.inl p1)]) (S' := fun D23 => []) (σ' := fun D23 => (SH L0, D23)) (fun _ _ => rfl) ?_
            obtain ⟨D24, hx, h⟩ := bnd h
            refine ev_call (e_X4_byLine_182_17 L0 d (by omega) hx) 8 (pc' := 94) (L' := [some (.inr (.inr 2)), some (.inl p1)]) (S' := []) (fun _ _ => rfl) ?_
            obtain ⟨x25, hx, h⟩ := bnd h
            refine ev_call (e_X4_allJumps_182 L0 d (by omega) hx) 6 (pc' := 104) (L' := [some (.inr (.inr 2)), some (.inl p1)]) (S' := [.inr (.inr 2)]) (fun _ _ => rfl) ?_
            obtain ⟨⟨x26, D27⟩, hx, h⟩ := bnd h
            refine ev_call (e_X11_answer L0 d (by omega) hx) 1 (pc' := 107) (L' := [some (.inr (.inr 2)), some (.inl p1)]) (S' := []) (fun _ _ => rfl) ?_
            cases h
            exact ev_ret 1 (fun _ _ => rfl)
          rcases ite_or h with ⟨hc, h⟩ | ⟨_, h⟩
          · have hx : aref [163, 168, 173, 178, 183] 5 p1 = some 182 := by rw [hc]; rfl
            refine ev_bind hx 4 (pc' := 61) (L' := fun q => [some (.inr (.inr 2)), some (.inl p1)]) (S' := fun q => [.inr (.inr q)]) (σ' := fun q => (SH L0, D7)) (fun _ _ => rfl) ?_
            obtain ⟨D28, hx, h⟩ := bnd h
            refine ev_bind hx 8 (pc' := 78) (L' := fun D28 => [some (.inr (.inr 2)), some (.inl p1)]) (S' := fun D28 => []) (σ' := fun D28 => (SH L0, D28)) (fun _ _ => rfl) ?_
            obtain ⟨D29, hx, h⟩ := bnd h
            refine ev_call (e_X4_byLine_182_17 L0 d (by omega) hx) 8 (pc' := 94) (L' := [some (.inr (.inr 2)), some (.inl p1)]) (S' := []) (fun _ _ => rfl) ?_
            obtain ⟨x30, hx, h⟩ := bnd h
            refine ev_call (e_X4_allJumps_182 L0 d (by omega) hx) 6 (pc' := 104) (L' := [some (.inr (.inr 2)), some (.inl p1)]) (S' := [.inr (.inr 2)]) (fun _ _ => rfl) ?_
            obtain ⟨⟨x31, D32⟩, hx, h⟩ := bnd h
            refine ev_call (e_X11_answer L0 d (by omega) hx) 1 (pc' := 107) (L' := [some (.inr (.inr 2)), some (.inl p1)]) (S' := []) (fun _ _ => rfl) ?_
            cases h
            exact ev_ret 1 (fun _ _ => rfl)
          cases h
        · refine ev_iff hc 1 (pc' := 38) (L' := [some (.inr (.inr 2)), some (.inl p1)]) (S' := []) (σ' := (SH L0, D)) (fun _ _ => rfl) ?_
          obtain ⟨⟨x33, D34⟩, hx, h⟩ := bnd h
          refine ev_call (e_X11_refuse L0 d (by omega) hx) 3 (pc' := 43) (L' := [some (.inr (.inr 2)), some (.inl p1)]) (S' := []) (fun _ _ => rfl) ?_
          cases h
          exact ev_ret 1 (fun _ _ => rfl)
      rcases ite_or h with ⟨hc, h⟩ | ⟨_, h⟩
      · have hx : aref [163, 168, 173, 178, 183] 5 p1 = some 167 := by rw [hc]; rfl
        refine ev_bind hx 4 (pc' := 25) (L' := fun q => [some (.inr (.inr 2)), some (.inl p1)]) (S' := fun q => [.inr (.inr q)]) (σ' := fun q => (SH L0, D)) (fun _ _ => rfl) ?_
        obtain ⟨x35, hx, h⟩ := bnd h
        refine ev_call (e_X4_isLine_167_17 L0 d (by omega) hx) 4 (pc' := 35) (L' := [some (.inr (.inr 2)), some (.inl p1)]) (S' := []) (fun _ _ => rfl) ?_
        rcases ite_or h with ⟨hc, h⟩ | ⟨hc, h⟩
        · refine ev_ift hc 1 (pc' := 44) (L' := [some (.inr (.inr 2)), some (.inl p1)]) (S' := []) (σ' := (SH L0, D)) (fun _ _ => rfl) ?_
          obtain ⟨D36, hx, h⟩ := bnd h
          refine ev_call (e_X3_keep L0 d (by omega) hx) 5 (pc' := 55) (L' := [some (.inr (.inr 2)), some (.inl p1)]) (S' := []) (fun _ _ => rfl) ?_
          rcases ite_or h with ⟨hc, h⟩ | ⟨_, h⟩
          · have hx : aref [163, 168, 173, 178, 183] 5 p1 = some 162 := by rw [hc]; rfl
            refine ev_bind hx 4 (pc' := 61) (L' := fun q => [some (.inr (.inr 2)), some (.inl p1)]) (S' := fun q => [.inr (.inr q)]) (σ' := fun q => (SH L0, D36)) (fun _ _ => rfl) ?_
            obtain ⟨D37, hx, h⟩ := bnd h
            refine ev_bind hx 8 (pc' := 78) (L' := fun D37 => [some (.inr (.inr 2)), some (.inl p1)]) (S' := fun D37 => []) (σ' := fun D37 => (SH L0, D37)) (fun _ _ => rfl) ?_
            obtain ⟨D38, hx, h⟩ := bnd h
            refine ev_call (e_X4_byLine_182_17 L0 d (by omega) hx) 8 (pc' := 94) (L' := [some (.inr (.inr 2)), some (.inl p1)]) (S' := []) (fun _ _ => rfl) ?_
            obtain ⟨x39, hx, h⟩ := bnd h
            refine ev_call (e_X4_allJumps_182 L0 d (by omega) hx) 6 (pc' := 104) (L' := [some (.inr (.inr 2)), some (.inl p1)]) (S' := [.inr (.inr 2)]) (fun _ _ => rfl) ?_
            obtain ⟨⟨x40, D41⟩, hx, h⟩ := bnd h
            refine ev_call (e_X11_answer L0 d (by omega) hx) 1 (pc' := 107) (L' := [some (.inr (.inr 2)), some (.inl p1)]) (S' := []) (fun _ _ => rfl) ?_
            cases h
            exact ev_ret 1 (fun _ _ => rfl)
          rcases ite_or h with ⟨hc, h⟩ | ⟨_, h⟩
          · have hx : aref [163, 168, 173, 178, 183] 5 p1 = some 167 := by rw [hc]; rfl
            refine ev_bind hx 4 (pc' := 61) (L' := fun q => [some (.inr (.inr 2)), some (.inl p1)]) (S' := fun q => [.inr (.inr q)]) (σ' := fun q => (SH L0, D36)) (fun _ _ => rfl) ?_
            obtain ⟨D42, hx, h⟩ := bnd h
            refine ev_bind hx 8 (pc' := 78) (L' := fun D42 => [some (.inr (.inr 2)), some (.inl p1)]) (S' := fun D42 => []) (σ' := fun D42 => (SH L0, D42)) (fun _ _ => rfl) ?_
            obtain ⟨D43, hx, h⟩ := bnd h
            refine ev_call (e_X4_byLine_182_17 L0 d (by omega) hx) 8 (pc' := 94) (L' := [some (.inr (.inr 2)), some (.inl p1)]) (S' := []) (fun _ _ => rfl) ?_
            obtain ⟨x44, hx, h⟩ := bnd h
            refine ev_call (e_X4_allJumps_182 L0 d (by omega) hx) 6 (pc' := 104) (L' := [some (.inr (.inr 2)), some (.inl p1)]) (S' := [.inr (.inr 2)]) (fun _ _ => rfl) ?_
            obtain ⟨⟨x45, D46⟩, hx, h⟩ := bnd h
            refine ev_call (e_X11_answer L0 d (by omega) hx) 1 (pc' := 107) (L' := [some (.inr (.inr 2)), some (.inl p1)]) (S' := []) (fun _ _ => rfl) ?_
            cases h
            exact ev_ret 1 (fun _ _ => rfl)
          rcases ite_or h with ⟨hc, h⟩ | ⟨_, h⟩
          · have hx : aref [163, 168, 173, 178, 183] 5 p1 = some 172 := by rw [hc]; rfl
            refine ev_bind hx 4 (pc' := 61) (L' := fun q => [some (.inr (.inr 2)), some (.inl p1)]) (S' := fun q => [.inr (.inr q)]) (σ' := fun q => (SH L0, D36)) (fun _ _ => rfl) ?_
            obtain ⟨D47, hx, h⟩ := bnd h
            refine ev_bind hx 8 (pc' := 78) (L' := fun D47 => [some (.inr (.inr 2)), some (.inl p1)]) (S' := fun D47 => []) (σ' := fun D47 => (SH L0, D47)) (fun _ _ => rfl) ?_
            obtain ⟨D48, hx, h⟩ := bnd h
            refine ev_call (e_X4_byLine_182_17 L0 d (by omega) hx) 8 (pc' := 94) (L' := [some (.inr (.inr 2)), some (.inl p1)]) (S' := []) (fun _ _ => rfl) ?_
            obtain ⟨x49, hx, h⟩ := bnd h
            refine ev_call (e_X4_allJumps_182 L0 d (by omega) hx) 6 (pc' := 104) (L' := [some (.inr (.inr 2)), some (.inl p1)]) (S' := [.inr (.inr 2)]) (fun _ _ => rfl) ?_
            obtain ⟨⟨x50, D51⟩, hx, h⟩ := bnd h
            refine ev_call (e_X11_answer L0 d (by omega) hx) 1 (pc' := 107) (L' := [some (.inr (.inr 2)), some (.inl p1)]) (S' := []) (fun _ _ => rfl) ?_
            cases h
            exact ev_ret 1 (fun _ _ => rfl)
          rcases ite_or h with ⟨hc, h⟩ | ⟨_, h⟩
          · have hx : aref [163, 168, 173, 178, 183] 5 p1 = some 177 := by rw [hc]; rfl
            refine ev_bind hx 4 (pc' := 61) (L' := fun q => [some (.inr (.inr 2)), some (.inl p1)]) (S' := fun q => [.inr (.inr q)]) (σ' := fun q => (SH L0, D36)) (fun _ _ => rfl) ?_
            obtain ⟨D52, hx, h⟩ := bnd h
            refine ev_bind hx 8 (pc' := 78) (L' := fun D52 => [some (.inr (.inr 2)), some (.inl p1)]) (S' := fun D52 => []) (σ' := fun D52 => (SH L0, D52)) (fun _ _ => rfl) ?_
            obtain ⟨D53, hx, h⟩ := bnd h
            refine ev_call (e_X4_byLine_182_17 L0 d (by omega) hx) 8 (pc' := 94) (L' := [some (.inr (.inr 2)), some (.inl p1)]) (S' := []) (fun _ _ => rfl) ?_
            obtain ⟨x54, hx, h⟩ := bnd h
            refine ev_call (e_X4_allJumps_182 L0 d (by omega) hx) 6 (pc' := 104) (L' := [some (.inr (.inr 2)), some (.inl p1)]) (S' := [.inr (.inr 2)]) (fun _ _ => rfl) ?_
            obtain ⟨⟨x55, D56⟩, hx, h⟩ := bnd h
            refine ev_call (e_X11_answer L0 d (by omega) hx) 1 (pc' := 107) (L' := [some (.inr (.inr 2)), some (.inl p1)]) (S' := []) (fun _ _ => rfl) ?_
            cases h
            exact ev_ret 1 (fun _ _ => rfl)
          rcases ite_or h with ⟨hc, h⟩ | ⟨_, h⟩
          · have hx : aref [163, 168, 173, 178, 183] 5 p1 = some 182 := by rw [hc]; rfl
            refine ev_bind hx 4 (pc' := 61) (L' := fun q => [some (.inr (.inr 2)), some (.inl p1)]) (S' := fun q => [.inr (.inr q)]) (σ' := fun q => (SH L0, D36)) (fun _ _ => rfl) ?_
            obtain ⟨D57, hx, h⟩ := bnd h
            refine ev_bind hx 8 (pc' := 78) (L' := fun D57 => [some (.inr (.inr 2)), some (.inl p1)]) (S' := fun D57 => []) (σ' := fun D57 => (SH L0, D57)) (fun _ _ => rfl) ?_
            obtain ⟨D58, hx, h⟩ := bnd h
            refine ev_call (e_X4_byLine_182_17 L0 d (by omega) hx) 8 (pc' := 94) (L' := [some (.inr (.inr 2)), some (.inl p1)]) (S' := []) (fun _ _ => rfl) ?_
            obtain ⟨x59, hx, h⟩ := bnd h
            refine ev_call (e_X4_allJumps_182 L0 d (by omega) hx) 6 (pc' := 104) (L' := [some (.inr (.inr 2)), some (.inl p1)]) (S' := [.inr (.inr 2)]) (fun _ _ => rfl) ?_
            obtain ⟨⟨x60, D61⟩, hx, h⟩ := bnd h
            refine ev_call (e_X11_answer L0 d (by omega) hx) 1 (pc' := 107) (L' := [some (.inr (.inr 2)), some (.inl p1)]) (S' := []) (fun _ _ => rfl) ?_
            cases h
            exact ev_ret 1 (fun _ _ => rfl)
          cases h
        · refine ev_iff hc 1 (pc' := 38) (L' := [some (.inr (.inr 2)), some (.inl p1)]) (S' := []) (σ' := (SH L0, D)) (fun _ _ => rfl) ?_
          obtain ⟨⟨x62, D63⟩, hx, h⟩ := bnd h
          refine ev_call (e_X11_refuse L0 d (by omega) hx) 3 (pc' := 43) (L' := [some (.inr (.inr 2)), some (.inl p1)]) (S' := []) (fun _ _ => rfl) ?_
          cases h
          exact ev_ret 1 (fun _ _ => rfl)
      rcases ite_or h with ⟨hc, h⟩ | ⟨_, h⟩
      · have hx : aref [163, 168, 173, 178, 183] 5 p1 = some 172 := by rw [hc]; rfl
        refine ev_bind hx 4 (pc' := 25) (L' := fun q => [some (.inr (.inr 2)), some (.inl p1)]) (S' := fun q => [.inr (.inr q)]) (σ' := fun q => (SH L0, D)) (fun _ _ => rfl) ?_
        obtain ⟨x64, hx, h⟩ := bnd h
        refine ev_call (e_X4_isLine_172_17 L0 d (by omega) hx) 4 (pc' := 35) (L' := [some (.inr (.inr 2)), some (.inl p1)]) (S' := []) (fun _ _ => rfl) ?_
        rcases ite_or h with ⟨hc, h⟩ | ⟨hc, h⟩
        · refine ev_ift hc 1 (pc' := 44) (L' := [some (.inr (.inr 2)), some (.inl p1)]) (S' := []) (σ' := (SH L0, D)) (fun _ _ => rfl) ?_
          obtain ⟨D65, hx, h⟩ := bnd h
          refine ev_call (e_X3_keep L0 d (by omega) hx) 5 (pc' := 55) (L' := [some (.inr (.inr 2)), some (.inl p1)]) (S' := []) (fun _ _ => rfl) ?_
          rcases ite_or h with ⟨hc, h⟩ | ⟨_, h⟩
          · have hx : aref [163, 168, 173, 178, 183] 5 p1 = some 162 := by rw [hc]; rfl
            refine ev_bind hx 4 (pc' := 61) (L' := fun q => [some (.inr (.inr 2)), some (.inl p1)]) (S' := fun q => [.inr (.inr q)]) (σ' := fun q => (SH L0, D65)) (fun _ _ => rfl) ?_
            obtain ⟨D66, hx, h⟩ := bnd h
            refine ev_bind hx 8 (pc' := 78) (L' := fun D66 => [some (.inr (.inr 2)), some (.inl p1)]) (S' := fun D66 => []) (σ' := fun D66 => (SH L0, D66)) (fun _ _ => rfl) ?_
            obtain ⟨D67, hx, h⟩ := bnd h
            refine ev_call (e_X4_byLine_182_17 L0 d (by omega) hx) 8 (pc' := 94) (L' := [some (.inr (.inr 2)), some (.inl p1)]) (S' := []) (fun _ _ => rfl) ?_
            obtain ⟨x68, hx, h⟩ := bnd h
            refine ev_call (e_X4_allJumps_182 L0 d (by omega) hx) 6 (pc' := 104) (L' := [some (.inr (.inr 2)), some (.inl p1)]) (S' := [.inr (.inr 2)]) (fun _ _ => rfl) ?_
            obtain ⟨⟨x69, D70⟩, hx, h⟩ := bnd h
            refine ev_call (e_X11_answer L0 d (by omega) hx) 1 (pc' := 107) (L' := [some (.inr (.inr 2)), some (.inl p1)]) (S' := []) (fun _ _ => rfl) ?_
            cases h
            exact ev_ret 1 (fun _ _ => rfl)
          rcases ite_or h with ⟨hc, h⟩ | ⟨_, h⟩
          · have hx : aref [163, 168, 173, 178, 183] 5 p1 = some 167 := by rw [hc]; rfl
            refine ev_bind hx 4 (pc' := 61) (L' := fun q => [some (.inr (.inr 2)), some (.inl p1)]) (S' := fun q => [.inr (.inr q)]) (σ' := fun q => (SH L0, D65)) (fun _ _ => rfl) ?_
            obtain ⟨D71, hx, h⟩ := bnd h
            refine ev_bind hx 8 (pc' := 78) (L' := fun D71 => [some (.inr (.inr 2)), some (.inl p1)]) (S' := fun D71 => []) (σ' := fun D71 => (SH L0, D71)) (fun _ _ => rfl) ?_
            obtain ⟨D72, hx, h⟩ := bnd h
            refine ev_call (e_X4_byLine_182_17 L0 d (by omega) hx) 8 (pc' := 94) (L' := [some (.inr (.inr 2)), some (.inl p1)]) (S' := []) (fun _ _ => rfl) ?_
            obtain ⟨x73, hx, h⟩ := bnd h
            refine ev_call (e_X4_allJumps_182 L0 d (by omega) hx) 6 (pc' := 104) (L' := [some (.inr (.inr 2)), some (.inl p1)]) (S' := [.inr (.inr 2)]) (fun _ _ => rfl) ?_
            obtain ⟨⟨x74, D75⟩, hx, h⟩ := bnd h
            refine ev_call (e_X11_answer L0 d (by omega) hx) 1 (pc' := 107) (L' := [some (.inr (.inr 2)), some (.inl p1)]) (S' := []) (fun _ _ => rfl) ?_
            cases h
            exact ev_ret 1 (fun _ _ => rfl)
          rcases ite_or h with ⟨hc, h⟩ | ⟨_, h⟩
          · have hx : aref [163, 168, 173, 178, 183] 5 p1 = some 172 := by rw [hc]; rfl
            refine ev_bind hx 4 (pc' := 61) (L' := fun q => [some (.inr (.inr 2)), some (.inl p1)]) (S' := fun q => [.inr (.inr q)]) (σ' := fun q => (SH L0, D65)) (fun _ _ => rfl) ?_
            obtain ⟨D76, hx, h⟩ := bnd h
            refine ev_bind hx 8 (pc' := 78) (L' := fun D76 => [some (.inr (.inr 2)), some (.inl p1)]) (S' := fun D76 => []) (σ' := fun D76 => (SH L0, D76)) (fun _ _ => rfl) ?_
            obtain ⟨D77, hx, h⟩ := bnd h
            refine ev_call (e_X4_byLine_182_17 L0 d (by omega) hx) 8 (pc' := 94) (L' := [some (.inr (.inr 2)), some (.inl p1)]) (S' := []) (fun _ _ => rfl) ?_
            obtain ⟨x78, hx, h⟩ := bnd h
            refine ev_call (e_X4_allJumps_182 L0 d (by omega) hx) 6 (pc' := 104) (L' := [some (.inr (.inr 2)), some (.inl p1)]) (S' := [.inr (.inr 2)]) (fun _ _ => rfl) ?_
            obtain ⟨⟨x79, D80⟩, hx, h⟩ := bnd h
            refine ev_call (e_X11_answer L0 d (by omega) hx) 1 (pc' := 107) (L' := [some (.inr (.inr 2)), some (.inl p1)]) (S' := []) (fun _ _ => rfl) ?_
            cases h
            exact ev_ret 1 (fun _ _ => rfl)
          rcases ite_or h with ⟨hc, h⟩ | ⟨_, h⟩
          · have hx : aref [163, 168, 173, 178, 183] 5 p1 = some 177 := by rw [hc]; rfl
            refine ev_bind hx 4 (pc' := 61) (L' := fun q => [some (.inr (.inr 2)), some (.inl p1)]) (S' := fun q => [.inr (.inr q)]) (σ' := fun q => (SH L0, D65)) (fun _ _ => rfl) ?_
            obtain ⟨D81, hx, h⟩ := bnd h
            refine ev_bind hx 8 (pc' := 78) (L' := fun D81 => [some (.inr (.inr 2)), some (.inl p1)]) (S' := fun D81 => []) (σ' := fun D81 => (SH L0, D81)) (fun _ _ => rfl) ?_
            obtain ⟨D82, hx, h⟩ := bnd h
            refine ev_call (e_X4_byLine_182_17 L0 d (by omega) hx) 8 (pc' := 94) (L' := [some (.inr (.inr 2)), some (.inl p1)]) (S' := []) (fun _ _ => rfl) ?_
            obtain ⟨x83, hx, h⟩ := bnd h
            refine ev_call (e_X4_allJumps_182 L0 d (by omega) hx) 6 (pc' := 104) (L' := [some (.inr (.inr 2)), some (.inl p1)]) (S' := [.inr (.inr 2)]) (fun _ _ => rfl) ?_
            obtain ⟨⟨x84, D85⟩, hx, h⟩ := bnd h
            refine ev_call (e_X11_answer L0 d (by omega) hx) 1 (pc' := 107) (L' := [some (.inr (.inr 2)), some (.inl p1)]) (S' := []) (fun _ _ => rfl) ?_
            cases h
            exact ev_ret 1 (fun _ _ => rfl)
          rcases ite_or h with ⟨hc, h⟩ | ⟨_, h⟩
          · have hx : aref [163, 168, 173, 178, 183] 5 p1 = some 182 := by rw [hc]; rfl
            refine ev_bind hx 4 (pc' := 61) (L' := fun q => [some (.inr (.inr 2)), some (.inl p1)]) (S' := fun q => [.inr (.inr q)]) (σ' := fun q => (SH L0, D65)) (fun _ _ => rfl) ?_
            obtain ⟨D86, hx, h⟩ := bnd h
            refine ev_bind hx 8 (pc' := 78) (L' := fun D86 => [some (.inr (.inr 2)), some (.inl p1)]) (S' := fun D86 => []) (σ' := fun D86 => (SH L0, D86)) (fun _ _ => rfl) ?_
            obtain ⟨D87, hx, h⟩ := bnd h
            refine ev_call (e_X4_byLine_182_17 L0 d (by omega) hx) 8 (pc' := 94) (L' := [some (.inr (.inr 2)), some (.inl p1)]) (S' := []) (fun _ _ => rfl) ?_
            obtain ⟨x88, hx, h⟩ := bnd h
            refine ev_call (e_X4_allJumps_182 L0 d (by omega) hx) 6 (pc' := 104) (L' := [some (.inr (.inr 2)), some (.inl p1)]) (S' := [.inr (.inr 2)]) (fun _ _ => rfl) ?_
            obtain ⟨⟨x89, D90⟩, hx, h⟩ := bnd h
            refine ev_call (e_X11_answer L0 d (by omega) hx) 1 (pc' := 107) (L' := [some (.inr (.inr 2)), some (.inl p1)]) (S' := []) (fun _ _ => rfl) ?_
            cases h
            exact ev_ret 1 (fun _ _ => rfl)
          cases h
        · refine ev_iff hc 1 (pc' := 38) (L' := [some (.inr (.inr 2)), some (.inl p1)]) (S' := []) (σ' := (SH L0, D)) (fun _ _ => rfl) ?_
          obtain ⟨⟨x91, D92⟩, hx, h⟩ := bnd h
          refine ev_call (e_X11_refuse L0 d (by omega) hx) 3 (pc' := 43) (L' := [some (.inr (.inr 2)), some (.inl p1)]) (S' := []) (fun _ _ => rfl) ?_
          cases h
          exact ev_ret 1 (fun _ _ => rfl)
      rcases ite_or h with ⟨hc, h⟩ | ⟨_, h⟩
      · have hx : aref [163, 168, 173, 178, 183] 5 p1 = some 177 := by rw [hc]; rfl
        refine ev_bind hx 4 (pc' := 25) (L' := fun q => [some (.inr (.inr 2)), some (.inl p1)]) (S' := fun q => [.inr (.inr q)]) (σ' := fun q => (SH L0, D)) (fun _ _ => rfl) ?_
        obtain ⟨x93, hx, h⟩ := bnd h
        refine ev_call (e_X4_isLine_177_17 L0 d (by omega) hx) 4 (pc' := 35) (L' := [some (.inr (.inr 2)), some (.inl p1)]) (S' := []) (fun _ _ => rfl) ?_
        rcases ite_or h with ⟨hc, h⟩ | ⟨hc, h⟩
        · refine ev_ift hc 1 (pc' := 44) (L' := [some (.inr (.inr 2)), some (.inl p1)]) (S' := []) (σ' := (SH L0, D)) (fun _ _ => rfl) ?_
          obtain ⟨D94, hx, h⟩ := bnd h
          refine ev_call (e_X3_keep L0 d (by omega) hx) 5 (pc' := 55) (L' := [some (.inr (.inr 2)), some (.inl p1)]) (S' := []) (fun _ _ => rfl) ?_
          rcases ite_or h with ⟨hc, h⟩ | ⟨_, h⟩
          · have hx : aref [163, 168, 173, 178, 183] 5 p1 = some 162 := by rw [hc]; rfl
            refine ev_bind hx 4 (pc' := 61) (L' := fun q => [some (.inr (.inr 2)), some (.inl p1)]) (S' := fun q => [.inr (.inr q)]) (σ' := fun q => (SH L0, D94)) (fun _ _ => rfl) ?_
            obtain ⟨D95, hx, h⟩ := bnd h
            refine ev_bind hx 8 (pc' := 78) (L' := fun D95 => [some (.inr (.inr 2)), some (.inl p1)]) (S' := fun D95 => []) (σ' := fun D95 => (SH L0, D95)) (fun _ _ => rfl) ?_
            obtain ⟨D96, hx, h⟩ := bnd h
            refine ev_call (e_X4_byLine_182_17 L0 d (by omega) hx) 8 (pc' := 94) (L' := [some (.inr (.inr 2)), some (.inl p1)]) (S' := []) (fun _ _ => rfl) ?_
            obtain ⟨x97, hx, h⟩ := bnd h
            refine ev_call (e_X4_allJumps_182 L0 d (by omega) hx) 6 (pc' := 104) (L' := [some (.inr (.inr 2)), some (.inl p1)]) (S' := [.inr (.inr 2)]) (fun _ _ => rfl) ?_
            obtain ⟨⟨x98, D99⟩, hx, h⟩ := bnd h
            refine ev_call (e_X11_answer L0 d (by omega) hx) 1 (pc' := 107) (L' := [some (.inr (.inr 2)), some (.inl p1)]) (S' := []) (fun _ _ => rfl) ?_
            cases h
            exact ev_ret 1 (fun _ _ => rfl)
          rcases ite_or h with ⟨hc, h⟩ | ⟨_, h⟩
          · have hx : aref [163, 168, 173, 178, 183] 5 p1 = some 167 := by rw [hc]; rfl
            refine ev_bind hx 4 (pc' := 61) (L' := fun q => [some (.inr (.inr 2)), some (.inl p1)]) (S' := fun q => [.inr (.inr q)]) (σ' := fun q => (SH L0, D94)) (fun _ _ => rfl) ?_
            obtain ⟨D100, hx, h⟩ := bnd h
            refine ev_bind hx 8 (pc' := 78) (L' := fun D100 => [some (.inr (.inr 2)), some (.inl p1)]) (S' := fun D100 => []) (σ' := fun D100 => (SH L0, D100)) (fun _ _ => rfl) ?_
            obtain ⟨D101, hx, h⟩ := bnd h
            refine ev_call (e_X4_byLine_182_17 L0 d (by omega) hx) 8 (pc' := 94) (L' := [some (.inr (.inr 2)), some (.inl p1)]) (S' := []) (fun _ _ => rfl) ?_
            obtain ⟨x102, hx, h⟩ := bnd h
            refine ev_call (e_X4_allJumps_182 L0 d (by omega) hx) 6 (pc' := 104) (L' := [some (.inr (.inr 2)), some (.inl p1)]) (S' := [.inr (.inr 2)]) (fun _ _ => rfl) ?_
            obtain ⟨⟨x103, D104⟩, hx, h⟩ := bnd h
            refine ev_call (e_X11_answer L0 d (by omega) hx) 1 (pc' := 107) (L' := [some (.inr (.inr 2)), some (.inl p1)]) (S' := []) (fun _ _ => rfl) ?_
            cases h
            exact ev_ret 1 (fun _ _ => rfl)
          rcases ite_or h with ⟨hc, h⟩ | ⟨_, h⟩
          · have hx : aref [163, 168, 173, 178, 183] 5 p1 = some 172 := by rw [hc]; rfl
            refine ev_bind hx 4 (pc' := 61) (L' := fun q => [some (.inr (.inr 2)), some (.inl p1)]) (S' := fun q => [.inr (.inr q)]) (σ' := fun q => (SH L0, D94)) (fun _ _ => rfl) ?_
            obtain ⟨D105, hx, h⟩ := bnd h
            refine ev_bind hx 8 (pc' := 78) (L' := fun D105 => [some (.inr (.inr 2)), some (.inl p1)]) (S' := fun D105 => []) (σ' := fun D105 => (SH L0, D105)) (fun _ _ => rfl) ?_
            obtain ⟨D106, hx, h⟩ := bnd h
            refine ev_call (e_X4_byLine_182_17 L0 d (by omega) hx) 8 (pc' := 94) (L' := [some (.inr (.inr 2)), some (.inl p1)]) (S' := []) (fun _ _ => rfl) ?_
            obtain ⟨x107, hx, h⟩ := bnd h
            refine ev_call (e_X4_allJumps_182 L0 d (by omega) hx) 6 (pc' := 104) (L' := [some (.inr (.inr 2)), some (.inl p1)]) (S' := [.inr (.inr 2)]) (fun _ _ => rfl) ?_
            obtain ⟨⟨x108, D109⟩, hx, h⟩ := bnd h
            refine ev_call (e_X11_answer L0 d (by omega) hx) 1 (pc' := 107) (L' := [some (.inr (.inr 2)), some (.inl p1)]) (S' := []) (fun _ _ => rfl) ?_
            cases h
            exact ev_ret 1 (fun _ _ => rfl)
          rcases ite_or h with ⟨hc, h⟩ | ⟨_, h⟩
          · have hx : aref [163, 168, 173, 178, 183] 5 p1 = some 177 := by rw [hc]; rfl
            refine ev_bind hx 4 (pc' := 61) (L' := fun q => [some (.inr (.inr 2)), some (.inl p1)]) (S' := fun q => [.inr (.inr q)]) (σ' := fun q => (SH L0, D94)) (fun _ _ => rfl) ?_
            obtain ⟨D110, hx, h⟩ := bnd h
            refine ev_bind hx 8 (pc' := 78) (L' := fun D110 => [some (.inr (.inr 2)), some (.inl p1)]) (S' := fun D110 => []) (σ' := fun D110 => (SH L0, D110)) (fun _ _ => rfl) ?_
            obtain ⟨D111, hx, h⟩ := bnd h
            refine ev_call (e_X4_byLine_182_17 L0 d (by omega) hx) 8 (pc' := 94) (L' := [some (.inr (.inr 2)), some (.inl p1)]) (S' := []) (fun _ _ => rfl) ?_
            obtain ⟨x112, hx, h⟩ := bnd h
            refine ev_call (e_X4_allJumps_182 L0 d (by omega) hx) 6 (pc' := 104) (L' := [some (.inr (.inr 2)), some (.inl p1)]) (S' := [.inr (.inr 2)]) (fun _ _ => rfl) ?_
            obtain ⟨⟨x113, D114⟩, hx, h⟩ := bnd h
            refine ev_call (e_X11_answer L0 d (by omega) hx) 1 (pc' := 107) (L' := [some (.inr (.inr 2)), some (.inl p1)]) (S' := []) (fun _ _ => rfl) ?_
            cases h
            exact ev_ret 1 (fun _ _ => rfl)
          rcases ite_or h with ⟨hc, h⟩ | ⟨_, h⟩
          · have hx : aref [163, 168, 173, 178, 183] 5 p1 = some 182 := by rw [hc]; rfl
            refine ev_bind hx 4 (pc' := 61) (L' := fun q => [some (.inr (.inr 2)), some (.inl p1)]) (S' := fun q => [.inr (.inr q)]) (σ' := fun q => (SH L0, D94)) (fun _ _ => rfl) ?_
            obtain ⟨D115, hx, h⟩ := bnd h
            refine ev_bind hx 8 (pc' := 78) (L' := fun D115 => [some (.inr (.inr 2)), some (.inl p1)]) (S' := fun D115 => []) (σ' := fun D115 => (SH L0, D115)) (fun _ _ => rfl) ?_
            obtain ⟨D116, hx, h⟩ := bnd h
            refine ev_call (e_X4_byLine_182_17 L0 d (by omega) hx) 8 (pc' := 94) (L' := [some (.inr (.inr 2)), some (.inl p1)]) (S' := []) (fun _ _ => rfl) ?_
            obtain ⟨x117, hx, h⟩ := bnd h
            refine ev_call (e_X4_allJumps_182 L0 d (by omega) hx) 6 (pc' := 104) (L' := [some (.inr (.inr 2)), some (.inl p1)]) (S' := [.inr (.inr 2)]) (fun _ _ => rfl) ?_
            obtain ⟨⟨x118, D119⟩, hx, h⟩ := bnd h
            refine ev_call (e_X11_answer L0 d (by omega) hx) 1 (pc' := 107) (L' := [some (.inr (.inr 2)), some (.inl p1)]) (S' := []) (fun _ _ => rfl) ?_
            cases h
            exact ev_ret 1 (fun _ _ => rfl)
          cases h
        · refine ev_iff hc 1 (pc' := 38) (L' := [some (.inr (.inr 2)), some (.inl p1)]) (S' := []) (σ' := (SH L0, D)) (fun _ _ => rfl) ?_
          obtain ⟨⟨x120, D121⟩, hx, h⟩ := bnd h
          refine ev_call (e_X11_refuse L0 d (by omega) hx) 3 (pc' := 43) (L' := [some (.inr (.inr 2)), some (.inl p1)]) (S' := []) (fun _ _ => rfl) ?_
          cases h
          exact ev_ret 1 (fun _ _ => rfl)
      rcases ite_or h with ⟨hc, h⟩ | ⟨_, h⟩
      · have hx : aref [163, 168, 173, 178, 183] 5 p1 = some 182 := by rw [hc]; rfl
        refine ev_bind hx 4 (pc' := 25) (L' := fun q => [some (.inr (.inr 2)), some (.inl p1)]) (S' := fun q => [.inr (.inr q)]) (σ' := fun q => (SH L0, D)) (fun _ _ => rfl) ?_
        obtain ⟨x122, hx, h⟩ := bnd h
        refine ev_call (e_X4_isLine_182_17 L0 d (by omega) hx) 4 (pc' := 35) (L' := [some (.inr (.inr 2)), some (.inl p1)]) (S' := []) (fun _ _ => rfl) ?_
        rcases ite_or h with ⟨hc, h⟩ | ⟨hc, h⟩
        · refine ev_ift hc 1 (pc' := 44) (L' := [some (.inr (.inr 2)), some (.inl p1)]) (S' := []) (σ' := (SH L0, D)) (fun _ _ => rfl) ?_
          obtain ⟨D123, hx, h⟩ := bnd h
          refine ev_call (e_X3_keep L0 d (by omega) hx) 5 (pc' := 55) (L' := [some (.inr (.inr 2)), some (.inl p1)]) (S' := []) (fun _ _ => rfl) ?_
          rcases ite_or h with ⟨hc, h⟩ | ⟨_, h⟩
          · have hx : aref [163, 168, 173, 178, 183] 5 p1 = some 162 := by rw [hc]; rfl
            refine ev_bind hx 4 (pc' := 61) (L' := fun q => [some (.inr (.inr 2)), some (.inl p1)]) (S' := fun q => [.inr (.inr q)]) (σ' := fun q => (SH L0, D123)) (fun _ _ => rfl) ?_
            obtain ⟨D124, hx, h⟩ := bnd h
            refine ev_bind hx 8 (pc' := 78) (L' := fun D124 => [some (.inr (.inr 2)), some (.inl p1)]) (S' := fun D124 => []) (σ' := fun D124 => (SH L0, D124)) (fun _ _ => rfl) ?_
            obtain ⟨D125, hx, h⟩ := bnd h
            refine ev_call (e_X4_byLine_182_17 L0 d (by omega) hx) 8 (pc' := 94) (L' := [some (.inr (.inr 2)), some (.inl p1)]) (S' := []) (fun _ _ => rfl) ?_
            obtain ⟨x126, hx, h⟩ := bnd h
            refine ev_call (e_X4_allJumps_182 L0 d (by omega) hx) 6 (pc' := 104) (L' := [some (.inr (.inr 2)), some (.inl p1)]) (S' := [.inr (.inr 2)]) (fun _ _ => rfl) ?_
            obtain ⟨⟨x127, D128⟩, hx, h⟩ := bnd h
            refine ev_call (e_X11_answer L0 d (by omega) hx) 1 (pc' := 107) (L' := [some (.inr (.inr 2)), some (.inl p1)]) (S' := []) (fun _ _ => rfl) ?_
            cases h
            exact ev_ret 1 (fun _ _ => rfl)
          rcases ite_or h with ⟨hc, h⟩ | ⟨_, h⟩
          · have hx : aref [163, 168, 173, 178, 183] 5 p1 = some 167 := by rw [hc]; rfl
            refine ev_bind hx 4 (pc' := 61) (L' := fun q => [some (.inr (.inr 2)), some (.inl p1)]) (S' := fun q => [.inr (.inr q)]) (σ' := fun q => (SH L0, D123)) (fun _ _ => rfl) ?_
            obtain ⟨D129, hx, h⟩ := bnd h
            refine ev_bind hx 8 (pc' := 78) (L' := fun D129 => [some (.inr (.inr 2)), some (.inl p1)]) (S' := fun D129 => []) (σ' := fun D129 => (SH L0, D129)) (fun _ _ => rfl) ?_
            obtain ⟨D130, hx, h⟩ := bnd h
            refine ev_call (e_X4_byLine_182_17 L0 d (by omega) hx) 8 (pc' := 94) (L' := [some (.inr (.inr 2)), some (.inl p1)]) (S' := []) (fun _ _ => rfl) ?_
            obtain ⟨x131, hx, h⟩ := bnd h
            refine ev_call (e_X4_allJumps_182 L0 d (by omega) hx) 6 (pc' := 104) (L' := [some (.inr (.inr 2)), some (.inl p1)]) (S' := [.inr (.inr 2)]) (fun _ _ => rfl) ?_
            obtain ⟨⟨x132, D133⟩, hx, h⟩ := bnd h
            refine ev_call (e_X11_answer L0 d (by omega) hx) 1 (pc' := 107) (L' := [some (.inr (.inr 2)), some (.inl p1)]) (S' := []) (fun _ _ => rfl) ?_
            cases h
            exact ev_ret 1 (fun _ _ => rfl)
          rcases ite_or h with ⟨hc, h⟩ | ⟨_, h⟩
          · have hx : aref [163, 168, 173, 178, 183] 5 p1 = some 172 := by rw [hc]; rfl
            refine ev_bind hx 4 (pc' := 61) (L' := fun q => [some (.inr (.inr 2)), some (.inl p1)]) (S' := fun q => [.inr (.inr q)]) (σ' := fun q => (SH L0, D123)) (fun _ _ => rfl) ?_
            obtain ⟨D134, hx, h⟩ := bnd h
            refine ev_bind hx 8 (pc' := 78) (L' := fun D134 => [some (.inr (.inr 2)), some (.inl p1)]) (S' := fun D134 => []) (σ' := fun D134 => (SH L0, D134)) (fun _ _ => rfl) ?_
            obtain ⟨D135, hx, h⟩ := bnd h
            refine ev_call (e_X4_byLine_182_17 L0 d (by omega) hx) 8 (pc' := 94) (L' := [some (.inr (.inr 2)), some (.inl p1)]) (S' := []) (fun _ _ => rfl) ?_
            obtain ⟨x136, hx, h⟩ := bnd h
            refine ev_call (e_X4_allJumps_182 L0 d (by omega) hx) 6 (pc' := 104) (L' := [some (.inr (.inr 2)), some (.inl p1)]) (S' := [.inr (.inr 2)]) (fun _ _ => rfl) ?_
            obtain ⟨⟨x137, D138⟩, hx, h⟩ := bnd h
            refine ev_call (e_X11_answer L0 d (by omega) hx) 1 (pc' := 107) (L' := [some (.inr (.inr 2)), some (.inl p1)]) (S' := []) (fun _ _ => rfl) ?_
            cases h
            exact ev_ret 1 (fun _ _ => rfl)
          rcases ite_or h with ⟨hc, h⟩ | ⟨_, h⟩
          · have hx : aref [163, 168, 173, 178, 183] 5 p1 = some 177 := by rw [hc]; rfl
            refine ev_bind hx 4 (pc' := 61) (L' := fun q => [some (.inr (.inr 2)), some (.inl p1)]) (S' := fun q => [.inr (.inr q)]) (σ' := fun q => (SH L0, D123)) (fun _ _ => rfl) ?_
            obtain ⟨D139, hx, h⟩ := bnd h
            refine ev_bind hx 8 (pc' := 78) (L' := fun D139 => [some (.inr (.inr 2)), some (.inl p1)]) (S' := fun D139 => []) (σ' := fun D139 => (SH L0, D139)) (fun _ _ => rfl) ?_
            obtain ⟨D140, hx, h⟩ := bnd h
            refine ev_call (e_X4_byLine_182_17 L0 d (by omega) hx) 8 (pc' := 94) (L' := [some (.inr (.inr 2)), some (.inl p1)]) (S' := []) (fun _ _ => rfl) ?_
            obtain ⟨x141, hx, h⟩ := bnd h
            refine ev_call (e_X4_allJumps_182 L0 d (by omega) hx) 6 (pc' := 104) (L' := [some (.inr (.inr 2)), some (.inl p1)]) (S' := [.inr (.inr 2)]) (fun _ _ => rfl) ?_
            obtain ⟨⟨x142, D143⟩, hx, h⟩ := bnd h
            refine ev_call (e_X11_answer L0 d (by omega) hx) 1 (pc' := 107) (L' := [some (.inr (.inr 2)), some (.inl p1)]) (S' := []) (fun _ _ => rfl) ?_
            cases h
            exact ev_ret 1 (fun _ _ => rfl)
          rcases ite_or h with ⟨hc, h⟩ | ⟨_, h⟩
          · have hx : aref [163, 168, 173, 178, 183] 5 p1 = some 182 := by rw [hc]; rfl
            refine ev_bind hx 4 (pc' := 61) (L' := fun q => [some (.inr (.inr 2)), some (.inl p1)]) (S' := fun q => [.inr (.inr q)]) (σ' := fun q => (SH L0, D123)) (fun _ _ => rfl) ?_
            obtain ⟨D144, hx, h⟩ := bnd h
            refine ev_bind hx 8 (pc' := 78) (L' := fun D144 => [some (.inr (.inr 2)), some (.inl p1)]) (S' := fun D144 => []) (σ' := fun D144 => (SH L0, D144)) (fun _ _ => rfl) ?_
            obtain ⟨D145, hx, h⟩ := bnd h
            refine ev_call (e_X4_byLine_182_17 L0 d (by omega) hx) 8 (pc' := 94) (L' := [some (.inr (.inr 2)), some (.inl p1)]) (S' := []) (fun _ _ => rfl) ?_
            obtain ⟨x146, hx, h⟩ := bnd h
            refine ev_call (e_X4_allJumps_182 L0 d (by omega) hx) 6 (pc' := 104) (L' := [some (.inr (.inr 2)), some (.inl p1)]) (S' := [.inr (.inr 2)]) (fun _ _ => rfl) ?_
            obtain ⟨⟨x147, D148⟩, hx, h⟩ := bnd h
            refine ev_call (e_X11_answer L0 d (by omega) hx) 1 (pc' := 107) (L' := [some (.inr (.inr 2)), some (.inl p1)]) (S' := []) (fun _ _ => rfl) ?_
            cases h
            exact ev_ret 1 (fun _ _ => rfl)
          cases h
        · refine ev_iff hc 1 (pc' := 38) (L' := [some (.inr (.inr 2)), some (.inl p1)]) (S' := []) (σ' := (SH L0, D)) (fun _ _ => rfl) ?_
          obtain ⟨⟨x149, D150⟩, hx, h⟩ := bnd h
          refine ev_call (e_X11_refuse L0 d (by omega) hx) 3 (pc' := 43) (L' := [some (.inr (.inr 2)), some (.inl p1)]) (S' := []) (fun _ _ => rfl) ?_
          cases h
          exact ev_ret 1 (fun _ _ => rfl)
      cases h
set_option maxRecDepth 100000 in
set_option maxHeartbeats 4000000 in
theorem e_X11_isPlace (L0 d : Nat) (hd : 1 ≤ d) {p1 : Int} {D : DT} {t0 : Int} (h : m_X11_isPlace p1 D = some t0) : Ret mtab d 157 [.inr (.inr 2), .inl p1] (SH L0, D) (some (.inl t0), (SH L0, D)) := by
  obtain ⟨d, rfl⟩ : ∃ e, d = e + 1 := ⟨d - 1, by omega⟩
  refine Ret.of (code := k_X11_isPlace) (ml := 2) rfl ?_
  show EvF mtab d k_X11_isPlace 0 [some (.inr (.inr 2)), some (.inl p1)] [] (SH L0, D) (some (.inl t0), (SH L0, D))
  unfold m_X11_isPlace at h
  rcases ite_or h with ⟨hc, h⟩ | ⟨hc, h⟩
  · refine ev_ift hc 2 (pc' := 19) (L' := [some (.inr (.inr 2)), some (.inl p1)]) (S' := []) (σ' := (SH L0, D)) (fun _ _ => rfl) ?_
    cases h
    exact ev_ret 2 (fun _ _ => rfl)
  · refine ev_iff hc 2 (pc' := 4) (L' := [some (.inr (.inr 2)), some (.inl p1)]) (S' := []) (σ' := (SH L0, D)) (fun _ _ => rfl) ?_
    rcases ite_or h with ⟨hc, h⟩ | ⟨hc, h⟩
    · refine ev_ift hc 5 (pc' := 15) (L' := [some (.inr (.inr 2)), some (.inl p1)]) (S' := []) (σ' := (SH L0, D)) (fun _ _ => rfl) ?_
      cases h
      exact ev_ret 3 (fun _ _ => rfl)
    · refine ev_iff hc 5 (pc' := 19) (L' := [some (.inr (.inr 2)), some (.inl p1)]) (S' := []) (σ' := (SH L0, D)) (fun _ _ => rfl) ?_
      cases h
      exact ev_ret 2 (fun _ _ => rfl)
set_option maxRecDepth 100000 in
set_option maxHeartbeats 4000000 in
theorem e_X11_move (L0 d : Nat) (hd : 6 ≤ d) {p1 p2 : Int} {D : DT} {t0 : (Int × DT)} (h : m_X11_move p1 p2 D = some t0) : Ret mtab d 146 [.inr (.inr 2), .inl p1, .inl p2] (SH L0, D) (some (.inl t0.1), (SH L0, t0.2)) := by
  obtain ⟨d, rfl⟩ : ∃ e, d = e + 1 := ⟨d - 1, by omega⟩
  refine Ret.of (code := k_X11_move) (ml := 4) rfl ?_
  show EvF mtab d k_X11_move 0 [some (.inr (.inr 2)), some (.inl p1), some (.inl p2), none] [] (SH L0, D) (some (.inl t0.1), (SH L0, t0.2))
  unfold m_X11_move at h
  obtain ⟨x1, hx, h⟩ := bnd h
  refine ev_call (e_X11_isPlace L0 d (by omega) hx) 3 (pc' := 5) (L' := [some (.inr (.inr 2)), some (.inl p1), some (.inl p2), none]) (S' := []) (fun _ _ => rfl) ?_
  rcases ite_or h with ⟨hc, h⟩ | ⟨hc, h⟩
  · refine ev_ift hc 1 (pc' := 8) (L' := [some (.inr (.inr 2)), some (.inl p1), some (.inl p2), none]) (S' := []) (σ' := (SH L0, D)) (fun _ _ => rfl) ?_
    obtain ⟨⟨x2, D3⟩, hx, h⟩ := bnd h
    refine ev_call (e_X11_refuse L0 d (by omega) hx) 3 (pc' := 13) (L' := [some (.inr (.inr 2)), some (.inl p1), some (.inl p2), none]) (S' := []) (fun _ _ => rfl) ?_
    cases h
    exact ev_ret 1 (fun _ _ => rfl)
  · refine ev_iff hc 1 (pc' := 14) (L' := [some (.inr (.inr 2)), some (.inl p1), some (.inl p2), none]) (S' := []) (σ' := (SH L0, D)) (fun _ _ => rfl) ?_
    obtain ⟨x4, hx, h⟩ := bnd h
    refine ev_call (e_X11_isBlock L0 d (by omega) hx) 3 (pc' := 19) (L' := [some (.inr (.inr 2)), some (.inl p1), some (.inl p2), none]) (S' := []) (fun _ _ => rfl) ?_
    rcases ite_or h with ⟨hc, h⟩ | ⟨hc, h⟩
    · refine ev_ift hc 1 (pc' := 22) (L' := [some (.inr (.inr 2)), some (.inl p1), some (.inl p2), none]) (S' := []) (σ' := (SH L0, D)) (fun _ _ => rfl) ?_
      obtain ⟨⟨x5, D6⟩, hx, h⟩ := bnd h
      refine ev_call (e_X11_refuse L0 d (by omega) hx) 3 (pc' := 27) (L' := [some (.inr (.inr 2)), some (.inl p1), some (.inl p2), none]) (S' := []) (fun _ _ => rfl) ?_
      cases h
      exact ev_ret 1 (fun _ _ => rfl)
    · refine ev_iff hc 1 (pc' := 28) (L' := [some (.inr (.inr 2)), some (.inl p1), some (.inl p2), none]) (S' := []) (σ' := (SH L0, D)) (fun _ _ => rfl) ?_
      obtain ⟨x7, hx, h⟩ := bnd h
      refine ev_bind hx 7 (pc' := 39) (L' := fun x7 => [some (.inr (.inr 2)), some (.inl p1), some (.inl p2), none]) (S' := fun x7 => [.inl x7]) (σ' := fun x7 => (SH L0, D)) (fun _ _ => rfl) ?_
      rcases ite_or h with ⟨hc, h⟩ | ⟨hc, h⟩
      · refine ev_ift hc 4 (pc' := 45) (L' := [some (.inr (.inr 2)), some (.inl p1), some (.inl p2), some (.inl x7)]) (S' := []) (σ' := (SH L0, D)) (fun _ _ => rfl) ?_
        obtain ⟨⟨x8, D9⟩, hx, h⟩ := bnd h
        refine ev_call (e_X11_refuse L0 d (by omega) hx) 3 (pc' := 50) (L' := [some (.inr (.inr 2)), some (.inl p1), some (.inl p2), some (.inl x7)]) (S' := []) (fun _ _ => rfl) ?_
        cases h
        exact ev_ret 1 (fun _ _ => rfl)
      · refine ev_iff hc 4 (pc' := 51) (L' := [some (.inr (.inr 2)), some (.inl p1), some (.inl p2), some (.inl x7)]) (S' := []) (σ' := (SH L0, D)) (fun _ _ => rfl) ?_
        obtain ⟨D10, hx, h⟩ := bnd h
        refine ev_call (e_X3_keep L0 d (by omega) hx) 5 (pc' := 62) (L' := [some (.inr (.inr 2)), some (.inl p1), some (.inl p2), some (.inl x7)]) (S' := []) (fun _ _ => rfl) ?_
        obtain ⟨D11, hx, h⟩ := bnd h
        refine ev_call (e_X7_shift L0 d (by omega) hx) 5 (pc' := 71) (L' := [some (.inr (.inr 2)), some (.inl p1), some (.inl p2), some (.inl x7)]) (S' := []) (fun _ _ => rfl) ?_
        obtain ⟨D12, hx, h⟩ := bnd h
        refine ev_call (e_X4_byLine_182_17 L0 d (by omega) hx) 8 (pc' := 87) (L' := [some (.inr (.inr 2)), some (.inl p1), some (.inl p2), some (.inl x7)]) (S' := []) (fun _ _ => rfl) ?_
        obtain ⟨x13, hx, h⟩ := bnd h
        refine ev_call (e_X4_allJumps_182 L0 d (by omega) hx) 6 (pc' := 97) (L' := [some (.inr (.inr 2)), some (.inl p1), some (.inl p2), some (.inl x7)]) (S' := [.inr (.inr 2)]) (fun _ _ => rfl) ?_
        obtain ⟨⟨x14, D15⟩, hx, h⟩ := bnd h
        refine ev_call (e_X11_answer L0 d (by omega) hx) 1 (pc' := 100) (L' := [some (.inr (.inr 2)), some (.inl p1), some (.inl p2), some (.inl x7)]) (S' := []) (fun _ _ => rfl) ?_
        cases h
        exact ev_ret 1 (fun _ _ => rfl)
set_option maxRecDepth 100000 in
set_option maxHeartbeats 4000000 in
theorem e_X11_undo (L0 d : Nat) (hd : 7 ≤ d) {D : DT} {t0 : (Int × DT)} (h : m_X11_undo  D = some t0) : Ret mtab d 147 [.inr (.inr 2)] (SH L0, D) (some (.inl t0.1), (SH L0, t0.2)) := by
  obtain ⟨d, rfl⟩ : ∃ e, d = e + 1 := ⟨d - 1, by omega⟩
  refine Ret.of (code := k_X11_undo) (ml := 1) rfl ?_
  show EvF mtab d k_X11_undo 0 [some (.inr (.inr 2))] [] (SH L0, D) (some (.inl t0.1), (SH L0, t0.2))
  unfold m_X11_undo at h
  rcases ite_or h with ⟨hc, h⟩ | ⟨hc, h⟩
  · refine ev_ift hc 4 (pc' := 10) (L' := [some (.inr (.inr 2))]) (S' := []) (σ' := (SH L0, D)) (fun _ _ => rfl) ?_
    obtain ⟨⟨x1, D2⟩, hx, h⟩ := bnd h
    refine ev_call (e_X11_refuse L0 d (by omega) hx) 3 (pc' := 15) (L' := [some (.inr (.inr 2))]) (S' := []) (fun _ _ => rfl) ?_
    cases h
    exact ev_ret 1 (fun _ _ => rfl)
  · refine ev_iff hc 4 (pc' := 16) (L' := [some (.inr (.inr 2))]) (S' := []) (σ' := (SH L0, D)) (fun _ _ => rfl) ?_
    obtain ⟨D3, hx, h⟩ := bnd h
    refine ev_call (e_X3_bringBack L0 d (by omega) hx) 5 (pc' := 27) (L' := [some (.inr (.inr 2))]) (S' := []) (fun _ _ => rfl) ?_
    obtain ⟨D4, hx, h⟩ := bnd h
    refine ev_call (e_X11_workOut L0 d (by omega) hx) 2 (pc' := 31) (L' := [some (.inr (.inr 2))]) (S' := []) (fun _ _ => rfl) ?_
    obtain ⟨⟨x5, D6⟩, hx, h⟩ := bnd h
    refine ev_call (e_X11_answer L0 d (by omega) hx) 5 (pc' := 42) (L' := [some (.inr (.inr 2))]) (S' := []) (fun _ _ => rfl) ?_
    cases h
    exact ev_ret 1 (fun _ _ => rfl)
set_option maxRecDepth 100000 in
set_option maxHeartbeats 4000000 in
theorem e_X11_moved (L0 d : Nat) (hd : 5 ≤ d) {p1 p2 : Int} {D : DT} {t0 : (Int × DT)} (h : m_X11_moved p1 p2 D = some t0) : Ret mtab d 148 [.inr (.inr 2), .inl p1, .inl p2] (SH L0, D) (some (.inl t0.1), (SH L0, t0.2)) := by
  obtain ⟨d, rfl⟩ : ∃ e, d = e + 1 := ⟨d - 1, by omega⟩
  refine Ret.of (code := k_X11_moved) (ml := 3) rfl ?_
  show EvF mtab d k_X11_moved 0 [some (.inr (.inr 2)), some (.inl p1), some (.inl p2)] [] (SH L0, D) (some (.inl t0.1), (SH L0, t0.2))
  unfold m_X11_moved at h
  obtain ⟨x1, hx, h⟩ := bnd h
  refine ev_call (e_X11_isPlace L0 d (by omega) hx) 3 (pc' := 5) (L' := [some (.inr (.inr 2)), some (.inl p1), some (.inl p2)]) (S' := []) (fun _ _ => rfl) ?_
  rcases ite_or h with ⟨hc, h⟩ | ⟨hc, h⟩
  · refine ev_ift hc 1 (pc' := 8) (L' := [some (.inr (.inr 2)), some (.inl p1), some (.inl p2)]) (S' := []) (σ' := (SH L0, D)) (fun _ _ => rfl) ?_
    obtain ⟨⟨x2, D3⟩, hx, h⟩ := bnd h
    refine ev_call (e_X11_refuse L0 d (by omega) hx) 3 (pc' := 13) (L' := [some (.inr (.inr 2)), some (.inl p1), some (.inl p2)]) (S' := []) (fun _ _ => rfl) ?_
    cases h
    exact ev_ret 1 (fun _ _ => rfl)
  · refine ev_iff hc 1 (pc' := 14) (L' := [some (.inr (.inr 2)), some (.inl p1), some (.inl p2)]) (S' := []) (σ' := (SH L0, D)) (fun _ _ => rfl) ?_
    obtain ⟨x4, hx, h⟩ := bnd h
    refine ev_call (e_X11_isBlock L0 d (by omega) hx) 3 (pc' := 19) (L' := [some (.inr (.inr 2)), some (.inl p1), some (.inl p2)]) (S' := []) (fun _ _ => rfl) ?_
    rcases ite_or h with ⟨hc, h⟩ | ⟨hc, h⟩
    · refine ev_ift hc 1 (pc' := 22) (L' := [some (.inr (.inr 2)), some (.inl p1), some (.inl p2)]) (S' := []) (σ' := (SH L0, D)) (fun _ _ => rfl) ?_
      obtain ⟨⟨x5, D6⟩, hx, h⟩ := bnd h
      refine ev_call (e_X11_refuse L0 d (by omega) hx) 3 (pc' := 27) (L' := [some (.inr (.inr 2)), some (.inl p1), some (.inl p2)]) (S' := []) (fun _ _ => rfl) ?_
      cases h
      exact ev_ret 1 (fun _ _ => rfl)
    · refine ev_iff hc 1 (pc' := 28) (L' := [some (.inr (.inr 2)), some (.inl p1), some (.inl p2)]) (S' := []) (σ' := (SH L0, D)) (fun _ _ => rfl) ?_
      obtain ⟨D7, hx, h⟩ := bnd h
      refine ev_call (e_X6_leaveOut L0 d (by omega) hx) 4 (pc' := 36) (L' := [some (.inr (.inr 2)), some (.inl p1), some (.inl p2)]) (S' := []) (fun _ _ => rfl) ?_
      obtain ⟨x8, hx, h⟩ := bnd h
      refine ev_call (e_X6_jumpsAt L0 d (by omega) hx) 6 (pc' := 46) (L' := [some (.inr (.inr 2)), some (.inl p1), some (.inl p2)]) (S' := [.inr (.inr 2)]) (fun _ _ => rfl) ?_
      obtain ⟨⟨x9, D10⟩, hx, h⟩ := bnd h
      refine ev_call (e_X11_answer L0 d (by omega) hx) 1 (pc' := 49) (L' := [some (.inr (.inr 2)), some (.inl p1), some (.inl p2)]) (S' := []) (fun _ _ => rfl) ?_
      cases h
      exact ev_ret 1 (fun _ _ => rfl)
set_option maxRecDepth 100000 in
set_option maxHeartbeats 4000000 in
theorem e_X11_best (L0 d : Nat) (hd : 6 ≤ d) {p1 : Int} {D : DT} {t0 : (Int × DT)} (h : m_X11_best p1 D = some t0) : Ret mtab d 149 [.inr (.inr 2), .inl p1] (SH L0, D) (some (.inl t0.1), (SH L0, t0.2)) := by
  obtain ⟨d, rfl⟩ : ∃ e, d = e + 1 := ⟨d - 1, by omega⟩
  refine Ret.of (code := k_X11_best) (ml := 2) rfl ?_
  show EvF mtab d k_X11_best 0 [some (.inr (.inr 2)), some (.inl p1)] [] (SH L0, D) (some (.inl t0.1), (SH L0, t0.2))
  unfold m_X11_best at h
  rcases ite_or h with ⟨hc, h⟩ | ⟨hc, h⟩
  · refine ev_ift hc 2 (pc' := 9) (L' := [some (.inr (.inr 2)), some (.inl p1)]) (S' := []) (σ' := (SH L0, D)) (fun _ _ => rfl) ?_
    obtain ⟨⟨x1, D2⟩, hx, h⟩ := bnd h
    refine ev_call (e_X11_refuse L0 d (by omega) hx) 3 (pc' := 14) (L' := [some (.inr (.inr 2)), some (.inl p1)]) (S' := []) (fun _ _ => rfl) ?_
    cases h
    exact ev_ret 1 (fun _ _ => rfl)
  · refine ev_iff hc 2 (pc' := 4) (L' := [some (.inr (.inr 2)), some (.inl p1)]) (S' := []) (σ' := (SH L0, D)) (fun _ _ => rfl) ?_
    rcases ite_or h with ⟨hc, h⟩ | ⟨hc, h⟩
    · refine ev_ift hc 3 (pc' := 9) (L' := [some (.inr (.inr 2)), some (.inl p1)]) (S' := []) (σ' := (SH L0, D)) (fun _ _ => rfl) ?_
      obtain ⟨⟨x3, D4⟩, hx, h⟩ := bnd h
      refine ev_call (e_X11_refuse L0 d (by omega) hx) 3 (pc' := 14) (L' := [some (.inr (.inr 2)), some (.inl p1)]) (S' := []) (fun _ _ => rfl) ?_
      cases h
      exact ev_ret 1 (fun _ _ => rfl)
    · refine ev_iff hc 3 (pc' := 15) (L' := [some (.inr (.inr 2)), some (.inl p1)]) (S' := []) (σ' := (SH L0, D)) (fun _ _ => rfl) ?_
      obtain ⟨x5, hx, h⟩ := bnd h
      refine ev_call (e_X4_allJumps_182 L0 d (by omega) hx) 7 (pc' := 28) (L' := [some (.inr (.inr 2)), some (.inl p1)]) (S' := [.inr (.inr 159)]) (fun _ _ => rfl) ?_
      obtain ⟨D6, hx, h⟩ := bnd h
      refine ev_call (e_X6_seekBest L0 d (by omega) hx) 1 (pc' := 31) (L' := [some (.inr (.inr 2)), some (.inl p1)]) (S' := []) (fun _ _ => rfl) ?_
      rcases ite_or h with ⟨hc, h⟩ | ⟨hc, h⟩
      · refine ev_ift hc 5 (pc' := 42) (L' := [some (.inr (.inr 2)), some (.inl p1)]) (S' := []) (σ' := (SH L0, D6)) (fun _ _ => rfl) ?_
        obtain ⟨⟨x7, D8⟩, hx, h⟩ := bnd h
        refine ev_call (e_X11_refuse L0 d (by omega) hx) 3 (pc' := 47) (L' := [some (.inr (.inr 2)), some (.inl p1)]) (S' := []) (fun _ _ => rfl) ?_
        cases h
        exact ev_ret 1 (fun _ _ => rfl)
      · refine ev_iff hc 5 (pc' := 48) (L' := [some (.inr (.inr 2)), some (.inl p1)]) (S' := []) (σ' := (SH L0, D6)) (fun _ _ => rfl) ?_
        rcases ite_or h with ⟨hc0, h⟩ | ⟨hc0, h⟩
        · refine ev_lsw 2 (tgt := 76) (L' := [some (.inr (.inr 2)), some (.inl p1)]) (S' := []) (σ' := (SH L0, D6)) (fun _ _ => rfl) (fun g => by simp [lsw, hc0]) ?_
          obtain ⟨⟨x9, D10⟩, hx, h⟩ := bnd h
          refine ev_call (e_X11_answer L0 d (by omega) hx) 5 (pc' := 87) (L' := [some (.inr (.inr 2)), some (.inl p1)]) (S' := []) (fun _ _ => rfl) ?_
          cases h
          exact ev_ret 1 (fun _ _ => rfl)
        rcases ite_or h with ⟨hc1, h⟩ | ⟨hc1, h⟩
        · refine ev_lsw 2 (tgt := 88) (L' := [some (.inr (.inr 2)), some (.inl p1)]) (S' := []) (σ' := (SH L0, D6)) (fun _ _ => rfl) (fun g => by simp [lsw, hc0, hc1]) ?_
          obtain ⟨⟨x11, D12⟩, hx, h⟩ := bnd h
          refine ev_call (e_X11_answer L0 d (by omega) hx) 5 (pc' := 99) (L' := [some (.inr (.inr 2)), some (.inl p1)]) (S' := []) (fun _ _ => rfl) ?_
          cases h
          exact ev_ret 1 (fun _ _ => rfl)
        refine ev_lsw 2 (tgt := 100) (L' := [some (.inr (.inr 2)), some (.inl p1)]) (S' := []) (σ' := (SH L0, D6)) (fun _ _ => rfl) (fun g => by simp [lsw, hc0, hc1]) ?_
        obtain ⟨⟨x13, D14⟩, hx, h⟩ := bnd h
        refine ev_call (e_X11_answer L0 d (by omega) hx) 5 (pc' := 111) (L' := [some (.inr (.inr 2)), some (.inl p1)]) (S' := []) (fun _ _ => rfl) ?_
        cases h
        exact ev_ret 1 (fun _ _ => rfl)
set_option maxRecDepth 100000 in
set_option maxHeartbeats 4000000 in
theorem e_X11_tryCount (L0 d : Nat) (hd : 6 ≤ d) {p1 p2 : Int} {D : DT} {t0 : DT} (h : m_X11_tryCount p1 p2 D = some t0) : Ret mtab d 161 [.inr (.inr 2), .inl p1, .inl p2] (SH L0, D) (none, (SH L0, t0)) := by
  obtain ⟨d, rfl⟩ : ∃ e, d = e + 1 := ⟨d - 1, by omega⟩
  refine Ret.of (code := k_X11_tryCount) (ml := 4) rfl ?_
  show EvF mtab d k_X11_tryCount 0 [some (.inr (.inr 2)), some (.inl p1), some (.inl p2), none] [] (SH L0, D) (none, (SH L0, t0))
  unfold m_X11_tryCount at h
  obtain ⟨x1, hx, h⟩ := bnd h
  refine ev_bind hx 8 (pc' := 16) (L' := fun x1 => [some (.inr (.inr 2)), some (.inl p1), some (.inl p2), none]) (S' := fun x1 => [.inl x1, .inr (.inr 8)]) (σ' := fun x1 => (SH L0, D)) (fun _ _ => rfl) ?_
  obtain ⟨x2, hx, h⟩ := bnd h
  refine ev_bind hx 1 (pc' := 17) (L' := fun x2 => [some (.inr (.inr 2)), some (.inl p1), some (.inl p2), none]) (S' := fun x2 => [.inl x2]) (σ' := fun x2 => (SH L0, D)) (fun _ _ => rfl) ?_
  obtain ⟨D3, hx, h⟩ := bnd h
  refine ev_bind hx 7 (pc' := 28) (L' := fun D3 => [some (.inr (.inr 2)), some (.inl p1), some (.inl p2), some (.inl x2)]) (S' := fun D3 => []) (σ' := fun D3 => (SH L0, D3)) (fun _ _ => rfl) ?_
  obtain ⟨D4, hx, h⟩ := bnd h
  refine ev_call (e_X2_mend L0 d (by omega) hx) 4 (pc' := 36) (L' := [some (.inr (.inr 2)), some (.inl p1), some (.inl p2), some (.inl x2)]) (S' := []) (fun _ _ => rfl) ?_
  obtain ⟨D5, hx, h⟩ := bnd h
  refine ev_call (e_X0_join L0 d (by omega) hx) 4 (pc' := 44) (L' := [some (.inr (.inr 2)), some (.inl p1), some (.inl p2), some (.inl x2)]) (S' := []) (fun _ _ => rfl) ?_
  obtain ⟨D6, hx, h⟩ := bnd h
  refine ev_call (e_X4_byFunctions_167_1_131 L0 d (by omega) hx) 8 (pc' := 60) (L' := [some (.inr (.inr 2)), some (.inl p1), some (.inl p2), some (.inl x2)]) (S' := []) (fun _ _ => rfl) ?_
  cases h
  exact ev_ret 1 (fun _ _ => rfl)
set_option maxRecDepth 100000 in
set_option maxHeartbeats 4000000 in
theorem e_X11_leastThatFalls (L0 d : Nat) (hd : 7 ≤ d) {p1 : Int} {D : DT} {t0 : (Int × DT)} (h : m_X11_leastThatFalls p1 D = some t0) : Ret mtab d 160 [.inr (.inr 2), .inl p1] (SH L0, D) (some (.inl t0.1), (SH L0, t0.2)) := by
  obtain ⟨d, rfl⟩ : ∃ e, d = e + 1 := ⟨d - 1, by omega⟩
  refine Ret.of (code := k_X11_leastThatFalls) (ml := 5) rfl ?_
  show EvF mtab d k_X11_leastThatFalls 0 [some (.inr (.inr 2)), some (.inl p1), none, none, none] [] (SH L0, D) (some (.inl t0.1), (SH L0, t0.2))
  unfold m_X11_leastThatFalls at h
  obtain ⟨x1, hx, h⟩ := bnd h
  refine ev_call (e_X7_isInside_4 L0 d (by omega) hx) 4 (pc' := 8) (L' := [some (.inr (.inr 2)), some (.inl p1), none, none, none]) (S' := []) (fun _ _ => rfl) ?_
  rcases ite_or h with ⟨hc, h⟩ | ⟨hc, h⟩
  · refine ev_ift hc 1 (pc' := 11) (L' := [some (.inr (.inr 2)), some (.inl p1), none, none, none]) (S' := []) (σ' := (SH L0, D)) (fun _ _ => rfl) ?_
    cases h
    exact ev_ret 2 (fun _ _ => rfl)
  · refine ev_iff hc 1 (pc' := 13) (L' := [some (.inr (.inr 2)), some (.inl p1), none, none, none]) (S' := []) (σ' := (SH L0, D)) (fun _ _ => rfl) ?_
    obtain ⟨x2, hx, h⟩ := bnd h
    refine ev_bind hx 5 (pc' := 22) (L' := fun x2 => [some (.inr (.inr 2)), some (.inl p1), none, none, none]) (S' := fun x2 => [.inl x2]) (σ' := fun x2 => (SH L0, D)) (fun _ _ => rfl) ?_
    obtain ⟨r, hr, h⟩ := bnd h
    have hX : (fun (r : (Int × DT)) => ∀ (o10 : Option (Sum Int Nat)), EvF mtab d k_X11_leastThatFalls 70 [some (.inr (.inr 2)), some (.inl p1), some (.inl x2), some (.inl r.1), dv o10] [] (SH L0, r.2) (some (.inl t0.1), (SH L0, t0.2))) r := by
      obtain ⟨l3_9, D11⟩ := r
      intro o10
      show EvF mtab d k_X11_leastThatFalls 70 [some (.inr (.inr 2)), some (.inl p1), some (.inl x2), some (.inl l3_9), dv o10] [] (SH L0, D11) (some (.inl t0.1), (SH L0, t0.2))
      obtain ⟨D12, hx, h⟩ := bnd h
      refine ev_call (e_X11_tryCount L0 d (by omega) hx) 4 (pc' := 76) (L' := [some (.inr (.inr 2)), some (.inl p1), some (.inl x2), some (.inl l3_9), dv o10]) (S' := []) (fun _ _ => rfl) ?_
      cases h
      exact ev_ret 2 (fun _ _ => rfl)
    clear h
    refine ev_go 5 (pc' := 28) (L' := [some (.inr (.inr 2)), some (.inl p1), some (.inl x2), some (.inl (-1)), some (.inl 0)]) (S' := []) (σ' := (SH L0, D)) (fun _ _ => rfl) ?_
    refine loop_ind (P := fun s => EvF mtab d k_X11_leastThatFalls 28 [some (.inr (.inr 2)), some (.inl p1), some (.inl x2), some (.inl s.1), some (.inl s.2.1)] [] (SH L0, s.2.2) (some (.inl t0.1), (SH L0, t0.2))) (X := fun r => ∀ (o10 : Option (Sum Int Nat)), EvF mtab d k_X11_leastThatFalls 70 [some (.inr (.inr 2)), some (.inl p1), some (.inl x2), some (.inl r.1), dv o10] [] (SH L0, r.2) (some (.inl t0.1), (SH L0, t0.2))) hr hX ?_
    clear hr hX
    intro s t hb hK0
    obtain ⟨l3_3, l4_4, D5⟩ := s
    show EvF mtab d k_X11_leastThatFalls 28 [some (.inr (.inr 2)), some (.inl p1), some (.inl x2), some (.inl l3_3), some (.inl l4_4)] [] (SH L0, D5) (some (.inl t0.1), (SH L0, t0.2))
    unfold b_X11_leastThatFalls_28 at hb
    rcases ite_or hb with ⟨hc, hb⟩ | ⟨hc, hb⟩
    · refine ev_ift hc 3 (pc' := 70) (L' := [some (.inr (.inr 2)), some (.inl p1), some (.inl x2), some (.inl l3_3), some (.inl l4_4)]) (S' := []) (σ' := (SH L0, D5)) (fun _ _ => rfl) ?_
      cases hb
      exact hK0 (some (.inl l4_4))
    · refine ev_iff hc 3 (pc' := 36) (L' := [some (.inr (.inr 2)), some (.inl p1), some (.inl x2), some (.inl l3_3), some (.inl l4_4)]) (S' := []) (σ' := (SH L0, D5)) (fun _ _ => rfl) ?_
      rcases ite_or hb with ⟨hc, hb⟩ | ⟨hc, hb⟩
      · refine ev_ift hc 3 (pc' := 41) (L' := [some (.inr (.inr 2)), some (.inl p1), some (.inl x2), some (.inl l3_3), some (.inl l4_4)]) (S' := []) (σ' := (SH L0, D5)) (fun _ _ => rfl) ?_
        obtain ⟨D6, hx, hb⟩ := bnd hb
        refine ev_call (e_X11_tryCount L0 d (by omega) hx) 4 (pc' := 48) (L' := [some (.inr (.inr 2)), some (.inl p1), some (.inl x2), some (.inl l3_3), some (.inl l4_4)]) (S' := []) (fun _ _ => rfl) ?_
        obtain ⟨x7, hx, hb⟩ := bnd hb
        refine ev_call (e_X4_isFall_167 L0 d (by omega) hx) 6 (pc' := 58) (L' := [some (.inr (.inr 2)), some (.inl p1), some (.inl x2), some (.inl l3_3), some (.inl l4_4)]) (S' := []) (fun _ _ => rfl) ?_
        obtain ⟨l3_8, hv, hb⟩ := bnd hb
        have hJ : EvF mtab d k_X11_leastThatFalls 64 [some (.inr (.inr 2)), some (.inl p1), some (.inl x2), some (.inl l3_8), some (.inl l4_4)] [] (SH L0, D6) (some (.inl t0.1), (SH L0, t0.2)) := by
          cases hb
          exact ev_go 2 (pc' := 28) (L' := [some (.inr (.inr 2)), some (.inl p1), some (.inl x2), some (.inl l3_8), some (.inl (w32 (l4_4 + 100)))]) (S' := []) (σ' := (SH L0, D6)) (fun _ _ => rfl) hK0
        clear hb
        rcases ite_or hv with ⟨hc, hv⟩ | ⟨hc, hv⟩
        · refine ev_ift hc 1 (pc' := 64) (L' := [some (.inr (.inr 2)), some (.inl p1), some (.inl x2), some (.inl l3_3), some (.inl l4_4)]) (S' := []) (σ' := (SH L0, D6)) (fun _ _ => rfl) ?_
          have he0 := Option.some.inj hv
          subst he0
          exact hJ
        · refine ev_iff hc 1 (pc' := 61) (L' := [some (.inr (.inr 2)), some (.inl p1), some (.inl x2), some (.inl l3_3), some (.inl l4_4)]) (S' := []) (σ' := (SH L0, D6)) (fun _ _ => rfl) ?_
          have he0 := Option.some.inj hv
          subst he0
          exact ev_go 2 (pc' := 64) (L' := [some (.inr (.inr 2)), some (.inl p1), some (.inl x2), some (.inl l4_4), some (.inl l4_4)]) (S' := []) (σ' := (SH L0, D6)) (fun _ _ => rfl) hJ
      · refine ev_iff hc 3 (pc' := 70) (L' := [some (.inr (.inr 2)), some (.inl p1), some (.inl x2), some (.inl l3_3), some (.inl l4_4)]) (S' := []) (σ' := (SH L0, D5)) (fun _ _ => rfl) ?_
        cases hb
        exact hK0 (some (.inl l4_4))
set_option maxRecDepth 100000 in
set_option maxHeartbeats 4000000 in
theorem e_X11_enough (L0 d : Nat) (hd : 8 ≤ d) {p1 : Int} {D : DT} {t0 : (Int × DT)} (h : m_X11_enough p1 D = some t0) : Ret mtab d 150 [.inr (.inr 2), .inl p1] (SH L0, D) (some (.inl t0.1), (SH L0, t0.2)) := by
  obtain ⟨d, rfl⟩ : ∃ e, d = e + 1 := ⟨d - 1, by omega⟩
  refine Ret.of (code := k_X11_enough) (ml := 3) rfl ?_
  show EvF mtab d k_X11_enough 0 [some (.inr (.inr 2)), some (.inl p1), none] [] (SH L0, D) (some (.inl t0.1), (SH L0, t0.2))
  unfold m_X11_enough at h
  obtain ⟨x1, hx, h⟩ := bnd h
  refine ev_call (e_X11_isArc L0 d (by omega) hx) 3 (pc' := 5) (L' := [some (.inr (.inr 2)), some (.inl p1), none]) (S' := []) (fun _ _ => rfl) ?_
  rcases ite_or h with ⟨hc, h⟩ | ⟨hc, h⟩
  · refine ev_ift hc 1 (pc' := 8) (L' := [some (.inr (.inr 2)), some (.inl p1), none]) (S' := []) (σ' := (SH L0, D)) (fun _ _ => rfl) ?_
    obtain ⟨⟨x2, D3⟩, hx, h⟩ := bnd h
    refine ev_call (e_X11_refuse L0 d (by omega) hx) 3 (pc' := 13) (L' := [some (.inr (.inr 2)), some (.inl p1), none]) (S' := []) (fun _ _ => rfl) ?_
    cases h
    exact ev_ret 1 (fun _ _ => rfl)
  · refine ev_iff hc 1 (pc' := 14) (L' := [some (.inr (.inr 2)), some (.inl p1), none]) (S' := []) (σ' := (SH L0, D)) (fun _ _ => rfl) ?_
    obtain ⟨⟨x4, D5⟩, hx, h⟩ := bnd h
    refine ev_call (e_X11_leastThatFalls L0 d (by omega) hx) 3 (pc' := 19) (L' := [some (.inr (.inr 2)), some (.inl p1), none]) (S' := []) (fun _ _ => rfl) ?_
    rcases ite_or h with ⟨hc, h⟩ | ⟨hc, h⟩
    · refine ev_ift hc 4 (pc' := 25) (L' := [some (.inr (.inr 2)), some (.inl p1), some (.inl x4)]) (S' := []) (σ' := (SH L0, D5)) (fun _ _ => rfl) ?_
      obtain ⟨⟨x6, D7⟩, hx, h⟩ := bnd h
      refine ev_call (e_X11_refuse L0 d (by omega) hx) 3 (pc' := 30) (L' := [some (.inr (.inr 2)), some (.inl p1), some (.inl x4)]) (S' := []) (fun _ _ => rfl) ?_
      cases h
      exact ev_ret 2 (fun _ _ => rfl)
    · refine ev_iff hc 4 (pc' := 33) (L' := [some (.inr (.inr 2)), some (.inl p1), some (.inl x4)]) (S' := []) (σ' := (SH L0, D5)) (fun _ _ => rfl) ?_
      obtain ⟨⟨x8, D9⟩, hx, h⟩ := bnd h
      refine ev_call (e_X11_answer L0 d (by omega) hx) 3 (pc' := 38) (L' := [some (.inr (.inr 2)), some (.inl p1), some (.inl x4)]) (S' := []) (fun _ _ => rfl) ?_
      cases h
      exact ev_ret 1 (fun _ _ => rfl)
set_option maxRecDepth 100000 in
set_option maxHeartbeats 4000000 in
theorem e_X12_status (L0 d : Nat) (hd : 1 ≤ d) {D : DT} {t0 : (Int × DT)} (h : m_X12_status  D = some t0) : Ret mtab d 164 [.inr (.inr 187)] (SH L0, D) (some (.inl t0.1), (SH L0, t0.2)) := by
  obtain ⟨d, rfl⟩ : ∃ e, d = e + 1 := ⟨d - 1, by omega⟩
  refine Ret.of (code := k_X12_status) (ml := 1) rfl ?_
  show EvF mtab d k_X12_status 0 [some (.inr (.inr 187))] [] (SH L0, D) (some (.inl t0.1), (SH L0, t0.2))
  unfold m_X12_status at h
  cases h
  exact ev_ret 6 (fun _ _ => rfl)
set_option maxRecDepth 100000 in
set_option maxHeartbeats 4000000 in
theorem e_X12_refuse (L0 d : Nat) (hd : 1 ≤ d) {p1 : Int} {D : DT} {t0 : (Int × DT)} (h : m_X12_refuse p1 D = some t0) : Ret mtab d 165 [.inr (.inr 187), .inl p1] (SH L0, D) (some (.inl t0.1), (SH L0, t0.2)) := by
  obtain ⟨d, rfl⟩ : ∃ e, d = e + 1 := ⟨d - 1, by omega⟩
  refine Ret.of (code := k_X12_refuse) (ml := 2) rfl ?_
  show EvF mtab d k_X12_refuse 0 [some (.inr (.inr 187)), some (.inl p1)] [] (SH L0, D) (some (.inl t0.1), (SH L0, t0.2))
  unfold m_X12_refuse at h
  cases h
  exact ev_ret 5 (fun _ _ => rfl)
set_option maxRecDepth 100000 in
set_option maxHeartbeats 4000000 in
theorem e_X12_isIn (L0 d : Nat) (hd : 1 ≤ d) {p0 p1 p2 : Int} {D : DT} {t0 : Int} (h : m_X12_isIn p0 p1 p2 D = some t0) : Ret mtab d 166 [.inl p0, .inl p1, .inl p2] (SH L0, D) (some (.inl t0), (SH L0, D)) := by
  obtain ⟨d, rfl⟩ : ∃ e, d = e + 1 := ⟨d - 1, by omega⟩
  refine Ret.of (code := k_X12_isIn) (ml := 3) rfl ?_
  show EvF mtab d k_X12_isIn 0 [some (.inl p0), some (.inl p1), some (.inl p2)] [] (SH L0, D) (some (.inl t0), (SH L0, D))
  unfold m_X12_isIn at h
  rcases ite_or h with ⟨hc, h⟩ | ⟨hc, h⟩
  · refine ev_ift hc 3 (pc' := 14) (L' := [some (.inl p0), some (.inl p1), some (.inl p2)]) (S' := []) (σ' := (SH L0, D)) (fun _ _ => rfl) ?_
    cases h
    exact ev_ret 2 (fun _ _ => rfl)
  · refine ev_iff hc 3 (pc' := 5) (L' := [some (.inl p0), some (.inl p1), some (.inl p2)]) (S' := []) (σ' := (SH L0, D)) (fun _ _ => rfl) ?_
    rcases ite_or h with ⟨hc, h⟩ | ⟨hc, h⟩
    · refine ev_ift hc 3 (pc' := 14) (L' := [some (.inl p0), some (.inl p1), some (.inl p2)]) (S' := []) (σ' := (SH L0, D)) (fun _ _ => rfl) ?_
      cases h
      exact ev_ret 2 (fun _ _ => rfl)
    · refine ev_iff hc 3 (pc' := 10) (L' := [some (.inl p0), some (.inl p1), some (.inl p2)]) (S' := []) (σ' := (SH L0, D)) (fun _ _ => rfl) ?_
      cases h
      exact ev_ret 3 (fun _ _ => rfl)
set_option maxRecDepth 100000 in
set_option maxHeartbeats 4000000 in
theorem e_X12_plain (L0 d : Nat) (hd : 1 ≤ d) {p1 : Int} {D : DT} {t0 : DT} (h : m_X12_plain p1 D = some t0) : Ret mtab d 167 [.inr (.inr 187), .inl p1] (SH L0, D) (none, (SH L0, t0)) := by
  obtain ⟨d, rfl⟩ : ∃ e, d = e + 1 := ⟨d - 1, by omega⟩
  refine Ret.of (code := k_X12_plain) (ml := 3) rfl ?_
  show EvF mtab d k_X12_plain 0 [some (.inr (.inr 187)), some (.inl p1), none] [] (SH L0, D) (none, (SH L0, t0))
  unfold m_X12_plain at h
  obtain ⟨r, hr, h⟩ := bnd h
  have hX : (fun (r : DT) => ∀ (o4 : Option (Sum Int Nat)), EvF mtab d k_X12_plain 24 [some (.inr (.inr 187)), some (.inl p1), dv o4] [] (SH L0, r) (none, (SH L0, t0))) r := by
    obtain ⟨D5, hre⟩ : ∃ q, q = r := ⟨r, rfl⟩
    subst hre
    intro o4
    show EvF mtab d k_X12_plain 24 [some (.inr (.inr 187)), some (.inl p1), dv o4] [] (SH L0, D5) (none, (SH L0, t0))
    obtain ⟨D6, hx, h⟩ := bnd h
    refine ev_bind hx 7 (pc' := 34) (L' := fun D6 => [some (.inr (.inr 187)), some (.inl p1), dv o4]) (S' := fun D6 => []) (σ' := fun D6 => (SH L0, D6)) (fun _ _ => rfl) ?_
    obtain ⟨D7, hx, h⟩ := bnd h
    refine ev_bind hx 7 (pc' := 43) (L' := fun D7 => [some (.inr (.inr 187)), some (.inl p1), dv o4]) (S' := fun D7 => []) (σ' := fun D7 => (SH L0, D7)) (fun _ _ => rfl) ?_
    cases h
    exact ev_ret 1 (fun _ _ => rfl)
  clear h
  refine ev_go 2 (pc' := 2) (L' := [some (.inr (.inr 187)), some (.inl p1), some (.inl 0)]) (S' := []) (σ' := (SH L0, D)) (fun _ _ => rfl) ?_
  refine loop_ind (P := fun s => EvF mtab d k_X12_plain 2 [some (.inr (.inr 187)), some (.inl p1), some (.inl s.1)] [] (SH L0, s.2) (none, (SH L0, t0))) (X := fun r => ∀ (o4 : Option (Sum Int Nat)), EvF mtab d k_X12_plain 24 [some (.inr (.inr 187)), some (.inl p1), dv o4] [] (SH L0, r) (none, (SH L0, t0))) hr hX ?_
  clear hr hX
  intro s t hb hK0
  obtain ⟨l2_1, D2⟩ := s
  show EvF mtab d k_X12_plain 2 [some (.inr (.inr 187)), some (.inl p1), some (.inl l2_1)] [] (SH L0, D2) (none, (SH L0, t0))
  unfold b_X12_plain_2 at hb
  rcases ite_or hb with ⟨hc, hb⟩ | ⟨hc, hb⟩
  · refine ev_ift hc 3 (pc' := 9) (L' := [some (.inr (.inr 187)), some (.inl p1), some (.inl l2_1)]) (S' := []) (σ' := (SH L0, D2)) (fun _ _ => rfl) ?_
    obtain ⟨D3, hx, hb⟩ := bnd hb
    refine ev_bind hx 7 (pc' := 18) (L' := fun D3 => [some (.inr (.inr 187)), some (.inl p1), some (.inl l2_1)]) (S' := fun D3 => []) (σ' := fun D3 => (SH L0, D3)) (fun _ _ => rfl) ?_
    cases hb
    exact ev_go 2 (pc' := 2) (L' := [some (.inr (.inr 187)), some (.inl p1), some (.inl (w32 (l2_1 + 1)))]) (S' := []) (σ' := (SH L0, D3)) (fun _ _ => rfl) hK0
  · refine ev_iff hc 3 (pc' := 24) (L' := [some (.inr (.inr 187)), some (.inl p1), some (.inl l2_1)]) (S' := []) (σ' := (SH L0, D2)) (fun _ _ => rfl) ?_
    cases hb
    exact hK0 (some (.inl l2_1))
set_option maxRecDepth 100000 in
set_option maxHeartbeats 4000000 in
theorem e_X12_copy (L0 d : Nat) (hd : 1 ≤ d) {p1 p2 : Int} {D : DT} {t0 : DT} (h : m_X12_copy p1 p2 D = some t0) : Ret mtab d 168 [.inr (.inr 187), .inl p1, .inl p2] (SH L0, D) (none, (SH L0, t0)) := by
  obtain ⟨d, rfl⟩ : ∃ e, d = e + 1 := ⟨d - 1, by omega⟩
  refine Ret.of (code := k_X12_copy) (ml := 4) rfl ?_
  show EvF mtab d k_X12_copy 0 [some (.inr (.inr 187)), some (.inl p1), some (.inl p2), none] [] (SH L0, D) (none, (SH L0, t0))
  unfold m_X12_copy at h
  obtain ⟨r, hr, h⟩ := bnd h
  have hX : (fun (r : DT) => ∀ (o5 : Option (Sum Int Nat)), EvF mtab d k_X12_copy 31 [some (.inr (.inr 187)), some (.inl p1), some (.inl p2), dv o5] [] (SH L0, r) (none, (SH L0, t0))) r := by
    obtain ⟨D6, hre⟩ : ∃ q, q = r := ⟨r, rfl⟩
    subst hre
    intro o5
    show EvF mtab d k_X12_copy 31 [some (.inr (.inr 187)), some (.inl p1), some (.inl p2), dv o5] [] (SH L0, D6) (none, (SH L0, t0))
    cases h
    exact ev_ret 1 (fun _ _ => rfl)
  clear h
  refine ev_go 2 (pc' := 2) (L' := [some (.inr (.inr 187)), some (.inl p1), some (.inl p2), some (.inl 0)]) (S' := []) (σ' := (SH L0, D)) (fun _ _ => rfl) ?_
  refine loop_ind (P := fun s => EvF mtab d k_X12_copy 2 [some (.inr (.inr 187)), some (.inl p1), some (.inl p2), some (.inl s.1)] [] (SH L0, s.2) (none, (SH L0, t0))) (X := fun r => ∀ (o5 : Option (Sum Int Nat)), EvF mtab d k_X12_copy 31 [some (.inr (.inr 187)), some (.inl p1), some (.inl p2), dv o5] [] (SH L0, r) (none, (SH L0, t0))) hr hX ?_
  clear hr hX
  intro s t hb hK0
  obtain ⟨l3_1, D2⟩ := s
  show EvF mtab d k_X12_copy 2 [some (.inr (.inr 187)), some (.inl p1), some (.inl p2), some (.inl l3_1)] [] (SH L0, D2) (none, (SH L0, t0))
  unfold b_X12_copy_2 at hb
  rcases ite_or hb with ⟨hc, hb⟩ | ⟨hc, hb⟩
  · refine ev_ift hc 3 (pc' := 9) (L' := [some (.inr (.inr 187)), some (.inl p1), some (.inl p2), some (.inl l3_1)]) (S' := []) (σ' := (SH L0, D2)) (fun _ _ => rfl) ?_
    obtain ⟨x3, hx, hb⟩ := bnd hb
    refine ev_bind hx 11 (pc' := 24) (L' := fun x3 => [some (.inr (.inr 187)), some (.inl p1), some (.inl p2), some (.inl l3_1)]) (S' := fun x3 => [.inl x3, .inl (w32 (p2 + l3_1)), .inr (.inr 188)]) (σ' := fun x3 => (SH L0, D2)) (fun _ _ => rfl) ?_
    obtain ⟨D4, hx, hb⟩ := bnd hb
    refine ev_bind hx 1 (pc' := 25) (L' := fun D4 => [some (.inr (.inr 187)), some (.inl p1), some (.inl p2), some (.inl l3_1)]) (S' := fun D4 => []) (σ' := fun D4 => (SH L0, D4)) (fun _ _ => rfl) ?_
    cases hb
    exact ev_go 2 (pc' := 2) (L' := [some (.inr (.inr 187)), some (.inl p1), some (.inl p2), some (.inl (w32 (l3_1 + 1)))]) (S' := []) (σ' := (SH L0, D4)) (fun _ _ => rfl) hK0
  · refine ev_iff hc 3 (pc' := 31) (L' := [some (.inr (.inr 187)), some (.inl p1), some (.inl p2), some (.inl l3_1)]) (S' := []) (σ' := (SH L0, D2)) (fun _ _ => rfl) ?_
    cases hb
    exact hK0 (some (.inl l3_1))
set_option maxRecDepth 100000 in
set_option maxHeartbeats 4000000 in
theorem e_X12_keeps (L0 d : Nat) (hd : 2 ≤ d) {D : DT} {t0 : DT} (h : m_X12_keeps  D = some t0) : Ret mtab d 169 [.inr (.inr 187)] (SH L0, D) (none, (SH L0, t0)) := by
  obtain ⟨d, rfl⟩ : ∃ e, d = e + 1 := ⟨d - 1, by omega⟩
  refine Ret.of (code := k_X12_keeps) (ml := 2) rfl ?_
  show EvF mtab d k_X12_keeps 0 [some (.inr (.inr 187)), none] [] (SH L0, D) (none, (SH L0, t0))
  unfold m_X12_keeps at h
  obtain ⟨D7, hv, h⟩ := bnd h
  have hJ : ∀ (o6 : Option (Sum Int Nat)), EvF mtab d k_X12_keeps 49 [some (.inr (.inr 187)), dv o6] [] (SH L0, D7) (none, (SH L0, t0)) := by
    intro o6
    obtain ⟨D8, hx, h⟩ := bnd h
    refine ev_call (e_X12_copy L0 d (by omega) hx) 13 (pc' := 72) (L' := [some (.inr (.inr 187)), dv o6]) (S' := []) (fun _ _ => rfl) ?_
    cases h
    exact ev_ret 1 (fun _ _ => rfl)
  clear h
  rcases ite_or hv with ⟨hc, hv⟩ | ⟨hc, hv⟩
  · refine ev_ift hc 4 (pc' := 9) (L' := [some (.inr (.inr 187)), none]) (S' := []) (σ' := (SH L0, D)) (fun _ _ => rfl) ?_
    obtain ⟨r, hr, hv⟩ := bnd hv
    have hX : (fun (r : DT) => ∀ (o4 : Option (Sum Int Nat)), EvF mtab d k_X12_keeps 39 [some (.inr (.inr 187)), dv o4] [] (SH L0, r) (none, (SH L0, t0))) r := by
      obtain ⟨D5, hre⟩ : ∃ q, q = r := ⟨r, rfl⟩
      subst hre
      intro o4
      show EvF mtab d k_X12_keeps 39 [some (.inr (.inr 187)), dv o4] [] (SH L0, D5) (none, (SH L0, t0))
      have he0 := Option.some.inj hv
      subst he0
      exact ev_go 6 (pc' := 49) (L' := [some (.inr (.inr 187)), dv o4]) (S' := []) (σ' := (SH L0, dput D5 187 1 (w32 ((D5 187 1) - 1)))) (fun _ _ => rfl) (hJ o4)
    clear hv
    refine ev_go 2 (pc' := 11) (L' := [some (.inr (.inr 187)), some (.inl 2)]) (S' := []) (σ' := (SH L0, D)) (fun _ _ => rfl) ?_
    refine loop_ind (P := fun s => EvF mtab d k_X12_keeps 11 [some (.inr (.inr 187)), some (.inl s.1)] [] (SH L0, s.2) (none, (SH L0, t0))) (X := fun r => ∀ (o4 : Option (Sum Int Nat)), EvF mtab d k_X12_keeps 39 [some (.inr (.inr 187)), dv o4] [] (SH L0, r) (none, (SH L0, t0))) hr hX ?_
    clear hr hX
    intro s t hb hK0
    obtain ⟨l1_1, D2⟩ := s
    show EvF mtab d k_X12_keeps 11 [some (.inr (.inr 187)), some (.inl l1_1)] [] (SH L0, D2) (none, (SH L0, t0))
    unfold b_X12_keeps_11 at hb
    rcases ite_or hb with ⟨hc, hb⟩ | ⟨hc, hb⟩
    · refine ev_ift hc 3 (pc' := 39) (L' := [some (.inr (.inr 187)), some (.inl l1_1)]) (S' := []) (σ' := (SH L0, D2)) (fun _ _ => rfl) ?_
      cases hb
      exact hK0 (some (.inl l1_1))
    · refine ev_iff hc 3 (pc' := 17) (L' := [some (.inr (.inr 187)), some (.inl l1_1)]) (S' := []) (σ' := (SH L0, D2)) (fun _ _ => rfl) ?_
      obtain ⟨D3, hx, hb⟩ := bnd hb
      refine ev_call (e_X12_copy L0 d (by omega) hx) 10 (pc' := 33) (L' := [some (.inr (.inr 187)), some (.inl l1_1)]) (S' := []) (fun _ _ => rfl) ?_
      cases hb
      exact ev_go 2 (pc' := 11) (L' := [some (.inr (.inr 187)), some (.inl (w32 (l1_1 + 1)))]) (S' := []) (σ' := (SH L0, D3)) (fun _ _ => rfl) hK0
  · refine ev_iff hc 4 (pc' := 49) (L' := [some (.inr (.inr 187)), none]) (S' := []) (σ' := (SH L0, D)) (fun _ _ => rfl) ?_
    have he0 := Option.some.inj hv
    subst he0
    exact hJ none
set_option maxRecDepth 100000 in
set_option maxHeartbeats 4000000 in
theorem e_X12_funs (L0 d : Nat) (hd : 1 ≤ d) {D : DT} {t0 : Int} (h : m_X12_funs  D = some t0) : Ret mtab d 170 [.inr (.inr 187)] (SH L0, D) (some (.inl t0), (SH L0, D)) := by
  obtain ⟨d, rfl⟩ : ∃ e, d = e + 1 := ⟨d - 1, by omega⟩
  refine Ret.of (code := k_X12_funs) (ml := 1) rfl ?_
  show EvF mtab d k_X12_funs 0 [some (.inr (.inr 187))] [] (SH L0, D) (some (.inl t0), (SH L0, D))
  unfold m_X12_funs at h
  obtain ⟨x1, hx, h⟩ := bnd h
  refine ev_bind hx 4 (pc' := 6) (L' := fun x1 => [some (.inr (.inr 187))]) (S' := fun x1 => [.inl x1]) (σ' := fun x1 => (SH L0, D)) (fun _ _ => rfl) ?_
  cases h
  exact ev_ret 1 (fun _ _ => rfl)
set_option maxRecDepth 100000 in
set_option maxHeartbeats 4000000 in
theorem e_X12_blocks (L0 d : Nat) (hd : 1 ≤ d) {D : DT} {t0 : Int} (h : m_X12_blocks  D = some t0) : Ret mtab d 171 [.inr (.inr 187)] (SH L0, D) (some (.inl t0), (SH L0, D)) := by
  obtain ⟨d, rfl⟩ : ∃ e, d = e + 1 := ⟨d - 1, by omega⟩
  refine Ret.of (code := k_X12_blocks) (ml := 1) rfl ?_
  show EvF mtab d k_X12_blocks 0 [some (.inr (.inr 187))] [] (SH L0, D) (some (.inl t0), (SH L0, D))
  unfold m_X12_blocks at h
  obtain ⟨x1, hx, h⟩ := bnd h
  refine ev_bind hx 4 (pc' := 6) (L' := fun x1 => [some (.inr (.inr 187))]) (S' := fun x1 => [.inl x1]) (σ' := fun x1 => (SH L0, D)) (fun _ _ => rfl) ?_
  cases h
  exact ev_ret 1 (fun _ _ => rfl)
set_option maxRecDepth 100000 in
set_option maxHeartbeats 4000000 in
theorem e_X12_arcs (L0 d : Nat) (hd : 1 ≤ d) {D : DT} {t0 : Int} (h : m_X12_arcs  D = some t0) : Ret mtab d 172 [.inr (.inr 187)] (SH L0, D) (some (.inl t0), (SH L0, D)) := by
  obtain ⟨d, rfl⟩ : ∃ e, d = e + 1 := ⟨d - 1, by omega⟩
  refine Ret.of (code := k_X12_arcs) (ml := 1) rfl ?_
  show EvF mtab d k_X12_arcs 0 [some (.inr (.inr 187))] [] (SH L0, D) (some (.inl t0), (SH L0, D))
  unfold m_X12_arcs at h
  obtain ⟨x1, hx, h⟩ := bnd h
  refine ev_bind hx 4 (pc' := 6) (L' := fun x1 => [some (.inr (.inr 187))]) (S' := fun x1 => [.inl x1]) (σ' := fun x1 => (SH L0, D)) (fun _ _ => rfl) ?_
  cases h
  exact ev_ret 1 (fun _ _ => rfl)
set_option maxRecDepth 100000 in
set_option maxHeartbeats 4000000 in
theorem e_X12_funOf (L0 d : Nat) (hd : 1 ≤ d) {p1 : Int} {D : DT} {t0 : Int} (h : m_X12_funOf p1 D = some t0) : Ret mtab d 173 [.inr (.inr 187), .inl p1] (SH L0, D) (some (.inl t0), (SH L0, D)) := by
  obtain ⟨d, rfl⟩ : ∃ e, d = e + 1 := ⟨d - 1, by omega⟩
  refine Ret.of (code := k_X12_funOf) (ml := 2) rfl ?_
  show EvF mtab d k_X12_funOf 0 [some (.inr (.inr 187)), some (.inl p1)] [] (SH L0, D) (some (.inl t0), (SH L0, D))
  unfold m_X12_funOf at h
  obtain ⟨x1, hx, h⟩ := bnd h
  refine ev_bind hx 6 (pc' := 9) (L' := fun x1 => [some (.inr (.inr 187)), some (.inl p1)]) (S' := fun x1 => [.inl x1]) (σ' := fun x1 => (SH L0, D)) (fun _ _ => rfl) ?_
  cases h
  exact ev_ret 1 (fun _ _ => rfl)
set_option maxRecDepth 100000 in
set_option maxHeartbeats 4000000 in
theorem e_X12_endOf (L0 d : Nat) (hd : 1 ≤ d) {p1 : Int} {D : DT} {t0 : Int} (h : m_X12_endOf p1 D = some t0) : Ret mtab d 174 [.inr (.inr 187), .inl p1] (SH L0, D) (some (.inl t0), (SH L0, D)) := by
  obtain ⟨d, rfl⟩ : ∃ e, d = e + 1 := ⟨d - 1, by omega⟩
  refine Ret.of (code := k_X12_endOf) (ml := 2) rfl ?_
  show EvF mtab d k_X12_endOf 0 [some (.inr (.inr 187)), some (.inl p1)] [] (SH L0, D) (some (.inl t0), (SH L0, D))
  unfold m_X12_endOf at h
  obtain ⟨x1, hx, h⟩ := bnd h
  refine ev_bind hx 6 (pc' := 10) (L' := fun x1 => [some (.inr (.inr 187)), some (.inl p1)]) (S' := fun x1 => [.inl x1]) (σ' := fun x1 => (SH L0, D)) (fun _ _ => rfl) ?_
  cases h
  exact ev_ret 1 (fun _ _ => rfl)
set_option maxRecDepth 100000 in
set_option maxHeartbeats 4000000 in
theorem e_X12_firstArc (L0 d : Nat) (hd : 1 ≤ d) {p1 : Int} {D : DT} {t0 : Int} (h : m_X12_firstArc p1 D = some t0) : Ret mtab d 175 [.inr (.inr 187), .inl p1] (SH L0, D) (some (.inl t0), (SH L0, D)) := by
  obtain ⟨d, rfl⟩ : ∃ e, d = e + 1 := ⟨d - 1, by omega⟩
  refine Ret.of (code := k_X12_firstArc) (ml := 2) rfl ?_
  show EvF mtab d k_X12_firstArc 0 [some (.inr (.inr 187)), some (.inl p1)] [] (SH L0, D) (some (.inl t0), (SH L0, D))
  unfold m_X12_firstArc at h
  obtain ⟨x1, hx, h⟩ := bnd h
  refine ev_bind hx 6 (pc' := 10) (L' := fun x1 => [some (.inr (.inr 187)), some (.inl p1)]) (S' := fun x1 => [.inl x1]) (σ' := fun x1 => (SH L0, D)) (fun _ _ => rfl) ?_
  cases h
  exact ev_ret 1 (fun _ _ => rfl)
set_option maxRecDepth 100000 in
set_option maxHeartbeats 4000000 in
theorem e_X12_arcsOf (L0 d : Nat) (hd : 2 ≤ d) {p1 : Int} {D : DT} {t0 : Int} (h : m_X12_arcsOf p1 D = some t0) : Ret mtab d 176 [.inr (.inr 187), .inl p1] (SH L0, D) (some (.inl t0), (SH L0, D)) := by
  obtain ⟨d, rfl⟩ : ∃ e, d = e + 1 := ⟨d - 1, by omega⟩
  refine Ret.of (code := k_X12_arcsOf) (ml := 2) rfl ?_
  show EvF mtab d k_X12_arcsOf 0 [some (.inr (.inr 187)), some (.inl p1)] [] (SH L0, D) (some (.inl t0), (SH L0, D))
  unfold m_X12_arcsOf at h
  obtain ⟨x1, hx, h⟩ := bnd h
  refine ev_call (e_X12_endOf L0 d (by omega) hx) 3 (pc' := 5) (L' := [some (.inr (.inr 187)), some (.inl p1)]) (S' := []) (fun _ _ => rfl) ?_
  rcases ite_or h with ⟨hc, h⟩ | ⟨hc, h⟩
  · refine ev_ift hc 2 (pc' := 9) (L' := [some (.inr (.inr 187)), some (.inl p1)]) (S' := []) (σ' := (SH L0, D)) (fun _ _ => rfl) ?_
    cases h
    exact ev_ret 3 (fun _ _ => rfl)
  · refine ev_iff hc 2 (pc' := 13) (L' := [some (.inr (.inr 187)), some (.inl p1)]) (S' := []) (σ' := (SH L0, D)) (fun _ _ => rfl) ?_
    cases h
    exact ev_ret 2 (fun _ _ => rfl)
set_option maxRecDepth 100000 in
set_option maxHeartbeats 4000000 in
theorem e_X12_entryOf (L0 d : Nat) (hd : 2 ≤ d) {p1 : Int} {D : DT} {t0 : Int} (h : m_X12_entryOf p1 D = some t0) : Ret mtab d 177 [.inr (.inr 187), .inl p1] (SH L0, D) (some (.inl t0), (SH L0, D)) := by
  obtain ⟨d, rfl⟩ : ∃ e, d = e + 1 := ⟨d - 1, by omega⟩
  refine Ret.of (code := k_X12_entryOf) (ml := 3) rfl ?_
  show EvF mtab d k_X12_entryOf 0 [some (.inr (.inr 187)), some (.inl p1), none] [] (SH L0, D) (some (.inl t0), (SH L0, D))
  unfold m_X12_entryOf at h
  obtain ⟨r, hr, h⟩ := bnd h
  have hX : (fun (r : Int) => EvF mtab d k_X12_entryOf 17 [some (.inr (.inr 187)), some (.inl p1), some (.inl r)] [] (SH L0, D) (some (.inl t0), (SH L0, D))) r := by
    obtain ⟨l2_3, hre⟩ : ∃ q, q = r := ⟨r, rfl⟩
    subst hre
    show EvF mtab d k_X12_entryOf 17 [some (.inr (.inr 187)), some (.inl p1), some (.inl l2_3)] [] (SH L0, D) (some (.inl t0), (SH L0, D))
    cases h
    exact ev_ret 2 (fun _ _ => rfl)
  clear h
  refine ev_go 2 (pc' := 2) (L' := [some (.inr (.inr 187)), some (.inl p1), some (.inl 0)]) (S' := []) (σ' := (SH L0, D)) (fun _ _ => rfl) ?_
  refine loop_ind (P := fun s => EvF mtab d k_X12_entryOf 2 [some (.inr (.inr 187)), some (.inl p1), some (.inl s)] [] (SH L0, D) (some (.inl t0), (SH L0, D))) (X := fun r => EvF mtab d k_X12_entryOf 17 [some (.inr (.inr 187)), some (.inl p1), some (.inl r)] [] (SH L0, D) (some (.inl t0), (SH L0, D))) hr hX ?_
  clear hr hX
  intro s t hb hK0
  obtain ⟨l2_1, hre⟩ : ∃ q, q = s := ⟨s, rfl⟩
  subst hre
  show EvF mtab d k_X12_entryOf 2 [some (.inr (.inr 187)), some (.inl p1), some (.inl l2_1)] [] (SH L0, D) (some (.inl t0), (SH L0, D))
  unfold b_X12_entryOf_2 at hb
  obtain ⟨x2, hx, hb⟩ := bnd hb
  refine ev_call (e_X12_funOf L0 d (by omega) hx) 3 (pc' := 7) (L' := [some (.inr (.inr 187)), some (.inl p1), some (.inl l2_1)]) (S' := []) (fun _ _ => rfl) ?_
  rcases ite_or hb with ⟨hc, hb⟩ | ⟨hc, hb⟩
  · refine ev_ift hc 2 (pc' := 17) (L' := [some (.inr (.inr 187)), some (.inl p1), some (.inl l2_1)]) (S' := []) (σ' := (SH L0, D)) (fun _ _ => rfl) ?_
    cases hb
    exact hK0
  · refine ev_iff hc 2 (pc' := 11) (L' := [some (.inr (.inr 187)), some (.inl p1), some (.inl l2_1)]) (S' := []) (σ' := (SH L0, D)) (fun _ _ => rfl) ?_
    cases hb
    exact ev_go 2 (pc' := 2) (L' := [some (.inr (.inr 187)), some (.inl p1), some (.inl (w32 (l2_1 + 1)))]) (S' := []) (σ' := (SH L0, D)) (fun _ _ => rfl) hK0
set_option maxRecDepth 100000 in
set_option maxHeartbeats 4000000 in
theorem e_X12_isEntry (L0 d : Nat) (hd : 3 ≤ d) {p1 : Int} {D : DT} {t0 : Int} (h : m_X12_isEntry p1 D = some t0) : Ret mtab d 178 [.inr (.inr 187), .inl p1] (SH L0, D) (some (.inl t0), (SH L0, D)) := by
  obtain ⟨d, rfl⟩ : ∃ e, d = e + 1 := ⟨d - 1, by omega⟩
  refine Ret.of (code := k_X12_isEntry) (ml := 2) rfl ?_
  show EvF mtab d k_X12_isEntry 0 [some (.inr (.inr 187)), some (.inl p1)] [] (SH L0, D) (some (.inl t0), (SH L0, D))
  unfold m_X12_isEntry at h
  obtain ⟨x1, hx, h⟩ := bnd h
  refine ev_call (e_X12_funOf L0 d (by omega) hx) 4 (pc' := 6) (L' := [some (.inr (.inr 187)), some (.inl p1)]) (S' := [.inr (.inr 187)]) (fun _ _ => rfl) ?_
  obtain ⟨x2, hx, h⟩ := bnd h
  refine ev_call (e_X12_entryOf L0 d (by omega) hx) 1 (pc' := 9) (L' := [some (.inr (.inr 187)), some (.inl p1)]) (S' := []) (fun _ _ => rfl) ?_
  rcases ite_or h with ⟨hc, h⟩ | ⟨hc, h⟩
  · refine ev_ift hc 2 (pc' := 13) (L' := [some (.inr (.inr 187)), some (.inl p1)]) (S' := []) (σ' := (SH L0, D)) (fun _ _ => rfl) ?_
    cases h
    exact ev_ret 3 (fun _ _ => rfl)
  · refine ev_iff hc 2 (pc' := 17) (L' := [some (.inr (.inr 187)), some (.inl p1)]) (S' := []) (σ' := (SH L0, D)) (fun _ _ => rfl) ?_
    cases h
    exact ev_ret 2 (fun _ _ => rfl)
