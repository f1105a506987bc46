set_option maxRecDepth 100000 in
set_option maxHeartbeats 4000000 in
theorem e_X4_allJumps_162 (L0 d : Nat) (hd : 4 ≤ d) {D : DT} {t0 : Int} (h : m_X4_allJumps 162 D = some t0) : Ret mtab d 53 [.inr (.inr 162)] (SH L0, D) (some (.inl t0), (SH L0, D)) := by
  obtain ⟨d, rfl⟩ : ∃ e, d = e + 1 := ⟨d - 1, by omega⟩
  refine Ret.of (code := k_X4_allJumps) (ml := 3) rfl ?_
  show EvF mtab d k_X4_allJumps 0 [some (.inr (.inr 162)), none, none] [] (SH L0, D) (some (.inl t0), (SH L0, D))
  unfold m_X4_allJumps at h
  obtain ⟨r, hr, h⟩ := bnd h
  have hX : (fun (r : Int) => ∀ (o5 : Option (Sum Int Nat)), EvF mtab d k_X4_allJumps 29 [some (.inr (.inr 162)), some (.inl r), dv o5] [] (SH L0, D) (some (.inl t0), (SH L0, D))) r := by
    obtain ⟨l1_4, hre⟩ : ∃ q, q = r := ⟨r, rfl⟩
    subst hre
    intro o5
    show EvF mtab d k_X4_allJumps 29 [some (.inr (.inr 162)), some (.inl l1_4), dv o5] [] (SH L0, D) (some (.inl t0), (SH L0, D))
    cases h
    exact ev_ret 2 (fun _ _ => rfl)
  clear h
  refine ev_go 4 (pc' := 4) (L' := [some (.inr (.inr 162)), some (.inl 0), some (.inl 0)]) (S' := []) (σ' := (SH L0, D)) (fun _ _ => rfl) ?_
  refine loop_ind (P := fun s => EvF mtab d k_X4_allJumps 4 [some (.inr (.inr 162)), some (.inl s.1), some (.inl s.2)] [] (SH L0, D) (some (.inl t0), (SH L0, D))) (X := fun r => ∀ (o5 : Option (Sum Int Nat)), EvF mtab d k_X4_allJumps 29 [some (.inr (.inr 162)), some (.inl r), dv o5] [] (SH L0, D) (some (.inl t0), (SH L0, D))) hr hX ?_
  clear hr hX
  intro s t hb hK0
  obtain ⟨l1_1, l2_2⟩ := s
  show EvF mtab d k_X4_allJumps 4 [some (.inr (.inr 162)), some (.inl l1_1), some (.inl l2_2)] [] (SH L0, D) (some (.inl t0), (SH L0, D))
  unfold b_X4_allJumps_4 at hb
  rcases ite_or hb with ⟨hc, hb⟩ | ⟨hc, hb⟩
  · refine ev_ift hc 5 (pc' := 15) (L' := [some (.inr (.inr 162)), some (.inl l1_1), some (.inl l2_2)]) (S' := []) (σ' := (SH L0, D)) (fun _ _ => rfl) ?_
    obtain ⟨x3, hx, hb⟩ := bnd hb
    refine ev_call (e_X4_jumpsBy_162 L0 d (by omega) hx) 4 (pc' := 21) (L' := [some (.inr (.inr 162)), some (.inl l1_1), some (.inl l2_2)]) (S' := [.inl l1_1]) (fun _ _ => rfl) ?_
    cases hb
    exact ev_go 4 (pc' := 4) (L' := [some (.inr (.inr 162)), some (.inl (w32 (l1_1 + x3))), some (.inl (w32 (l2_2 + 1)))]) (S' := []) (σ' := (SH L0, D)) (fun _ _ => rfl) hK0
  · refine ev_iff hc 5 (pc' := 29) (L' := [some (.inr (.inr 162)), some (.inl l1_1), some (.inl l2_2)]) (S' := []) (σ' := (SH L0, D)) (fun _ _ => rfl) ?_
    cases hb
    exact hK0 (some (.inl l2_2))
set_option maxRecDepth 100000 in
set_option maxHeartbeats 4000000 in
theorem e_X4_allJumps_167 (L0 d : Nat) (hd : 4 ≤ d) {D : DT} {t0 : Int} (h : m_X4_allJumps 167 D = some t0) : Ret mtab d 53 [.inr (.inr 167)] (SH L0, D) (some (.inl t0), (SH L0, D)) := by
  obtain ⟨d, rfl⟩ : ∃ e, d = e + 1 := ⟨d - 1, by omega⟩
  refine Ret.of (code := k_X4_allJumps) (ml := 3) rfl ?_
  show EvF mtab d k_X4_allJumps 0 [some (.inr (.inr 167)), none, none] [] (SH L0, D) (some (.inl t0), (SH L0, D))
  unfold m_X4_allJumps at h
  obtain ⟨r, hr, h⟩ := bnd h
  have hX : (fun (r : Int) => ∀ (o5 : Option (Sum Int Nat)), EvF mtab d k_X4_allJumps 29 [some (.inr (.inr 167)), some (.inl r), dv o5] [] (SH L0, D) (some (.inl t0), (SH L0, D))) r := by
    obtain ⟨l1_4, hre⟩ : ∃ q, q = r := ⟨r, rfl⟩
    subst hre
    intro o5
    show EvF mtab d k_X4_allJumps 29 [some (.inr (.inr 167)), some (.inl l1_4), dv o5] [] (SH L0, D) (some (.inl t0), (SH L0, D))
    cases h
    exact ev_ret 2 (fun _ _ => rfl)
  clear h
  refine ev_go 4 (pc' := 4) (L' := [some (.inr (.inr 167)), some (.inl 0), some (.inl 0)]) (S' := []) (σ' := (SH L0, D)) (fun _ _ => rfl) ?_
  refine loop_ind (P := fun s => EvF mtab d k_X4_allJumps 4 [some (.inr (.inr 167)), some (.inl s.1), some (.inl s.2)] [] (SH L0, D) (some (.inl t0), (SH L0, D))) (X := fun r => ∀ (o5 : Option (Sum Int Nat)), EvF mtab d k_X4_allJumps 29 [some (.inr (.inr 167)), some (.inl r), dv o5] [] (SH L0, D) (some (.inl t0), (SH L0, D))) hr hX ?_
  clear hr hX
  intro s t hb hK0
  obtain ⟨l1_1, l2_2⟩ := s
  show EvF mtab d k_X4_allJumps 4 [some (.inr (.inr 167)), some (.inl l1_1), some (.inl l2_2)] [] (SH L0, D) (some (.inl t0), (SH L0, D))
  unfold b_X4_allJumps_4 at hb
  rcases ite_or hb with ⟨hc, hb⟩ | ⟨hc, hb⟩
  · refine ev_ift hc 5 (pc' := 15) (L' := [some (.inr (.inr 167)), some (.inl l1_1), some (.inl l2_2)]) (S' := []) (σ' := (SH L0, D)) (fun _ _ => rfl) ?_
    obtain ⟨x3, hx, hb⟩ := bnd hb
    refine ev_call (e_X4_jumpsBy_167 L0 d (by omega) hx) 4 (pc' := 21) (L' := [some (.inr (.inr 167)), some (.inl l1_1), some (.inl l2_2)]) (S' := [.inl l1_1]) (fun _ _ => rfl) ?_
    cases hb
    exact ev_go 4 (pc' := 4) (L' := [some (.inr (.inr 167)), some (.inl (w32 (l1_1 + x3))), some (.inl (w32 (l2_2 + 1)))]) (S' := []) (σ' := (SH L0, D)) (fun _ _ => rfl) hK0
  · refine ev_iff hc 5 (pc' := 29) (L' := [some (.inr (.inr 167)), some (.inl l1_1), some (.inl l2_2)]) (S' := []) (σ' := (SH L0, D)) (fun _ _ => rfl) ?_
    cases hb
    exact hK0 (some (.inl l2_2))
set_option maxRecDepth 100000 in
set_option maxHeartbeats 4000000 in
theorem e_X4_allJumps_172 (L0 d : Nat) (hd : 4 ≤ d) {D : DT} {t0 : Int} (h : m_X4_allJumps 172 D = some t0) : Ret mtab d 53 [.inr (.inr 172)] (SH L0, D) (some (.inl t0), (SH L0, D)) := by
  obtain ⟨d, rfl⟩ : ∃ e, d = e + 1 := ⟨d - 1, by omega⟩
  refine Ret.of (code := k_X4_allJumps) (ml := 3) rfl ?_
  show EvF mtab d k_X4_allJumps 0 [some (.inr (.inr 172)), none, none] [] (SH L0, D) (some (.inl t0), (SH L0, D))
  unfold m_X4_allJumps at h
  obtain ⟨r, hr, h⟩ := bnd h
  have hX : (fun (r : Int) => ∀ (o5 : Option (Sum Int Nat)), EvF mtab d k_X4_allJumps 29 [some (.inr (.inr 172)), some (.inl r), dv o5] [] (SH L0, D) (some (.inl t0), (SH L0, D))) r := by
    obtain ⟨l1_4, hre⟩ : ∃ q, q = r := ⟨r, rfl⟩
    subst hre
    intro o5
    show EvF mtab d k_X4_allJumps 29 [some (.inr (.inr 172)), some (.inl l1_4), dv o5] [] (SH L0, D) (some (.inl t0), (SH L0, D))
    cases h
    exact ev_ret 2 (fun _ _ => rfl)
  clear h
  refine ev_go 4 (pc' := 4) (L' := [some (.inr (.inr 172)), some (.inl 0), some (.inl 0)]) (S' := []) (σ' := (SH L0, D)) (fun _ _ => rfl) ?_
  refine loop_ind (P := fun s => EvF mtab d k_X4_allJumps 4 [some (.inr (.inr 172)), some (.inl s.1), some (.inl s.2)] [] (SH L0, D) (some (.inl t0), (SH L0, D))) (X := fun r => ∀ (o5 : Option (Sum Int Nat)), EvF mtab d k_X4_allJumps 29 [some (.inr (.inr 172)), some (.inl r), dv o5] [] (SH L0, D) (some (.inl t0), (SH L0, D))) hr hX ?_
  clear hr hX
  intro s t hb hK0
  obtain ⟨l1_1, l2_2⟩ := s
  show EvF mtab d k_X4_allJumps 4 [some (.inr (.inr 172)), some (.inl l1_1), some (.inl l2_2)] [] (SH L0, D) (some (.inl t0), (SH L0, D))
  unfold b_X4_allJumps_4 at hb
  rcases ite_or hb with ⟨hc, hb⟩ | ⟨hc, hb⟩
  · refine ev_ift hc 5 (pc' := 15) (L' := [some (.inr (.inr 172)), some (.inl l1_1), some (.inl l2_2)]) (S' := []) (σ' := (SH L0, D)) (fun _ _ => rfl) ?_
    obtain ⟨x3, hx, hb⟩ := bnd hb
    refine ev_call (e_X4_jumpsBy_172 L0 d (by omega) hx) 4 (pc' := 21) (L' := [some (.inr (.inr 172)), some (.inl l1_1), some (.inl l2_2)]) (S' := [.inl l1_1]) (fun _ _ => rfl) ?_
    cases hb
    exact ev_go 4 (pc' := 4) (L' := [some (.inr (.inr 172)), some (.inl (w32 (l1_1 + x3))), some (.inl (w32 (l2_2 + 1)))]) (S' := []) (σ' := (SH L0, D)) (fun _ _ => rfl) hK0
  · refine ev_iff hc 5 (pc' := 29) (L' := [some (.inr (.inr 172)), some (.inl l1_1), some (.inl l2_2)]) (S' := []) (σ' := (SH L0, D)) (fun _ _ => rfl) ?_
    cases hb
    exact hK0 (some (.inl l2_2))
set_option maxRecDepth 100000 in
set_option maxHeartbeats 4000000 in
theorem e_X4_allJumps_177 (L0 d : Nat) (hd : 4 ≤ d) {D : DT} {t0 : Int} (h : m_X4_allJumps 177 D = some t0) : Ret mtab d 53 [.inr (.inr 177)] (SH L0, D) (some (.inl t0), (SH L0, D)) := by
  obtain ⟨d, rfl⟩ : ∃ e, d = e + 1 := ⟨d - 1, by omega⟩
  refine Ret.of (code := k_X4_allJumps) (ml := 3) rfl ?_
  show EvF mtab d k_X4_allJumps 0 [some (.inr (.inr 177)), none, none] [] (SH L0, D) (some (.inl t0), (SH L0, D))
  unfold m_X4_allJumps at h
  obtain ⟨r, hr, h⟩ := bnd h
  have hX : (fun (r : Int) => ∀ (o5 : Option (Sum Int Nat)), EvF mtab d k_X4_allJumps 29 [some (.inr (.inr 177)), some (.inl r), dv o5] [] (SH L0, D) (some (.inl t0), (SH L0, D))) r := by
    obtain ⟨l1_4, hre⟩ : ∃ q, q = r := ⟨r, rfl⟩
    subst hre
    intro o5
    show EvF mtab d k_X4_allJumps 29 [some (.inr (.inr 177)), some (.inl l1_4), dv o5] [] (SH L0, D) (some (.inl t0), (SH L0, D))
    cases h
    exact ev_ret 2 (fun _ _ => rfl)
  clear h
  refine ev_go 4 (pc' := 4) (L' := [some (.inr (.inr 177)), some (.inl 0), some (.inl 0)]) (S' := []) (σ' := (SH L0, D)) (fun _ _ => rfl) ?_
  refine loop_ind (P := fun s => EvF mtab d k_X4_allJumps 4 [some (.inr (.inr 177)), some (.inl s.1), some (.inl s.2)] [] (SH L0, D) (some (.inl t0), (SH L0, D))) (X := fun r => ∀ (o5 : Option (Sum Int Nat)), EvF mtab d k_X4_allJumps 29 [some (.inr (.inr 177)), some (.inl r), dv o5] [] (SH L0, D) (some (.inl t0), (SH L0, D))) hr hX ?_
  clear hr hX
  intro s t hb hK0
  obtain ⟨l1_1, l2_2⟩ := s
  show EvF mtab d k_X4_allJumps 4 [some (.inr (.inr 177)), some (.inl l1_1), some (.inl l2_2)] [] (SH L0, D) (some (.inl t0), (SH L0, D))
  unfold b_X4_allJumps_4 at hb
  rcases ite_or hb with ⟨hc, hb⟩ | ⟨hc, hb⟩
  · refine ev_ift hc 5 (pc' := 15) (L' := [some (.inr (.inr 177)), some (.inl l1_1), some (.inl l2_2)]) (S' := []) (σ' := (SH L0, D)) (fun _ _ => rfl) ?_
    obtain ⟨x3, hx, hb⟩ := bnd hb
    refine ev_call (e_X4_jumpsBy_177 L0 d (by omega) hx) 4 (pc' := 21) (L' := [some (.inr (.inr 177)), some (.inl l1_1), some (.inl l2_2)]) (S' := [.inl l1_1]) (fun _ _ => rfl) ?_
    cases hb
    exact ev_go 4 (pc' := 4) (L' := [some (.inr (.inr 177)), some (.inl (w32 (l1_1 + x3))), some (.inl (w32 (l2_2 + 1)))]) (S' := []) (σ' := (SH L0, D)) (fun _ _ => rfl) hK0
  · refine ev_iff hc 5 (pc' := 29) (L' := [some (.inr (.inr 177)), some (.inl l1_1), some (.inl l2_2)]) (S' := []) (σ' := (SH L0, D)) (fun _ _ => rfl) ?_
    cases hb
    exact hK0 (some (.inl l2_2))
set_option maxRecDepth 100000 in
set_option maxHeartbeats 4000000 in
theorem e_X4_allJumps_182 (L0 d : Nat) (hd : 4 ≤ d) {D : DT} {t0 : Int} (h : m_X4_allJumps 182 D = some t0) : Ret mtab d 53 [.inr (.inr 182)] (SH L0, D) (some (.inl t0), (SH L0, D)) := by
  obtain ⟨d, rfl⟩ : ∃ e, d = e + 1 := ⟨d - 1, by omega⟩
  refine Ret.of (code := k_X4_allJumps) (ml := 3) rfl ?_
  show EvF mtab d k_X4_allJumps 0 [some (.inr (.inr 182)), none, none] [] (SH L0, D) (some (.inl t0), (SH L0, D))
  unfold m_X4_allJumps at h
  obtain ⟨r, hr, h⟩ := bnd h
  have hX : (fun (r : Int) => ∀ (o5 : Option (Sum Int Nat)), EvF mtab d k_X4_allJumps 29 [some (.inr (.inr 182)), some (.inl r), dv o5] [] (SH L0, D) (some (.inl t0), (SH L0, D))) r := by
    obtain ⟨l1_4, hre⟩ : ∃ q, q = r := ⟨r, rfl⟩
    subst hre
    intro o5
    show EvF mtab d k_X4_allJumps 29 [some (.inr (.inr 182)), some (.inl l1_4), dv o5] [] (SH L0, D) (some (.inl t0), (SH L0, D))
    cases h
    exact ev_ret 2 (fun _ _ => rfl)
  clear h
  refine ev_go 4 (pc' := 4) (L' := [some (.inr (.inr 182)), some (.inl 0), some (.inl 0)]) (S' := []) (σ' := (SH L0, D)) (fun _ _ => rfl) ?_
  refine loop_ind (P := fun s => EvF mtab d k_X4_allJumps 4 [some (.inr (.inr 182)), some (.inl s.1), some (.inl s.2)] [] (SH L0, D) (some (.inl t0), (SH L0, D))) (X := fun r => ∀ (o5 : Option (Sum Int Nat)), EvF mtab d k_X4_allJumps 29 [some (.inr (.inr 182)), some (.inl r), dv o5] [] (SH L0, D) (some (.inl t0), (SH L0, D))) hr hX ?_
  clear hr hX
  intro s t hb hK0
  obtain ⟨l1_1, l2_2⟩ := s
  show EvF mtab d k_X4_allJumps 4 [some (.inr (.inr 182)), some (.inl l1_1), some (.inl l2_2)] [] (SH L0, D) (some (.inl t0), (SH L0, D))
  unfold b_X4_allJumps_4 at hb
  rcases ite_or hb with ⟨hc, hb⟩ | ⟨hc, hb⟩
  · refine ev_ift hc 5 (pc' := 15) (L' := [some (.inr (.inr 182)), some (.inl l1_1), some (.inl l2_2)]) (S' := []) (σ' := (SH L0, D)) (fun _ _ => rfl) ?_
    obtain ⟨x3, hx, hb⟩ := bnd hb
    refine ev_call (e_X4_jumpsBy_182 L0 d (by omega) hx) 4 (pc' := 21) (L' := [some (.inr (.inr 182)), some (.inl l1_1), some (.inl l2_2)]) (S' := [.inl l1_1]) (fun _ _ => rfl) ?_
    cases hb
    exact ev_go 4 (pc' := 4) (L' := [some (.inr (.inr 182)), some (.inl (w32 (l1_1 + x3))), some (.inl (w32 (l2_2 + 1)))]) (S' := []) (σ' := (SH L0, D)) (fun _ _ => rfl) hK0
  · refine ev_iff hc 5 (pc' := 29) (L' := [some (.inr (.inr 182)), some (.inl l1_1), some (.inl l2_2)]) (S' := []) (σ' := (SH L0, D)) (fun _ _ => rfl) ?_
    cases hb
    exact hK0 (some (.inl l2_2))
set_option maxRecDepth 100000 in
set_option maxHeartbeats 4000000 in
theorem e_X4_fallCount_162 (L0 d : Nat) (hd : 3 ≤ d) {D : DT} {t0 : Int} (h : m_X4_fallCount 162 D = some t0) : Ret mtab d 54 [.inr (.inr 162)] (SH L0, D) (some (.inl t0), (SH L0, D)) := by
  obtain ⟨d, rfl⟩ : ∃ e, d = e + 1 := ⟨d - 1, by omega⟩
  refine Ret.of (code := k_X4_fallCount) (ml := 3) rfl ?_
  show EvF mtab d k_X4_fallCount 0 [some (.inr (.inr 162)), none, none] [] (SH L0, D) (some (.inl t0), (SH L0, D))
  unfold m_X4_fallCount at h
  obtain ⟨r, hr, h⟩ := bnd h
  have hX : (fun (r : Int) => ∀ (o6 : Option (Sum Int Nat)), EvF mtab d k_X4_fallCount 32 [some (.inr (.inr 162)), some (.inl r), dv o6] [] (SH L0, D) (some (.inl t0), (SH L0, D))) r := by
    obtain ⟨l1_5, hre⟩ : ∃ q, q = r := ⟨r, rfl⟩
    subst hre
    intro o6
    show EvF mtab d k_X4_fallCount 32 [some (.inr (.inr 162)), some (.inl l1_5), dv o6] [] (SH L0, D) (some (.inl t0), (SH L0, D))
    cases h
    exact ev_ret 2 (fun _ _ => rfl)
  clear h
  refine ev_go 4 (pc' := 4) (L' := [some (.inr (.inr 162)), some (.inl 0), some (.inl 0)]) (S' := []) (σ' := (SH L0, D)) (fun _ _ => rfl) ?_
  refine loop_ind (P := fun s => EvF mtab d k_X4_fallCount 4 [some (.inr (.inr 162)), some (.inl s.1), some (.inl s.2)] [] (SH L0, D) (some (.inl t0), (SH L0, D))) (X := fun r => ∀ (o6 : Option (Sum Int Nat)), EvF mtab d k_X4_fallCount 32 [some (.inr (.inr 162)), some (.inl r), dv o6] [] (SH L0, D) (some (.inl t0), (SH L0, D))) hr hX ?_
  clear hr hX
  intro s t hb hK0
  obtain ⟨l1_1, l2_2⟩ := s
  show EvF mtab d k_X4_fallCount 4 [some (.inr (.inr 162)), some (.inl l1_1), some (.inl l2_2)] [] (SH L0, D) (some (.inl t0), (SH L0, D))
  unfold b_X4_fallCount_4 at hb
  rcases ite_or hb with ⟨hc, hb⟩ | ⟨hc, hb⟩
  · refine ev_ift hc 5 (pc' := 15) (L' := [some (.inr (.inr 162)), some (.inl l1_1), some (.inl l2_2)]) (S' := []) (σ' := (SH L0, D)) (fun _ _ => rfl) ?_
    obtain ⟨x3, hx, hb⟩ := bnd hb
    refine ev_call (e_X4_isFall_162 L0 d (by omega) hx) 3 (pc' := 20) (L' := [some (.inr (.inr 162)), some (.inl l1_1), some (.inl l2_2)]) (S' := []) (fun _ _ => rfl) ?_
    obtain ⟨l1_4, hv, hb⟩ := bnd hb
    have hJ : EvF mtab d k_X4_fallCount 26 [some (.inr (.inr 162)), some (.inl l1_4), some (.inl l2_2)] [] (SH L0, D) (some (.inl t0), (SH L0, D)) := by
      cases hb
      exact ev_go 2 (pc' := 4) (L' := [some (.inr (.inr 162)), some (.inl l1_4), some (.inl (w32 (l2_2 + 1)))]) (S' := []) (σ' := (SH L0, D)) (fun _ _ => rfl) hK0
    clear hb
    rcases ite_or hv with ⟨hc, hv⟩ | ⟨hc, hv⟩
    · refine ev_ift hc 1 (pc' := 26) (L' := [some (.inr (.inr 162)), some (.inl l1_1), some (.inl l2_2)]) (S' := []) (σ' := (SH L0, D)) (fun _ _ => rfl) ?_
      have he0 := Option.some.inj hv
      subst he0
      exact hJ
    · refine ev_iff hc 1 (pc' := 23) (L' := [some (.inr (.inr 162)), some (.inl l1_1), some (.inl l2_2)]) (S' := []) (σ' := (SH L0, D)) (fun _ _ => rfl) ?_
      have he0 := Option.some.inj hv
      subst he0
      exact ev_go 1 (pc' := 26) (L' := [some (.inr (.inr 162)), some (.inl (w32 (l1_1 + 1))), some (.inl l2_2)]) (S' := []) (σ' := (SH L0, D)) (fun _ _ => rfl) hJ
  · refine ev_iff hc 5 (pc' := 32) (L' := [some (.inr (.inr 162)), some (.inl l1_1), some (.inl l2_2)]) (S' := []) (σ' := (SH L0, D)) (fun _ _ => rfl) ?_
    cases hb
    exact hK0 (some (.inl l2_2))
set_option maxRecDepth 100000 in
set_option maxHeartbeats 4000000 in
theorem e_X4_fallCount_167 (L0 d : Nat) (hd : 3 ≤ d) {D : DT} {t0 : Int} (h : m_X4_fallCount 167 D = some t0) : Ret mtab d 54 [.inr (.inr 167)] (SH L0, D) (some (.inl t0), (SH L0, D)) := by
  obtain ⟨d, rfl⟩ : ∃ e, d = e + 1 := ⟨d - 1, by omega⟩
  refine Ret.of (code := k_X4_fallCount) (ml := 3) rfl ?_
  show EvF mtab d k_X4_fallCount 0 [some (.inr (.inr 167)), none, none] [] (SH L0, D) (some (.inl t0), (SH L0, D))
  unfold m_X4_fallCount at h
  obtain ⟨r, hr, h⟩ := bnd h
  have hX : (fun (r : Int) => ∀ (o6 : Option (Sum Int Nat)), EvF mtab d k_X4_fallCount 32 [some (.inr (.inr 167)), some (.inl r), dv o6] [] (SH L0, D) (some (.inl t0), (SH L0, D))) r := by
    obtain ⟨l1_5, hre⟩ : ∃ q, q = r := ⟨r, rfl⟩
    subst hre
    intro o6
    show EvF mtab d k_X4_fallCount 32 [some (.inr (.inr 167)), some (.inl l1_5), dv o6] [] (SH L0, D) (some (.inl t0), (SH L0, D))
    cases h
    exact ev_ret 2 (fun _ _ => rfl)
  clear h
  refine ev_go 4 (pc' := 4) (L' := [some (.inr (.inr 167)), some (.inl 0), some (.inl 0)]) (S' := []) (σ' := (SH L0, D)) (fun _ _ => rfl) ?_
  refine loop_ind (P := fun s => EvF mtab d k_X4_fallCount 4 [some (.inr (.inr 167)), some (.inl s.1), some (.inl s.2)] [] (SH L0, D) (some (.inl t0), (SH L0, D))) (X := fun r => ∀ (o6 : Option (Sum Int Nat)), EvF mtab d k_X4_fallCount 32 [some (.inr (.inr 167)), some (.inl r), dv o6] [] (SH L0, D) (some (.inl t0), (SH L0, D))) hr hX ?_
  clear hr hX
  intro s t hb hK0
  obtain ⟨l1_1, l2_2⟩ := s
  show EvF mtab d k_X4_fallCount 4 [some (.inr (.inr 167)), some (.inl l1_1), some (.inl l2_2)] [] (SH L0, D) (some (.inl t0), (SH L0, D))
  unfold b_X4_fallCount_4 at hb
  rcases ite_or hb with ⟨hc, hb⟩ | ⟨hc, hb⟩
  · refine ev_ift hc 5 (pc' := 15) (L' := [some (.inr (.inr 167)), some (.inl l1_1), some (.inl l2_2)]) (S' := []) (σ' := (SH L0, D)) (fun _ _ => rfl) ?_
    obtain ⟨x3, hx, hb⟩ := bnd hb
    refine ev_call (e_X4_isFall_167 L0 d (by omega) hx) 3 (pc' := 20) (L' := [some (.inr (.inr 167)), some (.inl l1_1), some (.inl l2_2)]) (S' := []) (fun _ _ => rfl) ?_
    obtain ⟨l1_4, hv, hb⟩ := bnd hb
    have hJ : EvF mtab d k_X4_fallCount 26 [some (.inr (.inr 167)), some (.inl l1_4), some (.inl l2_2)] [] (SH L0, D) (some (.inl t0), (SH L0, D)) := by
      cases hb
      exact ev_go 2 (pc' := 4) (L' := [some (.inr (.inr 167)), some (.inl l1_4), some (.inl (w32 (l2_2 + 1)))]) (S' := []) (σ' := (SH L0, D)) (fun _ _ => rfl) hK0
    clear hb
    rcases ite_or hv with ⟨hc, hv⟩ | ⟨hc, hv⟩
    · refine ev_ift hc 1 (pc' := 26) (L' := [some (.inr (.inr 167)), some (.inl l1_1), some (.inl l2_2)]) (S' := []) (σ' := (SH L0, D)) (fun _ _ => rfl) ?_
      have he0 := Option.some.inj hv
      subst he0
      exact hJ
    · refine ev_iff hc 1 (pc' := 23) (L' := [some (.inr (.inr 167)), some (.inl l1_1), some (.inl l2_2)]) (S' := []) (σ' := (SH L0, D)) (fun _ _ => rfl) ?_
      have he0 := Option.some.inj hv
      subst he0
      exact ev_go 1 (pc' := 26) (L' := [some (.inr (.inr 167)), some (.inl (w32 (l1_1 + 1))), some (.inl l2_2)]) (S' := []) (σ' := (SH L0, D)) (fun _ _ => rfl) hJ
  · refine ev_iff hc 5 (pc' := 32) (L' := [some (.inr (.inr 167)), some (.inl l1_1), some (.inl l2_2)]) (S' := []) (σ' := (SH L0, D)) (fun _ _ => rfl) ?_
    cases hb
    exact hK0 (some (.inl l2_2))
set_option maxRecDepth 100000 in
set_option maxHeartbeats 4000000 in
theorem e_X4_fallCount_172 (L0 d : Nat) (hd : 3 ≤ d) {D : DT} {t0 : Int} (h : m_X4_fallCount 172 D = some t0) : Ret mtab d 54 [.inr (.inr 172)] (SH L0, D) (some (.inl t0), (SH L0, D)) := by
  obtain ⟨d, rfl⟩ : ∃ e, d = e + 1 := ⟨d - 1, by omega⟩
  refine Ret.of (code := k_X4_fallCount) (ml := 3) rfl ?_
  show EvF mtab d k_X4_fallCount 0 [some (.inr (.inr 172)), none, none] [] (SH L0, D) (some (.inl t0), (SH L0, D))
  unfold m_X4_fallCount at h
  obtain ⟨r, hr, h⟩ := bnd h
  have hX : (fun (r : Int) => ∀ (o6 : Option (Sum Int Nat)), EvF mtab d k_X4_fallCount 32 [some (.inr (.inr 172)), some (.inl r), dv o6] [] (SH L0, D) (some (.inl t0), (SH L0, D))) r := by
    obtain ⟨l1_5, hre⟩ : ∃ q, q = r := ⟨r, rfl⟩
    subst hre
    intro o6
    show EvF mtab d k_X4_fallCount 32 [some (.inr (.inr 172)), some (.inl l1_5), dv o6] [] (SH L0, D) (some (.inl t0), (SH L0, D))
    cases h
    exact ev_ret 2 (fun _ _ => rfl)
  clear h
  refine ev_go 4 (pc' := 4) (L' := [some (.inr (.inr 172)), some (.inl 0), some (.inl 0)]) (S' := []) (σ' := (SH L0, D)) (fun _ _ => rfl) ?_
  refine loop_ind (P := fun s => EvF mtab d k_X4_fallCount 4 [some (.inr (.inr 172)), some (.inl s.1), some (.inl s.2)] [] (SH L0, D) (some (.inl t0), (SH L0, D))) (X := fun r => ∀ (o6 : Option (Sum Int Nat)), EvF mtab d k_X4_fallCount 32 [some (.inr (.inr 172)), some (.inl r), dv o6] [] (SH L0, D) (some (.inl t0), (SH L0, D))) hr hX ?_
  clear hr hX
  intro s t hb hK0
  obtain ⟨l1_1, l2_2⟩ := s
  show EvF mtab d k_X4_fallCount 4 [some (.inr (.inr 172)), some (.inl l1_1), some (.inl l2_2)] [] (SH L0, D) (some (.inl t0), (SH L0, D))
  unfold b_X4_fallCount_4 at hb
  rcases ite_or hb with ⟨hc, hb⟩ | ⟨hc, hb⟩
  · refine ev_ift hc 5 (pc' := 15) (L' := [some (.inr (.inr 172)), some (.inl l1_1), some (.inl l2_2)]) (S' := []) (σ' := (SH L0, D)) (fun _ _ => rfl) ?_
    obtain ⟨x3, hx, hb⟩ := bnd hb
    refine ev_call (e_X4_isFall_172 L0 d (by omega) hx) 3 (pc' := 20) (L' := [some (.inr (.inr 172)), some (.inl l1_1), some (.inl l2_2)]) (S' := []) (fun _ _ => rfl) ?_
    obtain ⟨l1_4, hv, hb⟩ := bnd hb
    have hJ : EvF mtab d k_X4_fallCount 26 [some (.inr (.inr 172)), some (.inl l1_4), some (.inl l2_2)] [] (SH L0, D) (some (.inl t0), (SH L0, D)) := by
      cases hb
      exact ev_go 2 (pc' := 4) (L' := [some (.inr (.inr 172)), some (.inl l1_4), some (.inl (w32 (l2_2 + 1)))]) (S' := []) (σ' := (SH L0, D)) (fun _ _ => rfl) hK0
    clear hb
    rcases ite_or hv with ⟨hc, hv⟩ | ⟨hc, hv⟩
    · refine ev_ift hc 1 (pc' := 26) (L' := [some (.inr (.inr 172)), some (.inl l1_1), some (.inl l2_2)]) (S' := []) (σ' := (SH L0, D)) (fun _ _ => rfl) ?_
      have he0 := Option.some.inj hv
      subst he0
      exact hJ
    · refine ev_iff hc 1 (pc' := 23) (L' := [some (.inr (.inr 172)), some (.inl l1_1), some (.inl l2_2)]) (S' := []) (σ' := (SH L0, D)) (fun _ _ => rfl) ?_
      have he0 := Option.some.inj hv
      subst he0
      exact ev_go 1 (pc' := 26) (L' := [some (.inr (.inr 172)), some (.inl (w32 (l1_1 + 1))), some (.inl l2_2)]) (S' := []) (σ' := (SH L0, D)) (fun _ _ => rfl) hJ
  · refine ev_iff hc 5 (pc' := 32) (L' := [some (.inr (.inr 172)), some (.inl l1_1), some (.inl l2_2)]) (S' := []) (σ' := (SH L0, D)) (fun _ _ => rfl) ?_
    cases hb
    exact hK0 (some (.inl l2_2))
set_option maxRecDepth 100000 in
set_option maxHeartbeats 4000000 in
theorem e_X4_fallCount_177 (L0 d : Nat) (hd : 3 ≤ d) {D : DT} {t0 : Int} (h : m_X4_fallCount 177 D = some t0) : Ret mtab d 54 [.inr (.inr 177)] (SH L0, D) (some (.inl t0), (SH L0, D)) := by
  obtain ⟨d, rfl⟩ : ∃ e, d = e + 1 := ⟨d - 1, by omega⟩
  refine Ret.of (code := k_X4_fallCount) (ml := 3) rfl ?_
  show EvF mtab d k_X4_fallCount 0 [some (.inr (.inr 177)), none, none] [] (SH L0, D) (some (.inl t0), (SH L0, D))
  unfold m_X4_fallCount at h
  obtain ⟨r, hr, h⟩ := bnd h
  have hX : (fun (r : Int) => ∀ (o6 : Option (Sum Int Nat)), EvF mtab d k_X4_fallCount 32 [some (.inr (.inr 177)), some (.inl r), dv o6] [] (SH L0, D) (some (.inl t0), (SH L0, D))) r := by
    obtain ⟨l1_5, hre⟩ : ∃ q, q = r := ⟨r, rfl⟩
    subst hre
    intro o6
    show EvF mtab d k_X4_fallCount 32 [some (.inr (.inr 177)), some (.inl l1_5), dv o6] [] (SH L0, D) (some (.inl t0), (SH L0, D))
    cases h
    exact ev_ret 2 (fun _ _ => rfl)
  clear h
  refine ev_go 4 (pc' := 4) (L' := [some (.inr (.inr 177)), some (.inl 0), some (.inl 0)]) (S' := []) (σ' := (SH L0, D)) (fun _ _ => rfl) ?_
  refine loop_ind (P := fun s => EvF mtab d k_X4_fallCount 4 [some (.inr (.inr 177)), some (.inl s.1), some (.inl s.2)] [] (SH L0, D) (some (.inl t0), (SH L0, D))) (X := fun r => ∀ (o6 : Option (Sum Int Nat)), EvF mtab d k_X4_fallCount 32 [some (.inr (.inr 177)), some (.inl r), dv o6] [] (SH L0, D) (some (.inl t0), (SH L0, D))) hr hX ?_
  clear hr hX
  intro s t hb hK0
  obtain ⟨l1_1, l2_2⟩ := s
  show EvF mtab d k_X4_fallCount 4 [some (.inr (.inr 177)), some (.inl l1_1), some (.inl l2_2)] [] (SH L0, D) (some (.inl t0), (SH L0, D))
  unfold b_X4_fallCount_4 at hb
  rcases ite_or hb with ⟨hc, hb⟩ | ⟨hc, hb⟩
  · refine ev_ift hc 5 (pc' := 15) (L' := [some (.inr (.inr 177)), some (.inl l1_1), some (.inl l2_2)]) (S' := []) (σ' := (SH L0, D)) (fun _ _ => rfl) ?_
    obtain ⟨x3, hx, hb⟩ := bnd hb
    refine ev_call (e_X4_isFall_177 L0 d (by omega) hx) 3 (pc' := 20) (L' := [some (.inr (.inr 177)), some (.inl l1_1), some (.inl l2_2)]) (S' := []) (fun _ _ => rfl) ?_
    obtain ⟨l1_4, hv, hb⟩ := bnd hb
    have hJ : EvF mtab d k_X4_fallCount 26 [some (.inr (.inr 177)), some (.inl l1_4), some (.inl l2_2)] [] (SH L0, D) (some (.inl t0), (SH L0, D)) := by
      cases hb
      exact ev_go 2 (pc' := 4) (L' := [some (.inr (.inr 177)), some (.inl l1_4), some (.inl (w32 (l2_2 + 1)))]) (S' := []) (σ' := (SH L0, D)) (fun _ _ => rfl) hK0
    clear hb
    rcases ite_or hv with ⟨hc, hv⟩ | ⟨hc, hv⟩
    · refine ev_ift hc 1 (pc' := 26) (L' := [some (.inr (.inr 177)), some (.inl l1_1), some (.inl l2_2)]) (S' := []) (σ' := (SH L0, D)) (fun _ _ => rfl) ?_
      have he0 := Option.some.inj hv
      subst he0
      exact hJ
    · refine ev_iff hc 1 (pc' := 23) (L' := [some (.inr (.inr 177)), some (.inl l1_1), some (.inl l2_2)]) (S' := []) (σ' := (SH L0, D)) (fun _ _ => rfl) ?_
      have he0 := Option.some.inj hv
      subst he0
      exact ev_go 1 (pc' := 26) (L' := [some (.inr (.inr 177)), some (.inl (w32 (l1_1 + 1))), some (.inl l2_2)]) (S' := []) (σ' := (SH L0, D)) (fun _ _ => rfl) hJ
  · refine ev_iff hc 5 (pc' := 32) (L' := [some (.inr (.inr 177)), some (.inl l1_1), some (.inl l2_2)]) (S' := []) (σ' := (SH L0, D)) (fun _ _ => rfl) ?_
    cases hb
    exact hK0 (some (.inl l2_2))
set_option maxRecDepth 100000 in
set_option maxHeartbeats 4000000 in
theorem e_X4_fallCount_182 (L0 d : Nat) (hd : 3 ≤ d) {D : DT} {t0 : Int} (h : m_X4_fallCount 182 D = some t0) : Ret mtab d 54 [.inr (.inr 182)] (SH L0, D) (some (.inl t0), (SH L0, D)) := by
  obtain ⟨d, rfl⟩ : ∃ e, d = e + 1 := ⟨d - 1, by omega⟩
  refine Ret.of (code := k_X4_fallCount) (ml := 3) rfl ?_
  show EvF mtab d k_X4_fallCount 0 [some (.inr (.inr 182)), none, none] [] (SH L0, D) (some (.inl t0), (SH L0, D))
  unfold m_X4_fallCount at h
  obtain ⟨r, hr, h⟩ := bnd h
  have hX : (fun (r : Int) => ∀ (o6 : Option (Sum Int Nat)), EvF mtab d k_X4_fallCount 32 [some (.inr (.inr 182)), some (.inl r), dv o6] [] (SH L0, D) (some (.inl t0), (SH L0, D))) r := by
    obtain ⟨l1_5, hre⟩ : ∃ q, q = r := ⟨r, rfl⟩
    subst hre
    intro o6
    show EvF mtab d k_X4_fallCount 32 [some (.inr (.inr 182)), some (.inl l1_5), dv o6] [] (SH L0, D) (some (.inl t0), (SH L0, D))
    cases h
    exact ev_ret 2 (fun _ _ => rfl)
  clear h
  refine ev_go 4 (pc' := 4) (L' := [some (.inr (.inr 182)), some (.inl 0), some (.inl 0)]) (S' := []) (σ' := (SH L0, D)) (fun _ _ => rfl) ?_
  refine loop_ind (P := fun s => EvF mtab d k_X4_fallCount 4 [some (.inr (.inr 182)), some (.inl s.1), some (.inl s.2)] [] (SH L0, D) (some (.inl t0), (SH L0, D))) (X := fun r => ∀ (o6 : Option (Sum Int Nat)), EvF mtab d k_X4_fallCount 32 [some (.inr (.inr 182)), some (.inl r), dv o6] [] (SH L0, D) (some (.inl t0), (SH L0, D))) hr hX ?_
  clear hr hX
  intro s t hb hK0
  obtain ⟨l1_1, l2_2⟩ := s
  show EvF mtab d k_X4_fallCount 4 [some (.inr (.inr 182)), some (.inl l1_1), some (.inl l2_2)] [] (SH L0, D) (some (.inl t0), (SH L0, D))
  unfold b_X4_fallCount_4 at hb
  rcases ite_or hb with ⟨hc, hb⟩ | ⟨hc, hb⟩
  · refine ev_ift hc 5 (pc' := 15) (L' := [some (.inr (.inr 182)), some (.inl l1_1), some (.inl l2_2)]) (S' := []) (σ' := (SH L0, D)) (fun _ _ => rfl) ?_
    obtain ⟨x3, hx, hb⟩ := bnd hb
    refine ev_call (e_X4_isFall_182 L0 d (by omega) hx) 3 (pc' := 20) (L' := [some (.inr (.inr 182)), some (.inl l1_1), some (.inl l2_2)]) (S' := []) (fun _ _ => rfl) ?_
    obtain ⟨l1_4, hv, hb⟩ := bnd hb
    have hJ : EvF mtab d k_X4_fallCount 26 [some (.inr (.inr 182)), some (.inl l1_4), some (.inl l2_2)] [] (SH L0, D) (some (.inl t0), (SH L0, D)) := by
      cases hb
      exact ev_go 2 (pc' := 4) (L' := [some (.inr (.inr 182)), some (.inl l1_4), some (.inl (w32 (l2_2 + 1)))]) (S' := []) (σ' := (SH L0, D)) (fun _ _ => rfl) hK0
    clear hb
    rcases ite_or hv with ⟨hc, hv⟩ | ⟨hc, hv⟩
    · refine ev_ift hc 1 (pc' := 26) (L' := [some (.inr (.inr 182)), some (.inl l1_1), some (.inl l2_2)]) (S' := []) (σ' := (SH L0, D)) (fun _ _ => rfl) ?_
      have he0 := Option.some.inj hv
      subst he0
      exact hJ
    · refine ev_iff hc 1 (pc' := 23) (L' := [some (.inr (.inr 182)), some (.inl l1_1), some (.inl l2_2)]) (S' := []) (σ' := (SH L0, D)) (fun _ _ => rfl) ?_
      have he0 := Option.some.inj hv
      subst he0
      exact ev_go 1 (pc' := 26) (L' := [some (.inr (.inr 182)), some (.inl (w32 (l1_1 + 1))), some (.inl l2_2)]) (S' := []) (σ' := (SH L0, D)) (fun _ _ => rfl) hJ
  · refine ev_iff hc 5 (pc' := 32) (L' := [some (.inr (.inr 182)), some (.inl l1_1), some (.inl l2_2)]) (S' := []) (σ' := (SH L0, D)) (fun _ _ => rfl) ?_
    cases hb
    exact hK0 (some (.inl l2_2))
set_option maxRecDepth 100000 in
set_option maxHeartbeats 4000000 in
theorem e_X4_turned_162 (L0 d : Nat) (hd : 3 ≤ d) {D : DT} {t0 : Int} (h : m_X4_turned 162 D = some t0) : Ret mtab d 55 [.inr (.inr 162)] (SH L0, D) (some (.inl t0), (SH L0, D)) := by
  obtain ⟨d, rfl⟩ : ∃ e, d = e + 1 := ⟨d - 1, by omega⟩
  refine Ret.of (code := k_X4_turned) (ml := 3) rfl ?_
  show EvF mtab d k_X4_turned 0 [some (.inr (.inr 162)), none, none] [] (SH L0, D) (some (.inl t0), (SH L0, D))
  unfold m_X4_turned at h
  obtain ⟨r, hr, h⟩ := bnd h
  have hX : (fun (r : Int) => ∀ (o8 : Option (Sum Int Nat)), EvF mtab d k_X4_turned 53 [some (.inr (.inr 162)), some (.inl r), dv o8] [] (SH L0, D) (some (.inl t0), (SH L0, D))) r := by
    obtain ⟨l1_7, hre⟩ : ∃ q, q = r := ⟨r, rfl⟩
    subst hre
    intro o8
    show EvF mtab d k_X4_turned 53 [some (.inr (.inr 162)), some (.inl l1_7), dv o8] [] (SH L0, D) (some (.inl t0), (SH L0, D))
    cases h
    exact ev_ret 2 (fun _ _ => rfl)
  clear h
  refine ev_go 4 (pc' := 4) (L' := [some (.inr (.inr 162)), some (.inl 0), some (.inl 0)]) (S' := []) (σ' := (SH L0, D)) (fun _ _ => rfl) ?_
  refine loop_ind (P := fun s => EvF mtab d k_X4_turned 4 [some (.inr (.inr 162)), some (.inl s.1), some (.inl s.2)] [] (SH L0, D) (some (.inl t0), (SH L0, D))) (X := fun r => ∀ (o8 : Option (Sum Int Nat)), EvF mtab d k_X4_turned 53 [some (.inr (.inr 162)), some (.inl r), dv o8] [] (SH L0, D) (some (.inl t0), (SH L0, D))) hr hX ?_
  clear hr hX
  intro s t hb hK0
  obtain ⟨l1_1, l2_2⟩ := s
  show EvF mtab d k_X4_turned 4 [some (.inr (.inr 162)), some (.inl l1_1), some (.inl l2_2)] [] (SH L0, D) (some (.inl t0), (SH L0, D))
  unfold b_X4_turned_4 at hb
  rcases ite_or hb with ⟨hc, hb⟩ | ⟨hc, hb⟩
  · refine ev_ift hc 5 (pc' := 15) (L' := [some (.inr (.inr 162)), some (.inl l1_1), some (.inl l2_2)]) (S' := []) (σ' := (SH L0, D)) (fun _ _ => rfl) ?_
    obtain ⟨x3, hx, hb⟩ := bnd hb
    refine ev_bind hx 5 (pc' := 24) (L' := fun x3 => [some (.inr (.inr 162)), some (.inl l1_1), some (.inl l2_2)]) (S' := fun x3 => [.inl x3]) (σ' := fun x3 => (SH L0, D)) (fun _ _ => rfl) ?_
    obtain ⟨l1_6, hv, hb⟩ := bnd hb
    have hJ : EvF mtab d k_X4_turned 47 [some (.inr (.inr 162)), some (.inl l1_6), some (.inl l2_2)] [] (SH L0, D) (some (.inl t0), (SH L0, D)) := by
      cases hb
      exact ev_go 2 (pc' := 4) (L' := [some (.inr (.inr 162)), some (.inl l1_6), some (.inl (w32 (l2_2 + 1)))]) (S' := []) (σ' := (SH L0, D)) (fun _ _ => rfl) hK0
    clear hb
    rcases ite_or hv with ⟨hc, hv⟩ | ⟨hc, hv⟩
    · refine ev_ift hc 2 (pc' := 28) (L' := [some (.inr (.inr 162)), some (.inl l1_1), some (.inl l2_2)]) (S' := []) (σ' := (SH L0, D)) (fun _ _ => rfl) ?_
      obtain ⟨x4, hx, hv⟩ := bnd hv
      refine ev_bind hx 6 (pc' := 38) (L' := fun x4 => [some (.inr (.inr 162)), some (.inl l1_1), some (.inl l2_2)]) (S' := fun x4 => [.inl x4, .inr (.inr 162)]) (σ' := fun x4 => (SH L0, D)) (fun _ _ => rfl) ?_
      obtain ⟨x5, hx, hv⟩ := bnd hv
      refine ev_call (e_X4_isFall_162 L0 d (by omega) hx) 1 (pc' := 41) (L' := [some (.inr (.inr 162)), some (.inl l1_1), some (.inl l2_2)]) (S' := []) (fun _ _ => rfl) ?_
      rcases ite_or hv with ⟨hc, hv⟩ | ⟨hc, hv⟩
      · refine ev_ift hc 1 (pc' := 47) (L' := [some (.inr (.inr 162)), some (.inl l1_1), some (.inl l2_2)]) (S' := []) (σ' := (SH L0, D)) (fun _ _ => rfl) ?_
        have he0 := Option.some.inj hv
        subst he0
        exact hJ
      · refine ev_iff hc 1 (pc' := 44) (L' := [some (.inr (.inr 162)), some (.inl l1_1), some (.inl l2_2)]) (S' := []) (σ' := (SH L0, D)) (fun _ _ => rfl) ?_
        have he0 := Option.some.inj hv
        subst he0
        exact ev_go 1 (pc' := 47) (L' := [some (.inr (.inr 162)), some (.inl (w32 (l1_1 + 1))), some (.inl l2_2)]) (S' := []) (σ' := (SH L0, D)) (fun _ _ => rfl) hJ
    · refine ev_iff hc 2 (pc' := 47) (L' := [some (.inr (.inr 162)), some (.inl l1_1), some (.inl l2_2)]) (S' := []) (σ' := (SH L0, D)) (fun _ _ => rfl) ?_
      have he0 := Option.some.inj hv
      subst he0
      exact hJ
  · refine ev_iff hc 5 (pc' := 53) (L' := [some (.inr (.inr 162)), some (.inl l1_1), some (.inl l2_2)]) (S' := []) (σ' := (SH L0, D)) (fun _ _ => rfl) ?_
    cases hb
    exact hK0 (some (.inl l2_2))
set_option maxRecDepth 100000 in
set_option maxHeartbeats 4000000 in
theorem e_X4_turned_167 (L0 d : Nat) (hd : 3 ≤ d) {D : DT} {t0 : Int} (h : m_X4_turned 167 D = some t0) : Ret mtab d 55 [.inr (.inr 167)] (SH L0, D) (some (.inl t0), (SH L0, D)) := by
  obtain ⟨d, rfl⟩ : ∃ e, d = e + 1 := ⟨d - 1, by omega⟩
  refine Ret.of (code := k_X4_turned) (ml := 3) rfl ?_
  show EvF mtab d k_X4_turned 0 [some (.inr (.inr 167)), none, none] [] (SH L0, D) (some (.inl t0), (SH L0, D))
  unfold m_X4_turned at h
  obtain ⟨r, hr, h⟩ := bnd h
  have hX : (fun (r : Int) => ∀ (o8 : Option (Sum Int Nat)), EvF mtab d k_X4_turned 53 [some (.inr (.inr 167)), some (.inl r), dv o8] [] (SH L0, D) (some (.inl t0), (SH L0, D))) r := by
    obtain ⟨l1_7, hre⟩ : ∃ q, q = r := ⟨r, rfl⟩
    subst hre
    intro o8
    show EvF mtab d k_X4_turned 53 [some (.inr (.inr 167)), some (.inl l1_7), dv o8] [] (SH L0, D) (some (.inl t0), (SH L0, D))
    cases h
    exact ev_ret 2 (fun _ _ => rfl)
  clear h
  refine ev_go 4 (pc' := 4) (L' := [some (.inr (.inr 167)), some (.inl 0), some (.inl 0)]) (S' := []) (σ' := (SH L0, D)) (fun _ _ => rfl) ?_
  refine loop_ind (P := fun s => EvF mtab d k_X4_turned 4 [some (.inr (.inr 167)), some (.inl s.1), some (.inl s.2)] [] (SH L0, D) (some (.inl t0), (SH L0, D))) (X := fun r => ∀ (o8 : Option (Sum Int Nat)), EvF mtab d k_X4_turned 53 [some (.inr (.inr 167)), some (.inl r), dv o8] [] (SH L0, D) (some (.inl t0), (SH L0, D))) hr hX ?_
  clear hr hX
  intro s t hb hK0
  obtain ⟨l1_1, l2_2⟩ := s
  show EvF mtab d k_X4_turned 4 [some (.inr (.inr 167)), some (.inl l1_1), some (.inl l2_2)] [] (SH L0, D) (some (.inl t0), (SH L0, D))
  unfold b_X4_turned_4 at hb
  rcases ite_or hb with ⟨hc, hb⟩ | ⟨hc, hb⟩
  · refine ev_ift hc 5 (pc' := 15) (L' := [some (.inr (.inr 167)), some (.inl l1_1), some (.inl l2_2)]) (S' := []) (σ' := (SH L0, D)) (fun _ _ => rfl) ?_
    obtain ⟨x3, hx, hb⟩ := bnd hb
    refine ev_bind hx 5 (pc' := 24) (L' := fun x3 => [some (.inr (.inr 167)), some (.inl l1_1), some (.inl l2_2)]) (S' := fun x3 => [.inl x3]) (σ' := fun x3 => (SH L0, D)) (fun _ _ => rfl) ?_
    obtain ⟨l1_6, hv, hb⟩ := bnd hb
    have hJ : EvF mtab d k_X4_turned 47 [some (.inr (.inr 167)), some (.inl l1_6), some (.inl l2_2)] [] (SH L0, D) (some (.inl t0), (SH L0, D)) := by
      cases hb
      exact ev_go 2 (pc' := 4) (L' := [some (.inr (.inr 167)), some (.inl l1_6), some (.inl (w32 (l2_2 + 1)))]) (S' := []) (σ' := (SH L0, D)) (fun _ _ => rfl) hK0
    clear hb
    rcases ite_or hv with ⟨hc, hv⟩ | ⟨hc, hv⟩
    · refine ev_ift hc 2 (pc' := 28) (L' := [some (.inr (.inr 167)), some (.inl l1_1), some (.inl l2_2)]) (S' := []) (σ' := (SH L0, D)) (fun _ _ => rfl) ?_
      obtain ⟨x4, hx, hv⟩ := bnd hv
      refine ev_bind hx 6 (pc' := 38) (L' := fun x4 => [some (.inr (.inr 167)), some (.inl l1_1), some (.inl l2_2)]) (S' := fun x4 => [.inl x4, .inr (.inr 167)]) (σ' := fun x4 => (SH L0, D)) (fun _ _ => rfl) ?_
      obtain ⟨x5, hx, hv⟩ := bnd hv
      refine ev_call (e_X4_isFall_167 L0 d (by omega) hx) 1 (pc' := 41) (L' := [some (.inr (.inr 167)), some (.inl l1_1), some (.inl l2_2)]) (S' := []) (fun _ _ => rfl) ?_
      rcases ite_or hv with ⟨hc, hv⟩ | ⟨hc, hv⟩
      · refine ev_ift hc 1 (pc' := 47) (L' := [some (.inr (.inr 167)), some (.inl l1_1), some (.inl l2_2)]) (S' := []) (σ' := (SH L0, D)) (fun _ _ => rfl) ?_
        have he0 := Option.some.inj hv
        subst he0
        exact hJ
      · refine ev_iff hc 1 (pc' := 44) (L' := [some (.inr (.inr 167)), some (.inl l1_1), some (.inl l2_2)]) (S' := []) (σ' := (SH L0, D)) (fun _ _ => rfl) ?_
        have he0 := Option.some.inj hv
        subst he0
        exact ev_go 1 (pc' := 47) (L' := [some (.inr (.inr 167)), some (.inl (w32 (l1_1 + 1))), some (.inl l2_2)]) (S' := []) (σ' := (SH L0, D)) (fun _ _ => rfl) hJ
    · refine ev_iff hc 2 (pc' := 47) (L' := [some (.inr (.inr 167)), some (.inl l1_1), some (.inl l2_2)]) (S' := []) (σ' := (SH L0, D)) (fun _ _ => rfl) ?_
      have he0 := Option.some.inj hv
      subst he0
      exact hJ
  · refine ev_iff hc 5 (pc' := 53) (L' := [some (.inr (.inr 167)), some (.inl l1_1), some (.inl l2_2)]) (S' := []) (σ' := (SH L0, D)) (fun _ _ => rfl) ?_
    cases hb
    exact hK0 (some (.inl l2_2))
set_option maxRecDepth 100000 in
set_option maxHeartbeats 4000000 in
theorem e_X4_turned_172 (L0 d : Nat) (hd : 3 ≤ d) {D : DT} {t0 : Int} (h : m_X4_turned 172 D = some t0) : Ret mtab d 55 [.inr (.inr 172)] (SH L0, D) (some (.inl t0), (SH L0, D)) := by
  obtain ⟨d, rfl⟩ : ∃ e, d = e + 1 := ⟨d - 1, by omega⟩
  refine Ret.of (code := k_X4_turned) (ml := 3) rfl ?_
  show EvF mtab d k_X4_turned 0 [some (.inr (.inr 172)), none, none] [] (SH L0, D) (some (.inl t0), (SH L0, D))
  unfold m_X4_turned at h
  obtain ⟨r, hr, h⟩ := bnd h
  have hX : (fun (r : Int) => ∀ (o8 : Option (Sum Int Nat)), EvF mtab d k_X4_turned 53 [some (.inr (.inr 172)), some (.inl r), dv o8] [] (SH L0, D) (some (.inl t0), (SH L0, D))) r := by
    obtain ⟨l1_7, hre⟩ : ∃ q, q = r := ⟨r, rfl⟩
    subst hre
    intro o8
    show EvF mtab d k_X4_turned 53 [some (.inr (.inr 172)), some (.inl l1_7), dv o8] [] (SH L0, D) (some (.inl t0), (SH L0, D))
    cases h
    exact ev_ret 2 (fun _ _ => rfl)
  clear h
  refine ev_go 4 (pc' := 4) (L' := [some (.inr (.inr 172)), some (.inl 0), some (.inl 0)]) (S' := []) (σ' := (SH L0, D)) (fun _ _ => rfl) ?_
  refine loop_ind (P := fun s => EvF mtab d k_X4_turned 4 [some (.inr (.inr 172)), some (.inl s.1), some (.inl s.2)] [] (SH L0, D) (some (.inl t0), (SH L0, D))) (X := fun r => ∀ (o8 : Option (Sum Int Nat)), EvF mtab d k_X4_turned 53 [some (.inr (.inr 172)), some (.inl r), dv o8] [] (SH L0, D) (some (.inl t0), (SH L0, D))) hr hX ?_
  clear hr hX
  intro s t hb hK0
  obtain ⟨l1_1, l2_2⟩ := s
  show EvF mtab d k_X4_turned 4 [some (.inr (.inr 172)), some (.inl l1_1), some (.inl l2_2)] [] (SH L0, D) (some (.inl t0), (SH L0, D))
  unfold b_X4_turned_4 at hb
  rcases ite_or hb with ⟨hc, hb⟩ | ⟨hc, hb⟩
  · refine ev_ift hc 5 (pc' := 15) (L' := [some (.inr (.inr 172)), some (.inl l1_1), some (.inl l2_2)]) (S' := []) (σ' := (SH L0, D)) (fun _ _ => rfl) ?_
    obtain ⟨x3, hx, hb⟩ := bnd hb
    refine ev_bind hx 5 (pc' := 24) (L' := fun x3 => [some (.inr (.inr 172)), some (.inl l1_1), some (.inl l2_2)]) (S' := fun x3 => [.inl x3]) (σ' := fun x3 => (SH L0, D)) (fun _ _ => rfl) ?_
    obtain ⟨l1_6, hv, hb⟩ := bnd hb
    have hJ : EvF mtab d k_X4_turned 47 [some (.inr (.inr 172)), some (.inl l1_6), some (.inl l2_2)] [] (SH L0, D) (some (.inl t0), (SH L0, D)) := by
      cases hb
      exact ev_go 2 (pc' := 4) (L' := [some (.inr (.inr 172)), some (.inl l1_6), some (.inl (w32 (l2_2 + 1)))]) (S' := []) (σ' := (SH L0, D)) (fun _ _ => rfl) hK0
    clear hb
    rcases ite_or hv with ⟨hc, hv⟩ | ⟨hc, hv⟩
    · refine ev_ift hc 2 (pc' := 28) (L' := [some (.inr (.inr 172)), some (.inl l1_1), some (.inl l2_2)]) (S' := []) (σ' := (SH L0, D)) (fun _ _ => rfl) ?_
      obtain ⟨x4, hx, hv⟩ := bnd hv
      refine ev_bind hx 6 (pc' := 38) (L' := fun x4 => [some (.inr (.inr 172)), some (.inl l1_1), some (.inl l2_2)]) (S' := fun x4 => [.inl x4, .inr (.inr 172)]) (σ' := fun x4 => (SH L0, D)) (fun _ _ => rfl) ?_
      obtain ⟨x5, hx, hv⟩ := bnd hv
      refine ev_call (e_X4_isFall_172 L0 d (by omega) hx) 1 (pc' := 41) (L' := [some (.inr (.inr 172)), some (.inl l1_1), some (.inl l2_2)]) (S' := []) (fun _ _ => rfl) ?_
      rcases ite_or hv with ⟨hc, hv⟩ | ⟨hc, hv⟩
      · refine ev_ift hc 1 (pc' := 47) (L' := [some (.inr (.inr 172)), some (.inl l1_1), some (.inl l2_2)]) (S' := []) (σ' := (SH L0, D)) (fun _ _ => rfl) ?_
        have he0 := Option.some.inj hv
        subst he0
        exact hJ
      · refine ev_iff hc 1 (pc' := 44) (L' := [some (.inr (.inr 172)), some (.inl l1_1), some (.inl l2_2)]) (S' := []) (σ' := (SH L0, D)) (fun _ _ => rfl) ?_
        have he0 := Option.some.inj hv
        subst he0
        exact ev_go 1 (pc' := 47) (L' := [some (.inr (.inr 172)), some (.inl (w32 (l1_1 + 1))), some (.inl l2_2)]) (S' := []) (σ' := (SH L0, D)) (fun _ _ => rfl) hJ
    · refine ev_iff hc 2 (pc' := 47) (L' := [some (.inr (.inr 172)), some (.inl l1_1), some (.inl l2_2)]) (S' := []) (σ' := (SH L0, D)) (fun _ _ => rfl) ?_
      have he0 := Option.some.inj hv
      subst he0
      exact hJ
  · refine ev_iff hc 5 (pc' := 53) (L' := [some (.inr (.inr 172)), some (.inl l1_1), some (.inl l2_2)]) (S' := []) (σ' := (SH L0, D)) (fun _ _ => rfl) ?_
    cases hb
    exact hK0 (some (.inl l2_2))
set_option maxRecDepth 100000 in
set_option maxHeartbeats 4000000 in
theorem e_X4_turned_177 (L0 d : Nat) (hd : 3 ≤ d) {D : DT} {t0 : Int} (h : m_X4_turned 177 D = some t0) : Ret mtab d 55 [.inr (.inr 177)] (SH L0, D) (some (.inl t0), (SH L0, D)) := by
  obtain ⟨d, rfl⟩ : ∃ e, d = e + 1 := ⟨d - 1, by omega⟩
  refine Ret.of (code := k_X4_turned) (ml := 3) rfl ?_
  show EvF mtab d k_X4_turned 0 [some (.inr (.inr 177)), none, none] [] (SH L0, D) (some (.inl t0), (SH L0, D))
  unfold m_X4_turned at h
  obtain ⟨r, hr, h⟩ := bnd h
  have hX : (fun (r : Int) => ∀ (o8 : Option (Sum Int Nat)), EvF mtab d k_X4_turned 53 [some (.inr (.inr 177)), some (.inl r), dv o8] [] (SH L0, D) (some (.inl t0), (SH L0, D))) r := by
    obtain ⟨l1_7, hre⟩ : ∃ q, q = r := ⟨r, rfl⟩
    subst hre
    intro o8
    show EvF mtab d k_X4_turned 53 [some (.inr (.inr 177)), some (.inl l1_7), dv o8] [] (SH L0, D) (some (.inl t0), (SH L0, D))
    cases h
    exact ev_ret 2 (fun _ _ => rfl)
  clear h
  refine ev_go 4 (pc' := 4) (L' := [some (.inr (.inr 177)), some (.inl 0), some (.inl 0)]) (S' := []) (σ' := (SH L0, D)) (fun _ _ => rfl) ?_
  refine loop_ind (P := fun s => EvF mtab d k_X4_turned 4 [some (.inr (.inr 177)), some (.inl s.1), some (.inl s.2)] [] (SH L0, D) (some (.inl t0), (SH L0, D))) (X := fun r => ∀ (o8 : Option (Sum Int Nat)), EvF mtab d k_X4_turned 53 [some (.inr (.inr 177)), some (.inl r), dv o8] [] (SH L0, D) (some (.inl t0), (SH L0, D))) hr hX ?_
  clear hr hX
  intro s t hb hK0
  obtain ⟨l1_1, l2_2⟩ := s
  show EvF mtab d k_X4_turned 4 [some (.inr (.inr 177)), some (.inl l1_1), some (.inl l2_2)] [] (SH L0, D) (some (.inl t0), (SH L0, D))
  unfold b_X4_turned_4 at hb
  rcases ite_or hb with ⟨hc, hb⟩ | ⟨hc, hb⟩
  · refine ev_ift hc 5 (pc' := 15) (L' := [some (.inr (.inr 177)), some (.inl l1_1), some (.inl l2_2)]) (S' := []) (σ' := (SH L0, D)) (fun _ _ => rfl) ?_
    obtain ⟨x3, hx, hb⟩ := bnd hb
    refine ev_bind hx 5 (pc' := 24) (L' := fun x3 => [some (.inr (.inr 177)), some (.inl l1_1), some (.inl l2_2)]) (S' := fun x3 => [.inl x3]) (σ' := fun x3 => (SH L0, D)) (fun _ _ => rfl) ?_
    obtain ⟨l1_6, hv, hb⟩ := bnd hb
    have hJ : EvF mtab d k_X4_turned 47 [some (.inr (.inr 177)), some (.inl l1_6), some (.inl l2_2)] [] (SH L0, D) (some (.inl t0), (SH L0, D)) := by
      cases hb
      exact ev_go 2 (pc' := 4) (L' := [some (.inr (.inr 177)), some (.inl l1_6), some (.inl (w32 (l2_2 + 1)))]) (S' := []) (σ' := (SH L0, D)) (fun _ _ => rfl) hK0
    clear hb
    rcases ite_or hv with ⟨hc, hv⟩ | ⟨hc, hv⟩
    · refine ev_ift hc 2 (pc' := 28) (L' := [some (.inr (.inr 177)), some (.inl l1_1), some (.inl l2_2)]) (S' := []) (σ' := (SH L0, D)) (fun _ _ => rfl) ?_
      obtain ⟨x4, hx, hv⟩ := bnd hv
      refine ev_bind hx 6 (pc' := 38) (L' := fun x4 => [some (.inr (.inr 177)), some (.inl l1_1), some (.inl l2_2)]) (S' := fun x4 => [.inl x4, .inr (.inr 177)]) (σ' := fun x4 => (SH L0, D)) (fun _ _ => rfl) ?_
      obtain ⟨x5, hx, hv⟩ := bnd hv
      refine ev_call (e_X4_isFall_177 L0 d (by omega) hx) 1 (pc' := 41) (L' := [some (.inr (.inr 177)), some (.inl l1_1), some (.inl l2_2)]) (S' := []) (fun _ _ => rfl) ?_
      rcases ite_or hv with ⟨hc, hv⟩ | ⟨hc, hv⟩
      · refine ev_ift hc 1 (pc' := 47) (L' := [some (.inr (.inr 177)), some (.inl l1_1), some (.inl l2_2)]) (S' := []) (σ' := (SH L0, D)) (fun _ _ => rfl) ?_
        have he0 := Option.some.inj hv
        subst he0
        exact hJ
      · refine ev_iff hc 1 (pc' := 44) (L' := [some (.inr (.inr 177)), some (.inl l1_1), some (.inl l2_2)]) (S' := []) (σ' := (SH L0, D)) (fun _ _ => rfl) ?_
        have he0 := Option.some.inj hv
        subst he0
        exact ev_go 1 (pc' := 47) (L' := [some (.inr (.inr 177)), some (.inl (w32 (l1_1 + 1))), some (.inl l2_2)]) (S' := []) (σ' := (SH L0, D)) (fun _ _ => rfl) hJ
    · refine ev_iff hc 2 (pc' := 47) (L' := [some (.inr (.inr 177)), some (.inl l1_1), some (.inl l2_2)]) (S' := []) (σ' := (SH L0, D)) (fun _ _ => rfl) ?_
      have he0 := Option.some.inj hv
      subst he0
      exact hJ
  · refine ev_iff hc 5 (pc' := 53) (L' := [some (.inr (.inr 177)), some (.inl l1_1), some (.inl l2_2)]) (S' := []) (σ' := (SH L0, D)) (fun _ _ => rfl) ?_
    cases hb
    exact hK0 (some (.inl l2_2))
set_option maxRecDepth 100000 in
set_option maxHeartbeats 4000000 in
theorem e_X4_turned_182 (L0 d : Nat) (hd : 3 ≤ d) {D : DT} {t0 : Int} (h : m_X4_turned 182 D = some t0) : Ret mtab d 55 [.inr (.inr 182)] (SH L0, D) (some (.inl t0), (SH L0, D)) := by
  obtain ⟨d, rfl⟩ : ∃ e, d = e + 1 := ⟨d - 1, by omega⟩
  refine Ret.of (code := k_X4_turned) (ml := 3) rfl ?_
  show EvF mtab d k_X4_turned 0 [some (.inr (.inr 182)), none, none] [] (SH L0, D) (some (.inl t0), (SH L0, D))
  unfold m_X4_turned at h
  obtain ⟨r, hr, h⟩ := bnd h
  have hX : (fun (r : Int) => ∀ (o8 : Option (Sum Int Nat)), EvF mtab d k_X4_turned 53 [some (.inr (.inr 182)), some (.inl r), dv o8] [] (SH L0, D) (some (.inl t0), (SH L0, D))) r := by
    obtain ⟨l1_7, hre⟩ : ∃ q, q = r := ⟨r, rfl⟩
    subst hre
    intro o8
    show EvF mtab d k_X4_turned 53 [some (.inr (.inr 182)), some (.inl l1_7), dv o8] [] (SH L0, D) (some (.inl t0), (SH L0, D))
    cases h
    exact ev_ret 2 (fun _ _ => rfl)
  clear h
  refine ev_go 4 (pc' := 4) (L' := [some (.inr (.inr 182)), some (.inl 0), some (.inl 0)]) (S' := []) (σ' := (SH L0, D)) (fun _ _ => rfl) ?_
  refine loop_ind (P := fun s => EvF mtab d k_X4_turned 4 [some (.inr (.inr 182)), some (.inl s.1), some (.inl s.2)] [] (SH L0, D) (some (.inl t0), (SH L0, D))) (X := fun r => ∀ (o8 : Option (Sum Int Nat)), EvF mtab d k_X4_turned 53 [some (.inr (.inr 182)), some (.inl r), dv o8] [] (SH L0, D) (some (.inl t0), (SH L0, D))) hr hX ?_
  clear hr hX
  intro s t hb hK0
  obtain ⟨l1_1, l2_2⟩ := s
  show EvF mtab d k_X4_turned 4 [some (.inr (.inr 182)), some (.inl l1_1), some (.inl l2_2)] [] (SH L0, D) (some (.inl t0), (SH L0, D))
  unfold b_X4_turned_4 at hb
  rcases ite_or hb with ⟨hc, hb⟩ | ⟨hc, hb⟩
  · refine ev_ift hc 5 (pc' := 15) (L' := [some (.inr (.inr 182)), some (.inl l1_1), some (.inl l2_2)]) (S' := []) (σ' := (SH L0, D)) (fun _ _ => rfl) ?_
    obtain ⟨x3, hx, hb⟩ := bnd hb
    refine ev_bind hx 5 (pc' := 24) (L' := fun x3 => [some (.inr (.inr 182)), some (.inl l1_1), some (.inl l2_2)]) (S' := fun x3 => [.inl x3]) (σ' := fun x3 => (SH L0, D)) (fun _ _ => rfl) ?_
    obtain ⟨l1_6, hv, hb⟩ := bnd hb
    have hJ : EvF mtab d k_X4_turned 47 [some (.inr (.inr 182)), some (.inl l1_6), some (.inl l2_2)] [] (SH L0, D) (some (.inl t0), (SH L0, D)) := by
      cases hb
      exact ev_go 2 (pc' := 4) (L' := [some (.inr (.inr 182)), some (.inl l1_6), some (.inl (w32 (l2_2 + 1)))]) (S' := []) (σ' := (SH L0, D)) (fun _ _ => rfl) hK0
    clear hb
    rcases ite_or hv with ⟨hc, hv⟩ | ⟨hc, hv⟩
    · refine ev_ift hc 2 (pc' := 28) (L' := [some (.inr (.inr 182)), some (.inl l1_1), some (.inl l2_2)]) (S' := []) (σ' := (SH L0, D)) (fun _ _ => rfl) ?_
      obtain ⟨x4, hx, hv⟩ := bnd hv
      refine ev_bind hx 6 (pc' := 38) (L' := fun x4 => [some (.inr (.inr 182)), some (.inl l1_1), some (.inl l2_2)]) (S' := fun x4 => [.inl x4, .inr (.inr 182)]) (σ' := fun x4 => (SH L0, D)) (fun _ _ => rfl) ?_
      obtain ⟨x5, hx, hv⟩ := bnd hv
      refine ev_call (e_X4_isFall_182 L0 d (by omega) hx) 1 (pc' := 41) (L' := [some (.inr (.inr 182)), some (.inl l1_1), some (.inl l2_2)]) (S' := []) (fun _ _ => rfl) ?_
      rcases ite_or hv with ⟨hc, hv⟩ | ⟨hc, hv⟩
      · refine ev_ift hc 1 (pc' := 47) (L' := [some (.inr (.inr 182)), some (.inl l1_1), some (.inl l2_2)]) (S' := []) (σ' := (SH L0, D)) (fun _ _ => rfl) ?_
        have he0 := Option.some.inj hv
        subst he0
        exact hJ
      · refine ev_iff hc 1 (pc' := 44) (L' := [some (.inr (.inr 182)), some (.inl l1_1), some (.inl l2_2)]) (S' := []) (σ' := (SH L0, D)) (fun _ _ => rfl) ?_
        have he0 := Option.some.inj hv
        subst he0
        exact ev_go 1 (pc' := 47) (L' := [some (.inr (.inr 182)), some (.inl (w32 (l1_1 + 1))), some (.inl l2_2)]) (S' := []) (σ' := (SH L0, D)) (fun _ _ => rfl) hJ
    · refine ev_iff hc 2 (pc' := 47) (L' := [some (.inr (.inr 182)), some (.inl l1_1), some (.inl l2_2)]) (S' := []) (σ' := (SH L0, D)) (fun _ _ => rfl) ?_
      have he0 := Option.some.inj hv
      subst he0
      exact hJ
  · refine ev_iff hc 5 (pc' := 53) (L' := [some (.inr (.inr 182)), some (.inl l1_1), some (.inl l2_2)]) (S' := []) (σ' := (SH L0, D)) (fun _ _ => rfl) ?_
    cases hb
    exact hK0 (some (.inl l2_2))
set_option maxRecDepth 100000 in
set_option maxHeartbeats 4000000 in
theorem e_X4_pageAt_162 (L0 d : Nat) (hd : 1 ≤ d) {p1 : Int} {D : DT} {t0 : Int} (h : m_X4_pageAt 162 p1 D = some t0) : Ret mtab d 56 [.inr (.inr 162), .inl p1] (SH L0, D) (some (.inl t0), (SH L0, D)) := by
  obtain ⟨d, rfl⟩ : ∃ e, d = e + 1 := ⟨d - 1, by omega⟩
  refine Ret.of (code := k_X4_pageAt) (ml := 2) rfl ?_
  show EvF mtab d k_X4_pageAt 0 [some (.inr (.inr 162)), some (.inl p1)] [] (SH L0, D) (some (.inl t0), (SH L0, D))
  unfold m_X4_pageAt at h
  rcases ite_or h with ⟨hc, h⟩ | ⟨hc, h⟩
  · refine ev_ift hc 4 (pc' := 14) (L' := [some (.inr (.inr 162)), some (.inl p1)]) (S' := []) (σ' := (SH L0, D)) (fun _ _ => rfl) ?_
    obtain ⟨x1, hx, h⟩ := bnd h
    refine ev_bind hx 5 (pc' := 23) (L' := fun x1 => [some (.inr (.inr 162)), some (.inl p1)]) (S' := fun x1 => [.inl x1]) (σ' := fun x1 => (SH L0, D)) (fun _ _ => rfl) ?_
    cases h
    exact ev_ret 1 (fun _ _ => rfl)
  · refine ev_iff hc 4 (pc' := 10) (L' := [some (.inr (.inr 162)), some (.inl p1)]) (S' := []) (σ' := (SH L0, D)) (fun _ _ => rfl) ?_
    cases h
    exact ev_ret 3 (fun _ _ => rfl)
set_option maxRecDepth 100000 in
set_option maxHeartbeats 4000000 in
theorem e_X4_pageAt_167 (L0 d : Nat) (hd : 1 ≤ d) {p1 : Int} {D : DT} {t0 : Int} (h : m_X4_pageAt 167 p1 D = some t0) : Ret mtab d 56 [.inr (.inr 167), .inl p1] (SH L0, D) (some (.inl t0), (SH L0, D)) := by
  obtain ⟨d, rfl⟩ : ∃ e, d = e + 1 := ⟨d - 1, by omega⟩
  refine Ret.of (code := k_X4_pageAt) (ml := 2) rfl ?_
  show EvF mtab d k_X4_pageAt 0 [some (.inr (.inr 167)), some (.inl p1)] [] (SH L0, D) (some (.inl t0), (SH L0, D))
  unfold m_X4_pageAt at h
  rcases ite_or h with ⟨hc, h⟩ | ⟨hc, h⟩
  · refine ev_ift hc 4 (pc' := 14) (L' := [some (.inr (.inr 167)), some (.inl p1)]) (S' := []) (σ' := (SH L0, D)) (fun _ _ => rfl) ?_
    obtain ⟨x1, hx, h⟩ := bnd h
    refine ev_bind hx 5 (pc' := 23) (L' := fun x1 => [some (.inr (.inr 167)), some (.inl p1)]) (S' := fun x1 => [.inl x1]) (σ' := fun x1 => (SH L0, D)) (fun _ _ => rfl) ?_
    cases h
    exact ev_ret 1 (fun _ _ => rfl)
  · refine ev_iff hc 4 (pc' := 10) (L' := [some (.inr (.inr 167)), some (.inl p1)]) (S' := []) (σ' := (SH L0, D)) (fun _ _ => rfl) ?_
    cases h
    exact ev_ret 3 (fun _ _ => rfl)
set_option maxRecDepth 100000 in
set_option maxHeartbeats 4000000 in
theorem e_X4_pageAt_172 (L0 d : Nat) (hd : 1 ≤ d) {p1 : Int} {D : DT} {t0 : Int} (h : m_X4_pageAt 172 p1 D = some t0) : Ret mtab d 56 [.inr (.inr 172), .inl p1] (SH L0, D) (some (.inl t0), (SH L0, D)) := by
  obtain ⟨d, rfl⟩ : ∃ e, d = e + 1 := ⟨d - 1, by omega⟩
  refine Ret.of (code := k_X4_pageAt) (ml := 2) rfl ?_
  show EvF mtab d k_X4_pageAt 0 [some (.inr (.inr 172)), some (.inl p1)] [] (SH L0, D) (some (.inl t0), (SH L0, D))
  unfold m_X4_pageAt at h
  rcases ite_or h with ⟨hc, h⟩ | ⟨hc, h⟩
  · refine ev_ift hc 4 (pc' := 14) (L' := [some (.inr (.inr 172)), some (.inl p1)]) (S' := []) (σ' := (SH L0, D)) (fun _ _ => rfl) ?_
    obtain ⟨x1, hx, h⟩ := bnd h
    refine ev_bind hx 5 (pc' := 23) (L' := fun x1 => [some (.inr (.inr 172)), some (.inl p1)]) (S' := fun x1 => [.inl x1]) (σ' := fun x1 => (SH L0, D)) (fun _ _ => rfl) ?_
    cases h
    exact ev_ret 1 (fun _ _ => rfl)
  · refine ev_iff hc 4 (pc' := 10) (L' := [some (.inr (.inr 172)), some (.inl p1)]) (S' := []) (σ' := (SH L0, D)) (fun _ _ => rfl) ?_
    cases h
    exact ev_ret 3 (fun _ _ => rfl)
set_option maxRecDepth 100000 in
set_option maxHeartbeats 4000000 in
theorem e_X4_pageAt_177 (L0 d : Nat) (hd : 1 ≤ d) {p1 : Int} {D : DT} {t0 : Int} (h : m_X4_pageAt 177 p1 D = some t0) : Ret mtab d 56 [.inr (.inr 177), .inl p1] (SH L0, D) (some (.inl t0), (SH L0, D)) := by
  obtain ⟨d, rfl⟩ : ∃ e, d = e + 1 := ⟨d - 1, by omega⟩
  refine Ret.of (code := k_X4_pageAt) (ml := 2) rfl ?_
  show EvF mtab d k_X4_pageAt 0 [some (.inr (.inr 177)), some (.inl p1)] [] (SH L0, D) (some (.inl t0), (SH L0, D))
  unfold m_X4_pageAt at h
  rcases ite_or h with ⟨hc, h⟩ | ⟨hc, h⟩
  · refine ev_ift hc 4 (pc' := 14) (L' := [some (.inr (.inr 177)), some (.inl p1)]) (S' := []) (σ' := (SH L0, D)) (fun _ _ => rfl) ?_
    obtain ⟨x1, hx, h⟩ := bnd h
    refine ev_bind hx 5 (pc' := 23) (L' := fun x1 => [some (.inr (.inr 177)), some (.inl p1)]) (S' := fun x1 => [.inl x1]) (σ' := fun x1 => (SH L0, D)) (fun _ _ => rfl) ?_
    cases h
    exact ev_ret 1 (fun _ _ => rfl)
  · refine ev_iff hc 4 (pc' := 10) (L' := [some (.inr (.inr 177)), some (.inl p1)]) (S' := []) (σ' := (SH L0, D)) (fun _ _ => rfl) ?_
    cases h
    exact ev_ret 3 (fun _ _ => rfl)
set_option maxRecDepth 100000 in
set_option maxHeartbeats 4000000 in
theorem e_X4_pageAt_182 (L0 d : Nat) (hd : 1 ≤ d) {p1 : Int} {D : DT} {t0 : Int} (h : m_X4_pageAt 182 p1 D = some t0) : Ret mtab d 56 [.inr (.inr 182), .inl p1] (SH L0, D) (some (.inl t0), (SH L0, D)) := by
  obtain ⟨d, rfl⟩ : ∃ e, d = e + 1 := ⟨d - 1, by omega⟩
  refine Ret.of (code := k_X4_pageAt) (ml := 2) rfl ?_
  show EvF mtab d k_X4_pageAt 0 [some (.inr (.inr 182)), some (.inl p1)] [] (SH L0, D) (some (.inl t0), (SH L0, D))
  unfold m_X4_pageAt at h
  rcases ite_or h with ⟨hc, h⟩ | ⟨hc, h⟩
  · refine ev_ift hc 4 (pc' := 14) (L' := [some (.inr (.inr 182)), some (.inl p1)]) (S' := []) (σ' := (SH L0, D)) (fun _ _ => rfl) ?_
    obtain ⟨x1, hx, h⟩ := bnd h
    refine ev_bind hx 5 (pc' := 23) (L' := fun x1 => [some (.inr (.inr 182)), some (.inl p1)]) (S' := fun x1 => [.inl x1]) (σ' := fun x1 => (SH L0, D)) (fun _ _ => rfl) ?_
    cases h
    exact ev_ret 1 (fun _ _ => rfl)
  · refine ev_iff hc 4 (pc' := 10) (L' := [some (.inr (.inr 182)), some (.inl p1)]) (S' := []) (σ' := (SH L0, D)) (fun _ _ => rfl) ?_
    cases h
    exact ev_ret 3 (fun _ _ => rfl)
set_option maxRecDepth 100000 in
set_option maxHeartbeats 4000000 in
theorem e_X4_firstPage_162 (L0 d : Nat) (hd : 2 ≤ d) {p1 : Int} {D : DT} {t0 : Int} (h : m_X4_firstPage 162 p1 D = some t0) : Ret mtab d 57 [.inr (.inr 162), .inl p1] (SH L0, D) (some (.inl t0), (SH L0, D)) := by
  obtain ⟨d, rfl⟩ : ∃ e, d = e + 1 := ⟨d - 1, by omega⟩
  refine Ret.of (code := k_X4_firstPage) (ml := 2) rfl ?_
  show EvF mtab d k_X4_firstPage 0 [some (.inr (.inr 162)), some (.inl p1)] [] (SH L0, D) (some (.inl t0), (SH L0, D))
  unfold m_X4_firstPage at h
  obtain ⟨x1, hx, h⟩ := bnd h
  refine ev_bind hx 5 (pc' := 7) (L' := fun x1 => [some (.inr (.inr 162)), some (.inl p1)]) (S' := fun x1 => [.inl x1, .inr (.inr 162)]) (σ' := fun x1 => (SH L0, D)) (fun _ _ => rfl) ?_
  obtain ⟨x2, hx, h⟩ := bnd h
  refine ev_call (e_X4_pageAt_162 L0 d (by omega) hx) 1 (pc' := 10) (L' := [some (.inr (.inr 162)), some (.inl p1)]) (S' := []) (fun _ _ => rfl) ?_
  cases h
  exact ev_ret 1 (fun _ _ => rfl)
set_option maxRecDepth 100000 in
set_option maxHeartbeats 4000000 in
theorem e_X4_firstPage_167 (L0 d : Nat) (hd : 2 ≤ d) {p1 : Int} {D : DT} {t0 : Int} (h : m_X4_firstPage 167 p1 D = some t0) : Ret mtab d 57 [.inr (.inr 167), .inl p1] (SH L0, D) (some (.inl t0), (SH L0, D)) := by
  obtain ⟨d, rfl⟩ : ∃ e, d = e + 1 := ⟨d - 1, by omega⟩
  refine Ret.of (code := k_X4_firstPage) (ml := 2) rfl ?_
  show EvF mtab d k_X4_firstPage 0 [some (.inr (.inr 167)), some (.inl p1)] [] (SH L0, D) (some (.inl t0), (SH L0, D))
  unfold m_X4_firstPage at h
  obtain ⟨x1, hx, h⟩ := bnd h
  refine ev_bind hx 5 (pc' := 7) (L' := fun x1 => [some (.inr (.inr 167)), some (.inl p1)]) (S' := fun x1 => [.inl x1, .inr (.inr 167)]) (σ' := fun x1 => (SH L0, D)) (fun _ _ => rfl) ?_
  obtain ⟨x2, hx, h⟩ := bnd h
  refine ev_call (e_X4_pageAt_167 L0 d (by omega) hx) 1 (pc' := 10) (L' := [some (.inr (.inr 167)), some (.inl p1)]) (S' := []) (fun _ _ => rfl) ?_
  cases h
  exact ev_ret 1 (fun _ _ => rfl)
set_option maxRecDepth 100000 in
set_option maxHeartbeats 4000000 in
theorem e_X4_firstPage_172 (L0 d : Nat) (hd : 2 ≤ d) {p1 : Int} {D : DT} {t0 : Int} (h : m_X4_firstPage 172 p1 D = some t0) : Ret mtab d 57 [.inr (.inr 172), .inl p1] (SH L0, D) (some (.inl t0), (SH L0, D)) := by
  obtain ⟨d, rfl⟩ : ∃ e, d = e + 1 := ⟨d - 1, by omega⟩
  refine Ret.of (code := k_X4_firstPage) (ml := 2) rfl ?_
  show EvF mtab d k_X4_firstPage 0 [some (.inr (.inr 172)), some (.inl p1)] [] (SH L0, D) (some (.inl t0), (SH L0, D))
  unfold m_X4_firstPage at h
  obtain ⟨x1, hx, h⟩ := bnd h
  refine ev_bind hx 5 (pc' := 7) (L' := fun x1 => [some (.inr (.inr 172)), some (.inl p1)]) (S' := fun x1 => [.inl x1, .inr (.inr 172)]) (σ' := fun x1 => (SH L0, D)) (fun _ _ => rfl) ?_
  obtain ⟨x2, hx, h⟩ := bnd h
  refine ev_call (e_X4_pageAt_172 L0 d (by omega) hx) 1 (pc' := 10) (L' := [some (.inr (.inr 172)), some (.inl p1)]) (S' := []) (fun _ _ => rfl) ?_
  cases h
  exact ev_ret 1 (fun _ _ => rfl)
set_option maxRecDepth 100000 in
set_option maxHeartbeats 4000000 in
theorem e_X4_firstPage_177 (L0 d : Nat) (hd : 2 ≤ d) {p1 : Int} {D : DT} {t0 : Int} (h : m_X4_firstPage 177 p1 D = some t0) : Ret mtab d 57 [.inr (.inr 177), .inl p1] (SH L0, D) (some (.inl t0), (SH L0, D)) := by
  obtain ⟨d, rfl⟩ : ∃ e, d = e + 1 := ⟨d - 1, by omega⟩
  refine Ret.of (code := k_X4_firstPage) (ml := 2) rfl ?_
  show EvF mtab d k_X4_firstPage 0 [some (.inr (.inr 177)), some (.inl p1)] [] (SH L0, D) (some (.inl t0), (SH L0, D))
  unfold m_X4_firstPage at h
  obtain ⟨x1, hx, h⟩ := bnd h
  refine ev_bind hx 5 (pc' := 7) (L' := fun x1 => [some (.inr (.inr 177)), some (.inl p1)]) (S' := fun x1 => [.inl x1, .inr (.inr 177)]) (σ' := fun x1 => (SH L0, D)) (fun _ _ => rfl) ?_
  obtain ⟨x2, hx, h⟩ := bnd h
  refine ev_call (e_X4_pageAt_177 L0 d (by omega) hx) 1 (pc' := 10) (L' := [some (.inr (.inr 177)), some (.inl p1)]) (S' := []) (fun _ _ => rfl) ?_
  cases h
  exact ev_ret 1 (fun _ _ => rfl)
set_option maxRecDepth 100000 in
set_option maxHeartbeats 4000000 in
theorem e_X4_firstPage_182 (L0 d : Nat) (hd : 2 ≤ d) {p1 : Int} {D : DT} {t0 : Int} (h : m_X4_firstPage 182 p1 D = some t0) : Ret mtab d 57 [.inr (.inr 182), .inl p1] (SH L0, D) (some (.inl t0), (SH L0, D)) := by
  obtain ⟨d, rfl⟩ : ∃ e, d = e + 1 := ⟨d - 1, by omega⟩
  refine Ret.of (code := k_X4_firstPage) (ml := 2) rfl ?_
  show EvF mtab d k_X4_firstPage 0 [some (.inr (.inr 182)), some (.inl p1)] [] (SH L0, D) (some (.inl t0), (SH L0, D))
  unfold m_X4_firstPage at h
  obtain ⟨x1, hx, h⟩ := bnd h
  refine ev_bind hx 5 (pc' := 7) (L' := fun x1 => [some (.inr (.inr 182)), some (.inl p1)]) (S' := fun x1 => [.inl x1, .inr (.inr 182)]) (σ' := fun x1 => (SH L0, D)) (fun _ _ => rfl) ?_
  obtain ⟨x2, hx, h⟩ := bnd h
  refine ev_call (e_X4_pageAt_182 L0 d (by omega) hx) 1 (pc' := 10) (L' := [some (.inr (.inr 182)), some (.inl p1)]) (S' := []) (fun _ _ => rfl) ?_
  cases h
  exact ev_ret 1 (fun _ _ => rfl)
set_option maxRecDepth 100000 in
set_option maxHeartbeats 4000000 in
theorem e_X4_lastPage_162 (L0 d : Nat) (hd : 2 ≤ d) {p1 : Int} {D : DT} {t0 : Int} (h : m_X4_lastPage 162 p1 D = some t0) : Ret mtab d 58 [.inr (.inr 162), .inl p1] (SH L0, D) (some (.inl t0), (SH L0, D)) := by
  obtain ⟨d, rfl⟩ : ∃ e, d = e + 1 := ⟨d - 1, by omega⟩
  refine Ret.of (code := k_X4_lastPage) (ml := 2) rfl ?_
  show EvF mtab d k_X4_lastPage 0 [some (.inr (.inr 162)), some (.inl p1)] [] (SH L0, D) (some (.inl t0), (SH L0, D))
  unfold m_X4_lastPage at h
  obtain ⟨x1, hx, h⟩ := bnd h
  refine ev_bind hx 5 (pc' := 7) (L' := fun x1 => [some (.inr (.inr 162)), some (.inl p1)]) (S' := fun x1 => [.inl x1, .inr (.inr 162)]) (σ' := fun x1 => (SH L0, D)) (fun _ _ => rfl) ?_
  obtain ⟨x2, hx, h⟩ := bnd h
  refine ev_bind hx 4 (pc' := 13) (L' := fun x2 => [some (.inr (.inr 162)), some (.inl p1)]) (S' := fun x2 => [.inl x2, .inl x1, .inr (.inr 162)]) (σ' := fun x2 => (SH L0, D)) (fun _ _ => rfl) ?_
  obtain ⟨x3, hx, h⟩ := bnd h
  refine ev_call (e_X4_pageAt_162 L0 d (by omega) hx) 4 (pc' := 19) (L' := [some (.inr (.inr 162)), some (.inl p1)]) (S' := []) (fun _ _ => rfl) ?_
  cases h
  exact ev_ret 1 (fun _ _ => rfl)
set_option maxRecDepth 100000 in
set_option maxHeartbeats 4000000 in
theorem e_X4_lastPage_167 (L0 d : Nat) (hd : 2 ≤ d) {p1 : Int} {D : DT} {t0 : Int} (h : m_X4_lastPage 167 p1 D = some t0) : Ret mtab d 58 [.inr (.inr 167), .inl p1] (SH L0, D) (some (.inl t0), (SH L0, D)) := by
  obtain ⟨d, rfl⟩ : ∃ e, d = e + 1 := ⟨d - 1, by omega⟩
  refine Ret.of (code := k_X4_lastPage) (ml := 2) rfl ?_
  show EvF mtab d k_X4_lastPage 0 [some (.inr (.inr 167)), some (.inl p1)] [] (SH L0, D) (some (.inl t0), (SH L0, D))
  unfold m_X4_lastPage at h
  obtain ⟨x1, hx, h⟩ := bnd h
  refine ev_bind hx 5 (pc' := 7) (L' := fun x1 => [some (.inr (.inr 167)), some (.inl p1)]) (S' := fun x1 => [.inl x1, .inr (.inr 167)]) (σ' := fun x1 => (SH L0, D)) (fun _ _ => rfl) ?_
  obtain ⟨x2, hx, h⟩ := bnd h
  refine ev_bind hx 4 (pc' := 13) (L' := fun x2 => [some (.inr (.inr 167)), some (.inl p1)]) (S' := fun x2 => [.inl x2, .inl x1, .inr (.inr 167)]) (σ' := fun x2 => (SH L0, D)) (fun _ _ => rfl) ?_
  obtain ⟨x3, hx, h⟩ := bnd h
  refine ev_call (e_X4_pageAt_167 L0 d (by omega) hx) 4 (pc' := 19) (L' := [some (.inr (.inr 167)), some (.inl p1)]) (S' := []) (fun _ _ => rfl) ?_
  cases h
  exact ev_ret 1 (fun _ _ => rfl)
set_option maxRecDepth 100000 in
set_option maxHeartbeats 4000000 in
theorem e_X4_lastPage_172 (L0 d : Nat) (hd : 2 ≤ d) {p1 : Int} {D : DT} {t0 : Int} (h : m_X4_lastPage 172 p1 D = some t0) : Ret mtab d 58 [.inr (.inr 172), .inl p1] (SH L0, D) (some (.inl t0), (SH L0, D)) := by
  obtain ⟨d, rfl⟩ : ∃ e, d = e + 1 := ⟨d - 1, by omega⟩
  refine Ret.of (code := k_X4_lastPage) (ml := 2) rfl ?_
  show EvF mtab d k_X4_lastPage 0 [some (.inr (.inr 172)), some (.inl p1)] [] (SH L0, D) (some (.inl t0), (SH L0, D))
  unfold m_X4_lastPage at h
  obtain ⟨x1, hx, h⟩ := bnd h
  refine ev_bind hx 5 (pc' := 7) (L' := fun x1 => [some (.inr (.inr 172)), some (.inl p1)]) (S' := fun x1 => [.inl x1, .inr (.inr 172)]) (σ' := fun x1 => (SH L0, D)) (fun _ _ => rfl) ?_
  obtain ⟨x2, hx, h⟩ := bnd h
  refine ev_bind hx 4 (pc' := 13) (L' := fun x2 => [some (.inr (.inr 172)), some (.inl p1)]) (S' := fun x2 => [.inl x2, .inl x1, .inr (.inr 172)]) (σ' := fun x2 => (SH L0, D)) (fun _ _ => rfl) ?_
  obtain ⟨x3, hx, h⟩ := bnd h
  refine ev_call (e_X4_pageAt_172 L0 d (by omega) hx) 4 (pc' := 19) (L' := [some (.inr (.inr 172)), some (.inl p1)]) (S' := []) (fun _ _ => rfl) ?_
  cases h
  exact ev_ret 1 (fun _ _ => rfl)
set_option maxRecDepth 100000 in
set_option maxHeartbeats 4000000 in
theorem e_X4_lastPage_177 (L0 d : Nat) (hd : 2 ≤ d) {p1 : Int} {D : DT} {t0 : Int} (h : m_X4_lastPage 177 p1 D = some t0) : Ret mtab d 58 [.inr (.inr 177), .inl p1] (SH L0, D) (some (.inl t0), (SH L0, D)) := by
  obtain ⟨d, rfl⟩ : ∃ e, d = e + 1 := ⟨d - 1, by omega⟩
  refine Ret.of (code := k_X4_lastPage) (ml := 2) rfl ?_
  show EvF mtab d k_X4_lastPage 0 [some (.inr (.inr 177)), some (.inl p1)] [] (SH L0, D) (some (.inl t0), (SH L0, D))
  unfold m_X4_lastPage at h
  obtain ⟨x1, hx, h⟩ := bnd h
  refine ev_bind hx 5 (pc' := 7) (L' := fun x1 => [some (.inr (.inr 177)), some (.inl p1)]) (S' := fun x1 => [.inl x1, .inr (.inr 177)]) (σ' := fun x1 => (SH L0, D)) (fun _ _ => rfl) ?_
  obtain ⟨x2, hx, h⟩ := bnd h
  refine ev_bind hx 4 (pc' := 13) (L' := fun x2 => [some (.inr (.inr 177)), some (.inl p1)]) (S' := fun x2 => [.inl x2, .inl x1, .inr (.inr 177)]) (σ' := fun x2 => (SH L0, D)) (fun _ _ => rfl) ?_
  obtain ⟨x3, hx, h⟩ := bnd h
  refine ev_call (e_X4_pageAt_177 L0 d (by omega) hx) 4 (pc' := 19) (L' := [some (.inr (.inr 177)), some (.inl p1)]) (S' := []) (fun _ _ => rfl) ?_
  cases h
  exact ev_ret 1 (fun _ _ => rfl)
set_option maxRecDepth 100000 in
set_option maxHeartbeats 4000000 in
theorem e_X4_lastPage_182 (L0 d : Nat) (hd : 2 ≤ d) {p1 : Int} {D : DT} {t0 : Int} (h : m_X4_lastPage 182 p1 D = some t0) : Ret mtab d 58 [.inr (.inr 182), .inl p1] (SH L0, D) (some (.inl t0), (SH L0, D)) := by
  obtain ⟨d, rfl⟩ : ∃ e, d = e + 1 := ⟨d - 1, by omega⟩
  refine Ret.of (code := k_X4_lastPage) (ml := 2) rfl ?_
  show EvF mtab d k_X4_lastPage 0 [some (.inr (.inr 182)), some (.inl p1)] [] (SH L0, D) (some (.inl t0), (SH L0, D))
  unfold m_X4_lastPage at h
  obtain ⟨x1, hx, h⟩ := bnd h
  refine ev_bind hx 5 (pc' := 7) (L' := fun x1 => [some (.inr (.inr 182)), some (.inl p1)]) (S' := fun x1 => [.inl x1, .inr (.inr 182)]) (σ' := fun x1 => (SH L0, D)) (fun _ _ => rfl) ?_
  obtain ⟨x2, hx, h⟩ := bnd h
  refine ev_bind hx 4 (pc' := 13) (L' := fun x2 => [some (.inr (.inr 182)), some (.inl p1)]) (S' := fun x2 => [.inl x2, .inl x1, .inr (.inr 182)]) (σ' := fun x2 => (SH L0, D)) (fun _ _ => rfl) ?_
  obtain ⟨x3, hx, h⟩ := bnd h
  refine ev_call (e_X4_pageAt_182 L0 d (by omega) hx) 4 (pc' := 19) (L' := [some (.inr (.inr 182)), some (.inl p1)]) (S' := []) (fun _ _ => rfl) ?_
  cases h
  exact ev_ret 1 (fun _ _ => rfl)
set_option maxRecDepth 100000 in
set_option maxHeartbeats 4000000 in
theorem e_X4_pageCount_162 (L0 d : Nat) (hd : 2 ≤ d) {D : DT} {t0 : Int} (h : m_X4_pageCount 162 D = some t0) : Ret mtab d 59 [.inr (.inr 162)] (SH L0, D) (some (.inl t0), (SH L0, D)) := by
  obtain ⟨d, rfl⟩ : ∃ e, d = e + 1 := ⟨d - 1, by omega⟩
  refine Ret.of (code := k_X4_pageCount) (ml := 1) rfl ?_
  show EvF mtab d k_X4_pageCount 0 [some (.inr (.inr 162))] [] (SH L0, D) (some (.inl t0), (SH L0, D))
  unfold m_X4_pageCount at h
  rcases ite_or h with ⟨hc, h⟩ | ⟨hc, h⟩
  · refine ev_ift hc 3 (pc' := 7) (L' := [some (.inr (.inr 162))]) (S' := []) (σ' := (SH L0, D)) (fun _ _ => rfl) ?_
    cases h
    exact ev_ret 3 (fun _ _ => rfl)
  · refine ev_iff hc 3 (pc' := 11) (L' := [some (.inr (.inr 162))]) (S' := []) (σ' := (SH L0, D)) (fun _ _ => rfl) ?_
    obtain ⟨x1, hx, h⟩ := bnd h
    refine ev_call (e_X4_pageAt_162 L0 d (by omega) hx) 6 (pc' := 21) (L' := [some (.inr (.inr 162))]) (S' := []) (fun _ _ => rfl) ?_
    cases h
    exact ev_ret 3 (fun _ _ => rfl)
set_option maxRecDepth 100000 in
set_option maxHeartbeats 4000000 in
theorem e_X4_pageCount_167 (L0 d : Nat) (hd : 2 ≤ d) {D : DT} {t0 : Int} (h : m_X4_pageCount 167 D = some t0) : Ret mtab d 59 [.inr (.inr 167)] (SH L0, D) (some (.inl t0), (SH L0, D)) := by
  obtain ⟨d, rfl⟩ : ∃ e, d = e + 1 := ⟨d - 1, by omega⟩
  refine Ret.of (code := k_X4_pageCount) (ml := 1) rfl ?_
  show EvF mtab d k_X4_pageCount 0 [some (.inr (.inr 167))] [] (SH L0, D) (some (.inl t0), (SH L0, D))
  unfold m_X4_pageCount at h
  rcases ite_or h with ⟨hc, h⟩ | ⟨hc, h⟩
  · refine ev_ift hc 3 (pc' := 7) (L' := [some (.inr (.inr 167))]) (S' := []) (σ' := (SH L0, D)) (fun _ _ => rfl) ?_
    cases h
    exact ev_ret 3 (fun _ _ => rfl)
  · refine ev_iff hc 3 (pc' := 11) (L' := [some (.inr (.inr 167))]) (S' := []) (σ' := (SH L0, D)) (fun _ _ => rfl) ?_
    obtain ⟨x1, hx, h⟩ := bnd h
    refine ev_call (e_X4_pageAt_167 L0 d (by omega) hx) 6 (pc' := 21) (L' := [some (.inr (.inr 167))]) (S' := []) (fun _ _ => rfl) ?_
    cases h
    exact ev_ret 3 (fun _ _ => rfl)
set_option maxRecDepth 100000 in
set_option maxHeartbeats 4000000 in
theorem e_X4_pageCount_172 (L0 d : Nat) (hd : 2 ≤ d) {D : DT} {t0 : Int} (h : m_X4_pageCount 172 D = some t0) : Ret mtab d 59 [.inr (.inr 172)] (SH L0, D) (some (.inl t0), (SH L0, D)) := by
  obtain ⟨d, rfl⟩ : ∃ e, d = e + 1 := ⟨d - 1, by omega⟩
  refine Ret.of (code := k_X4_pageCount) (ml := 1) rfl ?_
  show EvF mtab d k_X4_pageCount 0 [some (.inr (.inr 172))] [] (SH L0, D) (some (.inl t0), (SH L0, D))
  unfold m_X4_pageCount at h
  rcases ite_or h with ⟨hc, h⟩ | ⟨hc, h⟩
  · refine ev_ift hc 3 (pc' := 7) (L' := [some (.inr (.inr 172))]) (S' := []) (σ' := (SH L0, D)) (fun _ _ => rfl) ?_
    cases h
    exact ev_ret 3 (fun _ _ => rfl)
  · refine ev_iff hc 3 (pc' := 11) (L' := [some (.inr (.inr 172))]) (S' := []) (σ' := (SH L0, D)) (fun _ _ => rfl) ?_
    obtain ⟨x1, hx, h⟩ := bnd h
    refine ev_call (e_X4_pageAt_172 L0 d (by omega) hx) 6 (pc' := 21) (L' := [some (.inr (.inr 172))]) (S' := []) (fun _ _ => rfl) ?_
    cases h
    exact ev_ret 3 (fun _ _ => rfl)
set_option maxRecDepth 100000 in
set_option maxHeartbeats 4000000 in
theorem e_X4_pageCount_177 (L0 d : Nat) (hd : 2 ≤ d) {D : DT} {t0 : Int} (h : m_X4_pageCount 177 D = some t0) : Ret mtab d 59 [.inr (.inr 177)] (SH L0, D) (some (.inl t0), (SH L0, D)) := by
  obtain ⟨d, rfl⟩ : ∃ e, d = e + 1 := ⟨d - 1, by omega⟩
  refine Ret.of (code := k_X4_pageCount) (ml := 1) rfl ?_
  show EvF mtab d k_X4_pageCount 0 [some (.inr (.inr 177))] [] (SH L0, D) (some (.inl t0), (SH L0, D))
  unfold m_X4_pageCount at h
  rcases ite_or h with ⟨hc, h⟩ | ⟨hc, h⟩
  · refine ev_ift hc 3 (pc' := 7) (L' := [some (.inr (.inr 177))]) (S' := []) (σ' := (SH L0, D)) (fun _ _ => rfl) ?_
    cases h
    exact ev_ret 3 (fun _ _ => rfl)
  · refine ev_iff hc 3 (pc' := 11) (L' := [some (.inr (.inr 177))]) (S' := []) (σ' := (SH L0, D)) (fun _ _ => rfl) ?_
    obtain ⟨x1, hx, h⟩ := bnd h
    refine ev_call (e_X4_pageAt_177 L0 d (by omega) hx) 6 (pc' := 21) (L' := [some (.inr (.inr 177))]) (S' := []) (fun _ _ => rfl) ?_
    cases h
    exact ev_ret 3 (fun _ _ => rfl)
set_option maxRecDepth 100000 in
set_option maxHeartbeats 4000000 in
theorem e_X4_pageCount_182 (L0 d : Nat) (hd : 2 ≤ d) {D : DT} {t0 : Int} (h : m_X4_pageCount 182 D = some t0) : Ret mtab d 59 [.inr (.inr 182)] (SH L0, D) (some (.inl t0), (SH L0, D)) := by
  obtain ⟨d, rfl⟩ : ∃ e, d = e + 1 := ⟨d - 1, by omega⟩
  refine Ret.of (code := k_X4_pageCount) (ml := 1) rfl ?_
  show EvF mtab d k_X4_pageCount 0 [some (.inr (.inr 182))] [] (SH L0, D) (some (.inl t0), (SH L0, D))
  unfold m_X4_pageCount at h
  rcases ite_or h with ⟨hc, h⟩ | ⟨hc, h⟩
  · refine ev_ift hc 3 (pc' := 7) (L' := [some (.inr (.inr 182))]) (S' := []) (σ' := (SH L0, D)) (fun _ _ => rfl) ?_
    cases h
    exact ev_ret 3 (fun _ _ => rfl)
  · refine ev_iff hc 3 (pc' := 11) (L' := [some (.inr (.inr 182))]) (S' := []) (σ' := (SH L0, D)) (fun _ _ => rfl) ?_
    obtain ⟨x1, hx, h⟩ := bnd h
    refine ev_call (e_X4_pageAt_182 L0 d (by omega) hx) 6 (pc' := 21) (L' := [some (.inr (.inr 182))]) (S' := []) (fun _ _ => rfl) ?_
    cases h
    exact ev_ret 3 (fun _ _ => rfl)
set_option maxRecDepth 100000 in
set_option maxHeartbeats 4000000 in
theorem e_X5_add (L0 d : Nat) (hd : 1 ≤ d) {p1 : Int} {D : DT} {t0 : DT} (h : m_X5_add p1 D = some t0) : Ret mtab d 64 [.inr (.inr 153), .inl p1] (SH L0, D) (none, (SH L0, t0)) := by
  obtain ⟨d, rfl⟩ : ∃ e, d = e + 1 := ⟨d - 1, by omega⟩
  refine Ret.of (code := k_X5_add) (ml := 2) rfl ?_
  show EvF mtab d k_X5_add 0 [some (.inr (.inr 153)), some (.inl p1)] [] (SH L0, D) (none, (SH L0, t0))
  unfold m_X5_add at h
  rcases ite_or h with ⟨hc, h⟩ | ⟨hc, h⟩
  · refine ev_ift hc 2 (pc' := 37) (L' := [some (.inr (.inr 153)), some (.inl p1)]) (S' := []) (σ' := (SH L0, D)) (fun _ _ => rfl) ?_
    cases h
    exact ev_ret 1 (fun _ _ => rfl)
  · refine ev_iff hc 2 (pc' := 4) (L' := [some (.inr (.inr 153)), some (.inl p1)]) (S' := []) (σ' := (SH L0, D)) (fun _ _ => rfl) ?_
    rcases ite_or h with ⟨hc, h⟩ | ⟨hc, h⟩
    · refine ev_ift hc 3 (pc' := 11) (L' := [some (.inr (.inr 153)), some (.inl p1)]) (S' := []) (σ' := (SH L0, D)) (fun _ _ => rfl) ?_
      obtain ⟨x1, hx, h⟩ := bnd h
      refine ev_bind hx 4 (pc' := 17) (L' := fun x1 => [some (.inr (.inr 153)), some (.inl p1)]) (S' := fun x1 => [.inl x1]) (σ' := fun x1 => (SH L0, D)) (fun _ _ => rfl) ?_
      rcases ite_or h with ⟨hc, h⟩ | ⟨hc, h⟩
      · refine ev_ift hc 1 (pc' := 20) (L' := [some (.inr (.inr 153)), some (.inl p1)]) (S' := []) (σ' := (SH L0, D)) (fun _ _ => rfl) ?_
        obtain ⟨x2, hx, h⟩ := bnd h
        obtain ⟨D3, hy, h⟩ := bnd h
        refine ev_bind2 (Y := fun x2 => awr D 154 256 p1 x2) hx hy 5 (pc' := 27) (L' := fun x2 D3 => [some (.inr (.inr 153)), some (.inl p1)]) (S' := fun x2 D3 => []) (σ' := fun x2 D3 => (SH L0, D3)) (fun _ _ => rfl) ?_
        cases h
        exact ev_ret 7 (fun _ _ => rfl)
      · refine ev_iff hc 1 (pc' := 37) (L' := [some (.inr (.inr 153)), some (.inl p1)]) (S' := []) (σ' := (SH L0, D)) (fun _ _ => rfl) ?_
        cases h
        exact ev_ret 1 (fun _ _ => rfl)
    · refine ev_iff hc 3 (pc' := 37) (L' := [some (.inr (.inr 153)), some (.inl p1)]) (S' := []) (σ' := (SH L0, D)) (fun _ _ => rfl) ?_
      cases h
      exact ev_ret 1 (fun _ _ => rfl)
set_option maxRecDepth 100000 in
set_option maxHeartbeats 4000000 in
theorem e_X4_touch_162_153 (L0 d : Nat) (hd : 3 ≤ d) {p1 : Int} {D : DT} {t0 : DT} (h : m_X4_touch 162 p1 D = some t0) : Ret mtab d 61 [.inr (.inr 162), .inl p1, .inr (.inr 153)] (SH L0, D) (none, (SH L0, t0)) := by
  obtain ⟨d, rfl⟩ : ∃ e, d = e + 1 := ⟨d - 1, by omega⟩
  refine Ret.of (code := k_X4_touch) (ml := 4) rfl ?_
  show EvF mtab d k_X4_touch 0 [some (.inr (.inr 162)), some (.inl p1), some (.inr (.inr 153)), none] [] (SH L0, D) (none, (SH L0, t0))
  unfold m_X4_touch at h
  obtain ⟨x1, hx, h⟩ := bnd h
  refine ev_call (e_X4_firstPage_162 L0 d (by omega) hx) 3 (pc' := 5) (L' := [some (.inr (.inr 162)), some (.inl p1), some (.inr (.inr 153)), none]) (S' := []) (fun _ _ => rfl) ?_
  obtain ⟨r, hr, h⟩ := bnd h
  have hX : (fun (r : DT) => ∀ (o6 : Option (Sum Int Nat)), EvF mtab d k_X4_touch 26 [some (.inr (.inr 162)), some (.inl p1), some (.inr (.inr 153)), dv o6] [] (SH L0, r) (none, (SH L0, t0))) r := by
    obtain ⟨D7, hre⟩ : ∃ q, q = r := ⟨r, rfl⟩
    subst hre
    intro o6
    show EvF mtab d k_X4_touch 26 [some (.inr (.inr 162)), some (.inl p1), some (.inr (.inr 153)), dv o6] [] (SH L0, D7) (none, (SH L0, t0))
    cases h
    exact ev_ret 1 (fun _ _ => rfl)
  clear h
  refine ev_go 1 (pc' := 6) (L' := [some (.inr (.inr 162)), some (.inl p1), some (.inr (.inr 153)), some (.inl x1)]) (S' := []) (σ' := (SH L0, D)) (fun _ _ => rfl) ?_
  refine loop_ind (P := fun s => EvF mtab d k_X4_touch 6 [some (.inr (.inr 162)), some (.inl p1), some (.inr (.inr 153)), some (.inl s.1)] [] (SH L0, s.2) (none, (SH L0, t0))) (X := fun r => ∀ (o6 : Option (Sum Int Nat)), EvF mtab d k_X4_touch 26 [some (.inr (.inr 162)), some (.inl p1), some (.inr (.inr 153)), dv o6] [] (SH L0, r) (none, (SH L0, t0))) hr hX ?_
  clear hr hX
  intro s t hb hK0
  obtain ⟨l3_2, D3⟩ := s
  show EvF mtab d k_X4_touch 6 [some (.inr (.inr 162)), some (.inl p1), some (.inr (.inr 153)), some (.inl l3_2)] [] (SH L0, D3) (none, (SH L0, t0))
  unfold b_X4_touch_6 at hb
  obtain ⟨x4, hx, hb⟩ := bnd hb
  refine ev_call (e_X4_lastPage_162 L0 d (by omega) hx) 4 (pc' := 12) (L' := [some (.inr (.inr 162)), some (.inl p1), some (.inr (.inr 153)), some (.inl l3_2)]) (S' := [.inl l3_2]) (fun _ _ => rfl) ?_
  rcases ite_or hb with ⟨hc, hb⟩ | ⟨hc, hb⟩
  · refine ev_ift hc 1 (pc' := 26) (L' := [some (.inr (.inr 162)), some (.inl p1), some (.inr (.inr 153)), some (.inl l3_2)]) (S' := []) (σ' := (SH L0, D3)) (fun _ _ => rfl) ?_
    cases hb
    exact hK0 (some (.inl l3_2))
  · refine ev_iff hc 1 (pc' := 15) (L' := [some (.inr (.inr 162)), some (.inl p1), some (.inr (.inr 153)), some (.inl l3_2)]) (S' := []) (σ' := (SH L0, D3)) (fun _ _ => rfl) ?_
    obtain ⟨D5, hx, hb⟩ := bnd hb
    refine ev_call (e_X5_add L0 d (by omega) hx) 3 (pc' := 20) (L' := [some (.inr (.inr 162)), some (.inl p1), some (.inr (.inr 153)), some (.inl l3_2)]) (S' := []) (fun _ _ => rfl) ?_
    cases hb
    exact ev_go 2 (pc' := 6) (L' := [some (.inr (.inr 162)), some (.inl p1), some (.inr (.inr 153)), some (.inl (w32 (l3_2 + 1)))]) (S' := []) (σ' := (SH L0, D5)) (fun _ _ => rfl) hK0
set_option maxRecDepth 100000 in
set_option maxHeartbeats 4000000 in
theorem e_X4_touch_167_153 (L0 d : Nat) (hd : 3 ≤ d) {p1 : Int} {D : DT} {t0 : DT} (h : m_X4_touch 167 p1 D = some t0) : Ret mtab d 61 [.inr (.inr 167), .inl p1, .inr (.inr 153)] (SH L0, D) (none, (SH L0, t0)) := by
  obtain ⟨d, rfl⟩ : ∃ e, d = e + 1 := ⟨d - 1, by omega⟩
  refine Ret.of (code := k_X4_touch) (ml := 4) rfl ?_
  show EvF mtab d k_X4_touch 0 [some (.inr (.inr 167)), some (.inl p1), some (.inr (.inr 153)), none] [] (SH L0, D) (none, (SH L0, t0))
  unfold m_X4_touch at h
  obtain ⟨x1, hx, h⟩ := bnd h
  refine ev_call (e_X4_firstPage_167 L0 d (by omega) hx) 3 (pc' := 5) (L' := [some (.inr (.inr 167)), some (.inl p1), some (.inr (.inr 153)), none]) (S' := []) (fun _ _ => rfl) ?_
  obtain ⟨r, hr, h⟩ := bnd h
  have hX : (fun (r : DT) => ∀ (o6 : Option (Sum Int Nat)), EvF mtab d k_X4_touch 26 [some (.inr (.inr 167)), some (.inl p1), some (.inr (.inr 153)), dv o6] [] (SH L0, r) (none, (SH L0, t0))) r := by
    obtain ⟨D7, hre⟩ : ∃ q, q = r := ⟨r, rfl⟩
    subst hre
    intro o6
    show EvF mtab d k_X4_touch 26 [some (.inr (.inr 167)), some (.inl p1), some (.inr (.inr 153)), dv o6] [] (SH L0, D7) (none, (SH L0, t0))
    cases h
    exact ev_ret 1 (fun _ _ => rfl)
  clear h
  refine ev_go 1 (pc' := 6) (L' := [some (.inr (.inr 167)), some (.inl p1), some (.inr (.inr 153)), some (.inl x1)]) (S' := []) (σ' := (SH L0, D)) (fun _ _ => rfl) ?_
  refine loop_ind (P := fun s => EvF mtab d k_X4_touch 6 [some (.inr (.inr 167)), some (.inl p1), some (.inr (.inr 153)), some (.inl s.1)] [] (SH L0, s.2) (none, (SH L0, t0))) (X := fun r => ∀ (o6 : Option (Sum Int Nat)), EvF mtab d k_X4_touch 26 [some (.inr (.inr 167)), some (.inl p1), some (.inr (.inr 153)), dv o6] [] (SH L0, r) (none, (SH L0, t0))) hr hX ?_
  clear hr hX
  intro s t hb hK0
  obtain ⟨l3_2, D3⟩ := s
  show EvF mtab d k_X4_touch 6 [some (.inr (.inr 167)), some (.inl p1), some (.inr (.inr 153)), some (.inl l3_2)] [] (SH L0, D3) (none, (SH L0, t0))
  unfold b_X4_touch_6 at hb
  obtain ⟨x4, hx, hb⟩ := bnd hb
  refine ev_call (e_X4_lastPage_167 L0 d (by omega) hx) 4 (pc' := 12) (L' := [some (.inr (.inr 167)), some (.inl p1), some (.inr (.inr 153)), some (.inl l3_2)]) (S' := [.inl l3_2]) (fun _ _ => rfl) ?_
  rcases ite_or hb with ⟨hc, hb⟩ | ⟨hc, hb⟩
  · refine ev_ift hc 1 (pc' := 26) (L' := [some (.inr (.inr 167)), some (.inl p1), some (.inr (.inr 153)), some (.inl l3_2)]) (S' := []) (σ' := (SH L0, D3)) (fun _ _ => rfl) ?_
    cases hb
    exact hK0 (some (.inl l3_2))
  · refine ev_iff hc 1 (pc' := 15) (L' := [some (.inr (.inr 167)), some (.inl p1), some (.inr (.inr 153)), some (.inl l3_2)]) (S' := []) (σ' := (SH L0, D3)) (fun _ _ => rfl) ?_
    obtain ⟨D5, hx, hb⟩ := bnd hb
    refine ev_call (e_X5_add L0 d (by omega) hx) 3 (pc' := 20) (L' := [some (.inr (.inr 167)), some (.inl p1), some (.inr (.inr 153)), some (.inl l3_2)]) (S' := []) (fun _ _ => rfl) ?_
    cases hb
    exact ev_go 2 (pc' := 6) (L' := [some (.inr (.inr 167)), some (.inl p1), some (.inr (.inr 153)), some (.inl (w32 (l3_2 + 1)))]) (S' := []) (σ' := (SH L0, D5)) (fun _ _ => rfl) hK0
set_option maxRecDepth 100000 in
set_option maxHeartbeats 4000000 in
theorem e_X4_touch_172_153 (L0 d : Nat) (hd : 3 ≤ d) {p1 : Int} {D : DT} {t0 : DT} (h : m_X4_touch 172 p1 D = some t0) : Ret mtab d 61 [.inr (.inr 172), .inl p1, .inr (.inr 153)] (SH L0, D) (none, (SH L0, t0)) := by
  obtain ⟨d, rfl⟩ : ∃ e, d = e + 1 := ⟨d - 1, by omega⟩
  refine Ret.of (code := k_X4_touch) (ml := 4) rfl ?_
  show EvF mtab d k_X4_touch 0 [some (.inr (.inr 172)), some (.inl p1), some (.inr (.inr 153)), none] [] (SH L0, D) (none, (SH L0, t0))
  unfold m_X4_touch at h
  obtain ⟨x1, hx, h⟩ := bnd h
  refine ev_call (e_X4_firstPage_172 L0 d (by omega) hx) 3 (pc' := 5) (L' := [some (.inr (.inr 172)), some (.inl p1), some (.inr (.inr 153)), none]) (S' := []) (fun _ _ => rfl) ?_
  obtain ⟨r, hr, h⟩ := bnd h
  have hX : (fun (r : DT) => ∀ (o6 : Option (Sum Int Nat)), EvF mtab d k_X4_touch 26 [some (.inr (.inr 172)), some (.inl p1), some (.inr (.inr 153)), dv o6] [] (SH L0, r) (none, (SH L0, t0))) r := by
    obtain ⟨D7, hre⟩ : ∃ q, q = r := ⟨r, rfl⟩
    subst hre
    intro o6
    show EvF mtab d k_X4_touch 26 [some (.inr (.inr 172)), some (.inl p1), some (.inr (.inr 153)), dv o6] [] (SH L0, D7) (none, (SH L0, t0))
    cases h
    exact ev_ret 1 (fun _ _ => rfl)
  clear h
  refine ev_go 1 (pc' := 6) (L' := [some (.inr (.inr 172)), some (.inl p1), some (.inr (.inr 153)), some (.inl x1)]) (S' := []) (σ' := (SH L0, D)) (fun _ _ => rfl) ?_
  refine loop_ind (P := fun s => EvF mtab d k_X4_touch 6 [some (.inr (.inr 172)), some (.inl p1), some (.inr (.inr 153)), some (.inl s.1)] [] (SH L0, s.2) (none, (SH L0, t0))) (X := fun r => ∀ (o6 : Option (Sum Int Nat)), EvF mtab d k_X4_touch 26 [some (.inr (.inr 172)), some (.inl p1), some (.inr (.inr 153)), dv o6] [] (SH L0, r) (none, (SH L0, t0))) hr hX ?_
  clear hr hX
  intro s t hb hK0
  obtain ⟨l3_2, D3⟩ := s
  show EvF mtab d k_X4_touch 6 [some (.inr (.inr 172)), some (.inl p1), some (.inr (.inr 153)), some (.inl l3_2)] [] (SH L0, D3) (none, (SH L0, t0))
  unfold b_X4_touch_6 at hb
  obtain ⟨x4, hx, hb⟩ := bnd hb
  refine ev_call (e_X4_lastPage_172 L0 d (by omega) hx) 4 (pc' := 12) (L' := [some (.inr (.inr 172)), some (.inl p1), some (.inr (.inr 153)), some (.inl l3_2)]) (S' := [.inl l3_2]) (fun _ _ => rfl) ?_
  rcases ite_or hb with ⟨hc, hb⟩ | ⟨hc, hb⟩
  · refine ev_ift hc 1 (pc' := 26) (L' := [some (.inr (.inr 172)), some (.inl p1), some (.inr (.inr 153)), some (.inl l3_2)]) (S' := []) (σ' := (SH L0, D3)) (fun _ _ => rfl) ?_
    cases hb
    exact hK0 (some (.inl l3_2))
  · refine ev_iff hc 1 (pc' := 15) (L' := [some (.inr (.inr 172)), some (.inl p1), some (.inr (.inr 153)), some (.inl l3_2)]) (S' := []) (σ' := (SH L0, D3)) (fun _ _ => rfl) ?_
    obtain ⟨D5, hx, hb⟩ := bnd hb
    refine ev_call (e_X5_add L0 d (by omega) hx) 3 (pc' := 20) (L' := [some (.inr (.inr 172)), some (.inl p1), some (.inr (.inr 153)), some (.inl l3_2)]) (S' := []) (fun _ _ => rfl) ?_
    cases hb
    exact ev_go 2 (pc' := 6) (L' := [some (.inr (.inr 172)), some (.inl p1), some (.inr (.inr 153)), some (.inl (w32 (l3_2 + 1)))]) (S' := []) (σ' := (SH L0, D5)) (fun _ _ => rfl) hK0
set_option maxRecDepth 100000 in
set_option maxHeartbeats 4000000 in
theorem e_X4_touch_177_153 (L0 d : Nat) (hd : 3 ≤ d) {p1 : Int} {D : DT} {t0 : DT} (h : m_X4_touch 177 p1 D = some t0) : Ret mtab d 61 [.inr (.inr 177), .inl p1, .inr (.inr 153)] (SH L0, D) (none, (SH L0, t0)) := by
  obtain ⟨d, rfl⟩ : ∃ e, d = e + 1 := ⟨d - 1, by omega⟩
  refine Ret.of (code := k_X4_touch) (ml := 4) rfl ?_
  show EvF mtab d k_X4_touch 0 [some (.inr (.inr 177)), some (.inl p1), some (.inr (.inr 153)), none] [] (SH L0, D) (none, (SH L0, t0))
  unfold m_X4_touch at h
  obtain ⟨x1, hx, h⟩ := bnd h
  refine ev_call (e_X4_firstPage_177 L0 d (by omega) hx) 3 (pc' := 5) (L' := [some (.inr (.inr 177)), some (.inl p1), some (.inr (.inr 153)), none]) (S' := []) (fun _ _ => rfl) ?_
  obtain ⟨r, hr, h⟩ := bnd h
  have hX : (fun (r : DT) => ∀ (o6 : Option (Sum Int Nat)), EvF mtab d k_X4_touch 26 [some (.inr (.inr 177)), some (.inl p1), some (.inr (.inr 153)), dv o6] [] (SH L0, r) (none, (SH L0, t0))) r := by
    obtain ⟨D7, hre⟩ : ∃ q, q = r := ⟨r, rfl⟩
    subst hre
    intro o6
    show EvF mtab d k_X4_touch 26 [some (.inr (.inr 177)), some (.inl p1), some (.inr (.inr 153)), dv o6] [] (SH L0, D7) (none, (SH L0, t0))
    cases h
    exact ev_ret 1 (fun _ _ => rfl)
  clear h
  refine ev_go 1 (pc' := 6) (L' := [some (.inr (.inr 177)), some (.inl p1), some (.inr (.inr 153)), some (.inl x1)]) (S' := []) (σ' := (SH L0, D)) (fun _ _ => rfl) ?_
  refine loop_ind (P := fun s => EvF mtab d k_X4_touch 6 [some (.inr (.inr 177)), some (.inl p1), some (.inr (.inr 153)), some (.inl s.1)] [] (SH L0, s.2) (none, (SH L0, t0))) (X := fun r => ∀ (o6 : Option (Sum Int Nat)), EvF mtab d k_X4_touch 26 [some (.inr (.inr 177)), some (.inl p1), some (.inr (.inr 153)), dv o6] [] (SH L0, r) (none, (SH L0, t0))) hr hX ?_
  clear hr hX
  intro s t hb hK0
  obtain ⟨l3_2, D3⟩ := s
  show EvF mtab d k_X4_touch 6 [some (.inr (.inr 177)), some (.inl p1), some (.inr (.inr 153)), some (.inl l3_2)] [] (SH L0, D3) (none, (SH L0, t0))
  unfold b_X4_touch_6 at hb
  obtain ⟨x4, hx, hb⟩ := bnd hb
  refine ev_call (e_X4_lastPage_177 L0 d (by omega) hx) 4 (pc' := 12) (L' := [some (.inr (.inr 177)), some (.inl p1), some (.inr (.inr 153)), some (.inl l3_2)]) (S' := [.inl l3_2]) (fun _ _ => rfl) ?_
  rcases ite_or hb with ⟨hc, hb⟩ | ⟨hc, hb⟩
  · refine ev_ift hc 1 (pc' := 26) (L' := [some (.inr (.inr 177)), some (.inl p1), some (.inr (.inr 153)), some (.inl l3_2)]) (S' := []) (σ' := (SH L0, D3)) (fun _ _ => rfl) ?_
    cases hb
    exact hK0 (some (.inl l3_2))
  · refine ev_iff hc 1 (pc' := 15) (L' := [some (.inr (.inr 177)), some (.inl p1), some (.inr (.inr 153)), some (.inl l3_2)]) (S' := []) (σ' := (SH L0, D3)) (fun _ _ => rfl) ?_
    obtain ⟨D5, hx, hb⟩ := bnd hb
    refine ev_call (e_X5_add L0 d (by omega) hx) 3 (pc' := 20) (L' := [some (.inr (.inr 177)), some (.inl p1), some (.inr (.inr 153)), some (.inl l3_2)]) (S' := []) (fun _ _ => rfl) ?_
    cases hb
    exact ev_go 2 (pc' := 6) (L' := [some (.inr (.inr 177)), some (.inl p1), some (.inr (.inr 153)), some (.inl (w32 (l3_2 + 1)))]) (S' := []) (σ' := (SH L0, D5)) (fun _ _ => rfl) hK0
set_option maxRecDepth 100000 in
set_option maxHeartbeats 4000000 in
theorem e_X4_touch_182_153 (L0 d : Nat) (hd : 3 ≤ d) {p1 : Int} {D : DT} {t0 : DT} (h : m_X4_touch 182 p1 D = some t0) : Ret mtab d 61 [.inr (.inr 182), .inl p1, .inr (.inr 153)] (SH L0, D) (none, (SH L0, t0)) := by
  obtain ⟨d, rfl⟩ : ∃ e, d = e + 1 := ⟨d - 1, by omega⟩
  refine Ret.of (code := k_X4_touch) (ml := 4) rfl ?_
  show EvF mtab d k_X4_touch 0 [some (.inr (.inr 182)), some (.inl p1), some (.inr (.inr 153)), none] [] (SH L0, D) (none, (SH L0, t0))
  unfold m_X4_touch at h
  obtain ⟨x1, hx, h⟩ := bnd h
  refine ev_call (e_X4_firstPage_182 L0 d (by omega) hx) 3 (pc' := 5) (L' := [some (.inr (.inr 182)), some (.inl p1), some (.inr (.inr 153)), none]) (S' := []) (fun _ _ => rfl) ?_
  obtain ⟨r, hr, h⟩ := bnd h
  have hX : (fun (r : DT) => ∀ (o6 : Option (Sum Int Nat)), EvF mtab d k_X4_touch 26 [some (.inr (.inr 182)), some (.inl p1), some (.inr (.inr 153)), dv o6] [] (SH L0, r) (none, (SH L0, t0))) r := by
    obtain ⟨D7, hre⟩ : ∃ q, q = r := ⟨r, rfl⟩
    subst hre
    intro o6
    show EvF mtab d k_X4_touch 26 [some (.inr (.inr 182)), some (.inl p1), some (.inr (.inr 153)), dv o6] [] (SH L0, D7) (none, (SH L0, t0))
    cases h
    exact ev_ret 1 (fun _ _ => rfl)
  clear h
  refine ev_go 1 (pc' := 6) (L' := [some (.inr (.inr 182)), some (.inl p1), some (.inr (.inr 153)), some (.inl x1)]) (S' := []) (σ' := (SH L0, D)) (fun _ _ => rfl) ?_
  refine loop_ind (P := fun s => EvF mtab d k_X4_touch 6 [some (.inr (.inr 182)), some (.inl p1), some (.inr (.inr 153)), some (.inl s.1)] [] (SH L0, s.2) (none, (SH L0, t0))) (X := fun r => ∀ (o6 : Option (Sum Int Nat)), EvF mtab d k_X4_touch 26 [some (.inr (.inr 182)), some (.inl p1), some (.inr (.inr 153)), dv o6] [] (SH L0, r) (none, (SH L0, t0))) hr hX ?_
  clear hr hX
  intro s t hb hK0
  obtain ⟨l3_2, D3⟩ := s
  show EvF mtab d k_X4_touch 6 [some (.inr (.inr 182)), some (.inl p1), some (.inr (.inr 153)), some (.inl l3_2)] [] (SH L0, D3) (none, (SH L0, t0))
  unfold b_X4_touch_6 at hb
  obtain ⟨x4, hx, hb⟩ := bnd hb
  refine ev_call (e_X4_lastPage_182 L0 d (by omega) hx) 4 (pc' := 12) (L' := [some (.inr (.inr 182)), some (.inl p1), some (.inr (.inr 153)), some (.inl l3_2)]) (S' := [.inl l3_2]) (fun _ _ => rfl) ?_
  rcases ite_or hb with ⟨hc, hb⟩ | ⟨hc, hb⟩
  · refine ev_ift hc 1 (pc' := 26) (L' := [some (.inr (.inr 182)), some (.inl p1), some (.inr (.inr 153)), some (.inl l3_2)]) (S' := []) (σ' := (SH L0, D3)) (fun _ _ => rfl) ?_
    cases hb
    exact hK0 (some (.inl l3_2))
  · refine ev_iff hc 1 (pc' := 15) (L' := [some (.inr (.inr 182)), some (.inl p1), some (.inr (.inr 153)), some (.inl l3_2)]) (S' := []) (σ' := (SH L0, D3)) (fun _ _ => rfl) ?_
    obtain ⟨D5, hx, hb⟩ := bnd hb
    refine ev_call (e_X5_add L0 d (by omega) hx) 3 (pc' := 20) (L' := [some (.inr (.inr 182)), some (.inl p1), some (.inr (.inr 153)), some (.inl l3_2)]) (S' := []) (fun _ _ => rfl) ?_
    cases hb
    exact ev_go 2 (pc' := 6) (L' := [some (.inr (.inr 182)), some (.inl p1), some (.inr (.inr 153)), some (.inl (w32 (l3_2 + 1)))]) (S' := []) (σ' := (SH L0, D5)) (fun _ _ => rfl) hK0
set_option maxRecDepth 100000 in
set_option maxHeartbeats 4000000 in
theorem e_X5_clear (L0 d : Nat) (hd : 1 ≤ d) {D : DT} {t0 : DT} (h : m_X5_clear  D = some t0) : Ret mtab d 63 [.inr (.inr 153)] (SH L0, D) (none, (SH L0, t0)) := by
  obtain ⟨d, rfl⟩ : ∃ e, d = e + 1 := ⟨d - 1, by omega⟩
  refine Ret.of (code := k_X5_clear) (ml := 2) rfl ?_
  show EvF mtab d k_X5_clear 0 [some (.inr (.inr 153)), none] [] (SH L0, D) (none, (SH L0, t0))
  unfold m_X5_clear at h
  obtain ⟨r, hr, h⟩ := bnd h
  have hX : (fun (r : DT) => ∀ (o5 : Option (Sum Int Nat)), EvF mtab d k_X5_clear 27 [some (.inr (.inr 153)), dv o5] [] (SH L0, r) (none, (SH L0, t0))) r := by
    obtain ⟨D6, hre⟩ : ∃ q, q = r := ⟨r, rfl⟩
    subst hre
    intro o5
    show EvF mtab d k_X5_clear 27 [some (.inr (.inr 153)), dv o5] [] (SH L0, D6) (none, (SH L0, t0))
    cases h
    exact ev_ret 1 (fun _ _ => rfl)
  clear h
  refine ev_go 5 (pc' := 7) (L' := [some (.inr (.inr 153)), some (.inl 0)]) (S' := []) (σ' := (SH L0, dput D 153 0 0)) (fun _ _ => rfl) ?_
  refine loop_ind (P := fun s => EvF mtab d k_X5_clear 7 [some (.inr (.inr 153)), some (.inl s.1)] [] (SH L0, s.2) (none, (SH L0, t0))) (X := fun r => ∀ (o5 : Option (Sum Int Nat)), EvF mtab d k_X5_clear 27 [some (.inr (.inr 153)), dv o5] [] (SH L0, r) (none, (SH L0, t0))) hr hX ?_
  clear hr hX
  intro s t hb hK0
  obtain ⟨l1_1, D2⟩ := s
  show EvF mtab d k_X5_clear 7 [some (.inr (.inr 153)), some (.inl l1_1)] [] (SH L0, D2) (none, (SH L0, t0))
  unfold b_X5_clear_7 at hb
  rcases ite_or hb with ⟨hc, hb⟩ | ⟨hc, hb⟩
  · refine ev_ift hc 3 (pc' := 14) (L' := [some (.inr (.inr 153)), some (.inl l1_1)]) (S' := []) (σ' := (SH L0, D2)) (fun _ _ => rfl) ?_
    obtain ⟨x3, hx, hb⟩ := bnd hb
    obtain ⟨D4, hy, hb⟩ := bnd hb
    refine ev_bind2 (Y := fun x3 => awr D2 154 256 l1_1 x3) hx hy 5 (pc' := 21) (L' := fun x3 D4 => [some (.inr (.inr 153)), some (.inl l1_1)]) (S' := fun x3 D4 => []) (σ' := fun x3 D4 => (SH L0, D4)) (fun _ _ => rfl) ?_
    cases hb
    exact ev_go 2 (pc' := 7) (L' := [some (.inr (.inr 153)), some (.inl (w32 (l1_1 + 1)))]) (S' := []) (σ' := (SH L0, D4)) (fun _ _ => rfl) hK0
  · refine ev_iff hc 3 (pc' := 27) (L' := [some (.inr (.inr 153)), some (.inl l1_1)]) (S' := []) (σ' := (SH L0, D2)) (fun _ _ => rfl) ?_
    cases hb
    exact hK0 (some (.inl l1_1))
set_option maxRecDepth 100000 in
set_option maxHeartbeats 4000000 in
theorem e_X4_touched_162_153 (L0 d : Nat) (hd : 4 ≤ d) {D : DT} {t0 : (Int × DT)} (h : m_X4_touched 162 D = some t0) : Ret mtab d 60 [.inr (.inr 162), .inr (.inr 153)] (SH L0, D) (some (.inl t0.1), (SH L0, t0.2)) := by
  obtain ⟨d, rfl⟩ : ∃ e, d = e + 1 := ⟨d - 1, by omega⟩
  refine Ret.of (code := k_X4_touched) (ml := 4) rfl ?_
  show EvF mtab d k_X4_touched 0 [some (.inr (.inr 162)), some (.inr (.inr 153)), none, none] [] (SH L0, D) (some (.inl t0.1), (SH L0, t0.2))
  unfold m_X4_touched at h
  obtain ⟨D1, hx, h⟩ := bnd h
  refine ev_call (e_X5_clear L0 d (by omega) hx) 2 (pc' := 4) (L' := [some (.inr (.inr 162)), some (.inr (.inr 153)), none, none]) (S' := []) (fun _ _ => rfl) ?_
  obtain ⟨r, hr, h⟩ := bnd h
  have hX : (fun (r : DT) => ∀ (o13 : Option (Sum Int Nat)) (o14 : Option (Sum Int Nat)), EvF mtab d k_X4_touched 89 [some (.inr (.inr 162)), some (.inr (.inr 153)), dv o13, dv o14] [] (SH L0, r) (some (.inl t0.1), (SH L0, t0.2))) r := by
    obtain ⟨D15, hre⟩ : ∃ q, q = r := ⟨r, rfl⟩
    subst hre
    intro o13 o14
    show EvF mtab d k_X4_touched 89 [some (.inr (.inr 162)), some (.inr (.inr 153)), dv o13, dv o14] [] (SH L0, D15) (some (.inl t0.1), (SH L0, t0.2))
    cases h
    exact ev_ret 3 (fun _ _ => rfl)
  clear h
  refine ev_go 2 (pc' := 6) (L' := [some (.inr (.inr 162)), some (.inr (.inr 153)), some (.inl 0), none]) (S' := []) (σ' := (SH L0, D1)) (fun _ _ => rfl) ?_
  refine loop_ind (P := fun s => ∀ (o3 : Option (Sum Int Nat)), EvF mtab d k_X4_touched 6 [some (.inr (.inr 162)), some (.inr (.inr 153)), some (.inl s.1), dv o3] [] (SH L0, s.2) (some (.inl t0.1), (SH L0, t0.2))) (X := fun r => ∀ (o13 : Option (Sum Int Nat)) (o14 : Option (Sum Int Nat)), EvF mtab d k_X4_touched 89 [some (.inr (.inr 162)), some (.inr (.inr 153)), dv o13, dv o14] [] (SH L0, r) (some (.inl t0.1), (SH L0, t0.2))) hr hX ?_ none
  clear hr hX
  intro s t hb hK0
  obtain ⟨l2_2, D4⟩ := s
  intro o3
  show EvF mtab d k_X4_touched 6 [some (.inr (.inr 162)), some (.inr (.inr 153)), some (.inl l2_2), dv o3] [] (SH L0, D4) (some (.inl t0.1), (SH L0, t0.2))
  unfold b_X4_touched_6 at hb
  rcases ite_or hb with ⟨hc, hb⟩ | ⟨hc, hb⟩
  · refine ev_ift hc 5 (pc' := 17) (L' := [some (.inr (.inr 162)), some (.inr (.inr 153)), some (.inl l2_2), dv o3]) (S' := []) (σ' := (SH L0, D4)) (fun _ _ => rfl) ?_
    obtain ⟨x5, hx, hb⟩ := bnd hb
    refine ev_bind hx 7 (pc' := 30) (L' := fun x5 => [some (.inr (.inr 162)), some (.inr (.inr 153)), some (.inl l2_2), dv o3]) (S' := fun x5 => [.inl x5, .inr (.inr 4)]) (σ' := fun x5 => (SH L0, D4)) (fun _ _ => rfl) ?_
    obtain ⟨x6, hx, hb⟩ := bnd hb
    refine ev_call (e_X7_placeInTrace_4 L0 d (by omega) hx) 1 (pc' := 33) (L' := [some (.inr (.inr 162)), some (.inr (.inr 153)), some (.inl l2_2), dv o3]) (S' := []) (fun _ _ => rfl) ?_
    obtain ⟨t7, hv, hb⟩ := bnd hb
    have hJ : EvF mtab d k_X4_touched 42 [some (.inr (.inr 162)), some (.inr (.inr 153)), some (.inl l2_2), dv o3] [.inl t7] (SH L0, D4) (some (.inl t0.1), (SH L0, t0.2)) := by
      obtain ⟨D12, hv, hb⟩ := bnd hb
      have hJ : EvF mtab d k_X4_touched 83 [some (.inr (.inr 162)), some (.inr (.inr 153)), some (.inl l2_2), some (.inl t7)] [] (SH L0, D12) (some (.inl t0.1), (SH L0, t0.2)) := by
        cases hb
        exact ev_go 2 (pc' := 6) (L' := [some (.inr (.inr 162)), some (.inr (.inr 153)), some (.inl (w32 (l2_2 + 1))), some (.inl t7)]) (S' := []) (σ' := (SH L0, D12)) (fun _ _ => rfl) (hK0 (some (.inl t7)))
      clear hb
      rcases ite_or hv with ⟨hc, hv⟩ | ⟨hc, hv⟩
      · refine ev_ift hc 3 (pc' := 83) (L' := [some (.inr (.inr 162)), some (.inr (.inr 153)), some (.inl l2_2), some (.inl t7)]) (S' := []) (σ' := (SH L0, D4)) (fun _ _ => rfl) ?_
        have he0 := Option.some.inj hv
        subst he0
        exact hJ
      · refine ev_iff hc 3 (pc' := 47) (L' := [some (.inr (.inr 162)), some (.inr (.inr 153)), some (.inl l2_2), some (.inl t7)]) (S' := []) (σ' := (SH L0, D4)) (fun _ _ => rfl) ?_
        obtain ⟨x8, hx, hv⟩ := bnd hv
        refine ev_bind hx 5 (pc' := 56) (L' := fun x8 => [some (.inr (.inr 162)), some (.inr (.inr 153)), some (.inl l2_2), some (.inl t7)]) (S' := fun x8 => [.inl x8]) (σ' := fun x8 => (SH L0, D4)) (fun _ _ => rfl) ?_
        rcases ite_or hv with ⟨hc, hv⟩ | ⟨hc, hv⟩
        · refine ev_ift hc 4 (pc' := 77) (L' := [some (.inr (.inr 162)), some (.inr (.inr 153)), some (.inl l2_2), some (.inl t7)]) (S' := []) (σ' := (SH L0, D4)) (fun _ _ => rfl) ?_
          obtain ⟨D9, hx, hv⟩ := bnd hv
          refine ev_call (e_X4_touch_162_153 L0 d (by omega) hx) 4 (pc' := 83) (L' := [some (.inr (.inr 162)), some (.inr (.inr 153)), some (.inl l2_2), some (.inl t7)]) (S' := []) (fun _ _ => rfl) ?_
          have he0 := Option.some.inj hv
          subst he0
          exact hJ
        · refine ev_iff hc 4 (pc' := 66) (L' := [some (.inr (.inr 162)), some (.inr (.inr 153)), some (.inl l2_2), some (.inl t7)]) (S' := []) (σ' := (SH L0, D4)) (fun _ _ => rfl) ?_
          obtain ⟨x10, hx, hv⟩ := bnd hv
          refine ev_call (e_X7_isEntry L0 d (by omega) hx) 4 (pc' := 74) (L' := [some (.inr (.inr 162)), some (.inr (.inr 153)), some (.inl l2_2), some (.inl t7)]) (S' := []) (fun _ _ => rfl) ?_
          rcases ite_or hv with ⟨hc, hv⟩ | ⟨hc, hv⟩
          · refine ev_ift hc 1 (pc' := 83) (L' := [some (.inr (.inr 162)), some (.inr (.inr 153)), some (.inl l2_2), some (.inl t7)]) (S' := []) (σ' := (SH L0, D4)) (fun _ _ => rfl) ?_
            have he0 := Option.some.inj hv
            subst he0
            exact hJ
          · refine ev_iff hc 1 (pc' := 77) (L' := [some (.inr (.inr 162)), some (.inr (.inr 153)), some (.inl l2_2), some (.inl t7)]) (S' := []) (σ' := (SH L0, D4)) (fun _ _ => rfl) ?_
            obtain ⟨D11, hx, hv⟩ := bnd hv
            refine ev_call (e_X4_touch_162_153 L0 d (by omega) hx) 4 (pc' := 83) (L' := [some (.inr (.inr 162)), some (.inr (.inr 153)), some (.inl l2_2), some (.inl t7)]) (S' := []) (fun _ _ => rfl) ?_
            have he0 := Option.some.inj hv
            subst he0
            exact hJ
    clear hb
    rcases ite_or hv with ⟨hc, hv⟩ | ⟨hc, hv⟩
    · refine ev_ift hc 2 (pc' := 41) (L' := [some (.inr (.inr 162)), some (.inr (.inr 153)), some (.inl l2_2), dv o3]) (S' := []) (σ' := (SH L0, D4)) (fun _ _ => rfl) ?_
      have he0 := Option.some.inj hv
      subst he0
      exact ev_go 1 (pc' := 42) (L' := [some (.inr (.inr 162)), some (.inr (.inr 153)), some (.inl l2_2), dv o3]) (S' := [.inl 0]) (σ' := (SH L0, D4)) (fun _ _ => rfl) hJ
    · refine ev_iff hc 2 (pc' := 37) (L' := [some (.inr (.inr 162)), some (.inr (.inr 153)), some (.inl l2_2), dv o3]) (S' := []) (σ' := (SH L0, D4)) (fun _ _ => rfl) ?_
      have he0 := Option.some.inj hv
      subst he0
      exact ev_go 2 (pc' := 42) (L' := [some (.inr (.inr 162)), some (.inr (.inr 153)), some (.inl l2_2), dv o3]) (S' := [.inl 1]) (σ' := (SH L0, D4)) (fun _ _ => rfl) hJ
  · refine ev_iff hc 5 (pc' := 89) (L' := [some (.inr (.inr 162)), some (.inr (.inr 153)), some (.inl l2_2), dv o3]) (S' := []) (σ' := (SH L0, D4)) (fun _ _ => rfl) ?_
    cases hb
    exact hK0 (some (.inl l2_2)) o3
set_option maxRecDepth 100000 in
set_option maxHeartbeats 4000000 in
theorem e_X4_touched_167_153 (L0 d : Nat) (hd : 4 ≤ d) {D : DT} {t0 : (Int × DT)} (h : m_X4_touched 167 D = some t0) : Ret mtab d 60 [.inr (.inr 167), .inr (.inr 153)] (SH L0, D) (some (.inl t0.1), (SH L0, t0.2)) := by
  obtain ⟨d, rfl⟩ : ∃ e, d = e + 1 := ⟨d - 1, by omega⟩
  refine Ret.of (code := k_X4_touched) (ml := 4) rfl ?_
  show EvF mtab d k_X4_touched 0 [some (.inr (.inr 167)), some (.inr (.inr 153)), none, none] [] (SH L0, D) (some (.inl t0.1), (SH L0, t0.2))
  unfold m_X4_touched at h
  obtain ⟨D1, hx, h⟩ := bnd h
  refine ev_call (e_X5_clear L0 d (by omega) hx) 2 (pc' := 4) (L' := [some (.inr (.inr 167)), some (.inr (.inr 153)), none, none]) (S' := []) (fun _ _ => rfl) ?_
  obtain ⟨r, hr, h⟩ := bnd h
  have hX : (fun (r : DT) => ∀ (o13 : Option (Sum Int Nat)) (o14 : Option (Sum Int Nat)), EvF mtab d k_X4_touched 89 [some (.inr (.inr 167)), some (.inr (.inr 153)), dv o13, dv o14] [] (SH L0, r) (some (.inl t0.1), (SH L0, t0.2))) r := by
    obtain ⟨D15, hre⟩ : ∃ q, q = r := ⟨r, rfl⟩
    subst hre
    intro o13 o14
    show EvF mtab d k_X4_touched 89 [some (.inr (.inr 167)), some (.inr (.inr 153)), dv o13, dv o14] [] (SH L0, D15) (some (.inl t0.1), (SH L0, t0.2))
    cases h
    exact ev_ret 3 (fun _ _ => rfl)
  clear h
  refine ev_go 2 (pc' := 6) (L' := [some (.inr (.inr 167)), some (.inr (.inr 153)), some (.inl 0), none]) (S' := []) (σ' := (SH L0, D1)) (fun _ _ => rfl) ?_
  refine loop_ind (P := fun s => ∀ (o3 : Option (Sum Int Nat)), EvF mtab d k_X4_touched 6 [some (.inr (.inr 167)), some (.inr (.inr 153)), some (.inl s.1), dv o3] [] (SH L0, s.2) (some (.inl t0.1), (SH L0, t0.2))) (X := fun r => ∀ (o13 : Option (Sum Int Nat)) (o14 : Option (Sum Int Nat)), EvF mtab d k_X4_touched 89 [some (.inr (.inr 167)), some (.inr (.inr 153)), dv o13, dv o14] [] (SH L0, r) (some (.inl t0.1), (SH L0, t0.2))) hr hX ?_ none
  clear hr hX
  intro s t hb hK0
  obtain ⟨l2_2, D4⟩ := s
  intro o3
  show EvF mtab d k_X4_touched 6 [some (.inr (.inr 167)), some (.inr (.inr 153)), some (.inl l2_2), dv o3] [] (SH L0, D4) (some (.inl t0.1), (SH L0, t0.2))
  unfold b_X4_touched_6 at hb
  rcases ite_or hb with ⟨hc, hb⟩ | ⟨hc, hb⟩
  · refine ev_ift hc 5 (pc' := 17) (L' := [some (.inr (.inr 167)), some (.inr (.inr 153)), some (.inl l2_2), dv o3]) (S' := []) (σ' := (SH L0, D4)) (fun _ _ => rfl) ?_
    obtain ⟨x5, hx, hb⟩ := bnd hb
    refine ev_bind hx 7 (pc' := 30) (L' := fun x5 => [some (.inr (.inr 167)), some (.inr (.inr 153)), some (.inl l2_2), dv o3]) (S' := fun x5 => [.inl x5, .inr (.inr 4)]) (σ' := fun x5 => (SH L0, D4)) (fun _ _ => rfl) ?_
    obtain ⟨x6, hx, hb⟩ := bnd hb
    refine ev_call (e_X7_placeInTrace_4 L0 d (by omega) hx) 1 (pc' := 33) (L' := [some (.inr (.inr 167)), some (.inr (.inr 153)), some (.inl l2_2), dv o3]) (S' := []) (fun _ _ => rfl) ?_
    obtain ⟨t7, hv, hb⟩ := bnd hb
    have hJ : EvF mtab d k_X4_touched 42 [some (.inr (.inr 167)), some (.inr (.inr 153)), some (.inl l2_2), dv o3] [.inl t7] (SH L0, D4) (some (.inl t0.1), (SH L0, t0.2)) := by
      obtain ⟨D12, hv, hb⟩ := bnd hb
      have hJ : EvF mtab d k_X4_touched 83 [some (.inr (.inr 167)), some (.inr (.inr 153)), some (.inl l2_2), some (.inl t7)] [] (SH L0, D12) (some (.inl t0.1), (SH L0, t0.2)) := by
        cases hb
        exact ev_go 2 (pc' := 6) (L' := [some (.inr (.inr 167)), some (.inr (.inr 153)), some (.inl (w32 (l2_2 + 1))), some (.inl t7)]) (S' := []) (σ' := (SH L0, D12)) (fun _ _ => rfl) (hK0 (some (.inl t7)))
      clear hb
      rcases ite_or hv with ⟨hc, hv⟩ | ⟨hc, hv⟩
      · refine ev_ift hc 3 (pc' := 83) (L' := [some (.inr (.inr 167)), some (.inr (.inr 153)), some (.inl l2_2), some (.inl t7)]) (S' := []) (σ' := (SH L0, D4)) (fun _ _ => rfl) ?_
        have he0 := Option.some.inj hv
        subst he0
        exact hJ
      · refine ev_iff hc 3 (pc' := 47) (L' := [some (.inr (.inr 167)), some (.inr (.inr 153)), some (.inl l2_2), some (.inl t7)]) (S' := []) (σ' := (SH L0, D4)) (fun _ _ => rfl) ?_
        obtain ⟨x8, hx, hv⟩ := bnd hv
        refine ev_bind hx 5 (pc' := 56) (L' := fun x8 => [some (.inr (.inr 167)), some (.inr (.inr 153)), some (.inl l2_2), some (.inl t7)]) (S' := fun x8 => [.inl x8]) (σ' := fun x8 => (SH L0, D4)) (fun _ _ => rfl) ?_
        rcases ite_or hv with ⟨hc, hv⟩ | ⟨hc, hv⟩
        · refine ev_ift hc 4 (pc' := 77) (L' := [some (.inr (.inr 167)), some (.inr (.inr 153)), some (.inl l2_2), some (.inl t7)]) (S' := []) (σ' := (SH L0, D4)) (fun _ _ => rfl) ?_
          obtain ⟨D9, hx, hv⟩ := bnd hv
          refine ev_call (e_X4_touch_167_153 L0 d (by omega) hx) 4 (pc' := 83) (L' := [some (.inr (.inr 167)), some (.inr (.inr 153)), some (.inl l2_2), some (.inl t7)]) (S' := []) (fun _ _ => rfl) ?_
          have he0 := Option.some.inj hv
          subst he0
          exact hJ
        · refine ev_iff hc 4 (pc' := 66) (L' := [some (.inr (.inr 167)), some (.inr (.inr 153)), some (.inl l2_2), some (.inl t7)]) (S' := []) (σ' := (SH L0, D4)) (fun _ _ => rfl) ?_
          obtain ⟨x10, hx, hv⟩ := bnd hv
          refine ev_call (e_X7_isEntry L0 d (by omega) hx) 4 (pc' := 74) (L' := [some (.inr (.inr 167)), some (.inr (.inr 153)), some (.inl l2_2), some (.inl t7)]) (S' := []) (fun _ _ => rfl) ?_
          rcases ite_or hv with ⟨hc, hv⟩ | ⟨hc, hv⟩
          · refine ev_ift hc 1 (pc' := 83) (L' := [some (.inr (.inr 167)), some (.inr (.inr 153)), some (.inl l2_2), some (.inl t7)]) (S' := []) (σ' := (SH L0, D4)) (fun _ _ => rfl) ?_
            have he0 := Option.some.inj hv
            subst he0
            exact hJ
          · refine ev_iff hc 1 (pc' := 77) (L' := [some (.inr (.inr 167)), some (.inr (.inr 153)), some (.inl l2_2), some (.inl t7)]) (S' := []) (σ' := (SH L0, D4)) (fun _ _ => rfl) ?_
            obtain ⟨D11, hx, hv⟩ := bnd hv
            refine ev_call (e_X4_touch_167_153 L0 d (by omega) hx) 4 (pc' := 83) (L' := [some (.inr (.inr 167)), some (.inr (.inr 153)), some (.inl l2_2), some (.inl t7)]) (S' := []) (fun _ _ => rfl) ?_
            have he0 := Option.some.inj hv
            subst he0
            exact hJ
    clear hb
    rcases ite_or hv with ⟨hc, hv⟩ | ⟨hc, hv⟩
    · refine ev_ift hc 2 (pc' := 41) (L' := [some (.inr (.inr 167)), some (.inr (.inr 153)), some (.inl l2_2), dv o3]) (S' := []) (σ' := (SH L0, D4)) (fun _ _ => rfl) ?_
      have he0 := Option.some.inj hv
      subst he0
      exact ev_go 1 (pc' := 42) (L' := [some (.inr (.inr 167)), some (.inr (.inr 153)), some (.inl l2_2), dv o3]) (S' := [.inl 0]) (σ' := (SH L0, D4)) (fun _ _ => rfl) hJ
    · refine ev_iff hc 2 (pc' := 37) (L' := [some (.inr (.inr 167)), some (.inr (.inr 153)), some (.inl l2_2), dv o3]) (S' := []) (σ' := (SH L0, D4)) (fun _ _ => rfl) ?_
      have he0 := Option.some.inj hv
      subst he0
      exact ev_go 2 (pc' := 42) (L' := [some (.inr (.inr 167)), some (.inr (.inr 153)), some (.inl l2_2), dv o3]) (S' := [.inl 1]) (σ' := (SH L0, D4)) (fun _ _ => rfl) hJ
  · refine ev_iff hc 5 (pc' := 89) (L' := [some (.inr (.inr 167)), some (.inr (.inr 153)), some (.inl l2_2), dv o3]) (S' := []) (σ' := (SH L0, D4)) (fun _ _ => rfl) ?_
    cases hb
    exact hK0 (some (.inl l2_2)) o3
set_option maxRecDepth 100000 in
set_option maxHeartbeats 4000000 in
theorem e_X4_touched_172_153 (L0 d : Nat) (hd : 4 ≤ d) {D : DT} {t0 : (Int × DT)} (h : m_X4_touched 172 D = some t0) : Ret mtab d 60 [.inr (.inr 172), .inr (.inr 153)] (SH L0, D) (some (.inl t0.1), (SH L0, t0.2)) := by
  obtain ⟨d, rfl⟩ : ∃ e, d = e + 1 := ⟨d - 1, by omega⟩
  refine Ret.of (code := k_X4_touched) (ml := 4) rfl ?_
  show EvF mtab d k_X4_touched 0 [some (.inr (.inr 172)), some (.inr (.inr 153)), none, none] [] (SH L0, D) (some (.inl t0.1), (SH L0, t0.2))
  unfold m_X4_touched at h
  obtain ⟨D1, hx, h⟩ := bnd h
  refine ev_call (e_X5_clear L0 d (by omega) hx) 2 (pc' := 4) (L' := [some (.inr (.inr 172)), some (.inr (.inr 153)), none, none]) (S' := []) (fun _ _ => rfl) ?_
  obtain ⟨r, hr, h⟩ := bnd h
  have hX : (fun (r : DT) => ∀ (o13 : Option (Sum Int Nat)) (o14 : Option (Sum Int Nat)), EvF mtab d k_X4_touched 89 [some (.inr (.inr 172)), some (.inr (.inr 153)), dv o13, dv o14] [] (SH L0, r) (some (.inl t0.1), (SH L0, t0.2))) r := by
    obtain ⟨D15, hre⟩ : ∃ q, q = r := ⟨r, rfl⟩
    subst hre
    intro o13 o14
    show EvF mtab d k_X4_touched 89 [some (.inr (.inr 172)), some (.inr (.inr 153)), dv o13, dv o14] [] (SH L0, D15) (some (.inl t0.1), (SH L0, t0.2))
    cases h
    exact ev_ret 3 (fun _ _ => rfl)
  clear h
  refine ev_go 2 (pc' := 6) (L' := [some (.inr (.inr 172)), some (.inr (.inr 153)), some (.inl 0), none]) (S' := []) (σ' := (SH L0, D1)) (fun _ _ => rfl) ?_
  refine loop_ind (P := fun s => ∀ (o3 : Option (Sum Int Nat)), EvF mtab d k_X4_touched 6 [some (.inr (.inr 172)), some (.inr (.inr 153)), some (.inl s.1), dv o3] [] (SH L0, s.2) (some (.inl t0.1), (SH L0, t0.2))) (X := fun r => ∀ (o13 : Option (Sum Int Nat)) (o14 : Option (Sum Int Nat)), EvF mtab d k_X4_touched 89 [some (.inr (.inr 172)), some (.inr (.inr 153)), dv o13, dv o14] [] (SH L0, r) (some (.inl t0.1), (SH L0, t0.2))) hr hX ?_ none
  clear hr hX
  intro s t hb hK0
  obtain ⟨l2_2, D4⟩ := s
  intro o3
  show EvF mtab d k_X4_touched 6 [some (.inr (.inr 172)), some (.inr (.inr 153)), some (.inl l2_2), dv o3] [] (SH L0, D4) (some (.inl t0.1), (SH L0, t0.2))
  unfold b_X4_touched_6 at hb
  rcases ite_or hb with ⟨hc, hb⟩ | ⟨hc, hb⟩
  · refine ev_ift hc 5 (pc' := 17) (L' := [some (.inr (.inr 172)), some (.inr (.inr 153)), some (.inl l2_2), dv o3]) (S' := []) (σ' := (SH L0, D4)) (fun _ _ => rfl) ?_
    obtain ⟨x5, hx, hb⟩ := bnd hb
    refine ev_bind hx 7 (pc' := 30) (L' := fun x5 => [some (.inr (.inr 172)), some (.inr (.inr 153)), some (.inl l2_2), dv o3]) (S' := fun x5 => [.inl x5, .inr (.inr 4)]) (σ' := fun x5 => (SH L0, D4)) (fun _ _ => rfl) ?_
    obtain ⟨x6, hx, hb⟩ := bnd hb
    refine ev_call (e_X7_placeInTrace_4 L0 d (by omega) hx) 1 (pc' := 33) (L' := [some (.inr (.inr 172)), some (.inr (.inr 153)), some (.inl l2_2), dv o3]) (S' := []) (fun _ _ => rfl) ?_
    obtain ⟨t7, hv, hb⟩ := bnd hb
    have hJ : EvF mtab d k_X4_touched 42 [some (.inr (.inr 172)), some (.inr (.inr 153)), some (.inl l2_2), dv o3] [.inl t7] (SH L0, D4) (some (.inl t0.1), (SH L0, t0.2)) := by
      obtain ⟨D12, hv, hb⟩ := bnd hb
      have hJ : EvF mtab d k_X4_touched 83 [some (.inr (.inr 172)), some (.inr (.inr 153)), some (.inl l2_2), some (.inl t7)] [] (SH L0, D12) (some (.inl t0.1), (SH L0, t0.2)) := by
        cases hb
        exact ev_go 2 (pc' := 6) (L' := [some (.inr (.inr 172)), some (.inr (.inr 153)), some (.inl (w32 (l2_2 + 1))), some (.inl t7)]) (S' := []) (σ' := (SH L0, D12)) (fun _ _ => rfl) (hK0 (some (.inl t7)))
      clear hb
      rcases ite_or hv with ⟨hc, hv⟩ | ⟨hc, hv⟩
      · refine ev_ift hc 3 (pc' := 83) (L' := [some (.inr (.inr 172)), some (.inr (.inr 153)), some (.inl l2_2), some (.inl t7)]) (S' := []) (σ' := (SH L0, D4)) (fun _ _ => rfl) ?_
        have he0 := Option.some.inj hv
        subst he0
        exact hJ
      · refine ev_iff hc 3 (pc' := 47) (L' := [some (.inr (.inr 172)), some (.inr (.inr 153)), some (.inl l2_2), some (.inl t7)]) (S' := []) (σ' := (SH L0, D4)) (fun _ _ => rfl) ?_
        obtain ⟨x8, hx, hv⟩ := bnd hv
        refine ev_bind hx 5 (pc' := 56) (L' := fun x8 => [some (.inr (.inr 172)), some (.inr (.inr 153)), some (.inl l2_2), some (.inl t7)]) (S' := fun x8 => [.inl x8]) (σ' := fun x8 => (SH L0, D4)) (fun _ _ => rfl) ?_
        rcases ite_or hv with ⟨hc, hv⟩ | ⟨hc, hv⟩
        · refine ev_ift hc 4 (pc' := 77) (L' := [some (.inr (.inr 172)), some (.inr (.inr 153)), some (.inl l2_2), some (.inl t7)]) (S' := []) (σ' := (SH L0, D4)) (fun _ _ => rfl) ?_
          obtain ⟨D9, hx, hv⟩ := bnd hv
          refine ev_call (e_X4_touch_172_153 L0 d (by omega) hx) 4 (pc' := 83) (L' := [some (.inr (.inr 172)), some (.inr (.inr 153)), some (.inl l2_2), some (.inl t7)]) (S' := []) (fun _ _ => rfl) ?_
          have he0 := Option.some.inj hv
          subst he0
          exact hJ
        · refine ev_iff hc 4 (pc' := 66) (L' := [some (.inr (.inr 172)), some (.inr (.inr 153)), some (.inl l2_2), some (.inl t7)]) (S' := []) (σ' := (SH L0, D4)) (fun _ _ => rfl) ?_
          obtain ⟨x10, hx, hv⟩ := bnd hv
          refine ev_call (e_X7_isEntry L0 d (by omega) hx) 4 (pc' := 74) (L' := [some (.inr (.inr 172)), some (.inr (.inr 153)), some (.inl l2_2), some (.inl t7)]) (S' := []) (fun _ _ => rfl) ?_
          rcases ite_or hv with ⟨hc, hv⟩ | ⟨hc, hv⟩
          · refine ev_ift hc 1 (pc' := 83) (L' := [some (.inr (.inr 172)), some (.inr (.inr 153)), some (.inl l2_2), some (.inl t7)]) (S' := []) (σ' := (SH L0, D4)) (fun _ _ => rfl) ?_
            have he0 := Option.some.inj hv
            subst he0
            exact hJ
          · refine ev_iff hc 1 (pc' := 77) (L' := [some (.inr (.inr 172)), some (.inr (.inr 153)), some (.inl l2_2), some (.inl t7)]) (S' := []) (σ' := (SH L0, D4)) (fun _ _ => rfl) ?_
            obtain ⟨D11, hx, hv⟩ := bnd hv
            refine ev_call (e_X4_touch_172_153 L0 d (by omega) hx) 4 (pc' := 83) (L' := [some (.inr (.inr 172)), some (.inr (.inr 153)), some (.inl l2_2), some (.inl t7)]) (S' := []) (fun _ _ => rfl) ?_
            have he0 := Option.some.inj hv
            subst he0
            exact hJ
    clear hb
    rcases ite_or hv with ⟨hc, hv⟩ | ⟨hc, hv⟩
    · refine ev_ift hc 2 (pc' := 41) (L' := [some (.inr (.inr 172)), some (.inr (.inr 153)), some (.inl l2_2), dv o3]) (S' := []) (σ' := (SH L0, D4)) (fun _ _ => rfl) ?_
      have he0 := Option.some.inj hv
      subst he0
      exact ev_go 1 (pc' := 42) (L' := [some (.inr (.inr 172)), some (.inr (.inr 153)), some (.inl l2_2), dv o3]) (S' := [.inl 0]) (σ' := (SH L0, D4)) (fun _ _ => rfl) hJ
    · refine ev_iff hc 2 (pc' := 37) (L' := [some (.inr (.inr 172)), some (.inr (.inr 153)), some (.inl l2_2), dv o3]) (S' := []) (σ' := (SH L0, D4)) (fun _ _ => rfl) ?_
      have he0 := Option.some.inj hv
      subst he0
      exact ev_go 2 (pc' := 42) (L' := [some (.inr (.inr 172)), some (.inr (.inr 153)), some (.inl l2_2), dv o3]) (S' := [.inl 1]) (σ' := (SH L0, D4)) (fun _ _ => rfl) hJ
  · refine ev_iff hc 5 (pc' := 89) (L' := [some (.inr (.inr 172)), some (.inr (.inr 153)), some (.inl l2_2), dv o3]) (S' := []) (σ' := (SH L0, D4)) (fun _ _ => rfl) ?_
    cases hb
    exact hK0 (some (.inl l2_2)) o3
set_option maxRecDepth 100000 in
set_option maxHeartbeats 4000000 in
theorem e_X4_touched_177_153 (L0 d : Nat) (hd : 4 ≤ d) {D : DT} {t0 : (Int × DT)} (h : m_X4_touched 177 D = some t0) : Ret mtab d 60 [.inr (.inr 177), .inr (.inr 153)] (SH L0, D) (some (.inl t0.1), (SH L0, t0.2)) := by
  obtain ⟨d, rfl⟩ : ∃ e, d = e + 1 := ⟨d - 1, by omega⟩
  refine Ret.of (code := k_X4_touched) (ml := 4) rfl ?_
  show EvF mtab d k_X4_touched 0 [some (.inr (.inr 177)), some (.inr (.inr 153)), none, none] [] (SH L0, D) (some (.inl t0.1), (SH L0, t0.2))
  unfold m_X4_touched at h
  obtain ⟨D1, hx, h⟩ := bnd h
  refine ev_call (e_X5_clear L0 d (by omega) hx) 2 (pc' := 4) (L' := [some (.inr (.inr 177)), some (.inr (.inr 153)), none, none]) (S' := []) (fun _ _ => rfl) ?_
  obtain ⟨r, hr, h⟩ := bnd h
  have hX : (fun (r : DT) => ∀ (o13 : Option (Sum Int Nat)) (o14 : Option (Sum Int Nat)), EvF mtab d k_X4_touched 89 [some (.inr (.inr 177)), some (.inr (.inr 153)), dv o13, dv o14] [] (SH L0, r) (some (.inl t0.1), (SH L0, t0.2))) r := by
    obtain ⟨D15, hre⟩ : ∃ q, q = r := ⟨r, rfl⟩
    subst hre
    intro o13 o14
    show EvF mtab d k_X4_touched 89 [some (.inr (.inr 177)), some (.inr (.inr 153)), dv o13, dv o14] [] (SH L0, D15) (some (.inl t0.1), (SH L0, t0.2))
    cases h
    exact ev_ret 3 (fun _ _ => rfl)
  clear h
  refine ev_go 2 (pc' := 6) (L' := [some (.inr (.inr 177)), some (.inr (.inr 153)), some (.inl 0), none]) (S' := []) (σ' := (SH L0, D1)) (fun _ _ => rfl) ?_
  refine loop_ind (P := fun s => ∀ (o3 : Option (Sum Int Nat)), EvF mtab d k_X4_touched 6 [some (.inr (.inr 177)), some (.inr (.inr 153)), some (.inl s.1), dv o3] [] (SH L0, s.2) (some (.inl t0.1), (SH L0, t0.2))) (X := fun r => ∀ (o13 : Option (Sum Int Nat)) (o14 : Option (Sum Int Nat)), EvF mtab d k_X4_touched 89 [some (.inr (.inr 177)), some (.inr (.inr 153)), dv o13, dv o14] [] (SH L0, r) (some (.inl t0.1), (SH L0, t0.2))) hr hX ?_ none
  clear hr hX
  intro s t hb hK0
  obtain ⟨l2_2, D4⟩ := s
  intro o3
  show EvF mtab d k_X4_touched 6 [some (.inr (.inr 177)), some (.inr (.inr 153)), some (.inl l2_2), dv o3] [] (SH L0, D4) (some (.inl t0.1), (SH L0, t0.2))
  unfold b_X4_touched_6 at hb
  rcases ite_or hb with ⟨hc, hb⟩ | ⟨hc, hb⟩
  · refine ev_ift hc 5 (pc' := 17) (L' := [some (.inr (.inr 177)), some (.inr (.inr 153)), some (.inl l2_2), dv o3]) (S' := []) (σ' := (SH L0, D4)) (fun _ _ => rfl) ?_
    obtain ⟨x5, hx, hb⟩ := bnd hb
    refine ev_bind hx 7 (pc' := 30) (L' := fun x5 => [some (.inr (.inr 177)), some (.inr (.inr 153)), some (.inl l2_2), dv o3]) (S' := fun x5 => [.inl x5, .inr (.inr 4)]) (σ' := fun x5 => (SH L0, D4)) (fun _ _ => rfl) ?_
    obtain ⟨x6, hx, hb⟩ := bnd hb
    refine ev_call (e_X7_placeInTrace_4 L0 d (by omega) hx) 1 (pc' := 33) (L' := [some (.inr (.inr 177)), some (.inr (.inr 153)), some (.inl l2_2), dv o3]) (S' := []) (fun _ _ => rfl) ?_
    obtain ⟨t7, hv, hb⟩ := bnd hb
    have hJ : EvF mtab d k_X4_touched 42 [some (.inr (.inr 177)), some (.inr (.inr 153)), some (.inl l2_2), dv o3] [.inl t7] (SH L0, D4) (some (.inl t0.1), (SH L0, t0.2)) := by
      obtain ⟨D12, hv, hb⟩ := bnd hb
      have hJ : EvF mtab d k_X4_touched 83 [some (.inr (.inr 177)), some (.inr (.inr 153)), some (.inl l2_2), some (.inl t7)] [] (SH L0, D12) (some (.inl t0.1), (SH L0, t0.2)) := by
        cases hb
        exact ev_go 2 (pc' := 6) (L' := [some (.inr (.inr 177)), some (.inr (.inr 153)), some (.inl (w32 (l2_2 + 1))), some (.inl t7)]) (S' := []) (σ' := (SH L0, D12)) (fun _ _ => rfl) (hK0 (some (.inl t7)))
      clear hb
      rcases ite_or hv with ⟨hc, hv⟩ | ⟨hc, hv⟩
      · refine ev_ift hc 3 (pc' := 83) (L' := [some (.inr (.inr 177)), some (.inr (.inr 153)), some (.inl l2_2), some (.inl t7)]) (S' := []) (σ' := (SH L0, D4)) (fun _ _ => rfl) ?_
        have he0 := Option.some.inj hv
        subst he0
        exact hJ
      · refine ev_iff hc 3 (pc' := 47) (L' := [some (.inr (.inr 177)), some (.inr (.inr 153)), some (.inl l2_2), some (.inl t7)]) (S' := []) (σ' := (SH L0, D4)) (fun _ _ => rfl) ?_
        obtain ⟨x8, hx, hv⟩ := bnd hv
        refine ev_bind hx 5 (pc' := 56) (L' := fun x8 => [some (.inr (.inr 177)), some (.inr (.inr 153)), some (.inl l2_2), some (.inl t7)]) (S' := fun x8 => [.inl x8]) (σ' := fun x8 => (SH L0, D4)) (fun _ _ => rfl) ?_
        rcases ite_or hv with ⟨hc, hv⟩ | ⟨hc, hv⟩
        · refine ev_ift hc 4 (pc' := 77) (L' := [some (.inr (.inr 177)), some (.inr (.inr 153)), some (.inl l2_2), some (.inl t7)]) (S' := []) (σ' := (SH L0, D4)) (fun _ _ => rfl) ?_
          obtain ⟨D9, hx, hv⟩ := bnd hv
          refine ev_call (e_X4_touch_177_153 L0 d (by omega) hx) 4 (pc' := 83) (L' := [some (.inr (.inr 177)), some (.inr (.inr 153)), some (.inl l2_2), some (.inl t7)]) (S' := []) (fun _ _ => rfl) ?_
          have he0 := Option.some.inj hv
          subst he0
          exact hJ
        · refine ev_iff hc 4 (pc' := 66) (L' := [some (.inr (.inr 177)), some (.inr (.inr 153)), some (.inl l2_2), some (.inl t7)]) (S' := []) (σ' := (SH L0, D4)) (fun _ _ => rfl) ?_
          obtain ⟨x10, hx, hv⟩ := bnd hv
          refine ev_call (e_X7_isEntry L0 d (by omega) hx) 4 (pc' := 74) (L' := [some (.inr (.inr 177)), some (.inr (.inr 153)), some (.inl l2_2), some (.inl t7)]) (S' := []) (fun _ _ => rfl) ?_
          rcases ite_or hv with ⟨hc, hv⟩ | ⟨hc, hv⟩
          · refine ev_ift hc 1 (pc' := 83) (L' := [some (.inr (.inr 177)), some (.inr (.inr 153)), some (.inl l2_2), some (.inl t7)]) (S' := []) (σ' := (SH L0, D4)) (fun _ _ => rfl) ?_
            have he0 := Option.some.inj hv
            subst he0
            exact hJ
          · refine ev_iff hc 1 (pc' := 77) (L' := [some (.inr (.inr 177)), some (.inr (.inr 153)), some (.inl l2_2), some (.inl t7)]) (S' := []) (σ' := (SH L0, D4)) (fun _ _ => rfl) ?_
            obtain ⟨D11, hx, hv⟩ := bnd hv
            refine ev_call (e_X4_touch_177_153 L0 d (by omega) hx) 4 (pc' := 83) (L' := [some (.inr (.inr 177)), some (.inr (.inr 153)), some (.inl l2_2), some (.inl t7)]) (S' := []) (fun _ _ => rfl) ?_
            have he0 := Option.some.inj hv
            subst he0
            exact hJ
    clear hb
    rcases ite_or hv with ⟨hc, hv⟩ | ⟨hc, hv⟩
    · refine ev_ift hc 2 (pc' := 41) (L' := [some (.inr (.inr 177)), some (.inr (.inr 153)), some (.inl l2_2), dv o3]) (S' := []) (σ' := (SH L0, D4)) (fun _ _ => rfl) ?_
      have he0 := Option.some.inj hv
      subst he0
      exact ev_go 1 (pc' := 42) (L' := [some (.inr (.inr 177)), some (.inr (.inr 153)), some (.inl l2_2), dv o3]) (S' := [.inl 0]) (σ' := (SH L0, D4)) (fun _ _ => rfl) hJ
    · refine ev_iff hc 2 (pc' := 37) (L' := [some (.inr (.inr 177)), some (.inr (.inr 153)), some (.inl l2_2), dv o3]) (S' := []) (σ' := (SH L0, D4)) (fun _ _ => rfl) ?_
      have he0 := Option.some.inj hv
      subst he0
      exact ev_go 2 (pc' := 42) (L' := [some (.inr (.inr 177)), some (.inr (.inr 153)), some (.inl l2_2), dv o3]) (S' := [.inl 1]) (σ' := (SH L0, D4)) (fun _ _ => rfl) hJ
  · refine ev_iff hc 5 (pc' := 89) (L' := [some (.inr (.inr 177)), some (.inr (.inr 153)), some (.inl l2_2), dv o3]) (S' := []) (σ' := (SH L0, D4)) (fun _ _ => rfl) ?_
    cases hb
    exact hK0 (some (.inl l2_2)) o3
set_option maxRecDepth 100000 in
set_option maxHeartbeats 4000000 in
theorem e_X4_touched_182_153 (L0 d : Nat) (hd : 4 ≤ d) {D : DT} {t0 : (Int × DT)} (h : m_X4_touched 182 D = some t0) : Ret mtab d 60 [.inr (.inr 182), .inr (.inr 153)] (SH L0, D) (some (.inl t0.1), (SH L0, t0.2)) := by
  obtain ⟨d, rfl⟩ : ∃ e, d = e + 1 := ⟨d - 1, by omega⟩
  refine Ret.of (code := k_X4_touched) (ml := 4) rfl ?_
  show EvF mtab d k_X4_touched 0 [some (.inr (.inr 182)), some (.inr (.inr 153)), none, none] [] (SH L0, D) (some (.inl t0.1), (SH L0, t0.2))
  unfold m_X4_touched at h
  obtain ⟨D1, hx, h⟩ := bnd h
  refine ev_call (e_X5_clear L0 d (by omega) hx) 2 (pc' := 4) (L' := [some (.inr (.inr 182)), some (.inr (.inr 153)), none, none]) (S' := []) (fun _ _ => rfl) ?_
  obtain ⟨r, hr, h⟩ := bnd h
  have hX : (fun (r : DT) => ∀ (o13 : Option (Sum Int Nat)) (o14 : Option (Sum Int Nat)), EvF mtab d k_X4_touched 89 [some (.inr (.inr 182)), some (.inr (.inr 153)), dv o13, dv o14] [] (SH L0, r) (some (.inl t0.1), (SH L0, t0.2))) r := by
    obtain ⟨D15, hre⟩ : ∃ q, q = r := ⟨r, rfl⟩
    subst hre
    intro o13 o14
    show EvF mtab d k_X4_touched 89 [some (.inr (.inr 182)), some (.inr (.inr 153)), dv o13, dv o14] [] (SH L0, D15) (some (.inl t0.1), (SH L0, t0.2))
    cases h
    exact ev_ret 3 (fun _ _ => rfl)
  clear h
  refine ev_go 2 (pc' := 6) (L' := [some (.inr (.inr 182)), some (.inr (.inr 153)), some (.inl 0), none]) (S' := []) (σ' := (SH L0, D1)) (fun _ _ => rfl) ?_
  refine loop_ind (P := fun s => ∀ (o3 : Option (Sum Int Nat)), EvF mtab d k_X4_touched 6 [some (.inr (.inr 182)), some (.inr (.inr 153)), some (.inl s.1), dv o3] [] (SH L0, s.2) (some (.inl t0.1), (SH L0, t0.2))) (X := fun r => ∀ (o13 : Option (Sum Int Nat)) (o14 : Option (Sum Int Nat)), EvF mtab d k_X4_touched 89 [some (.inr (.inr 182)), some (.inr (.inr 153)), dv o13, dv o14] [] (SH L0, r) (some (.inl t0.1), (SH L0, t0.2))) hr hX ?_ none
  clear hr hX
  intro s t hb hK0
  obtain ⟨l2_2, D4⟩ := s
  intro o3
  show EvF mtab d k_X4_touched 6 [some (.inr (.inr 182)), some (.inr (.inr 153)), some (.inl l2_2), dv o3] [] (SH L0, D4) (some (.inl t0.1), (SH L0, t0.2))
  unfold b_X4_touched_6 at hb
  rcases ite_or hb with ⟨hc, hb⟩ | ⟨hc, hb⟩
  · refine ev_ift hc 5 (pc' := 17) (L' := [some (.inr (.inr 182)), some (.inr (.inr 153)), some (.inl l2_2), dv o3]) (S' := []) (σ' := (SH L0, D4)) (fun _ _ => rfl) ?_
    obtain ⟨x5, hx, hb⟩ := bnd hb
    refine ev_bind hx 7 (pc' := 30) (L' := fun x5 => [some (.inr (.inr 182)), some (.inr (.inr 153)), some (.inl l2_2), dv o3]) (S' := fun x5 => [.inl x5, .inr (.inr 4)]) (σ' := fun x5 => (SH L0, D4)) (fun _ _ => rfl) ?_
    obtain ⟨x6, hx, hb⟩ := bnd hb
    refine ev_call (e_X7_placeInTrace_4 L0 d (by omega) hx) 1 (pc' := 33) (L' := [some (.inr (.inr 182)), some (.inr (.inr 153)), some (.inl l2_2), dv o3]) (S' := []) (fun _ _ => rfl) ?_
    obtain ⟨t7, hv, hb⟩ := bnd hb
    have hJ : EvF mtab d k_X4_touched 42 [some (.inr (.inr 182)), some (.inr (.inr 153)), some (.inl l2_2), dv o3] [.inl t7] (SH L0, D4) (some (.inl t0.1), (SH L0, t0.2)) := by
      obtain ⟨D12, hv, hb⟩ := bnd hb
      have hJ : EvF mtab d k_X4_touched 83 [some (.inr (.inr 182)), some (.inr (.inr 153)), some (.inl l2_2), some (.inl t7)] [] (SH L0, D12) (some (.inl t0.1), (SH L0, t0.2)) := by
        cases hb
        exact ev_go 2 (pc' := 6) (L' := [some (.inr (.inr 182)), some (.inr (.inr 153)), some (.inl (w32 (l2_2 + 1))), some (.inl t7)]) (S' := []) (σ' := (SH L0, D12)) (fun _ _ => rfl) (hK0 (some (.inl t7)))
      clear hb
      rcases ite_or hv with ⟨hc, hv⟩ | ⟨hc, hv⟩
      · refine ev_ift hc 3 (pc' := 83) (L' := [some (.inr (.inr 182)), some (.inr (.inr 153)), some (.inl l2_2), some (.inl t7)]) (S' := []) (σ' := (SH L0, D4)) (fun _ _ => rfl) ?_
        have he0 := Option.some.inj hv
        subst he0
        exact hJ
      · refine ev_iff hc 3 (pc' := 47) (L' := [some (.inr (.inr 182)), some (.inr (.inr 153)), some (.inl l2_2), some (.inl t7)]) (S' := []) (σ' := (SH L0, D4)) (fun _ _ => rfl) ?_
        obtain ⟨x8, hx, hv⟩ := bnd hv
        refine ev_bind hx 5 (pc' := 56) (L' := fun x8 => [some (.inr (.inr 182)), some (.inr (.inr 153)), some (.inl l2_2), some (.inl t7)]) (S' := fun x8 => [.inl x8]) (σ' := fun x8 => (SH L0, D4)) (fun _ _ => rfl) ?_
        rcases ite_or hv with ⟨hc, hv⟩ | ⟨hc, hv⟩
        · refine ev_ift hc 4 (pc' := 77) (L' := [some (.inr (.inr 182)), some (.inr (.inr 153)), some (.inl l2_2), some (.inl t7)]) (S' := []) (σ' := (SH L0, D4)) (fun _ _ => rfl) ?_
          obtain ⟨D9, hx, hv⟩ := bnd hv
          refine ev_call (e_X4_touch_182_153 L0 d (by omega) hx) 4 (pc' := 83) (L' := [some (.inr (.inr 182)), some (.inr (.inr 153)), some (.inl l2_2), some (.inl t7)]) (S' := []) (fun _ _ => rfl) ?_
          have he0 := Option.some.inj hv
          subst he0
          exact hJ
        · refine ev_iff hc 4 (pc' := 66) (L' := [some (.inr (.inr 182)), some (.inr (.inr 153)), some (.inl l2_2), some (.inl t7)]) (S' := []) (σ' := (SH L0, D4)) (fun _ _ => rfl) ?_
          obtain ⟨x10, hx, hv⟩ := bnd hv
          refine ev_call (e_X7_isEntry L0 d (by omega) hx) 4 (pc' := 74) (L' := [some (.inr (.inr 182)), some (.inr (.inr 153)), some (.inl l2_2), some (.inl t7)]) (S' := []) (fun _ _ => rfl) ?_
          rcases ite_or hv with ⟨hc, hv⟩ | ⟨hc, hv⟩
          · refine ev_ift hc 1 (pc' := 83) (L' := [some (.inr (.inr 182)), some (.inr (.inr 153)), some (.inl l2_2), some (.inl t7)]) (S' := []) (σ' := (SH L0, D4)) (fun _ _ => rfl) ?_
            have he0 := Option.some.inj hv
            subst he0
            exact hJ
          · refine ev_iff hc 1 (pc' := 77) (L' := [some (.inr (.inr 182)), some (.inr (.inr 153)), some (.inl l2_2), some (.inl t7)]) (S' := []) (σ' := (SH L0, D4)) (fun _ _ => rfl) ?_
            obtain ⟨D11, hx, hv⟩ := bnd hv
            refine ev_call (e_X4_touch_182_153 L0 d (by omega) hx) 4 (pc' := 83) (L' := [some (.inr (.inr 182)), some (.inr (.inr 153)), some (.inl l2_2), some (.inl t7)]) (S' := []) (fun _ _ => rfl) ?_
            have he0 := Option.some.inj hv
            subst he0
            exact hJ
    clear hb
    rcases ite_or hv with ⟨hc, hv⟩ | ⟨hc, hv⟩
    · refine ev_ift hc 2 (pc' := 41) (L' := [some (.inr (.inr 182)), some (.inr (.inr 153)), some (.inl l2_2), dv o3]) (S' := []) (σ' := (SH L0, D4)) (fun _ _ => rfl) ?_
      have he0 := Option.some.inj hv
      subst he0
      exact ev_go 1 (pc' := 42) (L' := [some (.inr (.inr 182)), some (.inr (.inr 153)), some (.inl l2_2), dv o3]) (S' := [.inl 0]) (σ' := (SH L0, D4)) (fun _ _ => rfl) hJ
    · refine ev_iff hc 2 (pc' := 37) (L' := [some (.inr (.inr 182)), some (.inr (.inr 153)), some (.inl l2_2), dv o3]) (S' := []) (σ' := (SH L0, D4)) (fun _ _ => rfl) ?_
      have he0 := Option.some.inj hv
      subst he0
      exact ev_go 2 (pc' := 42) (L' := [some (.inr (.inr 182)), some (.inr (.inr 153)), some (.inl l2_2), dv o3]) (S' := [.inl 1]) (σ' := (SH L0, D4)) (fun _ _ => rfl) hJ
  · refine ev_iff hc 5 (pc' := 89) (L' := [some (.inr (.inr 182)), some (.inr (.inr 153)), some (.inl l2_2), dv o3]) (S' := []) (σ' := (SH L0, D4)) (fun _ _ => rfl) ?_
    cases hb
    exact hK0 (some (.inl l2_2)) o3
set_option maxRecDepth 100000 in
set_option maxHeartbeats 4000000 in
theorem e_X6_leaveOut (L0 d : Nat) (hd : 4 ≤ d) {p1 : Int} {D : DT} {t0 : DT} (h : m_X6_leaveOut p1 D = some t0) : Ret mtab d 66 [.inr (.inr 159), .inl p1] (SH L0, D) (none, (SH L0, t0)) := by
  obtain ⟨d, rfl⟩ : ∃ e, d = e + 1 := ⟨d - 1, by omega⟩
  refine Ret.of (code := k_X6_leaveOut) (ml := 3) rfl ?_
  show EvF mtab d k_X6_leaveOut 0 [some (.inr (.inr 159)), some (.inl p1), none] [] (SH L0, D) (none, (SH L0, t0))
  unfold m_X6_leaveOut at h
  obtain ⟨x1, hx, h⟩ := bnd h
  refine ev_call (e_X2_allWorth L0 d (by omega) hx) 7 (pc' := 13) (L' := [some (.inr (.inr 159)), some (.inl p1), none]) (S' := [.inr (.inr 159)]) (fun _ _ => rfl) ?_
  obtain ⟨r, hr, h⟩ := bnd h
  have hX : (fun (r : DT) => ∀ (o8 : Option (Sum Int Nat)), EvF mtab d k_X6_leaveOut 76 [some (.inr (.inr 159)), some (.inl p1), dv o8] [] (SH L0, r) (none, (SH L0, t0))) r := by
    obtain ⟨D9, hre⟩ : ∃ q, q = r := ⟨r, rfl⟩
    subst hre
    intro o8
    show EvF mtab d k_X6_leaveOut 76 [some (.inr (.inr 159)), some (.inl p1), dv o8] [] (SH L0, D9) (none, (SH L0, t0))
    obtain ⟨r, hr, h⟩ := bnd h
    have hX : (fun (r : DT) => ∀ (o15 : Option (Sum Int Nat)), EvF mtab d k_X6_leaveOut 122 [some (.inr (.inr 159)), some (.inl p1), dv o15] [] (SH L0, r) (none, (SH L0, t0))) r := by
      obtain ⟨D16, hre⟩ : ∃ q, q = r := ⟨r, rfl⟩
      subst hre
      intro o15
      show EvF mtab d k_X6_leaveOut 122 [some (.inr (.inr 159)), some (.inl p1), dv o15] [] (SH L0, D16) (none, (SH L0, t0))
      cases h
      exact ev_ret 1 (fun _ _ => rfl)
    clear h
    refine ev_go 2 (pc' := 78) (L' := [some (.inr (.inr 159)), some (.inl p1), some (.inl 1)]) (S' := []) (σ' := (SH L0, D9)) (fun _ _ => rfl) ?_
    refine loop_ind (P := fun s => EvF mtab d k_X6_leaveOut 78 [some (.inr (.inr 159)), some (.inl p1), some (.inl s.1)] [] (SH L0, s.2) (none, (SH L0, t0))) (X := fun r => ∀ (o15 : Option (Sum Int Nat)), EvF mtab d k_X6_leaveOut 122 [some (.inr (.inr 159)), some (.inl p1), dv o15] [] (SH L0, r) (none, (SH L0, t0))) hr hX ?_
    clear hr hX
    intro s t hb hK0
    obtain ⟨l2_10, D11⟩ := s
    show EvF mtab d k_X6_leaveOut 78 [some (.inr (.inr 159)), some (.inl p1), some (.inl l2_10)] [] (SH L0, D11) (none, (SH L0, t0))
    unfold b_X6_leaveOut_78 at hb
    rcases ite_or hb with ⟨hc, hb⟩ | ⟨hc, hb⟩
    · refine ev_ift hc 4 (pc' := 86) (L' := [some (.inr (.inr 159)), some (.inl p1), some (.inl l2_10)]) (S' := []) (σ' := (SH L0, D11)) (fun _ _ => rfl) ?_
      obtain ⟨x12, hx, hb⟩ := bnd hb
      refine ev_bind hx 11 (pc' := 103) (L' := fun x12 => [some (.inr (.inr 159)), some (.inl p1), some (.inl l2_10)]) (S' := fun x12 => [.inl x12, .inr (.inr 122), .inl (D11 159 7), .inr (.inr 159)]) (σ' := fun x12 => (SH L0, D11)) (fun _ _ => rfl) ?_
      obtain ⟨x13, hx, hb⟩ := bnd hb
      refine ev_bind hx 4 (pc' := 109) (L' := fun x13 => [some (.inr (.inr 159)), some (.inl p1), some (.inl l2_10)]) (S' := fun x13 => [.inl x13, .inl x12, .inr (.inr 122), .inl (D11 159 7), .inr (.inr 159)]) (σ' := fun x13 => (SH L0, D11)) (fun _ _ => rfl) ?_
      obtain ⟨x14, hx, hb⟩ := bnd hb
      refine ev_call (e_X2_saved L0 d (by omega) hx) 1 (pc' := 112) (L' := [some (.inr (.inr 159)), some (.inl p1), some (.inl l2_10)]) (S' := [.inl (D11 159 7), .inr (.inr 159)]) (fun _ _ => rfl) ?_
      cases hb
      exact ev_go 4 (pc' := 78) (L' := [some (.inr (.inr 159)), some (.inl p1), some (.inl (w32 (l2_10 + 1)))]) (S' := []) (σ' := (SH L0, dput D11 159 7 (w32 ((D11 159 7) - x14)))) (fun _ _ => rfl) hK0
    · refine ev_iff hc 4 (pc' := 122) (L' := [some (.inr (.inr 159)), some (.inl p1), some (.inl l2_10)]) (S' := []) (σ' := (SH L0, D11)) (fun _ _ => rfl) ?_
      cases hb
      exact hK0 (some (.inl l2_10))
  clear h
  refine ev_go 3 (pc' := 18) (L' := [some (.inr (.inr 159)), some (.inl p1), some (.inl 0)]) (S' := []) (σ' := (SH L0, dput (dput D 159 6 0) 159 7 x1)) (fun _ _ => rfl) ?_
  refine loop_ind (P := fun s => EvF mtab d k_X6_leaveOut 18 [some (.inr (.inr 159)), some (.inl p1), some (.inl s.1)] [] (SH L0, s.2) (none, (SH L0, t0))) (X := fun r => ∀ (o8 : Option (Sum Int Nat)), EvF mtab d k_X6_leaveOut 76 [some (.inr (.inr 159)), some (.inl p1), dv o8] [] (SH L0, r) (none, (SH L0, t0))) hr hX ?_
  clear hr hX
  intro s t hb hK0
  obtain ⟨l2_2, D3⟩ := s
  show EvF mtab d k_X6_leaveOut 18 [some (.inr (.inr 159)), some (.inl p1), some (.inl l2_2)] [] (SH L0, D3) (none, (SH L0, t0))
  unfold b_X6_leaveOut_18 at hb
  rcases ite_or hb with ⟨hc, hb⟩ | ⟨hc, hb⟩
  · refine ev_ift hc 5 (pc' := 29) (L' := [some (.inr (.inr 159)), some (.inl p1), some (.inl l2_2)]) (S' := []) (σ' := (SH L0, D3)) (fun _ _ => rfl) ?_
    obtain ⟨x4, hx, hb⟩ := bnd hb
    refine ev_bind hx 5 (pc' := 38) (L' := fun x4 => [some (.inr (.inr 159)), some (.inl p1), some (.inl l2_2)]) (S' := fun x4 => [.inl x4]) (σ' := fun x4 => (SH L0, D3)) (fun _ _ => rfl) ?_
    obtain ⟨D7, hv, hb⟩ := bnd hb
    have hJ : EvF mtab d k_X6_leaveOut 70 [some (.inr (.inr 159)), some (.inl p1), some (.inl l2_2)] [] (SH L0, D7) (none, (SH L0, t0)) := by
      cases hb
      exact ev_go 2 (pc' := 18) (L' := [some (.inr (.inr 159)), some (.inl p1), some (.inl (w32 (l2_2 + 1)))]) (S' := []) (σ' := (SH L0, D7)) (fun _ _ => rfl) hK0
    clear hb
    rcases ite_or hv with ⟨hc, hv⟩ | ⟨hc, hv⟩
    · refine ev_ift hc 2 (pc' := 70) (L' := [some (.inr (.inr 159)), some (.inl p1), some (.inl l2_2)]) (S' := []) (σ' := (SH L0, D3)) (fun _ _ => rfl) ?_
      have he0 := Option.some.inj hv
      subst he0
      exact hJ
    · refine ev_iff hc 2 (pc' := 42) (L' := [some (.inr (.inr 159)), some (.inl p1), some (.inl l2_2)]) (S' := []) (σ' := (SH L0, D3)) (fun _ _ => rfl) ?_
      obtain ⟨x5, hx, hv⟩ := bnd hv
      refine ev_bind hx 9 (pc' := 59) (L' := fun x5 => [some (.inr (.inr 159)), some (.inl p1), some (.inl l2_2)]) (S' := fun x5 => [.inl x5, .inl (D3 159 6), .inr (.inr 160)]) (σ' := fun x5 => (SH L0, D3)) (fun _ _ => rfl) ?_
      obtain ⟨D6, hx, hv⟩ := bnd hv
      refine ev_bind hx 1 (pc' := 60) (L' := fun D6 => [some (.inr (.inr 159)), some (.inl p1), some (.inl l2_2)]) (S' := fun D6 => []) (σ' := fun D6 => (SH L0, D6)) (fun _ _ => rfl) ?_
      have he0 := Option.some.inj hv
      subst he0
      exact ev_go 6 (pc' := 70) (L' := [some (.inr (.inr 159)), some (.inl p1), some (.inl l2_2)]) (S' := []) (σ' := (SH L0, dput D6 159 6 (w32 ((D6 159 6) + 1)))) (fun _ _ => rfl) hJ
  · refine ev_iff hc 5 (pc' := 76) (L' := [some (.inr (.inr 159)), some (.inl p1), some (.inl l2_2)]) (S' := []) (σ' := (SH L0, D3)) (fun _ _ => rfl) ?_
    cases hb
    exact hK0 (some (.inl l2_2))
set_option maxRecDepth 100000 in
set_option maxHeartbeats 4000000 in
theorem e_X6_jumpsAt (L0 d : Nat) (hd : 3 ≤ d) {p1 p2 : Int} {D : DT} {t0 : Int} (h : m_X6_jumpsAt p1 p2 D = some t0) : Ret mtab d 67 [.inr (.inr 159), .inl p1, .inl p2] (SH L0, D) (some (.inl t0), (SH L0, D)) := by
  obtain ⟨d, rfl⟩ : ∃ e, d = e + 1 := ⟨d - 1, by omega⟩
  refine Ret.of (code := k_X6_jumpsAt) (ml := 6) rfl ?_
  show EvF mtab d k_X6_jumpsAt 0 [some (.inr (.inr 159)), some (.inl p1), some (.inl p2), none, none, none] [] (SH L0, D) (some (.inl t0), (SH L0, D))
  unfold m_X6_jumpsAt at h
  obtain ⟨t1, hv, h⟩ := bnd h
  have hJ : EvF mtab d k_X6_jumpsAt 22 [some (.inr (.inr 159)), some (.inl p1), some (.inl p2), some (.inl (D 159 7)), none, none] [.inl t1] (SH L0, D) (some (.inl t0), (SH L0, D)) := by
    obtain ⟨t2, hv, h⟩ := bnd h
    have hJ : EvF mtab d k_X6_jumpsAt 41 [some (.inr (.inr 159)), some (.inl p1), some (.inl p2), some (.inl (D 159 7)), some (.inl t1), none] [.inl t2] (SH L0, D) (some (.inl t0), (SH L0, D)) := by
      obtain ⟨l3_5, hv, h⟩ := bnd h
      have hJ : EvF mtab d k_X6_jumpsAt 67 [some (.inr (.inr 159)), some (.inl p1), some (.inl p2), some (.inl l3_5), some (.inl t1), some (.inl t2)] [] (SH L0, D) (some (.inl t0), (SH L0, D)) := by
        obtain ⟨l3_8, hv, h⟩ := bnd h
        have hJ : EvF mtab d k_X6_jumpsAt 89 [some (.inr (.inr 159)), some (.inl p1), some (.inl p2), some (.inl l3_8), some (.inl t1), some (.inl t2)] [] (SH L0, D) (some (.inl t0), (SH L0, D)) := by
          obtain ⟨l3_12, hv, h⟩ := bnd h
          have hJ : EvF mtab d k_X6_jumpsAt 123 [some (.inr (.inr 159)), some (.inl p1), some (.inl p2), some (.inl l3_12), some (.inl t1), some (.inl t2)] [] (SH L0, D) (some (.inl t0), (SH L0, D)) := by
            cases h
            exact ev_ret 2 (fun _ _ => rfl)
          clear h
          rcases ite_or hv with ⟨hc, hv⟩ | ⟨hc, hv⟩
          · refine ev_ift hc 2 (pc' := 123) (L' := [some (.inr (.inr 159)), some (.inl p1), some (.inl p2), some (.inl l3_8), some (.inl t1), some (.inl t2)]) (S' := []) (σ' := (SH L0, D)) (fun _ _ => rfl) ?_
            have he0 := Option.some.inj hv
            subst he0
            exact hJ
          · refine ev_iff hc 2 (pc' := 94) (L' := [some (.inr (.inr 159)), some (.inl p1), some (.inl p2), some (.inl l3_8), some (.inl t1), some (.inl t2)]) (S' := []) (σ' := (SH L0, D)) (fun _ _ => rfl) ?_
            rcases ite_or hv with ⟨hc, hv⟩ | ⟨hc, hv⟩
            · refine ev_ift hc 2 (pc' := 123) (L' := [some (.inr (.inr 159)), some (.inl p1), some (.inl p2), some (.inl l3_8), some (.inl t1), some (.inl t2)]) (S' := []) (σ' := (SH L0, D)) (fun _ _ => rfl) ?_
              have he0 := Option.some.inj hv
              subst he0
              exact hJ
            · refine ev_iff hc 2 (pc' := 99) (L' := [some (.inr (.inr 159)), some (.inl p1), some (.inl p2), some (.inl l3_8), some (.inl t1), some (.inl t2)]) (S' := []) (σ' := (SH L0, D)) (fun _ _ => rfl) ?_
              obtain ⟨x9, hx, hv⟩ := bnd hv
              refine ev_bind hx 9 (pc' := 112) (L' := fun x9 => [some (.inr (.inr 159)), some (.inl p1), some (.inl p2), some (.inl l3_8), some (.inl t1), some (.inl t2)]) (S' := fun x9 => [.inl x9, .inr (.inr 122), .inl l3_8]) (σ' := fun x9 => (SH L0, D)) (fun _ _ => rfl) ?_
              obtain ⟨x10, hx, hv⟩ := bnd hv
              refine ev_bind hx 4 (pc' := 118) (L' := fun x10 => [some (.inr (.inr 159)), some (.inl p1), some (.inl p2), some (.inl l3_8), some (.inl t1), some (.inl t2)]) (S' := fun x10 => [.inl x10, .inl x9, .inr (.inr 122), .inl l3_8]) (σ' := fun x10 => (SH L0, D)) (fun _ _ => rfl) ?_
              obtain ⟨x11, hx, hv⟩ := bnd hv
              refine ev_call (e_X2_saved L0 d (by omega) hx) 1 (pc' := 121) (L' := [some (.inr (.inr 159)), some (.inl p1), some (.inl p2), some (.inl l3_8), some (.inl t1), some (.inl t2)]) (S' := [.inl l3_8]) (fun _ _ => rfl) ?_
              have he0 := Option.some.inj hv
              subst he0
              exact ev_go 2 (pc' := 123) (L' := [some (.inr (.inr 159)), some (.inl p1), some (.inl p2), some (.inl (w32 (l3_8 + x11))), some (.inl t1), some (.inl t2)]) (S' := []) (σ' := (SH L0, D)) (fun _ _ => rfl) hJ
        clear h
        rcases ite_or hv with ⟨hc, hv⟩ | ⟨hc, hv⟩
        · refine ev_ift hc 2 (pc' := 89) (L' := [some (.inr (.inr 159)), some (.inl p1), some (.inl p2), some (.inl l3_5), some (.inl t1), some (.inl t2)]) (S' := []) (σ' := (SH L0, D)) (fun _ _ => rfl) ?_
          have he0 := Option.some.inj hv
          subst he0
          exact hJ
        · refine ev_iff hc 2 (pc' := 72) (L' := [some (.inr (.inr 159)), some (.inl p1), some (.inl p2), some (.inl l3_5), some (.inl t1), some (.inl t2)]) (S' := []) (σ' := (SH L0, D)) (fun _ _ => rfl) ?_
          obtain ⟨x6, hx, hv⟩ := bnd hv
          refine ev_bind hx 8 (pc' := 84) (L' := fun x6 => [some (.inr (.inr 159)), some (.inl p1), some (.inl p2), some (.inl l3_5), some (.inl t1), some (.inl t2)]) (S' := fun x6 => [.inl x6, .inl p1, .inr (.inr 122), .inl l3_5]) (σ' := fun x6 => (SH L0, D)) (fun _ _ => rfl) ?_
          obtain ⟨x7, hx, hv⟩ := bnd hv
          refine ev_call (e_X2_saved L0 d (by omega) hx) 1 (pc' := 87) (L' := [some (.inr (.inr 159)), some (.inl p1), some (.inl p2), some (.inl l3_5), some (.inl t1), some (.inl t2)]) (S' := [.inl l3_5]) (fun _ _ => rfl) ?_
          have he0 := Option.some.inj hv
          subst he0
          exact ev_go 2 (pc' := 89) (L' := [some (.inr (.inr 159)), some (.inl p1), some (.inl p2), some (.inl (w32 (l3_5 - x7))), some (.inl t1), some (.inl t2)]) (S' := []) (σ' := (SH L0, D)) (fun _ _ => rfl) hJ
      clear h
      rcases ite_or hv with ⟨hc, hv⟩ | ⟨hc, hv⟩
      · refine ev_ift hc 3 (pc' := 67) (L' := [some (.inr (.inr 159)), some (.inl p1), some (.inl p2), some (.inl (D 159 7)), some (.inl t1), some (.inl t2)]) (S' := []) (σ' := (SH L0, D)) (fun _ _ => rfl) ?_
        have he0 := Option.some.inj hv
        subst he0
        exact hJ
      · refine ev_iff hc 3 (pc' := 48) (L' := [some (.inr (.inr 159)), some (.inl p1), some (.inl p2), some (.inl (D 159 7)), some (.inl t1), some (.inl t2)]) (S' := []) (σ' := (SH L0, D)) (fun _ _ => rfl) ?_
        obtain ⟨x3, hx, hv⟩ := bnd hv
        refine ev_bind hx 9 (pc' := 61) (L' := fun x3 => [some (.inr (.inr 159)), some (.inl p1), some (.inl p2), some (.inl (D 159 7)), some (.inl t1), some (.inl t2)]) (S' := fun x3 => [.inl x3, .inr (.inr 122), .inl (D 159 7)]) (σ' := fun x3 => (SH L0, D)) (fun _ _ => rfl) ?_
        obtain ⟨x4, hx, hv⟩ := bnd hv
        refine ev_call (e_X2_saved L0 d (by omega) hx) 2 (pc' := 65) (L' := [some (.inr (.inr 159)), some (.inl p1), some (.inl p2), some (.inl (D 159 7)), some (.inl t1), some (.inl t2)]) (S' := [.inl (D 159 7)]) (fun _ _ => rfl) ?_
        have he0 := Option.some.inj hv
        subst he0
        exact ev_go 2 (pc' := 67) (L' := [some (.inr (.inr 159)), some (.inl p1), some (.inl p2), some (.inl (w32 ((D 159 7) - x4))), some (.inl t1), some (.inl t2)]) (S' := []) (σ' := (SH L0, D)) (fun _ _ => rfl) hJ
    clear h
    rcases ite_or hv with ⟨hc, hv⟩ | ⟨hc, hv⟩
    · refine ev_ift hc 3 (pc' := 40) (L' := [some (.inr (.inr 159)), some (.inl p1), some (.inl p2), some (.inl (D 159 7)), some (.inl t1), none]) (S' := []) (σ' := (SH L0, D)) (fun _ _ => rfl) ?_
      have he0 := Option.some.inj hv
      subst he0
      exact ev_go 1 (pc' := 41) (L' := [some (.inr (.inr 159)), some (.inl p1), some (.inl p2), some (.inl (D 159 7)), some (.inl t1), none]) (S' := [.inl 0]) (σ' := (SH L0, D)) (fun _ _ => rfl) hJ
    · refine ev_iff hc 3 (pc' := 28) (L' := [some (.inr (.inr 159)), some (.inl p1), some (.inl p2), some (.inl (D 159 7)), some (.inl t1), none]) (S' := []) (σ' := (SH L0, D)) (fun _ _ => rfl) ?_
      rcases ite_or hv with ⟨hc, hv⟩ | ⟨hc, hv⟩
      · refine ev_ift hc 4 (pc' := 36) (L' := [some (.inr (.inr 159)), some (.inl p1), some (.inl p2), some (.inl (D 159 7)), some (.inl t1), none]) (S' := []) (σ' := (SH L0, D)) (fun _ _ => rfl) ?_
        have he0 := Option.some.inj hv
        subst he0
        exact ev_go 2 (pc' := 41) (L' := [some (.inr (.inr 159)), some (.inl p1), some (.inl p2), some (.inl (D 159 7)), some (.inl t1), none]) (S' := [.inl 1]) (σ' := (SH L0, D)) (fun _ _ => rfl) hJ
      · refine ev_iff hc 4 (pc' := 40) (L' := [some (.inr (.inr 159)), some (.inl p1), some (.inl p2), some (.inl (D 159 7)), some (.inl t1), none]) (S' := []) (σ' := (SH L0, D)) (fun _ _ => rfl) ?_
        have he0 := Option.some.inj hv
        subst he0
        exact ev_go 1 (pc' := 41) (L' := [some (.inr (.inr 159)), some (.inl p1), some (.inl p2), some (.inl (D 159 7)), some (.inl t1), none]) (S' := [.inl 0]) (σ' := (SH L0, D)) (fun _ _ => rfl) hJ
  clear h
  rcases ite_or hv with ⟨hc, hv⟩ | ⟨hc, hv⟩
  · refine ev_ift hc 5 (pc' := 9) (L' := [some (.inr (.inr 159)), some (.inl p1), some (.inl p2), some (.inl (D 159 7)), none, none]) (S' := []) (σ' := (SH L0, D)) (fun _ _ => rfl) ?_
    rcases ite_or hv with ⟨hc, hv⟩ | ⟨hc, hv⟩
    · refine ev_ift hc 4 (pc' := 21) (L' := [some (.inr (.inr 159)), some (.inl p1), some (.inl p2), some (.inl (D 159 7)), none, none]) (S' := []) (σ' := (SH L0, D)) (fun _ _ => rfl) ?_
      have he0 := Option.some.inj hv
      subst he0
      exact ev_go 1 (pc' := 22) (L' := [some (.inr (.inr 159)), some (.inl p1), some (.inl p2), some (.inl (D 159 7)), none, none]) (S' := [.inl 0]) (σ' := (SH L0, D)) (fun _ _ => rfl) hJ
    · refine ev_iff hc 4 (pc' := 17) (L' := [some (.inr (.inr 159)), some (.inl p1), some (.inl p2), some (.inl (D 159 7)), none, none]) (S' := []) (σ' := (SH L0, D)) (fun _ _ => rfl) ?_
      have he0 := Option.some.inj hv
      subst he0
      exact ev_go 2 (pc' := 22) (L' := [some (.inr (.inr 159)), some (.inl p1), some (.inl p2), some (.inl (D 159 7)), none, none]) (S' := [.inl 1]) (σ' := (SH L0, D)) (fun _ _ => rfl) hJ
  · refine ev_iff hc 5 (pc' := 21) (L' := [some (.inr (.inr 159)), some (.inl p1), some (.inl p2), some (.inl (D 159 7)), none, none]) (S' := []) (σ' := (SH L0, D)) (fun _ _ => rfl) ?_
    have he0 := Option.some.inj hv
    subst he0
    exact ev_go 1 (pc' := 22) (L' := [some (.inr (.inr 159)), some (.inl p1), some (.inl p2), some (.inl (D 159 7)), none, none]) (S' := [.inl 0]) (σ' := (SH L0, D)) (fun _ _ => rfl) hJ
set_option maxRecDepth 100000 in
set_option maxHeartbeats 4000000 in
theorem e_X6_seekBest (L0 d : Nat) (hd : 5 ≤ d) {p1 : Int} {D : DT} {t0 : DT} (h : m_X6_seekBest p1 D = some t0) : Ret mtab d 68 [.inr (.inr 159), .inl p1] (SH L0, D) (none, (SH L0, t0)) := by
  obtain ⟨d, rfl⟩ : ∃ e, d = e + 1 := ⟨d - 1, by omega⟩
  refine Ret.of (code := k_X6_seekBest) (ml := 5) rfl ?_
  show EvF mtab d k_X6_seekBest 0 [some (.inr (.inr 159)), some (.inl p1), none, none, none] [] (SH L0, D) (none, (SH L0, t0))
  unfold m_X6_seekBest at h
  obtain ⟨r, hr, h⟩ := bnd h
  have hX : (fun (r : DT) => ∀ (o14 : Option (Sum Int Nat)) (o15 : Option (Sum Int Nat)) (o16 : Option (Sum Int Nat)), EvF mtab d k_X6_seekBest 91 [some (.inr (.inr 159)), some (.inl p1), dv o14, dv o15, dv o16] [] (SH L0, r) (none, (SH L0, t0))) r := by
    obtain ⟨D17, hre⟩ : ∃ q, q = r := ⟨r, rfl⟩
    subst hre
    intro o14 o15 o16
    show EvF mtab d k_X6_seekBest 91 [some (.inr (.inr 159)), some (.inl p1), dv o14, dv o15, dv o16] [] (SH L0, D17) (none, (SH L0, t0))
    cases h
    exact ev_ret 1 (fun _ _ => rfl)
  clear h
  refine ev_go 11 (pc' := 17) (L' := [some (.inr (.inr 159)), some (.inl p1), some (.inl 0), none, none]) (S' := []) (σ' := (SH L0, dput (dput (dput D 159 0 (-1)) 159 1 (-1)) 159 2 p1)) (fun _ _ => rfl) ?_
  refine loop_ind (P := fun s => ∀ (o2 : Option (Sum Int Nat)) (o3 : Option (Sum Int Nat)), EvF mtab d k_X6_seekBest 17 [some (.inr (.inr 159)), some (.inl p1), some (.inl s.1), dv o2, dv o3] [] (SH L0, s.2) (none, (SH L0, t0))) (X := fun r => ∀ (o14 : Option (Sum Int Nat)) (o15 : Option (Sum Int Nat)) (o16 : Option (Sum Int Nat)), EvF mtab d k_X6_seekBest 91 [some (.inr (.inr 159)), some (.inl p1), dv o14, dv o15, dv o16] [] (SH L0, r) (none, (SH L0, t0))) hr hX ?_ none none
  clear hr hX
  intro s t hb hK0
  obtain ⟨l2_1, D4⟩ := s
  intro o2 o3
  show EvF mtab d k_X6_seekBest 17 [some (.inr (.inr 159)), some (.inl p1), some (.inl l2_1), dv o2, dv o3] [] (SH L0, D4) (none, (SH L0, t0))
  unfold b_X6_seekBest_17 at hb
  rcases ite_or hb with ⟨hc, hb⟩ | ⟨hc, hb⟩
  · refine ev_ift hc 5 (pc' := 28) (L' := [some (.inr (.inr 159)), some (.inl p1), some (.inl l2_1), dv o2, dv o3]) (S' := []) (σ' := (SH L0, D4)) (fun _ _ => rfl) ?_
    obtain ⟨D5, hx, hb⟩ := bnd hb
    refine ev_call (e_X6_leaveOut L0 d (by omega) hx) 3 (pc' := 33) (L' := [some (.inr (.inr 159)), some (.inl p1), some (.inl l2_1), dv o2, dv o3]) (S' := []) (fun _ _ => rfl) ?_
    obtain ⟨r, hr, hb⟩ := bnd hb
    have hX : (fun (r : DT) => ∀ (o11 : Option (Sum Int Nat)) (o12 : Option (Sum Int Nat)), EvF mtab d k_X6_seekBest 85 [some (.inr (.inr 159)), some (.inl p1), some (.inl l2_1), dv o11, dv o12] [] (SH L0, r) (none, (SH L0, t0))) r := by
      obtain ⟨D13, hre⟩ : ∃ q, q = r := ⟨r, rfl⟩
      subst hre
      intro o11 o12
      show EvF mtab d k_X6_seekBest 85 [some (.inr (.inr 159)), some (.inl p1), some (.inl l2_1), dv o11, dv o12] [] (SH L0, D13) (none, (SH L0, t0))
      cases hb
      exact ev_go 2 (pc' := 17) (L' := [some (.inr (.inr 159)), some (.inl p1), some (.inl (w32 (l2_1 + 1))), dv o11, dv o12]) (S' := []) (σ' := (SH L0, D13)) (fun _ _ => rfl) (hK0 o11 o12)
    clear hb
    refine ev_go 2 (pc' := 35) (L' := [some (.inr (.inr 159)), some (.inl p1), some (.inl l2_1), some (.inl 0), dv o3]) (S' := []) (σ' := (SH L0, D5)) (fun _ _ => rfl) ?_
    refine loop_ind (P := fun s => ∀ (o7 : Option (Sum Int Nat)), EvF mtab d k_X6_seekBest 35 [some (.inr (.inr 159)), some (.inl p1), some (.inl l2_1), some (.inl s.1), dv o7] [] (SH L0, s.2) (none, (SH L0, t0))) (X := fun r => ∀ (o11 : Option (Sum Int Nat)) (o12 : Option (Sum Int Nat)), EvF mtab d k_X6_seekBest 85 [some (.inr (.inr 159)), some (.inl p1), some (.inl l2_1), dv o11, dv o12] [] (SH L0, r) (none, (SH L0, t0))) hr hX ?_ o3
    clear hr hX
    intro s t hb hK1
    obtain ⟨l3_6, D8⟩ := s
    intro o7
    show EvF mtab d k_X6_seekBest 35 [some (.inr (.inr 159)), some (.inl p1), some (.inl l2_1), some (.inl l3_6), dv o7] [] (SH L0, D8) (none, (SH L0, t0))
    unfold b_X6_seekBest_35 at hb
    rcases ite_or hb with ⟨hc, hb⟩ | ⟨hc, hb⟩
    · refine ev_ift hc 5 (pc' := 46) (L' := [some (.inr (.inr 159)), some (.inl p1), some (.inl l2_1), some (.inl l3_6), dv o7]) (S' := []) (σ' := (SH L0, D8)) (fun _ _ => rfl) ?_
      obtain ⟨x9, hx, hb⟩ := bnd hb
      refine ev_call (e_X6_jumpsAt L0 d (by omega) hx) 4 (pc' := 52) (L' := [some (.inr (.inr 159)), some (.inl p1), some (.inl l2_1), some (.inl l3_6), dv o7]) (S' := []) (fun _ _ => rfl) ?_
      obtain ⟨D10, hv, hb⟩ := bnd hb
      have hJ : EvF mtab d k_X6_seekBest 79 [some (.inr (.inr 159)), some (.inl p1), some (.inl l2_1), some (.inl l3_6), some (.inl x9)] [] (SH L0, D10) (none, (SH L0, t0)) := by
        cases hb
        exact ev_go 2 (pc' := 35) (L' := [some (.inr (.inr 159)), some (.inl p1), some (.inl l2_1), some (.inl (w32 (l3_6 + 1))), some (.inl x9)]) (S' := []) (σ' := (SH L0, D10)) (fun _ _ => rfl) (hK1 (some (.inl x9)))
      clear hb
      rcases ite_or hv with ⟨hc, hv⟩ | ⟨hc, hv⟩
      · refine ev_ift hc 5 (pc' := 63) (L' := [some (.inr (.inr 159)), some (.inl p1), some (.inl l2_1), some (.inl l3_6), some (.inl x9)]) (S' := []) (σ' := (SH L0, D8)) (fun _ _ => rfl) ?_
        have he0 := Option.some.inj hv
        subst he0
        exact ev_go 9 (pc' := 79) (L' := [some (.inr (.inr 159)), some (.inl p1), some (.inl l2_1), some (.inl l3_6), some (.inl x9)]) (S' := []) (σ' := (SH L0, dput (dput (dput D8 159 0 l2_1) 159 1 l3_6) 159 2 x9)) (fun _ _ => rfl) hJ
      · refine ev_iff hc 5 (pc' := 79) (L' := [some (.inr (.inr 159)), some (.inl p1), some (.inl l2_1), some (.inl l3_6), some (.inl x9)]) (S' := []) (σ' := (SH L0, D8)) (fun _ _ => rfl) ?_
        have he0 := Option.some.inj hv
        subst he0
        exact hJ
    · refine ev_iff hc 5 (pc' := 85) (L' := [some (.inr (.inr 159)), some (.inl p1), some (.inl l2_1), some (.inl l3_6), dv o7]) (S' := []) (σ' := (SH L0, D8)) (fun _ _ => rfl) ?_
      cases hb
      exact hK1 (some (.inl l3_6)) o7
  · refine ev_iff hc 5 (pc' := 91) (L' := [some (.inr (.inr 159)), some (.inl p1), some (.inl l2_1), dv o2, dv o3]) (S' := []) (σ' := (SH L0, D4)) (fun _ _ => rfl) ?_
    cases hb
    exact hK0 (some (.inl l2_1)) o2 o3
set_option maxRecDepth 100000 in
set_option maxHeartbeats 4000000 in
theorem e_X6_extend (L0 d : Nat) (hd : 3 ≤ d) {p1 p2 p3 p4 : Int} {D : DT} {t0 : DT} (h : m_X6_extend p1 p2 p3 p4 D = some t0) : Ret mtab d 70 [.inr (.inr 159), .inl p1, .inl p2, .inl p3, .inl p4] (SH L0, D) (none, (SH L0, t0)) := by
  obtain ⟨d, rfl⟩ : ∃ e, d = e + 1 := ⟨d - 1, by omega⟩
  refine Ret.of (code := k_X6_extend) (ml := 10) rfl ?_
  show EvF mtab d k_X6_extend 0 [some (.inr (.inr 159)), some (.inl p1), some (.inl p2), some (.inl p3), some (.inl p4), none, none, none, none, none] [] (SH L0, D) (none, (SH L0, t0))
  unfold m_X6_extend at h
  obtain ⟨x1, hx, h⟩ := bnd h
  refine ev_bind hx 8 (pc' := 11) (L' := fun x1 => [some (.inr (.inr 159)), some (.inl p1), some (.inl p2), some (.inl p3), some (.inl p4), none, none, none, none, none]) (S' := fun x1 => [.inl x1]) (σ' := fun x1 => (SH L0, D)) (fun _ _ => rfl) ?_
  obtain ⟨r, hr, h⟩ := bnd h
  have hX : (fun (r : DT) => ∀ (o15 : Option (Sum Int Nat)) (o16 : Option (Sum Int Nat)) (o17 : Option (Sum Int Nat)) (o18 : Option (Sum Int Nat)), EvF mtab d k_X6_extend 103 [some (.inr (.inr 159)), some (.inl p1), some (.inl p2), some (.inl p3), some (.inl p4), some (.inl x1), dv o15, dv o16, dv o17, dv o18] [] (SH L0, r) (none, (SH L0, t0))) r := by
    obtain ⟨D19, hre⟩ : ∃ q, q = r := ⟨r, rfl⟩
    subst hre
    intro o15 o16 o17 o18
    show EvF mtab d k_X6_extend 103 [some (.inr (.inr 159)), some (.inl p1), some (.inl p2), some (.inl p3), some (.inl p4), some (.inl x1), dv o15, dv o16, dv o17, dv o18] [] (SH L0, D19) (none, (SH L0, t0))
    cases h
    exact ev_ret 1 (fun _ _ => rfl)
  clear h
  refine ev_go 3 (pc' := 16) (L' := [some (.inr (.inr 159)), some (.inl p1), some (.inl p2), some (.inl p3), some (.inl p4), some (.inl x1), some (.inl 0), none, none, none]) (S' := []) (σ' := (SH L0, D)) (fun _ _ => rfl) ?_
  refine loop_ind (P := fun s => ∀ (o3 : Option (Sum Int Nat)) (o4 : Option (Sum Int Nat)) (o5 : Option (Sum Int Nat)), EvF mtab d k_X6_extend 16 [some (.inr (.inr 159)), some (.inl p1), some (.inl p2), some (.inl p3), some (.inl p4), some (.inl x1), some (.inl s.1), dv o3, dv o4, dv o5] [] (SH L0, s.2) (none, (SH L0, t0))) (X := fun r => ∀ (o15 : Option (Sum Int Nat)) (o16 : Option (Sum Int Nat)) (o17 : Option (Sum Int Nat)) (o18 : Option (Sum Int Nat)), EvF mtab d k_X6_extend 103 [some (.inr (.inr 159)), some (.inl p1), some (.inl p2), some (.inl p3), some (.inl p4), some (.inl x1), dv o15, dv o16, dv o17, dv o18] [] (SH L0, r) (none, (SH L0, t0))) hr hX ?_ none none none
  clear hr hX
  intro s t hb hK0
  obtain ⟨l6_2, D6⟩ := s
  intro o3 o4 o5
  show EvF mtab d k_X6_extend 16 [some (.inr (.inr 159)), some (.inl p1), some (.inl p2), some (.inl p3), some (.inl p4), some (.inl x1), some (.inl l6_2), dv o3, dv o4, dv o5] [] (SH L0, D6) (none, (SH L0, t0))
  unfold b_X6_extend_16 at hb
  rcases ite_or hb with ⟨hc, hb⟩ | ⟨hc, hb⟩
  · refine ev_ift hc 3 (pc' := 23) (L' := [some (.inr (.inr 159)), some (.inl p1), some (.inl p2), some (.inl p3), some (.inl p4), some (.inl x1), some (.inl l6_2), dv o3, dv o4, dv o5]) (S' := []) (σ' := (SH L0, D6)) (fun _ _ => rfl) ?_
    obtain ⟨D14, hv, hb⟩ := bnd hb
    have hJ : ∀ (o12 : Option (Sum Int Nat)) (o13 : Option (Sum Int Nat)), EvF mtab d k_X6_extend 97 [some (.inr (.inr 159)), some (.inl p1), some (.inl p2), some (.inl p3), some (.inl p4), some (.inl x1), some (.inl l6_2), some (.inl (aor p2 (ashl 1 l6_2))), dv o12, dv o13] [] (SH L0, D14) (none, (SH L0, t0)) := by
      intro o12 o13
      cases hb
      exact ev_go 2 (pc' := 16) (L' := [some (.inr (.inr 159)), some (.inl p1), some (.inl p2), some (.inl p3), some (.inl p4), some (.inl x1), some (.inl (w32 (l6_2 + 1))), some (.inl (aor p2 (ashl 1 l6_2))), dv o12, dv o13]) (S' := []) (σ' := (SH L0, D14)) (fun _ _ => rfl) (hK0 (some (.inl (aor p2 (ashl 1 l6_2)))) o12 o13)
    clear hb
    rcases ite_or hv with ⟨hc, hv⟩ | ⟨hc, hv⟩
    · refine ev_ift hc 9 (pc' := 97) (L' := [some (.inr (.inr 159)), some (.inl p1), some (.inl p2), some (.inl p3), some (.inl p4), some (.inl x1), some (.inl l6_2), some (.inl (aor p2 (ashl 1 l6_2))), dv o4, dv o5]) (S' := []) (σ' := (SH L0, D6)) (fun _ _ => rfl) ?_
      have he0 := Option.some.inj hv
      subst he0
      exact hJ o4 o5
    · refine ev_iff hc 9 (pc' := 37) (L' := [some (.inr (.inr 159)), some (.inl p1), some (.inl p2), some (.inl p3), some (.inl p4), some (.inl x1), some (.inl l6_2), some (.inl (aor p2 (ashl 1 l6_2))), dv o4, dv o5]) (S' := []) (σ' := (SH L0, D6)) (fun _ _ => rfl) ?_
      obtain ⟨x7, hx, hv⟩ := bnd hv
      refine ev_call (e_X7_member_4 L0 d (by omega) hx) 8 (pc' := 52) (L' := [some (.inr (.inr 159)), some (.inl p1), some (.inl p2), some (.inl p3), some (.inl p4), some (.inl x1), some (.inl l6_2), some (.inl (aor p2 (ashl 1 l6_2))), dv o4, dv o5]) (S' := [.inr (.inr 122), .inl x1]) (fun _ _ => rfl) ?_
      obtain ⟨x8, hx, hv⟩ := bnd hv
      refine ev_call (e_X7_member_4 L0 d (by omega) hx) 5 (pc' := 62) (L' := [some (.inr (.inr 159)), some (.inl p1), some (.inl p2), some (.inl p3), some (.inl p4), some (.inl x1), some (.inl l6_2), some (.inl (aor p2 (ashl 1 l6_2))), dv o4, dv o5]) (S' := [.inl x7, .inr (.inr 122), .inl x1]) (fun _ _ => rfl) ?_
      obtain ⟨x9, hx, hv⟩ := bnd hv
      refine ev_call (e_X2_saved L0 d (by omega) hx) 1 (pc' := 65) (L' := [some (.inr (.inr 159)), some (.inl p1), some (.inl p2), some (.inl p3), some (.inl p4), some (.inl x1), some (.inl l6_2), some (.inl (aor p2 (ashl 1 l6_2))), dv o4, dv o5]) (S' := [.inl x1]) (fun _ _ => rfl) ?_
      obtain ⟨x10, hx, hv⟩ := bnd hv
      refine ev_bind hx 15 (pc' := 91) (L' := fun x10 => [some (.inr (.inr 159)), some (.inl p1), some (.inl p2), some (.inl p3), some (.inl p4), some (.inl x1), some (.inl l6_2), some (.inl (aor p2 (ashl 1 l6_2))), some (.inl (w32 (x1 + x9))), some (.inl (w32 ((w32 (7 * (aor p2 (ashl 1 l6_2)))) + l6_2)))]) (S' := fun x10 => [.inl x10, .inl (w32 ((w32 (7 * (aor p2 (ashl 1 l6_2)))) + l6_2)), .inr (.inr 161)]) (σ' := fun x10 => (SH L0, D6)) (fun _ _ => rfl) ?_
      obtain ⟨D11, hx, hv⟩ := bnd hv
      refine ev_bind hx 3 (pc' := 97) (L' := fun D11 => [some (.inr (.inr 159)), some (.inl p1), some (.inl p2), some (.inl p3), some (.inl p4), some (.inl x1), some (.inl l6_2), some (.inl (aor p2 (ashl 1 l6_2))), some (.inl (w32 (x1 + x9))), some (.inl (w32 ((w32 (7 * (aor p2 (ashl 1 l6_2)))) + l6_2)))]) (S' := fun D11 => []) (σ' := fun D11 => (SH L0, D11)) (fun _ _ => rfl) ?_
      have he0 := Option.some.inj hv
      subst he0
      exact hJ (some (.inl (w32 (x1 + x9)))) (some (.inl (w32 ((w32 (7 * (aor p2 (ashl 1 l6_2)))) + l6_2))))
  · refine ev_iff hc 3 (pc' := 103) (L' := [some (.inr (.inr 159)), some (.inl p1), some (.inl p2), some (.inl p3), some (.inl p4), some (.inl x1), some (.inl l6_2), dv o3, dv o4, dv o5]) (S' := []) (σ' := (SH L0, D6)) (fun _ _ => rfl) ?_
    cases hb
    exact hK0 (some (.inl l6_2)) o3 o4 o5
set_option maxRecDepth 100000 in
set_option maxHeartbeats 4000000 in
theorem e_X6_leastJumps (L0 d : Nat) (hd : 4 ≤ d) {p1 : Int} {D : DT} {t0 : (Int × DT)} (h : m_X6_leastJumps p1 D = some t0) : Ret mtab d 69 [.inr (.inr 159), .inl p1] (SH L0, D) (some (.inl t0.1), (SH L0, t0.2)) := by
  obtain ⟨d, rfl⟩ : ∃ e, d = e + 1 := ⟨d - 1, by omega⟩
  refine Ret.of (code := k_X6_leastJumps) (ml := 8) rfl ?_
  show EvF mtab d k_X6_leastJumps 0 [some (.inr (.inr 159)), some (.inl p1), none, none, none, none, none, none] [] (SH L0, D) (some (.inl t0.1), (SH L0, t0.2))
  unfold m_X6_leastJumps at h
  obtain ⟨x1, hx, h⟩ := bnd h
  refine ev_bind hx 5 (pc' := 9) (L' := fun x1 => [some (.inr (.inr 159)), some (.inl p1), none, none, none, none, none, none]) (S' := fun x1 => [.inl x1]) (σ' := fun x1 => (SH L0, D)) (fun _ _ => rfl) ?_
  obtain ⟨r, hr, h⟩ := bnd h
  have hX : (fun (r : DT) => ∀ (o5 : Option (Sum Int Nat)), EvF mtab d k_X6_leastJumps 45 [some (.inr (.inr 159)), some (.inl p1), some (.inl (if 7 < x1 then 7 else x1)), some (.inl (ashl 1 (if 7 < x1 then 7 else x1))), dv o5, none, none, none] [] (SH L0, r) (some (.inl t0.1), (SH L0, t0.2))) r := by
    obtain ⟨D6, hre⟩ : ∃ q, q = r := ⟨r, rfl⟩
    subst hre
    intro o5
    show EvF mtab d k_X6_leastJumps 45 [some (.inr (.inr 159)), some (.inl p1), some (.inl (if 7 < x1 then 7 else x1)), some (.inl (ashl 1 (if 7 < x1 then 7 else x1))), dv o5, none, none, none] [] (SH L0, D6) (some (.inl t0.1), (SH L0, t0.2))
    obtain ⟨D7, hx, h⟩ := bnd h
    refine ev_bind hx 5 (pc' := 53) (L' := fun D7 => [some (.inr (.inr 159)), some (.inl p1), some (.inl (if 7 < x1 then 7 else x1)), some (.inl (ashl 1 (if 7 < x1 then 7 else x1))), dv o5, none, none, none]) (S' := fun D7 => []) (σ' := fun D7 => (SH L0, D7)) (fun _ _ => rfl) ?_
    obtain ⟨r, hr, h⟩ := bnd h
    have hX : (fun (r : (Int × DT)) => ∀ (o26 : Option (Sum Int Nat)) (o27 : Option (Sum Int Nat)) (o28 : Option (Sum Int Nat)), EvF mtab d k_X6_leastJumps 126 [some (.inr (.inr 159)), some (.inl p1), some (.inl (if 7 < x1 then 7 else x1)), some (.inl (ashl 1 (if 7 < x1 then 7 else x1))), some (.inl r.1), dv o26, dv o27, dv o28] [] (SH L0, r.2) (some (.inl t0.1), (SH L0, t0.2))) r := by
      obtain ⟨l4_25, D29⟩ := r
      intro o26 o27 o28
      show EvF mtab d k_X6_leastJumps 126 [some (.inr (.inr 159)), some (.inl p1), some (.inl (if 7 < x1 then 7 else x1)), some (.inl (ashl 1 (if 7 < x1 then 7 else x1))), some (.inl l4_25), dv o26, dv o27, dv o28] [] (SH L0, D29) (some (.inl t0.1), (SH L0, t0.2))
      obtain ⟨x30, hx, h⟩ := bnd h
      refine ev_call (e_X2_worthOf L0 d (by omega) hx) 4 (pc' := 134) (L' := [some (.inr (.inr 159)), some (.inl p1), some (.inl (if 7 < x1 then 7 else x1)), some (.inl (ashl 1 (if 7 < x1 then 7 else x1))), some (.inl l4_25), dv o26, dv o27, dv o28]) (S' := []) (fun _ _ => rfl) ?_
      cases h
      exact ev_ret 3 (fun _ _ => rfl)
    clear h
    refine ev_go 4 (pc' := 59) (L' := [some (.inr (.inr 159)), some (.inl p1), some (.inl (if 7 < x1 then 7 else x1)), some (.inl (ashl 1 (if 7 < x1 then 7 else x1))), some (.inl 0), some (.inl 1), none, none]) (S' := []) (σ' := (SH L0, D7)) (fun _ _ => rfl) ?_
    refine loop_ind (P := fun s => ∀ (o10 : Option (Sum Int Nat)) (o11 : Option (Sum Int Nat)), EvF mtab d k_X6_leastJumps 59 [some (.inr (.inr 159)), some (.inl p1), some (.inl (if 7 < x1 then 7 else x1)), some (.inl (ashl 1 (if 7 < x1 then 7 else x1))), some (.inl s.1), some (.inl s.2.1), dv o10, dv o11] [] (SH L0, s.2.2) (some (.inl t0.1), (SH L0, t0.2))) (X := fun r => ∀ (o26 : Option (Sum Int Nat)) (o27 : Option (Sum Int Nat)) (o28 : Option (Sum Int Nat)), EvF mtab d k_X6_leastJumps 126 [some (.inr (.inr 159)), some (.inl p1), some (.inl (if 7 < x1 then 7 else x1)), some (.inl (ashl 1 (if 7 < x1 then 7 else x1))), some (.inl r.1), dv o26, dv o27, dv o28] [] (SH L0, r.2) (some (.inl t0.1), (SH L0, t0.2))) hr hX ?_ none none
    clear hr hX
    intro s t hb hK0
    obtain ⟨l4_8, l5_9, D12⟩ := s
    intro o10 o11
    show EvF mtab d k_X6_leastJumps 59 [some (.inr (.inr 159)), some (.inl p1), some (.inl (if 7 < x1 then 7 else x1)), some (.inl (ashl 1 (if 7 < x1 then 7 else x1))), some (.inl l4_8), some (.inl l5_9), dv o10, dv o11] [] (SH L0, D12) (some (.inl t0.1), (SH L0, t0.2))
    unfold b_X6_leastJumps_59 at hb
    rcases ite_or hb with ⟨hc, hb⟩ | ⟨hc, hb⟩
    · refine ev_ift hc 3 (pc' := 65) (L' := [some (.inr (.inr 159)), some (.inl p1), some (.inl (if 7 < x1 then 7 else x1)), some (.inl (ashl 1 (if 7 < x1 then 7 else x1))), some (.inl l4_8), some (.inl l5_9), dv o10, dv o11]) (S' := []) (σ' := (SH L0, D12)) (fun _ _ => rfl) ?_
      obtain ⟨r, hr, hb⟩ := bnd hb
      have hX : (fun (r : (Int × DT)) => ∀ (o22 : Option (Sum Int Nat)) (o23 : Option (Sum Int Nat)), EvF mtab d k_X6_leastJumps 120 [some (.inr (.inr 159)), some (.inl p1), some (.inl (if 7 < x1 then 7 else x1)), some (.inl (ashl 1 (if 7 < x1 then 7 else x1))), some (.inl r.1), some (.inl l5_9), dv o22, dv o23] [] (SH L0, r.2) (some (.inl t0.1), (SH L0, t0.2))) r := by
        obtain ⟨l4_21, D24⟩ := r
        intro o22 o23
        show EvF mtab d k_X6_leastJumps 120 [some (.inr (.inr 159)), some (.inl p1), some (.inl (if 7 < x1 then 7 else x1)), some (.inl (ashl 1 (if 7 < x1 then 7 else x1))), some (.inl l4_21), some (.inl l5_9), dv o22, dv o23] [] (SH L0, D24) (some (.inl t0.1), (SH L0, t0.2))
        cases hb
        exact ev_go 2 (pc' := 59) (L' := [some (.inr (.inr 159)), some (.inl p1), some (.inl (if 7 < x1 then 7 else x1)), some (.inl (ashl 1 (if 7 < x1 then 7 else x1))), some (.inl l4_21), some (.inl (w32 (l5_9 + 1))), dv o22, dv o23]) (S' := []) (σ' := (SH L0, D24)) (fun _ _ => rfl) (hK0 o22 o23)
      clear hb
      refine ev_go 2 (pc' := 68) (L' := [some (.inr (.inr 159)), some (.inl p1), some (.inl (if 7 < x1 then 7 else x1)), some (.inl (ashl 1 (if 7 < x1 then 7 else x1))), some (.inl l4_8), some (.inl l5_9), some (.inl 0), dv o11]) (S' := []) (σ' := (SH L0, D12)) (fun _ _ => rfl) ?_
      refine loop_ind (P := fun s => ∀ (o15 : Option (Sum Int Nat)), EvF mtab d k_X6_leastJumps 68 [some (.inr (.inr 159)), some (.inl p1), some (.inl (if 7 < x1 then 7 else x1)), some (.inl (ashl 1 (if 7 < x1 then 7 else x1))), some (.inl s.1), some (.inl l5_9), some (.inl s.2.1), dv o15] [] (SH L0, s.2.2) (some (.inl t0.1), (SH L0, t0.2))) (X := fun r => ∀ (o22 : Option (Sum Int Nat)) (o23 : Option (Sum Int Nat)), EvF mtab d k_X6_leastJumps 120 [some (.inr (.inr 159)), some (.inl p1), some (.inl (if 7 < x1 then 7 else x1)), some (.inl (ashl 1 (if 7 < x1 then 7 else x1))), some (.inl r.1), some (.inl l5_9), dv o22, dv o23] [] (SH L0, r.2) (some (.inl t0.1), (SH L0, t0.2))) hr hX ?_ o11
      clear hr hX
      intro s t hb hK1
      obtain ⟨l4_13, l6_14, D16⟩ := s
      intro o15
      show EvF mtab d k_X6_leastJumps 68 [some (.inr (.inr 159)), some (.inl p1), some (.inl (if 7 < x1 then 7 else x1)), some (.inl (ashl 1 (if 7 < x1 then 7 else x1))), some (.inl l4_13), some (.inl l5_9), some (.inl l6_14), dv o15] [] (SH L0, D16) (some (.inl t0.1), (SH L0, t0.2))
      unfold b_X6_leastJumps_68 at hb
      rcases ite_or hb with ⟨hc, hb⟩ | ⟨hc, hb⟩
      · refine ev_ift hc 3 (pc' := 74) (L' := [some (.inr (.inr 159)), some (.inl p1), some (.inl (if 7 < x1 then 7 else x1)), some (.inl (ashl 1 (if 7 < x1 then 7 else x1))), some (.inl l4_13), some (.inl l5_9), some (.inl l6_14), dv o15]) (S' := []) (σ' := (SH L0, D16)) (fun _ _ => rfl) ?_
        obtain ⟨x17, hx, hb⟩ := bnd hb
        refine ev_bind hx 8 (pc' := 87) (L' := fun x17 => [some (.inr (.inr 159)), some (.inl p1), some (.inl (if 7 < x1 then 7 else x1)), some (.inl (ashl 1 (if 7 < x1 then 7 else x1))), some (.inl l4_13), some (.inl l5_9), some (.inl l6_14), dv o15]) (S' := fun x17 => [.inl x17]) (σ' := fun x17 => (SH L0, D16)) (fun _ _ => rfl) ?_
        obtain ⟨⟨l4_19, D20⟩, hv, hb⟩ := bnd hb
        have hJ : EvF mtab d k_X6_leastJumps 114 [some (.inr (.inr 159)), some (.inl p1), some (.inl (if 7 < x1 then 7 else x1)), some (.inl (ashl 1 (if 7 < x1 then 7 else x1))), some (.inl l4_19), some (.inl l5_9), some (.inl l6_14), some (.inl x17)] [] (SH L0, D20) (some (.inl t0.1), (SH L0, t0.2)) := by
          cases hb
          exact ev_go 2 (pc' := 68) (L' := [some (.inr (.inr 159)), some (.inl p1), some (.inl (if 7 < x1 then 7 else x1)), some (.inl (ashl 1 (if 7 < x1 then 7 else x1))), some (.inl l4_19), some (.inl l5_9), some (.inl (w32 (l6_14 + 1))), some (.inl x17)]) (S' := []) (σ' := (SH L0, D20)) (fun _ _ => rfl) (hK1 (some (.inl x17)))
        clear hb
        rcases ite_or hv with ⟨hc, hv⟩ | ⟨hc, hv⟩
        · refine ev_ift hc 4 (pc' := 114) (L' := [some (.inr (.inr 159)), some (.inl p1), some (.inl (if 7 < x1 then 7 else x1)), some (.inl (ashl 1 (if 7 < x1 then 7 else x1))), some (.inl l4_13), some (.inl l5_9), some (.inl l6_14), some (.inl x17)]) (S' := []) (σ' := (SH L0, D16)) (fun _ _ => rfl) ?_
          have he0 := Option.some.inj hv
          obtain ⟨ha0, he1⟩ := Prod.mk.inj he0
          clear he0
          subst ha0
          subst he1
          exact hJ
        · refine ev_iff hc 4 (pc' := 95) (L' := [some (.inr (.inr 159)), some (.inl p1), some (.inl (if 7 < x1 then 7 else x1)), some (.inl (ashl 1 (if 7 < x1 then 7 else x1))), some (.inl l4_13), some (.inl l5_9), some (.inl l6_14), some (.inl x17)]) (S' := []) (σ' := (SH L0, D16)) (fun _ _ => rfl) ?_
          obtain ⟨D18, hx, hv⟩ := bnd hv
          refine ev_call (e_X6_extend L0 d (by omega) hx) 10 (pc' := 114) (L' := [some (.inr (.inr 159)), some (.inl p1), some (.inl (if 7 < x1 then 7 else x1)), some (.inl (ashl 1 (if 7 < x1 then 7 else x1))), some (.inl (if l4_13 < x17 then x17 else l4_13)), some (.inl l5_9), some (.inl l6_14), some (.inl x17)]) (S' := []) (fun _ _ => rfl) ?_
          have he0 := Option.some.inj hv
          obtain ⟨ha0, he1⟩ := Prod.mk.inj he0
          clear he0
          subst ha0
          subst he1
          exact hJ
      · refine ev_iff hc 3 (pc' := 120) (L' := [some (.inr (.inr 159)), some (.inl p1), some (.inl (if 7 < x1 then 7 else x1)), some (.inl (ashl 1 (if 7 < x1 then 7 else x1))), some (.inl l4_13), some (.inl l5_9), some (.inl l6_14), dv o15]) (S' := []) (σ' := (SH L0, D16)) (fun _ _ => rfl) ?_
        cases hb
        exact hK1 (some (.inl l6_14)) o15
    · refine ev_iff hc 3 (pc' := 126) (L' := [some (.inr (.inr 159)), some (.inl p1), some (.inl (if 7 < x1 then 7 else x1)), some (.inl (ashl 1 (if 7 < x1 then 7 else x1))), some (.inl l4_8), some (.inl l5_9), dv o10, dv o11]) (S' := []) (σ' := (SH L0, D12)) (fun _ _ => rfl) ?_
      cases hb
      exact hK0 (some (.inl l5_9)) o10 o11
  clear h
  refine ev_go 9 (pc' := 22) (L' := [some (.inr (.inr 159)), some (.inl p1), some (.inl (if 7 < x1 then 7 else x1)), some (.inl (ashl 1 (if 7 < x1 then 7 else x1))), some (.inl 0), none, none, none]) (S' := []) (σ' := (SH L0, D)) (fun _ _ => rfl) ?_
  refine loop_ind (P := fun s => EvF mtab d k_X6_leastJumps 22 [some (.inr (.inr 159)), some (.inl p1), some (.inl (if 7 < x1 then 7 else x1)), some (.inl (ashl 1 (if 7 < x1 then 7 else x1))), some (.inl s.1), none, none, none] [] (SH L0, s.2) (some (.inl t0.1), (SH L0, t0.2))) (X := fun r => ∀ (o5 : Option (Sum Int Nat)), EvF mtab d k_X6_leastJumps 45 [some (.inr (.inr 159)), some (.inl p1), some (.inl (if 7 < x1 then 7 else x1)), some (.inl (ashl 1 (if 7 < x1 then 7 else x1))), dv o5, none, none, none] [] (SH L0, r) (some (.inl t0.1), (SH L0, t0.2))) hr hX ?_
  clear hr hX
  intro s t hb hK0
  obtain ⟨l4_2, D3⟩ := s
  show EvF mtab d k_X6_leastJumps 22 [some (.inr (.inr 159)), some (.inl p1), some (.inl (if 7 < x1 then 7 else x1)), some (.inl (ashl 1 (if 7 < x1 then 7 else x1))), some (.inl l4_2), none, none, none] [] (SH L0, D3) (some (.inl t0.1), (SH L0, t0.2))
  unfold b_X6_leastJumps_22 at hb
  rcases ite_or hb with ⟨hc, hb⟩ | ⟨hc, hb⟩
  · refine ev_ift hc 5 (pc' := 31) (L' := [some (.inr (.inr 159)), some (.inl p1), some (.inl (if 7 < x1 then 7 else x1)), some (.inl (ashl 1 (if 7 < x1 then 7 else x1))), some (.inl l4_2), none, none, none]) (S' := []) (σ' := (SH L0, D3)) (fun _ _ => rfl) ?_
    obtain ⟨D4, hx, hb⟩ := bnd hb
    refine ev_bind hx 5 (pc' := 39) (L' := fun D4 => [some (.inr (.inr 159)), some (.inl p1), some (.inl (if 7 < x1 then 7 else x1)), some (.inl (ashl 1 (if 7 < x1 then 7 else x1))), some (.inl l4_2), none, none, none]) (S' := fun D4 => []) (σ' := fun D4 => (SH L0, D4)) (fun _ _ => rfl) ?_
    cases hb
    exact ev_go 2 (pc' := 22) (L' := [some (.inr (.inr 159)), some (.inl p1), some (.inl (if 7 < x1 then 7 else x1)), some (.inl (ashl 1 (if 7 < x1 then 7 else x1))), some (.inl (w32 (l4_2 + 1))), none, none, none]) (S' := []) (σ' := (SH L0, D4)) (fun _ _ => rfl) hK0
  · refine ev_iff hc 5 (pc' := 45) (L' := [some (.inr (.inr 159)), some (.inl p1), some (.inl (if 7 < x1 then 7 else x1)), some (.inl (ashl 1 (if 7 < x1 then 7 else x1))), some (.inl l4_2), none, none, none]) (S' := []) (σ' := (SH L0, D3)) (fun _ _ => rfl) ?_
    cases hb
    exact hK0 (some (.inl l4_2))
