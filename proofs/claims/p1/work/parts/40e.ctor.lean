/-- the data behind the two makings, ahead of plain(0) -/
def dini (D : DT) : DT := dct_23 (dset (dct_0 (dset D 2 (fun _ => 0))) 187 (fun _ => 0))
def cs_0 (L0 : Nat) : List SC := (104, L0, []) :: (104, 8, []) :: []
set_option maxRecDepth 100000 in
set_option maxHeartbeats 4000000 in
theorem law_ev (L0 d : Nat) (hd : 40 ≤ d) {D D9 : DT} (hpl : m_X12_plain 0 (dini D) = some D9) {t0 : Int × DT} (h : m_L_law L0 D9 = some t0) : EvF mtab d k_L_law 0 [some (.inr (.inr 0)), none, none, none] [] (cs_0 L0, D) (some (.inl t0.1), (SH L0, t0.2)) := by
  refine ev_go 2 (pc' := 4) (L' := [some (.inr (.inr 0)), none, none, none]) (S' := [.inr (.inr 2), .inr (.inr 2)]) (σ' := (cs_1 L0, dset D 2 (fun _ => 0))) (fun _ _ => rfl) ?_
  refine ev_call (ct_0 L0 d (by omega) (D := dset D 2 (fun _ => 0))) 1 (pc' := 7) (L' := [some (.inr (.inr 0)), none, none, none]) (S' := [.inr (.inr 2)]) (fun _ _ => rfl) ?_
  refine ev_go 3 (pc' := 12) (L' := [some (.inr (.inr 0)), some (.inr (.inr 2)), none, none]) (S' := [.inr (.inr 187), .inr (.inr 187)]) (σ' := (cs_390 L0, dset (dct_0 (dset D 2 (fun _ => 0))) 187 (fun _ => 0))) (fun _ _ => rfl) ?_
  refine ev_call (ct_23 L0 d (by omega) (D := dset (dct_0 (dset D 2 (fun _ => 0))) 187 (fun _ => 0)) hpl) 1 (pc' := 15) (L' := [some (.inr (.inr 0)), some (.inr (.inr 2)), none, none]) (S' := [.inr (.inr 187)]) (fun _ _ => rfl) ?_
  refine ev_go 1 (pc' := 16) (L' := [some (.inr (.inr 0)), some (.inr (.inr 2)), some (.inr (.inr 187)), none]) (S' := []) (σ' := (SH L0, D9)) (fun _ _ => rfl) ?_
  exact e_L_law L0 d (by omega) h
