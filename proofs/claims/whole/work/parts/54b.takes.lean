/-! ===== the reference: takesArcs ===== -/
/-- what the reference keeps of a function's arcs, behind those looked at (the latest first) -/
def TK (P : PG) (m : List Nat) (D0 : DT) (r : List Nat) (D : DT) : Prop :=
  Fr [189, 191, 192, 193, 194] D0 D ∧
  (∀ k, k < 41 → D 191 k = ((kg (P 9) (P 10) r k : Nat) : Int)) ∧
  (∀ a ∈ m, D 194 a = if a ∈ r then 1 else 0) ∧
  (∀ a ∈ r, D 189 a = ((P 11 a : Nat) : Int) ∧ D 192 a = (if a ∈ tl (P 9) (P 10) r then 1 else 0) ∧ D 193 a = (if a ∈ tl (P 9) (P 10) r then 1 else 0)) ∧
  (∀ a, a ∉ r → D 189 a = D0 189 a ∧ D 192 a = D0 192 a ∧ D 193 a = D0 193 a ∧ D 194 a = D0 194 a)
theorem r_hangs {D : DT} {x y : Nat} : wp (loop (b_X12_takesArcs_125 (x : Int) (y : Int)) (0, D)) (fun D' => Fr [191] D D' ∧ ∀ k, k < 41 → D' 191 k = if D 191 k = y then (x : Int) else D 191 k) := by
  by_cases hxy : x = y
  · subst hxy
    rw [loop_eq]
    unfold b_X12_takesArcs_125
    dsimp only
    rw [if_neg (by decide), if_pos rfl, Option.bind_some]
    dsimp only
    rw [wp_some]
    refine ⟨Fr.rf, fun k _ => ?_⟩
    split
    · assumption
    · rfl
  refine wp_for 41 (fun j s => s.1 = (j : Int) ∧ Fr [191] D s.2 ∧ (∀ k, k < j → s.2 191 k = if D 191 k = y then (x : Int) else D 191 k) ∧ ∀ k, j ≤ k → s.2 191 k = D 191 k) (Nat.zero_le _) ⟨rfl, Fr.rf, fun k hk => by omega, fun _ _ => rfl⟩ ?_
  rintro j ⟨jj, D1⟩ hj ⟨h1, hF, hA, hB⟩
  simp only at h1 hF hA hB
  subst h1
  unfold b_X12_takesArcs_125
  dsimp only
  rw [wp_ite]
  constructor
  · intro q
    have : j = 41 := by omega
    subst this
    rw [wp_some, gd_r]
    exact ⟨hF, hA⟩
  intro q
  have hj2 : j < 41 := by omega
  have hv := hB j (Nat.le_refl _)
  rw [if_neg (by omega), ard_n hj2, Option.bind_some, hv, wp_bind]
  have key : ∀ t : Int, t = (if D 191 j = y then (x : Int) else D 191 j) → wp ((awr D1 191 41 (j : Int) t).bind fun D33 => some (Sum.inl (β := DT) (w32 ((j : Int) + 1), D33))) (fun t => gd t (fun s' => j < 41 ∧ s'.1 = ((j + 1 : Nat) : Int) ∧ Fr [191] D s'.2 ∧ (∀ k, k < j + 1 → s'.2 191 k = if D 191 k = y then (x : Int) else D 191 k) ∧ ∀ k, j + 1 ≤ k → s'.2 191 k = D 191 k) (fun D' => Fr [191] D D' ∧ ∀ k, k < 41 → D' 191 k = if D 191 k = y then (x : Int) else D 191 k)) := by
    intro t ht
    rw [awr_n hj2, Option.bind_some, wp_some, gd_l]
    refine ⟨hj2, w32_succ (by omega), hF.put (by simp), fun k hk => ?_, fun k hk => ?_⟩
    · show dput D1 191 j t 191 k = _
      by_cases e : k = j
      · subst e; rw [dput_ss, ht]
      · rw [dput_sn _ e]; exact hA k (by omega)
    · show dput D1 191 j t 191 k = _
      rw [dput_sn _ (by omega)]; exact hB k (by omega)
  by_cases e : D 191 j = y
  · rw [if_pos e, wp_some]
    exact key _ (if_pos e).symm
  · rw [if_neg e, Option.bind_some, wp_some]
    exact key _ (if_neg e).symm
theorem r_take1 {D D0 : DT} {P : PG} (w : WF P) (r : RefP D 0 P) {f : Nat} {m : List Nat} (hm : SLm P f m) {i : Nat} (hi : i < m.length) (h : TK P m D0 (m.take i).reverse D) : wp (b_X12_takesArcs_27 (f : Int) (((m[i] : Nat) : Int), D)) (fun t => ∃ x D', t = Sum.inl (x, D') ∧ TK P m D0 (m.take (i + 1)).reverse D' ∧ (i + 1 < m.length → ∃ h : i + 1 < m.length, x = ((m[i + 1] : Nat) : Int)) ∧ (m.length ≤ i + 1 → x = -1)) := by
  have h88 := w.a88
  have ham : m[i] ∈ m := List.getElem_mem hi
  have ham2 := (hm.mem _).mp ham
  have hn : m[i] ∉ (m.take i).reverse := by
    intro hc
    obtain ⟨j, hj, ej⟩ := List.mem_take_iff_getElem.mp (List.mem_reverse.mp hc)
    have := (List.nodup_iff_pairwise_ne.mp hm.nodup)
    exact List.pairwise_iff_getElem.mp this j i (by omega) hi (by omega) ej
  have eR : (m.take (i + 1)).reverse = m[i] :: (m.take i).reverse := by rw [List.take_succ_eq_append_getElem hi, List.reverse_append]; rfl
  rw [eR]
  obtain ⟨R, hR⟩ : ∃ R, R = (m.take i).reverse := ⟨_, rfl⟩
  rw [← hR] at h hn ⊢
  obtain ⟨a, hae⟩ : ∃ a, a = m[i] := ⟨_, rfl⟩
  rw [← hae] at ham ham2 hn ⊢
  obtain ⟨hF, h1, h2, h3, h4⟩ := h
  have hu41 := w.u41 ham2.1; have hv41 := w.v41 ham2.1
  unfold b_X12_takesArcs_27
  dsimp only
  rw [if_neg (by omega), abit_1, Option.bind_some, awr_n (by omega), Option.bind_some]
  have r1 : RefP (dput D 194 a 1) 0 P := r.cg (dput_nb _ (by decide))
  rw [r_cnt w r1 ham2.1, Option.bind_some, awr_n (by omega), Option.bind_some]
  obtain ⟨D2, hD2⟩ : ∃ D2, D2 = dput (dput D 194 a 1) 189 a ((P 11 a : Nat) : Int) := ⟨_, rfl⟩
  rw [← hD2]
  have r2 : RefP D2 0 P := r1.cg (by rw [hD2]; exact dput_nb _ (by decide))
  have e191 : D2 191 = D 191 := by rw [hD2, dput_nb _ (by decide), dput_nb _ (by decide)]
  rw [r_from w r2 ham2.1, Option.bind_some, r_at, Option.bind_some, ard_n hu41, Option.bind_some, r_to w r2 ham2.1, Option.bind_some, r_at, Option.bind_some, ard_n hv41, Option.bind_some, e191, h1 _ hu41, h1 _ hv41]
  have hgo : ∀ (t : Int) (D3 : DT), (t = 0 ∨ t = 1) → (t = if kg (P 9) (P 10) R (P 9 a) = kg (P 9) (P 10) R (P 10 a) then 0 else 1) → D3 = dput (dput D2 192 a t) 193 a t → wp ((loop (b_X12_takesArcs_125 ((kg (P 9) (P 10) R (P 9 a) : Nat) : Int) ((kg (P 9) (P 10) R (P 10 a) : Nat) : Int)) (0, D3)).bind fun D35 => (m_X12_nextByCount (f : Int) D35).bind fun x36 => some (Sum.inl (β := DT) (x36, D35))) (fun t => ∃ x D', t = Sum.inl (x, D') ∧ TK P m D0 (a :: R) D' ∧ (i + 1 < m.length → ∃ h : i + 1 < m.length, x = ((m[i + 1] : Nat) : Int)) ∧ (m.length ≤ i + 1 → x = -1)) := by
    intro t D3 _ ht hD3
    have n1 : ∀ c : Nat, c ≠ 193 → c ≠ 192 → c ≠ 189 → c ≠ 194 → D3 c = D c := fun c z1 z2 z3 z4 => by rw [hD3, hD2, dput_nb _ z1, dput_nb _ z2, dput_nb _ z3, dput_nb _ z4]
    have n189 : ∀ b, D3 189 b = if b = a then ((P 11 a : Nat) : Int) else D 189 b := fun b => by rw [hD3, hD2]; simp [dput_eq]
    have n192 : ∀ b, D3 192 b = if b = a then t else D 192 b := fun b => by rw [hD3, hD2]; simp [dput_eq]
    have n193 : ∀ b, D3 193 b = if b = a then t else D 193 b := fun b => by rw [hD3, hD2]; simp [dput_eq]
    have n194 : ∀ b, D3 194 b = if b = a then 1 else D 194 b := fun b => by rw [hD3, hD2]; simp [dput_eq]
    have f3 : Fr [189, 191, 192, 193, 194] D D3 := by rw [hD3, hD2]; exact (((Fr.rf.put (by simp)).put (by simp)).put (by simp)).put (by simp)
    rw [wp_bind]
    refine wp_mono r_hangs ?_
    rintro D4 ⟨g1, g2⟩
    have gn : ∀ c : Nat, c ≠ 191 → D4 c = D3 c := fun c z => g1 c (by simp [z])
    have r4 : RefP D4 0 P := r.cg (by rw [gn 188 (by decide), n1 188 (by decide) (by decide) (by decide) (by decide)])
    have htk : TK P m D0 (a :: R) D4 := by
      refine ⟨(hF.tr f3).tr (g1.mo (by simp)), fun k hk => ?_, fun b hb => ?_, fun b hb => ?_, fun b hb => ?_⟩
      · rw [g2 k hk, n1 191 (by decide) (by decide) (by decide) (by decide), h1 k hk]
        simp only [kg]
        by_cases z : kg (P 9) (P 10) R k = kg (P 9) (P 10) R (P 10 a)
        · rw [if_pos z, if_pos (by rw [z])]
        · rw [if_neg z, if_neg (fun e => z (by omega))]
      · rw [gn 194 (by decide), n194]
        by_cases e : b = a
        · subst e; simp
        · rw [if_neg e, h2 b hb]; simp [e]
      · rw [gn 189 (by decide), gn 192 (by decide), gn 193 (by decide), n189, n192, n193]
        have etl : b ∈ tl (P 9) (P 10) (a :: R) ↔ (b = a ∧ kg (P 9) (P 10) R (P 9 a) ≠ kg (P 9) (P 10) R (P 10 a)) ∨ b ∈ tl (P 9) (P 10) R := by
          simp only [tl]
          split
          · rename_i z; simp [z]
          · rename_i z; simp [z]
        by_cases e : b = a
        · subst e
          have hno : b ∉ tl (P 9) (P 10) R := fun z => hn (tl_sub z)
          have hT : t = (if b ∈ tl (P 9) (P 10) (b :: R) then 1 else 0) := by
            rw [ht]
            by_cases z : kg (P 9) (P 10) R (P 9 b) = kg (P 9) (P 10) R (P 10 b)
            · rw [if_pos z, if_neg]
              rw [etl]
              rintro (q | q)
              · exact q.2 z
              · exact hno q
            · rw [if_neg z, if_pos]
              rw [etl]
              exact Or.inl ⟨rfl, z⟩
          rw [if_pos rfl, if_pos rfl, if_pos rfl]
          exact ⟨rfl, hT, hT⟩
        · have hb2 := (List.mem_cons.mp hb).resolve_left e
          simp only [if_neg e, etl, e, false_and, false_or]
          exact h3 b hb2
      · have hb2 : ¬ (b = a ∨ b ∈ R) := fun q => hb (List.mem_cons.mpr q)
        have e : b ≠ a := fun q => hb2 (Or.inl q)
        rw [gn 189 (by decide), gn 192 (by decide), gn 193 (by decide), gn 194 (by decide), n189, n192, n193, n194, if_neg e, if_neg e, if_neg e, if_neg e]
        exact h4 b (fun q => hb2 (Or.inr q))
    rw [wp_bind]
    refine wp_mono (r_nextByCount w r4) ?_
    intro x hx
    rw [wp_some]
    obtain ⟨l, hl, ho⟩ := id hm
    have hs := sel_ord (i := i + 1) ho.2 (fun b => ?_) hx
    · exact ⟨x, D4, rfl, htk, hs.1, hs.2⟩
    · have hm2 := hm.mem b
      have hu := htk.2.2.1 b
      have hRm : b ∈ a :: R ↔ b ∈ m.take (i + 1) := by rw [hR, hae, ← eR, List.mem_reverse]
      have hnd := hm.nodup
      rw [← List.take_append_drop (i + 1) m] at hnd
      have hdis := (List.nodup_append.mp hnd).2.2
      constructor
      · rintro ⟨z1, z2, z3⟩
        have hbm := hm2.mpr ⟨z1, z3⟩
        rw [hu hbm] at z2
        have : b ∉ a :: R := fun q => by rw [if_pos q] at z2; omega
        rw [hRm] at this
        have hmm := hbm
        rw [← List.take_append_drop (i + 1) m] at hmm
        exact (List.mem_append.mp hmm).resolve_left this
      · intro hd
        have hbm : b ∈ m := List.mem_of_mem_drop hd
        have z := hm2.mp hbm
        refine ⟨z.1, ?_, z.2⟩
        rw [hu hbm, if_neg]
        rw [hRm]
        exact fun q => hdis b q b hd rfl
  by_cases hx : kg (P 9) (P 10) R (P 9 a) = kg (P 9) (P 10) R (P 10 a)
  · rw [if_pos (by rw [hx]), Option.bind_some, abit_0, Option.bind_some, awr_n (by omega), Option.bind_some, ard_n (by omega), Option.bind_some, dput_ss, abit_0, Option.bind_some, awr_n (by omega), Option.bind_some]
    exact hgo 0 _ (Or.inl rfl) (by rw [if_pos hx]) rfl
  · rw [if_neg (by omega), Option.bind_some, abit_1, Option.bind_some, awr_n (by omega), Option.bind_some, ard_n (by omega), Option.bind_some, dput_ss, abit_1, Option.bind_some, awr_n (by omega), Option.bind_some]
    exact hgo 1 _ (Or.inr rfl) (by rw [if_neg hx]) rfl
theorem r_takesArcs {D : DT} {P : PG} (w : WF P) (r : RefP D 0 P) {f : Nat} (hf : f < P 0 0) {m : List Nat} (hm : SLm P f m) (hu : ∀ a, a < P 0 2 → fn P a = f → D 194 a = 0) : wp (m_X12_takesArcs (f : Int) D) (fun D' => ∃ D0, Fr [191] D D0 ∧ TK P m D0 m.reverse D') := by
  have h88 := w.a88
  unfold m_X12_takesArcs
  rw [wp_bind]
  refine wp_for 41 (fun j s => s.1 = (j : Int) ∧ Fr [191] D s.2 ∧ ∀ k, k < j → s.2 191 k = (k : Int)) (Nat.zero_le _) ⟨rfl, Fr.rf, fun k hk => by omega⟩ ?_
  rintro j ⟨jj, D1⟩ hj ⟨h1, hF, hA⟩
  simp only at h1 hF hA
  subst h1
  unfold b_X12_takesArcs_2
  dsimp only
  rw [wp_ite]
  constructor
  rotate_left
  · intro q
    rw [awr_n (by omega), Option.bind_some, wp_some, gd_l]
    refine ⟨by omega, w32_succ (by omega), hF.put (by simp), fun k hk => ?_⟩
    show dput D1 191 j _ 191 k = _
    by_cases e : k = j
    · subst e; rw [dput_ss]
    · rw [dput_sn _ e]; exact hA k (by omega)
  intro q
  have hj : j = 41 := by omega
  subst hj
  rw [wp_some, gd_r]
  have r1 : RefP D1 0 P := r.cg (hF 188 (by decide))
  have hTK : TK P m D1 (m.take 0).reverse D1 := by
    refine ⟨Fr.rf, fun k hk => hA k hk, fun a ha => ?_, fun a ha => by simp at ha, fun a _ => ⟨rfl, rfl, rfl, rfl⟩⟩
    rw [hF 194 (by decide), hu a ((hm.mem a).mp ha).1 ((hm.mem a).mp ha).2]; simp
  rw [wp_bind]
  refine wp_mono (r_nextByCount w r1) ?_
  intro x hx
  obtain ⟨l, hl, ho⟩ := id hm
  have hs := sel_ord (i := 0) ho.2 (fun b => ?_) hx
  rotate_left
  · rw [List.drop_zero, hm.mem b]
    constructor
    · rintro ⟨z1, z2, z3⟩; exact ⟨z1, z3⟩
    · rintro ⟨z1, z3⟩; exact ⟨z1, by rw [hF 194 (by decide)]; exact hu b z1 z3, z3⟩
  rw [wp_bind]
  refine wp_loop (fun n s => ∃ i, n = m.length - i ∧ i ≤ m.length ∧ TK P m D1 (m.take i).reverse s.2 ∧ (i < m.length → ∃ h : i < m.length, s.1 = ((m[i] : Nat) : Int)) ∧ (m.length ≤ i → s.1 = -1)) ?_ m.length _ ⟨0, by omega, Nat.zero_le _, hTK, hs.1, hs.2⟩
  rintro n ⟨y, D2⟩ ⟨i, hn, hi, hT, hy1, hy2⟩
  simp only at hT hy1 hy2
  by_cases hil : i < m.length
  · obtain ⟨_, hy⟩ := hy1 hil
    subst hy
    clear hy1 hy2
    have hlt : m.length - (i + 1) < n := by omega
    have r2 : RefP D2 0 P := r1.cg (hT.1 188 (by decide))
    refine wp_mono (r_take1 w r2 hm hil hT) ?_
    rintro t ⟨x', D', rfl, g1, g2, g3⟩
    rw [gd_l]
    exact ⟨m.length - (i + 1), hlt, i + 1, rfl, hil, g1, g2, g3⟩
  · have e : i = m.length := Nat.le_antisymm hi (Nat.le_of_not_lt hil)
    have := hy2 (Nat.le_of_not_lt hil)
    subst this
    subst e
    unfold b_X12_takesArcs_27
    dsimp only
    rw [if_pos (by decide), wp_some, gd_r, wp_some]
    rw [List.take_length] at hT
    exact ⟨D1, hF, hT⟩
