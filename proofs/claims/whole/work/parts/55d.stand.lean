/-! ===== Chains.stand ===== -/
/-- what the class holds while the chains T stand -/
def SD (P : PG) (f : Nat) (D0 : DT) (T : List Nat) (D : DT) : Prop :=
  Fr [132, 133, 135, 139, 140] D0 D ∧
  (∀ (i x : Nat), (flat P f T)[i]? = some x → D 132 (P 2 f + i) = (x : Int)) ∧
  (∀ i, i < P 2 f ∨ P 2 f + P 1 f ≤ i → D 132 i = D0 132 i) ∧
  (∀ (j h k : Nat), T[j]? = some h → k ∈ (cf P f).1 h → D 133 k = (j : Int)) ∧
  (∀ k, ¬ blk P f k → D 133 k = D0 133 k) ∧
  (∀ k, blk P f k → (D 140 k = 1 ∧ k ∈ flat P f T) ∨ (D 140 k = 0 ∧ k ∉ flat P f T)) ∧
  D 135 f = (T.length : Int) ∧ (∀ g, g ≠ f → D 135 g = D0 135 g)
def BD (P : PG) (f : Nat) (T : List Nat) (D : DT) : Prop := ∀ h, Cd P f (flat P f T) h → D 139 h = bd P f (flat P f T) h
theorem s_putDown {D D0 : DT} {P : PG} (w : WF P) (d : DevP D0 4 P) {f : Nat} (hf : f < P 0 0) (hC : DCh P f (cf P f) D0) {T : List Nat} (hT : TT P f T) (h : SD P f D0 T D) {g : Nat} (hg : blk P f g) (hgg : (cf P f).2 g = g) (hgT : g ∉ T) : wp (m_X0_putDown (f : Int) (g : Int) (((flat P f T).length : Nat) : Int) D) (fun t => t.1 = (((flat P f (T ++ [g])).length : Nat) : Int) ∧ SD P f D0 (T ++ [g]) t.2 ∧ t.2 139 = D 139) := by
  have h8 := w.f8; have h40 := w.b40; have hlst := w.lst f hf
  have hT2 := hT.snoc hg hgg hgT
  obtain ⟨hF, h1, h2, h3, h4, h5, h6, h7⟩ := h
  have ci := ci_cf (P := P) (f := f)
  obtain ⟨B, hB⟩ : ∃ B, B = (cf P f).1 g := ⟨_, rfl⟩
  have hfl : flat P f (T ++ [g]) = flat P f T ++ B := by rw [flat_snoc, hB]
  have hlen : (flat P f T ++ B).length ≤ P 1 f := by rw [← hfl]; exact blk_len w (flat_nodup hT2) (fun k hk => flat_blk w hT2 hk)
  rw [List.length_append] at hlen
  have hBb : ∀ k ∈ B, blk P f k := fun k hk => (cf_blk w (by rw [← hB]; exact hk)).mpr hg
  have hBn : B.Nodup := hB ▸ ci.2.2.1 g
  have hnB : Nxt D0 138 B := hB ▸ hC.2 g hg
  have e135 : D 135 f = (T.length : Int) := h6
  have hTl := hT2.len w
  rw [List.length_append] at hTl
  have hTl : T.length + 1 ≤ P 1 f := hTl
  unfold m_X0_putDown
  rw [wp_bind]
  refine wp_for B.length (fun i s => s.1 = (((flat P f T).length + i : Nat) : Int) ∧ s.2.1 = nz 40 (B[i]?.getD 40) ∧ s.2.2.1 = (i : Int) ∧ Fr [132, 133, 140] D s.2.2.2 ∧ (∀ (j x : Nat), (flat P f T ++ B.take i)[j]? = some x → s.2.2.2 132 (P 2 f + j) = (x : Int)) ∧ (∀ i, i < P 2 f ∨ P 2 f + P 1 f ≤ i → s.2.2.2 132 i = D0 132 i) ∧ (∀ k, s.2.2.2 133 k = if k ∈ B.take i then (T.length : Int) else D 133 k) ∧ (∀ k, s.2.2.2 140 k = if k ∈ B.take i then 1 else D 140 k)) (Nat.zero_le _) ⟨rfl, ?_, rfl, Fr.rf, ?_, h2, fun k => by simp, fun k => by simp⟩ ?_
  · rw [← List.head?_eq_getElem?, hB, ci.hd hgg]
    show (g : Int) = nz 40 g
    rw [nz_ne (by have := hg.1; omega)]
  · rw [List.take_zero, List.append_nil]; exact h1
  rintro i ⟨n, bk, ii, D1⟩ hi ⟨g0, g1, g2, g3, g4, g5, g6, g7⟩
  simp only at g0 g1 g2 g3 g4 g5 g6 g7
  subst g0; subst g2
  have f01 : Fr [132, 133, 135, 139, 140] D0 D1 := hF.tr (g3.mo (by simp))
  have d1 := d.fr f01 (by decide)
  unfold b_X0_putDown_9
  dsimp only
  have hl40 : B.length ≤ 40 := len40 hBn (fun k hk => by have := (hBb k hk).1; omega)
  by_cases hil : i < B.length
  · have hbk : B[i]? = some B[i] := List.getElem?_eq_getElem hil
    have hbm := List.getElem_mem hil
    have hb40 : B[i] < 40 := by have := (hBb _ hbm).1; omega
    rw [hbk] at g1
    simp only [Option.getD_some] at g1
    rw [nz_ne (by omega)] at g1
    subst g1
    have e135' : D1 135 f = (T.length : Int) := by rw [g3 135 (by decide)]; exact e135
    have hix : P 2 f + ((flat P f T).length + i) < 2147483648 := by omega
    rw [if_pos (by omega), if_neg (by omega), ard_n (by omega), Option.bind_some, d1.mem f hf, if_pos (by omega), ard_n (by omega), Option.bind_some, d1.lst f hf, w32_nn hix]
    rw [awr_n (by omega), Option.bind_some, ard_n (by omega), Option.bind_some, dput_nb _ (by decide : (135 : Nat) ≠ 132), e135', awr_n hb40, Option.bind_some, abit_1, Option.bind_some, awr_n hb40, Option.bind_some, ard_n hb40, Option.bind_some, wp_some, gd_l]
    have hi3 : (flat P f T).length + i < 2147483647 := by omega
    have hi4 : i < 2147483647 := by omega
    refine ⟨hil, w32_succ hi3, ?_, w32_succ hi4, ((g3.put (by simp)).put (by simp)).put (by simp), fun j x hx => ?_, fun j hj => ?_, fun k => ?_, fun k => ?_⟩
    · dsimp only
      rw [dput_nb _ (by decide), dput_nb _ (by decide), dput_nb _ (by decide), f01 138 (by decide), hnB i _ hbk]
    · dsimp only
      rw [dput_nb _ (by decide), dput_nb _ (by decide), dput_eq]
      rw [List.take_succ_eq_append_getElem hil, ← List.append_assoc, List.getElem?_append] at hx
      have hlt : (flat P f T ++ B.take i).length = (flat P f T).length + i := by rw [List.length_append, List.length_take]; omega
      split at hx
      · rename_i z
        rw [if_neg (by omega)]; exact g4 j x hx
      · rename_i z
        have hj0 : j - (flat P f T ++ B.take i).length = 0 := by
          cases hz : j - (flat P f T ++ B.take i).length with
          | zero => rfl
          | succ q => rw [hz] at hx; simp at hx
        rw [hj0] at hx
        simp at hx
        rw [if_pos ⟨rfl, by omega⟩, hx]
    · dsimp only
      rw [dput_nb _ (by decide), dput_nb _ (by decide), dput_sn _ (by omega)]
      exact g5 j hj
    · dsimp only
      rw [dput_nb _ (by decide), dput_eq, List.take_succ_eq_append_getElem hil, dput_nb _ (by decide), g6 k]
      by_cases z : k = B[i]
      · rw [if_pos ⟨rfl, z⟩, if_pos (List.mem_append.mpr (Or.inr (by rw [z]; exact List.mem_singleton.mpr rfl)))]
      · rw [if_neg (fun q => z q.2)]
        by_cases z2 : k ∈ B.take i
        · rw [if_pos z2, if_pos (List.mem_append.mpr (Or.inl z2))]
        · rw [if_neg z2, if_neg (fun q => (List.mem_append.mp q).elim z2 (fun q => z (List.mem_singleton.mp q)))]
    · dsimp only
      rw [dput_eq, List.take_succ_eq_append_getElem hil, dput_nb _ (by decide), dput_nb _ (by decide), g7 k]
      by_cases z : k = B[i]
      · rw [if_pos ⟨rfl, z⟩, if_pos (List.mem_append.mpr (Or.inr (by rw [z]; exact List.mem_singleton.mpr rfl)))]
      · rw [if_neg (fun q => z q.2)]
        by_cases z2 : k ∈ B.take i
        · rw [if_pos z2, if_pos (List.mem_append.mpr (Or.inl z2))]
        · rw [if_neg z2, if_neg (fun q => (List.mem_append.mp q).elim z2 (fun q => z (List.mem_singleton.mp q)))]
  · have e : i = B.length := by omega
    subst e
    rw [List.getElem?_eq_none (Nat.le_refl _)] at g1
    have g1 : bk = -1 := g1
    rw [List.take_length] at g4 g6 g7
    have e135' : D1 135 f = (T.length : Int) := by rw [g3 135 (by decide)]; exact e135
    have hgo : wp ((ard D1 135 8 (f : Int)).bind fun x17 => (awr D1 135 8 (f : Int) (w32 (x17 + 1))).bind fun D18 => some ((((flat P f T).length + B.length : Nat) : Int), D18)) (fun t => t.1 = (((flat P f (T ++ [g])).length : Nat) : Int) ∧ SD P f D0 (T ++ [g]) t.2 ∧ t.2 139 = D 139) := by
      rw [ard_n (by omega), Option.bind_some, e135', w32_succ (by omega), awr_n (by omega), Option.bind_some, wp_some]
      refine ⟨by rw [hfl, List.length_append], ⟨f01.put (by simp), fun i x hx => ?_, fun i hi => ?_, fun j h k hj hk => ?_, fun k hk => ?_, fun k hk => ?_, ?_, fun q hq => ?_⟩, ?_⟩
      · dsimp only
        rw [dput_nb _ (by decide)]
        rw [hfl] at hx
        exact g4 i x hx
      · dsimp only
        rw [dput_nb _ (by decide)]
        exact g5 i hi
      · dsimp only
        rw [dput_nb _ (by decide), g6 k]
        rw [List.getElem?_append] at hj
        split at hj
        · rename_i z
          have hhT : h ∈ T := List.mem_of_getElem? hj
          rw [if_neg, h3 j h k hj hk]
          intro q
          rw [hB] at q
          have := (ci.2.1 _ _ hk).symm.trans (ci.2.1 _ _ q)
          subst this
          exact hgT hhT
        · rename_i z
          have hj0 : j - T.length = 0 := by
            cases hz : j - T.length with
            | zero => rfl
            | succ q => rw [hz] at hj; simp at hj
          rw [hj0] at hj
          simp at hj
          subst hj
          rw [if_pos (by rw [hB]; exact hk)]
          omega
      · dsimp only
        rw [dput_nb _ (by decide), g6 k, if_neg (fun q => hk (hBb k q))]
        exact h4 k hk
      · dsimp only
        rw [dput_nb _ (by decide), g7 k, hfl, List.mem_append]
        by_cases z : k ∈ B
        · rw [if_pos z]; exact Or.inl ⟨rfl, Or.inr z⟩
        · rw [if_neg z]
          rcases h5 k hk with y | y
          · exact Or.inl ⟨y.1, Or.inl y.2⟩
          · exact Or.inr ⟨y.1, fun q => q.elim y.2 z⟩
      · dsimp only
        rw [dput_ss, List.length_append]; rfl
      · dsimp only
        rw [dput_sn _ hq, g3 135 (by decide)]
        exact h7 q hq
      · dsimp only
        rw [dput_nb _ (by decide), g3 139 (by decide)]
    rw [if_pos g1]
    split <;> (rw [wp_some, gd_r]; exact hgo)
theorem s_bindTo {D D0 : DT} {P : PG} (w : WF P) (d : DevP D0 4 P) {f : Nat} (hf : f < P 0 0) (hDF : DF P f D0) (hC : DCh P f (cf P f) D0) (hrow : Row D0 136 (clc P f)) {T : List Nat} (hT : TT P f T) {g : Nat} (hg : blk P f g) (hgg : (cf P f).2 g = g) (hgT : g ∉ T) (h : SD P f D0 (T ++ [g]) D) (hB : BD P f T D) : wp (m_X0_bindTo (g : Int) (((clc P f).length : Nat) : Int) D) (fun D' => SD P f D0 (T ++ [g]) D' ∧ BD P f (T ++ [g]) D') := by
  have h8 := w.f8; have h40 := w.b40; have h88 := w.a88
  have hT2 := hT.snoc hg hgg hgT
  have ci := ci_cf (P := P) (f := f)
  have hcl := (clc_ok (P := P) (f := f)).len w
  have hcd : ∀ k, Cd P f (flat P f (T ++ [g])) k → k ≠ g ∧ k ∉ T ∧ Cd P f (flat P f T) k := by
    rintro k ⟨k1, k2, k3⟩
    rw [head_flat hT2 k2, List.mem_append, List.mem_singleton] at k3
    have z1 : k ∉ T := fun q => k3 (Or.inl q)
    exact ⟨fun q => k3 (Or.inr q), z1, k1, k2, by rw [head_flat hT k2]; exact z1⟩
  unfold m_X0_bindTo
  rw [wp_bind]
  refine wp_for (clc P f).length (fun i s => s.1 = (i : Int) ∧ Fr [139] D s.2 ∧ ∀ k, Cd P f (flat P f (T ++ [g])) k → s.2 139 k = bd P f (flat P f T) k + bdl P ((cf P f).1 k) ((cf P f).1 g) ((clc P f).take i)) (Nat.zero_le _) ⟨rfl, Fr.rf, fun k hk => ?_⟩ ?_
  · show D 139 k = _
    rw [hB k (hcd k hk).2.2]; simp [bdl, ls]
  rintro i ⟨ii, D1⟩ hi ⟨g1, g2, g3⟩
  simp only at g1 g2 g3
  subst g1
  have f01 : Fr [132, 133, 135, 139, 140] D0 D1 := h.1.tr (g2.mo (by simp))
  have d1 := d.fr f01 (by decide)
  unfold b_X0_bindTo_2
  dsimp only
  rw [wp_ite]
  constructor
  rotate_left
  · intro q
    have : i = (clc P f).length := by omega
    subst this
    rw [wp_some, gd_r, wp_some]
    obtain ⟨c0, c1, c2, c3, c4, c5, c6, c7⟩ := h
    refine ⟨⟨f01, ?_, ?_, ?_, ?_, ?_, ?_, ?_⟩, fun k hk => ?_⟩
    · rw [g2 132 (by decide)]; exact c1
    · rw [g2 132 (by decide)]; exact c2
    · rw [g2 133 (by decide)]; exact c3
    · rw [g2 133 (by decide)]; exact c4
    · rw [g2 140 (by decide)]; exact c5
    · rw [g2 135 (by decide)]; exact c6
    · rw [g2 135 (by decide)]; exact c7
    · rw [g3 k hk, List.take_length]
      obtain ⟨z1, z2, z3⟩ := hcd k hk
      unfold bd
      rw [flat_snoc, bdl_step w hT hgg hgT z1 z2]
  intro q
  have hi2 : i < (clc P f).length := by omega
  obtain ⟨a, hae⟩ : ∃ a, a = (clc P f)[i] := ⟨_, rfl⟩
  have ham : a ∈ clc P f := by rw [hae]; exact List.getElem_mem hi2
  have ham2 := (clc_ok.mem a).mp ham
  have hab := clc_ok.blk w ham
  have hu40 : P 9 a < 40 := by have := hab.1.1; omega
  have hv40 : P 10 a < 40 := by have := hab.2.1; omega
  have hrow1 : D1 136 i = (a : Int) := by rw [f01 136 (by decide), hae]; exact hrow.at hi2
  have hC1 : ∀ k, blk P f k → D1 137 k = (((cf P f).2 k : Nat) : Int) := fun k hk => by rw [f01 137 (by decide)]; exact hC.1 k hk
  have h140 : ∀ k, blk P f k → (D1 140 k = 1 ∧ k ∈ flat P f (T ++ [g])) ∨ (D1 140 k = 0 ∧ k ∉ flat P f (T ++ [g])) := fun k hk => by rw [g2 140 (by decide)]; exact h.2.2.2.2.2.1 k hk
  have h123 : D1 123 a = phi P a := by rw [f01 123 (by decide)]; exact (hDF.1 a ham2.1 ham2.2.1).1
  have hstep : ∀ k, bdl P ((cf P f).1 k) ((cf P f).1 g) ((clc P f).take (i + 1)) = bdl P ((cf P f).1 k) ((cf P f).1 g) ((clc P f).take i) + @ite _ (con P ((cf P f).1 k) ((cf P f).1 g) a) (Classical.propDecidable _) (phi P a) 0 := fun k => by
    unfold bdl
    rw [List.take_succ_eq_append_getElem hi2, ls_append, ← hae]
    simp only [ls]; omega
  have hmem : ∀ k x : Nat, (cf P f).2 k = k → (x ∈ (cf P f).1 k ↔ (cf P f).2 x = k) := fun k x hk => ⟨fun z => ci.2.1 _ _ z, fun z => by rw [← z]; exact ci.1 x⟩
  have hbk : ∀ x, blk P f x → blk P f ((cf P f).2 x) := fun x hx => (cf_blk w (ci.1 x)).mp hx
  have hflat : ∀ x, x ∈ flat P f (T ++ [g]) ↔ (cf P f).2 x ∈ T ∨ (cf P f).2 x = g := fun x => by rw [mem_flat hT2, List.mem_append, List.mem_singleton]
  have hskip : (∀ k, Cd P f (flat P f (T ++ [g])) k → ¬ con P ((cf P f).1 k) ((cf P f).1 g) a) → i < (clc P f).length ∧ w32 ((i : Int) + 1) = ((i + 1 : Nat) : Int) ∧ Fr [139] D D1 ∧ ∀ k, Cd P f (flat P f (T ++ [g])) k → D1 139 k = bd P f (flat P f T) k + bdl P ((cf P f).1 k) ((cf P f).1 g) ((clc P f).take (i + 1)) := by
    intro hno
    refine ⟨hi2, w32_succ (by omega), g2, fun k hk => ?_⟩
    rw [hstep k, if_neg (hno k hk), g3 k hk]; omega
  have hadd : ∀ x, blk P f x → x ∉ flat P f (T ++ [g]) → (∀ k, Cd P f (flat P f (T ++ [g])) k → (con P ((cf P f).1 k) ((cf P f).1 g) a ↔ (cf P f).2 x = k)) → i < (clc P f).length ∧ w32 ((i : Int) + 1) = ((i + 1 : Nat) : Int) ∧ Fr [139] D (dput D1 139 ((cf P f).2 x) (w32 (D1 139 ((cf P f).2 x) + phi P a))) ∧ ∀ k, Cd P f (flat P f (T ++ [g])) k → dput D1 139 ((cf P f).2 x) (w32 (D1 139 ((cf P f).2 x) + phi P a)) 139 k = bd P f (flat P f T) k + bdl P ((cf P f).1 k) ((cf P f).1 g) ((clc P f).take (i + 1)) := by
    intro x hx hxf hco
    have hX : Cd P f (flat P f (T ++ [g])) ((cf P f).2 x) := ⟨hbk x hx, ci.hh x, fun z => hxf (by rw [hflat] at z ⊢; rw [ci.hh x] at z; exact z)⟩
    refine ⟨hi2, w32_succ (by omega), g2.put (by simp), fun k hk => ?_⟩
    rw [hstep k]
    by_cases z : k = (cf P f).2 x
    · subst z
      rw [dput_ss, if_pos ((hco _ hk).mpr rfl), g3 _ hk]
      have b1 := bdl_bd w (A := (cf P f).1 ((cf P f).2 x)) (S := flat P f T) hcl (fun b hb => ((clc_ok.mem b).mp hb).1)
      have b2 := bdl_bd w (A := (cf P f).1 ((cf P f).2 x)) (S := (cf P f).1 g) (l := (clc P f).take i) (by rw [List.length_take]; omega) (fun b hb => ((clc_ok.mem b).mp (List.mem_of_mem_take hb)).1)
      have b3 := phi_bd w ham2.1
      have b1' : -160000000 ≤ bd P f (flat P f T) ((cf P f).2 x) ∧ bd P f (flat P f T) ((cf P f).2 x) ≤ 160000000 := b1
      rw [w32_id (by omega) (by omega)]; omega
    · rw [dput_sn _ z, if_neg (fun y => z ((hco k hk).mp y).symm), g3 k hk]; omega
  have hX40 : ∀ x, blk P f x → (cf P f).2 x < 40 := fun x hx => by have := (hbk x hx).1; omega
  rw [ard_n (by omega), Option.bind_some, hrow1, ard_n (by omega), Option.bind_some, d1.fro a ham2.1, nz_ne (by omega), Option.bind_some, ard_n (by omega), Option.bind_some, d1.to a ham2.1, nz_ne (by omega), ard_n hu40, Option.bind_some, hC1 _ hab.1, wp_bind]
  have hcon : ∀ k, Cd P f (flat P f (T ++ [g])) k → (con P ((cf P f).1 k) ((cf P f).1 g) a ↔ ((cf P f).2 (P 9 a) = k ∧ (cf P f).2 (P 10 a) = g) ∨ ((cf P f).2 (P 10 a) = k ∧ (cf P f).2 (P 9 a) = g)) := fun k hk => by
    unfold con
    rw [hmem k _ hk.2.1, hmem k _ hk.2.1, hmem g _ hgg, hmem g _ hgg]
  have hsecond : ¬ ((cf P f).2 (P 9 a) = g ∧ P 10 a ∉ flat P f (T ++ [g])) → wp ((ard D1 137 40 ((P 10 a : Nat) : Int)).bind fun x23 => if x23 = (g : Int) then ((ard D1 140 40 ((P 9 a : Nat) : Int)).bind fun x24 => if x24 = 0 then ((some (((cf P f).2 (P 9 a) : Nat) : Int)).bind fun x25 => (ard D1 139 40 x25).bind fun x26 => (some (a : Int)).bind fun x27 => (ard D1 123 88 x27).bind fun x28 => (awr D1 139 40 x25 (w32 (x26 + x28))).bind fun D29 => some D29) else (some D1)) else (some D1)) (fun D30 => wp (some (Sum.inl (β := DT) (w32 ((i : Int) + 1), D30))) (fun t => gd t (fun s' => i < (clc P f).length ∧ s'.1 = ((i + 1 : Nat) : Int) ∧ Fr [139] D s'.2 ∧ ∀ k, Cd P f (flat P f (T ++ [g])) k → s'.2 139 k = bd P f (flat P f T) k + bdl P ((cf P f).1 k) ((cf P f).1 g) ((clc P f).take (i + 1))) (fun D34 => wp (some D34) (fun D' => SD P f D0 (T ++ [g]) D' ∧ BD P f (T ++ [g]) D')))) := by
    intro hn1
    rw [ard_n hv40, Option.bind_some, hC1 _ hab.2]
    by_cases e2 : (cf P f).2 (P 10 a) = g
    · rw [if_pos (by rw [e2]), ard_n hu40, Option.bind_some]
      rcases h140 _ hab.1 with ⟨y1, y2⟩ | ⟨y1, y2⟩
      · rw [y1, if_neg (by decide), wp_some, wp_some, gd_l]
        refine hskip (fun k hk hc => ?_)
        rcases (hcon k hk).mp hc with z | z
        · rw [hflat, z.1] at y2
          exact (hcd k hk).2.1 (y2.resolve_right (hcd k hk).1)
        · exact (hcd k hk).1 (z.1.symm.trans e2)
      · rw [y1, if_pos rfl, Option.bind_some, ard_n (hX40 _ hab.1), Option.bind_some, Option.bind_some, ard_n (by omega), Option.bind_some, h123, awr_n (hX40 _ hab.1), Option.bind_some, wp_some, wp_some, gd_l]
        refine hadd (P 9 a) hab.1 y2 (fun k hk => ?_)
        rw [hcon k hk]
        constructor
        · rintro (z | z)
          · exact z.1
          · exact absurd (z.1.symm.trans e2) (hcd k hk).1
        · intro z; exact Or.inl ⟨z, e2⟩
    · rw [if_neg (by omega), wp_some, wp_some, gd_l]
      refine hskip (fun k hk hc => ?_)
      rcases (hcon k hk).mp hc with z | z
      · exact e2 z.2
      · refine hn1 ⟨z.2, fun y => ?_⟩
        rw [hflat, z.1] at y
        exact (hcd k hk).2.1 (y.resolve_right (hcd k hk).1)
  by_cases e1 : (cf P f).2 (P 9 a) = g
  · rw [if_pos (by rw [e1]), ard_n hv40, Option.bind_some]
    rcases h140 _ hab.2 with ⟨y1, y2⟩ | ⟨y1, y2⟩
    · rw [y1, if_neg (by decide)]
      exact hsecond (fun z => z.2 y2)
    · rw [y1, if_pos rfl, ard_n hv40, Option.bind_some, hC1 _ hab.2, ard_n (hX40 _ hab.2), Option.bind_some, Option.bind_some, ard_n (by omega), Option.bind_some, h123, awr_n (hX40 _ hab.2), Option.bind_some, wp_some, wp_some, gd_l]
      refine hadd (P 10 a) hab.2 y2 (fun k hk => ?_)
      rw [hcon k hk]
      constructor
      · rintro (z | z)
        · exact absurd (z.1.symm.trans e1) (hcd k hk).1
        · exact z.1
      · intro z; exact Or.inr ⟨z, e1⟩
  · rw [if_neg (by omega)]
    exact hsecond (fun z => e1 z.1)
