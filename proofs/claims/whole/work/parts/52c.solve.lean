/-! ===== Flows.mend: solve ===== -/
def FlowOK (P : PG) (m : List Nat) (φ : Nat → Int) : Prop :=
  (∀ a ∈ m, a ∉ tl (P 9) (P 10) m.reverse → φ a = ((P 11 a : Nat) : Int)) ∧ (∀ k, k < 41 → ls (nt (P 9) (P 10) φ k) m = 0) ∧ ∀ a ∈ m, -1759824 ≤ φ a ∧ φ a ≤ 1759824
def SLm (P : PG) (f : Nat) (m : List Nat) : Prop := ∃ l, ArL P f l ∧ Ord id (fun a => ((P 11 a : Nat) : Int)) l m
theorem SLm.mem {P : PG} {f : Nat} {m : List Nat} (h : SLm P f m) (a : Nat) : a ∈ m ↔ a < P 0 2 ∧ fn P a = f := by
  obtain ⟨l, hl, ho⟩ := h
  rw [ho.1.mem_iff]; exact hl.2 a
theorem SLm.nodup {P : PG} {f : Nat} {m : List Nat} (h : SLm P f m) : m.Nodup := by
  obtain ⟨l, hl, ho⟩ := h
  exact List.Nodup.perm (List.Pairwise.imp (fun h => Nat.ne_of_lt h) hl.1) ho.1.symm
theorem SLm.len {P : PG} (w : WF P) {f : Nat} {m : List Nat} (h : SLm P f m) : m.length ≤ 88 := by
  obtain ⟨l, hl, ho⟩ := h
  rw [ho.1.length_eq]; exact hl.len w
theorem SLm.det {P : PG} {f : Nat} {m m' : List Nat} (h : SLm P f m) (h' : SLm P f m') : m = m' := by
  have hn := h.nodup; have hn' := h'.nodup
  have hp : m.Perm m' := (List.perm_ext_iff_of_nodup hn hn').mpr (fun a => by rw [h.mem, h'.mem])
  obtain ⟨l, hl, ho⟩ := h
  obtain ⟨l', hl', ho'⟩ := h'
  exact ord_det (l := m) ⟨List.Perm.refl _, ho.2⟩ ⟨hp.symm, ho'.2⟩
/-- while flows are worked out: O are the open arcs -/
def SV (P : PG) (f : Nat) (m : List Nat) (φ : Nat → Int) (D0 : DT) (O : List Nat) (D : DT) : Prop :=
  Fr [123, 127, 129, 130] D0 D ∧
  (∀ k, nd P f k → D 129 k = ls (ed (P 9) (P 10) k) O) ∧
  (∀ k, nd P f k → D 130 k = - ls (nt (P 9) (P 10) φ k) O) ∧
  (∀ a ∈ m, D 127 a = if a ∈ O then 1 else 0) ∧
  (∀ a ∈ m, a ∉ O → D 123 a = φ a) ∧
  (∀ a, a ∉ m → D 123 a = D0 123 a) ∧
  O.Nodup ∧ ∀ a ∈ O, a ∈ tl (P 9) (P 10) m.reverse
theorem SV.b130 {P : PG} {f : Nat} {m : List Nat} {φ : Nat → Int} {D0 D : DT} {O : List Nat} (hm : m.length ≤ 88) (hφ : FlowOK P m φ) (h : SV P f m φ D0 O D) {k : Nat} (hk : nd P f k) : -1000000000 ≤ D 130 k ∧ D 130 k ≤ 1000000000 := by
  obtain ⟨hF, h1, h2, h3, h4, h5, h6, h7⟩ := h
  have hOm : ∀ a ∈ O, a ∈ m := fun a ha => List.mem_reverse.mp (tl_sub (h7 a ha))
  have hl := List.Nodup.length_le_of_subset h6 hOm
  rw [h2 k hk]
  have hb := ls_bound (f := nt (P 9) (P 10) φ k) (B := 1759824) (l := O) (fun b hb => by
    have := hφ.2.2 b (hOm b hb)
    simp only [nt]; split <;> split <;> constructor <;> omega)
  omega
theorem SV.b129 {P : PG} {f : Nat} {m : List Nat} {φ : Nat → Int} {D0 D : DT} {O : List Nat} (hm : m.length ≤ 88) (h : SV P f m φ D0 O D) {k : Nat} (hk : nd P f k) : 0 ≤ D 129 k ∧ D 129 k ≤ 1000 := by
  obtain ⟨hF, h1, h2, h3, h4, h5, h6, h7⟩ := h
  have hOm : ∀ a ∈ O, a ∈ m := fun a ha => List.mem_reverse.mp (tl_sub (h7 a ha))
  have hl := List.Nodup.length_le_of_subset h6 hOm
  rw [h1 k hk]
  have hb := ls_bound (f := ed (P 9) (P 10) k) (B := 2) (l := O) (fun b hb => by unfold ed; split <;> split <;> omega)
  have := ls_nn (f := ed (P 9) (P 10) k) (l := O) (fun _ _ => ed_nn)
  omega
theorem s_close {D D0 : DT} {P : PG} (w : WF P) {f : Nat} {m : List Nat} {φ : Nat → Int} (hm : SLm P f m) (hφ : FlowOK P m φ) {O : List Nat} (h : SV P f m φ D0 O D) {a : Nat} (ha : a ∈ O) : wp ((m_X2_carry (a : Int) ((P 9 a : Nat) : Int) ((P 10 a : Nat) : Int) (φ a) D).bind fun D11 => (abit 0).bind fun x12 => (awr D11 127 88 (a : Int) x12).bind fun D13 => (ard D13 129 41 ((P 9 a : Nat) : Int)).bind fun x14 => (awr D13 129 41 ((P 9 a : Nat) : Int) (w32 (x14 - 1))).bind fun D15 => (ard D15 129 41 ((P 10 a : Nat) : Int)).bind fun x16 => (awr D15 129 41 ((P 10 a : Nat) : Int) (w32 (x16 - 1))).bind fun D17 => some ((1 : Int), D17)) (fun t => t.1 = 1 ∧ SV P f m φ D0 (O.erase a) t.2) := by
  have hml := hm.len w
  have hsv := h
  obtain ⟨hF, h1, h2, h3, h4, h5, h6, h7⟩ := h
  have ham : a ∈ m := List.mem_reverse.mp (tl_sub (h7 a ha))
  have ham2 := (hm.mem a).mp ham
  have h88 := w.a88
  have hu : nd P f (P 9 a) := ham2.2 ▸ nd_u w ham2.1
  have hv : nd P f (P 10 a) := ham2.2 ▸ nd_v w ham2.1
  have hu41 := nd_lt w hu; have hv41 := nd_lt w hv
  have huv : P 9 a ≠ P 10 a := tl_ne (h7 a ha)
  have hb := hφ.2.2 a ham
  have bu := hsv.b129 hml hu; have bv := hsv.b129 hml hv
  have aux : ∀ k, k = P 9 a ∨ k = P 10 a → -1000000000 ≤ D 130 k ∧ D 130 k ≤ 1000000000 := by
    intro k hk
    rcases hk with rfl | rfl
    · exact hsv.b130 hml hφ hu
    · exact hsv.b130 hml hφ hv
  rw [wp_bind]
  refine wp_mono (s_carry (by omega) hu41 hv41 (by omega) (by omega) aux) ?_
  rintro D1 ⟨g1, g2, g3, g4⟩
  have e129 : D1 129 = D 129 := g1 129 (by decide)
  rw [abit_0, Option.bind_some, awr_n (by omega), Option.bind_some, ard_n hu41, Option.bind_some, awr_n hu41, Option.bind_some, ard_n hv41, Option.bind_some, awr_n hv41, Option.bind_some, wp_some]
  rw [dput_nb _ (by decide : (129 : Nat) ≠ 127), dput_sn _ (fun e => huv e.symm), dput_nb _ (by decide : (129 : Nat) ≠ 127), e129, w32_id (by omega) (by omega), w32_id (by omega) (by omega)]
  obtain ⟨D3, hD3⟩ : ∃ D3, D3 = dput (dput (dput D1 127 a 0) 129 (P 9 a) (D 129 (P 9 a) - 1)) 129 (P 10 a) (D 129 (P 10 a) - 1) := ⟨_, rfl⟩
  rw [← hD3]
  have n1 : ∀ c : Nat, c ≠ 129 → c ≠ 127 → D3 c = D1 c := fun c z1 z2 => by rw [hD3, dput_nb _ z1, dput_nb _ z1, dput_nb _ z2]
  have n127 : ∀ b, D3 127 b = if b = a then 0 else D 127 b := fun b => by rw [hD3]; simp [dput_eq, g1 127 (by decide)]
  have n129 : ∀ k, D3 129 k = D 129 k - ed (P 9) (P 10) k a := fun k => by
    rw [hD3, dput_eq, dput_eq, dput_nb _ (by decide : (129 : Nat) ≠ 127), e129]
    unfold ed
    by_cases z1 : k = P 10 a
    · subst z1; simp [huv]
    · by_cases z2 : k = P 9 a
      · subst z2
        have : ¬ P 10 a = P 9 a := fun e => huv e.symm
        simp [z1, this]
      · have : ¬ P 10 a = k := fun e => z1 e.symm
        have : ¬ P 9 a = k := fun e => z2 e.symm
        simp [*]
  have hmem : ∀ b, b ∈ O.erase a ↔ b ≠ a ∧ b ∈ O := fun b => List.Nodup.mem_erase_iff h6
  refine ⟨rfl, (?_ : SV P f m φ D0 (O.erase a) D3)⟩
  refine ⟨hF.tr ((g1.mo (by simp)).tr (by rw [hD3]; exact ((Fr.rf.put (by simp)).put (by simp)).put (by simp))), fun k hk => ?_, fun k hk => ?_, fun b hbm => ?_, fun b hbm hbO => ?_, fun b hbm => ?_, h6.erase a, fun b hb => h7 b ((hmem b).mp hb).2⟩
  · rw [n129, h1 k hk, ls_erase ha]
  · rw [n1 130 (by decide) (by decide), g4 k, h2 k hk, ls_erase ha]
    simp only [nt]; omega
  · rw [n127, h3 b hbm]
    by_cases e : b = a
    · rw [if_pos e, if_neg (fun q => ((hmem b).mp q).1 e)]
    · rw [if_neg e]
      by_cases e2 : b ∈ O
      · rw [if_pos e2, if_pos ((hmem b).mpr ⟨e, e2⟩)]
      · rw [if_neg e2, if_neg (fun q => e2 ((hmem b).mp q).2)]
  · rw [n1 123 (by decide) (by decide)]
    by_cases e : b = a
    · rw [e]; exact g2
    · rw [g3 b e]
      exact h4 b hbm (fun q => hbO ((hmem b).mpr ⟨e, q⟩))
  · rw [n1 123 (by decide) (by decide), g3 b (fun e => hbm (e ▸ ham))]
    exact h5 b hbm
/-- an open arc that can be worked out now -/
def can (P : PG) (O : List Nat) (a : Nat) : Prop := (P 10 a ≠ 40 ∧ ls (ed (P 9) (P 10) (P 10 a)) O = 1) ∨ (P 9 a ≠ 40 ∧ ls (ed (P 9) (P 10) (P 9 a)) O = 1)
theorem s_solve {D D0 : DT} {P : PG} (w : WF P) (d : DevP D 4 P) {f : Nat} {m : List Nat} {φ : Nat → Int} (hm : SLm P f m) (hφ : FlowOK P m φ) {O : List Nat} (h : SV P f m φ D0 O D) {a : Nat} (ha : a ∈ O) : wp (m_X2_solve (a : Int) D) (fun t => (t.1 = 1 ∧ SV P f m φ D0 (O.erase a) t.2) ∨ (t.1 = 0 ∧ t.2 = D ∧ ¬ can P O a)) := by
  have hml := hm.len w
  have hsv := h
  obtain ⟨hF, h1, h2, h3, h4, h5, h6, h7⟩ := h
  have ham : a ∈ m := List.mem_reverse.mp (tl_sub (h7 a ha))
  have ham2 := (hm.mem a).mp ham
  have h88 := w.a88
  have hu : nd P f (P 9 a) := ham2.2 ▸ nd_u w ham2.1
  have hv : nd P f (P 10 a) := ham2.2 ▸ nd_v w ham2.1
  have hu41 := nd_lt w hu; have hv41 := nd_lt w hv
  have huv : P 9 a ≠ P 10 a := tl_ne (h7 a ha)
  have hb := hφ.2.2 a ham
  have hnv : ls (ed (P 9) (P 10) (P 10 a)) O = 1 → w32 (-(D 130 (P 10 a))) = φ a := by
    intro q
    rw [h2 _ hv, one_open h6 ha huv (Or.inr rfl) q]
    simp only [nt, if_true, if_neg huv]
    rw [w32_id (by omega) (by omega)]; omega
  have hnu : ls (ed (P 9) (P 10) (P 9 a)) O = 1 → D 130 (P 9 a) = φ a := by
    intro q
    rw [h2 _ hu, one_open h6 ha huv (Or.inl rfl) q]
    have : ¬ P 10 a = P 9 a := fun e => huv e.symm
    simp only [nt, if_true, if_neg this]
    omega
  have hc := s_close w hm hφ hsv ha
  unfold m_X2_solve
  rw [ard_n (by omega), Option.bind_some, d.fro a ham2.1, s_nodeOf, Option.bind_some, ard_n (by omega), Option.bind_some, d.to a ham2.1, s_nodeOf, Option.bind_some]
  have hno : ∀ (q : ¬ (P 10 a ≠ 40 ∧ ls (ed (P 9) (P 10) (P 10 a)) O = 1)), wp (if ((P 9 a : Nat) : Int) = 40 then some ((0 : Int), D) else ((ard D 129 41 ((P 9 a : Nat) : Int)).bind fun x7 => if x7 = 1 then (((if (0 : Int) = 0 then ((ard D 130 41 ((P 9 a : Nat) : Int)).bind fun x8 => some x8) else ((ard D 130 41 ((P 10 a : Nat) : Int)).bind fun x9 => some (w32 (-x9))) : Option Int)).bind fun t10 => (m_X2_carry (a : Int) ((P 9 a : Nat) : Int) ((P 10 a : Nat) : Int) t10 D).bind fun D11 => (abit 0).bind fun x12 => (awr D11 127 88 (a : Int) x12).bind fun D13 => (ard D13 129 41 ((P 9 a : Nat) : Int)).bind fun x14 => (awr D13 129 41 ((P 9 a : Nat) : Int) (w32 (x14 - 1))).bind fun D15 => (ard D15 129 41 ((P 10 a : Nat) : Int)).bind fun x16 => (awr D15 129 41 ((P 10 a : Nat) : Int) (w32 (x16 - 1))).bind fun D17 => some ((1 : Int), D17)) else (some (0, D)))) (fun t => (t.1 = 1 ∧ SV P f m φ D0 (O.erase a) t.2) ∨ (t.1 = 0 ∧ t.2 = D ∧ ¬ can P O a)) := by
    intro q
    rw [wp_ite]
    constructor
    · intro e
      rw [wp_some]
      refine Or.inr ⟨rfl, rfl, ?_⟩
      rintro (z | z)
      · exact q z
      · exact z.1 (by omega)
    · intro e
      rw [ard_n hu41, Option.bind_some, h1 _ hu, wp_ite]
      constructor
      · intro e2
        rw [if_pos rfl, ard_n hu41, Option.bind_some, Option.bind_some, hnu e2]
        exact wp_mono hc (fun t q => Or.inl q)
      · intro e2
        rw [wp_some]
        refine Or.inr ⟨rfl, rfl, ?_⟩
        rintro (z | z)
        · exact q z
        · exact e2 z.2
  by_cases hv40 : P 10 a = 40
  · rw [if_pos (by omega), Option.bind_some, if_pos rfl]
    exact hno (fun z => z.1 hv40)
  · rw [if_neg (by omega), ard_n hv41, Option.bind_some, h1 _ hv]
    by_cases h1v : ls (ed (P 9) (P 10) (P 10 a)) O = 1
    · rw [if_pos h1v, Option.bind_some, if_neg (by decide), if_neg (by decide), ard_n hv41, Option.bind_some, Option.bind_some, hnv h1v]
      exact wp_mono hc (fun t q => Or.inl q)
    · rw [if_neg h1v, Option.bind_some, if_pos rfl]
      exact hno (fun z => h1v z.2)
