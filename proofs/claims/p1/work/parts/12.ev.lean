/-! ===== loops without fuel, and what the abstract machine does from a place on ===== -/
def loopN {σ ρ : Type} (body : σ → Option (σ ⊕ ρ)) : Nat → σ → Option ρ
  | 0, _ => none
  | n + 1, s => (body s).bind fun t => match t with
    | .inl s' => loopN body n s'
    | .inr r => some r
theorem loopN_mono {σ ρ : Type} {body : σ → Option (σ ⊕ ρ)} : ∀ (n m : Nat) (s : σ) (r : ρ), n ≤ m → loopN body n s = some r → loopN body m s = some r
  | 0, _, _, _, _, h => by cases h
  | n + 1, 0, _, _, hm, _ => by omega
  | n + 1, m + 1, s, r, hm, h => by
    unfold loopN at h ⊢
    cases hb : body s with
    | none => rw [hb] at h; cases h
    | some t =>
      rw [hb] at h
      cases t with
      | inl s' => exact loopN_mono n m s' r (by omega) h
      | inr q => exact h
theorem loopN_det {σ ρ : Type} {body : σ → Option (σ ⊕ ρ)} {n m : Nat} {s : σ} {r q : ρ} (h : loopN body n s = some r) (h2 : loopN body m s = some q) : r = q := by
  have a := loopN_mono n (max n m) s r (Nat.le_max_left _ _) h
  have b := loopN_mono m (max n m) s q (Nat.le_max_right _ _) h2
  rw [a] at b
  exact Option.some.inj b
noncomputable def loop {σ ρ : Type} (body : σ → Option (σ ⊕ ρ)) (s : σ) : Option ρ := @dite _ (∃ (r : ρ) (n : Nat), loopN body n s = some r) (Classical.propDecidable _) (fun h => some h.choose) (fun _ => none)
theorem loop_iff {σ ρ : Type} {body : σ → Option (σ ⊕ ρ)} {s : σ} {r : ρ} : loop body s = some r ↔ ∃ n, loopN body n s = some r := by
  unfold loop
  by_cases h : ∃ (r : ρ) (n : Nat), loopN body n s = some r
  · rw [dif_pos h]
    constructor
    · intro e
      have e2 := Option.some.inj e
      rw [← e2]
      exact h.choose_spec
    · rintro ⟨n, hn⟩
      obtain ⟨m, hm⟩ := h.choose_spec
      rw [loopN_det hm hn]
  · rw [dif_neg h]
    constructor
    · intro e; cases e
    · intro e; exact absurd ⟨r, e⟩ h
theorem loop_eq {σ ρ : Type} (body : σ → Option (σ ⊕ ρ)) (s : σ) : loop body s = (body s).bind fun t => match t with
    | .inl s' => loop body s'
    | .inr r => some r := by
  apply Option.ext
  intro r
  rw [loop_iff]
  constructor
  · rintro ⟨n, hn⟩
    cases n with
    | zero => cases hn
    | succ n =>
      unfold loopN at hn
      cases hb : body s with
      | none => rw [hb] at hn; cases hn
      | some t =>
        rw [hb] at hn
        cases t with
        | inl s' => exact loop_iff.mpr ⟨n, hn⟩
        | inr q => exact hn
  · intro h
    cases hb : body s with
    | none => rw [hb] at h; cases h
    | some t =>
      rw [hb] at h
      cases t with
      | inl s' =>
        obtain ⟨n, hn⟩ := loop_iff.mp (show loop body s' = some r from h)
        exact ⟨n + 1, by unfold loopN; rw [hb]; exact hn⟩
      | inr q => exact ⟨1, by unfold loopN; rw [hb]; exact h⟩
theorem loop_ind {σ ρ : Type} {body : σ → Option (σ ⊕ ρ)} {P : σ → Prop} {X : ρ → Prop} {s : σ} {r : ρ} (h : loop body s = some r) (hX : X r) (hs : ∀ s t, body s = some t → (match t with | .inl s' => P s' | .inr r => X r) → P s) : P s := by
  obtain ⟨n, hn⟩ := loop_iff.mp h
  clear h
  induction n generalizing s with
  | zero => cases hn
  | succ n ih =>
    unfold loopN at hn
    cases hb : body s with
    | none => rw [hb] at hn; cases hn
    | some t =>
      rw [hb] at hn
      refine hs s t hb ?_
      cases t with
      | inl s' => exact ih hn
      | inr q =>
        have e : q = r := Option.some.inj hn
        rw [e]
        exact hX
theorem ite_or {α : Type} {c : Prop} {i : Decidable c} {A B : Option α} {t : α} (h : (if c then A else B) = some t) : (c ∧ A = some t) ∨ (¬ c ∧ B = some t) := by
  by_cases hc : c
  · exact Or.inl ⟨hc, by rw [if_pos hc] at h; exact h⟩
  · exact Or.inr ⟨hc, by rw [if_neg hc] at h; exact h⟩
theorem bnd {α β : Type} {X : Option α} {f : α → Option β} {t : β} (h : X.bind f = some t) : ∃ x, X = some x ∧ f x = some t := Option.bind_eq_some_iff.mp h
