/-! ===== cells are only added ===== -/
def MON (σ σ' : ST) : Prop := σ.1.length ≤ σ'.1.length ∧ slo σ.1 ≤ slo σ'.1
theorem MON.rfl' {σ : ST} : MON σ σ := ⟨Nat.le_refl _, Nat.le_refl _⟩
theorem MON.trans {a b c : ST} (h : MON a b) (h2 : MON b c) : MON a c := ⟨Nat.le_trans h.1 h2.1, Nat.le_trans h.2 h2.2⟩
theorem MON.app {sh : List SC} {x : SC} {D D' : DT} {y : ST} (h : MON (sh ++ [x], D) y) : MON (sh, D') y := by
  obtain ⟨h1, h2⟩ := h
  have e1 : (sh ++ [x]).length = sh.length + 1 := by rw [List.length_append]; rfl
  have e2 := slo_app sh x
  constructor
  · show sh.length ≤ _
    have : (sh ++ [x]).length ≤ _ := h1
    omega
  · show slo sh ≤ _
    have : slo (sh ++ [x]) ≤ _ := h2
    omega
theorem MON.set {sh : List SC} {r tag n tag' : Nat} {refs refs' : List Nat} {D D' : DT} {y : ST} (hr : sh[r]? = some (tag, n, refs)) (h : MON (sh.set r (tag', n, refs'), D) y) : MON (sh, D') y := by
  obtain ⟨h1, h2⟩ := h
  have e1 : (sh.set r (tag', n, refs')).length = sh.length := List.length_set
  have e2 := slo_set (tag' := tag') (refs' := refs') hr
  constructor
  · show sh.length ≤ _
    have : (sh.set r (tag', n, refs')).length ≤ _ := h1
    omega
  · show slo sh ≤ _
    have : slo (sh.set r (tag', n, refs')) ≤ _ := h2
    omega
theorem bif_or {α : Type} {c : Bool} {A B : Option α} {t : α} (h : (bif c then A else B) = some t) : A = some t ∨ B = some t := by
  cases c
  · exact Or.inr h
  · exact Or.inl h
theorem cnd_or {α : Type} {c : Nat} {a b : Int} {A B : Option α} {t : α} (h : cnd c a b A B = some t) : A = some t ∨ B = some t := by
  unfold cnd at h
  split at h <;> (rcases ite_or h with ⟨_, h⟩ | ⟨_, h⟩ <;> first | exact Or.inl h | exact Or.inr h)
theorem tsw_k {α : Type} {g : Nat → Option α} {x : Int} {dd : Nat} : ∀ {ts : List Int} {lo : Int} {r : α}, tsw g x dd lo ts = some r → ∃ t, g t = some r
  | [], _, _, h => ⟨_, h⟩
  | t :: ts, lo, r, h => by
    simp only [tsw] at h
    rcases ite_or h with ⟨_, h⟩ | ⟨_, h⟩
    · exact ⟨_, h⟩
    · exact tsw_k h
theorem lsw_k {α : Type} {g : Nat → Option α} {x : Int} {dd : Nat} : ∀ {ts : List Int} {r : α}, lsw g x dd ts = some r → ∃ t, g t = some r
  | [], _, h => ⟨_, h⟩
  | [_], _, h => ⟨_, h⟩
  | v :: t :: ts, r, h => by
    simp only [lsw] at h
    rcases ite_or h with ⟨_, h⟩ | ⟨_, h⟩
    · exact ⟨_, h⟩
    · exact lsw_k h
theorem MON.d {sh : List SC} {D D' : DT} {y : ST} (h : MON (sh, D) y) : MON (sh, D') y := h
theorem mo_0 {call : CALLF} {pc len a b c : Nat} {ex : List Int} {L : List (Option AV)} {S : List AV} {sh : List SC} {D : DT} {k : Nat → List (Option AV) → List AV → ST → Option RES} {res : RES} (hcall : ∀ q A σ x, call q A σ = some x → MON σ x.2) (hk : ∀ pc L S σ, k pc L S σ = some res → MON σ res.2) (h : stepI call (0, len, a, b, c, ex) pc L S (sh, D) k = some res) : MON (sh, D) res.2 := by
  simp only [stepI] at h
  split at h
  · exact hk _ _ _ _ h
  · cases h
theorem mo_1 {call : CALLF} {pc len a b c : Nat} {ex : List Int} {L : List (Option AV)} {S : List AV} {sh : List SC} {D : DT} {k : Nat → List (Option AV) → List AV → ST → Option RES} {res : RES} (hcall : ∀ q A σ x, call q A σ = some x → MON σ x.2) (hk : ∀ pc L S σ, k pc L S σ = some res → MON σ res.2) (h : stepI call (1, len, a, b, c, ex) pc L S (sh, D) k = some res) : MON (sh, D) res.2 := by
  simp only [stepI] at h
  split at h
  · exact hk _ _ _ _ h
  · cases h
theorem mo_2 {call : CALLF} {pc len a b c : Nat} {ex : List Int} {L : List (Option AV)} {S : List AV} {sh : List SC} {D : DT} {k : Nat → List (Option AV) → List AV → ST → Option RES} {res : RES} (hcall : ∀ q A σ x, call q A σ = some x → MON σ x.2) (hk : ∀ pc L S σ, k pc L S σ = some res → MON σ res.2) (h : stepI call (2, len, a, b, c, ex) pc L S (sh, D) k = some res) : MON (sh, D) res.2 := by
  simp only [stepI] at h
  split at h
  · split at h
    · rcases bif_or h with h | h
      · split at h
        · exact hk _ _ _ _ h
        · exact hk _ _ _ _ h
        · exact hk _ _ _ _ h
        · split at h
          · exact hk _ _ _ _ h
          · cases h
      · cases h
    · cases h
  · cases h
theorem mo_3 {call : CALLF} {pc len a b c : Nat} {ex : List Int} {L : List (Option AV)} {S : List AV} {sh : List SC} {D : DT} {k : Nat → List (Option AV) → List AV → ST → Option RES} {res : RES} (hcall : ∀ q A σ x, call q A σ = some x → MON σ x.2) (hk : ∀ pc L S σ, k pc L S σ = some res → MON σ res.2) (h : stepI call (3, len, a, b, c, ex) pc L S (sh, D) k = some res) : MON (sh, D) res.2 := by
  simp only [stepI] at h
  split at h
  · exact hk _ _ _ _ h
  · cases h
theorem mo_4 {call : CALLF} {pc len a b c : Nat} {ex : List Int} {L : List (Option AV)} {S : List AV} {sh : List SC} {D : DT} {k : Nat → List (Option AV) → List AV → ST → Option RES} {res : RES} (hcall : ∀ q A σ x, call q A σ = some x → MON σ x.2) (hk : ∀ pc L S σ, k pc L S σ = some res → MON σ res.2) (h : stepI call (4, len, a, b, c, ex) pc L S (sh, D) k = some res) : MON (sh, D) res.2 := by
  simp only [stepI] at h
  rcases bif_or h with h | h
  · obtain ⟨x, hx, h⟩ := bnd h
    exact MON.trans (hcall _ _ _ _ hx) (hk _ _ _ _ h)
  · cases h
theorem mo_5 {call : CALLF} {pc len a b c : Nat} {ex : List Int} {L : List (Option AV)} {S : List AV} {sh : List SC} {D : DT} {k : Nat → List (Option AV) → List AV → ST → Option RES} {res : RES} (hcall : ∀ q A σ x, call q A σ = some x → MON σ x.2) (hk : ∀ pc L S σ, k pc L S σ = some res → MON σ res.2) (h : stepI call (5, len, a, b, c, ex) pc L S (sh, D) k = some res) : MON (sh, D) res.2 := by
  simp only [stepI] at h
  split at h
  · split at h
    · rcases bif_or h with h | h
      · obtain ⟨_, _, h⟩ := bnd h
        exact hk _ _ _ _ h
      · cases h
    · cases h
  · cases h
theorem mo_6 {call : CALLF} {pc len a b c : Nat} {ex : List Int} {L : List (Option AV)} {S : List AV} {sh : List SC} {D : DT} {k : Nat → List (Option AV) → List AV → ST → Option RES} {res : RES} (hcall : ∀ q A σ x, call q A σ = some x → MON σ x.2) (hk : ∀ pc L S σ, k pc L S σ = some res → MON σ res.2) (h : stepI call (6, len, a, b, c, ex) pc L S (sh, D) k = some res) : MON (sh, D) res.2 := by
  simp only [stepI] at h
  split at h
  · split at h
    · cases h; exact MON.rfl'
    · obtain ⟨_, _, h⟩ := bnd h
      cases h; exact MON.rfl'
  · cases h
theorem mo_7 {call : CALLF} {pc len a b c : Nat} {ex : List Int} {L : List (Option AV)} {S : List AV} {sh : List SC} {D : DT} {k : Nat → List (Option AV) → List AV → ST → Option RES} {res : RES} (hcall : ∀ q A σ x, call q A σ = some x → MON σ x.2) (hk : ∀ pc L S σ, k pc L S σ = some res → MON σ res.2) (h : stepI call (7, len, a, b, c, ex) pc L S (sh, D) k = some res) : MON (sh, D) res.2 := by
  simp only [stepI] at h
  exact hk _ _ _ _ h
theorem mo_8 {call : CALLF} {pc len a b c : Nat} {ex : List Int} {L : List (Option AV)} {S : List AV} {sh : List SC} {D : DT} {k : Nat → List (Option AV) → List AV → ST → Option RES} {res : RES} (hcall : ∀ q A σ x, call q A σ = some x → MON σ x.2) (hk : ∀ pc L S σ, k pc L S σ = some res → MON σ res.2) (h : stepI call (8, len, a, b, c, ex) pc L S (sh, D) k = some res) : MON (sh, D) res.2 := by
  simp only [stepI] at h
  split at h
  · rcases bif_or h with h | h
    · exact hk _ _ _ _ h
    · cases h
  · cases h
theorem mo_9 {call : CALLF} {pc len a b c : Nat} {ex : List Int} {L : List (Option AV)} {S : List AV} {sh : List SC} {D : DT} {k : Nat → List (Option AV) → List AV → ST → Option RES} {res : RES} (hcall : ∀ q A σ x, call q A σ = some x → MON σ x.2) (hk : ∀ pc L S σ, k pc L S σ = some res → MON σ res.2) (h : stepI call (9, len, a, b, c, ex) pc L S (sh, D) k = some res) : MON (sh, D) res.2 := by
  simp only [stepI] at h
  split at h
  · exact hk _ _ _ _ h
  · cases h
theorem mo_10 {call : CALLF} {pc len a b c : Nat} {ex : List Int} {L : List (Option AV)} {S : List AV} {sh : List SC} {D : DT} {k : Nat → List (Option AV) → List AV → ST → Option RES} {res : RES} (hcall : ∀ q A σ x, call q A σ = some x → MON σ x.2) (hk : ∀ pc L S σ, k pc L S σ = some res → MON σ res.2) (h : stepI call (10, len, a, b, c, ex) pc L S (sh, D) k = some res) : MON (sh, D) res.2 := by
  simp only [stepI] at h
  split at h
  · split at h
    · rcases bif_or h with h | h
      · split at h
        · exact MON.d (hk _ _ _ _ h)
        · obtain ⟨_, _, h⟩ := bnd h
          exact MON.d (hk _ _ _ _ h)
        · cases h
      · cases h
    · cases h
  · split at h
    · rcases bif_or h with h | h
      · exact MON.d (hk _ _ _ _ h)
      · cases h
    · cases h
  · split at h
    · rename_i hr
      rcases bif_or h with h | h
      · exact MON.set hr (hk _ _ _ _ h)
      · cases h
    · cases h
  · cases h
theorem mo_11 {call : CALLF} {pc len a b c : Nat} {ex : List Int} {L : List (Option AV)} {S : List AV} {sh : List SC} {D : DT} {k : Nat → List (Option AV) → List AV → ST → Option RES} {res : RES} (hcall : ∀ q A σ x, call q A σ = some x → MON σ x.2) (hk : ∀ pc L S σ, k pc L S σ = some res → MON σ res.2) (h : stepI call (11, len, a, b, c, ex) pc L S (sh, D) k = some res) : MON (sh, D) res.2 := by
  simp only [stepI] at h
  split at h
  · rcases cnd_or h with h | h
    · exact hk _ _ _ _ h
    · exact hk _ _ _ _ h
  · cases h
theorem mo_12 {call : CALLF} {pc len a b c : Nat} {ex : List Int} {L : List (Option AV)} {S : List AV} {sh : List SC} {D : DT} {k : Nat → List (Option AV) → List AV → ST → Option RES} {res : RES} (hcall : ∀ q A σ x, call q A σ = some x → MON σ x.2) (hk : ∀ pc L S σ, k pc L S σ = some res → MON σ res.2) (h : stepI call (12, len, a, b, c, ex) pc L S (sh, D) k = some res) : MON (sh, D) res.2 := by
  simp only [stepI] at h
  split at h
  · rcases bif_or h with h | h
    · exact hk _ _ _ _ h
    · cases h
  · cases h
theorem mo_13 {call : CALLF} {pc len a b c : Nat} {ex : List Int} {L : List (Option AV)} {S : List AV} {sh : List SC} {D : DT} {k : Nat → List (Option AV) → List AV → ST → Option RES} {res : RES} (hcall : ∀ q A σ x, call q A σ = some x → MON σ x.2) (hk : ∀ pc L S σ, k pc L S σ = some res → MON σ res.2) (h : stepI call (13, len, a, b, c, ex) pc L S (sh, D) k = some res) : MON (sh, D) res.2 := by
  simp only [stepI] at h
  split at h
  · split at h
    · rcases bif_or h with h | h
      · obtain ⟨_, _, h⟩ := bnd h
        exact MON.d (hk _ _ _ _ h)
      · cases h
    · cases h
  · cases h
theorem mo_14 {call : CALLF} {pc len a b c : Nat} {ex : List Int} {L : List (Option AV)} {S : List AV} {sh : List SC} {D : DT} {k : Nat → List (Option AV) → List AV → ST → Option RES} {res : RES} (hcall : ∀ q A σ x, call q A σ = some x → MON σ x.2) (hk : ∀ pc L S σ, k pc L S σ = some res → MON σ res.2) (h : stepI call (14, len, a, b, c, ex) pc L S (sh, D) k = some res) : MON (sh, D) res.2 := by
  simp only [stepI] at h
  split at h
  · rcases cnd_or h with h | h
    · exact hk _ _ _ _ h
    · exact hk _ _ _ _ h
  · cases h
theorem mo_15 {call : CALLF} {pc len a b c : Nat} {ex : List Int} {L : List (Option AV)} {S : List AV} {sh : List SC} {D : DT} {k : Nat → List (Option AV) → List AV → ST → Option RES} {res : RES} (hcall : ∀ q A σ x, call q A σ = some x → MON σ x.2) (hk : ∀ pc L S σ, k pc L S σ = some res → MON σ res.2) (h : stepI call (15, len, a, b, c, ex) pc L S (sh, D) k = some res) : MON (sh, D) res.2 := by
  simp only [stepI] at h
  split at h
  · cases h; exact MON.rfl'
  · cases h
theorem mo_16 {call : CALLF} {pc len a b c : Nat} {ex : List Int} {L : List (Option AV)} {S : List AV} {sh : List SC} {D : DT} {k : Nat → List (Option AV) → List AV → ST → Option RES} {res : RES} (hcall : ∀ q A σ x, call q A σ = some x → MON σ x.2) (hk : ∀ pc L S σ, k pc L S σ = some res → MON σ res.2) (h : stepI call (16, len, a, b, c, ex) pc L S (sh, D) k = some res) : MON (sh, D) res.2 := by
  simp only [stepI] at h
  split at h
  · exact hk _ _ _ _ h
  · cases h
theorem mo_17 {call : CALLF} {pc len a b c : Nat} {ex : List Int} {L : List (Option AV)} {S : List AV} {sh : List SC} {D : DT} {k : Nat → List (Option AV) → List AV → ST → Option RES} {res : RES} (hcall : ∀ q A σ x, call q A σ = some x → MON σ x.2) (hk : ∀ pc L S σ, k pc L S σ = some res → MON σ res.2) (h : stepI call (17, len, a, b, c, ex) pc L S (sh, D) k = some res) : MON (sh, D) res.2 := by
  simp only [stepI] at h
  split at h
  · exact hk _ _ _ _ h
  · cases h
theorem mo_18 {call : CALLF} {pc len a b c : Nat} {ex : List Int} {L : List (Option AV)} {S : List AV} {sh : List SC} {D : DT} {k : Nat → List (Option AV) → List AV → ST → Option RES} {res : RES} (hcall : ∀ q A σ x, call q A σ = some x → MON σ x.2) (hk : ∀ pc L S σ, k pc L S σ = some res → MON σ res.2) (h : stepI call (18, len, a, b, c, ex) pc L S (sh, D) k = some res) : MON (sh, D) res.2 := by
  simp only [stepI] at h
  split at h
  · exact hk _ _ _ _ h
  · exact hk _ _ _ _ h
  · cases h
theorem mo_19 {call : CALLF} {pc len a b c : Nat} {ex : List Int} {L : List (Option AV)} {S : List AV} {sh : List SC} {D : DT} {k : Nat → List (Option AV) → List AV → ST → Option RES} {res : RES} (hcall : ∀ q A σ x, call q A σ = some x → MON σ x.2) (hk : ∀ pc L S σ, k pc L S σ = some res → MON σ res.2) (h : stepI call (19, len, a, b, c, ex) pc L S (sh, D) k = some res) : MON (sh, D) res.2 := by
  simp only [stepI] at h
  split at h
  · split at h
    · rcases bif_or h with h | h
      · obtain ⟨_, _, h⟩ := bnd h
        exact hk _ _ _ _ h
      · cases h
    · cases h
  · cases h
theorem mo_20 {call : CALLF} {pc len a b c : Nat} {ex : List Int} {L : List (Option AV)} {S : List AV} {sh : List SC} {D : DT} {k : Nat → List (Option AV) → List AV → ST → Option RES} {res : RES} (hcall : ∀ q A σ x, call q A σ = some x → MON σ x.2) (hk : ∀ pc L S σ, k pc L S σ = some res → MON σ res.2) (h : stepI call (20, len, a, b, c, ex) pc L S (sh, D) k = some res) : MON (sh, D) res.2 := by
  simp only [stepI] at h
  split at h
  · split at h
    · rcases bif_or h with h | h
      · obtain ⟨_, _, h⟩ := bnd h
        obtain ⟨_, _, h⟩ := bnd h
        exact MON.d (hk _ _ _ _ h)
      · rcases bif_or h with h | h
        · obtain ⟨_, _, h⟩ := bnd h
          exact MON.d (hk _ _ _ _ h)
        · cases h
    · cases h
  · cases h
theorem mo_21 {call : CALLF} {pc len a b c : Nat} {ex : List Int} {L : List (Option AV)} {S : List AV} {sh : List SC} {D : DT} {k : Nat → List (Option AV) → List AV → ST → Option RES} {res : RES} (hcall : ∀ q A σ x, call q A σ = some x → MON σ x.2) (hk : ∀ pc L S σ, k pc L S σ = some res → MON σ res.2) (h : stepI call (21, len, a, b, c, ex) pc L S (sh, D) k = some res) : MON (sh, D) res.2 := by
  simp only [stepI] at h
  split at h
  · exact hk _ _ _ _ h
  · exact hk _ _ _ _ h
  · cases h
theorem mo_22 {call : CALLF} {pc len a b c : Nat} {ex : List Int} {L : List (Option AV)} {S : List AV} {sh : List SC} {D : DT} {k : Nat → List (Option AV) → List AV → ST → Option RES} {res : RES} (hcall : ∀ q A σ x, call q A σ = some x → MON σ x.2) (hk : ∀ pc L S σ, k pc L S σ = some res → MON σ res.2) (h : stepI call (22, len, a, b, c, ex) pc L S (sh, D) k = some res) : MON (sh, D) res.2 := by
  simp only [stepI] at h
  split at h
  · split at h
    · rcases bif_or h with h | h
      · obtain ⟨_, _, h⟩ := bnd h
        exact hk _ _ _ _ h
      · cases h
    · cases h
  · cases h
theorem mo_23 {call : CALLF} {pc len a b c : Nat} {ex : List Int} {L : List (Option AV)} {S : List AV} {sh : List SC} {D : DT} {k : Nat → List (Option AV) → List AV → ST → Option RES} {res : RES} (hcall : ∀ q A σ x, call q A σ = some x → MON σ x.2) (hk : ∀ pc L S σ, k pc L S σ = some res → MON σ res.2) (h : stepI call (23, len, a, b, c, ex) pc L S (sh, D) k = some res) : MON (sh, D) res.2 := by
  simp only [stepI] at h
  split at h
  · rcases bif_or h with h | h
    · exact hk _ _ _ _ h
    · cases h
  · cases h
theorem mo_24 {call : CALLF} {pc len a b c : Nat} {ex : List Int} {L : List (Option AV)} {S : List AV} {sh : List SC} {D : DT} {k : Nat → List (Option AV) → List AV → ST → Option RES} {res : RES} (hcall : ∀ q A σ x, call q A σ = some x → MON σ x.2) (hk : ∀ pc L S σ, k pc L S σ = some res → MON σ res.2) (h : stepI call (24, len, a, b, c, ex) pc L S (sh, D) k = some res) : MON (sh, D) res.2 := by
  simp only [stepI] at h
  split at h
  · rcases bif_or h with h | h
    · exact hk _ _ _ _ h
    · cases h
  · cases h
theorem mo_25 {call : CALLF} {pc len a b c : Nat} {ex : List Int} {L : List (Option AV)} {S : List AV} {sh : List SC} {D : DT} {k : Nat → List (Option AV) → List AV → ST → Option RES} {res : RES} (hcall : ∀ q A σ x, call q A σ = some x → MON σ x.2) (hk : ∀ pc L S σ, k pc L S σ = some res → MON σ res.2) (h : stepI call (25, len, a, b, c, ex) pc L S (sh, D) k = some res) : MON (sh, D) res.2 := by
  simp only [stepI] at h
  split at h
  · rcases bif_or h with h | h
    · exact hk _ _ _ _ h
    · cases h
  · cases h
theorem mo_26 {call : CALLF} {pc len a b c : Nat} {ex : List Int} {L : List (Option AV)} {S : List AV} {sh : List SC} {D : DT} {k : Nat → List (Option AV) → List AV → ST → Option RES} {res : RES} (hcall : ∀ q A σ x, call q A σ = some x → MON σ x.2) (hk : ∀ pc L S σ, k pc L S σ = some res → MON σ res.2) (h : stepI call (26, len, a, b, c, ex) pc L S (sh, D) k = some res) : MON (sh, D) res.2 := by
  simp only [stepI] at h
  split at h
  · split at h
    · rcases bif_or h with h | h
      · obtain ⟨_, _, h⟩ := bnd h
        exact MON.d (hk _ _ _ _ h)
      · cases h
    · cases h
  · cases h
theorem mo_27 {call : CALLF} {pc len a b c : Nat} {ex : List Int} {L : List (Option AV)} {S : List AV} {sh : List SC} {D : DT} {k : Nat → List (Option AV) → List AV → ST → Option RES} {res : RES} (hcall : ∀ q A σ x, call q A σ = some x → MON σ x.2) (hk : ∀ pc L S σ, k pc L S σ = some res → MON σ res.2) (h : stepI call (27, len, a, b, c, ex) pc L S (sh, D) k = some res) : MON (sh, D) res.2 := by
  simp only [stepI] at h
  split at h
  · obtain ⟨_, h⟩ := tsw_k h
    exact hk _ _ _ _ h
  · cases h
theorem mo_28 {call : CALLF} {pc len a b c : Nat} {ex : List Int} {L : List (Option AV)} {S : List AV} {sh : List SC} {D : DT} {k : Nat → List (Option AV) → List AV → ST → Option RES} {res : RES} (hcall : ∀ q A σ x, call q A σ = some x → MON σ x.2) (hk : ∀ pc L S σ, k pc L S σ = some res → MON σ res.2) (h : stepI call (28, len, a, b, c, ex) pc L S (sh, D) k = some res) : MON (sh, D) res.2 := by
  simp only [stepI] at h
  split at h
  · obtain ⟨_, h⟩ := lsw_k h
    exact hk _ _ _ _ h
  · cases h
theorem mo_29 {call : CALLF} {pc len a b c : Nat} {ex : List Int} {L : List (Option AV)} {S : List AV} {sh : List SC} {D : DT} {k : Nat → List (Option AV) → List AV → ST → Option RES} {res : RES} (hcall : ∀ q A σ x, call q A σ = some x → MON σ x.2) (hk : ∀ pc L S σ, k pc L S σ = some res → MON σ res.2) (h : stepI call (29, len, a, b, c, ex) pc L S (sh, D) k = some res) : MON (sh, D) res.2 := by
  simp only [stepI] at h
  split at h
  · obtain ⟨_, _, h⟩ := bnd h
    exact hk _ _ _ _ h
  · cases h
theorem mo_30 {call : CALLF} {pc len a b c : Nat} {ex : List Int} {L : List (Option AV)} {S : List AV} {sh : List SC} {D : DT} {k : Nat → List (Option AV) → List AV → ST → Option RES} {res : RES} (hcall : ∀ q A σ x, call q A σ = some x → MON σ x.2) (hk : ∀ pc L S σ, k pc L S σ = some res → MON σ res.2) (h : stepI call (30, len, a, b, c, ex) pc L S (sh, D) k = some res) : MON (sh, D) res.2 := by
  simp only [stepI] at h
  split at h
  · obtain ⟨_, _, h⟩ := bnd h
    exact hk _ _ _ _ h
  · cases h
theorem mo_31 {call : CALLF} {pc len a b c : Nat} {ex : List Int} {L : List (Option AV)} {S : List AV} {sh : List SC} {D : DT} {k : Nat → List (Option AV) → List AV → ST → Option RES} {res : RES} (hcall : ∀ q A σ x, call q A σ = some x → MON σ x.2) (hk : ∀ pc L S σ, k pc L S σ = some res → MON σ res.2) (h : stepI call (31, len, a, b, c, ex) pc L S (sh, D) k = some res) : MON (sh, D) res.2 := by
  simp only [stepI] at h
  split at h
  · exact hk _ _ _ _ h
  · cases h
theorem mo_32 {call : CALLF} {pc len a b c : Nat} {ex : List Int} {L : List (Option AV)} {S : List AV} {sh : List SC} {D : DT} {k : Nat → List (Option AV) → List AV → ST → Option RES} {res : RES} (hcall : ∀ q A σ x, call q A σ = some x → MON σ x.2) (hk : ∀ pc L S σ, k pc L S σ = some res → MON σ res.2) (h : stepI call (32, len, a, b, c, ex) pc L S (sh, D) k = some res) : MON (sh, D) res.2 := by
  simp only [stepI] at h
  split at h
  · exact hk _ _ _ _ h
  · cases h
theorem mo_33 {call : CALLF} {pc len a b c : Nat} {ex : List Int} {L : List (Option AV)} {S : List AV} {sh : List SC} {D : DT} {k : Nat → List (Option AV) → List AV → ST → Option RES} {res : RES} (hcall : ∀ q A σ x, call q A σ = some x → MON σ x.2) (hk : ∀ pc L S σ, k pc L S σ = some res → MON σ res.2) (h : stepI call (33, len, a, b, c, ex) pc L S (sh, D) k = some res) : MON (sh, D) res.2 := by
  simp only [stepI] at h
  split at h
  · exact hk _ _ _ _ h
  · cases h
theorem mo_34 {call : CALLF} {pc len a b c : Nat} {ex : List Int} {L : List (Option AV)} {S : List AV} {sh : List SC} {D : DT} {k : Nat → List (Option AV) → List AV → ST → Option RES} {res : RES} (hcall : ∀ q A σ x, call q A σ = some x → MON σ x.2) (hk : ∀ pc L S σ, k pc L S σ = some res → MON σ res.2) (h : stepI call (34, len, a, b, c, ex) pc L S (sh, D) k = some res) : MON (sh, D) res.2 := by
  simp only [stepI] at h
  split at h
  · exact hk _ _ _ _ h
  · cases h
theorem mo_35 {call : CALLF} {pc len a b c : Nat} {ex : List Int} {L : List (Option AV)} {S : List AV} {sh : List SC} {D : DT} {k : Nat → List (Option AV) → List AV → ST → Option RES} {res : RES} (hcall : ∀ q A σ x, call q A σ = some x → MON σ x.2) (hk : ∀ pc L S σ, k pc L S σ = some res → MON σ res.2) (h : stepI call (35, len, a, b, c, ex) pc L S (sh, D) k = some res) : MON (sh, D) res.2 := by
  simp only [stepI] at h
  split at h
  · exact hk _ _ _ _ h
  · cases h
theorem mo_36 {call : CALLF} {pc len a b c : Nat} {ex : List Int} {L : List (Option AV)} {S : List AV} {sh : List SC} {D : DT} {k : Nat → List (Option AV) → List AV → ST → Option RES} {res : RES} (hcall : ∀ q A σ x, call q A σ = some x → MON σ x.2) (hk : ∀ pc L S σ, k pc L S σ = some res → MON σ res.2) (h : stepI call (36, len, a, b, c, ex) pc L S (sh, D) k = some res) : MON (sh, D) res.2 := by
  simp only [stepI] at h
  split at h
  · exact hk _ _ _ _ h
  · cases h
theorem mo_37 {call : CALLF} {pc len a b c : Nat} {ex : List Int} {L : List (Option AV)} {S : List AV} {sh : List SC} {D : DT} {k : Nat → List (Option AV) → List AV → ST → Option RES} {res : RES} (hcall : ∀ q A σ x, call q A σ = some x → MON σ x.2) (hk : ∀ pc L S σ, k pc L S σ = some res → MON σ res.2) (h : stepI call (37, len, a, b, c, ex) pc L S (sh, D) k = some res) : MON (sh, D) res.2 := by
  simp only [stepI] at h
  split at h
  · rcases bif_or h with h | h
    · exact hk _ _ _ _ h
    · cases h
  · cases h
theorem mo_38 {call : CALLF} {pc len a b c : Nat} {ex : List Int} {L : List (Option AV)} {S : List AV} {sh : List SC} {D : DT} {k : Nat → List (Option AV) → List AV → ST → Option RES} {res : RES} (hcall : ∀ q A σ x, call q A σ = some x → MON σ x.2) (hk : ∀ pc L S σ, k pc L S σ = some res → MON σ res.2) (h : stepI call (38, len, a, b, c, ex) pc L S (sh, D) k = some res) : MON (sh, D) res.2 := by
  simp only [stepI] at h
  split at h
  · split at h
    · rcases bif_or h with h | h
      · exact hk _ _ _ _ h
      · cases h
    · cases h
  · cases h
theorem mo_39 {call : CALLF} {pc len a b c : Nat} {ex : List Int} {L : List (Option AV)} {S : List AV} {sh : List SC} {D : DT} {k : Nat → List (Option AV) → List AV → ST → Option RES} {res : RES} (hcall : ∀ q A σ x, call q A σ = some x → MON σ x.2) (hk : ∀ pc L S σ, k pc L S σ = some res → MON σ res.2) (h : stepI call (39, len, a, b, c, ex) pc L S (sh, D) k = some res) : MON (sh, D) res.2 := by
  simp only [stepI] at h
  exact hk _ _ _ _ h
theorem mo_40 {call : CALLF} {pc len a b c : Nat} {ex : List Int} {L : List (Option AV)} {S : List AV} {sh : List SC} {D : DT} {k : Nat → List (Option AV) → List AV → ST → Option RES} {res : RES} (hcall : ∀ q A σ x, call q A σ = some x → MON σ x.2) (hk : ∀ pc L S σ, k pc L S σ = some res → MON σ res.2) (h : stepI call (40, len, a, b, c, ex) pc L S (sh, D) k = some res) : MON (sh, D) res.2 := by
  simp only [stepI] at h
  split at h
  · exact hk _ _ _ _ h
  · cases h
theorem mo_41 {call : CALLF} {pc len a b c : Nat} {ex : List Int} {L : List (Option AV)} {S : List AV} {sh : List SC} {D : DT} {k : Nat → List (Option AV) → List AV → ST → Option RES} {res : RES} (hcall : ∀ q A σ x, call q A σ = some x → MON σ x.2) (hk : ∀ pc L S σ, k pc L S σ = some res → MON σ res.2) (h : stepI call (41, len, a, b, c, ex) pc L S (sh, D) k = some res) : MON (sh, D) res.2 := by
  simp only [stepI] at h
  split at h
  · exact hk _ _ _ _ h
  · cases h
theorem mo_42 {call : CALLF} {pc len a b c : Nat} {ex : List Int} {L : List (Option AV)} {S : List AV} {sh : List SC} {D : DT} {k : Nat → List (Option AV) → List AV → ST → Option RES} {res : RES} (hcall : ∀ q A σ x, call q A σ = some x → MON σ x.2) (hk : ∀ pc L S σ, k pc L S σ = some res → MON σ res.2) (h : stepI call (42, len, a, b, c, ex) pc L S (sh, D) k = some res) : MON (sh, D) res.2 := by
  simp only [stepI] at h
  split at h
  · rcases bif_or h with h | h
    · exact hk _ _ _ _ h
    · cases h
  · cases h
theorem mo_43 {call : CALLF} {pc len a b c : Nat} {ex : List Int} {L : List (Option AV)} {S : List AV} {sh : List SC} {D : DT} {k : Nat → List (Option AV) → List AV → ST → Option RES} {res : RES} (hcall : ∀ q A σ x, call q A σ = some x → MON σ x.2) (hk : ∀ pc L S σ, k pc L S σ = some res → MON σ res.2) (h : stepI call (43, len, a, b, c, ex) pc L S (sh, D) k = some res) : MON (sh, D) res.2 := by
  simp only [stepI] at h
  split at h
  · exact hk _ _ _ _ h
  · cases h
theorem mo_44 {call : CALLF} {pc len a b c : Nat} {ex : List Int} {L : List (Option AV)} {S : List AV} {sh : List SC} {D : DT} {k : Nat → List (Option AV) → List AV → ST → Option RES} {res : RES} (hcall : ∀ q A σ x, call q A σ = some x → MON σ x.2) (hk : ∀ pc L S σ, k pc L S σ = some res → MON σ res.2) (h : stepI call (44, len, a, b, c, ex) pc L S (sh, D) k = some res) : MON (sh, D) res.2 := by
  simp only [stepI] at h
  split at h
  · exact hk _ _ _ _ h
  · cases h
theorem mo_45 {call : CALLF} {pc len a b c : Nat} {ex : List Int} {L : List (Option AV)} {S : List AV} {sh : List SC} {D : DT} {k : Nat → List (Option AV) → List AV → ST → Option RES} {res : RES} (hcall : ∀ q A σ x, call q A σ = some x → MON σ x.2) (hk : ∀ pc L S σ, k pc L S σ = some res → MON σ res.2) (h : stepI call (45, len, a, b, c, ex) pc L S (sh, D) k = some res) : MON (sh, D) res.2 := by
  simp only [stepI] at h
  split at h
  · exact hk _ _ _ _ h
  · cases h
theorem mo_46 {call : CALLF} {pc len a b c : Nat} {ex : List Int} {L : List (Option AV)} {S : List AV} {sh : List SC} {D : DT} {k : Nat → List (Option AV) → List AV → ST → Option RES} {res : RES} (hcall : ∀ q A σ x, call q A σ = some x → MON σ x.2) (hk : ∀ pc L S σ, k pc L S σ = some res → MON σ res.2) (h : stepI call (46, len, a, b, c, ex) pc L S (sh, D) k = some res) : MON (sh, D) res.2 := by
  simp only [stepI] at h
  split at h
  · obtain ⟨_, _, h⟩ := bnd h
    exact hk _ _ _ _ h
  · cases h
theorem mo_47 {call : CALLF} {pc len a b c : Nat} {ex : List Int} {L : List (Option AV)} {S : List AV} {sh : List SC} {D : DT} {k : Nat → List (Option AV) → List AV → ST → Option RES} {res : RES} (hcall : ∀ q A σ x, call q A σ = some x → MON σ x.2) (hk : ∀ pc L S σ, k pc L S σ = some res → MON σ res.2) (h : stepI call (47, len, a, b, c, ex) pc L S (sh, D) k = some res) : MON (sh, D) res.2 := by
  simp only [stepI] at h
  split at h
  · exact hk _ _ _ _ h
  · cases h
theorem mo_48 {call : CALLF} {pc len a b c : Nat} {ex : List Int} {L : List (Option AV)} {S : List AV} {sh : List SC} {D : DT} {k : Nat → List (Option AV) → List AV → ST → Option RES} {res : RES} (hcall : ∀ q A σ x, call q A σ = some x → MON σ x.2) (hk : ∀ pc L S σ, k pc L S σ = some res → MON σ res.2) (h : stepI call (48, len, a, b, c, ex) pc L S (sh, D) k = some res) : MON (sh, D) res.2 := by
  simp only [stepI] at h
  split at h
  · exact hk _ _ _ _ h
  · cases h
theorem mo_49 {call : CALLF} {pc len a b c : Nat} {ex : List Int} {L : List (Option AV)} {S : List AV} {sh : List SC} {D : DT} {k : Nat → List (Option AV) → List AV → ST → Option RES} {res : RES} (hcall : ∀ q A σ x, call q A σ = some x → MON σ x.2) (hk : ∀ pc L S σ, k pc L S σ = some res → MON σ res.2) (h : stepI call (49, len, a, b, c, ex) pc L S (sh, D) k = some res) : MON (sh, D) res.2 := by
  simp only [stepI] at h
  split at h
  · exact hk _ _ _ _ h
  · cases h
theorem mo_50 {call : CALLF} {pc len a b c : Nat} {ex : List Int} {L : List (Option AV)} {S : List AV} {sh : List SC} {D : DT} {k : Nat → List (Option AV) → List AV → ST → Option RES} {res : RES} (hcall : ∀ q A σ x, call q A σ = some x → MON σ x.2) (hk : ∀ pc L S σ, k pc L S σ = some res → MON σ res.2) (h : stepI call (50, len, a, b, c, ex) pc L S (sh, D) k = some res) : MON (sh, D) res.2 := by
  simp only [stepI] at h
  split at h
  · split at h
    · rcases bif_or h with h | h
      · obtain ⟨_, _, h⟩ := bnd h
        exact hk _ _ _ _ h
      · cases h
    · cases h
  · cases h
theorem mo_51 {call : CALLF} {pc len a b c : Nat} {ex : List Int} {L : List (Option AV)} {S : List AV} {sh : List SC} {D : DT} {k : Nat → List (Option AV) → List AV → ST → Option RES} {res : RES} (hcall : ∀ q A σ x, call q A σ = some x → MON σ x.2) (hk : ∀ pc L S σ, k pc L S σ = some res → MON σ res.2) (h : stepI call (51, len, a, b, c, ex) pc L S (sh, D) k = some res) : MON (sh, D) res.2 := by
  simp only [stepI] at h
  split at h
  · split at h
    · rcases bif_or h with h | h
      · obtain ⟨_, _, h⟩ := bnd h
        exact MON.d (hk _ _ _ _ h)
      · cases h
    · cases h
  · cases h
theorem mo_52 {call : CALLF} {pc len a b c : Nat} {ex : List Int} {L : List (Option AV)} {S : List AV} {sh : List SC} {D : DT} {k : Nat → List (Option AV) → List AV → ST → Option RES} {res : RES} (hcall : ∀ q A σ x, call q A σ = some x → MON σ x.2) (hk : ∀ pc L S σ, k pc L S σ = some res → MON σ res.2) (h : stepI call (52, len, a, b, c, ex) pc L S (sh, D) k = some res) : MON (sh, D) res.2 := by
  simp only [stepI] at h
  exact MON.app (hk _ _ _ _ h)
theorem mo_53 {call : CALLF} {pc len a b c : Nat} {ex : List Int} {L : List (Option AV)} {S : List AV} {sh : List SC} {D : DT} {k : Nat → List (Option AV) → List AV → ST → Option RES} {res : RES} (hcall : ∀ q A σ x, call q A σ = some x → MON σ x.2) (hk : ∀ pc L S σ, k pc L S σ = some res → MON σ res.2) (h : stepI call (53, len, a, b, c, ex) pc L S (sh, D) k = some res) : MON (sh, D) res.2 := by
  simp only [stepI] at h
  split at h
  · rcases bif_or h with h | h
    · rcases ite_or h with ⟨_, h⟩ | ⟨_, h⟩
      · exact MON.app (hk _ _ _ _ h)
      · cases h
    · cases h
  · cases h
theorem mo_54 {call : CALLF} {pc len a b c : Nat} {ex : List Int} {L : List (Option AV)} {S : List AV} {sh : List SC} {D : DT} {k : Nat → List (Option AV) → List AV → ST → Option RES} {res : RES} (hcall : ∀ q A σ x, call q A σ = some x → MON σ x.2) (hk : ∀ pc L S σ, k pc L S σ = some res → MON σ res.2) (h : stepI call (54, len, a, b, c, ex) pc L S (sh, D) k = some res) : MON (sh, D) res.2 := by
  simp only [stepI] at h
  split at h
  · rcases ite_or h with ⟨_, h⟩ | ⟨_, h⟩
    · exact MON.app (hk _ _ _ _ h)
    · cases h
  · cases h
theorem mo_55 {call : CALLF} {pc len a b c : Nat} {ex : List Int} {L : List (Option AV)} {S : List AV} {sh : List SC} {D : DT} {k : Nat → List (Option AV) → List AV → ST → Option RES} {res : RES} (hcall : ∀ q A σ x, call q A σ = some x → MON σ x.2) (hk : ∀ pc L S σ, k pc L S σ = some res → MON σ res.2) (h : stepI call (55, len, a, b, c, ex) pc L S (sh, D) k = some res) : MON (sh, D) res.2 := by
  simp only [stepI] at h
  split at h
  · rcases bif_or h with h | h
    · exact hk _ _ _ _ h
    · cases h
  · cases h
theorem mo_56 {call : CALLF} {pc len a b c : Nat} {ex : List Int} {L : List (Option AV)} {S : List AV} {sh : List SC} {D : DT} {k : Nat → List (Option AV) → List AV → ST → Option RES} {res : RES} (hcall : ∀ q A σ x, call q A σ = some x → MON σ x.2) (hk : ∀ pc L S σ, k pc L S σ = some res → MON σ res.2) (h : stepI call (56, len, a, b, c, ex) pc L S (sh, D) k = some res) : MON (sh, D) res.2 := by
  simp only [stepI] at h
  split at h
  · split at h
    · rename_i hr _
      rcases bif_or h with h | h
      · rcases ite_or h with ⟨_, h⟩ | ⟨_, h⟩
        · exact MON.set hr (hk _ _ _ _ h)
        · cases h
      · cases h
    · cases h
  · cases h
theorem step_mono {call : CALLF} {i : INS} {pc : Nat} {L : List (Option AV)} {S : List AV} {sh : List SC} {D : DT} {k : Nat → List (Option AV) → List AV → ST → Option RES} {res : RES} (hcall : ∀ q A σ x, call q A σ = some x → MON σ x.2) (hk : ∀ pc L S σ, k pc L S σ = some res → MON σ res.2) (h : stepI call i pc L S (sh, D) k = some res) : MON (sh, D) res.2 := by
  obtain ⟨op, len, a, b, c, ex⟩ := i
  match op, h with
  | 0, h => exact mo_0 hcall hk h
  | 1, h => exact mo_1 hcall hk h
  | 2, h => exact mo_2 hcall hk h
  | 3, h => exact mo_3 hcall hk h
  | 4, h => exact mo_4 hcall hk h
  | 5, h => exact mo_5 hcall hk h
  | 6, h => exact mo_6 hcall hk h
  | 7, h => exact mo_7 hcall hk h
  | 8, h => exact mo_8 hcall hk h
  | 9, h => exact mo_9 hcall hk h
  | 10, h => exact mo_10 hcall hk h
  | 11, h => exact mo_11 hcall hk h
  | 12, h => exact mo_12 hcall hk h
  | 13, h => exact mo_13 hcall hk h
  | 14, h => exact mo_14 hcall hk h
  | 15, h => exact mo_15 hcall hk h
  | 16, h => exact mo_16 hcall hk h
  | 17, h => exact mo_17 hcall hk h
  | 18, h => exact mo_18 hcall hk h
  | 19, h => exact mo_19 hcall hk h
  | 20, h => exact mo_20 hcall hk h
  | 21, h => exact mo_21 hcall hk h
  | 22, h => exact mo_22 hcall hk h
  | 23, h => exact mo_23 hcall hk h
  | 24, h => exact mo_24 hcall hk h
  | 25, h => exact mo_25 hcall hk h
  | 26, h => exact mo_26 hcall hk h
  | 27, h => exact mo_27 hcall hk h
  | 28, h => exact mo_28 hcall hk h
  | 29, h => exact mo_29 hcall hk h
  | 30, h => exact mo_30 hcall hk h
  | 31, h => exact mo_31 hcall hk h
  | 32, h => exact mo_32 hcall hk h
  | 33, h => exact mo_33 hcall hk h
  | 34, h => exact mo_34 hcall hk h
  | 35, h => exact mo_35 hcall hk h
  | 36, h => exact mo_36 hcall hk h
  | 37, h => exact mo_37 hcall hk h
  | 38, h => exact mo_38 hcall hk h
  | 39, h => exact mo_39 hcall hk h
  | 40, h => exact mo_40 hcall hk h
  | 41, h => exact mo_41 hcall hk h
  | 42, h => exact mo_42 hcall hk h
  | 43, h => exact mo_43 hcall hk h
  | 44, h => exact mo_44 hcall hk h
  | 45, h => exact mo_45 hcall hk h
  | 46, h => exact mo_46 hcall hk h
  | 47, h => exact mo_47 hcall hk h
  | 48, h => exact mo_48 hcall hk h
  | 49, h => exact mo_49 hcall hk h
  | 50, h => exact mo_50 hcall hk h
  | 51, h => exact mo_51 hcall hk h
  | 52, h => exact mo_52 hcall hk h
  | 53, h => exact mo_53 hcall hk h
  | 54, h => exact mo_54 hcall hk h
  | 55, h => exact mo_55 hcall hk h
  | 56, h => exact mo_56 hcall hk h
  | _ + 57, h => cases h
theorem run_mono {call : CALLF} {code : List (Nat × INS)} {res : RES} (hcall : ∀ q A σ x, call q A σ = some x → MON σ x.2) : ∀ (n pc : Nat) (L : List (Option AV)) (S : List AV) (σ : ST), run call code n pc L S σ = some res → MON σ res.2
  | 0, _, _, _, _, h => by cases h
  | n + 1, pc, L, S, (sh, D), h => by
    unfold run at h
    split at h
    · cases h
    · exact step_mono hcall (fun pc L S σ h => run_mono hcall n pc L S σ h) h
theorem evC_mono {mt : List (List (Nat × INS) × Nat)} {n : Nat} : ∀ (d q : Nat) (A : List AV) (σ : ST) (x : RES), evC mt n d q A σ = some x → MON σ x.2
  | 0, _, _, _, _, h => by cases h
  | d + 1, q, A, σ, x, h => by
    unfold evC at h
    split at h
    · cases h
    · exact run_mono (fun q A σ x h => evC_mono d q A σ x h) _ _ _ _ _ h
