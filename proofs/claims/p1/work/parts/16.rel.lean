/-! ===== cells: the shape and the data against the machine's world ===== -/
def rrf (ad : Nat → Nat) (refs : List Nat) (j : Nat) : Option Nat := match refs[j]? with
  | some (q + 1) => some (ad q)
  | _ => none
def fldR (ad : Nat → Nat) (fc : Nat) (refs : List Nat) (f : Nat → Int) (j : Nat) (v : Value) : Prop := match fc with
  | 0 => ∃ i : Int32, v = .int i ∧ i.toInt = f j
  | 1 => ∃ i : Int32, v = .int i ∧ i.toInt = f j
  | 2 => ∃ i : Int64, v = .long i ∧ i.toInt = f j
  | _ => v = va_rf (rrf ad refs j)
def tyIn (tys : List (ClassId × FieldType)) (cA : ClassId) (ty : FieldType) : Prop := ∃ t0 : Nat, tys[t0]? = some (cA, ty)
def atag (tag : Nat) : FieldType := match tag with
  | 100 => .int
  | 101 => .boolean
  | 102 => .byte
  | _ => .long
def celR (ad : Nat → Nat) (tys : List (ClassId × FieldType)) (tag n : Nat) (refs : List Nat) (f : Nat → Int) (E : va_E) : Prop := match E with
  | .inr (ci, fs) => tag = ci ∧ ∃ q : vw_C, classes[ci]? = some q ∧ n = q.2.2 ∧ refs.length = n ∧ fs.length = n ∧ ∀ j, j < n → ∃ v, fs[j]? = some v ∧ fldR ad (fcode (q.2.1 j).2.2.1) refs f j v
  | .inl (cA, m, .inl g) => m = n ∧ (tag = 100 ∨ tag = 101 ∨ tag = 102) ∧ tyIn tys cA (atag tag) ∧ ∀ j, j < n → (g j).toInt = f j
  | .inl (cA, m, .inr (.inl g)) => m = n ∧ tag = 103 ∧ tyIn tys cA .long ∧ ∀ j, j < n → (g j).toInt = f j
  | .inl (cA, m, .inr (.inr (.inr (.inr g)))) => m = n ∧ refs.length = n ∧ (∃ (ci : Nat) (q : vw_C), tag = 110 + ci ∧ classes[ci]? = some q ∧ tyIn tys cA (.object q.1)) ∧ ∀ j, j < n → g j = rrf ad refs j
  | _ => False
theorem rrf_congr {ad ad' : Nat → Nat} {refs : List Nat} (h : ∀ (j q : Nat), refs[j]? = some (q + 1) → ad' q = ad q) (j : Nat) : rrf ad' refs j = rrf ad refs j := by
  unfold rrf
  split
  · rename_i q hq
    rw [h j q hq]
  · rfl
theorem fldR_congr {ad ad' : Nat → Nat} {refs : List Nat} {f f' : Nat → Int} (h : ∀ (j q : Nat), refs[j]? = some (q + 1) → ad' q = ad q) {fc j : Nat} (hf : f' j = f j) {v : Value} (h1 : fldR ad fc refs f j v) : fldR ad' fc refs f' j v := by
  unfold fldR at h1 ⊢
  split
  · rw [hf]; exact h1
  · rw [hf]; exact h1
  · rw [hf]; exact h1
  · rw [rrf_congr h]
    split at h1
    · exact absurd rfl (by assumption)
    · exact absurd rfl (by assumption)
    · exact absurd rfl (by assumption)
    · exact h1
theorem celR_congr {ad ad' : Nat → Nat} {tys tys' : List (ClassId × FieldType)} {tag n : Nat} {refs : List Nat} {f : Nat → Int} {E : va_E} (h : ∀ (j q : Nat), refs[j]? = some (q + 1) → ad' q = ad q) (ht : ∀ (i : Nat) (x : ClassId × FieldType), tys[i]? = some x → ∃ i' : Nat, tys'[i']? = some x) (h1 : celR ad tys tag n refs f E) : celR ad' tys' tag n refs f E := by
  have ht' : ∀ {cA : ClassId} {ty : FieldType}, tyIn tys cA ty → tyIn tys' cA ty := fun ⟨i, hi⟩ => ht i _ hi
  match E, h1 with
  | .inr (ci, fs), ⟨e, q, h2, h3, h4, h5, h6⟩ =>
    refine ⟨e, q, h2, h3, h4, h5, fun j hj => ?_⟩
    obtain ⟨v, h7, h8⟩ := h6 j hj
    exact ⟨v, h7, fldR_congr h rfl h8⟩
  | .inl (cA, m, .inl g), ⟨h2, h3, h4, h5⟩ => exact ⟨h2, h3, ht' h4, h5⟩
  | .inl (cA, m, .inr (.inl g)), ⟨h2, h3, h4, h5⟩ => exact ⟨h2, h3, ht' h4, h5⟩
  | .inl (cA, m, .inr (.inr (.inr (.inr g)))), ⟨h2, h3, ⟨ci, q, h4, h5, h6⟩, h7⟩ => exact ⟨h2, h3, ⟨ci, q, h4, h5, ht' h6⟩, fun j hj => by rw [h7 j hj, rrf_congr h]⟩
theorem classes_lt {ci : Nat} {q : vw_C} (h : classes[ci]? = some q) : ci < 13 := (List.getElem?_eq_some_iff.mp h).1
def Rel (b t Ln : Nat) (xs : Nat → Int32) (ws : va_W) (tys : List (ClassId × FieldType)) (sh : List SC) (D : DT) : Prop :=
  sh.length = ws.length + 2 ∧ sh[0]? = some (104, Ln, []) ∧ sh[1]? = some (104, 8, []) ∧ (∀ j, j < Ln → (xs j).toInt = D 0 j) ∧ (∀ j, j < 8 → (nI j).toInt = D 1 j) ∧
  (∀ (k tag n : Nat) (refs : List Nat), sh[k]? = some (tag, n, refs) → ∀ (j q : Nat), refs[j]? = some (q + 1) → q < sh.length) ∧
  ∀ (k a : Nat) (E : va_E), ws[k]? = some (a, E) → ∃ (tag n : Nat) (refs : List Nat), sh[k + 2]? = some (tag, n, refs) ∧ celR (adr b t ws) tys tag n refs (D (k + 2)) E
theorem Rel.get {b t Ln : Nat} {xs : Nat → Int32} {ws : va_W} {tys : List (ClassId × FieldType)} {sh : List SC} {D : DT} (h : Rel b t Ln xs ws tys sh D) {r tag n : Nat} {refs : List Nat} (hr : sh[r]? = some (tag, n, refs)) (ht : tag ≠ 104) : ∃ (k a : Nat) (E : va_E), r = k + 2 ∧ ws[k]? = some (a, E) ∧ adr b t ws r = a ∧ celR (adr b t ws) tys tag n refs (D r) E := by
  obtain ⟨h1, h2, h3, -, -, -, h6⟩ := h
  match r, hr with
  | 0, hr => rw [h2] at hr; cases hr; exact absurd rfl ht
  | 1, hr => rw [h3] at hr; cases hr; exact absurd rfl ht
  | k + 2, hr =>
    have hl : k < ws.length := by
      have := (List.getElem?_eq_some_iff.mp hr).1
      omega
    obtain ⟨⟨a, E⟩, hk⟩ : ∃ x, ws[k]? = some x := ⟨ws[k], List.getElem?_eq_getElem hl⟩
    obtain ⟨tag', n', refs', h7, h8⟩ := h6 k a E hk
    rw [h7] at hr
    cases hr
    exact ⟨k, a, E, rfl, hk, by simp only [adr, hk], h8⟩
theorem adr_set {b t : Nat} {ws : va_W} {k a : Nat} {e0 e : va_E} (h : ws[k]? = some (a, e0)) : adr b t (ws.set k (a, e)) = adr b t ws := by
  have hl := (List.getElem?_eq_some_iff.mp h).1
  funext j
  match j with
  | 0 => rfl
  | 1 => rfl
  | j + 2 =>
    simp only [adr]
    by_cases hj : k = j
    · subst hj
      rw [List.getElem?_set_self hl, h]
    · rw [List.getElem?_set_ne hj]
/-- one cell is another one, at the same address -/
theorem Rel.set {b t Ln : Nat} {xs : Nat → Int32} {ws : va_W} {tys : List (ClassId × FieldType)} {sh : List SC} {D : DT} (h : Rel b t Ln xs ws tys sh D) {k a tag n : Nat} {refs : List Nat} {e0 e : va_E} (hk : ws[k]? = some (a, e0)) (hr : sh[k + 2]? = some (tag, n, refs)) {refs' : List Nat} {f' : Nat → Int} (hrf : ∀ (j q : Nat), refs'[j]? = some (q + 1) → q < sh.length)
    (hc : celR (adr b t ws) tys tag n refs' f' e) : Rel b t Ln xs (ws.set k (a, e)) tys (sh.set (k + 2) (tag, n, refs')) (dset D (k + 2) f') := by
  obtain ⟨h1, h2, h3, h4, h5, h6, h7⟩ := h
  have hl := (List.getElem?_eq_some_iff.mp hk).1
  refine ⟨by rw [List.length_set, List.length_set]; exact h1, ?_, ?_, fun j hj => ?_, fun j hj => ?_, fun k' tag' n' refs'' hk' j q hj => ?_, fun k' a' E' hk' => ?_⟩
  · rw [List.getElem?_set_ne (by omega)]; exact h2
  · rw [List.getElem?_set_ne (by omega)]; exact h3
  · rw [dset_ne _ _ (by omega)]; exact h4 j hj
  · rw [dset_ne _ _ (by omega)]; exact h5 j hj
  · rw [List.length_set]
    by_cases hkk : k + 2 = k'
    · subst hkk
      rw [List.getElem?_set_self (by omega)] at hk'
      cases hk'
      exact hrf j q hj
    · rw [List.getElem?_set_ne hkk] at hk'
      exact h6 k' tag' n' refs'' hk' j q hj
  · rw [adr_set hk]
    by_cases hkk : k = k'
    · subst hkk
      rw [List.getElem?_set_self hl] at hk'
      cases hk'
      refine ⟨tag, n, refs', ?_, ?_⟩
      · rw [List.getElem?_set_self (by omega)]
      · rw [dset_same]; exact hc
    · rw [List.getElem?_set_ne hkk] at hk'
      obtain ⟨tag', n', refs'', g1, g2⟩ := h7 k' a' E' hk'
      refine ⟨tag', n', refs'', ?_, ?_⟩
      · rw [List.getElem?_set_ne (by omega)]; exact g1
      · rw [dset_ne _ _ (by omega)]; exact g2
theorem Rel.setD {b t Ln : Nat} {xs : Nat → Int32} {ws : va_W} {tys : List (ClassId × FieldType)} {sh : List SC} {D : DT} (h : Rel b t Ln xs ws tys sh D) {k a tag n : Nat} {refs : List Nat} {e0 e : va_E} (hk : ws[k]? = some (a, e0)) (hr : sh[k + 2]? = some (tag, n, refs)) {f' : Nat → Int}
    (hc : celR (adr b t ws) tys tag n refs f' e) : Rel b t Ln xs (ws.set k (a, e)) tys sh (dset D (k + 2) f') := by
  have h1 := Rel.set h hk hr (refs' := refs) (f' := f') (fun j q hj => h.2.2.2.2.2.1 _ _ _ _ hr j q hj) hc
  have e1 : sh.set (k + 2) (tag, n, refs) = sh := by
    apply List.ext_getElem?
    intro i
    by_cases hi : k + 2 = i
    · subst hi
      rw [List.getElem?_set_self ((List.getElem?_eq_some_iff.mp hr).1), hr]
    · rw [List.getElem?_set_ne hi]
  rw [e1] at h1
  exact h1
theorem adr_app {b t : Nat} {ws : va_W} {x : Nat × va_E} {k : Nat} (h : k < ws.length + 2) : adr b t (ws ++ [x]) k = adr b t ws k := by
  match k with
  | 0 => rfl
  | 1 => rfl
  | k + 2 => simp only [adr]; rw [List.getElem?_append_left (by omega)]
theorem adr_last {b t : Nat} {ws : va_W} {x : Nat × va_E} : adr b t (ws ++ [x]) (ws.length + 2) = x.1 := by
  simp only [adr]
  rw [List.getElem?_append_right (Nat.le_refl _), Nat.sub_self]
  rfl
/-- a new cell -/
theorem Rel.app {b t Ln : Nat} {xs : Nat → Int32} {ws : va_W} {tys tys' : List (ClassId × FieldType)} {sh : List SC} {D : DT} (h : Rel b t Ln xs ws tys sh D) (ht : ∀ (i : Nat) (x : ClassId × FieldType), tys[i]? = some x → ∃ i' : Nat, tys'[i']? = some x) {a tag n : Nat} {refs : List Nat} {e : va_E} {f : Nat → Int} (hrf : ∀ (j q : Nat), refs[j]? ≠ some (q + 1))
    (hc : celR (adr b t (ws ++ [(a, e)])) tys' tag n refs f e) : Rel b t Ln xs (ws ++ [(a, e)]) tys' (sh ++ [(tag, n, refs)]) (dset D sh.length f) := by
  obtain ⟨h1, h2, h3, h4, h5, h6, h7⟩ := h
  refine ⟨by rw [List.length_append, List.length_append, h1]; rfl, ?_, ?_, fun j hj => ?_, fun j hj => ?_, fun k' tag' n' refs'' hk' j q hj => ?_, fun k' a' E' hk' => ?_⟩
  · rw [List.getElem?_append_left (by omega)]; exact h2
  · rw [List.getElem?_append_left (by omega)]; exact h3
  · rw [dset_ne _ _ (by omega)]; exact h4 j hj
  · rw [dset_ne _ _ (by omega)]; exact h5 j hj
  · rw [List.length_append]
    by_cases hkk : k' < sh.length
    · rw [List.getElem?_append_left hkk] at hk'
      have := h6 k' tag' n' refs'' hk' j q hj
      omega
    · rw [List.getElem?_append_right (by omega)] at hk'
      have hz : k' - sh.length < 1 := (List.getElem?_eq_some_iff.mp hk').1
      rw [show k' - sh.length = 0 by omega] at hk'
      cases hk'
      exact absurd hj (hrf j q)
  · by_cases hkk : k' < ws.length
    · rw [List.getElem?_append_left hkk] at hk'
      obtain ⟨tag', n', refs'', g1, g2⟩ := h7 k' a' E' hk'
      refine ⟨tag', n', refs'', ?_, ?_⟩
      · rw [List.getElem?_append_left (by omega)]; exact g1
      · rw [dset_ne _ _ (by omega)]
        refine celR_congr (fun j q hj => adr_app ?_) ht g2
        have := h6 _ _ _ _ g1 j q hj
        omega
    · rw [List.getElem?_append_right (by omega)] at hk'
      have hz : k' - ws.length < 1 := (List.getElem?_eq_some_iff.mp hk').1
      have hk0 : k' = ws.length := by omega
      subst hk0
      rw [Nat.sub_self] at hk'
      cases hk'
      refine ⟨tag, n, refs, ?_, ?_⟩
      · rw [← h1, List.getElem?_append_right (Nat.le_refl _), Nat.sub_self]; rfl
      · rw [← h1, dset_same]; exact hc
def slo : List SC → Nat
  | [] => 0
  | (_, n, _) :: t => n + slo t
theorem slo_app (sh : List SC) (x : SC) : slo (sh ++ [x]) = slo sh + x.2.1 := by
  induction sh with
  | nil => simp [slo]
  | cons y t ih => simp only [List.cons_append, slo, ih]; omega
theorem slo_set {sh : List SC} {r tag n : Nat} {refs refs' : List Nat} {tag' : Nat} (h : sh[r]? = some (tag, n, refs)) : slo (sh.set r (tag', n, refs')) = slo sh := by
  induction sh generalizing r with
  | nil => simp at h
  | cons y t ih =>
    cases r with
    | zero =>
      rw [List.getElem?_cons_zero] at h
      cases h
      rfl
    | succ r =>
      rw [List.getElem?_cons_succ] at h
      simp only [List.set_cons_succ, slo, ih h]
