section So
variable {p : Program} {l : Launch} {e : Env} {R : Room} {s : State} {m : MethodId} {args : Array Value} {below : List Frame} {meth : Method} {c : Code} {Q : State → Prop} {cc : ByteArray} {nL o : Nat} {ini : Bool} {A : Nat → Prop} {dC : Nat → ClassId} {dI : Nat → Nat → Nat} {b t Ln : Nat} {xs : Nat → Int32} {d n0 s0 : Nat} {adq : Nat → Nat} {res : RES} {k : Nat → List (Option AV) → List AV → ST → Option RES} {call : CALLF}
variable {pc len a b' c' : Nat} {ex : List Int} {L : List (Option AV)} {S : List AV} {sh : List SC} {D : DT} {ls : Array Slot} {st : List Value} {ws : va_W} {tys : List (ClassId × FieldType)} {H : Heap} {locs : List Loc}

theorem i32_ofNat (n : Nat) : (Int32.ofNat n).toInt = w32 (n : Int) := by
  rw [Int32.toInt_ofNat']; exact w32_bmod _
theorem Rel.ro {b t Ln : Nat} {xs : Nat → Int32} {ws : va_W} {tys : List (ClassId × FieldType)} {sh : List SC} {D : DT} (h : Rel b t Ln xs ws tys sh D) {r n : Nat} {refs : List Nat} (hr : sh[r]? = some (104, n, refs)) : r = 0 ∧ n = Ln ∨ r = 1 ∧ n = 8 := by
  obtain ⟨h1, h2, h3, -, -, -, h6⟩ := h
  match r, hr with
  | 0, hr => rw [h2] at hr; cases hr; exact Or.inl ⟨rfl, rfl⟩
  | 1, hr => rw [h3] at hr; cases hr; exact Or.inr ⟨rfl, rfl⟩
  | k + 2, hr =>
    exfalso
    have hl : k < ws.length := by
      have := (List.getElem?_eq_some_iff.mp hr).1
      omega
    obtain ⟨⟨a, E⟩, hk⟩ : ∃ x, ws[k]? = some x := ⟨ws[k], List.getElem?_eq_getElem hl⟩
    obtain ⟨tag', n', refs', h7, h8⟩ := h6 k a E hk
    rw [h7] at hr
    cases hr
    match E, h8 with
    | .inr (ci, fs), ⟨e1, q', hq', _⟩ => have := classes_lt hq'; omega
    | .inl (cA, mm, .inl g), hcel => have := hcel.2.1; omega
    | .inl (cA, mm, .inr (.inl g)), hcel => have := hcel.2.1; omega
    | .inl (cA, mm, .inr (.inr (.inr (.inr g)))), hcel =>
      obtain ⟨-, -, ⟨ci, q', h1, -⟩, -⟩ := hcel
      omega
theorem ard_some {D : DT} {a n : Nat} {i x : Int} (h : ard D a n i = some x) : (0 ≤ i ∧ i < (n : Int)) ∧ D a i.toNat = x := by
  unfold ard at h
  rcases ite_or h with ⟨h1, h2⟩ | ⟨h1, h2⟩
  · exact ⟨h1, Option.some.inj h2⟩
  · cases h2
theorem awr_some {D D' : DT} {a n : Nat} {i v : Int} (h : awr D a n i v = some D') : (0 ≤ i ∧ i < (n : Int)) ∧ dset D a (up1 (D a) i.toNat v) = D' := by
  unfold awr at h
  rcases ite_or h with ⟨h1, h2⟩ | ⟨h1, h2⟩
  · exact ⟨h1, Option.some.inj h2⟩
  · cases h2
/-- an array of ints, of some kind -/
theorem Rel.arr {b t Ln : Nat} {xs : Nat → Int32} {ws : va_W} {tys : List (ClassId × FieldType)} {sh : List SC} {D : DT} (h : Rel b t Ln xs ws tys sh D) {r tag n : Nat} {refs : List Nat} (hr : sh[r]? = some (tag, n, refs)) (ht : tag = 100 ∨ tag = 101 ∨ tag = 102) : ∃ (k a t0 : Nat) (cA : ClassId) (g : Nat → Int32), r = k + 2 ∧ ws[k]? = some (a, .inl (cA, n, .inl g)) ∧ adr b t ws r = a ∧ tys[t0]? = some (cA, atag tag) ∧ ∀ j, j < n → (g j).toInt = D r j := by
  obtain ⟨kk, aa, E, rfl, hk1, had, hcel⟩ := h.get hr (by omega)
  match E, hk1, hcel with
  | .inr (ci, fs), hk1, ⟨e1, q', hq', _⟩ => have := classes_lt hq'; omega
  | .inl (cA, mm, .inl g), hk1, ⟨h1, h2, ⟨t0, h3⟩, h4⟩ => subst h1; exact ⟨kk, aa, t0, cA, g, rfl, hk1, had, h3, h4⟩
  | .inl (cA, mm, .inr (.inl g)), hk1, hcel => have := hcel.2.1; omega
  | .inl (cA, mm, .inr (.inr (.inr (.inr g)))), hk1, hcel => obtain ⟨-, -, ⟨ci, q', h1, -⟩, -⟩ := hcel; omega
theorem Rel.larr {b t Ln : Nat} {xs : Nat → Int32} {ws : va_W} {tys : List (ClassId × FieldType)} {sh : List SC} {D : DT} (h : Rel b t Ln xs ws tys sh D) {r n : Nat} {refs : List Nat} (hr : sh[r]? = some (103, n, refs)) : ∃ (k a t0 : Nat) (cA : ClassId) (g : Nat → Int64), r = k + 2 ∧ ws[k]? = some (a, .inl (cA, n, .inr (.inl g))) ∧ adr b t ws r = a ∧ tys[t0]? = some (cA, .long) ∧ ∀ j, j < n → (g j).toInt = D r j := by
  obtain ⟨kk, aa, E, rfl, hk1, had, hcel⟩ := h.get hr (by omega)
  match E, hk1, hcel with
  | .inr (ci, fs), hk1, ⟨e1, q', hq', _⟩ => have := classes_lt hq'; omega
  | .inl (cA, mm, .inl g), hk1, ⟨h1, h2, _⟩ => omega
  | .inl (cA, mm, .inr (.inl g)), hk1, ⟨h1, h2, ⟨t0, h3⟩, h4⟩ => subst h1; exact ⟨kk, aa, t0, cA, g, rfl, hk1, had, h3, h4⟩
  | .inl (cA, mm, .inr (.inr (.inr (.inr g)))), hk1, hcel => obtain ⟨-, -, ⟨ci, q', h1, -⟩, -⟩ := hcel; omega
theorem Rel.qarr {b t Ln : Nat} {xs : Nat → Int32} {ws : va_W} {tys : List (ClassId × FieldType)} {sh : List SC} {D : DT} (h : Rel b t Ln xs ws tys sh D) {r tag n : Nat} {refs : List Nat} (hr : sh[r]? = some (tag, n, refs)) (ht : 110 ≤ tag) : ∃ (k a t0 ci : Nat) (q : vw_C) (cA : ClassId) (g : Nat → Option Nat), r = k + 2 ∧ ws[k]? = some (a, .inl (cA, n, .inr (.inr (.inr (.inr g))))) ∧ adr b t ws r = a ∧ tag = 110 + ci ∧ classes[ci]? = some q ∧ tys[t0]? = some (cA, .object q.1) ∧ refs.length = n ∧ ∀ j, j < n → g j = rrf (adr b t ws) refs j := by
  obtain ⟨kk, aa, E, rfl, hk1, had, hcel⟩ := h.get hr (by omega)
  match E, hk1, hcel with
  | .inr (ci, fs), hk1, ⟨e1, q', hq', _⟩ => have := classes_lt hq'; omega
  | .inl (cA, mm, .inl g), hk1, ⟨h1, h2, _⟩ => omega
  | .inl (cA, mm, .inr (.inl g)), hk1, ⟨h1, h2, _⟩ => omega
  | .inl (cA, mm, .inr (.inr (.inr (.inr g)))), hk1, ⟨h0, hl, ⟨ci, q', h1, h2, ⟨t0, h3⟩⟩, h4⟩ => subst h0; exact ⟨kk, aa, t0, ci, q', cA, g, rfl, hk1, had, h1, h2, h3, hl, h4⟩
theorem so_5 (C : CXT p s m args meth c R cc nL o ini A b t Ln xs d n0 s0 res) (hk : KW p l e R s m args below meth c Q A dC dI b t Ln xs nL n0 s0 adq res k) (hd : decode cc pc = .ok (.iaload, len)) (hl : len = 1) (hs : stepI call (5, len, a, b', c', ex) pc L S (sh, D) k = some res) (G : GS s A dC dI b t Ln xs nL n0 s0 adq L S sh D ls st ws tys H locs) : W p l e R s m args below meth c H locs (sh.length - n0) (slo sh - s0) Q (F0 m pc ls st) := by
  have hx := C.1
  have hb := C.2.1
  simp only [stepI] at hs
  subst hl
  split at hs
  · rename_i i0 r S'
    split at hs
    · rename_i tag n refs hr
      cases ht : isAI tag with
      | false => rw [ht] at hs; cases hs
      | true =>
        rw [ht] at hs
        obtain ⟨x, hx1, hs1⟩ := bnd (show (ard D r n i0).bind (fun x => k (pc + 1) L (.inl x :: S') (sh, D)) = some res from hs)
        obtain ⟨hin, hxv⟩ := ard_some hx1
        clear hx1 hs
        obtain ⟨gl, gs, g1, G⟩ := G
        obtain ⟨i, st, rfl, hi, gs1⟩ := rvs_int gs
        obtain ⟨st, rfl, hlt, gs2⟩ := rvs_ref gs1
        obtain ⟨g2, g3, g4, g5, g6⟩ := id G
        subst hi
        have ht2 : tag = 100 ∨ tag = 104 := by
          unfold isAI at ht
          rcases Bool.or_eq_true_iff.mp ht with h | h
          · exact Or.inl (eq_of_beq h)
          · exact Or.inr (eq_of_beq h)
        rcases ht2 with rfl | rfl
        · obtain ⟨kk, aa, t0, cA, g, rfl, hk1, had, ht0, hg⟩ := g1.arr hr (Or.inl rfl)
          rw [had]
          refine va_iald hx hb g2 g3 kk t0 hk1 ht0 (vp_in_i hin) hd ?_
          exact hk _ _ _ _ _ hs1 _ _ _ _ _ _ ⟨gl, ⟨⟨_, rfl, by rw [i32_cl hin.1, hg _ (by omega), hxv]⟩, gs2⟩, g1, G⟩
        · rcases g1.ro hr with ⟨rfl, rfl⟩ | ⟨rfl, rfl⟩
          · refine va_sld hx hb C.2.2.2.2.2.2.1.1 C.2.2.2.2.2.2.1.2.1 C.2.2.2.2.2.2.1.2.2 g5 (vp_in_i hin) hd ?_
            exact hk _ _ _ _ _ hs1 _ _ _ _ _ _ ⟨gl, ⟨⟨_, rfl, by rw [i32_cl hin.1, g1.2.2.2.1 _ (by omega), hxv]⟩, gs2⟩, g1, G⟩
          · refine va_ti hx hb C.2.2.2.2.2.2.2.1 g5 (vp_in_i hin) rfl hd ?_
            exact hk _ _ _ _ _ hs1 _ _ _ _ _ _ ⟨gl, ⟨⟨_, rfl, by rw [i32_cl hin.1, g1.2.2.2.2.1 _ (by omega), hxv]⟩, gs2⟩, g1, G⟩
    · cases hs
  · cases hs
theorem so_19 (C : CXT p s m args meth c R cc nL o ini A b t Ln xs d n0 s0 res) (hk : KW p l e R s m args below meth c Q A dC dI b t Ln xs nL n0 s0 adq res k) (hd : decode cc pc = .ok (.baload, len)) (hl : len = 1) (hs : stepI call (19, len, a, b', c', ex) pc L S (sh, D) k = some res) (G : GS s A dC dI b t Ln xs nL n0 s0 adq L S sh D ls st ws tys H locs) : W p l e R s m args below meth c H locs (sh.length - n0) (slo sh - s0) Q (F0 m pc ls st) := by
  have hx := C.1
  have hb := C.2.1
  simp only [stepI] at hs
  subst hl
  split at hs
  · rename_i i0 r S'
    split at hs
    · rename_i tag n refs hr
      cases ht : isAB tag with
      | false => rw [ht] at hs; cases hs
      | true =>
        rw [ht] at hs
        obtain ⟨x, hx1, hs1⟩ := bnd (show (ard D r n i0).bind (fun x => k (pc + 1) L (.inl x :: S') (sh, D)) = some res from hs)
        obtain ⟨hin, hxv⟩ := ard_some hx1
        clear hx1 hs
        obtain ⟨gl, gs, g1, G⟩ := G
        obtain ⟨i, st, rfl, hi, gs1⟩ := rvs_int gs
        obtain ⟨st, rfl, hlt, gs2⟩ := rvs_ref gs1
        obtain ⟨g2, g3, g4, g5, g6⟩ := id G
        subst hi
        have ht2 : tag = 101 ∨ tag = 102 := by
          unfold isAB at ht
          rcases Bool.or_eq_true_iff.mp ht with h | h
          · exact Or.inl (eq_of_beq h)
          · exact Or.inr (eq_of_beq h)
        obtain ⟨kk, aa, t0, cA, g, rfl, hk1, had, ht0, hg⟩ := g1.arr hr (Or.inr ht2)
        rw [had]
        rcases ht2 with rfl | rfl
        · refine va_zald hx hb g2 g3 kk t0 hk1 ht0 (vp_in_i hin) hd ?_
          exact hk _ _ _ _ _ hs1 _ _ _ _ _ _ ⟨gl, ⟨⟨_, rfl, by rw [i32_cl hin.1, hg _ (by omega), hxv]⟩, gs2⟩, g1, G⟩
        · refine va_bald hx hb g2 g3 kk t0 hk1 ht0 (vp_in_i hin) hd ?_
          exact hk _ _ _ _ _ hs1 _ _ _ _ _ _ ⟨gl, ⟨⟨_, rfl, by rw [i32_cl hin.1, hg _ (by omega), hxv]⟩, gs2⟩, g1, G⟩
    · cases hs
  · cases hs
theorem so_50 (C : CXT p s m args meth c R cc nL o ini A b t Ln xs d n0 s0 res) (hk : KW p l e R s m args below meth c Q A dC dI b t Ln xs nL n0 s0 adq res k) (hd : decode cc pc = .ok (.laload, len)) (hl : len = 1) (hs : stepI call (50, len, a, b', c', ex) pc L S (sh, D) k = some res) (G : GS s A dC dI b t Ln xs nL n0 s0 adq L S sh D ls st ws tys H locs) : W p l e R s m args below meth c H locs (sh.length - n0) (slo sh - s0) Q (F0 m pc ls st) := by
  have hx := C.1
  have hb := C.2.1
  simp only [stepI] at hs
  subst hl
  split at hs
  · rename_i i0 r S'
    split at hs
    · rename_i tag n refs hr
      cases ht : (tag == 103) with
      | false => rw [ht] at hs; cases hs
      | true =>
        rw [ht] at hs
        obtain ⟨x, hx1, hs1⟩ := bnd (show (ard D r n i0).bind (fun x => k (pc + 1) L (.inr (.inl x) :: S') (sh, D)) = some res from hs)
        obtain ⟨hin, hxv⟩ := ard_some hx1
        clear hx1 hs
        obtain ⟨gl, gs, g1, G⟩ := G
        obtain ⟨i, st, rfl, hi, gs1⟩ := rvs_int gs
        obtain ⟨st, rfl, hlt, gs2⟩ := rvs_ref gs1
        obtain ⟨g2, g3, g4, g5, g6⟩ := id G
        subst hi
        have ht : tag = 103 := eq_of_beq ht
        subst ht
        obtain ⟨kk, aa, t0, cA, g, rfl, hk1, had, ht0, hg⟩ := g1.larr hr
        rw [had]
        refine va_lald hx hb g2 g3 kk t0 hk1 ht0 (vp_in_i hin) hd ?_
        exact hk _ _ _ _ _ hs1 _ _ _ _ _ _ ⟨gl, ⟨⟨_, rfl, by rw [i32_cl hin.1, hg _ (by omega), hxv]⟩, gs2⟩, g1, G⟩
    · cases hs
  · cases hs
/-- behind a store into an array of ints -/
theorem Rel.store {b t Ln : Nat} {xs : Nat → Int32} {ws : va_W} {tys : List (ClassId × FieldType)} {sh : List SC} {D : DT} (g1 : Rel b t Ln xs ws tys sh D) {kk aa t0 tag n : Nat} {refs : List Nat} {cA : ClassId} {g : Nat → Int32} (hr : sh[kk + 2]? = some (tag, n, refs)) (ht : tag = 100 ∨ tag = 101 ∨ tag = 102) (hk1 : ws[kk]? = some (aa, .inl (cA, n, .inl g))) (ht0 : tys[t0]? = some (cA, atag tag)) (hg : ∀ j, j < n → (g j).toInt = D (kk + 2) j) {j0 : Nat} {z : Int32} {v : Int} (hz : z.toInt = v) : Rel b t Ln xs (ws.set kk (aa, .inl (cA, n, .inl (upd g j0 z)))) tys sh (dset D (kk + 2) (up1 (D (kk + 2)) j0 v)) := by
  refine g1.setD hk1 hr ⟨rfl, ht, ⟨t0, ht0⟩, fun j hj => ?_⟩
  by_cases hjj : j = j0
  · subst hjj; rw [pk_us, up1_same, hz]
  · rw [pk_un hjj, up1_ne hjj, hg j hj]
theorem so_13 (C : CXT p s m args meth c R cc nL o ini A b t Ln xs d n0 s0 res) (hk : KW p l e R s m args below meth c Q A dC dI b t Ln xs nL n0 s0 adq res k) (hd : decode cc pc = .ok (.iastore, len)) (hl : len = 1) (hs : stepI call (13, len, a, b', c', ex) pc L S (sh, D) k = some res) (G : GS s A dC dI b t Ln xs nL n0 s0 adq L S sh D ls st ws tys H locs) : W p l e R s m args below meth c H locs (sh.length - n0) (slo sh - s0) Q (F0 m pc ls st) := by
  have hx := C.1
  have hb := C.2.1
  simp only [stepI] at hs
  subst hl
  split at hs
  · rename_i v0 i0 r S'
    split at hs
    · rename_i tag n refs hr
      cases ht : (tag == 100) with
      | false => rw [ht] at hs; cases hs
      | true =>
        rw [ht] at hs
        obtain ⟨D', hx1, hs1⟩ := bnd (show (awr D r n i0 v0).bind (fun D => k (pc + 1) L S' (sh, D)) = some res from hs)
        obtain ⟨hin, hx1⟩ := awr_some hx1
        obtain ⟨gl, gs, g1, g2, g3, g4, g5, g6⟩ := G
        obtain ⟨z, st, rfl, hz, gs0⟩ := rvs_int gs
        obtain ⟨i, st, rfl, hi, gs1⟩ := rvs_int gs0
        obtain ⟨st, rfl, hlt, gs2⟩ := rvs_ref gs1
        subst hi
        have ht : tag = 100 := eq_of_beq ht
        subst ht
        obtain ⟨kk, aa, t0, cA, g, rfl, hk1, had, ht0, hg⟩ := g1.arr hr (Or.inl rfl)
        rw [had]
        refine va_iast hx hb g2 g3 g4 g5 kk t0 hk1 ht0 (vp_in_i hin) hd (fun H1 locs1 g3 g4 g5 => ?_)
        refine hk _ _ _ _ _ hs1 _ _ _ _ _ _ ⟨by rw [adr_set hk1]; exact gl, by rw [adr_set hk1]; exact gs2, ?_, g2, g3, g4, g5, g6.1, g6.2.1, fun z hz => by rw [adr_set hk1]; exact g6.2.2 z hz⟩
        rw [← hx1, i32_cl hin.1]
        exact g1.store hr (Or.inl rfl) hk1 ht0 hg hz
    · cases hs
  · cases hs
theorem nar_bool {z : Int32} (h : z.toInt = 0 ∨ z.toInt = 1) : vp_nar .boolean z = z := by
  have : z = 0 ∨ z = 1 := by
    rcases h with h | h
    · left; rw [i32_eq, h]; rfl
    · right; rw [i32_eq, h]; rfl
  rcases this with rfl | rfl <;> decide
theorem so_20 (C : CXT p s m args meth c R cc nL o ini A b t Ln xs d n0 s0 res) (hk : KW p l e R s m args below meth c Q A dC dI b t Ln xs nL n0 s0 adq res k) (hd : decode cc pc = .ok (.bastore, len)) (hl : len = 1) (hs : stepI call (20, len, a, b', c', ex) pc L S (sh, D) k = some res) (G : GS s A dC dI b t Ln xs nL n0 s0 adq L S sh D ls st ws tys H locs) : W p l e R s m args below meth c H locs (sh.length - n0) (slo sh - s0) Q (F0 m pc ls st) := by
  have hx := C.1
  have hb := C.2.1
  simp only [stepI] at hs
  subst hl
  split at hs
  · rename_i v0 i0 r S'
    split at hs
    · rename_i tag n refs hr
      cases ht : (tag == 101) with
      | true =>
        rw [ht] at hs
        obtain ⟨v1, hv1, hs0⟩ := bnd (show (abit v0).bind (fun v => (awr D r n i0 v).bind (fun D => k (pc + 1) L S' (sh, D))) = some res from hs)
        obtain ⟨D', hx1, hs1⟩ := bnd hs0
        obtain ⟨hin, hx1⟩ := awr_some hx1
        obtain ⟨gl, gs, g1, g2, g3, g4, g5, g6⟩ := G
        obtain ⟨z, st, rfl, hz, gs0⟩ := rvs_int gs
        obtain ⟨i, st, rfl, hi, gs1⟩ := rvs_int gs0
        obtain ⟨st, rfl, hlt, gs2⟩ := rvs_ref gs1
        subst hi
        have ht : tag = 101 := eq_of_beq ht
        subst ht
        unfold abit at hv1
        rcases ite_or hv1 with ⟨h01, hv1⟩ | ⟨-, hv1⟩
        · have hv1 := Option.some.inj hv1
          obtain ⟨kk, aa, t0, cA, g, rfl, hk1, had, ht0, hg⟩ := g1.arr hr (Or.inr (Or.inl rfl))
          rw [had]
          refine va_zast hx hb g2 g3 g4 g5 kk t0 hk1 ht0 (vp_in_i hin) hd (fun H1 locs1 g3 g4 g5 => ?_)
          refine hk _ _ _ _ _ hs1 _ _ _ _ _ _ ⟨by rw [adr_set hk1]; exact gl, by rw [adr_set hk1]; exact gs2, ?_, g2, g3, g4, g5, g6.1, g6.2.1, fun z hz => by rw [adr_set hk1]; exact g6.2.2 z hz⟩
          rw [← hx1, i32_cl hin.1]
          exact g1.store hr (Or.inr (Or.inl rfl)) hk1 ht0 hg (by rw [nar_bool (by rw [hz]; exact h01), hz, hv1])
        · cases hv1
      | false =>
        rw [ht] at hs
        cases ht' : (tag == 102) with
        | false => rw [ht'] at hs; cases hs
        | true =>
          rw [ht'] at hs
          obtain ⟨D', hx1, hs1⟩ := bnd (show (awr D r n i0 (ai2b v0)).bind (fun D => k (pc + 1) L S' (sh, D)) = some res from hs)
          obtain ⟨hin, hx1⟩ := awr_some hx1
          obtain ⟨gl, gs, g1, g2, g3, g4, g5, g6⟩ := G
          obtain ⟨z, st, rfl, hz, gs0⟩ := rvs_int gs
          obtain ⟨i, st, rfl, hi, gs1⟩ := rvs_int gs0
          obtain ⟨st, rfl, hlt, gs2⟩ := rvs_ref gs1
          subst hi
          have ht' : tag = 102 := eq_of_beq ht'
          subst ht'
          obtain ⟨kk, aa, t0, cA, g, rfl, hk1, had, ht0, hg⟩ := g1.arr hr (Or.inr (Or.inr rfl))
          rw [had]
          refine va_bast hx hb g2 g3 g4 g5 kk t0 hk1 ht0 (vp_in_i hin) hd (fun H1 locs1 g3 g4 g5 => ?_)
          refine hk _ _ _ _ _ hs1 _ _ _ _ _ _ ⟨by rw [adr_set hk1]; exact gl, by rw [adr_set hk1]; exact gs2, ?_, g2, g3, g4, g5, g6.1, g6.2.1, fun z hz => by rw [adr_set hk1]; exact g6.2.2 z hz⟩
          rw [← hx1, i32_cl hin.1]
          exact g1.store hr (Or.inr (Or.inr rfl)) hk1 ht0 hg (by rw [vp_nar_byte, ai2b, ← hz, i32_of])
    · cases hs
  · cases hs
theorem so_51 (C : CXT p s m args meth c R cc nL o ini A b t Ln xs d n0 s0 res) (hk : KW p l e R s m args below meth c Q A dC dI b t Ln xs nL n0 s0 adq res k) (hd : decode cc pc = .ok (.lastore, len)) (hl : len = 1) (hs : stepI call (51, len, a, b', c', ex) pc L S (sh, D) k = some res) (G : GS s A dC dI b t Ln xs nL n0 s0 adq L S sh D ls st ws tys H locs) : W p l e R s m args below meth c H locs (sh.length - n0) (slo sh - s0) Q (F0 m pc ls st) := by
  have hx := C.1
  have hb := C.2.1
  simp only [stepI] at hs
  subst hl
  split at hs
  · rename_i v0 i0 r S'
    split at hs
    · rename_i tag n refs hr
      cases ht : (tag == 103) with
      | false => rw [ht] at hs; cases hs
      | true =>
        rw [ht] at hs
        obtain ⟨D', hx1, hs1⟩ := bnd (show (awr D r n i0 v0).bind (fun D => k (pc + 1) L S' (sh, D)) = some res from hs)
        obtain ⟨hin, hx1⟩ := awr_some hx1
        obtain ⟨gl, gs, g1, g2, g3, g4, g5, g6⟩ := G
        obtain ⟨z, st, rfl, hz, gs0⟩ := rvs_long gs
        obtain ⟨i, st, rfl, hi, gs1⟩ := rvs_int gs0
        obtain ⟨st, rfl, hlt, gs2⟩ := rvs_ref gs1
        subst hi
        have ht : tag = 103 := eq_of_beq ht
        subst ht
        obtain ⟨kk, aa, t0, cA, g, rfl, hk1, had, ht0, hg⟩ := g1.larr hr
        rw [had]
        refine va_last hx hb g2 g3 g4 g5 kk t0 hk1 ht0 (vp_in_i hin) hd (fun H1 locs1 g3 g4 g5 => ?_)
        refine hk _ _ _ _ _ hs1 _ _ _ _ _ _ ⟨by rw [adr_set hk1]; exact gl, by rw [adr_set hk1]; exact gs2, ?_, g2, g3, g4, g5, g6.1, g6.2.1, fun z hz => by rw [adr_set hk1]; exact g6.2.2 z hz⟩
        rw [← hx1, i32_cl hin.1]
        refine g1.setD hk1 hr ⟨rfl, rfl, ⟨t0, ht0⟩, fun j hj => ?_⟩
        by_cases hjj : j = i.toInt.toNat
        · subst hjj; rw [pk_uLs, up1_same, hz]
        · rw [pk_uLn hjj, up1_ne hjj, hg j hj]
    · cases hs
  · cases hs
theorem aref_some {refs : List Nat} {n q : Nat} {i : Int} (h : aref refs n i = some q) : (0 ≤ i ∧ i < (n : Int)) ∧ refs[i.toNat]? = some (q + 1) := by
  unfold aref at h
  rcases ite_or h with ⟨h1, h2⟩ | ⟨h1, h2⟩
  · refine ⟨h1, ?_⟩
    split at h2
    · rename_i q' hq'
      cases h2
      exact hq'
    · cases h2
  · cases h2
theorem so_22 (C : CXT p s m args meth c R cc nL o ini A b t Ln xs d n0 s0 res) (hk : KW p l e R s m args below meth c Q A dC dI b t Ln xs nL n0 s0 adq res k) (hd : decode cc pc = .ok (.aaload, len)) (hl : len = 1) (hs : stepI call (22, len, a, b', c', ex) pc L S (sh, D) k = some res) (G : GS s A dC dI b t Ln xs nL n0 s0 adq L S sh D ls st ws tys H locs) : W p l e R s m args below meth c H locs (sh.length - n0) (slo sh - s0) Q (F0 m pc ls st) := by
  have hx := C.1
  have hb := C.2.1
  simp only [stepI] at hs
  subst hl
  split at hs
  · rename_i i0 r S'
    split at hs
    · rename_i tag n refs hr
      cases ht : (Nat.ble 110 tag) with
      | false => rw [ht] at hs; cases hs
      | true =>
        rw [ht] at hs
        have ht : 110 ≤ tag := Nat.le_of_ble_eq_true ht
        obtain ⟨q0, hq0, hs1⟩ := bnd (show (aref refs n i0).bind (fun q => k (pc + 1) L (.inr (.inr q) :: S') (sh, D)) = some res from hs)
        obtain ⟨hin, hq0⟩ := aref_some hq0
        obtain ⟨gl, gs, g1, G⟩ := G
        obtain ⟨i, st, rfl, hi, gs1⟩ := rvs_int gs
        obtain ⟨st, rfl, hlt, gs2⟩ := rvs_ref gs1
        obtain ⟨g2, g3, g4, g5, g6⟩ := id G
        subst hi
        obtain ⟨kk, aa, t0, ci, q, cA, g, rfl, hk1, had, e1, hq, ht0, hrl, hg⟩ := g1.qarr hr ht
        rw [had]
        refine va_aldq hx hb g2 g3 kk t0 hk1 ht0 (vp_in_i hin) hd ?_
        rw [i32_cl hin.1, hg _ (by omega)]
        unfold rrf
        rw [hq0]
        exact hk _ _ _ _ _ hs1 _ _ _ _ _ _ ⟨gl, ⟨⟨g1.2.2.2.2.2.1 _ _ _ _ hr _ _ hq0, rfl⟩, gs2⟩, g1, G⟩
    · cases hs
  · cases hs
theorem so_56 (C : CXT p s m args meth c R cc nL o ini A b t Ln xs d n0 s0 res) (hk : KW p l e R s m args below meth c Q A dC dI b t Ln xs nL n0 s0 adq res k) (hd : decode cc pc = .ok (.aastore, len)) (hl : len = 1) (hs : stepI call (56, len, a, b', c', ex) pc L S (sh, D) k = some res) (G : GS s A dC dI b t Ln xs nL n0 s0 adq L S sh D ls st ws tys H locs) : W p l e R s m args below meth c H locs (sh.length - n0) (slo sh - s0) Q (F0 m pc ls st) := by
  have hx := C.1
  have hb := C.2.1
  simp only [stepI] at hs
  subst hl
  split at hs
  · rename_i q0 i0 r S'
    split at hs
    · rename_i tag n refs tq nq rq hr hqr
      cases ht : (tag == 110 + tq && Nat.blt tq 100) with
      | false => rw [ht] at hs; cases hs
      | true =>
        rw [ht] at hs
        obtain ⟨ht1, ht2⟩ := Bool.and_eq_true_iff.mp ht
        have ht1 : tag = 110 + tq := eq_of_beq ht1
        have ht2 : tq < 100 := Nat.blt_eq.mp ht2
        have hs : (if 0 ≤ i0 ∧ i0 < (n : Int) then k (pc + 1) L S' (sh.set r (tag, n, refs.set i0.toNat (q0 + 1)), D) else none) = some res := hs
        rcases ite_or hs with ⟨hin, hs1⟩ | ⟨-, hs1⟩
        · obtain ⟨gl, gs, g1, g2, g3, g4, g5, g6, g7, g8⟩ := G
          obtain ⟨st, rfl, hlt0, gs0⟩ := rvs_ref gs
          obtain ⟨i, st, rfl, hi, gs1⟩ := rvs_int gs0
          obtain ⟨st, rfl, hlt, gs2⟩ := rvs_ref gs1
          subst hi
          obtain ⟨kk, aa, t0, ci, q, cA, g, rfl, hk1, had, e1, hq, ht0, hrl, hg⟩ := g1.qarr hr (by omega)
          have hci : ci = tq := by omega
          subst hci
          obtain ⟨k2, a2, E2, rfl, hk2, had2, hcel2⟩ := g1.get hqr (by omega)
          rw [had, had2]
          match E2, hk2, hcel2 with
          | .inr (ci2, fs2), hk2, ⟨e2, _⟩ =>
            subst e2
            refine va_astq hx hb g2 g3 g4 g5 kk t0 k2 ci hk1 ht0 hk2 hq (vp_in_i hin) hd (fun H1 locs1 g3 g4 g5 => ?_)
            have hsl := slo_set (tag' := tag) (refs' := refs.set i.toInt.toNat (k2 + 2 + 1)) hr
            have hln : (sh.set (kk + 2) (tag, n, refs.set i.toInt.toNat (k2 + 2 + 1))).length = sh.length := List.length_set
            have hgoal := hk _ _ _ _ _ hs1 ls st _ tys H1 locs1 ⟨by rw [adr_set hk1, hln]; exact gl, by rw [adr_set hk1, hln]; exact gs2, ?_, g2, g3, g4, g5, by rw [hln]; exact g6, by rw [hsl]; exact g7, fun z hz => by rw [adr_set hk1]; exact g8 z hz⟩
            · rw [hln, hsl] at hgoal
              exact hgoal
            · have h1 := g1.set hk1 hr (refs' := refs.set i.toInt.toNat (k2 + 2 + 1)) (f' := D (kk + 2)) (e := .inl (cA, n, .inr (.inr (.inr (.inr (va_up g i.toNatClampNeg (some a2))))))) (fun j q1 hj1 => by
                by_cases hjb : i.toInt.toNat = j
                · subst hjb
                  rw [List.getElem?_set_self (by omega)] at hj1
                  cases hj1
                  exact hlt0
                · rw [List.getElem?_set_ne hjb] at hj1
                  exact g1.2.2.2.2.2.1 _ _ _ _ hr j q1 hj1)
                ⟨rfl, by rw [List.length_set]; exact hrl, ⟨ci, q, ht1, hq, ⟨t0, ht0⟩⟩, fun j hj => by
                  rw [i32_cl hin.1]
                  unfold rrf va_up
                  by_cases hjj : j = i.toInt.toNat
                  · subst hjj
                    rw [if_pos rfl, List.getElem?_set_self (by omega)]
                    show some a2 = some (adr b t ws (k2 + 2))
                    rw [had2]
                  · rw [if_neg hjj, List.getElem?_set_ne (fun z => hjj z.symm), hg j hj]
                    rfl⟩
              have e2 : dset D (kk + 2) (D (kk + 2)) = D := by
                funext z
                by_cases hz : z = kk + 2
                · subst hz; rw [dset_same]
                · rw [dset_ne _ _ hz]
              rw [e2] at h1
              exact h1
          | .inl (cA, mm, .inl g), hk2, hcel => have := hcel.2.1; omega
          | .inl (cA, mm, .inr (.inl g)), hk2, hcel => have := hcel.2.1; omega
          | .inl (cA, mm, .inr (.inr (.inr (.inr g)))), hk2, hcel => obtain ⟨-, -, ⟨ci, q', h1, -⟩, -⟩ := hcel; omega
        · cases hs1
    · cases hs
  · cases hs
end So
