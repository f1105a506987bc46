section So
variable {p : Program} {l : Launch} {e : Env} {R : Room} {s : State} {m : MethodId} {args : Array Value} {below : List Frame} {meth : Method} {c : Code} {Q : State → Prop} {cc : ByteArray} {nL o : Nat} {ini : Bool} {A : Nat → Prop} {dC : Nat → ClassId} {dI : Nat → Nat → Nat} {b t Ln : Nat} {xs : Nat → Int32} {d n0 s0 : Nat} {adq : Nat → Nat} {res : RES} {k : Nat → List (Option AV) → List AV → ST → Option RES} {call : CALLF}
variable {pc len a b' c' : Nat} {ex : List Int} {L : List (Option AV)} {S : List AV} {sh : List SC} {D : DT} {ls : Array Slot} {st : List Value} {ws : va_W} {tys : List (ClassId × FieldType)} {H : Heap} {locs : List Loc}

theorem cl_decl : ∀ (ci : Nat) (q : vw_C), classes[ci]? = some q → ∀ j, j < q.2.2 → (q.2.1 j).1 = q.1 := by
  intro ci q hq
  match ci, hq with
  | 0, hq => cases hq; exact (by decide +kernel : ∀ j, j < 11 → (TC0 j).1 = RC0)
  | 1, hq => cases hq; exact (by decide +kernel : ∀ j, j < 13 → (TC1 j).1 = RC1)
  | 2, hq => cases hq; exact (by decide +kernel : ∀ j, j < 9 → (TC2 j).1 = RC2)
  | 3, hq => cases hq; exact (by decide +kernel : ∀ j, j < 3 → (TC3 j).1 = RC3)
  | 4, hq => cases hq; exact (by decide +kernel : ∀ j, j < 7 → (TC4 j).1 = RC4)
  | 5, hq => cases hq; exact (by decide +kernel : ∀ j, j < 2 → (TC5 j).1 = RC5)
  | 6, hq => cases hq; exact (by decide +kernel : ∀ j, j < 9 → (TC6 j).1 = RC6)
  | 7, hq => cases hq; exact (by decide +kernel : ∀ j, j < 20 → (TC7 j).1 = RC7)
  | 8, hq => cases hq; exact (by decide +kernel : ∀ j, j < 9 → (TC8 j).1 = RC8)
  | 9, hq => cases hq; exact (by decide +kernel : ∀ j, j < 6 → (TC9 j).1 = RC9)
  | 10, hq => cases hq; exact (by decide +kernel : ∀ j, j < 11 → (TC10 j).1 = RC10)
  | 11, hq => cases hq; exact (by decide +kernel : ∀ j, j < 15 → (TC11 j).1 = RC11)
  | 12, hq => cases hq; exact (by decide +kernel : ∀ j, j < 64 → (TC12 j).1 = RC12)
  | n + 13, hq => simp [classes] at hq
theorem fok_int {dsc : String} {ty : FieldType} (h : fok dsc ty = true) (hc : fcode dsc = 0) : ty = .int := by
  unfold fok at h; rw [hc] at h; exact eq_of_beq h
theorem fok_bool {dsc : String} {ty : FieldType} (h : fok dsc ty = true) (hc : fcode dsc = 1) : ty = .boolean := by
  unfold fok at h; rw [hc] at h; exact eq_of_beq h
theorem fok_long {dsc : String} {ty : FieldType} (h : fok dsc ty = true) (hc : fcode dsc = 2) : ty = .long := by
  unfold fok at h; rw [hc] at h; exact eq_of_beq h
theorem fok_ref {dsc : String} {ty : FieldType} (h : fok dsc ty = true) (hc : fcode dsc = 3) (x : Nat) : narrow ty (.ref x) = .ref x ∧ fits ty (.ref x) = true := by
  unfold fok at h
  rw [hc] at h
  cases ty <;> first | exact ⟨rfl, rfl⟩ | cases h
theorem fcode_le (dsc : String) : fcode dsc ≤ 3 := by
  unfold fcode
  repeat' split
  all_goals omega
theorem fldR_ref {ad : Nat → Nat} {fc : Nat} {refs : List Nat} {f : Nat → Int} {j : Nat} {v : Value} (h : fldR ad fc refs f j v) (hc : fc = 3) : v = va_rf (rrf ad refs j) := by
  subst hc; exact h
theorem so_2 (C : CXT p s m args meth c R cc nL o ini A b t Ln xs d n0 s0 res) (hk : KW p l e R s m args below meth c Q A dC dI b t Ln xs nL n0 s0 adq res k) {x : Nat} (hd : decode cc pc = .ok (.getfield x, len)) (hl : len = 3) (hF : (o, x, a, b') ∈ FL) (hc : c' = fcAt a b') (hs : stepI call (2, len, a, b', c', ex) pc L S (sh, D) k = some res) (G : GS s A dC dI b t Ln xs nL n0 s0 adq L S sh D ls st ws tys H locs) : W p l e R s m args below meth c H locs (sh.length - n0) (slo sh - s0) Q (F0 m pc ls st) := by
  have hx := C.1
  have hb := C.2.1
  simp only [stepI] at hs
  subst hl
  split at hs
  · rename_i r S'
    split at hs
    · rename_i tag n refs hr
      cases ht : (tag == a) with
      | false => rw [ht] at hs; cases hs
      | true =>
        rw [ht] at hs
        have ht : tag = a := eq_of_beq ht
        subst ht
        obtain ⟨q, hq, hj, hw⟩ := FL_get hF
        have hq13 := classes_lt hq
        obtain ⟨gl, gs, g1, g2, g3, g4, g5, g6⟩ := G
        obtain ⟨st, rfl, hlt, gs2⟩ := rvs_ref gs
        obtain ⟨kk, aa, E, rfl, hk1, had, hcel⟩ := g1.get hr (by omega)
        rw [had]
        have hfc : c' = fcode (q.2.1 b').2.2.1 := by rw [hc]; unfold fcAt; rw [hq]
        match E, hk1, hcel with
        | .inr (ci, fs), hk1, ⟨e1, q', hq', hn, hrl, hfl, hfs⟩ =>
          subst e1
          cases hq.symm.trans hq'
          obtain ⟨v, hv, hfR⟩ := hfs b' (by omega)
          refine va_get hx hb (Ts := lw_good) C.2.2.2.2.1 (cl_ok _ _ hq).1 C.2.2.2.1 g2 g3 kk hk1 hq b' hj (C.2.2.2.2.1 _ hw) (fun _ h => h) hv hd ?_
          rw [← hfc] at hfR
          clear hc hfc
          match c', hs, hfR with
          | 0, hs, ⟨i, hv, hi⟩ => rw [hv]; exact hk _ _ _ _ _ hs _ _ _ _ _ _ ⟨gl, ⟨⟨i, rfl, hi⟩, gs2⟩, g1, g2, g3, g4, g5, g6⟩
          | 1, hs, ⟨i, hv, hi⟩ => rw [hv]; exact hk _ _ _ _ _ hs _ _ _ _ _ _ ⟨gl, ⟨⟨i, rfl, hi⟩, gs2⟩, g1, g2, g3, g4, g5, g6⟩
          | 2, hs, ⟨i, hv, hi⟩ => rw [hv]; exact hk _ _ _ _ _ hs _ _ _ _ _ _ ⟨gl, ⟨⟨i, rfl, hi⟩, gs2⟩, g1, g2, g3, g4, g5, g6⟩
          | z + 3, hs, hfR =>
            have hv : v = va_rf (rrf (adr b t ws) refs b') := hfR
            have hs : (match refs[b']? with
              | some (q + 1) => k (pc + 3) L (Sum.inr (Sum.inr q) :: S') (sh, D)
              | _ => none) = some res := hs
            split at hs
            · rename_i q0 hq0
              rw [hv]
              unfold rrf
              rw [hq0]
              exact hk _ _ _ _ _ hs _ _ _ _ _ _ ⟨gl, ⟨⟨g1.2.2.2.2.2.1 _ _ _ _ hr _ _ hq0, rfl⟩, gs2⟩, g1, g2, g3, g4, g5, g6⟩
            · cases hs
        | .inl (cA, mm, .inl g), hk1, hcel => exact absurd hcel.2.1 (by omega)
        | .inl (cA, mm, .inr (.inl g)), hk1, hcel => exact absurd hcel.2.1 (by omega)
        | .inl (cA, mm, .inr (.inr (.inr (.inr g)))), hk1, hcel => obtain ⟨-, -, ⟨ci, q', h1, -⟩, -⟩ := hcel; omega
    · cases hs
  · cases hs
/-- the machine's part of a putfield: a value that fits comes into a field -/
theorem so_put (C : CXT p s m args meth c R cc nL o ini A b t Ln xs d n0 s0 res)  {x kk aa : Nat} {q : vw_C} {fs : List Value} {v : Value} (hd : decode cc pc = .ok (.putfield x, 3)) (hq : classes[a]? = some q) (hj : b' < q.2.2) (hw : Cond.fieldLink (ON o) x (q.2.1 b').1 (q.2.1 b').2.1 (q.2.1 b').2.2.1 ∈ lw_good) (hfin : finAt a b' = false ∨ ini = true ∧ a = o) (g2 : va_K (dC, dI) classes tys s) (g3 : va_P (dC, dI) classes ws H) (g4 : va_D A ws) (g5 : va_S A s.heap H locs) (hk1 : ws[kk]? = some (aa, .inr (a, fs))) (hfl : b' < fs.length) (hn : narrow (tyAt a b') v = v) (hft : fits (tyAt a b') v = true)
    (kn : ∀ (H1 : Heap) (locs1 : List Loc), va_P (dC, dI) classes (ws.set kk (aa, .inr (a, fs.set b' v))) H1 → va_D A (ws.set kk (aa, .inr (a, fs.set b' v))) → va_S A s.heap H1 locs1 → W p l e R s m args below meth c H1 locs1 (sh.length - n0) (slo sh - s0) Q (F0 m (pc + 3) ls st)) : W p l e R s m args below meth c H locs (sh.length - n0) (slo sh - s0) Q (F0 m pc ls (v :: .ref aa :: st)) := by
  have hx := C.1
  have hb := C.2.1
  obtain ⟨c1, c2, c3, c4, -⟩ := cl_ok _ _ hq
  by_cases hf : (q.2.1 b').2.2.2 = true
  · have hini : ini = true ∧ a = o := by
      rcases hfin with h | h
      · unfold finAt at h; rw [hq] at h; rw [show (q.2.1 b').2.2.2 = false from h] at hf; cases hf
      · exact h
    have hdecl : (q.2.1 b').1 = ON o := by
      rw [← hini.2]
      unfold ON
      rw [hq]
      exact cl_decl _ _ hq b' hj
    exact va_putF hx hb (Ts := lw_good) C.2.2.2.2.1 c1 (tyAt a) c2 c4 C.2.2.2.1 g2 g3 g4 g5 kk hk1 hq b' hj (C.2.2.2.2.1 _ hw) (fun _ h => h) hf (C.2.2.2.2.2.2.2.2.2.2.2.2.2 hini.1) hdecl (c2 b' hj) hn hft hfl hd kn
  · have hf : (q.2.1 b').2.2.2 = false := by simpa using hf
    exact va_put hx hb (Ts := lw_good) C.2.2.2.2.1 c1 (tyAt a) c2 c4 C.2.2.2.1 g2 g3 g4 g5 kk hk1 hq b' hj (C.2.2.2.2.1 _ hw) (fun _ h => h) hf (c2 b' hj) hn hft hfl hd kn
theorem fldR_set {ad : Nat → Nat} {q : vw_C} {n : Nat} {refs refs' : List Nat} {f f' : Nat → Int} {fs : List Value} {j0 : Nat} {v : Value} (hfl : fs.length = n) (hfs : ∀ j, j < n → ∃ v, fs[j]? = some v ∧ fldR ad (fcode (q.2.1 j).2.2.1) refs f j v) (hf : ∀ j, j ≠ j0 → f' j = f j) (hr : ∀ j, j ≠ j0 → refs'[j]? = refs[j]?) (hv : fldR ad (fcode (q.2.1 j0).2.2.1) refs' f' j0 v) : ∀ j, j < n → ∃ v', (fs.set j0 v)[j]? = some v' ∧ fldR ad (fcode (q.2.1 j).2.2.1) refs' f' j v' := by
  intro j hj
  by_cases hjj : j = j0
  · subst hjj
    exact ⟨v, List.getElem?_set_self (by omega), hv⟩
  · obtain ⟨w, h1, h2⟩ := hfs j hj
    refine ⟨w, by rw [List.getElem?_set_ne (fun z => hjj z.symm)]; exact h1, ?_⟩
    have e1 : rrf ad refs' j = rrf ad refs j := by unfold rrf; rw [hr j hjj]
    revert h2
    unfold fldR
    rw [hf j hjj, e1]
    exact id
theorem dput_ne {D : DT} {a i : Nat} {v : Int} {j : Nat} (h : j ≠ i) : up1 (D a) i v j = D a j := by simp [up1, h]
theorem up1_same {f : Nat → Int} {i : Nat} {v : Int} : up1 f i v i = v := by simp [up1]
theorem up1_ne {f : Nat → Int} {i j : Nat} {v : Int} (h : j ≠ i) : up1 f i v j = f j := by simp [up1, h]
theorem so_10 (C : CXT p s m args meth c R cc nL o ini A b t Ln xs d n0 s0 res) (hk : KW p l e R s m args below meth c Q A dC dI b t Ln xs nL n0 s0 adq res k) {x : Nat} (hd : decode cc pc = .ok (.putfield x, len)) (hl : len = 3) (hF : (o, x, a, b') ∈ FL) (hc : c' = fcAt a b') (hfin : finAt a b' = false ∨ ini = true ∧ a = o) (hs : stepI call (10, len, a, b', c', ex) pc L S (sh, D) k = some res) (G : GS s A dC dI b t Ln xs nL n0 s0 adq L S sh D ls st ws tys H locs) : W p l e R s m args below meth c H locs (sh.length - n0) (slo sh - s0) Q (F0 m pc ls st) := by
  have hx := C.1
  have hb := C.2.1
  simp only [stepI] at hs
  subst hl
  split at hs
  · rename_i v0 r S'
    split at hs
    · rename_i tag n refs hr
      cases ht : (tag == a) with
      | false => rw [ht] at hs; cases hs
      | true =>
        rw [ht] at hs
        have ht : tag = a := eq_of_beq ht
        subst ht
        obtain ⟨q, hq, hj, hw⟩ := FL_get hF
        have hq13 := classes_lt hq
        obtain ⟨gl, gs, g1, g2, g3, g4, g5, g6⟩ := G
        obtain ⟨i, st, rfl, hi, gs⟩ := rvs_int gs
        obtain ⟨st, rfl, hlt, gs2⟩ := rvs_ref gs
        obtain ⟨kk, aa, E, rfl, hk1, had, hcel⟩ := g1.get hr (by omega)
        rw [had]
        have hfc : c' = fcode (q.2.1 b').2.2.1 := by rw [hc]; unfold fcAt; rw [hq]
        match E, hk1, hcel with
        | .inr (ci, fs), hk1, ⟨e1, q', hq', hn, hrl, hfl, hfs⟩ =>
          subst e1
          cases hq.symm.trans hq'
          have hfk := (cl_ok _ _ hq).2.2.1 b' hj
          have fin : ∀ (v1 : Int), v1 = v0 → (fcode (q.2.1 b').2.2.1 = 0 ∨ fcode (q.2.1 b').2.2.1 = 1) → k (pc + 3) L S' (sh, dput D (kk + 2) b' v1) = some res → narrow (tyAt tag b') (.int i) = .int i → fits (tyAt tag b') (.int i) = true → W p l e R s m args below meth c H locs (sh.length - n0) (slo sh - s0) Q (F0 m pc ls (.int i :: .ref aa :: st)) := by
            intro v1 hv1 hc01 hs hn1 hn2
            refine so_put C hd hq hj hw hfin g2 g3 g4 g5 hk1 (by omega) hn1 hn2 (fun H1 locs1 g3 g4 g5 => ?_)
            refine hk _ _ _ _ _ hs _ _ _ _ _ _ ⟨by rw [adr_set hk1]; exact gl, by rw [adr_set hk1]; exact gs2, ?_, g2, g3, g4, g5, g6.1, g6.2.1, fun z hz => by rw [adr_set hk1]; exact g6.2.2 z hz⟩
            refine g1.setD hk1 hr ⟨rfl, q, hq, hn, hrl, by rw [List.length_set]; exact hfl, fldR_set hfl hfs (fun j hj => up1_ne hj) (fun _ _ => rfl) ?_⟩
            rcases hc01 with hc0 | hc0 <;> rw [hc0] <;> exact ⟨i, rfl, by rw [up1_same, hi, hv1]⟩
          clear hc
          match c', hs, hfc with
          | 0, hs, hfc =>
            have e := fok_int hfk hfc.symm
            exact fin v0 rfl (Or.inl hfc.symm) hs (by rw [e]; rfl) (by rw [e]; rfl)
          | 1, hs, hfc =>
            have e := fok_bool hfk hfc.symm
            obtain ⟨v1, hv1, hs⟩ := bnd hs
            unfold abit at hv1
            rcases ite_or hv1 with ⟨h01, hv1⟩ | ⟨-, hv1⟩
            · have hv1 := Option.some.inj hv1
              have hi01 : i = 0 ∨ i = 1 := by
                rcases h01 with h | h
                · left; rw [i32_eq, hi, h]; rfl
                · right; rw [i32_eq, hi, h]; rfl
              refine fin v1 hv1.symm (Or.inr hfc.symm) hs ?_ ?_
              · rw [e]; rcases hi01 with rfl | rfl <;> rfl
              · rw [e]; rcases hi01 with rfl | rfl <;> rfl
            · cases hv1
          | z + 2, hs, hfc => cases hs
        | .inl (cA, mm, .inl g), hk1, hcel => exact absurd hcel.2.1 (by omega)
        | .inl (cA, mm, .inr (.inl g)), hk1, hcel => exact absurd hcel.2.1 (by omega)
        | .inl (cA, mm, .inr (.inr (.inr (.inr g)))), hk1, hcel => obtain ⟨-, -, ⟨ci, q', h1, -⟩, -⟩ := hcel; omega
    · cases hs
  · rename_i v0 r S'
    split at hs
    · rename_i tag n refs hr
      cases ht : (tag == a && c' == 2) with
      | false => rw [ht] at hs; cases hs
      | true =>
        rw [ht] at hs
        obtain ⟨ht, ht2⟩ := Bool.and_eq_true_iff.mp ht
        have ht : tag = a := eq_of_beq ht
        have ht2 : c' = 2 := eq_of_beq ht2
        subst ht
        have hs : k (pc + 3) L S' (sh, dput D r b' v0) = some res := hs
        obtain ⟨q, hq, hj, hw⟩ := FL_get hF
        have hq13 := classes_lt hq
        obtain ⟨gl, gs, g1, g2, g3, g4, g5, g6⟩ := G
        obtain ⟨i, st, rfl, hi, gs⟩ := rvs_long gs
        obtain ⟨st, rfl, hlt, gs2⟩ := rvs_ref gs
        obtain ⟨kk, aa, E, rfl, hk1, had, hcel⟩ := g1.get hr (by omega)
        rw [had]
        have hfc : c' = fcode (q.2.1 b').2.2.1 := by rw [hc]; unfold fcAt; rw [hq]
        match E, hk1, hcel with
        | .inr (ci, fs), hk1, ⟨e1, q', hq', hn, hrl, hfl, hfs⟩ =>
          subst e1
          cases hq.symm.trans hq'
          have e := fok_long ((cl_ok _ _ hq).2.2.1 b' hj) (hfc.symm.trans ht2)
          refine so_put C hd hq hj hw hfin g2 g3 g4 g5 hk1 (by omega) (by rw [e]; rfl) (by rw [e]; rfl) (fun H1 locs1 g3 g4 g5 => ?_)
          refine hk _ _ _ _ _ hs _ _ _ _ _ _ ⟨by rw [adr_set hk1]; exact gl, by rw [adr_set hk1]; exact gs2, ?_, g2, g3, g4, g5, g6.1, g6.2.1, fun z hz => by rw [adr_set hk1]; exact g6.2.2 z hz⟩
          refine g1.setD hk1 hr ⟨rfl, q, hq, hn, hrl, by rw [List.length_set]; exact hfl, fldR_set hfl hfs (fun j hj => up1_ne hj) (fun _ _ => rfl) ?_⟩
          rw [← hfc, ht2]
          exact ⟨i, rfl, by rw [up1_same, hi]⟩
        | .inl (cA, mm, .inl g), hk1, hcel => exact absurd hcel.2.1 (by omega)
        | .inl (cA, mm, .inr (.inl g)), hk1, hcel => exact absurd hcel.2.1 (by omega)
        | .inl (cA, mm, .inr (.inr (.inr (.inr g)))), hk1, hcel => obtain ⟨-, -, ⟨ci, q', h1, -⟩, -⟩ := hcel; omega
    · cases hs
  · rename_i r0 r S'
    split at hs
    · rename_i tag n refs hr
      cases ht : (tag == a && c' == 3) with
      | false => rw [ht] at hs; cases hs
      | true =>
        rw [ht] at hs
        obtain ⟨ht, ht2⟩ := Bool.and_eq_true_iff.mp ht
        have ht : tag = a := eq_of_beq ht
        have ht2 : c' = 3 := eq_of_beq ht2
        subst ht
        have hs : k (pc + 3) L S' (sh.set r (tag, n, refs.set b' (r0 + 1)), D) = some res := hs
        obtain ⟨q, hq, hj, hw⟩ := FL_get hF
        have hq13 := classes_lt hq
        obtain ⟨gl, gs, g1, g2, g3, g4, g5, g6, g7, g8⟩ := G
        obtain ⟨st, rfl, hlt0, gs⟩ := rvs_ref gs
        obtain ⟨st, rfl, hlt, gs2⟩ := rvs_ref gs
        obtain ⟨kk, aa, E, rfl, hk1, had, hcel⟩ := g1.get hr (by omega)
        rw [had]
        have hfc : c' = fcode (q.2.1 b').2.2.1 := by rw [hc]; unfold fcAt; rw [hq]
        match E, hk1, hcel with
        | .inr (ci, fs), hk1, ⟨e1, q', hq', hn, hrl, hfl, hfs⟩ =>
          subst e1
          cases hq.symm.trans hq'
          have e := fok_ref ((cl_ok _ _ hq).2.2.1 b' hj) (hfc.symm.trans ht2) (adr b t ws r0)
          refine so_put C hd hq hj hw hfin g2 g3 g4 g5 hk1 (by omega) e.1 e.2 (fun H1 locs1 g3 g4 g5 => ?_)
          have hsl := slo_set (tag' := tag) (refs' := refs.set b' (r0 + 1)) hr
          have hln : (sh.set (kk + 2) (tag, n, refs.set b' (r0 + 1))).length = sh.length := List.length_set
          have hgoal := hk _ _ _ _ _ hs ls st (ws.set kk (aa, .inr (tag, fs.set b' (.ref (adr b t ws r0))))) tys H1 locs1 ⟨by rw [adr_set hk1, hln]; exact gl, by rw [adr_set hk1, hln]; exact gs2, ?_, g2, g3, g4, g5, by rw [hln]; exact g6, by rw [hsl]; exact g7, fun z hz => by rw [adr_set hk1]; exact g8 z hz⟩
          · rw [hln, hsl] at hgoal
            exact hgoal
          · have h1 := g1.set hk1 hr (refs' := refs.set b' (r0 + 1)) (f' := D (kk + 2)) (e := .inr (tag, fs.set b' (.ref (adr b t ws r0)))) (fun j q1 hj1 => by
              by_cases hjb : b' = j
              · subst hjb
                rw [List.getElem?_set_self (by omega)] at hj1
                cases hj1
                exact hlt0
              · rw [List.getElem?_set_ne hjb] at hj1
                exact g1.2.2.2.2.2.1 _ _ _ _ hr j q1 hj1)
              ⟨rfl, q, hq, hn, by rw [List.length_set]; exact hrl, by rw [List.length_set]; exact hfl, fldR_set hfl hfs (fun _ _ => rfl) (fun j hj => List.getElem?_set_ne (fun z => hj z.symm)) (by
                rw [← hfc, ht2]
                show Value.ref _ = va_rf (rrf _ _ _)
                unfold rrf
                rw [List.getElem?_set_self (by omega)]
                rfl)⟩
            have e2 : dset D (kk + 2) (D (kk + 2)) = D := by
              funext z
              by_cases hz : z = kk + 2
              · subst hz; rw [dset_same]
              · rw [dset_ne _ _ hz]
            rw [e2] at h1
            exact h1
        | .inl (cA, mm, .inl g), hk1, hcel => exact absurd hcel.2.1 (by omega)
        | .inl (cA, mm, .inr (.inl g)), hk1, hcel => exact absurd hcel.2.1 (by omega)
        | .inl (cA, mm, .inr (.inr (.inr (.inr g)))), hk1, hcel => obtain ⟨-, -, ⟨ci, q', h1, -⟩, -⟩ := hcel; omega
    · cases hs
  · cases hs
end So
