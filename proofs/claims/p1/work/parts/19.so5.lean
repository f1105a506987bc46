section So
variable {p : Program} {l : Launch} {e : Env} {R : Room} {s : State} {m : MethodId} {args : Array Value} {below : List Frame} {meth : Method} {c : Code} {Q : State → Prop} {cc : ByteArray} {nL o : Nat} {ini : Bool} {A : Nat → Prop} {dC : Nat → ClassId} {dI : Nat → Nat → Nat} {b t Ln : Nat} {xs : Nat → Int32} {d n0 s0 : Nat} {adq : Nat → Nat} {res : RES} {k : Nat → List (Option AV) → List AV → ST → Option RES} {call : CALLF}
variable {pc len a b' c' : Nat} {ex : List Int} {L : List (Option AV)} {S : List AV} {sh : List SC} {D : DT} {ls : Array Slot} {st : List Value} {ws : va_W} {tys : List (ClassId × FieldType)} {H : Heap} {locs : List Loc}

theorem ite_some {α : Type} {c : Prop} {i : Decidable c} {A : Option α} {t : α} (h : (if c then A else none) = some t) : c ∧ A = some t := by
  rcases ite_or h with ⟨h1, h2⟩ | ⟨h1, h2⟩
  · exact ⟨h1, h2⟩
  · cases h2
theorem rlo_size {ad : Nat → Nat} {n nL : Nat} {L : List (Option AV)} {ls : Array Slot} (h : rlo ad n nL L ls) : ls.size = nL := by
  obtain ⟨-, lv, h2, -⟩ := h
  exact h2.1
theorem so_38 (C : CXT p s m args meth c R cc nL o ini A b t Ln xs d n0 s0 res) (hk : KW p l e R s m args below meth c Q A dC dI b t Ln xs nL n0 s0 adq res k) (hd : decode cc pc = .ok (.arraylength, len)) (hl : len = 1) (hs : stepI call (38, len, a, b', c', ex) pc L S (sh, D) k = some res) (G : GS s A dC dI b t Ln xs nL n0 s0 adq L S sh D ls st ws tys H locs) : W p l e R s m args below meth c H locs (sh.length - n0) (slo sh - s0) Q (F0 m pc ls st) := by
  have hx := C.1
  have hb := C.2.1
  simp only [stepI] at hs
  subst hl
  split at hs
  · rename_i r S'
    split at hs
    · rename_i tag n refs hr
      cases ht : (Nat.ble 100 tag && Nat.ble tag 104) with
      | false => rw [ht] at hs; cases hs
      | true =>
        rw [ht] at hs
        obtain ⟨ht1, ht2⟩ := Bool.and_eq_true_iff.mp ht
        have ht1 : 100 ≤ tag := Nat.le_of_ble_eq_true ht1
        have ht2 : tag ≤ 104 := Nat.le_of_ble_eq_true ht2
        have hs1 : k (pc + 1) L (.inl (w32 (n : Int)) :: S') (sh, D) = some res := hs
        obtain ⟨gl, gs, g1, G⟩ := G
        obtain ⟨st, rfl, hlt, gs2⟩ := rvs_ref gs
        obtain ⟨g2, g3, g4, g5, g6⟩ := id G
        rcases (show tag = 103 ∨ tag = 104 ∨ (tag = 100 ∨ tag = 101 ∨ tag = 102) by omega) with rfl | rfl | h3
        · obtain ⟨kk, aa, t0, cA, g, rfl, hk1, had, ht0, hg⟩ := g1.larr hr
          rw [had]
          exact va_alen hx hb g2 g3 kk t0 hk1 ht0 rfl hd (hk _ _ _ _ _ hs1 _ _ _ _ _ _ ⟨gl, ⟨⟨_, rfl, i32_ofNat n⟩, gs2⟩, g1, G⟩)
        · rcases g1.ro hr with ⟨rfl, rfl⟩ | ⟨rfl, rfl⟩
          · exact va_slen hx hb C.2.2.2.2.2.2.1.1 C.2.2.2.2.2.2.1.2.1 C.2.2.2.2.2.2.1.2.2 g5 hd (hk _ _ _ _ _ hs1 _ _ _ _ _ _ ⟨gl, ⟨⟨_, rfl, i32_ofNat _⟩, gs2⟩, g1, G⟩)
          · obtain ⟨cell, f1, f2, f3, f4, f5, f6, f7⟩ := C.2.2.2.2.2.2.2.1
            exact W.alen (n := Int32.ofNat 8) hx hb (by show H[t]? = _; rw [g5.2.1 t (Array.getElem?_eq_some_iff.mp f1).1 f7]; exact f1) f2 f5 rfl rfl hd (hk _ _ _ _ _ hs1 _ _ _ _ _ _ ⟨gl, ⟨⟨_, rfl, i32_ofNat _⟩, gs2⟩, g1, G⟩)
        · obtain ⟨kk, aa, t0, cA, g, rfl, hk1, had, ht0, hg⟩ := g1.arr hr h3
          rw [had]
          exact va_alen hx hb g2 g3 kk t0 hk1 ht0 rfl hd (hk _ _ _ _ _ hs1 _ _ _ _ _ _ ⟨gl, ⟨⟨_, rfl, i32_ofNat n⟩, gs2⟩, g1, G⟩)
    · cases hs
  · cases hs
theorem so_39 (C : CXT p s m args meth c R cc nL o ini A b t Ln xs d n0 s0 res) (hk : KW p l e R s m args below meth c Q A dC dI b t Ln xs nL n0 s0 adq res k) {x : Nat} (hd : decode cc pc = .ok (.getstatic x, len)) (hl : len = 3) (hF : (o, x) ∈ SL) (hs : stepI call (39, len, a, b', c', ex) pc L S (sh, D) k = some res) (G : GS s A dC dI b t Ln xs nL n0 s0 adq L S sh D ls st ws tys H locs) : W p l e R s m args below meth c H locs (sh.length - n0) (slo sh - s0) Q (F0 m pc ls st) := by
  have hx := C.1
  have hb := C.2.1
  simp only [stepI] at hs
  subst hl
  obtain ⟨gl, gs, g1, G⟩ := G
  obtain ⟨g2, g3, g4, g5, g6⟩ := id G
  refine va_gets hx hb C.2.2.2.2.2.2.2.2.1 g5 C.2.2.2.1 (C.2.2.2.2.1 _ (SL_get hF)) (fun _ h => h) hd ?_
  exact hk _ _ _ _ _ hs _ _ _ _ _ _ ⟨gl, ⟨⟨by have := g1.1; omega, rfl⟩, gs⟩, g1, G⟩
theorem so_23 (C : CXT p s m args meth c R cc nL o ini A b t Ln xs d n0 s0 res) (hk : KW p l e R s m args below meth c Q A dC dI b t Ln xs nL n0 s0 adq res k) {x : Nat} (hm : sh.length ≤ res.2.1.length ∧ slo sh ≤ slo res.2.1) (hd : decode cc pc = .ok (.invokestatic x, len)) (hl : len = 3) (hF : (o, x, 23) ∈ XL) (hs : stepI call (23, len, a, b', c', ex) pc L S (sh, D) k = some res) (G : GS s A dC dI b t Ln xs nL n0 s0 adq L S sh D ls st ws tys H locs) : W p l e R s m args below meth c H locs (sh.length - n0) (slo sh - s0) Q (F0 m pc ls st) := by
  have hx := C.1
  have hb := C.2.1
  simp only [stepI] at hs
  subst hl
  split at hs
  · rename_i y x S'
    cases ht : (Nat.ble (avw S') 8) with
    | false => rw [ht] at hs; cases hs
    | true =>
      rw [ht] at hs
      have ht : avw S' ≤ 8 := Nat.le_of_ble_eq_true ht
      obtain ⟨gl, gs, G⟩ := G
      obtain ⟨j, st, rfl, hj, gs1⟩ := rvs_int gs
      obtain ⟨i, st, rfl, hi, gs2⟩ := rvs_int gs1
      have hs1 : k (pc + 3) L (.inl (if x < y then y else x) :: S') (sh, D) = some res := hs
      have e : (if i < j then j else i).toInt = if x < y then y else x := by
        rw [← hi, ← hj]
        by_cases h : i < j
        · rw [if_pos h, if_pos (i32_lt.mp h)]
        · rw [if_neg h, if_neg (fun q => h (i32_lt.mpr q))]
      refine va_mmax hx hb (by rw [C.2.2.1, rlo_size gl]) C.2.2.2.1 (C.2.2.2.2.1 _ (XL_get hF)) (C.2.2.2.2.1 _ wd_maxs) (C.2.2.2.2.1 _ wd_mi) (C.2.2.2.2.1 _ wd_maxc) (by have := C.2.2.2.2.2.2.2.2.2.2.2.1; omega) (by rw [rvs_cat gs2]; have := C.2.2.2.2.2.2.2.2.2.2.2.1; omega) (by have := C.2.2.2.2.2.2.2.2.2.2.2.2.1; omega) (by have := C.2.2.2.2.2.2.2.2.2.2.2.2.1; omega) hd ?_
      exact hk _ _ _ _ _ hs1 _ _ _ _ _ _ ⟨gl, ⟨⟨_, rfl, e⟩, gs2⟩, G⟩
  · cases hs
theorem so_24 (C : CXT p s m args meth c R cc nL o ini A b t Ln xs d n0 s0 res) (hk : KW p l e R s m args below meth c Q A dC dI b t Ln xs nL n0 s0 adq res k) {x : Nat} (hm : sh.length ≤ res.2.1.length ∧ slo sh ≤ slo res.2.1) (hd : decode cc pc = .ok (.invokestatic x, len)) (hl : len = 3) (hF : (o, x, 24) ∈ XL) (hs : stepI call (24, len, a, b', c', ex) pc L S (sh, D) k = some res) (G : GS s A dC dI b t Ln xs nL n0 s0 adq L S sh D ls st ws tys H locs) : W p l e R s m args below meth c H locs (sh.length - n0) (slo sh - s0) Q (F0 m pc ls st) := by
  have hx := C.1
  have hb := C.2.1
  simp only [stepI] at hs
  subst hl
  split at hs
  · rename_i y x S'
    cases ht : (Nat.ble (avw S') 8) with
    | false => rw [ht] at hs; cases hs
    | true =>
      rw [ht] at hs
      have ht : avw S' ≤ 8 := Nat.le_of_ble_eq_true ht
      obtain ⟨gl, gs, G⟩ := G
      obtain ⟨j, st, rfl, hj, gs1⟩ := rvs_int gs
      obtain ⟨i, st, rfl, hi, gs2⟩ := rvs_int gs1
      have hs1 : k (pc + 3) L (.inl (if y < x then y else x) :: S') (sh, D) = some res := hs
      have e : (if j < i then j else i).toInt = if y < x then y else x := by
        rw [← hi, ← hj]
        by_cases h : j < i
        · rw [if_pos h, if_pos (i32_lt.mp h)]
        · rw [if_neg h, if_neg (fun q => h (i32_lt.mpr q))]
      refine va_mmin hx hb (by rw [C.2.2.1, rlo_size gl]) C.2.2.2.1 (C.2.2.2.2.1 _ (XL_get hF)) (C.2.2.2.2.1 _ wd_mins) (C.2.2.2.2.1 _ wd_mi) (C.2.2.2.2.1 _ wd_minc) (by have := C.2.2.2.2.2.2.2.2.2.2.2.1; omega) (by rw [rvs_cat gs2]; have := C.2.2.2.2.2.2.2.2.2.2.2.1; omega) (by have := C.2.2.2.2.2.2.2.2.2.2.2.2.1; omega) (by have := C.2.2.2.2.2.2.2.2.2.2.2.2.1; omega) hd ?_
      exact hk _ _ _ _ _ hs1 _ _ _ _ _ _ ⟨gl, ⟨⟨_, rfl, e⟩, gs2⟩, G⟩
  · cases hs
theorem so_25 (C : CXT p s m args meth c R cc nL o ini A b t Ln xs d n0 s0 res) (hk : KW p l e R s m args below meth c Q A dC dI b t Ln xs nL n0 s0 adq res k) {x : Nat} (hm : sh.length ≤ res.2.1.length ∧ slo sh ≤ slo res.2.1) (hd : decode cc pc = .ok (.invokestatic x, len)) (hl : len = 3) (hF : (o, x, 25) ∈ XL) (hs : stepI call (25, len, a, b', c', ex) pc L S (sh, D) k = some res) (G : GS s A dC dI b t Ln xs nL n0 s0 adq L S sh D ls st ws tys H locs) : W p l e R s m args below meth c H locs (sh.length - n0) (slo sh - s0) Q (F0 m pc ls st) := by
  have hx := C.1
  have hb := C.2.1
  simp only [stepI] at hs
  subst hl
  split at hs
  · rename_i x S'
    cases ht : (Nat.ble (avw S') 8) with
    | false => rw [ht] at hs; cases hs
    | true =>
      rw [ht] at hs
      have ht : avw S' ≤ 8 := Nat.le_of_ble_eq_true ht
      obtain ⟨gl, gs, G⟩ := G
      obtain ⟨i, st, rfl, hi, gs2⟩ := rvs_int gs
      have hs1 : k (pc + 3) L (.inl (if 0 ≤ x then x else w32 (-x)) :: S') (sh, D) = some res := hs
      have e : (if 0 ≤ i then i else 0 - i).toInt = if 0 ≤ x then x else w32 (-x) := by
        rw [← hi]
        by_cases h : 0 ≤ i
        · rw [if_pos h, if_pos (by rw [i32_le, i32_z] at h; exact h)]
        · rw [if_neg h, if_neg (fun q => h (by rw [i32_le, i32_z]; exact q)), i32_sub, i32_z, Int.zero_sub]
      refine va_mabs hx hb (by rw [C.2.2.1, rlo_size gl]) C.2.2.2.1 (C.2.2.2.2.1 _ (XL_get hF)) (C.2.2.2.2.1 _ wd_abss) (C.2.2.2.2.1 _ wd_mi) (C.2.2.2.2.1 _ wd_absc) (by have := C.2.2.2.2.2.2.2.2.2.2.2.1; omega) (by rw [rvs_cat gs2]; have := C.2.2.2.2.2.2.2.2.2.2.2.1; omega) (by have := C.2.2.2.2.2.2.2.2.2.2.2.2.1; omega) (by have := C.2.2.2.2.2.2.2.2.2.2.2.2.1; omega) hd ?_
      exact hk _ _ _ _ _ hs1 _ _ _ _ _ _ ⟨gl, ⟨⟨_, rfl, e⟩, gs2⟩, G⟩
  · cases hs
theorem acp_some {D D' : DT} {s0 ns dd nd : Nat} {sp dp n : Int} (h : acp D s0 ns sp dd nd dp n = some D') : ((0 ≤ sp ∧ 0 ≤ dp ∧ 0 ≤ n) ∧ sp + n ≤ (ns : Int) ∧ dp + n ≤ (nd : Int)) ∧ dset D dd (fun j => if dp.toNat ≤ j ∧ j < dp.toNat + n.toNat then D s0 (sp.toNat + (j - dp.toNat)) else D dd j) = D' := by
  unfold acp at h
  rcases ite_or h with ⟨h1, h2⟩ | ⟨h1, h2⟩
  · exact ⟨h1, Option.some.inj h2⟩
  · cases h2
theorem so_26 (C : CXT p s m args meth c R cc nL o ini A b t Ln xs d n0 s0 res) (hk : KW p l e R s m args below meth c Q A dC dI b t Ln xs nL n0 s0 adq res k) {x : Nat} (hd : decode cc pc = .ok (.invokestatic x, len)) (hl : len = 3) (hF : (o, x) ∈ AL) (hs : stepI call (26, len, a, b', c', ex) pc L S (sh, D) k = some res) (G : GS s A dC dI b t Ln xs nL n0 s0 adq L S sh D ls st ws tys H locs) : W p l e R s m args below meth c H locs (sh.length - n0) (slo sh - s0) Q (F0 m pc ls st) := by
  have hx := C.1
  have hb := C.2.1
  simp only [stepI] at hs
  subst hl
  split at hs
  · rename_i n1 dp1 dd sp1 sr S'
    split at hs
    · rename_i ts ns rs td nd rd hrs hrd
      cases ht : (ts == 100 && td == 100 && Nat.ble (avw S') 8) with
      | false => rw [ht] at hs; cases hs
      | true =>
        rw [ht] at hs
        obtain ⟨ht12, ht3⟩ := Bool.and_eq_true_iff.mp ht
        obtain ⟨ht1, ht2⟩ := Bool.and_eq_true_iff.mp ht12
        have ht1 : ts = 100 := eq_of_beq ht1
        have ht2 : td = 100 := eq_of_beq ht2
        have ht3 : avw S' ≤ 8 := Nat.le_of_ble_eq_true ht3
        obtain ⟨D', hx1, hs1⟩ := bnd (show (acp D sr ns sp1 dd nd dp1 n1).bind (fun D => k (pc + 3) L S' (sh, D)) = some res from hs)
        obtain ⟨hin, hx1⟩ := acp_some hx1
        obtain ⟨gl, gs, g1, g2, g3, g4, g5, g6⟩ := G
        obtain ⟨n, st, rfl, hn, gs0⟩ := rvs_int gs
        obtain ⟨dp, st, rfl, hdp, gs1⟩ := rvs_int gs0
        obtain ⟨st, rfl, hlt1, gs2⟩ := rvs_ref gs1
        obtain ⟨sp, st, rfl, hsp, gs3⟩ := rvs_int gs2
        obtain ⟨st, rfl, hlt2, gs4⟩ := rvs_ref gs3
        subst hn; subst hdp; subst hsp; subst ht1; subst ht2
        obtain ⟨k0, a0, t0, c0, f0, rfl, hk0, had0, ht0, hf0⟩ := g1.arr hrs (Or.inl rfl)
        obtain ⟨k1, a1, t1, c1, f1, rfl, hk1, had1, ht1, hf1⟩ := g1.arr hrd (Or.inl rfl)
        rw [had0, had1]
        have nn : ∀ z : Int32, 0 ≤ z.toInt → ¬ z < 0 := fun z hz q => by rw [i32_lt, i32_z] at q; omega
        have nz := i32_cl hin.1.1
        have nd' := i32_cl hin.1.2.1
        have nn' := i32_cl hin.1.2.2
        refine va_copyi hx hb (by rw [C.2.2.1, rlo_size gl]) C.2.2.2.1 (C.2.2.2.2.1 _ (AL_get hF)) (C.2.2.2.2.1 _ wd_acn) (C.2.2.2.2.1 _ wd_acs) (C.2.2.2.2.1 _ wd_aci) g2 g3 g4 g5 k0 k1 t0 t1 (ty := .int) hk0 hk1 ht0 ht1 rfl (nn _ hin.1.1) (nn _ hin.1.2.1) (nn _ hin.1.2.2) (by omega) (by omega) (fun _ _ => rfl) (by have := C.2.2.2.2.2.2.2.2.2.2.2.1; omega) (by
          have h1 := C.2.2.2.2.2.2.2.2.2.2.2.1
          have h2 : nativeFrameWords "java/lang/System" "arraycopy" 5 = 7 := by decide +kernel
          rw [rvs_cat gs4, h2]; omega) hd (fun H1 locs1 g3 g4 g5 => ?_)
        refine hk _ _ _ _ _ hs1 _ _ _ _ _ _ ⟨by rw [adr_set hk1]; exact gl, by rw [adr_set hk1]; exact gs4, ?_, g2, g3, g4, g5, g6.1, g6.2.1, fun z hz => by rw [adr_set hk1]; exact g6.2.2 z hz⟩
        rw [← hx1, nz, nd', nn']
        refine g1.setD hk1 hrd ⟨rfl, Or.inl rfl, ⟨t1, ht1⟩, fun j hj => ?_⟩
        show (va_cpy f0 f1 _ _ _ j).toInt = if dp.toInt.toNat ≤ j ∧ j < dp.toInt.toNat + n.toInt.toNat then D (k0 + 2) (sp.toInt.toNat + (j - dp.toInt.toNat)) else D (k1 + 2) j
        unfold va_cpy
        by_cases hjj : dp.toInt.toNat ≤ j ∧ j < dp.toInt.toNat + n.toInt.toNat
        · rw [if_pos hjj, if_pos hjj]
          exact hf0 _ (by omega)
        · rw [if_neg hjj, if_neg hjj]
          exact hf1 _ hj
    · cases hs
  · cases hs
theorem so_55 (C : CXT p s m args meth c R cc nL o ini A b t Ln xs d n0 s0 res) (hk : KW p l e R s m args below meth c Q A dC dI b t Ln xs nL n0 s0 adq res k) {x : Nat} (hd : decode cc pc = .ok (.invokespecial x, len)) (hl : len = 3) (hF : (o, x) ∈ OL) (hs : stepI call (55, len, a, b', c', ex) pc L S (sh, D) k = some res) (G : GS s A dC dI b t Ln xs nL n0 s0 adq L S sh D ls st ws tys H locs) : W p l e R s m args below meth c H locs (sh.length - n0) (slo sh - s0) Q (F0 m pc ls st) := by
  have hx := C.1
  have hb := C.2.1
  simp only [stepI] at hs
  subst hl
  split at hs
  · rename_i r S'
    cases ht : (Nat.ble (avw S') 8) with
    | false => rw [ht] at hs; cases hs
    | true =>
      rw [ht] at hs
      have ht : avw S' ≤ 8 := Nat.le_of_ble_eq_true ht
      have hs1 : k (pc + 3) L S' (sh, D) = some res := hs
      obtain ⟨gl, gs, G⟩ := G
      obtain ⟨st, rfl, hlt, gs2⟩ := rvs_ref gs
      have hroom := C.2.2.2.2.2.2.2.2.2.2.2.1
      refine W.objInit hx hb C.2.2.2.1 (C.2.2.2.2.1 _ (OL_get hF)) (C.2.2.2.2.1 _ wd_oi) (C.2.2.2.2.1 _ wd_oc) rfl (by show ls.size = _; rw [C.2.2.1, rlo_size gl]) rfl hd (by omega) (by
        have h1 := lv_room (m := m) (pc := pc) (ls := ls) (rest := .ref (adr b t ws r) :: st) (st := st) (by rw [rvs_cat gs2]; exact ht)
        omega) ?_
      exact hk _ _ _ _ _ hs1 _ _ _ _ _ _ ⟨gl, gs2, G⟩
  · cases hs
theorem rep_zero {n j q : Nat} : (List.replicate n 0)[j]? ≠ some (q + 1) := by
  intro h
  have := List.mem_of_getElem? h
  rw [List.mem_replicate] at this
  omega
theorem rrf_rep {ad : Nat → Nat} {n j : Nat} : rrf ad (List.replicate n 0) j = none := by
  unfold rrf
  split
  · rename_i q hq; exact absurd hq rep_zero
  · rfl
theorem def_fld {ad : Nat → Nat} {dsc : String} {ty : FieldType} {n j : Nat} (h : fok dsc ty = true) : fldR ad (fcode dsc) (List.replicate n 0) (fun _ => 0) j (defaultValue ty) := by
  unfold fok at h
  unfold fldR
  split
  · rename_i h0; rw [h0] at h; rw [eq_of_beq h]; exact ⟨0, rfl, rfl⟩
  · rename_i h0; rw [h0] at h; rw [eq_of_beq h]; exact ⟨0, rfl, rfl⟩
  · rename_i h0; rw [h0] at h; rw [eq_of_beq h]; exact ⟨0, rfl, rfl⟩
  · rw [rrf_rep]
    split at h
    · contradiction
    · contradiction
    · contradiction
    · cases ty <;> first | rfl | cases h
theorem so_52 (C : CXT p s m args meth c R cc nL o ini A b t Ln xs d n0 s0 res) (hk : KW p l e R s m args below meth c Q A dC dI b t Ln xs nL n0 s0 adq res k) {x : Nat} {q : vw_C} (hmk : ∀ pc L S σ, k pc L S σ = some res → σ.1.length ≤ res.2.1.length ∧ slo σ.1 ≤ slo res.2.1) (hd : decode cc pc = .ok (.new x, len)) (hl : len = 3) (hF : (o, x, a) ∈ CL) (hq : classes[a]? = some q) (hb1 : b' = q.2.2) (hs : stepI call (52, len, a, b', c', ex) pc L S (sh, D) k = some res) (G : GS s A dC dI b t Ln xs nL n0 s0 adq L S sh D ls st ws tys H locs) : W p l e R s m args below meth c H locs (sh.length - n0) (slo sh - s0) Q (F0 m pc ls st) := by
  have hx := C.1
  have hb := C.2.1
  simp only [stepI] at hs
  subst hl; subst hb1
  have hs1 : k (pc + 3) L (.inr (.inr sh.length) :: S) (sh ++ [(a, q.2.2, List.replicate q.2.2 0)], dset D sh.length (fun _ => 0)) = some res := hs
  obtain ⟨q', hq', hw⟩ := CL_get hF
  cases hq.symm.trans hq'
  obtain ⟨c1, c2, c3, c4, c5, c6⟩ := cl_ok _ _ hq
  have hln : (sh ++ [(a, q.2.2, List.replicate q.2.2 0)]).length = sh.length + 1 := by rw [List.length_append]; rfl
  have hsl := slo_app sh (a, q.2.2, List.replicate q.2.2 0)
  have hmm := hmk _ _ _ _ hs1
  have hC := C.2.2.2.2.2.2.2.2.2.2.2.2.1
  have hmm1 : sh.length + 1 ≤ res.2.1.length := by have := hmm.1; rw [hln] at this; exact this
  have hmm2 : slo sh + q.2.2 ≤ slo res.2.1 := by have := hmm.2; rw [hsl] at this; exact this
  obtain ⟨gl, gs, g1, g2, g3, g4, g5, g6, g7, g8⟩ := G
  refine va_new hx hb (Ts := lw_good) C.2.2.2.2.1 c1 (tyAt a) c2 C.2.2.2.1 (C.2.2.2.2.1 _ hw) (C.2.2.2.2.1 _ c5) (C.2.2.2.2.1 _ c6) g2 g3 g4 g5 C.2.2.2.2.2.1 hq (fs := (List.range q.2.2).map fun j => defaultValue (tyAt a j)) (fun j hj => ?_) (by omega) (by omega) hd (fun q0 H1 g3 g4 g5 => ?_)
  · unfold vp_V
    rw [List.getD_eq_getElem?_getD, List.getElem?_map, List.getElem?_range hj]
    rfl
  · have hw1 := g1.1
    have had : ∀ k, k < sh.length → adr b t (ws ++ [(q0, .inr (a, (List.range q.2.2).map fun j => defaultValue (tyAt a j)))]) k = adr b t ws k := fun k hk => adr_app (by omega)
    have hgoal := hk _ _ _ _ _ hs1 ls (.ref q0 :: st) _ tys H1 locs ⟨rlo_mono had (by omega) gl, ⟨⟨by rw [hln]; omega, by rw [hw1, adr_last]⟩, rvs_mono had (by rw [hln]; omega) gs⟩, g1.app (fun i x h => ⟨i, h⟩) (fun j q => rep_zero) ⟨rfl, q, hq, rfl, List.length_replicate, by rw [List.length_map, List.length_range], fun j hj => ⟨defaultValue (tyAt a j), by rw [List.getElem?_map, List.getElem?_range hj]; rfl, def_fld (c3 j hj)⟩⟩, g2, g3, g4, g5, by rw [hln]; omega, by rw [hsl]; omega, fun z hz => (had z (by omega)).trans (g8 z hz)⟩
    rw [hln, hsl] at hgoal
    rw [show sh.length - n0 + 1 = sh.length + 1 - n0 by omega, show slo sh - s0 + q.2.2 = slo sh + q.2.2 - s0 by omega]
    exact hgoal
theorem tysapp (tys : List (ClassId × FieldType)) (y : ClassId × FieldType) : ∀ (i : Nat) (x : ClassId × FieldType), tys[i]? = some x → ∃ i' : Nat, (tys ++ [y])[i']? = some x := fun i x h => ⟨i, by rw [List.getElem?_append_left (List.getElem?_eq_some_iff.mp h).1]; exact h⟩
theorem tyslast (tys : List (ClassId × FieldType)) (y : ClassId × FieldType) : (tys ++ [y])[tys.length]? = some y := by
  rw [List.getElem?_append_right (Nat.le_refl _), Nat.sub_self]; rfl
theorem so_53 (C : CXT p s m args meth c R cc nL o ini A b t Ln xs d n0 s0 res) (hk : KW p l e R s m args below meth c Q A dC dI b t Ln xs nL n0 s0 adq res k) (hmk : ∀ pc L S σ, k pc L S σ = some res → σ.1.length ≤ res.2.1.length ∧ slo σ.1 ≤ slo res.2.1) (hd : decode cc pc = .ok (.newarray (match a with | 100 => .int | 101 => .boolean | 102 => .byte | _ => .long), len)) (hl : len = 2) (hs : stepI call (53, len, a, b', c', ex) pc L S (sh, D) k = some res) (G : GS s A dC dI b t Ln xs nL n0 s0 adq L S sh D ls st ws tys H locs) : W p l e R s m args below meth c H locs (sh.length - n0) (slo sh - s0) Q (F0 m pc ls st) := by
  have hx := C.1
  have hb := C.2.1
  simp only [stepI] at hs
  subst hl
  split at hs
  · rename_i v0 S'
    cases ht : (Nat.ble 100 a && Nat.ble a 103) with
    | false => rw [ht] at hs; cases hs
    | true =>
    rw [ht] at hs
    obtain ⟨ht1, ht2⟩ := Bool.and_eq_true_iff.mp ht
    have ht1 : 100 ≤ a := Nat.le_of_ble_eq_true ht1
    have ht2 : a ≤ 103 := Nat.le_of_ble_eq_true ht2
    have hs : (if 0 ≤ v0 ∧ v0 ≤ 10000 then k (pc + 2) L (.inr (.inr sh.length) :: S') (sh ++ [(a, v0.toNat, [])], dset D sh.length (fun _ => 0)) else none) = some res := hs
    obtain ⟨hin, hs1⟩ := ite_some hs
    obtain ⟨gl, gs, g1, g2, g3, g4, g5, g6, g7, g8⟩ := G
    obtain ⟨i, st, rfl, hi, gs1⟩ := rvs_int gs
    subst hi
    have hw1 := g1.1
    have nn : ∀ z : Int32, 0 ≤ z.toInt → ¬ z < 0 := fun z hz q => by rw [i32_lt, i32_z] at q; omega
    have hln : (sh ++ [(a, i.toInt.toNat, [])]).length = sh.length + 1 := by rw [List.length_append]; rfl
    have hsl := slo_app sh (a, i.toInt.toNat, [])
    have hmm := hmk _ _ _ _ hs1
    have hC := C.2.2.2.2.2.2.2.2.2.2.2.2.1
    have hmm1 : sh.length + 1 ≤ res.2.1.length := by have := hmm.1; rw [hln] at this; exact this
    have hmm2 : slo sh + i.toInt.toNat ≤ slo res.2.1 := by have := hmm.2; rw [hsl] at this; exact this
    rcases (show a = 100 ∨ a = 101 ∨ a = 102 ∨ a = 103 by omega) with rfl | rfl | rfl | rfl
    · refine va_newa hx hb (atype := .int) (C.2.2.2.2.1 _ wd_ai) (ty := .int) rfl g2 g3 g4 g5 C.2.2.2.2.2.1 (N' := i.toInt.toNat) (a0 := (i.toInt.toNat, .inl (fun _ => 0))) (fun _ => rfl) (nn _ hin.1) rfl (by show _ * 4 ≤ _; omega) (by omega) (by omega) hd (fun q0 cA H1 g2 g3 g4 g5 => ?_)
      have had : ∀ k, k < sh.length → adr b t (ws ++ [(q0, .inl (cA, i.toInt.toNat, .inl (fun _ => 0)))]) k = adr b t ws k := fun k hk => adr_app (by omega)
      have hgoal := hk _ _ _ _ _ hs1 ls (.ref q0 :: st) _ _ H1 locs ⟨rlo_mono had (by omega) gl, ⟨⟨by rw [hln]; omega, by rw [hw1, adr_last]⟩, rvs_mono had (by rw [hln]; omega) gs1⟩, g1.app (tysapp tys (cA, .int)) (fun j q h => by simp at h) ⟨rfl, Or.inl rfl, ⟨_, tyslast tys _⟩, fun _ _ => rfl⟩, g2, g3, g4, g5, by rw [hln]; omega, by rw [hsl]; omega, fun z hz => (had z (by omega)).trans (g8 z hz)⟩
      rw [hln, hsl] at hgoal
      rw [show sh.length - n0 + 1 = sh.length + 1 - n0 by omega, show slo sh - s0 + i.toInt.toNat = slo sh + i.toInt.toNat - s0 by omega]
      exact hgoal
    · refine va_newa hx hb (atype := .boolean) (C.2.2.2.2.1 _ wd_az) (ty := .boolean) rfl g2 g3 g4 g5 C.2.2.2.2.2.1 (N' := i.toInt.toNat) (a0 := (i.toInt.toNat, .inl (fun _ => 0))) (fun _ => rfl) (nn _ hin.1) rfl (by show _ * 1 ≤ _; omega) (by omega) (by omega) hd (fun q0 cA H1 g2 g3 g4 g5 => ?_)
      have had : ∀ k, k < sh.length → adr b t (ws ++ [(q0, .inl (cA, i.toInt.toNat, .inl (fun _ => 0)))]) k = adr b t ws k := fun k hk => adr_app (by omega)
      have hgoal := hk _ _ _ _ _ hs1 ls (.ref q0 :: st) _ _ H1 locs ⟨rlo_mono had (by omega) gl, ⟨⟨by rw [hln]; omega, by rw [hw1, adr_last]⟩, rvs_mono had (by rw [hln]; omega) gs1⟩, g1.app (tysapp tys (cA, .boolean)) (fun j q h => by simp at h) ⟨rfl, Or.inr (Or.inl rfl), ⟨_, tyslast tys _⟩, fun _ _ => rfl⟩, g2, g3, g4, g5, by rw [hln]; omega, by rw [hsl]; omega, fun z hz => (had z (by omega)).trans (g8 z hz)⟩
      rw [hln, hsl] at hgoal
      rw [show sh.length - n0 + 1 = sh.length + 1 - n0 by omega, show slo sh - s0 + i.toInt.toNat = slo sh + i.toInt.toNat - s0 by omega]
      exact hgoal
    · refine va_newa hx hb (atype := .byte) (C.2.2.2.2.1 _ wd_ab) (ty := .byte) rfl g2 g3 g4 g5 C.2.2.2.2.2.1 (N' := i.toInt.toNat) (a0 := (i.toInt.toNat, .inl (fun _ => 0))) (fun _ => rfl) (nn _ hin.1) rfl (by show _ * 1 ≤ _; omega) (by omega) (by omega) hd (fun q0 cA H1 g2 g3 g4 g5 => ?_)
      have had : ∀ k, k < sh.length → adr b t (ws ++ [(q0, .inl (cA, i.toInt.toNat, .inl (fun _ => 0)))]) k = adr b t ws k := fun k hk => adr_app (by omega)
      have hgoal := hk _ _ _ _ _ hs1 ls (.ref q0 :: st) _ _ H1 locs ⟨rlo_mono had (by omega) gl, ⟨⟨by rw [hln]; omega, by rw [hw1, adr_last]⟩, rvs_mono had (by rw [hln]; omega) gs1⟩, g1.app (tysapp tys (cA, .byte)) (fun j q h => by simp at h) ⟨rfl, Or.inr (Or.inr rfl), ⟨_, tyslast tys _⟩, fun _ _ => rfl⟩, g2, g3, g4, g5, by rw [hln]; omega, by rw [hsl]; omega, fun z hz => (had z (by omega)).trans (g8 z hz)⟩
      rw [hln, hsl] at hgoal
      rw [show sh.length - n0 + 1 = sh.length + 1 - n0 by omega, show slo sh - s0 + i.toInt.toNat = slo sh + i.toInt.toNat - s0 by omega]
      exact hgoal
    · refine va_newa hx hb (atype := .long) (C.2.2.2.2.1 _ wd_al) (ty := .long) rfl g2 g3 g4 g5 C.2.2.2.2.2.1 (N' := i.toInt.toNat) (a0 := (i.toInt.toNat, .inr (.inl (fun _ => 0)))) (fun _ => rfl) (nn _ hin.1) rfl (by show _ * 8 ≤ _; omega) (by omega) (by omega) hd (fun q0 cA H1 g2 g3 g4 g5 => ?_)
      have had : ∀ k, k < sh.length → adr b t (ws ++ [(q0, .inl (cA, i.toInt.toNat, .inr (.inl (fun _ => 0))))]) k = adr b t ws k := fun k hk => adr_app (by omega)
      have hgoal := hk _ _ _ _ _ hs1 ls (.ref q0 :: st) _ _ H1 locs ⟨rlo_mono had (by omega) gl, ⟨⟨by rw [hln]; omega, by rw [hw1, adr_last]⟩, rvs_mono had (by rw [hln]; omega) gs1⟩, g1.app (tysapp tys (cA, .long)) (fun j q h => by simp at h) ⟨rfl, rfl, ⟨_, tyslast tys _⟩, fun _ _ => rfl⟩, g2, g3, g4, g5, by rw [hln]; omega, by rw [hsl]; omega, fun z hz => (had z (by omega)).trans (g8 z hz)⟩
      rw [hln, hsl] at hgoal
      rw [show sh.length - n0 + 1 = sh.length + 1 - n0 by omega, show slo sh - s0 + i.toInt.toNat = slo sh + i.toInt.toNat - s0 by omega]
      exact hgoal
  · cases hs
theorem so_54 (C : CXT p s m args meth c R cc nL o ini A b t Ln xs d n0 s0 res) (hk : KW p l e R s m args below meth c Q A dC dI b t Ln xs nL n0 s0 adq res k) {x : Nat} (hmk : ∀ pc L S σ, k pc L S σ = some res → σ.1.length ≤ res.2.1.length ∧ slo σ.1 ≤ slo res.2.1) (hd : decode cc pc = .ok (.anewarray x, len)) (hl : len = 3) (hF : (o, x, a) ∈ CL) (h47 : a = 4 ∨ a = 7) (hs : stepI call (54, len, a, b', c', ex) pc L S (sh, D) k = some res) (G : GS s A dC dI b t Ln xs nL n0 s0 adq L S sh D ls st ws tys H locs) : W p l e R s m args below meth c H locs (sh.length - n0) (slo sh - s0) Q (F0 m pc ls st) := by
  have hx := C.1
  have hb := C.2.1
  simp only [stepI] at hs
  subst hl
  obtain ⟨q, hq, hw⟩ := CL_get hF
  have hAO : va_AO q.1 s := by
    rcases h47 with rfl | rfl
    · cases hq; exact C.2.2.2.2.2.2.2.2.2.2.1.1
    · cases hq; exact C.2.2.2.2.2.2.2.2.2.2.1.2
  split at hs
  · rename_i v0 S'
    obtain ⟨hin, hs1⟩ := ite_some hs
    obtain ⟨gl, gs, g1, g2, g3, g4, g5, g6, g7, g8⟩ := G
    obtain ⟨i, st, rfl, hi, gs1⟩ := rvs_int gs
    subst hi
    have hw1 := g1.1
    have nn : ∀ z : Int32, 0 ≤ z.toInt → ¬ z < 0 := fun z hz q => by rw [i32_lt, i32_z] at q; omega
    have hs1 : k (pc + 3) L (.inr (.inr sh.length) :: S') (sh ++ [(110 + a, i.toInt.toNat, List.replicate i.toInt.toNat 0)], dset D sh.length (fun _ => 0)) = some res := hs1
    have hln : (sh ++ [(110 + a, i.toInt.toNat, List.replicate i.toInt.toNat 0)]).length = sh.length + 1 := by rw [List.length_append]; rfl
    have hsl := slo_app sh (110 + a, i.toInt.toNat, List.replicate i.toInt.toNat 0)
    have hmm := hmk _ _ _ _ hs1
    have hC := C.2.2.2.2.2.2.2.2.2.2.2.2.1
    have hmm1 : sh.length + 1 ≤ res.2.1.length := by have := hmm.1; rw [hln] at this; exact this
    have hmm2 : slo sh + i.toInt.toNat ≤ slo res.2.1 := by have := hmm.2; rw [hsl] at this; exact this
    refine va_newq hx hb C.2.2.2.1 (C.2.2.2.2.1 _ hw) hAO g2 g3 g4 g5 C.2.2.2.2.2.1 (N' := i.toInt.toNat) (nn _ hin.1) rfl (by omega) (by omega) (by omega) hd (fun q0 cA H1 g2 g3 g4 g5 => ?_)
    have had : ∀ k, k < sh.length → adr b t (ws ++ [(q0, .inl (cA, i.toInt.toNat, .inr (.inr (.inr (.inr (fun _ => none))))))]) k = adr b t ws k := fun k hk => adr_app (by omega)
    have hgoal := hk _ _ _ _ _ hs1 ls (.ref q0 :: st) _ _ H1 locs ⟨rlo_mono had (by omega) gl, ⟨⟨by rw [hln]; omega, by rw [hw1, adr_last]⟩, rvs_mono had (by rw [hln]; omega) gs1⟩, g1.app (tysapp tys (cA, .object q.1)) (fun j q => rep_zero) ⟨rfl, List.length_replicate, ⟨a, q, rfl, hq, ⟨_, tyslast tys _⟩⟩, fun j hj => rrf_rep.symm⟩, g2, g3, g4, g5, by rw [hln]; omega, by rw [hsl]; omega, fun z hz => (had z (by omega)).trans (g8 z hz)⟩
    rw [hln, hsl] at hgoal
    rw [show sh.length - n0 + 1 = sh.length + 1 - n0 by omega, show slo sh - s0 + i.toInt.toNat = slo sh + i.toInt.toNat - s0 by omega]
    exact hgoal
  · cases hs
theorem lsw_in {α : Type} {g : Nat → Option α} {x : Int} {dd pc : Nat} : ∀ {ex : List Int} {r : α}, ex.length % 2 = 0 → (∀ t ∈ prsI ex pc, 0 ≤ t.2 + (pc : Int)) → lsw g x dd ex = some r → ∃ tgt : Nat, (pc : Int) + Op.lookupswitch.offset (prsI ex pc) ((dd : Int) - (pc : Int)) x = (tgt : Int) ∧ g tgt = some r
  | [], r, _, _, h => ⟨dd, by simp only [prsI, Op.lookupswitch.offset]; omega, h⟩
  | [v], r, h, _, _ => by simp at h
  | v :: t :: ts, r, hl, hp, h => by
    simp only [lsw] at h
    simp only [prsI, Op.lookupswitch.offset]
    rcases ite_or h with ⟨h1, h2⟩ | ⟨h1, h2⟩
    · have h3 := hp (v, t - (pc : Int)) (by simp [prsI])
      refine ⟨t.toNat, ?_, h2⟩
      rw [if_pos h1.symm]
      simp only at h3
      omega
    · rw [if_neg (fun z => h1 z.symm)]
      exact lsw_in (by simp only [List.length_cons] at hl; omega) (fun t ht => hp t (by simp only [prsI]; exact List.mem_cons_of_mem _ ht)) h2
theorem so_28 (C : CXT p s m args meth c R cc nL o ini A b t Ln xs d n0 s0 res) (hk : KW p l e R s m args below meth c Q A dC dI b t Ln xs nL n0 s0 adq res k) (hd : decode cc pc = .ok (.lookupswitch ((a : Int) - (pc : Int)) (prsI ex pc).toArray, len)) (hl : ex.length % 2 = 0) (hp : ∀ t ∈ prsI ex pc, 0 ≤ t.2 + (pc : Int)) (ho : ((prsI ex pc).zip ((prsI ex pc).drop 1)).all (fun (a, next) => a.1 < next.1) = true) (hs : stepI call (28, len, a, b', c', ex) pc L S (sh, D) k = some res) (G : GS s A dC dI b t Ln xs nL n0 s0 adq L S sh D ls st ws tys H locs) : W p l e R s m args below meth c H locs (sh.length - n0) (slo sh - s0) Q (F0 m pc ls st) := by
  have hx := C.1
  have hb := C.2.1
  simp only [stepI] at hs
  split at hs
  · rename_i x S'
    obtain ⟨gl, gs, G⟩ := G
    obtain ⟨i, st, rfl, hi, gs1⟩ := rvs_int gs
    obtain ⟨tgt, h1, h2⟩ := lsw_in hl hp hs
    exact lv_lookup hx hb hd (by simpa using ho) rfl (tgt := tgt) (by rw [hi]; simpa using h1) (hk _ _ _ _ _ h2 _ _ _ _ _ _ ⟨gl, gs1, G⟩)
  · cases hs
end So
