section So
variable {p : Program} {l : Launch} {e : Env} {R : Room} {s : State} {m : MethodId} {args : Array Value} {below : List Frame} {meth : Method} {c : Code} {Q : State → Prop} {cc : ByteArray} {nL o : Nat} {ini : Bool} {A : Nat → Prop} {dC : Nat → ClassId} {dI : Nat → Nat → Nat} {b t Ln : Nat} {xs : Nat → Int32} {d n0 s0 : Nat} {adq : Nat → Nat} {res : RES} {k : Nat → List (Option AV) → List AV → ST → Option RES} {call : CALLF}
variable {pc len a b' c' : Nat} {ex : List Int} {L : List (Option AV)} {S : List AV} {sh : List SC} {D : DT} {ls : Array Slot} {st : List Value} {ws : va_W} {tys : List (ClassId × FieldType)} {H : Heap} {locs : List Loc}

theorem so_3 (C : CXT p s m args meth c R cc nL o ini A b t Ln xs d n0 s0 res) (hk : KW p l e R s m args below meth c Q A dC dI b t Ln xs nL n0 s0 adq res k) {y : Int} {ys : List Int} (hex : ex = y :: ys) (hd : (ys = [] ∧ ((len = 1 ∧ decode cc pc = .ok (.iconst y, 1) ∧ (Int32.ofInt y).toInt = y) ∨ (len = 2 ∧ decode cc pc = .ok (.bipush y, 2) ∧ (Int8.ofInt y).toInt32.toInt = y) ∨ (len = 3 ∧ decode cc pc = .ok (.sipush y, 3) ∧ (Int16.ofInt y).toInt32.toInt = y))) ∨ (∃ idx : Nat, (o, idx, y) ∈ KL ∧ (Int32.ofInt y).toInt = y ∧ ((len = 2 ∧ decode cc pc = .ok (.ldc idx, 2)) ∨ (len = 3 ∧ decode cc pc = .ok (.ldc_w idx, 3))))) (hs : stepI call (3, len, a, b', c', ex) pc L S (sh, D) k = some res) (G : GS s A dC dI b t Ln xs nL n0 s0 adq L S sh D ls st ws tys H locs) : W p l e R s m args below meth c H locs (sh.length - n0) (slo sh - s0) Q (F0 m pc ls st) := by
  have hx := C.1
  have hb := C.2.1
  simp only [stepI] at hs
  subst hex
  have hs : k (pc + len) L (.inl y :: S) (sh, D) = some res := hs
  obtain ⟨gl, gs, G⟩ := G
  rcases hd with ⟨-, ⟨rfl, hd, hy⟩ | ⟨rfl, hd, hy⟩ | ⟨rfl, hd, hy⟩⟩ | ⟨idx, hK, hy, ⟨rfl, hd⟩ | ⟨rfl, hd⟩⟩
  · exact lv_iconst hx hb hd rfl (hk _ _ _ _ _ hs _ _ _ _ _ _ ⟨gl, ⟨⟨_, rfl, hy⟩, gs⟩, G⟩)
  · exact lv_bipush hx hb hd rfl (hk _ _ _ _ _ hs _ _ _ _ _ _ ⟨gl, ⟨⟨_, rfl, hy⟩, gs⟩, G⟩)
  · exact lv_sipush hx hb hd rfl (hk _ _ _ _ _ hs _ _ _ _ _ _ ⟨gl, ⟨⟨_, rfl, hy⟩, gs⟩, G⟩)
  · exact lv_ldc hx hb C.2.2.2.1 (C.2.2.2.2.1 _ (KL_get hK)) hd (hk _ _ _ _ _ hs _ _ _ _ _ _ ⟨gl, ⟨⟨_, rfl, hy⟩, gs⟩, G⟩)
  · exact lv_ldcw hx hb C.2.2.2.1 (C.2.2.2.2.1 _ (KL_get hK)) hd (hk _ _ _ _ _ hs _ _ _ _ _ _ ⟨gl, ⟨⟨_, rfl, hy⟩, gs⟩, G⟩)
theorem so_40 (C : CXT p s m args meth c R cc nL o ini A b t Ln xs d n0 s0 res) (hk : KW p l e R s m args below meth c Q A dC dI b t Ln xs nL n0 s0 adq res k) {y : Int} {ys : List Int} (hex : ex = y :: ys) (hd : (ys = [] ∧ len = 1 ∧ decode cc pc = .ok (.lconst (Fin.ofNat 2 y.toNat), 1) ∧ (y = 0 ∨ y = 1)) ∨ (∃ idx : Nat, (o, idx, y) ∈ KJ ∧ (Int64.ofInt y).toInt = y ∧ len = 3 ∧ decode cc pc = .ok (.ldc2_w idx, 3))) (hs : stepI call (40, len, a, b', c', ex) pc L S (sh, D) k = some res) (G : GS s A dC dI b t Ln xs nL n0 s0 adq L S sh D ls st ws tys H locs) : W p l e R s m args below meth c H locs (sh.length - n0) (slo sh - s0) Q (F0 m pc ls st) := by
  have hx := C.1
  have hb := C.2.1
  simp only [stepI] at hs
  subst hex
  have hs : k (pc + len) L (.inr (.inl y) :: S) (sh, D) = some res := hs
  obtain ⟨gl, gs, G⟩ := G
  rcases hd with ⟨-, rfl, hd, hy⟩ | ⟨idx, hK, hy, rfl, hd⟩
  · refine lv_lconst hx hb hd rfl (hk _ _ _ _ _ hs _ _ _ _ _ _ ⟨gl, ⟨⟨_, rfl, ?_⟩, gs⟩, G⟩)
    rcases hy with rfl | rfl <;> decide
  · exact lv_ldc2 hx hb C.2.2.2.1 (C.2.2.2.2.1 _ (KJ_get hK)) hd (hk _ _ _ _ _ hs _ _ _ _ _ _ ⟨gl, ⟨⟨_, rfl, hy⟩, gs⟩, G⟩)
theorem so_7 (C : CXT p s m args meth c R cc nL o ini A b t Ln xs d n0 s0 res) (hk : KW p l e R s m args below meth c Q A dC dI b t Ln xs nL n0 s0 adq res k) (hd : decode cc pc = .ok (.goto ((a : Int) - (pc : Int)), len)) (hl : len = 3) (hs : stepI call (7, len, a, b', c', ex) pc L S (sh, D) k = some res) (G : GS s A dC dI b t Ln xs nL n0 s0 adq L S sh D ls st ws tys H locs) : W p l e R s m args below meth c H locs (sh.length - n0) (slo sh - s0) Q (F0 m pc ls st) := by
  have hx := C.1
  have hb := C.2.1
  simp only [stepI] at hs
  subst hl
  exact lv_goto hx hb hd (by omega) (hk _ _ _ _ _ hs _ _ _ _ _ _ G)
theorem so_11 (C : CXT p s m args meth c R cc nL o ini A b t Ln xs d n0 s0 res) (hk : KW p l e R s m args below meth c Q A dC dI b t Ln xs nL n0 s0 adq res k) (hd : decode cc pc = .ok (.if_icmp (cndI b') ((a : Int) - (pc : Int)), len)) (hl : len = 3) (hs : stepI call (11, len, a, b', c', ex) pc L S (sh, D) k = some res) (G : GS s A dC dI b t Ln xs nL n0 s0 adq L S sh D ls st ws tys H locs) : W p l e R s m args below meth c H locs (sh.length - n0) (slo sh - s0) Q (F0 m pc ls st) := by
  have hx := C.1
  have hb := C.2.1
  simp only [stepI] at hs
  subst hl
  split at hs
  · rename_i y x S'
    obtain ⟨gl, gs, G⟩ := G
    obtain ⟨j, st, rfl, hj, gs⟩ := rvs_int gs
    obtain ⟨i, st, rfl, hi, gs⟩ := rvs_int gs
    match b', hs, hd with
    | 0, hs, hd =>
      refine lv_icmp_eq hx hb (off := (a : Int) - (pc : Int)) (tgt := a) hd (by omega) (fun hq => ?_) (fun hq => ?_)
      · refine hk a L S' sh D ?_ _ _ _ _ _ _ ⟨gl, gs, G⟩
        simp only [cnd] at hs
        rcases ite_or hs with ⟨h1, hs⟩ | ⟨h1, hs⟩
        · first | exact hs | (exfalso; simp only [ne_eq, ge_iff_le, gt_iff_lt, i32_eq, i32_lt, i32_le, i32_z, hi, hj] at hq; omega)
        · first | exact hs | (exfalso; simp only [ne_eq, ge_iff_le, gt_iff_lt, i32_eq, i32_lt, i32_le, i32_z, hi, hj] at hq; omega)
      · refine hk (pc + 3) L S' sh D ?_ _ _ _ _ _ _ ⟨gl, gs, G⟩
        simp only [cnd] at hs
        rcases ite_or hs with ⟨h1, hs⟩ | ⟨h1, hs⟩
        · first | exact hs | (exfalso; simp only [ne_eq, ge_iff_le, gt_iff_lt, i32_eq, i32_lt, i32_le, i32_z, hi, hj] at hq; omega)
        · first | exact hs | (exfalso; simp only [ne_eq, ge_iff_le, gt_iff_lt, i32_eq, i32_lt, i32_le, i32_z, hi, hj] at hq; omega)
    | 1, hs, hd =>
      refine lv_icmp_ne hx hb (off := (a : Int) - (pc : Int)) (tgt := a) hd (by omega) (fun hq => ?_) (fun hq => ?_)
      · refine hk a L S' sh D ?_ _ _ _ _ _ _ ⟨gl, gs, G⟩
        simp only [cnd] at hs
        rcases ite_or hs with ⟨h1, hs⟩ | ⟨h1, hs⟩
        · first | exact hs | (exfalso; simp only [ne_eq, ge_iff_le, gt_iff_lt, i32_eq, i32_lt, i32_le, i32_z, hi, hj] at hq; omega)
        · first | exact hs | (exfalso; simp only [ne_eq, ge_iff_le, gt_iff_lt, i32_eq, i32_lt, i32_le, i32_z, hi, hj] at hq; omega)
      · refine hk (pc + 3) L S' sh D ?_ _ _ _ _ _ _ ⟨gl, gs, G⟩
        simp only [cnd] at hs
        rcases ite_or hs with ⟨h1, hs⟩ | ⟨h1, hs⟩
        · first | exact hs | (exfalso; simp only [ne_eq, ge_iff_le, gt_iff_lt, i32_eq, i32_lt, i32_le, i32_z, hi, hj] at hq; omega)
        · first | exact hs | (exfalso; simp only [ne_eq, ge_iff_le, gt_iff_lt, i32_eq, i32_lt, i32_le, i32_z, hi, hj] at hq; omega)
    | 2, hs, hd =>
      refine lv_icmp_lt hx hb (off := (a : Int) - (pc : Int)) (tgt := a) hd (by omega) (fun hq => ?_) (fun hq => ?_)
      · refine hk a L S' sh D ?_ _ _ _ _ _ _ ⟨gl, gs, G⟩
        simp only [cnd] at hs
        rcases ite_or hs with ⟨h1, hs⟩ | ⟨h1, hs⟩
        · first | exact hs | (exfalso; simp only [ne_eq, ge_iff_le, gt_iff_lt, i32_eq, i32_lt, i32_le, i32_z, hi, hj] at hq; omega)
        · first | exact hs | (exfalso; simp only [ne_eq, ge_iff_le, gt_iff_lt, i32_eq, i32_lt, i32_le, i32_z, hi, hj] at hq; omega)
      · refine hk (pc + 3) L S' sh D ?_ _ _ _ _ _ _ ⟨gl, gs, G⟩
        simp only [cnd] at hs
        rcases ite_or hs with ⟨h1, hs⟩ | ⟨h1, hs⟩
        · first | exact hs | (exfalso; simp only [ne_eq, ge_iff_le, gt_iff_lt, i32_eq, i32_lt, i32_le, i32_z, hi, hj] at hq; omega)
        · first | exact hs | (exfalso; simp only [ne_eq, ge_iff_le, gt_iff_lt, i32_eq, i32_lt, i32_le, i32_z, hi, hj] at hq; omega)
    | 3, hs, hd =>
      refine lv_icmp_ge hx hb (off := (a : Int) - (pc : Int)) (tgt := a) hd (by omega) (fun hq => ?_) (fun hq => ?_)
      · refine hk a L S' sh D ?_ _ _ _ _ _ _ ⟨gl, gs, G⟩
        simp only [cnd] at hs
        rcases ite_or hs with ⟨h1, hs⟩ | ⟨h1, hs⟩
        · first | exact hs | (exfalso; simp only [ne_eq, ge_iff_le, gt_iff_lt, i32_eq, i32_lt, i32_le, i32_z, hi, hj] at hq; omega)
        · first | exact hs | (exfalso; simp only [ne_eq, ge_iff_le, gt_iff_lt, i32_eq, i32_lt, i32_le, i32_z, hi, hj] at hq; omega)
      · refine hk (pc + 3) L S' sh D ?_ _ _ _ _ _ _ ⟨gl, gs, G⟩
        simp only [cnd] at hs
        rcases ite_or hs with ⟨h1, hs⟩ | ⟨h1, hs⟩
        · first | exact hs | (exfalso; simp only [ne_eq, ge_iff_le, gt_iff_lt, i32_eq, i32_lt, i32_le, i32_z, hi, hj] at hq; omega)
        · first | exact hs | (exfalso; simp only [ne_eq, ge_iff_le, gt_iff_lt, i32_eq, i32_lt, i32_le, i32_z, hi, hj] at hq; omega)
    | 4, hs, hd =>
      refine lv_icmp_gt hx hb (off := (a : Int) - (pc : Int)) (tgt := a) hd (by omega) (fun hq => ?_) (fun hq => ?_)
      · refine hk a L S' sh D ?_ _ _ _ _ _ _ ⟨gl, gs, G⟩
        simp only [cnd] at hs
        rcases ite_or hs with ⟨h1, hs⟩ | ⟨h1, hs⟩
        · first | exact hs | (exfalso; simp only [ne_eq, ge_iff_le, gt_iff_lt, i32_eq, i32_lt, i32_le, i32_z, hi, hj] at hq; omega)
        · first | exact hs | (exfalso; simp only [ne_eq, ge_iff_le, gt_iff_lt, i32_eq, i32_lt, i32_le, i32_z, hi, hj] at hq; omega)
      · refine hk (pc + 3) L S' sh D ?_ _ _ _ _ _ _ ⟨gl, gs, G⟩
        simp only [cnd] at hs
        rcases ite_or hs with ⟨h1, hs⟩ | ⟨h1, hs⟩
        · first | exact hs | (exfalso; simp only [ne_eq, ge_iff_le, gt_iff_lt, i32_eq, i32_lt, i32_le, i32_z, hi, hj] at hq; omega)
        · first | exact hs | (exfalso; simp only [ne_eq, ge_iff_le, gt_iff_lt, i32_eq, i32_lt, i32_le, i32_z, hi, hj] at hq; omega)
    | n + 5, hs, hd =>
      refine lv_icmp_le hx hb (off := (a : Int) - (pc : Int)) (tgt := a) hd (by omega) (fun hq => ?_) (fun hq => ?_)
      · refine hk a L S' sh D ?_ _ _ _ _ _ _ ⟨gl, gs, G⟩
        simp only [cnd] at hs
        rcases ite_or hs with ⟨h1, hs⟩ | ⟨h1, hs⟩
        · first | exact hs | (exfalso; simp only [ne_eq, ge_iff_le, gt_iff_lt, i32_eq, i32_lt, i32_le, i32_z, hi, hj] at hq; omega)
        · first | exact hs | (exfalso; simp only [ne_eq, ge_iff_le, gt_iff_lt, i32_eq, i32_lt, i32_le, i32_z, hi, hj] at hq; omega)
      · refine hk (pc + 3) L S' sh D ?_ _ _ _ _ _ _ ⟨gl, gs, G⟩
        simp only [cnd] at hs
        rcases ite_or hs with ⟨h1, hs⟩ | ⟨h1, hs⟩
        · first | exact hs | (exfalso; simp only [ne_eq, ge_iff_le, gt_iff_lt, i32_eq, i32_lt, i32_le, i32_z, hi, hj] at hq; omega)
        · first | exact hs | (exfalso; simp only [ne_eq, ge_iff_le, gt_iff_lt, i32_eq, i32_lt, i32_le, i32_z, hi, hj] at hq; omega)
  · cases hs
theorem so_14 (C : CXT p s m args meth c R cc nL o ini A b t Ln xs d n0 s0 res) (hk : KW p l e R s m args below meth c Q A dC dI b t Ln xs nL n0 s0 adq res k) (hd : decode cc pc = .ok (.ifCond (cndI b') ((a : Int) - (pc : Int)), len)) (hl : len = 3) (hs : stepI call (14, len, a, b', c', ex) pc L S (sh, D) k = some res) (G : GS s A dC dI b t Ln xs nL n0 s0 adq L S sh D ls st ws tys H locs) : W p l e R s m args below meth c H locs (sh.length - n0) (slo sh - s0) Q (F0 m pc ls st) := by
  have hx := C.1
  have hb := C.2.1
  simp only [stepI] at hs
  subst hl
  split at hs
  · rename_i x S'
    obtain ⟨gl, gs, G⟩ := G
    obtain ⟨i, st, rfl, hi, gs⟩ := rvs_int gs
    match b', hs, hd with
    | 0, hs, hd =>
      refine lv_if_eq hx hb (off := (a : Int) - (pc : Int)) (tgt := a) hd (by omega) (fun hq => ?_) (fun hq => ?_)
      · refine hk a L S' sh D ?_ _ _ _ _ _ _ ⟨gl, gs, G⟩
        simp only [cnd] at hs
        rcases ite_or hs with ⟨h1, hs⟩ | ⟨h1, hs⟩
        · first | exact hs | (exfalso; simp only [ne_eq, ge_iff_le, gt_iff_lt, i32_eq, i32_lt, i32_le, i32_z, hi] at hq; omega)
        · first | exact hs | (exfalso; simp only [ne_eq, ge_iff_le, gt_iff_lt, i32_eq, i32_lt, i32_le, i32_z, hi] at hq; omega)
      · refine hk (pc + 3) L S' sh D ?_ _ _ _ _ _ _ ⟨gl, gs, G⟩
        simp only [cnd] at hs
        rcases ite_or hs with ⟨h1, hs⟩ | ⟨h1, hs⟩
        · first | exact hs | (exfalso; simp only [ne_eq, ge_iff_le, gt_iff_lt, i32_eq, i32_lt, i32_le, i32_z, hi] at hq; omega)
        · first | exact hs | (exfalso; simp only [ne_eq, ge_iff_le, gt_iff_lt, i32_eq, i32_lt, i32_le, i32_z, hi] at hq; omega)
    | 1, hs, hd =>
      refine lv_if_ne hx hb (off := (a : Int) - (pc : Int)) (tgt := a) hd (by omega) (fun hq => ?_) (fun hq => ?_)
      · refine hk a L S' sh D ?_ _ _ _ _ _ _ ⟨gl, gs, G⟩
        simp only [cnd] at hs
        rcases ite_or hs with ⟨h1, hs⟩ | ⟨h1, hs⟩
        · first | exact hs | (exfalso; simp only [ne_eq, ge_iff_le, gt_iff_lt, i32_eq, i32_lt, i32_le, i32_z, hi] at hq; omega)
        · first | exact hs | (exfalso; simp only [ne_eq, ge_iff_le, gt_iff_lt, i32_eq, i32_lt, i32_le, i32_z, hi] at hq; omega)
      · refine hk (pc + 3) L S' sh D ?_ _ _ _ _ _ _ ⟨gl, gs, G⟩
        simp only [cnd] at hs
        rcases ite_or hs with ⟨h1, hs⟩ | ⟨h1, hs⟩
        · first | exact hs | (exfalso; simp only [ne_eq, ge_iff_le, gt_iff_lt, i32_eq, i32_lt, i32_le, i32_z, hi] at hq; omega)
        · first | exact hs | (exfalso; simp only [ne_eq, ge_iff_le, gt_iff_lt, i32_eq, i32_lt, i32_le, i32_z, hi] at hq; omega)
    | 2, hs, hd =>
      refine lv_if_lt hx hb (off := (a : Int) - (pc : Int)) (tgt := a) hd (by omega) (fun hq => ?_) (fun hq => ?_)
      · refine hk a L S' sh D ?_ _ _ _ _ _ _ ⟨gl, gs, G⟩
        simp only [cnd] at hs
        rcases ite_or hs with ⟨h1, hs⟩ | ⟨h1, hs⟩
        · first | exact hs | (exfalso; simp only [ne_eq, ge_iff_le, gt_iff_lt, i32_eq, i32_lt, i32_le, i32_z, hi] at hq; omega)
        · first | exact hs | (exfalso; simp only [ne_eq, ge_iff_le, gt_iff_lt, i32_eq, i32_lt, i32_le, i32_z, hi] at hq; omega)
      · refine hk (pc + 3) L S' sh D ?_ _ _ _ _ _ _ ⟨gl, gs, G⟩
        simp only [cnd] at hs
        rcases ite_or hs with ⟨h1, hs⟩ | ⟨h1, hs⟩
        · first | exact hs | (exfalso; simp only [ne_eq, ge_iff_le, gt_iff_lt, i32_eq, i32_lt, i32_le, i32_z, hi] at hq; omega)
        · first | exact hs | (exfalso; simp only [ne_eq, ge_iff_le, gt_iff_lt, i32_eq, i32_lt, i32_le, i32_z, hi] at hq; omega)
    | 3, hs, hd =>
      refine lv_if_ge hx hb (off := (a : Int) - (pc : Int)) (tgt := a) hd (by omega) (fun hq => ?_) (fun hq => ?_)
      · refine hk a L S' sh D ?_ _ _ _ _ _ _ ⟨gl, gs, G⟩
        simp only [cnd] at hs
        rcases ite_or hs with ⟨h1, hs⟩ | ⟨h1, hs⟩
        · first | exact hs | (exfalso; simp only [ne_eq, ge_iff_le, gt_iff_lt, i32_eq, i32_lt, i32_le, i32_z, hi] at hq; omega)
        · first | exact hs | (exfalso; simp only [ne_eq, ge_iff_le, gt_iff_lt, i32_eq, i32_lt, i32_le, i32_z, hi] at hq; omega)
      · refine hk (pc + 3) L S' sh D ?_ _ _ _ _ _ _ ⟨gl, gs, G⟩
        simp only [cnd] at hs
        rcases ite_or hs with ⟨h1, hs⟩ | ⟨h1, hs⟩
        · first | exact hs | (exfalso; simp only [ne_eq, ge_iff_le, gt_iff_lt, i32_eq, i32_lt, i32_le, i32_z, hi] at hq; omega)
        · first | exact hs | (exfalso; simp only [ne_eq, ge_iff_le, gt_iff_lt, i32_eq, i32_lt, i32_le, i32_z, hi] at hq; omega)
    | 4, hs, hd =>
      refine lv_if_gt hx hb (off := (a : Int) - (pc : Int)) (tgt := a) hd (by omega) (fun hq => ?_) (fun hq => ?_)
      · refine hk a L S' sh D ?_ _ _ _ _ _ _ ⟨gl, gs, G⟩
        simp only [cnd] at hs
        rcases ite_or hs with ⟨h1, hs⟩ | ⟨h1, hs⟩
        · first | exact hs | (exfalso; simp only [ne_eq, ge_iff_le, gt_iff_lt, i32_eq, i32_lt, i32_le, i32_z, hi] at hq; omega)
        · first | exact hs | (exfalso; simp only [ne_eq, ge_iff_le, gt_iff_lt, i32_eq, i32_lt, i32_le, i32_z, hi] at hq; omega)
      · refine hk (pc + 3) L S' sh D ?_ _ _ _ _ _ _ ⟨gl, gs, G⟩
        simp only [cnd] at hs
        rcases ite_or hs with ⟨h1, hs⟩ | ⟨h1, hs⟩
        · first | exact hs | (exfalso; simp only [ne_eq, ge_iff_le, gt_iff_lt, i32_eq, i32_lt, i32_le, i32_z, hi] at hq; omega)
        · first | exact hs | (exfalso; simp only [ne_eq, ge_iff_le, gt_iff_lt, i32_eq, i32_lt, i32_le, i32_z, hi] at hq; omega)
    | n + 5, hs, hd =>
      refine lv_if_le hx hb (off := (a : Int) - (pc : Int)) (tgt := a) hd (by omega) (fun hq => ?_) (fun hq => ?_)
      · refine hk a L S' sh D ?_ _ _ _ _ _ _ ⟨gl, gs, G⟩
        simp only [cnd] at hs
        rcases ite_or hs with ⟨h1, hs⟩ | ⟨h1, hs⟩
        · first | exact hs | (exfalso; simp only [ne_eq, ge_iff_le, gt_iff_lt, i32_eq, i32_lt, i32_le, i32_z, hi] at hq; omega)
        · first | exact hs | (exfalso; simp only [ne_eq, ge_iff_le, gt_iff_lt, i32_eq, i32_lt, i32_le, i32_z, hi] at hq; omega)
      · refine hk (pc + 3) L S' sh D ?_ _ _ _ _ _ _ ⟨gl, gs, G⟩
        simp only [cnd] at hs
        rcases ite_or hs with ⟨h1, hs⟩ | ⟨h1, hs⟩
        · first | exact hs | (exfalso; simp only [ne_eq, ge_iff_le, gt_iff_lt, i32_eq, i32_lt, i32_le, i32_z, hi] at hq; omega)
        · first | exact hs | (exfalso; simp only [ne_eq, ge_iff_le, gt_iff_lt, i32_eq, i32_lt, i32_le, i32_z, hi] at hq; omega)
  · cases hs
theorem so_18 (C : CXT p s m args meth c R cc nL o ini A b t Ln xs d n0 s0 res) (hk : KW p l e R s m args below meth c Q A dC dI b t Ln xs nL n0 s0 adq res k) (hd : decode cc pc = .ok (.dup, len)) (hl : len = 1) (hs : stepI call (18, len, a, b', c', ex) pc L S (sh, D) k = some res) (G : GS s A dC dI b t Ln xs nL n0 s0 adq L S sh D ls st ws tys H locs) : W p l e R s m args below meth c H locs (sh.length - n0) (slo sh - s0) Q (F0 m pc ls st) := by
  have hx := C.1
  have hb := C.2.1
  simp only [stepI] at hs
  subst hl
  split at hs
  · rename_i x S'
    obtain ⟨gl, gs, G⟩ := G
    obtain ⟨i, st, rfl, hi, gs⟩ := rvs_int gs
    exact lv_dup hx hb hd rfl (hk _ _ _ _ _ hs _ _ _ _ _ _ ⟨gl, ⟨⟨i, rfl, hi⟩, ⟨i, rfl, hi⟩, gs⟩, G⟩)
  · rename_i x S'
    obtain ⟨gl, gs, G⟩ := G
    obtain ⟨st, rfl, hi, gs⟩ := rvs_ref gs
    exact lv_dup hx hb hd rfl (hk _ _ _ _ _ hs _ _ _ _ _ _ ⟨gl, ⟨⟨hi, rfl⟩, ⟨hi, rfl⟩, gs⟩, G⟩)
  · cases hs
theorem so_21 (C : CXT p s m args meth c R cc nL o ini A b t Ln xs d n0 s0 res) (hk : KW p l e R s m args below meth c Q A dC dI b t Ln xs nL n0 s0 adq res k) (hd : decode cc pc = .ok (.dup2, len)) (hl : len = 1) (hs : stepI call (21, len, a, b', c', ex) pc L S (sh, D) k = some res) (G : GS s A dC dI b t Ln xs nL n0 s0 adq L S sh D ls st ws tys H locs) : W p l e R s m args below meth c H locs (sh.length - n0) (slo sh - s0) Q (F0 m pc ls st) := by
  have hx := C.1
  have hb := C.2.1
  simp only [stepI] at hs
  subst hl
  split at hs
  · rename_i x y S'
    obtain ⟨gl, gs, G⟩ := G
    obtain ⟨i, st, rfl, hi, gs⟩ := rvs_int gs
    obtain ⟨j, st, rfl, hj, gs⟩ := rvs_int gs
    exact lv_dup2_11 hx hb hd rfl rfl (hk _ _ _ _ _ hs _ _ _ _ _ _ ⟨gl, ⟨⟨i, rfl, hi⟩, ⟨j, rfl, hj⟩, ⟨i, rfl, hi⟩, ⟨j, rfl, hj⟩, gs⟩, G⟩)
  · rename_i x y S'
    obtain ⟨gl, gs, G⟩ := G
    obtain ⟨i, st, rfl, hi, gs⟩ := rvs_int gs
    obtain ⟨st, rfl, hj, gs⟩ := rvs_ref gs
    exact lv_dup2_11 hx hb hd rfl rfl (hk _ _ _ _ _ hs _ _ _ _ _ _ ⟨gl, ⟨⟨i, rfl, hi⟩, ⟨hj, rfl⟩, ⟨i, rfl, hi⟩, ⟨hj, rfl⟩, gs⟩, G⟩)
  · cases hs
theorem tsw_in {α : Type} {g : Nat → Option α} {x : Int} {dd : Nat} : ∀ {ts : List Int} {lo : Int} {r : α}, tsw g x dd lo ts = some r → (x < lo ∨ lo + (ts.length : Int) - 1 < x) ∧ g dd = some r ∨ (¬ x < lo ∧ ¬ lo + (ts.length : Int) - 1 < x) ∧ ∃ t : Int, ts[(x - lo).toNat]? = some t ∧ g t.toNat = some r
  | [], lo, r, h => by
    left
    refine ⟨?_, h⟩
    simp only [List.length_nil, Int.ofNat_zero, Int.natCast_zero, Int.add_zero] at *
    omega
  | t :: ts, lo, r, h => by
    simp only [tsw] at h
    rcases ite_or h with ⟨h1, hA⟩ | ⟨h1, hB⟩
    · right
      clear h
      subst h1
      refine ⟨⟨by omega, by simp only [List.length_cons]; omega⟩, t, ?_, hA⟩
      rw [show x - x = 0 by omega]
      rfl
    · rcases tsw_in hB with ⟨h2, h3⟩ | ⟨h2, t', h3, h4⟩
      · left
        refine ⟨?_, h3⟩
        simp only [List.length_cons]
        omega
      · right
        refine ⟨⟨by omega, by simp only [List.length_cons]; omega⟩, t', ?_, h4⟩
        rw [show (x - lo).toNat = (x - (lo + 1)).toNat + 1 by omega, List.getElem?_cons_succ]
        exact h3
theorem so_27 (C : CXT p s m args meth c R cc nL o ini A b t Ln xs d n0 s0 res) (hk : KW p l e R s m args below meth c Q A dC dI b t Ln xs nL n0 s0 adq res k) {lo : Int} {ts : List Int} (hex : ex = lo :: ts) (hd : decode cc pc = .ok (.tableswitch ((a : Int) - (pc : Int)) lo (lo + (ts.length : Int) - 1) (ts.map fun t => t - (pc : Int)).toArray, len)) (hl : ∀ t ∈ ts, (0 : Int) ≤ t) (hs : stepI call (27, len, a, b', c', ex) pc L S (sh, D) k = some res) (G : GS s A dC dI b t Ln xs nL n0 s0 adq L S sh D ls st ws tys H locs) : W p l e R s m args below meth c H locs (sh.length - n0) (slo sh - s0) Q (F0 m pc ls st) := by
  have hx := C.1
  have hb := C.2.1
  simp only [stepI] at hs
  subst hex
  split at hs
  · rename_i x S' lo' ts' heq
    cases heq
    obtain ⟨gl, gs, G⟩ := G
    obtain ⟨i, st, rfl, hi, gs⟩ := rvs_int gs
    rcases tsw_in hs with ⟨h2, h3⟩ | ⟨h2, t', h3, h4⟩
    · exact lv_tableOut hx hb hd (by rw [hi]; exact h2) (tgt := a) (by omega) (hk _ _ _ _ _ h3 _ _ _ _ _ _ ⟨gl, gs, G⟩)
    · have h0 := hl t' (List.mem_of_getElem? h3)
      refine lv_tableIn hx hb hd (by rw [hi]; exact h2.1) (by rw [hi]; exact h2.2) (off := t' - (pc : Int)) (tgt := t'.toNat) ?_ (by omega) (hk _ _ _ _ _ h4 _ _ _ _ _ _ ⟨gl, gs, G⟩)
      rw [hi, List.getElem?_toArray, List.getElem?_map, h3]
      rfl
  · cases hs
end So
