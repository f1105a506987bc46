section So
variable {p : Program} {l : Launch} {e : Env} {R : Room} {s : State} {m : MethodId} {args : Array Value} {below : List Frame} {meth : Method} {c : Code} {Q : State → Prop} {cc : ByteArray} {nL o : Nat} {ini : Bool} {A : Nat → Prop} {dC : Nat → ClassId} {dI : Nat → Nat → Nat} {b t Ln : Nat} {xs : Nat → Int32} {d n0 s0 : Nat} {adq : Nat → Nat} {res : RES} {k : Nat → List (Option AV) → List AV → ST → Option RES} {call : CALLF}
variable {pc len a b' c' : Nat} {ex : List Int} {L : List (Option AV)} {S : List AV} {sh : List SC} {D : DT} {ls : Array Slot} {st : List Value} {ws : va_W} {tys : List (ClassId × FieldType)} {H : Heap} {locs : List Loc}

theorem so_9 (C : CXT p s m args meth c R cc nL o ini A b t Ln xs d n0 s0 res) (hk : KW p l e R s m args below meth c Q A dC dI b t Ln xs nL n0 s0 adq res k) (hd : decode cc pc = .ok (.iadd, len)) (hl : len = 1) (hs : stepI call (9, len, a, b', c', ex) pc L S (sh, D) k = some res) (G : GS s A dC dI b t Ln xs nL n0 s0 adq L S sh D ls st ws tys H locs) : W p l e R s m args below meth c H locs (sh.length - n0) (slo sh - s0) Q (F0 m pc ls st) := by
  have hx := C.1
  have hb := C.2.1
  simp only [stepI] at hs
  subst hl
  split at hs
  · rename_i y x S'
    obtain ⟨gl, gs, G⟩ := G
    obtain ⟨j, st, rfl, hj, gs⟩ := rvs_int gs
    obtain ⟨i, st, rfl, hi, gs⟩ := rvs_int gs
    refine lv_iadd hx hb hd ?_
    exact hk _ _ _ _ _ hs _ _ _ _ _ _ ⟨gl, ⟨⟨_, rfl, by rw [i32_add, hi, hj]⟩, gs⟩, G⟩
  · cases hs
theorem so_16 (C : CXT p s m args meth c R cc nL o ini A b t Ln xs d n0 s0 res) (hk : KW p l e R s m args below meth c Q A dC dI b t Ln xs nL n0 s0 adq res k) (hd : decode cc pc = .ok (.isub, len)) (hl : len = 1) (hs : stepI call (16, len, a, b', c', ex) pc L S (sh, D) k = some res) (G : GS s A dC dI b t Ln xs nL n0 s0 adq L S sh D ls st ws tys H locs) : W p l e R s m args below meth c H locs (sh.length - n0) (slo sh - s0) Q (F0 m pc ls st) := by
  have hx := C.1
  have hb := C.2.1
  simp only [stepI] at hs
  subst hl
  split at hs
  · rename_i y x S'
    obtain ⟨gl, gs, G⟩ := G
    obtain ⟨j, st, rfl, hj, gs⟩ := rvs_int gs
    obtain ⟨i, st, rfl, hi, gs⟩ := rvs_int gs
    refine lv_isub hx hb hd ?_
    exact hk _ _ _ _ _ hs _ _ _ _ _ _ ⟨gl, ⟨⟨_, rfl, by rw [i32_sub, hi, hj]⟩, gs⟩, G⟩
  · cases hs
theorem so_17 (C : CXT p s m args meth c R cc nL o ini A b t Ln xs d n0 s0 res) (hk : KW p l e R s m args below meth c Q A dC dI b t Ln xs nL n0 s0 adq res k) (hd : decode cc pc = .ok (.imul, len)) (hl : len = 1) (hs : stepI call (17, len, a, b', c', ex) pc L S (sh, D) k = some res) (G : GS s A dC dI b t Ln xs nL n0 s0 adq L S sh D ls st ws tys H locs) : W p l e R s m args below meth c H locs (sh.length - n0) (slo sh - s0) Q (F0 m pc ls st) := by
  have hx := C.1
  have hb := C.2.1
  simp only [stepI] at hs
  subst hl
  split at hs
  · rename_i y x S'
    obtain ⟨gl, gs, G⟩ := G
    obtain ⟨j, st, rfl, hj, gs⟩ := rvs_int gs
    obtain ⟨i, st, rfl, hi, gs⟩ := rvs_int gs
    refine lv_imul hx hb hd ?_
    exact hk _ _ _ _ _ hs _ _ _ _ _ _ ⟨gl, ⟨⟨_, rfl, by rw [i32_mul, hi, hj]⟩, gs⟩, G⟩
  · cases hs
theorem so_43 (C : CXT p s m args meth c R cc nL o ini A b t Ln xs d n0 s0 res) (hk : KW p l e R s m args below meth c Q A dC dI b t Ln xs nL n0 s0 adq res k) (hd : decode cc pc = .ok (.ladd, len)) (hl : len = 1) (hs : stepI call (43, len, a, b', c', ex) pc L S (sh, D) k = some res) (G : GS s A dC dI b t Ln xs nL n0 s0 adq L S sh D ls st ws tys H locs) : W p l e R s m args below meth c H locs (sh.length - n0) (slo sh - s0) Q (F0 m pc ls st) := by
  have hx := C.1
  have hb := C.2.1
  simp only [stepI] at hs
  subst hl
  split at hs
  · rename_i y x S'
    obtain ⟨gl, gs, G⟩ := G
    obtain ⟨j, st, rfl, hj, gs⟩ := rvs_long gs
    obtain ⟨i, st, rfl, hi, gs⟩ := rvs_long gs
    refine lv_ladd hx hb hd ?_
    exact hk _ _ _ _ _ hs _ _ _ _ _ _ ⟨gl, ⟨⟨_, rfl, by rw [i64_add, hi, hj]⟩, gs⟩, G⟩
  · cases hs
theorem so_44 (C : CXT p s m args meth c R cc nL o ini A b t Ln xs d n0 s0 res) (hk : KW p l e R s m args below meth c Q A dC dI b t Ln xs nL n0 s0 adq res k) (hd : decode cc pc = .ok (.lsub, len)) (hl : len = 1) (hs : stepI call (44, len, a, b', c', ex) pc L S (sh, D) k = some res) (G : GS s A dC dI b t Ln xs nL n0 s0 adq L S sh D ls st ws tys H locs) : W p l e R s m args below meth c H locs (sh.length - n0) (slo sh - s0) Q (F0 m pc ls st) := by
  have hx := C.1
  have hb := C.2.1
  simp only [stepI] at hs
  subst hl
  split at hs
  · rename_i y x S'
    obtain ⟨gl, gs, G⟩ := G
    obtain ⟨j, st, rfl, hj, gs⟩ := rvs_long gs
    obtain ⟨i, st, rfl, hi, gs⟩ := rvs_long gs
    refine lv_lsub hx hb hd ?_
    exact hk _ _ _ _ _ hs _ _ _ _ _ _ ⟨gl, ⟨⟨_, rfl, by rw [i64_sub, hi, hj]⟩, gs⟩, G⟩
  · cases hs
theorem so_45 (C : CXT p s m args meth c R cc nL o ini A b t Ln xs d n0 s0 res) (hk : KW p l e R s m args below meth c Q A dC dI b t Ln xs nL n0 s0 adq res k) (hd : decode cc pc = .ok (.lmul, len)) (hl : len = 1) (hs : stepI call (45, len, a, b', c', ex) pc L S (sh, D) k = some res) (G : GS s A dC dI b t Ln xs nL n0 s0 adq L S sh D ls st ws tys H locs) : W p l e R s m args below meth c H locs (sh.length - n0) (slo sh - s0) Q (F0 m pc ls st) := by
  have hx := C.1
  have hb := C.2.1
  simp only [stepI] at hs
  subst hl
  split at hs
  · rename_i y x S'
    obtain ⟨gl, gs, G⟩ := G
    obtain ⟨j, st, rfl, hj, gs⟩ := rvs_long gs
    obtain ⟨i, st, rfl, hi, gs⟩ := rvs_long gs
    refine lv_lmul hx hb hd ?_
    exact hk _ _ _ _ _ hs _ _ _ _ _ _ ⟨gl, ⟨⟨_, rfl, by rw [i64_mul, hi, hj]⟩, gs⟩, G⟩
  · cases hs
theorem so_32 (C : CXT p s m args meth c R cc nL o ini A b t Ln xs d n0 s0 res) (hk : KW p l e R s m args below meth c Q A dC dI b t Ln xs nL n0 s0 adq res k) (hd : decode cc pc = .ok (.ishl, len)) (hl : len = 1) (hs : stepI call (32, len, a, b', c', ex) pc L S (sh, D) k = some res) (G : GS s A dC dI b t Ln xs nL n0 s0 adq L S sh D ls st ws tys H locs) : W p l e R s m args below meth c H locs (sh.length - n0) (slo sh - s0) Q (F0 m pc ls st) := by
  have hx := C.1
  have hb := C.2.1
  simp only [stepI] at hs
  subst hl
  split at hs
  · rename_i y x S'
    obtain ⟨gl, gs, G⟩ := G
    obtain ⟨j, st, rfl, hj, gs⟩ := rvs_int gs
    obtain ⟨i, st, rfl, hi, gs⟩ := rvs_int gs
    refine lv_ishl hx hb hd ?_
    exact hk _ _ _ _ _ hs _ _ _ _ _ _ ⟨gl, ⟨⟨_, rfl, by rw [ashl, ← hi, ← hj, i32_of, i32_of]⟩, gs⟩, G⟩
  · cases hs
theorem so_33 (C : CXT p s m args meth c R cc nL o ini A b t Ln xs d n0 s0 res) (hk : KW p l e R s m args below meth c Q A dC dI b t Ln xs nL n0 s0 adq res k) (hd : decode cc pc = .ok (.ishr, len)) (hl : len = 1) (hs : stepI call (33, len, a, b', c', ex) pc L S (sh, D) k = some res) (G : GS s A dC dI b t Ln xs nL n0 s0 adq L S sh D ls st ws tys H locs) : W p l e R s m args below meth c H locs (sh.length - n0) (slo sh - s0) Q (F0 m pc ls st) := by
  have hx := C.1
  have hb := C.2.1
  simp only [stepI] at hs
  subst hl
  split at hs
  · rename_i y x S'
    obtain ⟨gl, gs, G⟩ := G
    obtain ⟨j, st, rfl, hj, gs⟩ := rvs_int gs
    obtain ⟨i, st, rfl, hi, gs⟩ := rvs_int gs
    refine lv_ishr hx hb hd ?_
    exact hk _ _ _ _ _ hs _ _ _ _ _ _ ⟨gl, ⟨⟨_, rfl, by rw [ashr, ← hi, ← hj, i32_of, i32_of]⟩, gs⟩, G⟩
  · cases hs
theorem so_34 (C : CXT p s m args meth c R cc nL o ini A b t Ln xs d n0 s0 res) (hk : KW p l e R s m args below meth c Q A dC dI b t Ln xs nL n0 s0 adq res k) (hd : decode cc pc = .ok (.iand, len)) (hl : len = 1) (hs : stepI call (34, len, a, b', c', ex) pc L S (sh, D) k = some res) (G : GS s A dC dI b t Ln xs nL n0 s0 adq L S sh D ls st ws tys H locs) : W p l e R s m args below meth c H locs (sh.length - n0) (slo sh - s0) Q (F0 m pc ls st) := by
  have hx := C.1
  have hb := C.2.1
  simp only [stepI] at hs
  subst hl
  split at hs
  · rename_i y x S'
    obtain ⟨gl, gs, G⟩ := G
    obtain ⟨j, st, rfl, hj, gs⟩ := rvs_int gs
    obtain ⟨i, st, rfl, hi, gs⟩ := rvs_int gs
    refine lv_iand hx hb hd ?_
    exact hk _ _ _ _ _ hs _ _ _ _ _ _ ⟨gl, ⟨⟨_, rfl, by rw [aand, ← hi, ← hj, i32_of, i32_of]⟩, gs⟩, G⟩
  · cases hs
theorem so_35 (C : CXT p s m args meth c R cc nL o ini A b t Ln xs d n0 s0 res) (hk : KW p l e R s m args below meth c Q A dC dI b t Ln xs nL n0 s0 adq res k) (hd : decode cc pc = .ok (.ior, len)) (hl : len = 1) (hs : stepI call (35, len, a, b', c', ex) pc L S (sh, D) k = some res) (G : GS s A dC dI b t Ln xs nL n0 s0 adq L S sh D ls st ws tys H locs) : W p l e R s m args below meth c H locs (sh.length - n0) (slo sh - s0) Q (F0 m pc ls st) := by
  have hx := C.1
  have hb := C.2.1
  simp only [stepI] at hs
  subst hl
  split at hs
  · rename_i y x S'
    obtain ⟨gl, gs, G⟩ := G
    obtain ⟨j, st, rfl, hj, gs⟩ := rvs_int gs
    obtain ⟨i, st, rfl, hi, gs⟩ := rvs_int gs
    refine lv_ior hx hb hd ?_
    exact hk _ _ _ _ _ hs _ _ _ _ _ _ ⟨gl, ⟨⟨_, rfl, by rw [aor, ← hi, ← hj, i32_of, i32_of]⟩, gs⟩, G⟩
  · cases hs
theorem so_31 (C : CXT p s m args meth c R cc nL o ini A b t Ln xs d n0 s0 res) (hk : KW p l e R s m args below meth c Q A dC dI b t Ln xs nL n0 s0 adq res k) (hd : decode cc pc = .ok (.ineg, len)) (hl : len = 1) (hs : stepI call (31, len, a, b', c', ex) pc L S (sh, D) k = some res) (G : GS s A dC dI b t Ln xs nL n0 s0 adq L S sh D ls st ws tys H locs) : W p l e R s m args below meth c H locs (sh.length - n0) (slo sh - s0) Q (F0 m pc ls st) := by
  have hx := C.1
  have hb := C.2.1
  simp only [stepI] at hs
  subst hl
  split at hs
  · rename_i x S'
    obtain ⟨gl, gs, G⟩ := G
    obtain ⟨i, st, rfl, hi, gs⟩ := rvs_int gs
    refine lv_ineg hx hb hd ?_
    exact hk _ _ _ _ _ hs _ _ _ _ _ _ ⟨gl, ⟨⟨_, rfl, by rw [← hi]; first | exact i32_neg i | (rw [i32_sub, i32_z, Int.zero_sub])⟩, gs⟩, G⟩
  · cases hs
theorem so_36 (C : CXT p s m args meth c R cc nL o ini A b t Ln xs d n0 s0 res) (hk : KW p l e R s m args below meth c Q A dC dI b t Ln xs nL n0 s0 adq res k) (hd : decode cc pc = .ok (.i2b, len)) (hl : len = 1) (hs : stepI call (36, len, a, b', c', ex) pc L S (sh, D) k = some res) (G : GS s A dC dI b t Ln xs nL n0 s0 adq L S sh D ls st ws tys H locs) : W p l e R s m args below meth c H locs (sh.length - n0) (slo sh - s0) Q (F0 m pc ls st) := by
  have hx := C.1
  have hb := C.2.1
  simp only [stepI] at hs
  subst hl
  split at hs
  · rename_i x S'
    obtain ⟨gl, gs, G⟩ := G
    obtain ⟨i, st, rfl, hi, gs⟩ := rvs_int gs
    refine lv_i2b hx hb hd rfl ?_
    exact hk _ _ _ _ _ hs _ _ _ _ _ _ ⟨gl, ⟨⟨_, rfl, by rw [ai2b, ← hi, i32_of]⟩, gs⟩, G⟩
  · cases hs
theorem so_48 (C : CXT p s m args meth c R cc nL o ini A b t Ln xs d n0 s0 res) (hk : KW p l e R s m args below meth c Q A dC dI b t Ln xs nL n0 s0 adq res k) (hd : decode cc pc = .ok (.i2l, len)) (hl : len = 1) (hs : stepI call (48, len, a, b', c', ex) pc L S (sh, D) k = some res) (G : GS s A dC dI b t Ln xs nL n0 s0 adq L S sh D ls st ws tys H locs) : W p l e R s m args below meth c H locs (sh.length - n0) (slo sh - s0) Q (F0 m pc ls st) := by
  have hx := C.1
  have hb := C.2.1
  simp only [stepI] at hs
  subst hl
  split at hs
  · rename_i x S'
    obtain ⟨gl, gs, G⟩ := G
    obtain ⟨i, st, rfl, hi, gs⟩ := rvs_int gs
    refine lv_i2l hx hb hd rfl ?_
    exact hk _ _ _ _ _ hs _ _ _ _ _ _ ⟨gl, ⟨⟨_, rfl, by rw [Int32.toInt_toInt64, hi]⟩, gs⟩, G⟩
  · cases hs
theorem so_49 (C : CXT p s m args meth c R cc nL o ini A b t Ln xs d n0 s0 res) (hk : KW p l e R s m args below meth c Q A dC dI b t Ln xs nL n0 s0 adq res k) (hd : decode cc pc = .ok (.l2i, len)) (hl : len = 1) (hs : stepI call (49, len, a, b', c', ex) pc L S (sh, D) k = some res) (G : GS s A dC dI b t Ln xs nL n0 s0 adq L S sh D ls st ws tys H locs) : W p l e R s m args below meth c H locs (sh.length - n0) (slo sh - s0) Q (F0 m pc ls st) := by
  have hx := C.1
  have hb := C.2.1
  simp only [stepI] at hs
  subst hl
  split at hs
  · rename_i x S'
    obtain ⟨gl, gs, G⟩ := G
    obtain ⟨i, st, rfl, hi, gs⟩ := rvs_long gs
    refine lv_l2i hx hb hd rfl ?_
    exact hk _ _ _ _ _ hs _ _ _ _ _ _ ⟨gl, ⟨⟨_, rfl, by rw [Int64.toInt_toInt32, hi]; exact w32_bmod _⟩, gs⟩, G⟩
  · cases hs
theorem so_30 (C : CXT p s m args meth c R cc nL o ini A b t Ln xs d n0 s0 res) (hk : KW p l e R s m args below meth c Q A dC dI b t Ln xs nL n0 s0 adq res k) (hd : decode cc pc = .ok (.idiv, len)) (hl : len = 1) (hs : stepI call (30, len, a, b', c', ex) pc L S (sh, D) k = some res) (G : GS s A dC dI b t Ln xs nL n0 s0 adq L S sh D ls st ws tys H locs) : W p l e R s m args below meth c H locs (sh.length - n0) (slo sh - s0) Q (F0 m pc ls st) := by
  have hx := C.1
  have hb := C.2.1
  simp only [stepI] at hs
  subst hl
  split at hs
  · rename_i y x S'
    obtain ⟨z, hz, hs⟩ := bnd hs
    obtain ⟨gl, gs, G⟩ := G
    obtain ⟨j, st, rfl, hj, gs⟩ := rvs_int gs
    obtain ⟨i, st, rfl, hi, gs⟩ := rvs_int gs
    unfold adiv at hz
    rcases ite_or hz with ⟨h0, hz⟩ | ⟨h0, hz⟩
    · cases hz
    · have hz := Option.some.inj hz
      refine lv_idiv hx hb hd (fun q => h0 (by rw [← hj, q]; decide)) ?_
      exact hk _ _ _ _ _ hs _ _ _ _ _ _ ⟨gl, ⟨⟨_, rfl, by rw [← hz, ← hi, ← hj]; simp only [i32_div]⟩, gs⟩, G⟩
  · cases hs
theorem so_29 (C : CXT p s m args meth c R cc nL o ini A b t Ln xs d n0 s0 res) (hk : KW p l e R s m args below meth c Q A dC dI b t Ln xs nL n0 s0 adq res k) (hd : decode cc pc = .ok (.irem, len)) (hl : len = 1) (hs : stepI call (29, len, a, b', c', ex) pc L S (sh, D) k = some res) (G : GS s A dC dI b t Ln xs nL n0 s0 adq L S sh D ls st ws tys H locs) : W p l e R s m args below meth c H locs (sh.length - n0) (slo sh - s0) Q (F0 m pc ls st) := by
  have hx := C.1
  have hb := C.2.1
  simp only [stepI] at hs
  subst hl
  split at hs
  · rename_i y x S'
    obtain ⟨z, hz, hs⟩ := bnd hs
    obtain ⟨gl, gs, G⟩ := G
    obtain ⟨j, st, rfl, hj, gs⟩ := rvs_int gs
    obtain ⟨i, st, rfl, hi, gs⟩ := rvs_int gs
    unfold arem at hz
    rcases ite_or hz with ⟨h0, hz⟩ | ⟨h0, hz⟩
    · cases hz
    · have hz := Option.some.inj hz
      refine lv_irem hx hb hd (fun q => h0 (by rw [← hj, q]; decide)) ?_
      exact hk _ _ _ _ _ hs _ _ _ _ _ _ ⟨gl, ⟨⟨_, rfl, by rw [← hz, ← hi, ← hj]; simp only [i32_sub, i32_mul, i32_div]⟩, gs⟩, G⟩
  · cases hs
theorem so_46 (C : CXT p s m args meth c R cc nL o ini A b t Ln xs d n0 s0 res) (hk : KW p l e R s m args below meth c Q A dC dI b t Ln xs nL n0 s0 adq res k) (hd : decode cc pc = .ok (.ldiv, len)) (hl : len = 1) (hs : stepI call (46, len, a, b', c', ex) pc L S (sh, D) k = some res) (G : GS s A dC dI b t Ln xs nL n0 s0 adq L S sh D ls st ws tys H locs) : W p l e R s m args below meth c H locs (sh.length - n0) (slo sh - s0) Q (F0 m pc ls st) := by
  have hx := C.1
  have hb := C.2.1
  simp only [stepI] at hs
  subst hl
  split at hs
  · rename_i y x S'
    obtain ⟨z, hz, hs⟩ := bnd hs
    obtain ⟨gl, gs, G⟩ := G
    obtain ⟨j, st, rfl, hj, gs⟩ := rvs_long gs
    obtain ⟨i, st, rfl, hi, gs⟩ := rvs_long gs
    unfold aldiv at hz
    rcases ite_or hz with ⟨h0, hz⟩ | ⟨h0, hz⟩
    · cases hz
    · have hz := Option.some.inj hz
      refine lv_ldiv hx hb hd (fun q => h0 (by rw [← hj, q]; decide)) ?_
      exact hk _ _ _ _ _ hs _ _ _ _ _ _ ⟨gl, ⟨⟨_, rfl, by rw [← hz, ← hi, ← hj]; simp only [i64_div]⟩, gs⟩, G⟩
  · cases hs
theorem so_47 (C : CXT p s m args meth c R cc nL o ini A b t Ln xs d n0 s0 res) (hk : KW p l e R s m args below meth c Q A dC dI b t Ln xs nL n0 s0 adq res k) (hd : decode cc pc = .ok (.lcmp, len)) (hl : len = 1) (hs : stepI call (47, len, a, b', c', ex) pc L S (sh, D) k = some res) (G : GS s A dC dI b t Ln xs nL n0 s0 adq L S sh D ls st ws tys H locs) : W p l e R s m args below meth c H locs (sh.length - n0) (slo sh - s0) Q (F0 m pc ls st) := by
  have hx := C.1
  have hb := C.2.1
  simp only [stepI] at hs
  subst hl
  split at hs
  · rename_i y x S'
    obtain ⟨gl, gs, G⟩ := G
    obtain ⟨j, st, rfl, hj, gs⟩ := rvs_long gs
    obtain ⟨i, st, rfl, hi, gs⟩ := rvs_long gs
    refine W.lcmp hx hb hd ?_
    refine hk _ _ _ _ _ hs _ _ _ _ _ _ ⟨gl, ⟨⟨_, rfl, ?_⟩, gs⟩, G⟩
    rw [alcmp, ← hi, ← hj, lg_cmp]
    simp only [gt_iff_lt, Int64.lt_iff_toInt_lt, ← Int64.toInt_inj]
    repeat' split
    all_goals first | rfl | decide | omega
  · cases hs
theorem so_0 (C : CXT p s m args meth c R cc nL o ini A b t Ln xs d n0 s0 res) (hk : KW p l e R s m args below meth c Q A dC dI b t Ln xs nL n0 s0 adq res k) (hd : decode cc pc = .ok (bif len == 1 then .aload_n (Fin.ofNat 4 a) else .aload a, len)) (hl : len = 1 ∧ a < 4 ∨ len = 2) (hs : stepI call (0, len, a, b', c', ex) pc L S (sh, D) k = some res) (G : GS s A dC dI b t Ln xs nL n0 s0 adq L S sh D ls st ws tys H locs) : W p l e R s m args below meth c H locs (sh.length - n0) (slo sh - s0) Q (F0 m pc ls st) := by
  have hx := C.1
  have hb := C.2.1
  simp only [stepI] at hs
  split at hs
  · rename_i x hx1
    obtain ⟨gl, gs, G⟩ := G
    obtain ⟨v, hv, ⟨hi, rfl⟩⟩ := rlo_at gl hx1
    rcases hl with ⟨rfl, ha⟩ | rfl
    · refine lv_aload_n hx hb hd (Nat.mod_eq_of_lt ha) hv ?_
      exact hk _ _ _ _ _ hs _ _ _ _ _ _ ⟨gl, ⟨⟨hi, rfl⟩, gs⟩, G⟩
    · refine lv_aload hx hb hd hv ?_
      exact hk _ _ _ _ _ hs _ _ _ _ _ _ ⟨gl, ⟨⟨hi, rfl⟩, gs⟩, G⟩
  · cases hs
theorem so_1 (C : CXT p s m args meth c R cc nL o ini A b t Ln xs d n0 s0 res) (hk : KW p l e R s m args below meth c Q A dC dI b t Ln xs nL n0 s0 adq res k) (hd : decode cc pc = .ok (bif len == 1 then .iload_n (Fin.ofNat 4 a) else .iload a, len)) (hl : len = 1 ∧ a < 4 ∨ len = 2) (hs : stepI call (1, len, a, b', c', ex) pc L S (sh, D) k = some res) (G : GS s A dC dI b t Ln xs nL n0 s0 adq L S sh D ls st ws tys H locs) : W p l e R s m args below meth c H locs (sh.length - n0) (slo sh - s0) Q (F0 m pc ls st) := by
  have hx := C.1
  have hb := C.2.1
  simp only [stepI] at hs
  split at hs
  · rename_i x hx1
    obtain ⟨gl, gs, G⟩ := G
    obtain ⟨v, hv, ⟨i, rfl, hi⟩⟩ := rlo_at gl hx1
    rcases hl with ⟨rfl, ha⟩ | rfl
    · refine lv_iload_n hx hb hd (Nat.mod_eq_of_lt ha) hv ?_
      exact hk _ _ _ _ _ hs _ _ _ _ _ _ ⟨gl, ⟨⟨i, rfl, hi⟩, gs⟩, G⟩
    · refine lv_iload hx hb hd hv ?_
      exact hk _ _ _ _ _ hs _ _ _ _ _ _ ⟨gl, ⟨⟨i, rfl, hi⟩, gs⟩, G⟩
  · cases hs
theorem so_41 (C : CXT p s m args meth c R cc nL o ini A b t Ln xs d n0 s0 res) (hk : KW p l e R s m args below meth c Q A dC dI b t Ln xs nL n0 s0 adq res k) (hd : decode cc pc = .ok (.lload_n (Fin.ofNat 4 a), len)) (hl : len = 1 ∧ a < 4) (hs : stepI call (41, len, a, b', c', ex) pc L S (sh, D) k = some res) (G : GS s A dC dI b t Ln xs nL n0 s0 adq L S sh D ls st ws tys H locs) : W p l e R s m args below meth c H locs (sh.length - n0) (slo sh - s0) Q (F0 m pc ls st) := by
  have hx := C.1
  have hb := C.2.1
  simp only [stepI] at hs
  obtain ⟨rfl, ha⟩ := hl
  split at hs
  · rename_i x hx1
    obtain ⟨gl, gs, G⟩ := G
    obtain ⟨v, hv, ⟨i, rfl, hi⟩⟩ := rlo_at gl hx1
    refine lv_lload_n hx hb hd (Nat.mod_eq_of_lt ha) hv ?_
    exact hk _ _ _ _ _ hs _ _ _ _ _ _ ⟨gl, ⟨⟨i, rfl, hi⟩, gs⟩, G⟩
  · cases hs
theorem so_8 (C : CXT p s m args meth c R cc nL o ini A b t Ln xs d n0 s0 res) (hk : KW p l e R s m args below meth c Q A dC dI b t Ln xs nL n0 s0 adq res k) (hd : decode cc pc = .ok (bif len == 1 then .istore_n (Fin.ofNat 4 a) else .istore a, len)) (hl : len = 1 ∧ a < 4 ∨ len = 2) (hs : stepI call (8, len, a, b', c', ex) pc L S (sh, D) k = some res) (G : GS s A dC dI b t Ln xs nL n0 s0 adq L S sh D ls st ws tys H locs) : W p l e R s m args below meth c H locs (sh.length - n0) (slo sh - s0) Q (F0 m pc ls st) := by
  have hx := C.1
  have hb := C.2.1
  simp only [stepI] at hs
  split at hs
  · rename_i x S'
    cases hc : (Nat.blt a L.length && nlong L a) with
    | false => rw [hc] at hs; cases hs
    | true =>
      rw [hc] at hs
      have hs : k (pc + len) _ _ _ = some res := hs
      obtain ⟨hc1, hc2⟩ := Bool.and_eq_true_iff.mp hc
      have hc1 : a < L.length := Nat.blt_eq.mp hc1
      obtain ⟨gl, gs, G⟩ := G
      obtain ⟨hL, lv, hlv, hold⟩ := gl
      obtain ⟨i, st, rfl, hi, gs⟩ := rvs_int gs
      rcases hl with ⟨rfl, ha⟩ | rfl
      · refine lv_istore_n hx hb hd (Nat.mod_eq_of_lt ha) hlv (by omega) rfl (fun ls' h' => ?_)
        exact hk _ _ _ _ _ hs _ _ _ _ _ _ ⟨rlo_set hL (by omega) hold hc2 ⟨i, rfl, hi⟩ h', gs, G⟩
      · refine lv_istore hx hb hd hlv (by omega) rfl (fun ls' h' => ?_)
        exact hk _ _ _ _ _ hs _ _ _ _ _ _ ⟨rlo_set hL (by omega) hold hc2 ⟨i, rfl, hi⟩ h', gs, G⟩
  · cases hs
theorem so_37 (C : CXT p s m args meth c R cc nL o ini A b t Ln xs d n0 s0 res) (hk : KW p l e R s m args below meth c Q A dC dI b t Ln xs nL n0 s0 adq res k) (hd : decode cc pc = .ok (bif len == 1 then .astore_n (Fin.ofNat 4 a) else .astore a, len)) (hl : len = 1 ∧ a < 4 ∨ len = 2) (hs : stepI call (37, len, a, b', c', ex) pc L S (sh, D) k = some res) (G : GS s A dC dI b t Ln xs nL n0 s0 adq L S sh D ls st ws tys H locs) : W p l e R s m args below meth c H locs (sh.length - n0) (slo sh - s0) Q (F0 m pc ls st) := by
  have hx := C.1
  have hb := C.2.1
  simp only [stepI] at hs
  split at hs
  · rename_i x S'
    cases hc : (Nat.blt a L.length && nlong L a) with
    | false => rw [hc] at hs; cases hs
    | true =>
      rw [hc] at hs
      have hs : k (pc + len) _ _ _ = some res := hs
      obtain ⟨hc1, hc2⟩ := Bool.and_eq_true_iff.mp hc
      have hc1 : a < L.length := Nat.blt_eq.mp hc1
      obtain ⟨gl, gs, G⟩ := G
      obtain ⟨hL, lv, hlv, hold⟩ := gl
      obtain ⟨st, rfl, hi, gs⟩ := rvs_ref gs
      rcases hl with ⟨rfl, ha⟩ | rfl
      · refine lv_astore_n hx hb hd (Nat.mod_eq_of_lt ha) hlv (by omega) rfl (fun ls' h' => ?_)
        exact hk _ _ _ _ _ hs _ _ _ _ _ _ ⟨rlo_set hL (by omega) hold hc2 ⟨hi, rfl⟩ h', gs, G⟩
      · refine lv_astore hx hb hd hlv (by omega) rfl (fun ls' h' => ?_)
        exact hk _ _ _ _ _ hs _ _ _ _ _ _ ⟨rlo_set hL (by omega) hold hc2 ⟨hi, rfl⟩ h', gs, G⟩
  · cases hs
theorem so_42 (C : CXT p s m args meth c R cc nL o ini A b t Ln xs d n0 s0 res) (hk : KW p l e R s m args below meth c Q A dC dI b t Ln xs nL n0 s0 adq res k) (hd : decode cc pc = .ok (.lstore_n (Fin.ofNat 4 a), len)) (hl : len = 1 ∧ a < 4) (hs : stepI call (42, len, a, b', c', ex) pc L S (sh, D) k = some res) (G : GS s A dC dI b t Ln xs nL n0 s0 adq L S sh D ls st ws tys H locs) : W p l e R s m args below meth c H locs (sh.length - n0) (slo sh - s0) Q (F0 m pc ls st) := by
  have hx := C.1
  have hb := C.2.1
  simp only [stepI] at hs
  obtain ⟨rfl, ha⟩ := hl
  split at hs
  · rename_i x S'
    cases hc : (Nat.blt (a + 1) L.length && nlong L a) with
    | false => rw [hc] at hs; cases hs
    | true =>
      rw [hc] at hs
      have hs : k (pc + 1) _ _ _ = some res := hs
      obtain ⟨hc1, hc2⟩ := Bool.and_eq_true_iff.mp hc
      have hc1 : a + 1 < L.length := Nat.blt_eq.mp hc1
      obtain ⟨gl, gs, G⟩ := G
      obtain ⟨hL, lv, hlv, hold⟩ := gl
      obtain ⟨i, st, rfl, hi, gs⟩ := rvs_long gs
      refine lv_lstore_n hx hb hd (Nat.mod_eq_of_lt ha) hlv (by omega) rfl (fun ls' h' => ?_)
      exact hk _ _ _ _ _ hs _ _ _ _ _ _ ⟨rlo_setL hL (by omega) hold hc2 hi h', gs, G⟩
  · cases hs
theorem so_12 (C : CXT p s m args meth c R cc nL o ini A b t Ln xs d n0 s0 res) (hk : KW p l e R s m args below meth c Q A dC dI b t Ln xs nL n0 s0 adq res k) {y : Int} (hex : ex = [y]) (hd : decode cc pc = .ok (.iinc a y, len)) (hl : len = 3) (hs : stepI call (12, len, a, b', c', ex) pc L S (sh, D) k = some res) (G : GS s A dC dI b t Ln xs nL n0 s0 adq L S sh D ls st ws tys H locs) : W p l e R s m args below meth c H locs (sh.length - n0) (slo sh - s0) Q (F0 m pc ls st) := by
  have hx := C.1
  have hb := C.2.1
  simp only [stepI] at hs
  subst hl
  subst hex
  split at hs
  · rename_i x z hx1 hz
    cases hz
    cases hc : nlong L a with
    | false => rw [hc] at hs; cases hs
    | true =>
      rw [hc] at hs
      have hs : k (pc + 3) _ _ _ = some res := hs
      obtain ⟨gl, gs, G⟩ := G
      obtain ⟨hL, lv, hlv, hold⟩ := gl
      obtain ⟨v, hm, i, rfl, hi⟩ := hold a _ hx1
      obtain ⟨kk, hkk⟩ := List.getElem?_of_mem hm
      have ha : a < L.length := (List.getElem?_eq_some_iff.mp hx1).1
      refine lv_iinc hx hb hd hlv hkk rfl (by omega) rfl (fun ls' h' => ?_)
      refine hk _ _ _ _ _ hs _ _ _ _ _ _ ⟨rlo_set hL (by omega) hold hc ⟨_, rfl, ?_⟩ h', gs, G⟩
      rw [i32_add, i32_ofInt, hi]
      simp only [w32]; omega
  · cases hs
end So
