/-! ===== a call out of a method's walk ===== -/
def chkPM (e : MethodName × ByteArray × Nat × Option FieldType × Nat × Nat × Nat × Nat × Nat × Nat) : Bool := match e with
  | (y, bytes, ml, ret, ci, kind, pc, pi, ps, n) =>
    decide (y.cls = ON ci) && decide (ci < 13) && plainName y.cls && decide (y.cls ≠ "java/lang/invoke/MethodHandle" ∧ y.cls ≠ "java/lang/invoke/VarHandle") && decide ((parseMethodDescriptor y.desc).map (fun d => d.parameters.length) = some n) && decide (n + 1 ≤ ml + (bif kind == 2 then 1 else 0) ∧ ml ≤ 40) &&
    (match kind with
      | 0 => decide (lw_tbl[pi]? = some (Cond.instanceMethod y)) && decide (lw_tbl[ps]? = some (Cond.selects y.cls y y))
      | 1 => decide (lw_tbl[pi]? = some (Cond.instanceMethod y)) && decide (y.name = "<init>") && decide (ret = none)
      | 2 => decide (lw_tbl[pi]? = some (Cond.static y))
      | _ => false) && decide (ret = none ∨ ret = some .int ∨ ret = some .boolean)
set_option maxRecDepth 100000 in
theorem PM_ok : ptab.all chkPM = true := by decide +kernel
theorem ML_ok : MLP.all (fun e => match ptab[e.2.2.2.1]? with
  | some y => bif e.2.2.2.2 == 1 then true else decide (lw_tbl[e.1]? = some (Cond.methodLink (ON e.2.1) e.2.2.1 y.1))
  | none => false) = true := by decide +kernel
theorem ML_get0 {o idx q : Nat} (h : (o, idx, q, 0) ∈ ML) : ∃ y, ptab[q]? = some y ∧ Cond.methodLink (ON o) idx y.1 ∈ lw_good := by
  obtain ⟨e, h1, h2⟩ := List.mem_map.mp h
  have h3 := List.all_eq_true.mp ML_ok e h1
  obtain ⟨pl, o', idx', q', z⟩ := e
  cases h2
  cases hc : ptab[q]? with
  | none => simp only [hc] at h3; cases h3
  | some y =>
    simp only [hc] at h3
    exact ⟨y, rfl, lw_at _ (of_decide_eq_true h3) rfl⟩
theorem ML_get1 {o idx q : Nat} (h : (o, idx, q, 1) ∈ ML) : ∃ y, ptab[q]? = some y ∧ Cond.methodLinkNest (ON o) idx y.1 "FetchOrder" ∈ nestW := by
  obtain ⟨e, h1, h2⟩ := List.mem_map.mp h
  have h3 := List.all_eq_true.mp ML_ok e h1
  obtain ⟨pl, o', idx', q', z⟩ := e
  cases h2
  cases hc : ptab[q]? with
  | none => simp only [hc] at h3; cases h3
  | some y =>
    refine ⟨y, rfl, ?_⟩
    unfold nestW
    refine List.mem_filterMap.mpr ⟨(pl, o, idx, q, 1), List.mem_filter.mpr ⟨h1, rfl⟩, ?_⟩
    simp only [hc]
theorem good_good : GoodIn lw_good lw_good := fun w hw => ⟨hw, good_of_word (List.mem_filter.mp hw).2⟩
/-- what the tables say of a method -/
def PMs (e : MethodName × ByteArray × Nat × Option FieldType × Nat × Nat × Nat × Nat × Nat × Nat) : Prop := match e with
  | (y, bytes, ml, ret, ci, kind, _, _, _, n) => Cond.code y bytes ml ret ∈ lw_good ∧ y.cls = ON ci ∧ ci < 13 ∧ plainName y.cls = true ∧ (y.cls ≠ "java/lang/invoke/MethodHandle" ∧ y.cls ≠ "java/lang/invoke/VarHandle") ∧ (parseMethodDescriptor y.desc).map (fun d => d.parameters.length) = some n ∧ (n + 1 ≤ ml + (bif kind == 2 then 1 else 0) ∧ ml ≤ 40) ∧ Cond.initialized y.cls ∈ lw_good ∧
    ((kind = 0 ∧ Cond.instanceMethod y ∈ lw_good ∧ Cond.selects y.cls y y ∈ lw_good) ∨ (kind = 1 ∧ Cond.instanceMethod y ∈ lw_good ∧ y.name = "<init>" ∧ ret = none) ∨ (kind = 2 ∧ Cond.static y ∈ lw_good)) ∧ (ret = none ∨ ret = some .int ∨ ret = some .boolean)
theorem pm_get {q : Nat} {e : MethodName × ByteArray × Nat × Option FieldType × Nat × Nat × Nat × Nat × Nat × Nat} (h : ptab[q]? = some e) : PMs e := by
  have h3 := List.all_eq_true.mp PM_ok e (List.mem_of_getElem? h)
  obtain ⟨y, bytes, ml, ret, ci, kind, pc, pi, ps, n⟩ := e
  unfold chkPM at h3
  simp only [Bool.and_eq_true, decide_eq_true_eq] at h3
  obtain ⟨⟨⟨⟨⟨⟨⟨h2, h4⟩, h5⟩, h6⟩, h7⟩, h8⟩, h9⟩, h10⟩ := h3
  have h1 := pm_code h
  have hini : Cond.initialized y.cls ∈ lw_good := by
    obtain ⟨q', hq'⟩ : ∃ q', classes[ci]? = some q' := ⟨classes[ci]'h4, List.getElem?_eq_getElem h4⟩
    rw [h2]
    unfold ON
    rw [hq']
    exact (cl_ok _ _ hq').2.2.2.2.2
  refine ⟨h1, h2, h4, h5, h6, h7, h8, hini, ?_, h10⟩
  match kind, h9 with
  | 0, h9 =>
    simp only [Bool.and_eq_true, decide_eq_true_eq] at h9
    exact Or.inl ⟨rfl, lw_at _ h9.1 rfl, lw_at _ h9.2 rfl⟩
  | 1, h9 =>
    simp only [Bool.and_eq_true, decide_eq_true_eq] at h9
    exact Or.inr (Or.inl ⟨rfl, lw_at _ h9.1.1 rfl, h9.1.2, h9.2⟩)
  | 2, h9 => exact Or.inr (Or.inr ⟨rfl, lw_at _ (of_decide_eq_true h9) rfl⟩)
  | z + 3, h9 => cases h9
def wsQ (y : MethodName) (bytes : ByteArray) (ml : Nat) (ret : Option FieldType) : List Cond := Cond.code y bytes ml ret :: lw_good
theorem wsQ_good {y : MethodName} {bytes : ByteArray} {ml : Nat} {ret : Option FieldType} (h : Cond.code y bytes ml ret ∈ lw_good) : GoodIn lw_good (wsQ y bytes ml ret) := fun w hw => by
  rcases List.mem_cons.mp hw with rfl | hw
  · exact good_good _ h
  · exact good_good _ hw
/-- every call that the abstract machine can make at this depth is the machine's -/
def MetA (mt : List (List (Nat × INS) × Nat)) (n d : Nat) (l : Launch) : Prop := ∀ (q : Nat) (AA : List AV) (sh : List SC) (D : DT) (res : RES), evC mt n d q AA (sh, D) = some res → ∀ (y : MethodName) (bytes : ByteArray) (ml : Nat) (ret : Option FieldType) (ci kind z1 z2 z3 np : Nat), ptab[q]? = some (y, bytes, ml, ret, ci, kind, z1, z2, z3, np) → AA.length = np + (bif kind == 2 then 0 else 1) → noL AA = true →
  ∀ (dC : Nat → ClassId) (dI : Nat → Nat → Nat) (b t Ln : Nat) (xs : Nat → Int32) (ws : va_W) (tys : List (ClassId × FieldType)) (sz : Nat) (vs : List Value), Rel b t Ln xs ws tys sh D → rvs (adr b t ws) sh.length AA vs →
  Met l y (wsQ y bytes ml ret) (rmD d (res.2.1.length - sh.length) (slo res.2.1 - slo sh)) (va_Pc vs (PcB dC dI b t Ln xs ws tys sz)) (QcB dC dI b t Ln xs ws sz sh.length res) (res.2.1.length - sh.length) (slo res.2.1 - slo sh) (va_A ws sz)
section SoC
variable {p : Program} {l : Launch} {e : Env} {R : Room} {s : State} {m : MethodId} {args : Array Value} {below : List Frame} {meth : Method} {c : Code} {Q : State → Prop} {cc : ByteArray} {nL o : Nat} {ini : Bool} {A : Nat → Prop} {dC : Nat → ClassId} {dI : Nat → Nat → Nat} {b t Ln : Nat} {xs : Nat → Int32} {d n0 s0 : Nat} {adq : Nat → Nat} {res : RES} {k : Nat → List (Option AV) → List AV → ST → Option RES} {mt : List (List (Nat × INS) × Nat)} {n : Nat}
variable {pc len a b' c' : Nat} {ex : List Int} {L : List (Option AV)} {S : List AV} {sh : List SC} {D : DT} {ls : Array Slot} {st : List Value} {ws : va_W} {tys : List (ClassId × FieldType)} {H : Heap} {locs : List Loc}
theorem va_sub {A0 : Nat → Prop} {ws : va_W} {H0 H : Heap} {locs : List Loc} (hD : va_D A0 ws) (hS : va_S A0 H0 H locs) (hA : ∀ q, H0.size ≤ q → A0 q) : ∀ q, va_A ws H.size q → A0 q := by
  intro q h
  rcases h with ⟨k, e, h⟩ | h
  · exact hD.2 k (q, e) h
  · exact hA q (Nat.le_trans hS.1 h)
theorem PcB.of (C : CXT p s m args meth c R cc nL o ini A b t Ln xs d n0 s0 res) (g2 : va_K (dC, dI) classes tys s) (g3 : va_P (dC, dI) classes ws H) (g4 : va_D A ws) (g5 : va_S A s.heap H locs) {U : State} (hU : U.heap = H) (hW : s.WarmedH U.vm) : PcB dC dI b t Ln xs ws tys H.size U := by
  obtain ⟨-, -, -, -, -, hA, ⟨hX, hbl, hbA⟩, hT, hZ, hN, hO, -⟩ := C
  have hsub := va_sub g4 g5 hA
  refine ⟨by rw [hU], by rw [hU]; exact g3, va_K.moved hW.alike g2, g4.weaken (fun _ _ _ _ => trivial), ⟨?_, Nat.lt_of_lt_of_le hbl g5.1, fun k q hk e => hbA (by rw [← e]; exact g4.2 k q hk)⟩, ?_, ?_, nest_warm hW hN, va_AO.moved hW.alike hO.1, va_AO.moved hW.alike hO.2⟩
  · rw [hU]; exact va_X.moved hW.alike (hX.kept (g5.2.1 b hbl hbA))
  · rw [hU]; exact va_T.moved hW.alike ((hT.kept (fun a h1 h2 => g5.2.1 a h1 h2)).narrow hsub)
  · rw [hU]; exact va_Z.moved hW.alike ((hZ.kept (fun a h1 h2 => g5.2.1 a h1 h2)).narrow hsub)
theorem va_callG {mc ms : Nat} {st0 rest : List Value} {aa : Array Value} {nn : Nat} {r1 : RES} (hr : va_Run p l e R s m args below meth c H locs (sh.length - n0) (slo sh - s0) mc ms (F0 m pc ls st0) rest (QcB dC dI b t Ln xs ws H.size nn r1 aa) (va_A ws H.size)) (hS : va_S A s.heap H locs) (hA : ∀ q, va_A ws H.size q → A q)
    (kk : ∀ (v : Option Value) (ws1 : va_W) (tys1 : List (ClassId × FieldType)) (H1 : Heap) (locs1 : List Loc), outR (adr b t ws1) r1.2.1.length r1.1 (.returned v) → Rel b t Ln xs ws1 tys1 r1.2.1 r1.2.2 → (∀ k, k < nn → adr b t ws1 k = adr b t ws k) → va_P (dC, dI) classes ws1 H1 → va_K (dC, dI) classes tys1 s → va_D A ws1 → va_S A s.heap H1 locs1 → W p l e R s m args below meth c H1 locs1 (sh.length - n0 + mc) (slo sh - s0 + ms) Q (F0 m (pc + 3) ls (v.toList ++ rest))) : W p l e R s m args below meth c H locs (sh.length - n0) (slo sh - s0) Q (F0 m pc ls st0) := by
  intro T hT X
  obtain ⟨v, st₀, u, T', LL, h0, X', hL, e1, e2, ⟨⟨ws1, tys1, q1, q2, q3, q4, q5, q6⟩, hz, hk⟩, st⟩ := hr T hT X
  rw [h0] at hz hk
  have hvm : s.vm.Alike u.vm := by rw [← e2]; exact X'.warmed.alike
  obtain ⟨t2, a1, b1⟩ := kk v ws1 tys1 T'.heap (locs ++ LL) q1 q2 q3 (by rw [e1]; exact q4) (va_K.moved hvm.symm q5) (q6.weaken (fun _ q _ h => hA q.1 h))
    ⟨Nat.le_trans hS.1 (by rw [e1]; exact hz), fun q h1 h2 => by rw [e1, hk q (Nat.lt_of_lt_of_le h1 hS.1) (fun z => h2 (hA q z))]; exact hS.2.1 q h1 h2, fun q hq => by
      rcases List.mem_append.mp hq with h | h
      · exact hS.2.2 q h
      · exact hA _ (hL q h)⟩ T' rfl X'
  exact ⟨t2, st t2 a1, b1⟩
theorem noL_rev : ∀ {X : List AV}, noL X = true → noL X.reverse = true := by
  have app : ∀ (X Y : List AV), noL (X ++ Y) = (noL X && noL Y) := by
    intro X
    induction X with
    | nil => intro Y; rfl
    | cons a X ih =>
      intro Y
      match a with
      | .inl x => exact ih Y
      | .inr (.inl x) => rfl
      | .inr (.inr x) => exact ih Y
  intro X
  induction X with
  | nil => intro _; rfl
  | cons a X ih =>
    intro h
    rw [List.reverse_cons, app]
    match a, h with
    | .inl x, h => rw [ih h]; rfl
    | .inr (.inl x), h => cases h
    | .inr (.inr x), h => rw [ih h]; rfl
theorem so_4 (C : CXT p s m args meth c R cc nL o ini A b t Ln xs d n0 s0 res) (hk : KW p l e R s m args below meth c Q A dC dI b t Ln xs nL n0 s0 adq res k) (hmk : ∀ pc L S σ, k pc L S σ = some res → σ.1.length ≤ res.2.1.length ∧ slo σ.1 ≤ slo res.2.1) (hMA : MetA mt n d l) {idx : Nat} (hl : len = 3) (hML : (o, idx, a, 0) ∈ ML ∨ (o, idx, a, 1) ∈ ML) (hb1 : b' = mpar a + (bif mkind a == 2 then 0 else 1)) (hc1 : c' = (match mkind a with | 0 => mcl a + 2 | 1 => 1 | _ => 0))
    (hd : decode cc pc = .ok ((match mkind a with | 0 => .invokevirtual idx | 1 => .invokespecial idx | _ => .invokestatic idx), 3)) (hs : stepI (evC mt n d) (4, len, a, b', c', ex) pc L S (sh, D) k = some res) (G : GS s A dC dI b t Ln xs nL n0 s0 adq L S sh D ls st ws tys H locs) : W p l e R s m args below meth c H locs (sh.length - n0) (slo sh - s0) Q (F0 m pc ls st) := by
  subst hl
  simp only [stepI] at hs
  cases hcond : (Nat.ble b' S.length && Nat.ble (avw (S.drop b')) 8 && recvOK c' (S.take b').reverse sh && noL (S.take b')) with
  | false => rw [hcond] at hs; cases hs
  | true =>
  rw [hcond] at hs
  obtain ⟨x, hx1, hs1⟩ := bnd (show (evC mt n d a (S.take b').reverse (sh, D)).bind (fun x => k (pc + 3) L (pushR x.1 (S.drop b')) x.2) = some res from hs)
  obtain ⟨r1, sh1, D1⟩ := x
  simp only [Bool.and_eq_true] at hcond
  obtain ⟨⟨⟨hc2, hc3⟩, hrecv⟩, hnoL⟩ := hcond
  have hc2 : b' ≤ S.length := Nat.le_of_ble_eq_true hc2
  have hc3 : avw (S.drop b') ≤ 8 := Nat.le_of_ble_eq_true hc3
  have hmon : MON (sh, D) (sh1, D1) := evC_mono _ _ _ _ _ hx1
  have hmon2 := hmk _ _ _ _ hs1
  obtain ⟨hm1, hm2⟩ : sh.length ≤ sh1.length ∧ slo sh ≤ slo sh1 := hmon
  obtain ⟨hm3, hm4⟩ : sh1.length ≤ res.2.1.length ∧ slo sh1 ≤ slo res.2.1 := hmon2
  have hroom := C.2.2.2.2.2.2.2.2.2.2.2.2.1
  have hfr := C.2.2.2.2.2.2.2.2.2.2.2.1
  obtain ⟨gl, gs, g1, g2, g3, g4, g5, g6, g7, g8⟩ := G
  obtain ⟨s1, s2, rfl, gs1, gs2⟩ := rvs_app (S1 := S.take b') (S2 := S.drop b') (by rw [List.take_append_drop]; exact gs)
  have gsr := rvs_rev gs1
  have hlen1 : (S.take b').length = b' := by rw [List.length_take]; omega
  have hs1len := rvs_len gs1
  obtain ⟨⟨y, bytes, ml, ret, ci, kind, z1, z2, z3, np⟩, hpt, hword⟩ : ∃ yy, ptab[a]? = some yy ∧ ((Cond.methodLink (ON o) idx yy.1 ∈ lw_good) ∨ (Cond.methodLinkNest (ON o) idx yy.1 "FetchOrder" ∈ nestW)) := by
    rcases hML with h | h
    · obtain ⟨yy, h1, h2⟩ := ML_get0 h; exact ⟨yy, h1, Or.inl h2⟩
    · obtain ⟨yy, h1, h2⟩ := ML_get1 h; exact ⟨yy, h1, Or.inr h2⟩
  obtain ⟨p1, p2, p3, p4, p5, p6, p7, p8, p9, p10⟩ := pm_get hpt
  have hmk1 : mkind a = kind := by unfold mkind; rw [hpt]
  have hmp : mpar a = np := by unfold mpar; rw [hpt]
  have hmc : mcl a = ci := by unfold mcl; rw [hpt]
  rw [hmk1] at hd hb1 hc1
  rw [hmp] at hb1
  rw [hmc] at hc1
  have hMet := hMA a _ sh D _ hx1 y bytes ml ret ci kind z1 z2 z3 np hpt (by rw [List.length_reverse, hlen1, hb1]) (noL_rev hnoL) dC dI b t Ln xs ws tys H.size s1.reverse g1 gsr
  have hpre : ∀ U : State, U.heap = H → s.WarmedH U.vm → PcB dC dI b t Ln xs ws tys H.size U := fun U hU hW => PcB.of C g2 g3 g4 g5 hU hW
  have hsub := va_sub g4 g5 C.2.2.2.2.2.1
  have hCB : ∀ nn, some nn = some np → Cond.methodLink (ON o) idx y ∈ lw_good → CallB R s args (ON o) idx y bytes ml ret (wsQ y bytes ml ret) (rmD d (sh1.length - sh.length) (slo sh1 - slo sh)) (sh1.length - sh.length) (slo sh1 - slo sh) nn := fun nn hnn hw =>
    callB_of nn C.2.2.2.2.1 (wsQ_good p1) rfl rfl rfl (C.2.2.2.2.1 _ p8) (C.2.2.2.2.1 _ hw) ⟨p5.1, p5.2, by rw [p6, hnn]⟩ ⟨by show d + 1 ≤ _; exact hfr.1, by show 8 + (ml + 11) + 64 * d ≤ _; omega⟩
  have hCN : ∀ nn, some nn = some np → Cond.methodLinkNest (ON o) idx y "FetchOrder" ∈ nestW → va_CN R s args (ON o) idx y "FetchOrder" bytes ml ret (wsQ y bytes ml ret) (rmD d (sh1.length - sh.length) (slo sh1 - slo sh)) (sh1.length - sh.length) (slo sh1 - slo sh) nn := fun nn hnn hw =>
    va_cnB nn C.2.2.2.2.1 (wsQ_good p1) rfl rfl rfl (C.2.2.2.2.2.2.2.2.2.1 _ hw) (C.2.2.2.2.1 _ p8) ⟨p5.1, p5.2, by rw [p6, hnn]⟩ ⟨by show d + 1 ≤ _; exact hfr.1, by show 8 + (ml + 11) + 64 * d ≤ _; omega⟩
  have hfix : CallFix p m c cc nL s args lw_good (ON o) := ⟨C.1, C.2.1, C.2.2.1, C.2.2.2.1, C.2.2.2.2.1⟩
  have hsz : (F0 m pc ls (s1 ++ s2)).locals.size = nL := rlo_size gl
  have hW8 : ∀ (g : List Value), 2 * (F0 m pc ls g).monitorRoom + (s2.map fun v => v.category).sum ≤ 8 := fun g => lv_room (by rw [rvs_cat gs2]; exact hc3)
  have hcs : sh.length - n0 + (sh1.length - sh.length) ≤ R.cells ∧ slo sh - s0 + (slo sh1 - slo sh) ≤ R.slots := by omega
  have fin : ∀ {aa : Array Value}, va_Run p l e R s m args below meth c H locs (sh.length - n0) (slo sh - s0) (sh1.length - sh.length) (slo sh1 - slo sh) (F0 m pc ls (s1 ++ s2)) s2 (QcB dC dI b t Ln xs ws H.size sh.length (r1, sh1, D1) aa) (va_A ws H.size) → W p l e R s m args below meth c H locs (sh.length - n0) (slo sh - s0) Q (F0 m pc ls (s1 ++ s2)) := by
    intro aa hrun
    refine va_callG hrun g5 hsub (fun v ws1 tys1 H1 locs1 q1 q2 q3 q4 q5 q6 q7 => ?_)
    rw [show sh.length - n0 + (sh1.length - sh.length) = sh1.length - n0 by omega, show slo sh - s0 + (slo sh1 - slo sh) = slo sh1 - s0 by omega]
    refine hk _ _ _ _ _ hs1 _ _ _ _ _ _ ⟨rlo_mono q3 hm1 gl, ?_, q2, q5, q4, q6, q7, by omega, by omega, fun z hz => (q3 z (by omega)).trans (g8 z hz)⟩
    have hrest := rvs_mono q3 hm1 gs2
    match r1, q1 with
    | none, q1 => cases q1; exact hrest
    | some z, q1 =>
      obtain ⟨v', e1, h1⟩ := q1
      cases e1
      exact ⟨h1, hrest⟩
  rcases p9 with ⟨rfl, pi, ps⟩ | ⟨rfl, pi, pn, pr⟩ | ⟨rfl, pst⟩
  · -- virtual
    have hb2 : b' = np + 1 := hb1
    have hc4 : c' = ci + 2 := hc1
    subst hc4
    cases hT : (S.take b').reverse with
    | nil => have := congrArg List.length hT; rw [List.length_reverse, hlen1, List.length_nil] at this; omega
    | cons z Z =>
    rw [hT] at hrecv gsr
    match z, hrecv, gsr with
    | .inl _, hrecv, _ => cases hrecv
    | .inr (.inl _), hrecv, _ => cases hrecv
    | .inr (.inr r0), hrecv, gsr =>
    obtain ⟨As, hAs, hr0, gAs⟩ := rvs_ref gsr
    have hs1r : s1 = As.reverse ++ [.ref (adr b t ws r0)] := by
      have := congrArg List.reverse hAs
      rw [List.reverse_reverse, List.reverse_cons] at this
      exact this
    have hAl : As.length = np := by
      have := congrArg List.length hAs
      rw [List.length_reverse, List.length_cons] at this
      omega
    have hrecv : (match sh[r0]? with
      | some (tag, _, _) => tag == ci
      | none => false) = true := hrecv
    cases hr1 : sh[r0]? with
    | none => rw [hr1] at hrecv; cases hrecv
    | some sc =>
    obtain ⟨tag, nn, refs⟩ := sc
    rw [hr1] at hrecv
    have htag : tag = ci := eq_of_beq hrecv
    subst htag
    obtain ⟨kk, aa, E, rfl, hk1, had, hcel⟩ := g1.get hr1 (by omega)
    match E, hk1, hcel with
    | .inl (cA, mm, .inl g), hk1, hcel => have := hcel.2.1; omega
    | .inl (cA, mm, .inr (.inl g)), hk1, hcel => have := hcel.2.1; omega
    | .inl (cA, mm, .inr (.inr (.inr (.inr g)))), hk1, hcel => obtain ⟨-, -, ⟨ci, q', h1, -⟩, -⟩ := hcel; omega
    | .inr (ci, fs), hk1, ⟨e1, q, hq, _⟩ =>
    subst e1
    have hcls : y.cls = q.1 := by rw [p2]; unfold ON; rw [hq]
    have hmet : Met l y (wsQ y bytes ml ret) (rmD d (sh1.length - sh.length) (slo sh1 - slo sh)) (va_Pc (.ref (adr b t ws (kk + 2)) :: As) (PcB dC dI b t Ln xs ws tys H.size)) (QcB dC dI b t Ln xs ws H.size sh.length (r1, sh1, D1)) (sh1.length - sh.length) (slo sh1 - slo sh) (va_A ws H.size) := by
      rw [hAs] at hMet
      exact hMet
    have hrc : ∃ cell : Cell, H[adr b t ws (kk + 2)]? = some cell ∧ cell.vm.isStatics = false ∧ s.vm.findClass y.cls = some cell.cls := by
      rw [had, hcls]
      exact va_recv g2 g3 hq hk1
    rcases hword with hw | hw
    · have hrun := va_runV (e := e) (below := below) (meth := meth) (locs := locs) (cells := sh.length - n0) (slots := slo sh - s0) (g := F0 m pc ls (s1 ++ s2)) (As := As) (rest := s2) (b := adr b t ws (kk + 2)) (C := y.cls) (H := H) hfix hmet ⟨hCB np rfl hw, C.2.2.2.2.1 _ pi, C.2.2.2.2.1 _ ps⟩ ⟨PcB.blind, hrc, fun U hU hW => ⟨rfl, hpre U hU hW⟩⟩ rfl hAl hsz (by show s1 ++ s2 = _; rw [hs1r, List.append_assoc]; rfl) (hW8 _) hd hcs
      exact fin hrun
    · have hrun := va_runVN (e := e) (below := below) (meth := meth) (locs := locs) (cells := sh.length - n0) (slots := slo sh - s0) (g := F0 m pc ls (s1 ++ s2)) (As := As) (rest := s2) (b := adr b t ws (kk + 2)) (C := y.cls) (H := H) hfix hmet ⟨hCN np rfl hw, C.2.2.2.2.1 _ pi, C.2.2.2.2.1 _ ps⟩ ⟨PcB.blind, hrc, fun U hU hW => ⟨rfl, hpre U hU hW⟩⟩ rfl hAl hsz (by show s1 ++ s2 = _; rw [hs1r, List.append_assoc]; rfl) (hW8 _) hd hcs
      exact fin hrun
  · -- special
    have hb2 : b' = np + 1 := hb1
    subst pr
    cases hT : s1.reverse with
    | nil => have := congrArg List.length hT; rw [List.length_reverse, List.length_nil] at this; omega
    | cons v0 As =>
    have hs1r : s1 = As.reverse ++ [v0] := by
      have := congrArg List.reverse hT
      rw [List.reverse_reverse, List.reverse_cons] at this
      exact this
    have hAl : As.length = np := by
      have := congrArg List.length hT
      rw [List.length_reverse, List.length_cons] at this
      omega
    rw [hT] at hMet
    have hc4 : c' = 1 := hc1
    subst hc4
    have hv0 : ∃ a0, v0 = .ref a0 := by
      cases hT2 : (S.take b').reverse with
      | nil => rw [hT2] at hrecv; cases hrecv
      | cons z Z =>
        rw [hT2] at hrecv gsr
        match z, hrecv, gsr with
        | .inl _, hrecv, _ => cases hrecv
        | .inr (.inl _), hrecv, _ => cases hrecv
        | .inr (.inr r0), hrecv, gsr =>
          obtain ⟨As', hAs', -, -⟩ := rvs_ref gsr
          rw [hT] at hAs'
          cases hAs'
          exact ⟨_, rfl⟩
    obtain ⟨a0, rfl⟩ := hv0
    rcases hword with hw | hw
    · have hrun := va_runI (e := e) (below := below) (meth := meth) (locs := locs) (cells := sh.length - n0) (slots := slo sh - s0) (g := F0 m pc ls (s1 ++ s2)) (As := As) (rest := s2) (b := a0) (H := H) hfix hMet ⟨hCB np rfl hw, pn, C.2.2.2.2.1 _ pi⟩ ⟨PcB.blind, fun U hU hW => ⟨rfl, hpre U hU hW⟩⟩ rfl hAl hsz (by show s1 ++ s2 = _; rw [hs1r, List.append_assoc]; rfl) (hW8 _) hd hcs
      exact fin hrun
    · have hrun := va_runIN (e := e) (below := below) (meth := meth) (locs := locs) (cells := sh.length - n0) (slots := slo sh - s0) (g := F0 m pc ls (s1 ++ s2)) (As := As) (rest := s2) (b := a0) (H := H) hfix hMet ⟨hCN np rfl hw, pn, C.2.2.2.2.1 _ pi⟩ ⟨PcB.blind, fun U hU hW => ⟨rfl, hpre U hU hW⟩⟩ rfl hAl hsz (by show s1 ++ s2 = _; rw [hs1r, List.append_assoc]; rfl) (hW8 _) hd hcs
      exact fin hrun
  · -- static
    have hb2 : b' = np := hb1
    have hAl : s1.reverse.length = np := by rw [List.length_reverse]; omega
    rcases hword with hw | hw
    · have hrun := va_runS (e := e) (below := below) (meth := meth) (locs := locs) (cells := sh.length - n0) (slots := slo sh - s0) (g := F0 m pc ls (s1 ++ s2)) (As := s1.reverse) (rest := s2) (H := H) hfix hMet ⟨hCB np rfl hw, C.2.2.2.2.1 _ pst⟩ ⟨PcB.blind, fun U hU hW => ⟨rfl, hpre U hU hW⟩⟩ rfl hAl hsz (by show s1 ++ s2 = _; rw [List.reverse_reverse]) (hW8 _) hd hcs
      exact fin hrun
    · have hrun := va_runSN (e := e) (below := below) (meth := meth) (locs := locs) (cells := sh.length - n0) (slots := slo sh - s0) (g := F0 m pc ls (s1 ++ s2)) (As := s1.reverse) (rest := s2) (H := H) hfix hMet ⟨hCN np rfl hw, C.2.2.2.2.1 _ pst, trivial⟩ ⟨PcB.blind, fun U hU hW => ⟨rfl, hpre U hU hW⟩⟩ rfl hAl hsz (by show s1 ++ s2 = _; rw [List.reverse_reverse]) (hW8 _) hd hcs
      exact fin hrun
end SoC
