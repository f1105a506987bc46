/-! ===== the frame in which a method's steps are walked ===== -/
def nestW : List Cond := (MLP.filter fun e => e.2.2.2.2 == 1).filterMap fun e => match ptab[e.2.2.2.1]? with
  | some y => some (Cond.methodLinkNest (ON e.2.1) e.2.2.1 y.1 "FetchOrder")
  | none => none
def CXT (p : Program) (s : State) (m : MethodId) (args : Array Value) (meth : Method) (c : Code) (R : Room) (cc : ByteArray) (nL o : Nat) (ini : Bool) (A : Nat → Prop) (b t Ln : Nat) (xs : Nat → Int32) (d n0 s0 : Nat) (res : RES) : Prop :=
  p.tables.exec = Jvm.exec ∧ c.code = cc ∧ c.maxLocals = nL ∧ s.vm.findClass (ON o) = some m.cls ∧ (∀ w ∈ lw_good, w.before args s = true) ∧ (∀ q, s.heap.size ≤ q → A q) ∧
  (va_X b Ln xs s s.heap ∧ b < s.heap.size ∧ ¬ A b) ∧ va_T .int t 8 (fun j => .int (nI j)) A s s.heap ∧ va_Z "FetchOrder" "AS_TOLD" "[I" (.ref t) A s s.heap ∧ (∀ w ∈ nestW, va_Nw w s) ∧ (va_AO RC4 s ∧ va_AO RC7 s) ∧
  (d + 1 ≤ R.frames ∧ 64 * (d + 1) ≤ R.locals) ∧ (res.2.1.length ≤ n0 + R.cells ∧ slo res.2.1 ≤ s0 + R.slots) ∧ (ini = true → meth.name = "<init>")
def GS (s : State) (A : Nat → Prop) (dC : Nat → ClassId) (dI : Nat → Nat → Nat) (b t Ln : Nat) (xs : Nat → Int32) (nL n0 s0 : Nat) (adq : Nat → Nat) (L : List (Option AV)) (S : List AV) (sh : List SC) (D : DT) (ls : Array Slot) (st : List Value) (ws : va_W) (tys : List (ClassId × FieldType)) (H : Heap) (locs : List Loc) : Prop :=
  rlo (adr b t ws) sh.length nL L ls ∧ rvs (adr b t ws) sh.length S st ∧ Rel b t Ln xs ws tys sh D ∧ va_K (dC, dI) classes tys s ∧ va_P (dC, dI) classes ws H ∧ va_D A ws ∧ va_S A s.heap H locs ∧ n0 ≤ sh.length ∧ s0 ≤ slo sh ∧ ∀ k, k < n0 → adr b t ws k = adq k
def KW (p : Program) (l : Launch) (e : Env) (R : Room) (s : State) (m : MethodId) (args : Array Value) (below : List Frame) (meth : Method) (c : Code) (Q : State → Prop) (A : Nat → Prop) (dC : Nat → ClassId) (dI : Nat → Nat → Nat) (b t Ln : Nat) (xs : Nat → Int32) (nL n0 s0 : Nat) (adq : Nat → Nat) (res : RES) (k : Nat → List (Option AV) → List AV → ST → Option RES) : Prop :=
  ∀ (pc : Nat) (L : List (Option AV)) (S : List AV) (sh : List SC) (D : DT), k pc L S (sh, D) = some res → ∀ (ls : Array Slot) (st : List Value) (ws : va_W) (tys : List (ClassId × FieldType)) (H : Heap) (locs : List Loc),
    GS s A dC dI b t Ln xs nL n0 s0 adq L S sh D ls st ws tys H locs → W p l e R s m args below meth c H locs (sh.length - n0) (slo sh - s0) Q (F0 m pc ls st)
theorem FL_ok : FLP.all (fun e => match classes[e.2.2.2.1]? with
  | some q => decide (lw_tbl[e.1]? = some (Cond.fieldLink (ON e.2.1) e.2.2.1 (q.2.1 e.2.2.2.2).1 (q.2.1 e.2.2.2.2).2.1 (q.2.1 e.2.2.2.2).2.2.1)) && decide (e.2.2.2.2 < q.2.2)
  | none => false) = true := by decide +kernel
theorem FL_get {o idx ci j : Nat} (h : (o, idx, ci, j) ∈ FL) : ∃ q, classes[ci]? = some q ∧ j < q.2.2 ∧ Cond.fieldLink (ON o) idx (q.2.1 j).1 (q.2.1 j).2.1 (q.2.1 j).2.2.1 ∈ lw_good := by
  obtain ⟨e, h1, h2⟩ := List.mem_map.mp h
  have h3 := List.all_eq_true.mp FL_ok e h1
  obtain ⟨pl, o', idx', ci', j'⟩ := e
  cases h2
  cases hc : classes[ci]? with
  | none => simp only [hc] at h3; cases h3
  | some q =>
    simp only [hc, Bool.and_eq_true, decide_eq_true_eq] at h3
    exact ⟨q, rfl, h3.2, lw_at _ h3.1 rfl⟩
theorem KL_ok : KLP.all (fun e => decide (lw_tbl[e.1]? = some (Cond.constant (ON e.2.1) e.2.2.1 (Int32.ofInt e.2.2.2)))) = true := by decide +kernel
theorem KL_get {o idx : Nat} {x : Int} (h : (o, idx, x) ∈ KL) : Cond.constant (ON o) idx (Int32.ofInt x) ∈ lw_good := by
  obtain ⟨e, h1, h2⟩ := List.mem_map.mp h
  have h3 := List.all_eq_true.mp KL_ok e h1
  obtain ⟨pl, o', idx', x'⟩ := e
  cases h2
  exact lw_at _ (of_decide_eq_true h3) rfl
theorem KJ_ok : KJP.all (fun e => decide (lw_tbl[e.1]? = some (Cond.constantLong (ON e.2.1) e.2.2.1 (Int64.ofInt e.2.2.2)))) = true := by decide +kernel
theorem KJ_get {o idx : Nat} {x : Int} (h : (o, idx, x) ∈ KJ) : Cond.constantLong (ON o) idx (Int64.ofInt x) ∈ lw_good := by
  obtain ⟨e, h1, h2⟩ := List.mem_map.mp h
  have h3 := List.all_eq_true.mp KJ_ok e h1
  obtain ⟨pl, o', idx', x'⟩ := e
  cases h2
  exact lw_at _ (of_decide_eq_true h3) rfl
theorem CL_ok : CLP.all (fun e => match classes[e.2.2.2]? with
  | some q => decide (lw_tbl[e.1]? = some (Cond.classLink (ON e.2.1) e.2.2.1 q.1))
  | none => false) = true := by decide +kernel
theorem CL_get {o idx ci : Nat} (h : (o, idx, ci) ∈ CL) : ∃ q, classes[ci]? = some q ∧ Cond.classLink (ON o) idx q.1 ∈ lw_good := by
  obtain ⟨e, h1, h2⟩ := List.mem_map.mp h
  have h3 := List.all_eq_true.mp CL_ok e h1
  obtain ⟨pl, o', idx', ci'⟩ := e
  cases h2
  cases hc : classes[ci]? with
  | none => simp only [hc] at h3; cases h3
  | some q =>
    simp only [hc, decide_eq_true_eq] at h3
    exact ⟨q, rfl, lw_at _ h3 rfl⟩
theorem OL_ok : OLP.all (fun e => decide (lw_tbl[e.1]? = some (Cond.methodLink (ON e.2.1) e.2.2 Lib.objectInit))) = true := by decide +kernel
theorem OL_get {o idx : Nat} (h : (o, idx) ∈ OL) : Cond.methodLink (ON o) idx Lib.objectInit ∈ lw_good := by
  obtain ⟨e, h1, h2⟩ := List.mem_map.mp h
  have h3 := List.all_eq_true.mp OL_ok e h1
  obtain ⟨pl, o', idx'⟩ := e
  cases h2
  exact lw_at _ (of_decide_eq_true h3) rfl
def mathN (k : Nat) : MethodName := match k with
  | 23 => Lib.Math.max.name
  | 24 => Lib.Math.min.name
  | _ => Lib.Math.abs.name
theorem XL_ok : XLP.all (fun e => decide (lw_tbl[e.1]? = some (Cond.methodLink (ON e.2.1) e.2.2.1 (mathN e.2.2.2)))) = true := by decide +kernel
theorem XL_get {o idx k : Nat} (h : (o, idx, k) ∈ XL) : Cond.methodLink (ON o) idx (mathN k) ∈ lw_good := by
  obtain ⟨e, h1, h2⟩ := List.mem_map.mp h
  have h3 := List.all_eq_true.mp XL_ok e h1
  obtain ⟨pl, o', idx', k'⟩ := e
  cases h2
  exact lw_at _ (of_decide_eq_true h3) rfl
theorem AL_ok : ALP.all (fun e => decide (lw_tbl[e.1]? = some (Cond.methodLink (ON e.2.1) e.2.2 arraycopyName))) = true := by decide +kernel
theorem AL_get {o idx : Nat} (h : (o, idx) ∈ AL) : Cond.methodLink (ON o) idx arraycopyName ∈ lw_good := by
  obtain ⟨e, h1, h2⟩ := List.mem_map.mp h
  have h3 := List.all_eq_true.mp AL_ok e h1
  obtain ⟨pl, o', idx'⟩ := e
  cases h2
  exact lw_at _ (of_decide_eq_true h3) rfl
theorem SL_ok : SLP.all (fun e => decide (lw_tbl[e.1]? = some (Cond.fieldLink (ON e.2.1) e.2.2 "FetchOrder" "AS_TOLD" "[I"))) = true := by decide +kernel
theorem SL_get {o idx : Nat} (h : (o, idx) ∈ SL) : Cond.fieldLink (ON o) idx "FetchOrder" "AS_TOLD" "[I" ∈ lw_good := by
  obtain ⟨e, h1, h2⟩ := List.mem_map.mp h
  have h3 := List.all_eq_true.mp SL_ok e h1
  obtain ⟨pl, o', idx'⟩ := e
  cases h2
  exact lw_at _ (of_decide_eq_true h3) rfl
theorem wd_oi : Cond.instanceMethod Lib.objectInit ∈ lw_good := lw_at 186 (by decide +kernel) rfl
theorem wd_oc : Cond.code Lib.objectInit ⟨#[0xb1]⟩ 1 none ∈ lw_good := lw_at 187 (by decide +kernel) rfl
theorem wd_mi : Cond.initialized "java/lang/Math" ∈ lw_good := lw_at 178 (by decide +kernel) rfl
theorem wd_maxs : Cond.static Lib.Math.max.name ∈ lw_good := lw_at 1023 (by decide +kernel) rfl
theorem wd_maxc : Cond.code Lib.Math.max.name Lib.Math.max.code 2 (some .int) ∈ lw_good := lw_at 1024 (by decide +kernel) rfl
theorem wd_mins : Cond.static Lib.Math.min.name ∈ lw_good := lw_at 761 (by decide +kernel) rfl
theorem wd_minc : Cond.code Lib.Math.min.name Lib.Math.min.code 2 (some .int) ∈ lw_good := lw_at 762 (by decide +kernel) rfl
theorem wd_abss : Cond.static Lib.Math.abs.name ∈ lw_good := lw_at 1132 (by decide +kernel) rfl
theorem wd_absc : Cond.code Lib.Math.abs.name Lib.Math.abs.code 1 (some .int) ∈ lw_good := lw_at 1133 (by decide +kernel) rfl
theorem wd_acs : Cond.static arraycopyName ∈ lw_good := lw_at 888 (by decide +kernel) rfl
theorem wd_acn : Cond.native arraycopyName ∈ lw_good := lw_at 889 (by decide +kernel) rfl
theorem wd_aci : Cond.initialized "java/lang/System" ∈ lw_good := lw_at 179 (by decide +kernel) rfl
theorem wd_ai : Cond.arrayClass .int ∈ lw_good := lw_at 327 (by decide +kernel) rfl
theorem wd_az : Cond.arrayClass .boolean ∈ lw_good := lw_at 364 (by decide +kernel) rfl
theorem wd_ab : Cond.arrayClass .byte ∈ lw_good := lw_at 326 (by decide +kernel) rfl
theorem wd_al : Cond.arrayClass .long ∈ lw_good := lw_at 1617 (by decide +kernel) rfl
theorem cl_ok : ∀ (ci : Nat) (q : vw_C), classes[ci]? = some q → (∀ w ∈ u_ws q.1 q.2.1 q.2.2, w ∈ lw_good) ∧ (∀ k, k < q.2.2 → parseFieldDescriptor (q.2.1 k).2.2.1 = some (tyAt ci k)) ∧ (∀ k, k < q.2.2 → fok (q.2.1 k).2.2.1 (tyAt ci k) = true) ∧ (∀ a, a < q.2.2 → ∀ b, b < q.2.2 → a ≠ b → (q.2.1 a).2.1 ≠ (q.2.1 b).2.1) ∧ Cond.instantiable q.1 q.2.2 ∈ lw_good ∧ Cond.initialized q.1 ∈ lw_good := by
  have lay : ∀ (C : String) (T : u_T) (N : Nat) (ps : List Nat), u_ws C T N = ps.filterMap (fun i => lw_tbl[i]?) → ∀ w ∈ u_ws C T N, w ∈ lw_good := by
    intro C T N ps h w hw
    have hg : goodWord w = true := by
      obtain ⟨k, -, rfl⟩ := List.mem_map.mp hw
      unfold u_lay
      split <;> rfl
    rw [h] at hw
    obtain ⟨i, -, hi⟩ := List.mem_filterMap.mp hw
    exact lw_at i hi hg
  intro ci q hq
  match ci, hq with
  | 0, hq => cases hq; exact ⟨lay _ _ _ _ clw0, fun k hk => (clt0 k hk).1, fun k hk => (clt0 k hk).2, cln0, lw_at _ cli0.1 rfl, lw_at _ cli0.2 rfl⟩
  | 1, hq => cases hq; exact ⟨lay _ _ _ _ clw1, fun k hk => (clt1 k hk).1, fun k hk => (clt1 k hk).2, cln1, lw_at _ cli1.1 rfl, lw_at _ cli1.2 rfl⟩
  | 2, hq => cases hq; exact ⟨lay _ _ _ _ clw2, fun k hk => (clt2 k hk).1, fun k hk => (clt2 k hk).2, cln2, lw_at _ cli2.1 rfl, lw_at _ cli2.2 rfl⟩
  | 3, hq => cases hq; exact ⟨lay _ _ _ _ clw3, fun k hk => (clt3 k hk).1, fun k hk => (clt3 k hk).2, cln3, lw_at _ cli3.1 rfl, lw_at _ cli3.2 rfl⟩
  | 4, hq => cases hq; exact ⟨lay _ _ _ _ clw4, fun k hk => (clt4 k hk).1, fun k hk => (clt4 k hk).2, cln4, lw_at _ cli4.1 rfl, lw_at _ cli4.2 rfl⟩
  | 5, hq => cases hq; exact ⟨lay _ _ _ _ clw5, fun k hk => (clt5 k hk).1, fun k hk => (clt5 k hk).2, cln5, lw_at _ cli5.1 rfl, lw_at _ cli5.2 rfl⟩
  | 6, hq => cases hq; exact ⟨lay _ _ _ _ clw6, fun k hk => (clt6 k hk).1, fun k hk => (clt6 k hk).2, cln6, lw_at _ cli6.1 rfl, lw_at _ cli6.2 rfl⟩
  | 7, hq => cases hq; exact ⟨lay _ _ _ _ clw7, fun k hk => (clt7 k hk).1, fun k hk => (clt7 k hk).2, cln7, lw_at _ cli7.1 rfl, lw_at _ cli7.2 rfl⟩
  | 8, hq => cases hq; exact ⟨lay _ _ _ _ clw8, fun k hk => (clt8 k hk).1, fun k hk => (clt8 k hk).2, cln8, lw_at _ cli8.1 rfl, lw_at _ cli8.2 rfl⟩
  | 9, hq => cases hq; exact ⟨lay _ _ _ _ clw9, fun k hk => (clt9 k hk).1, fun k hk => (clt9 k hk).2, cln9, lw_at _ cli9.1 rfl, lw_at _ cli9.2 rfl⟩
  | 10, hq => cases hq; exact ⟨lay _ _ _ _ clw10, fun k hk => (clt10 k hk).1, fun k hk => (clt10 k hk).2, cln10, lw_at _ cli10.1 rfl, lw_at _ cli10.2 rfl⟩
  | 11, hq => cases hq; exact ⟨lay _ _ _ _ clw11, fun k hk => (clt11 k hk).1, fun k hk => (clt11 k hk).2, cln11, lw_at _ cli11.1 rfl, lw_at _ cli11.2 rfl⟩
  | 12, hq => cases hq; exact ⟨lay _ _ _ _ clw12, fun k hk => (clt12 k hk).1, fun k hk => (clt12 k hk).2, cln12, lw_at _ cli12.1 rfl, lw_at _ cli12.2 rfl⟩
  | n + 13, hq => simp [classes] at hq
