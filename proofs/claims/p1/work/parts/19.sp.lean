/-! ===== the whole of a method ===== -/
section SoP
variable {p : Program} {l : Launch} {e : Env} {R : Room} {s : State} {m : MethodId} {args : Array Value} {below : List Frame} {meth : Method} {c : Code} {Q : State → Prop} {cc : ByteArray} {nL o : Nat} {ini : Bool} {A : Nat → Prop} {dC : Nat → ClassId} {dI : Nat → Nat → Nat} {b t Ln : Nat} {xs : Nat → Int32} {d n0 s0 : Nat} {adq : Nat → Nat} {res : RES} {mt : List (List (Nat × INS) × Nat)} {n rk : Nat} {code : List (Nat × INS)}
/-- how a body ends -/
def REnd (p : Program) (l : Launch) (e : Env) (R : Room) (s : State) (m : MethodId) (args : Array Value) (below : List Frame) (meth : Method) (c : Code) (Q : State → Prop) (cc : ByteArray) (A : Nat → Prop) (dC : Nat → ClassId) (dI : Nat → Nat → Nat) (b t Ln : Nat) (xs : Nat → Int32) (n0 s0 : Nat) (adq : Nat → Nat) (res : RES) (rk : Nat) : Prop :=
  ∀ (pc : Nat) (ls : Array Slot) (st : List Value) (ws : va_W) (tys : List (ClassId × FieldType)) (H : Heap) (locs : List Loc),
    (rk = 0 ∧ res.1 = none ∧ st = [] ∧ decode cc pc = .ok (.return_, 1)) ∨ ((rk = 1 ∨ rk = 2) ∧ ∃ i : Int32, res.1 = some (.inl i.toInt) ∧ st = [.int i] ∧ decode cc pc = .ok (.ireturn, 1) ∧ (rk = 2 → i.toInt = 0 ∨ i.toInt = 1)) →
    Rel b t Ln xs ws tys res.2.1 res.2.2 → va_K (dC, dI) classes tys s → va_P (dC, dI) classes ws H → va_D A ws → va_S A s.heap H locs → n0 ≤ res.2.1.length → s0 ≤ slo res.2.1 → (∀ k, k < n0 → adr b t ws k = adq k) →
    W p l e R s m args below meth c H locs (res.2.1.length - n0) (slo res.2.1 - s0) Q (F0 m pc ls st)
theorem fnd_mem : ∀ {code : List (Nat × INS)} {pc : Nat} {i : INS}, fnd code pc = some i → (pc, i) ∈ code
  | [], _, _, h => by cases h
  | (k, j) :: t, pc, i, h => by
    unfold fnd at h
    cases hk : (k == pc) with
    | true =>
      rw [hk] at h
      cases h
      rw [eq_of_beq hk]
      exact List.mem_cons_self
    | false =>
      rw [hk] at h
      exact List.mem_cons_of_mem _ (fnd_mem h)
theorem runSound (C : CXT p s m args meth c R cc nL o ini A b t Ln xs d n0 s0 res) (hMA : MetA mt n d l) (hcode : ∀ row ∈ code, chk cc o ini rk row = true) (HE : REnd p l e R s m args below meth c Q cc A dC dI b t Ln xs n0 s0 adq res rk) :
    ∀ f : Nat, KW p l e R s m args below meth c Q A dC dI b t Ln xs nL n0 s0 adq res (run (evC mt n d) code f) := by
  intro f
  induction f with
  | zero => intro pc L S sh D h; cases h
  | succ f ih =>
    intro pc L S sh D h ls st ws tys H locs G
    unfold run at h
    split at h
    · cases h
    · rename_i i hi
      have hmk : ∀ pc L S σ, run (evC mt n d) code f pc L S σ = some res → σ.1.length ≤ res.2.1.length ∧ slo σ.1 ≤ slo res.2.1 := fun pc L S σ h => run_mono (fun q A σ x h => evC_mono d q A σ x h) f pc L S σ h
      have hm : sh.length ≤ res.2.1.length ∧ slo sh ≤ slo res.2.1 := step_mono (fun q A σ x h => evC_mono d q A σ x h) (fun pc L S σ h => hmk pc L S σ h) h
      obtain ⟨hX, ins, hI, hD⟩ := chk_dec (hcode _ (fnd_mem hi))
      obtain ⟨op, len, a, b', c', ex⟩ := i
      have hD : decode cc pc = .ok (ins, len) := hD
      match op, h, hX, hI with
      | 0, h, hX, hI => exact ss_0 C ih hmk hMA hX hI hD hm h G
      | 1, h, hX, hI => exact ss_1 C ih hmk hMA hX hI hD hm h G
      | 2, h, hX, hI => exact ss_2 C ih hmk hMA hX hI hD hm h G
      | 3, h, hX, hI => exact ss_3 C ih hmk hMA hX hI hD hm h G
      | 4, h, hX, hI => exact ss_4 C ih hmk hMA hX hI hD hm h G
      | 5, h, hX, hI => exact ss_5 C ih hmk hMA hX hI hD hm h G
      | 7, h, hX, hI => exact ss_7 C ih hmk hMA hX hI hD hm h G
      | 8, h, hX, hI => exact ss_8 C ih hmk hMA hX hI hD hm h G
      | 9, h, hX, hI => exact ss_9 C ih hmk hMA hX hI hD hm h G
      | 10, h, hX, hI => exact ss_10 C ih hmk hMA hX hI hD hm h G
      | 11, h, hX, hI => exact ss_11 C ih hmk hMA hX hI hD hm h G
      | 12, h, hX, hI => exact ss_12 C ih hmk hMA hX hI hD hm h G
      | 13, h, hX, hI => exact ss_13 C ih hmk hMA hX hI hD hm h G
      | 14, h, hX, hI => exact ss_14 C ih hmk hMA hX hI hD hm h G
      | 16, h, hX, hI => exact ss_16 C ih hmk hMA hX hI hD hm h G
      | 17, h, hX, hI => exact ss_17 C ih hmk hMA hX hI hD hm h G
      | 18, h, hX, hI => exact ss_18 C ih hmk hMA hX hI hD hm h G
      | 19, h, hX, hI => exact ss_19 C ih hmk hMA hX hI hD hm h G
      | 20, h, hX, hI => exact ss_20 C ih hmk hMA hX hI hD hm h G
      | 21, h, hX, hI => exact ss_21 C ih hmk hMA hX hI hD hm h G
      | 22, h, hX, hI => exact ss_22 C ih hmk hMA hX hI hD hm h G
      | 23, h, hX, hI => exact ss_23 C ih hmk hMA hX hI hD hm h G
      | 24, h, hX, hI => exact ss_24 C ih hmk hMA hX hI hD hm h G
      | 25, h, hX, hI => exact ss_25 C ih hmk hMA hX hI hD hm h G
      | 26, h, hX, hI => exact ss_26 C ih hmk hMA hX hI hD hm h G
      | 27, h, hX, hI => exact ss_27 C ih hmk hMA hX hI hD hm h G
      | 28, h, hX, hI => exact ss_28 C ih hmk hMA hX hI hD hm h G
      | 29, h, hX, hI => exact ss_29 C ih hmk hMA hX hI hD hm h G
      | 30, h, hX, hI => exact ss_30 C ih hmk hMA hX hI hD hm h G
      | 31, h, hX, hI => exact ss_31 C ih hmk hMA hX hI hD hm h G
      | 32, h, hX, hI => exact ss_32 C ih hmk hMA hX hI hD hm h G
      | 33, h, hX, hI => exact ss_33 C ih hmk hMA hX hI hD hm h G
      | 34, h, hX, hI => exact ss_34 C ih hmk hMA hX hI hD hm h G
      | 35, h, hX, hI => exact ss_35 C ih hmk hMA hX hI hD hm h G
      | 36, h, hX, hI => exact ss_36 C ih hmk hMA hX hI hD hm h G
      | 37, h, hX, hI => exact ss_37 C ih hmk hMA hX hI hD hm h G
      | 38, h, hX, hI => exact ss_38 C ih hmk hMA hX hI hD hm h G
      | 39, h, hX, hI => exact ss_39 C ih hmk hMA hX hI hD hm h G
      | 40, h, hX, hI => exact ss_40 C ih hmk hMA hX hI hD hm h G
      | 41, h, hX, hI => exact ss_41 C ih hmk hMA hX hI hD hm h G
      | 42, h, hX, hI => exact ss_42 C ih hmk hMA hX hI hD hm h G
      | 43, h, hX, hI => exact ss_43 C ih hmk hMA hX hI hD hm h G
      | 44, h, hX, hI => exact ss_44 C ih hmk hMA hX hI hD hm h G
      | 45, h, hX, hI => exact ss_45 C ih hmk hMA hX hI hD hm h G
      | 46, h, hX, hI => exact ss_46 C ih hmk hMA hX hI hD hm h G
      | 47, h, hX, hI => exact ss_47 C ih hmk hMA hX hI hD hm h G
      | 48, h, hX, hI => exact ss_48 C ih hmk hMA hX hI hD hm h G
      | 49, h, hX, hI => exact ss_49 C ih hmk hMA hX hI hD hm h G
      | 50, h, hX, hI => exact ss_50 C ih hmk hMA hX hI hD hm h G
      | 51, h, hX, hI => exact ss_51 C ih hmk hMA hX hI hD hm h G
      | 52, h, hX, hI => exact ss_52 C ih hmk hMA hX hI hD hm h G
      | 53, h, hX, hI => exact ss_53 C ih hmk hMA hX hI hD hm h G
      | 54, h, hX, hI => exact ss_54 C ih hmk hMA hX hI hD hm h G
      | 55, h, hX, hI => exact ss_55 C ih hmk hMA hX hI hD hm h G
      | 56, h, hX, hI => exact ss_56 C ih hmk hMA hX hI hD hm h G
      | 6, h, hX, hI =>
        have hI := Option.some.inj hI
        subst hI
        have hX2 : (len == 1 && (rk == 1 && c' == 0 || rk == 2 && c' == 1)) = true := hX
        clear hX
        simp only [Bool.and_eq_true, Bool.or_eq_true, beq_iff_eq] at hX2
        obtain ⟨rfl, hX3⟩ := hX2
        simp only [stepI] at h
        split at h
        · rename_i x hold
          clear hold
          obtain ⟨gl, gs, g1, g2, g3, g4, g5, g6, g7, g8⟩ := G
          obtain ⟨i, st, rfl, hi', gs1⟩ := rvs_int gs
          have hst := rvs_nil gs1
          subst hst
          rcases hX3 with ⟨hr, rfl⟩ | ⟨hr, rfl⟩
          · cases h
            exact HE _ _ _ _ _ _ _ (Or.inr ⟨Or.inl hr, i, by rw [hi'], rfl, hD, fun h2 => by omega⟩) g1 g2 g3 g4 g5 g6 g7 g8
          · obtain ⟨x', hx', h⟩ := bnd (show (abit x).bind (fun x => some (some (.inl x), (sh, D))) = some res from h)
            cases h
            unfold abit at hx'
            obtain ⟨h01, hx'⟩ := ite_some hx'
            have hx' := Option.some.inj hx'
            subst hx'
            exact HE _ _ _ _ _ _ _ (Or.inr ⟨Or.inr hr, i, by rw [hi'], rfl, hD, fun _ => by rw [hi']; exact h01⟩) g1 g2 g3 g4 g5 g6 g7 g8
        · cases h
      | 15, h, hX, hI =>
        have hI := Option.some.inj hI
        subst hI
        have hX2 : (len == 1 && rk == 0) = true := hX
        clear hX
        simp only [Bool.and_eq_true, beq_iff_eq] at hX2
        obtain ⟨rfl, hX3⟩ := hX2
        simp only [stepI] at h
        split at h
        · obtain ⟨gl, gs, g1, g2, g3, g4, g5, g6, g7, g8⟩ := G
          have hst := rvs_nil gs
          subst hst
          cases h
          exact HE _ _ _ _ _ _ _ (Or.inl ⟨hX3, rfl, rfl, hD⟩) g1 g2 g3 g4 g5 g6 g7 g8
        · cases h
      | _ + 57, h, hX, hI => cases h
end SoP
theorem lg_sl_noL {ad : Nat → Nat} {n : Nat} : ∀ {AA : List AV} {vs : List Value}, noL AA = true → rvs ad n AA vs → lg_sl vs = vs.map Slot.val ∧ ∀ i : Nat, ∀ (j : Nat) (v : Value), vs[j]? = some v → (i + j, v) ∈ lv_args i vs
  | [], [], _, _ => ⟨rfl, fun i j v h => by simp at h⟩
  | [], _ :: _, _, h => h.elim
  | _ :: _, [], _, h => h.elim
  | a :: AA, v :: vs, hn, h => by
    have hcat : v.category = 1 ∧ noL AA = true := by
      match a, hn, h with
      | .inl x, hn, ⟨⟨i, e, _⟩, _⟩ => rw [e]; exact ⟨rfl, hn⟩
      | .inr (.inl x), hn, _ => cases hn
      | .inr (.inr k), hn, ⟨⟨_, e⟩, _⟩ => rw [e]; exact ⟨rfl, hn⟩
    obtain ⟨h1, h2⟩ := lg_sl_noL hcat.2 h.2
    refine ⟨?_, fun i j w hj => ?_⟩
    · unfold lg_sl at h1 ⊢
      rw [List.flatMap_cons, h1, if_neg (by omega)]
      rfl
    · unfold lv_args
      rw [if_neg (by omega)]
      cases j with
      | zero =>
        rw [List.getElem?_cons_zero] at hj
        cases hj
        exact List.mem_cons_self
      | succ j =>
        rw [List.getElem?_cons_succ] at hj
        have := h2 (i + 1) j w hj
        rw [show i + (j + 1) = i + 1 + j by omega]
        exact List.mem_cons_of_mem _ this
theorem rlo_entry {ad : Nat → Nat} {n ml : Nat} {AA : List AV} {vs : List Value} (hn : noL AA = true) (h : rvs ad n AA vs) (hl : AA.length ≤ ml) : rlo ad n ml (AA.map some ++ List.replicate (ml - AA.length) none) ((lg_sl vs ++ List.replicate (ml - (lg_sl vs).length) Slot.unset).toArray) := by
  obtain ⟨h1, h2⟩ := lg_sl_noL hn h
  have hlen := rvs_len h
  have hlv : (lg_sl vs).length = AA.length := by rw [h1, List.length_map, hlen]
  refine ⟨by rw [List.length_append, List.length_map, List.length_replicate]; omega, _, lv_entry vs (by omega), fun i a hi => ?_⟩
  have hia : i < AA.length := by
    by_cases hia : i < AA.length
    · exact hia
    · rw [List.getElem?_append_right (by rw [List.length_map]; omega)] at hi
      have := List.mem_of_getElem? hi
      rw [List.mem_replicate] at this
      cases this.2
  rw [List.getElem?_append_left (by rw [List.length_map]; exact hia), List.getElem?_map] at hi
  have ha : AA[i]? = some a := by
    cases hz : AA[i]? with
    | none => rw [hz] at hi; cases hi
    | some z => rw [hz] at hi; cases hi; rfl
  have key : ∀ {AA : List AV} {vs : List Value} {i : Nat} {a : AV}, rvs ad n AA vs → AA[i]? = some a → ∃ v, vs[i]? = some v ∧ rvl ad n a v := by
    intro AA
    induction AA with
    | nil => intro vs i a _ h; simp at h
    | cons z AA ih =>
      intro vs i a h hi
      obtain ⟨v, vs', rfl, h1, h2⟩ := rvs_cons h
      cases i with
      | zero => rw [List.getElem?_cons_zero] at hi; cases hi; exact ⟨v, rfl, h1⟩
      | succ i => rw [List.getElem?_cons_succ] at hi; obtain ⟨w, h3, h4⟩ := ih h2 hi; exact ⟨w, by rw [List.getElem?_cons_succ]; exact h3, h4⟩
  obtain ⟨v, hv, hr⟩ := key h ha
  refine ⟨v, ?_, hr⟩
  have := h2 0 i v hv
  rw [Nat.zero_add] at this
  exact this
def rkOf (ret : Option FieldType) : Nat := match ret with
  | none => 0
  | some .boolean => 2
  | _ => 1
/-- the rows of every method are its bytes' -/
def RowsOK (mt : List (List (Nat × INS) × Nat)) : Prop := ∀ (q : Nat) (code : List (Nat × INS)) (ml' : Nat), mt[q]? = some (code, ml') → ∃ (y : MethodName) (bytes : ByteArray) (ml : Nat) (ret : Option FieldType) (ci kind z1 z2 z3 np : Nat), ptab[q]? = some (y, bytes, ml, ret, ci, kind, z1, z2, z3, np) ∧ ml' = ml ∧ ∀ row ∈ code, chk bytes ci (kind == 1) (rkOf ret) row = true
theorem metA {mt : List (List (Nat × INS) × Nat)} (hrows : RowsOK mt) (n : Nat) (l : Launch) : ∀ d : Nat, MetA mt n d l := by
  intro d
  induction d with
  | zero => intro q AA sh D res h; cases h
  | succ d ih =>
    intro q AA sh D res h y bytes ml ret ci kind z1 z2 z3 np hpt hAl hnoL dC dI b t Ln xs ws tys sz vs g1 gvs
    unfold evC at h
    split at h
    · cases h
    · rename_i cd hcd
      obtain ⟨code, ml'⟩ := cd
      obtain ⟨y', bytes', ml2, ret', ci', kind', z1', z2', z3', np', hpt', hml, hcode⟩ := hrows q code ml' hcd
      cases hpt.symm.trans hpt'
      subst hml
      have h : run (evC mt n d) code n 0 (AA.map some ++ List.replicate (ml' - AA.length) none) [] (sh, D) = some res := h
      have hmon : MON (sh, D) res.2 := run_mono (fun q A σ x h => evC_mono d q A σ x h) _ _ _ _ _ h
      obtain ⟨hm1, hm2⟩ : sh.length ≤ res.2.1.length ∧ slo sh ≤ slo res.2.1 := hmon
      obtain ⟨p1, p2, p3, p4, p5, p6, p7, p8, p9, p10⟩ := pm_get hpt
      refine Met.ofW (cc := bytes) (maxL := ml') (ret := ret) p4 rfl ?_
      intro p e s m args below meth c s₁ B hml hv
      obtain ⟨rfl, hsz, hP, hK, hD0, ⟨hX, hbl, hbn⟩, hT, hZ, hN, hO1, hO2⟩ := hv
      subst hsz
      have hts := atoms_spec (ws := wsQ y bytes ml' ret) B.pre
      have hown : s.vm.findClass (ON ci) = some m.cls := by rw [← p2]; exact findClass_of_methodNamed B.named
      have hD := hD0.self (sz := s.heap.size)
      have hnA : ∀ z : Nat, z < s.heap.size → (∀ (k : Nat) (q : Nat × va_E), ws[k]? = some q → q.1 ≠ z) → ¬ va_A ws s.heap.size z := by
        intro z hz hne hA
        rcases hA with ⟨k, e, hk⟩ | hA
        · exact hne k _ hk rfl
        · omega
      have hA : ∀ q : Nat, s.heap.size ≤ q → va_A ws s.heap.size q := fun q h => Or.inr h
      have C : CXT p s m vs.toArray meth c (rmD (d + 1) (res.2.1.length - sh.length) (slo res.2.1 - slo sh)) bytes ml' ci (kind == 1) (va_A ws s.heap.size) b t Ln xs d sh.length (slo sh) res :=
        ⟨B.exec, B.bytes, hml, hown, fun w hw => hts w (List.mem_cons_of_mem _ hw), hA, ⟨hX, hbl, hnA b hbl hbn⟩, hT, hZ, hN, ⟨hO1, hO2⟩, ⟨Nat.le_refl _, Nat.le_refl _⟩, ⟨by show _ ≤ _ + (res.2.1.length - sh.length); omega, by show _ ≤ _ + (slo res.2.1 - slo sh); omega⟩, fun hk => by
          have hk : kind = 1 := eq_of_beq hk
          rw [(name_of_methodNamed B.named B.method).1]
          rcases p9 with ⟨h, _⟩ | ⟨_, _, h, _⟩ | ⟨h, _⟩
          · omega
          · exact h
          · omega⟩
      rw [lg_entry_eq]
      have hr := B.returns
      have hlocks := B.notSynchronized
      have HE : REnd p l e (rmD (d + 1) (res.2.1.length - sh.length) (slo res.2.1 - slo sh)) s m vs.toArray below meth c (MQ below (QcB dC dI b t Ln xs ws s.heap.size sh.length res) vs.toArray s (res.2.1.length - sh.length) (slo res.2.1 - slo sh) (va_A ws s.heap.size)) bytes (va_A ws s.heap.size) dC dI b t Ln xs sh.length (slo sh) (adr b t ws) res (rkOf ret) := by
        intro pc ls st ws1 tys1 H locs hst q1 q2 q3 q4 q5 q6 q7 q8
        have fin : ∀ (o : Outcome) (u : State), outR (adr b t ws1) res.2.1.length res.1 o → u.heap = H → s.WarmedH u.vm → QcB dC dI b t Ln xs ws s.heap.size sh.length res vs.toArray s o u := by
          intro o u ho hu hW
          exact ⟨⟨ws1, tys1, ho, q1, q8, by rw [hu]; exact q3, va_K.moved hW.alike q2, q4⟩, q5.F hu⟩
        rcases hst with ⟨hrk, hres, rfl, hdg⟩ | ⟨hrk, i, hres, rfl, hdg, h01⟩
        · have hrn : ret = none := by
            rcases p10 with h | h | h
            · exact h
            · rw [h] at hrk; cases hrk
            · rw [h] at hrk; cases hrk
          exact W.vret B.exec B.bytes (hr.trans hrn) (fun u hu hW => fin _ u (by rw [hres]; rfl) hu hW) (fun q hq => q5.2.2 q hq) hdg hlocks
        · rcases p10 with hrn | hrn | hrn
          · rw [hrn] at hrk; rcases hrk with h | h <;> cases h
          · exact W.zret B.exec B.bytes (hr.trans hrn) rfl (fun u hu hW => fin _ u (by rw [hres]; exact ⟨_, rfl, i, rfl, rfl⟩) hu hW) (fun q hq => q5.2.2 q hq) hdg hlocks
          · refine W.zret B.exec B.bytes (hr.trans hrn) ?_ (fun u hu hW => fin _ u (by rw [hres]; exact ⟨_, rfl, i, rfl, rfl⟩) hu hW) (fun q hq => q5.2.2 q hq) hdg hlocks
            have hi01 : i = 0 ∨ i = 1 := by
              rcases h01 (by rw [hrn]; rfl) with h | h
              · left; rw [i32_eq, h]; rfl
              · right; rw [i32_eq, h]; rfl
            rcases hi01 with rfl | rfl <;> rfl
      have hlen : AA.length ≤ ml' := by
        rw [hAl]
        rcases p9 with ⟨rfl, _⟩ | ⟨rfl, _⟩ | ⟨rfl, _⟩
        · have := p7.1; exact this
        · have := p7.1; exact this
        · have : np + 1 ≤ ml' + 1 := p7.1
          show np + 0 ≤ ml'
          omega
      have hW := runSound C ih hcode HE n 0 _ _ sh D h _ [] ws tys s.heap [] ⟨rlo_entry hnoL gvs hlen, trivial, g1, hK, hP, hD, va_S.rf, Nat.le_refl _, Nat.le_refl _, fun _ _ => rfl⟩
      rw [Nat.sub_self, Nat.sub_self] at hW
      exact hW
