/-! ===== calls ===== -/
def rmD (d mc ms : Nat) : Room := { frames := d, cells := mc, slots := ms, locals := 64 * d }
/-- what a contract's start says of the state: the cells as the abstract state has them, the two arrays that are only read, the words that are not good -/
def PcB (dC : Nat → ClassId) (dI : Nat → Nat → Nat) (b t Ln : Nat) (xs : Nat → Int32) (ws : va_W) (tys : List (ClassId × FieldType)) (sz : Nat) (U : State) : Prop :=
  U.heap.size = sz ∧ va_P (dC, dI) classes ws U.heap ∧ va_K (dC, dI) classes tys U ∧ va_D (fun _ => True) ws ∧ (va_X b Ln xs U U.heap ∧ b < sz ∧ ∀ (k : Nat) (q : Nat × va_E), ws[k]? = some q → q.1 ≠ b) ∧ va_T .int t 8 (fun j => .int (nI j)) (va_A ws sz) U U.heap ∧ va_Z "FetchOrder" "AS_TOLD" "[I" (.ref t) (va_A ws sz) U U.heap ∧ (∀ w ∈ nestW, va_Nw w U) ∧ va_AO RC4 U ∧ va_AO RC7 U
def outR (ad : Nat → Nat) (n : Nat) (r : Option AV) (o : Outcome) : Prop := match r with
  | none => o = .returned none
  | some a => ∃ v, o = .returned (some v) ∧ rvl ad n a v
def QcB (dC : Nat → ClassId) (dI : Nat → Nat → Nat) (b t Ln : Nat) (xs : Nat → Int32) (ws : va_W) (sz : Nat) (n : Nat) (res : RES) : Array Value → State → Outcome → State → Prop := fun _ st o u =>
  (∃ (ws1 : va_W) (tys1 : List (ClassId × FieldType)), outR (adr b t ws1) res.2.1.length res.1 o ∧ Rel b t Ln xs ws1 tys1 res.2.1 res.2.2 ∧ (∀ k, k < n → adr b t ws1 k = adr b t ws k) ∧ va_P (dC, dI) classes ws1 u.heap ∧ va_K (dC, dI) classes tys1 u ∧ va_D (va_A ws sz) ws1) ∧ va_F (va_A ws sz) st u
theorem nest_tab : ∀ w ∈ nestW, ∃ (a : String) (i : Nat) (x : MethodName) (h : String), w = .methodLinkNest a i x h := by
  intro w hw
  unfold nestW at hw
  obtain ⟨e, -, he⟩ := List.mem_filterMap.mp hw
  split at he
  · cases he; exact ⟨_, _, _, _, rfl⟩
  · cases he
theorem nest_warm {s U : State} (hW : s.WarmedH U.vm) (h : ∀ w ∈ nestW, va_Nw w s) : ∀ w ∈ nestW, va_Nw w U := by
  intro w hw
  obtain ⟨a, i, x, hh, rfl⟩ := nest_tab w hw
  exact va_Nw.warmM hW (h _ hw)
theorem nest_same {s U : State} (hvm : s.vm = U.vm) (h : ∀ w ∈ nestW, va_Nw w s) : ∀ w ∈ nestW, va_Nw w U := by
  intro w hw
  obtain ⟨a, i, x, hh, rfl⟩ := nest_tab w hw
  exact va_Nw.same rfl hvm (h _ hw)
theorem PcB.blind {dC : Nat → ClassId} {dI : Nat → Nat → Nat} {b t Ln : Nat} {xs : Nat → Int32} {ws : va_W} {tys : List (ClassId × FieldType)} {sz : Nat} {vs : List Value} : FrameBlind (va_Pc vs (PcB dC dI b t Ln xs ws tys sz)) := by
  intro a U g mk h
  obtain ⟨h0, h1, h2, h3, h4, ⟨h5, h5a⟩, h6, h7, h8, h9, h10⟩ := h
  exact ⟨h0, h1, h2, va_K.moved (u := U) (U := U.calling g mk a) (Vm.Alike.refl U.vm) h3, h4, ⟨va_X.moved (u := U) (U := U.calling g mk a) (Vm.Alike.refl U.vm) h5, h5a⟩, va_T.moved (u := U) (U := U.calling g mk a) (Vm.Alike.refl U.vm) h6, va_Z.moved (u := U) (U := U.calling g mk a) (Vm.Alike.refl U.vm) h7, nest_same (s := U) (U := U.calling g mk a) rfl h8, va_AO.moved (u := U) (U := U.calling g mk a) (Vm.Alike.refl U.vm) h9, va_AO.moved (u := U) (U := U.calling g mk a) (Vm.Alike.refl U.vm) h10⟩
