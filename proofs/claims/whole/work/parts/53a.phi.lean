/-! ===== FLOW, what was taken, HEAT: of a program alone ===== -/
theorem FlowOK.cg {P : PG} {m : List Nat} {φ ψ : Nat → Int} (h : FlowOK P m φ) (e : ∀ a ∈ m, ψ a = φ a) : FlowOK P m ψ := by
  refine ⟨fun a ha hn => by rw [e a ha]; exact h.1 a ha hn, fun k hk => ?_, fun a ha => by rw [e a ha]; exact h.2.2 a ha⟩
  rw [← h.2.1 k hk]
  exact ls_congr (fun a ha => by simp only [nt, e a ha])
theorem phi_ex {P : PG} (w : WF P) : ∃ φ : Nat → Int, ∀ f, f < P 0 0 → ∀ m, SLm P f m → FlowOK P m φ := by
  have h : ∀ f, ∃ φ : Nat → Int, ∀ m, SLm P f m → FlowOK P m φ := by
    intro f
    by_cases hx : ∃ m, SLm P f m
    · obtain ⟨m, hm⟩ := hx
      have hn := hm.nodup
      have hmr : m.reverse.Nodup := List.Nodup.perm hn (List.reverse_perm m).symm
      have hmem : ∀ a, a ∈ m.reverse → a < P 0 2 := fun a ha => ((hm.mem a).mp (List.mem_reverse.mp ha)).1
      obtain ⟨φ, h1, h2, h3⟩ := flow_exists (u := P 9) (v := P 10) (r := m.reverse) (cnt := fun a => ((P 11 a : Nat) : Int)) hmr (fun a ha => ⟨w.u41 (hmem a ha), w.v41 (hmem a ha)⟩) (fun a ha => by have := w.cnt a (hmem a ha); constructor <;> omega) (by rw [List.length_reverse]; exact hm.len w)
      refine ⟨φ, fun m' hm' => ?_⟩
      have e := hm'.det hm
      subst e
      refine ⟨fun a ha hn => h1 a (List.mem_reverse.mpr ha) hn, fun k hk => ?_, fun a ha => h3 a (List.mem_reverse.mpr ha)⟩
      rw [← ls_perm (List.reverse_perm m')]
      exact h2 k hk
    · exact ⟨fun _ => 0, fun m hm => absurd ⟨m, hm⟩ hx⟩
  refine ⟨fun a => (h (fn P a)).choose a, fun f hf m hm => ?_⟩
  refine ((h f).choose_spec m hm).cg (fun a ha => ?_)
  rw [((hm.mem a).mp ha).2]
noncomputable def phi (P : PG) : Nat → Int := @dite _ (∃ φ : Nat → Int, ∀ f, f < P 0 0 → ∀ m, SLm P f m → FlowOK P m φ) (Classical.propDecidable _) (fun h => h.choose) (fun _ _ => 0)
theorem phi_ok {P : PG} (w : WF P) : ∀ f, f < P 0 0 → ∀ m, SLm P f m → FlowOK P m (phi P) := by
  unfold phi
  rw [dif_pos (phi_ex w)]
  exact (phi_ex w).choose_spec
def tak (P : PG) (a : Nat) : Prop := ∃ m, SLm P (fn P a) m ∧ a ∈ tl (P 9) (P 10) m.reverse
noncomputable def heat (P : PG) (b : Nat) : Int := sg (fun a => if P 10 a = b then phi P a else 0) (P 0 2)
theorem tak_iff {P : PG} {f : Nat} {m : List Nat} (hm : SLm P f m) {a : Nat} (ha : a ∈ m) : tak P a ↔ a ∈ tl (P 9) (P 10) m.reverse := by
  have hf := ((hm.mem a).mp ha).2
  constructor
  · rintro ⟨m', h1, h2⟩
    rw [hf] at h1
    rw [hm.det h1]; exact h2
  · intro h
    exact ⟨m, by rw [hf]; exact hm, h⟩
/-- a sum over a function's arcs -/
theorem ls_fn {P : PG} {f : Nat} {m : List Nat} (hm : SLm P f m) {g : Nat → Int} : ls g m = sg (fun a => if fn P a = f then g a else 0) (P 0 2) := by
  rw [ls_all (n := P 0 2) (p := fun a => decide (fn P a = f)) hm.nodup (fun a => by rw [hm.mem a]; simp)]
  refine sg_congr (fun a _ => ?_)
  by_cases h : fn P a = f <;> simp [h]
theorem heat_ls {P : PG} (w : WF P) {f : Nat} {m : List Nat} (hm : SLm P f m) {b : Nat} (hb : b < P 0 1) (ho : P 4 b = f) : ls (fun a => if P 10 a = b then phi P a else 0) m = heat P b := by
  rw [ls_fn hm]
  unfold heat
  refine sg_congr (fun a ha => ?_)
  by_cases h : P 10 a = b
  · have h40 := w.b40
    have := (w.vo ha).resolve_left (by omega)
    rw [if_pos h, if_pos (by rw [← this.2, h, ho])]
  · rw [if_neg h]; simp
/-- as much comes to a block as goes from it -/
theorem phi_sum {P : PG} (w : WF P) (hex : ∀ f, f < P 0 0 → ∃ m, SLm P f m) {b : Nat} (hb : b < P 0 1) : sg (nt (P 9) (P 10) (phi P) b) (P 0 2) = 0 := by
  have h40 := w.b40
  obtain ⟨m, hm⟩ := hex (P 4 b) (w.own b hb)
  have := (phi_ok w _ (w.own b hb) m hm).2.1 b (by omega)
  rw [ls_fn hm] at this
  rw [← this]
  refine sg_congr (fun a ha => ?_)
  by_cases h : fn P a = P 4 b
  · rw [if_pos h]
  · rw [if_neg h]
    unfold nt
    rw [if_neg, if_neg]; · rfl
    · intro e
      have := ((w.uo ha).resolve_left (by omega)).2
      exact h (by rw [← this, e])
    · intro e
      have := ((w.vo ha).resolve_left (by omega)).2
      exact h (by rw [← this, e])
/-- the arcs of a function stand in order, always -/
def arl (P : PG) (f : Nat) : List Nat := (List.range (P 0 2)).filter (fun a => decide (fn P a = f))
theorem arl_ok {P : PG} {f : Nat} : ArL P f (arl P f) := by
  refine ⟨List.Pairwise.filter _ List.pairwise_lt_range, fun a => ?_⟩
  unfold arl
  rw [List.mem_filter, List.mem_range]; simp
/-- put in order one by one -/
def ins (rk : Nat → Nat) (key : Nat → Int) (x : Nat) : List Nat → List Nat
  | [] => [x]
  | y :: l => if key y < key x ∨ (key y = key x ∧ rk x < rk y) then x :: y :: l else y :: ins rk key x l
theorem ins_perm {rk : Nat → Nat} {key : Nat → Int} {x : Nat} : ∀ {l : List Nat}, (ins rk key x l).Perm (x :: l)
  | [] => List.Perm.refl _
  | y :: l => by
    unfold ins
    split
    · exact List.Perm.refl _
    · exact ((ins_perm (l := l)).cons y).trans (List.Perm.swap x y l)
theorem ins_ord {rk : Nat → Nat} {key : Nat → Int} {x : Nat} : ∀ {l : List Nat}, l.Pairwise (bf rk key) → (∀ y ∈ l, rk y ≠ rk x) → (ins rk key x l).Pairwise (bf rk key)
  | [], _, _ => List.pairwise_singleton _ _
  | y :: l, h, hr => by
    have h2 := List.pairwise_cons.mp h
    unfold ins
    split
    · rename_i q
      have hxy : bf rk key x y := by unfold bf; omega
      refine List.pairwise_cons.mpr ⟨fun z hz => ?_, h⟩
      rcases List.mem_cons.mp hz with rfl | hz
      · exact hxy
      · exact bf_trans hxy (h2.1 z hz)
    · rename_i q
      have hry := hr y List.mem_cons_self
      refine List.pairwise_cons.mpr ⟨fun z hz => ?_, ins_ord h2.2 (fun z hz => hr z (List.mem_cons_of_mem _ hz))⟩
      rcases List.mem_cons.mp (ins_perm.mem_iff.mp hz) with rfl | hz
      · unfold bf; omega
      · exact h2.1 z hz
theorem ord_ex {rk : Nat → Nat} {key : Nat → Int} : ∀ {l : List Nat}, l.Pairwise (fun x y => rk x ≠ rk y) → ∃ m, Ord rk key l m
  | [], _ => ⟨[], List.Perm.refl _, List.Pairwise.nil⟩
  | x :: l, h => by
    have h2 := List.pairwise_cons.mp h
    obtain ⟨m, hm⟩ := ord_ex (key := key) h2.2
    exact ⟨ins rk key x m, ins_perm.trans (hm.1.cons x), ins_ord hm.2 (fun y hy => fun e => h2.1 y (hm.1.mem_iff.mp hy) e.symm)⟩
theorem slm_ex {P : PG} (f : Nat) : ∃ m, SLm P f m := by
  obtain ⟨m, hm⟩ := ord_ex (rk := id) (key := fun a => ((P 11 a : Nat) : Int)) (l := arl P f) (List.Pairwise.imp (fun h => Nat.ne_of_lt h) arl_ok.1)
  exact ⟨m, _, arl_ok, hm⟩
theorem phi_bd {P : PG} (w : WF P) {a : Nat} (ha : a < P 0 2) : -1759824 ≤ phi P a ∧ phi P a ≤ 1759824 := by
  obtain ⟨m, hm⟩ := slm_ex (P := P) (fn P a)
  exact (phi_ok w _ (w.fnl ha) m hm).2.2 a ((hm.mem a).mpr ⟨ha, rfl⟩)
/-- what the class holds of a function's flows -/
def DF (P : PG) (f : Nat) (D : DT) : Prop := (∀ a, a < P 0 2 → fn P a = f → D 123 a = phi P a ∧ (D 124 a = 1 ∧ tak P a ∨ D 124 a = 0 ∧ ¬ tak P a)) ∧ ∀ b, b < P 0 1 → P 4 b = f → D 125 b = heat P b
theorem s_mendF {D : DT} {P : PG} (w : WF P) (d : DevP D 4 P) {f : Nat} (hf : f < P 0 0) : wp (m_X2_mend (f : Int) D) (fun D' => Fr [123, 124, 125, 126, 127, 128, 129, 130] D D' ∧ DF P f D' ∧ ∀ g, g ≠ f → DF P g D → DF P g D') := by
  refine wp_mono (s_mend w d hf (phi_ok w f hf)) ?_
  rintro D' ⟨hF, m, hm, h1, h2, h3, h4⟩
  refine ⟨hF, ⟨fun a ha hfa => ?_, fun b hb ho => by rw [h3 b hb ho, heat_ls w hm hb ho]⟩, fun g hg hD => ⟨fun a ha hfa => ?_, fun b hb ho => ?_⟩⟩
  · have ham := (hm.mem a).mpr ⟨ha, hfa⟩
    obtain ⟨e1, e2⟩ := h1 a ham
    refine ⟨e1, ?_⟩
    rw [e2, tak_iff hm ham]
    by_cases q : a ∈ tl (P 9) (P 10) m.reverse
    · rw [if_pos q]; exact Or.inl ⟨rfl, q⟩
    · rw [if_neg q]; exact Or.inr ⟨rfl, q⟩
  · have ham : a ∉ m := fun q => hg (hfa.symm.trans ((hm.mem a).mp q).2)
    obtain ⟨e1, e2⟩ := h2 a ham
    rw [e1, e2]
    exact hD.1 a ha hfa
  · rw [h4 b hb (fun e => hg (ho.symm.trans e))]
    exact hD.2 b hb ho
