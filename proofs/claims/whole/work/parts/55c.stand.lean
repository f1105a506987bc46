/-! ===== how CHAINS stand: of a program alone ===== -/
theorem clm_ex {P : PG} (f : Nat) : ∃ m, CLm P f m := by
  have hCA : ∃ l, CA P f l := by
    refine ⟨(List.range (P 0 2)).filter (fun a => @decide (fn P a = f ∧ inn P a ∧ 0 < phi P a) (Classical.propDecidable _)), List.Pairwise.filter _ List.pairwise_lt_range, fun a => ?_⟩
    rw [List.mem_filter, List.mem_range, @decide_eq_true_iff _ (Classical.propDecidable _)]
  obtain ⟨l, hl⟩ := hCA
  obtain ⟨m, hm⟩ := ord_ex (rk := id) (key := phi P) (l := l) (List.Pairwise.imp (fun h => Nat.ne_of_lt h) hl.1)
  exact ⟨m, l, hl, hm⟩
noncomputable def clc (P : PG) (f : Nat) : List Nat := (clm_ex (P := P) f).choose
theorem clc_ok {P : PG} {f : Nat} : CLm P f (clc P f) := (clm_ex (P := P) f).choose_spec
noncomputable def cf (P : PG) (f : Nat) : CS := cst P (clc P f).reverse
theorem ci_cf {P : PG} {f : Nat} : CI (cf P f) := ci_cst
theorem cf_blk {P : PG} (w : WF P) {f k h : Nat} (hk : k ∈ (cf P f).1 h) : blk P f k ↔ blk P f h := cst_blk (fun a ha => clc_ok.blk w (List.mem_reverse.mp ha)) k h hk
theorem cf_entry {P : PG} (w : WF P) {f : Nat} (hf : f < P 0 0) : (cf P f).2 (mb P f 0) = mb P f 0 := cst_entry (w.mbo f 0 hf (w.mem f hf))
/-- an arc between a chain and those that stand -/
def con (P : PG) (A S : List Nat) (a : Nat) : Prop := (P 9 a ∈ A ∧ P 10 a ∈ S) ∨ (P 10 a ∈ A ∧ P 9 a ∈ S)
noncomputable def bdl (P : PG) (A S l : List Nat) : Int := ls (fun a => @ite _ (con P A S a) (Classical.propDecidable _) (phi P a) 0) l
noncomputable def bd (P : PG) (f : Nat) (S : List Nat) (h : Nat) : Int := bdl P ((cf P f).1 h) S (clc P f)
def lmin : List Nat → Nat
  | [] => 40
  | a :: l => if a < lmin l then a else lmin l
theorem lmin_le {a : Nat} : ∀ {l : List Nat}, a ∈ l → lmin l ≤ a
  | [], h => by cases h
  | b :: l, h => by
    unfold lmin
    rcases List.mem_cons.mp h with rfl | h
    · split <;> omega
    · have := lmin_le h
      split <;> omega
theorem lmin_mem : ∀ {l : List Nat}, l ≠ [] → (∀ k ∈ l, k < 40) → lmin l ∈ l
  | [], h, _ => absurd rfl h
  | b :: l, _, h40 => by
    unfold lmin
    split
    · exact List.mem_cons_self
    · rename_i q
      have hb := h40 b List.mem_cons_self
      cases l with
      | nil => simp [lmin] at q; omega
      | cons c l => exact List.mem_cons_of_mem _ (lmin_mem (by simp) (fun k hk => h40 k (List.mem_cons_of_mem _ hk)))
def Cd (P : PG) (f : Nat) (S : List Nat) (h : Nat) : Prop := blk P f h ∧ (cf P f).2 h = h ∧ h ∉ S
noncomputable def sel1 (C : Nat → Prop) (rk : Nat → Nat) (key : Nat → Int) : Int := @dite _ (∃ r, Sel C rk key r) (Classical.propDecidable _) (fun h => h.choose) (fun _ => -1)
theorem sel1_eq {C : Nat → Prop} {rk : Nat → Nat} {key : Nat → Int} {r : Int} (h : Sel C rk key r) : sel1 C rk key = r := by
  unfold sel1
  rw [dif_pos ⟨r, h⟩]
  exact sel_det (Exists.choose_spec (⟨r, h⟩ : ∃ r, Sel C rk key r)) h
noncomputable def flat (P : PG) (f : Nat) (T : List Nat) : List Nat := T.flatMap (cf P f).1
/-- the next chain behind those of T; -1: none -/
noncomputable def nx (P : PG) (f : Nat) (T : List Nat) : Int := if T = [] then ((mb P f 0 : Nat) : Int) else sel1 (Cd P f (flat P f T)) (fun h => lmin ((cf P f).1 h)) (bd P f (flat P f T))
noncomputable def tk (P : PG) (f : Nat) : Nat → List Nat
  | 0 => []
  | n + 1 => if nx P f (tk P f n) < 0 then tk P f n else tk P f n ++ [(nx P f (tk P f n)).toNat]
theorem tk_end {P : PG} {f n : Nat} (h : nx P f (tk P f n) < 0) : ∀ m, n ≤ m → tk P f m = tk P f n := by
  intro m hm
  induction m with
  | zero => have : n = 0 := by omega
            subst this; rfl
  | succ m ih =>
    by_cases e : n = m + 1
    · subst e; rfl
    · have := ih (by omega)
      show (if nx P f (tk P f m) < 0 then tk P f m else tk P f m ++ [(nx P f (tk P f m)).toNat]) = _
      rw [this, if_pos h]
theorem flat_snoc {P : PG} {f : Nat} {T : List Nat} {h : Nat} : flat P f (T ++ [h]) = flat P f T ++ (cf P f).1 h := by
  unfold flat; rw [List.flatMap_append]; simp
/-- chains that stand: firsts, each once, of the function -/
def TT (P : PG) (f : Nat) (T : List Nat) : Prop := T.Nodup ∧ ∀ h ∈ T, blk P f h ∧ (cf P f).2 h = h
theorem mem_flat {P : PG} {f : Nat} {T : List Nat} {k : Nat} (hT : TT P f T) : k ∈ flat P f T ↔ (cf P f).2 k ∈ T := by
  unfold flat
  rw [List.mem_flatMap]
  constructor
  · rintro ⟨h, h1, h2⟩
    rw [ci_cf.2.1 _ _ h2]; exact h1
  · intro h
    exact ⟨_, h, ci_cf.1 k⟩
theorem flat_nodup {P : PG} {f : Nat} : ∀ {T : List Nat}, TT P f T → (flat P f T).Nodup
  | [], _ => List.nodup_nil
  | h :: T, hT => by
    have hT2 : TT P f T := ⟨(List.nodup_cons.mp hT.1).2, fun g hg => hT.2 g (List.mem_cons_of_mem _ hg)⟩
    show ((cf P f).1 h ++ flat P f T).Nodup
    refine List.nodup_append.mpr ⟨ci_cf.2.2.1 h, flat_nodup hT2, fun a ha b hb e => ?_⟩
    subst e
    have h1 := ci_cf.2.1 _ _ ha
    have h2 := (mem_flat hT2).mp hb
    rw [h1] at h2
    exact (List.nodup_cons.mp hT.1).1 h2
theorem flat_blk {P : PG} (w : WF P) {f : Nat} {T : List Nat} (hT : TT P f T) {k : Nat} (hk : k ∈ flat P f T) : blk P f k := by
  unfold flat at hk
  obtain ⟨h, h1, h2⟩ := List.mem_flatMap.mp hk
  exact (cf_blk w h2).mpr (hT.2 h h1).1
theorem blk_len {P : PG} (w : WF P) {f : Nat} {l : List Nat} (hn : l.Nodup) (h : ∀ k ∈ l, blk P f k) : l.length ≤ P 1 f := by
  have := List.Nodup.length_le_of_subset (l₂ := (List.range (P 1 f)).map (mb P f)) hn (fun k hk => by
    obtain ⟨h1, h2⟩ := h k hk
    obtain ⟨j, hj, e⟩ := w.cov k h1
    rw [h2] at hj e
    exact List.mem_map.mpr ⟨j, List.mem_range.mpr hj, e⟩)
  simpa using this
theorem TT.len {P : PG} (w : WF P) {f : Nat} {T : List Nat} (hT : TT P f T) : T.length ≤ P 1 f := blk_len w hT.1 (fun k hk => (hT.2 k hk).1)
theorem TT.snoc {P : PG} {f : Nat} {T : List Nat} {h : Nat} (hT : TT P f T) (hb : blk P f h) (hh : (cf P f).2 h = h) (hn : h ∉ T) : TT P f (T ++ [h]) := by
  refine ⟨List.nodup_append.mpr ⟨hT.1, List.pairwise_singleton _ _, fun a ha b hb e => ?_⟩, fun g hg => ?_⟩
  · rw [List.mem_singleton.mp hb] at e; subst e; exact hn ha
  · rcases List.mem_append.mp hg with hg | hg
    · exact hT.2 g hg
    · rw [List.mem_singleton.mp hg]; exact ⟨hb, hh⟩
theorem head_flat {P : PG} {f : Nat} {T : List Nat} (hT : TT P f T) {h : Nat} (hh : (cf P f).2 h = h) : h ∈ flat P f T ↔ h ∈ T := by
  rw [mem_flat hT, hh]
/-- the sum between a chain and those that stand grows by the chain that comes -/
theorem bdl_step {P : PG} (w : WF P) {f : Nat} {T : List Nat} (hT : TT P f T) {g h : Nat} (hg : (cf P f).2 g = g) (hgT : g ∉ T) (hhg : h ≠ g) (hhT : h ∉ T) : ∀ {l : List Nat}, bdl P ((cf P f).1 h) (flat P f T ++ (cf P f).1 g) l = bdl P ((cf P f).1 h) (flat P f T) l + bdl P ((cf P f).1 h) ((cf P f).1 g) l := by
  intro l
  unfold bdl
  rw [← ls_add]
  refine ls_congr (fun a _ => ?_)
  have d1 : ∀ k, k ∈ (cf P f).1 h → k ∈ flat P f T → False := fun k z1 z2 => by
    have e1 := ci_cf.2.1 _ _ z1
    have e2 := (mem_flat hT).mp z2
    rw [e1] at e2; exact hhT e2
  have d2 : ∀ k, k ∈ (cf P f).1 h → k ∈ (cf P f).1 g → False := fun k z1 z2 => hhg ((ci_cf.2.1 _ _ z1).symm.trans (ci_cf.2.1 _ _ z2))
  have d3 : ∀ k, k ∈ flat P f T → k ∈ (cf P f).1 g → False := fun k z1 z2 => by
    have e1 := ci_cf.2.1 _ _ z2
    have e2 := (mem_flat hT).mp z1
    rw [e1] at e2; exact hgT e2
  by_cases c1 : con P ((cf P f).1 h) (flat P f T) a
  · have c2 : ¬ con P ((cf P f).1 h) ((cf P f).1 g) a := by
      rintro (z | z) <;> rcases c1 with y | y
      · exact d3 _ y.2 z.2
      · exact d2 _ y.1 z.2
      · exact d2 _ y.1 z.2
      · exact d3 _ y.2 z.2
    have c3 : con P ((cf P f).1 h) (flat P f T ++ (cf P f).1 g) a := by
      rcases c1 with y | y
      · exact Or.inl ⟨y.1, List.mem_append.mpr (Or.inl y.2)⟩
      · exact Or.inr ⟨y.1, List.mem_append.mpr (Or.inl y.2)⟩
    rw [if_pos c1, if_neg c2, if_pos c3]; omega
  · by_cases c2 : con P ((cf P f).1 h) ((cf P f).1 g) a
    · have c3 : con P ((cf P f).1 h) (flat P f T ++ (cf P f).1 g) a := by
        rcases c2 with y | y
        · exact Or.inl ⟨y.1, List.mem_append.mpr (Or.inr y.2)⟩
        · exact Or.inr ⟨y.1, List.mem_append.mpr (Or.inr y.2)⟩
      rw [if_neg c1, if_pos c2, if_pos c3]; omega
    · have c3 : ¬ con P ((cf P f).1 h) (flat P f T ++ (cf P f).1 g) a := by
        rintro (z | z)
        · rcases List.mem_append.mp z.2 with y | y
          · exact c1 (Or.inl ⟨z.1, y⟩)
          · exact c2 (Or.inl ⟨z.1, y⟩)
        · rcases List.mem_append.mp z.2 with y | y
          · exact c1 (Or.inr ⟨z.1, y⟩)
          · exact c2 (Or.inr ⟨z.1, y⟩)
      rw [if_neg c1, if_neg c2, if_neg c3]; omega
theorem bdl_bd {P : PG} (w : WF P) {A S l : List Nat} (hl : l.length ≤ 88) (hm : ∀ a ∈ l, a < P 0 2) : -160000000 ≤ bdl P A S l ∧ bdl P A S l ≤ 160000000 := by
  have hb := ls_bound (f := fun a => @ite _ (con P A S a) (Classical.propDecidable _) (phi P a) 0) (B := 1759824) (l := l) (fun a ha => by
    have := phi_bd w (hm a ha)
    split <;> constructor <;> omega)
  unfold bdl
  omega
