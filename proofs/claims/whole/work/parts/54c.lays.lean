/-! ===== the reference: laysFlows ===== -/
theorem sg_bound {f : Nat → Int} {B : Int} {n : Nat} (h : ∀ k, k < n → -B ≤ f k ∧ f k ≤ B) : -(n * B) ≤ sg f n ∧ sg f n ≤ n * B := by
  constructor
  · have h2 := sg_const (f := fun a => - f a) (c := B) (n := n) (fun a ha => by have := h a ha; show - f a ≤ B; omega)
    rw [sg_neg] at h2
    omega
  · exact sg_const (fun a ha => (h a ha).2)
theorem sg_but {f : Nat → Int} {p n : Nat} (hp : p < n) : sg (fun a => if a = p then 0 else f a) n = sg f n - f p := by
  have e : sg f n = sg (fun a => (if a = p then 0 else f a) + (if p = a then f p else 0)) n := sg_congr (fun k _ => by
    by_cases h : k = p
    · subst h; simp
    · have : ¬ p = k := fun e => h e.symm
      simp [h, this])
  rw [e, sg_add, sg_one hp]; omega
/-- an arc's end at block b -/
def atb (P : PG) (b a : Nat) : Prop := P 9 a = b ∨ P 10 a = b
def uniq (P : PG) (O : List Nat) (b a : Nat) : Prop := a ∈ O ∧ atb P b a ∧ ∀ x ∈ O, atb P b x → x = a
/-- while the reference works flows out: O are the open arcs -/
def RS (P : PG) (D0 : DT) (O : List Nat) (D : DT) : Prop :=
  Fr [189, 193] D0 D ∧ (∀ a, a < P 0 2 → D 193 a = if a ∈ O then 1 else 0) ∧ (∀ a, a < P 0 2 → a ∉ O → D 189 a = phi P a) ∧ O.Nodup ∧ ∀ a ∈ O, a < P 0 2 ∧ tak P a
theorem tak_ne {P : PG} {a : Nat} (h : tak P a) : P 9 a ≠ P 10 a := by
  obtain ⟨m, _, h2⟩ := h
  exact tl_ne h2
/-- some block has just one open arc -/
theorem leaf_all {P : PG} (w : WF P) {O : List Nat} (hO : ∀ a ∈ O, a < P 0 2 ∧ tak P a) (hne : O ≠ []) : ∃ b a, b < P 0 1 ∧ uniq P O b a := by
  obtain ⟨a0, ha0⟩ := List.exists_mem_of_ne_nil _ hne
  obtain ⟨m, hm⟩ := slm_ex (P := P) (fn P a0)
  obtain ⟨x, a, e1, ⟨e2, e2b⟩, e3, e4⟩ := fo_leaf (tl_fo (u := P 9) (v := P 10) (r := m.reverse)) (fun a => a ∈ O ∧ fn P a = fn P a0) (fun a ha => (tak_iff hm ((hm.mem a).mpr ⟨(hO a ha.1).1, ha.2⟩)).mp (hO a ha.1).2) ⟨a0, ha0, rfl⟩ 40
  have hx : x < P 0 1 ∧ P 4 x = fn P a0 := by
    rcases e3 with rfl | rfl
    · have := (w.uo (hO a e2).1).resolve_left e1
      exact ⟨this.1, this.2.trans e2b⟩
    · have := (w.vo (hO a e2).1).resolve_left e1
      exact ⟨this.1, this.2.trans e2b⟩
  refine ⟨x, a, hx.1, e2, e3, fun y hy hyb => e4 y ⟨hy, ?_⟩ hyb⟩
  rcases hyb with e | e
  · have := (w.uo (hO y hy).1).resolve_left (by rw [e]; exact e1)
    rw [← this.2, e, hx.2]
  · have := (w.vo (hO y hy).1).resolve_left (by rw [e]; exact e1)
    rw [← this.2, e, hx.2]
theorem nz_b {b x : Nat} (hb : b < 40) : nz 40 x = (b : Int) ↔ x = b := by
  unfold nz; split <;> constructor <;> intro h <;> omega
theorem r_openAt {D D0 : DT} {P : PG} (w : WF P) (r : RefP D 0 P) {O : List Nat} (h : RS P D0 O D) {b : Nat} (hb : b < P 0 1) : wp (m_X12_openAt (b : Int) D) (fun x => (x = -1 ∧ ∀ a, ¬ uniq P O b a) ∨ ∃ a : Nat, x = (a : Int) ∧ uniq P O b a) := by
  have h88 := w.a88; have h40 := w.b40
  obtain ⟨hF, h1, h2, h3, h4⟩ := h
  unfold m_X12_openAt
  rw [wp_bind]
  refine wp_for (P 0 2) (fun j s => s.2 = (j : Int) ∧ ((s.1 = -1 ∧ ∀ a, a < j → a ∈ O → ¬ atb P b a) ∨ ∃ a : Nat, s.1 = (a : Int) ∧ a < j ∧ a ∈ O ∧ atb P b a ∧ ∀ x, x < j → x ∈ O → atb P b x → x = a)) (Nat.zero_le _) ⟨rfl, Or.inl ⟨rfl, fun a ha => by omega⟩⟩ ?_
  rintro j ⟨x, jj⟩ hj ⟨g1, g2⟩
  simp only at g1 g2
  subst g1
  unfold b_X12_openAt_4
  dsimp only
  rw [r_arcs r, Option.bind_some, wp_ite]
  constructor
  rotate_left
  · intro q
    have : j = P 0 2 := by omega
    subst this
    rw [wp_some, gd_r]
    dsimp only
    rw [wp_some]
    rcases g2 with ⟨e, g2⟩ | ⟨a, e, _, g3, g4, g5⟩
    · exact Or.inl ⟨e, fun a hu => g2 a (h4 a hu.1).1 hu.1 hu.2.1⟩
    · exact Or.inr ⟨a, e, g3, g4, fun x hx hxb => g5 x (h4 x hx).1 hx hxb⟩
  intro q
  have hj2 : j < P 0 2 := by omega
  have hskip : ¬ (j ∈ O ∧ atb P b j) → wp (some (Sum.inl (β := Unit ⊕ Int) (x, w32 ((j : Int) + 1)))) (fun t => gd t (fun s' => j < P 0 2 ∧ s'.2 = ((j + 1 : Nat) : Int) ∧ ((s'.1 = -1 ∧ ∀ a, a < j + 1 → a ∈ O → ¬ atb P b a) ∨ ∃ a : Nat, s'.1 = (a : Int) ∧ a < j + 1 ∧ a ∈ O ∧ atb P b a ∧ ∀ x, x < j + 1 → x ∈ O → atb P b x → x = a)) (fun e => wp (match e with | (.inl _) => some (-1) | (.inr l2_9) => some l2_9) (fun x => (x = -1 ∧ ∀ a, ¬ uniq P O b a) ∨ ∃ a : Nat, x = (a : Int) ∧ uniq P O b a))) := by
    intro hn
    rw [wp_some, gd_l]
    refine ⟨hj2, w32_succ (by omega), ?_⟩
    rcases g2 with ⟨e, g2⟩ | ⟨a, e, g0, g3, g4, g5⟩
    · refine Or.inl ⟨e, fun a ha haO hab => ?_⟩
      by_cases z : a = j
      · subst z; exact hn ⟨haO, hab⟩
      · exact g2 a (by omega) haO hab
    · refine Or.inr ⟨a, e, by omega, g3, g4, fun y hy hyO hyb => ?_⟩
      by_cases z : y = j
      · subst z; exact absurd ⟨hyO, hyb⟩ hn
      · exact g5 y (by omega) hyO hyb
  have hhit : j ∈ O → atb P b j → wp (if x < 0 then some (Sum.inl (β := Unit ⊕ Int) ((j : Int), w32 ((j : Int) + 1))) else some (Sum.inr (Sum.inl ()))) (fun t => gd t (fun s' => j < P 0 2 ∧ s'.2 = ((j + 1 : Nat) : Int) ∧ ((s'.1 = -1 ∧ ∀ a, a < j + 1 → a ∈ O → ¬ atb P b a) ∨ ∃ a : Nat, s'.1 = (a : Int) ∧ a < j + 1 ∧ a ∈ O ∧ atb P b a ∧ ∀ x, x < j + 1 → x ∈ O → atb P b x → x = a)) (fun e => wp (match e with | (.inl _) => some (-1) | (.inr l2_9) => some l2_9) (fun x => (x = -1 ∧ ∀ a, ¬ uniq P O b a) ∨ ∃ a : Nat, x = (a : Int) ∧ uniq P O b a))) := by
    intro hjO hjb
    rw [wp_ite]
    constructor
    · intro e
      rw [wp_some, gd_l]
      refine ⟨hj2, w32_succ (by omega), Or.inr ⟨j, rfl, by omega, hjO, hjb, fun y hy hyO hyb => ?_⟩⟩
      rcases g2 with ⟨_, g2⟩ | ⟨a, e2, _⟩
      · by_cases z : y = j
        · exact z
        · exact absurd hyb (g2 y (by omega) hyO)
      · omega
    · intro e
      rw [wp_some, gd_r]
      dsimp only
      rw [wp_some]
      refine Or.inl ⟨rfl, fun y hu => ?_⟩
      rcases g2 with ⟨e2, _⟩ | ⟨a, e2, g0, g3, g4, g5⟩
      · omega
      · have z1 := hu.2.2 a g3 g4
        have z2 := hu.2.2 j hjO hjb
        omega
  rw [ard_n (by omega), Option.bind_some, h1 j hj2]
  by_cases hjO : j ∈ O
  · rw [if_pos hjO, if_neg (by decide), r_from w r hj2, Option.bind_some]
    by_cases e1 : P 9 j = b
    · rw [if_pos ((nz_b (by omega)).mpr e1)]
      exact hhit hjO (Or.inl e1)
    · rw [if_neg (fun z => e1 ((nz_b (by omega)).mp z)), r_to w r hj2, Option.bind_some]
      by_cases e2 : P 10 j = b
      · rw [if_pos ((nz_b (by omega)).mpr e2)]
        exact hhit hjO (Or.inr e2)
      · rw [if_neg (fun z => e2 ((nz_b (by omega)).mp z))]
        exact hskip (fun z => z.2.elim e1 e2)
  · rw [if_neg hjO, if_pos rfl]
    exact hskip (fun z => hjO z.1)
theorem r_overAt {D : DT} {P : PG} (w : WF P) (r : RefP D 0 P) {b p : Nat} (hb : b < P 0 1) (hbd : ∀ a, a < P 0 2 → a ≠ p → atb P b a → -1759824 ≤ D 189 a ∧ D 189 a ≤ 1759824) : m_X12_overAt (b : Int) (p : Int) D = some (sg (fun a => if a = p then 0 else nt (P 9) (P 10) (D 189) b a) (P 0 2)) := by
  have h88 := w.a88; have h40 := w.b40
  apply wp_eq
  unfold m_X12_overAt
  rw [wp_bind]
  refine wp_for (P 0 2) (fun j s => s.2 = (j : Int) ∧ s.1 = sg (fun a => if a = p then 0 else nt (P 9) (P 10) (D 189) b a) j) (Nat.zero_le _) ⟨rfl, rfl⟩ ?_
  rintro j ⟨x, jj⟩ hj ⟨g1, g2⟩
  simp only at g1 g2
  subst g1; subst g2
  unfold b_X12_overAt_5
  dsimp only
  rw [r_arcs r, Option.bind_some, wp_ite]
  constructor
  rotate_left
  · intro q
    have : j = P 0 2 := by omega
    subst this
    rw [wp_some, gd_r, wp_some]
  intro q
  have hj2 : j < P 0 2 := by omega
  have bd1 : ∀ k, k < P 0 2 → -1759824 ≤ (if k = p then 0 else nt (P 9) (P 10) (D 189) b k) ∧ (if k = p then 0 else nt (P 9) (P 10) (D 189) b k) ≤ 1759824 := by
    intro k hk
    by_cases e : k = p
    · rw [if_pos e]; constructor <;> omega
    · rw [if_neg e]
      unfold nt
      by_cases z1 : P 10 k = b
      · have := hbd k hk e (Or.inr z1)
        rw [if_pos z1]; split <;> constructor <;> omega
      · rw [if_neg z1]
        by_cases z2 : P 9 k = b
        · have := hbd k hk e (Or.inl z2)
          rw [if_pos z2]; constructor <;> omega
        · rw [if_neg z2]; constructor <;> omega
  have bd := sg_bound (n := j) (fun k hk => bd1 k (by omega))
  have bdj := bd1 j hj2
  have key : ∀ y, y = sg (fun a => if a = p then 0 else nt (P 9) (P 10) (D 189) b a) (j + 1) → wp (some (Sum.inl (β := Int) (y, w32 ((j : Int) + 1)))) (fun t => gd t (fun s' => j < P 0 2 ∧ s'.2 = ((j + 1 : Nat) : Int) ∧ s'.1 = sg (fun a => if a = p then 0 else nt (P 9) (P 10) (D 189) b a) (j + 1)) (fun r => wp (some r) fun x => x = sg (fun a => if a = p then 0 else nt (P 9) (P 10) (D 189) b a) (P 0 2))) := by
    intro y hy
    rw [wp_some, gd_l]
    exact ⟨hj2, w32_succ (by omega), hy⟩
  rw [wp_bind]
  by_cases e : j = p
  · rw [if_pos (by omega), wp_some]
    refine key _ ?_
    simp only [sg, if_pos e]; omega
  · rw [if_neg (by omega), r_to w r hj2, Option.bind_some, wp_bind]
    have fin : ∀ x y : Int, x = (if P 10 j = b then D 189 j else 0) → y = (if P 9 j = b then D 189 j else 0) → w32 (sg (fun a => if a = p then 0 else nt (P 9) (P 10) (D 189) b a) j + w32 (x - y)) = sg (fun a => if a = p then 0 else nt (P 9) (P 10) (D 189) b a) (j + 1) := by
      intro x y hx hy
      have : x - y = (if j = p then 0 else nt (P 9) (P 10) (D 189) b j) := by rw [if_neg e, hx, hy]; rfl
      rw [this, w32_add', w32_id (by omega) (by omega)]; rfl
    by_cases z1 : P 10 j = b
    · rw [if_pos ((nz_b (by omega)).mpr z1), ard_n (by omega), Option.bind_some, wp_some, r_from w r hj2, Option.bind_some, wp_bind]
      by_cases z2 : P 9 j = b
      · rw [if_pos ((nz_b (by omega)).mpr z2), wp_some, wp_some]
        exact key _ (fin _ _ (by rw [if_pos z1]) (by rw [if_pos z2]))
      · rw [if_neg (fun z => z2 ((nz_b (by omega)).mp z)), wp_some, wp_some]
        exact key _ (fin _ _ (by rw [if_pos z1]) (by rw [if_neg z2]))
    · rw [if_neg (fun z => z1 ((nz_b (by omega)).mp z)), wp_some, r_from w r hj2, Option.bind_some, wp_bind]
      by_cases z2 : P 9 j = b
      · rw [if_pos ((nz_b (by omega)).mpr z2), ard_n (by omega), Option.bind_some, wp_some, wp_some]
        exact key _ (fin _ _ (by rw [if_neg z1]) (by rw [if_pos z2]))
      · rw [if_neg (fun z => z2 ((nz_b (by omega)).mp z)), wp_some, wp_some]
        exact key _ (fin _ _ (by rw [if_neg z1]) (by rw [if_neg z2]))
/-- the flow of a block's one open arc -/
theorem over_phi {D D0 : DT} {P : PG} (w : WF P) {O : List Nat} (h : RS P D0 O D) {b a : Nat} (hb : b < P 0 1) (hu : uniq P O b a) : sg (fun x => if x = a then 0 else nt (P 9) (P 10) (D 189) b x) (P 0 2) = - nt (P 9) (P 10) (phi P) b a := by
  obtain ⟨hF, h1, h2, h3, h4⟩ := h
  have e : sg (fun x => if x = a then 0 else nt (P 9) (P 10) (D 189) b x) (P 0 2) = sg (fun x => if x = a then 0 else nt (P 9) (P 10) (phi P) b x) (P 0 2) := sg_congr (fun x hx => by
    by_cases e : x = a
    · rw [if_pos e, if_pos e]
    · rw [if_neg e, if_neg e]
      unfold nt
      by_cases z : x ∈ O
      · have hn : ¬ atb P b x := fun q => e (hu.2.2 x z q)
        have z1 : ¬ P 9 x = b := fun q => hn (Or.inl q)
        have z2 : ¬ P 10 x = b := fun q => hn (Or.inr q)
        rw [if_neg z1, if_neg z2, if_neg z1, if_neg z2]
      · rw [h2 x hx z])
  rw [e, sg_but (h4 a hu.1).1, phi_sum w (fun f _ => slm_ex f) hb]; omega
