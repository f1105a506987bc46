/-! ===== CHAINS of a program alone ===== -/
def blk (P : PG) (f k : Nat) : Prop := k < P 0 1 ∧ P 4 k = f
abbrev CS := (Nat → List Nat) × (Nat → Nat)
/-- the chain that y begins comes behind that with x -/
def cjn (x y : Nat) (s : CS) : CS := (fun h => if h = s.2 x then s.1 (s.2 x) ++ s.1 y else if h = y then [] else s.1 h, fun k => if s.2 k = y then s.2 x else s.2 k)
def cjo (P : PG) (s : CS) (a : Nat) : Prop := (s.1 (s.2 (P 9 a))).getLast? = some (P 9 a) ∧ s.2 (P 10 a) = P 10 a ∧ s.2 (P 9 a) ≠ P 10 a ∧ mb P (P 4 (P 10 a)) 0 ≠ P 10 a
/-- chains (by their first) and firsts, behind arcs (the latest first) -/
noncomputable def cst (P : PG) : List Nat → CS
  | [] => (fun k => [k], fun k => k)
  | a :: r => @ite _ (cjo P (cst P r) a) (Classical.propDecidable _) (cjn (P 9 a) (P 10 a) (cst P r)) (cst P r)
def CI (s : CS) : Prop := (∀ k, k ∈ s.1 (s.2 k)) ∧ (∀ k h, k ∈ s.1 h → s.2 k = h) ∧ (∀ h, (s.1 h).Nodup) ∧ (∀ h, s.1 h ≠ [] → (s.1 h).head? = some h)
theorem CI.hh {s : CS} (h : CI s) (k : Nat) : s.2 (s.2 k) = s.2 k := by
  have h1 := h.1 k
  have hn : s.1 (s.2 k) ≠ [] := fun e => by rw [e] at h1; cases h1
  exact h.2.1 _ _ (List.mem_of_mem_head? (by rw [h.2.2.2 _ hn]; rfl))
theorem CI.self {s : CS} (h : CI s) {k : Nat} (hk : s.2 k = k) : k ∈ s.1 k := by
  have := h.1 k
  rw [hk] at this
  exact this
theorem CI.ne {s : CS} (h : CI s) {k : Nat} (hk : s.2 k = k) : s.1 k ≠ [] := fun e => by
  have := h.self hk
  rw [e] at this; cases this
theorem CI.hd {s : CS} (h : CI s) {k : Nat} (hk : s.2 k = k) : (s.1 k).head? = some k := h.2.2.2 k (h.ne hk)
theorem CI.nil {s : CS} (h : CI s) {k : Nat} (hk : s.2 k ≠ k) : s.1 k = [] := by
  cases e : s.1 k with
  | nil => rfl
  | cons a l =>
    exfalso
    have := h.2.2.2 k (by rw [e]; simp)
    rw [e] at this
    simp at this
    exact hk (h.2.1 k k (by rw [e, this]; exact List.mem_cons_self))
theorem ci_join {s : CS} {x y : Nat} (h : CI s) (hy : s.2 y = y) (hne : s.2 x ≠ y) : CI (cjn x y s) := by
  refine ⟨fun k => ?_, fun k g hk => ?_, fun g => ?_, fun g hg => ?_⟩
  · have h1 := h.1 k
    simp only [cjn]
    by_cases e : s.2 k = y
    · rw [if_pos e, if_pos rfl]
      exact List.mem_append.mpr (Or.inr (by rw [← e]; exact h1))
    · rw [if_neg e]
      by_cases e2 : s.2 k = s.2 x
      · rw [if_pos e2, ← e2]
        exact List.mem_append.mpr (Or.inl h1)
      · rw [if_neg e2, if_neg e]; exact h1
  · simp only [cjn] at hk ⊢
    split at hk
    · rename_i e
      rcases List.mem_append.mp hk with hk | hk
      · have := h.2.1 _ _ hk
        rw [this, if_neg hne, e]
      · have := h.2.1 _ _ hk
        rw [if_pos this, e]
    · split at hk
      · cases hk
      · rename_i e1 e2
        have := h.2.1 _ _ hk
        rw [this, if_neg e2]
  · simp only [cjn]
    split
    · refine List.nodup_append.mpr ⟨h.2.2.1 _, h.2.2.1 _, fun a ha b hb e => ?_⟩
      subst e
      have z1 := h.2.1 _ _ ha
      have z2 := h.2.1 _ _ hb
      exact hne (z1.symm.trans z2)
    · split
      · exact List.nodup_nil
      · exact h.2.2.1 _
  · simp only [cjn] at hg ⊢
    split
    · rename_i e
      have hx : s.1 (s.2 x) ≠ [] := fun z => by have := h.1 x; rw [z] at this; cases this
      rw [List.head?_append, h.2.2.2 _ hx, e]; rfl
    · rename_i e1
      rw [if_neg e1] at hg
      split
      · rename_i e2; rw [if_pos e2] at hg; exact absurd rfl hg
      · rename_i e2; rw [if_neg e2] at hg; exact h.2.2.2 _ hg
theorem ci_cst {P : PG} : ∀ {r : List Nat}, CI (cst P r)
  | [] => ⟨fun k => List.mem_singleton.mpr rfl, fun k h hk => List.mem_singleton.mp hk, fun h => List.pairwise_singleton _ _, fun h _ => rfl⟩
  | a :: r => by
    have ih := ci_cst (P := P) (r := r)
    unfold cst
    by_cases hc : cjo P (cst P r) a
    · rw [if_pos hc]; exact ci_join ih hc.2.1 hc.2.2.1
    · rw [if_neg hc]; exact ih
/-- chains stay in their function -/
theorem cst_blk {P : PG} {f : Nat} : ∀ {r : List Nat}, (∀ a ∈ r, blk P f (P 9 a) ∧ blk P f (P 10 a)) → ∀ (k h : Nat), k ∈ (cst P r).1 h → (blk P f k ↔ blk P f h)
  | [], _, k, h, hk => by rw [List.mem_singleton.mp hk]
  | a :: r, hr, k, h, hk => by
    have ih := fun {k h : Nat} => cst_blk (P := P) (f := f) (r := r) (fun b hb => hr b (List.mem_cons_of_mem _ hb)) k h
    have ha := hr a List.mem_cons_self
    have ci := ci_cst (P := P) (r := r)
    unfold cst at hk
    by_cases hc : cjo P (cst P r) a
    · rw [if_pos hc] at hk
      have hX : blk P f ((cst P r).2 (P 9 a)) := (ih (ci.1 (P 9 a))).mp ha.1
      simp only [cjn] at hk
      split at hk
      · rename_i e
        rw [e]
        rcases List.mem_append.mp hk with hk | hk
        · exact ih hk
        · exact ⟨fun _ => hX, fun _ => (ih hk).mpr ha.2⟩
      · split at hk
        · cases hk
        · exact ih hk
    · rw [if_neg hc] at hk
      exact ih hk
theorem cst_entry {P : PG} {f : Nat} : ∀ {r : List Nat}, (P 4 (mb P f 0) = f) → (cst P r).2 (mb P f 0) = mb P f 0
  | [], _ => rfl
  | a :: r, hf => by
    have ih := cst_entry (P := P) (r := r) hf
    unfold cst
    by_cases hc : cjo P (cst P r) a
    · rw [if_pos hc]
      simp only [cjn]
      rw [ih, if_neg]
      intro e
      have h4 := hc.2.2.2
      rw [← e, hf] at h4
      exact h4 rfl
    · rw [if_neg hc]; exact ih
/-- cell c tells what comes next in a row -/
def Nxt (D : DT) (c : Nat) (l : List Nat) : Prop := ∀ (i k : Nat), l[i]? = some k → D c k = nz 40 (l[i + 1]?.getD 40)
theorem Nxt.cg {D D' : DT} {c : Nat} {l : List Nat} (h : Nxt D c l) (e : ∀ k ∈ l, D' c k = D c k) : Nxt D' c l := fun i k hk => by
  rw [e k (List.mem_of_getElem? hk)]; exact h i k hk
theorem nxt_one {D : DT} {c k : Nat} (h : D c k = -1) : Nxt D c [k] := fun i x hx => by
  cases i with
  | zero => simp at hx; subst hx; rw [h]; simp [nz]
  | succ i => simp at hx
theorem nxt_last {D : DT} {c : Nat} {l : List Nat} {x : Nat} (h : Nxt D c l) (hn : l.Nodup) (hx : x ∈ l) (h40 : ∀ k ∈ l, k < 40) : D c x = -1 ↔ l.getLast? = some x := by
  obtain ⟨i, hi, e⟩ := List.getElem_of_mem hx
  have h1 := h i x (by rw [List.getElem?_eq_getElem hi, e])
  rw [h1, nz_m1, List.getLast?_eq_getElem?]
  constructor
  · intro q
    by_cases z : i + 1 < l.length
    · rw [List.getElem?_eq_getElem z] at q
      have := h40 l[i + 1] (List.getElem_mem z)
      simp at q; omega
    · have : l.length - 1 = i := by omega
      rw [this, List.getElem?_eq_getElem hi, e]
  · intro q
    obtain ⟨hj, q2⟩ := List.getElem?_eq_some_iff.mp q
    have : i = l.length - 1 := by
      by_cases z : i = l.length - 1
      · exact z
      · exfalso
        have := List.pairwise_iff_getElem.mp (List.nodup_iff_pairwise_ne.mp hn) i (l.length - 1) hi hj (by omega)
        exact this (e.trans q2.symm)
    rw [List.getElem?_eq_none (by omega)]; rfl
theorem nxt_join {D : DT} {c x y : Nat} {A B : List Nat} (hA : Nxt D c A) (hB : Nxt D c B) (hn : (A ++ B).Nodup) (hx : A.getLast? = some x) (hy : B.head? = some y) (hy40 : y ≠ 40) : Nxt (dput D c x (y : Int)) c (A ++ B) := by
  intro i k hk
  have hn2 := List.nodup_append.mp hn
  have hxA : x ∈ A := List.mem_of_getLast? hx
  by_cases hi : i < A.length
  · rw [List.getElem?_append_left hi] at hk
    by_cases hl : i + 1 < A.length
    · rw [List.getElem?_append_left hl, dput_sn, hA i k hk]
      intro e
      subst e
      rw [List.getLast?_eq_getElem?] at hx
      obtain ⟨hj, q2⟩ := List.getElem?_eq_some_iff.mp hx
      obtain ⟨hi2, q3⟩ := List.getElem?_eq_some_iff.mp hk
      have := List.pairwise_iff_getElem.mp (List.nodup_iff_pairwise_ne.mp hn2.1) i (A.length - 1) hi hj (by omega)
      exact this (q3.trans q2.symm)
    · have e : i = A.length - 1 := by omega
      have hk2 : k = x := by
        rw [List.getLast?_eq_getElem?, ← e, hk] at hx
        exact Option.some.inj hx
      subst hk2
      rw [dput_ss, List.getElem?_append_right (by omega)]
      have e2 : i + 1 - A.length = 0 := by omega
      rw [e2, ← List.head?_eq_getElem?, hy]
      show (y : Int) = nz 40 y
      rw [nz_ne hy40]
  · rw [List.getElem?_append_right (by omega)] at hk
    rw [List.getElem?_append_right (by omega), dput_sn, hB _ k hk]
    · congr 3; omega
    · intro e
      subst e
      exact hn2.2.2 k hxA k (List.mem_of_getElem? hk) rfl
