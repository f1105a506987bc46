/-! ===== what the abstract machine's states mean on the machine ===== -/
def lw_good : List Cond := lw_tbl.filter goodWord
theorem lw_in {w : Cond} (h : w ∈ lw_tbl) (hg : goodWord w = true) : w ∈ lw_good := List.mem_filter.mpr ⟨h, hg⟩
theorem lw_at {w : Cond} (i : Nat) (h : lw_tbl[i]? = some w) (hg : goodWord w = true) : w ∈ lw_good := lw_in (List.mem_of_getElem? h) hg
theorem w32_bmod (x : Int) : x.bmod 4294967296 = w32 x := by
  simp only [w32, Int.bmod]
  split <;> omega
theorem w64_bmod (x : Int) : x.bmod 18446744073709551616 = w64 x := by
  simp only [w64, Int.bmod]
  split <;> omega
theorem i32_of (i : Int32) : Int32.ofInt i.toInt = i := Int32.ofInt_toInt i
theorem i32_add (i j : Int32) : (i + j).toInt = w32 (i.toInt + j.toInt) := by rw [Int32.toInt_add]; exact w32_bmod _
theorem i32_sub (i j : Int32) : (i - j).toInt = w32 (i.toInt - j.toInt) := by rw [Int32.toInt_sub]; exact w32_bmod _
theorem i32_mul (i j : Int32) : (i * j).toInt = w32 (i.toInt * j.toInt) := by rw [Int32.toInt_mul]; exact w32_bmod _
theorem i32_neg (i : Int32) : (-i).toInt = w32 (-i.toInt) := by rw [Int32.toInt_neg]; exact w32_bmod _
theorem i32_div (i j : Int32) : (i / j).toInt = w32 (i.toInt.tdiv j.toInt) := by rw [Int32.toInt_div]; exact w32_bmod _
theorem i64_add (i j : Int64) : (i + j).toInt = w64 (i.toInt + j.toInt) := by rw [Int64.toInt_add]; exact w64_bmod _
theorem i64_sub (i j : Int64) : (i - j).toInt = w64 (i.toInt - j.toInt) := by rw [Int64.toInt_sub]; exact w64_bmod _
theorem i64_mul (i j : Int64) : (i * j).toInt = w64 (i.toInt * j.toInt) := by rw [Int64.toInt_mul]; exact w64_bmod _
theorem i64_div (i j : Int64) : (i / j).toInt = w64 (i.toInt.tdiv j.toInt) := by rw [Int64.toInt_div]; exact w64_bmod _
theorem i32_ofInt (n : Int) : (Int32.ofInt n).toInt = w32 n := by rw [Int32.toInt_ofInt]; exact w32_bmod _
theorem i32_eq {i j : Int32} : i = j ↔ i.toInt = j.toInt := Int32.toInt_inj.symm
theorem i32_lt {i j : Int32} : i < j ↔ i.toInt < j.toInt := Int32.lt_iff_toInt_lt
theorem i32_le {i j : Int32} : i ≤ j ↔ i.toInt ≤ j.toInt := Int32.le_iff_toInt_le
theorem i32_z : (0 : Int32).toInt = 0 := by decide
theorem vp_in_i {i : Int32} {n : Nat} (h : 0 ≤ i.toInt ∧ i.toInt < (n : Int)) : vp_in i n := vp_in_iff.mpr h
theorem i32_cl {i : Int32} (h : 0 ≤ i.toInt) : i.toNatClampNeg = i.toInt.toNat := rfl
theorem dset_same (D : DT) (a : Nat) (f : Nat → Int) : dset D a f a = f := by simp [dset]
theorem dset_ne (D : DT) {a b : Nat} (f : Nat → Int) (h : b ≠ a) : dset D a f b = D b := by simp [dset, h]
def adr (b t : Nat) (ws : va_W) (k : Nat) : Nat := match k with
  | 0 => b
  | 1 => t
  | k + 2 => match ws[k]? with
    | some q => q.1
    | none => 0
def rvl (ad : Nat → Nat) (n : Nat) (a : AV) (v : Value) : Prop := match a with
  | .inl x => ∃ i : Int32, v = .int i ∧ i.toInt = x
  | .inr (.inl x) => ∃ i : Int64, v = .long i ∧ i.toInt = x
  | .inr (.inr k) => k < n ∧ v = .ref (ad k)
def rvs (ad : Nat → Nat) (n : Nat) : List AV → List Value → Prop
  | [], [] => True
  | a :: S, v :: st => rvl ad n a v ∧ rvs ad n S st
  | _, _ => False
theorem rvs_cons {ad : Nat → Nat} {n : Nat} {a : AV} {S : List AV} {st : List Value} (h : rvs ad n (a :: S) st) : ∃ v st', st = v :: st' ∧ rvl ad n a v ∧ rvs ad n S st' := by
  cases st with
  | nil => exact h.elim
  | cons v st => exact ⟨v, st, rfl, h.1, h.2⟩
theorem rvs_nil {ad : Nat → Nat} {n : Nat} {st : List Value} (h : rvs ad n [] st) : st = [] := by
  cases st with
  | nil => rfl
  | cons v st => exact h.elim
theorem rvs_int {ad : Nat → Nat} {n : Nat} {x : Int} {S : List AV} {st : List Value} (h : rvs ad n (.inl x :: S) st) : ∃ (i : Int32) (st' : List Value), st = .int i :: st' ∧ i.toInt = x ∧ rvs ad n S st' := by
  obtain ⟨v, st', rfl, ⟨i, rfl, hi⟩, h2⟩ := rvs_cons h
  exact ⟨i, st', rfl, hi, h2⟩
theorem rvs_long {ad : Nat → Nat} {n : Nat} {x : Int} {S : List AV} {st : List Value} (h : rvs ad n (.inr (.inl x) :: S) st) : ∃ (i : Int64) (st' : List Value), st = .long i :: st' ∧ i.toInt = x ∧ rvs ad n S st' := by
  obtain ⟨v, st', rfl, ⟨i, rfl, hi⟩, h2⟩ := rvs_cons h
  exact ⟨i, st', rfl, hi, h2⟩
theorem rvs_ref {ad : Nat → Nat} {n k : Nat} {S : List AV} {st : List Value} (h : rvs ad n (.inr (.inr k) :: S) st) : ∃ (st' : List Value), st = .ref (ad k) :: st' ∧ k < n ∧ rvs ad n S st' := by
  obtain ⟨v, st', rfl, ⟨h1, rfl⟩, h2⟩ := rvs_cons h
  exact ⟨st', rfl, h1, h2⟩
theorem rvl_mono {ad ad' : Nat → Nat} {n n' : Nat} (h : ∀ k, k < n → ad' k = ad k) (hn : n ≤ n') {a : AV} {v : Value} (h1 : rvl ad n a v) : rvl ad' n' a v := by
  match a, h1 with
  | .inl x, h1 => exact h1
  | .inr (.inl x), h1 => exact h1
  | .inr (.inr k), h1 => exact ⟨Nat.lt_of_lt_of_le h1.1 hn, by rw [h1.2, h k h1.1]⟩
theorem rvs_mono {ad ad' : Nat → Nat} {n n' : Nat} (h : ∀ k, k < n → ad' k = ad k) (hn : n ≤ n') : ∀ {S : List AV} {st : List Value}, rvs ad n S st → rvs ad' n' S st
  | [], [], _ => trivial
  | [], _ :: _, h1 => h1.elim
  | _ :: _, [], h1 => h1.elim
  | _ :: _, _ :: _, h1 => ⟨rvl_mono h hn h1.1, rvs_mono h hn h1.2⟩
theorem rvs_app {ad : Nat → Nat} {n : Nat} : ∀ {S1 S2 : List AV} {st : List Value}, rvs ad n (S1 ++ S2) st → ∃ s1 s2, st = s1 ++ s2 ∧ rvs ad n S1 s1 ∧ rvs ad n S2 s2
  | [], S2, st, h => ⟨[], st, rfl, trivial, h⟩
  | a :: S1, S2, [], h => h.elim
  | a :: S1, S2, v :: st, h => by
    obtain ⟨s1, s2, e, h1, h2⟩ := rvs_app (S1 := S1) (S2 := S2) (st := st) h.2
    exact ⟨v :: s1, s2, by rw [e]; rfl, ⟨h.1, h1⟩, h2⟩
theorem rvs_app2 {ad : Nat → Nat} {n : Nat} : ∀ {S1 S2 : List AV} {s1 s2 : List Value}, rvs ad n S1 s1 → rvs ad n S2 s2 → rvs ad n (S1 ++ S2) (s1 ++ s2)
  | [], _, [], _, _, h => h
  | [], _, _ :: _, _, h, _ => h.elim
  | _ :: _, _, [], _, h, _ => h.elim
  | _ :: _, _, _ :: _, _, h, h2 => ⟨h.1, rvs_app2 h.2 h2⟩
theorem rvs_rev {ad : Nat → Nat} {n : Nat} : ∀ {S : List AV} {st : List Value}, rvs ad n S st → rvs ad n S.reverse st.reverse
  | [], [], _ => trivial
  | [], _ :: _, h => h.elim
  | _ :: _, [], h => h.elim
  | a :: S, v :: st, h => by
    rw [List.reverse_cons, List.reverse_cons]
    exact rvs_app2 (rvs_rev h.2) ⟨h.1, trivial⟩
theorem rvs_len {ad : Nat → Nat} {n : Nat} : ∀ {S : List AV} {st : List Value}, rvs ad n S st → S.length = st.length
  | [], [], _ => rfl
  | [], _ :: _, h => h.elim
  | _ :: _, [], h => h.elim
  | _ :: S, _ :: st, h => by rw [List.length_cons, List.length_cons, rvs_len h.2]
theorem rvs_cat {ad : Nat → Nat} {n : Nat} : ∀ {S : List AV} {st : List Value}, rvs ad n S st → (st.map fun v => v.category).sum = avw S
  | [], [], _ => rfl
  | [], _ :: _, h => h.elim
  | _ :: _, [], h => h.elim
  | .inl x :: S, v :: st, h => by
    obtain ⟨⟨i, rfl, -⟩, h2⟩ := h
    have e := rvs_cat h2
    rw [List.map_cons, List.sum_cons, e]; rfl
  | .inr (.inl x) :: S, v :: st, h => by
    obtain ⟨⟨i, rfl, -⟩, h2⟩ := h
    have e := rvs_cat h2
    rw [List.map_cons, List.sum_cons, e]; rfl
  | .inr (.inr x) :: S, v :: st, h => by
    obtain ⟨⟨-, rfl⟩, h2⟩ := h
    have e := rvs_cat h2
    rw [List.map_cons, List.sum_cons, e]; rfl
/-- the locals: what is known of them -/
def rlo (ad : Nat → Nat) (n nL : Nat) (L : List (Option AV)) (ls : Array Slot) : Prop :=
  L.length = nL ∧ ∃ lv : List (Nat × Value), lv_has ls nL lv ∧ ∀ (i : Nat) (a : AV), L[i]? = some (some a) → ∃ v, (i, v) ∈ lv ∧ rvl ad n a v
theorem rlo_mono {ad ad' : Nat → Nat} {n n' nL : Nat} (h : ∀ k, k < n → ad' k = ad k) (hn : n ≤ n') {L : List (Option AV)} {ls : Array Slot} (h1 : rlo ad n nL L ls) : rlo ad' n' nL L ls := by
  obtain ⟨e, lv, h2, h3⟩ := h1
  refine ⟨e, lv, h2, fun i a hi => ?_⟩
  obtain ⟨v, h4, h5⟩ := h3 i a hi
  exact ⟨v, h4, rvl_mono h hn h5⟩
theorem rlo_at {ad : Nat → Nat} {n nL : Nat} {L : List (Option AV)} {ls : Array Slot} (h : rlo ad n nL L ls) {i : Nat} {a : AV} (hi : L[i]? = some (some a)) : ∃ v, ls[i]? = some (.val v) ∧ rvl ad n a v := by
  obtain ⟨-, lv, h2, h3⟩ := h
  obtain ⟨v, h4, h5⟩ := h3 i a hi
  exact ⟨v, h2.2.2 (i, v) h4, h5⟩
theorem rvl_cat2 {ad : Nat → Nat} {n : Nat} {a : AV} {v : Value} (h : rvl ad n a v) (hc : v.category = 2) : ∃ x, a = .inr (.inl x) := by
  match a, h with
  | .inl x, ⟨i, e, _⟩ => rw [e] at hc; cases hc
  | .inr (.inl x), _ => exact ⟨x, rfl⟩
  | .inr (.inr k), ⟨_, e⟩ => rw [e] at hc; cases hc
/-- behind a store of one slot -/
theorem rlo_set {ad : Nat → Nat} {n nL : Nat} {L : List (Option AV)} {lv : List (Nat × Value)} {ls' : Array Slot} {i : Nat} {a : AV} {v : Value} (hL : L.length = nL) (hi : i < nL)
    (hold : ∀ (j : Nat) (a : AV), L[j]? = some (some a) → ∃ v, (j, v) ∈ lv ∧ rvl ad n a v) (hn : nlong L i = true) (hv : rvl ad n a v)
    (h' : lv_has ls' nL ((i, v) :: lv.filter (fun q => !(q.1 == i) && !(q.1 + 1 == i && q.2.category == 2)))) : rlo ad n nL (L.set i (some a)) ls' := by
  refine ⟨by rw [List.length_set]; exact hL, _, h', fun j a' hj => ?_⟩
  by_cases hji : j = i
  · subst hji
    rw [List.getElem?_set_self (by omega)] at hj
    cases hj
    exact ⟨v, List.mem_cons_self, hv⟩
  · rw [List.getElem?_set_ne (fun q => hji q.symm)] at hj
    obtain ⟨w, h1, h2⟩ := hold j a' hj
    refine ⟨w, List.mem_cons_of_mem _ (List.mem_filter.mpr ⟨h1, ?_⟩), h2⟩
    simp only [Bool.and_eq_true, Bool.not_eq_true', beq_eq_false_iff_ne, ne_eq, Bool.and_eq_false_iff]
    refine ⟨hji, ?_⟩
    by_cases hc : w.category = 2
    · left
      intro hji1
      obtain ⟨x, rfl⟩ := rvl_cat2 h2 hc
      rw [← hji1] at hn
      simp only [nlong, hj] at hn
      cases hn
    · right; exact hc
theorem rlo_setL {ad : Nat → Nat} {n nL : Nat} {L : List (Option AV)} {lv : List (Nat × Value)} {ls' : Array Slot} {i : Nat} {x : Int} {z : Int64} (hL : L.length = nL) (hi : i + 1 < nL)
    (hold : ∀ (j : Nat) (a : AV), L[j]? = some (some a) → ∃ v, (j, v) ∈ lv ∧ rvl ad n a v) (hn : nlong L i = true) (hz : z.toInt = x)
    (h' : lv_has ls' nL ((i, .long z) :: lv.filter (fun q => !(q.1 == i) && (!(q.1 == i + 1) && !(q.1 + 1 == i && q.2.category == 2))))) : rlo ad n nL ((L.set i (some (.inr (.inl x)))).set (i + 1) none) ls' := by
  refine ⟨by rw [List.length_set, List.length_set]; exact hL, _, h', fun j a' hj => ?_⟩
  by_cases hj1 : j = i + 1
  · subst hj1
    rw [List.getElem?_set_self (by rw [List.length_set]; omega)] at hj
    cases hj
  · rw [List.getElem?_set_ne (fun q => hj1 q.symm)] at hj
    by_cases hji : j = i
    · subst hji
      rw [List.getElem?_set_self (by omega)] at hj
      cases hj
      exact ⟨.long z, List.mem_cons_self, z, rfl, hz⟩
    · rw [List.getElem?_set_ne (fun q => hji q.symm)] at hj
      obtain ⟨w, h1, h2⟩ := hold j a' hj
      refine ⟨w, List.mem_cons_of_mem _ (List.mem_filter.mpr ⟨h1, ?_⟩), h2⟩
      simp only [Bool.and_eq_true, Bool.not_eq_true', beq_eq_false_iff_ne, ne_eq, Bool.and_eq_false_iff]
      refine ⟨hji, hj1, ?_⟩
      by_cases hc : w.category = 2
      · left
        intro hji1
        obtain ⟨x, rfl⟩ := rvl_cat2 h2 hc
        rw [← hji1] at hn
        simp only [nlong, hj] at hn
        cases hn
      · right; exact hc
