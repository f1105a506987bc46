/-! ===== arcs taken one behind another ===== -/
/-- the names of the parts behind some arcs (the latest first) -/
def kg (u v : Nat → Nat) : List Nat → Nat → Nat
  | [], k => k
  | a :: r, k => if kg u v r k = kg u v r (v a) then kg u v r (u a) else kg u v r k
/-- the arcs that were taken (the latest first) -/
def tl (u v : Nat → Nat) : List Nat → List Nat
  | [] => []
  | a :: r => if kg u v r (u a) = kg u v r (v a) then tl u v r else a :: tl u v r
theorem kg_within {u v : Nat → Nat} : ∀ {r : List Nat} {a : Nat}, a ∈ r → kg u v r (u a) = kg u v r (v a)
  | [], a, h => by cases h
  | b :: r, a, h => by
    simp only [kg]
    rcases List.mem_cons.mp h with rfl | h
    · simp
    · rw [kg_within h]
theorem tl_sub {u v : Nat → Nat} : ∀ {r : List Nat} {a : Nat}, a ∈ tl u v r → a ∈ r
  | [], a, h => by cases h
  | b :: r, a, h => by
    simp only [tl] at h
    split at h
    · exact List.mem_cons_of_mem _ (tl_sub h)
    · rcases List.mem_cons.mp h with rfl | h
      · exact List.mem_cons_self
      · exact List.mem_cons_of_mem _ (tl_sub h)
theorem tl_fo {u v : Nat → Nat} : ∀ {r : List Nat}, Fo u v (tl u v r) (kg u v r)
  | [] => fun k => rfl
  | b :: r => by
    have ih := tl_fo (u := u) (v := v) (r := r)
    simp only [tl]
    split
    · rename_i h
      have e : kg u v (b :: r) = kg u v r := by
        funext k
        simp only [kg]
        split
        · rename_i h2; rw [h2, h]
        · rfl
      rw [e]; exact ih
    · rename_i h
      exact ⟨kg u v r, ih, h, fun k => rfl⟩
theorem tl_nodup {u v : Nat → Nat} : ∀ {r : List Nat}, r.Nodup → (tl u v r).Nodup
  | [], _ => List.nodup_nil
  | b :: r, h => by
    have h2 := List.nodup_cons.mp h
    simp only [tl]
    split
    · exact tl_nodup h2.2
    · exact List.nodup_cons.mpr ⟨fun q => h2.1 (tl_sub q), tl_nodup h2.2⟩
/-- the arcs that were not taken (the latest first) -/
def rl (u v : Nat → Nat) : List Nat → List Nat
  | [] => []
  | a :: r => if kg u v r (u a) = kg u v r (v a) then a :: rl u v r else rl u v r
theorem rl_sum {u v : Nat → Nat} {f : Nat → Int} : ∀ {r : List Nat}, ls f r = ls f (tl u v r) + ls f (rl u v r)
  | [] => rfl
  | a :: r => by
    have := rl_sum (u := u) (v := v) (f := f) (r := r)
    simp only [tl, rl]
    split <;> simp only [ls] <;> omega
theorem rl_sub {u v : Nat → Nat} : ∀ {r : List Nat} {a : Nat}, a ∈ rl u v r → a ∈ r
  | [], a, h => by cases h
  | b :: r, a, h => by
    simp only [rl] at h
    split at h
    · rcases List.mem_cons.mp h with rfl | h
      · exact List.mem_cons_self
      · exact List.mem_cons_of_mem _ (rl_sub h)
    · exact List.mem_cons_of_mem _ (rl_sub h)
theorem rl_len {u v : Nat → Nat} : ∀ {r : List Nat}, (rl u v r).length ≤ r.length
  | [] => Nat.le_refl _
  | b :: r => by
    have := rl_len (u := u) (v := v) (r := r)
    simp only [rl]
    split <;> simp only [List.length_cons] <;> omega
theorem rl_not {u v : Nat → Nat} : ∀ {r : List Nat} {a : Nat}, r.Nodup → a ∈ rl u v r → a ∉ tl u v r
  | [], a, _, h => by cases h
  | b :: r, a, hn, h => by
    have hn2 := List.nodup_cons.mp hn
    simp only [rl] at h
    simp only [tl]
    split at h
    · rename_i q
      rw [if_pos q]
      rcases List.mem_cons.mp h with rfl | h
      · exact fun e => hn2.1 (tl_sub e)
      · exact rl_not hn2.2 h
    · rename_i q
      rw [if_neg q]
      intro e
      rcases List.mem_cons.mp e with rfl | e
      · exact hn2.1 (rl_sub h)
      · exact rl_not hn2.2 h e
theorem rl_in {u v : Nat → Nat} : ∀ {r : List Nat} {a : Nat}, a ∈ r → a ∉ tl u v r → a ∈ rl u v r
  | [], a, h, _ => by cases h
  | b :: r, a, h, hn => by
    simp only [tl] at hn
    simp only [rl]
    split at hn
    · rename_i q
      rw [if_pos q]
      rcases List.mem_cons.mp h with rfl | h
      · exact List.mem_cons_self
      · exact List.mem_cons_of_mem _ (rl_in h hn)
    · rename_i q
      rw [if_neg q]
      rcases List.mem_cons.mp h with rfl | h
      · exact absurd List.mem_cons_self hn
      · exact rl_in h (fun e => hn (List.mem_cons_of_mem _ e))
theorem tl_ne {u v : Nat → Nat} : ∀ {r : List Nat} {a : Nat}, a ∈ tl u v r → u a ≠ v a
  | [], a, h => by cases h
  | b :: r, a, h => by
    simp only [tl] at h
    split at h
    · exact tl_ne h
    · rename_i q
      rcases List.mem_cons.mp h with rfl | h
      · exact fun e => q (by rw [e])
      · exact tl_ne h
theorem ls_bound {f : Nat → Int} {B : Int} {l : List Nat} (h : ∀ a ∈ l, -B ≤ f a ∧ f a ≤ B) : -(l.length * B) ≤ ls f l ∧ ls f l ≤ l.length * B := by
  constructor
  · have h2 := ls_const (f := fun a => - f a) (c := B) (l := l) (fun a ha => by have := h a ha; show - f a ≤ B; omega)
    rw [ls_neg] at h2
    omega
  · exact ls_const (fun a ha => (h a ha).2)
theorem ls_erase {f : Nat → Int} {l : List Nat} {a : Nat} (h : a ∈ l) : ls f (l.erase a) = ls f l - f a := by
  have := ls_perm (f := f) (List.perm_cons_erase h)
  simp only [ls] at this
  omega
/-- how often an arc's ends are at place k -/
def ed (u v : Nat → Nat) (k a : Nat) : Int := (if u a = k then 1 else 0) + (if v a = k then 1 else 0)
theorem ed_nn {u v : Nat → Nat} {k a : Nat} : 0 ≤ ed u v k a := by unfold ed; split <;> split <;> omega
theorem ls_nn {f : Nat → Int} {l : List Nat} (h : ∀ a ∈ l, 0 ≤ f a) : 0 ≤ ls f l := by
  have := ls_le (f := fun _ => 0) (g := f) h
  rw [ls_zero (fun _ _ => rfl)] at this
  exact this
/-- the one open arc at a place tells its flow -/
theorem one_open {u v : Nat → Nat} {φ : Nat → Int} {O : List Nat} {a k : Nat} (hO : O.Nodup) (ha : a ∈ O) (hne : u a ≠ v a) (hk : u a = k ∨ v a = k) (h1 : ls (ed u v k) O = 1) : ls (nt u v φ k) O = nt u v φ k a := by
  have he : ed u v k a = 1 := by
    unfold ed
    rcases hk with e | e
    · rw [if_pos e, if_neg (fun q => hne (e.trans q.symm))]; rfl
    · rw [if_neg (fun q => hne (q.trans e.symm)), if_pos e]; rfl
  have h2 := ls_erase (f := ed u v k) ha
  have h3 := ls_erase (f := nt u v φ k) ha
  have h4 : ls (nt u v φ k) (O.erase a) = 0 := by
    refine ls_zero (fun b hb => ?_)
    have h5 : ed u v k b ≤ 0 := by
      have h6 := ls_erase (f := ed u v k) hb
      have h7 := ls_nn (f := ed u v k) (l := (O.erase a).erase b) (fun _ _ => ed_nn)
      omega
    unfold ed at h5
    unfold nt
    by_cases q1 : u b = k
    · rw [if_pos q1] at h5; split at h5 <;> omega
    · by_cases q2 : v b = k
      · rw [if_pos q2] at h5; split at h5 <;> omega
      · rw [if_neg q1, if_neg q2]; rfl
  omega
/-- a place with just one open arc -/
theorem open_one {u v : Nat → Nat} {O : List Nat} {a k : Nat} (hO : O.Nodup) (ha : a ∈ O) (hne : u a ≠ v a) (hk : u a = k ∨ v a = k) (h : ∀ b ∈ O, (u b = k ∨ v b = k) → b = a) : ls (ed u v k) O = 1 := by
  have he : ed u v k a = 1 := by
    unfold ed
    rcases hk with e | e
    · rw [if_pos e, if_neg (fun q => hne (e.trans q.symm))]; rfl
    · rw [if_neg (fun q => hne (q.trans e.symm)), if_pos e]; rfl
  have h2 := ls_erase (f := ed u v k) ha
  have h4 : ls (ed u v k) (O.erase a) = 0 := by
    refine ls_zero (fun b hb => ?_)
    have hb2 := (List.Nodup.mem_erase_iff hO).mp hb
    unfold ed
    rw [if_neg (fun q => hb2.1 (h b hb2.2 (Or.inl q))), if_neg (fun q => hb2.1 (h b hb2.2 (Or.inr q)))]; rfl
  omega
theorem sg_nt {u v : Nat → Nat} {φ : Nat → Int} {p : Nat → Bool} {N a : Nat} (hu : u a < N) (hv : v a < N) : sg (fun k => if p k then nt u v φ k a else 0) N = (if p (v a) then φ a else 0) - (if p (u a) then φ a else 0) := by
  rw [← sg_if (d := fun _ => 0) (p := p) (c := φ a) hv, ← sg_if (d := fun _ => 0) (p := p) (c := φ a) hu, ← sg_sub]
  refine sg_congr (fun k _ => ?_)
  by_cases h : p k <;> simp [h, nt]
/-- THE FLOW of arcs that were looked at one behind another: those not taken have their count, and as much comes as goes -/
theorem flow_exists {u v : Nat → Nat} {r : List Nat} {cnt : Nat → Int} (hn : r.Nodup) (hb : ∀ a ∈ r, u a < 41 ∧ v a < 41) (hc : ∀ a ∈ r, 0 ≤ cnt a ∧ cnt a ≤ 9999) (hl : r.length ≤ 88) : ∃ φ : Nat → Int, (∀ a ∈ r, a ∉ tl u v r → φ a = cnt a) ∧ (∀ k, k < 41 → ls (nt u v φ k) r = 0) ∧ ∀ a ∈ r, -1759824 ≤ φ a ∧ φ a ≤ 1759824 := by
  obtain ⟨rest, hrest⟩ : ∃ rest, rest = r.filter (fun a => decide (a ∉ tl u v r)) := ⟨_, rfl⟩
  have hrm : ∀ a, a ∈ rest ↔ a ∈ r ∧ a ∉ tl u v r := fun a => by rw [hrest, List.mem_filter]; simp
  have hrn : rest.Nodup := by rw [hrest]; exact List.Pairwise.filter _ hn
  have hrl : rest.length ≤ 88 := Nat.le_trans (by rw [hrest]; exact List.length_filter_le _ _) hl
  have hperm : r.Perm (tl u v r ++ rest) := by
    refine (List.perm_ext_iff_of_nodup hn ?_).mpr (fun a => ?_)
    · refine List.nodup_append.mpr ⟨tl_nodup hn, hrn, ?_⟩
      intro a ha b hb2 e
      subst e
      exact ((hrm _).mp hb2).2 ha
    · rw [List.mem_append, hrm]
      constructor
      · intro h
        by_cases q : a ∈ tl u v r
        · exact Or.inl q
        · exact Or.inr ⟨h, q⟩
      · rintro (h | h)
        · exact tl_sub h
        · exact h.1
  obtain ⟨φ, h1, h2⟩ := fo_exist (N := 41) (tl_fo (u := u) (v := v) (r := r)) (tl_nodup hn) (fun a ha => hb a (tl_sub ha)) (fun k => - ls (nt u v cnt k) rest) (by
    intro l
    have e : sg (fun k => if (kg u v r k == l) then - ls (nt u v cnt k) rest else 0) 41 = - sg (fun k => ls (fun a => if (kg u v r k == l) then nt u v cnt k a else 0) rest) 41 := by
      rw [← sg_neg]
      refine sg_congr (fun k _ => ?_)
      by_cases h : (kg u v r k == l) = true
      · simp only [h, if_true]
      · simp only [h]
        rw [if_neg (by decide), ls_zero (fun a _ => if_neg (by decide))]; rfl
    rw [e, sg_ls, ls_zero (fun a ha => ?_)]; · rfl
    have hab := hb a ((hrm a).mp ha).1
    rw [sg_nt (p := fun k => kg u v r k == l) hab.1 hab.2, kg_within ((hrm a).mp ha).1]; omega)
  have hd : ∀ (s : Nat → Bool), -1759824 ≤ sg (fun k => if s k then - ls (nt u v cnt k) rest else 0) 41 ∧ sg (fun k => if s k then - ls (nt u v cnt k) rest else 0) 41 ≤ 1759824 := by
    intro s
    have hM : sg (fun k => ls (fun a => (if v a = k then cnt a else 0) + (if u a = k then cnt a else 0)) rest) 41 ≤ 1759824 := by
      rw [sg_ls]
      have := ls_const (f := fun a => sg (fun k => (if v a = k then cnt a else 0) + (if u a = k then cnt a else 0)) 41) (c := 19998) (l := rest) (fun a ha => by
        have hab := hb a ((hrm a).mp ha).1
        have hca := hc a ((hrm a).mp ha).1
        show sg (fun k => (if v a = k then cnt a else 0) + (if u a = k then cnt a else 0)) 41 ≤ 19998
        rw [sg_add, sg_one hab.2, sg_one hab.1]; omega)
      omega
    have hb1 : ∀ k, ls (nt u v cnt k) rest ≤ ls (fun a => (if v a = k then cnt a else 0) + (if u a = k then cnt a else 0)) rest := fun k => ls_le (fun a ha => by
      have hca := hc a ((hrm a).mp ha).1
      simp only [nt]
      split <;> split <;> omega)
    have hb2 : ∀ k, - ls (fun a => (if v a = k then cnt a else 0) + (if u a = k then cnt a else 0)) rest ≤ ls (nt u v cnt k) rest := fun k => by
      rw [← ls_neg]
      exact ls_le (fun a ha => by
        have hca := hc a ((hrm a).mp ha).1
        simp only [nt]
        split <;> split <;> omega)
    constructor
    · have := sg_le (n := 41) (f := fun k => - ls (fun a => (if v a = k then cnt a else 0) + (if u a = k then cnt a else 0)) rest) (g := fun k => if s k then - ls (nt u v cnt k) rest else 0) (fun k _ => by
        have q1 := hb1 k
        have q2 := hb2 k
        show _ ≤ ite _ _ _
        split <;> omega)
      rw [sg_neg] at this
      omega
    · have := sg_le (n := 41) (g := fun k => ls (fun a => (if v a = k then cnt a else 0) + (if u a = k then cnt a else 0)) rest) (f := fun k => if s k then - ls (nt u v cnt k) rest else 0) (fun k _ => by
        have q1 := hb1 k
        have q2 := hb2 k
        show ite _ _ _ ≤ _
        split <;> omega)
      omega
  refine ⟨fun a => if a ∈ tl u v r then φ a else cnt a, fun a _ h => if_neg h, fun k hk => ?_, fun a ha => ?_⟩
  · rw [ls_perm hperm, ls_append]
    have e1 : ls (nt u v (fun a => if a ∈ tl u v r then φ a else cnt a) k) (tl u v r) = ls (nt u v φ k) (tl u v r) := ls_congr (fun a ha => by simp only [nt, if_pos ha])
    have e2 : ls (nt u v (fun a => if a ∈ tl u v r then φ a else cnt a) k) rest = ls (nt u v cnt k) rest := ls_congr (fun a ha => by simp only [nt, if_neg ((hrm a).mp ha).2])
    rw [e1, e2, h1 k hk]; omega
  · show -1759824 ≤ ite _ _ _ ∧ ite _ _ _ ≤ (1759824 : Int)
    by_cases q : a ∈ tl u v r
    · rw [if_pos q]
      obtain ⟨s, -, h⟩ := h2 a q
      have := hd s
      rcases h with h | h <;> omega
    · rw [if_neg q]
      have := hc a ha
      omega
/-! ===== orders: the greatest key first, of like ones that of the least rank ===== -/
def bf (rk : Nat → Nat) (key : Nat → Int) (x y : Nat) : Prop := key y < key x ∨ (key x = key y ∧ rk x < rk y)
theorem bf_trans {rk : Nat → Nat} {key : Nat → Int} {x y z : Nat} (h : bf rk key x y) (h2 : bf rk key y z) : bf rk key x z := by
  unfold bf at *; omega
theorem bf_irr {rk : Nat → Nat} {key : Nat → Int} {x : Nat} (h : bf rk key x x) : False := by
  unfold bf at h; omega
theorem bf_asym {rk : Nat → Nat} {key : Nat → Int} {x y : Nat} (h : bf rk key x y) (h2 : bf rk key y x) : False := bf_irr (bf_trans h h2)
/-- a row put in order: the same ones -/
def Ord (rk : Nat → Nat) (key : Nat → Int) (l m : List Nat) : Prop := m.Perm l ∧ m.Pairwise (bf rk key)
theorem ord_det {rk : Nat → Nat} {key : Nat → Int} {l m m' : List Nat} (h : Ord rk key l m) (h' : Ord rk key l m') : m = m' :=
  List.Perm.eq_of_pairwise (le := bf rk key) (fun _ _ _ _ h1 h2 => (bf_asym h1 h2).elim) h.2 h'.2 (h.1.trans h'.1.symm)
/-- one more put in: behind all whose key is as great -/
theorem ord_insert {rk : Nat → Nat} {key : Nat → Int} {s : List Nat} {x j : Nat} (hs : s.Pairwise (bf rk key)) (hr : ∀ y ∈ s, rk y < rk x) (hj : j ≤ s.length) (hd : ∀ y ∈ s.drop j, key y < key x) (ht : ∀ y, s[j - 1]? = some y → 0 < j → key x ≤ key y) : (s.take j ++ x :: s.drop j).Pairwise (bf rk key) := by
  refine List.pairwise_append.mpr ⟨List.Pairwise.sublist (List.take_sublist _ _) hs, List.pairwise_cons.mpr ⟨fun y hy => Or.inl (hd y hy), List.Pairwise.sublist (List.drop_sublist _ _) hs⟩, ?_⟩
  have hta : ∀ a ∈ s.take j, bf rk key a x := by
    intro a ha
    obtain ⟨i, hi, rfl⟩ := List.mem_take_iff_getElem.mp ha
    have hi' : i < s.length := by omega
    have hra := hr s[i] (List.getElem_mem hi')
    have hj0 : j - 1 < s.length := by omega
    have hkl := ht s[j - 1] (List.getElem?_eq_getElem hj0) (by omega)
    by_cases hij : i = j - 1
    · subst hij
      unfold bf; omega
    · have := List.pairwise_iff_getElem.mp hs i (j - 1) hi' hj0 (by omega)
      unfold bf at *; omega
  intro a ha b hb
  rcases List.mem_cons.mp hb with rfl | hb
  · exact hta a ha
  · exact bf_trans (hta a ha) (Or.inl (hd b hb))
theorem perm_insert {s : List Nat} {x j : Nat} : (s.take j ++ x :: s.drop j).Perm (s ++ [x]) := by
  have h1 : (s.take j ++ x :: s.drop j).Perm (x :: (s.take j ++ s.drop j)) := List.perm_middle
  rw [List.take_append_drop] at h1
  exact h1.trans (List.perm_append_singleton x s).symm
/-- the one that is asked for: the greatest of those that count, -1 without any -/
def Sel (C : Nat → Prop) (rk : Nat → Nat) (key : Nat → Int) (r : Int) : Prop := (r = -1 ∧ ∀ a, ¬ C a) ∨ ∃ m : Nat, r = m ∧ C m ∧ ∀ a, C a → a ≠ m → bf rk key m a
theorem sel_det {C : Nat → Prop} {rk : Nat → Nat} {key : Nat → Int} {r r' : Int} (h : Sel C rk key r) (h' : Sel C rk key r') : r = r' := by
  rcases h with ⟨h1, h2⟩ | ⟨m, h1, h2, h3⟩
  · rcases h' with ⟨q1, q2⟩ | ⟨m', q1, q2, q3⟩
    · rw [h1, q1]
    · exact absurd q2 (h2 m')
  · rcases h' with ⟨q1, q2⟩ | ⟨m', q1, q2, q3⟩
    · exact absurd h2 (q2 m)
    · by_cases e : m = m'
      · rw [h1, q1, e]
      · exact (bf_asym (h3 m' q2 (fun x => e x.symm)) (q3 m h2 e)).elim
/-- the head of what is left of a row in order is the one that is asked for -/
theorem sel_ord {rk : Nat → Nat} {key : Nat → Int} {m : List Nat} {i : Nat} (hm : m.Pairwise (bf rk key)) {C : Nat → Prop} (hC : ∀ a, C a ↔ a ∈ m.drop i) {r : Int} (h : Sel C rk key r) : (i < m.length → ∃ h : i < m.length, r = (m[i] : Int)) ∧ (m.length ≤ i → r = -1) := by
  constructor
  · intro hi
    refine ⟨hi, sel_det h (Or.inr ⟨m[i], rfl, (hC _).mpr ?_, fun a ha hne => ?_⟩)⟩
    · rw [List.mem_drop_iff_getElem]
      exact ⟨0, by omega, by simp⟩
    · obtain ⟨j, hj, rfl⟩ := List.mem_drop_iff_getElem.mp ((hC a).mp ha)
      by_cases hj0 : j = 0
      · subst hj0; simp at hne
      · exact List.pairwise_iff_getElem.mp hm i (i + j) hi (by omega) (by omega)
  · intro hi
    refine sel_det h (Or.inl ⟨rfl, fun a ha => ?_⟩)
    rw [hC, List.drop_eq_nil_of_le hi] at ha
    cases ha
