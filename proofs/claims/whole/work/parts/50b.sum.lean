/-! ===== sums ===== -/
def sg (f : Nat → Int) : Nat → Int
  | 0 => 0
  | n + 1 => sg f n + f n
theorem sg_congr {f g : Nat → Int} : ∀ {n : Nat}, (∀ k, k < n → f k = g k) → sg f n = sg g n
  | 0, _ => rfl
  | n + 1, h => by
    have h1 := sg_congr (n := n) (fun k hk => h k (by omega))
    have h2 := h n (by omega)
    unfold sg; rw [h1, h2]
theorem sg_add {f g : Nat → Int} : ∀ {n : Nat}, sg (fun k => f k + g k) n = sg f n + sg g n
  | 0 => rfl
  | n + 1 => by have := sg_add (f := f) (g := g) (n := n); unfold sg; omega
theorem sg_sub {f g : Nat → Int} : ∀ {n : Nat}, sg (fun k => f k - g k) n = sg f n - sg g n
  | 0 => rfl
  | n + 1 => by have := sg_sub (f := f) (g := g) (n := n); unfold sg; omega
theorem sg_neg {f : Nat → Int} : ∀ {n : Nat}, sg (fun k => - f k) n = - sg f n
  | 0 => rfl
  | n + 1 => by have := sg_neg (f := f) (n := n); unfold sg; omega
theorem sg_zero {f : Nat → Int} {n : Nat} (h : ∀ k, k < n → f k = 0) : sg f n = 0 := by
  induction n with
  | zero => rfl
  | succ n ih => unfold sg; rw [ih (fun k hk => h k (by omega)), h n (by omega)]; rfl
theorem sg_one {c : Int} {p n : Nat} (h : p < n) : sg (fun k => if p = k then c else 0) n = c := by
  induction n with
  | zero => omega
  | succ n ih =>
    unfold sg
    by_cases hp : p = n
    · subst hp
      rw [sg_zero (fun k hk => if_neg (by omega)), if_pos rfl]; omega
    · rw [ih (by omega), if_neg hp]; omega
theorem sg_le {f g : Nat → Int} : ∀ {n : Nat}, (∀ k, k < n → f k ≤ g k) → sg f n ≤ sg g n
  | 0, _ => Int.le_refl _
  | n + 1, h => by
    have h1 := sg_le (n := n) (fun k hk => h k (by omega))
    have h2 := h n (by omega)
    unfold sg; omega
theorem sg_const {f : Nat → Int} {c : Int} : ∀ {n : Nat}, (∀ k, k < n → f k ≤ c) → sg f n ≤ n * c
  | 0, _ => by simp [sg]
  | n + 1, h => by
    have h1 := sg_const (n := n) (fun k hk => h k (by omega))
    have h2 := h n (by omega)
    unfold sg
    have : ((n + 1 : Nat) : Int) * c = n * c + c := by rw [Int.natCast_add, Int.add_mul]; simp
    omega
def ls (f : Nat → Int) : List Nat → Int
  | [] => 0
  | a :: l => f a + ls f l
theorem ls_congr {f g : Nat → Int} : ∀ {l : List Nat}, (∀ a ∈ l, f a = g a) → ls f l = ls g l
  | [], _ => rfl
  | a :: l, h => by
    have h1 := ls_congr (l := l) (fun b hb => h b (List.mem_cons_of_mem _ hb))
    have h2 := h a List.mem_cons_self
    unfold ls; rw [h1, h2]
theorem ls_perm {f : Nat → Int} {l m : List Nat} (h : l.Perm m) : ls f l = ls f m := by
  induction h with
  | nil => rfl
  | cons x _ ih => unfold ls; rw [ih]
  | swap x y l => unfold ls; unfold ls; omega
  | trans _ _ h1 h2 => exact h1.trans h2
theorem ls_append {f : Nat → Int} : ∀ {l m : List Nat}, ls f (l ++ m) = ls f l + ls f m
  | [], m => by simp [ls]
  | a :: l, m => by have := ls_append (f := f) (l := l) (m := m); simp only [List.cons_append, ls]; omega
theorem ls_add {f g : Nat → Int} : ∀ {l : List Nat}, ls (fun k => f k + g k) l = ls f l + ls g l
  | [] => rfl
  | a :: l => by have := ls_add (f := f) (g := g) (l := l); simp only [ls]; omega
theorem ls_sub {f g : Nat → Int} : ∀ {l : List Nat}, ls (fun k => f k - g k) l = ls f l - ls g l
  | [] => rfl
  | a :: l => by have := ls_sub (f := f) (g := g) (l := l); simp only [ls]; omega
theorem ls_neg {f : Nat → Int} : ∀ {l : List Nat}, ls (fun k => - f k) l = - ls f l
  | [] => rfl
  | a :: l => by have := ls_neg (f := f) (l := l); simp only [ls]; omega
theorem ls_zero {f : Nat → Int} : ∀ {l : List Nat}, (∀ a ∈ l, f a = 0) → ls f l = 0
  | [], _ => rfl
  | a :: l, h => by
    have h1 := ls_zero (l := l) (fun b hb => h b (List.mem_cons_of_mem _ hb))
    have h2 := h a List.mem_cons_self
    unfold ls; omega
theorem ls_le {f g : Nat → Int} : ∀ {l : List Nat}, (∀ a ∈ l, f a ≤ g a) → ls f l ≤ ls g l
  | [], _ => Int.le_refl _
  | a :: l, h => by
    have h1 := ls_le (l := l) (fun b hb => h b (List.mem_cons_of_mem _ hb))
    have h2 := h a List.mem_cons_self
    unfold ls; omega
theorem ls_const {f : Nat → Int} {c : Int} : ∀ {l : List Nat}, (∀ a ∈ l, f a ≤ c) → ls f l ≤ l.length * c
  | [], _ => by simp [ls]
  | a :: l, h => by
    have h1 := ls_const (l := l) (fun b hb => h b (List.mem_cons_of_mem _ hb))
    have h2 := h a List.mem_cons_self
    unfold ls
    have : ((a :: l).length : Int) * c = l.length * c + c := by rw [List.length_cons, Int.natCast_add, Int.add_mul]; simp
    omega
theorem sg_ls {F : Nat → Nat → Int} {n : Nat} : ∀ {l : List Nat}, sg (fun k => ls (fun a => F a k) l) n = ls (fun a => sg (fun k => F a k) n) l
  | [] => sg_zero (fun _ _ => rfl)
  | a :: l => by
    have := sg_ls (F := F) (n := n) (l := l)
    simp only [ls]
    rw [sg_add, this]
theorem ls_sg {f : Nat → Int} : ∀ {n : Nat}, ls f (List.range n) = sg f n
  | 0 => rfl
  | n + 1 => by
    rw [List.range_succ, ls_append, ls_sg]
    simp [ls, sg]
theorem ls_filter {f : Nat → Int} {p : Nat → Bool} : ∀ {l : List Nat}, ls f (l.filter p) = ls (fun a => if p a then f a else 0) l
  | [] => rfl
  | a :: l => by
    have := ls_filter (f := f) (p := p) (l := l)
    by_cases h : p a
    · rw [List.filter_cons_of_pos h]; simp only [ls, this, h, if_true]
    · rw [List.filter_cons_of_neg h]; simp only [ls, this, h, if_false]; simp
/-- a sum over a list without repeats is a sum over all numbers -/
theorem ls_all {f : Nat → Int} {l : List Nat} {n : Nat} {p : Nat → Bool} (hn : l.Nodup) (h : ∀ a, a ∈ l ↔ a < n ∧ p a = true) : ls f l = sg (fun a => if p a then f a else 0) n := by
  rw [← ls_sg, ← ls_filter]
  refine ls_perm ((List.perm_ext_iff_of_nodup hn (List.Pairwise.filter _ List.nodup_range)).mpr (fun a => ?_))
  rw [h a, List.mem_filter, List.mem_range]
/-! ===== a wood grown arc by arc, and the flow along it ===== -/
/-- what arc a brings to place k -/
def nt (u v : Nat → Nat) (φ : Nat → Int) (k a : Nat) : Int := (if v a = k then φ a else 0) - (if u a = k then φ a else 0)
def Fo (u v : Nat → Nat) : List Nat → (Nat → Nat) → Prop
  | [], g => ∀ k, g k = k
  | a :: es, g => ∃ g', Fo u v es g' ∧ g' (u a) ≠ g' (v a) ∧ ∀ k, g k = if g' k = g' (v a) then g' (u a) else g' k
theorem fo_within {u v : Nat → Nat} : ∀ {es : List Nat} {g : Nat → Nat}, Fo u v es g → ∀ a ∈ es, g (u a) = g (v a)
  | [], _, _, a, h => by cases h
  | b :: es, g, ⟨g', hF, hne, hg⟩, a, h => by
    rw [hg, hg]
    rcases List.mem_cons.mp h with rfl | h
    · simp
    · rw [fo_within hF a h]
theorem fo_leaf {u v : Nat → Nat} : ∀ {es : List Nat} {g : Nat → Nat}, Fo u v es g → ∀ (S : Nat → Prop), (∀ a, S a → a ∈ es) → (∃ a, S a) → ∀ r : Nat, ∃ w a, w ≠ r ∧ S a ∧ (u a = w ∨ v a = w) ∧ ∀ a', S a' → (u a' = w ∨ v a' = w) → a' = a
  | [], _, _, S, hS, ⟨a, ha⟩, _ => by cases hS a ha
  | b :: es, g, ⟨g', hF, hne, hg⟩, S, hS, hex, r => by
    by_cases hb : S b
    · have hin : ∀ x, S x → x ≠ b → x ∈ es := fun x hx hxb => (List.mem_cons.mp (hS x hx)).resolve_left hxb
      by_cases hr : g' r = g' (v b)
      · by_cases hx : ∃ x, S x ∧ x ≠ b ∧ g' (u x) = g' (u b)
        · obtain ⟨w, a, h1, ⟨h2, h2b, h2c⟩, h3, h4⟩ := fo_leaf hF (fun x => S x ∧ x ≠ b ∧ g' (u x) = g' (u b)) (fun x hx => hin x hx.1 hx.2.1) hx (u b)
          have hw : g' w = g' (u b) := by
            have := fo_within hF a (hin a h2 h2b)
            rcases h3 with rfl | rfl
            · exact h2c
            · rw [← this]; exact h2c
          refine ⟨w, a, fun e => hne (by rw [← hw, e, hr]), h2, h3, fun a' ha' hw' => ?_⟩
          by_cases hab : a' = b
          · subst hab
            rcases hw' with e | e
            · exact absurd e.symm h1
            · rw [← e] at hw; exact absurd hw.symm hne
          · refine h4 a' ⟨ha', hab, ?_⟩ hw'
            have := fo_within hF a' (hin a' ha' hab)
            rcases hw' with e | e
            · rw [e]; exact hw
            · rw [this, e]; exact hw
        · refine ⟨u b, b, fun e => hne (by rw [e, hr]), hb, Or.inl rfl, fun a' ha' hw' => ?_⟩
          by_cases hab : a' = b
          · exact hab
          · exfalso
            refine hx ⟨a', ha', hab, ?_⟩
            have := fo_within hF a' (hin a' ha' hab)
            rcases hw' with e | e
            · rw [e]
            · rw [this, e]
      · by_cases hx : ∃ x, S x ∧ x ≠ b ∧ g' (u x) = g' (v b)
        · obtain ⟨w, a, h1, ⟨h2, h2b, h2c⟩, h3, h4⟩ := fo_leaf hF (fun x => S x ∧ x ≠ b ∧ g' (u x) = g' (v b)) (fun x hx => hin x hx.1 hx.2.1) hx (v b)
          have hw : g' w = g' (v b) := by
            have := fo_within hF a (hin a h2 h2b)
            rcases h3 with rfl | rfl
            · exact h2c
            · rw [← this]; exact h2c
          refine ⟨w, a, fun e => hr (by rw [← e, hw]), h2, h3, fun a' ha' hw' => ?_⟩
          by_cases hab : a' = b
          · subst hab
            rcases hw' with e | e
            · rw [← e] at hw; exact absurd hw hne
            · exact absurd e.symm h1
          · refine h4 a' ⟨ha', hab, ?_⟩ hw'
            have := fo_within hF a' (hin a' ha' hab)
            rcases hw' with e | e
            · rw [e]; exact hw
            · rw [this, e]; exact hw
        · refine ⟨v b, b, fun e => hr (by rw [← e]), hb, Or.inr rfl, fun a' ha' hw' => ?_⟩
          by_cases hab : a' = b
          · exact hab
          · exfalso
            refine hx ⟨a', ha', hab, ?_⟩
            have := fo_within hF a' (hin a' ha' hab)
            rcases hw' with e | e
            · rw [e]
            · rw [this, e]
    · exact fo_leaf hF S (fun a ha => (List.mem_cons.mp (hS a ha)).resolve_left (fun e => hb (e ▸ ha))) hex r
theorem sg_if {p : Nat → Bool} {d : Nat → Int} {c : Int} {x n : Nat} (hx : x < n) : sg (fun k => if p k then (if x = k then c else 0) else 0) n = if p x then c else 0 := by
  by_cases h : p x
  · rw [if_pos h]
    refine Eq.trans (sg_congr (fun k _ => ?_)) (sg_one (c := c) hx)
    by_cases hk : x = k
    · subst hk; simp [h]
    · simp [hk]
  · rw [if_neg h]
    refine sg_zero (fun k _ => ?_)
    by_cases hk : x = k
    · subst hk; simp [h]
    · simp [hk]
/-- along a wood every want that sums up to 0 in each part is met by a flow, each arc's the want of some places -/
theorem fo_exist {u v : Nat → Nat} {N : Nat} : ∀ {es : List Nat} {g : Nat → Nat}, Fo u v es g → es.Nodup → (∀ a ∈ es, u a < N ∧ v a < N) → ∀ d : Nat → Int, (∀ l : Nat, sg (fun k => if (g k == l) then d k else 0) N = 0) → ∃ φ : Nat → Int, (∀ k, k < N → ls (nt u v φ k) es = d k) ∧ ∀ a ∈ es, ∃ s : Nat → Bool, (∀ k, s k = true → g k = g (u a)) ∧ (φ a = sg (fun k => if s k then d k else 0) N ∨ φ a = - sg (fun k => if s k then d k else 0) N)
  | [], g, hF, _, _, d, hd => by
    refine ⟨fun _ => 0, fun k hk => ?_, fun a h => by cases h⟩
    have h := hd k
    have e : sg (fun j => if (g j == k) then d j else 0) N = d k := by
      rw [← sg_one (c := d k) hk]
      refine sg_congr (fun j _ => ?_)
      rw [hF j]
      by_cases hj : j = k
      · subst hj; simp
      · have : ¬ k = j := fun e => hj e.symm
        simp [hj, this]
    rw [← e, h]; rfl
  | b :: es, g, ⟨g', hF, hne, hg⟩, hn, hb, d, hd => by
    have hnb : b ∉ es := (List.nodup_cons.mp hn).1
    have hub := (hb b List.mem_cons_self).1
    have hvb := (hb b List.mem_cons_self).2
    have hc0 : ∃ c : Int, c = sg (fun k => if (g' k == g' (v b)) then d k else 0) N := ⟨_, rfl⟩
    obtain ⟨c, hc⟩ := hc0
    have hsum : ∀ p : Nat → Bool, sg (fun k => if p k then (d k - (if v b = k then c else 0) + (if u b = k then c else 0)) else 0) N = sg (fun k => if p k then d k else 0) N - (if p (v b) then c else 0) + (if p (u b) then c else 0) := by
      intro p
      rw [← sg_if (d := d) hvb, ← sg_if (d := d) hub, ← sg_sub, ← sg_add]
      refine sg_congr (fun k _ => ?_)
      by_cases h : p k <;> simp [h]
    obtain ⟨φ, h1, h2⟩ := fo_exist hF (List.nodup_cons.mp hn).2 (fun a ha => hb a (List.mem_cons_of_mem _ ha)) (fun k => d k - (if v b = k then c else 0) + (if u b = k then c else 0)) (by
      intro l
      rw [hsum (fun k => g' k == l)]
      by_cases hl : g' (v b) = l
      · subst hl
        have e : (g' (u b) == g' (v b)) = false := by simpa using hne
        simp only [e, beq_self_eq_true, if_true, Bool.false_eq_true, if_false]
        omega
      · by_cases hl2 : g' (u b) = l
        · subst hl2
          have e : (g' (v b) == g' (u b)) = false := by simpa using hl
          simp only [e, beq_self_eq_true, if_true, Bool.false_eq_true, if_false]
          have h := hd (g' (u b))
          have e2 : sg (fun k => if (g k == g' (u b)) then d k else 0) N = sg (fun k => if (g' k == g' (u b)) then d k else 0) N + c := by
            rw [hc, ← sg_add]
            refine sg_congr (fun k _ => ?_)
            rw [hg k]
            by_cases q1 : g' k = g' (v b)
            · have : ¬ g' (v b) = g' (u b) := hl
              simp [q1, this]
            · by_cases q2 : g' k = g' (u b)
              · have : ¬ g' (u b) = g' (v b) := hne
                simp [q2, this]
              · simp [q1, q2]
          omega
        · have e1 : (g' (v b) == l) = false := by simpa using hl
          have e2 : (g' (u b) == l) = false := by simpa using hl2
          simp only [e1, e2, Bool.false_eq_true, if_false]
          have h := hd l
          have e3 : sg (fun k => if (g k == l) then d k else 0) N = sg (fun k => if (g' k == l) then d k else 0) N := by
            refine sg_congr (fun k _ => ?_)
            rw [hg k]
            by_cases q1 : g' k = g' (v b)
            · simp [q1, hl, hl2]
            · simp [q1]
          omega)
    refine ⟨fun x => if x = b then c else φ x, fun k hk => ?_, fun a ha => ?_⟩
    · have e : ls (nt u v (fun x => if x = b then c else φ x) k) es = ls (nt u v φ k) es := by
        refine ls_congr (fun x hx => ?_)
        have : x ≠ b := fun e => hnb (e ▸ hx)
        simp [nt, this]
      have h := h1 k hk
      simp only [ls]
      rw [e, h]
      simp only [nt, if_true]
      omega
    · by_cases hab : a = b
      · subst hab
        refine ⟨fun k => g' k == g' (v a), fun k hk => ?_, Or.inl ?_⟩
        · have hk : g' k = g' (v a) := by simpa using hk
          rw [hg, hg]
          simp [hk]
        · simp only [if_true]; exact hc
      · have hae : a ∈ es := (List.mem_cons.mp ha).resolve_left hab
        obtain ⟨s, hs, hφ⟩ := h2 a hae
        rw [hsum s] at hφ
        simp only [if_neg hab]
        have hga := fo_within hF a hae
        by_cases q1 : s (v b)
        · have hv := hs _ q1
          have q2 : s (u b) = false := by
            cases h : s (u b) with
            | false => rfl
            | true => exact absurd ((hs _ h).trans hv.symm) hne
          refine ⟨fun k => (g' k == g' (v b)) && !s k, fun k hk => ?_, ?_⟩
          · have hk : g' k = g' (v b) := by
              have := (Bool.and_eq_true _ _ ▸ hk : (g' k == g' (v b)) = true ∧ _).1
              simpa using this
            rw [hg, hg, hk, ← hv]
          · have e : sg (fun k => if s k then d k else 0) N - c = - sg (fun k => if ((g' k == g' (v b)) && !s k) then d k else 0) N := by
              rw [hc, ← sg_neg, ← sg_sub]
              refine sg_congr (fun k _ => ?_)
              by_cases r1 : s k
              · have := hs _ r1
                rw [← hv] at this
                simp [r1, this]
              · by_cases r2 : g' k = g' (v b) <;> simp [r1, r2]
            simp only [q1, q2, if_true, Bool.false_eq_true, if_false] at hφ
            dsimp only
            rcases hφ with h | h
            · right; omega
            · left; omega
        · by_cases q2 : s (u b)
          · have hu := hs _ q2
            refine ⟨fun k => s k || (g' k == g' (v b)), fun k hk => ?_, ?_⟩
            · have hk2 : s k = true ∨ g' k = g' (v b) := by simpa using hk
              rw [hg, hg, ← hu]
              rcases hk2 with h | h
              · rw [hs _ h, ← hu]
              · simp [h]
            · have e : sg (fun k => if s k then d k else 0) N + c = sg (fun k => if (s k || (g' k == g' (v b))) then d k else 0) N := by
                rw [hc, ← sg_add]
                refine sg_congr (fun k _ => ?_)
                by_cases r1 : s k
                · have := hs _ r1
                  rw [← hu] at this
                  simp [r1, this, hne]
                · by_cases r2 : g' k = g' (v b) <;> simp [r1, r2]
              have q1' : s (v b) = false := by simpa using q1
              simp only [q1', q2, if_true, Bool.false_eq_true, if_false] at hφ
              dsimp only
              rcases hφ with h | h
              · left; omega
              · right; omega
          · refine ⟨s, fun k hk => ?_, ?_⟩
            · rw [hg, hg, hs _ hk]
            · have q1' : s (v b) = false := by simpa using q1
              have q2' : s (u b) = false := by simpa using q2
              simp only [q1', q2', Bool.false_eq_true, if_false] at hφ
              rcases hφ with h | h
              · left; omega
              · right; omega
