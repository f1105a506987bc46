/-! ===== rows of numbers in a cell; sortDown ===== -/
def Row (D : DT) (c : Nat) (l : List Nat) : Prop := ∀ (i x : Nat), l[i]? = some x → D c i = (x : Int)
theorem Row.at {D : DT} {c : Nat} {l : List Nat} (h : Row D c l) {i : Nat} (hi : i < l.length) : D c i = ((l[i] : Nat) : Int) := h i _ (List.getElem?_eq_getElem hi)
theorem Row.cg {D D' : DT} {c : Nat} {l : List Nat} (h : Row D c l) (e : D' c = D c) : Row D' c l := fun i x hx => by rw [e]; exact h i x hx
theorem Row.nil {D : DT} {c : Nat} : Row D c [] := fun i x h => by simp at h
theorem Row.snoc {D : DT} {c : Nat} {l : List Nat} (h : Row D c l) {n x : Nat} (hn : n = l.length) : Row (dput D c n (x : Int)) c (l ++ [x]) := by
  intro i y hy
  rw [dput_eq]
  by_cases hi : i = n
  · subst hi; subst hn
    simp at hy
    simp [hy]
  · rw [if_neg (fun q => hi q.2)]
    refine h i y ?_
    rw [List.getElem?_append] at hy
    split at hy
    · exact hy
    · rename_i h2
      have : i - l.length ≠ 0 := by omega
      obtain ⟨k, hk⟩ := Nat.exists_eq_succ_of_ne_zero this
      rw [hk] at hy; simp at hy
theorem Row.pre {D : DT} {c : Nat} {l m : List Nat} (h : Row D c (l ++ m)) : Row D c l := fun i x hx => h i x (by
  have hi : i < l.length := (List.getElem?_eq_some_iff.mp hx).1
  rw [List.getElem?_append_left hi]; exact hx)
theorem shl_pos {D : DT} {a : Nat} {k : Nat} {i : Int} (hi : i = k) (h : k < shLen a) : ard D a (shLen a) i = some (D a k) := ard_v k hi h
theorem s_sort {D : DT} {r0 r2 : Nat} {l : List Nat} {rk : Nat → Nat} {key : Nat → Int} (hR : Row D r0 l) (hne : r0 ≠ r2) (hl : l.length ≤ shLen r0) (hl2 : l.length < 2000) (hk : ∀ x ∈ l, x < shLen r2 ∧ D r2 x = key x) (hrk : l.Pairwise (fun x y => rk x < rk y)) : wp (m_X11_sortDown r0 (l.length : Int) r2 D) (fun D' => Fr [r0] D D' ∧ ∃ m, Ord rk key l m ∧ Row D' r0 m) := by
  unfold m_X11_sortDown
  rw [wp_bind]
  cases hl0 : l with
  | nil =>
    rw [loop_eq]
    simp [b_X11_sortDown_2, wp_some]
    exact ⟨Fr.rf, [], ⟨List.Perm.refl _, List.Pairwise.nil⟩, Row.nil⟩
  | cons z zs =>
  rw [← hl0]
  have hlen : 1 ≤ l.length := by rw [hl0]; simp
  refine wp_for l.length (fun j s => s.1 = (j : Int) ∧ 1 ≤ j ∧ Fr [r0] D s.2 ∧ ∃ m, Ord rk key (l.take j) m ∧ Row s.2 r0 (m ++ l.drop j)) hlen ⟨rfl, Nat.le_refl _, Fr.rf, l.take 1, ⟨List.Perm.refl _, ?_⟩, by rw [List.take_append_drop]; exact hR⟩ ?_
  · rw [hl0]; simp
  rintro j ⟨i, D1⟩ hj ⟨hi, hj1, hF, s, hO, hR1⟩
  simp only at hi hF hR1
  subst hi
  unfold b_X11_sortDown_2
  dsimp only
  rw [wp_ite]
  constructor
  rotate_left
  · intro hlt
    have hjl : j = l.length := by omega
    subst hjl
    rw [wp_some, gd_r, wp_some]
    rw [List.take_length] at hO
    rw [List.drop_length, List.append_nil] at hR1
    exact ⟨hF, s, hO, hR1⟩
  intro hlt
  have hjl : j < l.length := by omega
  have hsl : s.length = j := by rw [hO.1.length_eq, List.length_take]; omega
  have hx : D1 r0 j = ((l[j] : Nat) : Int) := hR1 j _ (by rw [List.getElem?_append_right (by omega), hsl]; simp)
  rw [ard_n (by omega), Option.bind_some, hx, wp_bind]
  have hxm : l[j] ∈ l := List.getElem_mem hjl
  have hsm : ∀ y ∈ s, y ∈ l := fun y hy => List.mem_of_mem_take (hO.1.mem_iff.mp hy)
  have hkx := hk _ hxm
  have hrs : ∀ y ∈ s, rk y < rk l[j] := by
    intro y hy
    obtain ⟨i, hi, rfl⟩ := List.mem_take_iff_getElem.mp (hO.1.mem_iff.mp hy)
    exact List.pairwise_iff_getElem.mp hrk i j (by omega) hjl (by omega)
  have hr2 : D1 r2 = D r2 := hF r2 (by simp; exact fun e => hne e.symm)
  refine wp_loop (fun q t => t.1 = (q : Int) ∧ q ≤ j ∧ Fr [r0] D1 t.2 ∧ (∀ i y, i < q → s[i]? = some y → t.2 r0 i = (y : Int)) ∧ (∀ i y, q < i → i ≤ j → s[i - 1]? = some y → t.2 r0 i = (y : Int)) ∧ (∀ i, j < i → t.2 r0 i = D1 r0 i) ∧ ∀ y ∈ s.drop q, key y < key l[j]) ?_ j _ ⟨rfl, Nat.le_refl _, Fr.rf, ?_, ?_, ?_, ?_⟩
  · rintro q ⟨p, D2⟩ ⟨hp, hqj, hF2, ha, hb, hc, hd⟩
    simp only at hp hF2 ha hb hc
    subst hp
    unfold b_X11_sortDown_15
    dsimp only
    have hfin : (∀ y, s[q - 1]? = some y → 0 < q → key l[j] ≤ key y) → gd (Sum.inr (α := Int × DT) ((q : Int), D2)) (fun s' => ∃ m, m < q ∧ s'.1 = (m : Int) ∧ m ≤ j ∧ Fr [r0] D1 s'.2 ∧ (∀ i y, i < m → s[i]? = some y → s'.2 r0 i = (y : Int)) ∧ (∀ i y, m < i → i ≤ j → s[i - 1]? = some y → s'.2 r0 i = (y : Int)) ∧ (∀ i, j < i → s'.2 r0 i = D1 r0 i) ∧ ∀ y ∈ s.drop m, key y < key l[j]) (fun a => wp (match a with | (l5_13, D14) => (awr D14 r0 (shLen r0) l5_13 ((l[j] : Nat) : Int)).bind fun D15 => some (Sum.inl (β := DT) (w32 ((j : Int) + 1), D15))) (fun t => gd t (fun s' => j < l.length ∧ s'.1 = ((j + 1 : Nat) : Int) ∧ 1 ≤ j + 1 ∧ Fr [r0] D s'.2 ∧ ∃ m, Ord rk key (l.take (j + 1)) m ∧ Row s'.2 r0 (m ++ l.drop (j + 1))) (fun D13 => wp (some D13) (fun D' => Fr [r0] D D' ∧ ∃ m, Ord rk key l m ∧ Row D' r0 m)))) := by
      intro ht
      rw [gd_r]
      dsimp only
      rw [awr_n (by omega), Option.bind_some, wp_some, gd_l]
      refine ⟨hjl, by rw [w32_id (by omega) (by omega)]; rfl, by omega, (hF.tr hF2).put (by simp), s.take q ++ l[j] :: s.drop q, ⟨?_, ?_⟩, ?_⟩
      · refine perm_insert.trans ?_
        rw [List.take_succ_eq_append_getElem hjl]
        exact hO.1.append_right _
      · exact ord_insert hO.2 hrs (by omega) hd ht
      · intro i y hy
        show dput D2 r0 q _ r0 i = _
        rw [dput_eq]
        have hlq : (s.take q).length = q := by rw [List.length_take]; omega
        have hll : (s.take q ++ l[j] :: s.drop q).length = j + 1 := by
          rw [List.length_append, List.length_cons, List.length_drop, hlq]; omega
        by_cases h1 : i = q
        · subst h1
          rw [if_pos ⟨rfl, rfl⟩]
          rw [List.getElem?_append_left (by omega), List.getElem?_append_right (by omega), hlq] at hy
          simp at hy
          rw [hy]
        · rw [if_neg (fun e => h1 e.2)]
          by_cases h2 : i < q
          · rw [List.getElem?_append_left (by omega), List.getElem?_append_left (by omega), List.getElem?_take] at hy
            rw [if_pos h2] at hy
            exact ha i y h2 hy
          · by_cases h3 : i ≤ j
            · rw [List.getElem?_append_left (by omega), List.getElem?_append_right (by omega), hlq] at hy
              refine hb i y (by omega) h3 ?_
              have e : i - q = (i - 1 - q) + 1 := by omega
              rw [e, List.getElem?_cons_succ, List.getElem?_drop] at hy
              rw [← hy]; congr 1; omega
            · rw [hc i (by omega)]
              refine hR1 i y ?_
              rw [List.getElem?_append_right (by omega), hll, List.getElem?_drop] at hy
              rw [List.getElem?_append_right (by omega), hsl, List.getElem?_drop, ← hy]
              congr 1; omega
    rw [wp_ite]
    constructor
    rotate_left
    · intro hq
      rw [wp_some]
      exact hfin (fun y _ h => by omega)
    intro hq
    have hq1 : q - 1 < s.length := by omega
    have hy := ha (q - 1) s[q - 1] (by omega) (List.getElem?_eq_getElem hq1)
    have hym := hk _ (hsm s[q - 1] (List.getElem_mem hq1))
    have hr22 : D2 r2 = D r2 := (hF2 r2 (by simp; exact fun e => hne e.symm)).trans hr2
    have ew : w32 ((q : Int) - 1) = ((q - 1 : Nat) : Int) := by rw [w32_id (by omega) (by omega)]; omega
    rw [ew, ard_n (by omega), Option.bind_some, hy, ard_n hym.1, Option.bind_some, ard_n hkx.1, Option.bind_some, hr22, hym.2, hkx.2, wp_ite]
    constructor
    rotate_left
    · intro hge
      rw [wp_some]
      refine hfin (fun y hy _ => ?_)
      have : y = s[q - 1] := by rw [List.getElem?_eq_getElem hq1] at hy; exact (Option.some.inj hy).symm
      subst this
      omega
    intro hlt2
    rw [Option.bind_some, awr_n (by omega), Option.bind_some, wp_some, gd_l]
    refine ⟨q - 1, by omega, by show w32 ((q : Int) + -1) = _; rw [w32_id (by omega) (by omega)]; omega, by omega, hF2.put (by simp), ?_, ?_, ?_, ?_⟩
    · intro i y hi hy
      show dput D2 r0 q _ r0 i = _
      rw [dput_sn D2 (by omega)]
      exact ha i y (by omega) hy
    · intro i y hi hij hy2
      show dput D2 r0 q _ r0 i = _
      by_cases e : i = q
      · subst e
        rw [dput_ss]
        rw [List.getElem?_eq_getElem hq1] at hy2
        rw [Option.some.inj hy2]
      · rw [dput_sn D2 e]
        exact hb i y (by omega) hij hy2
    · intro i hi
      show dput D2 r0 q _ r0 i = _
      rw [dput_sn D2 (by omega)]
      exact hc i hi
    · intro y hy2
      rw [List.drop_eq_getElem_cons hq1] at hy2
      rcases List.mem_cons.mp hy2 with rfl | h
      · exact hlt2
      · have e : q - 1 + 1 = q := by omega
        rw [e] at h
        exact hd y h
  · intro i y hi hy
    exact hR1 i y (by rw [List.getElem?_append_left (by omega)]; exact hy)
  · intro i y hi hij hy; omega
  · intro i hi; rfl
  · intro y hy
    rw [List.drop_eq_nil_of_le (by omega)] at hy
    cases hy
