/-! ===== JUMPS that are saved; Chains.join ===== -/
theorem gtD {l : List Nat} {i d : Nat} (h : i < l.length) : l.getD i d = l[i] := by simp [List.getD, List.getElem?_eq_getElem h]
def wh (x : Int) : Int := if x < 0 then 0 else x
theorem wh_nn {x : Int} : 0 ≤ wh x := by unfold wh; split <;> omega
theorem wh_bd {P : PG} (w : WF P) {a : Nat} (ha : a < P 0 2) : 0 ≤ wh (phi P a) ∧ wh (phi P a) ≤ 1759824 := by
  have := phi_bd w ha
  unfold wh; split <;> constructor <;> omega
/-- JUMPS saved if y stands right behind x -/
noncomputable def sv (P : PG) (x y : Nat) : Int := sg (fun i => if P 10 (P 8 x + i) = y then wh (phi P (P 8 x + i)) else 0) (ac P x)
theorem sv_bd {P : PG} (w : WF P) {x y : Nat} (hx : x < P 0 1) : 0 ≤ sv P x y ∧ sv P x y ≤ 3519648 := by
  have h1 := w.ffh x hx
  have h2 := ac_le (P := P) (b := x)
  have hb : ∀ i, i < ac P x → 0 ≤ (if P 10 (P 8 x + i) = y then wh (phi P (P 8 x + i)) else 0) ∧ (if P 10 (P 8 x + i) = y then wh (phi P (P 8 x + i)) else 0) ≤ 1759824 := fun i hi => by
    have := wh_bd w (a := P 8 x + i) (by omega)
    split <;> constructor <;> omega
  constructor
  · have := sg_le (n := ac P x) (f := fun _ => 0) (g := fun i => if P 10 (P 8 x + i) = y then wh (phi P (P 8 x + i)) else 0) (fun i hi => (hb i hi).1)
    rw [sg_zero (fun _ _ => rfl)] at this
    exact this
  · have := sg_const (n := ac P x) (c := 1759824) (f := fun i => if P 10 (P 8 x + i) = y then wh (phi P (P 8 x + i)) else 0) (fun i hi => (hb i hi).2)
    unfold sv
    omega
/-- flows of all arcs of block x are known -/
theorem s_worth {D : DT} {P : PG} (w : WF P) {a : Nat} (ha : a < P 0 2) (hD : D 123 a = phi P a) : m_X2_worth (a : Int) D = some (wh (phi P a)) := by
  have := w.a88
  unfold m_X2_worth
  rw [ard_n (by omega), Option.bind_some, hD]; rfl
theorem s_saved {D : DT} {P : PG} (w : WF P) (d : DevP D 4 P) {x y : Nat} (hx : x < P 0 1) (hy : y < P 0 1) (hD : ∀ a, a < P 0 2 → fn P a = P 4 x → D 123 a = phi P a) : m_X2_saved (x : Int) (y : Int) D = some (sv P x y) := by
  have h40 := w.b40; have h88 := w.a88
  have h1 := w.ffh x hx; have h2 := ac_le (P := P) (b := x); have h3 := w.ffl x hx
  have hsv := sv_bd w (y := y) hx
  have hfn : ∀ i, i < ac P x → fn P (P 8 x + i) = P 4 x := fun i hi => by
    unfold fn; rw [if_neg (by omega), w.fro x i hx hi]
  have hbd : ∀ i, i < ac P x → 0 ≤ (if P 10 (P 8 x + i) = y then wh (phi P (P 8 x + i)) else 0) ∧ (if P 10 (P 8 x + i) = y then wh (phi P (P 8 x + i)) else 0) ≤ 1759824 := fun i hi => by
    have := wh_bd w (a := P 8 x + i) (by omega)
    split <;> constructor <;> omega
  apply wp_eq
  unfold m_X2_saved
  rw [wp_bind]
  refine wp_for (ac P x) (fun j s => s.2 = (j : Int) ∧ s.1 = sg (fun i => if P 10 (P 8 x + i) = y then wh (phi P (P 8 x + i)) else 0) j) (Nat.zero_le _) ⟨rfl, rfl⟩ ?_
  rintro j ⟨s, jj⟩ hj ⟨g1, g2⟩
  simp only at g1 g2
  subst g1; subst g2
  unfold b_X2_saved_5
  dsimp only
  rw [s_arcsOf w d hx, Option.bind_some, wp_ite]
  constructor
  rotate_left
  · intro q
    have : j = ac P x := by omega
    subst this
    rw [wp_some, gd_r, wp_some]; rfl
  intro q
  have hj2 : j < ac P x := by omega
  have hz : P 8 x + j < 2147483648 := by omega
  have hsb := sg_bound (n := j) (B := 1759824) (f := fun i => if P 10 (P 8 x + i) = y then wh (phi P (P 8 x + i)) else 0) (fun i hi => by have := hbd i (by omega); exact ⟨by omega, this.2⟩)
  have hwj := wh_bd w (a := P 8 x + j) (by omega)
  rw [ard_n (by omega), Option.bind_some, d.fst x hx, w32_nn hz, ard_n (by omega), Option.bind_some, d.to _ (by omega), wp_bind]
  by_cases e : P 10 (P 8 x + j) = y
  · rw [if_pos (by rw [nz_ne (by omega), e]), s_worth w (by omega) (hD _ (by omega) (hfn j hj2)), Option.bind_some, wp_some, wp_some, gd_l]
    refine ⟨hj2, w32_succ (by omega), ?_⟩
    show w32 _ = sg _ j + _
    rw [w32_id (by omega) (by omega)]
    dsimp only
    rw [if_pos e]
  · rw [if_neg (fun z => e ((nz_b (by omega)).mp z)), wp_some, wp_some, gd_l]
    refine ⟨hj2, w32_succ (by omega), ?_⟩
    show _ = sg _ j + _
    dsimp only
    rw [if_neg e]; omega
/-- JUMPS saved in a row -/
noncomputable def svl (P : PG) (l : List Nat) : Int := sg (fun i => if i = 0 then 0 else sv P (l.getD (i - 1) 0) (l.getD i 0)) l.length
theorem svl_pb {P : PG} (w : WF P) {l : List Nat} (hl : ∀ k ∈ l, k < P 0 1) {n : Nat} (hn : n ≤ l.length) (h40 : l.length ≤ 40) : 0 ≤ sg (fun i => if i = 0 then 0 else sv P (l.getD (i - 1) 0) (l.getD i 0)) n ∧ sg (fun i => if i = 0 then 0 else sv P (l.getD (i - 1) 0) (l.getD i 0)) n ≤ 150000000 := by
  have hb : ∀ i, i < n → 0 ≤ (if i = 0 then 0 else sv P (l.getD (i - 1) 0) (l.getD i 0)) ∧ (if i = 0 then 0 else sv P (l.getD (i - 1) 0) (l.getD i 0)) ≤ 3519648 := fun i hi => by
    split
    · constructor <;> omega
    · exact sv_bd w (hl _ (by rw [gtD (by omega)]; exact List.getElem_mem _))
  constructor
  · have := sg_le (n := n) (f := fun _ => 0) (g := fun i => if i = 0 then 0 else sv P (l.getD (i - 1) 0) (l.getD i 0)) (fun i hi => (hb i hi).1)
    rw [sg_zero (fun _ _ => rfl)] at this
    exact this
  · have := sg_const (n := n) (c := 3519648) (f := fun i => if i = 0 then 0 else sv P (l.getD (i - 1) 0) (l.getD i 0)) (fun i hi => (hb i hi).2)
    omega
theorem s_savedBy {D : DT} {P : PG} (w : WF P) (d : DevP D 4 P) {f : Nat} (hf : f < P 0 0) (hD : ∀ a, a < P 0 2 → fn P a = f → D 123 a = phi P a) {r1 : Nat} {l : List Nat} (hl : l.length = P 1 f) (hlb : ∀ k ∈ l, blk P f k) (hr : ∀ (i x : Nat), l[i]? = some x → D r1 (P 2 f + i) = (x : Int)) : m_X0_savedBy r1 (f : Int) D = some (svl P l) := by
  have h40 := w.b40; have h8 := w.f8; have hlst := w.lst f hf; have hm1 := w.mem f hf
  apply wp_eq
  unfold m_X0_savedBy
  rw [ard_n (by omega), Option.bind_some, d.lst f hf, wp_bind]
  refine wp_for (P 1 f) (fun j s => s.2 = (j : Int) ∧ 1 ≤ j ∧ s.1 = sg (fun i => if i = 0 then 0 else sv P (l.getD (i - 1) 0) (l.getD i 0)) j) hm1 ⟨rfl, Nat.le_refl _, rfl⟩ ?_
  rintro j ⟨s, jj⟩ hj ⟨g1, g0, g2⟩
  simp only at g1 g2
  subst g1; subst g2
  unfold b_X0_savedBy_16
  dsimp only
  rw [ard_n (by omega), Option.bind_some, d.mem f hf, wp_ite]
  constructor
  rotate_left
  · intro q
    have : j = P 1 f := by omega
    subst this
    rw [wp_some, gd_r, wp_some]
    unfold svl; rw [hl]
  intro q
  have hj2 : j < P 1 f := by omega
  have hjl : j < l.length := by omega
  have hz : P 2 f + j < 2147483648 := by omega
  have e1 : w32 (w32 (((P 2 f : Nat) : Int) + (j : Int)) - 1) = ((P 2 f + (j - 1) : Nat) : Int) := by
    rw [w32_nn hz, w32_id (by omega) (by omega)]; omega
  have b1 := hlb l[j - 1] (List.getElem_mem (by omega))
  have b2 := hlb l[j] (List.getElem_mem hjl)
  have hp := svl_pb w (fun k hk => (hlb k hk).1) (n := j) (l := l) (by omega) (by omega)
  have hsv := sv_bd w (y := l[j]) b1.1
  have r1e := hr (j - 1) l[j - 1] (List.getElem?_eq_getElem (by omega))
  have r2e := hr j l[j] (List.getElem?_eq_getElem hjl)
  have hi1 : P 2 f + (j - 1) < 40 := by omega
  have hi2 : P 2 f + j < 40 := by omega
  rw [e1, w32_nn hz]
  clear e1
  rw [ard_n hi1, Option.bind_some, r1e, ard_n hi2, Option.bind_some, r2e, s_saved w d b1.1 b2.1 (fun a ha hfa => hD a ha (hfa.trans b1.2)), Option.bind_some, wp_some, gd_l]
  refine ⟨hj2, w32_succ (by omega), by omega, ?_⟩
  show w32 _ = sg _ j + _
  rw [w32_id (by omega) (by omega)]
  dsimp only
  rw [if_neg (by omega), gtD (by omega), gtD hjl]
/-! what comes of it -/
def mbs (P : PG) (f : Nat) : List Nat := (List.range (P 1 f)).map (mb P f)
theorem mbs_at {P : PG} {f i x : Nat} (h : (mbs P f)[i]? = some x) : i < P 1 f ∧ x = mb P f i := by
  unfold mbs at h
  rw [List.getElem?_map] at h
  by_cases hi : i < P 1 f
  · rw [List.getElem?_range hi] at h
    simp at h; exact ⟨hi, h.symm⟩
  · rw [List.getElem?_eq_none (by simp; omega)] at h
    simp at h
theorem mem_mbs {P : PG} (w : WF P) {f : Nat} (hf : f < P 0 0) {x : Nat} : x ∈ mbs P f ↔ blk P f x := by
  unfold mbs
  rw [List.mem_map]
  constructor
  · rintro ⟨k, hk, rfl⟩
    have hk := List.mem_range.mp hk
    exact ⟨w.mbl f k hf hk, w.mbo f k hf hk⟩
  · rintro ⟨h1, h2⟩
    obtain ⟨j, hj, e⟩ := w.cov x h1
    rw [h2] at hj e
    exact ⟨j, List.mem_range.mpr hj, e⟩
theorem mbs_len {P : PG} {f : Nat} : (mbs P f).length = P 1 f := by simp [mbs]
theorem mbs_nodup {P : PG} (w : WF P) {f : Nat} (hf : f < P 0 0) : (mbs P f).Nodup := by
  refine List.nodup_iff_pairwise_ne.mpr (List.pairwise_iff_getElem.mpr (fun i j hi hj hij => ?_))
  rw [mbs_len] at hi hj
  have := w.inc f i j hf hij hj
  simp [mbs]; omega
/-- by numbers -/
def byn (P : PG) (f : Nat) : Prop := svl P (flat P f (tkf P f)) ≤ svl P (mbs P f)
noncomputable def lin (P : PG) (f : Nat) : List Nat := @ite _ (byn P f) (Classical.propDecidable _) (mbs P f) (flat P f (tkf P f))
noncomputable def num (P : PG) (f k : Nat) : Nat := @ite _ (byn P f) (Classical.propDecidable _) 0 ((tkf P f).idxOf ((cf P f).2 k))
noncomputable def grp (P : PG) (f : Nat) : Nat := @ite _ (byn P f) (Classical.propDecidable _) 1 (tkf P f).length
def cld (P : PG) (f k : Nat) : Prop := num P f k ≠ 0 ∧ ∀ x, blk P f x → num P f x = num P f k → heat P x ≤ ((P 0 3 : Nat) : Int)
/-- all blocks stand -/
theorem flat_all {P : PG} (w : WF P) {f : Nat} (hT : TT P f (tkf P f)) (hn : nx P f (tkf P f) < 0) (hs : ∃ r, Sel (Cd P f (flat P f (tkf P f))) (fun h => lmin ((cf P f).1 h)) (bd P f (flat P f (tkf P f))) r) {k : Nat} (hk : blk P f k) : k ∈ flat P f (tkf P f) := by
  have ci := ci_cf (P := P) (f := f)
  by_cases hne : tkf P f = []
  · rw [hne] at hn
    have : nx P f [] = ((mb P f 0 : Nat) : Int) := if_pos rfl
    omega
  · obtain ⟨r, hr⟩ := hs
    have e : nx P f (tkf P f) = r := by
      unfold nx; rw [if_neg hne]; exact sel1_eq hr
    rcases hr with ⟨_, z⟩ | ⟨m, e2, _⟩
    · rw [mem_flat hT]
      by_cases q : (cf P f).2 k ∈ tkf P f
      · exact q
      · exfalso
        refine z ((cf P f).2 k) ⟨(cf_blk w (ci.1 k)).mp hk, ci.hh k, fun y => q ?_⟩
        rw [mem_flat hT, ci.hh k] at y
        exact y
    · omega
