/-! ===== the pure part: what an Option comes to ===== -/
def wp {α : Type} (o : Option α) (Q : α → Prop) : Prop := ∃ a, o = some a ∧ Q a
theorem wp_some {α : Type} {a : α} {Q : α → Prop} : wp (some a) Q ↔ Q a :=
  ⟨fun ⟨_, h, q⟩ => Option.some.inj h ▸ q, fun q => ⟨a, rfl, q⟩⟩
theorem wp_bind {α β : Type} {o : Option α} {f : α → Option β} {Q : β → Prop} : wp (o.bind f) Q ↔ wp o (fun a => wp (f a) Q) := by
  constructor
  · rintro ⟨b, h, q⟩
    obtain ⟨a, ha, hb⟩ := Option.bind_eq_some_iff.mp h
    exact ⟨a, ha, b, hb, q⟩
  · rintro ⟨a, ha, b, hb, q⟩
    exact ⟨b, by rw [ha]; exact hb, q⟩
theorem wp_mono {α : Type} {o : Option α} {Q R : α → Prop} (h : wp o Q) (hq : ∀ a, Q a → R a) : wp o R := by
  obtain ⟨a, ha, q⟩ := h
  exact ⟨a, ha, hq a q⟩
theorem wp_ite {α : Type} {c : Prop} {i : Decidable c} {A B : Option α} {Q : α → Prop} : wp (if c then A else B) Q ↔ (c → wp A Q) ∧ (¬ c → wp B Q) := by
  by_cases hc : c
  · rw [if_pos hc]; exact ⟨fun h => ⟨fun _ => h, fun n => absurd hc n⟩, fun h => h.1 hc⟩
  · rw [if_neg hc]; exact ⟨fun h => ⟨fun n => absurd n hc, fun _ => h⟩, fun h => h.2 hc⟩
theorem wp_pos {α : Type} {c : Prop} {i : Decidable c} {A B : Option α} {Q : α → Prop} (hc : c) (h : wp A Q) : wp (if c then A else B) Q := by
  rw [if_pos hc]; exact h
theorem wp_neg {α : Type} {c : Prop} {i : Decidable c} {A B : Option α} {Q : α → Prop} (hc : ¬ c) (h : wp B Q) : wp (if c then A else B) Q := by
  rw [if_neg hc]; exact h
theorem wp_eq {α : Type} {o : Option α} {a : α} (h : wp o (fun x => x = a)) : o = some a := by
  obtain ⟨b, hb, rfl⟩ := h
  exact hb
theorem wp_of {α : Type} {o : Option α} {a : α} {Q : α → Prop} (h : o = some a) (q : Q a) : wp o Q := ⟨a, h, q⟩
def gd {σ ρ : Type} (t : σ ⊕ ρ) (P : σ → Prop) (Q : ρ → Prop) : Prop := match t with
  | .inl s => P s
  | .inr r => Q r
theorem gd_l {σ ρ : Type} {s : σ} {P : σ → Prop} {Q : ρ → Prop} : gd (.inl s) P Q ↔ P s := Iff.rfl
theorem gd_r {σ ρ : Type} {r : ρ} {P : σ → Prop} {Q : ρ → Prop} : gd (.inr r) P Q ↔ Q r := Iff.rfl
/-- a loop by a measure that falls -/
theorem wp_loop {σ ρ : Type} {body : σ → Option (σ ⊕ ρ)} {Q : ρ → Prop} (I : Nat → σ → Prop) (h : ∀ n s, I n s → wp (body s) (fun t => gd t (fun s' => ∃ m, m < n ∧ I m s') Q)) : ∀ (n : Nat) (s : σ), I n s → wp (loop body s) Q := by
  intro n
  induction n using Nat.strongRecOn with
  | ind n ih =>
    intro s hs
    obtain ⟨t, ht, q⟩ := h n s hs
    rw [loop_eq, ht]
    cases t with
    | inl s' =>
      obtain ⟨m, hm, hI⟩ := q
      exact ih m hm s' hI
    | inr r => exact ⟨r, rfl, q⟩
/-- a loop that counts up to N -/
theorem wp_for {σ ρ : Type} {body : σ → Option (σ ⊕ ρ)} {Q : ρ → Prop} (N : Nat) (I : Nat → σ → Prop) {k : Nat} {s : σ} (hk : k ≤ N) (hs : I k s) (h : ∀ j s, j ≤ N → I j s → wp (body s) (fun t => gd t (fun s' => j < N ∧ I (j + 1) s') Q)) : wp (loop body s) Q := by
  refine wp_loop (fun n s => ∃ j, j ≤ N ∧ n = N - j ∧ I j s) ?_ (N - k) s ⟨k, hk, rfl, hs⟩
  rintro n s ⟨j, hj, rfl, hI⟩
  refine wp_mono (h j s hj hI) ?_
  intro t q
  cases t with
  | inl s' => exact ⟨N - (j + 1), by have := q.1; omega, j + 1, q.1, rfl, q.2⟩
  | inr r => exact q
theorem w32_id {x : Int} (h1 : -2147483648 ≤ x) (h2 : x < 2147483648) : w32 x = x := by
  unfold w32; omega
theorem w64_id {x : Int} (h1 : -9223372036854775808 ≤ x) (h2 : x < 9223372036854775808) : w64 x = x := by
  unfold w64; omega
theorem w32_add (x y : Int) : w32 (w32 x + y) = w32 (x + y) := by unfold w32; omega
theorem w32_add' (x y : Int) : w32 (x + w32 y) = w32 (x + y) := by unfold w32; omega
theorem w32_sub (x y : Int) : w32 (w32 x - y) = w32 (x - y) := by unfold w32; omega
theorem w32_sub' (x y : Int) : w32 (x - w32 y) = w32 (x - y) := by unfold w32; omega
theorem w32_w (x : Int) : w32 (w32 x) = w32 x := by unfold w32; omega
theorem ard_i {D : DT} {a n : Nat} {i : Int} (h0 : 0 ≤ i) (h1 : i < (n : Int)) : ard D a n i = some (D a i.toNat) := if_pos ⟨h0, h1⟩
theorem ard_n {D : DT} {a n k : Nat} (h : k < n) : ard D a n (k : Int) = some (D a k) := by
  rw [ard_i (by omega) (by omega)]; rfl
theorem awr_i {D : DT} {a n : Nat} {i v : Int} (h0 : 0 ≤ i) (h1 : i < (n : Int)) : awr D a n i v = some (dput D a i.toNat v) := if_pos ⟨h0, h1⟩
theorem awr_n {D : DT} {a n k : Nat} {v : Int} (h : k < n) : awr D a n (k : Int) v = some (dput D a k v) := by
  rw [awr_i (by omega) (by omega)]; rfl
/-- reading and writing at an int that is a number -/
theorem ard_v {D : DT} {a n : Nat} {i : Int} (k : Nat) (hi : i = k) (h : k < n) : ard D a n i = some (D a k) := by subst hi; exact ard_n h
theorem awr_v {D : DT} {a n : Nat} {i v : Int} (k : Nat) (hi : i = k) (h : k < n) : awr D a n i v = some (dput D a k v) := by subst hi; exact awr_n h
theorem abit_0 : abit 0 = some 0 := rfl
theorem abit_1 : abit 1 = some 1 := rfl
theorem dput_at (D : DT) (a i : Nat) (v : Int) (b : Nat) : dput D a i v b = if b = a then up1 (D a) i v else D b := rfl
theorem dput_eq (D : DT) (a i : Nat) (v : Int) (b j : Nat) : dput D a i v b j = if b = a ∧ j = i then v else D b j := by
  unfold dput dset up1
  by_cases h : b = a
  · subst h; by_cases h2 : j = i <;> simp [h2]
  · simp [h]
theorem dput_ss (D : DT) (a i : Nat) (v : Int) : dput D a i v a i = v := by rw [dput_eq]; simp
theorem dput_nb (D : DT) {a i : Nat} {v : Int} {b : Nat} (h : b ≠ a) : dput D a i v b = D b := by rw [dput_at, if_neg h]
theorem dput_sn (D : DT) {a i : Nat} {v : Int} {j : Nat} (h : j ≠ i) : dput D a i v a j = D a j := by rw [dput_eq]; simp [h]
theorem dset_nb (D : DT) {a : Nat} {f : Nat → Int} {b : Nat} (h : b ≠ a) : dset D a f b = D b := if_neg h
theorem dset_s (D : DT) {a : Nat} {f : Nat → Int} : dset D a f a = f := if_pos rfl
/-- nothing but these cells is changed -/
def Fr (S : List Nat) (D D' : DT) : Prop := ∀ b, b ∉ S → D' b = D b
theorem Fr.rf {S : List Nat} {D : DT} : Fr S D D := fun _ _ => rfl
theorem Fr.tr {S : List Nat} {D E F : DT} (h : Fr S D E) (h2 : Fr S E F) : Fr S D F := fun b hb => (h2 b hb).trans (h b hb)
theorem Fr.mo {S T : List Nat} {D E : DT} (h : Fr S D E) (hs : ∀ b ∈ S, b ∈ T) : Fr T D E := fun b hb => h b (fun q => hb (hs b q))
theorem Fr.put {S : List Nat} {D E : DT} (h : Fr S D E) {a i : Nat} {v : Int} (ha : a ∈ S) : Fr S D (dput E a i v) := fun b hb => by
  rw [dput_nb E (fun q : b = a => hb (by rw [q]; exact ha))]; exact h b hb
theorem Fr.set {S : List Nat} {D E : DT} (h : Fr S D E) {a : Nat} {f : Nat → Int} (ha : a ∈ S) : Fr S D (dset E a f) := fun b hb => by
  rw [dset_nb E (fun q : b = a => hb (by rw [q]; exact ha))]; exact h b hb
theorem w32_succ {k : Nat} (h : k < 2147483647) : w32 ((k : Int) + 1) = ((k + 1 : Nat) : Int) := by
  rw [w32_id (by omega) (by omega)]; omega
theorem w32_snoc {l : List Nat} {x : Nat} (h : l.length < 2147483647) : w32 ((l.length : Int) + 1) = (((l ++ [x]).length : Nat) : Int) := by
  rw [w32_id (by omega) (by omega), List.length_append, List.length_singleton]; omega
theorem w32_nn {x y : Nat} (h : x + y < 2147483648) : w32 ((x : Int) + (y : Int)) = ((x + y : Nat) : Int) := by
  rw [w32_id (by omega) (by omega)]; omega
theorem w32_01 : w32 (0 + 1) = 1 := by
  rw [w32_id (by omega) (by omega)]; omega
