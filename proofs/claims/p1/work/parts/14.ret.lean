section EvR
variable (mt : List (List (Nat × INS) × Nat))
/-- the abstract machine's call: n bounds the steps of each body, d the depth of calls -/
def evC (n : Nat) : Nat → CALLF
  | 0, _, _, _ => none
  | d + 1, q, args, σ => match mt[q]? with
    | none => none
    | some c => run (evC n d) c.1 n 0 (args.map some ++ List.replicate (c.2 - args.length) none) [] σ
def Ret (d q : Nat) (args : List AV) (σ : ST) (res : RES) : Prop := ∃ n0, ∀ n, n0 ≤ n → evC mt n d q args σ = some res
def EvF (d : Nat) (code : List (Nat × INS)) (pc : Nat) (L : List (Option AV)) (S : List AV) (σ : ST) (res : RES) : Prop := ∃ n0, ∀ n f, n0 ≤ n → n0 ≤ f → run (evC mt n d) code f pc L S σ = some res
variable {mt : List (List (Nat × INS) × Nat)} {d : Nat} {code : List (Nat × INS)} {pc pc' : Nat} {L L' : List (Option AV)} {S S' : List AV} {σ σ' : ST} {res : RES}
theorem Ret.of {q : Nat} {args : List AV} {ml : Nat} (hm : mt[q]? = some (code, ml)) (h : EvF mt d code 0 (args.map some ++ List.replicate (ml - args.length) none) [] σ res) : Ret mt (d + 1) q args σ res := by
  obtain ⟨n0, h⟩ := h
  refine ⟨n0, fun n hn => ?_⟩
  show (match mt[q]? with
    | none => none
    | some c => run (evC mt n d) c.1 n 0 (args.map some ++ List.replicate (c.2 - args.length) none) [] σ) = some res
  rw [hm]
  exact h n n hn hn
theorem ev_go (k : Nat) (heq : ∀ call f, run call code (f + k) pc L S σ = run call code f pc' L' S' σ') (hn : EvF mt d code pc' L' S' σ' res) : EvF mt d code pc L S σ res := by
  obtain ⟨n0, h⟩ := hn
  refine ⟨n0 + k, fun n f hn hf => ?_⟩
  obtain ⟨g, rfl⟩ : ∃ g, f = g + k := ⟨f - k, by omega⟩
  rw [heq]
  exact h n g (by omega) (by omega)
theorem ev_ret (k : Nat) (heq : ∀ call f, run call code (f + k) pc L S σ = some res) : EvF mt d code pc L S σ res := by
  refine ⟨k, fun n f hn hf => ?_⟩
  obtain ⟨g, rfl⟩ : ∃ g, f = g + k := ⟨f - k, by omega⟩
  exact heq _ g
theorem ev_bind {α : Type} {X : Option α} {x : α} (hx : X = some x) (k : Nat) {L' : α → List (Option AV)} {S' : α → List AV} {σ' : α → ST} (heq : ∀ call f, run call code (f + k) pc L S σ = X.bind fun x => run call code f pc' (L' x) (S' x) (σ' x)) (hn : EvF mt d code pc' (L' x) (S' x) (σ' x) res) : EvF mt d code pc L S σ res := by
  refine ev_go k (fun call f => ?_) hn
  rw [heq, hx]
  rfl
theorem ev_bind2 {α β : Type} {X : Option α} {x : α} {Y : α → Option β} {y : β} (hx : X = some x) (hy : Y x = some y) (k : Nat) {L' : α → β → List (Option AV)} {S' : α → β → List AV} {σ' : α → β → ST} (heq : ∀ call f, run call code (f + k) pc L S σ = X.bind fun x => (Y x).bind fun y => run call code f pc' (L' x y) (S' x y) (σ' x y)) (hn : EvF mt d code pc' (L' x y) (S' x y) (σ' x y) res) : EvF mt d code pc L S σ res := by
  refine ev_go k (fun call f => ?_) hn
  rw [heq, hx]
  show (Y x).bind _ = _
  rw [hy]
  rfl
theorem ev_ift {c : Prop} {i : Decidable c} (hc : c) (k : Nat) {B : CALLF → Nat → Option RES} (heq : ∀ call f, run call code (f + k) pc L S σ = if c then run call code f pc' L' S' σ' else B call f) (hn : EvF mt d code pc' L' S' σ' res) : EvF mt d code pc L S σ res :=
  ev_go k (fun call f => by rw [heq, if_pos hc]) hn
theorem ev_iff {c : Prop} {i : Decidable c} (hc : ¬ c) (k : Nat) {B : CALLF → Nat → Option RES} (heq : ∀ call f, run call code (f + k) pc L S σ = if c then B call f else run call code f pc' L' S' σ') (hn : EvF mt d code pc' L' S' σ' res) : EvF mt d code pc L S σ res :=
  ev_go k (fun call f => by rw [heq, if_neg hc]) hn
theorem ev_tsw {x lo : Int} {dd tgt : Nat} {ts : List Int} (k : Nat) (heq : ∀ call f, run call code (f + k) pc L S σ = tsw (fun t => run call code f t L' S' σ') x dd lo ts) (ht : ∀ (g : Nat → Option RES), tsw g x dd lo ts = g tgt) (hn : EvF mt d code tgt L' S' σ' res) : EvF mt d code pc L S σ res :=
  ev_go k (fun call f => by rw [heq, ht]) hn
theorem ev_lsw {x : Int} {dd tgt : Nat} {ts : List Int} (k : Nat) (heq : ∀ call f, run call code (f + k) pc L S σ = lsw (fun t => run call code f t L' S' σ') x dd ts) (ht : ∀ (g : Nat → Option RES), lsw g x dd ts = g tgt) (hn : EvF mt d code tgt L' S' σ' res) : EvF mt d code pc L S σ res :=
  ev_go k (fun call f => by rw [heq, ht]) hn
theorem ev_call {q : Nat} {args : List AV} {r : Option AV} {σ0 σ1 : ST} (hr : Ret mt d q args σ0 (r, σ1)) (k : Nat) (heq : ∀ call f, run call code (f + k) pc L S σ = (call q args σ0).bind fun x => run call code f pc' L' (pushR x.1 S') x.2) (hn : EvF mt d code pc' L' (pushR r S') σ1 res) : EvF mt d code pc L S σ res := by
  obtain ⟨n0, h⟩ := hn
  obtain ⟨n1, h1⟩ := hr
  refine ⟨n0 + n1 + k, fun n f hn hf => ?_⟩
  obtain ⟨g, rfl⟩ : ∃ g, f = g + k := ⟨f - k, by omega⟩
  rw [heq, h1 n (by omega)]
  exact h n g (by omega) (by omega)
theorem ev_brt {X : Option Int} {x : Int} (hx : X = some x) (k : Nat) (heq : ∀ call f, run call code (f + k) pc L S σ = X.bind fun x => some (some (.inl x), σ')) : EvF mt d code pc L S σ (some (.inl x), σ') :=
  ev_ret k (fun call f => by rw [heq, hx]; rfl)
end EvR
