section SoZ
variable {p : Program} {l : Launch} {e : Env} {R : Room} {s : State} {m : MethodId} {args : Array Value} {below : List Frame} {meth : Method} {c : Code} {Q : State → Prop} {cc : ByteArray} {nL o : Nat} {ini : Bool} {A : Nat → Prop} {dC : Nat → ClassId} {dI : Nat → Nat → Nat} {b t Ln : Nat} {xs : Nat → Int32} {d n0 s0 : Nat} {adq : Nat → Nat} {res : RES} {k : Nat → List (Option AV) → List AV → ST → Option RES} {call : CALLF}
variable {pc len a b' c' : Nat} {ex : List Int} {L : List (Option AV)} {S : List AV} {sh : List SC} {D : DT} {ls : Array Slot} {st : List Value} {ws : va_W} {tys : List (ClassId × FieldType)} {H : Heap} {locs : List Loc}
variable {mt : List (List (Nat × INS) × Nat)} {n rk : Nat}

theorem ss_9 (C : CXT p s m args meth c R cc nL o ini A b t Ln xs d n0 s0 res) (hk : KW p l e R s m args below meth c Q A dC dI b t Ln xs nL n0 s0 adq res k) (hmk : ∀ pc L S σ, k pc L S σ = some res → σ.1.length ≤ res.2.1.length ∧ slo σ.1 ≤ slo res.2.1) (hMA : MetA mt n d l) (hX : chkX pc o ini rk (9, len, a, b', c', ex) = true) {ins : Instr} (hI : toI pc (9, len, a, b', c', ex) = some ins) (hD : decode cc pc = .ok (ins, len)) (hm : sh.length ≤ res.2.1.length ∧ slo sh ≤ slo res.2.1) (hs : stepI (evC mt n d) (9, len, a, b', c', ex) pc L S (sh, D) k = some res) (G : GS s A dC dI b t Ln xs nL n0 s0 adq L S sh D ls st ws tys H locs) : W p l e R s m args below meth c H locs (sh.length - n0) (slo sh - s0) Q (F0 m pc ls st) := by
  have hI := Option.some.inj hI
  subst hI
  exact so_9 C hk hD (eq_of_beq hX) hs G
theorem ss_16 (C : CXT p s m args meth c R cc nL o ini A b t Ln xs d n0 s0 res) (hk : KW p l e R s m args below meth c Q A dC dI b t Ln xs nL n0 s0 adq res k) (hmk : ∀ pc L S σ, k pc L S σ = some res → σ.1.length ≤ res.2.1.length ∧ slo σ.1 ≤ slo res.2.1) (hMA : MetA mt n d l) (hX : chkX pc o ini rk (16, len, a, b', c', ex) = true) {ins : Instr} (hI : toI pc (16, len, a, b', c', ex) = some ins) (hD : decode cc pc = .ok (ins, len)) (hm : sh.length ≤ res.2.1.length ∧ slo sh ≤ slo res.2.1) (hs : stepI (evC mt n d) (16, len, a, b', c', ex) pc L S (sh, D) k = some res) (G : GS s A dC dI b t Ln xs nL n0 s0 adq L S sh D ls st ws tys H locs) : W p l e R s m args below meth c H locs (sh.length - n0) (slo sh - s0) Q (F0 m pc ls st) := by
  have hI := Option.some.inj hI
  subst hI
  exact so_16 C hk hD (eq_of_beq hX) hs G
theorem ss_17 (C : CXT p s m args meth c R cc nL o ini A b t Ln xs d n0 s0 res) (hk : KW p l e R s m args below meth c Q A dC dI b t Ln xs nL n0 s0 adq res k) (hmk : ∀ pc L S σ, k pc L S σ = some res → σ.1.length ≤ res.2.1.length ∧ slo σ.1 ≤ slo res.2.1) (hMA : MetA mt n d l) (hX : chkX pc o ini rk (17, len, a, b', c', ex) = true) {ins : Instr} (hI : toI pc (17, len, a, b', c', ex) = some ins) (hD : decode cc pc = .ok (ins, len)) (hm : sh.length ≤ res.2.1.length ∧ slo sh ≤ slo res.2.1) (hs : stepI (evC mt n d) (17, len, a, b', c', ex) pc L S (sh, D) k = some res) (G : GS s A dC dI b t Ln xs nL n0 s0 adq L S sh D ls st ws tys H locs) : W p l e R s m args below meth c H locs (sh.length - n0) (slo sh - s0) Q (F0 m pc ls st) := by
  have hI := Option.some.inj hI
  subst hI
  exact so_17 C hk hD (eq_of_beq hX) hs G
theorem ss_43 (C : CXT p s m args meth c R cc nL o ini A b t Ln xs d n0 s0 res) (hk : KW p l e R s m args below meth c Q A dC dI b t Ln xs nL n0 s0 adq res k) (hmk : ∀ pc L S σ, k pc L S σ = some res → σ.1.length ≤ res.2.1.length ∧ slo σ.1 ≤ slo res.2.1) (hMA : MetA mt n d l) (hX : chkX pc o ini rk (43, len, a, b', c', ex) = true) {ins : Instr} (hI : toI pc (43, len, a, b', c', ex) = some ins) (hD : decode cc pc = .ok (ins, len)) (hm : sh.length ≤ res.2.1.length ∧ slo sh ≤ slo res.2.1) (hs : stepI (evC mt n d) (43, len, a, b', c', ex) pc L S (sh, D) k = some res) (G : GS s A dC dI b t Ln xs nL n0 s0 adq L S sh D ls st ws tys H locs) : W p l e R s m args below meth c H locs (sh.length - n0) (slo sh - s0) Q (F0 m pc ls st) := by
  have hI := Option.some.inj hI
  subst hI
  exact so_43 C hk hD (eq_of_beq hX) hs G
theorem ss_44 (C : CXT p s m args meth c R cc nL o ini A b t Ln xs d n0 s0 res) (hk : KW p l e R s m args below meth c Q A dC dI b t Ln xs nL n0 s0 adq res k) (hmk : ∀ pc L S σ, k pc L S σ = some res → σ.1.length ≤ res.2.1.length ∧ slo σ.1 ≤ slo res.2.1) (hMA : MetA mt n d l) (hX : chkX pc o ini rk (44, len, a, b', c', ex) = true) {ins : Instr} (hI : toI pc (44, len, a, b', c', ex) = some ins) (hD : decode cc pc = .ok (ins, len)) (hm : sh.length ≤ res.2.1.length ∧ slo sh ≤ slo res.2.1) (hs : stepI (evC mt n d) (44, len, a, b', c', ex) pc L S (sh, D) k = some res) (G : GS s A dC dI b t Ln xs nL n0 s0 adq L S sh D ls st ws tys H locs) : W p l e R s m args below meth c H locs (sh.length - n0) (slo sh - s0) Q (F0 m pc ls st) := by
  have hI := Option.some.inj hI
  subst hI
  exact so_44 C hk hD (eq_of_beq hX) hs G
theorem ss_45 (C : CXT p s m args meth c R cc nL o ini A b t Ln xs d n0 s0 res) (hk : KW p l e R s m args below meth c Q A dC dI b t Ln xs nL n0 s0 adq res k) (hmk : ∀ pc L S σ, k pc L S σ = some res → σ.1.length ≤ res.2.1.length ∧ slo σ.1 ≤ slo res.2.1) (hMA : MetA mt n d l) (hX : chkX pc o ini rk (45, len, a, b', c', ex) = true) {ins : Instr} (hI : toI pc (45, len, a, b', c', ex) = some ins) (hD : decode cc pc = .ok (ins, len)) (hm : sh.length ≤ res.2.1.length ∧ slo sh ≤ slo res.2.1) (hs : stepI (evC mt n d) (45, len, a, b', c', ex) pc L S (sh, D) k = some res) (G : GS s A dC dI b t Ln xs nL n0 s0 adq L S sh D ls st ws tys H locs) : W p l e R s m args below meth c H locs (sh.length - n0) (slo sh - s0) Q (F0 m pc ls st) := by
  have hI := Option.some.inj hI
  subst hI
  exact so_45 C hk hD (eq_of_beq hX) hs G
theorem ss_32 (C : CXT p s m args meth c R cc nL o ini A b t Ln xs d n0 s0 res) (hk : KW p l e R s m args below meth c Q A dC dI b t Ln xs nL n0 s0 adq res k) (hmk : ∀ pc L S σ, k pc L S σ = some res → σ.1.length ≤ res.2.1.length ∧ slo σ.1 ≤ slo res.2.1) (hMA : MetA mt n d l) (hX : chkX pc o ini rk (32, len, a, b', c', ex) = true) {ins : Instr} (hI : toI pc (32, len, a, b', c', ex) = some ins) (hD : decode cc pc = .ok (ins, len)) (hm : sh.length ≤ res.2.1.length ∧ slo sh ≤ slo res.2.1) (hs : stepI (evC mt n d) (32, len, a, b', c', ex) pc L S (sh, D) k = some res) (G : GS s A dC dI b t Ln xs nL n0 s0 adq L S sh D ls st ws tys H locs) : W p l e R s m args below meth c H locs (sh.length - n0) (slo sh - s0) Q (F0 m pc ls st) := by
  have hI := Option.some.inj hI
  subst hI
  exact so_32 C hk hD (eq_of_beq hX) hs G
theorem ss_33 (C : CXT p s m args meth c R cc nL o ini A b t Ln xs d n0 s0 res) (hk : KW p l e R s m args below meth c Q A dC dI b t Ln xs nL n0 s0 adq res k) (hmk : ∀ pc L S σ, k pc L S σ = some res → σ.1.length ≤ res.2.1.length ∧ slo σ.1 ≤ slo res.2.1) (hMA : MetA mt n d l) (hX : chkX pc o ini rk (33, len, a, b', c', ex) = true) {ins : Instr} (hI : toI pc (33, len, a, b', c', ex) = some ins) (hD : decode cc pc = .ok (ins, len)) (hm : sh.length ≤ res.2.1.length ∧ slo sh ≤ slo res.2.1) (hs : stepI (evC mt n d) (33, len, a, b', c', ex) pc L S (sh, D) k = some res) (G : GS s A dC dI b t Ln xs nL n0 s0 adq L S sh D ls st ws tys H locs) : W p l e R s m args below meth c H locs (sh.length - n0) (slo sh - s0) Q (F0 m pc ls st) := by
  have hI := Option.some.inj hI
  subst hI
  exact so_33 C hk hD (eq_of_beq hX) hs G
theorem ss_34 (C : CXT p s m args meth c R cc nL o ini A b t Ln xs d n0 s0 res) (hk : KW p l e R s m args below meth c Q A dC dI b t Ln xs nL n0 s0 adq res k) (hmk : ∀ pc L S σ, k pc L S σ = some res → σ.1.length ≤ res.2.1.length ∧ slo σ.1 ≤ slo res.2.1) (hMA : MetA mt n d l) (hX : chkX pc o ini rk (34, len, a, b', c', ex) = true) {ins : Instr} (hI : toI pc (34, len, a, b', c', ex) = some ins) (hD : decode cc pc = .ok (ins, len)) (hm : sh.length ≤ res.2.1.length ∧ slo sh ≤ slo res.2.1) (hs : stepI (evC mt n d) (34, len, a, b', c', ex) pc L S (sh, D) k = some res) (G : GS s A dC dI b t Ln xs nL n0 s0 adq L S sh D ls st ws tys H locs) : W p l e R s m args below meth c H locs (sh.length - n0) (slo sh - s0) Q (F0 m pc ls st) := by
  have hI := Option.some.inj hI
  subst hI
  exact so_34 C hk hD (eq_of_beq hX) hs G
theorem ss_35 (C : CXT p s m args meth c R cc nL o ini A b t Ln xs d n0 s0 res) (hk : KW p l e R s m args below meth c Q A dC dI b t Ln xs nL n0 s0 adq res k) (hmk : ∀ pc L S σ, k pc L S σ = some res → σ.1.length ≤ res.2.1.length ∧ slo σ.1 ≤ slo res.2.1) (hMA : MetA mt n d l) (hX : chkX pc o ini rk (35, len, a, b', c', ex) = true) {ins : Instr} (hI : toI pc (35, len, a, b', c', ex) = some ins) (hD : decode cc pc = .ok (ins, len)) (hm : sh.length ≤ res.2.1.length ∧ slo sh ≤ slo res.2.1) (hs : stepI (evC mt n d) (35, len, a, b', c', ex) pc L S (sh, D) k = some res) (G : GS s A dC dI b t Ln xs nL n0 s0 adq L S sh D ls st ws tys H locs) : W p l e R s m args below meth c H locs (sh.length - n0) (slo sh - s0) Q (F0 m pc ls st) := by
  have hI := Option.some.inj hI
  subst hI
  exact so_35 C hk hD (eq_of_beq hX) hs G
theorem ss_31 (C : CXT p s m args meth c R cc nL o ini A b t Ln xs d n0 s0 res) (hk : KW p l e R s m args below meth c Q A dC dI b t Ln xs nL n0 s0 adq res k) (hmk : ∀ pc L S σ, k pc L S σ = some res → σ.1.length ≤ res.2.1.length ∧ slo σ.1 ≤ slo res.2.1) (hMA : MetA mt n d l) (hX : chkX pc o ini rk (31, len, a, b', c', ex) = true) {ins : Instr} (hI : toI pc (31, len, a, b', c', ex) = some ins) (hD : decode cc pc = .ok (ins, len)) (hm : sh.length ≤ res.2.1.length ∧ slo sh ≤ slo res.2.1) (hs : stepI (evC mt n d) (31, len, a, b', c', ex) pc L S (sh, D) k = some res) (G : GS s A dC dI b t Ln xs nL n0 s0 adq L S sh D ls st ws tys H locs) : W p l e R s m args below meth c H locs (sh.length - n0) (slo sh - s0) Q (F0 m pc ls st) := by
  have hI := Option.some.inj hI
  subst hI
  exact so_31 C hk hD (eq_of_beq hX) hs G
theorem ss_36 (C : CXT p s m args meth c R cc nL o ini A b t Ln xs d n0 s0 res) (hk : KW p l e R s m args below meth c Q A dC dI b t Ln xs nL n0 s0 adq res k) (hmk : ∀ pc L S σ, k pc L S σ = some res → σ.1.length ≤ res.2.1.length ∧ slo σ.1 ≤ slo res.2.1) (hMA : MetA mt n d l) (hX : chkX pc o ini rk (36, len, a, b', c', ex) = true) {ins : Instr} (hI : toI pc (36, len, a, b', c', ex) = some ins) (hD : decode cc pc = .ok (ins, len)) (hm : sh.length ≤ res.2.1.length ∧ slo sh ≤ slo res.2.1) (hs : stepI (evC mt n d) (36, len, a, b', c', ex) pc L S (sh, D) k = some res) (G : GS s A dC dI b t Ln xs nL n0 s0 adq L S sh D ls st ws tys H locs) : W p l e R s m args below meth c H locs (sh.length - n0) (slo sh - s0) Q (F0 m pc ls st) := by
  have hI := Option.some.inj hI
  subst hI
  exact so_36 C hk hD (eq_of_beq hX) hs G
theorem ss_48 (C : CXT p s m args meth c R cc nL o ini A b t Ln xs d n0 s0 res) (hk : KW p l e R s m args below meth c Q A dC dI b t Ln xs nL n0 s0 adq res k) (hmk : ∀ pc L S σ, k pc L S σ = some res → σ.1.length ≤ res.2.1.length ∧ slo σ.1 ≤ slo res.2.1) (hMA : MetA mt n d l) (hX : chkX pc o ini rk (48, len, a, b', c', ex) = true) {ins : Instr} (hI : toI pc (48, len, a, b', c', ex) = some ins) (hD : decode cc pc = .ok (ins, len)) (hm : sh.length ≤ res.2.1.length ∧ slo sh ≤ slo res.2.1) (hs : stepI (evC mt n d) (48, len, a, b', c', ex) pc L S (sh, D) k = some res) (G : GS s A dC dI b t Ln xs nL n0 s0 adq L S sh D ls st ws tys H locs) : W p l e R s m args below meth c H locs (sh.length - n0) (slo sh - s0) Q (F0 m pc ls st) := by
  have hI := Option.some.inj hI
  subst hI
  exact so_48 C hk hD (eq_of_beq hX) hs G
theorem ss_49 (C : CXT p s m args meth c R cc nL o ini A b t Ln xs d n0 s0 res) (hk : KW p l e R s m args below meth c Q A dC dI b t Ln xs nL n0 s0 adq res k) (hmk : ∀ pc L S σ, k pc L S σ = some res → σ.1.length ≤ res.2.1.length ∧ slo σ.1 ≤ slo res.2.1) (hMA : MetA mt n d l) (hX : chkX pc o ini rk (49, len, a, b', c', ex) = true) {ins : Instr} (hI : toI pc (49, len, a, b', c', ex) = some ins) (hD : decode cc pc = .ok (ins, len)) (hm : sh.length ≤ res.2.1.length ∧ slo sh ≤ slo res.2.1) (hs : stepI (evC mt n d) (49, len, a, b', c', ex) pc L S (sh, D) k = some res) (G : GS s A dC dI b t Ln xs nL n0 s0 adq L S sh D ls st ws tys H locs) : W p l e R s m args below meth c H locs (sh.length - n0) (slo sh - s0) Q (F0 m pc ls st) := by
  have hI := Option.some.inj hI
  subst hI
  exact so_49 C hk hD (eq_of_beq hX) hs G
theorem ss_30 (C : CXT p s m args meth c R cc nL o ini A b t Ln xs d n0 s0 res) (hk : KW p l e R s m args below meth c Q A dC dI b t Ln xs nL n0 s0 adq res k) (hmk : ∀ pc L S σ, k pc L S σ = some res → σ.1.length ≤ res.2.1.length ∧ slo σ.1 ≤ slo res.2.1) (hMA : MetA mt n d l) (hX : chkX pc o ini rk (30, len, a, b', c', ex) = true) {ins : Instr} (hI : toI pc (30, len, a, b', c', ex) = some ins) (hD : decode cc pc = .ok (ins, len)) (hm : sh.length ≤ res.2.1.length ∧ slo sh ≤ slo res.2.1) (hs : stepI (evC mt n d) (30, len, a, b', c', ex) pc L S (sh, D) k = some res) (G : GS s A dC dI b t Ln xs nL n0 s0 adq L S sh D ls st ws tys H locs) : W p l e R s m args below meth c H locs (sh.length - n0) (slo sh - s0) Q (F0 m pc ls st) := by
  have hI := Option.some.inj hI
  subst hI
  exact so_30 C hk hD (eq_of_beq hX) hs G
theorem ss_29 (C : CXT p s m args meth c R cc nL o ini A b t Ln xs d n0 s0 res) (hk : KW p l e R s m args below meth c Q A dC dI b t Ln xs nL n0 s0 adq res k) (hmk : ∀ pc L S σ, k pc L S σ = some res → σ.1.length ≤ res.2.1.length ∧ slo σ.1 ≤ slo res.2.1) (hMA : MetA mt n d l) (hX : chkX pc o ini rk (29, len, a, b', c', ex) = true) {ins : Instr} (hI : toI pc (29, len, a, b', c', ex) = some ins) (hD : decode cc pc = .ok (ins, len)) (hm : sh.length ≤ res.2.1.length ∧ slo sh ≤ slo res.2.1) (hs : stepI (evC mt n d) (29, len, a, b', c', ex) pc L S (sh, D) k = some res) (G : GS s A dC dI b t Ln xs nL n0 s0 adq L S sh D ls st ws tys H locs) : W p l e R s m args below meth c H locs (sh.length - n0) (slo sh - s0) Q (F0 m pc ls st) := by
  have hI := Option.some.inj hI
  subst hI
  exact so_29 C hk hD (eq_of_beq hX) hs G
theorem ss_46 (C : CXT p s m args meth c R cc nL o ini A b t Ln xs d n0 s0 res) (hk : KW p l e R s m args below meth c Q A dC dI b t Ln xs nL n0 s0 adq res k) (hmk : ∀ pc L S σ, k pc L S σ = some res → σ.1.length ≤ res.2.1.length ∧ slo σ.1 ≤ slo res.2.1) (hMA : MetA mt n d l) (hX : chkX pc o ini rk (46, len, a, b', c', ex) = true) {ins : Instr} (hI : toI pc (46, len, a, b', c', ex) = some ins) (hD : decode cc pc = .ok (ins, len)) (hm : sh.length ≤ res.2.1.length ∧ slo sh ≤ slo res.2.1) (hs : stepI (evC mt n d) (46, len, a, b', c', ex) pc L S (sh, D) k = some res) (G : GS s A dC dI b t Ln xs nL n0 s0 adq L S sh D ls st ws tys H locs) : W p l e R s m args below meth c H locs (sh.length - n0) (slo sh - s0) Q (F0 m pc ls st) := by
  have hI := Option.some.inj hI
  subst hI
  exact so_46 C hk hD (eq_of_beq hX) hs G
theorem ss_47 (C : CXT p s m args meth c R cc nL o ini A b t Ln xs d n0 s0 res) (hk : KW p l e R s m args below meth c Q A dC dI b t Ln xs nL n0 s0 adq res k) (hmk : ∀ pc L S σ, k pc L S σ = some res → σ.1.length ≤ res.2.1.length ∧ slo σ.1 ≤ slo res.2.1) (hMA : MetA mt n d l) (hX : chkX pc o ini rk (47, len, a, b', c', ex) = true) {ins : Instr} (hI : toI pc (47, len, a, b', c', ex) = some ins) (hD : decode cc pc = .ok (ins, len)) (hm : sh.length ≤ res.2.1.length ∧ slo sh ≤ slo res.2.1) (hs : stepI (evC mt n d) (47, len, a, b', c', ex) pc L S (sh, D) k = some res) (G : GS s A dC dI b t Ln xs nL n0 s0 adq L S sh D ls st ws tys H locs) : W p l e R s m args below meth c H locs (sh.length - n0) (slo sh - s0) Q (F0 m pc ls st) := by
  have hI := Option.some.inj hI
  subst hI
  exact so_47 C hk hD (eq_of_beq hX) hs G
theorem ss_18 (C : CXT p s m args meth c R cc nL o ini A b t Ln xs d n0 s0 res) (hk : KW p l e R s m args below meth c Q A dC dI b t Ln xs nL n0 s0 adq res k) (hmk : ∀ pc L S σ, k pc L S σ = some res → σ.1.length ≤ res.2.1.length ∧ slo σ.1 ≤ slo res.2.1) (hMA : MetA mt n d l) (hX : chkX pc o ini rk (18, len, a, b', c', ex) = true) {ins : Instr} (hI : toI pc (18, len, a, b', c', ex) = some ins) (hD : decode cc pc = .ok (ins, len)) (hm : sh.length ≤ res.2.1.length ∧ slo sh ≤ slo res.2.1) (hs : stepI (evC mt n d) (18, len, a, b', c', ex) pc L S (sh, D) k = some res) (G : GS s A dC dI b t Ln xs nL n0 s0 adq L S sh D ls st ws tys H locs) : W p l e R s m args below meth c H locs (sh.length - n0) (slo sh - s0) Q (F0 m pc ls st) := by
  have hI := Option.some.inj hI
  subst hI
  exact so_18 C hk hD (eq_of_beq hX) hs G
theorem ss_21 (C : CXT p s m args meth c R cc nL o ini A b t Ln xs d n0 s0 res) (hk : KW p l e R s m args below meth c Q A dC dI b t Ln xs nL n0 s0 adq res k) (hmk : ∀ pc L S σ, k pc L S σ = some res → σ.1.length ≤ res.2.1.length ∧ slo σ.1 ≤ slo res.2.1) (hMA : MetA mt n d l) (hX : chkX pc o ini rk (21, len, a, b', c', ex) = true) {ins : Instr} (hI : toI pc (21, len, a, b', c', ex) = some ins) (hD : decode cc pc = .ok (ins, len)) (hm : sh.length ≤ res.2.1.length ∧ slo sh ≤ slo res.2.1) (hs : stepI (evC mt n d) (21, len, a, b', c', ex) pc L S (sh, D) k = some res) (G : GS s A dC dI b t Ln xs nL n0 s0 adq L S sh D ls st ws tys H locs) : W p l e R s m args below meth c H locs (sh.length - n0) (slo sh - s0) Q (F0 m pc ls st) := by
  have hI := Option.some.inj hI
  subst hI
  exact so_21 C hk hD (eq_of_beq hX) hs G
theorem ss_5 (C : CXT p s m args meth c R cc nL o ini A b t Ln xs d n0 s0 res) (hk : KW p l e R s m args below meth c Q A dC dI b t Ln xs nL n0 s0 adq res k) (hmk : ∀ pc L S σ, k pc L S σ = some res → σ.1.length ≤ res.2.1.length ∧ slo σ.1 ≤ slo res.2.1) (hMA : MetA mt n d l) (hX : chkX pc o ini rk (5, len, a, b', c', ex) = true) {ins : Instr} (hI : toI pc (5, len, a, b', c', ex) = some ins) (hD : decode cc pc = .ok (ins, len)) (hm : sh.length ≤ res.2.1.length ∧ slo sh ≤ slo res.2.1) (hs : stepI (evC mt n d) (5, len, a, b', c', ex) pc L S (sh, D) k = some res) (G : GS s A dC dI b t Ln xs nL n0 s0 adq L S sh D ls st ws tys H locs) : W p l e R s m args below meth c H locs (sh.length - n0) (slo sh - s0) Q (F0 m pc ls st) := by
  have hI := Option.some.inj hI
  subst hI
  exact so_5 C hk hD (eq_of_beq hX) hs G
theorem ss_19 (C : CXT p s m args meth c R cc nL o ini A b t Ln xs d n0 s0 res) (hk : KW p l e R s m args below meth c Q A dC dI b t Ln xs nL n0 s0 adq res k) (hmk : ∀ pc L S σ, k pc L S σ = some res → σ.1.length ≤ res.2.1.length ∧ slo σ.1 ≤ slo res.2.1) (hMA : MetA mt n d l) (hX : chkX pc o ini rk (19, len, a, b', c', ex) = true) {ins : Instr} (hI : toI pc (19, len, a, b', c', ex) = some ins) (hD : decode cc pc = .ok (ins, len)) (hm : sh.length ≤ res.2.1.length ∧ slo sh ≤ slo res.2.1) (hs : stepI (evC mt n d) (19, len, a, b', c', ex) pc L S (sh, D) k = some res) (G : GS s A dC dI b t Ln xs nL n0 s0 adq L S sh D ls st ws tys H locs) : W p l e R s m args below meth c H locs (sh.length - n0) (slo sh - s0) Q (F0 m pc ls st) := by
  have hI := Option.some.inj hI
  subst hI
  exact so_19 C hk hD (eq_of_beq hX) hs G
theorem ss_50 (C : CXT p s m args meth c R cc nL o ini A b t Ln xs d n0 s0 res) (hk : KW p l e R s m args below meth c Q A dC dI b t Ln xs nL n0 s0 adq res k) (hmk : ∀ pc L S σ, k pc L S σ = some res → σ.1.length ≤ res.2.1.length ∧ slo σ.1 ≤ slo res.2.1) (hMA : MetA mt n d l) (hX : chkX pc o ini rk (50, len, a, b', c', ex) = true) {ins : Instr} (hI : toI pc (50, len, a, b', c', ex) = some ins) (hD : decode cc pc = .ok (ins, len)) (hm : sh.length ≤ res.2.1.length ∧ slo sh ≤ slo res.2.1) (hs : stepI (evC mt n d) (50, len, a, b', c', ex) pc L S (sh, D) k = some res) (G : GS s A dC dI b t Ln xs nL n0 s0 adq L S sh D ls st ws tys H locs) : W p l e R s m args below meth c H locs (sh.length - n0) (slo sh - s0) Q (F0 m pc ls st) := by
  have hI := Option.some.inj hI
  subst hI
  exact so_50 C hk hD (eq_of_beq hX) hs G
theorem ss_13 (C : CXT p s m args meth c R cc nL o ini A b t Ln xs d n0 s0 res) (hk : KW p l e R s m args below meth c Q A dC dI b t Ln xs nL n0 s0 adq res k) (hmk : ∀ pc L S σ, k pc L S σ = some res → σ.1.length ≤ res.2.1.length ∧ slo σ.1 ≤ slo res.2.1) (hMA : MetA mt n d l) (hX : chkX pc o ini rk (13, len, a, b', c', ex) = true) {ins : Instr} (hI : toI pc (13, len, a, b', c', ex) = some ins) (hD : decode cc pc = .ok (ins, len)) (hm : sh.length ≤ res.2.1.length ∧ slo sh ≤ slo res.2.1) (hs : stepI (evC mt n d) (13, len, a, b', c', ex) pc L S (sh, D) k = some res) (G : GS s A dC dI b t Ln xs nL n0 s0 adq L S sh D ls st ws tys H locs) : W p l e R s m args below meth c H locs (sh.length - n0) (slo sh - s0) Q (F0 m pc ls st) := by
  have hI := Option.some.inj hI
  subst hI
  exact so_13 C hk hD (eq_of_beq hX) hs G
theorem ss_20 (C : CXT p s m args meth c R cc nL o ini A b t Ln xs d n0 s0 res) (hk : KW p l e R s m args below meth c Q A dC dI b t Ln xs nL n0 s0 adq res k) (hmk : ∀ pc L S σ, k pc L S σ = some res → σ.1.length ≤ res.2.1.length ∧ slo σ.1 ≤ slo res.2.1) (hMA : MetA mt n d l) (hX : chkX pc o ini rk (20, len, a, b', c', ex) = true) {ins : Instr} (hI : toI pc (20, len, a, b', c', ex) = some ins) (hD : decode cc pc = .ok (ins, len)) (hm : sh.length ≤ res.2.1.length ∧ slo sh ≤ slo res.2.1) (hs : stepI (evC mt n d) (20, len, a, b', c', ex) pc L S (sh, D) k = some res) (G : GS s A dC dI b t Ln xs nL n0 s0 adq L S sh D ls st ws tys H locs) : W p l e R s m args below meth c H locs (sh.length - n0) (slo sh - s0) Q (F0 m pc ls st) := by
  have hI := Option.some.inj hI
  subst hI
  exact so_20 C hk hD (eq_of_beq hX) hs G
theorem ss_51 (C : CXT p s m args meth c R cc nL o ini A b t Ln xs d n0 s0 res) (hk : KW p l e R s m args below meth c Q A dC dI b t Ln xs nL n0 s0 adq res k) (hmk : ∀ pc L S σ, k pc L S σ = some res → σ.1.length ≤ res.2.1.length ∧ slo σ.1 ≤ slo res.2.1) (hMA : MetA mt n d l) (hX : chkX pc o ini rk (51, len, a, b', c', ex) = true) {ins : Instr} (hI : toI pc (51, len, a, b', c', ex) = some ins) (hD : decode cc pc = .ok (ins, len)) (hm : sh.length ≤ res.2.1.length ∧ slo sh ≤ slo res.2.1) (hs : stepI (evC mt n d) (51, len, a, b', c', ex) pc L S (sh, D) k = some res) (G : GS s A dC dI b t Ln xs nL n0 s0 adq L S sh D ls st ws tys H locs) : W p l e R s m args below meth c H locs (sh.length - n0) (slo sh - s0) Q (F0 m pc ls st) := by
  have hI := Option.some.inj hI
  subst hI
  exact so_51 C hk hD (eq_of_beq hX) hs G
theorem ss_22 (C : CXT p s m args meth c R cc nL o ini A b t Ln xs d n0 s0 res) (hk : KW p l e R s m args below meth c Q A dC dI b t Ln xs nL n0 s0 adq res k) (hmk : ∀ pc L S σ, k pc L S σ = some res → σ.1.length ≤ res.2.1.length ∧ slo σ.1 ≤ slo res.2.1) (hMA : MetA mt n d l) (hX : chkX pc o ini rk (22, len, a, b', c', ex) = true) {ins : Instr} (hI : toI pc (22, len, a, b', c', ex) = some ins) (hD : decode cc pc = .ok (ins, len)) (hm : sh.length ≤ res.2.1.length ∧ slo sh ≤ slo res.2.1) (hs : stepI (evC mt n d) (22, len, a, b', c', ex) pc L S (sh, D) k = some res) (G : GS s A dC dI b t Ln xs nL n0 s0 adq L S sh D ls st ws tys H locs) : W p l e R s m args below meth c H locs (sh.length - n0) (slo sh - s0) Q (F0 m pc ls st) := by
  have hI := Option.some.inj hI
  subst hI
  exact so_22 C hk hD (eq_of_beq hX) hs G
theorem ss_56 (C : CXT p s m args meth c R cc nL o ini A b t Ln xs d n0 s0 res) (hk : KW p l e R s m args below meth c Q A dC dI b t Ln xs nL n0 s0 adq res k) (hmk : ∀ pc L S σ, k pc L S σ = some res → σ.1.length ≤ res.2.1.length ∧ slo σ.1 ≤ slo res.2.1) (hMA : MetA mt n d l) (hX : chkX pc o ini rk (56, len, a, b', c', ex) = true) {ins : Instr} (hI : toI pc (56, len, a, b', c', ex) = some ins) (hD : decode cc pc = .ok (ins, len)) (hm : sh.length ≤ res.2.1.length ∧ slo sh ≤ slo res.2.1) (hs : stepI (evC mt n d) (56, len, a, b', c', ex) pc L S (sh, D) k = some res) (G : GS s A dC dI b t Ln xs nL n0 s0 adq L S sh D ls st ws tys H locs) : W p l e R s m args below meth c H locs (sh.length - n0) (slo sh - s0) Q (F0 m pc ls st) := by
  have hI := Option.some.inj hI
  subst hI
  exact so_56 C hk hD (eq_of_beq hX) hs G
theorem ss_38 (C : CXT p s m args meth c R cc nL o ini A b t Ln xs d n0 s0 res) (hk : KW p l e R s m args below meth c Q A dC dI b t Ln xs nL n0 s0 adq res k) (hmk : ∀ pc L S σ, k pc L S σ = some res → σ.1.length ≤ res.2.1.length ∧ slo σ.1 ≤ slo res.2.1) (hMA : MetA mt n d l) (hX : chkX pc o ini rk (38, len, a, b', c', ex) = true) {ins : Instr} (hI : toI pc (38, len, a, b', c', ex) = some ins) (hD : decode cc pc = .ok (ins, len)) (hm : sh.length ≤ res.2.1.length ∧ slo sh ≤ slo res.2.1) (hs : stepI (evC mt n d) (38, len, a, b', c', ex) pc L S (sh, D) k = some res) (G : GS s A dC dI b t Ln xs nL n0 s0 adq L S sh D ls st ws tys H locs) : W p l e R s m args below meth c H locs (sh.length - n0) (slo sh - s0) Q (F0 m pc ls st) := by
  have hI := Option.some.inj hI
  subst hI
  exact so_38 C hk hD (eq_of_beq hX) hs G
theorem ss_0 (C : CXT p s m args meth c R cc nL o ini A b t Ln xs d n0 s0 res) (hk : KW p l e R s m args below meth c Q A dC dI b t Ln xs nL n0 s0 adq res k) (hmk : ∀ pc L S σ, k pc L S σ = some res → σ.1.length ≤ res.2.1.length ∧ slo σ.1 ≤ slo res.2.1) (hMA : MetA mt n d l) (hX : chkX pc o ini rk (0, len, a, b', c', ex) = true) {ins : Instr} (hI : toI pc (0, len, a, b', c', ex) = some ins) (hD : decode cc pc = .ok (ins, len)) (hm : sh.length ≤ res.2.1.length ∧ slo sh ≤ slo res.2.1) (hs : stepI (evC mt n d) (0, len, a, b', c', ex) pc L S (sh, D) k = some res) (G : GS s A dC dI b t Ln xs nL n0 s0 adq L S sh D ls st ws tys H locs) : W p l e R s m args below meth c H locs (sh.length - n0) (slo sh - s0) Q (F0 m pc ls st) := by
  have hI := Option.some.inj hI
  subst hI
  refine so_0 C hk hD ?_ hs G
  have hX : (len == 1 && Nat.blt a 4 || len == 2) = true := hX
  rcases Bool.or_eq_true_iff.mp hX with h | h
  · obtain ⟨h1, h2⟩ := Bool.and_eq_true_iff.mp h
    exact Or.inl ⟨eq_of_beq h1, Nat.blt_eq.mp h2⟩
  · exact Or.inr (eq_of_beq h)
theorem ss_1 (C : CXT p s m args meth c R cc nL o ini A b t Ln xs d n0 s0 res) (hk : KW p l e R s m args below meth c Q A dC dI b t Ln xs nL n0 s0 adq res k) (hmk : ∀ pc L S σ, k pc L S σ = some res → σ.1.length ≤ res.2.1.length ∧ slo σ.1 ≤ slo res.2.1) (hMA : MetA mt n d l) (hX : chkX pc o ini rk (1, len, a, b', c', ex) = true) {ins : Instr} (hI : toI pc (1, len, a, b', c', ex) = some ins) (hD : decode cc pc = .ok (ins, len)) (hm : sh.length ≤ res.2.1.length ∧ slo sh ≤ slo res.2.1) (hs : stepI (evC mt n d) (1, len, a, b', c', ex) pc L S (sh, D) k = some res) (G : GS s A dC dI b t Ln xs nL n0 s0 adq L S sh D ls st ws tys H locs) : W p l e R s m args below meth c H locs (sh.length - n0) (slo sh - s0) Q (F0 m pc ls st) := by
  have hI := Option.some.inj hI
  subst hI
  refine so_1 C hk hD ?_ hs G
  have hX : (len == 1 && Nat.blt a 4 || len == 2) = true := hX
  rcases Bool.or_eq_true_iff.mp hX with h | h
  · obtain ⟨h1, h2⟩ := Bool.and_eq_true_iff.mp h
    exact Or.inl ⟨eq_of_beq h1, Nat.blt_eq.mp h2⟩
  · exact Or.inr (eq_of_beq h)
theorem ss_8 (C : CXT p s m args meth c R cc nL o ini A b t Ln xs d n0 s0 res) (hk : KW p l e R s m args below meth c Q A dC dI b t Ln xs nL n0 s0 adq res k) (hmk : ∀ pc L S σ, k pc L S σ = some res → σ.1.length ≤ res.2.1.length ∧ slo σ.1 ≤ slo res.2.1) (hMA : MetA mt n d l) (hX : chkX pc o ini rk (8, len, a, b', c', ex) = true) {ins : Instr} (hI : toI pc (8, len, a, b', c', ex) = some ins) (hD : decode cc pc = .ok (ins, len)) (hm : sh.length ≤ res.2.1.length ∧ slo sh ≤ slo res.2.1) (hs : stepI (evC mt n d) (8, len, a, b', c', ex) pc L S (sh, D) k = some res) (G : GS s A dC dI b t Ln xs nL n0 s0 adq L S sh D ls st ws tys H locs) : W p l e R s m args below meth c H locs (sh.length - n0) (slo sh - s0) Q (F0 m pc ls st) := by
  have hI := Option.some.inj hI
  subst hI
  refine so_8 C hk hD ?_ hs G
  have hX : (len == 1 && Nat.blt a 4 || len == 2) = true := hX
  rcases Bool.or_eq_true_iff.mp hX with h | h
  · obtain ⟨h1, h2⟩ := Bool.and_eq_true_iff.mp h
    exact Or.inl ⟨eq_of_beq h1, Nat.blt_eq.mp h2⟩
  · exact Or.inr (eq_of_beq h)
theorem ss_37 (C : CXT p s m args meth c R cc nL o ini A b t Ln xs d n0 s0 res) (hk : KW p l e R s m args below meth c Q A dC dI b t Ln xs nL n0 s0 adq res k) (hmk : ∀ pc L S σ, k pc L S σ = some res → σ.1.length ≤ res.2.1.length ∧ slo σ.1 ≤ slo res.2.1) (hMA : MetA mt n d l) (hX : chkX pc o ini rk (37, len, a, b', c', ex) = true) {ins : Instr} (hI : toI pc (37, len, a, b', c', ex) = some ins) (hD : decode cc pc = .ok (ins, len)) (hm : sh.length ≤ res.2.1.length ∧ slo sh ≤ slo res.2.1) (hs : stepI (evC mt n d) (37, len, a, b', c', ex) pc L S (sh, D) k = some res) (G : GS s A dC dI b t Ln xs nL n0 s0 adq L S sh D ls st ws tys H locs) : W p l e R s m args below meth c H locs (sh.length - n0) (slo sh - s0) Q (F0 m pc ls st) := by
  have hI := Option.some.inj hI
  subst hI
  refine so_37 C hk hD ?_ hs G
  have hX : (len == 1 && Nat.blt a 4 || len == 2) = true := hX
  rcases Bool.or_eq_true_iff.mp hX with h | h
  · obtain ⟨h1, h2⟩ := Bool.and_eq_true_iff.mp h
    exact Or.inl ⟨eq_of_beq h1, Nat.blt_eq.mp h2⟩
  · exact Or.inr (eq_of_beq h)
theorem ss_41 (C : CXT p s m args meth c R cc nL o ini A b t Ln xs d n0 s0 res) (hk : KW p l e R s m args below meth c Q A dC dI b t Ln xs nL n0 s0 adq res k) (hmk : ∀ pc L S σ, k pc L S σ = some res → σ.1.length ≤ res.2.1.length ∧ slo σ.1 ≤ slo res.2.1) (hMA : MetA mt n d l) (hX : chkX pc o ini rk (41, len, a, b', c', ex) = true) {ins : Instr} (hI : toI pc (41, len, a, b', c', ex) = some ins) (hD : decode cc pc = .ok (ins, len)) (hm : sh.length ≤ res.2.1.length ∧ slo sh ≤ slo res.2.1) (hs : stepI (evC mt n d) (41, len, a, b', c', ex) pc L S (sh, D) k = some res) (G : GS s A dC dI b t Ln xs nL n0 s0 adq L S sh D ls st ws tys H locs) : W p l e R s m args below meth c H locs (sh.length - n0) (slo sh - s0) Q (F0 m pc ls st) := by
  have hI := Option.some.inj hI
  subst hI
  refine so_41 C hk hD ?_ hs G
  have hX : (len == 1 && Nat.blt a 4) = true := hX
  obtain ⟨h1, h2⟩ := Bool.and_eq_true_iff.mp hX
  exact ⟨eq_of_beq h1, Nat.blt_eq.mp h2⟩
theorem ss_42 (C : CXT p s m args meth c R cc nL o ini A b t Ln xs d n0 s0 res) (hk : KW p l e R s m args below meth c Q A dC dI b t Ln xs nL n0 s0 adq res k) (hmk : ∀ pc L S σ, k pc L S σ = some res → σ.1.length ≤ res.2.1.length ∧ slo σ.1 ≤ slo res.2.1) (hMA : MetA mt n d l) (hX : chkX pc o ini rk (42, len, a, b', c', ex) = true) {ins : Instr} (hI : toI pc (42, len, a, b', c', ex) = some ins) (hD : decode cc pc = .ok (ins, len)) (hm : sh.length ≤ res.2.1.length ∧ slo sh ≤ slo res.2.1) (hs : stepI (evC mt n d) (42, len, a, b', c', ex) pc L S (sh, D) k = some res) (G : GS s A dC dI b t Ln xs nL n0 s0 adq L S sh D ls st ws tys H locs) : W p l e R s m args below meth c H locs (sh.length - n0) (slo sh - s0) Q (F0 m pc ls st) := by
  have hI := Option.some.inj hI
  subst hI
  refine so_42 C hk hD ?_ hs G
  have hX : (len == 1 && Nat.blt a 4) = true := hX
  obtain ⟨h1, h2⟩ := Bool.and_eq_true_iff.mp hX
  exact ⟨eq_of_beq h1, Nat.blt_eq.mp h2⟩
theorem ss_2 (C : CXT p s m args meth c R cc nL o ini A b t Ln xs d n0 s0 res) (hk : KW p l e R s m args below meth c Q A dC dI b t Ln xs nL n0 s0 adq res k) (hmk : ∀ pc L S σ, k pc L S σ = some res → σ.1.length ≤ res.2.1.length ∧ slo σ.1 ≤ slo res.2.1) (hMA : MetA mt n d l) (hX : chkX pc o ini rk (2, len, a, b', c', ex) = true) {ins : Instr} (hI : toI pc (2, len, a, b', c', ex) = some ins) (hD : decode cc pc = .ok (ins, len)) (hm : sh.length ≤ res.2.1.length ∧ slo sh ≤ slo res.2.1) (hs : stepI (evC mt n d) (2, len, a, b', c', ex) pc L S (sh, D) k = some res) (G : GS s A dC dI b t Ln xs nL n0 s0 adq L S sh D ls st ws tys H locs) : W p l e R s m args below meth c H locs (sh.length - n0) (slo sh - s0) Q (F0 m pc ls st) := by
  match ex, hX, hI, hs with
  | [x], hX, hI, hs =>
    have hI := Option.some.inj hI
    subst hI
    have hX : (len == 3 && decide ((o, x.toNat, a, b') ∈ FL) && c' == fcAt a b') = true := hX
    simp only [Bool.and_eq_true, decide_eq_true_eq, beq_iff_eq] at hX
    exact so_2 C hk hD hX.1.1 hX.1.2 hX.2 hs G
  | [], hX, hI, hs => cases hX
  | _ :: _ :: _, hX, hI, hs => cases hX
theorem ss_10 (C : CXT p s m args meth c R cc nL o ini A b t Ln xs d n0 s0 res) (hk : KW p l e R s m args below meth c Q A dC dI b t Ln xs nL n0 s0 adq res k) (hmk : ∀ pc L S σ, k pc L S σ = some res → σ.1.length ≤ res.2.1.length ∧ slo σ.1 ≤ slo res.2.1) (hMA : MetA mt n d l) (hX : chkX pc o ini rk (10, len, a, b', c', ex) = true) {ins : Instr} (hI : toI pc (10, len, a, b', c', ex) = some ins) (hD : decode cc pc = .ok (ins, len)) (hm : sh.length ≤ res.2.1.length ∧ slo sh ≤ slo res.2.1) (hs : stepI (evC mt n d) (10, len, a, b', c', ex) pc L S (sh, D) k = some res) (G : GS s A dC dI b t Ln xs nL n0 s0 adq L S sh D ls st ws tys H locs) : W p l e R s m args below meth c H locs (sh.length - n0) (slo sh - s0) Q (F0 m pc ls st) := by
  match ex, hX, hI, hs with
  | [x], hX, hI, hs =>
    have hI := Option.some.inj hI
    subst hI
    have hX : (len == 3 && decide ((o, x.toNat, a, b') ∈ FL) && c' == fcAt a b' && (!(finAt a b') || ini && a == o)) = true := hX
    simp only [Bool.and_eq_true, decide_eq_true_eq, beq_iff_eq, Bool.or_eq_true, Bool.not_eq_true'] at hX
    exact so_10 C hk hD hX.1.1.1 hX.1.1.2 hX.1.2 hX.2 hs G
  | [], hX, hI, hs => cases hX
  | _ :: _ :: _, hX, hI, hs => cases hX
theorem ss_12 (C : CXT p s m args meth c R cc nL o ini A b t Ln xs d n0 s0 res) (hk : KW p l e R s m args below meth c Q A dC dI b t Ln xs nL n0 s0 adq res k) (hmk : ∀ pc L S σ, k pc L S σ = some res → σ.1.length ≤ res.2.1.length ∧ slo σ.1 ≤ slo res.2.1) (hMA : MetA mt n d l) (hX : chkX pc o ini rk (12, len, a, b', c', ex) = true) {ins : Instr} (hI : toI pc (12, len, a, b', c', ex) = some ins) (hD : decode cc pc = .ok (ins, len)) (hm : sh.length ≤ res.2.1.length ∧ slo sh ≤ slo res.2.1) (hs : stepI (evC mt n d) (12, len, a, b', c', ex) pc L S (sh, D) k = some res) (G : GS s A dC dI b t Ln xs nL n0 s0 adq L S sh D ls st ws tys H locs) : W p l e R s m args below meth c H locs (sh.length - n0) (slo sh - s0) Q (F0 m pc ls st) := by
  match ex, hX, hI, hs with
  | [x], hX, hI, hs =>
    have hI := Option.some.inj hI
    subst hI
    exact so_12 C hk rfl hD (eq_of_beq hX) hs G
  | [], hX, hI, hs => cases hX
  | _ :: _ :: _, hX, hI, hs => cases hX
theorem ss_23 (C : CXT p s m args meth c R cc nL o ini A b t Ln xs d n0 s0 res) (hk : KW p l e R s m args below meth c Q A dC dI b t Ln xs nL n0 s0 adq res k) (hmk : ∀ pc L S σ, k pc L S σ = some res → σ.1.length ≤ res.2.1.length ∧ slo σ.1 ≤ slo res.2.1) (hMA : MetA mt n d l) (hX : chkX pc o ini rk (23, len, a, b', c', ex) = true) {ins : Instr} (hI : toI pc (23, len, a, b', c', ex) = some ins) (hD : decode cc pc = .ok (ins, len)) (hm : sh.length ≤ res.2.1.length ∧ slo sh ≤ slo res.2.1) (hs : stepI (evC mt n d) (23, len, a, b', c', ex) pc L S (sh, D) k = some res) (G : GS s A dC dI b t Ln xs nL n0 s0 adq L S sh D ls st ws tys H locs) : W p l e R s m args below meth c H locs (sh.length - n0) (slo sh - s0) Q (F0 m pc ls st) := by
  match ex, hX, hI, hs with
  | [x], hX, hI, hs =>
    have hI := Option.some.inj hI
    subst hI
    have hX : (len == 3 && decide ((o, x.toNat, 23) ∈ XL)) = true := hX
    simp only [Bool.and_eq_true, decide_eq_true_eq, beq_iff_eq] at hX
    exact so_23 C hk hm hD hX.1 hX.2 hs G
  | [], hX, hI, hs => cases hX
  | _ :: _ :: _, hX, hI, hs => cases hX
theorem ss_24 (C : CXT p s m args meth c R cc nL o ini A b t Ln xs d n0 s0 res) (hk : KW p l e R s m args below meth c Q A dC dI b t Ln xs nL n0 s0 adq res k) (hmk : ∀ pc L S σ, k pc L S σ = some res → σ.1.length ≤ res.2.1.length ∧ slo σ.1 ≤ slo res.2.1) (hMA : MetA mt n d l) (hX : chkX pc o ini rk (24, len, a, b', c', ex) = true) {ins : Instr} (hI : toI pc (24, len, a, b', c', ex) = some ins) (hD : decode cc pc = .ok (ins, len)) (hm : sh.length ≤ res.2.1.length ∧ slo sh ≤ slo res.2.1) (hs : stepI (evC mt n d) (24, len, a, b', c', ex) pc L S (sh, D) k = some res) (G : GS s A dC dI b t Ln xs nL n0 s0 adq L S sh D ls st ws tys H locs) : W p l e R s m args below meth c H locs (sh.length - n0) (slo sh - s0) Q (F0 m pc ls st) := by
  match ex, hX, hI, hs with
  | [x], hX, hI, hs =>
    have hI := Option.some.inj hI
    subst hI
    have hX : (len == 3 && decide ((o, x.toNat, 24) ∈ XL)) = true := hX
    simp only [Bool.and_eq_true, decide_eq_true_eq, beq_iff_eq] at hX
    exact so_24 C hk hm hD hX.1 hX.2 hs G
  | [], hX, hI, hs => cases hX
  | _ :: _ :: _, hX, hI, hs => cases hX
theorem ss_25 (C : CXT p s m args meth c R cc nL o ini A b t Ln xs d n0 s0 res) (hk : KW p l e R s m args below meth c Q A dC dI b t Ln xs nL n0 s0 adq res k) (hmk : ∀ pc L S σ, k pc L S σ = some res → σ.1.length ≤ res.2.1.length ∧ slo σ.1 ≤ slo res.2.1) (hMA : MetA mt n d l) (hX : chkX pc o ini rk (25, len, a, b', c', ex) = true) {ins : Instr} (hI : toI pc (25, len, a, b', c', ex) = some ins) (hD : decode cc pc = .ok (ins, len)) (hm : sh.length ≤ res.2.1.length ∧ slo sh ≤ slo res.2.1) (hs : stepI (evC mt n d) (25, len, a, b', c', ex) pc L S (sh, D) k = some res) (G : GS s A dC dI b t Ln xs nL n0 s0 adq L S sh D ls st ws tys H locs) : W p l e R s m args below meth c H locs (sh.length - n0) (slo sh - s0) Q (F0 m pc ls st) := by
  match ex, hX, hI, hs with
  | [x], hX, hI, hs =>
    have hI := Option.some.inj hI
    subst hI
    have hX : (len == 3 && decide ((o, x.toNat, 25) ∈ XL)) = true := hX
    simp only [Bool.and_eq_true, decide_eq_true_eq, beq_iff_eq] at hX
    exact so_25 C hk hm hD hX.1 hX.2 hs G
  | [], hX, hI, hs => cases hX
  | _ :: _ :: _, hX, hI, hs => cases hX
theorem ss_26 (C : CXT p s m args meth c R cc nL o ini A b t Ln xs d n0 s0 res) (hk : KW p l e R s m args below meth c Q A dC dI b t Ln xs nL n0 s0 adq res k) (hmk : ∀ pc L S σ, k pc L S σ = some res → σ.1.length ≤ res.2.1.length ∧ slo σ.1 ≤ slo res.2.1) (hMA : MetA mt n d l) (hX : chkX pc o ini rk (26, len, a, b', c', ex) = true) {ins : Instr} (hI : toI pc (26, len, a, b', c', ex) = some ins) (hD : decode cc pc = .ok (ins, len)) (hm : sh.length ≤ res.2.1.length ∧ slo sh ≤ slo res.2.1) (hs : stepI (evC mt n d) (26, len, a, b', c', ex) pc L S (sh, D) k = some res) (G : GS s A dC dI b t Ln xs nL n0 s0 adq L S sh D ls st ws tys H locs) : W p l e R s m args below meth c H locs (sh.length - n0) (slo sh - s0) Q (F0 m pc ls st) := by
  match ex, hX, hI, hs with
  | [x], hX, hI, hs =>
    have hI := Option.some.inj hI
    subst hI
    have hX : (len == 3 && decide ((o, x.toNat) ∈ AL)) = true := hX
    simp only [Bool.and_eq_true, decide_eq_true_eq, beq_iff_eq] at hX
    exact so_26 C hk hD hX.1 hX.2 hs G
  | [], hX, hI, hs => cases hX
  | _ :: _ :: _, hX, hI, hs => cases hX
theorem ss_39 (C : CXT p s m args meth c R cc nL o ini A b t Ln xs d n0 s0 res) (hk : KW p l e R s m args below meth c Q A dC dI b t Ln xs nL n0 s0 adq res k) (hmk : ∀ pc L S σ, k pc L S σ = some res → σ.1.length ≤ res.2.1.length ∧ slo σ.1 ≤ slo res.2.1) (hMA : MetA mt n d l) (hX : chkX pc o ini rk (39, len, a, b', c', ex) = true) {ins : Instr} (hI : toI pc (39, len, a, b', c', ex) = some ins) (hD : decode cc pc = .ok (ins, len)) (hm : sh.length ≤ res.2.1.length ∧ slo sh ≤ slo res.2.1) (hs : stepI (evC mt n d) (39, len, a, b', c', ex) pc L S (sh, D) k = some res) (G : GS s A dC dI b t Ln xs nL n0 s0 adq L S sh D ls st ws tys H locs) : W p l e R s m args below meth c H locs (sh.length - n0) (slo sh - s0) Q (F0 m pc ls st) := by
  match ex, hX, hI, hs with
  | [x], hX, hI, hs =>
    have hI := Option.some.inj hI
    subst hI
    have hX : (len == 3 && decide ((o, x.toNat) ∈ SL)) = true := hX
    simp only [Bool.and_eq_true, decide_eq_true_eq, beq_iff_eq] at hX
    exact so_39 C hk hD hX.1 hX.2 hs G
  | [], hX, hI, hs => cases hX
  | _ :: _ :: _, hX, hI, hs => cases hX
theorem ss_55 (C : CXT p s m args meth c R cc nL o ini A b t Ln xs d n0 s0 res) (hk : KW p l e R s m args below meth c Q A dC dI b t Ln xs nL n0 s0 adq res k) (hmk : ∀ pc L S σ, k pc L S σ = some res → σ.1.length ≤ res.2.1.length ∧ slo σ.1 ≤ slo res.2.1) (hMA : MetA mt n d l) (hX : chkX pc o ini rk (55, len, a, b', c', ex) = true) {ins : Instr} (hI : toI pc (55, len, a, b', c', ex) = some ins) (hD : decode cc pc = .ok (ins, len)) (hm : sh.length ≤ res.2.1.length ∧ slo sh ≤ slo res.2.1) (hs : stepI (evC mt n d) (55, len, a, b', c', ex) pc L S (sh, D) k = some res) (G : GS s A dC dI b t Ln xs nL n0 s0 adq L S sh D ls st ws tys H locs) : W p l e R s m args below meth c H locs (sh.length - n0) (slo sh - s0) Q (F0 m pc ls st) := by
  match ex, hX, hI, hs with
  | [x], hX, hI, hs =>
    have hI := Option.some.inj hI
    subst hI
    have hX : (len == 3 && decide ((o, x.toNat) ∈ OL)) = true := hX
    simp only [Bool.and_eq_true, decide_eq_true_eq, beq_iff_eq] at hX
    exact so_55 C hk hD hX.1 hX.2 hs G
  | [], hX, hI, hs => cases hX
  | _ :: _ :: _, hX, hI, hs => cases hX
theorem ss_52 (C : CXT p s m args meth c R cc nL o ini A b t Ln xs d n0 s0 res) (hk : KW p l e R s m args below meth c Q A dC dI b t Ln xs nL n0 s0 adq res k) (hmk : ∀ pc L S σ, k pc L S σ = some res → σ.1.length ≤ res.2.1.length ∧ slo σ.1 ≤ slo res.2.1) (hMA : MetA mt n d l) (hX : chkX pc o ini rk (52, len, a, b', c', ex) = true) {ins : Instr} (hI : toI pc (52, len, a, b', c', ex) = some ins) (hD : decode cc pc = .ok (ins, len)) (hm : sh.length ≤ res.2.1.length ∧ slo sh ≤ slo res.2.1) (hs : stepI (evC mt n d) (52, len, a, b', c', ex) pc L S (sh, D) k = some res) (G : GS s A dC dI b t Ln xs nL n0 s0 adq L S sh D ls st ws tys H locs) : W p l e R s m args below meth c H locs (sh.length - n0) (slo sh - s0) Q (F0 m pc ls st) := by
  match ex, hX, hI, hs with
  | [x], hX, hI, hs =>
    have hI := Option.some.inj hI
    subst hI
    have hX : (len == 3 && decide ((o, x.toNat, a) ∈ CL) && (match classes[a]? with
      | some q => b' == q.2.2
      | none => false)) = true := hX
    cases hq : classes[a]? with
    | none => rw [hq] at hX; simp at hX
    | some q =>
      rw [hq] at hX
      simp only [Bool.and_eq_true, decide_eq_true_eq, beq_iff_eq] at hX
      exact so_52 C hk hmk hD hX.1.1 hX.1.2 hq hX.2 hs G
  | [], hX, hI, hs => cases hX
  | _ :: _ :: _, hX, hI, hs => cases hX
theorem ss_54 (C : CXT p s m args meth c R cc nL o ini A b t Ln xs d n0 s0 res) (hk : KW p l e R s m args below meth c Q A dC dI b t Ln xs nL n0 s0 adq res k) (hmk : ∀ pc L S σ, k pc L S σ = some res → σ.1.length ≤ res.2.1.length ∧ slo σ.1 ≤ slo res.2.1) (hMA : MetA mt n d l) (hX : chkX pc o ini rk (54, len, a, b', c', ex) = true) {ins : Instr} (hI : toI pc (54, len, a, b', c', ex) = some ins) (hD : decode cc pc = .ok (ins, len)) (hm : sh.length ≤ res.2.1.length ∧ slo sh ≤ slo res.2.1) (hs : stepI (evC mt n d) (54, len, a, b', c', ex) pc L S (sh, D) k = some res) (G : GS s A dC dI b t Ln xs nL n0 s0 adq L S sh D ls st ws tys H locs) : W p l e R s m args below meth c H locs (sh.length - n0) (slo sh - s0) Q (F0 m pc ls st) := by
  match ex, hX, hI, hs with
  | [x], hX, hI, hs =>
    have hI := Option.some.inj hI
    subst hI
    have hX : (len == 3 && decide ((o, x.toNat, a) ∈ CL) && (a == 4 || a == 7)) = true := hX
    simp only [Bool.and_eq_true, decide_eq_true_eq, beq_iff_eq, Bool.or_eq_true] at hX
    exact so_54 C hk hmk hD hX.1.1 hX.1.2 hX.2 hs G
  | [], hX, hI, hs => cases hX
  | _ :: _ :: _, hX, hI, hs => cases hX
theorem ss_53 (C : CXT p s m args meth c R cc nL o ini A b t Ln xs d n0 s0 res) (hk : KW p l e R s m args below meth c Q A dC dI b t Ln xs nL n0 s0 adq res k) (hmk : ∀ pc L S σ, k pc L S σ = some res → σ.1.length ≤ res.2.1.length ∧ slo σ.1 ≤ slo res.2.1) (hMA : MetA mt n d l) (hX : chkX pc o ini rk (53, len, a, b', c', ex) = true) {ins : Instr} (hI : toI pc (53, len, a, b', c', ex) = some ins) (hD : decode cc pc = .ok (ins, len)) (hm : sh.length ≤ res.2.1.length ∧ slo sh ≤ slo res.2.1) (hs : stepI (evC mt n d) (53, len, a, b', c', ex) pc L S (sh, D) k = some res) (G : GS s A dC dI b t Ln xs nL n0 s0 adq L S sh D ls st ws tys H locs) : W p l e R s m args below meth c H locs (sh.length - n0) (slo sh - s0) Q (F0 m pc ls st) := by
  have hI := Option.some.inj hI
  subst hI
  exact so_53 C hk hmk hD (eq_of_beq hX) hs G
theorem ss_7 (C : CXT p s m args meth c R cc nL o ini A b t Ln xs d n0 s0 res) (hk : KW p l e R s m args below meth c Q A dC dI b t Ln xs nL n0 s0 adq res k) (hmk : ∀ pc L S σ, k pc L S σ = some res → σ.1.length ≤ res.2.1.length ∧ slo σ.1 ≤ slo res.2.1) (hMA : MetA mt n d l) (hX : chkX pc o ini rk (7, len, a, b', c', ex) = true) {ins : Instr} (hI : toI pc (7, len, a, b', c', ex) = some ins) (hD : decode cc pc = .ok (ins, len)) (hm : sh.length ≤ res.2.1.length ∧ slo sh ≤ slo res.2.1) (hs : stepI (evC mt n d) (7, len, a, b', c', ex) pc L S (sh, D) k = some res) (G : GS s A dC dI b t Ln xs nL n0 s0 adq L S sh D ls st ws tys H locs) : W p l e R s m args below meth c H locs (sh.length - n0) (slo sh - s0) Q (F0 m pc ls st) := by
  have hI := Option.some.inj hI
  subst hI
  exact so_7 C hk hD (eq_of_beq hX) hs G
theorem ss_11 (C : CXT p s m args meth c R cc nL o ini A b t Ln xs d n0 s0 res) (hk : KW p l e R s m args below meth c Q A dC dI b t Ln xs nL n0 s0 adq res k) (hmk : ∀ pc L S σ, k pc L S σ = some res → σ.1.length ≤ res.2.1.length ∧ slo σ.1 ≤ slo res.2.1) (hMA : MetA mt n d l) (hX : chkX pc o ini rk (11, len, a, b', c', ex) = true) {ins : Instr} (hI : toI pc (11, len, a, b', c', ex) = some ins) (hD : decode cc pc = .ok (ins, len)) (hm : sh.length ≤ res.2.1.length ∧ slo sh ≤ slo res.2.1) (hs : stepI (evC mt n d) (11, len, a, b', c', ex) pc L S (sh, D) k = some res) (G : GS s A dC dI b t Ln xs nL n0 s0 adq L S sh D ls st ws tys H locs) : W p l e R s m args below meth c H locs (sh.length - n0) (slo sh - s0) Q (F0 m pc ls st) := by
  have hI := Option.some.inj hI
  subst hI
  exact so_11 C hk hD (eq_of_beq hX) hs G
theorem ss_14 (C : CXT p s m args meth c R cc nL o ini A b t Ln xs d n0 s0 res) (hk : KW p l e R s m args below meth c Q A dC dI b t Ln xs nL n0 s0 adq res k) (hmk : ∀ pc L S σ, k pc L S σ = some res → σ.1.length ≤ res.2.1.length ∧ slo σ.1 ≤ slo res.2.1) (hMA : MetA mt n d l) (hX : chkX pc o ini rk (14, len, a, b', c', ex) = true) {ins : Instr} (hI : toI pc (14, len, a, b', c', ex) = some ins) (hD : decode cc pc = .ok (ins, len)) (hm : sh.length ≤ res.2.1.length ∧ slo sh ≤ slo res.2.1) (hs : stepI (evC mt n d) (14, len, a, b', c', ex) pc L S (sh, D) k = some res) (G : GS s A dC dI b t Ln xs nL n0 s0 adq L S sh D ls st ws tys H locs) : W p l e R s m args below meth c H locs (sh.length - n0) (slo sh - s0) Q (F0 m pc ls st) := by
  have hI := Option.some.inj hI
  subst hI
  exact so_14 C hk hD (eq_of_beq hX) hs G
theorem ss_3 (C : CXT p s m args meth c R cc nL o ini A b t Ln xs d n0 s0 res) (hk : KW p l e R s m args below meth c Q A dC dI b t Ln xs nL n0 s0 adq res k) (hmk : ∀ pc L S σ, k pc L S σ = some res → σ.1.length ≤ res.2.1.length ∧ slo σ.1 ≤ slo res.2.1) (hMA : MetA mt n d l) (hX : chkX pc o ini rk (3, len, a, b', c', ex) = true) {ins : Instr} (hI : toI pc (3, len, a, b', c', ex) = some ins) (hD : decode cc pc = .ok (ins, len)) (hm : sh.length ≤ res.2.1.length ∧ slo sh ≤ slo res.2.1) (hs : stepI (evC mt n d) (3, len, a, b', c', ex) pc L S (sh, D) k = some res) (G : GS s A dC dI b t Ln xs nL n0 s0 adq L S sh D ls st ws tys H locs) : W p l e R s m args below meth c H locs (sh.length - n0) (slo sh - s0) Q (F0 m pc ls st) := by
  match ex, hX, hI, hs with
  | [], hX, hI, hs => cases hX
  | [x], hX, hI, hs =>
    have hI := Option.some.inj hI
    subst hI
    refine so_3 C hk rfl (Or.inl ⟨rfl, ?_⟩) hs G
    have hX : (len == 1 && decide ((Int32.ofInt x).toInt = x) || len == 2 && decide ((Int8.ofInt x).toInt32.toInt = x) || len == 3 && decide ((Int16.ofInt x).toInt32.toInt = x)) = true := hX
    simp only [Bool.and_eq_true, decide_eq_true_eq, beq_iff_eq, Bool.or_eq_true] at hX
    rcases hX with (⟨rfl, h⟩ | ⟨rfl, h⟩) | ⟨rfl, h⟩
    · exact Or.inl ⟨rfl, hD, h⟩
    · exact Or.inr (Or.inl ⟨rfl, hD, h⟩)
    · exact Or.inr (Or.inr ⟨rfl, hD, h⟩)
  | [x, idx], hX, hI, hs =>
    have hI := Option.some.inj hI
    subst hI
    have hX : ((len == 2 || len == 3) && decide ((o, idx.toNat, x) ∈ KL) && decide ((Int32.ofInt x).toInt = x)) = true := hX
    simp only [Bool.and_eq_true, decide_eq_true_eq, beq_iff_eq, Bool.or_eq_true] at hX
    obtain ⟨⟨h1, h2⟩, h3⟩ := hX
    refine so_3 C hk rfl (Or.inr ⟨idx.toNat, h2, h3, ?_⟩) hs G
    rcases h1 with rfl | rfl
    · exact Or.inl ⟨rfl, hD⟩
    · exact Or.inr ⟨rfl, hD⟩
  | _ :: _ :: _ :: _, hX, hI, hs => cases hX
theorem ss_40 (C : CXT p s m args meth c R cc nL o ini A b t Ln xs d n0 s0 res) (hk : KW p l e R s m args below meth c Q A dC dI b t Ln xs nL n0 s0 adq res k) (hmk : ∀ pc L S σ, k pc L S σ = some res → σ.1.length ≤ res.2.1.length ∧ slo σ.1 ≤ slo res.2.1) (hMA : MetA mt n d l) (hX : chkX pc o ini rk (40, len, a, b', c', ex) = true) {ins : Instr} (hI : toI pc (40, len, a, b', c', ex) = some ins) (hD : decode cc pc = .ok (ins, len)) (hm : sh.length ≤ res.2.1.length ∧ slo sh ≤ slo res.2.1) (hs : stepI (evC mt n d) (40, len, a, b', c', ex) pc L S (sh, D) k = some res) (G : GS s A dC dI b t Ln xs nL n0 s0 adq L S sh D ls st ws tys H locs) : W p l e R s m args below meth c H locs (sh.length - n0) (slo sh - s0) Q (F0 m pc ls st) := by
  match ex, hX, hI, hs with
  | [], hX, hI, hs => cases hX
  | [x], hX, hI, hs =>
    have hI := Option.some.inj hI
    subst hI
    have hX : (len == 1 && decide (x = 0 ∨ x = 1)) = true := hX
    simp only [Bool.and_eq_true, decide_eq_true_eq, beq_iff_eq] at hX
    obtain ⟨rfl, h⟩ := hX
    exact so_40 C hk rfl (Or.inl ⟨rfl, rfl, hD, h⟩) hs G
  | [x, idx], hX, hI, hs =>
    have hI := Option.some.inj hI
    subst hI
    have hX : (len == 3 && decide ((o, idx.toNat, x) ∈ KJ) && decide ((Int64.ofInt x).toInt = x)) = true := hX
    simp only [Bool.and_eq_true, decide_eq_true_eq, beq_iff_eq] at hX
    obtain ⟨⟨rfl, h2⟩, h3⟩ := hX
    exact so_40 C hk rfl (Or.inr ⟨idx.toNat, h2, h3, rfl, hD⟩) hs G
  | _ :: _ :: _ :: _, hX, hI, hs => cases hX
theorem ss_27 (C : CXT p s m args meth c R cc nL o ini A b t Ln xs d n0 s0 res) (hk : KW p l e R s m args below meth c Q A dC dI b t Ln xs nL n0 s0 adq res k) (hmk : ∀ pc L S σ, k pc L S σ = some res → σ.1.length ≤ res.2.1.length ∧ slo σ.1 ≤ slo res.2.1) (hMA : MetA mt n d l) (hX : chkX pc o ini rk (27, len, a, b', c', ex) = true) {ins : Instr} (hI : toI pc (27, len, a, b', c', ex) = some ins) (hD : decode cc pc = .ok (ins, len)) (hm : sh.length ≤ res.2.1.length ∧ slo sh ≤ slo res.2.1) (hs : stepI (evC mt n d) (27, len, a, b', c', ex) pc L S (sh, D) k = some res) (G : GS s A dC dI b t Ln xs nL n0 s0 adq L S sh D ls st ws tys H locs) : W p l e R s m args below meth c H locs (sh.length - n0) (slo sh - s0) Q (F0 m pc ls st) := by
  match ex, hX, hI, hs with
  | [], hX, hI, hs => cases hI
  | lo :: ts, hX, hI, hs =>
    have hI := Option.some.inj hI
    subst hI
    have hX : (ts.all (fun t => decide (0 ≤ t))) = true := hX
    exact so_27 C hk rfl hD (fun t ht => of_decide_eq_true (List.all_eq_true.mp hX t ht)) hs G
theorem ss_28 (C : CXT p s m args meth c R cc nL o ini A b t Ln xs d n0 s0 res) (hk : KW p l e R s m args below meth c Q A dC dI b t Ln xs nL n0 s0 adq res k) (hmk : ∀ pc L S σ, k pc L S σ = some res → σ.1.length ≤ res.2.1.length ∧ slo σ.1 ≤ slo res.2.1) (hMA : MetA mt n d l) (hX : chkX pc o ini rk (28, len, a, b', c', ex) = true) {ins : Instr} (hI : toI pc (28, len, a, b', c', ex) = some ins) (hD : decode cc pc = .ok (ins, len)) (hm : sh.length ≤ res.2.1.length ∧ slo sh ≤ slo res.2.1) (hs : stepI (evC mt n d) (28, len, a, b', c', ex) pc L S (sh, D) k = some res) (G : GS s A dC dI b t Ln xs nL n0 s0 adq L S sh D ls st ws tys H locs) : W p l e R s m args below meth c H locs (sh.length - n0) (slo sh - s0) Q (F0 m pc ls st) := by
  have hI := Option.some.inj hI
  subst hI
  have hX : (decide (ex.length % 2 = 0) && ((prsI ex pc).all (fun t => decide (0 ≤ t.2 + (pc : Int)))) && (((prsI ex pc).zip ((prsI ex pc).drop 1)).all (fun (a, next) => a.1 < next.1))) = true := hX
  obtain ⟨h12, h3⟩ := Bool.and_eq_true_iff.mp hX
  obtain ⟨h1, h2⟩ := Bool.and_eq_true_iff.mp h12
  exact so_28 C hk hD (of_decide_eq_true h1) (fun t ht => of_decide_eq_true (List.all_eq_true.mp h2 t ht)) h3 hs G
theorem ss_4 (C : CXT p s m args meth c R cc nL o ini A b t Ln xs d n0 s0 res) (hk : KW p l e R s m args below meth c Q A dC dI b t Ln xs nL n0 s0 adq res k) (hmk : ∀ pc L S σ, k pc L S σ = some res → σ.1.length ≤ res.2.1.length ∧ slo σ.1 ≤ slo res.2.1) (hMA : MetA mt n d l) (hX : chkX pc o ini rk (4, len, a, b', c', ex) = true) {ins : Instr} (hI : toI pc (4, len, a, b', c', ex) = some ins) (hD : decode cc pc = .ok (ins, len)) (hm : sh.length ≤ res.2.1.length ∧ slo sh ≤ slo res.2.1) (hs : stepI (evC mt n d) (4, len, a, b', c', ex) pc L S (sh, D) k = some res) (G : GS s A dC dI b t Ln xs nL n0 s0 adq L S sh D ls st ws tys H locs) : W p l e R s m args below meth c H locs (sh.length - n0) (slo sh - s0) Q (F0 m pc ls st) := by
  match ex, hX, hI, hs with
  | [], hX, hI, hs => cases hX
  | [_], hX, hI, hs => cases hX
  | _ :: _ :: _ :: _, hX, hI, hs => cases hX
  | [idx, kd], hX, hI, hs =>
    have hX : (len == 3 && decide ((o, idx.toNat, a, 0) ∈ ML ∨ (o, idx.toNat, a, 1) ∈ ML) && decide ((mkind a : Int) = kd) && b' == mpar a + (bif kd == 2 then 0 else 1) && c' == (match mkind a with
      | 0 => mcl a + 2
      | 1 => 1
      | _ => 0)) = true := hX
    simp only [Bool.and_eq_true, decide_eq_true_eq, beq_iff_eq] at hX
    obtain ⟨⟨⟨⟨h1, h2⟩, h3⟩, h4⟩, h5⟩ := hX
    subst h3
    have hk3 : mkind a = 0 ∨ mkind a = 1 ∨ mkind a = 2 := by
      rcases h2 with h | h
      · obtain ⟨y, hy, -⟩ := ML_get0 h
        have := (pm_get hy).2.2.2.2.2.2.2.2.1
        obtain ⟨y0, y1, y2, y3, y4, y5, y6⟩ := y
        have e : mkind a = y5 := by unfold mkind; rw [hy]
        rw [e]
        rcases this with h | h | h
        · exact Or.inl h.1
        · exact Or.inr (Or.inl h.1)
        · exact Or.inr (Or.inr h.1)
      · obtain ⟨y, hy, -⟩ := ML_get1 h
        have := (pm_get hy).2.2.2.2.2.2.2.2.1
        obtain ⟨y0, y1, y2, y3, y4, y5, y6⟩ := y
        have e : mkind a = y5 := by unfold mkind; rw [hy]
        rw [e]
        rcases this with h | h | h
        · exact Or.inl h.1
        · exact Or.inr (Or.inl h.1)
        · exact Or.inr (Or.inr h.1)
    have hb2 : b' = mpar a + (bif mkind a == 2 then 0 else 1) := by
      rw [h4]
      rcases hk3 with h | h | h <;> rw [h] <;> rfl
    refine so_4 C hk hmk hMA h1 h2 hb2 h5 ?_ hs G
    rw [h1] at hD
    rw [hD]
    rcases hk3 with h | h | h
    · rw [h] at hI ⊢; cases hI; rfl
    · rw [h] at hI ⊢; cases hI; rfl
    · rw [h] at hI ⊢; cases hI; rfl
end SoZ
