/-! ===== the abstract machine: values are mathematical integers, references are places in a list of cells ===== -/
abbrev AV := Sum Int (Sum Int Nat)
abbrev SC := Nat × Nat × List Nat
abbrev DT := Nat → Nat → Int
abbrev ST := List SC × DT
abbrev INS := Nat × Nat × Nat × Nat × Nat × List Int
abbrev RES := Option AV × ST
abbrev CALLF := Nat → List AV → ST → Option RES
def aI (x : Int) : AV := .inl x
def aL (x : Int) : AV := .inr (.inl x)
def aR (k : Nat) : AV := .inr (.inr k)
def w32 (x : Int) : Int := (x + 2147483648) % 4294967296 - 2147483648
def w64 (x : Int) : Int := (x + 9223372036854775808) % 18446744073709551616 - 9223372036854775808
def up1 (f : Nat → Int) (i : Nat) (v : Int) : Nat → Int := fun j => if j = i then v else f j
def dset (D : DT) (a : Nat) (f : Nat → Int) : DT := fun b => if b = a then f else D b
def dput (D : DT) (a i : Nat) (v : Int) : DT := dset D a (up1 (D a) i v)
def ard (D : DT) (a n : Nat) (i : Int) : Option Int := if 0 ≤ i ∧ i < (n : Int) then some (D a i.toNat) else none
def awr (D : DT) (a n : Nat) (i v : Int) : Option DT := if 0 ≤ i ∧ i < (n : Int) then some (dput D a i.toNat v) else none
def acp (D : DT) (s ns : Nat) (sp : Int) (d nd : Nat) (dp n : Int) : Option DT :=
  if (0 ≤ sp ∧ 0 ≤ dp ∧ 0 ≤ n) ∧ sp + n ≤ (ns : Int) ∧ dp + n ≤ (nd : Int) then
    some (dset D d (fun j => if dp.toNat ≤ j ∧ j < dp.toNat + n.toNat then D s (sp.toNat + (j - dp.toNat)) else D d j)) else none
def adiv (a b : Int) : Option Int := if b = 0 then none else some (w32 (a.tdiv b))
def arem (a b : Int) : Option Int := if b = 0 then none else some (w32 (a - w32 (w32 (a.tdiv b) * b)))
def aldiv (a b : Int) : Option Int := if b = 0 then none else some (w64 (a.tdiv b))
def ashl (a b : Int) : Int := (Int32.ofInt a <<< (Int32.ofInt b &&& 31)).toInt
def ashr (a b : Int) : Int := (Int32.ofInt a >>> (Int32.ofInt b &&& 31)).toInt
def aand (a b : Int) : Int := (Int32.ofInt a &&& Int32.ofInt b).toInt
def aor (a b : Int) : Int := (Int32.ofInt a ||| Int32.ofInt b).toInt
def ai2b (a : Int) : Int := (Int32.ofInt a).toInt8.toInt32.toInt
def abit (v : Int) : Option Int := if v = 0 ∨ v = 1 then some v else none
def alcmp (a b : Int) : Int := if a < b then -1 else if a = b then 0 else 1
def tsw {α : Type} (k : Nat → Option α) (x : Int) (d : Nat) : Int → List Int → Option α
  | _, [] => k d
  | lo, t :: ts => if x = lo then k t.toNat else tsw k x d (lo + 1) ts
def lsw {α : Type} (k : Nat → Option α) (x : Int) (d : Nat) : List Int → Option α
  | v :: t :: ts => if x = v then k t.toNat else lsw k x d ts
  | _ => k d
def fnd : List (Nat × INS) → Nat → Option INS
  | [], _ => none
  | (k, i) :: t, pc => bif k == pc then some i else fnd t pc
def avw : List AV → Nat
  | [] => 0
  | .inr (.inl _) :: t => 2 + avw t
  | _ :: t => 1 + avw t
/-- no long among them -/
def noL : List AV → Bool
  | [] => true
  | .inr (.inl _) :: _ => false
  | _ :: t => noL t
def pushR (r : Option AV) (S : List AV) : List AV := match r with
  | some v => v :: S
  | none => S
/-- the six conditions, in two forms -/
def cnd {α : Type} (c : Nat) (a b : Int) (T F : Option α) : Option α := match c with
  | 0 => if a = b then T else F
  | 1 => if a = b then F else T
  | 2 => if a < b then T else F
  | 3 => if a < b then F else T
  | 4 => if b < a then T else F
  | _ => if b < a then F else T
/-- a place of an array of references -/
def aref (refs : List Nat) (n : Nat) (i : Int) : Option Nat := if 0 ≤ i ∧ i < (n : Int) then (match refs[i.toNat]? with
  | some (q + 1) => some q
  | _ => none) else none
def isAI (t : Nat) : Bool := t == 100 || t == 104
def isAB (t : Nat) : Bool := t == 101 || t == 102
/-- no long begins just ahead of that local -/
def nlong (L : List (Option AV)) (a : Nat) : Bool := match a with
  | 0 => true
  | a + 1 => match L[a]? with
    | some (some (.inr (.inl _))) => false
    | _ => true
/-- a virtual call (c = class + 2): the receiver is of that class; c = 1: it is a reference -/
def recvOK (c : Nat) (A : List AV) (sh : List SC) : Bool := match c with
  | 0 => true
  | 1 => match A with
    | .inr (.inr _) :: _ => true
    | _ => false
  | ci + 2 => match A with
    | .inr (.inr r) :: _ => match sh[r]? with
      | some (tag, _, _) => tag == ci
      | none => false
    | _ => false
def stepI (call : CALLF) (i : INS) (pc : Nat) (L : List (Option AV)) (S : List AV) (σ : ST) (k : Nat → List (Option AV) → List AV → ST → Option RES) : Option RES :=
  match i with
  | (op, len, a, b, c, ex) => match op with
    | 0 => match L[a]? with
      | some (some (.inr (.inr r))) => k (pc + len) L (.inr (.inr r) :: S) σ
      | _ => none
    | 1 => match L[a]? with
      | some (some (.inl x)) => k (pc + len) L (.inl x :: S) σ
      | _ => none
    | 2 => match S with
      | .inr (.inr r) :: S => match σ.1[r]? with
        | some (tag, _, refs) => bif tag == a then (match c with
          | 0 => k (pc + len) L (.inl (σ.2 r b) :: S) σ
          | 1 => k (pc + len) L (.inl (σ.2 r b) :: S) σ
          | 2 => k (pc + len) L (.inr (.inl (σ.2 r b)) :: S) σ
          | _ => match refs[b]? with
            | some (q + 1) => k (pc + len) L (.inr (.inr q) :: S) σ
            | _ => none) else none
        | none => none
      | _ => none
    | 3 => match ex with
      | x :: _ => k (pc + len) L (.inl x :: S) σ
      | _ => none
    | 4 => bif Nat.ble b S.length && Nat.ble (avw (S.drop b)) 8 && recvOK c (S.take b).reverse σ.1 && noL (S.take b) then
        (call a (S.take b).reverse σ).bind fun x => k (pc + len) L (pushR x.1 (S.drop b)) x.2 else none
    | 5 => match S with
      | .inl i :: .inr (.inr r) :: S => match σ.1[r]? with
        | some (tag, n, _) => bif isAI tag then (ard σ.2 r n i).bind fun x => k (pc + len) L (.inl x :: S) σ else none
        | none => none
      | _ => none
    | 6 => match S with
      | [.inl x] => match c with
        | 0 => some (some (.inl x), σ)
        | _ => (abit x).bind fun x => some (some (.inl x), σ)
      | _ => none
    | 7 => k a L S σ
    | 8 => match S with
      | .inl x :: S => bif Nat.blt a L.length && nlong L a then k (pc + len) (L.set a (some (.inl x))) S σ else none
      | _ => none
    | 9 => match S with
      | .inl y :: .inl x :: S => k (pc + len) L (.inl (w32 (x + y)) :: S) σ
      | _ => none
    | 10 => match S with
      | .inl v :: .inr (.inr r) :: S => match σ.1[r]? with
        | some (tag, _, _) => bif tag == a then (match c with
          | 0 => k (pc + len) L S (σ.1, dput σ.2 r b v)
          | 1 => (abit v).bind fun v => k (pc + len) L S (σ.1, dput σ.2 r b v)
          | _ => none) else none
        | none => none
      | .inr (.inl v) :: .inr (.inr r) :: S => match σ.1[r]? with
        | some (tag, _, _) => bif tag == a && c == 2 then k (pc + len) L S (σ.1, dput σ.2 r b v) else none
        | none => none
      | .inr (.inr q) :: .inr (.inr r) :: S => match σ.1[r]? with
        | some (tag, n, refs) => bif tag == a && c == 3 then k (pc + len) L S (σ.1.set r (tag, n, refs.set b (q + 1)), σ.2) else none
        | none => none
      | _ => none
    | 11 => match S with
      | .inl y :: .inl x :: S => cnd b x y (k a L S σ) (k (pc + len) L S σ)
      | _ => none
    | 12 => match L[a]?, ex with
      | some (some (.inl x)), [d] => bif nlong L a then k (pc + len) (L.set a (some (.inl (w32 (x + d))))) S σ else none
      | _, _ => none
    | 13 => match S with
      | .inl v :: .inl i :: .inr (.inr r) :: S => match σ.1[r]? with
        | some (tag, n, _) => bif tag == 100 then (awr σ.2 r n i v).bind fun D => k (pc + len) L S (σ.1, D) else none
        | none => none
      | _ => none
    | 14 => match S with
      | .inl x :: S => cnd b x 0 (k a L S σ) (k (pc + len) L S σ)
      | _ => none
    | 15 => match S with
      | [] => some (none, σ)
      | _ => none
    | 16 => match S with
      | .inl y :: .inl x :: S => k (pc + len) L (.inl (w32 (x - y)) :: S) σ
      | _ => none
    | 17 => match S with
      | .inl y :: .inl x :: S => k (pc + len) L (.inl (w32 (x * y)) :: S) σ
      | _ => none
    | 18 => match S with
      | .inl x :: S => k (pc + len) L (.inl x :: .inl x :: S) σ
      | .inr (.inr r) :: S => k (pc + len) L (.inr (.inr r) :: .inr (.inr r) :: S) σ
      | _ => none
    | 19 => match S with
      | .inl i :: .inr (.inr r) :: S => match σ.1[r]? with
        | some (tag, n, _) => bif isAB tag then (ard σ.2 r n i).bind fun x => k (pc + len) L (.inl x :: S) σ else none
        | none => none
      | _ => none
    | 20 => match S with
      | .inl v :: .inl i :: .inr (.inr r) :: S => match σ.1[r]? with
        | some (tag, n, _) => bif tag == 101 then (abit v).bind fun v => (awr σ.2 r n i v).bind fun D => k (pc + len) L S (σ.1, D)
          else bif tag == 102 then (awr σ.2 r n i (ai2b v)).bind fun D => k (pc + len) L S (σ.1, D) else none
        | none => none
      | _ => none
    | 21 => match S with
      | .inl x :: .inl y :: S => k (pc + len) L (.inl x :: .inl y :: .inl x :: .inl y :: S) σ
      | .inl x :: .inr (.inr y) :: S => k (pc + len) L (.inl x :: .inr (.inr y) :: .inl x :: .inr (.inr y) :: S) σ
      | _ => none
    | 22 => match S with
      | .inl i :: .inr (.inr r) :: S => match σ.1[r]? with
        | some (tag, n, refs) => bif Nat.ble 110 tag then (aref refs n i).bind fun q => k (pc + len) L (.inr (.inr q) :: S) σ else none
        | none => none
      | _ => none
    | 23 => match S with
      | .inl y :: .inl x :: S => bif Nat.ble (avw S) 8 then k (pc + len) L (.inl (if x < y then y else x) :: S) σ else none
      | _ => none
    | 24 => match S with
      | .inl y :: .inl x :: S => bif Nat.ble (avw S) 8 then k (pc + len) L (.inl (if y < x then y else x) :: S) σ else none
      | _ => none
    | 25 => match S with
      | .inl x :: S => bif Nat.ble (avw S) 8 then k (pc + len) L (.inl (if 0 ≤ x then x else w32 (-x)) :: S) σ else none
      | _ => none
    | 26 => match S with
      | .inl n :: .inl dp :: .inr (.inr d) :: .inl sp :: .inr (.inr s) :: S => match σ.1[s]?, σ.1[d]? with
        | some (ts, ns, _), some (td, nd, _) => bif ts == 100 && td == 100 && Nat.ble (avw S) 8 then (acp σ.2 s ns sp d nd dp n).bind fun D => k (pc + len) L S (σ.1, D) else none
        | _, _ => none
      | _ => none
    | 27 => match S, ex with
      | .inl x :: S, lo :: ts => tsw (fun t => k t L S σ) x a lo ts
      | _, _ => none
    | 28 => match S with
      | .inl x :: S => lsw (fun t => k t L S σ) x a ex
      | _ => none
    | 29 => match S with
      | .inl y :: .inl x :: S => (arem x y).bind fun z => k (pc + len) L (.inl z :: S) σ
      | _ => none
    | 30 => match S with
      | .inl y :: .inl x :: S => (adiv x y).bind fun z => k (pc + len) L (.inl z :: S) σ
      | _ => none
    | 31 => match S with
      | .inl x :: S => k (pc + len) L (.inl (w32 (-x)) :: S) σ
      | _ => none
    | 32 => match S with
      | .inl y :: .inl x :: S => k (pc + len) L (.inl (ashl x y) :: S) σ
      | _ => none
    | 33 => match S with
      | .inl y :: .inl x :: S => k (pc + len) L (.inl (ashr x y) :: S) σ
      | _ => none
    | 34 => match S with
      | .inl y :: .inl x :: S => k (pc + len) L (.inl (aand x y) :: S) σ
      | _ => none
    | 35 => match S with
      | .inl y :: .inl x :: S => k (pc + len) L (.inl (aor x y) :: S) σ
      | _ => none
    | 36 => match S with
      | .inl x :: S => k (pc + len) L (.inl (ai2b x) :: S) σ
      | _ => none
    | 37 => match S with
      | .inr (.inr r) :: S => bif Nat.blt a L.length && nlong L a then k (pc + len) (L.set a (some (.inr (.inr r)))) S σ else none
      | _ => none
    | 38 => match S with
      | .inr (.inr r) :: S => match σ.1[r]? with
        | some (tag, n, _) => bif Nat.ble 100 tag && Nat.ble tag 104 then k (pc + len) L (.inl (w32 (n : Int)) :: S) σ else none
        | none => none
      | _ => none
    | 39 => k (pc + len) L (.inr (.inr 1) :: S) σ
    | 40 => match ex with
      | x :: _ => k (pc + len) L (.inr (.inl x) :: S) σ
      | _ => none
    | 41 => match L[a]? with
      | some (some (.inr (.inl x))) => k (pc + len) L (.inr (.inl x) :: S) σ
      | _ => none
    | 42 => match S with
      | .inr (.inl x) :: S => bif Nat.blt (a + 1) L.length && nlong L a then k (pc + len) ((L.set a (some (.inr (.inl x)))).set (a + 1) none) S σ else none
      | _ => none
    | 43 => match S with
      | .inr (.inl y) :: .inr (.inl x) :: S => k (pc + len) L (.inr (.inl (w64 (x + y))) :: S) σ
      | _ => none
    | 44 => match S with
      | .inr (.inl y) :: .inr (.inl x) :: S => k (pc + len) L (.inr (.inl (w64 (x - y))) :: S) σ
      | _ => none
    | 45 => match S with
      | .inr (.inl y) :: .inr (.inl x) :: S => k (pc + len) L (.inr (.inl (w64 (x * y))) :: S) σ
      | _ => none
    | 46 => match S with
      | .inr (.inl y) :: .inr (.inl x) :: S => (aldiv x y).bind fun z => k (pc + len) L (.inr (.inl z) :: S) σ
      | _ => none
    | 47 => match S with
      | .inr (.inl y) :: .inr (.inl x) :: S => k (pc + len) L (.inl (alcmp x y) :: S) σ
      | _ => none
    | 48 => match S with
      | .inl x :: S => k (pc + len) L (.inr (.inl x) :: S) σ
      | _ => none
    | 49 => match S with
      | .inr (.inl x) :: S => k (pc + len) L (.inl (w32 x) :: S) σ
      | _ => none
    | 50 => match S with
      | .inl i :: .inr (.inr r) :: S => match σ.1[r]? with
        | some (tag, n, _) => bif tag == 103 then (ard σ.2 r n i).bind fun x => k (pc + len) L (.inr (.inl x) :: S) σ else none
        | none => none
      | _ => none
    | 51 => match S with
      | .inr (.inl v) :: .inl i :: .inr (.inr r) :: S => match σ.1[r]? with
        | some (tag, n, _) => bif tag == 103 then (awr σ.2 r n i v).bind fun D => k (pc + len) L S (σ.1, D) else none
        | none => none
      | _ => none
    | 52 => k (pc + len) L (.inr (.inr σ.1.length) :: S) (σ.1 ++ [(a, b, List.replicate b 0)], dset σ.2 σ.1.length (fun _ => 0))
    | 53 => match S with
      | .inl n :: S => bif Nat.ble 100 a && Nat.ble a 103 then (if 0 ≤ n ∧ n ≤ 10000 then k (pc + len) L (.inr (.inr σ.1.length) :: S) (σ.1 ++ [(a, n.toNat, [])], dset σ.2 σ.1.length (fun _ => 0)) else none) else none
      | _ => none
    | 54 => match S with
      | .inl n :: S => if 0 ≤ n ∧ n ≤ 10000 then k (pc + len) L (.inr (.inr σ.1.length) :: S) (σ.1 ++ [(110 + a, n.toNat, List.replicate n.toNat 0)], dset σ.2 σ.1.length (fun _ => 0)) else none
      | _ => none
    | 55 => match S with
      | .inr (.inr _) :: S => bif Nat.ble (avw S) 8 then k (pc + len) L S σ else none
      | _ => none
    | 56 => match S with
      | .inr (.inr q) :: .inl i :: .inr (.inr r) :: S => match σ.1[r]?, σ.1[q]? with
        | some (tag, n, refs), some (tq, _, _) => bif tag == 110 + tq && Nat.blt tq 100 then (if 0 ≤ i ∧ i < (n : Int) then k (pc + len) L S (σ.1.set r (tag, n, refs.set i.toNat (q + 1)), σ.2) else none) else none
        | _, _ => none
      | _ => none
    | _ => none
def run (call : CALLF) (code : List (Nat × INS)) : Nat → Nat → List (Option AV) → List AV → ST → Option RES
  | 0, _, _, _, _ => none
  | n + 1, pc, L, S, σ => match fnd code pc with
    | none => none
    | some i => stepI call i pc L S σ (run call code n)
