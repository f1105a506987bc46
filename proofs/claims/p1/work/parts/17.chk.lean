/-! ===== a row of the tables against the bytes ===== -/
def cndI (b : Nat) : ClassFile.Cond := match b with
  | 0 => .eq
  | 1 => .ne
  | 2 => .lt
  | 3 => .ge
  | 4 => .gt
  | _ => .le
def prsI : List Int → Nat → List (Int × Int)
  | v :: t :: ts, pc => (v, t - (pc : Int)) :: prsI ts pc
  | _, _ => []
def toI (pc : Nat) (i : INS) : Option Instr := match i with
  | (op, len, a, b, c, ex) => match op with
    | 0 => some (bif len == 1 then .aload_n (Fin.ofNat 4 a) else .aload a)
    | 1 => some (bif len == 1 then .iload_n (Fin.ofNat 4 a) else .iload a)
    | 2 => match ex with
      | [x] => some (.getfield x.toNat)
      | _ => none
    | 3 => match ex with
      | [x] => some (bif len == 1 then .iconst x else bif len == 2 then .bipush x else .sipush x)
      | [_, idx] => some (bif len == 2 then .ldc idx.toNat else .ldc_w idx.toNat)
      | _ => none
    | 4 => match ex with
      | [idx, 0] => some (.invokevirtual idx.toNat)
      | [idx, 1] => some (.invokespecial idx.toNat)
      | [idx, 2] => some (.invokestatic idx.toNat)
      | _ => none
    | 5 => some .iaload
    | 6 => some .ireturn
    | 7 => some (.goto ((a : Int) - (pc : Int)))
    | 8 => some (bif len == 1 then .istore_n (Fin.ofNat 4 a) else .istore a)
    | 9 => some .iadd
    | 10 => match ex with
      | [x] => some (.putfield x.toNat)
      | _ => none
    | 11 => some (.if_icmp (cndI b) ((a : Int) - (pc : Int)))
    | 12 => match ex with
      | [x] => some (.iinc a x)
      | _ => none
    | 13 => some .iastore
    | 14 => some (.ifCond (cndI b) ((a : Int) - (pc : Int)))
    | 15 => some .return_
    | 16 => some .isub
    | 17 => some .imul
    | 18 => some .dup
    | 19 => some .baload
    | 20 => some .bastore
    | 21 => some .dup2
    | 22 => some .aaload
    | 23 => match ex with
      | [x] => some (.invokestatic x.toNat)
      | _ => none
    | 24 => match ex with
      | [x] => some (.invokestatic x.toNat)
      | _ => none
    | 25 => match ex with
      | [x] => some (.invokestatic x.toNat)
      | _ => none
    | 26 => match ex with
      | [x] => some (.invokestatic x.toNat)
      | _ => none
    | 27 => match ex with
      | lo :: ts => some (.tableswitch ((a : Int) - (pc : Int)) lo (lo + (ts.length : Int) - 1) (ts.map fun t => t - (pc : Int)).toArray)
      | _ => none
    | 28 => some (.lookupswitch ((a : Int) - (pc : Int)) (prsI ex pc).toArray)
    | 29 => some .irem
    | 30 => some .idiv
    | 31 => some .ineg
    | 32 => some .ishl
    | 33 => some .ishr
    | 34 => some .iand
    | 35 => some .ior
    | 36 => some .i2b
    | 37 => some (bif len == 1 then .astore_n (Fin.ofNat 4 a) else .astore a)
    | 38 => some .arraylength
    | 39 => match ex with
      | [x] => some (.getstatic x.toNat)
      | _ => none
    | 40 => match ex with
      | [x] => some (.lconst (Fin.ofNat 2 x.toNat))
      | [_, idx] => some (.ldc2_w idx.toNat)
      | _ => none
    | 41 => some (.lload_n (Fin.ofNat 4 a))
    | 42 => some (.lstore_n (Fin.ofNat 4 a))
    | 43 => some .ladd
    | 44 => some .lsub
    | 45 => some .lmul
    | 46 => some .ldiv
    | 47 => some .lcmp
    | 48 => some .i2l
    | 49 => some .l2i
    | 50 => some .laload
    | 51 => some .lastore
    | 52 => match ex with
      | [x] => some (.new x.toNat)
      | _ => none
    | 53 => some (.newarray (match a with
      | 100 => .int
      | 101 => .boolean
      | 102 => .byte
      | _ => .long))
    | 54 => match ex with
      | [x] => some (.anewarray x.toNat)
      | _ => none
    | 55 => match ex with
      | [x] => some (.invokespecial x.toNat)
      | _ => none
    | 56 => some .aastore
    | _ => none
def FL : List (Nat × Nat × Nat × Nat) := FLP.map (·.2)
def ML : List (Nat × Nat × Nat × Nat) := MLP.map (·.2)
def KL : List (Nat × Nat × Int) := KLP.map (·.2)
def KJ : List (Nat × Nat × Int) := KJP.map (·.2)
def CL : List (Nat × Nat × Nat) := CLP.map (·.2)
def OL : List (Nat × Nat) := OLP.map (·.2)
def XL : List (Nat × Nat × Nat) := XLP.map (·.2)
def AL : List (Nat × Nat) := ALP.map (·.2)
def SL : List (Nat × Nat) := SLP.map (·.2)
def fcAt (ci j : Nat) : Nat := match classes[ci]? with
  | some q => fcode (q.2.1 j).2.2.1
  | none => 9
def finAt (ci j : Nat) : Bool := match classes[ci]? with
  | some q => (q.2.1 j).2.2.2
  | none => true
def mkind (q : Nat) : Nat := match ptab[q]? with
  | some e => e.2.2.2.2.2.1
  | none => 9
def mcl (q : Nat) : Nat := match ptab[q]? with
  | some e => e.2.2.2.2.1
  | none => 99
def mpar (q : Nat) : Nat := match ptab[q]? with
  | some e => e.2.2.2.2.2.2.2.2.2
  | none => 99
/-- what else a row must be -/
def chkX (pc o : Nat) (ini : Bool) (rk : Nat) (i : INS) : Bool := match i with
  | (op, len, a, b, c, ex) => match op with
    | 0 => len == 1 && Nat.blt a 4 || len == 2
    | 1 => len == 1 && Nat.blt a 4 || len == 2
    | 2 => match ex with
      | [x] => len == 3 && decide ((o, x.toNat, a, b) ∈ FL) && c == fcAt a b
      | _ => false
    | 3 => match ex with
      | [x] => len == 1 && decide ((Int32.ofInt x).toInt = x) || len == 2 && decide ((Int8.ofInt x).toInt32.toInt = x) || len == 3 && decide ((Int16.ofInt x).toInt32.toInt = x)
      | [x, idx] => (len == 2 || len == 3) && decide ((o, idx.toNat, x) ∈ KL) && decide ((Int32.ofInt x).toInt = x)
      | _ => false
    | 4 => match ex with
      | [idx, k] => len == 3 && decide ((o, idx.toNat, a, 0) ∈ ML ∨ (o, idx.toNat, a, 1) ∈ ML) && decide ((mkind a : Int) = k) && b == mpar a + (bif k == 2 then 0 else 1) && c == (match mkind a with
        | 0 => mcl a + 2
        | 1 => 1
        | _ => 0)
      | _ => false
    | 5 => len == 1
    | 6 => len == 1 && (rk == 1 && c == 0 || rk == 2 && c == 1)
    | 7 => len == 3
    | 8 => len == 1 && Nat.blt a 4 || len == 2
    | 9 => len == 1
    | 10 => match ex with
      | [x] => len == 3 && decide ((o, x.toNat, a, b) ∈ FL) && c == fcAt a b && (!(finAt a b) || ini && a == o)
      | _ => false
    | 11 => len == 3
    | 12 => match ex with
      | [x] => len == 3
      | _ => false
    | 13 => len == 1
    | 14 => len == 3
    | 15 => len == 1 && rk == 0
    | 23 => match ex with
      | [x] => len == 3 && decide ((o, x.toNat, 23) ∈ XL)
      | _ => false
    | 24 => match ex with
      | [x] => len == 3 && decide ((o, x.toNat, 24) ∈ XL)
      | _ => false
    | 25 => match ex with
      | [x] => len == 3 && decide ((o, x.toNat, 25) ∈ XL)
      | _ => false
    | 26 => match ex with
      | [x] => len == 3 && decide ((o, x.toNat) ∈ AL)
      | _ => false
    | 27 => ex.tail.all (fun t => decide (0 ≤ t))
    | 28 => decide (ex.length % 2 = 0) && ((prsI ex pc).all (fun t => decide (0 ≤ t.2 + (pc : Int)))) && (((prsI ex pc).zip ((prsI ex pc).drop 1)).all (fun (a, next) => a.1 < next.1))
    | 37 => len == 1 && Nat.blt a 4 || len == 2
    | 39 => match ex with
      | [x] => len == 3 && decide ((o, x.toNat) ∈ SL)
      | _ => false
    | 40 => match ex with
      | [x] => len == 1 && decide (x = 0 ∨ x = 1)
      | [x, idx] => len == 3 && decide ((o, idx.toNat, x) ∈ KJ) && decide ((Int64.ofInt x).toInt = x)
      | _ => false
    | 41 => len == 1 && Nat.blt a 4
    | 42 => len == 1 && Nat.blt a 4
    | 52 => match ex with
      | [x] => len == 3 && decide ((o, x.toNat, a) ∈ CL) && (match classes[a]? with
        | some q => b == q.2.2
        | none => false)
      | _ => false
    | 53 => len == 2
    | 54 => match ex with
      | [x] => len == 3 && decide ((o, x.toNat, a) ∈ CL) && (a == 4 || a == 7)
      | _ => false
    | 55 => match ex with
      | [x] => len == 3 && decide ((o, x.toNat) ∈ OL)
      | _ => false
    | _ => len == 1
def chk (cc : ByteArray) (o : Nat) (ini : Bool) (rk : Nat) (row : Nat × INS) : Bool := chkX row.1 o ini rk row.2 && (match decode cc row.1 with
  | .ok (ins, ln) => decide (some ins = toI row.1 row.2) && ln == row.2.2.1
  | .error _ => false)
theorem chk_dec {cc : ByteArray} {o : Nat} {ini : Bool} {rk : Nat} {pc : Nat} {i : INS} (h : chk cc o ini rk (pc, i) = true) : chkX pc o ini rk i = true ∧ ∃ ins, toI pc i = some ins ∧ decode cc pc = .ok (ins, i.2.1) := by
  unfold chk at h
  simp only [Bool.and_eq_true] at h
  obtain ⟨h1, h2⟩ := h
  refine ⟨h1, ?_⟩
  cases hd : decode cc pc with
  | error e => rw [hd] at h2; cases h2
  | ok r =>
    obtain ⟨ins, ln⟩ := r
    rw [hd] at h2
    simp only [Bool.and_eq_true, decide_eq_true_eq, beq_iff_eq] at h2
    exact ⟨ins, h2.1.symm, by rw [← h2.2]⟩
