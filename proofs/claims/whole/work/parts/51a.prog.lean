/-! ===== a program: numbers in rows; 40 is OUTSIDE, 8 is no FUNCTION ===== -/
abbrev PG := Nat → Nat → Nat
def ac (P : PG) (b : Nat) : Nat := if P 6 b = 2 then 2 else 1
def mb (P : PG) (f k : Nat) : Nat := P 3 (P 2 f + k)
def fn (P : PG) (a : Nat) : Nat := if a < P 0 0 then a else P 4 (P 9 a)
def nz (c x : Nat) : Int := if x = c then -1 else (x : Int)
theorem nz_eq {c : Nat} : nz c c = -1 := if_pos rfl
theorem nz_ne {c x : Nat} (h : x ≠ c) : nz c x = (x : Int) := if_neg h
theorem nz_m1 {c x : Nat} : nz c x = -1 ↔ x = c := by
  unfold nz; split <;> constructor <;> intro h <;> omega
theorem ac_pos {P : PG} {b : Nat} : 1 ≤ ac P b := by unfold ac; split <;> omega
theorem ac_le {P : PG} {b : Nat} : ac P b ≤ 2 := by unfold ac; split <;> omega
def WF (P : PG) : Prop :=
  (P 0 0 ≤ 8) ∧
  (P 0 1 ≤ 40) ∧
  (P 0 2 ≤ 88) ∧
  (P 0 0 ≤ P 0 2) ∧
  (P 0 3 ≤ 9999) ∧
  (16 ≤ P 0 4) ∧
  (P 0 4 ≤ 512) ∧
  (1 ≤ P 0 5) ∧
  (P 0 5 ≤ 16) ∧
  (P 0 6 ≤ P 0 0) ∧
  (∀ b, b < P 0 1 → P 4 b < P 0 0) ∧
  (∀ b, b < P 0 1 → 1 ≤ P 5 b) ∧
  (∀ b, b < P 0 1 → P 5 b ≤ 99) ∧
  (∀ b, b < P 0 1 → P 6 b ≤ 2) ∧
  (∀ b i, b < P 0 1 → i < 2 → P 7 (2 * b + i) < P 0 0 ∨ P 7 (2 * b + i) = 8) ∧
  (∀ b, b < P 0 1 → P 7 (2 * b) = 8 → P 7 (2 * b + 1) = 8) ∧
  (∀ f, f < P 0 0 → 1 ≤ P 1 f) ∧
  (∀ f, f < P 0 0 → P 2 f + P 1 f ≤ P 0 1) ∧
  (∀ f, f + 1 < P 0 0 → P 2 (f + 1) = P 2 f + P 1 f) ∧
  (0 < P 0 0 → P 2 0 = 0) ∧
  (∀ f, f + 1 = P 0 0 → P 2 f + P 1 f = P 0 1) ∧
  (∀ f k, f < P 0 0 → k < P 1 f → mb P f k < P 0 1) ∧
  (∀ f k, f < P 0 0 → k < P 1 f → P 4 (mb P f k) = f) ∧
  (∀ f k k2, f < P 0 0 → k < k2 → k2 < P 1 f → mb P f k < mb P f k2) ∧
  (∀ b, b < P 0 1 → ∃ k, k < P 1 (P 4 b) ∧ mb P (P 4 b) k = b) ∧
  (∀ a, a < P 0 0 → P 9 a = 40) ∧
  (∀ a, a < P 0 0 → P 10 a = mb P a 0) ∧
  (∀ b, b < P 0 1 → P 0 0 ≤ P 8 b) ∧
  (∀ b, b < P 0 1 → P 8 b + ac P b ≤ P 0 2) ∧
  (∀ b b2, b < b2 → b2 < P 0 1 → P 8 b + ac P b ≤ P 8 b2) ∧
  (∀ b i, b < P 0 1 → i < ac P b → P 9 (P 8 b + i) = b) ∧
  (∀ b i, b < P 0 1 → i < ac P b → P 6 b = 0 → P 10 (P 8 b + i) = 40) ∧
  (∀ b i, b < P 0 1 → i < ac P b → P 6 b ≠ 0 → P 10 (P 8 b + i) < P 0 1) ∧
  (∀ b i, b < P 0 1 → i < ac P b → P 6 b ≠ 0 → P 4 (P 10 (P 8 b + i)) = P 4 b) ∧
  (∀ a, P 0 0 ≤ a → a < P 0 2 → P 9 a < P 0 1) ∧
  (∀ a, P 0 0 ≤ a → a < P 0 2 → ∃ i, i < ac P (P 9 a) ∧ a = P 8 (P 9 a) + i) ∧
  (∀ a, a < P 0 2 → P 11 a ≤ 9999) ∧
  (∀ i, i < P 0 6 → P 12 i < P 0 0) ∧
  (∀ i j, i < P 0 6 → j < P 0 6 → P 12 i = P 12 j → i = j) ∧
  (∀ i, i < P 0 1 → P 13 i < P 0 1) ∧
  (∀ i j, i < P 0 1 → j < P 0 1 → P 13 i = P 13 j → i = j)
theorem WF.f8 {P : PG} (h : WF P) : P 0 0 ≤ 8 := h.1
theorem WF.b40 {P : PG} (h : WF P) : P 0 1 ≤ 40 := h.2.1
theorem WF.a88 {P : PG} (h : WF P) : P 0 2 ≤ 88 := h.2.2.1
theorem WF.fa {P : PG} (h : WF P) : P 0 0 ≤ P 0 2 := h.2.2.2.1
theorem WF.cold {P : PG} (h : WF P) : P 0 3 ≤ 9999 := h.2.2.2.2.1
theorem WF.pagl {P : PG} (h : WF P) : 16 ≤ P 0 4 := h.2.2.2.2.2.1
theorem WF.pagh {P : PG} (h : WF P) : P 0 4 ≤ 512 := h.2.2.2.2.2.2.1
theorem WF.kepl {P : PG} (h : WF P) : 1 ≤ P 0 5 := h.2.2.2.2.2.2.2.1
theorem WF.keph {P : PG} (h : WF P) : P 0 5 ≤ 16 := h.2.2.2.2.2.2.2.2.1
theorem WF.trc {P : PG} (h : WF P) : P 0 6 ≤ P 0 0 := h.2.2.2.2.2.2.2.2.2.1
theorem WF.own {P : PG} (h : WF P) : ∀ b, b < P 0 1 → P 4 b < P 0 0 := h.2.2.2.2.2.2.2.2.2.2.1
theorem WF.szl {P : PG} (h : WF P) : ∀ b, b < P 0 1 → 1 ≤ P 5 b := h.2.2.2.2.2.2.2.2.2.2.2.1
theorem WF.szh {P : PG} (h : WF P) : ∀ b, b < P 0 1 → P 5 b ≤ 99 := h.2.2.2.2.2.2.2.2.2.2.2.2.1
theorem WF.en {P : PG} (h : WF P) : ∀ b, b < P 0 1 → P 6 b ≤ 2 := h.2.2.2.2.2.2.2.2.2.2.2.2.2.1
theorem WF.call {P : PG} (h : WF P) : ∀ b i, b < P 0 1 → i < 2 → P 7 (2 * b + i) < P 0 0 ∨ P 7 (2 * b + i) = 8 := h.2.2.2.2.2.2.2.2.2.2.2.2.2.2.1
theorem WF.call2 {P : PG} (h : WF P) : ∀ b, b < P 0 1 → P 7 (2 * b) = 8 → P 7 (2 * b + 1) = 8 := h.2.2.2.2.2.2.2.2.2.2.2.2.2.2.2.1
theorem WF.mem {P : PG} (h : WF P) : ∀ f, f < P 0 0 → 1 ≤ P 1 f := h.2.2.2.2.2.2.2.2.2.2.2.2.2.2.2.2.1
theorem WF.lst {P : PG} (h : WF P) : ∀ f, f < P 0 0 → P 2 f + P 1 f ≤ P 0 1 := h.2.2.2.2.2.2.2.2.2.2.2.2.2.2.2.2.2.1
theorem WF.nxt {P : PG} (h : WF P) : ∀ f, f + 1 < P 0 0 → P 2 (f + 1) = P 2 f + P 1 f := h.2.2.2.2.2.2.2.2.2.2.2.2.2.2.2.2.2.2.1
theorem WF.fst {P : PG} (h : WF P) : 0 < P 0 0 → P 2 0 = 0 := h.2.2.2.2.2.2.2.2.2.2.2.2.2.2.2.2.2.2.2.1
theorem WF.end {P : PG} (h : WF P) : ∀ f, f + 1 = P 0 0 → P 2 f + P 1 f = P 0 1 := h.2.2.2.2.2.2.2.2.2.2.2.2.2.2.2.2.2.2.2.2.1
theorem WF.mbl {P : PG} (h : WF P) : ∀ f k, f < P 0 0 → k < P 1 f → mb P f k < P 0 1 := h.2.2.2.2.2.2.2.2.2.2.2.2.2.2.2.2.2.2.2.2.2.1
theorem WF.mbo {P : PG} (h : WF P) : ∀ f k, f < P 0 0 → k < P 1 f → P 4 (mb P f k) = f := h.2.2.2.2.2.2.2.2.2.2.2.2.2.2.2.2.2.2.2.2.2.2.1
theorem WF.inc {P : PG} (h : WF P) : ∀ f k k2, f < P 0 0 → k < k2 → k2 < P 1 f → mb P f k < mb P f k2 := h.2.2.2.2.2.2.2.2.2.2.2.2.2.2.2.2.2.2.2.2.2.2.2.1
theorem WF.cov {P : PG} (h : WF P) : ∀ b, b < P 0 1 → ∃ k, k < P 1 (P 4 b) ∧ mb P (P 4 b) k = b := h.2.2.2.2.2.2.2.2.2.2.2.2.2.2.2.2.2.2.2.2.2.2.2.2.1
theorem WF.afr {P : PG} (h : WF P) : ∀ a, a < P 0 0 → P 9 a = 40 := h.2.2.2.2.2.2.2.2.2.2.2.2.2.2.2.2.2.2.2.2.2.2.2.2.2.1
theorem WF.ato {P : PG} (h : WF P) : ∀ a, a < P 0 0 → P 10 a = mb P a 0 := h.2.2.2.2.2.2.2.2.2.2.2.2.2.2.2.2.2.2.2.2.2.2.2.2.2.2.1
theorem WF.ffl {P : PG} (h : WF P) : ∀ b, b < P 0 1 → P 0 0 ≤ P 8 b := h.2.2.2.2.2.2.2.2.2.2.2.2.2.2.2.2.2.2.2.2.2.2.2.2.2.2.2.1
theorem WF.ffh {P : PG} (h : WF P) : ∀ b, b < P 0 1 → P 8 b + ac P b ≤ P 0 2 := h.2.2.2.2.2.2.2.2.2.2.2.2.2.2.2.2.2.2.2.2.2.2.2.2.2.2.2.2.1
theorem WF.fmo {P : PG} (h : WF P) : ∀ b b2, b < b2 → b2 < P 0 1 → P 8 b + ac P b ≤ P 8 b2 := h.2.2.2.2.2.2.2.2.2.2.2.2.2.2.2.2.2.2.2.2.2.2.2.2.2.2.2.2.2.1
theorem WF.fro {P : PG} (h : WF P) : ∀ b i, b < P 0 1 → i < ac P b → P 9 (P 8 b + i) = b := h.2.2.2.2.2.2.2.2.2.2.2.2.2.2.2.2.2.2.2.2.2.2.2.2.2.2.2.2.2.2.1
theorem WF.tor {P : PG} (h : WF P) : ∀ b i, b < P 0 1 → i < ac P b → P 6 b = 0 → P 10 (P 8 b + i) = 40 := h.2.2.2.2.2.2.2.2.2.2.2.2.2.2.2.2.2.2.2.2.2.2.2.2.2.2.2.2.2.2.2.1
theorem WF.tob {P : PG} (h : WF P) : ∀ b i, b < P 0 1 → i < ac P b → P 6 b ≠ 0 → P 10 (P 8 b + i) < P 0 1 := h.2.2.2.2.2.2.2.2.2.2.2.2.2.2.2.2.2.2.2.2.2.2.2.2.2.2.2.2.2.2.2.2.1
theorem WF.too {P : PG} (h : WF P) : ∀ b i, b < P 0 1 → i < ac P b → P 6 b ≠ 0 → P 4 (P 10 (P 8 b + i)) = P 4 b := h.2.2.2.2.2.2.2.2.2.2.2.2.2.2.2.2.2.2.2.2.2.2.2.2.2.2.2.2.2.2.2.2.2.1
theorem WF.arb {P : PG} (h : WF P) : ∀ a, P 0 0 ≤ a → a < P 0 2 → P 9 a < P 0 1 := h.2.2.2.2.2.2.2.2.2.2.2.2.2.2.2.2.2.2.2.2.2.2.2.2.2.2.2.2.2.2.2.2.2.2.1
theorem WF.arc {P : PG} (h : WF P) : ∀ a, P 0 0 ≤ a → a < P 0 2 → ∃ i, i < ac P (P 9 a) ∧ a = P 8 (P 9 a) + i := h.2.2.2.2.2.2.2.2.2.2.2.2.2.2.2.2.2.2.2.2.2.2.2.2.2.2.2.2.2.2.2.2.2.2.2.1
theorem WF.cnt {P : PG} (h : WF P) : ∀ a, a < P 0 2 → P 11 a ≤ 9999 := h.2.2.2.2.2.2.2.2.2.2.2.2.2.2.2.2.2.2.2.2.2.2.2.2.2.2.2.2.2.2.2.2.2.2.2.2.1
theorem WF.tro {P : PG} (h : WF P) : ∀ i, i < P 0 6 → P 12 i < P 0 0 := h.2.2.2.2.2.2.2.2.2.2.2.2.2.2.2.2.2.2.2.2.2.2.2.2.2.2.2.2.2.2.2.2.2.2.2.2.2.1
theorem WF.trd {P : PG} (h : WF P) : ∀ i j, i < P 0 6 → j < P 0 6 → P 12 i = P 12 j → i = j := h.2.2.2.2.2.2.2.2.2.2.2.2.2.2.2.2.2.2.2.2.2.2.2.2.2.2.2.2.2.2.2.2.2.2.2.2.2.2.1
theorem WF.ob {P : PG} (h : WF P) : ∀ i, i < P 0 1 → P 13 i < P 0 1 := h.2.2.2.2.2.2.2.2.2.2.2.2.2.2.2.2.2.2.2.2.2.2.2.2.2.2.2.2.2.2.2.2.2.2.2.2.2.2.2.1
theorem WF.oi {P : PG} (h : WF P) : ∀ i j, i < P 0 1 → j < P 0 1 → P 13 i = P 13 j → i = j := h.2.2.2.2.2.2.2.2.2.2.2.2.2.2.2.2.2.2.2.2.2.2.2.2.2.2.2.2.2.2.2.2.2.2.2.2.2.2.2.2
def DevP (D : DT) (r : Nat) (P : PG) : Prop :=
  (D r 0 = (P 0 0 : Int)) ∧
  (D r 1 = (P 0 1 : Int)) ∧
  (D r 2 = (P 0 2 : Int)) ∧
  (D r 3 = (P 0 3 : Int)) ∧
  (D r 4 = (P 0 4 : Int)) ∧
  (D r 5 = (P 0 5 : Int)) ∧
  (D r 6 = (P 0 6 : Int)) ∧
  (∀ f, f < P 0 0 → D (r + 1) f = (P 1 f : Int)) ∧
  (∀ f, f < P 0 0 → D (r + 2) f = (P 2 f : Int)) ∧
  (∀ b, b < P 0 1 → D (r + 3) b = (P 3 b : Int)) ∧
  (∀ b, b < P 0 1 → D (r + 4) b = (P 4 b : Int)) ∧
  (∀ b, b < P 0 1 → D (r + 5) b = (P 5 b : Int)) ∧
  (∀ b, b < P 0 1 → D (r + 6) b = (P 6 b : Int)) ∧
  (∀ b, b < P 0 1 → D (r + 8) b = (P 8 b : Int)) ∧
  (∀ b, b < P 0 1 → D (r + 13) b = (P 13 b : Int)) ∧
  (∀ b, b < 2 * P 0 1 → D (r + 7) b = nz 8 (P 7 b)) ∧
  (∀ a, a < P 0 2 → D (r + 9) a = nz 40 (P 9 a)) ∧
  (∀ a, a < P 0 2 → D (r + 10) a = nz 40 (P 10 a)) ∧
  (∀ a, a < P 0 2 → D (r + 11) a = (P 11 a : Int)) ∧
  (∀ i, i < P 0 6 → D (r + 12) i = (P 12 i : Int))
theorem DevP.s0 {D : DT} {r : Nat} {P : PG} (h : DevP D r P) : D r 0 = (P 0 0 : Int) := h.1
theorem DevP.s1 {D : DT} {r : Nat} {P : PG} (h : DevP D r P) : D r 1 = (P 0 1 : Int) := h.2.1
theorem DevP.s2 {D : DT} {r : Nat} {P : PG} (h : DevP D r P) : D r 2 = (P 0 2 : Int) := h.2.2.1
theorem DevP.s3 {D : DT} {r : Nat} {P : PG} (h : DevP D r P) : D r 3 = (P 0 3 : Int) := h.2.2.2.1
theorem DevP.s4 {D : DT} {r : Nat} {P : PG} (h : DevP D r P) : D r 4 = (P 0 4 : Int) := h.2.2.2.2.1
theorem DevP.s5 {D : DT} {r : Nat} {P : PG} (h : DevP D r P) : D r 5 = (P 0 5 : Int) := h.2.2.2.2.2.1
theorem DevP.s6 {D : DT} {r : Nat} {P : PG} (h : DevP D r P) : D r 6 = (P 0 6 : Int) := h.2.2.2.2.2.2.1
theorem DevP.mem {D : DT} {r : Nat} {P : PG} (h : DevP D r P) : ∀ f, f < P 0 0 → D (r + 1) f = (P 1 f : Int) := h.2.2.2.2.2.2.2.1
theorem DevP.lst {D : DT} {r : Nat} {P : PG} (h : DevP D r P) : ∀ f, f < P 0 0 → D (r + 2) f = (P 2 f : Int) := h.2.2.2.2.2.2.2.2.1
theorem DevP.lis {D : DT} {r : Nat} {P : PG} (h : DevP D r P) : ∀ b, b < P 0 1 → D (r + 3) b = (P 3 b : Int) := h.2.2.2.2.2.2.2.2.2.1
theorem DevP.own {D : DT} {r : Nat} {P : PG} (h : DevP D r P) : ∀ b, b < P 0 1 → D (r + 4) b = (P 4 b : Int) := h.2.2.2.2.2.2.2.2.2.2.1
theorem DevP.siz {D : DT} {r : Nat} {P : PG} (h : DevP D r P) : ∀ b, b < P 0 1 → D (r + 5) b = (P 5 b : Int) := h.2.2.2.2.2.2.2.2.2.2.2.1
theorem DevP.en {D : DT} {r : Nat} {P : PG} (h : DevP D r P) : ∀ b, b < P 0 1 → D (r + 6) b = (P 6 b : Int) := h.2.2.2.2.2.2.2.2.2.2.2.2.1
theorem DevP.fst {D : DT} {r : Nat} {P : PG} (h : DevP D r P) : ∀ b, b < P 0 1 → D (r + 8) b = (P 8 b : Int) := h.2.2.2.2.2.2.2.2.2.2.2.2.2.1
theorem DevP.ow {D : DT} {r : Nat} {P : PG} (h : DevP D r P) : ∀ b, b < P 0 1 → D (r + 13) b = (P 13 b : Int) := h.2.2.2.2.2.2.2.2.2.2.2.2.2.2.1
theorem DevP.call {D : DT} {r : Nat} {P : PG} (h : DevP D r P) : ∀ b, b < 2 * P 0 1 → D (r + 7) b = nz 8 (P 7 b) := h.2.2.2.2.2.2.2.2.2.2.2.2.2.2.2.1
theorem DevP.fro {D : DT} {r : Nat} {P : PG} (h : DevP D r P) : ∀ a, a < P 0 2 → D (r + 9) a = nz 40 (P 9 a) := h.2.2.2.2.2.2.2.2.2.2.2.2.2.2.2.2.1
theorem DevP.to {D : DT} {r : Nat} {P : PG} (h : DevP D r P) : ∀ a, a < P 0 2 → D (r + 10) a = nz 40 (P 10 a) := h.2.2.2.2.2.2.2.2.2.2.2.2.2.2.2.2.2.1
theorem DevP.cnt {D : DT} {r : Nat} {P : PG} (h : DevP D r P) : ∀ a, a < P 0 2 → D (r + 11) a = (P 11 a : Int) := h.2.2.2.2.2.2.2.2.2.2.2.2.2.2.2.2.2.2.1
theorem DevP.tra {D : DT} {r : Nat} {P : PG} (h : DevP D r P) : ∀ i, i < P 0 6 → D (r + 12) i = (P 12 i : Int) := h.2.2.2.2.2.2.2.2.2.2.2.2.2.2.2.2.2.2.2
def cs (P : PG) (b : Nat) : Nat := (if P 7 (2 * b) = 8 then 0 else 1) + (if P 7 (2 * b + 1) = 8 then 0 else 1)
def RefP (D : DT) (o : Nat) (P : PG) : Prop :=
  (D 188 (o + 0) = (P 0 0 : Int)) ∧
  (D 188 (o + 1) = (P 0 1 : Int)) ∧
  (D 188 (o + 2) = (P 0 2 : Int)) ∧
  (D 188 (o + 3) = (P 0 3 : Int)) ∧
  (D 188 (o + 4) = (P 0 4 : Int)) ∧
  (D 188 (o + 5) = (P 0 5 : Int)) ∧
  (D 188 (o + 6) = (P 0 6 : Int)) ∧
  (∀ b, b < P 0 1 → D 188 (o + 10 + b) = (P 4 b : Int)) ∧
  (∀ b, b < P 0 1 → D 188 (o + 50 + b) = (P 5 b : Int)) ∧
  (∀ b, b < P 0 1 → D 188 (o + 210 + b) = (P 6 b : Int)) ∧
  (∀ b, b < P 0 1 → D 188 (o + 250 + b) = (P 8 b : Int)) ∧
  (∀ b, b < P 0 1 → D 188 (o + 568 + b) = (P 13 b : Int)) ∧
  (∀ b i, b < P 0 1 → i < cs P b → D 188 (o + 90 + 2 * b + i) = (P 7 (2 * b + i) : Int)) ∧
  (∀ b, b < P 0 1 → D 188 (o + 170 + b) = (cs P b : Int)) ∧
  (∀ a, a < P 0 2 → D 188 (o + 290 + a) = nz 40 (P 9 a)) ∧
  (∀ a, a < P 0 2 → D 188 (o + 380 + a) = nz 40 (P 10 a)) ∧
  (∀ a, a < P 0 2 → D 188 (o + 470 + a) = (P 11 a : Int)) ∧
  (∀ i, i < P 0 6 → D 188 (o + 560 + i) = (P 12 i : Int))
theorem RefP.s0 {D : DT} {o : Nat} {P : PG} (h : RefP D o P) : D 188 (o + 0) = (P 0 0 : Int) := h.1
theorem RefP.s1 {D : DT} {o : Nat} {P : PG} (h : RefP D o P) : D 188 (o + 1) = (P 0 1 : Int) := h.2.1
theorem RefP.s2 {D : DT} {o : Nat} {P : PG} (h : RefP D o P) : D 188 (o + 2) = (P 0 2 : Int) := h.2.2.1
theorem RefP.s3 {D : DT} {o : Nat} {P : PG} (h : RefP D o P) : D 188 (o + 3) = (P 0 3 : Int) := h.2.2.2.1
theorem RefP.s4 {D : DT} {o : Nat} {P : PG} (h : RefP D o P) : D 188 (o + 4) = (P 0 4 : Int) := h.2.2.2.2.1
theorem RefP.s5 {D : DT} {o : Nat} {P : PG} (h : RefP D o P) : D 188 (o + 5) = (P 0 5 : Int) := h.2.2.2.2.2.1
theorem RefP.s6 {D : DT} {o : Nat} {P : PG} (h : RefP D o P) : D 188 (o + 6) = (P 0 6 : Int) := h.2.2.2.2.2.2.1
theorem RefP.own {D : DT} {o : Nat} {P : PG} (h : RefP D o P) : ∀ b, b < P 0 1 → D 188 (o + 10 + b) = (P 4 b : Int) := h.2.2.2.2.2.2.2.1
theorem RefP.siz {D : DT} {o : Nat} {P : PG} (h : RefP D o P) : ∀ b, b < P 0 1 → D 188 (o + 50 + b) = (P 5 b : Int) := h.2.2.2.2.2.2.2.2.1
theorem RefP.en {D : DT} {o : Nat} {P : PG} (h : RefP D o P) : ∀ b, b < P 0 1 → D 188 (o + 210 + b) = (P 6 b : Int) := h.2.2.2.2.2.2.2.2.2.1
theorem RefP.fst {D : DT} {o : Nat} {P : PG} (h : RefP D o P) : ∀ b, b < P 0 1 → D 188 (o + 250 + b) = (P 8 b : Int) := h.2.2.2.2.2.2.2.2.2.2.1
theorem RefP.ow {D : DT} {o : Nat} {P : PG} (h : RefP D o P) : ∀ b, b < P 0 1 → D 188 (o + 568 + b) = (P 13 b : Int) := h.2.2.2.2.2.2.2.2.2.2.2.1
theorem RefP.call {D : DT} {o : Nat} {P : PG} (h : RefP D o P) : ∀ b i, b < P 0 1 → i < cs P b → D 188 (o + 90 + 2 * b + i) = (P 7 (2 * b + i) : Int) := h.2.2.2.2.2.2.2.2.2.2.2.2.1
theorem RefP.cs {D : DT} {o : Nat} {P : PG} (h : RefP D o P) : ∀ b, b < P 0 1 → D 188 (o + 170 + b) = (cs P b : Int) := h.2.2.2.2.2.2.2.2.2.2.2.2.2.1
theorem RefP.fro {D : DT} {o : Nat} {P : PG} (h : RefP D o P) : ∀ a, a < P 0 2 → D 188 (o + 290 + a) = nz 40 (P 9 a) := h.2.2.2.2.2.2.2.2.2.2.2.2.2.2.1
theorem RefP.to {D : DT} {o : Nat} {P : PG} (h : RefP D o P) : ∀ a, a < P 0 2 → D 188 (o + 380 + a) = nz 40 (P 10 a) := h.2.2.2.2.2.2.2.2.2.2.2.2.2.2.2.1
theorem RefP.cnt {D : DT} {o : Nat} {P : PG} (h : RefP D o P) : ∀ a, a < P 0 2 → D 188 (o + 470 + a) = (P 11 a : Int) := h.2.2.2.2.2.2.2.2.2.2.2.2.2.2.2.2.1
theorem RefP.tra {D : DT} {o : Nat} {P : PG} (h : RefP D o P) : ∀ i, i < P 0 6 → D 188 (o + 560 + i) = (P 12 i : Int) := h.2.2.2.2.2.2.2.2.2.2.2.2.2.2.2.2.2
theorem DevP.cg {D D' : DT} {r : Nat} {P : PG} (h : DevP D r P) (e : ∀ c, r ≤ c → c ≤ r + 13 → D' c = D c) : DevP D' r P := by
  unfold DevP
  rw [e r (by omega) (by omega), e (r + 1) (by omega) (by omega), e (r + 2) (by omega) (by omega), e (r + 3) (by omega) (by omega), e (r + 4) (by omega) (by omega), e (r + 5) (by omega) (by omega), e (r + 6) (by omega) (by omega), e (r + 7) (by omega) (by omega), e (r + 8) (by omega) (by omega), e (r + 9) (by omega) (by omega), e (r + 10) (by omega) (by omega), e (r + 11) (by omega) (by omega), e (r + 12) (by omega) (by omega), e (r + 13) (by omega) (by omega)]
  exact h
theorem RefP.cg {D D' : DT} {o : Nat} {P : PG} (h : RefP D o P) (e : D' 188 = D 188) : RefP D' o P := by
  unfold RefP
  rw [e]
  exact h
/-! the arcs -/
theorem WF.u41 {P : PG} (h : WF P) {a : Nat} (ha : a < P 0 2) : P 9 a < 41 := by
  by_cases q : a < P 0 0
  · rw [h.afr a q]; omega
  · have := h.arb a (by omega) ha
    have := h.b40
    omega
theorem WF.v41 {P : PG} (h : WF P) {a : Nat} (ha : a < P 0 2) : P 10 a < 41 := by
  have hb := h.b40
  by_cases q : a < P 0 0
  · rw [h.ato a q]
    have := h.mbl a 0 q (h.mem a q)
    omega
  · obtain ⟨i, hi, e⟩ := h.arc a (by omega) ha
    have hu := h.arb a (by omega) ha
    by_cases he : P 6 (P 9 a) = 0
    · have := h.tor (P 9 a) i hu hi he
      rw [← e] at this; omega
    · have := h.tob (P 9 a) i hu hi he
      rw [← e] at this; omega
theorem WF.fnl {P : PG} (h : WF P) {a : Nat} (ha : a < P 0 2) : fn P a < P 0 0 := by
  unfold fn
  split
  · assumption
  · exact h.own _ (h.arb a (by omega) ha)
/-- an arc's ends are of its function, or outside -/
theorem WF.uo {P : PG} (h : WF P) {a : Nat} (ha : a < P 0 2) : P 9 a = 40 ∨ P 9 a < P 0 1 ∧ P 4 (P 9 a) = fn P a := by
  unfold fn
  split
  · rename_i q; exact Or.inl (h.afr a q)
  · exact Or.inr ⟨h.arb a (by omega) ha, rfl⟩
theorem WF.vo {P : PG} (h : WF P) {a : Nat} (ha : a < P 0 2) : P 10 a = 40 ∨ P 10 a < P 0 1 ∧ P 4 (P 10 a) = fn P a := by
  unfold fn
  split
  · rename_i q
    rw [h.ato a q]
    exact Or.inr ⟨h.mbl a 0 q (h.mem a q), h.mbo a 0 q (h.mem a q)⟩
  · obtain ⟨i, hi, e⟩ := h.arc a (by omega) ha
    have hu := h.arb a (by omega) ha
    by_cases he : P 6 (P 9 a) = 0
    · have := h.tor (P 9 a) i hu hi he
      rw [← e] at this; exact Or.inl this
    · have h1 := h.tob (P 9 a) i hu hi he
      have h2 := h.too (P 9 a) i hu hi he
      rw [← e] at h1 h2
      exact Or.inr ⟨h1, h2⟩
/-! what is read of a program at cell 4 -/
theorem s_member {D : DT} {P : PG} (w : WF P) {r : Nat} (d : DevP D r P) {f k : Nat} (hf : f < P 0 0) (hk : k < P 1 f) : m_X7_member r (f : Int) (k : Int) D = some ((mb P f k : Nat) : Int) := by
  have h1 := w.f8; have h2 := w.lst f hf; have h3 := w.b40
  unfold m_X7_member
  rw [ard_n (by omega), Option.bind_some, d.lst f hf, ard_v (P 2 f + k) (by rw [w32_id (by omega) (by omega)]; omega) (by omega), Option.bind_some, d.lis _ (by omega)]
  rfl
theorem s_entryOf {D : DT} {P : PG} (w : WF P) {r : Nat} (d : DevP D r P) {f : Nat} (hf : f < P 0 0) : m_X7_entryOf r (f : Int) D = some ((mb P f 0 : Nat) : Int) := by
  unfold m_X7_entryOf
  rw [show (0 : Int) = ((0 : Nat) : Int) from rfl, s_member w d hf (w.mem f hf)]; rfl
theorem s_arcsOf {D : DT} {P : PG} (w : WF P) (d : DevP D 4 P) {b : Nat} (hb : b < P 0 1) : m_X7_arcsOf (b : Int) D = some ((ac P b : Nat) : Int) := by
  have h3 := w.b40
  unfold m_X7_arcsOf ac
  rw [ard_n (by omega), Option.bind_some, d.en b hb]
  by_cases h : P 6 b = 2
  · simp [h]
  · have : ¬ ((P 6 b : Nat) : Int) = 2 := by omega
    simp [h, this]
def inn (P : PG) (a : Nat) : Prop := P 9 a ≠ 40 ∧ P 10 a ≠ 40
theorem s_isInside {D : DT} {P : PG} (w : WF P) {r : Nat} (d : DevP D r P) {a : Nat} (ha : a < P 0 2) : (inn P a ∧ m_X7_isInside r (a : Int) D = some 1) ∨ (¬ inn P a ∧ m_X7_isInside r (a : Int) D = some 0) := by
  have h3 := w.a88
  unfold m_X7_isInside inn
  rw [ard_n (by omega), Option.bind_some, d.fro a ha]
  by_cases h : P 9 a = 40
  · rw [if_pos (nz_m1.mpr h)]; right; exact ⟨fun q => q.1 h, rfl⟩
  · rw [if_neg (fun q => h (nz_m1.mp q)), ard_n (by omega), Option.bind_some, d.to a ha]
    by_cases h2 : P 10 a = 40
    · rw [if_pos (nz_m1.mpr h2)]; right; exact ⟨fun q => q.2 h2, rfl⟩
    · rw [if_neg (fun q => h2 (nz_m1.mp q))]; left; exact ⟨⟨h, h2⟩, rfl⟩
theorem s_isEntry {D : DT} {P : PG} (w : WF P) (d : DevP D 4 P) {b : Nat} (hb : b < P 0 1) : m_X7_isEntry (b : Int) D = some (if mb P (P 4 b) 0 = b then 1 else 0) := by
  have h3 := w.b40
  unfold m_X7_isEntry
  rw [ard_n (by omega), Option.bind_some, d.own b hb, s_entryOf w d (w.own b hb), Option.bind_some]
  by_cases h : mb P (P 4 b) 0 = b
  · simp [h]
  · have : ¬ ((mb P (P 4 b) 0 : Nat) : Int) = (b : Int) := by omega
    simp [h, this]
