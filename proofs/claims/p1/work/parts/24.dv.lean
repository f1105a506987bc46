/-- a local that is no longer asked: anything but a long -/
def dv (o : Option (Sum Int Nat)) : Option AV := match o with
  | none => none
  | some (.inl x) => some (.inl x)
  | some (.inr k) => some (.inr (.inr k))
