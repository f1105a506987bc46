/-! ===== the reference's row of numbers: reading and writing ===== -/
theorem rd {D : DT} {x : Int} (k : Nat) (hx : x = (k : Int)) (h : k < 4864) : ard D 188 4864 (w32 x) = some (D 188 k) := ard_v k (by rw [hx, w32_id (by omega) (by omega)]) h
theorem wr {D : DT} {x v : Int} (k : Nat) (hx : x = (k : Int)) (h : k < 4864) : awr D 188 4864 (w32 x) v = some (dput D 188 k v) := awr_v k (by rw [hx, w32_id (by omega) (by omega)]) h
