/-! ===== the law on the machine, out of the abstract machine's run ===== -/
/-- the data at the start: the script, and 0 to 7 -/
def dstart (xs : Nat → Int32) : DT := fun k j => if k = 0 then (xs j).toInt else if k = 1 then (nI j).toInt else 0
/-- what is left to show, without any machine -/
def PureLaw : Prop := ∀ (L : Nat) (xs : Nat → Int32), L ≤ 6 → ∃ (D9 : DT) (D' : DT), m_X12_plain 0 (dini (dstart xs)) = some D9 ∧ m_L_law L D9 = some (1, D')
theorem told_of {args : Array Value} {s : State} (hg : (Jvm.Cond.and given_1 narrow_1).before args s = true) {A : Nat → Prop} (hA : ∀ a : Nat, a < s.heap.size → ¬ A a) : ∃ t : Nat, (Term.static "FetchOrder" "AS_TOLD" "[I").eval args s none [] s = some (.ref t) ∧ va_T .int t 8 (fun j => .int (nI j)) A s s.heap := by
  have hs := flat_of_before _ hg
  refine va_Tof (by decide) (hs _ (by decide +kernel)) (va_eqt (hs _ (by decide +kernel))) (fun j hj => ?_) hA
  match j, hj with
  | 0, _ => exact va_eqt (hs (Cond.eq (Term.elem (Term.static "FetchOrder" "AS_TOLD" "[I") (Term.int 0)) (Term.int 0)) (by decide +kernel))
  | 1, _ => exact va_eqt (hs (Cond.eq (Term.elem (Term.static "FetchOrder" "AS_TOLD" "[I") (Term.int 1)) (Term.int 1)) (by decide +kernel))
  | 2, _ => exact va_eqt (hs (Cond.eq (Term.elem (Term.static "FetchOrder" "AS_TOLD" "[I") (Term.int 2)) (Term.int 2)) (by decide +kernel))
  | 3, _ => exact va_eqt (hs (Cond.eq (Term.elem (Term.static "FetchOrder" "AS_TOLD" "[I") (Term.int 3)) (Term.int 3)) (by decide +kernel))
  | 4, _ => exact va_eqt (hs (Cond.eq (Term.elem (Term.static "FetchOrder" "AS_TOLD" "[I") (Term.int 4)) (Term.int 4)) (by decide +kernel))
  | 5, _ => exact va_eqt (hs (Cond.eq (Term.elem (Term.static "FetchOrder" "AS_TOLD" "[I") (Term.int 5)) (Term.int 5)) (by decide +kernel))
  | 6, _ => exact va_eqt (hs (Cond.eq (Term.elem (Term.static "FetchOrder" "AS_TOLD" "[I") (Term.int 6)) (Term.int 6)) (by decide +kernel))
  | 7, _ => exact va_eqt (hs (Cond.eq (Term.elem (Term.static "FetchOrder" "AS_TOLD" "[I") (Term.int 7)) (Term.int 7)) (by decide +kernel))
  | n + 8, hj => omega
theorem nest_in : ∀ w ∈ nestW, w ∈ lw_tbl := by decide +kernel
theorem whole_open (hpure : PureLaw) {p : Program} {e : Env} {s : State} {m : MethodId} {below : List Frame} {meth : Method} {c : Code} (l : Launch) {b L : Nat} {xs : Nat → Int32} (hL : L ≤ 6) (C0 : lw_At p s m meth c b L xs) : W p l e room_1 s m #[Value.ref b] below meth c s.heap [] 0 0 (lw_Z below #[Value.ref b] s) (entryFrame m ([Value.ref b] : List Value).toArray 4) := by
  obtain ⟨hx, hb, hr, hml, hown, hts, hX, hbl, hlocks, hgv⟩ := id C0
  have hA : ∀ q : Nat, s.heap.size ≤ q → (fun q : Nat => s.heap.size ≤ q) q := fun _ h => h
  have hA2 : ∀ a : Nat, a < s.heap.size → ¬ (fun q : Nat => s.heap.size ≤ q) a := fun a h => Nat.not_le.mpr h
  obtain ⟨t, hte, hT⟩ := told_of hgv hA2
  have htg : ∀ w ∈ lw_good, w.before #[Value.ref b] s = true := fun w hw => hts w (List.mem_filter.mp hw).1
  have hZ : va_Z "FetchOrder" "AS_TOLD" "[I" (.ref t) (fun q : Nat => s.heap.size ≤ q) s s.heap := va_Zref (hts _ (List.mem_of_getElem? (i := 1102) (by decide +kernel))) (hts _ (List.mem_of_getElem? (i := 165) (by decide +kernel))) hte hA2
  have hN : ∀ w ∈ nestW, va_Nw w s := fun w hw => by
    obtain ⟨a, i, x, h, rfl⟩ := nest_tab w hw
    exact va_Nw.of rfl (hts _ (nest_in _ hw))
  obtain ⟨dC, dI, hKc⟩ : ∃ (dC : Nat → ClassId) (dI : Nat → Nat → Nat), ∀ (k : Nat) (q : vw_C), classes[k]? = some q → u_Kn s q.1 q.2.1 q.2.2 (dC k) (dI k) := by
    have hall : ∀ k : Nat, ∃ (cC : ClassId) (iS : Nat → Nat), ∀ q : vw_C, classes[k]? = some q → u_Kn s q.1 q.2.1 q.2.2 cC iS := by
      intro k
      cases hq : classes[k]? with
      | none => exact ⟨default, fun _ => 0, fun q h => by cases h⟩
      | some q =>
        obtain ⟨c1, -, -, -, c5, -⟩ := cl_ok _ _ hq
        obtain ⟨cC, iS, h⟩ := u_known htg c1 (htg _ c5)
        exact ⟨cC, iS, fun q' h' => by cases h'; exact h⟩
    exact ⟨fun k => Classical.choose (hall k), fun k => Classical.choose (Classical.choose_spec (hall k)), fun k q hq => Classical.choose_spec (Classical.choose_spec (hall k)) q hq⟩
  obtain ⟨D9, D', hpl, hlaw⟩ := hpure L xs hL
  obtain ⟨N, hev⟩ := law_ev L 40 (Nat.le_refl _) hpl hlaw
  have hrun := hev N N (Nat.le_refl _) (Nat.le_refl _)
  have hlen : (SH L).length = 228 := rfl
  have hslo : slo (SH L) = L + 8 + 16783 := by
    show L + (8 + slo SH0) = _
    have e0 : slo SH0 = 16783 := by decide +kernel
    omega
  have C : CXT p s m #[Value.ref b] meth c room_1 code 4 13 false (fun q : Nat => s.heap.size ≤ q) b t L xs 40 2 (L + 8) (some (.inl 1), (SH L, D')) :=
    ⟨hx, hb, hml, hown, htg, hA, ⟨hX, hbl, hA2 b hbl⟩, hT, hZ, hN, ⟨va_AO.of (hts (.arrayOver (.object RC4)) (List.mem_of_getElem? (i := 554) (by decide +kernel))), va_AO.of (hts (.arrayOver (.object RC7)) (List.mem_of_getElem? (i := 403) (by decide +kernel)))⟩, ⟨by decide, by decide⟩, ⟨by show (SH L).length ≤ 2 + 600000; rw [hlen]; decide, by show slo (SH L) ≤ L + 8 + 7302250; rw [hslo]; omega⟩, fun h => by cases h⟩
  have HE : REnd p l e room_1 s m #[Value.ref b] below meth c (lw_Z below #[Value.ref b] s) code (fun q : Nat => s.heap.size ≤ q) dC dI b t L xs 2 (L + 8) (adr b t []) (some (.inl 1), (SH L, D')) 2 := by
    intro pc ls st ws tys H locs hst q1 q2 q3 q4 q5 q6 q7 q8
    rcases hst with ⟨hrk, -⟩ | ⟨hrk, i, hres, rfl, hdg, h01⟩
    · cases hrk
    · have hi : i = 1 := by
        rw [i32_eq]
        have : (1 : Int) = i.toInt := by
          have := Option.some.inj hres
          exact Sum.inl.inj this
        rw [← this]; rfl
      subst hi
      refine va_forget (fun q hq => q5.2.2 q hq) ?_
      refine W.widen (k := 600000) (n := 7302250) (by show (SH L).length - 2 ≤ _; rw [hlen]; decide) (by show slo (SH L) - (L + 8) ≤ _; rw [hslo]; omega) ?_
      exact lw_ret hx hb hr hlocks hdg
  have hrel : Rel b t L xs [] [] [(104, L, []), (104, 8, [])] (dstart xs) := by
    refine ⟨rfl, rfl, rfl, fun j _ => rfl, fun j _ => rfl, fun k tag n refs hk j q hj => ?_, fun k a E hk => by simp at hk⟩
    match k, hk with
    | 0, hk => cases hk; simp at hj
    | 1, hk => cases hk; simp at hj
    | k + 2, hk => simp at hk
  have hK : va_K (dC, dI) classes [] s := ⟨hKc, fun k q h => by simp at h⟩
  have hP : va_P (dC, dI) classes [] s.heap := fun k q h => by simp at h
  have hD : va_D (fun q : Nat => s.heap.size ≤ q) [] := ⟨fun i j p q h => by simp at h, fun k q h => by simp at h⟩
  rw [lg_entry_eq]
  have hW := runSound C (metA rowsOK N l 40) rw_law HE N 0 _ _ _ _ hrun _ [] [] [] s.heap [] ⟨rlo_entry (AA := [.inr (.inr 0)]) (vs := [.ref b]) rfl ⟨⟨(by show 0 < 2; decide), rfl⟩, trivial⟩ (by decide), trivial, hrel, hK, hP, hD, va_S.rf, (Nat.le_refl 2), Nat.le_refl _, fun _ _ => rfl⟩
  have e3 : (cs_0 L).length - 2 = 0 := rfl
  have e4 : slo (cs_0 L) - (L + 8) = 0 := by show L + (8 + 0) - (L + 8) = 0; omega
  rw [e3, e4] at hW
  exact hW
