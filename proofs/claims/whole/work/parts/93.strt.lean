/-! what is given at the law's entry -/
theorem st_mem1 {k : Nat} {w : Cond} (h : tables_1_1[k]? = some w) : w ∈ lw_tbl := List.mem_append_right _ (List.mem_append_left _ (List.mem_of_getElem? h))
theorem st_mem2 {k : Nat} {w : Cond} (h : tables_1_2[k]? = some w) : w ∈ lw_tbl := List.mem_append_right _ (List.mem_append_right _ (List.mem_append_left _ (List.mem_of_getElem? h)))
theorem st_mem3 {k : Nat} {w : Cond} (h : tables_1_3[k]? = some w) : w ∈ lw_tbl := List.mem_append_right _ (List.mem_append_right _ (List.mem_append_right _ (List.mem_append_left _ (List.mem_of_getElem? h))))
theorem st_key {s : State} {C : String} {T : u_T} {N : Nat} (h : ∃ (cC : ClassId) (iS : Nat → Nat), u_Kn s C T N cC iS) : ∃ r : ClassId × (Nat → Nat), ∀ q : vw_C, some (C, T, N) = some q → u_Kn s q.1 q.2.1 q.2.2 r.1 r.2 := by
  obtain ⟨x, y, h⟩ := h
  exact ⟨(x, y), fun q e => by cases e; exact h⟩
theorem st_known {s : State} {args : Array Value} (hts : ∀ w ∈ TB, w.before args s = true) (c : Nat) : ∃ r : ClassId × (Nat → Nat), ∀ q : vw_C, vwCl[c]? = some q → u_Kn s q.1 q.2.1 q.2.2 r.1 r.2 := by
  by_cases h0 : c = 0
  · subst h0; exact st_key (u_known hts lay_X0 (hts _ it_X0))
  by_cases h1 : c = 1
  · subst h1; exact st_key (u_known hts lay_X1 (hts _ it_X1))
  by_cases h2 : c = 2
  · subst h2; exact st_key (u_known hts lay_X2 (hts _ it_X2))
  by_cases h3 : c = 3
  · subst h3; exact st_key (u_known hts lay_X3 (hts _ it_X3))
  by_cases h4 : c = 4
  · subst h4; exact st_key (u_known hts lay_X4 (hts _ it_X4))
  by_cases h5 : c = 5
  · subst h5; exact st_key (u_known hts lay_X5 (hts _ it_X5))
  by_cases h6 : c = 6
  · subst h6; exact st_key (u_known hts lay_X6 (hts _ it_X6))
  by_cases h7 : c = 7
  · subst h7; exact st_key (u_known hts lay_X7 (hts _ it_X7))
  by_cases h8 : c = 8
  · subst h8; exact st_key (u_known hts lay_X8 (hts _ it_X8))
  by_cases h9 : c = 9
  · subst h9; exact st_key (u_known hts lay_X9 (hts _ it_X9))
  by_cases h10 : c = 10
  · subst h10; exact st_key (u_known hts lay_X10 (hts _ it_X10))
  by_cases h11 : c = 11
  · subst h11; exact st_key (u_known hts lay_X11 (hts _ it_X11))
  refine ⟨((0 : Nat), fun _ => 0), fun q e => ?_⟩
  have hc : c < 12 := (List.getElem?_eq_some_iff.mp e).1
  omega
theorem st_arr {s : State} {args : Array Value} {ty : FieldType} (h : (Cond.arrayClass ty).before args s = true) : ∃ cA : ClassId, ArrOfT s cA ty ∧ s.vm.findClass ("[" ++ ty.toString) = some cA := by
  obtain ⟨cA, kA, comp, h1, h2, h3⟩ := Cond.arrayClass_spec h
  exact ⟨cA, fun n z => ⟨fun k h => (by cases h), kA, h2, comp, h3⟩, h1⟩
theorem st_K {s : State} {args : Array Value} (hts : ∀ w ∈ TB, w.before args s = true) : ∃ D : va_G, va_K D vwCl (tyL D) s := by
  obtain ⟨f, hf⟩ := Classical.skolem.1 (st_known hts)
  obtain ⟨c0, a0, b0⟩ := st_arr (hts _ ac_int)
  obtain ⟨c1, a1, b1⟩ := st_arr (hts _ ac_long)
  obtain ⟨c2, a2, b2⟩ := st_arr (hts _ ac_byte)
  obtain ⟨c3, a3, b3⟩ := st_arr (hts _ ac_boolean)
  refine ⟨(fun c => if c < 100 then (f c).1 else if c = 100 then c0 else if c = 101 then c1 else if c = 102 then c2 else c3, fun c => (f c).2), fun c q h => ?_, fun k q h => ?_⟩
  · have hc : c < 12 := (List.getElem?_eq_some_iff.mp h).1
    have e : (if c < 100 then (f c).1 else if c = 100 then c0 else if c = 101 then c1 else if c = 102 then c2 else c3) = (f c).1 := if_pos (by omega)
    show u_Kn s q.1 q.2.1 q.2.2 (if c < 100 then (f c).1 else if c = 100 then c0 else if c = 101 then c1 else if c = 102 then c2 else c3) (f c).2
    rw [e]
    exact hf c q h
  · have hk : k < 4 := (List.getElem?_eq_some_iff.mp h).1
    by_cases h0 : k = 0
    · subst h0; cases h; exact ⟨a0, b0⟩
    by_cases h1 : k = 1
    · subst h1; cases h; exact ⟨a1, b1⟩
    by_cases h2 : k = 2
    · subst h2; cases h; exact ⟨a2, b2⟩
    by_cases h3 : k = 3
    · subst h3; cases h; exact ⟨a3, b3⟩
    omega
theorem st_Wd {s : State} {b : Nat} (hts : ∀ w ∈ lw_tbl, w.before #[Value.ref b] s = true) (hg : (Jvm.Cond.and given_1 narrow_1).before #[Value.ref b] s = true) : Wd (fun q => s.heap.size ≤ q) s s.heap := by
  have hs := flat_of_before _ hg
  have hA : ∀ a : Nat, a < s.heap.size → ¬ (s.heap.size ≤ a) := fun a h => Nat.not_le.mpr h
  have harr : (Cond.arrayOf (.static "HostYear" "WORDS" "[J") .long).before #[Value.ref b] s = true := hs _ (by decide +kernel)
  have hlen := va_eqt (hs (Cond.eq (.length (.static "HostYear" "WORDS" "[J")) (.int 9)) (by decide +kernel))
  have e0 := va_eqtl (hs (Cond.eq (.elem (.static "HostYear" "WORDS" "[J") (.int 0)) (.long 500135192948)) (by decide +kernel))
  have e1 := va_eqtl (hs (Cond.eq (.elem (.static "HostYear" "WORDS" "[J") (.int 1)) (.long 6447474)) (by decide +kernel))
  have e2 := va_eqtl (hs (Cond.eq (.elem (.static "HostYear" "WORDS" "[J") (.int 2)) (.long 1668248436)) (by decide +kernel))
  have e3 := va_eqtl (hs (Cond.eq (.elem (.static "HostYear" "WORDS" "[J") (.int 3)) (.long 26982)) (by decide +kernel))
  have e4 := va_eqtl (hs (Cond.eq (.elem (.static "HostYear" "WORDS" "[J") (.int 4)) (.long 28530)) (by decide +kernel))
  have e5 := va_eqtl (hs (Cond.eq (.elem (.static "HostYear" "WORDS" "[J") (.int 5)) (.long 6385252)) (by decide +kernel))
  have e6 := va_eqtl (hs (Cond.eq (.elem (.static "HostYear" "WORDS" "[J") (.int 6)) (.long 7237492)) (by decide +kernel))
  have e7 := va_eqtl (hs (Cond.eq (.elem (.static "HostYear" "WORDS" "[J") (.int 7)) (.long 112)) (by decide +kernel))
  have e8 := va_eqtl (hs (Cond.eq (.elem (.static "HostYear" "WORDS" "[J") (.int 8)) (.long 104)) (by decide +kernel))
  have hel : ∀ j : Nat, j < 9 → (Term.elem (.static "HostYear" "WORDS" "[J") (.int (Int32.ofNat j))).eval #[Value.ref b] s none [] s = some ((fun j => Value.long (wdv j)) j) := by
    intro j hj
    by_cases h0 : j = 0
    · subst h0; exact e0
    by_cases h1 : j = 1
    · subst h1; exact e1
    by_cases h2 : j = 2
    · subst h2; exact e2
    by_cases h3 : j = 3
    · subst h3; exact e3
    by_cases h4 : j = 4
    · subst h4; exact e4
    by_cases h5 : j = 5
    · subst h5; exact e5
    by_cases h6 : j = 6
    · subst h6; exact e6
    by_cases h7 : j = 7
    · subst h7; exact e7
    by_cases h8 : j = 8
    · subst h8; exact e8
    omega
  obtain ⟨t, ht, hT⟩ := va_Tof (N := 9) (by decide) harr hlen hel hA
  refine ⟨⟨t, va_Zref (hts _ (st_mem2 (k := 151) (by decide +kernel))) (hts _ (TB_in ii_X10)) ht hA, hT⟩, va_Nw.of rfl (hts _ (st_mem2 (k := 150) (by decide +kernel))), ?_⟩
  unfold nwM
  exact (List.forall_mem_cons.mpr ⟨va_Nw.of rfl (hts _ (st_mem3 (k := 195) (by decide +kernel))), (List.forall_mem_cons.mpr ⟨va_Nw.of rfl (hts _ (st_mem3 (k := 230) (by decide +kernel))), (List.forall_mem_cons.mpr ⟨va_Nw.of rfl (hts _ (st_mem1 (k := 45) (by decide +kernel))), (List.forall_mem_cons.mpr ⟨va_Nw.of rfl (hts _ (st_mem1 (k := 61) (by decide +kernel))), (List.forall_mem_cons.mpr ⟨va_Nw.of rfl (hts _ (st_mem1 (k := 158) (by decide +kernel))), (List.forall_mem_cons.mpr ⟨va_Nw.of rfl (hts _ (st_mem1 (k := 172) (by decide +kernel))), (List.forall_mem_cons.mpr ⟨va_Nw.of rfl (hts _ (st_mem2 (k := 27) (by decide +kernel))), (List.forall_mem_cons.mpr ⟨va_Nw.of rfl (hts _ (st_mem2 (k := 45) (by decide +kernel))), (List.forall_mem_cons.mpr ⟨va_Nw.of rfl (hts _ (st_mem1 (k := 24) (by decide +kernel))), (List.forall_mem_cons.mpr ⟨va_Nw.of rfl (hts _ (st_mem1 (k := 67) (by decide +kernel))), (List.forall_mem_cons.mpr ⟨va_Nw.of rfl (hts _ (st_mem1 (k := 87) (by decide +kernel))), (List.forall_mem_cons.mpr ⟨va_Nw.of rfl (hts _ (st_mem1 (k := 178) (by decide +kernel))), (fun _ h => absurd h List.not_mem_nil)⟩)⟩)⟩)⟩)⟩)⟩)⟩)⟩)⟩)⟩)⟩)⟩)
