/-! THE CLAIM OUT OF ONE WALK OF THE LAW'S BODY. Your part is whole_start (and what it stands on); all else here is the same for every law, but numbers. -/
def R_law : String := "HostYearLaw"
def lw_P (b : Addr) (xs : List Int32) (args : Array Value) (s : State) : Prop := args = #[.ref b] ∧ s.IntsAt b xs ∧ xs.length ≤ 3072 ∧ (Jvm.Cond.and given_1 narrow_1).before args s = true
def lw_Q (_ : Array Value) (s : State) (o : Outcome) (t : State) : Prop := o = .returned (some (.int 1)) ∧ Framed s o t [] 600000 7302250
def lw_Z (below : List Frame) (a : Array Value) (s : State) : State → Prop := fun t => ∃ o, t.status = .running ∧ Ended t below o ∧ lw_Q a s o t
/-- the law's own end, with 1 on the stack, nothing written that was there before, its room as the claim has it -/
theorem lw_ret {p : Program} {l : Launch} {e : Env} {s : State} {m : MethodId} {below : List Frame} {meth : Method} {c : Code} {b : Nat} (hx : p.tables.exec = Jvm.exec) (hb : c.code = code) (hr : meth.sig.returnType = ret) (hlocks : meth.locks = false) {pc : Nat} {H : Heap} {ls : Array Slot} (hdg : decode code pc = .ok (.ireturn, 1)) : W p l e room_1 s m #[Value.ref b] below meth c H [] 600000 7302250 (lw_Z below #[Value.ref b] s) (F0 m pc ls [.int 1]) := by
  intro T hT X
  obtain ⟨fs, hret, hrun, hended, hW, hframe⟩ := X.leave (v := some (.int 1)) (hlocks := hlocks) (fun h => by rw [hr] at h; cases h)
  have hmeth' : T.vm.method? m = some meth := X.method'
  refine ⟨T.setFrames fs, ?_, .returned (some (.int 1)), hrun, hended, rfl, ⟨_, rfl⟩, hW, hframe⟩
  jvm_step X.here [X.here.top, hx, hb, hdg, hmeth', hr, ret, narrow_b1]
  (try refine ⟨rfl, ?_⟩); (try refine ⟨rfl, ?_⟩)
  first | (intro acts; rw [hret _ acts rfl rfl rfl]) | rw [hret _ _ rfl rfl rfl]
  exact Steps.refl _
/-- what holds at the law's entry: the machine, the code, the tables' words (any of lw_tbl by 'hts w (by decide +kernel)'), the script of L ints xs at the cell b, what the Statement gives of the start (any of its parts by flat_of_before) -/
def lw_At (p : Program) (s : State) (m : MethodId) (meth : Method) (c : Code) (b L : Nat) (xs : Nat → Int32) : Prop :=
  p.tables.exec = Jvm.exec ∧ c.code = code ∧ meth.sig.returnType = ret ∧ c.maxLocals = 4 ∧ s.vm.findClass R_law = some m.cls ∧ (∀ w ∈ lw_tbl, w.before #[Value.ref b] s = true) ∧ va_X b L xs s s.heap ∧ b < s.heap.size ∧ meth.locks = false ∧ (Jvm.Cond.and given_1 narrow_1).before #[Value.ref b] s = true

/-! the law: reading the script, its end -/
def Sc : Cx → Nat → Nat → (Nat → Int32) → Prop
  | (_, _, _, _, s, _, _, _, _, _, _, A, _, _, _, _), b, L, xs => va_X b L xs s s.heap ∧ b < s.heap.size ∧ ¬ A b
theorem r_sld {X : Cx} {cc : ByteArray} {nL d : Nat} {own : String} (hX : Ok X cc nL own d) {b L i : Nat} {xs : Nat → Int32} (hs : Sc X b L xs) (hi : i < L) (hL : L ≤ 3072) {ks : List Nat} {es : List va_E} {pc n : Nat} {lv : List (Nat × Value)} {rest : List Value} (hd : decode cc pc = .ok (.iaload, 1)) (hn : pc + 1 = n) (k : Aw X ks es n lv (.int (xs i) :: rest)) : Aw X ks es pc lv (.int (nI i) :: .ref b :: rest) := by
  subst hn
  obtain ⟨p, l, e, R, s, m, args, below, meth, c, D, A, nL', Q, kc, kn⟩ := X
  obtain ⟨hx, hb, hml, rfl, hown, hts, hK, hA, hlk, hfr, hlo, hWd, hkc, hkn⟩ := hX
  obtain ⟨h1, h2, h3⟩ := hs
  intro H locs ls hl hP hD hS hv
  refine va_sld hx hb h1 h2 h3 hS (vp_in_nI hi (by omega)) hd ?_
  rw [nI_clamp (by omega)]
  exact k H locs ls hl hP hD hS hv
theorem r_slen {X : Cx} {cc : ByteArray} {nL d : Nat} {own : String} (hX : Ok X cc nL own d) {b L : Nat} {xs : Nat → Int32} (hs : Sc X b L xs) {ks : List Nat} {es : List va_E} {pc n : Nat} {lv : List (Nat × Value)} {rest : List Value} (hd : decode cc pc = .ok (.arraylength, 1)) (hn : pc + 1 = n) (k : Aw X ks es n lv (.int (nI L) :: rest)) : Aw X ks es pc lv (.ref b :: rest) := by
  subst hn
  obtain ⟨p, l, e, R, s, m, args, below, meth, c, D, A, nL', Q, kc, kn⟩ := X
  obtain ⟨hx, hb, hml, rfl, hown, hts, hK, hA, hlk, hfr, hlo, hWd, hkc, hkn⟩ := hX
  obtain ⟨h1, h2, h3⟩ := hs
  intro H locs ls hl hP hD hS hv
  exact va_slen hx hb h1 h2 h3 hS hd (k H locs ls hl hP hD hS hv)
def Lw : Cx → Prop
  | (_, _, _, R, s, _, args, below, meth, _, _, A, _, Q, kc, kn) => R = room_1 ∧ (∃ b : Nat, args = #[Value.ref b] ∧ Q = lw_Z below #[Value.ref b] s) ∧ meth.sig.returnType = ret ∧ (∀ q, A q → s.heap.size ≤ q) ∧ kc ≤ 600000 ∧ kn ≤ 7302250
theorem r_lawret {X : Cx} {nL d : Nat} {own : String} (hX : Ok X cL_law nL own d) (hw : Lw X) {ks : List Nat} {es : List va_E} {lv : List (Nat × Value)} : Aw X ks es 742 lv [.int 1] := by
  obtain ⟨p, l, e, R, s, m, args, below, meth, c, D, A, nL', Q, kc, kn⟩ := X
  obtain ⟨hx, hb, hml, rfl, hown, hts, hK, hA, hlk, hfr, hlo, hWd, hkc, hkn⟩ := hX
  obtain ⟨rfl, ⟨b, rfl, rfl⟩, hr, hq, h1, h2⟩ := hw
  intro H locs ls hl hP hD hS hv
  refine va_forget (fun q h => hq _ (hS.2.2 q h)) ?_
  refine W.widen (k := 600000) (n := 7302250) h1 h2 ?_
  exact lw_ret hx hb hr hlk dL_law_742
/-- cells in another order -/
theorem Aw.perm {X : Cx} {ks ks' : List Nat} {es es' : List va_E} {pc : Nat} {lv : List (Nat × Value)} {st : List Value} (is : List Nat) (hks : is.map (fun i => ks[i]?) = ks'.map some) (hes : is.map (fun i => es[i]?) = es'.map some) (hnd : va_nd is = true) (k : Aw X ks' es' pc lv st) : Aw X ks es pc lv st := by
  obtain ⟨p, l, e, R, s, m, args, below, meth, c, D, A, nL', Q, kc, kn⟩ := X
  intro H locs ls hl hP hD hS hv
  have hm := zip_map (ksC := ks') (esC := es') is ks' es' hks hes
  have hl' : es'.length = ks'.length := by
    have h1 := congrArg List.length hks
    have h2 := congrArg List.length hes
    simp only [List.length_map] at h1 h2
    omega
  exact k H locs ls hl' (sub_P hP is hm) (hD.sub is hnd hm) hS hv
