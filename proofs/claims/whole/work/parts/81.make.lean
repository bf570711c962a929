/-! methods that make cells -/
def CxK : Cx → Nat → Nat → Cx
  | (p, l, e, R, s, m, args, below, meth, c, D, A, nL, Q, _, _), kc, kn => (p, l, e, R, s, m, args, below, meth, c, D, A, nL, Q, kc, kn)
def CxR : Cx → Room
  | (_, _, _, R, _, _, _, _, _, _, _, _, _, _, _, _) => R
def CxI : Cx → Prop
  | (_, _, _, _, _, _, _, _, meth, _, _, _, _, _, _, _) => meth.name = "<init>"
theorem Ok.k {X : Cx} {cc : ByteArray} {nL d kc kn kc' kn' : Nat} {own : String} (hX : Ok (CxK X kc kn) cc nL own d) (h1 : kc' ≤ (CxR X).cells) (h2 : kn' ≤ (CxR X).slots) : Ok (CxK X kc' kn') cc nL own d := by
  obtain ⟨p, l, e, R, s, m, args, below, meth, c, D, A, nL', Q, kc0, kn0⟩ := X
  obtain ⟨hx, hb, hml, hnl, hown, hts, hK, hA, hlk, hfr, hlo, hWd, hkc, hkn⟩ := hX
  exact ⟨hx, hb, hml, hnl, hown, hts, hK, hA, hlk, hfr, hlo, hWd, h1, h2⟩
theorem zip_snoc {ks : List Nat} {es : List va_E} {q : Nat} {x : va_E} (hl : es.length = ks.length) : (ks ++ [q]).zip (es ++ [x]) = ks.zip es ++ [(q, x)] := by
  rw [List.zip_append hl.symm]; rfl
theorem len_snoc {ks : List Nat} {es : List va_E} {q : Nat} {x : va_E} (hl : es.length = ks.length) : (es ++ [x]).length = (ks ++ [q]).length := by
  rw [List.length_append, List.length_append, hl]; rfl
theorem r_newI {X : Cx} {cc : ByteArray} {nL d kc kn : Nat} {own : String} (hX : Ok (CxK X kc kn) cc nL own d) {ks : List Nat} {es : List va_E} {pc n : Nat} {lv : List (Nat × Value)} {rest : List Value} {N : Nat} (hN : N < 100000) (h1 : kc + 1 ≤ (CxR X).cells) (h2 : kn + N ≤ (CxR X).slots) (hd : decode cc pc = .ok (.newarray .int, 2)) (hn : pc + 2 = n) (k : ∀ q, Aw (CxK X (kc + 1) (kn + N)) (ks ++ [q]) (es ++ [aI (CxD X) N (fun _ => 0)]) n lv (.ref q :: rest)) : Aw (CxK X kc kn) ks es pc lv (.int (nI N) :: rest) := by
  subst hn
  obtain ⟨p, l, e, R, s, m, args, below, meth, c, D, A, nL', Q, kc0, kn0⟩ := X
  obtain ⟨hx, hb, hml, rfl, hown, hts, hK, hA, hlk, hfr, hlo, hWd, hkc, hkn⟩ := hX
  intro H locs ls hl hP hD hS hv
  refine va_newa (a0 := (N, .inl (fun _ => 0))) (N' := N) (atype := .int) (ty := .int) hx hb (hts _ ac_int) rfl hK hP hD hS hA (fun _ => rfl) (nI_pos (by omega)) (nI_clamp (by omega)) (by show N * 4 ≤ _; omega) h1 h2 hd (fun q cA H1 hK1 hP1 hD1 hS1 => ?_)
  have e1 : s.vm.findClass ("[" ++ FieldType.int.toString) = some cA := (hK1.2 4 (cA, .int) rfl).2
  have e2 : s.vm.findClass ("[" ++ FieldType.int.toString) = some (D.1 100) := (hK.2 0 (D.1 100, .int) rfl).2
  obtain rfl : cA = D.1 100 := by rw [e2] at e1; exact (Option.some.inj e1).symm
  exact k q H1 locs ls (len_snoc hl) (by rw [zip_snoc hl]; exact hP1) (by rw [zip_snoc hl]; exact hD1) hS1 hv
theorem r_newJ {X : Cx} {cc : ByteArray} {nL d kc kn : Nat} {own : String} (hX : Ok (CxK X kc kn) cc nL own d) {ks : List Nat} {es : List va_E} {pc n : Nat} {lv : List (Nat × Value)} {rest : List Value} {N : Nat} (hN : N < 100000) (h1 : kc + 1 ≤ (CxR X).cells) (h2 : kn + N ≤ (CxR X).slots) (hd : decode cc pc = .ok (.newarray .long, 2)) (hn : pc + 2 = n) (k : ∀ q, Aw (CxK X (kc + 1) (kn + N)) (ks ++ [q]) (es ++ [aJ (CxD X) N (fun _ => 0)]) n lv (.ref q :: rest)) : Aw (CxK X kc kn) ks es pc lv (.int (nI N) :: rest) := by
  subst hn
  obtain ⟨p, l, e, R, s, m, args, below, meth, c, D, A, nL', Q, kc0, kn0⟩ := X
  obtain ⟨hx, hb, hml, rfl, hown, hts, hK, hA, hlk, hfr, hlo, hWd, hkc, hkn⟩ := hX
  intro H locs ls hl hP hD hS hv
  refine va_newa (a0 := (N, .inr (.inl (fun _ => 0)))) (N' := N) (atype := .long) (ty := .long) hx hb (hts _ ac_long) rfl hK hP hD hS hA (fun _ => rfl) (nI_pos (by omega)) (nI_clamp (by omega)) (by show N * 8 ≤ _; omega) h1 h2 hd (fun q cA H1 hK1 hP1 hD1 hS1 => ?_)
  have e1 : s.vm.findClass ("[" ++ FieldType.long.toString) = some cA := (hK1.2 4 (cA, .long) rfl).2
  have e2 : s.vm.findClass ("[" ++ FieldType.long.toString) = some (D.1 101) := (hK.2 1 (D.1 101, .long) rfl).2
  obtain rfl : cA = D.1 101 := by rw [e2] at e1; exact (Option.some.inj e1).symm
  exact k q H1 locs ls (len_snoc hl) (by rw [zip_snoc hl]; exact hP1) (by rw [zip_snoc hl]; exact hD1) hS1 hv
theorem r_newB {X : Cx} {cc : ByteArray} {nL d kc kn : Nat} {own : String} (hX : Ok (CxK X kc kn) cc nL own d) {ks : List Nat} {es : List va_E} {pc n : Nat} {lv : List (Nat × Value)} {rest : List Value} {N : Nat} (hN : N < 100000) (h1 : kc + 1 ≤ (CxR X).cells) (h2 : kn + N ≤ (CxR X).slots) (hd : decode cc pc = .ok (.newarray .byte, 2)) (hn : pc + 2 = n) (k : ∀ q, Aw (CxK X (kc + 1) (kn + N)) (ks ++ [q]) (es ++ [aB (CxD X) N (fun _ => 0)]) n lv (.ref q :: rest)) : Aw (CxK X kc kn) ks es pc lv (.int (nI N) :: rest) := by
  subst hn
  obtain ⟨p, l, e, R, s, m, args, below, meth, c, D, A, nL', Q, kc0, kn0⟩ := X
  obtain ⟨hx, hb, hml, rfl, hown, hts, hK, hA, hlk, hfr, hlo, hWd, hkc, hkn⟩ := hX
  intro H locs ls hl hP hD hS hv
  refine va_newa (a0 := (N, .inl (fun _ => 0))) (N' := N) (atype := .byte) (ty := .byte) hx hb (hts _ ac_byte) rfl hK hP hD hS hA (fun _ => rfl) (nI_pos (by omega)) (nI_clamp (by omega)) (by show N * 1 ≤ _; omega) h1 h2 hd (fun q cA H1 hK1 hP1 hD1 hS1 => ?_)
  have e1 : s.vm.findClass ("[" ++ FieldType.byte.toString) = some cA := (hK1.2 4 (cA, .byte) rfl).2
  have e2 : s.vm.findClass ("[" ++ FieldType.byte.toString) = some (D.1 102) := (hK.2 2 (D.1 102, .byte) rfl).2
  obtain rfl : cA = D.1 102 := by rw [e2] at e1; exact (Option.some.inj e1).symm
  exact k q H1 locs ls (len_snoc hl) (by rw [zip_snoc hl]; exact hP1) (by rw [zip_snoc hl]; exact hD1) hS1 hv
theorem r_newZ {X : Cx} {cc : ByteArray} {nL d kc kn : Nat} {own : String} (hX : Ok (CxK X kc kn) cc nL own d) {ks : List Nat} {es : List va_E} {pc n : Nat} {lv : List (Nat × Value)} {rest : List Value} {N : Nat} (hN : N < 100000) (h1 : kc + 1 ≤ (CxR X).cells) (h2 : kn + N ≤ (CxR X).slots) (hd : decode cc pc = .ok (.newarray .boolean, 2)) (hn : pc + 2 = n) (k : ∀ q, Aw (CxK X (kc + 1) (kn + N)) (ks ++ [q]) (es ++ [aZ (CxD X) N (fun _ => 0)]) n lv (.ref q :: rest)) : Aw (CxK X kc kn) ks es pc lv (.int (nI N) :: rest) := by
  subst hn
  obtain ⟨p, l, e, R, s, m, args, below, meth, c, D, A, nL', Q, kc0, kn0⟩ := X
  obtain ⟨hx, hb, hml, rfl, hown, hts, hK, hA, hlk, hfr, hlo, hWd, hkc, hkn⟩ := hX
  intro H locs ls hl hP hD hS hv
  refine va_newa (a0 := (N, .inl (fun _ => 0))) (N' := N) (atype := .boolean) (ty := .boolean) hx hb (hts _ ac_boolean) rfl hK hP hD hS hA (fun _ => rfl) (nI_pos (by omega)) (nI_clamp (by omega)) (by show N * 1 ≤ _; omega) h1 h2 hd (fun q cA H1 hK1 hP1 hD1 hS1 => ?_)
  have e1 : s.vm.findClass ("[" ++ FieldType.boolean.toString) = some cA := (hK1.2 4 (cA, .boolean) rfl).2
  have e2 : s.vm.findClass ("[" ++ FieldType.boolean.toString) = some (D.1 103) := (hK.2 3 (D.1 103, .boolean) rfl).2
  obtain rfl : cA = D.1 103 := by rw [e2] at e1; exact (Option.some.inj e1).symm
  exact k q H1 locs ls (len_snoc hl) (by rw [zip_snoc hl]; exact hP1) (by rw [zip_snoc hl]; exact hD1) hS1 hv
theorem r_newO {X : Cx} {cc : ByteArray} {nL d kc kn : Nat} {own : String} (hX : Ok (CxK X kc kn) cc nL own d) {ks : List Nat} {es : List va_E} {pc n : Nat} {lv : List (Nat × Value)} {rest : List Value} {C : String} {T : u_T} {N ci index : Nat} {fs : List Value} (hin : ∀ w ∈ u_ws C T N, w ∈ TB) (ty0 : Nat → FieldType) (hty : ∀ k, k < N → parseFieldDescriptor (T k).2.2.1 = some (ty0 k)) (hcl : Cond.classLink own index C ∈ TB) (hit : Cond.instantiable C N ∈ TB) (hii : Cond.initialized C ∈ TB) (hc : vwCl[ci]? = some (C, T, N)) (hfs : ∀ j, j < N → defaultValue (ty0 j) = vp_V fs j) (h1 : kc + 1 ≤ (CxR X).cells) (h2 : kn + N ≤ (CxR X).slots) (hd : decode cc pc = .ok (.new index, 3)) (hn : pc + 3 = n) (k : ∀ q, Aw (CxK X (kc + 1) (kn + N)) (ks ++ [q]) (es ++ [ob ci fs]) n lv (.ref q :: rest)) : Aw (CxK X kc kn) ks es pc lv rest := by
  subst hn
  obtain ⟨p, l, e, R, s, m, args, below, meth, c, D, A, nL', Q, kc0, kn0⟩ := X
  obtain ⟨hx, hb, hml, rfl, hown, hts, hK, hA, hlk, hfr, hlo, hWd, hkc, hkn⟩ := hX
  intro H locs ls hl hP hD hS hv
  refine va_new (fs := fs) hx hb hts hin ty0 hty hown (hts _ hcl) (hts _ hit) (hts _ hii) hK hP hD hS hA hc hfs h1 h2 hd (fun q H1 hP1 hD1 hS1 => ?_)
  exact k q H1 locs ls (len_snoc hl) (by rw [zip_snoc hl]; exact hP1) (by rw [zip_snoc hl]; exact hD1) hS1 hv
theorem r_objInit {X : Cx} {cc : ByteArray} {nL d : Nat} {own : String} (hX : Ok X cc nL own d) {ks : List Nat} {es : List va_E} {pc n index a : Nat} {lv : List (Nat × Value)} (hml : Cond.methodLink own index objectInit ∈ TB) (hdd : 1 ≤ d) (hd : decode cc pc = .ok (.invokespecial index, 3)) (hn : pc + 3 = n) (k : Aw X ks es n lv []) : Aw X ks es pc lv [.ref a] := by
  subst hn
  obtain ⟨p, l, e, R, s, m, args, below, meth, c, D, A, nL', Q, kc, kn⟩ := X
  obtain ⟨hx, hb, hml0, rfl, hown, hts, hK, hA, hlk, hfr, hlo, hWd, hkc, hkn⟩ := hX
  intro H locs ls hl hP hD hS hv
  refine W.objInit hx hb hown (hts _ hml) (hts _ im_OI) (hts _ cd_OI) rfl (by rw [hml0]; exact hv.1) rfl hd (by omega) (by show 2 * 0 + 0 + 12 ≤ R.locals; omega) ?_
  exact k H locs ls hl hP hD hS hv
theorem r_putF {X : Cx} {cc : ByteArray} {nL d : Nat} {own : String} (hX : Ok X cc nL own d) (hI : CxI X) {ks : List Nat} {es : List va_E} {pc n : Nat} {lv : List (Nat × Value)} {rest : List Value} {C : String} {T : u_T} {N ci index : Nat} {a : Nat} {fs : List Value} {v : Value} (q : Nat) (hk : ks[q]? = some a) (he : es[q]? = some (.inr (ci, fs))) (hc : vwCl[ci]? = some (C, T, N)) (j : Nat) (es' : List va_E) (hj : j < N) (hin : ∀ w ∈ u_ws C T N, w ∈ TB) (ty0 : Nat → FieldType) (hty : ∀ k, k < N → parseFieldDescriptor (T k).2.2.1 = some (ty0 k)) (hnm : ∀ a, a < N → ∀ b, b < N → a ≠ b → (T a).2.1 ≠ (T b).2.1) (hw : Cond.fieldLink own index (T j).1 (T j).2.1 (T j).2.2.1 ∈ TB) (hfin : (T j).2.2.2 = true) (hdecl : (T j).1 = own) (hnar : narrow (ty0 j) v = v) (hfit : fits (ty0 j) v = true) (hlen : j < fs.length) (hes : es.set q (.inr (ci, fs.set j v)) = es') (hd : decode cc pc = .ok (.putfield index, 3)) (hn : pc + 3 = n) (k : Aw X ks es' n lv rest) : Aw X ks es pc lv (v :: .ref a :: rest) := by
  subst hn
  obtain ⟨p, l, e, R, s, m, args, below, meth, c, D, A, nL', Q, kc, kn⟩ := X
  obtain ⟨hx, hb, hml, rfl, hown, hts, hK, hA, hlk, hfr, hlo, hWd, hkc, hkn⟩ := hX
  intro H locs ls hl hP hD hS hv
  refine va_putF hx hb hts hin ty0 hty hnm hown hK hP hD hS q (zip_at hk he) hc j hj (hts _ hw) (fun _ h => h) hfin hI hdecl (hty j hj) hnar hfit hlen hd (fun H1 locs1 hP1 hD1 hS1 => ?_)
  rw [zip_set hk, hes] at hP1 hD1
  exact k H1 locs1 ls (by rw [← hes, List.length_set]; exact hl) hP1 hD1 hS1 hv
/-! constructors: contracts and calls -/
abbrev rmN (d kc kn : Nat) : Room := { frames := d, cells := kc, slots := kn, locals := 40 * d }
def Qn (D : va_G) (h0 : Nat) (e0 : va_E) (sz : Nat) (post : List Nat → List va_E → Prop) : Array Value → State → Outcome → State → Prop := fun _ st oc t => ∃ (ks' : List Nat) (es' : List va_E), oc = .returned none ∧ post ks' es' ∧ es'.length = ks'.length ∧ va_P D vwCl (ks'.zip es') t.heap ∧ va_D (va_A [(h0, e0)] sz) (ks'.zip es') ∧ va_F (va_A [(h0, e0)] sz) st t
/-- a constructor without arguments: of the cell e0 at h0 it makes the cells that post tells -/
def Cn (l : Launch) (D : va_G) (mi : MI) (d kc kn : Nat) (e0 : va_E) (post : Nat → List Nat → List va_E → Prop) : Prop := ∀ h0 sz : Nat, Met l mi.1 (wds mi) (rmN d kc kn) (va_Pc [.ref h0] (Wp D [(h0, e0)] sz)) (Qn D h0 e0 sz (post h0)) kc kn (va_A [(h0, e0)] sz)
def RtN : Cx → Nat → Nat → (List Nat → List va_E → Prop) → Prop
  | (_, _, _, _, s, _, args, below, meth, _, D, A, _, Q, _, _), kc, kn, post => meth.sig.returnType = none ∧ ∃ Qc : Array Value → State → Outcome → State → Prop, Q = MQ below Qc args s kc kn A ∧ ∀ (ks' : List Nat) (es' : List va_E) (t : State) (locs : List Loc), post ks' es' → es'.length = ks'.length → va_P D vwCl (ks'.zip es') t.heap → va_D A (ks'.zip es') → va_S A s.heap t.heap locs → Qc args s (.returned none) t
theorem r_returnN {X : Cx} {cc : ByteArray} {nL d kc kn kc' kn' : Nat} {own : String} (hX : Ok (CxK X kc kn) cc nL own d) {post : List Nat → List va_E → Prop} (hR : RtN X kc' kn' post) (h1 : kc ≤ kc') (h2 : kn ≤ kn') {ks : List Nat} {es : List va_E} {pc : Nat} {lv : List (Nat × Value)} (hd : decode cc pc = .ok (.return_, 1)) (h : post ks es) : Aw (CxK X kc kn) ks es pc lv [] := by
  obtain ⟨p, l, e, R, s, m, args, below, meth, c, D, A, nL', Q, kc0, kn0⟩ := X
  obtain ⟨hx, hb, hml, rfl, hown, hts, hK, hA, hlk, hfr, hlo, hWd, hkc, hkn⟩ := hX
  obtain ⟨hr, Qc, rfl, hq⟩ := hR
  intro H locs ls hl hP hD hS hv
  refine W.widen (k := kc') (n := kn') h1 h2 ?_
  exact W.vret hx hb hr (fun t ht hW => hq ks es t locs h hl (by rw [ht]; exact hP) hD (by rw [ht]; exact hS)) hS.2.2 hd hlk
theorem Cn.ofA {l : Launch} {D : va_G} {mi : MI} {d kc kn : Nat} {own : String} {e0 : va_E} {post : Nat → List Nat → List va_E → Prop} (hy : plainName mi.1.cls = true) (hyc : mi.1.cls = own) (hnm : mi.1.name = "<init>") (hrt : mi.2.2.2 = none) (hlen : 1 ≤ mi.2.2.1)
    (body : ∀ (X : Cx) (h0 : Nat), CxL X = l → CxD X = D → CxI X → (CxR X).cells = kc → (CxR X).slots = kn → Ok (CxK X 0 0) mi.2.1 mi.2.2.1 own d → RtN X kc kn (post h0) → Aw (CxK X 0 0) [h0] [e0] 0 [(0, .ref h0)] []) : Cn l D mi d kc kn e0 post := by
  intro h0 sz
  refine Met.ofW (cc := mi.2.1) (maxL := mi.2.2.1) (ret := mi.2.2.2) hy rfl ?_
  intro p e s m args below meth c s₁ B hml hv
  obtain ⟨rfl, hsz, hP, hK, hD0, hW⟩ := hv
  subst hsz
  have hown : s.vm.findClass own = some m.cls := by rw [← hyc]; exact findClass_of_methodNamed B.named
  have hlk : meth.locks = false := B.notSynchronized
  have hin : meth.name = "<init>" := by rw [← hnm]; exact (name_of_methodNamed B.named B.method).1
  have b := body (p, l, e, (headSpec (wds mi) (rmN d kc kn)).room, s, m, [Value.ref h0].toArray, below, meth, c, D, va_A [(h0, e0)] s.heap.size, mi.2.2.1, MQ below (Qn D h0 e0 s.heap.size (post h0)) [Value.ref h0].toArray s kc kn (va_A [(h0, e0)] s.heap.size), 0, 0) h0 rfl rfl hin rfl rfl
    ⟨B.exec, B.bytes, hml, rfl, hown, fun w h => atoms_spec (ws := wds mi) B.pre w (List.mem_cons_of_mem _ h), hK, fun q h => Or.inr h, hlk, Nat.le_refl d, Nat.le_refl (40 * d), hW, Nat.zero_le _, Nat.zero_le _⟩
    ⟨by rw [← hrt]; exact B.returns, _, rfl, fun ks' es' t locs hp hl hPt hDt hS => ⟨ks', es', rfl, hp, hl, hPt, hDt, hS.1, hS.2.1⟩⟩
  have he := lv_entry [Value.ref h0] (n := mi.2.2.1) hlen
  rw [lg_entry_eq]
  exact b s.heap [] _ rfl hP hD0.self va_S.rf he
section
variable {p : Program} {l : Launch} {e : Env} {R : Room} {s : State} {m : MethodId} {args : Array Value} {below : List Frame} {meth : Method} {c : Code} {D : va_G} {A : Nat → Prop} {nL : Nat} {Q : State → Prop} {kc kn : Nat}
theorem W_of_runN {H : Heap} {locs : List Loc} {ls : Array Slot} {ks ksR : List Nat} {es esR : List va_E} {q j kc' kn' : Nat} {e0 : va_E} {pc : Nat} {lv : List (Nat × Value)} {st rest : List Value} {a : Array Value} {post : List Nat → List va_E → Prop}
    (hr : va_Run p l e R s m args below meth c H locs kc kn kc' kn' (F0 m pc ls st) rest (Qn D q e0 H.size post a) (va_A [(q, e0)] H.size))
    (hA : ∀ q, s.heap.size ≤ q → A q) (hl : es.length = ks.length) (hP : va_P D vwCl (ks.zip es) H) (hD : va_D A (ks.zip es)) (hS : va_S A s.heap H locs) (hv : lv_has ls nL lv)
    (hkj : ks[j]? = some q) (hej : es[j]? = some e0) (is : List Nat) (hks : is.map (fun i => ks[i]?) = ksR.map some) (hes : is.map (fun i => es[i]?) = esR.map some) (hnd : va_nd is = true) (hdis : ∀ i ∈ is, i ∉ [j])
    (k : ∀ (ks' : List Nat) (es' : List va_E), post ks' es' → es'.length = ks'.length → Aw (p, l, e, R, s, m, args, below, meth, c, D, A, nL, Q, kc + kc', kn + kn') (ksR ++ ks') (esR ++ es') (pc + 3) lv rest) :
    W p l e R s m args below meth c H locs kc kn Q (F0 m pc ls st) := by
  intro T hT X
  have hj := zip_at hkj hej
  have hF := va_free (wc := [(q, e0)]) hD hS hA [j] (by simp [hj])
  obtain ⟨v, st₀, t, T', L, h0, X', hL, e1, e2, ⟨ks', es', hv', hp, hl', hP1, hD1, hz, hk1⟩, stp⟩ := hr T hT X
  cases hv'
  rw [h0] at hz hk1
  have hlR : esR.length = ksR.length := by
    have h1 := congrArg List.length hks
    have h2 := congrArg List.length hes
    simp only [List.length_map] at h1 h2
    omega
  have hS' : va_S A s.heap T'.heap (locs ++ L) := ⟨Nat.le_trans hS.1 (by rw [e1]; exact hz), fun q h1 h2 => by rw [e1, hk1 q (Nat.lt_of_lt_of_le h1 hS.1) (fun z => h2 (hF q z))]; exact hS.2.1 q h1 h2, fun q hq => by
      rcases List.mem_append.mp hq with h | h
      · exact hS.2.2 q h
      · exact hF _ (hL q h)⟩
  obtain ⟨hPn, hDn⟩ := va_join (wc := [(q, e0)]) (wr := ksR.zip esR) (w1 := ks'.zip es') hP hD [j] is (by simp [hj]) (zip_map (ksC := ksR) (esC := esR) is ksR esR hks hes) hnd hdis hk1 hF hP1 hD1
  have hzip : (ksR ++ ks').zip (esR ++ es') = ksR.zip esR ++ ks'.zip es' := List.zip_append hlR.symm
  obtain ⟨t2, a1, b1⟩ := k ks' es' hp hl' T'.heap (locs ++ L) ls (by rw [List.length_append, List.length_append, hlR, hl']) (by rw [hzip, e1]; exact hPn) (by rw [hzip]; exact hDn) hS' hv T' rfl X'
  exact ⟨t2, stp t2 a1, b1⟩
end
theorem r_callN {X : Cx} {cc : ByteArray} {nL d kc kn : Nat} {own : String} (hX : Ok (CxK X kc kn) cc nL own d) {ks ksR : List Nat} {es esR : List va_E} {pc n : Nat} {lv : List (Nat × Value)} {rest : List Value}
    {mi : MI} {index d' q j kc' kn' : Nat} {e0 : va_E} {post : Nat → List Nat → List va_E → Prop} (hM : Cn (CxL X) (CxD X) mi d' kc' kn' e0 post)
    (hnw : (own, index, mi.1) ∈ nwM) (hcv : (Cond.instanceMethod mi.1 ∈ TB ∧ Cond.initialized mi.1.cls ∈ TB ∧ Cond.code mi.1 mi.2.1 mi.2.2.1 mi.2.2.2 ∈ TB) ∧ mi.1.name = "<init>" ∧ mi.2.2.2 = none ∧ (mi.1.cls ≠ "java/lang/invoke/MethodHandle" ∧ mi.1.cls ≠ "java/lang/invoke/VarHandle" ∧ (parseMethodDescriptor mi.1.desc).map (fun d => d.parameters.length) = some 0) ∧ mi.2.2.1 ≤ 21)
    (hdd : d' + 1 ≤ d) (h1 : kc + kc' ≤ (CxR X).cells) (h2 : kn + kn' ≤ (CxR X).slots) (hkj : ks[j]? = some q) (hej : es[j]? = some e0) (is : List Nat) (hks : is.map (fun i => ks[i]?) = ksR.map some) (hes : is.map (fun i => es[i]?) = esR.map some) (hnd : va_nd is = true) (hdis : ∀ i ∈ is, i ∉ [j])
    (hrest : (rest.map fun v => v.category).sum ≤ 8)
    (hd : decode cc pc = .ok (.invokespecial index, 3)) (hn : pc + 3 = n) (k : ∀ (ks' : List Nat) (es' : List va_E), post q ks' es' → es'.length = ks'.length → Aw (CxK X (kc + kc') (kn + kn')) (ksR ++ ks') (esR ++ es') n lv rest) : Aw (CxK X kc kn) ks es pc lv (.ref q :: rest) := by
  subst hn
  obtain ⟨p, l, e, R, s, m, args, below, meth, c, D, A, nL', Q, kc0, kn0⟩ := X
  obtain ⟨hx, hb, hml0, rfl, hown, hts, hK, hA, hlk, hfr, hlo, hWd, hkc, hkn⟩ := hX
  obtain ⟨⟨hc1, hc2, hc3⟩, hnm, hrt, hsg, hmL⟩ := hcv
  intro H locs ls hl hP hD hS hv
  have hT : GoodIn TB (wds mi) := good_wds (ws := []) (fun w h => absurd h List.not_mem_nil) hc3
  have hj := zip_at hkj hej
  have hwd : wds mi = Cond.code mi.1 mi.2.1 mi.2.2.1 none :: TB := by
    show Cond.code mi.1 mi.2.1 mi.2.2.1 mi.2.2.2 :: TB = _
    rw [hrt]
  have pre : ∀ U : State, U.heap = H → s.WarmedH U.vm → Wp D [(q, e0)] H.size U := fun U hU hW => Wp_of (ksC := [q]) (esC := [e0]) hA hP hD hS hK hWd [j] (by simp [hkj]) (by simp [hej]) rfl U hU hW
  have run := va_runIN (e := e) (below := below) (meth := meth) (locs := locs) (cells := kc) (slots := kn) (g := F0 m pc ls (.ref q :: rest)) (b := q) (As := []) (rest := rest) ⟨hx, hb, hml0, hown, hts⟩ (hM q H.size) ⟨va_cnB 0 hts hT hwd rfl rfl (hWd.2.2 _ hnw) (hts _ hc2) hsg ⟨Nat.le_trans hdd hfr, by show 8 + (mi.2.2.1 + 11) + 40 * d' ≤ R.locals; omega⟩, hnm, hts _ hc1⟩ ⟨Wp.blind, fun U hU hW => ⟨rfl, pre U hU hW⟩⟩ rfl rfl hv.1 rfl (lv_room hrest) hd ⟨h1, h2⟩
  exact W_of_runN run hA hl hP hD hS hv hkj hej is hks hes hnd hdis k
theorem r_callI {X : Cx} {cc : ByteArray} {nL d kc kn : Nat} {own : String} (hX : Ok (CxK X kc kn) cc nL own d) {ks ksR : List Nat} {es esR : List va_E} {pc n : Nat} {lv : List (Nat × Value)} {rest : List Value}
    {mi : MI} {index d' q j kc' kn' : Nat} {e0 : va_E} {post : Nat → List Nat → List va_E → Prop} (hM : Cn (CxL X) (CxD X) mi d' kc' kn' e0 post)
    (hml : Cond.methodLink own index mi.1 ∈ TB) (hcv : (Cond.instanceMethod mi.1 ∈ TB ∧ Cond.initialized mi.1.cls ∈ TB ∧ Cond.code mi.1 mi.2.1 mi.2.2.1 mi.2.2.2 ∈ TB) ∧ mi.1.name = "<init>" ∧ mi.2.2.2 = none ∧ (mi.1.cls ≠ "java/lang/invoke/MethodHandle" ∧ mi.1.cls ≠ "java/lang/invoke/VarHandle" ∧ (parseMethodDescriptor mi.1.desc).map (fun d => d.parameters.length) = some 0) ∧ mi.2.2.1 ≤ 21)
    (hdd : d' + 1 ≤ d) (h1 : kc + kc' ≤ (CxR X).cells) (h2 : kn + kn' ≤ (CxR X).slots) (hkj : ks[j]? = some q) (hej : es[j]? = some e0) (is : List Nat) (hks : is.map (fun i => ks[i]?) = ksR.map some) (hes : is.map (fun i => es[i]?) = esR.map some) (hnd : va_nd is = true) (hdis : ∀ i ∈ is, i ∉ [j])
    (hrest : (rest.map fun v => v.category).sum ≤ 8)
    (hd : decode cc pc = .ok (.invokespecial index, 3)) (hn : pc + 3 = n) (k : ∀ (ks' : List Nat) (es' : List va_E), post q ks' es' → es'.length = ks'.length → Aw (CxK X (kc + kc') (kn + kn')) (ksR ++ ks') (esR ++ es') n lv rest) : Aw (CxK X kc kn) ks es pc lv (.ref q :: rest) := by
  subst hn
  obtain ⟨p, l, e, R, s, m, args, below, meth, c, D, A, nL', Q, kc0, kn0⟩ := X
  obtain ⟨hx, hb, hml0, rfl, hown, hts, hK, hA, hlk, hfr, hlo, hWd, hkc, hkn⟩ := hX
  obtain ⟨⟨hc1, hc2, hc3⟩, hnm, hrt, hsg, hmL⟩ := hcv
  intro H locs ls hl hP hD hS hv
  have hT : GoodIn TB (wds mi) := good_wds (ws := []) (fun w h => absurd h List.not_mem_nil) hc3
  have hj := zip_at hkj hej
  have hwd : wds mi = Cond.code mi.1 mi.2.1 mi.2.2.1 none :: TB := by
    show Cond.code mi.1 mi.2.1 mi.2.2.1 mi.2.2.2 :: TB = _
    rw [hrt]
  have pre : ∀ U : State, U.heap = H → s.WarmedH U.vm → Wp D [(q, e0)] H.size U := fun U hU hW => Wp_of (ksC := [q]) (esC := [e0]) hA hP hD hS hK hWd [j] (by simp [hkj]) (by simp [hej]) rfl U hU hW
  have run := va_runI (e := e) (below := below) (meth := meth) (locs := locs) (cells := kc) (slots := kn) (g := F0 m pc ls (.ref q :: rest)) (b := q) (As := []) (rest := rest) ⟨hx, hb, hml0, hown, hts⟩ (hM q H.size) (cwI 0 hts hT hwd rfl rfl (hts _ hc2) (hts _ hml) (hts _ hc1) hnm hsg ⟨Nat.le_trans hdd hfr, by show 8 + (mi.2.2.1 + 11) + 40 * d' ≤ R.locals; omega⟩) ⟨Wp.blind, fun U hU hW => ⟨rfl, pre U hU hW⟩⟩ rfl rfl hv.1 rfl (lv_room hrest) hd ⟨h1, h2⟩
  exact W_of_runN run hA hl hP hD hS hv hkj hej is hks hes hnd hdis k
