
/-! the judgement Aw: a frame of a method at pc, its locals lv (sorted by place), its stack st, its world: cells es at the addresses ks -/
abbrev Cx : Type := Program × Launch × Env × Room × State × MethodId × Array Value × List Frame × Method × Code × va_G × (Nat → Prop) × Nat × (State → Prop) × Nat × Nat
abbrev tyL (D : va_G) : List (ClassId × FieldType) := [(D.1 100, .int), (D.1 101, .long), (D.1 102, .byte), (D.1 103, .boolean)]
abbrev aI (D : va_G) (n : Nat) (f : Nat → Int32) : va_E := .inl (D.1 100, n, .inl f)
abbrev aJ (D : va_G) (n : Nat) (f : Nat → Int64) : va_E := .inl (D.1 101, n, .inr (.inl f))
abbrev aB (D : va_G) (n : Nat) (f : Nat → Int32) : va_E := .inl (D.1 102, n, .inl f)
abbrev aZ (D : va_G) (n : Nat) (f : Nat → Int32) : va_E := .inl (D.1 103, n, .inl f)
abbrev ob (ci : Nat) (fs : List Value) : va_E := .inr (ci, fs)
def wdv (j : Nat) : Int64 := ([0x7472616974, 0x626172, 0x636F7374, 0x6966, 0x6F72, 0x616E64, 0x6E6F74, 0x70, 0x68] : List Int64).getD j 0
def nwM : List (String × Nat × MethodName) := [(RX5, 63, yX10_guestIn), (RX9, 30, yX10_guestIn), (RX10, 18, yX6_init), (RX10, 25, yX4_init), (RX10, 32, yX1_init), (RX10, 39, yX5_init), (RX10, 53, yX2_init), (RX10, 64, yX7_init), (RX10, 9, yX0_init), (RX4, 11, yX8_init), (RX4, 20, yX7_init), (RX5, 37, yX3_init)]
/-- what is carried beside the world: the static row WORDS, and the links among nest mates -/
def Wd (A : Nat → Prop) (U : State) (H : Heap) : Prop := (∃ t : Nat, va_Z "HostYear" "WORDS" "[J" (.ref t) A U H ∧ va_T .long t 9 (fun j => .long (wdv j)) A U H) ∧ va_Nw (.fieldLinkNest RX8 65 "HostYear" "WORDS" "[J" "HostYear") U ∧ ∀ q ∈ nwM, va_Nw (.methodLinkNest q.1 q.2.1 q.2.2 "HostYear") U
theorem Wd.warm {A : Nat → Prop} {s U : State} {H : Heap} (hW : s.WarmedH U.vm) (h : Wd A s H) : Wd A U H := by
  obtain ⟨⟨t, h1, h2⟩, h3, h4⟩ := h
  exact ⟨⟨t, va_Z.moved hW.alike h1, va_T.moved hW.alike h2⟩, va_Nw.warmF hW h3, fun q hq => va_Nw.warmM hW (h4 q hq)⟩
theorem Wd.same {A : Nat → Prop} {s U : State} {H : Heap} (hv : s.vm = U.vm) (h : Wd A s H) : Wd A U H := by
  obtain ⟨⟨t, h1, h2⟩, h3, h4⟩ := h
  have ha : s.vm.Alike U.vm := by rw [← hv]; exact Vm.Alike.refl _
  exact ⟨⟨t, va_Z.moved ha h1, va_T.moved ha h2⟩, va_Nw.same rfl hv h3, fun q hq => va_Nw.same rfl hv (h4 q hq)⟩
theorem Wd.kept {A : Nat → Prop} {U : State} {H H1 : Heap} (h : Wd A U H) (hq : ∀ a : Nat, a < H.size → ¬ A a → H1[a]? = H[a]?) : Wd A U H1 := by
  obtain ⟨⟨t, h1, h2⟩, h3⟩ := h
  exact ⟨⟨t, h1.kept hq, h2.kept hq⟩, h3⟩
theorem Wd.narrow {A B : Nat → Prop} {U : State} {H : Heap} (h : Wd A U H) (hAB : ∀ q, B q → A q) : Wd B U H := by
  obtain ⟨⟨t, h1, h2⟩, h3⟩ := h
  exact ⟨⟨t, h1.narrow hAB, h2.narrow hAB⟩, h3⟩
def Ok : Cx → ByteArray → Nat → String → Nat → Prop
  | (p, _, _, R, s, m, args, _, meth, c, D, A, nL', _, kc, kn), cc, nL, own, d => p.tables.exec = Jvm.exec ∧ c.code = cc ∧ c.maxLocals = nL ∧ nL' = nL ∧ s.vm.findClass own = some m.cls ∧ (∀ w ∈ TB, w.before args s = true) ∧ va_K D vwCl (tyL D) s ∧ (∀ q, s.heap.size ≤ q → A q) ∧ meth.locks = false ∧ d ≤ R.frames ∧ 40 * d ≤ R.locals ∧ Wd A s s.heap ∧ kc ≤ R.cells ∧ kn ≤ R.slots
def CxD : Cx → va_G
  | (_, _, _, _, _, _, _, _, _, _, D, _, _, _, _, _) => D
def CxL : Cx → Launch
  | (_, l, _, _, _, _, _, _, _, _, _, _, _, _, _, _) => l
def Aw : Cx → List Nat → List va_E → Nat → List (Nat × Value) → List Value → Prop
  | (p, l, e, R, s, m, args, below, meth, c, D, A, nL, Q, kc, kn), ks, es, pc, lv, st =>
    ∀ (H : Heap) (locs : List Loc) (ls : Array Slot), es.length = ks.length → va_P D vwCl (ks.zip es) H → va_D A (ks.zip es) → va_S A s.heap H locs → lv_has ls nL lv → W p l e R s m args below meth c H locs kc kn Q (F0 m pc ls st)
/-! locals, sorted by place -/
def lins (a : Nat × Value) : List (Nat × Value) → List (Nat × Value)
  | [] => [a]
  | b :: t => bif Nat.ble a.1 b.1 then a :: b :: t else b :: lins a t
theorem lins_mem {a q : Nat × Value} : ∀ {l : List (Nat × Value)}, q ∈ lins a l → q ∈ a :: l
  | [], h => h
  | b :: t, h => by
    unfold lins at h
    cases hb : Nat.ble a.1 b.1 with
    | true => rw [hb] at h; exact h
    | false =>
      rw [hb] at h
      rcases List.mem_cons.mp h with h | h
      · exact List.mem_cons_of_mem _ (List.mem_cons.mpr (Or.inl h))
      · rcases List.mem_cons.mp (lins_mem h) with h | h
        · exact List.mem_cons.mpr (Or.inl h)
        · exact List.mem_cons_of_mem _ (List.mem_cons_of_mem _ h)
def ls1 (l : List (Nat × Value)) (i : Nat) (v : Value) : List (Nat × Value) := lins (i, v) (l.filter (fun q => !(q.1 == i) && !(q.1 + 1 == i && q.2.category == 2)))
def ls2 (l : List (Nat × Value)) (i : Nat) (v : Value) : List (Nat × Value) := lins (i, v) (l.filter (fun q => !(q.1 == i) && (!(q.1 == i + 1) && !(q.1 + 1 == i && q.2.category == 2))))
theorem lv_mono {ls : Array Slot} {nL : Nat} {l l' : List (Nat × Value)} (h : lv_has ls nL l) (hs : ∀ q ∈ l', q ∈ l) : lv_has ls nL l' := ⟨h.1, h.2.1, fun q hq => h.2.2 q (hs q hq)⟩
/-! worlds as two rows -/
theorem zip_at {ks : List Nat} {es : List va_E} {q a : Nat} {x : va_E} (hk : ks[q]? = some a) (he : es[q]? = some x) : (ks.zip es)[q]? = some (a, x) := by
  rw [List.getElem?_zip_eq_some]; exact ⟨hk, he⟩
theorem zip_set {ks : List Nat} {es : List va_E} {q a : Nat} {x : va_E} (hk : ks[q]? = some a) : (ks.zip es).set q (a, x) = ks.zip (es.set q x) := by
  induction ks generalizing es q with
  | nil => simp at hk
  | cons k ks ih =>
    cases es with
    | nil => simp
    | cons e es =>
      cases q with
      | zero => simp at hk; subst hk; rfl
      | succ q => simp at hk; simp [ih hk]
theorem zip_D {A : Nat → Prop} {ks : List Nat} {es es2 : List va_E} (hl : es.length = ks.length) (hl2 : es2.length = ks.length) (h : va_D A (ks.zip es)) : va_D A (ks.zip es2) := by
  have key : ∀ (k : Nat) (q : Nat × va_E), (ks.zip es2)[k]? = some q → ∃ x, (ks.zip es)[k]? = some (q.1, x) := by
    intro k q hq
    obtain ⟨h1, h2⟩ := List.getElem?_zip_eq_some.mp hq
    have hlt : k < ks.length := (List.getElem?_eq_some_iff.mp h1).1
    exact ⟨es[k]'(by omega), zip_at h1 (List.getElem?_eq_getElem (by omega))⟩
  refine ⟨fun i j p q hp hq hpq => ?_, fun k q hq => ?_⟩
  · obtain ⟨x, h1⟩ := key i p hp
    obtain ⟨y, h2⟩ := key j q hq
    exact h.1 i j _ _ h1 h2 hpq
  · obtain ⟨x, h1⟩ := key k q hq
    exact h.2 k (q.1, x) h1
def putAt (es : List va_E) : List Nat → List va_E → List va_E
  | i :: is, x :: xs => (putAt es is xs).set i x
  | _, _ => es
theorem putAt_len {es : List va_E} : ∀ (is : List Nat) (xs : List va_E), (putAt es is xs).length = es.length
  | [], xs => by simp [putAt]
  | i :: is, [] => by simp [putAt]
  | i :: is, x :: xs => by simp [putAt, putAt_len is xs]
theorem putAt_out {es : List va_E} {k : Nat} : ∀ (is : List Nat) (xs : List va_E), k ∉ is → (putAt es is xs)[k]? = es[k]?
  | [], xs, _ => by simp [putAt]
  | i :: is, [], _ => by simp [putAt]
  | i :: is, x :: xs, h => by
    simp only [List.mem_cons, not_or] at h
    show ((putAt es is xs).set i x)[k]? = es[k]?
    rw [List.getElem?_set_ne (Ne.symm h.1)]
    exact putAt_out is xs h.2
theorem putAt_in {es : List va_E} : ∀ (is : List Nat) (xs : List va_E), va_nd is = true → is.length = xs.length → (∀ i ∈ is, i < es.length) → ∀ (j k : Nat), is[j]? = some k → (putAt es is xs)[k]? = xs[j]?
  | [], xs, _, _, _, j, k, h => by simp at h
  | i :: is, [], _, hl, _, j, k, h => by simp at hl
  | i :: is, x :: xs, hn, hl, hb, j, k, h => by
    simp only [va_nd, Bool.and_eq_true, decide_eq_true_eq] at hn
    show ((putAt es is xs).set i x)[k]? = (x :: xs)[j]?
    cases j with
    | zero =>
      simp at h; subst h
      rw [List.getElem?_set_self (by rw [putAt_len]; exact hb i (List.mem_cons_self))]
      simp
    | succ j =>
      simp only [List.getElem?_cons_succ] at h ⊢
      have hk : k ∈ is := List.mem_of_getElem? h
      rw [List.getElem?_set_ne (i := i) (j := k) (fun e => hn.1 (by rw [e]; exact hk))]
      exact putAt_in is xs hn.2 (by simpa using hl) (fun q hq => hb q (List.mem_cons_of_mem _ hq)) j k h

theorem r_iadd {X : Cx} {cc : ByteArray} {nL d : Nat} {own : String} (hX : Ok X cc nL own d) {ks : List Nat} {es : List va_E} {pc n : Nat} {lv : List (Nat × Value)} {rest : List Value} {x y : Int32} (hd : decode cc pc = .ok (.iadd, 1)) (hn : pc + 1 = n)  (k : Aw X ks es n lv (.int (x + y) :: rest)) : Aw X ks es pc lv (.int y :: .int x :: rest) := by
  subst hn
  obtain ⟨p, l, e, R, s, m, args, below, meth, c, D, A, nL', Q, kc, kn⟩ := X
  obtain ⟨hx, hb, hml, rfl, hown, hts, hK, hA, hlk, hfr, hlo, hWd, hkc, hkn⟩ := hX
  intro H locs ls hl hP hD hS hv
  exact lv_iadd hx hb hd  (k H locs ls hl hP hD hS hv)
theorem r_isub {X : Cx} {cc : ByteArray} {nL d : Nat} {own : String} (hX : Ok X cc nL own d) {ks : List Nat} {es : List va_E} {pc n : Nat} {lv : List (Nat × Value)} {rest : List Value} {x y : Int32} (hd : decode cc pc = .ok (.isub, 1)) (hn : pc + 1 = n)  (k : Aw X ks es n lv (.int (x - y) :: rest)) : Aw X ks es pc lv (.int y :: .int x :: rest) := by
  subst hn
  obtain ⟨p, l, e, R, s, m, args, below, meth, c, D, A, nL', Q, kc, kn⟩ := X
  obtain ⟨hx, hb, hml, rfl, hown, hts, hK, hA, hlk, hfr, hlo, hWd, hkc, hkn⟩ := hX
  intro H locs ls hl hP hD hS hv
  exact lv_isub hx hb hd  (k H locs ls hl hP hD hS hv)
theorem r_imul {X : Cx} {cc : ByteArray} {nL d : Nat} {own : String} (hX : Ok X cc nL own d) {ks : List Nat} {es : List va_E} {pc n : Nat} {lv : List (Nat × Value)} {rest : List Value} {x y : Int32} (hd : decode cc pc = .ok (.imul, 1)) (hn : pc + 1 = n)  (k : Aw X ks es n lv (.int (x * y) :: rest)) : Aw X ks es pc lv (.int y :: .int x :: rest) := by
  subst hn
  obtain ⟨p, l, e, R, s, m, args, below, meth, c, D, A, nL', Q, kc, kn⟩ := X
  obtain ⟨hx, hb, hml, rfl, hown, hts, hK, hA, hlk, hfr, hlo, hWd, hkc, hkn⟩ := hX
  intro H locs ls hl hP hD hS hv
  exact lv_imul hx hb hd  (k H locs ls hl hP hD hS hv)
theorem r_iand {X : Cx} {cc : ByteArray} {nL d : Nat} {own : String} (hX : Ok X cc nL own d) {ks : List Nat} {es : List va_E} {pc n : Nat} {lv : List (Nat × Value)} {rest : List Value} {x y : Int32} (hd : decode cc pc = .ok (.iand, 1)) (hn : pc + 1 = n)  (k : Aw X ks es n lv (.int (x &&& y) :: rest)) : Aw X ks es pc lv (.int y :: .int x :: rest) := by
  subst hn
  obtain ⟨p, l, e, R, s, m, args, below, meth, c, D, A, nL', Q, kc, kn⟩ := X
  obtain ⟨hx, hb, hml, rfl, hown, hts, hK, hA, hlk, hfr, hlo, hWd, hkc, hkn⟩ := hX
  intro H locs ls hl hP hD hS hv
  exact lv_iand hx hb hd  (k H locs ls hl hP hD hS hv)
theorem r_ior {X : Cx} {cc : ByteArray} {nL d : Nat} {own : String} (hX : Ok X cc nL own d) {ks : List Nat} {es : List va_E} {pc n : Nat} {lv : List (Nat × Value)} {rest : List Value} {x y : Int32} (hd : decode cc pc = .ok (.ior, 1)) (hn : pc + 1 = n)  (k : Aw X ks es n lv (.int (x ||| y) :: rest)) : Aw X ks es pc lv (.int y :: .int x :: rest) := by
  subst hn
  obtain ⟨p, l, e, R, s, m, args, below, meth, c, D, A, nL', Q, kc, kn⟩ := X
  obtain ⟨hx, hb, hml, rfl, hown, hts, hK, hA, hlk, hfr, hlo, hWd, hkc, hkn⟩ := hX
  intro H locs ls hl hP hD hS hv
  exact lv_ior hx hb hd  (k H locs ls hl hP hD hS hv)
theorem r_ixor {X : Cx} {cc : ByteArray} {nL d : Nat} {own : String} (hX : Ok X cc nL own d) {ks : List Nat} {es : List va_E} {pc n : Nat} {lv : List (Nat × Value)} {rest : List Value} {x y : Int32} (hd : decode cc pc = .ok (.ixor, 1)) (hn : pc + 1 = n)  (k : Aw X ks es n lv (.int (x ^^^ y) :: rest)) : Aw X ks es pc lv (.int y :: .int x :: rest) := by
  subst hn
  obtain ⟨p, l, e, R, s, m, args, below, meth, c, D, A, nL', Q, kc, kn⟩ := X
  obtain ⟨hx, hb, hml, rfl, hown, hts, hK, hA, hlk, hfr, hlo, hWd, hkc, hkn⟩ := hX
  intro H locs ls hl hP hD hS hv
  exact lv_ixor hx hb hd  (k H locs ls hl hP hD hS hv)
theorem r_ishl {X : Cx} {cc : ByteArray} {nL d : Nat} {own : String} (hX : Ok X cc nL own d) {ks : List Nat} {es : List va_E} {pc n : Nat} {lv : List (Nat × Value)} {rest : List Value} {x y : Int32} (hd : decode cc pc = .ok (.ishl, 1)) (hn : pc + 1 = n)  (k : Aw X ks es n lv (.int (x <<< (y &&& 31)) :: rest)) : Aw X ks es pc lv (.int y :: .int x :: rest) := by
  subst hn
  obtain ⟨p, l, e, R, s, m, args, below, meth, c, D, A, nL', Q, kc, kn⟩ := X
  obtain ⟨hx, hb, hml, rfl, hown, hts, hK, hA, hlk, hfr, hlo, hWd, hkc, hkn⟩ := hX
  intro H locs ls hl hP hD hS hv
  exact lv_ishl hx hb hd  (k H locs ls hl hP hD hS hv)
theorem r_ishr {X : Cx} {cc : ByteArray} {nL d : Nat} {own : String} (hX : Ok X cc nL own d) {ks : List Nat} {es : List va_E} {pc n : Nat} {lv : List (Nat × Value)} {rest : List Value} {x y : Int32} (hd : decode cc pc = .ok (.ishr, 1)) (hn : pc + 1 = n)  (k : Aw X ks es n lv (.int (x >>> (y &&& 31)) :: rest)) : Aw X ks es pc lv (.int y :: .int x :: rest) := by
  subst hn
  obtain ⟨p, l, e, R, s, m, args, below, meth, c, D, A, nL', Q, kc, kn⟩ := X
  obtain ⟨hx, hb, hml, rfl, hown, hts, hK, hA, hlk, hfr, hlo, hWd, hkc, hkn⟩ := hX
  intro H locs ls hl hP hD hS hv
  exact lv_ishr hx hb hd  (k H locs ls hl hP hD hS hv)
theorem r_idiv {X : Cx} {cc : ByteArray} {nL d : Nat} {own : String} (hX : Ok X cc nL own d) {ks : List Nat} {es : List va_E} {pc n : Nat} {lv : List (Nat × Value)} {rest : List Value} {x y : Int32} (hd : decode cc pc = .ok (.idiv, 1)) (hn : pc + 1 = n) (hne : ¬ y = 0) (k : Aw X ks es n lv (.int (x / y) :: rest)) : Aw X ks es pc lv (.int y :: .int x :: rest) := by
  subst hn
  obtain ⟨p, l, e, R, s, m, args, below, meth, c, D, A, nL', Q, kc, kn⟩ := X
  obtain ⟨hx, hb, hml, rfl, hown, hts, hK, hA, hlk, hfr, hlo, hWd, hkc, hkn⟩ := hX
  intro H locs ls hl hP hD hS hv
  exact lv_idiv hx hb hd hne (k H locs ls hl hP hD hS hv)
theorem r_irem {X : Cx} {cc : ByteArray} {nL d : Nat} {own : String} (hX : Ok X cc nL own d) {ks : List Nat} {es : List va_E} {pc n : Nat} {lv : List (Nat × Value)} {rest : List Value} {x y : Int32} (hd : decode cc pc = .ok (.irem, 1)) (hn : pc + 1 = n) (hne : ¬ y = 0) (k : Aw X ks es n lv (.int (x - x / y * y) :: rest)) : Aw X ks es pc lv (.int y :: .int x :: rest) := by
  subst hn
  obtain ⟨p, l, e, R, s, m, args, below, meth, c, D, A, nL', Q, kc, kn⟩ := X
  obtain ⟨hx, hb, hml, rfl, hown, hts, hK, hA, hlk, hfr, hlo, hWd, hkc, hkn⟩ := hX
  intro H locs ls hl hP hD hS hv
  exact lv_irem hx hb hd hne (k H locs ls hl hP hD hS hv)
theorem r_ineg {X : Cx} {cc : ByteArray} {nL d : Nat} {own : String} (hX : Ok X cc nL own d) {ks : List Nat} {es : List va_E} {pc n : Nat} {lv : List (Nat × Value)} {rest : List Value} {x : Int32} (hd : decode cc pc = .ok (.ineg, 1)) (hn : pc + 1 = n)  (k : Aw X ks es n lv (.int (-x) :: rest)) : Aw X ks es pc lv (.int x :: rest) := by
  subst hn
  obtain ⟨p, l, e, R, s, m, args, below, meth, c, D, A, nL', Q, kc, kn⟩ := X
  obtain ⟨hx, hb, hml, rfl, hown, hts, hK, hA, hlk, hfr, hlo, hWd, hkc, hkn⟩ := hX
  intro H locs ls hl hP hD hS hv
  exact lv_ineg hx hb hd  (k H locs ls hl hP hD hS hv)
theorem r_ladd {X : Cx} {cc : ByteArray} {nL d : Nat} {own : String} (hX : Ok X cc nL own d) {ks : List Nat} {es : List va_E} {pc n : Nat} {lv : List (Nat × Value)} {rest : List Value} {x y : Int64} (hd : decode cc pc = .ok (.ladd, 1)) (hn : pc + 1 = n)  (k : Aw X ks es n lv (.long (x + y) :: rest)) : Aw X ks es pc lv (.long y :: .long x :: rest) := by
  subst hn
  obtain ⟨p, l, e, R, s, m, args, below, meth, c, D, A, nL', Q, kc, kn⟩ := X
  obtain ⟨hx, hb, hml, rfl, hown, hts, hK, hA, hlk, hfr, hlo, hWd, hkc, hkn⟩ := hX
  intro H locs ls hl hP hD hS hv
  exact lv_ladd hx hb hd  (k H locs ls hl hP hD hS hv)
theorem r_lsub {X : Cx} {cc : ByteArray} {nL d : Nat} {own : String} (hX : Ok X cc nL own d) {ks : List Nat} {es : List va_E} {pc n : Nat} {lv : List (Nat × Value)} {rest : List Value} {x y : Int64} (hd : decode cc pc = .ok (.lsub, 1)) (hn : pc + 1 = n)  (k : Aw X ks es n lv (.long (x - y) :: rest)) : Aw X ks es pc lv (.long y :: .long x :: rest) := by
  subst hn
  obtain ⟨p, l, e, R, s, m, args, below, meth, c, D, A, nL', Q, kc, kn⟩ := X
  obtain ⟨hx, hb, hml, rfl, hown, hts, hK, hA, hlk, hfr, hlo, hWd, hkc, hkn⟩ := hX
  intro H locs ls hl hP hD hS hv
  exact lv_lsub hx hb hd  (k H locs ls hl hP hD hS hv)
theorem r_lmul {X : Cx} {cc : ByteArray} {nL d : Nat} {own : String} (hX : Ok X cc nL own d) {ks : List Nat} {es : List va_E} {pc n : Nat} {lv : List (Nat × Value)} {rest : List Value} {x y : Int64} (hd : decode cc pc = .ok (.lmul, 1)) (hn : pc + 1 = n)  (k : Aw X ks es n lv (.long (x * y) :: rest)) : Aw X ks es pc lv (.long y :: .long x :: rest) := by
  subst hn
  obtain ⟨p, l, e, R, s, m, args, below, meth, c, D, A, nL', Q, kc, kn⟩ := X
  obtain ⟨hx, hb, hml, rfl, hown, hts, hK, hA, hlk, hfr, hlo, hWd, hkc, hkn⟩ := hX
  intro H locs ls hl hP hD hS hv
  exact lv_lmul hx hb hd  (k H locs ls hl hP hD hS hv)
theorem r_lor {X : Cx} {cc : ByteArray} {nL d : Nat} {own : String} (hX : Ok X cc nL own d) {ks : List Nat} {es : List va_E} {pc n : Nat} {lv : List (Nat × Value)} {rest : List Value} {x y : Int64} (hd : decode cc pc = .ok (.lor, 1)) (hn : pc + 1 = n)  (k : Aw X ks es n lv (.long (x ||| y) :: rest)) : Aw X ks es pc lv (.long y :: .long x :: rest) := by
  subst hn
  obtain ⟨p, l, e, R, s, m, args, below, meth, c, D, A, nL', Q, kc, kn⟩ := X
  obtain ⟨hx, hb, hml, rfl, hown, hts, hK, hA, hlk, hfr, hlo, hWd, hkc, hkn⟩ := hX
  intro H locs ls hl hP hD hS hv
  exact lv_lor hx hb hd  (k H locs ls hl hP hD hS hv)
theorem r_i2l {X : Cx} {cc : ByteArray} {nL d : Nat} {own : String} (hX : Ok X cc nL own d) {ks : List Nat} {es : List va_E} {pc n : Nat} {lv : List (Nat × Value)} {rest : List Value} {x : Int32} (hd : decode cc pc = .ok (.i2l, 1)) (hn : pc + 1 = n)  (k : Aw X ks es n lv (.long x.toInt64 :: rest)) : Aw X ks es pc lv (.int x :: rest) := by
  subst hn
  obtain ⟨p, l, e, R, s, m, args, below, meth, c, D, A, nL', Q, kc, kn⟩ := X
  obtain ⟨hx, hb, hml, rfl, hown, hts, hK, hA, hlk, hfr, hlo, hWd, hkc, hkn⟩ := hX
  intro H locs ls hl hP hD hS hv
  exact lv_i2l hx hb hd rfl (k H locs ls hl hP hD hS hv)
theorem r_l2i {X : Cx} {cc : ByteArray} {nL d : Nat} {own : String} (hX : Ok X cc nL own d) {ks : List Nat} {es : List va_E} {pc n : Nat} {lv : List (Nat × Value)} {rest : List Value} {x : Int64} (hd : decode cc pc = .ok (.l2i, 1)) (hn : pc + 1 = n)  (k : Aw X ks es n lv (.int x.toInt32 :: rest)) : Aw X ks es pc lv (.long x :: rest) := by
  subst hn
  obtain ⟨p, l, e, R, s, m, args, below, meth, c, D, A, nL', Q, kc, kn⟩ := X
  obtain ⟨hx, hb, hml, rfl, hown, hts, hK, hA, hlk, hfr, hlo, hWd, hkc, hkn⟩ := hX
  intro H locs ls hl hP hD hS hv
  exact lv_l2i hx hb hd rfl (k H locs ls hl hP hD hS hv)
theorem r_i2b {X : Cx} {cc : ByteArray} {nL d : Nat} {own : String} (hX : Ok X cc nL own d) {ks : List Nat} {es : List va_E} {pc n : Nat} {lv : List (Nat × Value)} {rest : List Value} {x : Int32} (hd : decode cc pc = .ok (.i2b, 1)) (hn : pc + 1 = n)  (k : Aw X ks es n lv (.int x.toInt8.toInt32 :: rest)) : Aw X ks es pc lv (.int x :: rest) := by
  subst hn
  obtain ⟨p, l, e, R, s, m, args, below, meth, c, D, A, nL', Q, kc, kn⟩ := X
  obtain ⟨hx, hb, hml, rfl, hown, hts, hK, hA, hlk, hfr, hlo, hWd, hkc, hkn⟩ := hX
  intro H locs ls hl hP hD hS hv
  exact lv_i2b hx hb hd rfl (k H locs ls hl hP hD hS hv)
theorem r_iushr {X : Cx} {cc : ByteArray} {nL d : Nat} {own : String} (hX : Ok X cc nL own d) {ks : List Nat} {es : List va_E} {pc n : Nat} {lv : List (Nat × Value)} {rest : List Value} {x y : Int32} (hd : decode cc pc = .ok (.iushr, 1)) (hn : pc + 1 = n)  (k : Aw X ks es n lv (.int (x.toUInt32 >>> (y.toUInt32 &&& Int32.toUInt32 31)).toInt32 :: rest)) : Aw X ks es pc lv (.int y :: .int x :: rest) := by
  subst hn
  obtain ⟨p, l, e, R, s, m, args, below, meth, c, D, A, nL', Q, kc, kn⟩ := X
  obtain ⟨hx, hb, hml, rfl, hown, hts, hK, hA, hlk, hfr, hlo, hWd, hkc, hkn⟩ := hX
  intro H locs ls hl hP hD hS hv
  exact lv_iushr hx hb hd rfl (k H locs ls hl hP hD hS hv)
theorem r_lshl {X : Cx} {cc : ByteArray} {nL d : Nat} {own : String} (hX : Ok X cc nL own d) {ks : List Nat} {es : List va_E} {pc n : Nat} {lv : List (Nat × Value)} {rest : List Value} {x : Int64} {y : Int32} (hd : decode cc pc = .ok (.lshl, 1)) (hn : pc + 1 = n)  (k : Aw X ks es n lv (.long (x <<< (y.toInt64 &&& 63)) :: rest)) : Aw X ks es pc lv (.int y :: .long x :: rest) := by
  subst hn
  obtain ⟨p, l, e, R, s, m, args, below, meth, c, D, A, nL', Q, kc, kn⟩ := X
  obtain ⟨hx, hb, hml, rfl, hown, hts, hK, hA, hlk, hfr, hlo, hWd, hkc, hkn⟩ := hX
  intro H locs ls hl hP hD hS hv
  exact lv_lshl hx hb hd rfl (k H locs ls hl hP hD hS hv)
theorem r_lcmp {X : Cx} {cc : ByteArray} {nL d : Nat} {own : String} (hX : Ok X cc nL own d) {ks : List Nat} {es : List va_E} {pc n : Nat} {lv : List (Nat × Value)} {rest : List Value} {x y : Int64} (hd : decode cc pc = .ok (.lcmp, 1)) (hn : pc + 1 = n)  (k : Aw X ks es n lv (.int (lg_cmp x y) :: rest)) : Aw X ks es pc lv (.long y :: .long x :: rest) := by
  subst hn
  obtain ⟨p, l, e, R, s, m, args, below, meth, c, D, A, nL', Q, kc, kn⟩ := X
  obtain ⟨hx, hb, hml, rfl, hown, hts, hK, hA, hlk, hfr, hlo, hWd, hkc, hkn⟩ := hX
  intro H locs ls hl hP hD hS hv
  exact W.lcmp hx hb hd  (k H locs ls hl hP hD hS hv)
theorem r_dup {X : Cx} {cc : ByteArray} {nL d : Nat} {own : String} (hX : Ok X cc nL own d) {ks : List Nat} {es : List va_E} {pc n : Nat} {lv : List (Nat × Value)} {rest : List Value} {va : Value} (hd : decode cc pc = .ok (.dup, 1)) (hn : pc + 1 = n) (hva : va.category = 1) (k : Aw X ks es n lv (va :: va :: rest)) : Aw X ks es pc lv (va :: rest) := by
  subst hn
  obtain ⟨p, l, e, R, s, m, args, below, meth, c, D, A, nL', Q, kc, kn⟩ := X
  obtain ⟨hx, hb, hml, rfl, hown, hts, hK, hA, hlk, hfr, hlo, hWd, hkc, hkn⟩ := hX
  intro H locs ls hl hP hD hS hv
  exact lv_dup hx hb hd hva (k H locs ls hl hP hD hS hv)
theorem r_dup2 {X : Cx} {cc : ByteArray} {nL d : Nat} {own : String} (hX : Ok X cc nL own d) {ks : List Nat} {es : List va_E} {pc n : Nat} {lv : List (Nat × Value)} {rest : List Value} {va vb : Value} (hd : decode cc pc = .ok (.dup2, 1)) (hn : pc + 1 = n) (hva : va.category = 1) (hvb : vb.category = 1) (k : Aw X ks es n lv (va :: vb :: va :: vb :: rest)) : Aw X ks es pc lv (va :: vb :: rest) := by
  subst hn
  obtain ⟨p, l, e, R, s, m, args, below, meth, c, D, A, nL', Q, kc, kn⟩ := X
  obtain ⟨hx, hb, hml, rfl, hown, hts, hK, hA, hlk, hfr, hlo, hWd, hkc, hkn⟩ := hX
  intro H locs ls hl hP hD hS hv
  exact lv_dup2_11 hx hb hd hva hvb (k H locs ls hl hP hD hS hv)
theorem r_iconst {X : Cx} {cc : ByteArray} {nL d : Nat} {own : String} (hX : Ok X cc nL own d) {ks : List Nat} {es : List va_E} {pc n : Nat} {lv : List (Nat × Value)} {rest : List Value} {i : Int} (v : Int32) (hd : decode cc pc = .ok (.iconst i, 1)) (hn : pc + 1 = n) (hv0 : Int32.ofInt i = v) (k : Aw X ks es n lv (.int v :: rest)) : Aw X ks es pc lv (rest) := by
  subst hn
  obtain ⟨p, l, e, R, s, m, args, below, meth, c, D, A, nL', Q, kc, kn⟩ := X
  obtain ⟨hx, hb, hml, rfl, hown, hts, hK, hA, hlk, hfr, hlo, hWd, hkc, hkn⟩ := hX
  intro H locs ls hl hP hD hS hv
  exact lv_iconst hx hb hd hv0 (k H locs ls hl hP hD hS hv)
theorem r_bipush {X : Cx} {cc : ByteArray} {nL d : Nat} {own : String} (hX : Ok X cc nL own d) {ks : List Nat} {es : List va_E} {pc n : Nat} {lv : List (Nat × Value)} {rest : List Value} {i : Int} (v : Int32) (hd : decode cc pc = .ok (.bipush i, 2)) (hn : pc + 2 = n) (hv0 : (Int8.ofInt i).toInt32 = v) (k : Aw X ks es n lv (.int v :: rest)) : Aw X ks es pc lv (rest) := by
  subst hn
  obtain ⟨p, l, e, R, s, m, args, below, meth, c, D, A, nL', Q, kc, kn⟩ := X
  obtain ⟨hx, hb, hml, rfl, hown, hts, hK, hA, hlk, hfr, hlo, hWd, hkc, hkn⟩ := hX
  intro H locs ls hl hP hD hS hv
  exact lv_bipush hx hb hd hv0 (k H locs ls hl hP hD hS hv)
theorem r_sipush {X : Cx} {cc : ByteArray} {nL d : Nat} {own : String} (hX : Ok X cc nL own d) {ks : List Nat} {es : List va_E} {pc n : Nat} {lv : List (Nat × Value)} {rest : List Value} {i : Int} (v : Int32) (hd : decode cc pc = .ok (.sipush i, 3)) (hn : pc + 3 = n) (hv0 : (Int16.ofInt i).toInt32 = v) (k : Aw X ks es n lv (.int v :: rest)) : Aw X ks es pc lv (rest) := by
  subst hn
  obtain ⟨p, l, e, R, s, m, args, below, meth, c, D, A, nL', Q, kc, kn⟩ := X
  obtain ⟨hx, hb, hml, rfl, hown, hts, hK, hA, hlk, hfr, hlo, hWd, hkc, hkn⟩ := hX
  intro H locs ls hl hP hD hS hv
  exact lv_sipush hx hb hd hv0 (k H locs ls hl hP hD hS hv)
theorem r_lconst {X : Cx} {cc : ByteArray} {nL d : Nat} {own : String} (hX : Ok X cc nL own d) {ks : List Nat} {es : List va_E} {pc n : Nat} {lv : List (Nat × Value)} {rest : List Value} {i : Fin 2} (v : Int64) (hd : decode cc pc = .ok (.lconst i, 1)) (hn : pc + 1 = n) (hv0 : Int64.ofNat (i : Nat) = v) (k : Aw X ks es n lv (.long v :: rest)) : Aw X ks es pc lv (rest) := by
  subst hn
  obtain ⟨p, l, e, R, s, m, args, below, meth, c, D, A, nL', Q, kc, kn⟩ := X
  obtain ⟨hx, hb, hml, rfl, hown, hts, hK, hA, hlk, hfr, hlo, hWd, hkc, hkn⟩ := hX
  intro H locs ls hl hP hD hS hv
  exact lv_lconst hx hb hd hv0 (k H locs ls hl hP hD hS hv)
theorem r_null {X : Cx} {cc : ByteArray} {nL d : Nat} {own : String} (hX : Ok X cc nL own d) {ks : List Nat} {es : List va_E} {pc n : Nat} {lv : List (Nat × Value)} {rest : List Value}  (hd : decode cc pc = .ok (.aconst_null, 1)) (hn : pc + 1 = n)  (k : Aw X ks es n lv (.null :: rest)) : Aw X ks es pc lv (rest) := by
  subst hn
  obtain ⟨p, l, e, R, s, m, args, below, meth, c, D, A, nL', Q, kc, kn⟩ := X
  obtain ⟨hx, hb, hml, rfl, hown, hts, hK, hA, hlk, hfr, hlo, hWd, hkc, hkn⟩ := hX
  intro H locs ls hl hP hD hS hv
  exact lv_null hx hb hd  (k H locs ls hl hP hD hS hv)
theorem r_ldc {X : Cx} {cc : ByteArray} {nL d : Nat} {own : String} (hX : Ok X cc nL own d) {ks : List Nat} {es : List va_E} {pc n : Nat} {lv : List (Nat × Value)} {rest : List Value} {index : Nat} {v : Int32} (hd : decode cc pc = .ok (.ldc index, 2)) (hn : pc + 2 = n) (hw : Cond.constant own index v ∈ TB) (k : Aw X ks es n lv (.int v :: rest)) : Aw X ks es pc lv rest := by
  subst hn
  obtain ⟨p, l, e, R, s, m, args, below, meth, c, D, A, nL', Q, kc, kn⟩ := X
  obtain ⟨hx, hb, hml, rfl, hown, hts, hK, hA, hlk, hfr, hlo, hWd, hkc, hkn⟩ := hX
  intro H locs ls hl hP hD hS hv
  exact lv_ldc hx hb hown (hts _ hw) hd (k H locs ls hl hP hD hS hv)
theorem r_ldcw {X : Cx} {cc : ByteArray} {nL d : Nat} {own : String} (hX : Ok X cc nL own d) {ks : List Nat} {es : List va_E} {pc n : Nat} {lv : List (Nat × Value)} {rest : List Value} {index : Nat} {v : Int32} (hd : decode cc pc = .ok (.ldc_w index, 3)) (hn : pc + 3 = n) (hw : Cond.constant own index v ∈ TB) (k : Aw X ks es n lv (.int v :: rest)) : Aw X ks es pc lv rest := by
  subst hn
  obtain ⟨p, l, e, R, s, m, args, below, meth, c, D, A, nL', Q, kc, kn⟩ := X
  obtain ⟨hx, hb, hml, rfl, hown, hts, hK, hA, hlk, hfr, hlo, hWd, hkc, hkn⟩ := hX
  intro H locs ls hl hP hD hS hv
  exact lv_ldcw hx hb hown (hts _ hw) hd (k H locs ls hl hP hD hS hv)
theorem r_ldc2 {X : Cx} {cc : ByteArray} {nL d : Nat} {own : String} (hX : Ok X cc nL own d) {ks : List Nat} {es : List va_E} {pc n : Nat} {lv : List (Nat × Value)} {rest : List Value} {index : Nat} {v : Int64} (hd : decode cc pc = .ok (.ldc2_w index, 3)) (hn : pc + 3 = n) (hw : Cond.constantLong own index v ∈ TB) (k : Aw X ks es n lv (.long v :: rest)) : Aw X ks es pc lv rest := by
  subst hn
  obtain ⟨p, l, e, R, s, m, args, below, meth, c, D, A, nL', Q, kc, kn⟩ := X
  obtain ⟨hx, hb, hml, rfl, hown, hts, hK, hA, hlk, hfr, hlo, hWd, hkc, hkn⟩ := hX
  intro H locs ls hl hP hD hS hv
  exact lv_ldc2 hx hb hown (hts _ hw) hd (k H locs ls hl hP hD hS hv)
theorem r_iload {X : Cx} {cc : ByteArray} {nL d : Nat} {own : String} (hX : Ok X cc nL own d) {ks : List Nat} {es : List va_E} {pc n : Nat} {lv : List (Nat × Value)} {rest : List Value} {i : Nat} {x : Int32} (hd : decode cc pc = .ok (.iload i, 2)) (hn : pc + 2 = n) (q : Nat) (hq : lv[q]? = some (i, .int x)) (k : Aw X ks es n lv (.int x :: rest)) : Aw X ks es pc lv rest := by
  subst hn
  obtain ⟨p, l, e, R, s, m, args, below, meth, c, D, A, nL', Q, kc, kn⟩ := X
  obtain ⟨hx, hb, hml, rfl, hown, hts, hK, hA, hlk, hfr, hlo, hWd, hkc, hkn⟩ := hX
  intro H locs ls hl hP hD hS hv
  exact lv_iload hx hb hd (lv_at hv q hq) (k H locs ls hl hP hD hS hv)
theorem r_iload_n {X : Cx} {cc : ByteArray} {nL d : Nat} {own : String} (hX : Ok X cc nL own d) {ks : List Nat} {es : List va_E} {pc n : Nat} {lv : List (Nat × Value)} {rest : List Value} {j : Fin 4} {i : Nat} {x : Int32} (hd : decode cc pc = .ok (.iload_n j, 1)) (hn : pc + 1 = n) (hi : (j : Nat) = i) (q : Nat) (hq : lv[q]? = some (i, .int x)) (k : Aw X ks es n lv (.int x :: rest)) : Aw X ks es pc lv rest := by
  subst hn
  obtain ⟨p, l, e, R, s, m, args, below, meth, c, D, A, nL', Q, kc, kn⟩ := X
  obtain ⟨hx, hb, hml, rfl, hown, hts, hK, hA, hlk, hfr, hlo, hWd, hkc, hkn⟩ := hX
  intro H locs ls hl hP hD hS hv
  exact lv_iload_n hx hb hd hi (lv_at hv q hq) (k H locs ls hl hP hD hS hv)
theorem r_istore {X : Cx} {cc : ByteArray} {nL d : Nat} {own : String} (hX : Ok X cc nL own d) {ks : List Nat} {es : List va_E} {pc n : Nat} {lv : List (Nat × Value)} {rest : List Value} {i : Nat} {x : Int32} (lv' : List (Nat × Value)) (hd : decode cc pc = .ok (.istore i, 2)) (hn : pc + 2 = n) (hi : i < nL) (he : ls1 lv i (.int x) = lv') (k : Aw X ks es n lv' rest) : Aw X ks es pc lv (.int x :: rest) := by
  subst hn
  obtain ⟨p, l, e, R, s, m, args, below, meth, c, D, A, nL', Q, kc, kn⟩ := X
  obtain ⟨hx, hb, hml, rfl, hown, hts, hK, hA, hlk, hfr, hlo, hWd, hkc, hkn⟩ := hX
  intro H locs ls hl hP hD hS hv
  subst he
  exact lv_istore hx hb hd hv hi rfl (fun ls2' hv2 => k H locs ls2' hl hP hD hS (lv_mono hv2 (fun q hq => lins_mem hq)))
theorem r_istore_n {X : Cx} {cc : ByteArray} {nL d : Nat} {own : String} (hX : Ok X cc nL own d) {ks : List Nat} {es : List va_E} {pc n : Nat} {lv : List (Nat × Value)} {rest : List Value} {j : Fin 4} {i : Nat} {x : Int32} (lv' : List (Nat × Value)) (hd : decode cc pc = .ok (.istore_n j, 1)) (hn : pc + 1 = n) (hj : (j : Nat) = i) (hi : i < nL) (he : ls1 lv i (.int x) = lv') (k : Aw X ks es n lv' rest) : Aw X ks es pc lv (.int x :: rest) := by
  subst hn
  obtain ⟨p, l, e, R, s, m, args, below, meth, c, D, A, nL', Q, kc, kn⟩ := X
  obtain ⟨hx, hb, hml, rfl, hown, hts, hK, hA, hlk, hfr, hlo, hWd, hkc, hkn⟩ := hX
  intro H locs ls hl hP hD hS hv
  subst he
  exact lv_istore_n hx hb hd hj hv hi rfl (fun ls2' hv2 => k H locs ls2' hl hP hD hS (lv_mono hv2 (fun q hq => lins_mem hq)))
theorem r_lload {X : Cx} {cc : ByteArray} {nL d : Nat} {own : String} (hX : Ok X cc nL own d) {ks : List Nat} {es : List va_E} {pc n : Nat} {lv : List (Nat × Value)} {rest : List Value} {i : Nat} {x : Int64} (hd : decode cc pc = .ok (.lload i, 2)) (hn : pc + 2 = n) (q : Nat) (hq : lv[q]? = some (i, .long x)) (k : Aw X ks es n lv (.long x :: rest)) : Aw X ks es pc lv rest := by
  subst hn
  obtain ⟨p, l, e, R, s, m, args, below, meth, c, D, A, nL', Q, kc, kn⟩ := X
  obtain ⟨hx, hb, hml, rfl, hown, hts, hK, hA, hlk, hfr, hlo, hWd, hkc, hkn⟩ := hX
  intro H locs ls hl hP hD hS hv
  exact lv_lload hx hb hd (lv_at hv q hq) (k H locs ls hl hP hD hS hv)
theorem r_lload_n {X : Cx} {cc : ByteArray} {nL d : Nat} {own : String} (hX : Ok X cc nL own d) {ks : List Nat} {es : List va_E} {pc n : Nat} {lv : List (Nat × Value)} {rest : List Value} {j : Fin 4} {i : Nat} {x : Int64} (hd : decode cc pc = .ok (.lload_n j, 1)) (hn : pc + 1 = n) (hi : (j : Nat) = i) (q : Nat) (hq : lv[q]? = some (i, .long x)) (k : Aw X ks es n lv (.long x :: rest)) : Aw X ks es pc lv rest := by
  subst hn
  obtain ⟨p, l, e, R, s, m, args, below, meth, c, D, A, nL', Q, kc, kn⟩ := X
  obtain ⟨hx, hb, hml, rfl, hown, hts, hK, hA, hlk, hfr, hlo, hWd, hkc, hkn⟩ := hX
  intro H locs ls hl hP hD hS hv
  exact lv_lload_n hx hb hd hi (lv_at hv q hq) (k H locs ls hl hP hD hS hv)
theorem r_lstore {X : Cx} {cc : ByteArray} {nL d : Nat} {own : String} (hX : Ok X cc nL own d) {ks : List Nat} {es : List va_E} {pc n : Nat} {lv : List (Nat × Value)} {rest : List Value} {i : Nat} {x : Int64} (lv' : List (Nat × Value)) (hd : decode cc pc = .ok (.lstore i, 2)) (hn : pc + 2 = n) (hi : i + 1 < nL) (he : ls2 lv i (.long x) = lv') (k : Aw X ks es n lv' rest) : Aw X ks es pc lv (.long x :: rest) := by
  subst hn
  obtain ⟨p, l, e, R, s, m, args, below, meth, c, D, A, nL', Q, kc, kn⟩ := X
  obtain ⟨hx, hb, hml, rfl, hown, hts, hK, hA, hlk, hfr, hlo, hWd, hkc, hkn⟩ := hX
  intro H locs ls hl hP hD hS hv
  subst he
  exact lv_lstore hx hb hd hv hi rfl (fun ls2' hv2 => k H locs ls2' hl hP hD hS (lv_mono hv2 (fun q hq => lins_mem hq)))
theorem r_lstore_n {X : Cx} {cc : ByteArray} {nL d : Nat} {own : String} (hX : Ok X cc nL own d) {ks : List Nat} {es : List va_E} {pc n : Nat} {lv : List (Nat × Value)} {rest : List Value} {j : Fin 4} {i : Nat} {x : Int64} (lv' : List (Nat × Value)) (hd : decode cc pc = .ok (.lstore_n j, 1)) (hn : pc + 1 = n) (hj : (j : Nat) = i) (hi : i + 1 < nL) (he : ls2 lv i (.long x) = lv') (k : Aw X ks es n lv' rest) : Aw X ks es pc lv (.long x :: rest) := by
  subst hn
  obtain ⟨p, l, e, R, s, m, args, below, meth, c, D, A, nL', Q, kc, kn⟩ := X
  obtain ⟨hx, hb, hml, rfl, hown, hts, hK, hA, hlk, hfr, hlo, hWd, hkc, hkn⟩ := hX
  intro H locs ls hl hP hD hS hv
  subst he
  exact lv_lstore_n hx hb hd hj hv hi rfl (fun ls2' hv2 => k H locs ls2' hl hP hD hS (lv_mono hv2 (fun q hq => lins_mem hq)))
theorem r_aload {X : Cx} {cc : ByteArray} {nL d : Nat} {own : String} (hX : Ok X cc nL own d) {ks : List Nat} {es : List va_E} {pc n : Nat} {lv : List (Nat × Value)} {rest : List Value} {i : Nat} {x : Nat} (hd : decode cc pc = .ok (.aload i, 2)) (hn : pc + 2 = n) (q : Nat) (hq : lv[q]? = some (i, .ref x)) (k : Aw X ks es n lv (.ref x :: rest)) : Aw X ks es pc lv rest := by
  subst hn
  obtain ⟨p, l, e, R, s, m, args, below, meth, c, D, A, nL', Q, kc, kn⟩ := X
  obtain ⟨hx, hb, hml, rfl, hown, hts, hK, hA, hlk, hfr, hlo, hWd, hkc, hkn⟩ := hX
  intro H locs ls hl hP hD hS hv
  exact lv_aload hx hb hd (lv_at hv q hq) (k H locs ls hl hP hD hS hv)
theorem r_aload_n {X : Cx} {cc : ByteArray} {nL d : Nat} {own : String} (hX : Ok X cc nL own d) {ks : List Nat} {es : List va_E} {pc n : Nat} {lv : List (Nat × Value)} {rest : List Value} {j : Fin 4} {i : Nat} {x : Nat} (hd : decode cc pc = .ok (.aload_n j, 1)) (hn : pc + 1 = n) (hi : (j : Nat) = i) (q : Nat) (hq : lv[q]? = some (i, .ref x)) (k : Aw X ks es n lv (.ref x :: rest)) : Aw X ks es pc lv rest := by
  subst hn
  obtain ⟨p, l, e, R, s, m, args, below, meth, c, D, A, nL', Q, kc, kn⟩ := X
  obtain ⟨hx, hb, hml, rfl, hown, hts, hK, hA, hlk, hfr, hlo, hWd, hkc, hkn⟩ := hX
  intro H locs ls hl hP hD hS hv
  exact lv_aload_n hx hb hd hi (lv_at hv q hq) (k H locs ls hl hP hD hS hv)
theorem r_astore {X : Cx} {cc : ByteArray} {nL d : Nat} {own : String} (hX : Ok X cc nL own d) {ks : List Nat} {es : List va_E} {pc n : Nat} {lv : List (Nat × Value)} {rest : List Value} {i : Nat} {x : Nat} (lv' : List (Nat × Value)) (hd : decode cc pc = .ok (.astore i, 2)) (hn : pc + 2 = n) (hi : i < nL) (he : ls1 lv i (.ref x) = lv') (k : Aw X ks es n lv' rest) : Aw X ks es pc lv (.ref x :: rest) := by
  subst hn
  obtain ⟨p, l, e, R, s, m, args, below, meth, c, D, A, nL', Q, kc, kn⟩ := X
  obtain ⟨hx, hb, hml, rfl, hown, hts, hK, hA, hlk, hfr, hlo, hWd, hkc, hkn⟩ := hX
  intro H locs ls hl hP hD hS hv
  subst he
  exact lv_astore hx hb hd hv hi rfl (fun ls2' hv2 => k H locs ls2' hl hP hD hS (lv_mono hv2 (fun q hq => lins_mem hq)))
theorem r_astore_n {X : Cx} {cc : ByteArray} {nL d : Nat} {own : String} (hX : Ok X cc nL own d) {ks : List Nat} {es : List va_E} {pc n : Nat} {lv : List (Nat × Value)} {rest : List Value} {j : Fin 4} {i : Nat} {x : Nat} (lv' : List (Nat × Value)) (hd : decode cc pc = .ok (.astore_n j, 1)) (hn : pc + 1 = n) (hj : (j : Nat) = i) (hi : i < nL) (he : ls1 lv i (.ref x) = lv') (k : Aw X ks es n lv' rest) : Aw X ks es pc lv (.ref x :: rest) := by
  subst hn
  obtain ⟨p, l, e, R, s, m, args, below, meth, c, D, A, nL', Q, kc, kn⟩ := X
  obtain ⟨hx, hb, hml, rfl, hown, hts, hK, hA, hlk, hfr, hlo, hWd, hkc, hkn⟩ := hX
  intro H locs ls hl hP hD hS hv
  subst he
  exact lv_astore_n hx hb hd hj hv hi rfl (fun ls2' hv2 => k H locs ls2' hl hP hD hS (lv_mono hv2 (fun q hq => lins_mem hq)))
theorem r_iinc {X : Cx} {cc : ByteArray} {nL d : Nat} {own : String} (hX : Ok X cc nL own d) {ks : List Nat} {es : List va_E} {pc n : Nat} {lv : List (Nat × Value)} {rest : List Value} {i : Nat} {z : Int} {x : Int32} (v : Int32) (lv' : List (Nat × Value)) (hd : decode cc pc = .ok (.iinc i z, 3)) (hn : pc + 3 = n) (q : Nat) (hq : lv[q]? = some (i, .int x)) (hz : x + Int32.ofInt z = v) (hi : i < nL) (he : ls1 lv i (.int v) = lv') (k : Aw X ks es n lv' rest) : Aw X ks es pc lv rest := by
  subst hn
  obtain ⟨p, l, e, R, s, m, args, below, meth, c, D, A, nL', Q, kc, kn⟩ := X
  obtain ⟨hx, hb, hml, rfl, hown, hts, hK, hA, hlk, hfr, hlo, hWd, hkc, hkn⟩ := hX
  intro H locs ls hl hP hD hS hv
  subst he
  exact lv_iinc hx hb hd hv hq hz hi rfl (fun ls2' hv2 => k H locs ls2' hl hP hD hS (lv_mono hv2 (fun q hq => lins_mem hq)))
theorem r_if_eq {X : Cx} {cc : ByteArray} {nL d : Nat} {own : String} (hX : Ok X cc nL own d) {ks : List Nat} {es : List va_E} {pc tgt : Nat} {lv : List (Nat × Value)} {rest : List Value} {off : Int} {n : Nat} {x : Int32} (hd : decode cc pc = .ok (.ifCond .eq off, 3)) (ht : (pc : Int) + off = (tgt : Int)) (hn : pc + 3 = n) (kt : x = 0 → Aw X ks es tgt lv rest) (kf : ¬ x = 0 → Aw X ks es n lv rest) : Aw X ks es pc lv (.int x :: rest) := by
  subst hn
  obtain ⟨p, l, e, R, s, m, args, below, meth, c, D, A, nL', Q, kc, kn⟩ := X
  obtain ⟨hx, hb, hml, rfl, hown, hts, hK, hA, hlk, hfr, hlo, hWd, hkc, hkn⟩ := hX
  intro H locs ls hl hP hD hS hv
  exact lv_if_eq hx hb hd ht (fun h => kt h H locs ls hl hP hD hS hv) (fun h => kf h H locs ls hl hP hD hS hv)
theorem r_if_ne {X : Cx} {cc : ByteArray} {nL d : Nat} {own : String} (hX : Ok X cc nL own d) {ks : List Nat} {es : List va_E} {pc tgt : Nat} {lv : List (Nat × Value)} {rest : List Value} {off : Int} {n : Nat} {x : Int32} (hd : decode cc pc = .ok (.ifCond .ne off, 3)) (ht : (pc : Int) + off = (tgt : Int)) (hn : pc + 3 = n) (kt : ¬ x = 0 → Aw X ks es tgt lv rest) (kf : x = 0 → Aw X ks es n lv rest) : Aw X ks es pc lv (.int x :: rest) := by
  subst hn
  obtain ⟨p, l, e, R, s, m, args, below, meth, c, D, A, nL', Q, kc, kn⟩ := X
  obtain ⟨hx, hb, hml, rfl, hown, hts, hK, hA, hlk, hfr, hlo, hWd, hkc, hkn⟩ := hX
  intro H locs ls hl hP hD hS hv
  exact lv_if_ne hx hb hd ht (fun h => kt h H locs ls hl hP hD hS hv) (fun h => kf h H locs ls hl hP hD hS hv)
theorem r_if_lt {X : Cx} {cc : ByteArray} {nL d : Nat} {own : String} (hX : Ok X cc nL own d) {ks : List Nat} {es : List va_E} {pc tgt : Nat} {lv : List (Nat × Value)} {rest : List Value} {off : Int} {n : Nat} {x : Int32} (hd : decode cc pc = .ok (.ifCond .lt off, 3)) (ht : (pc : Int) + off = (tgt : Int)) (hn : pc + 3 = n) (kt : x < 0 → Aw X ks es tgt lv rest) (kf : ¬ x < 0 → Aw X ks es n lv rest) : Aw X ks es pc lv (.int x :: rest) := by
  subst hn
  obtain ⟨p, l, e, R, s, m, args, below, meth, c, D, A, nL', Q, kc, kn⟩ := X
  obtain ⟨hx, hb, hml, rfl, hown, hts, hK, hA, hlk, hfr, hlo, hWd, hkc, hkn⟩ := hX
  intro H locs ls hl hP hD hS hv
  exact lv_if_lt hx hb hd ht (fun h => kt h H locs ls hl hP hD hS hv) (fun h => kf h H locs ls hl hP hD hS hv)
theorem r_if_ge {X : Cx} {cc : ByteArray} {nL d : Nat} {own : String} (hX : Ok X cc nL own d) {ks : List Nat} {es : List va_E} {pc tgt : Nat} {lv : List (Nat × Value)} {rest : List Value} {off : Int} {n : Nat} {x : Int32} (hd : decode cc pc = .ok (.ifCond .ge off, 3)) (ht : (pc : Int) + off = (tgt : Int)) (hn : pc + 3 = n) (kt : 0 ≤ x → Aw X ks es tgt lv rest) (kf : ¬ 0 ≤ x → Aw X ks es n lv rest) : Aw X ks es pc lv (.int x :: rest) := by
  subst hn
  obtain ⟨p, l, e, R, s, m, args, below, meth, c, D, A, nL', Q, kc, kn⟩ := X
  obtain ⟨hx, hb, hml, rfl, hown, hts, hK, hA, hlk, hfr, hlo, hWd, hkc, hkn⟩ := hX
  intro H locs ls hl hP hD hS hv
  exact lv_if_ge hx hb hd ht (fun h => kt h H locs ls hl hP hD hS hv) (fun h => kf h H locs ls hl hP hD hS hv)
theorem r_if_gt {X : Cx} {cc : ByteArray} {nL d : Nat} {own : String} (hX : Ok X cc nL own d) {ks : List Nat} {es : List va_E} {pc tgt : Nat} {lv : List (Nat × Value)} {rest : List Value} {off : Int} {n : Nat} {x : Int32} (hd : decode cc pc = .ok (.ifCond .gt off, 3)) (ht : (pc : Int) + off = (tgt : Int)) (hn : pc + 3 = n) (kt : 0 < x → Aw X ks es tgt lv rest) (kf : ¬ 0 < x → Aw X ks es n lv rest) : Aw X ks es pc lv (.int x :: rest) := by
  subst hn
  obtain ⟨p, l, e, R, s, m, args, below, meth, c, D, A, nL', Q, kc, kn⟩ := X
  obtain ⟨hx, hb, hml, rfl, hown, hts, hK, hA, hlk, hfr, hlo, hWd, hkc, hkn⟩ := hX
  intro H locs ls hl hP hD hS hv
  exact lv_if_gt hx hb hd ht (fun h => kt h H locs ls hl hP hD hS hv) (fun h => kf h H locs ls hl hP hD hS hv)
theorem r_if_le {X : Cx} {cc : ByteArray} {nL d : Nat} {own : String} (hX : Ok X cc nL own d) {ks : List Nat} {es : List va_E} {pc tgt : Nat} {lv : List (Nat × Value)} {rest : List Value} {off : Int} {n : Nat} {x : Int32} (hd : decode cc pc = .ok (.ifCond .le off, 3)) (ht : (pc : Int) + off = (tgt : Int)) (hn : pc + 3 = n) (kt : x ≤ 0 → Aw X ks es tgt lv rest) (kf : ¬ x ≤ 0 → Aw X ks es n lv rest) : Aw X ks es pc lv (.int x :: rest) := by
  subst hn
  obtain ⟨p, l, e, R, s, m, args, below, meth, c, D, A, nL', Q, kc, kn⟩ := X
  obtain ⟨hx, hb, hml, rfl, hown, hts, hK, hA, hlk, hfr, hlo, hWd, hkc, hkn⟩ := hX
  intro H locs ls hl hP hD hS hv
  exact lv_if_le hx hb hd ht (fun h => kt h H locs ls hl hP hD hS hv) (fun h => kf h H locs ls hl hP hD hS hv)
theorem r_icmp_eq {X : Cx} {cc : ByteArray} {nL d : Nat} {own : String} (hX : Ok X cc nL own d) {ks : List Nat} {es : List va_E} {pc tgt : Nat} {lv : List (Nat × Value)} {rest : List Value} {off : Int} {n : Nat} {x y : Int32} (hd : decode cc pc = .ok (.if_icmp .eq off, 3)) (ht : (pc : Int) + off = (tgt : Int)) (hn : pc + 3 = n) (kt : x = y → Aw X ks es tgt lv rest) (kf : ¬ x = y → Aw X ks es n lv rest) : Aw X ks es pc lv (.int y :: .int x :: rest) := by
  subst hn
  obtain ⟨p, l, e, R, s, m, args, below, meth, c, D, A, nL', Q, kc, kn⟩ := X
  obtain ⟨hx, hb, hml, rfl, hown, hts, hK, hA, hlk, hfr, hlo, hWd, hkc, hkn⟩ := hX
  intro H locs ls hl hP hD hS hv
  exact lv_icmp_eq hx hb hd ht (fun h => kt h H locs ls hl hP hD hS hv) (fun h => kf h H locs ls hl hP hD hS hv)
theorem r_icmp_ne {X : Cx} {cc : ByteArray} {nL d : Nat} {own : String} (hX : Ok X cc nL own d) {ks : List Nat} {es : List va_E} {pc tgt : Nat} {lv : List (Nat × Value)} {rest : List Value} {off : Int} {n : Nat} {x y : Int32} (hd : decode cc pc = .ok (.if_icmp .ne off, 3)) (ht : (pc : Int) + off = (tgt : Int)) (hn : pc + 3 = n) (kt : ¬ x = y → Aw X ks es tgt lv rest) (kf : x = y → Aw X ks es n lv rest) : Aw X ks es pc lv (.int y :: .int x :: rest) := by
  subst hn
  obtain ⟨p, l, e, R, s, m, args, below, meth, c, D, A, nL', Q, kc, kn⟩ := X
  obtain ⟨hx, hb, hml, rfl, hown, hts, hK, hA, hlk, hfr, hlo, hWd, hkc, hkn⟩ := hX
  intro H locs ls hl hP hD hS hv
  exact lv_icmp_ne hx hb hd ht (fun h => kt h H locs ls hl hP hD hS hv) (fun h => kf h H locs ls hl hP hD hS hv)
theorem r_icmp_lt {X : Cx} {cc : ByteArray} {nL d : Nat} {own : String} (hX : Ok X cc nL own d) {ks : List Nat} {es : List va_E} {pc tgt : Nat} {lv : List (Nat × Value)} {rest : List Value} {off : Int} {n : Nat} {x y : Int32} (hd : decode cc pc = .ok (.if_icmp .lt off, 3)) (ht : (pc : Int) + off = (tgt : Int)) (hn : pc + 3 = n) (kt : x < y → Aw X ks es tgt lv rest) (kf : ¬ x < y → Aw X ks es n lv rest) : Aw X ks es pc lv (.int y :: .int x :: rest) := by
  subst hn
  obtain ⟨p, l, e, R, s, m, args, below, meth, c, D, A, nL', Q, kc, kn⟩ := X
  obtain ⟨hx, hb, hml, rfl, hown, hts, hK, hA, hlk, hfr, hlo, hWd, hkc, hkn⟩ := hX
  intro H locs ls hl hP hD hS hv
  exact lv_icmp_lt hx hb hd ht (fun h => kt h H locs ls hl hP hD hS hv) (fun h => kf h H locs ls hl hP hD hS hv)
theorem r_icmp_ge {X : Cx} {cc : ByteArray} {nL d : Nat} {own : String} (hX : Ok X cc nL own d) {ks : List Nat} {es : List va_E} {pc tgt : Nat} {lv : List (Nat × Value)} {rest : List Value} {off : Int} {n : Nat} {x y : Int32} (hd : decode cc pc = .ok (.if_icmp .ge off, 3)) (ht : (pc : Int) + off = (tgt : Int)) (hn : pc + 3 = n) (kt : y ≤ x → Aw X ks es tgt lv rest) (kf : ¬ y ≤ x → Aw X ks es n lv rest) : Aw X ks es pc lv (.int y :: .int x :: rest) := by
  subst hn
  obtain ⟨p, l, e, R, s, m, args, below, meth, c, D, A, nL', Q, kc, kn⟩ := X
  obtain ⟨hx, hb, hml, rfl, hown, hts, hK, hA, hlk, hfr, hlo, hWd, hkc, hkn⟩ := hX
  intro H locs ls hl hP hD hS hv
  exact lv_icmp_ge hx hb hd ht (fun h => kt h H locs ls hl hP hD hS hv) (fun h => kf h H locs ls hl hP hD hS hv)
theorem r_icmp_gt {X : Cx} {cc : ByteArray} {nL d : Nat} {own : String} (hX : Ok X cc nL own d) {ks : List Nat} {es : List va_E} {pc tgt : Nat} {lv : List (Nat × Value)} {rest : List Value} {off : Int} {n : Nat} {x y : Int32} (hd : decode cc pc = .ok (.if_icmp .gt off, 3)) (ht : (pc : Int) + off = (tgt : Int)) (hn : pc + 3 = n) (kt : y < x → Aw X ks es tgt lv rest) (kf : ¬ y < x → Aw X ks es n lv rest) : Aw X ks es pc lv (.int y :: .int x :: rest) := by
  subst hn
  obtain ⟨p, l, e, R, s, m, args, below, meth, c, D, A, nL', Q, kc, kn⟩ := X
  obtain ⟨hx, hb, hml, rfl, hown, hts, hK, hA, hlk, hfr, hlo, hWd, hkc, hkn⟩ := hX
  intro H locs ls hl hP hD hS hv
  exact lv_icmp_gt hx hb hd ht (fun h => kt h H locs ls hl hP hD hS hv) (fun h => kf h H locs ls hl hP hD hS hv)
theorem r_icmp_le {X : Cx} {cc : ByteArray} {nL d : Nat} {own : String} (hX : Ok X cc nL own d) {ks : List Nat} {es : List va_E} {pc tgt : Nat} {lv : List (Nat × Value)} {rest : List Value} {off : Int} {n : Nat} {x y : Int32} (hd : decode cc pc = .ok (.if_icmp .le off, 3)) (ht : (pc : Int) + off = (tgt : Int)) (hn : pc + 3 = n) (kt : x ≤ y → Aw X ks es tgt lv rest) (kf : ¬ x ≤ y → Aw X ks es n lv rest) : Aw X ks es pc lv (.int y :: .int x :: rest) := by
  subst hn
  obtain ⟨p, l, e, R, s, m, args, below, meth, c, D, A, nL', Q, kc, kn⟩ := X
  obtain ⟨hx, hb, hml, rfl, hown, hts, hK, hA, hlk, hfr, hlo, hWd, hkc, hkn⟩ := hX
  intro H locs ls hl hP hD hS hv
  exact lv_icmp_le hx hb hd ht (fun h => kt h H locs ls hl hP hD hS hv) (fun h => kf h H locs ls hl hP hD hS hv)
theorem r_lif_eq {X : Cx} {cc : ByteArray} {nL d : Nat} {own : String} (hX : Ok X cc nL own d) {ks : List Nat} {es : List va_E} {pc tgt : Nat} {lv : List (Nat × Value)} {rest : List Value} {off : Int} {n n1 : Nat} {x y : Int64} (hd1 : decode cc pc = .ok (.lcmp, 1)) (hn1 : pc + 1 = n1) (hd : decode cc n1 = .ok (.ifCond .eq off, 3)) (ht : (n1 : Int) + off = (tgt : Int)) (hn : n1 + 3 = n) (kt : x = y → Aw X ks es tgt lv rest) (kf : ¬ x = y → Aw X ks es n lv rest) : Aw X ks es pc lv (.long y :: .long x :: rest) :=
  r_lcmp hX hd1 hn1 (r_if_eq hX hd ht hn (fun h => kt ((lg_cmp_eq x y).mp h)) (fun h => kf (fun z => h ((lg_cmp_eq x y).mpr z))))
theorem r_lif_ne {X : Cx} {cc : ByteArray} {nL d : Nat} {own : String} (hX : Ok X cc nL own d) {ks : List Nat} {es : List va_E} {pc tgt : Nat} {lv : List (Nat × Value)} {rest : List Value} {off : Int} {n n1 : Nat} {x y : Int64} (hd1 : decode cc pc = .ok (.lcmp, 1)) (hn1 : pc + 1 = n1) (hd : decode cc n1 = .ok (.ifCond .ne off, 3)) (ht : (n1 : Int) + off = (tgt : Int)) (hn : n1 + 3 = n) (kt : ¬ x = y → Aw X ks es tgt lv rest) (kf : x = y → Aw X ks es n lv rest) : Aw X ks es pc lv (.long y :: .long x :: rest) :=
  r_lcmp hX hd1 hn1 (r_if_ne hX hd ht hn (fun h => kt (fun z => h ((lg_cmp_eq x y).mpr z))) (fun h => kf ((lg_cmp_eq x y).mp h)))
theorem r_lif_lt {X : Cx} {cc : ByteArray} {nL d : Nat} {own : String} (hX : Ok X cc nL own d) {ks : List Nat} {es : List va_E} {pc tgt : Nat} {lv : List (Nat × Value)} {rest : List Value} {off : Int} {n n1 : Nat} {x y : Int64} (hd1 : decode cc pc = .ok (.lcmp, 1)) (hn1 : pc + 1 = n1) (hd : decode cc n1 = .ok (.ifCond .lt off, 3)) (ht : (n1 : Int) + off = (tgt : Int)) (hn : n1 + 3 = n) (kt : x < y → Aw X ks es tgt lv rest) (kf : ¬ x < y → Aw X ks es n lv rest) : Aw X ks es pc lv (.long y :: .long x :: rest) :=
  r_lcmp hX hd1 hn1 (r_if_lt hX hd ht hn (fun h => kt ((lg_cmp_lt x y).mp h)) (fun h => kf (fun z => h ((lg_cmp_lt x y).mpr z))))
theorem r_lif_ge {X : Cx} {cc : ByteArray} {nL d : Nat} {own : String} (hX : Ok X cc nL own d) {ks : List Nat} {es : List va_E} {pc tgt : Nat} {lv : List (Nat × Value)} {rest : List Value} {off : Int} {n n1 : Nat} {x y : Int64} (hd1 : decode cc pc = .ok (.lcmp, 1)) (hn1 : pc + 1 = n1) (hd : decode cc n1 = .ok (.ifCond .ge off, 3)) (ht : (n1 : Int) + off = (tgt : Int)) (hn : n1 + 3 = n) (kt : y ≤ x → Aw X ks es tgt lv rest) (kf : ¬ y ≤ x → Aw X ks es n lv rest) : Aw X ks es pc lv (.long y :: .long x :: rest) :=
  r_lcmp hX hd1 hn1 (r_if_ge hX hd ht hn (fun h => kt ((lg_cmp_ge x y).mp h)) (fun h => kf (fun z => h ((lg_cmp_ge x y).mpr z))))
theorem r_lif_gt {X : Cx} {cc : ByteArray} {nL d : Nat} {own : String} (hX : Ok X cc nL own d) {ks : List Nat} {es : List va_E} {pc tgt : Nat} {lv : List (Nat × Value)} {rest : List Value} {off : Int} {n n1 : Nat} {x y : Int64} (hd1 : decode cc pc = .ok (.lcmp, 1)) (hn1 : pc + 1 = n1) (hd : decode cc n1 = .ok (.ifCond .gt off, 3)) (ht : (n1 : Int) + off = (tgt : Int)) (hn : n1 + 3 = n) (kt : y < x → Aw X ks es tgt lv rest) (kf : ¬ y < x → Aw X ks es n lv rest) : Aw X ks es pc lv (.long y :: .long x :: rest) :=
  r_lcmp hX hd1 hn1 (r_if_gt hX hd ht hn (fun h => kt ((lg_cmp_gt x y).mp h)) (fun h => kf (fun z => h ((lg_cmp_gt x y).mpr z))))
theorem r_lif_le {X : Cx} {cc : ByteArray} {nL d : Nat} {own : String} (hX : Ok X cc nL own d) {ks : List Nat} {es : List va_E} {pc tgt : Nat} {lv : List (Nat × Value)} {rest : List Value} {off : Int} {n n1 : Nat} {x y : Int64} (hd1 : decode cc pc = .ok (.lcmp, 1)) (hn1 : pc + 1 = n1) (hd : decode cc n1 = .ok (.ifCond .le off, 3)) (ht : (n1 : Int) + off = (tgt : Int)) (hn : n1 + 3 = n) (kt : x ≤ y → Aw X ks es tgt lv rest) (kf : ¬ x ≤ y → Aw X ks es n lv rest) : Aw X ks es pc lv (.long y :: .long x :: rest) :=
  r_lcmp hX hd1 hn1 (r_if_le hX hd ht hn (fun h => kt ((lg_cmp_le x y).mp h)) (fun h => kf (fun z => h ((lg_cmp_le x y).mpr z))))
theorem r_goto {X : Cx} {cc : ByteArray} {nL d : Nat} {own : String} (hX : Ok X cc nL own d) {ks : List Nat} {es : List va_E} {pc tgt : Nat} {lv : List (Nat × Value)} {rest : List Value} {off : Int} (hd : decode cc pc = .ok (.goto off, 3)) (ht : (pc : Int) + off = (tgt : Int)) (k : Aw X ks es tgt lv rest) : Aw X ks es pc lv rest := by
  obtain ⟨p, l, e, R, s, m, args, below, meth, c, D, A, nL', Q, kc, kn⟩ := X
  obtain ⟨hx, hb, hml, rfl, hown, hts, hK, hA, hlk, hfr, hlo, hWd, hkc, hkn⟩ := hX
  intro H locs ls hl hP hD hS hv
  exact lv_goto hx hb hd ht (k H locs ls hl hP hD hS hv)
theorem r_ifnull {X : Cx} {cc : ByteArray} {nL d : Nat} {own : String} (hX : Ok X cc nL own d) {ks : List Nat} {es : List va_E} {pc n : Nat} {lv : List (Nat × Value)} {rest : List Value} {off : Int} {x : Nat} (hd : decode cc pc = .ok (.ifnull off, 3)) (hn : pc + 3 = n) (k : Aw X ks es n lv rest) : Aw X ks es pc lv (.ref x :: rest) := by
  subst hn
  obtain ⟨p, l, e, R, s, m, args, below, meth, c, D, A, nL', Q, kc, kn⟩ := X
  obtain ⟨hx, hb, hml, rfl, hown, hts, hK, hA, hlk, hfr, hlo, hWd, hkc, hkn⟩ := hX
  intro H locs ls hl hP hD hS hv
  exact lv_ifnull hx hb hd (k H locs ls hl hP hD hS hv)
theorem r_ifnullN {X : Cx} {cc : ByteArray} {nL d : Nat} {own : String} (hX : Ok X cc nL own d) {ks : List Nat} {es : List va_E} {pc tgt : Nat} {lv : List (Nat × Value)} {rest : List Value} {off : Int} (hd : decode cc pc = .ok (.ifnull off, 3)) (ht : (pc : Int) + off = (tgt : Int)) (k : Aw X ks es tgt lv rest) : Aw X ks es pc lv (.null :: rest) := by
  obtain ⟨p, l, e, R, s, m, args, below, meth, c, D, A, nL', Q, kc, kn⟩ := X
  obtain ⟨hx, hb, hml, rfl, hown, hts, hK, hA, hlk, hfr, hlo, hWd, hkc, hkn⟩ := hX
  intro H locs ls hl hP hD hS hv
  exact lv_ifnullN hx hb hd ht (k H locs ls hl hP hD hS hv)
theorem r_ifnonnull {X : Cx} {cc : ByteArray} {nL d : Nat} {own : String} (hX : Ok X cc nL own d) {ks : List Nat} {es : List va_E} {pc tgt : Nat} {lv : List (Nat × Value)} {rest : List Value} {off : Int} {x : Nat} (hd : decode cc pc = .ok (.ifnonnull off, 3)) (ht : (pc : Int) + off = (tgt : Int)) (k : Aw X ks es tgt lv rest) : Aw X ks es pc lv (.ref x :: rest) := by
  obtain ⟨p, l, e, R, s, m, args, below, meth, c, D, A, nL', Q, kc, kn⟩ := X
  obtain ⟨hx, hb, hml, rfl, hown, hts, hK, hA, hlk, hfr, hlo, hWd, hkc, hkn⟩ := hX
  intro H locs ls hl hP hD hS hv
  exact lv_ifnonnull hx hb hd ht (k H locs ls hl hP hD hS hv)
theorem r_ifnonnullN {X : Cx} {cc : ByteArray} {nL d : Nat} {own : String} (hX : Ok X cc nL own d) {ks : List Nat} {es : List va_E} {pc n : Nat} {lv : List (Nat × Value)} {rest : List Value} {off : Int} (hd : decode cc pc = .ok (.ifnonnull off, 3)) (hn : pc + 3 = n) (k : Aw X ks es n lv rest) : Aw X ks es pc lv (.null :: rest) := by
  subst hn
  obtain ⟨p, l, e, R, s, m, args, below, meth, c, D, A, nL', Q, kc, kn⟩ := X
  obtain ⟨hx, hb, hml, rfl, hown, hts, hK, hA, hlk, hfr, hlo, hWd, hkc, hkn⟩ := hX
  intro H locs ls hl hP hD hS hv
  exact lv_ifnonnullN hx hb hd (k H locs ls hl hP hD hS hv)
theorem r_tabIn {X : Cx} {cc : ByteArray} {nL d : Nat} {own : String} (hX : Ok X cc nL own d) {ks : List Nat} {es : List va_E} {pc tgt : Nat} {lv : List (Nat × Value)} {rest : List Value} {dflt lo hi off : Int} {offs : Array Int} {len : Nat} {x : Int32} (hd : decode cc pc = .ok (.tableswitch dflt lo hi offs, len)) (h1 : ¬ x.toInt < lo) (h2 : ¬ hi < x.toInt) (ho : offs[(x.toInt - lo).toNat]? = some off) (ht : (pc : Int) + off = (tgt : Int)) (k : Aw X ks es tgt lv rest) : Aw X ks es pc lv (.int x :: rest) := by
  obtain ⟨p, l, e, R, s, m, args, below, meth, c, D, A, nL', Q, kc, kn⟩ := X
  obtain ⟨hx, hb, hml, rfl, hown, hts, hK, hA, hlk, hfr, hlo, hWd, hkc, hkn⟩ := hX
  intro H locs ls hl hP hD hS hv
  exact lv_tableIn hx hb hd h1 h2 ho ht (k H locs ls hl hP hD hS hv)
theorem r_tabOut {X : Cx} {cc : ByteArray} {nL d : Nat} {own : String} (hX : Ok X cc nL own d) {ks : List Nat} {es : List va_E} {pc tgt : Nat} {lv : List (Nat × Value)} {rest : List Value} {dflt lo hi : Int} {offs : Array Int} {len : Nat} {x : Int32} (hd : decode cc pc = .ok (.tableswitch dflt lo hi offs, len)) (h : x.toInt < lo ∨ hi < x.toInt) (ht : (pc : Int) + dflt = (tgt : Int)) (k : Aw X ks es tgt lv rest) : Aw X ks es pc lv (.int x :: rest) := by
  obtain ⟨p, l, e, R, s, m, args, below, meth, c, D, A, nL', Q, kc, kn⟩ := X
  obtain ⟨hx, hb, hml, rfl, hown, hts, hK, hA, hlk, hfr, hlo, hWd, hkc, hkn⟩ := hX
  intro H locs ls hl hP hD hS hv
  exact lv_tableOut hx hb hd h ht (k H locs ls hl hP hD hS hv)
theorem r_lookup {X : Cx} {cc : ByteArray} {nL d : Nat} {own : String} (hX : Ok X cc nL own d) {ks : List Nat} {es : List va_E} {pc tgt : Nat} {lv : List (Nat × Value)} {rest : List Value} {dflt off : Int} {ps : Array (Int × Int)} {len : Nat} {x : Int32} (hd : decode cc pc = .ok (.lookupswitch dflt ps, len)) (hp : (ps.toList.zip (ps.toList.drop 1)).all (fun (a, next) => a.1 < next.1) = true) (ho : Op.lookupswitch.offset ps.toList dflt x.toInt = off) (ht : (pc : Int) + off = (tgt : Int)) (k : Aw X ks es tgt lv rest) : Aw X ks es pc lv (.int x :: rest) := by
  obtain ⟨p, l, e, R, s, m, args, below, meth, c, D, A, nL', Q, kc, kn⟩ := X
  obtain ⟨hx, hb, hml, rfl, hown, hts, hK, hA, hlk, hfr, hlo, hWd, hkc, hkn⟩ := hX
  intro H locs ls hl hP hD hS hv
  exact lv_lookup hx hb hd hp ho ht (k H locs ls hl hP hD hS hv)

theorem Aw.topi {X : Cx} {ks : List Nat} {es : List va_E} {pc : Nat} {lv : List (Nat × Value)} {rest : List Value} {x : Int32} (y : Int32) (h : x = y) (k : Aw X ks es pc lv (.int y :: rest)) : Aw X ks es pc lv (.int x :: rest) := h ▸ k
theorem Aw.topl {X : Cx} {ks : List Nat} {es : List va_E} {pc : Nat} {lv : List (Nat × Value)} {rest : List Value} {x : Int64} (y : Int64) (h : x = y) (k : Aw X ks es pc lv (.long y :: rest)) : Aw X ks es pc lv (.long x :: rest) := h ▸ k
theorem Aw.eqs {X : Cx} {ks : List Nat} {es es' : List va_E} {pc : Nat} {lv lv' : List (Nat × Value)} {st st' : List Value} (he : es = es') (hl : lv = lv') (hs : st = st') (k : Aw X ks es' pc lv' st') : Aw X ks es pc lv st := by subst he; subst hl; subst hs; exact k
theorem Aw.loc {X : Cx} {ks : List Nat} {es : List va_E} {pc : Nat} {lv lv' : List (Nat × Value)} {st : List Value} (is : List Nat) (h : lv_pick lv is = lv') (k : Aw X ks es pc lv' st) : Aw X ks es pc lv st := by
  obtain ⟨p, l, e, R, s, m, args, below, meth, c, D, A, nL', Q, kc, kn⟩ := X
  intro H locs ls hl hP hD hS hv
  exact k H locs ls hl hP hD hS (lv_sub hv is h)

theorem r_get {X : Cx} {cc : ByteArray} {nL d : Nat} {own : String} (hX : Ok X cc nL own d) {ks : List Nat} {es : List va_E} {pc n : Nat} {lv : List (Nat × Value)} {rest : List Value} {C : String} {T : u_T} {N ci index : Nat} {a : Nat} {fs : List Value} {v : Value} (q : Nat) (hk : ks[q]? = some a) (he : es[q]? = some (.inr (ci, fs))) (hc : vwCl[ci]? = some (C, T, N)) (j : Nat) (hj : j < N) (hin : ∀ w ∈ u_ws C T N, w ∈ TB) (hw : Cond.fieldLink own index (T j).1 (T j).2.1 (T j).2.2.1 ∈ TB) (hv0 : fs[j]? = some v) (hd : decode cc pc = .ok (.getfield index, 3)) (hn : pc + 3 = n) (k : Aw X ks es n lv (v :: rest)) : Aw X ks es pc lv (.ref a :: rest) := by
  subst hn
  obtain ⟨p, l, e, R, s, m, args, below, meth, c, D, A, nL', Q, kc, kn⟩ := X
  obtain ⟨hx, hb, hml, rfl, hown, hts, hK, hA, hlk, hfr, hlo, hWd, hkc, hkn⟩ := hX
  intro H locs ls hl hP hD hS hv
  exact va_get hx hb hts hin hown hK hP q (zip_at hk he) hc j hj (hts _ hw) (fun _ h => h) hv0 hd (k H locs ls hl hP hD hS hv)
theorem r_put {X : Cx} {cc : ByteArray} {nL d : Nat} {own : String} (hX : Ok X cc nL own d) {ks : List Nat} {es : List va_E} {pc n : Nat} {lv : List (Nat × Value)} {rest : List Value} {C : String} {T : u_T} {N ci index : Nat} {a : Nat} {fs : List Value} {v : Value} (q : Nat) (hk : ks[q]? = some a) (he : es[q]? = some (.inr (ci, fs))) (hc : vwCl[ci]? = some (C, T, N)) (j : Nat) (es' : List va_E) (hj : j < N) (hin : ∀ w ∈ u_ws C T N, w ∈ TB) (ty0 : Nat → FieldType) (hty : ∀ k, k < N → parseFieldDescriptor (T k).2.2.1 = some (ty0 k)) (hnm : ∀ a, a < N → ∀ b, b < N → a ≠ b → (T a).2.1 ≠ (T b).2.1) (hw : Cond.fieldLink own index (T j).1 (T j).2.1 (T j).2.2.1 ∈ TB) (hfin : (T j).2.2.2 = false) (hnar : narrow (ty0 j) v = v) (hfit : fits (ty0 j) v = true) (hlen : j < fs.length) (hes : es.set q (.inr (ci, fs.set j v)) = es') (hd : decode cc pc = .ok (.putfield index, 3)) (hn : pc + 3 = n) (k : Aw X ks es' n lv rest) : Aw X ks es pc lv (v :: .ref a :: rest) := by
  subst hn
  obtain ⟨p, l, e, R, s, m, args, below, meth, c, D, A, nL', Q, kc, kn⟩ := X
  obtain ⟨hx, hb, hml, rfl, hown, hts, hK, hA, hlk, hfr, hlo, hWd, hkc, hkn⟩ := hX
  intro H locs ls hl hP hD hS hv
  subst hes
  refine va_put hx hb hts hin ty0 hty hnm hown hK hP hD hS q (zip_at hk he) hc j hj (hts _ hw) (fun _ h => h) hfin (hty j hj) hnar hfit hlen hd (fun H1 locs1 hP1 hD1 hS1 => ?_)
  rw [zip_set hk] at hP1 hD1
  exact k H1 locs1 ls (by rw [List.length_set]; exact hl) hP1 hD1 hS1 hv
theorem r_iald {X : Cx} {cc : ByteArray} {nL d : Nat} {own : String} (hX : Ok X cc nL own d) {ks : List Nat} {es : List va_E} {pc n : Nat} {lv : List (Nat × Value)} {rest : List Value} {a m0 : Nat} (q : Nat) (hk : ks[q]? = some a) {f : Nat → Int32} (he : es[q]? = some (aI (CxD X) m0 f)) {i : Int32} (hin : vp_in i m0) (hd : decode cc pc = .ok (.iaload, 1)) (hn : pc + 1 = n) (k : Aw X ks es n lv (.int (f i.toNatClampNeg) :: rest)) : Aw X ks es pc lv (.int i :: .ref a :: rest) := by
  subst hn
  obtain ⟨p, l, e, R, s, m, args, below, meth, c, D, A, nL', Q, kc, kn⟩ := X
  obtain ⟨hx, hb, hml, rfl, hown, hts, hK, hA, hlk, hfr, hlo, hWd, hkc, hkn⟩ := hX
  intro H locs ls hl hP hD hS hv
  exact va_iald hx hb hK hP q 0 (zip_at hk he) rfl hin hd (k H locs ls hl hP hD hS hv)
theorem r_ialdn {X : Cx} {cc : ByteArray} {nL d : Nat} {own : String} (hX : Ok X cc nL own d) {ks : List Nat} {es : List va_E} {pc n : Nat} {lv : List (Nat × Value)} {rest : List Value} {a m0 : Nat} (q : Nat) (hk : ks[q]? = some a) {f : Nat → Int32} (he : es[q]? = some (aI (CxD X) m0 f)) {i : Nat} (hin : i < m0) (hm : m0 < 2 ^ 31) (hd : decode cc pc = .ok (.iaload, 1)) (hn : pc + 1 = n) (k : Aw X ks es n lv (.int (f i) :: rest)) : Aw X ks es pc lv (.int (nI i) :: .ref a :: rest) :=
  r_iald hX q hk he (vp_in_nI hin hm) hd hn (by rw [nI_clamp (Nat.lt_trans hin hm)]; exact k)
theorem r_lald {X : Cx} {cc : ByteArray} {nL d : Nat} {own : String} (hX : Ok X cc nL own d) {ks : List Nat} {es : List va_E} {pc n : Nat} {lv : List (Nat × Value)} {rest : List Value} {a m0 : Nat} (q : Nat) (hk : ks[q]? = some a) {f : Nat → Int64} (he : es[q]? = some (aJ (CxD X) m0 f)) {i : Int32} (hin : vp_in i m0) (hd : decode cc pc = .ok (.laload, 1)) (hn : pc + 1 = n) (k : Aw X ks es n lv (.long (f i.toNatClampNeg) :: rest)) : Aw X ks es pc lv (.int i :: .ref a :: rest) := by
  subst hn
  obtain ⟨p, l, e, R, s, m, args, below, meth, c, D, A, nL', Q, kc, kn⟩ := X
  obtain ⟨hx, hb, hml, rfl, hown, hts, hK, hA, hlk, hfr, hlo, hWd, hkc, hkn⟩ := hX
  intro H locs ls hl hP hD hS hv
  exact va_lald hx hb hK hP q 1 (zip_at hk he) rfl hin hd (k H locs ls hl hP hD hS hv)
theorem r_laldn {X : Cx} {cc : ByteArray} {nL d : Nat} {own : String} (hX : Ok X cc nL own d) {ks : List Nat} {es : List va_E} {pc n : Nat} {lv : List (Nat × Value)} {rest : List Value} {a m0 : Nat} (q : Nat) (hk : ks[q]? = some a) {f : Nat → Int64} (he : es[q]? = some (aJ (CxD X) m0 f)) {i : Nat} (hin : i < m0) (hm : m0 < 2 ^ 31) (hd : decode cc pc = .ok (.laload, 1)) (hn : pc + 1 = n) (k : Aw X ks es n lv (.long (f i) :: rest)) : Aw X ks es pc lv (.int (nI i) :: .ref a :: rest) :=
  r_lald hX q hk he (vp_in_nI hin hm) hd hn (by rw [nI_clamp (Nat.lt_trans hin hm)]; exact k)
theorem r_bald {X : Cx} {cc : ByteArray} {nL d : Nat} {own : String} (hX : Ok X cc nL own d) {ks : List Nat} {es : List va_E} {pc n : Nat} {lv : List (Nat × Value)} {rest : List Value} {a m0 : Nat} (q : Nat) (hk : ks[q]? = some a) {f : Nat → Int32} (he : es[q]? = some (aB (CxD X) m0 f)) {i : Int32} (hin : vp_in i m0) (hd : decode cc pc = .ok (.baload, 1)) (hn : pc + 1 = n) (k : Aw X ks es n lv (.int (f i.toNatClampNeg) :: rest)) : Aw X ks es pc lv (.int i :: .ref a :: rest) := by
  subst hn
  obtain ⟨p, l, e, R, s, m, args, below, meth, c, D, A, nL', Q, kc, kn⟩ := X
  obtain ⟨hx, hb, hml, rfl, hown, hts, hK, hA, hlk, hfr, hlo, hWd, hkc, hkn⟩ := hX
  intro H locs ls hl hP hD hS hv
  exact va_bald hx hb hK hP q 2 (zip_at hk he) rfl hin hd (k H locs ls hl hP hD hS hv)
theorem r_baldn {X : Cx} {cc : ByteArray} {nL d : Nat} {own : String} (hX : Ok X cc nL own d) {ks : List Nat} {es : List va_E} {pc n : Nat} {lv : List (Nat × Value)} {rest : List Value} {a m0 : Nat} (q : Nat) (hk : ks[q]? = some a) {f : Nat → Int32} (he : es[q]? = some (aB (CxD X) m0 f)) {i : Nat} (hin : i < m0) (hm : m0 < 2 ^ 31) (hd : decode cc pc = .ok (.baload, 1)) (hn : pc + 1 = n) (k : Aw X ks es n lv (.int (f i) :: rest)) : Aw X ks es pc lv (.int (nI i) :: .ref a :: rest) :=
  r_bald hX q hk he (vp_in_nI hin hm) hd hn (by rw [nI_clamp (Nat.lt_trans hin hm)]; exact k)
theorem r_zald {X : Cx} {cc : ByteArray} {nL d : Nat} {own : String} (hX : Ok X cc nL own d) {ks : List Nat} {es : List va_E} {pc n : Nat} {lv : List (Nat × Value)} {rest : List Value} {a m0 : Nat} (q : Nat) (hk : ks[q]? = some a) {f : Nat → Int32} (he : es[q]? = some (aZ (CxD X) m0 f)) {i : Int32} (hin : vp_in i m0) (hd : decode cc pc = .ok (.baload, 1)) (hn : pc + 1 = n) (k : Aw X ks es n lv (.int (f i.toNatClampNeg) :: rest)) : Aw X ks es pc lv (.int i :: .ref a :: rest) := by
  subst hn
  obtain ⟨p, l, e, R, s, m, args, below, meth, c, D, A, nL', Q, kc, kn⟩ := X
  obtain ⟨hx, hb, hml, rfl, hown, hts, hK, hA, hlk, hfr, hlo, hWd, hkc, hkn⟩ := hX
  intro H locs ls hl hP hD hS hv
  exact va_zald hx hb hK hP q 3 (zip_at hk he) rfl hin hd (k H locs ls hl hP hD hS hv)
theorem r_zaldn {X : Cx} {cc : ByteArray} {nL d : Nat} {own : String} (hX : Ok X cc nL own d) {ks : List Nat} {es : List va_E} {pc n : Nat} {lv : List (Nat × Value)} {rest : List Value} {a m0 : Nat} (q : Nat) (hk : ks[q]? = some a) {f : Nat → Int32} (he : es[q]? = some (aZ (CxD X) m0 f)) {i : Nat} (hin : i < m0) (hm : m0 < 2 ^ 31) (hd : decode cc pc = .ok (.baload, 1)) (hn : pc + 1 = n) (k : Aw X ks es n lv (.int (f i) :: rest)) : Aw X ks es pc lv (.int (nI i) :: .ref a :: rest) :=
  r_zald hX q hk he (vp_in_nI hin hm) hd hn (by rw [nI_clamp (Nat.lt_trans hin hm)]; exact k)
theorem r_iast {X : Cx} {cc : ByteArray} {nL d : Nat} {own : String} (hX : Ok X cc nL own d) {ks : List Nat} {es : List va_E} {pc n : Nat} {lv : List (Nat × Value)} {rest : List Value} {a m0 : Nat} (q : Nat) (hk : ks[q]? = some a) {f : Nat → Int32} (he : es[q]? = some (aI (CxD X) m0 f)) {i : Int32} {x : Int32} (es' : List va_E) (hin : vp_in i m0) (hes : es.set q (aI (CxD X) m0 (upd f i.toNatClampNeg x)) = es') (hd : decode cc pc = .ok (.iastore, 1)) (hn : pc + 1 = n) (k : Aw X ks es' n lv rest) : Aw X ks es pc lv (.int x :: .int i :: .ref a :: rest) := by
  subst hn
  obtain ⟨p, l, e, R, s, m, args, below, meth, c, D, A, nL', Q, kc, kn⟩ := X
  obtain ⟨hx, hb, hml, rfl, hown, hts, hK, hA, hlk, hfr, hlo, hWd, hkc, hkn⟩ := hX
  intro H locs ls hl hP hD hS hv
  subst hes
  refine va_iast hx hb hK hP hD hS q 0 (zip_at hk he) rfl hin hd (fun H1 locs1 hP1 hD1 hS1 => ?_)
  rw [zip_set hk] at hP1 hD1
  exact k H1 locs1 ls (by rw [List.length_set]; exact hl) hP1 hD1 hS1 hv
theorem r_iastn {X : Cx} {cc : ByteArray} {nL d : Nat} {own : String} (hX : Ok X cc nL own d) {ks : List Nat} {es : List va_E} {pc n : Nat} {lv : List (Nat × Value)} {rest : List Value} {a m0 : Nat} (q : Nat) (hk : ks[q]? = some a) {f : Nat → Int32} (he : es[q]? = some (aI (CxD X) m0 f)) {i : Nat} {x : Int32} (es' : List va_E) (hin : i < m0) (hm : m0 < 2 ^ 31) (hes : es.set q (aI (CxD X) m0 (upd f i x)) = es') (hd : decode cc pc = .ok (.iastore, 1)) (hn : pc + 1 = n) (k : Aw X ks es' n lv rest) : Aw X ks es pc lv (.int x :: .int (nI i) :: .ref a :: rest) :=
  r_iast hX q hk he es' (vp_in_nI hin hm) (by rw [nI_clamp (Nat.lt_trans hin hm)]; exact hes) hd hn k
theorem r_last {X : Cx} {cc : ByteArray} {nL d : Nat} {own : String} (hX : Ok X cc nL own d) {ks : List Nat} {es : List va_E} {pc n : Nat} {lv : List (Nat × Value)} {rest : List Value} {a m0 : Nat} (q : Nat) (hk : ks[q]? = some a) {f : Nat → Int64} (he : es[q]? = some (aJ (CxD X) m0 f)) {i : Int32} {x : Int64} (es' : List va_E) (hin : vp_in i m0) (hes : es.set q (aJ (CxD X) m0 (vp_updL f i.toNatClampNeg x)) = es') (hd : decode cc pc = .ok (.lastore, 1)) (hn : pc + 1 = n) (k : Aw X ks es' n lv rest) : Aw X ks es pc lv (.long x :: .int i :: .ref a :: rest) := by
  subst hn
  obtain ⟨p, l, e, R, s, m, args, below, meth, c, D, A, nL', Q, kc, kn⟩ := X
  obtain ⟨hx, hb, hml, rfl, hown, hts, hK, hA, hlk, hfr, hlo, hWd, hkc, hkn⟩ := hX
  intro H locs ls hl hP hD hS hv
  subst hes
  refine va_last hx hb hK hP hD hS q 1 (zip_at hk he) rfl hin hd (fun H1 locs1 hP1 hD1 hS1 => ?_)
  rw [zip_set hk] at hP1 hD1
  exact k H1 locs1 ls (by rw [List.length_set]; exact hl) hP1 hD1 hS1 hv
theorem r_lastn {X : Cx} {cc : ByteArray} {nL d : Nat} {own : String} (hX : Ok X cc nL own d) {ks : List Nat} {es : List va_E} {pc n : Nat} {lv : List (Nat × Value)} {rest : List Value} {a m0 : Nat} (q : Nat) (hk : ks[q]? = some a) {f : Nat → Int64} (he : es[q]? = some (aJ (CxD X) m0 f)) {i : Nat} {x : Int64} (es' : List va_E) (hin : i < m0) (hm : m0 < 2 ^ 31) (hes : es.set q (aJ (CxD X) m0 (vp_updL f i x)) = es') (hd : decode cc pc = .ok (.lastore, 1)) (hn : pc + 1 = n) (k : Aw X ks es' n lv rest) : Aw X ks es pc lv (.long x :: .int (nI i) :: .ref a :: rest) :=
  r_last hX q hk he es' (vp_in_nI hin hm) (by rw [nI_clamp (Nat.lt_trans hin hm)]; exact hes) hd hn k
theorem r_bast {X : Cx} {cc : ByteArray} {nL d : Nat} {own : String} (hX : Ok X cc nL own d) {ks : List Nat} {es : List va_E} {pc n : Nat} {lv : List (Nat × Value)} {rest : List Value} {a m0 : Nat} (q : Nat) (hk : ks[q]? = some a) {f : Nat → Int32} (he : es[q]? = some (aB (CxD X) m0 f)) {i : Int32} {x : Int32} (es' : List va_E) (hin : vp_in i m0) (hes : es.set q (aB (CxD X) m0 (upd f i.toNatClampNeg (vp_nar .byte x))) = es') (hd : decode cc pc = .ok (.bastore, 1)) (hn : pc + 1 = n) (k : Aw X ks es' n lv rest) : Aw X ks es pc lv (.int x :: .int i :: .ref a :: rest) := by
  subst hn
  obtain ⟨p, l, e, R, s, m, args, below, meth, c, D, A, nL', Q, kc, kn⟩ := X
  obtain ⟨hx, hb, hml, rfl, hown, hts, hK, hA, hlk, hfr, hlo, hWd, hkc, hkn⟩ := hX
  intro H locs ls hl hP hD hS hv
  subst hes
  refine va_bast hx hb hK hP hD hS q 2 (zip_at hk he) rfl hin hd (fun H1 locs1 hP1 hD1 hS1 => ?_)
  rw [zip_set hk] at hP1 hD1
  exact k H1 locs1 ls (by rw [List.length_set]; exact hl) hP1 hD1 hS1 hv
theorem r_bastn {X : Cx} {cc : ByteArray} {nL d : Nat} {own : String} (hX : Ok X cc nL own d) {ks : List Nat} {es : List va_E} {pc n : Nat} {lv : List (Nat × Value)} {rest : List Value} {a m0 : Nat} (q : Nat) (hk : ks[q]? = some a) {f : Nat → Int32} (he : es[q]? = some (aB (CxD X) m0 f)) {i : Nat} {x : Int32} (es' : List va_E) (hin : i < m0) (hm : m0 < 2 ^ 31) (hes : es.set q (aB (CxD X) m0 (upd f i (vp_nar .byte x))) = es') (hd : decode cc pc = .ok (.bastore, 1)) (hn : pc + 1 = n) (k : Aw X ks es' n lv rest) : Aw X ks es pc lv (.int x :: .int (nI i) :: .ref a :: rest) :=
  r_bast hX q hk he es' (vp_in_nI hin hm) (by rw [nI_clamp (Nat.lt_trans hin hm)]; exact hes) hd hn k
theorem r_zast {X : Cx} {cc : ByteArray} {nL d : Nat} {own : String} (hX : Ok X cc nL own d) {ks : List Nat} {es : List va_E} {pc n : Nat} {lv : List (Nat × Value)} {rest : List Value} {a m0 : Nat} (q : Nat) (hk : ks[q]? = some a) {f : Nat → Int32} (he : es[q]? = some (aZ (CxD X) m0 f)) {i : Int32} {x : Int32} (es' : List va_E) (hin : vp_in i m0) (hes : es.set q (aZ (CxD X) m0 (upd f i.toNatClampNeg (vp_nar .boolean x))) = es') (hd : decode cc pc = .ok (.bastore, 1)) (hn : pc + 1 = n) (k : Aw X ks es' n lv rest) : Aw X ks es pc lv (.int x :: .int i :: .ref a :: rest) := by
  subst hn
  obtain ⟨p, l, e, R, s, m, args, below, meth, c, D, A, nL', Q, kc, kn⟩ := X
  obtain ⟨hx, hb, hml, rfl, hown, hts, hK, hA, hlk, hfr, hlo, hWd, hkc, hkn⟩ := hX
  intro H locs ls hl hP hD hS hv
  subst hes
  refine va_zast hx hb hK hP hD hS q 3 (zip_at hk he) rfl hin hd (fun H1 locs1 hP1 hD1 hS1 => ?_)
  rw [zip_set hk] at hP1 hD1
  exact k H1 locs1 ls (by rw [List.length_set]; exact hl) hP1 hD1 hS1 hv
theorem r_zastn {X : Cx} {cc : ByteArray} {nL d : Nat} {own : String} (hX : Ok X cc nL own d) {ks : List Nat} {es : List va_E} {pc n : Nat} {lv : List (Nat × Value)} {rest : List Value} {a m0 : Nat} (q : Nat) (hk : ks[q]? = some a) {f : Nat → Int32} (he : es[q]? = some (aZ (CxD X) m0 f)) {i : Nat} {x : Int32} (es' : List va_E) (hin : i < m0) (hm : m0 < 2 ^ 31) (hes : es.set q (aZ (CxD X) m0 (upd f i (vp_nar .boolean x))) = es') (hd : decode cc pc = .ok (.bastore, 1)) (hn : pc + 1 = n) (k : Aw X ks es' n lv rest) : Aw X ks es pc lv (.int x :: .int (nI i) :: .ref a :: rest) :=
  r_zast hX q hk he es' (vp_in_nI hin hm) (by rw [nI_clamp (Nat.lt_trans hin hm)]; exact hes) hd hn k
theorem r_alen {X : Cx} {cc : ByteArray} {nL d : Nat} {own : String} (hX : Ok X cc nL own d) {ks : List Nat} {es : List va_E} {pc n : Nat} {lv : List (Nat × Value)} {rest : List Value} {a : Nat} (q : Nat) (hk : ks[q]? = some a) {cA : ClassId} {x : vp_A} (he : es[q]? = some (.inl (cA, x))) (ti : Nat) {ty : FieldType} (ht : (tyL (CxD X))[ti]? = some (cA, ty)) (v : Int32) (hv0 : Int32.ofNat x.1 = v) (hd : decode cc pc = .ok (.arraylength, 1)) (hn : pc + 1 = n) (k : Aw X ks es n lv (.int v :: rest)) : Aw X ks es pc lv (.ref a :: rest) := by
  subst hn
  obtain ⟨p, l, e, R, s, m, args, below, meth, c, D, A, nL', Q, kc, kn⟩ := X
  obtain ⟨hx, hb, hml, rfl, hown, hts, hK, hA, hlk, hfr, hlo, hWd, hkc, hkn⟩ := hX
  intro H locs ls hl hP hD hS hv
  exact va_alen hx hb hK hP q ti (zip_at hk he) ht hv0 hd (k H locs ls hl hP hD hS hv)
