/-! contracts and calls -/
/-- a method: its name, code, locals, type -/
abbrev MI : Type := MethodName × ByteArray × Nat × Option FieldType
abbrev wds (mi : MI) : List Cond := Cond.code mi.1 mi.2.1 mi.2.2.1 mi.2.2.2 :: TB
def CalV (mi : MI) (C : String) (n : Nat) : Prop := (Cond.instanceMethod mi.1 ∈ TB ∧ Cond.selects C mi.1 mi.1 ∈ TB ∧ Cond.initialized C ∈ TB ∧ Cond.code mi.1 mi.2.1 mi.2.2.1 mi.2.2.2 ∈ TB) ∧ (mi.1.cls = C ∧ mi.1.cls ≠ "java/lang/invoke/MethodHandle" ∧ mi.1.cls ≠ "java/lang/invoke/VarHandle" ∧ (parseMethodDescriptor mi.1.desc).map (fun d => d.parameters.length) = some n) ∧ mi.2.2.1 ≤ 21
def CalS (mi : MI) (C : String) (n : Nat) : Prop := (Cond.static mi.1 ∈ TB ∧ Cond.initialized C ∈ TB ∧ Cond.code mi.1 mi.2.1 mi.2.2.1 mi.2.2.2 ∈ TB) ∧ (mi.1.cls = C ∧ mi.1.cls ≠ "java/lang/invoke/MethodHandle" ∧ mi.1.cls ≠ "java/lang/invoke/VarHandle" ∧ (parseMethodDescriptor mi.1.desc).map (fun d => d.parameters.length) = some n) ∧ mi.2.2.1 ≤ 21
theorem good_wds {mi : MI} {ws : List Cond} (hw : ∀ w ∈ ws, w ∈ TB) (hc : Cond.code mi.1 mi.2.1 mi.2.2.1 mi.2.2.2 ∈ TB) : GoodIn TB (ws ++ wds mi) := by
  intro w h
  have : w ∈ TB := by
    rcases List.mem_append.mp h with h | h
    · exact hw w h
    · rcases List.mem_cons.mp h with h | h
      · rw [h]; exact hc
      · exact h
  exact ⟨this, TB_good this⟩
abbrev rmD (d : Nat) : Room := { frames := d, cells := 0, slots := 0, locals := 40 * d }
def Wp (D : va_G) (ws : va_W) (sz : Nat) (U : State) : Prop := U.heap.size = sz ∧ va_P D vwCl ws U.heap ∧ va_K D vwCl (tyL D) U ∧ va_D (fun _ => True) ws ∧ Wd (va_A ws sz) U U.heap
def Qx (D : va_G) (ks : List Nat) (es : List va_E) (sz : Nat) (post : Option Value → List va_E → Prop) : Array Value → State → Outcome → State → Prop := fun _ st oc t => ∃ (r : Option Value) (es' : List va_E), oc = .returned r ∧ post r es' ∧ es'.length = ks.length ∧ va_P D vwCl (ks.zip es') t.heap ∧ va_F (va_A (ks.zip es) sz) st t
/-- the contract of a method that makes nothing: called with av over the cells es at ks it returns, and post holds of answer and cells -/
def Ct (l : Launch) (D : va_G) (mi : MI) (d : Nat) (av : List Value) (ks : List Nat) (es : List va_E) (post : Option Value → List va_E → Prop) : Prop := es.length = ks.length → ∀ sz : Nat, Met l mi.1 (wds mi) (rmD d) (va_Pc av (Wp D (ks.zip es) sz)) (Qx D ks es sz post) 0 0 (va_A (ks.zip es) sz)
theorem Wp.blind {D : va_G} {ws : va_W} {sz : Nat} {av : List Value} : FrameBlind (va_Pc av (Wp D ws sz)) := by
  intro a U g mk q
  obtain ⟨q0, q1, qP, qK, qD, qW⟩ := q
  exact ⟨q0, q1, qP, va_K.moved (u := U) (U := U.calling g mk a) (Vm.Alike.refl U.vm) qK, qD, Wd.same (s := U) (U := U.calling g mk a) rfl qW⟩
theorem zip_map {ks ksC : List Nat} {es esC : List va_E} : ∀ (is : List Nat) (ksC : List Nat) (esC : List va_E), is.map (fun i => ks[i]?) = ksC.map some → is.map (fun i => es[i]?) = esC.map some → is.map (fun i => (ks.zip es)[i]?) = (ksC.zip esC).map some
  | [], [], [], _, _ => rfl
  | [], _ :: _, _, h, _ => by simp at h
  | [], [], _ :: _, _, h => by simp at h
  | _ :: _, [], _, h, _ => by simp at h
  | _ :: _, _ :: _, [], _, h => by simp at h
  | i :: is, k :: ksC, x :: esC, h1, h2 => by
    simp only [List.map_cons, List.cons.injEq] at h1 h2
    simp only [List.zip_cons_cons, List.map_cons, List.cons.injEq]
    exact ⟨zip_at h1.1 h2.1, zip_map (ksC := ksC) (esC := esC) is ksC esC h1.2 h2.2⟩
theorem sub_P {D : va_G} {cl : List vw_C} {ws ws' : va_W} {H : Heap} (h : va_P D cl ws H) (is : List Nat) (hs : is.map (fun i => ws[i]?) = ws'.map some) : va_P D cl ws' H := by
  intro k q hk
  have h1 : (is.map (fun i => ws[i]?))[k]? = some (some q) := by rw [hs, List.getElem?_map, hk]; rfl
  rw [List.getElem?_map] at h1
  cases hi : is[k]? with
  | none => rw [hi] at h1; cases h1
  | some i => rw [hi] at h1; exact h i q (Option.some.inj h1)
/-- behind a call: the callee's cells in their places, all else as it was -/
theorem put_P {D : va_G} {cl : List vw_C} {A : Nat → Prop} {ks ksC : List Nat} {es esC es' : List va_E} {H H1 : Heap} (hl : es.length = ks.length) (hP : va_P D cl (ks.zip es) H) (hD : va_D A (ks.zip es)) (is : List Nat) (hks : is.map (fun i => ks[i]?) = ksC.map some) (hes : is.map (fun i => es[i]?) = esC.map some) (hnd : va_nd is = true) (hl' : es'.length = ksC.length)
    (hk : ∀ q : Nat, q < H.size → ¬ va_A (ksC.zip esC) H.size q → H1[q]? = H[q]?) (hP1 : va_P D cl (ksC.zip es') H1) : va_P D cl (ks.zip (putAt es is es')) H1 := by
  have hisK : is.length = ksC.length := by simpa using congrArg List.length hks
  have hisE : is.length = esC.length := by simpa using congrArg List.length hes
  have at' : ∀ (j i : Nat), is[j]? = some i → ks[i]? = ksC[j]? ∧ es[i]? = esC[j]? := by
    intro j i hj
    have h1 := congrArg (fun l => l[j]?) hks
    have h2 := congrArg (fun l => l[j]?) hes
    simp only [List.getElem?_map, hj, Option.map_some] at h1 h2
    constructor
    · cases hc : ksC[j]? with
      | none => rw [hc] at h1; simp at h1
      | some x => rw [hc] at h1; simpa using h1
    · cases hc : esC[j]? with
      | none => rw [hc] at h2; simp at h2
      | some x => rw [hc] at h2; simpa using h2
  have hbd : ∀ i ∈ is, i < es.length := by
    intro i hi
    obtain ⟨j, hj⟩ := List.getElem?_of_mem hi
    have h2 := (at' j i hj).2
    have hlt : j < esC.length := by rw [← hisE]; exact (List.getElem?_eq_some_iff.mp hj).1
    rw [List.getElem?_eq_getElem hlt] at h2
    exact (List.getElem?_eq_some_iff.mp h2).1
  intro k q hq
  obtain ⟨g1, g2⟩ := List.getElem?_zip_eq_some.mp hq
  by_cases hin : k ∈ is
  · obtain ⟨j, hj⟩ := List.getElem?_of_mem hin
    rw [putAt_in is es' hnd (by omega) hbd j k hj] at g2
    have hkk : ksC[j]? = some q.1 := by rw [← (at' j k hj).1]; exact g1
    exact hP1 j q (zip_at hkk g2)
  · rw [putAt_out is es' hin] at g2
    have hz := zip_at g1 g2
    have hlt := (hP k q hz).lt
    refine (hP k q hz).kept (hk q.1 hlt (fun hA => ?_))
    rcases hA with ⟨j, x, hx⟩ | hx
    · obtain ⟨f1, f2⟩ := List.getElem?_zip_eq_some.mp hx
      have hjl : j < is.length := by rw [hisK]; exact (List.getElem?_eq_some_iff.mp f1).1
      have hj : is[j]? = some (is[j]'hjl) := List.getElem?_eq_getElem hjl
      obtain ⟨a1, a2⟩ := at' j _ hj
      have hz2 := zip_at (a1.trans f1) (a2.trans f2)
      have heq := hD.1 k _ q (q.1, x) hz hz2 rfl
      exact hin (heq ▸ List.mem_of_getElem? hj)
    · omega
section
variable {p : Program} {l : Launch} {e : Env} {R : Room} {s : State} {m : MethodId} {args : Array Value} {below : List Frame} {meth : Method} {c : Code} {D : va_G} {A : Nat → Prop} {nL : Nat} {Q : State → Prop} {kc kn : Nat}
theorem W_of_run {H : Heap} {locs : List Loc} {ls : Array Slot} {ks ksC : List Nat} {es esC : List va_E} {pc : Nat} {lv : List (Nat × Value)} {st rest : List Value} {a : Array Value} {post : Option Value → List va_E → Prop}
    (hr : va_Run p l e R s m args below meth c H locs kc kn 0 0 (F0 m pc ls st) rest (Qx D ksC esC H.size post a) (va_A (ksC.zip esC) H.size))
    (hA : ∀ q, s.heap.size ≤ q → A q) (hl : es.length = ks.length) (hP : va_P D vwCl (ks.zip es) H) (hD : va_D A (ks.zip es)) (hS : va_S A s.heap H locs) (hv : lv_has ls nL lv)
    (is : List Nat) (hks : is.map (fun i => ks[i]?) = ksC.map some) (hes : is.map (fun i => es[i]?) = esC.map some) (hnd : va_nd is = true)
    (k : ∀ (r : Option Value) (es' : List va_E), post r es' → es'.length = ksC.length → Aw (p, l, e, R, s, m, args, below, meth, c, D, A, nL, Q, kc, kn) ks (putAt es is es') (pc + 3) lv (r.toList ++ rest)) :
    W p l e R s m args below meth c H locs kc kn Q (F0 m pc ls st) := by
  intro T hT X
  have hF := va_free (wc := ksC.zip esC) hD hS hA is (zip_map (ksC := ksC) (esC := esC) is ksC esC hks hes)
  obtain ⟨v, st₀, t, T', L, h0, X', hL, e1, e2, ⟨r, es', hv', hp, hl', hP1, hz, hk1⟩, stp⟩ := hr T hT X
  cases hv'
  rw [h0] at hz hk1
  have hS' : va_S A s.heap T'.heap (locs ++ L) := ⟨Nat.le_trans hS.1 (by rw [e1]; exact hz), fun q h1 h2 => by rw [e1, hk1 q (Nat.lt_of_lt_of_le h1 hS.1) (fun z => h2 (hF q z))]; exact hS.2.1 q h1 h2, fun q hq => by
      rcases List.mem_append.mp hq with h | h
      · exact hS.2.2 q h
      · exact hF _ (hL q h)⟩
  have hPn := put_P hl hP hD is hks hes hnd hl' hk1 hP1
  have hln : (putAt es is es').length = ks.length := by rw [putAt_len]; exact hl
  obtain ⟨t2, a1, b1⟩ := k v es' hp hl' T'.heap (locs ++ L) ls hln (by rw [e1]; exact hPn) (zip_D hl hln hD) hS' hv T' rfl X'
  exact ⟨t2, stp t2 a1, b1⟩
theorem Wp_of {H : Heap} {locs : List Loc} {ks ksC : List Nat} {es esC : List va_E} (hA : ∀ q, s.heap.size ≤ q → A q) (hP : va_P D vwCl (ks.zip es) H) (hD : va_D A (ks.zip es)) (hS : va_S A s.heap H locs) (hK : va_K D vwCl (tyL D) s) (hWd : Wd A s s.heap)
    (is : List Nat) (hks : is.map (fun i => ks[i]?) = ksC.map some) (hes : is.map (fun i => es[i]?) = esC.map some) (hnd : va_nd is = true) (U : State) (hU : U.heap = H) (hW : s.WarmedH U.vm) : Wp D (ksC.zip esC) H.size U := by
  have hm := zip_map (ksC := ksC) (esC := esC) is ksC esC hks hes
  have hF := va_free (wc := ksC.zip esC) hD hS hA is hm
  refine ⟨by rw [hU], by rw [hU]; exact sub_P hP is hm, va_K.moved hW.alike hK, (hD.sub is hnd hm).weaken (fun _ _ _ _ => trivial), ?_⟩
  rw [hU]
  exact ((hWd.kept (fun a h1 h2 => hS.2.1 a h1 h2)).narrow hF).warm hW
end
theorem r_callV {X : Cx} {cc : ByteArray} {nL d : Nat} {own : String} (hX : Ok X cc nL own d) {ks ksC : List Nat} {es esC : List va_E} {pc n : Nat} {lv : List (Nat × Value)} {rest st : List Value}
    {C : String} {mi : MI} {index nn d' b : Nat} {av : List Value} {post : Option Value → List va_E → Prop} (hM : Ct (CxL X) (CxD X) mi d' (.ref b :: av) ksC esC post)
    (hml : Cond.methodLink own index mi.1 ∈ TB) (hcv : CalV mi C nn) (hnn : av.length = nn)
    (hdd : d' + 1 ≤ d) (is : List Nat) (hks : is.map (fun i => ks[i]?) = ksC.map some) (hes : is.map (fun i => es[i]?) = esC.map some) (hnd : va_nd is = true)
    (qr : Nat) {ci : Nat} {vq : vw_C} {fs : List Value} (hkr : ks[qr]? = some b) (her : es[qr]? = some (.inr (ci, fs))) (hcr : vwCl[ci]? = some vq) (hqC : vq.1 = C) (hst : st = av.reverse ++ .ref b :: rest) (hrest : (rest.map fun v => v.category).sum ≤ 8)
    (hd : decode cc pc = .ok (.invokevirtual index, 3)) (hn : pc + 3 = n) (k : ∀ (r : Option Value) (es' : List va_E), post r es' → es'.length = ksC.length → Aw X ks (putAt es is es') n lv (r.toList ++ rest)) : Aw X ks es pc lv st := by
  subst hn
  obtain ⟨p, l, e, R, s, m, args, below, meth, c, D, A, nL', Q, kc, kn⟩ := X
  obtain ⟨hx, hb, hml0, rfl, hown, hts, hK, hA, hlk, hfr, hlo, hWd, hkc, hkn⟩ := hX
  obtain ⟨⟨hc1, hc2, hc3, hc4⟩, hsg, hmL⟩ := hcv
  intro H locs ls hl hP hD hS hv
  have hlC : esC.length = ksC.length := by
    have h1 := congrArg List.length hks
    have h2 := congrArg List.length hes
    simp only [List.length_map] at h1 h2
    omega
  have hrecv := va_recv hK hP hcr (zip_at hkr her)
  rw [hqC] at hrecv
  have hT : GoodIn TB (wsV own index C mi.1 (wds mi)) := good_wds (ws := [.methodLink own index mi.1, .instanceMethod mi.1, .selects C mi.1 mi.1, .initialized C]) (fun w h => by
    simp only [List.mem_cons, List.not_mem_nil, or_false] at h
    rcases h with rfl | rfl | rfl | rfl
    · exact hml
    · exact hc1
    · exact hc2
    · exact hc3) hc4
  have run := va_runV (e := e) (below := below) (meth := meth) (locs := locs) (cells := kc) (slots := kn) (g := F0 m pc ls st) (As := av) (rest := rest) (b := b) ⟨hx, hb, hml0, hown, hts⟩ (hM hlC H.size) (cwV nn hts hT rfl rfl rfl hsg ⟨Nat.le_trans hdd hfr, by show 8 + (mi.2.2.1 + 11) + 40 * d' ≤ R.locals; omega⟩) ⟨Wp.blind, hrecv, fun U hU hW => ⟨rfl, Wp_of hA hP hD hS hK hWd is hks hes hnd U hU hW⟩⟩ rfl hnn hv.1 hst (lv_room hrest) hd ⟨hkc, hkn⟩
  exact W_of_run run hA hl hP hD hS hv is hks hes hnd k
theorem r_callS {X : Cx} {cc : ByteArray} {nL d : Nat} {own : String} (hX : Ok X cc nL own d) {ks ksC : List Nat} {es esC : List va_E} {pc n : Nat} {lv : List (Nat × Value)} {rest st : List Value}
    {mi : MI} {index nn d' : Nat} {av : List Value} {post : Option Value → List va_E → Prop} (hM : Ct (CxL X) (CxD X) mi d' av ksC esC post)
    (hml : Cond.methodLink own index mi.1 ∈ TB) (hcv : CalS mi own nn) (hnn : av.length = nn)
    (hdd : d' + 1 ≤ d) (is : List Nat) (hks : is.map (fun i => ks[i]?) = ksC.map some) (hes : is.map (fun i => es[i]?) = esC.map some) (hnd : va_nd is = true)
    (hst : st = av.reverse ++ rest) (hrest : (rest.map fun v => v.category).sum ≤ 8)
    (hd : decode cc pc = .ok (.invokestatic index, 3)) (hn : pc + 3 = n) (k : ∀ (r : Option Value) (es' : List va_E), post r es' → es'.length = ksC.length → Aw X ks (putAt es is es') n lv (r.toList ++ rest)) : Aw X ks es pc lv st := by
  subst hn
  obtain ⟨p, l, e, R, s, m, args, below, meth, c, D, A, nL', Q, kc, kn⟩ := X
  obtain ⟨hx, hb, hml0, rfl, hown, hts, hK, hA, hlk, hfr, hlo, hWd, hkc, hkn⟩ := hX
  obtain ⟨⟨hc1, hc2, hc3⟩, hsg, hmL⟩ := hcv
  intro H locs ls hl hP hD hS hv
  have hlC : esC.length = ksC.length := by
    have h1 := congrArg List.length hks
    have h2 := congrArg List.length hes
    simp only [List.length_map] at h1 h2
    omega
  have hT : GoodIn TB (wsS own index mi.1 (wds mi)) := good_wds (ws := [.methodLink own index mi.1, .static mi.1, .initialized own]) (fun w h => by
    simp only [List.mem_cons, List.not_mem_nil, or_false] at h
    rcases h with rfl | rfl | rfl
    · exact hml
    · exact hc1
    · exact hc2) hc3
  have run := va_runS (e := e) (below := below) (meth := meth) (locs := locs) (cells := kc) (slots := kn) (g := F0 m pc ls st) (As := av) (rest := rest) ⟨hx, hb, hml0, hown, hts⟩ (hM hlC H.size) (cwS nn hts hT rfl rfl rfl hsg ⟨Nat.le_trans hdd hfr, by show 8 + (mi.2.2.1 + 11) + 40 * d' ≤ R.locals; omega⟩) ⟨Wp.blind, fun U hU hW => ⟨rfl, Wp_of hA hP hD hS hK hWd is hks hes hnd U hU hW⟩⟩ rfl hnn hv.1 hst (lv_room hrest) hd ⟨hkc, hkn⟩
  exact W_of_run run hA hl hP hD hS hv is hks hes hnd k
/-- a static method of a nest mate -/
theorem r_callSN {X : Cx} {cc : ByteArray} {nL d : Nat} {own C : String} (hX : Ok X cc nL own d) {ks ksC : List Nat} {es esC : List va_E} {pc n : Nat} {lv : List (Nat × Value)} {rest st : List Value}
    {mi : MI} {index nn d' : Nat} {av : List Value} {post : Option Value → List va_E → Prop} (hM : Ct (CxL X) (CxD X) mi d' av ksC esC post)
    (hnw : (own, index, mi.1) ∈ nwM) (hcv : CalS mi C nn) (hnn : av.length = nn)
    (hdd : d' + 1 ≤ d) (is : List Nat) (hks : is.map (fun i => ks[i]?) = ksC.map some) (hes : is.map (fun i => es[i]?) = esC.map some) (hnd : va_nd is = true)
    (hst : st = av.reverse ++ rest) (hrest : (rest.map fun v => v.category).sum ≤ 8)
    (hd : decode cc pc = .ok (.invokestatic index, 3)) (hn : pc + 3 = n) (k : ∀ (r : Option Value) (es' : List va_E), post r es' → es'.length = ksC.length → Aw X ks (putAt es is es') n lv (r.toList ++ rest)) : Aw X ks es pc lv st := by
  subst hn
  obtain ⟨p, l, e, R, s, m, args, below, meth, c, D, A, nL', Q, kc, kn⟩ := X
  obtain ⟨hx, hb, hml0, rfl, hown, hts, hK, hA, hlk, hfr, hlo, hWd, hkc, hkn⟩ := hX
  obtain ⟨⟨hc1, hc2, hc3⟩, hsg, hmL⟩ := hcv
  intro H locs ls hl hP hD hS hv
  have hlC : esC.length = ksC.length := by
    have h1 := congrArg List.length hks
    have h2 := congrArg List.length hes
    simp only [List.length_map] at h1 h2
    omega
  have hT : GoodIn TB (wds mi) := good_wds (ws := []) (fun w h => absurd h List.not_mem_nil) hc3
  have hini : (Cond.initialized mi.1.cls).before args s = true := by rw [hsg.1]; exact hts _ hc2
  have run := va_runSN (e := e) (below := below) (meth := meth) (locs := locs) (cells := kc) (slots := kn) (g := F0 m pc ls st) (As := av) (rest := rest) ⟨hx, hb, hml0, hown, hts⟩ (hM hlC H.size) ⟨va_cnB nn hts hT rfl rfl rfl (hWd.2.2 _ hnw) hini hsg.2 ⟨Nat.le_trans hdd hfr, by show 8 + (mi.2.2.1 + 11) + 40 * d' ≤ R.locals; omega⟩, hts _ hc1, trivial⟩ ⟨Wp.blind, fun U hU hW => ⟨rfl, Wp_of hA hP hD hS hK hWd is hks hes hnd U hU hW⟩⟩ rfl hnn hv.1 hst (lv_room hrest) hd ⟨hkc, hkn⟩
  exact W_of_run run hA hl hP hD hS hv is hks hes hnd k
/-! Math.max, Math.min -/
theorem r_mmax {X : Cx} {cc : ByteArray} {nL d : Nat} {own : String} (hX : Ok X cc nL own d) {ks : List Nat} {es : List va_E} {pc n index : Nat} {lv : List (Nat × Value)} {rest : List Value} {x y : Int32} (hT : ∀ w ∈ [Cond.methodLink own index Lib.Math.max.name, Cond.static Lib.Math.max.name, Cond.initialized "java/lang/Math", Cond.code Lib.Math.max.name Lib.Math.max.code 2 (some .int)], w ∈ TB) (hdd : 1 ≤ d) (hrest : (rest.map fun v => v.category).sum ≤ 8)
    (hd : decode cc pc = .ok (.invokestatic index, 3)) (hn : pc + 3 = n) (k : Aw X ks es n lv (.int (if x < y then y else x) :: rest)) : Aw X ks es pc lv (.int y :: .int x :: rest) := by
  subst hn
  obtain ⟨p, l, e, R, s, m, args, below, meth, c, D, A, nL', Q, kc, kn⟩ := X
  obtain ⟨hx, hb, hml, rfl, hown, hts, hK, hA, hlk, hfr, hlo, hWd, hkc, hkn⟩ := hX
  intro H locs ls hl hP hD hS hv
  exact va_mmax hx hb (hml.trans hv.1.symm) hown (hts _ (hT _ (by simp))) (hts _ (hT _ (by simp))) (hts _ (hT _ (by simp))) (hts _ (hT _ (by simp))) (by omega) (by omega) hkc hkn hd (k H locs ls hl hP hD hS hv)
theorem r_mmin {X : Cx} {cc : ByteArray} {nL d : Nat} {own : String} (hX : Ok X cc nL own d) {ks : List Nat} {es : List va_E} {pc n index : Nat} {lv : List (Nat × Value)} {rest : List Value} {x y : Int32} (hT : ∀ w ∈ [Cond.methodLink own index Lib.Math.min.name, Cond.static Lib.Math.min.name, Cond.initialized "java/lang/Math", Cond.code Lib.Math.min.name Lib.Math.min.code 2 (some .int)], w ∈ TB) (hdd : 1 ≤ d) (hrest : (rest.map fun v => v.category).sum ≤ 8)
    (hd : decode cc pc = .ok (.invokestatic index, 3)) (hn : pc + 3 = n) (k : Aw X ks es n lv (.int (if y < x then y else x) :: rest)) : Aw X ks es pc lv (.int y :: .int x :: rest) := by
  subst hn
  obtain ⟨p, l, e, R, s, m, args, below, meth, c, D, A, nL', Q, kc, kn⟩ := X
  obtain ⟨hx, hb, hml, rfl, hown, hts, hK, hA, hlk, hfr, hlo, hWd, hkc, hkn⟩ := hX
  intro H locs ls hl hP hD hS hv
  exact va_mmin hx hb (hml.trans hv.1.symm) hown (hts _ (hT _ (by simp))) (hts _ (hT _ (by simp))) (hts _ (hT _ (by simp))) (hts _ (hT _ (by simp))) (by omega) (by omega) hkc hkn hd (k H locs ls hl hP hD hS hv)
/-! the static row WORDS, read by HostYear$Tokens: its length, a place of it -/
theorem r_words_len {X : Cx} {cc : ByteArray} {nL d : Nat} (hX : Ok X cc nL RX8 d) {ks : List Nat} {es : List va_E} {pc n1 n : Nat} {lv : List (Nat × Value)} {rest : List Value} (hd : decode cc pc = .ok (.getstatic 65, 3)) (hn1 : pc + 3 = n1) (hd2 : decode cc n1 = .ok (.arraylength, 1)) (hn : n1 + 1 = n) (k : Aw X ks es n lv (.int 9 :: rest)) : Aw X ks es pc lv rest := by
  subst hn; subst hn1
  obtain ⟨p, l, e, R, s, m, args, below, meth, c, D, A, nL', Q, kc, kn⟩ := X
  obtain ⟨hx, hb, hml, rfl, hown, hts, hK, hA, hlk, hfr, hlo, hWd, hkc, hkn⟩ := hX
  intro H locs ls hl hP hD hS hv
  obtain ⟨⟨t, hZ, hT⟩, hF, -⟩ := hWd
  refine va_getsN hx hb hZ hS hown (va_Nw.use rfl hF) (fun _ h => h) hd ?_
  exact va_tlen hx hb hT hS rfl hd2 (k H locs ls hl hP hD hS hv)
theorem r_words_get {X : Cx} {cc : ByteArray} {nL d : Nat} (hX : Ok X cc nL RX8 d) {ks : List Nat} {es : List va_E} {pc n1 n2 n i : Nat} {lv : List (Nat × Value)} {rest : List Value} {j : Fin 4} (hd : decode cc pc = .ok (.getstatic 65, 3)) (hn1 : pc + 3 = n1) (hd2 : decode cc n1 = .ok (.iload_n j, 1)) (hn2 : n1 + 1 = n2) (hd3 : decode cc n2 = .ok (.laload, 1)) (hn : n2 + 1 = n) (q : Nat) (hq : lv[q]? = some ((j : Nat), .int (nI i))) (hi : i < 9) (k : Aw X ks es n lv (.long (wdv i) :: rest)) : Aw X ks es pc lv rest := by
  subst hn; subst hn2; subst hn1
  obtain ⟨p, l, e, R, s, m, args, below, meth, c, D, A, nL', Q, kc, kn⟩ := X
  obtain ⟨hx, hb, hml, rfl, hown, hts, hK, hA, hlk, hfr, hlo, hWd, hkc, hkn⟩ := hX
  intro H locs ls hl hP hD hS hv
  obtain ⟨⟨t, hZ, hT⟩, hF, -⟩ := hWd
  refine va_getsN hx hb hZ hS hown (va_Nw.use rfl hF) (fun _ h => h) hd ?_
  refine lv_iload_n hx hb hd2 rfl (lv_at hv q hq) ?_
  exact va_tl hx hb hT hS (vp_in_nI hi (by decide)) (by rw [nI_clamp (by omega)]) hd3 (k H locs ls hl hP hD hS hv)
/-! returns -/
def Rt : Cx → Option FieldType → (Option Value → List va_E → Prop) → List Nat → Prop
  | (_, _, _, _, s, _, args, below, meth, _, D, A, _, Q, kc, kn), rt, post, ks => meth.sig.returnType = rt ∧ ∃ Qc : Array Value → State → Outcome → State → Prop, Q = MQ below Qc args s kc kn A ∧ ∀ (r : Option Value) (es' : List va_E) (t : State) (locs : List Loc), post r es' → es'.length = ks.length → va_P D vwCl (ks.zip es') t.heap → va_S A s.heap t.heap locs → Qc args s (.returned r) t
theorem r_ireturn {X : Cx} {cc : ByteArray} {nL d : Nat} {own : String} (hX : Ok X cc nL own d) {post : Option Value → List va_E → Prop} {ks : List Nat} (hR : Rt X (some .int) post ks) {es : List va_E} {pc : Nat} {lv : List (Nat × Value)} {v : Int32} (hd : decode cc pc = .ok (.ireturn, 1)) (h : post (some (.int v)) es) : Aw X ks es pc lv [.int v] := by
  obtain ⟨p, l, e, R, s, m, args, below, meth, c, D, A, nL', Q, kc, kn⟩ := X
  obtain ⟨hx, hb, hml, rfl, hown, hts, hK, hA, hlk, hfr, hlo, hWd, hkc, hkn⟩ := hX
  obtain ⟨hr, Qc, rfl, hq⟩ := hR
  intro H locs ls hl hP hD hS hv
  exact W.iret hx hb hr (fun t ht hW => hq _ es t locs h hl (by rw [ht]; exact hP) (by rw [ht]; exact hS)) hS.2.2 hd hlk
theorem r_zreturn {X : Cx} {cc : ByteArray} {nL d : Nat} {own : String} (hX : Ok X cc nL own d) {post : Option Value → List va_E → Prop} {ks : List Nat} (hR : Rt X (some .boolean) post ks) {es : List va_E} {pc : Nat} {lv : List (Nat × Value)} {v : Int32} (hn : narrow .boolean (.int v) = .int v) (hd : decode cc pc = .ok (.ireturn, 1)) (h : post (some (.int v)) es) : Aw X ks es pc lv [.int v] := by
  obtain ⟨p, l, e, R, s, m, args, below, meth, c, D, A, nL', Q, kc, kn⟩ := X
  obtain ⟨hx, hb, hml, rfl, hown, hts, hK, hA, hlk, hfr, hlo, hWd, hkc, hkn⟩ := hX
  obtain ⟨hr, Qc, rfl, hq⟩ := hR
  intro H locs ls hl hP hD hS hv
  exact W.zret hx hb hr hn (fun t ht hW => hq _ es t locs h hl (by rw [ht]; exact hP) (by rw [ht]; exact hS)) hS.2.2 hd hlk
theorem r_lreturn {X : Cx} {cc : ByteArray} {nL d : Nat} {own : String} (hX : Ok X cc nL own d) {post : Option Value → List va_E → Prop} {ks : List Nat} (hR : Rt X (some .long) post ks) {es : List va_E} {pc : Nat} {lv : List (Nat × Value)} {v : Int64} (hd : decode cc pc = .ok (.lreturn, 1)) (h : post (some (.long v)) es) : Aw X ks es pc lv [.long v] := by
  obtain ⟨p, l, e, R, s, m, args, below, meth, c, D, A, nL', Q, kc, kn⟩ := X
  obtain ⟨hx, hb, hml, rfl, hown, hts, hK, hA, hlk, hfr, hlo, hWd, hkc, hkn⟩ := hX
  obtain ⟨hr, Qc, rfl, hq⟩ := hR
  intro H locs ls hl hP hD hS hv
  exact W.lret hx hb hr (fun t ht hW => hq _ es t locs h hl (by rw [ht]; exact hP) (by rw [ht]; exact hS)) hS.2.2 hd hlk
theorem r_return {X : Cx} {cc : ByteArray} {nL d : Nat} {own : String} (hX : Ok X cc nL own d) {post : Option Value → List va_E → Prop} {ks : List Nat} (hR : Rt X none post ks) {es : List va_E} {pc : Nat} {lv : List (Nat × Value)} (hd : decode cc pc = .ok (.return_, 1)) (h : post none es) : Aw X ks es pc lv [] := by
  obtain ⟨p, l, e, R, s, m, args, below, meth, c, D, A, nL', Q, kc, kn⟩ := X
  obtain ⟨hx, hb, hml, rfl, hown, hts, hK, hA, hlk, hfr, hlo, hWd, hkc, hkn⟩ := hX
  obtain ⟨hr, Qc, rfl, hq⟩ := hR
  intro H locs ls hl hP hD hS hv
  exact W.vret hx hb hr (fun t ht hW => hq _ es t locs h hl (by rw [ht]; exact hP) (by rw [ht]; exact hS)) hS.2.2 hd hlk
theorem r_areturn {X : Cx} {cc : ByteArray} {nL d : Nat} {own : String} (hX : Ok X cc nL own d) {post : Option Value → List va_E → Prop} {ks : List Nat} {rt : FieldType} (hR : Rt X (some rt) post ks) (hrt : (∃ n, rt = .object n) ∨ ∃ t, rt = .array t) {es : List va_E} {pc : Nat} {lv : List (Nat × Value)} {v : Value} (hv0 : v = .null ∨ ∃ a, v = .ref a) (hd : decode cc pc = .ok (.areturn, 1)) (h : post (some v) es) : Aw X ks es pc lv [v] := by
  obtain ⟨p, l, e, R, s, m, args, below, meth, c, D, A, nL', Q, kc, kn⟩ := X
  obtain ⟨hx, hb, hml, rfl, hown, hts, hK, hA, hlk, hfr, hlo, hWd, hkc, hkn⟩ := hX
  obtain ⟨hr, Qc, rfl, hq⟩ := hR
  intro H locs ls hl hP hD hS hv
  exact W.aret hx hb hr hrt hv0 (fun t ht hW => hq _ es t locs h hl (by rw [ht]; exact hP) (by rw [ht]; exact hS)) hS.2.2 hd hlk
/-- a contract out of a walk from the entry -/
theorem Ct.ofA {l : Launch} {D : va_G} {mi : MI} {d : Nat} {own : String} {av : List Value} {ks : List Nat} {es : List va_E} {post : Option Value → List va_E → Prop} {lv : List (Nat × Value)} (hy : plainName mi.1.cls = true) (hyc : mi.1.cls = own) (hlen : (lg_sl av).length ≤ mi.2.2.1) (hlv : lv_args 0 av = lv)
    (body : ∀ X : Cx, CxL X = l → CxD X = D → Ok X mi.2.1 mi.2.2.1 own d → Rt X mi.2.2.2 post ks → Aw X ks es 0 lv []) : Ct l D mi d av ks es post := by
  intro hl0 sz
  refine Met.ofW (cc := mi.2.1) (maxL := mi.2.2.1) (ret := mi.2.2.2) hy rfl ?_
  intro p e s m args below meth c s₁ B hml hv
  obtain ⟨rfl, hsz, hP, hK, hD0, hW⟩ := hv
  subst hsz
  have hown : s.vm.findClass own = some m.cls := by rw [← hyc]; exact findClass_of_methodNamed B.named
  have hlk : meth.locks = false := B.notSynchronized
  have b := body (p, l, e, (headSpec (wds mi) (rmD d)).room, s, m, av.toArray, below, meth, c, D, va_A (ks.zip es) s.heap.size, mi.2.2.1, MQ below (Qx D ks es s.heap.size post) av.toArray s 0 0 (va_A (ks.zip es) s.heap.size), 0, 0) rfl rfl
    ⟨B.exec, B.bytes, hml, rfl, hown, fun w h => atoms_spec (ws := wds mi) B.pre w (List.mem_cons_of_mem _ h), hK, fun q h => Or.inr h, hlk, Nat.le_refl d, Nat.le_refl (40 * d), hW, Nat.zero_le _, Nat.zero_le _⟩
    ⟨B.returns, _, rfl, fun r es' t locs hp hl hPt hS => ⟨r, es', rfl, hp, hl, hPt, hS.1, hS.2.1⟩⟩
  have he := lv_entry av (n := mi.2.2.1) hlen
  rw [lg_entry_eq]
  rw [hlv] at he
  exact b s.heap [] _ hl0 hP hD0.self va_S.rf he
/-- a weaker end -/
theorem Ct.mono {l : Launch} {D : va_G} {mi : MI} {d : Nat} {av : List Value} {ks : List Nat} {es : List va_E} {post post' : Option Value → List va_E → Prop} (h : Ct l D mi d av ks es post) (hp : ∀ r es', post r es' → post' r es') : Ct l D mi d av ks es post' := by
  intro hl sz p e ha hc hk s m args below hf happ hP hK
  obtain ⟨k, o, h1, h2, h3, ⟨r, es', e1, e2, e3⟩, h5⟩ := h hl sz p e ha hc hk s m args below hf happ hP hK
  exact ⟨k, o, h1, h2, h3, ⟨r, es', e1, hp r es' e2, e3⟩, h5⟩
