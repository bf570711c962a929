
/-! rows of numbers and of numbers-or-none -/
def eo : Option Nat → Int32
  | none => -1
  | some r => nI r
def opf (f : Nat → Option Nat) : Nat → Int32 := fun j => eo (f j)
def nf (f : Nat → Nat) : Nat → Int32 := fun j => nI (f j)
theorem upd_nf (f : Nat → Nat) (i v : Nat) : upd (nf f) i (nI v) = nf (va_up f i v) := by
  funext j
  simp only [upd, nf, va_up]
  split <;> rfl
theorem upd_opf (f : Nat → Option Nat) (i : Nat) (v : Option Nat) : upd (opf f) i (eo v) = opf (va_up f i v) := by
  funext j
  simp only [upd, opf, va_up]
  split <;> rfl
theorem nI_ne_m1 {r : Nat} (h : r < 2 ^ 31) : nI r ≠ -1 := fun e => by
  have h1 := nI_pos h
  rw [e] at h1
  exact h1 (by decide)
theorem eo_m1 {x : Option Nat} (h : ∀ r, x = some r → r < 2 ^ 31) : eo x = -1 ↔ x = none := by
  cases x with
  | none => simp [eo]
  | some r => simp only [eo, reduceCtorEq, iff_false]; exact nI_ne_m1 (h r rfl)
theorem eo_lt0 {x : Option Nat} (h : ∀ r, x = some r → r < 2 ^ 31) : eo x < 0 ↔ x = none := by
  cases x with
  | none => simp only [eo, iff_true]; decide
  | some r => simp only [eo, reduceCtorEq, iff_false]; exact nI_pos (h r rfl)

theorem r_ialdNn {X : Cx} {cc : ByteArray} {nL d : Nat} {own : String} (hX : Ok X cc nL own d) {ks : List Nat} {es : List va_E} {pc n : Nat} {lv : List (Nat × Value)} {rest : List Value} {a m0 : Nat} (q : Nat) (hk : ks[q]? = some a) {f : Nat → Nat} (he : es[q]? = some (aI (CxD X) m0 (nf f))) {i : Nat} (hin : i < m0) (hm : m0 < 2 ^ 31) (hd : decode cc pc = .ok (.iaload, 1)) (hn : pc + 1 = n) (k : Aw X ks es n lv (.int (nI (f i)) :: rest)) : Aw X ks es pc lv (.int (nI i) :: .ref a :: rest) :=
  r_ialdn hX q hk he hin hm hd hn k
theorem r_ialdOn {X : Cx} {cc : ByteArray} {nL d : Nat} {own : String} (hX : Ok X cc nL own d) {ks : List Nat} {es : List va_E} {pc n : Nat} {lv : List (Nat × Value)} {rest : List Value} {a m0 : Nat} (q : Nat) (hk : ks[q]? = some a) {f : Nat → Option Nat} (he : es[q]? = some (aI (CxD X) m0 (opf f))) {i : Nat} (hin : i < m0) (hm : m0 < 2 ^ 31) (hd : decode cc pc = .ok (.iaload, 1)) (hn : pc + 1 = n) (k : Aw X ks es n lv (.int (eo (f i)) :: rest)) : Aw X ks es pc lv (.int (nI i) :: .ref a :: rest) :=
  r_ialdn hX q hk he hin hm hd hn k
theorem r_iastNn {X : Cx} {cc : ByteArray} {nL d : Nat} {own : String} (hX : Ok X cc nL own d) {ks : List Nat} {es : List va_E} {pc n : Nat} {lv : List (Nat × Value)} {rest : List Value} {a m0 : Nat} (q : Nat) (hk : ks[q]? = some a) {f : Nat → Nat} (he : es[q]? = some (aI (CxD X) m0 (nf f))) {i : Nat} (v : Nat) (es' : List va_E) (hin : i < m0) (hm : m0 < 2 ^ 31) (hes : es.set q (aI (CxD X) m0 (nf (va_up f i v))) = es') (hd : decode cc pc = .ok (.iastore, 1)) (hn : pc + 1 = n) (k : Aw X ks es' n lv rest) : Aw X ks es pc lv (.int (nI v) :: .int (nI i) :: .ref a :: rest) :=
  r_iastn hX q hk he es' hin hm (by rw [upd_nf]; exact hes) hd hn k
theorem r_iastOn {X : Cx} {cc : ByteArray} {nL d : Nat} {own : String} (hX : Ok X cc nL own d) {ks : List Nat} {es : List va_E} {pc n : Nat} {lv : List (Nat × Value)} {rest : List Value} {a m0 : Nat} (q : Nat) (hk : ks[q]? = some a) {f : Nat → Option Nat} (he : es[q]? = some (aI (CxD X) m0 (opf f))) {i : Nat} (v : Option Nat) (es' : List va_E) (hin : i < m0) (hm : m0 < 2 ^ 31) (hes : es.set q (aI (CxD X) m0 (opf (va_up f i v))) = es') (hd : decode cc pc = .ok (.iastore, 1)) (hn : pc + 1 = n) (k : Aw X ks es' n lv rest) : Aw X ks es pc lv (.int (eo v) :: .int (nI i) :: .ref a :: rest) :=
  r_iastn hX q hk he es' hin hm (by rw [upd_opf]; exact hes) hd hn k
theorem r_icmp_eq_o {X : Cx} {cc : ByteArray} {nL d : Nat} {own : String} (hX : Ok X cc nL own d) {ks : List Nat} {es : List va_E} {pc tgt : Nat} {lv : List (Nat × Value)} {rest : List Value} {off : Int} {n : Nat} {x : Option Nat} (hx : ∀ r, x = some r → r < 2 ^ 31) (hd : decode cc pc = .ok (.if_icmp .eq off, 3)) (ht : (pc : Int) + off = (tgt : Int)) (hn : pc + 3 = n) (kt : x = none → Aw X ks es tgt lv rest) (kf : x ≠ none → Aw X ks es n lv rest) : Aw X ks es pc lv (.int (-1) :: .int (eo x) :: rest) :=
  r_icmp_eq hX hd ht hn (fun h => kt ((eo_m1 hx).mp h)) (fun h => kf (fun z => h ((eo_m1 hx).mpr z)))
theorem r_icmp_ne_o {X : Cx} {cc : ByteArray} {nL d : Nat} {own : String} (hX : Ok X cc nL own d) {ks : List Nat} {es : List va_E} {pc tgt : Nat} {lv : List (Nat × Value)} {rest : List Value} {off : Int} {n : Nat} {x : Option Nat} (hx : ∀ r, x = some r → r < 2 ^ 31) (hd : decode cc pc = .ok (.if_icmp .ne off, 3)) (ht : (pc : Int) + off = (tgt : Int)) (hn : pc + 3 = n) (kt : x ≠ none → Aw X ks es tgt lv rest) (kf : x = none → Aw X ks es n lv rest) : Aw X ks es pc lv (.int (-1) :: .int (eo x) :: rest) :=
  r_icmp_ne hX hd ht hn (fun h => kt (fun z => h ((eo_m1 hx).mpr z))) (fun h => kf ((eo_m1 hx).mp h))
theorem r_if_lt_o {X : Cx} {cc : ByteArray} {nL d : Nat} {own : String} (hX : Ok X cc nL own d) {ks : List Nat} {es : List va_E} {pc tgt : Nat} {lv : List (Nat × Value)} {rest : List Value} {off : Int} {n : Nat} {x : Option Nat} (hx : ∀ r, x = some r → r < 2 ^ 31) (hd : decode cc pc = .ok (.ifCond .lt off, 3)) (ht : (pc : Int) + off = (tgt : Int)) (hn : pc + 3 = n) (kt : x = none → Aw X ks es tgt lv rest) (kf : x ≠ none → Aw X ks es n lv rest) : Aw X ks es pc lv (.int (eo x) :: rest) :=
  r_if_lt hX hd ht hn (fun h => kt ((eo_lt0 hx).mp h)) (fun h => kf (fun z => h ((eo_lt0 hx).mpr z)))
theorem r_if_ge_o {X : Cx} {cc : ByteArray} {nL d : Nat} {own : String} (hX : Ok X cc nL own d) {ks : List Nat} {es : List va_E} {pc tgt : Nat} {lv : List (Nat × Value)} {rest : List Value} {off : Int} {n : Nat} {x : Option Nat} (hx : ∀ r, x = some r → r < 2 ^ 31) (hd : decode cc pc = .ok (.ifCond .ge off, 3)) (ht : (pc : Int) + off = (tgt : Int)) (hn : pc + 3 = n) (kt : x ≠ none → Aw X ks es tgt lv rest) (kf : x = none → Aw X ks es n lv rest) : Aw X ks es pc lv (.int (eo x) :: rest) :=
  r_if_ge hX hd ht hn (fun h => kt (fun z => absurd ((eo_lt0 hx).mpr z) (Int32.not_lt.mpr h))) (fun h => kf ((eo_lt0 hx).mp (Int32.not_le.mp h)))
