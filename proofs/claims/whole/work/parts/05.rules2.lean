
/-! booleans: a Bool as the int that the machine has for it -/
def b2 : Bool → Int32
  | true => 1
  | false => 0
def zf (f : Nat → Bool) : Nat → Int32 := fun j => b2 (f j)
def updB (f : Nat → Bool) (k : Nat) (x : Bool) : Nat → Bool := fun j => if j = k then x else f j
theorem narb (b : Bool) : narrow .boolean (.int (b2 b)) = .int (b2 b) := by cases b <;> rfl
theorem fitb (b : Bool) : fits .boolean (.int (b2 b)) = true := by cases b <;> rfl
theorem vnb (b : Bool) : vp_nar .boolean (b2 b) = b2 b := by cases b <;> rfl
theorem upd_zf (f : Nat → Bool) (i : Nat) (v : Bool) : upd (zf f) i (vp_nar .boolean (b2 v)) = zf (updB f i v) := by
  funext j
  simp only [upd, zf, updB, vnb]
  split <;> rfl
theorem b2_eq0 (b : Bool) : b2 b = 0 ↔ b = false := by cases b <;> decide
theorem b2_ne0 (b : Bool) : ¬ b2 b = 0 ↔ b = true := by cases b <;> decide

theorem r_icmp_eq_n {X : Cx} {cc : ByteArray} {nL d : Nat} {own : String} (hX : Ok X cc nL own d) {ks : List Nat} {es : List va_E} {pc tgt : Nat} {lv : List (Nat × Value)} {rest : List Value} {off : Int} {n : Nat} (a b : Nat) (ha : a < 2 ^ 31) (hb : b < 2 ^ 31) (hd : decode cc pc = .ok (.if_icmp .eq off, 3)) (ht : (pc : Int) + off = (tgt : Int)) (hn : pc + 3 = n) (kt : a = b → Aw X ks es tgt lv rest) (kf : a ≠ b → Aw X ks es n lv rest) : Aw X ks es pc lv (.int (nI b) :: .int (nI a) :: rest) :=
  r_icmp_eq hX hd ht hn (fun h => kt ((nI_eq ha hb).mp h)) (fun h => kf (fun z => h ((nI_eq ha hb).mpr z)))
theorem r_icmp_ne_n {X : Cx} {cc : ByteArray} {nL d : Nat} {own : String} (hX : Ok X cc nL own d) {ks : List Nat} {es : List va_E} {pc tgt : Nat} {lv : List (Nat × Value)} {rest : List Value} {off : Int} {n : Nat} (a b : Nat) (ha : a < 2 ^ 31) (hb : b < 2 ^ 31) (hd : decode cc pc = .ok (.if_icmp .ne off, 3)) (ht : (pc : Int) + off = (tgt : Int)) (hn : pc + 3 = n) (kt : a ≠ b → Aw X ks es tgt lv rest) (kf : a = b → Aw X ks es n lv rest) : Aw X ks es pc lv (.int (nI b) :: .int (nI a) :: rest) :=
  r_icmp_ne hX hd ht hn (fun h => kt (fun z => h ((nI_eq ha hb).mpr z))) (fun h => kf ((nI_eq ha hb).mp h))
theorem r_icmp_lt_n {X : Cx} {cc : ByteArray} {nL d : Nat} {own : String} (hX : Ok X cc nL own d) {ks : List Nat} {es : List va_E} {pc tgt : Nat} {lv : List (Nat × Value)} {rest : List Value} {off : Int} {n : Nat} (a b : Nat) (ha : a < 2 ^ 31) (hb : b < 2 ^ 31) (hd : decode cc pc = .ok (.if_icmp .lt off, 3)) (ht : (pc : Int) + off = (tgt : Int)) (hn : pc + 3 = n) (kt : a < b → Aw X ks es tgt lv rest) (kf : b ≤ a → Aw X ks es n lv rest) : Aw X ks es pc lv (.int (nI b) :: .int (nI a) :: rest) :=
  r_icmp_lt hX hd ht hn (fun h => kt ((nI_ltI ha hb).mp h)) (fun h => kf (Nat.le_of_not_lt fun z => h ((nI_ltI ha hb).mpr z)))
theorem r_icmp_ge_n {X : Cx} {cc : ByteArray} {nL d : Nat} {own : String} (hX : Ok X cc nL own d) {ks : List Nat} {es : List va_E} {pc tgt : Nat} {lv : List (Nat × Value)} {rest : List Value} {off : Int} {n : Nat} (a b : Nat) (ha : a < 2 ^ 31) (hb : b < 2 ^ 31) (hd : decode cc pc = .ok (.if_icmp .ge off, 3)) (ht : (pc : Int) + off = (tgt : Int)) (hn : pc + 3 = n) (kt : b ≤ a → Aw X ks es tgt lv rest) (kf : a < b → Aw X ks es n lv rest) : Aw X ks es pc lv (.int (nI b) :: .int (nI a) :: rest) :=
  r_icmp_ge hX hd ht hn (fun h => kt ((nI_leI hb ha).mp h)) (fun h => kf (Nat.lt_of_not_le fun z => h ((nI_leI hb ha).mpr z)))
theorem r_icmp_gt_n {X : Cx} {cc : ByteArray} {nL d : Nat} {own : String} (hX : Ok X cc nL own d) {ks : List Nat} {es : List va_E} {pc tgt : Nat} {lv : List (Nat × Value)} {rest : List Value} {off : Int} {n : Nat} (a b : Nat) (ha : a < 2 ^ 31) (hb : b < 2 ^ 31) (hd : decode cc pc = .ok (.if_icmp .gt off, 3)) (ht : (pc : Int) + off = (tgt : Int)) (hn : pc + 3 = n) (kt : b < a → Aw X ks es tgt lv rest) (kf : a ≤ b → Aw X ks es n lv rest) : Aw X ks es pc lv (.int (nI b) :: .int (nI a) :: rest) :=
  r_icmp_gt hX hd ht hn (fun h => kt ((nI_ltI hb ha).mp h)) (fun h => kf (Nat.le_of_not_lt fun z => h ((nI_ltI hb ha).mpr z)))
theorem r_icmp_le_n {X : Cx} {cc : ByteArray} {nL d : Nat} {own : String} (hX : Ok X cc nL own d) {ks : List Nat} {es : List va_E} {pc tgt : Nat} {lv : List (Nat × Value)} {rest : List Value} {off : Int} {n : Nat} (a b : Nat) (ha : a < 2 ^ 31) (hb : b < 2 ^ 31) (hd : decode cc pc = .ok (.if_icmp .le off, 3)) (ht : (pc : Int) + off = (tgt : Int)) (hn : pc + 3 = n) (kt : a ≤ b → Aw X ks es tgt lv rest) (kf : b < a → Aw X ks es n lv rest) : Aw X ks es pc lv (.int (nI b) :: .int (nI a) :: rest) :=
  r_icmp_le hX hd ht hn (fun h => kt ((nI_leI ha hb).mp h)) (fun h => kf (Nat.lt_of_not_le fun z => h ((nI_leI ha hb).mpr z)))

theorem nI_z {a : Nat} (h : a < 2 ^ 31) : nI a = 0 ↔ a = 0 := nI_eq (a := a) (b := 0) h (by decide)
theorem nI_gtz {a : Nat} (h : a < 2 ^ 31) : (0 : Int32) < nI a ↔ 0 < a := nI_ltI (a := 0) (b := a) (by decide) h
theorem nI_lez {a : Nat} (h : a < 2 ^ 31) : nI a ≤ 0 ↔ a ≤ 0 := nI_leI (a := a) (b := 0) h (by decide)

theorem r_if_eq_n {X : Cx} {cc : ByteArray} {nL d : Nat} {own : String} (hX : Ok X cc nL own d) {ks : List Nat} {es : List va_E} {pc tgt : Nat} {lv : List (Nat × Value)} {rest : List Value} {off : Int} {n : Nat} (a : Nat) (ha : a < 2 ^ 31) (hd : decode cc pc = .ok (.ifCond .eq off, 3)) (ht : (pc : Int) + off = (tgt : Int)) (hn : pc + 3 = n) (kt : a = 0 → Aw X ks es tgt lv rest) (kf : a ≠ 0 → Aw X ks es n lv rest) : Aw X ks es pc lv (.int (nI a) :: rest) :=
  r_if_eq hX hd ht hn (fun h => kt ((nI_z ha).mp h)) (fun h => kf (fun z => h ((nI_z ha).mpr z)))
theorem r_if_ne_n {X : Cx} {cc : ByteArray} {nL d : Nat} {own : String} (hX : Ok X cc nL own d) {ks : List Nat} {es : List va_E} {pc tgt : Nat} {lv : List (Nat × Value)} {rest : List Value} {off : Int} {n : Nat} (a : Nat) (ha : a < 2 ^ 31) (hd : decode cc pc = .ok (.ifCond .ne off, 3)) (ht : (pc : Int) + off = (tgt : Int)) (hn : pc + 3 = n) (kt : a ≠ 0 → Aw X ks es tgt lv rest) (kf : a = 0 → Aw X ks es n lv rest) : Aw X ks es pc lv (.int (nI a) :: rest) :=
  r_if_ne hX hd ht hn (fun h => kt (fun z => h ((nI_z ha).mpr z))) (fun h => kf ((nI_z ha).mp h))
theorem r_if_gt_n {X : Cx} {cc : ByteArray} {nL d : Nat} {own : String} (hX : Ok X cc nL own d) {ks : List Nat} {es : List va_E} {pc tgt : Nat} {lv : List (Nat × Value)} {rest : List Value} {off : Int} {n : Nat} (a : Nat) (ha : a < 2 ^ 31) (hd : decode cc pc = .ok (.ifCond .gt off, 3)) (ht : (pc : Int) + off = (tgt : Int)) (hn : pc + 3 = n) (kt : 0 < a → Aw X ks es tgt lv rest) (kf : a = 0 → Aw X ks es n lv rest) : Aw X ks es pc lv (.int (nI a) :: rest) :=
  r_if_gt hX hd ht hn (fun h => kt ((nI_gtz ha).mp h)) (fun h => kf (Nat.eq_zero_of_not_pos fun z => h ((nI_gtz ha).mpr z)))
theorem r_if_le_n {X : Cx} {cc : ByteArray} {nL d : Nat} {own : String} (hX : Ok X cc nL own d) {ks : List Nat} {es : List va_E} {pc tgt : Nat} {lv : List (Nat × Value)} {rest : List Value} {off : Int} {n : Nat} (a : Nat) (ha : a < 2 ^ 31) (hd : decode cc pc = .ok (.ifCond .le off, 3)) (ht : (pc : Int) + off = (tgt : Int)) (hn : pc + 3 = n) (kt : a = 0 → Aw X ks es tgt lv rest) (kf : 0 < a → Aw X ks es n lv rest) : Aw X ks es pc lv (.int (nI a) :: rest) :=
  r_if_le hX hd ht hn (fun h => kt (Nat.le_zero.mp ((nI_lez ha).mp h))) (fun h => kf (Nat.pos_of_ne_zero fun z => h ((nI_lez ha).mpr (Nat.le_of_eq z))))
theorem r_iflt_n {X : Cx} {cc : ByteArray} {nL d : Nat} {own : String} (hX : Ok X cc nL own d) {ks : List Nat} {es : List va_E} {pc n : Nat} {lv : List (Nat × Value)} {rest : List Value} {off : Int} {a : Nat} (ha : a < 2 ^ 31) (hd : decode cc pc = .ok (.ifCond .lt off, 3)) (hn : pc + 3 = n) {tgt : Nat} (ht : (pc : Int) + off = (tgt : Int)) (k : Aw X ks es n lv rest) : Aw X ks es pc lv (.int (nI a) :: rest) :=
  r_if_lt hX hd ht hn (fun h => absurd h (nI_pos ha)) (fun _ => k)
theorem r_ifge_n {X : Cx} {cc : ByteArray} {nL d : Nat} {own : String} (hX : Ok X cc nL own d) {ks : List Nat} {es : List va_E} {pc tgt : Nat} {lv : List (Nat × Value)} {rest : List Value} {off : Int} {a : Nat} (ha : a < 2 ^ 31) (hd : decode cc pc = .ok (.ifCond .ge off, 3)) (ht : (pc : Int) + off = (tgt : Int)) (k : Aw X ks es tgt lv rest) : Aw X ks es pc lv (.int (nI a) :: rest) :=
  r_if_ge hX hd ht rfl (fun _ => k) (fun h => absurd (nI_pos' ha) h)
theorem r_if_eq_b {X : Cx} {cc : ByteArray} {nL d : Nat} {own : String} (hX : Ok X cc nL own d) {ks : List Nat} {es : List va_E} {pc tgt : Nat} {lv : List (Nat × Value)} {rest : List Value} {off : Int} {n : Nat} {b : Bool} (hd : decode cc pc = .ok (.ifCond .eq off, 3)) (ht : (pc : Int) + off = (tgt : Int)) (hn : pc + 3 = n) (kt : b = false → Aw X ks es tgt lv rest) (kf : b = true → Aw X ks es n lv rest) : Aw X ks es pc lv (.int (b2 b) :: rest) :=
  r_if_eq hX hd ht hn (fun h => kt ((b2_eq0 b).mp h)) (fun h => kf ((b2_ne0 b).mp h))
theorem r_if_ne_b {X : Cx} {cc : ByteArray} {nL d : Nat} {own : String} (hX : Ok X cc nL own d) {ks : List Nat} {es : List va_E} {pc tgt : Nat} {lv : List (Nat × Value)} {rest : List Value} {off : Int} {n : Nat} {b : Bool} (hd : decode cc pc = .ok (.ifCond .ne off, 3)) (ht : (pc : Int) + off = (tgt : Int)) (hn : pc + 3 = n) (kt : b = true → Aw X ks es tgt lv rest) (kf : b = false → Aw X ks es n lv rest) : Aw X ks es pc lv (.int (b2 b) :: rest) :=
  r_if_ne hX hd ht hn (fun h => kt ((b2_ne0 b).mp h)) (fun h => kf ((b2_eq0 b).mp h))
theorem r_zaldbn {X : Cx} {cc : ByteArray} {nL d : Nat} {own : String} (hX : Ok X cc nL own d) {ks : List Nat} {es : List va_E} {pc n : Nat} {lv : List (Nat × Value)} {rest : List Value} {a m0 : Nat} (q : Nat) (hk : ks[q]? = some a) {f : Nat → Bool} (he : es[q]? = some (aZ (CxD X) m0 (zf f))) {i : Nat} (hin : i < m0) (hm : m0 < 2 ^ 31) (hd : decode cc pc = .ok (.baload, 1)) (hn : pc + 1 = n) (k : Aw X ks es n lv (.int (b2 (f i)) :: rest)) : Aw X ks es pc lv (.int (nI i) :: .ref a :: rest) :=
  r_zaldn hX q hk he hin hm hd hn k
theorem r_zaldb {X : Cx} {cc : ByteArray} {nL d : Nat} {own : String} (hX : Ok X cc nL own d) {ks : List Nat} {es : List va_E} {pc n : Nat} {lv : List (Nat × Value)} {rest : List Value} {a m0 : Nat} (q : Nat) (hk : ks[q]? = some a) {f : Nat → Bool} (he : es[q]? = some (aZ (CxD X) m0 (zf f))) {i : Int32} (hin : vp_in i m0) (hd : decode cc pc = .ok (.baload, 1)) (hn : pc + 1 = n) (k : Aw X ks es n lv (.int (b2 (f i.toNatClampNeg)) :: rest)) : Aw X ks es pc lv (.int i :: .ref a :: rest) :=
  r_zald hX q hk he hin hd hn k
theorem r_zastbn {X : Cx} {cc : ByteArray} {nL d : Nat} {own : String} (hX : Ok X cc nL own d) {ks : List Nat} {es : List va_E} {pc n : Nat} {lv : List (Nat × Value)} {rest : List Value} {a m0 : Nat} (q : Nat) (hk : ks[q]? = some a) {f : Nat → Bool} (he : es[q]? = some (aZ (CxD X) m0 (zf f))) {i : Nat} (v : Bool) (es' : List va_E) (hin : i < m0) (hm : m0 < 2 ^ 31) (hes : es.set q (aZ (CxD X) m0 (zf (updB f i v))) = es') (hd : decode cc pc = .ok (.bastore, 1)) (hn : pc + 1 = n) (k : Aw X ks es' n lv rest) : Aw X ks es pc lv (.int (b2 v) :: .int (nI i) :: .ref a :: rest) :=
  r_zastn hX q hk he es' hin hm (by rw [upd_zf]; exact hes) hd hn k
theorem r_zastb {X : Cx} {cc : ByteArray} {nL d : Nat} {own : String} (hX : Ok X cc nL own d) {ks : List Nat} {es : List va_E} {pc n : Nat} {lv : List (Nat × Value)} {rest : List Value} {a m0 : Nat} (q : Nat) (hk : ks[q]? = some a) {f : Nat → Bool} (he : es[q]? = some (aZ (CxD X) m0 (zf f))) {i : Int32} (v : Bool) (es' : List va_E) (hin : vp_in i m0) (hes : es.set q (aZ (CxD X) m0 (zf (updB f i.toNatClampNeg v))) = es') (hd : decode cc pc = .ok (.bastore, 1)) (hn : pc + 1 = n) (k : Aw X ks es' n lv rest) : Aw X ks es pc lv (.int (b2 v) :: .int i :: .ref a :: rest) :=
  r_zast hX q hk he es' hin (by rw [upd_zf]; exact hes) hd hn k

/-! a counted loop: from place j on, the state goes on by body, up to N -/
def foldF {σ : Type} (body : Nat → σ → σ) : Nat → Nat → σ → σ
  | 0, _, s => s
  | m + 1, j, s => foldF body m (j + 1) (body j s)
theorem loop_for {σ : Type} (P : Nat → σ → Prop) (body : Nat → σ → σ) (N : Nat) (step : ∀ j s, j < N → P (j + 1) (body j s) → P j s) : ∀ (m j : Nat) (s : σ), j + m = N → P N (foldF body m j s) → P j s
  | 0, j, s, h, k => by simp only [foldF] at k; rw [show j = N by omega]; exact k
  | m + 1, j, s, h, k => step j s (by omega) (loop_for P body N step m (j + 1) (body j s) (by omega) k)

abbrev m_X0_add : MI := (yX0_add, cX0_add, 4, some FieldType.int)
theorem cv_X0_add : CalV m_X0_add RX0 3 := ⟨⟨im_X0_add, se_X0_add, ii_X0, cd_X0_add⟩, by decide +kernel, by decide⟩
abbrev m_X0_latest : MI := (yX0_latest, cX0_latest, 4, some FieldType.int)
theorem cv_X0_latest : CalV m_X0_latest RX0 2 := ⟨⟨im_X0_latest, se_X0_latest, ii_X0, cd_X0_latest⟩, by decide +kernel, by decide⟩
abbrev m_X0_fill : MI := (yX0_fill, cX0_fill, 4, none)
theorem cv_X0_fill : CalV m_X0_fill RX0 2 := ⟨⟨im_X0_fill, se_X0_fill, ii_X0, cd_X0_fill⟩, by decide +kernel, by decide⟩
abbrev m_X1_fact : MI := (yX1_fact, cX1_fact, 4, some FieldType.int)
theorem cv_X1_fact : CalV m_X1_fact RX1 2 := ⟨⟨im_X1_fact, se_X1_fact, ii_X1, cd_X1_fact⟩, by decide +kernel, by decide⟩
abbrev m_X1_reason : MI := (yX1_reason, cX1_reason, 6, some FieldType.int)
theorem cv_X1_reason : CalV m_X1_reason RX1 4 := ⟨⟨im_X1_reason, se_X1_reason, ii_X1, cd_X1_reason⟩, by decide +kernel, by decide⟩
abbrev m_X1_costOrNone : MI := (yX1_costOrNone, cX1_costOrNone, 7, some FieldType.int)
theorem cv_X1_costOrNone : CalV m_X1_costOrNone RX1 4 := ⟨⟨im_X1_costOrNone, se_X1_costOrNone, ii_X1, cd_X1_costOrNone⟩, by decide +kernel, by decide⟩
abbrev m_X1_holds : MI := (yX1_holds, cX1_holds, 6, some FieldType.boolean)
theorem cv_X1_holds : CalV m_X1_holds RX1 4 := ⟨⟨im_X1_holds, se_X1_holds, ii_X1, cd_X1_holds⟩, by decide +kernel, by decide⟩
abbrev m_X1_valueOf : MI := (yX1_valueOf, cX1_valueOf, 9, some FieldType.int)
theorem cv_X1_valueOf : CalV m_X1_valueOf RX1 5 := ⟨⟨im_X1_valueOf, se_X1_valueOf, ii_X1, cd_X1_valueOf⟩, by decide +kernel, by decide⟩
abbrev m_X1_leaf : MI := (yX1_leaf, cX1_leaf, 5, some FieldType.int)
theorem cv_X1_leaf : CalV m_X1_leaf RX1 4 := ⟨⟨im_X1_leaf, se_X1_leaf, ii_X1, cd_X1_leaf⟩, by decide +kernel, by decide⟩
abbrev m_X1_combine : MI := (yX1_combine, cX1_combine, 3, some FieldType.int)
theorem cs_X1_combine : CalS m_X1_combine RX1 3 := ⟨⟨sm_X1_combine, ii_X1, cd_X1_combine⟩, by decide +kernel, by decide⟩
abbrev m_X2_settle : MI := (yX2_settle, cX2_settle, 4, none)
theorem cv_X2_settle : CalV m_X2_settle RX2 3 := ⟨⟨im_X2_settle, se_X2_settle, ii_X2, cd_X2_settle⟩, by decide +kernel, by decide⟩
abbrev m_X2_pay : MI := (yX2_pay, cX2_pay, 4, none)
theorem cv_X2_pay : CalV m_X2_pay RX2 3 := ⟨⟨im_X2_pay, se_X2_pay, ii_X2, cd_X2_pay⟩, by decide +kernel, by decide⟩
abbrev m_X3_solve : MI := (yX3_solve, cX3_solve, 4, none)
theorem cv_X3_solve : CalV m_X3_solve RX3 1 := ⟨⟨im_X3_solve, se_X3_solve, ii_X3, cd_X3_solve⟩, by decide +kernel, by decide⟩
abbrev m_X3_isTight : MI := (yX3_isTight, cX3_isTight, 5, some FieldType.boolean)
theorem cv_X3_isTight : CalV m_X3_isTight RX3 2 := ⟨⟨im_X3_isTight, se_X3_isTight, ii_X3, cd_X3_isTight⟩, by decide +kernel, by decide⟩
abbrev m_X3_placeRow : MI := (yX3_placeRow, cX3_placeRow, 6, none)
theorem cv_X3_placeRow : CalV m_X3_placeRow RX3 2 := ⟨⟨im_X3_placeRow, se_X3_placeRow, ii_X3, cd_X3_placeRow⟩, by decide +kernel, by decide⟩
abbrev m_X3_nextColumn : MI := (yX3_nextColumn, cX3_nextColumn, 10, some FieldType.int)
theorem cv_X3_nextColumn : CalV m_X3_nextColumn RX3 2 := ⟨⟨im_X3_nextColumn, se_X3_nextColumn, ii_X3, cd_X3_nextColumn⟩, by decide +kernel, by decide⟩
abbrev m_X3_shiftPrices : MI := (yX3_shiftPrices, cX3_shiftPrices, 5, none)
theorem cv_X3_shiftPrices : CalV m_X3_shiftPrices RX3 2 := ⟨⟨im_X3_shiftPrices, se_X3_shiftPrices, ii_X3, cd_X3_shiftPrices⟩, by decide +kernel, by decide⟩
abbrev m_X4_exchange : MI := (yX4_exchange, cX4_exchange, 3, some (FieldType.object "HostYear$Text"))
theorem cv_X4_exchange : CalV m_X4_exchange RX4 1 := ⟨⟨im_X4_exchange, se_X4_exchange, ii_X4, cd_X4_exchange⟩, by decide +kernel, by decide⟩
abbrev m_X4_parse : MI := (yX4_parse, cX4_parse, 3, some FieldType.int)
theorem cv_X4_parse : CalV m_X4_parse RX4 1 := ⟨⟨im_X4_parse, se_X4_parse, ii_X4, cd_X4_parse⟩, by decide +kernel, by decide⟩
abbrev m_X4_readTrait : MI := (yX4_readTrait, cX4_readTrait, 3, none)
theorem cv_X4_readTrait : CalV m_X4_readTrait RX4 0 := ⟨⟨im_X4_readTrait, se_X4_readTrait, ii_X4, cd_X4_readTrait⟩, by decide +kernel, by decide⟩
abbrev m_X4_readRule : MI := (yX4_readRule, cX4_readRule, 4, none)
theorem cv_X4_readRule : CalV m_X4_readRule RX4 0 := ⟨⟨im_X4_readRule, se_X4_readRule, ii_X4, cd_X4_readRule⟩, by decide +kernel, by decide⟩
abbrev m_X4_readCond : MI := (yX4_readCond, cX4_readCond, 2, none)
theorem cv_X4_readCond : CalV m_X4_readCond RX4 0 := ⟨⟨im_X4_readCond, se_X4_readCond, ii_X4, cd_X4_readCond⟩, by decide +kernel, by decide⟩
abbrev m_X4_readAll : MI := (yX4_readAll, cX4_readAll, 2, none)
theorem cv_X4_readAll : CalV m_X4_readAll RX4 0 := ⟨⟨im_X4_readAll, se_X4_readAll, ii_X4, cd_X4_readAll⟩, by decide +kernel, by decide⟩
abbrev m_X4_readLit : MI := (yX4_readLit, cX4_readLit, 2, none)
theorem cv_X4_readLit : CalV m_X4_readLit RX4 0 := ⟨⟨im_X4_readLit, se_X4_readLit, ii_X4, cd_X4_readLit⟩, by decide +kernel, by decide⟩
abbrev m_X4_relationStep : MI := (yX4_relationStep, cX4_relationStep, 1, some FieldType.int)
theorem cv_X4_relationStep : CalV m_X4_relationStep RX4 0 := ⟨⟨im_X4_relationStep, se_X4_relationStep, ii_X4, cd_X4_relationStep⟩, by decide +kernel, by decide⟩
abbrev m_X4_readSum : MI := (yX4_readSum, cX4_readSum, 4, none)
theorem cv_X4_readSum : CalV m_X4_readSum RX4 0 := ⟨⟨im_X4_readSum, se_X4_readSum, ii_X4, cd_X4_readSum⟩, by decide +kernel, by decide⟩
abbrev m_X4_readPart : MI := (yX4_readPart, cX4_readPart, 2, none)
theorem cv_X4_readPart : CalV m_X4_readPart RX4 0 := ⟨⟨im_X4_readPart, se_X4_readPart, ii_X4, cd_X4_readPart⟩, by decide +kernel, by decide⟩
abbrev m_X4_readUnit : MI := (yX4_readUnit, cX4_readUnit, 1, none)
theorem cv_X4_readUnit : CalV m_X4_readUnit RX4 0 := ⟨⟨im_X4_readUnit, se_X4_readUnit, ii_X4, cd_X4_readUnit⟩, by decide +kernel, by decide⟩
abbrev m_X4_readTraitOf : MI := (yX4_readTraitOf, cX4_readTraitOf, 3, none)
theorem cv_X4_readTraitOf : CalV m_X4_readTraitOf RX4 1 := ⟨⟨im_X4_readTraitOf, se_X4_readTraitOf, ii_X4, cd_X4_readTraitOf⟩, by decide +kernel, by decide⟩
abbrev m_X4_sees : MI := (yX4_sees, cX4_sees, 2, some FieldType.boolean)
theorem cv_X4_sees : CalV m_X4_sees RX4 1 := ⟨⟨im_X4_sees, se_X4_sees, ii_X4, cd_X4_sees⟩, by decide +kernel, by decide⟩
abbrev m_X4_accepts : MI := (yX4_accepts, cX4_accepts, 2, some FieldType.boolean)
theorem cv_X4_accepts : CalV m_X4_accepts RX4 1 := ⟨⟨im_X4_accepts, se_X4_accepts, ii_X4, cd_X4_accepts⟩, by decide +kernel, by decide⟩
abbrev m_X4_opens : MI := (yX4_opens, cX4_opens, 2, some FieldType.boolean)
theorem cv_X4_opens : CalV m_X4_opens RX4 1 := ⟨⟨im_X4_opens, se_X4_opens, ii_X4, cd_X4_opens⟩, by decide +kernel, by decide⟩
abbrev m_X4_expect : MI := (yX4_expect, cX4_expect, 2, none)
theorem cv_X4_expect : CalV m_X4_expect RX4 1 := ⟨⟨im_X4_expect, se_X4_expect, ii_X4, cd_X4_expect⟩, by decide +kernel, by decide⟩
abbrev m_X4_fail : MI := (yX4_fail, cX4_fail, 2, none)
theorem cv_X4_fail : CalV m_X4_fail RX4 1 := ⟨⟨im_X4_fail, se_X4_fail, ii_X4, cd_X4_fail⟩, by decide +kernel, by decide⟩
abbrev m_X4_failLate : MI := (yX4_failLate, cX4_failLate, 2, none)
theorem cv_X4_failLate : CalV m_X4_failLate RX4 1 := ⟨⟨im_X4_failLate, se_X4_failLate, ii_X4, cd_X4_failLate⟩, by decide +kernel, by decide⟩
abbrev m_X5_forget : MI := (yX5_forget, cX5_forget, 2, none)
theorem cv_X5_forget : CalV m_X5_forget RX5 0 := ⟨⟨im_X5_forget, se_X5_forget, ii_X5, cd_X5_forget⟩, by decide +kernel, by decide⟩
abbrev m_X5_remember : MI := (yX5_remember, cX5_remember, 3, none)
theorem cv_X5_remember : CalV m_X5_remember RX5 1 := ⟨⟨im_X5_remember, se_X5_remember, ii_X5, cd_X5_remember⟩, by decide +kernel, by decide⟩
abbrev m_X5_decide : MI := (yX5_decide, cX5_decide, 3, none)
theorem cv_X5_decide : CalV m_X5_decide RX5 0 := ⟨⟨im_X5_decide, se_X5_decide, ii_X5, cd_X5_decide⟩, by decide +kernel, by decide⟩
abbrev m_X5_costTogether : MI := (yX5_costTogether, cX5_costTogether, 4, some FieldType.int)
theorem cv_X5_costTogether : CalV m_X5_costTogether RX5 0 := ⟨⟨im_X5_costTogether, se_X5_costTogether, ii_X5, cd_X5_costTogether⟩, by decide +kernel, by decide⟩
abbrev m_X5_allows : MI := (yX5_allows, cX5_allows, 5, some FieldType.boolean)
theorem cv_X5_allows : CalV m_X5_allows RX5 1 := ⟨⟨im_X5_allows, se_X5_allows, ii_X5, cd_X5_allows⟩, by decide +kernel, by decide⟩
abbrev m_X5_mayBe : MI := (yX5_mayBe, cX5_mayBe, 4, some FieldType.boolean)
theorem cv_X5_mayBe : CalV m_X5_mayBe RX5 2 := ⟨⟨im_X5_mayBe, se_X5_mayBe, ii_X5, cd_X5_mayBe⟩, by decide +kernel, by decide⟩
abbrev m_X5_mayGo : MI := (yX5_mayGo, cX5_mayGo, 3, some FieldType.boolean)
theorem cv_X5_mayGo : CalV m_X5_mayGo RX5 2 := ⟨⟨im_X5_mayGo, se_X5_mayGo, ii_X5, cd_X5_mayGo⟩, by decide +kernel, by decide⟩
abbrev m_X5_weighPlaces : MI := (yX5_weighPlaces, cX5_weighPlaces, 3, none)
theorem cv_X5_weighPlaces : CalV m_X5_weighPlaces RX5 0 := ⟨⟨im_X5_weighPlaces, se_X5_weighPlaces, ii_X5, cd_X5_weighPlaces⟩, by decide +kernel, by decide⟩
abbrev m_X5_placeWeight : MI := (yX5_placeWeight, cX5_placeWeight, 4, some FieldType.long)
theorem cv_X5_placeWeight : CalV m_X5_placeWeight RX5 2 := ⟨⟨im_X5_placeWeight, se_X5_placeWeight, ii_X5, cd_X5_placeWeight⟩, by decide +kernel, by decide⟩
abbrev m_X5_weighOrder : MI := (yX5_weighOrder, cX5_weighOrder, 6, none)
theorem cv_X5_weighOrder : CalV m_X5_weighOrder RX5 0 := ⟨⟨im_X5_weighOrder, se_X5_weighOrder, ii_X5, cd_X5_weighOrder⟩, by decide +kernel, by decide⟩
abbrev m_X6_append : MI := (yX6_append, cX6_append, 3, none)
theorem cv_X6_append : CalV m_X6_append RX6 1 := ⟨⟨im_X6_append, se_X6_append, ii_X6, cd_X6_append⟩, by decide +kernel, by decide⟩
abbrev m_X6_byteAt : MI := (yX6_byteAt, cX6_byteAt, 2, some FieldType.int)
theorem cv_X6_byteAt : CalV m_X6_byteAt RX6 1 := ⟨⟨im_X6_byteAt, se_X6_byteAt, ii_X6, cd_X6_byteAt⟩, by decide +kernel, by decide⟩
abbrev m_X7_clear : MI := (yX7_clear, cX7_clear, 1, none)
theorem cv_X7_clear : CalV m_X7_clear RX7 0 := ⟨⟨im_X7_clear, se_X7_clear, ii_X7, cd_X7_clear⟩, by decide +kernel, by decide⟩
abbrev m_X7_addStep : MI := (yX7_addStep, cX7_addStep, 3, none)
theorem cv_X7_addStep : CalV m_X7_addStep RX7 2 := ⟨⟨im_X7_addStep, se_X7_addStep, ii_X7, cd_X7_addStep⟩, by decide +kernel, by decide⟩
abbrev m_X7_addTrait : MI := (yX7_addTrait, cX7_addTrait, 3, none)
theorem cv_X7_addTrait : CalV m_X7_addTrait RX7 1 := ⟨⟨im_X7_addTrait, se_X7_addTrait, ii_X7, cd_X7_addTrait⟩, by decide +kernel, by decide⟩
abbrev m_X7_traitNamed : MI := (yX7_traitNamed, cX7_traitNamed, 4, some FieldType.int)
theorem cv_X7_traitNamed : CalV m_X7_traitNamed RX7 1 := ⟨⟨im_X7_traitNamed, se_X7_traitNamed, ii_X7, cd_X7_traitNamed⟩, by decide +kernel, by decide⟩
abbrev m_X7_addRule : MI := (yX7_addRule, cX7_addRule, 4, none)
theorem cv_X7_addRule : CalV m_X7_addRule RX7 3 := ⟨⟨im_X7_addRule, se_X7_addRule, ii_X7, cd_X7_addRule⟩, by decide +kernel, by decide⟩
abbrev m_X8_scan : MI := (yX8_scan, cX8_scan, 5, none)
theorem cv_X8_scan : CalV m_X8_scan RX8 1 := ⟨⟨im_X8_scan, se_X8_scan, ii_X8, cd_X8_scan⟩, by decide +kernel, by decide⟩
abbrev m_X8_behindBlanks : MI := (yX8_behindBlanks, cX8_behindBlanks, 3, some FieldType.int)
theorem cs_X8_behindBlanks : CalS m_X8_behindBlanks RX8 2 := ⟨⟨sm_X8_behindBlanks, ii_X8, cd_X8_behindBlanks⟩, by decide +kernel, by decide⟩
abbrev m_X8_scanOne : MI := (yX8_scanOne, cX8_scanOne, 6, some FieldType.int)
theorem cv_X8_scanOne : CalV m_X8_scanOne RX8 3 := ⟨⟨im_X8_scanOne, se_X8_scanOne, ii_X8, cd_X8_scanOne⟩, by decide +kernel, by decide⟩
abbrev m_X8_scanName : MI := (yX8_scanName, cX8_scanName, 7, some FieldType.int)
theorem cv_X8_scanName : CalV m_X8_scanName RX8 3 := ⟨⟨im_X8_scanName, se_X8_scanName, ii_X8, cd_X8_scanName⟩, by decide +kernel, by decide⟩
abbrev m_X8_scanNumber : MI := (yX8_scanNumber, cX8_scanNumber, 7, some FieldType.int)
theorem cv_X8_scanNumber : CalV m_X8_scanNumber RX8 3 := ⟨⟨im_X8_scanNumber, se_X8_scanNumber, ii_X8, cd_X8_scanNumber⟩, by decide +kernel, by decide⟩
abbrev m_X8_signAt : MI := (yX8_signAt, cX8_signAt, 4, some FieldType.int)
theorem cs_X8_signAt : CalS m_X8_signAt RX8 2 := ⟨⟨sm_X8_signAt, ii_X8, cd_X8_signAt⟩, by decide +kernel, by decide⟩
abbrev m_X8_wordOrName : MI := (yX8_wordOrName, cX8_wordOrName, 3, some FieldType.int)
theorem cs_X8_wordOrName : CalS m_X8_wordOrName RX8 1 := ⟨⟨sm_X8_wordOrName, ii_X8, cd_X8_wordOrName⟩, by decide +kernel, by decide⟩
abbrev m_X8_isBlank : MI := (yX8_isBlank, cX8_isBlank, 1, some FieldType.boolean)
theorem cs_X8_isBlank : CalS m_X8_isBlank RX8 1 := ⟨⟨sm_X8_isBlank, ii_X8, cd_X8_isBlank⟩, by decide +kernel, by decide⟩
abbrev m_X8_isLetter : MI := (yX8_isLetter, cX8_isLetter, 1, some FieldType.boolean)
theorem cs_X8_isLetter : CalS m_X8_isLetter RX8 1 := ⟨⟨sm_X8_isLetter, ii_X8, cd_X8_isLetter⟩, by decide +kernel, by decide⟩
abbrev m_X8_isDigit : MI := (yX8_isDigit, cX8_isDigit, 1, some FieldType.boolean)
theorem cs_X8_isDigit : CalS m_X8_isDigit RX8 1 := ⟨⟨sm_X8_isDigit, ii_X8, cd_X8_isDigit⟩, by decide +kernel, by decide⟩
abbrev m_X9_begin : MI := (yX9_begin, cX9_begin, 3, none)
theorem cv_X9_begin : CalV m_X9_begin RX9 1 := ⟨⟨im_X9_begin, se_X9_begin, ii_X9, cd_X9_begin⟩, by decide +kernel, by decide⟩
abbrev m_X9_dropOut : MI := (yX9_dropOut, cX9_dropOut, 2, none)
theorem cv_X9_dropOut : CalV m_X9_dropOut RX9 1 := ⟨⟨im_X9_dropOut, se_X9_dropOut, ii_X9, cd_X9_dropOut⟩, by decide +kernel, by decide⟩
abbrev m_X9_change : MI := (yX9_change, cX9_change, 3, some FieldType.int)
theorem cv_X9_change : CalV m_X9_change RX9 1 := ⟨⟨im_X9_change, se_X9_change, ii_X9, cd_X9_change⟩, by decide +kernel, by decide⟩
abbrev m_X9_guestOf : MI := (yX9_guestOf, cX9_guestOf, 2, some FieldType.int)
theorem cv_X9_guestOf : CalV m_X9_guestOf RX9 1 := ⟨⟨im_X9_guestOf, se_X9_guestOf, ii_X9, cd_X9_guestOf⟩, by decide +kernel, by decide⟩
abbrev m_X9_clear : MI := (yX9_clear, cX9_clear, 2, none)
theorem cv_X9_clear : CalV m_X9_clear RX9 0 := ⟨⟨im_X9_clear, se_X9_clear, ii_X9, cd_X9_clear⟩, by decide +kernel, by decide⟩
abbrev m_X10_feed : MI := (yX10_feed, cX10_feed, 6, some FieldType.int)
theorem cv_X10_feed : CalV m_X10_feed RX10 5 := ⟨⟨im_X10_feed, se_X10_feed, ii_X10, cd_X10_feed⟩, by decide +kernel, by decide⟩
abbrev m_X10_back : MI := (yX10_back, cX10_back, 2, some FieldType.int)
theorem cv_X10_back : CalV m_X10_back RX10 1 := ⟨⟨im_X10_back, se_X10_back, ii_X10, cd_X10_back⟩, by decide +kernel, by decide⟩
abbrev m_X10_read : MI := (yX10_read, cX10_read, 3, some FieldType.int)
theorem cv_X10_read : CalV m_X10_read RX10 1 := ⟨⟨im_X10_read, se_X10_read, ii_X10, cd_X10_read⟩, by decide +kernel, by decide⟩
abbrev m_X10_place : MI := (yX10_place, cX10_place, 1, some FieldType.int)
theorem cv_X10_place : CalV m_X10_place RX10 0 := ⟨⟨im_X10_place, se_X10_place, ii_X10, cd_X10_place⟩, by decide +kernel, by decide⟩
abbrev m_X10_family : MI := (yX10_family, cX10_family, 1, some FieldType.int)
theorem cv_X10_family : CalV m_X10_family RX10 0 := ⟨⟨im_X10_family, se_X10_family, ii_X10, cd_X10_family⟩, by decide +kernel, by decide⟩
abbrev m_X10_clock : MI := (yX10_clock, cX10_clock, 2, some FieldType.boolean)
theorem cv_X10_clock : CalV m_X10_clock RX10 1 := ⟨⟨im_X10_clock, se_X10_clock, ii_X10, cd_X10_clock⟩, by decide +kernel, by decide⟩
abbrev m_X10_term : MI := (yX10_term, cX10_term, 2, some FieldType.boolean)
theorem cv_X10_term : CalV m_X10_term RX10 1 := ⟨⟨im_X10_term, se_X10_term, ii_X10, cd_X10_term⟩, by decide +kernel, by decide⟩
abbrev m_X10_tell : MI := (yX10_tell, cX10_tell, 5, some FieldType.int)
theorem cv_X10_tell : CalV m_X10_tell RX10 3 := ⟨⟨im_X10_tell, se_X10_tell, ii_X10, cd_X10_tell⟩, by decide +kernel, by decide⟩
abbrev m_X10_known : MI := (yX10_known, cX10_known, 5, some FieldType.int)
theorem cv_X10_known : CalV m_X10_known RX10 3 := ⟨⟨im_X10_known, se_X10_known, ii_X10, cd_X10_known⟩, by decide +kernel, by decide⟩
abbrev m_X10_why : MI := (yX10_why, cX10_why, 6, some FieldType.int)
theorem cv_X10_why : CalV m_X10_why RX10 4 := ⟨⟨im_X10_why, se_X10_why, ii_X10, cd_X10_why⟩, by decide +kernel, by decide⟩
abbrev m_X10_cost : MI := (yX10_cost, cX10_cost, 6, some FieldType.int)
theorem cv_X10_cost : CalV m_X10_cost RX10 4 := ⟨⟨im_X10_cost, se_X10_cost, ii_X10, cd_X10_cost⟩, by decide +kernel, by decide⟩
abbrev m_X10_round : MI := (yX10_round, cX10_round, 5, some FieldType.int)
theorem cv_X10_round : CalV m_X10_round RX10 2 := ⟨⟨im_X10_round, se_X10_round, ii_X10, cd_X10_round⟩, by decide +kernel, by decide⟩
abbrev m_X10_goes : MI := (yX10_goes, cX10_goes, 2, some FieldType.int)
theorem cv_X10_goes : CalV m_X10_goes RX10 1 := ⟨⟨im_X10_goes, se_X10_goes, ii_X10, cd_X10_goes⟩, by decide +kernel, by decide⟩
abbrev m_X10_costs : MI := (yX10_costs, cX10_costs, 1, some FieldType.int)
theorem cv_X10_costs : CalV m_X10_costs RX10 0 := ⟨⟨im_X10_costs, se_X10_costs, ii_X10, cd_X10_costs⟩, by decide +kernel, by decide⟩
abbrev m_X10_take : MI := (yX10_take, cX10_take, 1, some FieldType.int)
theorem cv_X10_take : CalV m_X10_take RX10 0 := ⟨⟨im_X10_take, se_X10_take, ii_X10, cd_X10_take⟩, by decide +kernel, by decide⟩
abbrev m_X10_fall : MI := (yX10_fall, cX10_fall, 2, some FieldType.int)
theorem cv_X10_fall : CalV m_X10_fall RX10 1 := ⟨⟨im_X10_fall, se_X10_fall, ii_X10, cd_X10_fall⟩, by decide +kernel, by decide⟩
abbrev m_X10_moved : MI := (yX10_moved, cX10_moved, 2, some FieldType.int)
theorem cv_X10_moved : CalV m_X10_moved RX10 1 := ⟨⟨im_X10_moved, se_X10_moved, ii_X10, cd_X10_moved⟩, by decide +kernel, by decide⟩
abbrev m_X10_close : MI := (yX10_close, cX10_close, 4, some FieldType.int)
theorem cv_X10_close : CalV m_X10_close RX10 0 := ⟨⟨im_X10_close, se_X10_close, ii_X10, cd_X10_close⟩, by decide +kernel, by decide⟩
abbrev m_X10_link : MI := (yX10_link, cX10_link, 5, some FieldType.int)
theorem cv_X10_link : CalV m_X10_link RX10 2 := ⟨⟨im_X10_link, se_X10_link, ii_X10, cd_X10_link⟩, by decide +kernel, by decide⟩
abbrev m_X10_of : MI := (yX10_of, cX10_of, 3, some FieldType.int)
theorem cv_X10_of : CalV m_X10_of RX10 2 := ⟨⟨im_X10_of, se_X10_of, ii_X10, cd_X10_of⟩, by decide +kernel, by decide⟩
abbrev m_X10_count : MI := (yX10_count, cX10_count, 2, some FieldType.int)
theorem cv_X10_count : CalV m_X10_count RX10 1 := ⟨⟨im_X10_count, se_X10_count, ii_X10, cd_X10_count⟩, by decide +kernel, by decide⟩
abbrev m_X10_isFamily : MI := (yX10_isFamily, cX10_isFamily, 2, some FieldType.boolean)
theorem cv_X10_isFamily : CalV m_X10_isFamily RX10 1 := ⟨⟨im_X10_isFamily, se_X10_isFamily, ii_X10, cd_X10_isFamily⟩, by decide +kernel, by decide⟩
abbrev m_X10_isDay : MI := (yX10_isDay, cX10_isDay, 1, some FieldType.boolean)
theorem cs_X10_isDay : CalS m_X10_isDay RX10 1 := ⟨⟨sm_X10_isDay, ii_X10, cd_X10_isDay⟩, by decide +kernel, by decide⟩
abbrev m_X10_textOf : MI := (yX10_textOf, cX10_textOf, 2, some (FieldType.object "HostYear$Text"))
theorem cv_X10_textOf : CalV m_X10_textOf RX10 1 := ⟨⟨im_X10_textOf, se_X10_textOf, ii_X10, cd_X10_textOf⟩, by decide +kernel, by decide⟩
abbrev m_X10_columnOf : MI := (yX10_columnOf, cX10_columnOf, 2, some FieldType.int)
theorem cv_X10_columnOf : CalV m_X10_columnOf RX10 1 := ⟨⟨im_X10_columnOf, se_X10_columnOf, ii_X10, cd_X10_columnOf⟩, by decide +kernel, by decide⟩
abbrev m_X10_leastOf : MI := (yX10_leastOf, cX10_leastOf, 1, some FieldType.int)
theorem cs_X10_leastOf : CalS m_X10_leastOf RX10 1 := ⟨⟨sm_X10_leastOf, ii_X10, cd_X10_leastOf⟩, by decide +kernel, by decide⟩
abbrev m_X10_mostOf : MI := (yX10_mostOf, cX10_mostOf, 1, some FieldType.int)
theorem cs_X10_mostOf : CalS m_X10_mostOf RX10 1 := ⟨⟨sm_X10_mostOf, ii_X10, cd_X10_mostOf⟩, by decide +kernel, by decide⟩
abbrev m_X10_prepare : MI := (yX10_prepare, cX10_prepare, 6, none)
theorem cv_X10_prepare : CalV m_X10_prepare RX10 2 := ⟨⟨im_X10_prepare, se_X10_prepare, ii_X10, cd_X10_prepare⟩, by decide +kernel, by decide⟩
abbrev m_X10_goingIn : MI := (yX10_goingIn, cX10_goingIn, 3, some FieldType.int)
theorem cs_X10_goingIn : CalS m_X10_goingIn RX10 1 := ⟨⟨sm_X10_goingIn, ii_X10, cd_X10_goingIn⟩, by decide +kernel, by decide⟩
abbrev m_X10_guestIn : MI := (yX10_guestIn, cX10_guestIn, 3, some FieldType.int)
theorem cs_X10_guestIn : CalS m_X10_guestIn RX10 2 := ⟨⟨sm_X10_guestIn, ii_X10, cd_X10_guestIn⟩, by decide +kernel, by decide⟩
abbrev m_X11_feed : MI := (yX11_feed, cX11_feed, 6, some FieldType.int)
theorem cv_X11_feed : CalV m_X11_feed RX11 5 := ⟨⟨im_X11_feed, se_X11_feed, ii_X11, cd_X11_feed⟩, by decide +kernel, by decide⟩
abbrev m_X11_byteRow : MI := (yX11_byteRow, cX11_byteRow, 3, none)
theorem cv_X11_byteRow : CalV m_X11_byteRow RX11 1 := ⟨⟨im_X11_byteRow, se_X11_byteRow, ii_X11, cd_X11_byteRow⟩, by decide +kernel, by decide⟩
abbrev m_X11_back : MI := (yX11_back, cX11_back, 2, some FieldType.int)
theorem cv_X11_back : CalV m_X11_back RX11 1 := ⟨⟨im_X11_back, se_X11_back, ii_X11, cd_X11_back⟩, by decide +kernel, by decide⟩
abbrev m_X11_seen : MI := (yX11_seen, cX11_seen, 2, some FieldType.int)
theorem cv_X11_seen : CalV m_X11_seen RX11 1 := ⟨⟨im_X11_seen, se_X11_seen, ii_X11, cd_X11_seen⟩, by decide +kernel, by decide⟩
abbrev m_X11_isDigit : MI := (yX11_isDigit, cX11_isDigit, 2, some FieldType.boolean)
theorem cv_X11_isDigit : CalV m_X11_isDigit RX11 1 := ⟨⟨im_X11_isDigit, se_X11_isDigit, ii_X11, cd_X11_isDigit⟩, by decide +kernel, by decide⟩
abbrev m_X11_isLetter : MI := (yX11_isLetter, cX11_isLetter, 2, some FieldType.boolean)
theorem cv_X11_isLetter : CalV m_X11_isLetter RX11 1 := ⟨⟨im_X11_isLetter, se_X11_isLetter, ii_X11, cd_X11_isLetter⟩, by decide +kernel, by decide⟩
abbrev m_X11_word : MI := (yX11_word, cX11_word, 2, some FieldType.int)
theorem cs_X11_word : CalS m_X11_word RX11 1 := ⟨⟨sm_X11_word, ii_X11, cd_X11_word⟩, by decide +kernel, by decide⟩
abbrev m_X11_token : MI := (yX11_token, cX11_token, 7, none)
theorem cv_X11_token : CalV m_X11_token RX11 0 := ⟨⟨im_X11_token, se_X11_token, ii_X11, cd_X11_token⟩, by decide +kernel, by decide⟩
abbrev m_X11_stop : MI := (yX11_stop, cX11_stop, 3, some FieldType.boolean)
theorem cv_X11_stop : CalV m_X11_stop RX11 2 := ⟨⟨im_X11_stop, se_X11_stop, ii_X11, cd_X11_stop⟩, by decide +kernel, by decide⟩
abbrev m_X11_fault : MI := (yX11_fault, cX11_fault, 3, none)
theorem cv_X11_fault : CalV m_X11_fault RX11 2 := ⟨⟨im_X11_fault, se_X11_fault, ii_X11, cd_X11_fault⟩, by decide +kernel, by decide⟩
abbrev m_X11_pass : MI := (yX11_pass, cX11_pass, 1, some FieldType.boolean)
theorem cv_X11_pass : CalV m_X11_pass RX11 0 := ⟨⟨im_X11_pass, se_X11_pass, ii_X11, cd_X11_pass⟩, by decide +kernel, by decide⟩
abbrev m_X11_isSign : MI := (yX11_isSign, cX11_isSign, 2, some FieldType.boolean)
theorem cv_X11_isSign : CalV m_X11_isSign RX11 1 := ⟨⟨im_X11_isSign, se_X11_isSign, ii_X11, cd_X11_isSign⟩, by decide +kernel, by decide⟩
abbrev m_X11_isWord : MI := (yX11_isWord, cX11_isWord, 2, some FieldType.boolean)
theorem cv_X11_isWord : CalV m_X11_isWord RX11 1 := ⟨⟨im_X11_isWord, se_X11_isWord, ii_X11, cd_X11_isWord⟩, by decide +kernel, by decide⟩
abbrev m_X11_sign : MI := (yX11_sign, cX11_sign, 2, some FieldType.boolean)
theorem cv_X11_sign : CalV m_X11_sign RX11 1 := ⟨⟨im_X11_sign, se_X11_sign, ii_X11, cd_X11_sign⟩, by decide +kernel, by decide⟩
abbrev m_X11_emit : MI := (yX11_emit, cX11_emit, 3, none)
theorem cv_X11_emit : CalV m_X11_emit RX11 2 := ⟨⟨im_X11_emit, se_X11_emit, ii_X11, cd_X11_emit⟩, by decide +kernel, by decide⟩
abbrev m_X11_trait : MI := (yX11_trait, cX11_trait, 4, some FieldType.int)
theorem cv_X11_trait : CalV m_X11_trait RX11 1 := ⟨⟨im_X11_trait, se_X11_trait, ii_X11, cd_X11_trait⟩, by decide +kernel, by decide⟩
abbrev m_X11_isWaiting : MI := (yX11_isWaiting, cX11_isWaiting, 2, some FieldType.boolean)
theorem cv_X11_isWaiting : CalV m_X11_isWaiting RX11 1 := ⟨⟨im_X11_isWaiting, se_X11_isWaiting, ii_X11, cd_X11_isWaiting⟩, by decide +kernel, by decide⟩
abbrev m_X11_isJudging : MI := (yX11_isJudging, cX11_isJudging, 2, some FieldType.boolean)
theorem cv_X11_isJudging : CalV m_X11_isJudging RX11 1 := ⟨⟨im_X11_isJudging, se_X11_isJudging, ii_X11, cd_X11_isJudging⟩, by decide +kernel, by decide⟩
abbrev m_X11_settle : MI := (yX11_settle, cX11_settle, 2, none)
theorem cv_X11_settle : CalV m_X11_settle RX11 0 := ⟨⟨im_X11_settle, se_X11_settle, ii_X11, cd_X11_settle⟩, by decide +kernel, by decide⟩
abbrev m_X11_unit : MI := (yX11_unit, cX11_unit, 3, some FieldType.boolean)
theorem cv_X11_unit : CalV m_X11_unit RX11 0 := ⟨⟨im_X11_unit, se_X11_unit, ii_X11, cd_X11_unit⟩, by decide +kernel, by decide⟩
abbrev m_X11_expression : MI := (yX11_expression, cX11_expression, 6, some FieldType.boolean)
theorem cv_X11_expression : CalV m_X11_expression RX11 0 := ⟨⟨im_X11_expression, se_X11_expression, ii_X11, cd_X11_expression⟩, by decide +kernel, by decide⟩
abbrev m_X11_relation : MI := (yX11_relation, cX11_relation, 2, some FieldType.boolean)
theorem cv_X11_relation : CalV m_X11_relation RX11 0 := ⟨⟨im_X11_relation, se_X11_relation, ii_X11, cd_X11_relation⟩, by decide +kernel, by decide⟩
abbrev m_X11_judge : MI := (yX11_judge, cX11_judge, 2, none)
theorem cv_X11_judge : CalV m_X11_judge RX11 0 := ⟨⟨im_X11_judge, se_X11_judge, ii_X11, cd_X11_judge⟩, by decide +kernel, by decide⟩
abbrev m_X11_condition : MI := (yX11_condition, cX11_condition, 3, some FieldType.boolean)
theorem cv_X11_condition : CalV m_X11_condition RX11 0 := ⟨⟨im_X11_condition, se_X11_condition, ii_X11, cd_X11_condition⟩, by decide +kernel, by decide⟩
abbrev m_X11_read : MI := (yX11_read, cX11_read, 4, some FieldType.int)
theorem cv_X11_read : CalV m_X11_read RX11 1 := ⟨⟨im_X11_read, se_X11_read, ii_X11, cd_X11_read⟩, by decide +kernel, by decide⟩
abbrev m_X11_text : MI := (yX11_text, cX11_text, 1, some FieldType.boolean)
theorem cv_X11_text : CalV m_X11_text RX11 0 := ⟨⟨im_X11_text, se_X11_text, ii_X11, cd_X11_text⟩, by decide +kernel, by decide⟩
abbrev m_X11_rule : MI := (yX11_rule, cX11_rule, 3, some FieldType.boolean)
theorem cv_X11_rule : CalV m_X11_rule RX11 0 := ⟨⟨im_X11_rule, se_X11_rule, ii_X11, cd_X11_rule⟩, by decide +kernel, by decide⟩
abbrev m_X11_place : MI := (yX11_place, cX11_place, 1, some FieldType.int)
theorem cv_X11_place : CalV m_X11_place RX11 0 := ⟨⟨im_X11_place, se_X11_place, ii_X11, cd_X11_place⟩, by decide +kernel, by decide⟩
abbrev m_X11_family : MI := (yX11_family, cX11_family, 1, some FieldType.int)
theorem cv_X11_family : CalV m_X11_family RX11 0 := ⟨⟨im_X11_family, se_X11_family, ii_X11, cd_X11_family⟩, by decide +kernel, by decide⟩
abbrev m_X11_isFamily : MI := (yX11_isFamily, cX11_isFamily, 2, some FieldType.boolean)
theorem cv_X11_isFamily : CalV m_X11_isFamily RX11 1 := ⟨⟨im_X11_isFamily, se_X11_isFamily, ii_X11, cd_X11_isFamily⟩, by decide +kernel, by decide⟩
abbrev m_X11_isDay : MI := (yX11_isDay, cX11_isDay, 1, some FieldType.boolean)
theorem cs_X11_isDay : CalS m_X11_isDay RX11 1 := ⟨⟨sm_X11_isDay, ii_X11, cd_X11_isDay⟩, by decide +kernel, by decide⟩
abbrev m_X11_clock : MI := (yX11_clock, cX11_clock, 2, some FieldType.boolean)
theorem cv_X11_clock : CalV m_X11_clock RX11 1 := ⟨⟨im_X11_clock, se_X11_clock, ii_X11, cd_X11_clock⟩, by decide +kernel, by decide⟩
abbrev m_X11_term : MI := (yX11_term, cX11_term, 2, some FieldType.boolean)
theorem cv_X11_term : CalV m_X11_term RX11 1 := ⟨⟨im_X11_term, se_X11_term, ii_X11, cd_X11_term⟩, by decide +kernel, by decide⟩
abbrev m_X11_isWhat : MI := (yX11_isWhat, cX11_isWhat, 2, some FieldType.boolean)
theorem cv_X11_isWhat : CalV m_X11_isWhat RX11 1 := ⟨⟨im_X11_isWhat, se_X11_isWhat, ii_X11, cd_X11_isWhat⟩, by decide +kernel, by decide⟩
abbrev m_X11_fits : MI := (yX11_fits, cX11_fits, 2, some FieldType.boolean)
theorem cs_X11_fits : CalS m_X11_fits RX11 2 := ⟨⟨sm_X11_fits, ii_X11, cd_X11_fits⟩, by decide +kernel, by decide⟩
abbrev m_X11_tell : MI := (yX11_tell, cX11_tell, 4, some FieldType.int)
theorem cv_X11_tell : CalV m_X11_tell RX11 3 := ⟨⟨im_X11_tell, se_X11_tell, ii_X11, cd_X11_tell⟩, by decide +kernel, by decide⟩
abbrev m_X11_latest : MI := (yX11_latest, cX11_latest, 5, some FieldType.int)
theorem cv_X11_latest : CalV m_X11_latest RX11 3 := ⟨⟨im_X11_latest, se_X11_latest, ii_X11, cd_X11_latest⟩, by decide +kernel, by decide⟩
abbrev m_X11_known : MI := (yX11_known, cX11_known, 4, some FieldType.int)
theorem cv_X11_known : CalV m_X11_known RX11 3 := ⟨⟨im_X11_known, se_X11_known, ii_X11, cd_X11_known⟩, by decide +kernel, by decide⟩
abbrev m_X11_learn : MI := (yX11_learn, cX11_learn, 3, none)
theorem cv_X11_learn : CalV m_X11_learn RX11 1 := ⟨⟨im_X11_learn, se_X11_learn, ii_X11, cd_X11_learn⟩, by decide +kernel, by decide⟩
abbrev m_X11_worked : MI := (yX11_worked, cX11_worked, 9, some FieldType.int)
theorem cv_X11_worked : CalV m_X11_worked RX11 5 := ⟨⟨im_X11_worked, se_X11_worked, ii_X11, cd_X11_worked⟩, by decide +kernel, by decide⟩
abbrev m_X11_two : MI := (yX11_two, cX11_two, 3, some FieldType.int)
theorem cs_X11_two : CalS m_X11_two RX11 3 := ⟨⟨sm_X11_two, ii_X11, cd_X11_two⟩, by decide +kernel, by decide⟩
abbrev m_X11_holds : MI := (yX11_holds, cX11_holds, 6, some FieldType.boolean)
theorem cv_X11_holds : CalV m_X11_holds RX11 4 := ⟨⟨im_X11_holds, se_X11_holds, ii_X11, cd_X11_holds⟩, by decide +kernel, by decide⟩
abbrev m_X11_reason : MI := (yX11_reason, cX11_reason, 5, some FieldType.int)
theorem cv_X11_reason : CalV m_X11_reason RX11 3 := ⟨⟨im_X11_reason, se_X11_reason, ii_X11, cd_X11_reason⟩, by decide +kernel, by decide⟩
abbrev m_X11_price : MI := (yX11_price, cX11_price, 7, some FieldType.int)
theorem cv_X11_price : CalV m_X11_price RX11 3 := ⟨⟨im_X11_price, se_X11_price, ii_X11, cd_X11_price⟩, by decide +kernel, by decide⟩
abbrev m_X11_isAsked : MI := (yX11_isAsked, cX11_isAsked, 5, some FieldType.boolean)
theorem cv_X11_isAsked : CalV m_X11_isAsked RX11 4 := ⟨⟨im_X11_isAsked, se_X11_isAsked, ii_X11, cd_X11_isAsked⟩, by decide +kernel, by decide⟩
abbrev m_X11_why : MI := (yX11_why, cX11_why, 5, some FieldType.int)
theorem cv_X11_why : CalV m_X11_why RX11 4 := ⟨⟨im_X11_why, se_X11_why, ii_X11, cd_X11_why⟩, by decide +kernel, by decide⟩
abbrev m_X11_cost : MI := (yX11_cost, cX11_cost, 5, some FieldType.int)
theorem cv_X11_cost : CalV m_X11_cost RX11 4 := ⟨⟨im_X11_cost, se_X11_cost, ii_X11, cd_X11_cost⟩, by decide +kernel, by decide⟩
abbrev m_X11_weigh : MI := (yX11_weigh, cX11_weigh, 5, none)
theorem cv_X11_weigh : CalV m_X11_weigh RX11 2 := ⟨⟨im_X11_weigh, se_X11_weigh, ii_X11, cd_X11_weigh⟩, by decide +kernel, by decide⟩
abbrev m_X11_counts : MI := (yX11_counts, cX11_counts, 4, some FieldType.int)
theorem cv_X11_counts : CalV m_X11_counts RX11 2 := ⟨⟨im_X11_counts, se_X11_counts, ii_X11, cd_X11_counts⟩, by decide +kernel, by decide⟩
abbrev m_X11_mayGo : MI := (yX11_mayGo, cX11_mayGo, 3, some FieldType.boolean)
theorem cv_X11_mayGo : CalV m_X11_mayGo RX11 2 := ⟨⟨im_X11_mayGo, se_X11_mayGo, ii_X11, cd_X11_mayGo⟩, by decide +kernel, by decide⟩
abbrev m_X11_mayStay : MI := (yX11_mayStay, cX11_mayStay, 3, some FieldType.boolean)
theorem cv_X11_mayStay : CalV m_X11_mayStay RX11 2 := ⟨⟨im_X11_mayStay, se_X11_mayStay, ii_X11, cd_X11_mayStay⟩, by decide +kernel, by decide⟩
abbrev m_X11_fill : MI := (yX11_fill, cX11_fill, 5, none)
theorem cv_X11_fill : CalV m_X11_fill RX11 1 := ⟨⟨im_X11_fill, se_X11_fill, ii_X11, cd_X11_fill⟩, by decide +kernel, by decide⟩
abbrev m_X11_best : MI := (yX11_best, cX11_best, 7, some FieldType.int)
theorem cv_X11_best : CalV m_X11_best RX11 3 := ⟨⟨im_X11_best, se_X11_best, ii_X11, cd_X11_best⟩, by decide +kernel, by decide⟩
abbrev m_X11_sum : MI := (yX11_sum, cX11_sum, 2, some FieldType.int)
theorem cs_X11_sum : CalS m_X11_sum RX11 2 := ⟨⟨sm_X11_sum, ii_X11, cd_X11_sum⟩, by decide +kernel, by decide⟩
abbrev m_X11_follow : MI := (yX11_follow, cX11_follow, 7, none)
theorem cv_X11_follow : CalV m_X11_follow RX11 1 := ⟨⟨im_X11_follow, se_X11_follow, ii_X11, cd_X11_follow⟩, by decide +kernel, by decide⟩
abbrev m_X11_isAhead : MI := (yX11_isAhead, cX11_isAhead, 2, some FieldType.boolean)
theorem cv_X11_isAhead : CalV m_X11_isAhead RX11 0 := ⟨⟨im_X11_isAhead, se_X11_isAhead, ii_X11, cd_X11_isAhead⟩, by decide +kernel, by decide⟩
abbrev m_X11_bits : MI := (yX11_bits, cX11_bits, 3, some FieldType.int)
theorem cs_X11_bits : CalS m_X11_bits RX11 1 := ⟨⟨sm_X11_bits, ii_X11, cd_X11_bits⟩, by decide +kernel, by decide⟩
abbrev m_X11_against : MI := (yX11_against, cX11_against, 3, some FieldType.int)
theorem cv_X11_against : CalV m_X11_against RX11 2 := ⟨⟨im_X11_against, se_X11_against, ii_X11, cd_X11_against⟩, by decide +kernel, by decide⟩
abbrev m_X11_search : MI := (yX11_search, cX11_search, 8, none)
theorem cv_X11_search : CalV m_X11_search RX11 0 := ⟨⟨im_X11_search, se_X11_search, ii_X11, cd_X11_search⟩, by decide +kernel, by decide⟩
abbrev m_X11_round : MI := (yX11_round, cX11_round, 4, some FieldType.int)
theorem cv_X11_round : CalV m_X11_round RX11 2 := ⟨⟨im_X11_round, se_X11_round, ii_X11, cd_X11_round⟩, by decide +kernel, by decide⟩
abbrev m_X11_goes : MI := (yX11_goes, cX11_goes, 2, some FieldType.int)
theorem cv_X11_goes : CalV m_X11_goes RX11 1 := ⟨⟨im_X11_goes, se_X11_goes, ii_X11, cd_X11_goes⟩, by decide +kernel, by decide⟩
abbrev m_X11_costs : MI := (yX11_costs, cX11_costs, 1, some FieldType.int)
theorem cv_X11_costs : CalV m_X11_costs RX11 0 := ⟨⟨im_X11_costs, se_X11_costs, ii_X11, cd_X11_costs⟩, by decide +kernel, by decide⟩
abbrev m_X11_guest : MI := (yX11_guest, cX11_guest, 4, some FieldType.int)
theorem cv_X11_guest : CalV m_X11_guest RX11 2 := ⟨⟨im_X11_guest, se_X11_guest, ii_X11, cd_X11_guest⟩, by decide +kernel, by decide⟩
abbrev m_X11_isClosed : MI := (yX11_isClosed, cX11_isClosed, 4, some FieldType.boolean)
theorem cv_X11_isClosed : CalV m_X11_isClosed RX11 0 := ⟨⟨im_X11_isClosed, se_X11_isClosed, ii_X11, cd_X11_isClosed⟩, by decide +kernel, by decide⟩
abbrev m_X11_going : MI := (yX11_going, cX11_going, 3, some FieldType.int)
theorem cv_X11_going : CalV m_X11_going RX11 0 := ⟨⟨im_X11_going, se_X11_going, ii_X11, cd_X11_going⟩, by decide +kernel, by decide⟩
abbrev m_X11_take : MI := (yX11_take, cX11_take, 2, some FieldType.int)
theorem cv_X11_take : CalV m_X11_take RX11 0 := ⟨⟨im_X11_take, se_X11_take, ii_X11, cd_X11_take⟩, by decide +kernel, by decide⟩
abbrev m_X11_fall : MI := (yX11_fall, cX11_fall, 4, some FieldType.int)
theorem cv_X11_fall : CalV m_X11_fall RX11 1 := ⟨⟨im_X11_fall, se_X11_fall, ii_X11, cd_X11_fall⟩, by decide +kernel, by decide⟩
abbrev m_X11_moved : MI := (yX11_moved, cX11_moved, 2, some FieldType.int)
theorem cv_X11_moved : CalV m_X11_moved RX11 1 := ⟨⟨im_X11_moved, se_X11_moved, ii_X11, cd_X11_moved⟩, by decide +kernel, by decide⟩
abbrev m_X11_close : MI := (yX11_close, cX11_close, 6, some FieldType.int)
theorem cv_X11_close : CalV m_X11_close RX11 0 := ⟨⟨im_X11_close, se_X11_close, ii_X11, cd_X11_close⟩, by decide +kernel, by decide⟩
abbrev m_X11_link : MI := (yX11_link, cX11_link, 5, some FieldType.int)
theorem cv_X11_link : CalV m_X11_link RX11 2 := ⟨⟨im_X11_link, se_X11_link, ii_X11, cd_X11_link⟩, by decide +kernel, by decide⟩
abbrev m_X11_of : MI := (yX11_of, cX11_of, 3, some FieldType.int)
theorem cv_X11_of : CalV m_X11_of RX11 2 := ⟨⟨im_X11_of, se_X11_of, ii_X11, cd_X11_of⟩, by decide +kernel, by decide⟩
abbrev m_X11_count : MI := (yX11_count, cX11_count, 2, some FieldType.int)
theorem cv_X11_count : CalV m_X11_count RX11 1 := ⟨⟨im_X11_count, se_X11_count, ii_X11, cd_X11_count⟩, by decide +kernel, by decide⟩
theorem mt_X1_55 : ∀ w ∈ [Cond.methodLink RX1 55 Lib.Math.max.name, Cond.static Lib.Math.max.name, Cond.initialized "java/lang/Math", Cond.code Lib.Math.max.name Lib.Math.max.code 2 (some .int)], w ∈ TB := by
  intro w h
  simp only [List.mem_cons, List.not_mem_nil, or_false] at h
  rcases h with rfl | rfl | rfl | rfl
  · exact ml_X1_55
  · exact sm_Mmax
  · exact ii_J9
  · exact cd_Mmax
theorem mt_X1_50 : ∀ w ∈ [Cond.methodLink RX1 50 Lib.Math.min.name, Cond.static Lib.Math.min.name, Cond.initialized "java/lang/Math", Cond.code Lib.Math.min.name Lib.Math.min.code 2 (some .int)], w ∈ TB := by
  intro w h
  simp only [List.mem_cons, List.not_mem_nil, or_false] at h
  rcases h with rfl | rfl | rfl | rfl
  · exact ml_X1_50
  · exact sm_Mmin
  · exact ii_J9
  · exact cd_Mmin
theorem mt_X3_35 : ∀ w ∈ [Cond.methodLink RX3 35 Lib.Math.min.name, Cond.static Lib.Math.min.name, Cond.initialized "java/lang/Math", Cond.code Lib.Math.min.name Lib.Math.min.code 2 (some .int)], w ∈ TB := by
  intro w h
  simp only [List.mem_cons, List.not_mem_nil, or_false] at h
  rcases h with rfl | rfl | rfl | rfl
  · exact ml_X3_35
  · exact sm_Mmin
  · exact ii_J9
  · exact cd_Mmin
theorem mt_X3_41 : ∀ w ∈ [Cond.methodLink RX3 41 Lib.Math.max.name, Cond.static Lib.Math.max.name, Cond.initialized "java/lang/Math", Cond.code Lib.Math.max.name Lib.Math.max.code 2 (some .int)], w ∈ TB := by
  intro w h
  simp only [List.mem_cons, List.not_mem_nil, or_false] at h
  rcases h with rfl | rfl | rfl | rfl
  · exact ml_X3_41
  · exact sm_Mmax
  · exact ii_J9
  · exact cd_Mmax
theorem mt_X5_84 : ∀ w ∈ [Cond.methodLink RX5 84 Lib.Math.min.name, Cond.static Lib.Math.min.name, Cond.initialized "java/lang/Math", Cond.code Lib.Math.min.name Lib.Math.min.code 2 (some .int)], w ∈ TB := by
  intro w h
  simp only [List.mem_cons, List.not_mem_nil, or_false] at h
  rcases h with rfl | rfl | rfl | rfl
  · exact ml_X5_84
  · exact sm_Mmin
  · exact ii_J9
  · exact cd_Mmin
