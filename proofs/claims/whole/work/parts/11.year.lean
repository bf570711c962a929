
theorem b2_inj {a b : Bool} : b2 a = b2 b ↔ a = b := by cases a <;> cases b <;> decide
theorem nw_X9_30 : (RX9, 30, yX10_guestIn) ∈ nwM := List.mem_of_getElem? (i := 1) rfl
theorem nw_X5_63 : (RX5, 63, yX10_guestIn) ∈ nwM := List.mem_of_getElem? (i := 0) rfl
/-! rows of ints -/
def cpy (v u : Nat → Int32) (m : Nat) : Nat → Int32 := fun j => if j < m then u j else v j
theorem cpy_0 (v u : Nat → Int32) : cpy v u 0 = v := by funext j; simp [cpy]
theorem cpy_s (v u : Nat → Int32) (m : Nat) : upd (cpy v u m) m (u m) = cpy v u (m + 1) := by
  funext j
  simp only [upd, cpy]
  by_cases h : j = m
  · subst h; simp
  · simp only [h, if_false]
    by_cases h2 : j < m
    · simp [h2, Nat.lt_succ_of_lt h2]
    · have : ¬ j < m + 1 := by omega
      simp [h2, this]
def cpyB (v u : Nat → Bool) (m : Nat) : Nat → Bool := fun j => if j < m then u j else v j
theorem cpyB_0 (v u : Nat → Bool) : cpyB v u 0 = v := by funext j; simp [cpyB]
theorem cpyB_s (v u : Nat → Bool) (m : Nat) : updB (cpyB v u m) m (u m) = cpyB v u (m + 1) := by
  funext j
  simp only [updB, cpyB]
  by_cases h : j = m
  · subst h; simp
  · simp only [h, if_false]
    by_cases h2 : j < m
    · simp [h2, Nat.lt_succ_of_lt h2]
    · have : ¬ j < m + 1 := by omega
      simp [h2, this]
def obd (h : Nat → Option Nat) : Prop := ∀ j r, h j = some r → r < 12
theorem obd.b {h : Nat → Option Nat} (hb : obd h) {j : Nat} : ∀ r, h j = some r → r < 2 ^ 31 := fun r e => Nat.lt_trans (hb j r e) (by decide)
theorem obd.up {h : Nat → Option Nat} (hb : obd h) {j : Nat} {v : Option Nat} (hv : ∀ r, v = some r → r < 12) : obd (va_up h j v) := fun i r hi => by
  by_cases e : i = j
  · rw [e, va_up_self] at hi; exact hv r hi
  · rw [va_up_ne _ _ e] at hi; exact hb i r hi
theorem eo_nI {x : Option Nat} {k : Nat} (h : ∀ r, x = some r → r < 2 ^ 31) (hk : k < 2 ^ 31) : eo x = nI k ↔ x = some k := by
  cases x with
  | none => simp only [eo, reduceCtorEq, iff_false]; exact fun e => nI_ne_m1 hk e.symm
  | some r => simp only [eo, Option.some.injEq]; exact nI_eq (h r rfl) hk
theorem eo_eo {x y : Option Nat} (h : ∀ r, x = some r → r < 2 ^ 31) (hk : ∀ r, y = some r → r < 2 ^ 31) : eo x = eo y ↔ x = y := by
  cases y with
  | none => exact eo_m1 h
  | some k => exact eo_nI h (hk k rfl)
def cpyO (v u : Nat → Option Nat) (m : Nat) : Nat → Option Nat := fun j => if j < m then u j else v j
theorem cpyO_0 (v u : Nat → Option Nat) : cpyO v u 0 = v := by funext j; simp [cpyO]
theorem cpyO_s (v u : Nat → Option Nat) (m : Nat) : va_up (cpyO v u m) m (u m) = cpyO v u (m + 1) := by
  funext j
  simp only [va_up, cpyO]
  by_cases h : j = m
  · subst h; simp
  · simp only [h, if_false]
    by_cases h2 : j < m
    · simp [h2, Nat.lt_succ_of_lt h2]
    · have : ¬ j < m + 1 := by omega
      simp [h2, this]
def gcount (h : Nat → Option Nat) : Nat → Nat
  | 0 => 0
  | m + 1 => gcount h m + (if h m = none then 0 else 1)
theorem gcount_le (h : Nat → Option Nat) : ∀ m, gcount h m ≤ m
  | 0 => Nat.le_refl 0
  | m + 1 => by
    have := gcount_le h m
    simp only [gcount]
    split <;> omega
def gIn (h : Nat → Option Nat) (x : Nat) : Nat → Nat → Option Nat
  | 0, _ => none
  | m + 1, j => if h j = some x then some j else gIn h x m (j + 1)
/-! HostYear$Ledger: debt, given, money -/
abbrev LG : Type := (Nat → Int32) × (Nat → Int32) × (Nat → Int32)
def lgSettle (s : LG) (f : Nat) (w h : Bool) : LG := if w = h then s else if w then (upd s.1 f (s.1 f + 1), s.2.1, s.2.2) else if s.1 f ≤ 0 then (s.1, upd s.2.1 f (s.2.1 f + 1), s.2.2) else (upd s.1 f (s.1 f - 1), s.2.1, s.2.2)
def lgPay (s : LG) (p : Nat) (q pr : Int32) : LG := if q < 0 ∨ 12 ≤ q then s else (s.1, s.2.1, upd (upd s.2.2 p (s.2.2 p - pr)) q.toNatClampNeg (upd s.2.2 p (s.2.2 p - pr) q.toNatClampNeg + pr))
/-! HostYear$Year: home, isOut, mover, movers, hasBegun -/
abbrev YR : Type := (Nat → Option Nat) × (Nat → Bool) × (Nat → Nat) × Nat × Bool
def yrBegin (s : YR) (u : Nat → Option Nat) : YR := (cpyO s.1 u 12, s.2.1, s.2.2.1, s.2.2.2.1, true)
def yrDrop (s : YR) (p : Nat) : YR := (va_up s.1 p none, updB s.2.1 p true, s.2.2)
def yrClear (s : YR) : YR := (cpyO s.1 (fun _ => none) 12, cpyB s.2.1 (fun _ => false) 12, s.2.2.1, 0, false)
def yrStep (u : Nat → Option Nat) (j : Nat) (s : (Nat → Option Nat) × (Nat → Nat) × Nat) : (Nat → Option Nat) × (Nat → Nat) × Nat := if s.1 j = none ∨ s.1 j = u j then (va_up s.1 j (u j), s.2.1, s.2.2) else (va_up s.1 j (u j), va_up s.2.1 s.2.2 j, s.2.2 + 1)

set_option maxHeartbeats 4000000 in
set_option maxRecDepth 100000 in
theorem lp_X10_guestIn {X : Cx} (hX : Ok X cX10_guestIn 3 RX10 0) (ho : Nat) (h : Nat → Option Nat) (x : Nat) (hb : obd h) (hx : x < 2 ^ 31) (hR : Rt X (some FieldType.int) (fun r es' => r = some (.int (eo (gIn h x 12 0))) ∧ es' = [aI (CxD X) 12 (opf h)]) [ho]) : ∀ (m j : Nat), j + m = 12 → gIn h x m j = gIn h x 12 0 → Aw X [ho] [aI (CxD X) 12 (opf h)] 2 [(0, .ref ho), (1, .int (nI x)), (2, .int (nI j))] [] := by
  intro m
  induction m with
  | zero =>
    intro j hj he
    refine r_iload_n (n := 3) hX dX10_guestIn_2 rfl rfl 2 rfl ?_
    refine r_aload_n (n := 4) hX dX10_guestIn_3 rfl rfl 0 rfl ?_
    refine r_alen (n := 5) hX 0 rfl rfl 0 rfl 12 rfl dX10_guestIn_4 rfl ?_
    refine r_icmp_ge_n (tgt := 23) (n := 8) hX j 12 (by omega) (by omega) dX10_guestIn_5 (by decide) rfl (fun c5 => ?_) (fun c5 => absurd c5 (by omega))
    refine r_iconst (n := 24) hX (-1) dX10_guestIn_23 rfl rfl ?_
    exact r_ireturn hX hR dX10_guestIn_24 ⟨by rw [← he]; rfl, rfl⟩
  | succ m ih =>
    intro j hj he
    refine r_iload_n (n := 3) hX dX10_guestIn_2 rfl rfl 2 rfl ?_
    refine r_aload_n (n := 4) hX dX10_guestIn_3 rfl rfl 0 rfl ?_
    refine r_alen (n := 5) hX 0 rfl rfl 0 rfl 12 rfl dX10_guestIn_4 rfl ?_
    refine r_icmp_ge_n (tgt := 23) (n := 8) hX j 12 (by omega) (by omega) dX10_guestIn_5 (by decide) rfl (fun c5 => absurd c5 (by omega)) (fun c5 => ?_)
    refine r_aload_n (n := 9) hX dX10_guestIn_8 rfl rfl 0 rfl ?_
    refine r_iload_n (n := 10) hX dX10_guestIn_9 rfl rfl 2 rfl ?_
    refine r_ialdOn (n := 11) (i := j) hX 0 rfl rfl (by omega) (by decide) dX10_guestIn_10 rfl ?_
    refine r_iload_n (n := 12) hX dX10_guestIn_11 rfl rfl 1 rfl ?_
    refine r_icmp_ne (tgt := 17) (n := 15) hX dX10_guestIn_12 (by decide) rfl (fun c12 => ?_) (fun c12 => ?_)
    · replace c12 : ¬ h j = some x := fun z => c12 ((eo_nI hb.b hx).mpr z)
      refine r_iinc (n := 20) hX (nI (j + 1)) [(0, .ref ho), (1, .int (nI x)), (2, .int (nI (j + 1)))] dX10_guestIn_17 rfl 2 rfl (nI_add _ _) (by decide) rfl ?_
      refine r_goto (tgt := 2) hX dX10_guestIn_20 (by decide) ?_
      refine ih (j + 1) (by omega) ?_
      rw [← he]
      simp only [gIn, c12, if_false]
    · replace c12 := (eo_nI hb.b hx).mp c12
      refine r_iload_n (n := 16) hX dX10_guestIn_15 rfl rfl 2 rfl ?_
      exact r_ireturn hX hR dX10_guestIn_16 ⟨by rw [← he]; simp only [gIn, c12, if_true, eo], rfl⟩
set_option maxHeartbeats 4000000 in
set_option maxRecDepth 100000 in
theorem wk_X10_guestIn {X : Cx} (hX : Ok X cX10_guestIn 3 RX10 0) (ho : Nat) (h : Nat → Option Nat) (x : Nat) (hb : obd h) (hx : x < 2 ^ 31)  (hR : Rt X (some FieldType.int) (fun r es' => r = some (.int (eo (gIn h x 12 0))) ∧ es' = [aI (CxD X) 12 (opf h)]) [ho]) : Aw X [ho] [aI (CxD X) 12 (opf h)] 0 [(0, .ref ho), (1, .int (nI x))] [] := by
  refine r_iconst (n := 1) hX 0 dX10_guestIn_0 rfl rfl ?_
  refine r_istore_n (n := 2) hX [(0, .ref ho), (1, .int (nI x)), (2, .int 0)] dX10_guestIn_1 rfl rfl (by decide) rfl ?_
  exact lp_X10_guestIn hX ho h x hb hx hR 12 0 (by omega) rfl
theorem ct_X10_guestIn (l : Launch) (D : va_G) (ho : Nat) (h : Nat → Option Nat) (x : Nat) (hb : obd h) (hx : x < 2 ^ 31)  : Ct l D m_X10_guestIn 0 [.ref ho, .int (nI x)] [ho] [aI D 12 (opf h)] (fun r es' => r = some (.int (eo (gIn h x 12 0))) ∧ es' = [aI D 12 (opf h)]) :=
  Ct.ofA (own := RX10) (by decide) rfl (Nat.le_of_ble_eq_true rfl) rfl (fun X hl hD hX hR => by subst hl; subst hD; exact wk_X10_guestIn hX ho h x hb hx hR)
set_option maxHeartbeats 4000000 in
set_option maxRecDepth 100000 in
theorem lp_X10_goingIn {X : Cx} (hX : Ok X cX10_goingIn 3 RX10 0) (ho : Nat) (h : Nat → Option Nat) (hb : obd h) (hR : Rt X (some FieldType.int) (fun r es' => r = some (.int (nI (gcount h 12))) ∧ es' = [aI (CxD X) 12 (opf h)]) [ho]) : ∀ (m j : Nat), j + m = 12 → Aw X [ho] [aI (CxD X) 12 (opf h)] 4 [(0, .ref ho), (1, .int (nI (gcount h j))), (2, .int (nI j))] [] := by
  intro m
  induction m with
  | zero =>
    intro j hj
    refine r_iload_n (n := 5) hX dX10_goingIn_4 rfl rfl 2 rfl ?_
    refine r_aload_n (n := 6) hX dX10_goingIn_5 rfl rfl 0 rfl ?_
    refine r_alen (n := 7) hX 0 rfl rfl 0 rfl 12 rfl dX10_goingIn_6 rfl ?_
    refine r_icmp_ge_n (tgt := 26) (n := 10) hX j 12 (by omega) (by omega) dX10_goingIn_7 (by decide) rfl (fun c7 => ?_) (fun c7 => absurd c7 (by omega))
    refine r_iload_n (n := 27) hX dX10_goingIn_26 rfl rfl 1 rfl ?_
    exact r_ireturn hX hR dX10_goingIn_27 ⟨by rw [show j = 12 by omega], rfl⟩
  | succ m ih =>
    intro j hj
    refine r_iload_n (n := 5) hX dX10_goingIn_4 rfl rfl 2 rfl ?_
    refine r_aload_n (n := 6) hX dX10_goingIn_5 rfl rfl 0 rfl ?_
    refine r_alen (n := 7) hX 0 rfl rfl 0 rfl 12 rfl dX10_goingIn_6 rfl ?_
    refine r_icmp_ge_n (tgt := 26) (n := 10) hX j 12 (by omega) (by omega) dX10_goingIn_7 (by decide) rfl (fun c7 => absurd c7 (by omega)) (fun c7 => ?_)
    refine r_aload_n (n := 11) hX dX10_goingIn_10 rfl rfl 0 rfl ?_
    refine r_iload_n (n := 12) hX dX10_goingIn_11 rfl rfl 2 rfl ?_
    refine r_ialdOn (n := 13) (i := j) hX 0 rfl rfl (by omega) (by decide) dX10_goingIn_12 rfl ?_
    refine r_iconst (n := 14) hX (-1) dX10_goingIn_13 rfl rfl ?_
    refine r_icmp_eq_o (tgt := 20) (n := 17) (x := h j) hX hb.b dX10_goingIn_14 (by decide) rfl (fun c14 => ?_) (fun c14 => ?_)
    · skip
      refine r_iinc (n := 23) hX (nI (j + 1)) [(0, .ref ho), (1, .int (nI (gcount h j))), (2, .int (nI (j + 1)))] dX10_goingIn_20 rfl 2 rfl (nI_add _ _) (by decide) rfl ?_
      refine r_goto (tgt := 4) hX dX10_goingIn_23 (by decide) ?_
      refine Aw.eqs (lv' := [(0, .ref ho), (1, .int (nI (gcount h (j + 1)))), (2, .int (nI (j + 1)))]) rfl (by simp [gcount, *]) rfl (ih (j + 1) (by omega))
    · skip
      refine r_iinc (n := 20) hX (nI (gcount h j + 1)) [(0, .ref ho), (1, .int (nI (gcount h j + 1))), (2, .int (nI j))] dX10_goingIn_17 rfl 1 rfl (nI_add _ _) (by decide) rfl ?_
      refine r_iinc (n := 23) hX (nI (j + 1)) [(0, .ref ho), (1, .int (nI (gcount h j + 1))), (2, .int (nI (j + 1)))] dX10_goingIn_20 rfl 2 rfl (nI_add _ _) (by decide) rfl ?_
      refine r_goto (tgt := 4) hX dX10_goingIn_23 (by decide) ?_
      refine Aw.eqs (lv' := [(0, .ref ho), (1, .int (nI (gcount h (j + 1)))), (2, .int (nI (j + 1)))]) rfl (by simp [gcount, *]) rfl (ih (j + 1) (by omega))
set_option maxHeartbeats 4000000 in
set_option maxRecDepth 100000 in
theorem wk_X10_goingIn {X : Cx} (hX : Ok X cX10_goingIn 3 RX10 0) (ho : Nat) (h : Nat → Option Nat) (hb : obd h)  (hR : Rt X (some FieldType.int) (fun r es' => r = some (.int (nI (gcount h 12))) ∧ es' = [aI (CxD X) 12 (opf h)]) [ho]) : Aw X [ho] [aI (CxD X) 12 (opf h)] 0 [(0, .ref ho)] [] := by
  refine r_iconst (n := 1) hX 0 dX10_goingIn_0 rfl rfl ?_
  refine r_istore_n (n := 2) hX [(0, .ref ho), (1, .int 0)] dX10_goingIn_1 rfl rfl (by decide) rfl ?_
  refine r_iconst (n := 3) hX 0 dX10_goingIn_2 rfl rfl ?_
  refine r_istore_n (n := 4) hX [(0, .ref ho), (1, .int 0), (2, .int 0)] dX10_goingIn_3 rfl rfl (by decide) rfl ?_
  exact lp_X10_goingIn hX ho h hb hR 12 0 (by omega)
theorem ct_X10_goingIn (l : Launch) (D : va_G) (ho : Nat) (h : Nat → Option Nat) (hb : obd h)  : Ct l D m_X10_goingIn 0 [.ref ho] [ho] [aI D 12 (opf h)] (fun r es' => r = some (.int (nI (gcount h 12))) ∧ es' = [aI D 12 (opf h)]) :=
  Ct.ofA (own := RX10) (by decide) rfl (Nat.le_of_ble_eq_true rfl) rfl (fun X hl hD hX hR => by subst hl; subst hD; exact wk_X10_goingIn hX ho h hb hR)
set_option maxHeartbeats 4000000 in
set_option maxRecDepth 100000 in
theorem wk_X2_settle {X : Cx} (hX : Ok X cX2_settle 4 RX2 0) (lg l0 l1 l2 : Nat) (s : LG) (f : Nat) (w h : Bool) (hf : f < 12) (hR : Rt X (none) (fun r es' => r = none ∧ es' = [ob 2 [.ref l0, .ref l1, .ref l2], aI (CxD X) 12 ((lgSettle s f w h).1), aI (CxD X) 12 ((lgSettle s f w h).2.1), aI (CxD X) 12 ((lgSettle s f w h).2.2)]) [lg, l0, l1, l2]) : Aw X [lg, l0, l1, l2] [ob 2 [.ref l0, .ref l1, .ref l2], aI (CxD X) 12 s.1, aI (CxD X) 12 s.2.1, aI (CxD X) 12 s.2.2] 0 [(0, .ref lg), (1, .int (nI f)), (2, .int (b2 w)), (3, .int (b2 h))] [] := by
  refine r_iload_n (n := 1) hX dX2_settle_0 rfl rfl 1 rfl ?_
  refine r_iflt_n (n := 4) (tgt := 15) hX (by omega) dX2_settle_1 rfl (by decide) ?_
  refine r_iload_n (n := 5) hX dX2_settle_4 rfl rfl 1 rfl ?_
  refine r_bipush (n := 7) hX 12 dX2_settle_5 rfl rfl ?_
  refine r_icmp_ge_n (tgt := 15) (n := 10) hX f 12 (by omega) (by omega) dX2_settle_7 (by decide) rfl (fun c7 => absurd c7 (by omega)) (fun c7 => ?_)
  refine r_iload_n (n := 11) hX dX2_settle_10 rfl rfl 2 rfl ?_
  refine r_iload_n (n := 12) hX dX2_settle_11 rfl rfl 3 rfl ?_
  refine r_icmp_ne (tgt := 16) (n := 15) hX dX2_settle_12 (by decide) rfl (fun c12 => ?_) (fun c12 => ?_)
  · have hw := fun z => c12 (b2_inj.mpr z)
    refine r_iload_n (n := 17) hX dX2_settle_16 rfl rfl 2 rfl ?_
    refine r_if_eq_b (tgt := 33) (n := 20) hX dX2_settle_17 (by decide) rfl (fun c17 => ?_) (fun c17 => ?_)
    · skip
      refine r_aload_n (n := 34) hX dX2_settle_33 rfl rfl 0 rfl ?_
      refine r_get (n := 37) hX 0 rfl rfl rfl 0 (by decide) lay_X2 fl_X2_9 rfl dX2_settle_34 rfl ?_
      refine r_iload_n (n := 38) hX dX2_settle_37 rfl rfl 1 rfl ?_
      refine r_ialdn (n := 39) (i := f) hX 1 rfl rfl (by omega) (by decide) dX2_settle_38 rfl ?_
      refine r_if_le (tgt := 55) (n := 42) hX dX2_settle_39 (by decide) rfl (fun c39 => ?_) (fun c39 => ?_)
      · skip
        refine r_aload_n (n := 56) hX dX2_settle_55 rfl rfl 0 rfl ?_
        refine r_get (n := 59) hX 0 rfl rfl rfl 1 (by decide) lay_X2 fl_X2_15 rfl dX2_settle_56 rfl ?_
        refine r_iload_n (n := 60) hX dX2_settle_59 rfl rfl 1 rfl ?_
        refine r_dup2 (n := 61) hX dX2_settle_60 rfl rfl rfl ?_
        refine r_ialdn (n := 62) (i := f) hX 2 rfl rfl (by omega) (by decide) dX2_settle_61 rfl ?_
        refine r_iconst (n := 63) hX 1 dX2_settle_62 rfl rfl ?_
        refine r_iadd (n := 64) hX dX2_settle_63 rfl ?_
        refine r_iastn (n := 65) (i := f) hX 2 rfl rfl [ob 2 [.ref l0, .ref l1, .ref l2], aI (CxD X) 12 s.1, aI (CxD X) 12 (upd s.2.1 f ((s.2.1 f) + 1)), aI (CxD X) 12 s.2.2] (by omega) (by decide) rfl dX2_settle_64 rfl ?_
        exact r_return hX hR dX2_settle_65 (by clear hR; cases w <;> cases h <;> first | (simp_all [lgSettle]; done) | (simp only [lgSettle, c39]; simp))
      · skip
        refine r_aload_n (n := 43) hX dX2_settle_42 rfl rfl 0 rfl ?_
        refine r_get (n := 46) hX 0 rfl rfl rfl 0 (by decide) lay_X2 fl_X2_9 rfl dX2_settle_43 rfl ?_
        refine r_iload_n (n := 47) hX dX2_settle_46 rfl rfl 1 rfl ?_
        refine r_dup2 (n := 48) hX dX2_settle_47 rfl rfl rfl ?_
        refine r_ialdn (n := 49) (i := f) hX 1 rfl rfl (by omega) (by decide) dX2_settle_48 rfl ?_
        refine r_iconst (n := 50) hX 1 dX2_settle_49 rfl rfl ?_
        refine r_isub (n := 51) hX dX2_settle_50 rfl ?_
        refine r_iastn (n := 52) (i := f) hX 1 rfl rfl [ob 2 [.ref l0, .ref l1, .ref l2], aI (CxD X) 12 (upd s.1 f ((s.1 f) - 1)), aI (CxD X) 12 s.2.1, aI (CxD X) 12 s.2.2] (by omega) (by decide) rfl dX2_settle_51 rfl ?_
        refine r_goto (tgt := 65) hX dX2_settle_52 (by decide) ?_
        exact r_return hX hR dX2_settle_65 (by clear hR; cases w <;> cases h <;> first | (simp_all [lgSettle]; done) | (simp only [lgSettle, c39]; simp))
    · skip
      refine r_aload_n (n := 21) hX dX2_settle_20 rfl rfl 0 rfl ?_
      refine r_get (n := 24) hX 0 rfl rfl rfl 0 (by decide) lay_X2 fl_X2_9 rfl dX2_settle_21 rfl ?_
      refine r_iload_n (n := 25) hX dX2_settle_24 rfl rfl 1 rfl ?_
      refine r_dup2 (n := 26) hX dX2_settle_25 rfl rfl rfl ?_
      refine r_ialdn (n := 27) (i := f) hX 1 rfl rfl (by omega) (by decide) dX2_settle_26 rfl ?_
      refine r_iconst (n := 28) hX 1 dX2_settle_27 rfl rfl ?_
      refine r_iadd (n := 29) hX dX2_settle_28 rfl ?_
      refine r_iastn (n := 30) (i := f) hX 1 rfl rfl [ob 2 [.ref l0, .ref l1, .ref l2], aI (CxD X) 12 (upd s.1 f ((s.1 f) + 1)), aI (CxD X) 12 s.2.1, aI (CxD X) 12 s.2.2] (by omega) (by decide) rfl dX2_settle_29 rfl ?_
      refine r_goto (tgt := 65) hX dX2_settle_30 (by decide) ?_
      exact r_return hX hR dX2_settle_65 (by clear hR; cases w <;> cases h <;> first | (simp_all [lgSettle]; done) | (simp only [lgSettle, c39]; simp))
  · have hw := b2_inj.mp c12
    exact r_return hX hR dX2_settle_15 (by clear hR; cases w <;> cases h <;> first | (simp_all [lgSettle]; done) | (simp only [lgSettle, c39]; simp))
theorem ct_X2_settle (l : Launch) (D : va_G) (lg l0 l1 l2 : Nat) (s : LG) (f : Nat) (w h : Bool) (hf : f < 12) : Ct l D m_X2_settle 0 [.ref lg, .int (nI f), .int (b2 w), .int (b2 h)] [lg, l0, l1, l2] [ob 2 [.ref l0, .ref l1, .ref l2], aI D 12 s.1, aI D 12 s.2.1, aI D 12 s.2.2] (fun r es' => r = none ∧ es' = [ob 2 [.ref l0, .ref l1, .ref l2], aI D 12 ((lgSettle s f w h).1), aI D 12 ((lgSettle s f w h).2.1), aI D 12 ((lgSettle s f w h).2.2)]) :=
  Ct.ofA (own := RX2) (by decide) rfl (Nat.le_of_ble_eq_true rfl) rfl (fun X hl hD hX hR => by subst hl; subst hD; exact wk_X2_settle hX lg l0 l1 l2 s f w h hf hR)
set_option maxHeartbeats 4000000 in
set_option maxRecDepth 100000 in
theorem wk_X2_pay {X : Cx} (hX : Ok X cX2_pay 4 RX2 0) (lg l0 l1 l2 : Nat) (s : LG) (p : Nat) (q pr : Int32) (hp : p < 12) (hR : Rt X (none) (fun r es' => r = none ∧ es' = [ob 2 [.ref l0, .ref l1, .ref l2], aI (CxD X) 12 ((lgPay s p q pr).1), aI (CxD X) 12 ((lgPay s p q pr).2.1), aI (CxD X) 12 ((lgPay s p q pr).2.2)]) [lg, l0, l1, l2]) : Aw X [lg, l0, l1, l2] [ob 2 [.ref l0, .ref l1, .ref l2], aI (CxD X) 12 s.1, aI (CxD X) 12 s.2.1, aI (CxD X) 12 s.2.2] 0 [(0, .ref lg), (1, .int (nI p)), (2, .int q), (3, .int pr)] [] := by
  refine r_iload_n (n := 1) hX dX2_pay_0 rfl rfl 1 rfl ?_
  refine r_iflt_n (n := 4) (tgt := 40) hX (by omega) dX2_pay_1 rfl (by decide) ?_
  refine r_iload_n (n := 5) hX dX2_pay_4 rfl rfl 1 rfl ?_
  refine r_bipush (n := 7) hX 12 dX2_pay_5 rfl rfl ?_
  refine r_icmp_ge_n (tgt := 40) (n := 10) hX p 12 (by omega) (by omega) dX2_pay_7 (by decide) rfl (fun c7 => absurd c7 (by omega)) (fun c7 => ?_)
  refine r_iload_n (n := 11) hX dX2_pay_10 rfl rfl 2 rfl ?_
  refine r_if_lt (tgt := 40) (n := 14) hX dX2_pay_11 (by decide) rfl (fun c11 => ?_) (fun c11 => ?_)
  · skip
    exact r_return hX hR dX2_pay_40 (by simp [lgPay, *])
  · skip
    refine r_iload_n (n := 15) hX dX2_pay_14 rfl rfl 2 rfl ?_
    refine r_bipush (n := 17) hX 12 dX2_pay_15 rfl rfl ?_
    refine r_icmp_ge (tgt := 40) (n := 20) hX dX2_pay_17 (by decide) rfl (fun c17 => ?_) (fun c17 => ?_)
    · skip
      exact r_return hX hR dX2_pay_40 (by simp [lgPay, *])
    · skip
      refine r_aload_n (n := 21) hX dX2_pay_20 rfl rfl 0 rfl ?_
      refine r_get (n := 24) hX 0 rfl rfl rfl 2 (by decide) lay_X2 fl_X2_18 rfl dX2_pay_21 rfl ?_
      refine r_iload_n (n := 25) hX dX2_pay_24 rfl rfl 1 rfl ?_
      refine r_dup2 (n := 26) hX dX2_pay_25 rfl rfl rfl ?_
      refine r_ialdn (n := 27) (i := p) hX 3 rfl rfl (by omega) (by decide) dX2_pay_26 rfl ?_
      refine r_iload_n (n := 28) hX dX2_pay_27 rfl rfl 3 rfl ?_
      refine r_isub (n := 29) hX dX2_pay_28 rfl ?_
      refine r_iastn (n := 30) (i := p) hX 3 rfl rfl [ob 2 [.ref l0, .ref l1, .ref l2], aI (CxD X) 12 s.1, aI (CxD X) 12 s.2.1, aI (CxD X) 12 (upd s.2.2 p ((s.2.2 p) - pr))] (by omega) (by decide) rfl dX2_pay_29 rfl ?_
      refine r_aload_n (n := 31) hX dX2_pay_30 rfl rfl 0 rfl ?_
      refine r_get (n := 34) hX 0 rfl rfl rfl 2 (by decide) lay_X2 fl_X2_18 rfl dX2_pay_31 rfl ?_
      refine r_iload_n (n := 35) hX dX2_pay_34 rfl rfl 2 rfl ?_
      refine r_dup2 (n := 36) hX dX2_pay_35 rfl rfl rfl ?_
      refine r_iald (n := 37) hX 3 rfl rfl (vin_of (M := 12) rfl c11 c17) dX2_pay_36 rfl ?_
      refine r_iload_n (n := 38) hX dX2_pay_37 rfl rfl 3 rfl ?_
      refine r_iadd (n := 39) hX dX2_pay_38 rfl ?_
      refine r_iast (n := 40) hX 3 rfl rfl [ob 2 [.ref l0, .ref l1, .ref l2], aI (CxD X) 12 s.1, aI (CxD X) 12 s.2.1, aI (CxD X) 12 (upd (upd s.2.2 p ((s.2.2 p) - pr)) (Int32.toNatClampNeg q) (((upd s.2.2 p ((s.2.2 p) - pr)) (Int32.toNatClampNeg q)) + pr))] (vin_of (M := 12) rfl c11 c17) rfl dX2_pay_39 rfl ?_
      exact r_return hX hR dX2_pay_40 (by simp [lgPay, *])
theorem ct_X2_pay (l : Launch) (D : va_G) (lg l0 l1 l2 : Nat) (s : LG) (p : Nat) (q pr : Int32) (hp : p < 12) : Ct l D m_X2_pay 0 [.ref lg, .int (nI p), .int q, .int pr] [lg, l0, l1, l2] [ob 2 [.ref l0, .ref l1, .ref l2], aI D 12 s.1, aI D 12 s.2.1, aI D 12 s.2.2] (fun r es' => r = none ∧ es' = [ob 2 [.ref l0, .ref l1, .ref l2], aI D 12 ((lgPay s p q pr).1), aI D 12 ((lgPay s p q pr).2.1), aI D 12 ((lgPay s p q pr).2.2)]) :=
  Ct.ofA (own := RX2) (by decide) rfl (Nat.le_of_ble_eq_true rfl) rfl (fun X hl hD hX hR => by subst hl; subst hD; exact wk_X2_pay hX lg l0 l1 l2 s p q pr hp hR)
set_option maxHeartbeats 4000000 in
set_option maxRecDepth 100000 in
theorem wk_X9_dropOut {X : Cx} (hX : Ok X cX9_dropOut 2 RX9 0) (yr y0 y1 y2 : Nat) (s : YR) (p : Nat) (hp : p < 12) (hR : Rt X (none) (fun r es' => r = none ∧ es' = [ob 9 [.ref y0, .ref y1, .ref y2, .int (nI ((yrDrop s p).2.2.2.1)), .int (b2 ((yrDrop s p).2.2.2.2))], aI (CxD X) 12 (opf ((yrDrop s p).1)), aZ (CxD X) 12 (zf ((yrDrop s p).2.1)), aI (CxD X) 12 (nf ((yrDrop s p).2.2.1))]) [yr, y0, y1, y2]) : Aw X [yr, y0, y1, y2] [ob 9 [.ref y0, .ref y1, .ref y2, .int (nI s.2.2.2.1), .int (b2 s.2.2.2.2)], aI (CxD X) 12 (opf s.1), aZ (CxD X) 12 (zf s.2.1), aI (CxD X) 12 (nf s.2.2.1)] 0 [(0, .ref yr), (1, .int (nI p))] [] := by
  refine r_iload_n (n := 1) hX dX9_dropOut_0 rfl rfl 1 rfl ?_
  refine r_iflt_n (n := 4) (tgt := 24) hX (by omega) dX9_dropOut_1 rfl (by decide) ?_
  refine r_iload_n (n := 5) hX dX9_dropOut_4 rfl rfl 1 rfl ?_
  refine r_bipush (n := 7) hX 12 dX9_dropOut_5 rfl rfl ?_
  refine r_icmp_ge_n (tgt := 24) (n := 10) hX p 12 (by omega) (by omega) dX9_dropOut_7 (by decide) rfl (fun c7 => absurd c7 (by omega)) (fun c7 => ?_)
  refine r_aload_n (n := 11) hX dX9_dropOut_10 rfl rfl 0 rfl ?_
  refine r_get (n := 14) hX 0 rfl rfl rfl 0 (by decide) lay_X9 fl_X9_9 rfl dX9_dropOut_11 rfl ?_
  refine r_iload_n (n := 15) hX dX9_dropOut_14 rfl rfl 1 rfl ?_
  refine r_iconst (n := 16) hX (-1) dX9_dropOut_15 rfl rfl ?_
  refine r_iastOn (n := 17) (i := p) hX 1 rfl rfl none [ob 9 [.ref y0, .ref y1, .ref y2, .int (nI s.2.2.2.1), .int (b2 s.2.2.2.2)], aI (CxD X) 12 (opf (va_up s.1 p none)), aZ (CxD X) 12 (zf s.2.1), aI (CxD X) 12 (nf s.2.2.1)] (by omega) (by decide) rfl dX9_dropOut_16 rfl ?_
  refine r_aload_n (n := 18) hX dX9_dropOut_17 rfl rfl 0 rfl ?_
  refine r_get (n := 21) hX 0 rfl rfl rfl 1 (by decide) lay_X9 fl_X9_15 rfl dX9_dropOut_18 rfl ?_
  refine r_iload_n (n := 22) hX dX9_dropOut_21 rfl rfl 1 rfl ?_
  refine r_iconst (n := 23) hX 1 dX9_dropOut_22 rfl rfl ?_
  refine r_zastbn (n := 24) (i := p) hX 2 rfl rfl true [ob 9 [.ref y0, .ref y1, .ref y2, .int (nI s.2.2.2.1), .int (b2 s.2.2.2.2)], aI (CxD X) 12 (opf (va_up s.1 p none)), aZ (CxD X) 12 (zf (updB s.2.1 p true)), aI (CxD X) 12 (nf s.2.2.1)] (by omega) (by decide) rfl dX9_dropOut_23 rfl ?_
  exact r_return hX hR dX9_dropOut_24 ⟨rfl, rfl⟩
theorem ct_X9_dropOut (l : Launch) (D : va_G) (yr y0 y1 y2 : Nat) (s : YR) (p : Nat) (hp : p < 12) : Ct l D m_X9_dropOut 0 [.ref yr, .int (nI p)] [yr, y0, y1, y2] [ob 9 [.ref y0, .ref y1, .ref y2, .int (nI s.2.2.2.1), .int (b2 s.2.2.2.2)], aI D 12 (opf s.1), aZ D 12 (zf s.2.1), aI D 12 (nf s.2.2.1)] (fun r es' => r = none ∧ es' = [ob 9 [.ref y0, .ref y1, .ref y2, .int (nI ((yrDrop s p).2.2.2.1)), .int (b2 ((yrDrop s p).2.2.2.2))], aI D 12 (opf ((yrDrop s p).1)), aZ D 12 (zf ((yrDrop s p).2.1)), aI D 12 (nf ((yrDrop s p).2.2.1))]) :=
  Ct.ofA (own := RX9) (by decide) rfl (Nat.le_of_ble_eq_true rfl) rfl (fun X hl hD hX hR => by subst hl; subst hD; exact wk_X9_dropOut hX yr y0 y1 y2 s p hp hR)
set_option maxHeartbeats 4000000 in
set_option maxRecDepth 100000 in
theorem wk_X9_guestOf {X : Cx} (hX : Ok X cX9_guestOf 2 RX9 1) (yr y0 y1 y2 : Nat) (s : YR) (x : Nat) (hb : obd s.1) (hx : x < 2 ^ 31)  (hR : Rt X (some FieldType.int) (fun r es' => r = some (.int (eo (gIn s.1 x 12 0))) ∧ es' = [ob 9 [.ref y0, .ref y1, .ref y2, .int (nI s.2.2.2.1), .int (b2 s.2.2.2.2)], aI (CxD X) 12 (opf s.1), aZ (CxD X) 12 (zf s.2.1), aI (CxD X) 12 (nf s.2.2.1)]) [yr, y0, y1, y2]) : Aw X [yr, y0, y1, y2] [ob 9 [.ref y0, .ref y1, .ref y2, .int (nI s.2.2.2.1), .int (b2 s.2.2.2.2)], aI (CxD X) 12 (opf s.1), aZ (CxD X) 12 (zf s.2.1), aI (CxD X) 12 (nf s.2.2.1)] 0 [(0, .ref yr), (1, .int (nI x))] [] := by
  refine r_aload_n (n := 1) hX dX9_guestOf_0 rfl rfl 0 rfl ?_
  refine r_get (n := 4) hX 0 rfl rfl rfl 0 (by decide) lay_X9 fl_X9_9 rfl dX9_guestOf_1 rfl ?_
  refine r_iload_n (n := 5) hX dX9_guestOf_4 rfl rfl 1 rfl ?_
  refine r_callSN (n := 8) (av := [.ref y0, .int (nI x)]) hX (ct_X10_guestIn (CxL X) (CxD X) y0 s.1 x hb hx) nw_X9_30 cs_X10_guestIn rfl (by decide) [1] rfl rfl (by decide) rfl (Nat.le_of_ble_eq_true rfl) dX9_guestOf_5 rfl (fun r_ es_ h_ l_ => ?_)
  obtain ⟨rfl, rfl⟩ := h_
  show Aw X [yr, y0, y1, y2] [ob 9 [.ref y0, .ref y1, .ref y2, .int (nI s.2.2.2.1), .int (b2 s.2.2.2.2)], aI (CxD X) 12 (opf s.1), aZ (CxD X) 12 (zf s.2.1), aI (CxD X) 12 (nf s.2.2.1)] 8 [(0, .ref yr), (1, .int (nI x))] [.int (eo (gIn s.1 x 12 0))]
  exact r_ireturn hX hR dX9_guestOf_8 ⟨rfl, rfl⟩
theorem ct_X9_guestOf (l : Launch) (D : va_G) (yr y0 y1 y2 : Nat) (s : YR) (x : Nat) (hb : obd s.1) (hx : x < 2 ^ 31)  : Ct l D m_X9_guestOf 1 [.ref yr, .int (nI x)] [yr, y0, y1, y2] [ob 9 [.ref y0, .ref y1, .ref y2, .int (nI s.2.2.2.1), .int (b2 s.2.2.2.2)], aI D 12 (opf s.1), aZ D 12 (zf s.2.1), aI D 12 (nf s.2.2.1)] (fun r es' => r = some (.int (eo (gIn s.1 x 12 0))) ∧ es' = [ob 9 [.ref y0, .ref y1, .ref y2, .int (nI s.2.2.2.1), .int (b2 s.2.2.2.2)], aI D 12 (opf s.1), aZ D 12 (zf s.2.1), aI D 12 (nf s.2.2.1)]) :=
  Ct.ofA (own := RX9) (by decide) rfl (Nat.le_of_ble_eq_true rfl) rfl (fun X hl hD hX hR => by subst hl; subst hD; exact wk_X9_guestOf hX yr y0 y1 y2 s x hb hx hR)
set_option maxHeartbeats 4000000 in
set_option maxRecDepth 100000 in
theorem lp_X9_begin {X : Cx} (hX : Ok X cX9_begin 3 RX9 0) (yr y0 y1 y2 ho : Nat) (s : YR) (u : Nat → Option Nat) (hR : Rt X (none) (fun r es' => r = none ∧ es' = [ob 9 [.ref y0, .ref y1, .ref y2, .int (nI ((yrBegin s u).2.2.2.1)), .int (b2 ((yrBegin s u).2.2.2.2))], aI (CxD X) 12 (opf ((yrBegin s u).1)), aZ (CxD X) 12 (zf ((yrBegin s u).2.1)), aI (CxD X) 12 (nf ((yrBegin s u).2.2.1)), aI (CxD X) 12 (opf u)]) [yr, y0, y1, y2, ho]) : ∀ (m j : Nat), j + m = 12 → Aw X [yr, y0, y1, y2, ho] [ob 9 [.ref y0, .ref y1, .ref y2, .int (nI s.2.2.2.1), .int (b2 s.2.2.2.2)], aI (CxD X) 12 (opf (cpyO s.1 u j)), aZ (CxD X) 12 (zf s.2.1), aI (CxD X) 12 (nf s.2.2.1), aI (CxD X) 12 (opf u)] 2 [(0, .ref yr), (1, .ref ho), (2, .int (nI j))] [] := by
  intro m
  induction m with
  | zero =>
    intro j hj
    refine r_iload_n (n := 3) hX dX9_begin_2 rfl rfl 2 rfl ?_
    refine r_bipush (n := 5) hX 12 dX9_begin_3 rfl rfl ?_
    refine r_icmp_ge_n (tgt := 29) (n := 8) hX j 12 (by omega) (by omega) dX9_begin_5 (by decide) rfl (fun c5 => ?_) (fun c5 => absurd c5 (by omega))
    refine r_aload_n (n := 30) hX dX9_begin_29 rfl rfl 0 rfl ?_
    refine r_iconst (n := 31) hX 1 dX9_begin_30 rfl rfl ?_
    refine r_put (n := 34) hX 0 rfl rfl rfl 4 [ob 9 [.ref y0, .ref y1, .ref y2, .int (nI s.2.2.2.1), .int (b2 true)], aI (CxD X) 12 (opf (cpyO s.1 u j)), aZ (CxD X) 12 (zf s.2.1), aI (CxD X) 12 (nf s.2.2.1), aI (CxD X) 12 (opf u)] (by decide) lay_X9 tyX9 tyX9_ok nmX9 fl_X9_26 rfl rfl rfl (Nat.le_of_ble_eq_true rfl) rfl dX9_begin_31 rfl ?_
    exact r_return hX hR dX9_begin_34 ⟨rfl, by rw [show j = 12 by omega]; rfl⟩
  | succ m ih =>
    intro j hj
    refine r_iload_n (n := 3) hX dX9_begin_2 rfl rfl 2 rfl ?_
    refine r_bipush (n := 5) hX 12 dX9_begin_3 rfl rfl ?_
    refine r_icmp_ge_n (tgt := 29) (n := 8) hX j 12 (by omega) (by omega) dX9_begin_5 (by decide) rfl (fun c5 => absurd c5 (by omega)) (fun c5 => ?_)
    refine r_iload_n (n := 9) hX dX9_begin_8 rfl rfl 2 rfl ?_
    refine r_aload_n (n := 10) hX dX9_begin_9 rfl rfl 1 rfl ?_
    refine r_alen (n := 11) hX 4 rfl rfl 0 rfl 12 rfl dX9_begin_10 rfl ?_
    refine r_icmp_ge_n (tgt := 29) (n := 14) hX j 12 (by omega) (by omega) dX9_begin_11 (by decide) rfl (fun c11 => absurd c11 (by omega)) (fun c11 => ?_)
    refine r_aload_n (n := 15) hX dX9_begin_14 rfl rfl 0 rfl ?_
    refine r_get (n := 18) hX 0 rfl rfl rfl 0 (by decide) lay_X9 fl_X9_9 rfl dX9_begin_15 rfl ?_
    refine r_iload_n (n := 19) hX dX9_begin_18 rfl rfl 2 rfl ?_
    refine r_aload_n (n := 20) hX dX9_begin_19 rfl rfl 1 rfl ?_
    refine r_iload_n (n := 21) hX dX9_begin_20 rfl rfl 2 rfl ?_
    refine r_ialdOn (n := 22) (i := j) hX 4 rfl rfl (by omega) (by decide) dX9_begin_21 rfl ?_
    refine r_iastOn (n := 23) (i := j) hX 1 rfl rfl (u j) [ob 9 [.ref y0, .ref y1, .ref y2, .int (nI s.2.2.2.1), .int (b2 s.2.2.2.2)], aI (CxD X) 12 (opf (va_up (cpyO s.1 u j) j (u j))), aZ (CxD X) 12 (zf s.2.1), aI (CxD X) 12 (nf s.2.2.1), aI (CxD X) 12 (opf u)] (by omega) (by decide) rfl dX9_begin_22 rfl ?_
    refine Aw.eqs (es' := [ob 9 [.ref y0, .ref y1, .ref y2, .int (nI s.2.2.2.1), .int (b2 s.2.2.2.2)], aI (CxD X) 12 (opf (cpyO s.1 u (j + 1))), aZ (CxD X) 12 (zf s.2.1), aI (CxD X) 12 (nf s.2.2.1), aI (CxD X) 12 (opf u)]) (by rw [cpyO_s]) rfl rfl ?_
    refine r_iinc (n := 26) hX (nI (j + 1)) [(0, .ref yr), (1, .ref ho), (2, .int (nI (j + 1)))] dX9_begin_23 rfl 2 rfl (nI_add _ _) (by decide) rfl ?_
    refine r_goto (tgt := 2) hX dX9_begin_26 (by decide) ?_
    exact ih (j + 1) (by omega)
set_option maxHeartbeats 4000000 in
set_option maxRecDepth 100000 in
theorem wk_X9_begin {X : Cx} (hX : Ok X cX9_begin 3 RX9 0) (yr y0 y1 y2 ho : Nat) (s : YR) (u : Nat → Option Nat)  (hR : Rt X (none) (fun r es' => r = none ∧ es' = [ob 9 [.ref y0, .ref y1, .ref y2, .int (nI ((yrBegin s u).2.2.2.1)), .int (b2 ((yrBegin s u).2.2.2.2))], aI (CxD X) 12 (opf ((yrBegin s u).1)), aZ (CxD X) 12 (zf ((yrBegin s u).2.1)), aI (CxD X) 12 (nf ((yrBegin s u).2.2.1)), aI (CxD X) 12 (opf u)]) [yr, y0, y1, y2, ho]) : Aw X [yr, y0, y1, y2, ho] [ob 9 [.ref y0, .ref y1, .ref y2, .int (nI s.2.2.2.1), .int (b2 s.2.2.2.2)], aI (CxD X) 12 (opf s.1), aZ (CxD X) 12 (zf s.2.1), aI (CxD X) 12 (nf s.2.2.1), aI (CxD X) 12 (opf u)] 0 [(0, .ref yr), (1, .ref ho)] [] := by
  refine r_iconst (n := 1) hX 0 dX9_begin_0 rfl rfl ?_
  refine r_istore_n (n := 2) hX [(0, .ref yr), (1, .ref ho), (2, .int 0)] dX9_begin_1 rfl rfl (by decide) rfl ?_
  refine Aw.eqs (es' := [ob 9 [.ref y0, .ref y1, .ref y2, .int (nI s.2.2.2.1), .int (b2 s.2.2.2.2)], aI (CxD X) 12 (opf (cpyO s.1 u 0)), aZ (CxD X) 12 (zf s.2.1), aI (CxD X) 12 (nf s.2.2.1), aI (CxD X) 12 (opf u)]) (by rw [cpyO_0]) rfl rfl ?_
  exact lp_X9_begin hX yr y0 y1 y2 ho s u hR 12 0 (by omega)
theorem ct_X9_begin (l : Launch) (D : va_G) (yr y0 y1 y2 ho : Nat) (s : YR) (u : Nat → Option Nat)  : Ct l D m_X9_begin 0 [.ref yr, .ref ho] [yr, y0, y1, y2, ho] [ob 9 [.ref y0, .ref y1, .ref y2, .int (nI s.2.2.2.1), .int (b2 s.2.2.2.2)], aI D 12 (opf s.1), aZ D 12 (zf s.2.1), aI D 12 (nf s.2.2.1), aI D 12 (opf u)] (fun r es' => r = none ∧ es' = [ob 9 [.ref y0, .ref y1, .ref y2, .int (nI ((yrBegin s u).2.2.2.1)), .int (b2 ((yrBegin s u).2.2.2.2))], aI D 12 (opf ((yrBegin s u).1)), aZ D 12 (zf ((yrBegin s u).2.1)), aI D 12 (nf ((yrBegin s u).2.2.1)), aI D 12 (opf u)]) :=
  Ct.ofA (own := RX9) (by decide) rfl (Nat.le_of_ble_eq_true rfl) rfl (fun X hl hD hX hR => by subst hl; subst hD; exact wk_X9_begin hX yr y0 y1 y2 ho s u hR)
set_option maxHeartbeats 4000000 in
set_option maxRecDepth 100000 in
theorem lp_X9_clear {X : Cx} (hX : Ok X cX9_clear 2 RX9 0) (yr y0 y1 y2 : Nat) (s : YR) (hR : Rt X (none) (fun r es' => r = none ∧ es' = [ob 9 [.ref y0, .ref y1, .ref y2, .int (nI ((yrClear s).2.2.2.1)), .int (b2 ((yrClear s).2.2.2.2))], aI (CxD X) 12 (opf ((yrClear s).1)), aZ (CxD X) 12 (zf ((yrClear s).2.1)), aI (CxD X) 12 (nf ((yrClear s).2.2.1))]) [yr, y0, y1, y2]) : ∀ (m j : Nat), j + m = 12 → Aw X [yr, y0, y1, y2] [ob 9 [.ref y0, .ref y1, .ref y2, .int (nI s.2.2.2.1), .int (b2 s.2.2.2.2)], aI (CxD X) 12 (opf (cpyO s.1 (fun _ => none) j)), aZ (CxD X) 12 (zf (cpyB s.2.1 (fun _ => false) j)), aI (CxD X) 12 (nf s.2.2.1)] 2 [(0, .ref yr), (1, .int (nI j))] [] := by
  intro m
  induction m with
  | zero =>
    intro j hj
    refine r_iload_n (n := 3) hX dX9_clear_2 rfl rfl 1 rfl ?_
    refine r_bipush (n := 5) hX 12 dX9_clear_3 rfl rfl ?_
    refine r_icmp_ge_n (tgt := 28) (n := 8) hX j 12 (by omega) (by omega) dX9_clear_5 (by decide) rfl (fun c5 => ?_) (fun c5 => absurd c5 (by omega))
    refine r_aload_n (n := 29) hX dX9_clear_28 rfl rfl 0 rfl ?_
    refine r_iconst (n := 30) hX 0 dX9_clear_29 rfl rfl ?_
    refine r_put (n := 33) hX 0 rfl rfl rfl 3 [ob 9 [.ref y0, .ref y1, .ref y2, .int 0, .int (b2 s.2.2.2.2)], aI (CxD X) 12 (opf (cpyO s.1 (fun _ => none) j)), aZ (CxD X) 12 (zf (cpyB s.2.1 (fun _ => false) j)), aI (CxD X) 12 (nf s.2.2.1)] (by decide) lay_X9 tyX9 tyX9_ok nmX9 fl_X9_22 rfl rfl rfl (Nat.le_of_ble_eq_true rfl) rfl dX9_clear_30 rfl ?_
    refine r_aload_n (n := 34) hX dX9_clear_33 rfl rfl 0 rfl ?_
    refine r_iconst (n := 35) hX 0 dX9_clear_34 rfl rfl ?_
    refine r_put (n := 38) hX 0 rfl rfl rfl 4 [ob 9 [.ref y0, .ref y1, .ref y2, .int 0, .int (b2 false)], aI (CxD X) 12 (opf (cpyO s.1 (fun _ => none) j)), aZ (CxD X) 12 (zf (cpyB s.2.1 (fun _ => false) j)), aI (CxD X) 12 (nf s.2.2.1)] (by decide) lay_X9 tyX9 tyX9_ok nmX9 fl_X9_26 rfl rfl rfl (Nat.le_of_ble_eq_true rfl) rfl dX9_clear_35 rfl ?_
    exact r_return hX hR dX9_clear_38 ⟨rfl, by rw [show j = 12 by omega]; rfl⟩
  | succ m ih =>
    intro j hj
    refine r_iload_n (n := 3) hX dX9_clear_2 rfl rfl 1 rfl ?_
    refine r_bipush (n := 5) hX 12 dX9_clear_3 rfl rfl ?_
    refine r_icmp_ge_n (tgt := 28) (n := 8) hX j 12 (by omega) (by omega) dX9_clear_5 (by decide) rfl (fun c5 => absurd c5 (by omega)) (fun c5 => ?_)
    refine r_aload_n (n := 9) hX dX9_clear_8 rfl rfl 0 rfl ?_
    refine r_get (n := 12) hX 0 rfl rfl rfl 0 (by decide) lay_X9 fl_X9_9 rfl dX9_clear_9 rfl ?_
    refine r_iload_n (n := 13) hX dX9_clear_12 rfl rfl 1 rfl ?_
    refine r_iconst (n := 14) hX (-1) dX9_clear_13 rfl rfl ?_
    refine r_iastOn (n := 15) (i := j) hX 1 rfl rfl none [ob 9 [.ref y0, .ref y1, .ref y2, .int (nI s.2.2.2.1), .int (b2 s.2.2.2.2)], aI (CxD X) 12 (opf (va_up (cpyO s.1 (fun _ => none) j) j none)), aZ (CxD X) 12 (zf (cpyB s.2.1 (fun _ => false) j)), aI (CxD X) 12 (nf s.2.2.1)] (by omega) (by decide) rfl dX9_clear_14 rfl ?_
    refine Aw.eqs (es' := [ob 9 [.ref y0, .ref y1, .ref y2, .int (nI s.2.2.2.1), .int (b2 s.2.2.2.2)], aI (CxD X) 12 (opf (cpyO s.1 (fun _ => none) (j + 1))), aZ (CxD X) 12 (zf (cpyB s.2.1 (fun _ => false) j)), aI (CxD X) 12 (nf s.2.2.1)]) (by rw [← cpyO_s]) rfl rfl ?_
    refine r_aload_n (n := 16) hX dX9_clear_15 rfl rfl 0 rfl ?_
    refine r_get (n := 19) hX 0 rfl rfl rfl 1 (by decide) lay_X9 fl_X9_15 rfl dX9_clear_16 rfl ?_
    refine r_iload_n (n := 20) hX dX9_clear_19 rfl rfl 1 rfl ?_
    refine r_iconst (n := 21) hX 0 dX9_clear_20 rfl rfl ?_
    refine r_zastbn (n := 22) (i := j) hX 2 rfl rfl false [ob 9 [.ref y0, .ref y1, .ref y2, .int (nI s.2.2.2.1), .int (b2 s.2.2.2.2)], aI (CxD X) 12 (opf (cpyO s.1 (fun _ => none) (j + 1))), aZ (CxD X) 12 (zf (updB (cpyB s.2.1 (fun _ => false) j) j false)), aI (CxD X) 12 (nf s.2.2.1)] (by omega) (by decide) rfl dX9_clear_21 rfl ?_
    refine Aw.eqs (es' := [ob 9 [.ref y0, .ref y1, .ref y2, .int (nI s.2.2.2.1), .int (b2 s.2.2.2.2)], aI (CxD X) 12 (opf (cpyO s.1 (fun _ => none) (j + 1))), aZ (CxD X) 12 (zf (cpyB s.2.1 (fun _ => false) (j + 1))), aI (CxD X) 12 (nf s.2.2.1)]) (by rw [← cpyB_s]) rfl rfl ?_
    refine r_iinc (n := 25) hX (nI (j + 1)) [(0, .ref yr), (1, .int (nI (j + 1)))] dX9_clear_22 rfl 1 rfl (nI_add _ _) (by decide) rfl ?_
    refine r_goto (tgt := 2) hX dX9_clear_25 (by decide) ?_
    exact ih (j + 1) (by omega)
set_option maxHeartbeats 4000000 in
set_option maxRecDepth 100000 in
theorem wk_X9_clear {X : Cx} (hX : Ok X cX9_clear 2 RX9 0) (yr y0 y1 y2 : Nat) (s : YR)  (hR : Rt X (none) (fun r es' => r = none ∧ es' = [ob 9 [.ref y0, .ref y1, .ref y2, .int (nI ((yrClear s).2.2.2.1)), .int (b2 ((yrClear s).2.2.2.2))], aI (CxD X) 12 (opf ((yrClear s).1)), aZ (CxD X) 12 (zf ((yrClear s).2.1)), aI (CxD X) 12 (nf ((yrClear s).2.2.1))]) [yr, y0, y1, y2]) : Aw X [yr, y0, y1, y2] [ob 9 [.ref y0, .ref y1, .ref y2, .int (nI s.2.2.2.1), .int (b2 s.2.2.2.2)], aI (CxD X) 12 (opf s.1), aZ (CxD X) 12 (zf s.2.1), aI (CxD X) 12 (nf s.2.2.1)] 0 [(0, .ref yr)] [] := by
  refine r_iconst (n := 1) hX 0 dX9_clear_0 rfl rfl ?_
  refine r_istore_n (n := 2) hX [(0, .ref yr), (1, .int 0)] dX9_clear_1 rfl rfl (by decide) rfl ?_
  refine Aw.eqs (es' := [ob 9 [.ref y0, .ref y1, .ref y2, .int (nI s.2.2.2.1), .int (b2 s.2.2.2.2)], aI (CxD X) 12 (opf (cpyO s.1 (fun _ => none) 0)), aZ (CxD X) 12 (zf (cpyB s.2.1 (fun _ => false) 0)), aI (CxD X) 12 (nf s.2.2.1)]) (by rw [cpyO_0, cpyB_0]) rfl rfl ?_
  exact lp_X9_clear hX yr y0 y1 y2 s hR 12 0 (by omega)
theorem ct_X9_clear (l : Launch) (D : va_G) (yr y0 y1 y2 : Nat) (s : YR)  : Ct l D m_X9_clear 0 [.ref yr] [yr, y0, y1, y2] [ob 9 [.ref y0, .ref y1, .ref y2, .int (nI s.2.2.2.1), .int (b2 s.2.2.2.2)], aI D 12 (opf s.1), aZ D 12 (zf s.2.1), aI D 12 (nf s.2.2.1)] (fun r es' => r = none ∧ es' = [ob 9 [.ref y0, .ref y1, .ref y2, .int (nI ((yrClear s).2.2.2.1)), .int (b2 ((yrClear s).2.2.2.2))], aI D 12 (opf ((yrClear s).1)), aZ D 12 (zf ((yrClear s).2.1)), aI D 12 (nf ((yrClear s).2.2.1))]) :=
  Ct.ofA (own := RX9) (by decide) rfl (Nat.le_of_ble_eq_true rfl) rfl (fun X hl hD hX hR => by subst hl; subst hD; exact wk_X9_clear hX yr y0 y1 y2 s hR)
def yrChange (s : YR) (u : Nat → Option Nat) : YR := ((foldF (yrStep u) 12 0 (s.1, s.2.2.1, 0)).1, s.2.1, (foldF (yrStep u) 12 0 (s.1, s.2.2.1, 0)).2.1, (foldF (yrStep u) 12 0 (s.1, s.2.2.1, 0)).2.2, s.2.2.2.2)
theorem yrStep_n (u : Nat → Option Nat) : ∀ (m j : Nat) (s : (Nat → Option Nat) × (Nat → Nat) × Nat), s.2.2 ≤ j → (foldF (yrStep u) m j s).2.2 ≤ j + m
  | 0, j, s, h => h
  | m + 1, j, s, h => by
    have := yrStep_n u m (j + 1) (yrStep u j s) (by unfold yrStep; split <;> simp <;> omega)
    simp only [foldF]; omega
set_option maxHeartbeats 4000000 in
set_option maxRecDepth 100000 in
theorem lp_X9_change {X : Cx} (hX : Ok X cX9_change 3 RX9 0) (yr y0 y1 y2 ho : Nat) (s : YR) (u : Nat → Option Nat) (hs : obd s.1) (hu : obd u) (hR : Rt X (some FieldType.int) (fun r es' => r = some (.int (nI (yrChange s u).2.2.2.1)) ∧ es' = [ob 9 [.ref y0, .ref y1, .ref y2, .int (nI ((yrChange s u).2.2.2.1)), .int (b2 ((yrChange s u).2.2.2.2))], aI (CxD X) 12 (opf ((yrChange s u).1)), aZ (CxD X) 12 (zf ((yrChange s u).2.1)), aI (CxD X) 12 (nf ((yrChange s u).2.2.1)), aI (CxD X) 12 (opf u)]) [yr, y0, y1, y2, ho]) : ∀ (m j : Nat) (z : (Nat → Option Nat) × (Nat → Nat) × Nat), j + m = 12 → z.2.2 ≤ j → obd z.1 → foldF (yrStep u) m j z = foldF (yrStep u) 12 0 (s.1, s.2.2.1, 0) → Aw X [yr, y0, y1, y2, ho] [ob 9 [.ref y0, .ref y1, .ref y2, .int (nI z.2.2), .int (b2 s.2.2.2.2)], aI (CxD X) 12 (opf z.1), aZ (CxD X) 12 (zf s.2.1), aI (CxD X) 12 (nf z.2.1), aI (CxD X) 12 (opf u)] 7 [(0, .ref yr), (1, .ref ho), (2, .int (nI j))] [] := by
  intro m
  induction m with
  | zero =>
    intro j z hj hz hzo he
    refine r_iload_n (n := 8) hX dX9_change_7 rfl rfl 2 rfl ?_
    refine r_bipush (n := 10) hX 12 dX9_change_8 rfl rfl ?_
    refine r_icmp_ge_n (tgt := 76) (n := 13) hX j 12 (by omega) (by omega) dX9_change_10 (by decide) rfl (fun c10 => ?_) (fun c10 => absurd c10 (by omega))
    refine r_aload_n (n := 77) hX dX9_change_76 rfl rfl 0 rfl ?_
    refine r_get (n := 80) hX 0 rfl rfl rfl 3 (by decide) lay_X9 fl_X9_22 rfl dX9_change_77 rfl ?_
    exact r_ireturn hX hR dX9_change_80 (by have he : z = foldF (yrStep u) 12 0 (s.1, s.2.2.1, 0) := he; simp only [yrChange, ← he, and_self])
  | succ m ih =>
    intro j z hj hz hzo he
    refine r_iload_n (n := 8) hX dX9_change_7 rfl rfl 2 rfl ?_
    refine r_bipush (n := 10) hX 12 dX9_change_8 rfl rfl ?_
    refine r_icmp_ge_n (tgt := 76) (n := 13) hX j 12 (by omega) (by omega) dX9_change_10 (by decide) rfl (fun c10 => absurd c10 (by omega)) (fun c10 => ?_)
    refine r_iload_n (n := 14) hX dX9_change_13 rfl rfl 2 rfl ?_
    refine r_aload_n (n := 15) hX dX9_change_14 rfl rfl 1 rfl ?_
    refine r_alen (n := 16) hX 4 rfl rfl 0 rfl 12 rfl dX9_change_15 rfl ?_
    refine r_icmp_ge_n (tgt := 76) (n := 19) hX j 12 (by omega) (by omega) dX9_change_16 (by decide) rfl (fun c16 => absurd c16 (by omega)) (fun c16 => ?_)
    refine r_aload_n (n := 20) hX dX9_change_19 rfl rfl 0 rfl ?_
    refine r_get (n := 23) hX 0 rfl rfl rfl 0 (by decide) lay_X9 fl_X9_9 rfl dX9_change_20 rfl ?_
    refine r_iload_n (n := 24) hX dX9_change_23 rfl rfl 2 rfl ?_
    refine r_ialdOn (n := 25) (i := j) hX 1 rfl rfl (by omega) (by decide) dX9_change_24 rfl ?_
    refine r_iconst (n := 26) hX (-1) dX9_change_25 rfl rfl ?_
    refine r_icmp_eq_o (tgt := 61) (n := 29) (x := z.1 j) hX hzo.b dX9_change_26 (by decide) rfl (fun c26 => ?_) (fun c26 => ?_)
    · have hs : yrStep u j z = (va_up z.1 j (u j), z.2.1, z.2.2) := by simp [yrStep, c26]
      refine r_aload_n (n := 62) hX dX9_change_61 rfl rfl 0 rfl ?_
      refine r_get (n := 65) hX 0 rfl rfl rfl 0 (by decide) lay_X9 fl_X9_9 rfl dX9_change_62 rfl ?_
      refine r_iload_n (n := 66) hX dX9_change_65 rfl rfl 2 rfl ?_
      refine r_aload_n (n := 67) hX dX9_change_66 rfl rfl 1 rfl ?_
      refine r_iload_n (n := 68) hX dX9_change_67 rfl rfl 2 rfl ?_
      refine r_ialdOn (n := 69) (i := j) hX 4 rfl rfl (by omega) (by decide) dX9_change_68 rfl ?_
      refine r_iastOn (n := 70) (i := j) hX 1 rfl rfl (u j) [ob 9 [.ref y0, .ref y1, .ref y2, .int (nI z.2.2), .int (b2 s.2.2.2.2)], aI (CxD X) 12 (opf (va_up z.1 j (u j))), aZ (CxD X) 12 (zf s.2.1), aI (CxD X) 12 (nf z.2.1), aI (CxD X) 12 (opf u)] (by omega) (by decide) rfl dX9_change_69 rfl ?_
      refine r_iinc (n := 73) hX (nI (j + 1)) [(0, .ref yr), (1, .ref ho), (2, .int (nI (j + 1)))] dX9_change_70 rfl 2 rfl (nI_add _ _) (by decide) rfl ?_
      refine r_goto (tgt := 7) hX dX9_change_73 (by decide) ?_
      exact ih (j + 1) (va_up z.1 j (u j), z.2.1, z.2.2) (by omega) (by dsimp only; omega) (hzo.up (hu j)) (by rw [← he]; simp only [foldF, hs])
    · skip
      refine r_aload_n (n := 30) hX dX9_change_29 rfl rfl 0 rfl ?_
      refine r_get (n := 33) hX 0 rfl rfl rfl 0 (by decide) lay_X9 fl_X9_9 rfl dX9_change_30 rfl ?_
      refine r_iload_n (n := 34) hX dX9_change_33 rfl rfl 2 rfl ?_
      refine r_ialdOn (n := 35) (i := j) hX 1 rfl rfl (by omega) (by decide) dX9_change_34 rfl ?_
      refine r_aload_n (n := 36) hX dX9_change_35 rfl rfl 1 rfl ?_
      refine r_iload_n (n := 37) hX dX9_change_36 rfl rfl 2 rfl ?_
      refine r_ialdOn (n := 38) (i := j) hX 4 rfl rfl (by omega) (by decide) dX9_change_37 rfl ?_
      refine r_icmp_eq (tgt := 61) (n := 41) hX dX9_change_38 (by decide) rfl (fun c38 => ?_) (fun c38 => ?_)
      · have hs : yrStep u j z = (va_up z.1 j (u j), z.2.1, z.2.2) := by simp [yrStep, (eo_eo hzo.b hu.b).mp c38]
        refine r_aload_n (n := 62) hX dX9_change_61 rfl rfl 0 rfl ?_
        refine r_get (n := 65) hX 0 rfl rfl rfl 0 (by decide) lay_X9 fl_X9_9 rfl dX9_change_62 rfl ?_
        refine r_iload_n (n := 66) hX dX9_change_65 rfl rfl 2 rfl ?_
        refine r_aload_n (n := 67) hX dX9_change_66 rfl rfl 1 rfl ?_
        refine r_iload_n (n := 68) hX dX9_change_67 rfl rfl 2 rfl ?_
        refine r_ialdOn (n := 69) (i := j) hX 4 rfl rfl (by omega) (by decide) dX9_change_68 rfl ?_
        refine r_iastOn (n := 70) (i := j) hX 1 rfl rfl (u j) [ob 9 [.ref y0, .ref y1, .ref y2, .int (nI z.2.2), .int (b2 s.2.2.2.2)], aI (CxD X) 12 (opf (va_up z.1 j (u j))), aZ (CxD X) 12 (zf s.2.1), aI (CxD X) 12 (nf z.2.1), aI (CxD X) 12 (opf u)] (by omega) (by decide) rfl dX9_change_69 rfl ?_
        refine r_iinc (n := 73) hX (nI (j + 1)) [(0, .ref yr), (1, .ref ho), (2, .int (nI (j + 1)))] dX9_change_70 rfl 2 rfl (nI_add _ _) (by decide) rfl ?_
        refine r_goto (tgt := 7) hX dX9_change_73 (by decide) ?_
        exact ih (j + 1) (va_up z.1 j (u j), z.2.1, z.2.2) (by omega) (by dsimp only; omega) (hzo.up (hu j)) (by rw [← he]; simp only [foldF, hs])
      · have hs : yrStep u j z = (va_up z.1 j (u j), va_up z.2.1 z.2.2 j, z.2.2 + 1) := by have c38 : ¬ z.1 j = u j := fun e => c38 ((eo_eo hzo.b hu.b).mpr e); simp [yrStep, c26, c38]
        refine r_aload_n (n := 42) hX dX9_change_41 rfl rfl 0 rfl ?_
        refine r_get (n := 45) hX 0 rfl rfl rfl 2 (by decide) lay_X9 fl_X9_19 rfl dX9_change_42 rfl ?_
        refine r_aload_n (n := 46) hX dX9_change_45 rfl rfl 0 rfl ?_
        refine r_get (n := 49) hX 0 rfl rfl rfl 3 (by decide) lay_X9 fl_X9_22 rfl dX9_change_46 rfl ?_
        refine r_iload_n (n := 50) hX dX9_change_49 rfl rfl 2 rfl ?_
        refine r_iastNn (n := 51) (i := z.2.2) hX 3 rfl rfl j [ob 9 [.ref y0, .ref y1, .ref y2, .int (nI z.2.2), .int (b2 s.2.2.2.2)], aI (CxD X) 12 (opf z.1), aZ (CxD X) 12 (zf s.2.1), aI (CxD X) 12 (nf (va_up z.2.1 z.2.2 j)), aI (CxD X) 12 (opf u)] (by omega) (by decide) rfl dX9_change_50 rfl ?_
        refine r_aload_n (n := 52) hX dX9_change_51 rfl rfl 0 rfl ?_
        refine r_dup (n := 53) hX dX9_change_52 rfl rfl ?_
        refine r_get (n := 56) hX 0 rfl rfl rfl 3 (by decide) lay_X9 fl_X9_22 rfl dX9_change_53 rfl ?_
        refine r_iconst (n := 57) hX 1 dX9_change_56 rfl rfl ?_
        refine r_iadd (n := 58) hX dX9_change_57 rfl ?_
        refine Aw.topi (nI (z.2.2 + 1)) (nI_add _ _) ?_
        refine r_put (n := 61) hX 0 rfl rfl rfl 3 [ob 9 [.ref y0, .ref y1, .ref y2, .int (nI (z.2.2 + 1)), .int (b2 s.2.2.2.2)], aI (CxD X) 12 (opf z.1), aZ (CxD X) 12 (zf s.2.1), aI (CxD X) 12 (nf (va_up z.2.1 z.2.2 j)), aI (CxD X) 12 (opf u)] (by decide) lay_X9 tyX9 tyX9_ok nmX9 fl_X9_22 rfl rfl rfl (Nat.le_of_ble_eq_true rfl) rfl dX9_change_58 rfl ?_
        refine r_aload_n (n := 62) hX dX9_change_61 rfl rfl 0 rfl ?_
        refine r_get (n := 65) hX 0 rfl rfl rfl 0 (by decide) lay_X9 fl_X9_9 rfl dX9_change_62 rfl ?_
        refine r_iload_n (n := 66) hX dX9_change_65 rfl rfl 2 rfl ?_
        refine r_aload_n (n := 67) hX dX9_change_66 rfl rfl 1 rfl ?_
        refine r_iload_n (n := 68) hX dX9_change_67 rfl rfl 2 rfl ?_
        refine r_ialdOn (n := 69) (i := j) hX 4 rfl rfl (by omega) (by decide) dX9_change_68 rfl ?_
        refine r_iastOn (n := 70) (i := j) hX 1 rfl rfl (u j) [ob 9 [.ref y0, .ref y1, .ref y2, .int (nI (z.2.2 + 1)), .int (b2 s.2.2.2.2)], aI (CxD X) 12 (opf (va_up z.1 j (u j))), aZ (CxD X) 12 (zf s.2.1), aI (CxD X) 12 (nf (va_up z.2.1 z.2.2 j)), aI (CxD X) 12 (opf u)] (by omega) (by decide) rfl dX9_change_69 rfl ?_
        refine r_iinc (n := 73) hX (nI (j + 1)) [(0, .ref yr), (1, .ref ho), (2, .int (nI (j + 1)))] dX9_change_70 rfl 2 rfl (nI_add _ _) (by decide) rfl ?_
        refine r_goto (tgt := 7) hX dX9_change_73 (by decide) ?_
        exact ih (j + 1) (va_up z.1 j (u j), va_up z.2.1 z.2.2 j, z.2.2 + 1) (by omega) (by dsimp only; omega) (hzo.up (hu j)) (by rw [← he]; simp only [foldF, hs])
set_option maxHeartbeats 4000000 in
set_option maxRecDepth 100000 in
theorem wk_X9_change {X : Cx} (hX : Ok X cX9_change 3 RX9 0) (yr y0 y1 y2 ho : Nat) (s : YR) (u : Nat → Option Nat) (hs : obd s.1) (hu : obd u)  (hR : Rt X (some FieldType.int) (fun r es' => r = some (.int (nI (yrChange s u).2.2.2.1)) ∧ es' = [ob 9 [.ref y0, .ref y1, .ref y2, .int (nI ((yrChange s u).2.2.2.1)), .int (b2 ((yrChange s u).2.2.2.2))], aI (CxD X) 12 (opf ((yrChange s u).1)), aZ (CxD X) 12 (zf ((yrChange s u).2.1)), aI (CxD X) 12 (nf ((yrChange s u).2.2.1)), aI (CxD X) 12 (opf u)]) [yr, y0, y1, y2, ho]) : Aw X [yr, y0, y1, y2, ho] [ob 9 [.ref y0, .ref y1, .ref y2, .int (nI s.2.2.2.1), .int (b2 s.2.2.2.2)], aI (CxD X) 12 (opf s.1), aZ (CxD X) 12 (zf s.2.1), aI (CxD X) 12 (nf s.2.2.1), aI (CxD X) 12 (opf u)] 0 [(0, .ref yr), (1, .ref ho)] [] := by
  refine r_aload_n (n := 1) hX dX9_change_0 rfl rfl 0 rfl ?_
  refine r_iconst (n := 2) hX 0 dX9_change_1 rfl rfl ?_
  refine r_put (n := 5) hX 0 rfl rfl rfl 3 [ob 9 [.ref y0, .ref y1, .ref y2, .int 0, .int (b2 s.2.2.2.2)], aI (CxD X) 12 (opf s.1), aZ (CxD X) 12 (zf s.2.1), aI (CxD X) 12 (nf s.2.2.1), aI (CxD X) 12 (opf u)] (by decide) lay_X9 tyX9 tyX9_ok nmX9 fl_X9_22 rfl rfl rfl (Nat.le_of_ble_eq_true rfl) rfl dX9_change_2 rfl ?_
  refine r_iconst (n := 6) hX 0 dX9_change_5 rfl rfl ?_
  refine r_istore_n (n := 7) hX [(0, .ref yr), (1, .ref ho), (2, .int 0)] dX9_change_6 rfl rfl (by decide) rfl ?_
  exact lp_X9_change hX yr y0 y1 y2 ho s u hs hu hR 12 0 (s.1, s.2.2.1, 0) (by omega) (by simp) hs rfl
theorem ct_X9_change (l : Launch) (D : va_G) (yr y0 y1 y2 ho : Nat) (s : YR) (u : Nat → Option Nat) (hs : obd s.1) (hu : obd u)  : Ct l D m_X9_change 0 [.ref yr, .ref ho] [yr, y0, y1, y2, ho] [ob 9 [.ref y0, .ref y1, .ref y2, .int (nI s.2.2.2.1), .int (b2 s.2.2.2.2)], aI D 12 (opf s.1), aZ D 12 (zf s.2.1), aI D 12 (nf s.2.2.1), aI D 12 (opf u)] (fun r es' => r = some (.int (nI (yrChange s u).2.2.2.1)) ∧ es' = [ob 9 [.ref y0, .ref y1, .ref y2, .int (nI ((yrChange s u).2.2.2.1)), .int (b2 ((yrChange s u).2.2.2.2))], aI D 12 (opf ((yrChange s u).1)), aZ D 12 (zf ((yrChange s u).2.1)), aI D 12 (nf ((yrChange s u).2.2.1)), aI D 12 (opf u)]) :=
  Ct.ofA (own := RX9) (by decide) rfl (Nat.le_of_ble_eq_true rfl) rfl (fun X hl hD hX hR => by subst hl; subst hD; exact wk_X9_change hX yr y0 y1 y2 ho s u hs hu hR)
