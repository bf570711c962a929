
theorem ne_toInt {x k : Int32} {a : Int} (h : ¬ x = k) (hk : k.toInt = a) : x.toInt ≠ a := fun e => h (Int32.toInt_inj.mp (e.trans hk.symm))
/-! HostYear$Text: code, isBar, from, condFrom, to, trait, size, rules, traits -/
abbrev TX : Type := (Nat → Int32) × (Nat → Bool) × (Nat → Nat) × (Nat → Nat) × (Nat → Nat) × (Nat → Int64) × Nat × Nat × Nat
abbrev txSize (s : TX) : Nat := s.2.2.2.2.2.2.1
abbrev txRules (s : TX) : Nat := s.2.2.2.2.2.2.2.1
abbrev txTraits (s : TX) : Nat := s.2.2.2.2.2.2.2.2
abbrev txTrait (s : TX) : Nat → Int64 := s.2.2.2.2.2.1
def txEnc (st ar : Int32) : Int32 := (st <<< (16 &&& 31)) ||| (ar &&& 65535)
def txClear (s : TX) : TX := (s.1, s.2.1, s.2.2.1, s.2.2.2.1, s.2.2.2.2.1, s.2.2.2.2.2.1, 0, 0, 0)
def txStep (s : TX) (st ar : Int32) : TX := if 600 ≤ txSize s then s else (upd s.1 (txSize s) (txEnc st ar), s.2.1, s.2.2.1, s.2.2.2.1, s.2.2.2.2.1, s.2.2.2.2.2.1, txSize s + 1, s.2.2.2.2.2.2.2)
def txAddT (s : TX) (nm : Int64) : TX := if 8 ≤ txTraits s then s else (s.1, s.2.1, s.2.2.1, s.2.2.2.1, s.2.2.2.2.1, vp_updL (txTrait s) (txTraits s) nm, txSize s, txRules s, txTraits s + 1)
def txFind (s : TX) (nm : Int64) : Nat → Nat → Option Nat
  | 0, _ => none
  | m + 1, k => if txTrait s k = nm then some k else txFind s nm m (k + 1)
def txNamed (s : TX) (nm : Int64) : Option Nat := txFind s nm (txTraits s) 0
def txRule (s : TX) (bar : Bool) (a b : Nat) : TX := if 20 ≤ txRules s then s else (s.1, updB s.2.1 (txRules s) bar, va_up s.2.2.1 (txRules s) a, va_up s.2.2.2.1 (txRules s) b, va_up s.2.2.2.2.1 (txRules s) (txSize s), s.2.2.2.2.2.1, txSize s, txRules s + 1, txTraits s)

set_option maxHeartbeats 4000000 in
set_option maxRecDepth 100000 in
theorem wk_X7_clear {X : Cx} (hX : Ok X cX7_clear 1 RX7 0) (tx x0 x1 x2 x3 x4 x5 : Nat) (s : TX)  (hR : Rt X (none) (fun r es' => r = none ∧ es' = [ob 7 [.ref x0, .ref x1, .ref x2, .ref x3, .ref x4, .ref x5, .int (nI (txSize (txClear s))), .int (nI (txRules (txClear s))), .int (nI (txTraits (txClear s)))], aI (CxD X) 600 ((txClear s).1), aZ (CxD X) 20 (zf ((txClear s).2.1)), aI (CxD X) 20 (nf ((txClear s).2.2.1)), aI (CxD X) 20 (nf ((txClear s).2.2.2.1)), aI (CxD X) 20 (nf ((txClear s).2.2.2.2.1)), aJ (CxD X) 8 ((txClear s).2.2.2.2.2.1)]) [tx, x0, x1, x2, x3, x4, x5]) : Aw X [tx, x0, x1, x2, x3, x4, x5] [ob 7 [.ref x0, .ref x1, .ref x2, .ref x3, .ref x4, .ref x5, .int (nI (txSize s)), .int (nI (txRules s)), .int (nI (txTraits s))], aI (CxD X) 600 s.1, aZ (CxD X) 20 (zf s.2.1), aI (CxD X) 20 (nf s.2.2.1), aI (CxD X) 20 (nf s.2.2.2.1), aI (CxD X) 20 (nf s.2.2.2.2.1), aJ (CxD X) 8 s.2.2.2.2.2.1] 0 [(0, .ref tx)] [] := by
  refine r_aload_n (n := 1) hX dX7_clear_0 rfl rfl 0 rfl ?_
  refine r_iconst (n := 2) hX 0 dX7_clear_1 rfl rfl ?_
  refine r_put (n := 5) hX 0 rfl rfl rfl 6 [ob 7 [.ref x0, .ref x1, .ref x2, .ref x3, .ref x4, .ref x5, .int 0, .int (nI (txRules s)), .int (nI (txTraits s))], aI (CxD X) 600 s.1, aZ (CxD X) 20 (zf s.2.1), aI (CxD X) 20 (nf s.2.2.1), aI (CxD X) 20 (nf s.2.2.2.1), aI (CxD X) 20 (nf s.2.2.2.2.1), aJ (CxD X) 8 s.2.2.2.2.2.1] (by decide) lay_X7 tyX7 tyX7_ok nmX7 fl_X7_32 rfl rfl rfl (Nat.le_of_ble_eq_true rfl) rfl dX7_clear_2 rfl ?_
  refine r_aload_n (n := 6) hX dX7_clear_5 rfl rfl 0 rfl ?_
  refine r_iconst (n := 7) hX 0 dX7_clear_6 rfl rfl ?_
  refine r_put (n := 10) hX 0 rfl rfl rfl 7 [ob 7 [.ref x0, .ref x1, .ref x2, .ref x3, .ref x4, .ref x5, .int 0, .int 0, .int (nI (txTraits s))], aI (CxD X) 600 s.1, aZ (CxD X) 20 (zf s.2.1), aI (CxD X) 20 (nf s.2.2.1), aI (CxD X) 20 (nf s.2.2.2.1), aI (CxD X) 20 (nf s.2.2.2.2.1), aJ (CxD X) 8 s.2.2.2.2.2.1] (by decide) lay_X7 tyX7 tyX7_ok nmX7 fl_X7_36 rfl rfl rfl (Nat.le_of_ble_eq_true rfl) rfl dX7_clear_7 rfl ?_
  refine r_aload_n (n := 11) hX dX7_clear_10 rfl rfl 0 rfl ?_
  refine r_iconst (n := 12) hX 0 dX7_clear_11 rfl rfl ?_
  refine r_put (n := 15) hX 0 rfl rfl rfl 8 [ob 7 [.ref x0, .ref x1, .ref x2, .ref x3, .ref x4, .ref x5, .int 0, .int 0, .int 0], aI (CxD X) 600 s.1, aZ (CxD X) 20 (zf s.2.1), aI (CxD X) 20 (nf s.2.2.1), aI (CxD X) 20 (nf s.2.2.2.1), aI (CxD X) 20 (nf s.2.2.2.2.1), aJ (CxD X) 8 s.2.2.2.2.2.1] (by decide) lay_X7 tyX7 tyX7_ok nmX7 fl_X7_39 rfl rfl rfl (Nat.le_of_ble_eq_true rfl) rfl dX7_clear_12 rfl ?_
  exact r_return hX hR dX7_clear_15 ⟨rfl, rfl⟩
theorem ct_X7_clear (l : Launch) (D : va_G) (tx x0 x1 x2 x3 x4 x5 : Nat) (s : TX)  : Ct l D m_X7_clear 0 [.ref tx] [tx, x0, x1, x2, x3, x4, x5] [ob 7 [.ref x0, .ref x1, .ref x2, .ref x3, .ref x4, .ref x5, .int (nI (txSize s)), .int (nI (txRules s)), .int (nI (txTraits s))], aI D 600 s.1, aZ D 20 (zf s.2.1), aI D 20 (nf s.2.2.1), aI D 20 (nf s.2.2.2.1), aI D 20 (nf s.2.2.2.2.1), aJ D 8 s.2.2.2.2.2.1] (fun r es' => r = none ∧ es' = [ob 7 [.ref x0, .ref x1, .ref x2, .ref x3, .ref x4, .ref x5, .int (nI (txSize (txClear s))), .int (nI (txRules (txClear s))), .int (nI (txTraits (txClear s)))], aI D 600 ((txClear s).1), aZ D 20 (zf ((txClear s).2.1)), aI D 20 (nf ((txClear s).2.2.1)), aI D 20 (nf ((txClear s).2.2.2.1)), aI D 20 (nf ((txClear s).2.2.2.2.1)), aJ D 8 ((txClear s).2.2.2.2.2.1)]) :=
  Ct.ofA (own := RX7) (by decide) rfl (Nat.le_of_ble_eq_true rfl) rfl (fun X hl hD hX hR => by subst hl; subst hD; exact wk_X7_clear hX tx x0 x1 x2 x3 x4 x5 s hR)
set_option maxHeartbeats 4000000 in
set_option maxRecDepth 100000 in
theorem wk_X7_addStep {X : Cx} (hX : Ok X cX7_addStep 3 RX7 0) (tx x0 x1 x2 x3 x4 x5 : Nat) (s : TX) (st ar : Int32) (hs : txSize s ≤ 600) (hR : Rt X (none) (fun r es' => r = none ∧ es' = [ob 7 [.ref x0, .ref x1, .ref x2, .ref x3, .ref x4, .ref x5, .int (nI (txSize (txStep s st ar))), .int (nI (txRules (txStep s st ar))), .int (nI (txTraits (txStep s st ar)))], aI (CxD X) 600 ((txStep s st ar).1), aZ (CxD X) 20 (zf ((txStep s st ar).2.1)), aI (CxD X) 20 (nf ((txStep s st ar).2.2.1)), aI (CxD X) 20 (nf ((txStep s st ar).2.2.2.1)), aI (CxD X) 20 (nf ((txStep s st ar).2.2.2.2.1)), aJ (CxD X) 8 ((txStep s st ar).2.2.2.2.2.1)]) [tx, x0, x1, x2, x3, x4, x5]) : Aw X [tx, x0, x1, x2, x3, x4, x5] [ob 7 [.ref x0, .ref x1, .ref x2, .ref x3, .ref x4, .ref x5, .int (nI (txSize s)), .int (nI (txRules s)), .int (nI (txTraits s))], aI (CxD X) 600 s.1, aZ (CxD X) 20 (zf s.2.1), aI (CxD X) 20 (nf s.2.2.1), aI (CxD X) 20 (nf s.2.2.2.1), aI (CxD X) 20 (nf s.2.2.2.2.1), aJ (CxD X) 8 s.2.2.2.2.2.1] 0 [(0, .ref tx), (1, .int st), (2, .int ar)] [] := by
  refine r_aload_n (n := 1) hX dX7_addStep_0 rfl rfl 0 rfl ?_
  refine r_get (n := 4) hX 0 rfl rfl rfl 6 (by decide) lay_X7 fl_X7_32 rfl dX7_addStep_1 rfl ?_
  refine r_sipush (n := 7) hX 600 dX7_addStep_4 rfl rfl ?_
  refine r_icmp_ge_n (tgt := 38) (n := 10) hX (txSize s) 600 (by omega) (by omega) dX7_addStep_7 (by decide) rfl (fun c7 => ?_) (fun c7 => ?_)
  · skip
    exact r_return hX hR dX7_addStep_38 ⟨rfl, by first | (rw [txStep, if_pos c7]) | (rw [txStep, if_neg (Nat.not_le.mpr c7)]; rfl)⟩
  · skip
    refine r_aload_n (n := 11) hX dX7_addStep_10 rfl rfl 0 rfl ?_
    refine r_get (n := 14) hX 0 rfl rfl rfl 0 (by decide) lay_X7 fl_X7_9 rfl dX7_addStep_11 rfl ?_
    refine r_aload_n (n := 15) hX dX7_addStep_14 rfl rfl 0 rfl ?_
    refine r_get (n := 18) hX 0 rfl rfl rfl 6 (by decide) lay_X7 fl_X7_32 rfl dX7_addStep_15 rfl ?_
    refine r_iload_n (n := 19) hX dX7_addStep_18 rfl rfl 1 rfl ?_
    refine r_bipush (n := 21) hX 16 dX7_addStep_19 rfl rfl ?_
    refine r_ishl (n := 22) hX dX7_addStep_21 rfl ?_
    refine r_iload_n (n := 23) hX dX7_addStep_22 rfl rfl 2 rfl ?_
    refine r_ldc (n := 25) hX dX7_addStep_23 rfl kc_X7_42 ?_
    refine r_iand (n := 26) hX dX7_addStep_25 rfl ?_
    refine r_ior (n := 27) hX dX7_addStep_26 rfl ?_
    refine r_iastn (n := 28) (i := (txSize s)) hX 1 rfl rfl [ob 7 [.ref x0, .ref x1, .ref x2, .ref x3, .ref x4, .ref x5, .int (nI (txSize s)), .int (nI (txRules s)), .int (nI (txTraits s))], aI (CxD X) 600 (upd s.1 (txSize s) ((st <<< (16 &&& 31)) ||| (ar &&& 65535))), aZ (CxD X) 20 (zf s.2.1), aI (CxD X) 20 (nf s.2.2.1), aI (CxD X) 20 (nf s.2.2.2.1), aI (CxD X) 20 (nf s.2.2.2.2.1), aJ (CxD X) 8 s.2.2.2.2.2.1] (by omega) (by decide) rfl dX7_addStep_27 rfl ?_
    refine r_aload_n (n := 29) hX dX7_addStep_28 rfl rfl 0 rfl ?_
    refine r_dup (n := 30) hX dX7_addStep_29 rfl rfl ?_
    refine r_get (n := 33) hX 0 rfl rfl rfl 6 (by decide) lay_X7 fl_X7_32 rfl dX7_addStep_30 rfl ?_
    refine r_iconst (n := 34) hX 1 dX7_addStep_33 rfl rfl ?_
    refine r_iadd (n := 35) hX dX7_addStep_34 rfl ?_
    refine Aw.topi (nI ((txSize s) + 1)) (nI_add _ _) ?_
    refine r_put (n := 38) hX 0 rfl rfl rfl 6 [ob 7 [.ref x0, .ref x1, .ref x2, .ref x3, .ref x4, .ref x5, .int (nI ((txSize s) + 1)), .int (nI (txRules s)), .int (nI (txTraits s))], aI (CxD X) 600 (upd s.1 (txSize s) ((st <<< (16 &&& 31)) ||| (ar &&& 65535))), aZ (CxD X) 20 (zf s.2.1), aI (CxD X) 20 (nf s.2.2.1), aI (CxD X) 20 (nf s.2.2.2.1), aI (CxD X) 20 (nf s.2.2.2.2.1), aJ (CxD X) 8 s.2.2.2.2.2.1] (by decide) lay_X7 tyX7 tyX7_ok nmX7 fl_X7_32 rfl rfl rfl (Nat.le_of_ble_eq_true rfl) rfl dX7_addStep_35 rfl ?_
    exact r_return hX hR dX7_addStep_38 ⟨rfl, by first | (rw [txStep, if_pos c7]) | (rw [txStep, if_neg (Nat.not_le.mpr c7)]; rfl)⟩
theorem ct_X7_addStep (l : Launch) (D : va_G) (tx x0 x1 x2 x3 x4 x5 : Nat) (s : TX) (st ar : Int32) (hs : txSize s ≤ 600) : Ct l D m_X7_addStep 0 [.ref tx, .int st, .int ar] [tx, x0, x1, x2, x3, x4, x5] [ob 7 [.ref x0, .ref x1, .ref x2, .ref x3, .ref x4, .ref x5, .int (nI (txSize s)), .int (nI (txRules s)), .int (nI (txTraits s))], aI D 600 s.1, aZ D 20 (zf s.2.1), aI D 20 (nf s.2.2.1), aI D 20 (nf s.2.2.2.1), aI D 20 (nf s.2.2.2.2.1), aJ D 8 s.2.2.2.2.2.1] (fun r es' => r = none ∧ es' = [ob 7 [.ref x0, .ref x1, .ref x2, .ref x3, .ref x4, .ref x5, .int (nI (txSize (txStep s st ar))), .int (nI (txRules (txStep s st ar))), .int (nI (txTraits (txStep s st ar)))], aI D 600 ((txStep s st ar).1), aZ D 20 (zf ((txStep s st ar).2.1)), aI D 20 (nf ((txStep s st ar).2.2.1)), aI D 20 (nf ((txStep s st ar).2.2.2.1)), aI D 20 (nf ((txStep s st ar).2.2.2.2.1)), aJ D 8 ((txStep s st ar).2.2.2.2.2.1)]) :=
  Ct.ofA (own := RX7) (by decide) rfl (Nat.le_of_ble_eq_true rfl) rfl (fun X hl hD hX hR => by subst hl; subst hD; exact wk_X7_addStep hX tx x0 x1 x2 x3 x4 x5 s st ar hs hR)
set_option maxHeartbeats 4000000 in
set_option maxRecDepth 100000 in
theorem wk_X7_addTrait {X : Cx} (hX : Ok X cX7_addTrait 3 RX7 0) (tx x0 x1 x2 x3 x4 x5 : Nat) (s : TX) (nm : Int64) (hs : txTraits s ≤ 8) (hR : Rt X (none) (fun r es' => r = none ∧ es' = [ob 7 [.ref x0, .ref x1, .ref x2, .ref x3, .ref x4, .ref x5, .int (nI (txSize (txAddT s nm))), .int (nI (txRules (txAddT s nm))), .int (nI (txTraits (txAddT s nm)))], aI (CxD X) 600 ((txAddT s nm).1), aZ (CxD X) 20 (zf ((txAddT s nm).2.1)), aI (CxD X) 20 (nf ((txAddT s nm).2.2.1)), aI (CxD X) 20 (nf ((txAddT s nm).2.2.2.1)), aI (CxD X) 20 (nf ((txAddT s nm).2.2.2.2.1)), aJ (CxD X) 8 ((txAddT s nm).2.2.2.2.2.1)]) [tx, x0, x1, x2, x3, x4, x5]) : Aw X [tx, x0, x1, x2, x3, x4, x5] [ob 7 [.ref x0, .ref x1, .ref x2, .ref x3, .ref x4, .ref x5, .int (nI (txSize s)), .int (nI (txRules s)), .int (nI (txTraits s))], aI (CxD X) 600 s.1, aZ (CxD X) 20 (zf s.2.1), aI (CxD X) 20 (nf s.2.2.1), aI (CxD X) 20 (nf s.2.2.2.1), aI (CxD X) 20 (nf s.2.2.2.2.1), aJ (CxD X) 8 s.2.2.2.2.2.1] 0 [(0, .ref tx), (1, .long nm)] [] := by
  refine r_aload_n (n := 1) hX dX7_addTrait_0 rfl rfl 0 rfl ?_
  refine r_get (n := 4) hX 0 rfl rfl rfl 8 (by decide) lay_X7 fl_X7_39 rfl dX7_addTrait_1 rfl ?_
  refine r_bipush (n := 6) hX 8 dX7_addTrait_4 rfl rfl ?_
  refine r_icmp_ge_n (tgt := 29) (n := 9) hX (txTraits s) 8 (by omega) (by omega) dX7_addTrait_6 (by decide) rfl (fun c6 => ?_) (fun c6 => ?_)
  · skip
    exact r_return hX hR dX7_addTrait_29 ⟨rfl, by first | (rw [txAddT, if_pos c6]) | (rw [txAddT, if_neg (Nat.not_le.mpr c6)])⟩
  · skip
    refine r_aload_n (n := 10) hX dX7_addTrait_9 rfl rfl 0 rfl ?_
    refine r_get (n := 13) hX 0 rfl rfl rfl 5 (by decide) lay_X7 fl_X7_28 rfl dX7_addTrait_10 rfl ?_
    refine r_aload_n (n := 14) hX dX7_addTrait_13 rfl rfl 0 rfl ?_
    refine r_get (n := 17) hX 0 rfl rfl rfl 8 (by decide) lay_X7 fl_X7_39 rfl dX7_addTrait_14 rfl ?_
    refine r_lload_n (n := 18) hX dX7_addTrait_17 rfl rfl 1 rfl ?_
    refine r_lastn (n := 19) (i := (txTraits s)) hX 6 rfl rfl [ob 7 [.ref x0, .ref x1, .ref x2, .ref x3, .ref x4, .ref x5, .int (nI (txSize s)), .int (nI (txRules s)), .int (nI (txTraits s))], aI (CxD X) 600 s.1, aZ (CxD X) 20 (zf s.2.1), aI (CxD X) 20 (nf s.2.2.1), aI (CxD X) 20 (nf s.2.2.2.1), aI (CxD X) 20 (nf s.2.2.2.2.1), aJ (CxD X) 8 (vp_updL s.2.2.2.2.2.1 (txTraits s) nm)] (by omega) (by decide) rfl dX7_addTrait_18 rfl ?_
    refine r_aload_n (n := 20) hX dX7_addTrait_19 rfl rfl 0 rfl ?_
    refine r_dup (n := 21) hX dX7_addTrait_20 rfl rfl ?_
    refine r_get (n := 24) hX 0 rfl rfl rfl 8 (by decide) lay_X7 fl_X7_39 rfl dX7_addTrait_21 rfl ?_
    refine r_iconst (n := 25) hX 1 dX7_addTrait_24 rfl rfl ?_
    refine r_iadd (n := 26) hX dX7_addTrait_25 rfl ?_
    refine Aw.topi (nI ((txTraits s) + 1)) (nI_add _ _) ?_
    refine r_put (n := 29) hX 0 rfl rfl rfl 8 [ob 7 [.ref x0, .ref x1, .ref x2, .ref x3, .ref x4, .ref x5, .int (nI (txSize s)), .int (nI (txRules s)), .int (nI ((txTraits s) + 1))], aI (CxD X) 600 s.1, aZ (CxD X) 20 (zf s.2.1), aI (CxD X) 20 (nf s.2.2.1), aI (CxD X) 20 (nf s.2.2.2.1), aI (CxD X) 20 (nf s.2.2.2.2.1), aJ (CxD X) 8 (vp_updL s.2.2.2.2.2.1 (txTraits s) nm)] (by decide) lay_X7 tyX7 tyX7_ok nmX7 fl_X7_39 rfl rfl rfl (Nat.le_of_ble_eq_true rfl) rfl dX7_addTrait_26 rfl ?_
    exact r_return hX hR dX7_addTrait_29 ⟨rfl, by first | (rw [txAddT, if_pos c6]) | (rw [txAddT, if_neg (Nat.not_le.mpr c6)])⟩
theorem ct_X7_addTrait (l : Launch) (D : va_G) (tx x0 x1 x2 x3 x4 x5 : Nat) (s : TX) (nm : Int64) (hs : txTraits s ≤ 8) : Ct l D m_X7_addTrait 0 [.ref tx, .long nm] [tx, x0, x1, x2, x3, x4, x5] [ob 7 [.ref x0, .ref x1, .ref x2, .ref x3, .ref x4, .ref x5, .int (nI (txSize s)), .int (nI (txRules s)), .int (nI (txTraits s))], aI D 600 s.1, aZ D 20 (zf s.2.1), aI D 20 (nf s.2.2.1), aI D 20 (nf s.2.2.2.1), aI D 20 (nf s.2.2.2.2.1), aJ D 8 s.2.2.2.2.2.1] (fun r es' => r = none ∧ es' = [ob 7 [.ref x0, .ref x1, .ref x2, .ref x3, .ref x4, .ref x5, .int (nI (txSize (txAddT s nm))), .int (nI (txRules (txAddT s nm))), .int (nI (txTraits (txAddT s nm)))], aI D 600 ((txAddT s nm).1), aZ D 20 (zf ((txAddT s nm).2.1)), aI D 20 (nf ((txAddT s nm).2.2.1)), aI D 20 (nf ((txAddT s nm).2.2.2.1)), aI D 20 (nf ((txAddT s nm).2.2.2.2.1)), aJ D 8 ((txAddT s nm).2.2.2.2.2.1)]) :=
  Ct.ofA (own := RX7) (by decide) rfl (Nat.le_of_ble_eq_true rfl) rfl (fun X hl hD hX hR => by subst hl; subst hD; exact wk_X7_addTrait hX tx x0 x1 x2 x3 x4 x5 s nm hs hR)
set_option maxHeartbeats 4000000 in
set_option maxRecDepth 100000 in
theorem lp_X7_named {X : Cx} (hX : Ok X cX7_traitNamed 4 RX7 0) (tx x0 x1 x2 x3 x4 x5 : Nat) (s : TX) (nm : Int64) (hs : txTraits s ≤ 8) (hR : Rt X (some FieldType.int) (fun r es' => r = some (.int (eo (txNamed s nm))) ∧ es' = [ob 7 [.ref x0, .ref x1, .ref x2, .ref x3, .ref x4, .ref x5, .int (nI (txSize s)), .int (nI (txRules s)), .int (nI (txTraits s))], aI (CxD X) 600 s.1, aZ (CxD X) 20 (zf s.2.1), aI (CxD X) 20 (nf s.2.2.1), aI (CxD X) 20 (nf s.2.2.2.1), aI (CxD X) 20 (nf s.2.2.2.2.1), aJ (CxD X) 8 s.2.2.2.2.2.1]) [tx, x0, x1, x2, x3, x4, x5]) : ∀ (m j : Nat), j + m = txTraits s → txFind s nm m j = txNamed s nm → Aw X [tx, x0, x1, x2, x3, x4, x5] [ob 7 [.ref x0, .ref x1, .ref x2, .ref x3, .ref x4, .ref x5, .int (nI (txSize s)), .int (nI (txRules s)), .int (nI (txTraits s))], aI (CxD X) 600 s.1, aZ (CxD X) 20 (zf s.2.1), aI (CxD X) 20 (nf s.2.2.1), aI (CxD X) 20 (nf s.2.2.2.1), aI (CxD X) 20 (nf s.2.2.2.2.1), aJ (CxD X) 8 s.2.2.2.2.2.1] 2 [(0, .ref tx), (1, .long nm), (3, .int (nI j))] [] := by
  intro m
  induction m with
  | zero =>
    intro j hj he
    refine r_iload_n (n := 3) hX dX7_traitNamed_2 rfl rfl 2 rfl ?_
    refine r_aload_n (n := 4) hX dX7_traitNamed_3 rfl rfl 0 rfl ?_
    refine r_get (n := 7) hX 0 rfl rfl rfl 8 (by decide) lay_X7 fl_X7_39 rfl dX7_traitNamed_4 rfl ?_
    refine r_icmp_ge_n (tgt := 35) (n := 10) hX j (txTraits s) (by omega) (by omega) dX7_traitNamed_7 (by decide) rfl (fun c7 => ?_) (fun c7 => absurd c7 (by omega))
    refine r_iconst (n := 36) hX (-1) dX7_traitNamed_35 rfl rfl ?_
    exact r_ireturn hX hR dX7_traitNamed_36 ⟨by rw [← he]; rfl, rfl⟩
  | succ m ih =>
    intro j hj he
    refine r_iload_n (n := 3) hX dX7_traitNamed_2 rfl rfl 2 rfl ?_
    refine r_aload_n (n := 4) hX dX7_traitNamed_3 rfl rfl 0 rfl ?_
    refine r_get (n := 7) hX 0 rfl rfl rfl 8 (by decide) lay_X7 fl_X7_39 rfl dX7_traitNamed_4 rfl ?_
    refine r_icmp_ge_n (tgt := 35) (n := 10) hX j (txTraits s) (by omega) (by omega) dX7_traitNamed_7 (by decide) rfl (fun c7 => absurd c7 (by omega)) (fun c7 => ?_)
    refine r_iload_n (n := 11) hX dX7_traitNamed_10 rfl rfl 2 rfl ?_
    refine r_bipush (n := 13) hX 8 dX7_traitNamed_11 rfl rfl ?_
    refine r_icmp_ge_n (tgt := 35) (n := 16) hX j 8 (by omega) (by omega) dX7_traitNamed_13 (by decide) rfl (fun c13 => absurd c13 (by omega)) (fun c13 => ?_)
    refine r_aload_n (n := 17) hX dX7_traitNamed_16 rfl rfl 0 rfl ?_
    refine r_get (n := 20) hX 0 rfl rfl rfl 5 (by decide) lay_X7 fl_X7_28 rfl dX7_traitNamed_17 rfl ?_
    refine r_iload_n (n := 21) hX dX7_traitNamed_20 rfl rfl 2 rfl ?_
    refine r_laldn (n := 22) (i := j) hX 6 rfl rfl (by omega) (by decide) dX7_traitNamed_21 rfl ?_
    refine r_lload_n (n := 23) hX dX7_traitNamed_22 rfl rfl 1 rfl ?_
    refine r_lif_ne (tgt := 29) (n := 27) hX dX7_traitNamed_23 rfl dX7_traitNamed_24 (by decide) rfl (fun c23 => ?_) (fun c23 => ?_)
    · skip
      refine r_iinc (n := 32) hX (nI (j + 1)) [(0, .ref tx), (1, .long nm), (3, .int (nI (j + 1)))] dX7_traitNamed_29 rfl 2 rfl (nI_add _ _) (by decide) rfl ?_
      refine r_goto (tgt := 2) hX dX7_traitNamed_32 (by decide) ?_
      refine ih (j + 1) (by omega) ?_
      rw [← he]
      simp only [txFind, c23, if_false]
    · skip
      refine r_iload_n (n := 28) hX dX7_traitNamed_27 rfl rfl 2 rfl ?_
      exact r_ireturn hX hR dX7_traitNamed_28 ⟨by rw [← he]; simp only [txFind, c23, if_true, eo], rfl⟩
set_option maxHeartbeats 4000000 in
set_option maxRecDepth 100000 in
theorem wk_X7_traitNamed {X : Cx} (hX : Ok X cX7_traitNamed 4 RX7 0) (tx x0 x1 x2 x3 x4 x5 : Nat) (s : TX) (nm : Int64) (hs : txTraits s ≤ 8) (hR : Rt X (some FieldType.int) (fun r es' => r = some (.int (eo (txNamed s nm))) ∧ es' = [ob 7 [.ref x0, .ref x1, .ref x2, .ref x3, .ref x4, .ref x5, .int (nI (txSize s)), .int (nI (txRules s)), .int (nI (txTraits s))], aI (CxD X) 600 s.1, aZ (CxD X) 20 (zf s.2.1), aI (CxD X) 20 (nf s.2.2.1), aI (CxD X) 20 (nf s.2.2.2.1), aI (CxD X) 20 (nf s.2.2.2.2.1), aJ (CxD X) 8 s.2.2.2.2.2.1]) [tx, x0, x1, x2, x3, x4, x5]) : Aw X [tx, x0, x1, x2, x3, x4, x5] [ob 7 [.ref x0, .ref x1, .ref x2, .ref x3, .ref x4, .ref x5, .int (nI (txSize s)), .int (nI (txRules s)), .int (nI (txTraits s))], aI (CxD X) 600 s.1, aZ (CxD X) 20 (zf s.2.1), aI (CxD X) 20 (nf s.2.2.1), aI (CxD X) 20 (nf s.2.2.2.1), aI (CxD X) 20 (nf s.2.2.2.2.1), aJ (CxD X) 8 s.2.2.2.2.2.1] 0 [(0, .ref tx), (1, .long nm)] [] := by
  refine r_iconst (n := 1) hX 0 dX7_traitNamed_0 rfl rfl ?_
  refine r_istore_n (n := 2) hX [(0, .ref tx), (1, .long nm), (3, .int 0)] dX7_traitNamed_1 rfl rfl (by decide) rfl ?_
  exact lp_X7_named hX tx x0 x1 x2 x3 x4 x5 s nm hs hR (txTraits s) 0 (by omega) rfl
theorem ct_X7_traitNamed (l : Launch) (D : va_G) (tx x0 x1 x2 x3 x4 x5 : Nat) (s : TX) (nm : Int64) (hs : txTraits s ≤ 8) : Ct l D m_X7_traitNamed 0 [.ref tx, .long nm] [tx, x0, x1, x2, x3, x4, x5] [ob 7 [.ref x0, .ref x1, .ref x2, .ref x3, .ref x4, .ref x5, .int (nI (txSize s)), .int (nI (txRules s)), .int (nI (txTraits s))], aI D 600 s.1, aZ D 20 (zf s.2.1), aI D 20 (nf s.2.2.1), aI D 20 (nf s.2.2.2.1), aI D 20 (nf s.2.2.2.2.1), aJ D 8 s.2.2.2.2.2.1] (fun r es' => r = some (.int (eo (txNamed s nm))) ∧ es' = [ob 7 [.ref x0, .ref x1, .ref x2, .ref x3, .ref x4, .ref x5, .int (nI (txSize s)), .int (nI (txRules s)), .int (nI (txTraits s))], aI D 600 s.1, aZ D 20 (zf s.2.1), aI D 20 (nf s.2.2.1), aI D 20 (nf s.2.2.2.1), aI D 20 (nf s.2.2.2.2.1), aJ D 8 s.2.2.2.2.2.1]) :=
  Ct.ofA (own := RX7) (by decide) rfl (Nat.le_of_ble_eq_true rfl) rfl (fun X hl hD hX hR => by subst hl; subst hD; exact wk_X7_traitNamed hX tx x0 x1 x2 x3 x4 x5 s nm hs hR)
set_option maxHeartbeats 4000000 in
set_option maxRecDepth 100000 in
theorem wk_X7_addRule {X : Cx} (hX : Ok X cX7_addRule 4 RX7 0) (tx x0 x1 x2 x3 x4 x5 : Nat) (s : TX) (bar : Bool) (a c : Nat) (hs : txRules s ≤ 20) (hR : Rt X (none) (fun r es' => r = none ∧ es' = [ob 7 [.ref x0, .ref x1, .ref x2, .ref x3, .ref x4, .ref x5, .int (nI (txSize (txRule s bar a c))), .int (nI (txRules (txRule s bar a c))), .int (nI (txTraits (txRule s bar a c)))], aI (CxD X) 600 ((txRule s bar a c).1), aZ (CxD X) 20 (zf ((txRule s bar a c).2.1)), aI (CxD X) 20 (nf ((txRule s bar a c).2.2.1)), aI (CxD X) 20 (nf ((txRule s bar a c).2.2.2.1)), aI (CxD X) 20 (nf ((txRule s bar a c).2.2.2.2.1)), aJ (CxD X) 8 ((txRule s bar a c).2.2.2.2.2.1)]) [tx, x0, x1, x2, x3, x4, x5]) : Aw X [tx, x0, x1, x2, x3, x4, x5] [ob 7 [.ref x0, .ref x1, .ref x2, .ref x3, .ref x4, .ref x5, .int (nI (txSize s)), .int (nI (txRules s)), .int (nI (txTraits s))], aI (CxD X) 600 s.1, aZ (CxD X) 20 (zf s.2.1), aI (CxD X) 20 (nf s.2.2.1), aI (CxD X) 20 (nf s.2.2.2.1), aI (CxD X) 20 (nf s.2.2.2.2.1), aJ (CxD X) 8 s.2.2.2.2.2.1] 0 [(0, .ref tx), (1, .int (b2 bar)), (2, .int (nI a)), (3, .int (nI c))] [] := by
  refine r_aload_n (n := 1) hX dX7_addRule_0 rfl rfl 0 rfl ?_
  refine r_get (n := 4) hX 0 rfl rfl rfl 7 (by decide) lay_X7 fl_X7_36 rfl dX7_addRule_1 rfl ?_
  refine r_bipush (n := 6) hX 20 dX7_addRule_4 rfl rfl ?_
  refine r_icmp_ge_n (tgt := 62) (n := 9) hX (txRules s) 20 (by omega) (by omega) dX7_addRule_6 (by decide) rfl (fun c6 => ?_) (fun c6 => ?_)
  · skip
    exact r_return hX hR dX7_addRule_62 ⟨rfl, by first | (rw [txRule, if_pos c6]) | (rw [txRule, if_neg (Nat.not_le.mpr c6)])⟩
  · skip
    refine r_aload_n (n := 10) hX dX7_addRule_9 rfl rfl 0 rfl ?_
    refine r_get (n := 13) hX 0 rfl rfl rfl 1 (by decide) lay_X7 fl_X7_15 rfl dX7_addRule_10 rfl ?_
    refine r_aload_n (n := 14) hX dX7_addRule_13 rfl rfl 0 rfl ?_
    refine r_get (n := 17) hX 0 rfl rfl rfl 7 (by decide) lay_X7 fl_X7_36 rfl dX7_addRule_14 rfl ?_
    refine r_iload_n (n := 18) hX dX7_addRule_17 rfl rfl 1 rfl ?_
    refine r_zastbn (n := 19) (i := (txRules s)) hX 2 rfl rfl bar [ob 7 [.ref x0, .ref x1, .ref x2, .ref x3, .ref x4, .ref x5, .int (nI (txSize s)), .int (nI (txRules s)), .int (nI (txTraits s))], aI (CxD X) 600 s.1, aZ (CxD X) 20 (zf (updB s.2.1 (txRules s) bar)), aI (CxD X) 20 (nf s.2.2.1), aI (CxD X) 20 (nf s.2.2.2.1), aI (CxD X) 20 (nf s.2.2.2.2.1), aJ (CxD X) 8 s.2.2.2.2.2.1] (by omega) (by decide) rfl dX7_addRule_18 rfl ?_
    refine r_aload_n (n := 20) hX dX7_addRule_19 rfl rfl 0 rfl ?_
    refine r_get (n := 23) hX 0 rfl rfl rfl 2 (by decide) lay_X7 fl_X7_19 rfl dX7_addRule_20 rfl ?_
    refine r_aload_n (n := 24) hX dX7_addRule_23 rfl rfl 0 rfl ?_
    refine r_get (n := 27) hX 0 rfl rfl rfl 7 (by decide) lay_X7 fl_X7_36 rfl dX7_addRule_24 rfl ?_
    refine r_iload_n (n := 28) hX dX7_addRule_27 rfl rfl 2 rfl ?_
    refine r_iastNn (n := 29) (i := (txRules s)) hX 3 rfl rfl a [ob 7 [.ref x0, .ref x1, .ref x2, .ref x3, .ref x4, .ref x5, .int (nI (txSize s)), .int (nI (txRules s)), .int (nI (txTraits s))], aI (CxD X) 600 s.1, aZ (CxD X) 20 (zf (updB s.2.1 (txRules s) bar)), aI (CxD X) 20 (nf (va_up s.2.2.1 (txRules s) a)), aI (CxD X) 20 (nf s.2.2.2.1), aI (CxD X) 20 (nf s.2.2.2.2.1), aJ (CxD X) 8 s.2.2.2.2.2.1] (by omega) (by decide) rfl dX7_addRule_28 rfl ?_
    refine r_aload_n (n := 30) hX dX7_addRule_29 rfl rfl 0 rfl ?_
    refine r_get (n := 33) hX 0 rfl rfl rfl 3 (by decide) lay_X7 fl_X7_22 rfl dX7_addRule_30 rfl ?_
    refine r_aload_n (n := 34) hX dX7_addRule_33 rfl rfl 0 rfl ?_
    refine r_get (n := 37) hX 0 rfl rfl rfl 7 (by decide) lay_X7 fl_X7_36 rfl dX7_addRule_34 rfl ?_
    refine r_iload_n (n := 38) hX dX7_addRule_37 rfl rfl 3 rfl ?_
    refine r_iastNn (n := 39) (i := (txRules s)) hX 4 rfl rfl c [ob 7 [.ref x0, .ref x1, .ref x2, .ref x3, .ref x4, .ref x5, .int (nI (txSize s)), .int (nI (txRules s)), .int (nI (txTraits s))], aI (CxD X) 600 s.1, aZ (CxD X) 20 (zf (updB s.2.1 (txRules s) bar)), aI (CxD X) 20 (nf (va_up s.2.2.1 (txRules s) a)), aI (CxD X) 20 (nf (va_up s.2.2.2.1 (txRules s) c)), aI (CxD X) 20 (nf s.2.2.2.2.1), aJ (CxD X) 8 s.2.2.2.2.2.1] (by omega) (by decide) rfl dX7_addRule_38 rfl ?_
    refine r_aload_n (n := 40) hX dX7_addRule_39 rfl rfl 0 rfl ?_
    refine r_get (n := 43) hX 0 rfl rfl rfl 4 (by decide) lay_X7 fl_X7_25 rfl dX7_addRule_40 rfl ?_
    refine r_aload_n (n := 44) hX dX7_addRule_43 rfl rfl 0 rfl ?_
    refine r_get (n := 47) hX 0 rfl rfl rfl 7 (by decide) lay_X7 fl_X7_36 rfl dX7_addRule_44 rfl ?_
    refine r_aload_n (n := 48) hX dX7_addRule_47 rfl rfl 0 rfl ?_
    refine r_get (n := 51) hX 0 rfl rfl rfl 6 (by decide) lay_X7 fl_X7_32 rfl dX7_addRule_48 rfl ?_
    refine r_iastNn (n := 52) (i := (txRules s)) hX 5 rfl rfl (txSize s) [ob 7 [.ref x0, .ref x1, .ref x2, .ref x3, .ref x4, .ref x5, .int (nI (txSize s)), .int (nI (txRules s)), .int (nI (txTraits s))], aI (CxD X) 600 s.1, aZ (CxD X) 20 (zf (updB s.2.1 (txRules s) bar)), aI (CxD X) 20 (nf (va_up s.2.2.1 (txRules s) a)), aI (CxD X) 20 (nf (va_up s.2.2.2.1 (txRules s) c)), aI (CxD X) 20 (nf (va_up s.2.2.2.2.1 (txRules s) (txSize s))), aJ (CxD X) 8 s.2.2.2.2.2.1] (by omega) (by decide) rfl dX7_addRule_51 rfl ?_
    refine r_aload_n (n := 53) hX dX7_addRule_52 rfl rfl 0 rfl ?_
    refine r_dup (n := 54) hX dX7_addRule_53 rfl rfl ?_
    refine r_get (n := 57) hX 0 rfl rfl rfl 7 (by decide) lay_X7 fl_X7_36 rfl dX7_addRule_54 rfl ?_
    refine r_iconst (n := 58) hX 1 dX7_addRule_57 rfl rfl ?_
    refine r_iadd (n := 59) hX dX7_addRule_58 rfl ?_
    refine Aw.topi (nI ((txRules s) + 1)) (nI_add _ _) ?_
    refine r_put (n := 62) hX 0 rfl rfl rfl 7 [ob 7 [.ref x0, .ref x1, .ref x2, .ref x3, .ref x4, .ref x5, .int (nI (txSize s)), .int (nI ((txRules s) + 1)), .int (nI (txTraits s))], aI (CxD X) 600 s.1, aZ (CxD X) 20 (zf (updB s.2.1 (txRules s) bar)), aI (CxD X) 20 (nf (va_up s.2.2.1 (txRules s) a)), aI (CxD X) 20 (nf (va_up s.2.2.2.1 (txRules s) c)), aI (CxD X) 20 (nf (va_up s.2.2.2.2.1 (txRules s) (txSize s))), aJ (CxD X) 8 s.2.2.2.2.2.1] (by decide) lay_X7 tyX7 tyX7_ok nmX7 fl_X7_36 rfl rfl rfl (Nat.le_of_ble_eq_true rfl) rfl dX7_addRule_59 rfl ?_
    exact r_return hX hR dX7_addRule_62 ⟨rfl, by first | (rw [txRule, if_pos c6]) | (rw [txRule, if_neg (Nat.not_le.mpr c6)])⟩
theorem ct_X7_addRule (l : Launch) (D : va_G) (tx x0 x1 x2 x3 x4 x5 : Nat) (s : TX) (bar : Bool) (a c : Nat) (hs : txRules s ≤ 20) : Ct l D m_X7_addRule 0 [.ref tx, .int (b2 bar), .int (nI a), .int (nI c)] [tx, x0, x1, x2, x3, x4, x5] [ob 7 [.ref x0, .ref x1, .ref x2, .ref x3, .ref x4, .ref x5, .int (nI (txSize s)), .int (nI (txRules s)), .int (nI (txTraits s))], aI D 600 s.1, aZ D 20 (zf s.2.1), aI D 20 (nf s.2.2.1), aI D 20 (nf s.2.2.2.1), aI D 20 (nf s.2.2.2.2.1), aJ D 8 s.2.2.2.2.2.1] (fun r es' => r = none ∧ es' = [ob 7 [.ref x0, .ref x1, .ref x2, .ref x3, .ref x4, .ref x5, .int (nI (txSize (txRule s bar a c))), .int (nI (txRules (txRule s bar a c))), .int (nI (txTraits (txRule s bar a c)))], aI D 600 ((txRule s bar a c).1), aZ D 20 (zf ((txRule s bar a c).2.1)), aI D 20 (nf ((txRule s bar a c).2.2.1)), aI D 20 (nf ((txRule s bar a c).2.2.2.1)), aI D 20 (nf ((txRule s bar a c).2.2.2.2.1)), aJ D 8 ((txRule s bar a c).2.2.2.2.2.1)]) :=
  Ct.ofA (own := RX7) (by decide) rfl (Nat.le_of_ble_eq_true rfl) rfl (fun X hl hD hX hR => by subst hl; subst hD; exact wk_X7_addRule hX tx x0 x1 x2 x3 x4 x5 s bar a c hs hR)

/-! HostYear$Tokens: kind, start, value; bytes of a tape -/
abbrev TK : Type := (Nat → Int32) × (Nat → Nat) × (Nat → Int64)
abbrev tpB (s : TP) (i : Nat) : Int32 := tpByteAt s (nI i)
def isBl (b : Int32) : Bool := decide (b = 9 ∨ b = 10 ∨ b = 13 ∨ b = 32)
def isLe (b : Int32) : Bool := decide (97 ≤ b ∧ b ≤ 122)
def isDi (b : Int32) : Bool := decide (48 ≤ b ∧ b ≤ 57)
def tkBB (s : TP) : Nat → Nat → Nat
  | 0, a => a
  | m + 1, a => if isBl (tpB s a) = true then tkBB s m (a + 1) else a
def tkBlk (s : TP) (a : Nat) : Nat := tkBB s (s.2 - a) a
def tkNm (s : TP) : Nat → Nat → Int64 → Nat × Int64
  | 0, a, p => (a, p)
  | m + 1, a, p => if isLe (tpB s a) = true ∨ isDi (tpB s a) = true then tkNm s m (a + 1) ((p <<< (Int32.toInt64 8 &&& 63)) ||| Int32.toInt64 (tpB s a)) else (a, p)
def tkNu (s : TP) : Nat → Nat → Int64 → Nat × Int64
  | 0, a, p => (a, p)
  | m + 1, a, p => if isDi (tpB s a) = true then tkNu s m (a + 1) (p * 10 + Int32.toInt64 (tpB s a - 48)) else (a, p)
def tkWord (v : Int64) : Nat → Nat → Nat
  | 0, _ => 2
  | m + 1, i => if wdv i = v then 10 + i else tkWord v m (i + 1)
def tkSign (b : Int32) (e : Bool) : Int32 := if b = 33 then (if e then 5 else 1) else if b = 40 ∨ b = 41 ∨ b = 42 ∨ b = 43 ∨ b = 45 ∨ b = 46 ∨ b = 59 then b else if b = 60 then (if e then 6 else b) else if b = 61 then (if e then 4 else 1) else if b = 91 ∨ b = 93 then b else 1
def tkEqN (s : TP) (a : Nat) : Bool := decide (tpB s (a + 1) = 61)
def tkName (s : TP) (a i : Nat) (t : TK) : Nat × TK := ((tkNm s (s.2 - a) a 0).1, upd t.1 i (if (tkNm s (s.2 - a) a 0).1 - a ≤ 8 then nI (tkWord (tkNm s (s.2 - a) a 0).2 9 0) else 1), t.2.1, vp_updL t.2.2 i (tkNm s (s.2 - a) a 0).2)
def tkNumb (s : TP) (a i : Nat) (t : TK) : Nat × TK := ((tkNu s (s.2 - a) a 0).1, upd t.1 i (if (tkNu s (s.2 - a) a 0).1 - a ≤ 4 then 3 else 1), t.2.1, vp_updL t.2.2 i (tkNu s (s.2 - a) a 0).2)
def tkOne (s : TP) (a i : Nat) (t : TK) : Nat × TK :=
  if tpB s a = -1 then (a, upd t.1 i 0, t.2)
  else if isLe (tpB s a) = true then tkName s a i t
  else if isDi (tpB s a) = true then tkNumb s a i t
  else ((if tkSign (tpB s a) (tkEqN s a) = 4 ∨ tkSign (tpB s a) (tkEqN s a) = 5 ∨ tkSign (tpB s a) (tkEqN s a) = 6 then a + 2 else a + 1), upd t.1 i (tkSign (tpB s a) (tkEqN s a)), t.2)
def tkScan (s : TP) : Nat → Nat → Nat → TK → TK
  | 0, _, _, t => t
  | m + 1, i, a, t => if (tkOne s (tkBlk s a) i (t.1, va_up t.2.1 i (tkBlk s a), t.2.2)).2.1 i = 0 ∨ (tkOne s (tkBlk s a) i (t.1, va_up t.2.1 i (tkBlk s a), t.2.2)).2.1 i = 1 then (tkOne s (tkBlk s a) i (t.1, va_up t.2.1 i (tkBlk s a), t.2.2)).2
      else tkScan s m (i + 1) (tkOne s (tkBlk s a) i (t.1, va_up t.2.1 i (tkBlk s a), t.2.2)).1 (tkOne s (tkBlk s a) i (t.1, va_up t.2.1 i (tkBlk s a), t.2.2)).2
theorem tkBB_le (s : TP) : ∀ m a, a ≤ tkBB s m a ∧ tkBB s m a ≤ a + m
  | 0, a => ⟨Nat.le_refl _, Nat.le_refl _⟩
  | m + 1, a => by
    unfold tkBB
    split
    · have := tkBB_le s m (a + 1); omega
    · omega
theorem tkNm_le (s : TP) : ∀ m a p, a ≤ (tkNm s m a p).1 ∧ (tkNm s m a p).1 ≤ a + m
  | 0, a, p => ⟨Nat.le_refl _, Nat.le_refl _⟩
  | m + 1, a, p => by
    unfold tkNm
    split
    · have := tkNm_le s m (a + 1) ((p <<< (Int32.toInt64 8 &&& 63)) ||| Int32.toInt64 (tpB s a)); omega
    · dsimp only; omega
theorem tkNu_le (s : TP) : ∀ m a p, a ≤ (tkNu s m a p).1 ∧ (tkNu s m a p).1 ≤ a + m
  | 0, a, p => ⟨Nat.le_refl _, Nat.le_refl _⟩
  | m + 1, a, p => by
    unfold tkNu
    split
    · have := tkNu_le s m (a + 1) (p * 10 + Int32.toInt64 (tpB s a - 48)); omega
    · dsimp only; omega

set_option maxHeartbeats 4000000 in
set_option maxRecDepth 100000 in
theorem wk_X8_isBlank {X : Cx} (hX : Ok X cX8_isBlank 1 RX8 0) (b : Int32)  (hR : Rt X (some FieldType.boolean) (fun r es' => r = some (.int (b2 (isBl b))) ∧ es' = []) []) : Aw X [] [] 0 [(0, .int b)] [] := by
  refine r_iload_n (n := 1) hX dX8_isBlank_0 rfl rfl 0 rfl ?_
  refine r_bipush (n := 3) hX 9 dX8_isBlank_1 rfl rfl ?_
  refine r_icmp_eq (tgt := 24) (n := 6) hX dX8_isBlank_3 (by decide) rfl (fun c3 => ?_) (fun c3 => ?_)
  · skip
    refine r_iconst (n := 25) hX 1 dX8_isBlank_24 rfl rfl ?_
    refine r_goto (tgt := 29) hX dX8_isBlank_25 (by decide) ?_
    exact r_zreturn hX hR rfl dX8_isBlank_29 ⟨by first | (rw [isBl, decide_eq_true (by simp [*])]; rfl) | (rw [isBl, decide_eq_false (by simp [*])]; rfl), rfl⟩
  · skip
    refine r_iload_n (n := 7) hX dX8_isBlank_6 rfl rfl 0 rfl ?_
    refine r_bipush (n := 9) hX 10 dX8_isBlank_7 rfl rfl ?_
    refine r_icmp_eq (tgt := 24) (n := 12) hX dX8_isBlank_9 (by decide) rfl (fun c9 => ?_) (fun c9 => ?_)
    · skip
      refine r_iconst (n := 25) hX 1 dX8_isBlank_24 rfl rfl ?_
      refine r_goto (tgt := 29) hX dX8_isBlank_25 (by decide) ?_
      exact r_zreturn hX hR rfl dX8_isBlank_29 ⟨by first | (rw [isBl, decide_eq_true (by simp [*])]; rfl) | (rw [isBl, decide_eq_false (by simp [*])]; rfl), rfl⟩
    · skip
      refine r_iload_n (n := 13) hX dX8_isBlank_12 rfl rfl 0 rfl ?_
      refine r_bipush (n := 15) hX 13 dX8_isBlank_13 rfl rfl ?_
      refine r_icmp_eq (tgt := 24) (n := 18) hX dX8_isBlank_15 (by decide) rfl (fun c15 => ?_) (fun c15 => ?_)
      · skip
        refine r_iconst (n := 25) hX 1 dX8_isBlank_24 rfl rfl ?_
        refine r_goto (tgt := 29) hX dX8_isBlank_25 (by decide) ?_
        exact r_zreturn hX hR rfl dX8_isBlank_29 ⟨by first | (rw [isBl, decide_eq_true (by simp [*])]; rfl) | (rw [isBl, decide_eq_false (by simp [*])]; rfl), rfl⟩
      · skip
        refine r_iload_n (n := 19) hX dX8_isBlank_18 rfl rfl 0 rfl ?_
        refine r_bipush (n := 21) hX 32 dX8_isBlank_19 rfl rfl ?_
        refine r_icmp_ne (tgt := 28) (n := 24) hX dX8_isBlank_21 (by decide) rfl (fun c21 => ?_) (fun c21 => ?_)
        · skip
          refine r_iconst (n := 29) hX 0 dX8_isBlank_28 rfl rfl ?_
          exact r_zreturn hX hR rfl dX8_isBlank_29 ⟨by first | (rw [isBl, decide_eq_true (by simp [*])]; rfl) | (rw [isBl, decide_eq_false (by simp [*])]; rfl), rfl⟩
        · skip
          refine r_iconst (n := 25) hX 1 dX8_isBlank_24 rfl rfl ?_
          refine r_goto (tgt := 29) hX dX8_isBlank_25 (by decide) ?_
          exact r_zreturn hX hR rfl dX8_isBlank_29 ⟨by first | (rw [isBl, decide_eq_true (by simp [*])]; rfl) | (rw [isBl, decide_eq_false (by simp [*])]; rfl), rfl⟩
theorem ct_X8_isBlank (l : Launch) (D : va_G) (b : Int32)  : Ct l D m_X8_isBlank 0 [.int b] [] [] (fun r es' => r = some (.int (b2 (isBl b))) ∧ es' = []) :=
  Ct.ofA (own := RX8) (by decide) rfl (Nat.le_of_ble_eq_true rfl) rfl (fun X hl hD hX hR => by subst hl; subst hD; exact wk_X8_isBlank hX b hR)
set_option maxHeartbeats 4000000 in
set_option maxRecDepth 100000 in
theorem wk_X8_isLetter {X : Cx} (hX : Ok X cX8_isLetter 1 RX8 0) (b : Int32)  (hR : Rt X (some FieldType.boolean) (fun r es' => r = some (.int (b2 (isLe b))) ∧ es' = []) []) : Aw X [] [] 0 [(0, .int b)] [] := by
  refine r_iload_n (n := 1) hX dX8_isLetter_0 rfl rfl 0 rfl ?_
  refine r_bipush (n := 3) hX 97 dX8_isLetter_1 rfl rfl ?_
  refine r_icmp_lt (tgt := 16) (n := 6) hX dX8_isLetter_3 (by decide) rfl (fun c3 => ?_) (fun c3 => ?_)
  · skip
    refine r_iconst (n := 17) hX 0 dX8_isLetter_16 rfl rfl ?_
    exact r_zreturn hX hR rfl dX8_isLetter_17 ⟨by first | (rw [isLe, decide_eq_false (fun z => absurd z.1 (Int32.not_le.mpr c3))]; rfl) | (rw [isLe, decide_eq_false (fun z => absurd z.2 (Int32.not_le.mpr c9))]; rfl) | (rw [isLe, decide_eq_true ⟨Int32.not_lt.mp c3, Int32.not_lt.mp c9⟩]; rfl), rfl⟩
  · skip
    refine r_iload_n (n := 7) hX dX8_isLetter_6 rfl rfl 0 rfl ?_
    refine r_bipush (n := 9) hX 122 dX8_isLetter_7 rfl rfl ?_
    refine r_icmp_gt (tgt := 16) (n := 12) hX dX8_isLetter_9 (by decide) rfl (fun c9 => ?_) (fun c9 => ?_)
    · skip
      refine r_iconst (n := 17) hX 0 dX8_isLetter_16 rfl rfl ?_
      exact r_zreturn hX hR rfl dX8_isLetter_17 ⟨by first | (rw [isLe, decide_eq_false (fun z => absurd z.1 (Int32.not_le.mpr c3))]; rfl) | (rw [isLe, decide_eq_false (fun z => absurd z.2 (Int32.not_le.mpr c9))]; rfl) | (rw [isLe, decide_eq_true ⟨Int32.not_lt.mp c3, Int32.not_lt.mp c9⟩]; rfl), rfl⟩
    · skip
      refine r_iconst (n := 13) hX 1 dX8_isLetter_12 rfl rfl ?_
      refine r_goto (tgt := 17) hX dX8_isLetter_13 (by decide) ?_
      exact r_zreturn hX hR rfl dX8_isLetter_17 ⟨by first | (rw [isLe, decide_eq_false (fun z => absurd z.1 (Int32.not_le.mpr c3))]; rfl) | (rw [isLe, decide_eq_false (fun z => absurd z.2 (Int32.not_le.mpr c9))]; rfl) | (rw [isLe, decide_eq_true ⟨Int32.not_lt.mp c3, Int32.not_lt.mp c9⟩]; rfl), rfl⟩
theorem ct_X8_isLetter (l : Launch) (D : va_G) (b : Int32)  : Ct l D m_X8_isLetter 0 [.int b] [] [] (fun r es' => r = some (.int (b2 (isLe b))) ∧ es' = []) :=
  Ct.ofA (own := RX8) (by decide) rfl (Nat.le_of_ble_eq_true rfl) rfl (fun X hl hD hX hR => by subst hl; subst hD; exact wk_X8_isLetter hX b hR)
set_option maxHeartbeats 4000000 in
set_option maxRecDepth 100000 in
theorem wk_X8_isDigit {X : Cx} (hX : Ok X cX8_isDigit 1 RX8 0) (b : Int32)  (hR : Rt X (some FieldType.boolean) (fun r es' => r = some (.int (b2 (isDi b))) ∧ es' = []) []) : Aw X [] [] 0 [(0, .int b)] [] := by
  refine r_iload_n (n := 1) hX dX8_isDigit_0 rfl rfl 0 rfl ?_
  refine r_bipush (n := 3) hX 48 dX8_isDigit_1 rfl rfl ?_
  refine r_icmp_lt (tgt := 16) (n := 6) hX dX8_isDigit_3 (by decide) rfl (fun c3 => ?_) (fun c3 => ?_)
  · skip
    refine r_iconst (n := 17) hX 0 dX8_isDigit_16 rfl rfl ?_
    exact r_zreturn hX hR rfl dX8_isDigit_17 ⟨by first | (rw [isDi, decide_eq_false (fun z => absurd z.1 (Int32.not_le.mpr c3))]; rfl) | (rw [isDi, decide_eq_false (fun z => absurd z.2 (Int32.not_le.mpr c9))]; rfl) | (rw [isDi, decide_eq_true ⟨Int32.not_lt.mp c3, Int32.not_lt.mp c9⟩]; rfl), rfl⟩
  · skip
    refine r_iload_n (n := 7) hX dX8_isDigit_6 rfl rfl 0 rfl ?_
    refine r_bipush (n := 9) hX 57 dX8_isDigit_7 rfl rfl ?_
    refine r_icmp_gt (tgt := 16) (n := 12) hX dX8_isDigit_9 (by decide) rfl (fun c9 => ?_) (fun c9 => ?_)
    · skip
      refine r_iconst (n := 17) hX 0 dX8_isDigit_16 rfl rfl ?_
      exact r_zreturn hX hR rfl dX8_isDigit_17 ⟨by first | (rw [isDi, decide_eq_false (fun z => absurd z.1 (Int32.not_le.mpr c3))]; rfl) | (rw [isDi, decide_eq_false (fun z => absurd z.2 (Int32.not_le.mpr c9))]; rfl) | (rw [isDi, decide_eq_true ⟨Int32.not_lt.mp c3, Int32.not_lt.mp c9⟩]; rfl), rfl⟩
    · skip
      refine r_iconst (n := 13) hX 1 dX8_isDigit_12 rfl rfl ?_
      refine r_goto (tgt := 17) hX dX8_isDigit_13 (by decide) ?_
      exact r_zreturn hX hR rfl dX8_isDigit_17 ⟨by first | (rw [isDi, decide_eq_false (fun z => absurd z.1 (Int32.not_le.mpr c3))]; rfl) | (rw [isDi, decide_eq_false (fun z => absurd z.2 (Int32.not_le.mpr c9))]; rfl) | (rw [isDi, decide_eq_true ⟨Int32.not_lt.mp c3, Int32.not_lt.mp c9⟩]; rfl), rfl⟩
theorem ct_X8_isDigit (l : Launch) (D : va_G) (b : Int32)  : Ct l D m_X8_isDigit 0 [.int b] [] [] (fun r es' => r = some (.int (b2 (isDi b))) ∧ es' = []) :=
  Ct.ofA (own := RX8) (by decide) rfl (Nat.le_of_ble_eq_true rfl) rfl (fun X hl hD hX hR => by subst hl; subst hD; exact wk_X8_isDigit hX b hR)
set_option maxHeartbeats 4000000 in
set_option maxRecDepth 100000 in
theorem lp_X8_bb {X : Cx} (hX : Ok X cX8_behindBlanks 3 RX8 1) (tp tb : Nat) (s : TP) (a : Nat) (hn : s.2 ≤ 3000) (ha : a < 2 ^ 20) (hR : Rt X (some FieldType.int) (fun r es' => r = some (.int (nI (tkBlk s a))) ∧ es' = [ob 6 [.ref tb, .int (nI s.2)], aB (CxD X) 3000 s.1]) [tp, tb]) : ∀ (m j : Nat), j < 2 ^ 21 → m = s.2 - j → tkBB s m j = tkBlk s a → Aw X [tp, tb] [ob 6 [.ref tb, .int (nI s.2)], aB (CxD X) 3000 s.1] 2 [(0, .ref tp), (1, .int (nI a)), (2, .int (nI j))] [] := by
  intro m
  induction m with
  | zero =>
    intro j hj hm he
    refine r_iload_n (n := 3) hX dX8_behindBlanks_2 rfl rfl 2 rfl ?_
    refine r_aload_n (n := 4) hX dX8_behindBlanks_3 rfl rfl 0 rfl ?_
    refine r_get (n := 7) hX 0 rfl rfl rfl 1 (by decide) lay_X6 fl_X8_30 rfl dX8_behindBlanks_4 rfl ?_
    refine r_icmp_ge_n (tgt := 27) (n := 10) hX j s.2 (by omega) (by omega) dX8_behindBlanks_7 (by decide) rfl (fun c7 => ?_) (fun c7 => absurd c7 (by omega))
    refine r_iload_n (n := 28) hX dX8_behindBlanks_27 rfl rfl 2 rfl ?_
    exact r_ireturn hX hR dX8_behindBlanks_28 ⟨by rw [← he]; rfl, rfl⟩
  | succ m ih =>
    intro j hj hm he
    refine r_iload_n (n := 3) hX dX8_behindBlanks_2 rfl rfl 2 rfl ?_
    refine r_aload_n (n := 4) hX dX8_behindBlanks_3 rfl rfl 0 rfl ?_
    refine r_get (n := 7) hX 0 rfl rfl rfl 1 (by decide) lay_X6 fl_X8_30 rfl dX8_behindBlanks_4 rfl ?_
    refine r_icmp_ge_n (tgt := 27) (n := 10) hX j s.2 (by omega) (by omega) dX8_behindBlanks_7 (by decide) rfl (fun c7 => absurd c7 (by omega)) (fun c7 => ?_)
    refine r_aload_n (n := 11) hX dX8_behindBlanks_10 rfl rfl 0 rfl ?_
    refine r_iload_n (n := 12) hX dX8_behindBlanks_11 rfl rfl 2 rfl ?_
    refine r_callV (n := 15) (av := [.int (nI j)]) hX (ct_X6_byteAt (CxL X) (CxD X) tp tb s (nI j)) ml_X8_36 cv_X6_byteAt rfl (by decide) [0, 1] rfl rfl (by decide) 0 rfl rfl rfl rfl rfl (Nat.le_of_ble_eq_true rfl) dX8_behindBlanks_12 rfl (fun r_ es_ h_ l_ => ?_)
    obtain ⟨rfl, rfl⟩ := h_
    show Aw X [tp, tb] [ob 6 [.ref tb, .int (nI s.2)], aB (CxD X) 3000 s.1] 15 [(0, .ref tp), (1, .int (nI a)), (2, .int (nI j))] [.int (tpB s j)]
    refine r_callS (n := 18) (av := [.int (tpB s j)]) hX (ct_X8_isBlank (CxL X) (CxD X) (tpB s j)) ml_X8_40 cs_X8_isBlank rfl (by decide) [] rfl rfl (by decide) rfl (Nat.le_of_ble_eq_true rfl) dX8_behindBlanks_15 rfl (fun r_ es_ h_ l_ => ?_)
    obtain ⟨rfl, rfl⟩ := h_
    show Aw X [tp, tb] [ob 6 [.ref tb, .int (nI s.2)], aB (CxD X) 3000 s.1] 18 [(0, .ref tp), (1, .int (nI a)), (2, .int (nI j))] [.int (b2 (isBl (tpB s j)))]
    refine r_if_eq_b (tgt := 27) (n := 21) hX dX8_behindBlanks_18 (by decide) rfl (fun c18 => ?_) (fun c18 => ?_)
    · skip
      refine r_iload_n (n := 28) hX dX8_behindBlanks_27 rfl rfl 2 rfl ?_
      exact r_ireturn hX hR dX8_behindBlanks_28 ⟨by rw [← he]; simp only [tkBB, c18, if_false, Bool.false_eq_true], rfl⟩
    · skip
      refine r_iinc (n := 24) hX (nI (j + 1)) [(0, .ref tp), (1, .int (nI a)), (2, .int (nI (j + 1)))] dX8_behindBlanks_21 rfl 2 rfl (nI_add _ _) (by decide) rfl ?_
      refine r_goto (tgt := 2) hX dX8_behindBlanks_24 (by decide) ?_
      refine ih (j + 1) (by omega) (by omega) ?_
      rw [← he]
      simp only [tkBB, c18, if_true]
set_option maxHeartbeats 4000000 in
set_option maxRecDepth 100000 in
theorem wk_X8_behindBlanks {X : Cx} (hX : Ok X cX8_behindBlanks 3 RX8 1) (tp tb : Nat) (s : TP) (a : Nat) (hn : s.2 ≤ 3000) (ha : a < 2 ^ 20) (hR : Rt X (some FieldType.int) (fun r es' => r = some (.int (nI (tkBlk s a))) ∧ es' = [ob 6 [.ref tb, .int (nI s.2)], aB (CxD X) 3000 s.1]) [tp, tb]) : Aw X [tp, tb] [ob 6 [.ref tb, .int (nI s.2)], aB (CxD X) 3000 s.1] 0 [(0, .ref tp), (1, .int (nI a))] [] := by
  refine r_iload_n (n := 1) hX dX8_behindBlanks_0 rfl rfl 1 rfl ?_
  refine r_istore_n (n := 2) hX [(0, .ref tp), (1, .int (nI a)), (2, .int (nI a))] dX8_behindBlanks_1 rfl rfl (by decide) rfl ?_
  exact lp_X8_bb hX tp tb s a hn ha hR _ a (by omega) rfl rfl
theorem ct_X8_behindBlanks (l : Launch) (D : va_G) (tp tb : Nat) (s : TP) (a : Nat) (hn : s.2 ≤ 3000) (ha : a < 2 ^ 20) : Ct l D m_X8_behindBlanks 1 [.ref tp, .int (nI a)] [tp, tb] [ob 6 [.ref tb, .int (nI s.2)], aB D 3000 s.1] (fun r es' => r = some (.int (nI (tkBlk s a))) ∧ es' = [ob 6 [.ref tb, .int (nI s.2)], aB D 3000 s.1]) :=
  Ct.ofA (own := RX8) (by decide) rfl (Nat.le_of_ble_eq_true rfl) rfl (fun X hl hD hX hR => by subst hl; subst hD; exact wk_X8_behindBlanks hX tp tb s a hn ha hR)
set_option maxHeartbeats 4000000 in
set_option maxRecDepth 100000 in
theorem lp_X8_word {X : Cx} (hX : Ok X cX8_wordOrName 3 RX8 0) (v : Int64) (hR : Rt X (some FieldType.int) (fun r es' => r = some (.int (nI (tkWord v 9 0))) ∧ es' = []) []) : ∀ (m j : Nat), j + m = 9 → tkWord v m j = tkWord v 9 0 → Aw X [] [] 2 [(0, .long v), (2, .int (nI j))] [] := by
  intro m
  induction m with
  | zero =>
    intro j hj he
    obtain rfl : j = 9 := by omega
    refine r_iload_n (n := 3) hX dX8_wordOrName_2 rfl rfl 1 rfl ?_
    refine r_words_len (n := 7) hX dX8_wordOrName_3 rfl dX8_wordOrName_6 rfl ?_
    refine r_icmp_ge_n (tgt := 31) (n := 10) hX 9 9 (by decide) (by decide) dX8_wordOrName_7 (by decide) rfl (fun _ => ?_) (fun c => absurd c (by decide))
    refine r_iconst (n := 32) hX 2 dX8_wordOrName_31 rfl rfl ?_
    exact r_ireturn hX hR dX8_wordOrName_32 ⟨by rw [← he]; rfl, rfl⟩
  | succ m ih =>
    intro j hj he
    refine r_iload_n (n := 3) hX dX8_wordOrName_2 rfl rfl 1 rfl ?_
    refine r_words_len (n := 7) hX dX8_wordOrName_3 rfl dX8_wordOrName_6 rfl ?_
    refine r_icmp_ge_n (tgt := 31) (n := 10) hX j 9 (by omega) (by decide) dX8_wordOrName_7 (by decide) rfl (fun c => absurd c (by omega)) (fun _ => ?_)
    refine r_words_get (n := 15) (i := j) hX dX8_wordOrName_10 rfl dX8_wordOrName_13 rfl dX8_wordOrName_14 rfl 1 rfl (by omega) ?_
    refine r_lload_n (n := 16) hX dX8_wordOrName_15 rfl rfl 0 rfl ?_
    refine r_lif_ne (tgt := 25) (n := 20) hX dX8_wordOrName_16 rfl dX8_wordOrName_17 (by decide) rfl (fun c16 => ?_) (fun c16 => ?_)
    · skip
      refine r_iinc (n := 28) hX (nI (j + 1)) [(0, .long v), (2, .int (nI (j + 1)))] dX8_wordOrName_25 rfl 1 rfl (nI_add _ _) (by decide) rfl ?_
      refine r_goto (tgt := 2) hX dX8_wordOrName_28 (by decide) ?_
      refine ih (j + 1) (by omega) ?_
      rw [← he]
      simp only [tkWord, c16, if_false]
    · skip
      refine r_bipush (n := 22) hX 10 dX8_wordOrName_20 rfl rfl ?_
      refine r_iload_n (n := 23) hX dX8_wordOrName_22 rfl rfl 1 rfl ?_
      refine r_iadd (n := 24) hX dX8_wordOrName_23 rfl ?_
      refine Aw.topi (nI (10 + j)) (nI_add _ _) ?_
      exact r_ireturn hX hR dX8_wordOrName_24 ⟨by rw [← he]; simp only [tkWord, c16, if_true], rfl⟩
set_option maxHeartbeats 4000000 in
set_option maxRecDepth 100000 in
theorem wk_X8_wordOrName {X : Cx} (hX : Ok X cX8_wordOrName 3 RX8 0) (v : Int64)  (hR : Rt X (some FieldType.int) (fun r es' => r = some (.int (nI (tkWord v 9 0))) ∧ es' = []) []) : Aw X [] [] 0 [(0, .long v)] [] := by
  refine r_iconst (n := 1) hX 0 dX8_wordOrName_0 rfl rfl ?_
  refine r_istore_n (n := 2) hX [(0, .long v), (2, .int 0)] dX8_wordOrName_1 rfl rfl (by decide) rfl ?_
  exact lp_X8_word hX v hR 9 0 (by omega) rfl
theorem ct_X8_wordOrName (l : Launch) (D : va_G) (v : Int64)  : Ct l D m_X8_wordOrName 0 [.long v] [] [] (fun r es' => r = some (.int (nI (tkWord v 9 0))) ∧ es' = []) :=
  Ct.ofA (own := RX8) (by decide) rfl (Nat.le_of_ble_eq_true rfl) rfl (fun X hl hD hX hR => by subst hl; subst hD; exact wk_X8_wordOrName hX v hR)
set_option maxHeartbeats 4000000 in
set_option maxRecDepth 100000 in
theorem wk_X8_signAt {X : Cx} (hX : Ok X cX8_signAt 4 RX8 1) (tp tb : Nat) (s : TP) (a : Nat) (ha : a < 2 ^ 20) (hR : Rt X (some FieldType.int) (fun r es' => r = some (.int (tkSign (tpB s a) (tkEqN s a))) ∧ es' = [ob 6 [.ref tb, .int (nI s.2)], aB (CxD X) 3000 s.1]) [tp, tb]) : Aw X [tp, tb] [ob 6 [.ref tb, .int (nI s.2)], aB (CxD X) 3000 s.1] 0 [(0, .ref tp), (1, .int (nI a))] [] := by
  refine r_aload_n (n := 1) hX dX8_signAt_0 rfl rfl 0 rfl ?_
  refine r_iload_n (n := 2) hX dX8_signAt_1 rfl rfl 1 rfl ?_
  refine r_callV (n := 5) (av := [.int (nI a)]) hX (ct_X6_byteAt (CxL X) (CxD X) tp tb s (nI a)) ml_X8_36 cv_X6_byteAt rfl (by decide) [0, 1] rfl rfl (by decide) 0 rfl rfl rfl rfl rfl (Nat.le_of_ble_eq_true rfl) dX8_signAt_2 rfl (fun r_ es_ h_ l_ => ?_)
  obtain ⟨rfl, rfl⟩ := h_
  show Aw X [tp, tb] [ob 6 [.ref tb, .int (nI s.2)], aB (CxD X) 3000 s.1] 5 [(0, .ref tp), (1, .int (nI a))] [.int (tpB s a)]
  refine r_istore_n (n := 6) hX [(0, .ref tp), (1, .int (nI a)), (2, .int (tpB s a))] dX8_signAt_5 rfl rfl (by decide) rfl ?_
  refine r_aload_n (n := 7) hX dX8_signAt_6 rfl rfl 0 rfl ?_
  refine r_iload_n (n := 8) hX dX8_signAt_7 rfl rfl 1 rfl ?_
  refine r_iconst (n := 9) hX 1 dX8_signAt_8 rfl rfl ?_
  refine r_iadd (n := 10) hX dX8_signAt_9 rfl ?_
  refine Aw.topi (nI (a + 1)) (nI_add _ _) ?_
  refine r_callV (n := 13) (av := [.int (nI (a + 1))]) hX (ct_X6_byteAt (CxL X) (CxD X) tp tb s (nI (a + 1))) ml_X8_36 cv_X6_byteAt rfl (by decide) [0, 1] rfl rfl (by decide) 0 rfl rfl rfl rfl rfl (Nat.le_of_ble_eq_true rfl) dX8_signAt_10 rfl (fun r_ es_ h_ l_ => ?_)
  obtain ⟨rfl, rfl⟩ := h_
  show Aw X [tp, tb] [ob 6 [.ref tb, .int (nI s.2)], aB (CxD X) 3000 s.1] 13 [(0, .ref tp), (1, .int (nI a)), (2, .int (tpB s a))] [.int (tpB s (a + 1))]
  refine r_bipush (n := 15) hX 61 dX8_signAt_13 rfl rfl ?_
  refine r_icmp_ne (tgt := 22) (n := 18) hX dX8_signAt_15 (by decide) rfl (fun c15 => ?_) (fun c15 => ?_)
  · have hE : tkEqN s a = false := decide_eq_false c15
    refine r_iconst (n := 23) hX 0 dX8_signAt_22 rfl rfl ?_
    refine r_istore_n (n := 24) hX [(0, .ref tp), (1, .int (nI a)), (2, .int (tpB s a)), (3, .int 0)] dX8_signAt_23 rfl rfl (by decide) rfl ?_
    refine r_iload_n (n := 25) hX dX8_signAt_24 rfl rfl 2 rfl ?_
    by_cases k25_33 : tpB s a = 33
    · refine Aw.topi 33 k25_33 ?_
      refine r_lookup (tgt := 144) (off := 119) hX dX8_signAt_25 (by decide) (by decide) (by decide) ?_
      refine r_iload_n (n := 145) hX dX8_signAt_144 rfl rfl 3 rfl ?_
      refine r_if_eq (tgt := 152) (n := 148) hX dX8_signAt_145 (by decide) rfl (fun _ => ?_) (fun h => False.elim (by revert h; decide))
      refine r_iconst (n := 153) hX 1 dX8_signAt_152 rfl rfl ?_
      exact r_ireturn hX hR dX8_signAt_153 ⟨by rw [hE]; simp [tkSign, k25_33], rfl⟩
    · skip
      by_cases k25_40 : tpB s a = 40
      · refine Aw.topi 40 k25_40 ?_
        refine r_lookup (tgt := 132) (off := 107) hX dX8_signAt_25 (by decide) (by decide) (by decide) ?_
        refine r_iload_n (n := 133) hX dX8_signAt_132 rfl rfl 2 rfl ?_
        exact r_ireturn hX hR dX8_signAt_133 ⟨by rw [hE]; simp [tkSign, k25_40], rfl⟩
      · skip
        by_cases k25_41 : tpB s a = 41
        · refine Aw.topi 41 k25_41 ?_
          refine r_lookup (tgt := 132) (off := 107) hX dX8_signAt_25 (by decide) (by decide) (by decide) ?_
          refine r_iload_n (n := 133) hX dX8_signAt_132 rfl rfl 2 rfl ?_
          exact r_ireturn hX hR dX8_signAt_133 ⟨by rw [hE]; simp [tkSign, k25_41], rfl⟩
        · skip
          by_cases k25_42 : tpB s a = 42
          · refine Aw.topi 42 k25_42 ?_
            refine r_lookup (tgt := 132) (off := 107) hX dX8_signAt_25 (by decide) (by decide) (by decide) ?_
            refine r_iload_n (n := 133) hX dX8_signAt_132 rfl rfl 2 rfl ?_
            exact r_ireturn hX hR dX8_signAt_133 ⟨by rw [hE]; simp [tkSign, k25_42], rfl⟩
          · skip
            by_cases k25_43 : tpB s a = 43
            · refine Aw.topi 43 k25_43 ?_
              refine r_lookup (tgt := 132) (off := 107) hX dX8_signAt_25 (by decide) (by decide) (by decide) ?_
              refine r_iload_n (n := 133) hX dX8_signAt_132 rfl rfl 2 rfl ?_
              exact r_ireturn hX hR dX8_signAt_133 ⟨by rw [hE]; simp [tkSign, k25_43], rfl⟩
            · skip
              by_cases k25_45 : tpB s a = 45
              · refine Aw.topi 45 k25_45 ?_
                refine r_lookup (tgt := 132) (off := 107) hX dX8_signAt_25 (by decide) (by decide) (by decide) ?_
                refine r_iload_n (n := 133) hX dX8_signAt_132 rfl rfl 2 rfl ?_
                exact r_ireturn hX hR dX8_signAt_133 ⟨by rw [hE]; simp [tkSign, k25_45], rfl⟩
              · skip
                by_cases k25_46 : tpB s a = 46
                · refine Aw.topi 46 k25_46 ?_
                  refine r_lookup (tgt := 132) (off := 107) hX dX8_signAt_25 (by decide) (by decide) (by decide) ?_
                  refine r_iload_n (n := 133) hX dX8_signAt_132 rfl rfl 2 rfl ?_
                  exact r_ireturn hX hR dX8_signAt_133 ⟨by rw [hE]; simp [tkSign, k25_46], rfl⟩
                · skip
                  by_cases k25_59 : tpB s a = 59
                  · refine Aw.topi 59 k25_59 ?_
                    refine r_lookup (tgt := 132) (off := 107) hX dX8_signAt_25 (by decide) (by decide) (by decide) ?_
                    refine r_iload_n (n := 133) hX dX8_signAt_132 rfl rfl 2 rfl ?_
                    exact r_ireturn hX hR dX8_signAt_133 ⟨by rw [hE]; simp [tkSign, k25_59], rfl⟩
                  · skip
                    by_cases k25_60 : tpB s a = 60
                    · refine Aw.topi 60 k25_60 ?_
                      refine r_lookup (tgt := 154) (off := 129) hX dX8_signAt_25 (by decide) (by decide) (by decide) ?_
                      refine r_iload_n (n := 155) hX dX8_signAt_154 rfl rfl 3 rfl ?_
                      refine r_if_eq (tgt := 163) (n := 158) hX dX8_signAt_155 (by decide) rfl (fun _ => ?_) (fun h => False.elim (by revert h; decide))
                      refine r_iload_n (n := 164) hX dX8_signAt_163 rfl rfl 2 rfl ?_
                      exact r_ireturn hX hR dX8_signAt_164 ⟨by rw [hE]; simp [tkSign, k25_60], rfl⟩
                    · skip
                      by_cases k25_61 : tpB s a = 61
                      · refine Aw.topi 61 k25_61 ?_
                        refine r_lookup (tgt := 134) (off := 109) hX dX8_signAt_25 (by decide) (by decide) (by decide) ?_
                        refine r_iload_n (n := 135) hX dX8_signAt_134 rfl rfl 3 rfl ?_
                        refine r_if_eq (tgt := 142) (n := 138) hX dX8_signAt_135 (by decide) rfl (fun _ => ?_) (fun h => False.elim (by revert h; decide))
                        refine r_iconst (n := 143) hX 1 dX8_signAt_142 rfl rfl ?_
                        exact r_ireturn hX hR dX8_signAt_143 ⟨by rw [hE]; simp [tkSign, k25_61], rfl⟩
                      · skip
                        by_cases k25_91 : tpB s a = 91
                        · refine Aw.topi 91 k25_91 ?_
                          refine r_lookup (tgt := 132) (off := 107) hX dX8_signAt_25 (by decide) (by decide) (by decide) ?_
                          refine r_iload_n (n := 133) hX dX8_signAt_132 rfl rfl 2 rfl ?_
                          exact r_ireturn hX hR dX8_signAt_133 ⟨by rw [hE]; simp [tkSign, k25_91], rfl⟩
                        · skip
                          by_cases k25_93 : tpB s a = 93
                          · refine Aw.topi 93 k25_93 ?_
                            refine r_lookup (tgt := 132) (off := 107) hX dX8_signAt_25 (by decide) (by decide) (by decide) ?_
                            refine r_iload_n (n := 133) hX dX8_signAt_132 rfl rfl 2 rfl ?_
                            exact r_ireturn hX hR dX8_signAt_133 ⟨by rw [hE]; simp [tkSign, k25_93], rfl⟩
                          · skip
                            refine r_lookup (tgt := 165) (off := 140) hX dX8_signAt_25 (by decide) ((lv_osw k25_33 (by decide)).trans ((lv_osw k25_40 (by decide)).trans ((lv_osw k25_41 (by decide)).trans ((lv_osw k25_42 (by decide)).trans ((lv_osw k25_43 (by decide)).trans ((lv_osw k25_45 (by decide)).trans ((lv_osw k25_46 (by decide)).trans ((lv_osw k25_59 (by decide)).trans ((lv_osw k25_60 (by decide)).trans ((lv_osw k25_61 (by decide)).trans ((lv_osw k25_91 (by decide)).trans ((lv_osw k25_93 (by decide)).trans rfl)))))))))))) (by decide) ?_
                            refine r_iconst (n := 166) hX 1 dX8_signAt_165 rfl rfl ?_
                            exact r_ireturn hX hR dX8_signAt_166 ⟨by rw [hE]; simp [tkSign, k25_33, k25_40, k25_41, k25_42, k25_43, k25_45, k25_46, k25_59, k25_60, k25_61, k25_91, k25_93], rfl⟩
  · have hE : tkEqN s a = true := decide_eq_true c15
    refine r_iconst (n := 19) hX 1 dX8_signAt_18 rfl rfl ?_
    refine r_goto (tgt := 23) hX dX8_signAt_19 (by decide) ?_
    refine r_istore_n (n := 24) hX [(0, .ref tp), (1, .int (nI a)), (2, .int (tpB s a)), (3, .int 1)] dX8_signAt_23 rfl rfl (by decide) rfl ?_
    refine r_iload_n (n := 25) hX dX8_signAt_24 rfl rfl 2 rfl ?_
    by_cases k25_33 : tpB s a = 33
    · refine Aw.topi 33 k25_33 ?_
      refine r_lookup (tgt := 144) (off := 119) hX dX8_signAt_25 (by decide) (by decide) (by decide) ?_
      refine r_iload_n (n := 145) hX dX8_signAt_144 rfl rfl 3 rfl ?_
      refine r_if_eq (tgt := 152) (n := 148) hX dX8_signAt_145 (by decide) rfl (fun h => False.elim (by revert h; decide)) (fun _ => ?_)
      refine r_iconst (n := 149) hX 5 dX8_signAt_148 rfl rfl ?_
      refine r_goto (tgt := 153) hX dX8_signAt_149 (by decide) ?_
      exact r_ireturn hX hR dX8_signAt_153 ⟨by rw [hE]; simp [tkSign, k25_33], rfl⟩
    · skip
      by_cases k25_40 : tpB s a = 40
      · refine Aw.topi 40 k25_40 ?_
        refine r_lookup (tgt := 132) (off := 107) hX dX8_signAt_25 (by decide) (by decide) (by decide) ?_
        refine r_iload_n (n := 133) hX dX8_signAt_132 rfl rfl 2 rfl ?_
        exact r_ireturn hX hR dX8_signAt_133 ⟨by rw [hE]; simp [tkSign, k25_40], rfl⟩
      · skip
        by_cases k25_41 : tpB s a = 41
        · refine Aw.topi 41 k25_41 ?_
          refine r_lookup (tgt := 132) (off := 107) hX dX8_signAt_25 (by decide) (by decide) (by decide) ?_
          refine r_iload_n (n := 133) hX dX8_signAt_132 rfl rfl 2 rfl ?_
          exact r_ireturn hX hR dX8_signAt_133 ⟨by rw [hE]; simp [tkSign, k25_41], rfl⟩
        · skip
          by_cases k25_42 : tpB s a = 42
          · refine Aw.topi 42 k25_42 ?_
            refine r_lookup (tgt := 132) (off := 107) hX dX8_signAt_25 (by decide) (by decide) (by decide) ?_
            refine r_iload_n (n := 133) hX dX8_signAt_132 rfl rfl 2 rfl ?_
            exact r_ireturn hX hR dX8_signAt_133 ⟨by rw [hE]; simp [tkSign, k25_42], rfl⟩
          · skip
            by_cases k25_43 : tpB s a = 43
            · refine Aw.topi 43 k25_43 ?_
              refine r_lookup (tgt := 132) (off := 107) hX dX8_signAt_25 (by decide) (by decide) (by decide) ?_
              refine r_iload_n (n := 133) hX dX8_signAt_132 rfl rfl 2 rfl ?_
              exact r_ireturn hX hR dX8_signAt_133 ⟨by rw [hE]; simp [tkSign, k25_43], rfl⟩
            · skip
              by_cases k25_45 : tpB s a = 45
              · refine Aw.topi 45 k25_45 ?_
                refine r_lookup (tgt := 132) (off := 107) hX dX8_signAt_25 (by decide) (by decide) (by decide) ?_
                refine r_iload_n (n := 133) hX dX8_signAt_132 rfl rfl 2 rfl ?_
                exact r_ireturn hX hR dX8_signAt_133 ⟨by rw [hE]; simp [tkSign, k25_45], rfl⟩
              · skip
                by_cases k25_46 : tpB s a = 46
                · refine Aw.topi 46 k25_46 ?_
                  refine r_lookup (tgt := 132) (off := 107) hX dX8_signAt_25 (by decide) (by decide) (by decide) ?_
                  refine r_iload_n (n := 133) hX dX8_signAt_132 rfl rfl 2 rfl ?_
                  exact r_ireturn hX hR dX8_signAt_133 ⟨by rw [hE]; simp [tkSign, k25_46], rfl⟩
                · skip
                  by_cases k25_59 : tpB s a = 59
                  · refine Aw.topi 59 k25_59 ?_
                    refine r_lookup (tgt := 132) (off := 107) hX dX8_signAt_25 (by decide) (by decide) (by decide) ?_
                    refine r_iload_n (n := 133) hX dX8_signAt_132 rfl rfl 2 rfl ?_
                    exact r_ireturn hX hR dX8_signAt_133 ⟨by rw [hE]; simp [tkSign, k25_59], rfl⟩
                  · skip
                    by_cases k25_60 : tpB s a = 60
                    · refine Aw.topi 60 k25_60 ?_
                      refine r_lookup (tgt := 154) (off := 129) hX dX8_signAt_25 (by decide) (by decide) (by decide) ?_
                      refine r_iload_n (n := 155) hX dX8_signAt_154 rfl rfl 3 rfl ?_
                      refine r_if_eq (tgt := 163) (n := 158) hX dX8_signAt_155 (by decide) rfl (fun h => False.elim (by revert h; decide)) (fun _ => ?_)
                      refine r_bipush (n := 160) hX 6 dX8_signAt_158 rfl rfl ?_
                      refine r_goto (tgt := 164) hX dX8_signAt_160 (by decide) ?_
                      exact r_ireturn hX hR dX8_signAt_164 ⟨by rw [hE]; simp [tkSign, k25_60], rfl⟩
                    · skip
                      by_cases k25_61 : tpB s a = 61
                      · refine Aw.topi 61 k25_61 ?_
                        refine r_lookup (tgt := 134) (off := 109) hX dX8_signAt_25 (by decide) (by decide) (by decide) ?_
                        refine r_iload_n (n := 135) hX dX8_signAt_134 rfl rfl 3 rfl ?_
                        refine r_if_eq (tgt := 142) (n := 138) hX dX8_signAt_135 (by decide) rfl (fun h => False.elim (by revert h; decide)) (fun _ => ?_)
                        refine r_iconst (n := 139) hX 4 dX8_signAt_138 rfl rfl ?_
                        refine r_goto (tgt := 143) hX dX8_signAt_139 (by decide) ?_
                        exact r_ireturn hX hR dX8_signAt_143 ⟨by rw [hE]; simp [tkSign, k25_61], rfl⟩
                      · skip
                        by_cases k25_91 : tpB s a = 91
                        · refine Aw.topi 91 k25_91 ?_
                          refine r_lookup (tgt := 132) (off := 107) hX dX8_signAt_25 (by decide) (by decide) (by decide) ?_
                          refine r_iload_n (n := 133) hX dX8_signAt_132 rfl rfl 2 rfl ?_
                          exact r_ireturn hX hR dX8_signAt_133 ⟨by rw [hE]; simp [tkSign, k25_91], rfl⟩
                        · skip
                          by_cases k25_93 : tpB s a = 93
                          · refine Aw.topi 93 k25_93 ?_
                            refine r_lookup (tgt := 132) (off := 107) hX dX8_signAt_25 (by decide) (by decide) (by decide) ?_
                            refine r_iload_n (n := 133) hX dX8_signAt_132 rfl rfl 2 rfl ?_
                            exact r_ireturn hX hR dX8_signAt_133 ⟨by rw [hE]; simp [tkSign, k25_93], rfl⟩
                          · skip
                            refine r_lookup (tgt := 165) (off := 140) hX dX8_signAt_25 (by decide) ((lv_osw k25_33 (by decide)).trans ((lv_osw k25_40 (by decide)).trans ((lv_osw k25_41 (by decide)).trans ((lv_osw k25_42 (by decide)).trans ((lv_osw k25_43 (by decide)).trans ((lv_osw k25_45 (by decide)).trans ((lv_osw k25_46 (by decide)).trans ((lv_osw k25_59 (by decide)).trans ((lv_osw k25_60 (by decide)).trans ((lv_osw k25_61 (by decide)).trans ((lv_osw k25_91 (by decide)).trans ((lv_osw k25_93 (by decide)).trans rfl)))))))))))) (by decide) ?_
                            refine r_iconst (n := 166) hX 1 dX8_signAt_165 rfl rfl ?_
                            exact r_ireturn hX hR dX8_signAt_166 ⟨by rw [hE]; simp [tkSign, k25_33, k25_40, k25_41, k25_42, k25_43, k25_45, k25_46, k25_59, k25_60, k25_61, k25_91, k25_93], rfl⟩
theorem ct_X8_signAt (l : Launch) (D : va_G) (tp tb : Nat) (s : TP) (a : Nat) (ha : a < 2 ^ 20) : Ct l D m_X8_signAt 1 [.ref tp, .int (nI a)] [tp, tb] [ob 6 [.ref tb, .int (nI s.2)], aB D 3000 s.1] (fun r es' => r = some (.int (tkSign (tpB s a) (tkEqN s a))) ∧ es' = [ob 6 [.ref tb, .int (nI s.2)], aB D 3000 s.1]) :=
  Ct.ofA (own := RX8) (by decide) rfl (Nat.le_of_ble_eq_true rfl) rfl (fun X hl hD hX hR => by subst hl; subst hD; exact wk_X8_signAt hX tp tb s a ha hR)
set_option maxHeartbeats 4000000 in
set_option maxRecDepth 100000 in
theorem ex_X8_scanName {X : Cx} (hX : Ok X cX8_scanName 7 RX8 1) (tk k0 k1 k2 tp tb : Nat) (s : TP) (t : TK) (a i : Nat) (hn : s.2 ≤ 3000) (ha : a < 2 ^ 20) (hi : i < 601) (j : Nat) (p : Int64) (hj : j < 2 ^ 21) (haj : a ≤ j) (hF : (j, p) = tkNm s (s.2 - a) a 0) (hR : Rt X (some FieldType.int) (fun r es' => r = some (.int (nI (tkName s a i t).1)) ∧ es' = [ob 8 [.ref k0, .ref k1, .ref k2], aI (CxD X) 601 ((tkName s a i t).2.1), aI (CxD X) 601 (nf ((tkName s a i t).2.2.1)), aJ (CxD X) 601 ((tkName s a i t).2.2.2), ob 6 [.ref tb, .int (nI s.2)], aB (CxD X) 3000 s.1]) [tk, k0, k1, k2, tp, tb]) : Aw X [tk, k0, k1, k2, tp, tb] [ob 8 [.ref k0, .ref k1, .ref k2], aI (CxD X) 601 t.1, aI (CxD X) 601 (nf t.2.1), aJ (CxD X) 601 t.2.2, ob 6 [.ref tb, .int (nI s.2)], aB (CxD X) 3000 s.1] 60 [(0, .ref tk), (1, .ref tp), (2, .int (nI a)), (3, .int (nI i)), (4, .int (nI j)), (5, .long p)] [] := by
  refine r_aload_n (n := 61) hX dX8_scanName_60 rfl rfl 0 rfl ?_
  refine r_get (n := 64) hX 0 rfl rfl rfl 2 (by decide) lay_X8 fl_X8_18 rfl dX8_scanName_61 rfl ?_
  refine r_iload_n (n := 65) hX dX8_scanName_64 rfl rfl 3 rfl ?_
  refine r_lload (n := 67) hX dX8_scanName_65 rfl 5 rfl ?_
  refine r_lastn (n := 68) (i := i) hX 3 rfl rfl [ob 8 [.ref k0, .ref k1, .ref k2], aI (CxD X) 601 t.1, aI (CxD X) 601 (nf t.2.1), aJ (CxD X) 601 (vp_updL t.2.2 i p), ob 6 [.ref tb, .int (nI s.2)], aB (CxD X) 3000 s.1] (by omega) (by decide) rfl dX8_scanName_67 rfl ?_
  refine r_aload_n (n := 69) hX dX8_scanName_68 rfl rfl 0 rfl ?_
  refine r_get (n := 72) hX 0 rfl rfl rfl 0 (by decide) lay_X8 fl_X8_9 rfl dX8_scanName_69 rfl ?_
  refine r_iload_n (n := 73) hX dX8_scanName_72 rfl rfl 3 rfl ?_
  refine r_iload (n := 75) hX dX8_scanName_73 rfl 4 rfl ?_
  refine r_iload_n (n := 76) hX dX8_scanName_75 rfl rfl 2 rfl ?_
  refine r_isub (n := 77) hX dX8_scanName_76 rfl ?_
  refine Aw.topi (nI (j - a)) (pk_sub haj) ?_
  refine r_bipush (n := 79) hX 8 dX8_scanName_77 rfl rfl ?_
  refine r_icmp_le_n (tgt := 86) (n := 82) hX (j - a) 8 (by omega) (by omega) dX8_scanName_79 (by decide) rfl (fun c79 => ?_) (fun c79 => ?_)
  · skip
    refine r_lload (n := 88) hX dX8_scanName_86 rfl 5 rfl ?_
    refine r_callS (n := 91) (av := [.long p]) hX (ct_X8_wordOrName (CxL X) (CxD X) p) ml_X8_59 cs_X8_wordOrName rfl (by decide) [] rfl rfl (by decide) rfl (Nat.le_of_ble_eq_true rfl) dX8_scanName_88 rfl (fun r_ es_ h_ l_ => ?_)
    obtain ⟨rfl, rfl⟩ := h_
    show Aw X [tk, k0, k1, k2, tp, tb] [ob 8 [.ref k0, .ref k1, .ref k2], aI (CxD X) 601 t.1, aI (CxD X) 601 (nf t.2.1), aJ (CxD X) 601 (vp_updL t.2.2 i p), ob 6 [.ref tb, .int (nI s.2)], aB (CxD X) 3000 s.1] 91 [(0, .ref tk), (1, .ref tp), (2, .int (nI a)), (3, .int (nI i)), (4, .int (nI j)), (5, .long p)] [.int (nI (tkWord p 9 0)), .int (nI i), .ref k0]
    refine r_iastn (n := 92) (i := i) hX 1 rfl rfl [ob 8 [.ref k0, .ref k1, .ref k2], aI (CxD X) 601 (upd t.1 i (nI (tkWord p 9 0))), aI (CxD X) 601 (nf t.2.1), aJ (CxD X) 601 (vp_updL t.2.2 i p), ob 6 [.ref tb, .int (nI s.2)], aB (CxD X) 3000 s.1] (by omega) (by decide) rfl dX8_scanName_91 rfl ?_
    refine r_iload (n := 94) hX dX8_scanName_92 rfl 4 rfl ?_
    exact r_ireturn hX hR dX8_scanName_94 (by simp only [tkName, ← hF]; (first | rw [if_pos c79] | rw [if_neg (Nat.not_le.mpr c79)]); exact ⟨trivial, rfl⟩)
  · skip
    refine r_iconst (n := 83) hX 1 dX8_scanName_82 rfl rfl ?_
    refine r_goto (tgt := 91) hX dX8_scanName_83 (by decide) ?_
    refine r_iastn (n := 92) (i := i) hX 1 rfl rfl [ob 8 [.ref k0, .ref k1, .ref k2], aI (CxD X) 601 (upd t.1 i 1), aI (CxD X) 601 (nf t.2.1), aJ (CxD X) 601 (vp_updL t.2.2 i p), ob 6 [.ref tb, .int (nI s.2)], aB (CxD X) 3000 s.1] (by omega) (by decide) rfl dX8_scanName_91 rfl ?_
    refine r_iload (n := 94) hX dX8_scanName_92 rfl 4 rfl ?_
    exact r_ireturn hX hR dX8_scanName_94 (by simp only [tkName, ← hF]; (first | rw [if_pos c79] | rw [if_neg (Nat.not_le.mpr c79)]); exact ⟨trivial, rfl⟩)
set_option maxHeartbeats 4000000 in
set_option maxRecDepth 100000 in
theorem lp_X8_scanName {X : Cx} (hX : Ok X cX8_scanName 7 RX8 1) (tk k0 k1 k2 tp tb : Nat) (s : TP) (t : TK) (a i : Nat) (hn : s.2 ≤ 3000) (ha : a < 2 ^ 20) (hi : i < 601) (hR : Rt X (some FieldType.int) (fun r es' => r = some (.int (nI (tkName s a i t).1)) ∧ es' = [ob 8 [.ref k0, .ref k1, .ref k2], aI (CxD X) 601 ((tkName s a i t).2.1), aI (CxD X) 601 (nf ((tkName s a i t).2.2.1)), aJ (CxD X) 601 ((tkName s a i t).2.2.2), ob 6 [.ref tb, .int (nI s.2)], aB (CxD X) 3000 s.1]) [tk, k0, k1, k2, tp, tb]) : ∀ (m j : Nat) (p : Int64), j < 2 ^ 20 + 3001 - m → m = s.2 - j → a ≤ j → tkNm s m j p = tkNm s (s.2 - a) a 0 → Aw X [tk, k0, k1, k2, tp, tb] [ob 8 [.ref k0, .ref k1, .ref k2], aI (CxD X) 601 t.1, aI (CxD X) 601 (nf t.2.1), aJ (CxD X) 601 t.2.2, ob 6 [.ref tb, .int (nI s.2)], aB (CxD X) 3000 s.1] 6 [(0, .ref tk), (1, .ref tp), (2, .int (nI a)), (3, .int (nI i)), (4, .int (nI j)), (5, .long p)] [] := by
  intro m
  induction m with
  | zero =>
    intro j p hj hm haj he
    refine r_iload (n := 8) hX dX8_scanName_6 rfl 4 rfl ?_
    refine r_aload_n (n := 9) hX dX8_scanName_8 rfl rfl 1 rfl ?_
    refine r_get (n := 12) hX 4 rfl rfl rfl 1 (by decide) lay_X6 fl_X8_30 rfl dX8_scanName_9 rfl ?_
    refine r_icmp_ge_n (tgt := 60) (n := 15) hX j s.2 (by omega) (by omega) dX8_scanName_12 (by decide) rfl (fun c12 => ?_) (fun c12 => absurd c12 (by omega))
    have hF : (j, p) = tkNm s (s.2 - a) a 0 := by rw [← he]; rfl
    exact ex_X8_scanName hX tk k0 k1 k2 tp tb s t a i hn ha hi j p (by omega) haj hF hR
  | succ m ih =>
    intro j p hj hm haj he
    refine r_iload (n := 8) hX dX8_scanName_6 rfl 4 rfl ?_
    refine r_aload_n (n := 9) hX dX8_scanName_8 rfl rfl 1 rfl ?_
    refine r_get (n := 12) hX 4 rfl rfl rfl 1 (by decide) lay_X6 fl_X8_30 rfl dX8_scanName_9 rfl ?_
    refine r_icmp_ge_n (tgt := 60) (n := 15) hX j s.2 (by omega) (by omega) dX8_scanName_12 (by decide) rfl (fun c12 => absurd c12 (by omega)) (fun c12 => ?_)
    refine r_aload_n (n := 16) hX dX8_scanName_15 rfl rfl 1 rfl ?_
    refine r_iload (n := 18) hX dX8_scanName_16 rfl 4 rfl ?_
    refine r_callV (n := 21) (av := [.int (nI j)]) hX (ct_X6_byteAt (CxL X) (CxD X) tp tb s (nI j)) ml_X8_36 cv_X6_byteAt rfl (by decide) [4, 5] rfl rfl (by decide) 4 rfl rfl rfl rfl rfl (Nat.le_of_ble_eq_true rfl) dX8_scanName_18 rfl (fun r_ es_ h_ l_ => ?_)
    obtain ⟨rfl, rfl⟩ := h_
    show Aw X [tk, k0, k1, k2, tp, tb] [ob 8 [.ref k0, .ref k1, .ref k2], aI (CxD X) 601 t.1, aI (CxD X) 601 (nf t.2.1), aJ (CxD X) 601 t.2.2, ob 6 [.ref tb, .int (nI s.2)], aB (CxD X) 3000 s.1] 21 [(0, .ref tk), (1, .ref tp), (2, .int (nI a)), (3, .int (nI i)), (4, .int (nI j)), (5, .long p)] [.int (tpB s j)]
    refine r_callS (n := 24) (av := [.int (tpB s j)]) hX (ct_X8_isLetter (CxL X) (CxD X) (tpB s j)) ml_X8_44 cs_X8_isLetter rfl (by decide) [] rfl rfl (by decide) rfl (Nat.le_of_ble_eq_true rfl) dX8_scanName_21 rfl (fun r_ es_ h_ l_ => ?_)
    obtain ⟨rfl, rfl⟩ := h_
    show Aw X [tk, k0, k1, k2, tp, tb] [ob 8 [.ref k0, .ref k1, .ref k2], aI (CxD X) 601 t.1, aI (CxD X) 601 (nf t.2.1), aJ (CxD X) 601 t.2.2, ob 6 [.ref tb, .int (nI s.2)], aB (CxD X) 3000 s.1] 24 [(0, .ref tk), (1, .ref tp), (2, .int (nI a)), (3, .int (nI i)), (4, .int (nI j)), (5, .long p)] [.int (b2 (isLe (tpB s j)))]
    refine r_if_ne_b (tgt := 39) (n := 27) hX dX8_scanName_24 (by decide) rfl (fun c24 => ?_) (fun c24 => ?_)
    · skip
      refine r_lload (n := 41) hX dX8_scanName_39 rfl 5 rfl ?_
      refine r_bipush (n := 43) hX 8 dX8_scanName_41 rfl rfl ?_
      refine r_lshl (n := 44) hX dX8_scanName_43 rfl ?_
      refine r_aload_n (n := 45) hX dX8_scanName_44 rfl rfl 1 rfl ?_
      refine r_iload (n := 47) hX dX8_scanName_45 rfl 4 rfl ?_
      refine r_callV (n := 50) (av := [.int (nI j)]) hX (ct_X6_byteAt (CxL X) (CxD X) tp tb s (nI j)) ml_X8_36 cv_X6_byteAt rfl (by decide) [4, 5] rfl rfl (by decide) 4 rfl rfl rfl rfl rfl (Nat.le_of_ble_eq_true rfl) dX8_scanName_47 rfl (fun r_ es_ h_ l_ => ?_)
      obtain ⟨rfl, rfl⟩ := h_
      show Aw X [tk, k0, k1, k2, tp, tb] [ob 8 [.ref k0, .ref k1, .ref k2], aI (CxD X) 601 t.1, aI (CxD X) 601 (nf t.2.1), aJ (CxD X) 601 t.2.2, ob 6 [.ref tb, .int (nI s.2)], aB (CxD X) 3000 s.1] 50 [(0, .ref tk), (1, .ref tp), (2, .int (nI a)), (3, .int (nI i)), (4, .int (nI j)), (5, .long p)] [.int (tpB s j), .long (p <<< (Int32.toInt64 8 &&& 63))]
      refine r_i2l (n := 51) hX dX8_scanName_50 rfl ?_
      refine r_lor (n := 52) hX dX8_scanName_51 rfl ?_
      refine r_lstore (n := 54) hX [(0, .ref tk), (1, .ref tp), (2, .int (nI a)), (3, .int (nI i)), (4, .int (nI j)), (5, .long ((p <<< (Int32.toInt64 8 &&& 63)) ||| (Int32.toInt64 (tpB s j))))] dX8_scanName_52 rfl (by decide) rfl ?_
      refine r_iinc (n := 57) hX (nI (j + 1)) [(0, .ref tk), (1, .ref tp), (2, .int (nI a)), (3, .int (nI i)), (4, .int (nI (j + 1))), (5, .long ((p <<< (Int32.toInt64 8 &&& 63)) ||| (Int32.toInt64 (tpB s j))))] dX8_scanName_54 rfl 4 rfl (nI_add _ _) (by decide) rfl ?_
      refine r_goto (tgt := 6) hX dX8_scanName_57 (by decide) ?_
      refine ih (j + 1) _ (by omega) (by omega) (by omega) ?_
      rw [← he]
      simp only [tkNm, c24, true_or, if_true]
    · skip
      refine r_aload_n (n := 28) hX dX8_scanName_27 rfl rfl 1 rfl ?_
      refine r_iload (n := 30) hX dX8_scanName_28 rfl 4 rfl ?_
      refine r_callV (n := 33) (av := [.int (nI j)]) hX (ct_X6_byteAt (CxL X) (CxD X) tp tb s (nI j)) ml_X8_36 cv_X6_byteAt rfl (by decide) [4, 5] rfl rfl (by decide) 4 rfl rfl rfl rfl rfl (Nat.le_of_ble_eq_true rfl) dX8_scanName_30 rfl (fun r_ es_ h_ l_ => ?_)
      obtain ⟨rfl, rfl⟩ := h_
      show Aw X [tk, k0, k1, k2, tp, tb] [ob 8 [.ref k0, .ref k1, .ref k2], aI (CxD X) 601 t.1, aI (CxD X) 601 (nf t.2.1), aJ (CxD X) 601 t.2.2, ob 6 [.ref tb, .int (nI s.2)], aB (CxD X) 3000 s.1] 33 [(0, .ref tk), (1, .ref tp), (2, .int (nI a)), (3, .int (nI i)), (4, .int (nI j)), (5, .long p)] [.int (tpB s j)]
      refine r_callS (n := 36) (av := [.int (tpB s j)]) hX (ct_X8_isDigit (CxL X) (CxD X) (tpB s j)) ml_X8_50 cs_X8_isDigit rfl (by decide) [] rfl rfl (by decide) rfl (Nat.le_of_ble_eq_true rfl) dX8_scanName_33 rfl (fun r_ es_ h_ l_ => ?_)
      obtain ⟨rfl, rfl⟩ := h_
      show Aw X [tk, k0, k1, k2, tp, tb] [ob 8 [.ref k0, .ref k1, .ref k2], aI (CxD X) 601 t.1, aI (CxD X) 601 (nf t.2.1), aJ (CxD X) 601 t.2.2, ob 6 [.ref tb, .int (nI s.2)], aB (CxD X) 3000 s.1] 36 [(0, .ref tk), (1, .ref tp), (2, .int (nI a)), (3, .int (nI i)), (4, .int (nI j)), (5, .long p)] [.int (b2 (isDi (tpB s j)))]
      refine r_if_eq_b (tgt := 60) (n := 39) hX dX8_scanName_36 (by decide) rfl (fun c36 => ?_) (fun c36 => ?_)
      · skip
        have hF : (j, p) = tkNm s (s.2 - a) a 0 := by rw [← he]; simp only [tkNm, c24, c36, or_self, if_false, Bool.false_eq_true]
        exact ex_X8_scanName hX tk k0 k1 k2 tp tb s t a i hn ha hi j p (by omega) haj hF hR
      · skip
        refine r_lload (n := 41) hX dX8_scanName_39 rfl 5 rfl ?_
        refine r_bipush (n := 43) hX 8 dX8_scanName_41 rfl rfl ?_
        refine r_lshl (n := 44) hX dX8_scanName_43 rfl ?_
        refine r_aload_n (n := 45) hX dX8_scanName_44 rfl rfl 1 rfl ?_
        refine r_iload (n := 47) hX dX8_scanName_45 rfl 4 rfl ?_
        refine r_callV (n := 50) (av := [.int (nI j)]) hX (ct_X6_byteAt (CxL X) (CxD X) tp tb s (nI j)) ml_X8_36 cv_X6_byteAt rfl (by decide) [4, 5] rfl rfl (by decide) 4 rfl rfl rfl rfl rfl (Nat.le_of_ble_eq_true rfl) dX8_scanName_47 rfl (fun r_ es_ h_ l_ => ?_)
        obtain ⟨rfl, rfl⟩ := h_
        show Aw X [tk, k0, k1, k2, tp, tb] [ob 8 [.ref k0, .ref k1, .ref k2], aI (CxD X) 601 t.1, aI (CxD X) 601 (nf t.2.1), aJ (CxD X) 601 t.2.2, ob 6 [.ref tb, .int (nI s.2)], aB (CxD X) 3000 s.1] 50 [(0, .ref tk), (1, .ref tp), (2, .int (nI a)), (3, .int (nI i)), (4, .int (nI j)), (5, .long p)] [.int (tpB s j), .long (p <<< (Int32.toInt64 8 &&& 63))]
        refine r_i2l (n := 51) hX dX8_scanName_50 rfl ?_
        refine r_lor (n := 52) hX dX8_scanName_51 rfl ?_
        refine r_lstore (n := 54) hX [(0, .ref tk), (1, .ref tp), (2, .int (nI a)), (3, .int (nI i)), (4, .int (nI j)), (5, .long ((p <<< (Int32.toInt64 8 &&& 63)) ||| (Int32.toInt64 (tpB s j))))] dX8_scanName_52 rfl (by decide) rfl ?_
        refine r_iinc (n := 57) hX (nI (j + 1)) [(0, .ref tk), (1, .ref tp), (2, .int (nI a)), (3, .int (nI i)), (4, .int (nI (j + 1))), (5, .long ((p <<< (Int32.toInt64 8 &&& 63)) ||| (Int32.toInt64 (tpB s j))))] dX8_scanName_54 rfl 4 rfl (nI_add _ _) (by decide) rfl ?_
        refine r_goto (tgt := 6) hX dX8_scanName_57 (by decide) ?_
        refine ih (j + 1) _ (by omega) (by omega) (by omega) ?_
        rw [← he]
        simp only [tkNm, c36, or_true, if_true]
set_option maxHeartbeats 4000000 in
set_option maxRecDepth 100000 in
theorem wk_X8_scanName {X : Cx} (hX : Ok X cX8_scanName 7 RX8 1) (tk k0 k1 k2 tp tb : Nat) (s : TP) (t : TK) (a i : Nat) (hn : s.2 ≤ 3000) (ha : a < 2 ^ 20) (hi : i < 601) (hR : Rt X (some FieldType.int) (fun r es' => r = some (.int (nI (tkName s a i t).1)) ∧ es' = [ob 8 [.ref k0, .ref k1, .ref k2], aI (CxD X) 601 ((tkName s a i t).2.1), aI (CxD X) 601 (nf ((tkName s a i t).2.2.1)), aJ (CxD X) 601 ((tkName s a i t).2.2.2), ob 6 [.ref tb, .int (nI s.2)], aB (CxD X) 3000 s.1]) [tk, k0, k1, k2, tp, tb]) : Aw X [tk, k0, k1, k2, tp, tb] [ob 8 [.ref k0, .ref k1, .ref k2], aI (CxD X) 601 t.1, aI (CxD X) 601 (nf t.2.1), aJ (CxD X) 601 t.2.2, ob 6 [.ref tb, .int (nI s.2)], aB (CxD X) 3000 s.1] 0 [(0, .ref tk), (1, .ref tp), (2, .int (nI a)), (3, .int (nI i))] [] := by
  refine r_iload_n (n := 1) hX dX8_scanName_0 rfl rfl 2 rfl ?_
  refine r_istore (n := 3) hX [(0, .ref tk), (1, .ref tp), (2, .int (nI a)), (3, .int (nI i)), (4, .int (nI a))] dX8_scanName_1 rfl (by decide) rfl ?_
  refine r_lconst (n := 4) hX 0 dX8_scanName_3 rfl rfl ?_
  refine r_lstore (n := 6) hX [(0, .ref tk), (1, .ref tp), (2, .int (nI a)), (3, .int (nI i)), (4, .int (nI a)), (5, .long 0)] dX8_scanName_4 rfl (by decide) rfl ?_
  exact lp_X8_scanName hX tk k0 k1 k2 tp tb s t a i hn ha hi hR _ a 0 (by omega) rfl (Nat.le_refl a) rfl
theorem ct_X8_scanName (l : Launch) (D : va_G) (tk k0 k1 k2 tp tb : Nat) (s : TP) (t : TK) (a i : Nat) (hn : s.2 ≤ 3000) (ha : a < 2 ^ 20) (hi : i < 601) : Ct l D m_X8_scanName 1 [.ref tk, .ref tp, .int (nI a), .int (nI i)] [tk, k0, k1, k2, tp, tb] [ob 8 [.ref k0, .ref k1, .ref k2], aI D 601 t.1, aI D 601 (nf t.2.1), aJ D 601 t.2.2, ob 6 [.ref tb, .int (nI s.2)], aB D 3000 s.1] (fun r es' => r = some (.int (nI (tkName s a i t).1)) ∧ es' = [ob 8 [.ref k0, .ref k1, .ref k2], aI D 601 ((tkName s a i t).2.1), aI D 601 (nf ((tkName s a i t).2.2.1)), aJ D 601 ((tkName s a i t).2.2.2), ob 6 [.ref tb, .int (nI s.2)], aB D 3000 s.1]) :=
  Ct.ofA (own := RX8) (by decide) rfl (Nat.le_of_ble_eq_true rfl) rfl (fun X hl hD hX hR => by subst hl; subst hD; exact wk_X8_scanName hX tk k0 k1 k2 tp tb s t a i hn ha hi hR)
set_option maxHeartbeats 4000000 in
set_option maxRecDepth 100000 in
theorem ex_X8_scanNumber {X : Cx} (hX : Ok X cX8_scanNumber 7 RX8 1) (tk k0 k1 k2 tp tb : Nat) (s : TP) (t : TK) (a i : Nat) (hn : s.2 ≤ 3000) (ha : a < 2 ^ 20) (hi : i < 601) (j : Nat) (p : Int64) (hj : j < 2 ^ 21) (haj : a ≤ j) (hF : (j, p) = tkNu s (s.2 - a) a 0) (hR : Rt X (some FieldType.int) (fun r es' => r = some (.int (nI (tkNumb s a i t).1)) ∧ es' = [ob 8 [.ref k0, .ref k1, .ref k2], aI (CxD X) 601 ((tkNumb s a i t).2.1), aI (CxD X) 601 (nf ((tkNumb s a i t).2.2.1)), aJ (CxD X) 601 ((tkNumb s a i t).2.2.2), ob 6 [.ref tb, .int (nI s.2)], aB (CxD X) 3000 s.1]) [tk, k0, k1, k2, tp, tb]) : Aw X [tk, k0, k1, k2, tp, tb] [ob 8 [.ref k0, .ref k1, .ref k2], aI (CxD X) 601 t.1, aI (CxD X) 601 (nf t.2.1), aJ (CxD X) 601 t.2.2, ob 6 [.ref tb, .int (nI s.2)], aB (CxD X) 3000 s.1] 52 [(0, .ref tk), (1, .ref tp), (2, .int (nI a)), (3, .int (nI i)), (4, .int (nI j)), (5, .long p)] [] := by
  refine r_aload_n (n := 53) hX dX8_scanNumber_52 rfl rfl 0 rfl ?_
  refine r_get (n := 56) hX 0 rfl rfl rfl 2 (by decide) lay_X8 fl_X8_18 rfl dX8_scanNumber_53 rfl ?_
  refine r_iload_n (n := 57) hX dX8_scanNumber_56 rfl rfl 3 rfl ?_
  refine r_lload (n := 59) hX dX8_scanNumber_57 rfl 5 rfl ?_
  refine r_lastn (n := 60) (i := i) hX 3 rfl rfl [ob 8 [.ref k0, .ref k1, .ref k2], aI (CxD X) 601 t.1, aI (CxD X) 601 (nf t.2.1), aJ (CxD X) 601 (vp_updL t.2.2 i p), ob 6 [.ref tb, .int (nI s.2)], aB (CxD X) 3000 s.1] (by omega) (by decide) rfl dX8_scanNumber_59 rfl ?_
  refine r_aload_n (n := 61) hX dX8_scanNumber_60 rfl rfl 0 rfl ?_
  refine r_get (n := 64) hX 0 rfl rfl rfl 0 (by decide) lay_X8 fl_X8_9 rfl dX8_scanNumber_61 rfl ?_
  refine r_iload_n (n := 65) hX dX8_scanNumber_64 rfl rfl 3 rfl ?_
  refine r_iload (n := 67) hX dX8_scanNumber_65 rfl 4 rfl ?_
  refine r_iload_n (n := 68) hX dX8_scanNumber_67 rfl rfl 2 rfl ?_
  refine r_isub (n := 69) hX dX8_scanNumber_68 rfl ?_
  refine Aw.topi (nI (j - a)) (pk_sub haj) ?_
  refine r_iconst (n := 70) hX 4 dX8_scanNumber_69 rfl rfl ?_
  refine r_icmp_le_n (tgt := 77) (n := 73) hX (j - a) 4 (by omega) (by omega) dX8_scanNumber_70 (by decide) rfl (fun c70 => ?_) (fun c70 => ?_)
  · skip
    refine r_iconst (n := 78) hX 3 dX8_scanNumber_77 rfl rfl ?_
    refine r_iastn (n := 79) (i := i) hX 1 rfl rfl [ob 8 [.ref k0, .ref k1, .ref k2], aI (CxD X) 601 (upd t.1 i 3), aI (CxD X) 601 (nf t.2.1), aJ (CxD X) 601 (vp_updL t.2.2 i p), ob 6 [.ref tb, .int (nI s.2)], aB (CxD X) 3000 s.1] (by omega) (by decide) rfl dX8_scanNumber_78 rfl ?_
    refine r_iload (n := 81) hX dX8_scanNumber_79 rfl 4 rfl ?_
    exact r_ireturn hX hR dX8_scanNumber_81 (by simp only [tkNumb, ← hF]; (first | rw [if_pos c70] | rw [if_neg (Nat.not_le.mpr c70)]); exact ⟨trivial, rfl⟩)
  · skip
    refine r_iconst (n := 74) hX 1 dX8_scanNumber_73 rfl rfl ?_
    refine r_goto (tgt := 78) hX dX8_scanNumber_74 (by decide) ?_
    refine r_iastn (n := 79) (i := i) hX 1 rfl rfl [ob 8 [.ref k0, .ref k1, .ref k2], aI (CxD X) 601 (upd t.1 i 1), aI (CxD X) 601 (nf t.2.1), aJ (CxD X) 601 (vp_updL t.2.2 i p), ob 6 [.ref tb, .int (nI s.2)], aB (CxD X) 3000 s.1] (by omega) (by decide) rfl dX8_scanNumber_78 rfl ?_
    refine r_iload (n := 81) hX dX8_scanNumber_79 rfl 4 rfl ?_
    exact r_ireturn hX hR dX8_scanNumber_81 (by simp only [tkNumb, ← hF]; (first | rw [if_pos c70] | rw [if_neg (Nat.not_le.mpr c70)]); exact ⟨trivial, rfl⟩)
set_option maxHeartbeats 4000000 in
set_option maxRecDepth 100000 in
theorem lp_X8_scanNumber {X : Cx} (hX : Ok X cX8_scanNumber 7 RX8 1) (tk k0 k1 k2 tp tb : Nat) (s : TP) (t : TK) (a i : Nat) (hn : s.2 ≤ 3000) (ha : a < 2 ^ 20) (hi : i < 601) (hR : Rt X (some FieldType.int) (fun r es' => r = some (.int (nI (tkNumb s a i t).1)) ∧ es' = [ob 8 [.ref k0, .ref k1, .ref k2], aI (CxD X) 601 ((tkNumb s a i t).2.1), aI (CxD X) 601 (nf ((tkNumb s a i t).2.2.1)), aJ (CxD X) 601 ((tkNumb s a i t).2.2.2), ob 6 [.ref tb, .int (nI s.2)], aB (CxD X) 3000 s.1]) [tk, k0, k1, k2, tp, tb]) : ∀ (m j : Nat) (p : Int64), j < 2 ^ 20 + 3001 - m → m = s.2 - j → a ≤ j → tkNu s m j p = tkNu s (s.2 - a) a 0 → Aw X [tk, k0, k1, k2, tp, tb] [ob 8 [.ref k0, .ref k1, .ref k2], aI (CxD X) 601 t.1, aI (CxD X) 601 (nf t.2.1), aJ (CxD X) 601 t.2.2, ob 6 [.ref tb, .int (nI s.2)], aB (CxD X) 3000 s.1] 6 [(0, .ref tk), (1, .ref tp), (2, .int (nI a)), (3, .int (nI i)), (4, .int (nI j)), (5, .long p)] [] := by
  intro m
  induction m with
  | zero =>
    intro j p hj hm haj he
    refine r_iload (n := 8) hX dX8_scanNumber_6 rfl 4 rfl ?_
    refine r_aload_n (n := 9) hX dX8_scanNumber_8 rfl rfl 1 rfl ?_
    refine r_get (n := 12) hX 4 rfl rfl rfl 1 (by decide) lay_X6 fl_X8_30 rfl dX8_scanNumber_9 rfl ?_
    refine r_icmp_ge_n (tgt := 52) (n := 15) hX j s.2 (by omega) (by omega) dX8_scanNumber_12 (by decide) rfl (fun c12 => ?_) (fun c12 => absurd c12 (by omega))
    have hF : (j, p) = tkNu s (s.2 - a) a 0 := by rw [← he]; rfl
    exact ex_X8_scanNumber hX tk k0 k1 k2 tp tb s t a i hn ha hi j p (by omega) haj hF hR
  | succ m ih =>
    intro j p hj hm haj he
    refine r_iload (n := 8) hX dX8_scanNumber_6 rfl 4 rfl ?_
    refine r_aload_n (n := 9) hX dX8_scanNumber_8 rfl rfl 1 rfl ?_
    refine r_get (n := 12) hX 4 rfl rfl rfl 1 (by decide) lay_X6 fl_X8_30 rfl dX8_scanNumber_9 rfl ?_
    refine r_icmp_ge_n (tgt := 52) (n := 15) hX j s.2 (by omega) (by omega) dX8_scanNumber_12 (by decide) rfl (fun c12 => absurd c12 (by omega)) (fun c12 => ?_)
    refine r_aload_n (n := 16) hX dX8_scanNumber_15 rfl rfl 1 rfl ?_
    refine r_iload (n := 18) hX dX8_scanNumber_16 rfl 4 rfl ?_
    refine r_callV (n := 21) (av := [.int (nI j)]) hX (ct_X6_byteAt (CxL X) (CxD X) tp tb s (nI j)) ml_X8_36 cv_X6_byteAt rfl (by decide) [4, 5] rfl rfl (by decide) 4 rfl rfl rfl rfl rfl (Nat.le_of_ble_eq_true rfl) dX8_scanNumber_18 rfl (fun r_ es_ h_ l_ => ?_)
    obtain ⟨rfl, rfl⟩ := h_
    show Aw X [tk, k0, k1, k2, tp, tb] [ob 8 [.ref k0, .ref k1, .ref k2], aI (CxD X) 601 t.1, aI (CxD X) 601 (nf t.2.1), aJ (CxD X) 601 t.2.2, ob 6 [.ref tb, .int (nI s.2)], aB (CxD X) 3000 s.1] 21 [(0, .ref tk), (1, .ref tp), (2, .int (nI a)), (3, .int (nI i)), (4, .int (nI j)), (5, .long p)] [.int (tpB s j)]
    refine r_callS (n := 24) (av := [.int (tpB s j)]) hX (ct_X8_isDigit (CxL X) (CxD X) (tpB s j)) ml_X8_50 cs_X8_isDigit rfl (by decide) [] rfl rfl (by decide) rfl (Nat.le_of_ble_eq_true rfl) dX8_scanNumber_21 rfl (fun r_ es_ h_ l_ => ?_)
    obtain ⟨rfl, rfl⟩ := h_
    show Aw X [tk, k0, k1, k2, tp, tb] [ob 8 [.ref k0, .ref k1, .ref k2], aI (CxD X) 601 t.1, aI (CxD X) 601 (nf t.2.1), aJ (CxD X) 601 t.2.2, ob 6 [.ref tb, .int (nI s.2)], aB (CxD X) 3000 s.1] 24 [(0, .ref tk), (1, .ref tp), (2, .int (nI a)), (3, .int (nI i)), (4, .int (nI j)), (5, .long p)] [.int (b2 (isDi (tpB s j)))]
    refine r_if_eq_b (tgt := 52) (n := 27) hX dX8_scanNumber_24 (by decide) rfl (fun c24 => ?_) (fun c24 => ?_)
    · skip
      have hF : (j, p) = tkNu s (s.2 - a) a 0 := by rw [← he]; simp only [tkNu, c24, if_false, Bool.false_eq_true]
      exact ex_X8_scanNumber hX tk k0 k1 k2 tp tb s t a i hn ha hi j p (by omega) haj hF hR
    · skip
      refine r_lload (n := 29) hX dX8_scanNumber_27 rfl 5 rfl ?_
      refine r_ldc2 (n := 32) hX dX8_scanNumber_29 rfl kl_X8_63 ?_
      refine r_lmul (n := 33) hX dX8_scanNumber_32 rfl ?_
      refine r_aload_n (n := 34) hX dX8_scanNumber_33 rfl rfl 1 rfl ?_
      refine r_iload (n := 36) hX dX8_scanNumber_34 rfl 4 rfl ?_
      refine r_callV (n := 39) (av := [.int (nI j)]) hX (ct_X6_byteAt (CxL X) (CxD X) tp tb s (nI j)) ml_X8_36 cv_X6_byteAt rfl (by decide) [4, 5] rfl rfl (by decide) 4 rfl rfl rfl rfl rfl (Nat.le_of_ble_eq_true rfl) dX8_scanNumber_36 rfl (fun r_ es_ h_ l_ => ?_)
      obtain ⟨rfl, rfl⟩ := h_
      show Aw X [tk, k0, k1, k2, tp, tb] [ob 8 [.ref k0, .ref k1, .ref k2], aI (CxD X) 601 t.1, aI (CxD X) 601 (nf t.2.1), aJ (CxD X) 601 t.2.2, ob 6 [.ref tb, .int (nI s.2)], aB (CxD X) 3000 s.1] 39 [(0, .ref tk), (1, .ref tp), (2, .int (nI a)), (3, .int (nI i)), (4, .int (nI j)), (5, .long p)] [.int (tpB s j), .long (p * 10)]
      refine r_bipush (n := 41) hX 48 dX8_scanNumber_39 rfl rfl ?_
      refine r_isub (n := 42) hX dX8_scanNumber_41 rfl ?_
      refine r_i2l (n := 43) hX dX8_scanNumber_42 rfl ?_
      refine r_ladd (n := 44) hX dX8_scanNumber_43 rfl ?_
      refine r_lstore (n := 46) hX [(0, .ref tk), (1, .ref tp), (2, .int (nI a)), (3, .int (nI i)), (4, .int (nI j)), (5, .long ((p * 10) + (Int32.toInt64 ((tpB s j) - 48))))] dX8_scanNumber_44 rfl (by decide) rfl ?_
      refine r_iinc (n := 49) hX (nI (j + 1)) [(0, .ref tk), (1, .ref tp), (2, .int (nI a)), (3, .int (nI i)), (4, .int (nI (j + 1))), (5, .long ((p * 10) + (Int32.toInt64 ((tpB s j) - 48))))] dX8_scanNumber_46 rfl 4 rfl (nI_add _ _) (by decide) rfl ?_
      refine r_goto (tgt := 6) hX dX8_scanNumber_49 (by decide) ?_
      refine ih (j + 1) _ (by omega) (by omega) (by omega) ?_
      rw [← he]
      simp only [tkNu, c24, if_true]
set_option maxHeartbeats 4000000 in
set_option maxRecDepth 100000 in
theorem wk_X8_scanNumber {X : Cx} (hX : Ok X cX8_scanNumber 7 RX8 1) (tk k0 k1 k2 tp tb : Nat) (s : TP) (t : TK) (a i : Nat) (hn : s.2 ≤ 3000) (ha : a < 2 ^ 20) (hi : i < 601) (hR : Rt X (some FieldType.int) (fun r es' => r = some (.int (nI (tkNumb s a i t).1)) ∧ es' = [ob 8 [.ref k0, .ref k1, .ref k2], aI (CxD X) 601 ((tkNumb s a i t).2.1), aI (CxD X) 601 (nf ((tkNumb s a i t).2.2.1)), aJ (CxD X) 601 ((tkNumb s a i t).2.2.2), ob 6 [.ref tb, .int (nI s.2)], aB (CxD X) 3000 s.1]) [tk, k0, k1, k2, tp, tb]) : Aw X [tk, k0, k1, k2, tp, tb] [ob 8 [.ref k0, .ref k1, .ref k2], aI (CxD X) 601 t.1, aI (CxD X) 601 (nf t.2.1), aJ (CxD X) 601 t.2.2, ob 6 [.ref tb, .int (nI s.2)], aB (CxD X) 3000 s.1] 0 [(0, .ref tk), (1, .ref tp), (2, .int (nI a)), (3, .int (nI i))] [] := by
  refine r_iload_n (n := 1) hX dX8_scanNumber_0 rfl rfl 2 rfl ?_
  refine r_istore (n := 3) hX [(0, .ref tk), (1, .ref tp), (2, .int (nI a)), (3, .int (nI i)), (4, .int (nI a))] dX8_scanNumber_1 rfl (by decide) rfl ?_
  refine r_lconst (n := 4) hX 0 dX8_scanNumber_3 rfl rfl ?_
  refine r_lstore (n := 6) hX [(0, .ref tk), (1, .ref tp), (2, .int (nI a)), (3, .int (nI i)), (4, .int (nI a)), (5, .long 0)] dX8_scanNumber_4 rfl (by decide) rfl ?_
  exact lp_X8_scanNumber hX tk k0 k1 k2 tp tb s t a i hn ha hi hR _ a 0 (by omega) rfl (Nat.le_refl a) rfl
theorem ct_X8_scanNumber (l : Launch) (D : va_G) (tk k0 k1 k2 tp tb : Nat) (s : TP) (t : TK) (a i : Nat) (hn : s.2 ≤ 3000) (ha : a < 2 ^ 20) (hi : i < 601) : Ct l D m_X8_scanNumber 1 [.ref tk, .ref tp, .int (nI a), .int (nI i)] [tk, k0, k1, k2, tp, tb] [ob 8 [.ref k0, .ref k1, .ref k2], aI D 601 t.1, aI D 601 (nf t.2.1), aJ D 601 t.2.2, ob 6 [.ref tb, .int (nI s.2)], aB D 3000 s.1] (fun r es' => r = some (.int (nI (tkNumb s a i t).1)) ∧ es' = [ob 8 [.ref k0, .ref k1, .ref k2], aI D 601 ((tkNumb s a i t).2.1), aI D 601 (nf ((tkNumb s a i t).2.2.1)), aJ D 601 ((tkNumb s a i t).2.2.2), ob 6 [.ref tb, .int (nI s.2)], aB D 3000 s.1]) :=
  Ct.ofA (own := RX8) (by decide) rfl (Nat.le_of_ble_eq_true rfl) rfl (fun X hl hD hX hR => by subst hl; subst hD; exact wk_X8_scanNumber hX tk k0 k1 k2 tp tb s t a i hn ha hi hR)
set_option maxHeartbeats 4000000 in
set_option maxRecDepth 100000 in
theorem wk_X8_scanOne {X : Cx} (hX : Ok X cX8_scanOne 6 RX8 2) (tk k0 k1 k2 tp tb : Nat) (s : TP) (t : TK) (a i : Nat) (hn : s.2 ≤ 3000) (ha : a < 2 ^ 20) (hi : i < 601) (hR : Rt X (some FieldType.int) (fun r es' => r = some (.int (nI (tkOne s a i t).1)) ∧ es' = [ob 8 [.ref k0, .ref k1, .ref k2], aI (CxD X) 601 ((tkOne s a i t).2.1), aI (CxD X) 601 (nf ((tkOne s a i t).2.2.1)), aJ (CxD X) 601 ((tkOne s a i t).2.2.2), ob 6 [.ref tb, .int (nI s.2)], aB (CxD X) 3000 s.1]) [tk, k0, k1, k2, tp, tb]) : Aw X [tk, k0, k1, k2, tp, tb] [ob 8 [.ref k0, .ref k1, .ref k2], aI (CxD X) 601 t.1, aI (CxD X) 601 (nf t.2.1), aJ (CxD X) 601 t.2.2, ob 6 [.ref tb, .int (nI s.2)], aB (CxD X) 3000 s.1] 0 [(0, .ref tk), (1, .ref tp), (2, .int (nI a)), (3, .int (nI i))] [] := by
  refine r_aload_n (n := 1) hX dX8_scanOne_0 rfl rfl 1 rfl ?_
  refine r_iload_n (n := 2) hX dX8_scanOne_1 rfl rfl 2 rfl ?_
  refine r_callV (n := 5) (av := [.int (nI a)]) hX (ct_X6_byteAt (CxL X) (CxD X) tp tb s (nI a)) ml_X8_36 cv_X6_byteAt rfl (by decide) [4, 5] rfl rfl (by decide) 4 rfl rfl rfl rfl rfl (Nat.le_of_ble_eq_true rfl) dX8_scanOne_2 rfl (fun r_ es_ h_ l_ => ?_)
  obtain ⟨rfl, rfl⟩ := h_
  show Aw X [tk, k0, k1, k2, tp, tb] [ob 8 [.ref k0, .ref k1, .ref k2], aI (CxD X) 601 t.1, aI (CxD X) 601 (nf t.2.1), aJ (CxD X) 601 t.2.2, ob 6 [.ref tb, .int (nI s.2)], aB (CxD X) 3000 s.1] 5 [(0, .ref tk), (1, .ref tp), (2, .int (nI a)), (3, .int (nI i))] [.int (tpB s a)]
  refine r_istore (n := 7) hX [(0, .ref tk), (1, .ref tp), (2, .int (nI a)), (3, .int (nI i)), (4, .int (tpB s a))] dX8_scanOne_5 rfl (by decide) rfl ?_
  refine r_iload (n := 9) hX dX8_scanOne_7 rfl 4 rfl ?_
  refine r_iconst (n := 10) hX (-1) dX8_scanOne_9 rfl rfl ?_
  refine r_icmp_ne (tgt := 22) (n := 13) hX dX8_scanOne_10 (by decide) rfl (fun c10 => ?_) (fun c10 => ?_)
  · skip
    refine r_iload (n := 24) hX dX8_scanOne_22 rfl 4 rfl ?_
    refine r_callS (n := 27) (av := [.int (tpB s a)]) hX (ct_X8_isLetter (CxL X) (CxD X) (tpB s a)) ml_X8_44 cs_X8_isLetter rfl (by decide) [] rfl rfl (by decide) rfl (Nat.le_of_ble_eq_true rfl) dX8_scanOne_24 rfl (fun r_ es_ h_ l_ => ?_)
    obtain ⟨rfl, rfl⟩ := h_
    show Aw X [tk, k0, k1, k2, tp, tb] [ob 8 [.ref k0, .ref k1, .ref k2], aI (CxD X) 601 t.1, aI (CxD X) 601 (nf t.2.1), aJ (CxD X) 601 t.2.2, ob 6 [.ref tb, .int (nI s.2)], aB (CxD X) 3000 s.1] 27 [(0, .ref tk), (1, .ref tp), (2, .int (nI a)), (3, .int (nI i)), (4, .int (tpB s a))] [.int (b2 (isLe (tpB s a)))]
    refine r_if_eq_b (tgt := 38) (n := 30) hX dX8_scanOne_27 (by decide) rfl (fun c27 => ?_) (fun c27 => ?_)
    · skip
      refine r_iload (n := 40) hX dX8_scanOne_38 rfl 4 rfl ?_
      refine r_callS (n := 43) (av := [.int (tpB s a)]) hX (ct_X8_isDigit (CxL X) (CxD X) (tpB s a)) ml_X8_50 cs_X8_isDigit rfl (by decide) [] rfl rfl (by decide) rfl (Nat.le_of_ble_eq_true rfl) dX8_scanOne_40 rfl (fun r_ es_ h_ l_ => ?_)
      obtain ⟨rfl, rfl⟩ := h_
      show Aw X [tk, k0, k1, k2, tp, tb] [ob 8 [.ref k0, .ref k1, .ref k2], aI (CxD X) 601 t.1, aI (CxD X) 601 (nf t.2.1), aJ (CxD X) 601 t.2.2, ob 6 [.ref tb, .int (nI s.2)], aB (CxD X) 3000 s.1] 43 [(0, .ref tk), (1, .ref tp), (2, .int (nI a)), (3, .int (nI i)), (4, .int (tpB s a))] [.int (b2 (isDi (tpB s a)))]
      refine r_if_eq_b (tgt := 54) (n := 46) hX dX8_scanOne_43 (by decide) rfl (fun c43 => ?_) (fun c43 => ?_)
      · skip
        refine r_aload_n (n := 55) hX dX8_scanOne_54 rfl rfl 0 rfl ?_
        refine r_get (n := 58) hX 0 rfl rfl rfl 0 (by decide) lay_X8 fl_X8_9 rfl dX8_scanOne_55 rfl ?_
        refine r_iload_n (n := 59) hX dX8_scanOne_58 rfl rfl 3 rfl ?_
        refine r_aload_n (n := 60) hX dX8_scanOne_59 rfl rfl 1 rfl ?_
        refine r_iload_n (n := 61) hX dX8_scanOne_60 rfl rfl 2 rfl ?_
        refine r_callS (n := 64) (av := [.ref tp, .int (nI a)]) hX (ct_X8_signAt (CxL X) (CxD X) tp tb s a ha) ml_X8_56 cs_X8_signAt rfl (by decide) [4, 5] rfl rfl (by decide) rfl (Nat.le_of_ble_eq_true rfl) dX8_scanOne_61 rfl (fun r_ es_ h_ l_ => ?_)
        obtain ⟨rfl, rfl⟩ := h_
        show Aw X [tk, k0, k1, k2, tp, tb] [ob 8 [.ref k0, .ref k1, .ref k2], aI (CxD X) 601 t.1, aI (CxD X) 601 (nf t.2.1), aJ (CxD X) 601 t.2.2, ob 6 [.ref tb, .int (nI s.2)], aB (CxD X) 3000 s.1] 64 [(0, .ref tk), (1, .ref tp), (2, .int (nI a)), (3, .int (nI i)), (4, .int (tpB s a))] [.int (tkSign (tpB s a) (tkEqN s a)), .int (nI i), .ref k0]
        refine r_iastn (n := 65) (i := i) hX 1 rfl rfl [ob 8 [.ref k0, .ref k1, .ref k2], aI (CxD X) 601 (upd t.1 i (tkSign (tpB s a) (tkEqN s a))), aI (CxD X) 601 (nf t.2.1), aJ (CxD X) 601 t.2.2, ob 6 [.ref tb, .int (nI s.2)], aB (CxD X) 3000 s.1] (by omega) (by decide) rfl dX8_scanOne_64 rfl ?_
        refine r_aload_n (n := 66) hX dX8_scanOne_65 rfl rfl 0 rfl ?_
        refine r_get (n := 69) hX 0 rfl rfl rfl 0 (by decide) lay_X8 fl_X8_9 rfl dX8_scanOne_66 rfl ?_
        refine r_iload_n (n := 70) hX dX8_scanOne_69 rfl rfl 3 rfl ?_
        refine r_ialdn (n := 71) (i := i) hX 1 rfl rfl (by omega) (by decide) dX8_scanOne_70 rfl ?_
        refine Aw.topi (tkSign (tpB s a) (tkEqN s a)) (pk_us) ?_
        refine r_iconst (n := 72) hX 4 dX8_scanOne_71 rfl rfl ?_
        refine r_icmp_eq (tgt := 96) (n := 75) hX dX8_scanOne_72 (by decide) rfl (fun c72 => ?_) (fun c72 => ?_)
        · skip
          refine r_iconst (n := 97) hX 1 dX8_scanOne_96 rfl rfl ?_
          refine r_goto (tgt := 101) hX dX8_scanOne_97 (by decide) ?_
          refine r_istore (n := 103) hX [(0, .ref tk), (1, .ref tp), (2, .int (nI a)), (3, .int (nI i)), (4, .int (tpB s a)), (5, .int 1)] dX8_scanOne_101 rfl (by decide) rfl ?_
          refine r_iload (n := 105) hX dX8_scanOne_103 rfl 5 rfl ?_
          refine r_if_eq (tgt := 114) (n := 108) hX dX8_scanOne_105 (by decide) rfl (fun h => False.elim (by revert h; decide)) (fun _ => ?_)
          refine r_iload_n (n := 109) hX dX8_scanOne_108 rfl rfl 2 rfl ?_
          refine r_iconst (n := 110) hX 2 dX8_scanOne_109 rfl rfl ?_
          refine r_iadd (n := 111) hX dX8_scanOne_110 rfl ?_
          refine Aw.topi (nI (a + 2)) (nI_add _ _) ?_
          refine r_goto (tgt := 117) hX dX8_scanOne_111 (by decide) ?_
          exact r_ireturn hX hR dX8_scanOne_117 (by rw [tkOne, if_neg c10, if_neg (by rw [c27]; decide), if_neg (by rw [c43]; decide), if_pos (Or.inl c72)]; exact ⟨rfl, rfl⟩)
        · skip
          refine r_aload_n (n := 76) hX dX8_scanOne_75 rfl rfl 0 rfl ?_
          refine r_get (n := 79) hX 0 rfl rfl rfl 0 (by decide) lay_X8 fl_X8_9 rfl dX8_scanOne_76 rfl ?_
          refine r_iload_n (n := 80) hX dX8_scanOne_79 rfl rfl 3 rfl ?_
          refine r_ialdn (n := 81) (i := i) hX 1 rfl rfl (by omega) (by decide) dX8_scanOne_80 rfl ?_
          refine Aw.topi (tkSign (tpB s a) (tkEqN s a)) (pk_us) ?_
          refine r_iconst (n := 82) hX 5 dX8_scanOne_81 rfl rfl ?_
          refine r_icmp_eq (tgt := 96) (n := 85) hX dX8_scanOne_82 (by decide) rfl (fun c82 => ?_) (fun c82 => ?_)
          · skip
            refine r_iconst (n := 97) hX 1 dX8_scanOne_96 rfl rfl ?_
            refine r_goto (tgt := 101) hX dX8_scanOne_97 (by decide) ?_
            refine r_istore (n := 103) hX [(0, .ref tk), (1, .ref tp), (2, .int (nI a)), (3, .int (nI i)), (4, .int (tpB s a)), (5, .int 1)] dX8_scanOne_101 rfl (by decide) rfl ?_
            refine r_iload (n := 105) hX dX8_scanOne_103 rfl 5 rfl ?_
            refine r_if_eq (tgt := 114) (n := 108) hX dX8_scanOne_105 (by decide) rfl (fun h => False.elim (by revert h; decide)) (fun _ => ?_)
            refine r_iload_n (n := 109) hX dX8_scanOne_108 rfl rfl 2 rfl ?_
            refine r_iconst (n := 110) hX 2 dX8_scanOne_109 rfl rfl ?_
            refine r_iadd (n := 111) hX dX8_scanOne_110 rfl ?_
            refine Aw.topi (nI (a + 2)) (nI_add _ _) ?_
            refine r_goto (tgt := 117) hX dX8_scanOne_111 (by decide) ?_
            exact r_ireturn hX hR dX8_scanOne_117 (by rw [tkOne, if_neg c10, if_neg (by rw [c27]; decide), if_neg (by rw [c43]; decide), if_pos (Or.inr (Or.inl c82))]; exact ⟨rfl, rfl⟩)
          · skip
            refine r_aload_n (n := 86) hX dX8_scanOne_85 rfl rfl 0 rfl ?_
            refine r_get (n := 89) hX 0 rfl rfl rfl 0 (by decide) lay_X8 fl_X8_9 rfl dX8_scanOne_86 rfl ?_
            refine r_iload_n (n := 90) hX dX8_scanOne_89 rfl rfl 3 rfl ?_
            refine r_ialdn (n := 91) (i := i) hX 1 rfl rfl (by omega) (by decide) dX8_scanOne_90 rfl ?_
            refine Aw.topi (tkSign (tpB s a) (tkEqN s a)) (pk_us) ?_
            refine r_bipush (n := 93) hX 6 dX8_scanOne_91 rfl rfl ?_
            refine r_icmp_ne (tgt := 100) (n := 96) hX dX8_scanOne_93 (by decide) rfl (fun c93 => ?_) (fun c93 => ?_)
            · skip
              refine r_iconst (n := 101) hX 0 dX8_scanOne_100 rfl rfl ?_
              refine r_istore (n := 103) hX [(0, .ref tk), (1, .ref tp), (2, .int (nI a)), (3, .int (nI i)), (4, .int (tpB s a)), (5, .int 0)] dX8_scanOne_101 rfl (by decide) rfl ?_
              refine r_iload (n := 105) hX dX8_scanOne_103 rfl 5 rfl ?_
              refine r_if_eq (tgt := 114) (n := 108) hX dX8_scanOne_105 (by decide) rfl (fun _ => ?_) (fun h => False.elim (by revert h; decide))
              refine r_iload_n (n := 115) hX dX8_scanOne_114 rfl rfl 2 rfl ?_
              refine r_iconst (n := 116) hX 1 dX8_scanOne_115 rfl rfl ?_
              refine r_iadd (n := 117) hX dX8_scanOne_116 rfl ?_
              refine Aw.topi (nI (a + 1)) (nI_add _ _) ?_
              exact r_ireturn hX hR dX8_scanOne_117 (by rw [tkOne, if_neg c10, if_neg (by rw [c27]; decide), if_neg (by rw [c43]; decide), if_neg (fun z => z.elim c72 (fun z => z.elim c82 c93))]; exact ⟨rfl, rfl⟩)
            · skip
              refine r_iconst (n := 97) hX 1 dX8_scanOne_96 rfl rfl ?_
              refine r_goto (tgt := 101) hX dX8_scanOne_97 (by decide) ?_
              refine r_istore (n := 103) hX [(0, .ref tk), (1, .ref tp), (2, .int (nI a)), (3, .int (nI i)), (4, .int (tpB s a)), (5, .int 1)] dX8_scanOne_101 rfl (by decide) rfl ?_
              refine r_iload (n := 105) hX dX8_scanOne_103 rfl 5 rfl ?_
              refine r_if_eq (tgt := 114) (n := 108) hX dX8_scanOne_105 (by decide) rfl (fun h => False.elim (by revert h; decide)) (fun _ => ?_)
              refine r_iload_n (n := 109) hX dX8_scanOne_108 rfl rfl 2 rfl ?_
              refine r_iconst (n := 110) hX 2 dX8_scanOne_109 rfl rfl ?_
              refine r_iadd (n := 111) hX dX8_scanOne_110 rfl ?_
              refine Aw.topi (nI (a + 2)) (nI_add _ _) ?_
              refine r_goto (tgt := 117) hX dX8_scanOne_111 (by decide) ?_
              exact r_ireturn hX hR dX8_scanOne_117 (by rw [tkOne, if_neg c10, if_neg (by rw [c27]; decide), if_neg (by rw [c43]; decide), if_pos (Or.inr (Or.inr c93))]; exact ⟨rfl, rfl⟩)
      · skip
        refine r_aload_n (n := 47) hX dX8_scanOne_46 rfl rfl 0 rfl ?_
        refine r_aload_n (n := 48) hX dX8_scanOne_47 rfl rfl 1 rfl ?_
        refine r_iload_n (n := 49) hX dX8_scanOne_48 rfl rfl 2 rfl ?_
        refine r_iload_n (n := 50) hX dX8_scanOne_49 rfl rfl 3 rfl ?_
        refine r_callV (n := 53) (av := [.ref tp, .int (nI a), .int (nI i)]) hX (ct_X8_scanNumber (CxL X) (CxD X) tk k0 k1 k2 tp tb s t a i hn ha hi) ml_X8_53 cv_X8_scanNumber rfl (by decide) [0, 1, 2, 3, 4, 5] rfl rfl (by decide) 0 rfl rfl rfl rfl rfl (Nat.le_of_ble_eq_true rfl) dX8_scanOne_50 rfl (fun r_ es_ h_ l_ => ?_)
        obtain ⟨rfl, rfl⟩ := h_
        show Aw X [tk, k0, k1, k2, tp, tb] [ob 8 [.ref k0, .ref k1, .ref k2], aI (CxD X) 601 ((tkNumb s a i t).2.1), aI (CxD X) 601 (nf ((tkNumb s a i t).2.2.1)), aJ (CxD X) 601 ((tkNumb s a i t).2.2.2), ob 6 [.ref tb, .int (nI s.2)], aB (CxD X) 3000 s.1] 53 [(0, .ref tk), (1, .ref tp), (2, .int (nI a)), (3, .int (nI i)), (4, .int (tpB s a))] [.int (nI ((tkNumb s a i t).1))]
        exact r_ireturn hX hR dX8_scanOne_53 (by rw [tkOne, if_neg c10, if_neg (by rw [c27]; decide), if_pos c43]; exact ⟨rfl, rfl⟩)
    · skip
      refine r_aload_n (n := 31) hX dX8_scanOne_30 rfl rfl 0 rfl ?_
      refine r_aload_n (n := 32) hX dX8_scanOne_31 rfl rfl 1 rfl ?_
      refine r_iload_n (n := 33) hX dX8_scanOne_32 rfl rfl 2 rfl ?_
      refine r_iload_n (n := 34) hX dX8_scanOne_33 rfl rfl 3 rfl ?_
      refine r_callV (n := 37) (av := [.ref tp, .int (nI a), .int (nI i)]) hX (ct_X8_scanName (CxL X) (CxD X) tk k0 k1 k2 tp tb s t a i hn ha hi) ml_X8_47 cv_X8_scanName rfl (by decide) [0, 1, 2, 3, 4, 5] rfl rfl (by decide) 0 rfl rfl rfl rfl rfl (Nat.le_of_ble_eq_true rfl) dX8_scanOne_34 rfl (fun r_ es_ h_ l_ => ?_)
      obtain ⟨rfl, rfl⟩ := h_
      show Aw X [tk, k0, k1, k2, tp, tb] [ob 8 [.ref k0, .ref k1, .ref k2], aI (CxD X) 601 ((tkName s a i t).2.1), aI (CxD X) 601 (nf ((tkName s a i t).2.2.1)), aJ (CxD X) 601 ((tkName s a i t).2.2.2), ob 6 [.ref tb, .int (nI s.2)], aB (CxD X) 3000 s.1] 37 [(0, .ref tk), (1, .ref tp), (2, .int (nI a)), (3, .int (nI i)), (4, .int (tpB s a))] [.int (nI ((tkName s a i t).1))]
      exact r_ireturn hX hR dX8_scanOne_37 (by rw [tkOne, if_neg c10, if_pos c27]; exact ⟨rfl, rfl⟩)
  · skip
    refine r_aload_n (n := 14) hX dX8_scanOne_13 rfl rfl 0 rfl ?_
    refine r_get (n := 17) hX 0 rfl rfl rfl 0 (by decide) lay_X8 fl_X8_9 rfl dX8_scanOne_14 rfl ?_
    refine r_iload_n (n := 18) hX dX8_scanOne_17 rfl rfl 3 rfl ?_
    refine r_iconst (n := 19) hX 0 dX8_scanOne_18 rfl rfl ?_
    refine r_iastn (n := 20) (i := i) hX 1 rfl rfl [ob 8 [.ref k0, .ref k1, .ref k2], aI (CxD X) 601 (upd t.1 i 0), aI (CxD X) 601 (nf t.2.1), aJ (CxD X) 601 t.2.2, ob 6 [.ref tb, .int (nI s.2)], aB (CxD X) 3000 s.1] (by omega) (by decide) rfl dX8_scanOne_19 rfl ?_
    refine r_iload_n (n := 21) hX dX8_scanOne_20 rfl rfl 2 rfl ?_
    exact r_ireturn hX hR dX8_scanOne_21 (by rw [tkOne, if_pos c10]; exact ⟨rfl, rfl⟩)
theorem ct_X8_scanOne (l : Launch) (D : va_G) (tk k0 k1 k2 tp tb : Nat) (s : TP) (t : TK) (a i : Nat) (hn : s.2 ≤ 3000) (ha : a < 2 ^ 20) (hi : i < 601) : Ct l D m_X8_scanOne 2 [.ref tk, .ref tp, .int (nI a), .int (nI i)] [tk, k0, k1, k2, tp, tb] [ob 8 [.ref k0, .ref k1, .ref k2], aI D 601 t.1, aI D 601 (nf t.2.1), aJ D 601 t.2.2, ob 6 [.ref tb, .int (nI s.2)], aB D 3000 s.1] (fun r es' => r = some (.int (nI (tkOne s a i t).1)) ∧ es' = [ob 8 [.ref k0, .ref k1, .ref k2], aI D 601 ((tkOne s a i t).2.1), aI D 601 (nf ((tkOne s a i t).2.2.1)), aJ D 601 ((tkOne s a i t).2.2.2), ob 6 [.ref tb, .int (nI s.2)], aB D 3000 s.1]) :=
  Ct.ofA (own := RX8) (by decide) rfl (Nat.le_of_ble_eq_true rfl) rfl (fun X hl hD hX hR => by subst hl; subst hD; exact wk_X8_scanOne hX tk k0 k1 k2 tp tb s t a i hn ha hi hR)

theorem tkBlk_le (s : TP) (a : Nat) : tkBlk s a ≤ max a s.2 := by
  have := tkBB_le s (s.2 - a) a
  unfold tkBlk; omega
theorem tkOne_le (s : TP) (a i : Nat) (t : TK) : (tkOne s a i t).1 ≤ max (a + 2) s.2 := by
  have h1 := tkNm_le s (s.2 - a) a 0
  have h2 := tkNu_le s (s.2 - a) a 0
  unfold tkOne tkName tkNumb
  split
  · dsimp only; omega
  · split
    · dsimp only; omega
    · split
      · dsimp only; omega
      · dsimp only; split <;> omega

set_option maxHeartbeats 4000000 in
set_option maxRecDepth 100000 in
theorem lp_X8_scan {X : Cx} (hX : Ok X cX8_scan 5 RX8 3) (tk k0 k1 k2 tp tb : Nat) (s : TP) (t : TK) (hn : s.2 ≤ 3000) (hR : Rt X (none) (fun r es' => r = none ∧ es' = [ob 8 [.ref k0, .ref k1, .ref k2], aI (CxD X) 601 ((tkScan s 601 0 0 t).1), aI (CxD X) 601 (nf ((tkScan s 601 0 0 t).2.1)), aJ (CxD X) 601 ((tkScan s 601 0 0 t).2.2), ob 6 [.ref tb, .int (nI s.2)], aB (CxD X) 3000 s.1]) [tk, k0, k1, k2, tp, tb]) : ∀ (m i a : Nat) (u : TK), i + m = 601 → a ≤ 3000 + 2 * i → tkScan s m i a u = tkScan s 601 0 0 t → Aw X [tk, k0, k1, k2, tp, tb] [ob 8 [.ref k0, .ref k1, .ref k2], aI (CxD X) 601 u.1, aI (CxD X) 601 (nf u.2.1), aJ (CxD X) 601 u.2.2, ob 6 [.ref tb, .int (nI s.2)], aB (CxD X) 3000 s.1] 7 [(0, .ref tk), (1, .ref tp), (2, .int (nI a)), (3, .int 1), (4, .int (nI i))] [] := by
  intro m
  induction m with
  | zero =>
    intro i a u hi ha he
    refine r_iload (n := 9) hX dX8_scan_7 rfl 4 rfl ?_
    refine r_sipush (n := 12) hX 600 dX8_scan_9 rfl rfl ?_
    refine r_icmp_gt_n (tgt := 75) (n := 15) hX i 600 (by omega) (by omega) dX8_scan_12 (by decide) rfl (fun c12 => ?_) (fun c12 => absurd c12 (by omega))
    exact r_return hX hR dX8_scan_75 (by have he : u = tkScan s 601 0 0 t := he; rw [← he]; exact ⟨rfl, rfl⟩)
  | succ m ih =>
    intro i a u hi ha he
    refine r_iload (n := 9) hX dX8_scan_7 rfl 4 rfl ?_
    refine r_sipush (n := 12) hX 600 dX8_scan_9 rfl rfl ?_
    refine r_icmp_gt_n (tgt := 75) (n := 15) hX i 600 (by omega) (by omega) dX8_scan_12 (by decide) rfl (fun c12 => absurd c12 (by omega)) (fun c12 => ?_)
    refine r_iload_n (n := 16) hX dX8_scan_15 rfl rfl 3 rfl ?_
    refine r_if_eq (tgt := 75) (n := 19) hX dX8_scan_16 (by decide) rfl (fun h => False.elim (by revert h; decide)) (fun _ => ?_)
    refine r_aload_n (n := 20) hX dX8_scan_19 rfl rfl 1 rfl ?_
    refine r_iload_n (n := 21) hX dX8_scan_20 rfl rfl 2 rfl ?_
    refine r_callS (n := 24) (av := [.ref tp, .int (nI a)]) hX (ct_X8_behindBlanks (CxL X) (CxD X) tp tb s a hn (by omega)) ml_X8_22 cs_X8_behindBlanks rfl (by decide) [4, 5] rfl rfl (by decide) rfl (Nat.le_of_ble_eq_true rfl) dX8_scan_21 rfl (fun r_ es_ h_ l_ => ?_)
    obtain ⟨rfl, rfl⟩ := h_
    show Aw X [tk, k0, k1, k2, tp, tb] [ob 8 [.ref k0, .ref k1, .ref k2], aI (CxD X) 601 u.1, aI (CxD X) 601 (nf u.2.1), aJ (CxD X) 601 u.2.2, ob 6 [.ref tb, .int (nI s.2)], aB (CxD X) 3000 s.1] 24 [(0, .ref tk), (1, .ref tp), (2, .int (nI a)), (3, .int 1), (4, .int (nI i))] [.int (nI (tkBlk s a))]
    refine r_istore_n (n := 25) hX [(0, .ref tk), (1, .ref tp), (2, .int (nI (tkBlk s a))), (3, .int 1), (4, .int (nI i))] dX8_scan_24 rfl rfl (by decide) rfl ?_
    refine r_aload_n (n := 26) hX dX8_scan_25 rfl rfl 0 rfl ?_
    refine r_get (n := 29) hX 0 rfl rfl rfl 1 (by decide) lay_X8 fl_X8_15 rfl dX8_scan_26 rfl ?_
    refine r_iload (n := 31) hX dX8_scan_29 rfl 4 rfl ?_
    refine r_iload_n (n := 32) hX dX8_scan_31 rfl rfl 2 rfl ?_
    refine r_iastNn (n := 33) (i := i) hX 2 rfl rfl (tkBlk s a) [ob 8 [.ref k0, .ref k1, .ref k2], aI (CxD X) 601 u.1, aI (CxD X) 601 (nf (va_up u.2.1 i (tkBlk s a))), aJ (CxD X) 601 u.2.2, ob 6 [.ref tb, .int (nI s.2)], aB (CxD X) 3000 s.1] (by omega) (by decide) rfl dX8_scan_32 rfl ?_
    refine r_aload_n (n := 34) hX dX8_scan_33 rfl rfl 0 rfl ?_
    refine r_aload_n (n := 35) hX dX8_scan_34 rfl rfl 1 rfl ?_
    refine r_iload_n (n := 36) hX dX8_scan_35 rfl rfl 2 rfl ?_
    refine r_iload (n := 38) hX dX8_scan_36 rfl 4 rfl ?_
    have hbl := tkBlk_le s a
    have hon := tkOne_le s (tkBlk s a) i (u.1, va_up u.2.1 i (tkBlk s a), u.2.2)
    refine r_callV (n := 41) (av := [.ref tp, .int (nI (tkBlk s a)), .int (nI i)]) hX (ct_X8_scanOne (CxL X) (CxD X) tk k0 k1 k2 tp tb s (u.1, va_up u.2.1 i (tkBlk s a), u.2.2) (tkBlk s a) i hn (by omega) (by omega)) ml_X8_26 cv_X8_scanOne rfl (by decide) [0, 1, 2, 3, 4, 5] rfl rfl (by decide) 0 rfl rfl rfl rfl rfl (Nat.le_of_ble_eq_true rfl) dX8_scan_38 rfl (fun r_ es_ h_ l_ => ?_)
    obtain ⟨rfl, rfl⟩ := h_
    show Aw X [tk, k0, k1, k2, tp, tb] [ob 8 [.ref k0, .ref k1, .ref k2], aI (CxD X) 601 ((tkOne s (tkBlk s a) i (u.1, va_up u.2.1 i (tkBlk s a), u.2.2)).2.1), aI (CxD X) 601 (nf ((tkOne s (tkBlk s a) i (u.1, va_up u.2.1 i (tkBlk s a), u.2.2)).2.2.1)), aJ (CxD X) 601 ((tkOne s (tkBlk s a) i (u.1, va_up u.2.1 i (tkBlk s a), u.2.2)).2.2.2), ob 6 [.ref tb, .int (nI s.2)], aB (CxD X) 3000 s.1] 41 [(0, .ref tk), (1, .ref tp), (2, .int (nI (tkBlk s a))), (3, .int 1), (4, .int (nI i))] [.int (nI ((tkOne s (tkBlk s a) i (u.1, va_up u.2.1 i (tkBlk s a), u.2.2)).1))]
    refine r_istore_n (n := 42) hX [(0, .ref tk), (1, .ref tp), (2, .int (nI ((tkOne s (tkBlk s a) i (u.1, va_up u.2.1 i (tkBlk s a), u.2.2)).1))), (3, .int 1), (4, .int (nI i))] dX8_scan_41 rfl rfl (by decide) rfl ?_
    refine r_aload_n (n := 43) hX dX8_scan_42 rfl rfl 0 rfl ?_
    refine r_get (n := 46) hX 0 rfl rfl rfl 0 (by decide) lay_X8 fl_X8_9 rfl dX8_scan_43 rfl ?_
    refine r_iload (n := 48) hX dX8_scan_46 rfl 4 rfl ?_
    refine r_ialdn (n := 49) (i := i) hX 1 rfl rfl (by omega) (by decide) dX8_scan_48 rfl ?_
    refine r_if_eq (tgt := 67) (n := 52) hX dX8_scan_49 (by decide) rfl (fun c49 => ?_) (fun c49 => ?_)
    · skip
      refine r_iconst (n := 68) hX 0 dX8_scan_67 rfl rfl ?_
      refine r_istore_n (n := 69) hX [(0, .ref tk), (1, .ref tp), (2, .int (nI ((tkOne s (tkBlk s a) i (u.1, va_up u.2.1 i (tkBlk s a), u.2.2)).1))), (3, .int 0), (4, .int (nI i))] dX8_scan_68 rfl rfl (by decide) rfl ?_
      refine r_iinc (n := 72) hX (nI (i + 1)) [(0, .ref tk), (1, .ref tp), (2, .int (nI ((tkOne s (tkBlk s a) i (u.1, va_up u.2.1 i (tkBlk s a), u.2.2)).1))), (3, .int 0), (4, .int (nI (i + 1)))] dX8_scan_69 rfl 4 rfl (nI_add _ _) (by decide) rfl ?_
      refine r_goto (tgt := 7) hX dX8_scan_72 (by decide) ?_
      refine r_iload (n := 9) hX dX8_scan_7 rfl 4 rfl ?_
      refine r_sipush (n := 12) hX 600 dX8_scan_9 rfl rfl ?_
      refine r_icmp_gt_n (tgt := 75) (n := 15) hX (i + 1) 600 (by omega) (by omega) dX8_scan_12 (by decide) rfl (fun c12 => ?_) (fun c12 => ?_)
      · skip
        exact r_return hX hR dX8_scan_75 (by have he : (tkOne s (tkBlk s a) i (u.1, va_up u.2.1 i (tkBlk s a), u.2.2)).2 = tkScan s 601 0 0 t := (by rw [← he]; simp only [tkScan, c49, true_or, if_true]); rw [← he]; exact ⟨rfl, rfl⟩)
      · skip
        refine r_iload_n (n := 16) hX dX8_scan_15 rfl rfl 3 rfl ?_
        refine r_if_eq (tgt := 75) (n := 19) hX dX8_scan_16 (by decide) rfl (fun _ => ?_) (fun h => False.elim (by revert h; decide))
        exact r_return hX hR dX8_scan_75 (by have he : (tkOne s (tkBlk s a) i (u.1, va_up u.2.1 i (tkBlk s a), u.2.2)).2 = tkScan s 601 0 0 t := (by rw [← he]; simp only [tkScan, c49, true_or, if_true]); rw [← he]; exact ⟨rfl, rfl⟩)
    · skip
      refine r_aload_n (n := 53) hX dX8_scan_52 rfl rfl 0 rfl ?_
      refine r_get (n := 56) hX 0 rfl rfl rfl 0 (by decide) lay_X8 fl_X8_9 rfl dX8_scan_53 rfl ?_
      refine r_iload (n := 58) hX dX8_scan_56 rfl 4 rfl ?_
      refine r_ialdn (n := 59) (i := i) hX 1 rfl rfl (by omega) (by decide) dX8_scan_58 rfl ?_
      refine r_iconst (n := 60) hX 1 dX8_scan_59 rfl rfl ?_
      refine r_icmp_eq (tgt := 67) (n := 63) hX dX8_scan_60 (by decide) rfl (fun c60 => ?_) (fun c60 => ?_)
      · skip
        refine r_iconst (n := 68) hX 0 dX8_scan_67 rfl rfl ?_
        refine r_istore_n (n := 69) hX [(0, .ref tk), (1, .ref tp), (2, .int (nI ((tkOne s (tkBlk s a) i (u.1, va_up u.2.1 i (tkBlk s a), u.2.2)).1))), (3, .int 0), (4, .int (nI i))] dX8_scan_68 rfl rfl (by decide) rfl ?_
        refine r_iinc (n := 72) hX (nI (i + 1)) [(0, .ref tk), (1, .ref tp), (2, .int (nI ((tkOne s (tkBlk s a) i (u.1, va_up u.2.1 i (tkBlk s a), u.2.2)).1))), (3, .int 0), (4, .int (nI (i + 1)))] dX8_scan_69 rfl 4 rfl (nI_add _ _) (by decide) rfl ?_
        refine r_goto (tgt := 7) hX dX8_scan_72 (by decide) ?_
        refine r_iload (n := 9) hX dX8_scan_7 rfl 4 rfl ?_
        refine r_sipush (n := 12) hX 600 dX8_scan_9 rfl rfl ?_
        refine r_icmp_gt_n (tgt := 75) (n := 15) hX (i + 1) 600 (by omega) (by omega) dX8_scan_12 (by decide) rfl (fun c12 => ?_) (fun c12 => ?_)
        · skip
          exact r_return hX hR dX8_scan_75 (by have he : (tkOne s (tkBlk s a) i (u.1, va_up u.2.1 i (tkBlk s a), u.2.2)).2 = tkScan s 601 0 0 t := (by rw [← he]; simp only [tkScan, c60, or_true, if_true]); rw [← he]; exact ⟨rfl, rfl⟩)
        · skip
          refine r_iload_n (n := 16) hX dX8_scan_15 rfl rfl 3 rfl ?_
          refine r_if_eq (tgt := 75) (n := 19) hX dX8_scan_16 (by decide) rfl (fun _ => ?_) (fun h => False.elim (by revert h; decide))
          exact r_return hX hR dX8_scan_75 (by have he : (tkOne s (tkBlk s a) i (u.1, va_up u.2.1 i (tkBlk s a), u.2.2)).2 = tkScan s 601 0 0 t := (by rw [← he]; simp only [tkScan, c60, or_true, if_true]); rw [← he]; exact ⟨rfl, rfl⟩)
      · skip
        refine r_iconst (n := 64) hX 1 dX8_scan_63 rfl rfl ?_
        refine r_goto (tgt := 68) hX dX8_scan_64 (by decide) ?_
        refine r_istore_n (n := 69) hX [(0, .ref tk), (1, .ref tp), (2, .int (nI ((tkOne s (tkBlk s a) i (u.1, va_up u.2.1 i (tkBlk s a), u.2.2)).1))), (3, .int 1), (4, .int (nI i))] dX8_scan_68 rfl rfl (by decide) rfl ?_
        refine r_iinc (n := 72) hX (nI (i + 1)) [(0, .ref tk), (1, .ref tp), (2, .int (nI ((tkOne s (tkBlk s a) i (u.1, va_up u.2.1 i (tkBlk s a), u.2.2)).1))), (3, .int 1), (4, .int (nI (i + 1)))] dX8_scan_69 rfl 4 rfl (nI_add _ _) (by decide) rfl ?_
        refine r_goto (tgt := 7) hX dX8_scan_72 (by decide) ?_
        refine ih (i + 1) (tkOne s (tkBlk s a) i (u.1, va_up u.2.1 i (tkBlk s a), u.2.2)).1 (tkOne s (tkBlk s a) i (u.1, va_up u.2.1 i (tkBlk s a), u.2.2)).2 (by omega) (by omega) ?_
        rw [← he]
        simp only [tkScan, c49, c60, or_self, if_false]
set_option maxHeartbeats 4000000 in
set_option maxRecDepth 100000 in
theorem wk_X8_scan {X : Cx} (hX : Ok X cX8_scan 5 RX8 3) (tk k0 k1 k2 tp tb : Nat) (s : TP) (t : TK) (hn : s.2 ≤ 3000) (hR : Rt X (none) (fun r es' => r = none ∧ es' = [ob 8 [.ref k0, .ref k1, .ref k2], aI (CxD X) 601 ((tkScan s 601 0 0 t).1), aI (CxD X) 601 (nf ((tkScan s 601 0 0 t).2.1)), aJ (CxD X) 601 ((tkScan s 601 0 0 t).2.2), ob 6 [.ref tb, .int (nI s.2)], aB (CxD X) 3000 s.1]) [tk, k0, k1, k2, tp, tb]) : Aw X [tk, k0, k1, k2, tp, tb] [ob 8 [.ref k0, .ref k1, .ref k2], aI (CxD X) 601 t.1, aI (CxD X) 601 (nf t.2.1), aJ (CxD X) 601 t.2.2, ob 6 [.ref tb, .int (nI s.2)], aB (CxD X) 3000 s.1] 0 [(0, .ref tk), (1, .ref tp)] [] := by
  refine r_iconst (n := 1) hX 0 dX8_scan_0 rfl rfl ?_
  refine r_istore_n (n := 2) hX [(0, .ref tk), (1, .ref tp), (2, .int 0)] dX8_scan_1 rfl rfl (by decide) rfl ?_
  refine r_iconst (n := 3) hX 1 dX8_scan_2 rfl rfl ?_
  refine r_istore_n (n := 4) hX [(0, .ref tk), (1, .ref tp), (2, .int 0), (3, .int 1)] dX8_scan_3 rfl rfl (by decide) rfl ?_
  refine r_iconst (n := 5) hX 0 dX8_scan_4 rfl rfl ?_
  refine r_istore (n := 7) hX [(0, .ref tk), (1, .ref tp), (2, .int 0), (3, .int 1), (4, .int 0)] dX8_scan_5 rfl (by decide) rfl ?_
  exact lp_X8_scan hX tk k0 k1 k2 tp tb s t hn hR 601 0 0 t (by omega) (by omega) rfl
theorem ct_X8_scan (l : Launch) (D : va_G) (tk k0 k1 k2 tp tb : Nat) (s : TP) (t : TK) (hn : s.2 ≤ 3000) : Ct l D m_X8_scan 3 [.ref tk, .ref tp] [tk, k0, k1, k2, tp, tb] [ob 8 [.ref k0, .ref k1, .ref k2], aI D 601 t.1, aI D 601 (nf t.2.1), aJ D 601 t.2.2, ob 6 [.ref tb, .int (nI s.2)], aB D 3000 s.1] (fun r es' => r = none ∧ es' = [ob 8 [.ref k0, .ref k1, .ref k2], aI D 601 ((tkScan s 601 0 0 t).1), aI D 601 (nf ((tkScan s 601 0 0 t).2.1)), aJ D 601 ((tkScan s 601 0 0 t).2.2), ob 6 [.ref tb, .int (nI s.2)], aB D 3000 s.1]) :=
  Ct.ofA (own := RX8) (by decide) rfl (Nat.le_of_ble_eq_true rfl) rfl (fun X hl hD hX hR => by subst hl; subst hD; exact wk_X8_scan hX tk k0 k1 k2 tp tb s t hn hR)
