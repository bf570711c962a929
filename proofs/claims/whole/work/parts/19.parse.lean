
def zAddT (z : PZ) (nm : Int64) : PZ := (z.1, txAddT z.2 nm)
def zAddR (z : PZ) (b : Bool) (x y : Nat) : PZ := (z.1, txRule z.2 b x y)
theorem zAddT_ok {z : PZ} {nm : Int64} (h : zOk z) : zOk (zAddT z nm) := by
  have k : txSize (txAddT z.2 nm) = txSize z.2 ∧ txRules (txAddT z.2 nm) = txRules z.2 ∧ (txTraits z.2 ≤ 8 → txTraits (txAddT z.2 nm) ≤ 8) := by
    unfold txAddT; split
    · exact ⟨rfl, rfl, id⟩
    · exact ⟨rfl, rfl, fun _ => by show txTraits z.2 + 1 ≤ 8; omega⟩
  exact ⟨h.1, h.2.1, (show txSize (txAddT z.2 nm) ≤ 600 by rw [k.1]; exact h.2.2.1), (show txRules (txAddT z.2 nm) ≤ 20 by rw [k.2.1]; exact h.2.2.2.1), k.2.2 h.2.2.2.2⟩
theorem zAddR_ok {z : PZ} {b : Bool} {x y : Nat} (h : zOk z) : zOk (zAddR z b x y) := by
  have k : txSize (txRule z.2 b x y) = txSize z.2 ∧ txTraits (txRule z.2 b x y) = txTraits z.2 ∧ (txRules z.2 ≤ 20 → txRules (txRule z.2 b x y) ≤ 20) := by
    unfold txRule; split
    · exact ⟨rfl, rfl, id⟩
    · exact ⟨rfl, rfl, fun _ => by show txRules z.2 + 1 ≤ 20; omega⟩
  exact ⟨h.1, h.2.1, (show txSize (txRule z.2 b x y) ≤ 600 by rw [k.1]; exact h.2.2.1), k.2.2 h.2.2.2.1, (show txTraits (txRule z.2 b x y) ≤ 8 by rw [k.2.1]; exact h.2.2.2.2)⟩
def rTr1 (u : TK) (z : PZ) : PZ := pExp u (if txTraits z.2 = 8 then pFail u z 2 else z) 10
def rTr2 (u : TK) (z : PZ) : PZ := if pSees u z 2 = true then zAddT (if txNamed z.2 (u.2.2 (zAt z)) = none then z else pFailL u z 3) (u.2.2 (zAt z)) else z
def rTrD (u : TK) (z : PZ) : PZ := pExp u (pExp u (rTr2 u (rTr1 u z)) 2) 59
def rRu1 (u : TK) (z : PZ) : PZ := if txRules z.2 = 20 then pFail u z 2 else z
def rRuB (u : TK) (z : PZ) : PZ := zAddR (pExp u (rCond u 8 (pExp u z 11)) 59) true (txSize z.2) (txSize z.2)
def rRuI (u : TK) (z : PZ) : PZ := if pAccB u z 13 = true then rCond u 8 (pAccZ u z 13) else pAccZ u z 13
def rRuC (u : TK) (z : PZ) : PZ := zAddR (pExp u (rRuI u (rSum u 8 (pExp u z 12))) 59) false (txSize z.2) (txSize (rSum u 8 (pExp u z 12)).2)
def rRuD (u : TK) (z : PZ) : PZ := if pSees u (rRu1 u z) 11 = true then rRuB u (rRu1 u z) else rRuC u (rRu1 u z)
theorem rTr1_ok {u : TK} {z : PZ} (h : zOk z) : zOk (rTr1 u z) := by
  unfold rTr1; refine pExp_pr.1 ?_
  split
  · exact pFail_pr.1 h
  · exact h
theorem rTr2_ok {u : TK} {z : PZ} (h : zOk z) : zOk (rTr2 u z) := by
  unfold rTr2
  split
  · refine zAddT_ok ?_
    split
    · exact h
    · exact pFailL_pr.1 h
  · exact h
theorem rTrD_ok {u : TK} {z : PZ} (h : zOk z) : zOk (rTrD u z) := pExp_pr.1 (pExp_pr.1 (rTr2_ok (rTr1_ok h)))
theorem rRu1_ok {u : TK} {z : PZ} (h : zOk z) : zOk (rRu1 u z) := by
  unfold rRu1; split
  · exact pFail_pr.1 h
  · exact h
theorem rRuI_ok {u : TK} {z : PZ} (h : zOk z) : zOk (rRuI u z) := by
  unfold rRuI; split
  · exact (rCond_pr 8 _).1 (pAccZ_pr.1 h)
  · exact pAccZ_pr.1 h
theorem rRuD_ok {u : TK} {z : PZ} (h : zOk z) : zOk (rRuD u z) := by
  unfold rRuD rRuB rRuC; split
  · exact zAddR_ok (pExp_pr.1 ((rCond_pr 8 _).1 (pExp_pr.1 (rRu1_ok h))))
  · exact zAddR_ok (pExp_pr.1 (rRuI_ok ((rSum_pr 8 _).1 (pExp_pr.1 (rRu1_ok h)))))
def pTr (u : TK) : Nat → PZ → PZ
  | 0, y => y
  | m + 1, y => if pSees u y 10 = true then pTr u m (rTrD u y) else y
def pRu (u : TK) : Nat → PZ → PZ
  | 0, y => y
  | m + 1, y => if pSees u y 11 = true ∨ pSees u y 12 = true then pRu u m (rRuD u y) else y
def pZ0 (z : PZ) : PZ := ((0, 0, 0, 0, -1, zFaultP z), txClear z.2)
def pEn1 (u : TK) (y : PZ) : PZ := if pSees u y 0 = true then y else pFail u y 1
def pEn2 (y : PZ) : PZ := if zFault y = 0 then ((zAt y, zOpen y, zLate y, zLate y, zLateP y, zLateP y), y.2) else y
def pParse (u : TK) (z : PZ) : PZ := pEn2 (pEn1 u (pRu u 21 (pTr u 9 (pZ0 z))))
theorem pZ0_ok (z : PZ) : zOk (pZ0 z) := ⟨Nat.zero_le _, Nat.zero_le _, Nat.zero_le _, Nat.zero_le _, Nat.zero_le _⟩

set_option maxHeartbeats 1000000 in
set_option maxRecDepth 100000 in
theorem wk_X4_readTrait {X : Cx} (hX : Ok X cX4_readTrait 3 RX4 2) (pa tk k0 k1 k2 tx x0 x1 x2 x3 x4 x5 : Nat) (u : TK) (z : PZ) (hz : zOk z) (hR : Rt X (none) (fun r es' => r = none ∧ es' = [ob 4 [.ref tk, .ref tx, .int (nI (zAt (rTrD u z))), .int (nI (zOpen (rTrD u z))), .int (zFault (rTrD u z)), .int (zLate (rTrD u z)), .int (zLateP (rTrD u z)), .int (zFaultP (rTrD u z))], ob 8 [.ref k0, .ref k1, .ref k2], aI (CxD X) 601 u.1, aI (CxD X) 601 (nf u.2.1), aJ (CxD X) 601 u.2.2, ob 7 [.ref x0, .ref x1, .ref x2, .ref x3, .ref x4, .ref x5, .int (nI (txSize ((rTrD u z).2))), .int (nI (txRules ((rTrD u z).2))), .int (nI (txTraits ((rTrD u z).2)))], aI (CxD X) 600 ((rTrD u z).2.1), aZ (CxD X) 20 (zf ((rTrD u z).2.2.1)), aI (CxD X) 20 (nf ((rTrD u z).2.2.2.1)), aI (CxD X) 20 (nf ((rTrD u z).2.2.2.2.1)), aI (CxD X) 20 (nf ((rTrD u z).2.2.2.2.2.1)), aJ (CxD X) 8 ((rTrD u z).2.2.2.2.2.2.1)]) [pa, tk, k0, k1, k2, tx, x0, x1, x2, x3, x4, x5]) : Aw X [pa, tk, k0, k1, k2, tx, x0, x1, x2, x3, x4, x5] [ob 4 [.ref tk, .ref tx, .int (nI (zAt z)), .int (nI (zOpen z)), .int (zFault z), .int (zLate z), .int (zLateP z), .int (zFaultP z)], ob 8 [.ref k0, .ref k1, .ref k2], aI (CxD X) 601 u.1, aI (CxD X) 601 (nf u.2.1), aJ (CxD X) 601 u.2.2, ob 7 [.ref x0, .ref x1, .ref x2, .ref x3, .ref x4, .ref x5, .int (nI (txSize z.2)), .int (nI (txRules z.2)), .int (nI (txTraits z.2))], aI (CxD X) 600 z.2.1, aZ (CxD X) 20 (zf z.2.2.1), aI (CxD X) 20 (nf z.2.2.2.1), aI (CxD X) 20 (nf z.2.2.2.2.1), aI (CxD X) 20 (nf z.2.2.2.2.2.1), aJ (CxD X) 8 z.2.2.2.2.2.2.1] 0 [(0, .ref pa)] [] := by
  have ho := hz.2.2.2.2
  refine r_aload_n (n := 1) hX dX4_readTrait_0 rfl rfl 0 rfl ?_
  refine r_get (n := 4) hX 0 rfl rfl rfl 1 (by decide) lay_X4 fl_X4_21 rfl dX4_readTrait_1 rfl ?_
  refine r_get (n := 7) hX 5 rfl rfl rfl 8 (by decide) lay_X7 fl_X4_65 rfl dX4_readTrait_4 rfl ?_
  refine r_bipush (n := 9) hX 8 dX4_readTrait_7 rfl rfl ?_
  refine r_icmp_ne_n (tgt := 17) (n := 12) hX (txTraits z.2) 8 (by omega) (by omega) dX4_readTrait_9 (by decide) rfl (fun c9 => ?_) (fun c9 => ?_)
  · skip
    refine r_aload_n (n := 18) hX dX4_readTrait_17 rfl rfl 0 rfl ?_
    refine r_bipush (n := 20) hX 10 dX4_readTrait_18 rfl rfl ?_
    refine r_callV (n := 23) (av := [.int 10]) hX (ct_X4_expect (CxL X) (CxD X) pa tk k0 k1 k2 tx x0 x1 x2 x3 x4 x5 u z 10 hz) ml_X4_68 cv_X4_expect rfl (by decide) [0, 1, 2, 3, 4, 5, 6, 7, 8, 9, 10, 11] rfl rfl (by decide) 0 rfl rfl rfl rfl rfl (Nat.le_of_ble_eq_true rfl) dX4_readTrait_20 rfl (fun r_ es_ h_ l_ => ?_)
    obtain ⟨rfl, rfl⟩ := h_
    show Aw X [pa, tk, k0, k1, k2, tx, x0, x1, x2, x3, x4, x5] [ob 4 [.ref tk, .ref tx, .int (nI (zAt (pExp u z 10))), .int (nI (zOpen (pExp u z 10))), .int (zFault (pExp u z 10)), .int (zLate (pExp u z 10)), .int (zLateP (pExp u z 10)), .int (zFaultP (pExp u z 10))], ob 8 [.ref k0, .ref k1, .ref k2], aI (CxD X) 601 u.1, aI (CxD X) 601 (nf u.2.1), aJ (CxD X) 601 u.2.2, ob 7 [.ref x0, .ref x1, .ref x2, .ref x3, .ref x4, .ref x5, .int (nI (txSize ((pExp u z 10).2))), .int (nI (txRules ((pExp u z 10).2))), .int (nI (txTraits ((pExp u z 10).2)))], aI (CxD X) 600 ((pExp u z 10).2.1), aZ (CxD X) 20 (zf ((pExp u z 10).2.2.1)), aI (CxD X) 20 (nf ((pExp u z 10).2.2.2.1)), aI (CxD X) 20 (nf ((pExp u z 10).2.2.2.2.1)), aI (CxD X) 20 (nf ((pExp u z 10).2.2.2.2.2.1)), aJ (CxD X) 8 ((pExp u z 10).2.2.2.2.2.2.1)] 23 [(0, .ref pa)] []
    generalize he1 : (pExp u z 10) = z1
    have ok1 : zOk z1 := by rw [← he1]; exact (pExp_pr).1 hz
    have ha2 := ok1.1
    refine r_aload_n (n := 24) hX dX4_readTrait_23 rfl rfl 0 rfl ?_
    refine r_iconst (n := 25) hX 2 dX4_readTrait_24 rfl rfl ?_
    refine r_callV (n := 28) (av := [.int 2]) hX (ct_X4_sees (CxL X) (CxD X) pa tk k0 k1 k2 tx x0 x1 x2 x3 x4 x5 u z1 2 ok1) ml_X4_51 cv_X4_sees rfl (by decide) [0, 1, 2, 3, 4, 5, 6, 7, 8, 9, 10, 11] rfl rfl (by decide) 0 rfl rfl rfl rfl rfl (Nat.le_of_ble_eq_true rfl) dX4_readTrait_25 rfl (fun r_ es_ h_ l_ => ?_)
    obtain ⟨rfl, rfl⟩ := h_
    show Aw X [pa, tk, k0, k1, k2, tx, x0, x1, x2, x3, x4, x5] [ob 4 [.ref tk, .ref tx, .int (nI (zAt z1)), .int (nI (zOpen z1)), .int (zFault z1), .int (zLate z1), .int (zLateP z1), .int (zFaultP z1)], ob 8 [.ref k0, .ref k1, .ref k2], aI (CxD X) 601 u.1, aI (CxD X) 601 (nf u.2.1), aJ (CxD X) 601 u.2.2, ob 7 [.ref x0, .ref x1, .ref x2, .ref x3, .ref x4, .ref x5, .int (nI (txSize z1.2)), .int (nI (txRules z1.2)), .int (nI (txTraits z1.2))], aI (CxD X) 600 z1.2.1, aZ (CxD X) 20 (zf z1.2.2.1), aI (CxD X) 20 (nf z1.2.2.2.1), aI (CxD X) 20 (nf z1.2.2.2.2.1), aI (CxD X) 20 (nf z1.2.2.2.2.2.1), aJ (CxD X) 8 z1.2.2.2.2.2.2.1] 28 [(0, .ref pa)] [.int (b2 (pSees u z1 2))]
    refine r_if_eq_b (tgt := 69) (n := 31) hX dX4_readTrait_28 (by decide) rfl (fun c28 => ?_) (fun c28 => ?_)
    · skip
      refine r_aload_n (n := 70) hX dX4_readTrait_69 rfl rfl 0 rfl ?_
      refine r_iconst (n := 71) hX 2 dX4_readTrait_70 rfl rfl ?_
      refine r_callV (n := 74) (av := [.int 2]) hX (ct_X4_expect (CxL X) (CxD X) pa tk k0 k1 k2 tx x0 x1 x2 x3 x4 x5 u z1 2 ok1) ml_X4_68 cv_X4_expect rfl (by decide) [0, 1, 2, 3, 4, 5, 6, 7, 8, 9, 10, 11] rfl rfl (by decide) 0 rfl rfl rfl rfl rfl (Nat.le_of_ble_eq_true rfl) dX4_readTrait_71 rfl (fun r_ es_ h_ l_ => ?_)
      obtain ⟨rfl, rfl⟩ := h_
      show Aw X [pa, tk, k0, k1, k2, tx, x0, x1, x2, x3, x4, x5] [ob 4 [.ref tk, .ref tx, .int (nI (zAt (pExp u z1 2))), .int (nI (zOpen (pExp u z1 2))), .int (zFault (pExp u z1 2)), .int (zLate (pExp u z1 2)), .int (zLateP (pExp u z1 2)), .int (zFaultP (pExp u z1 2))], ob 8 [.ref k0, .ref k1, .ref k2], aI (CxD X) 601 u.1, aI (CxD X) 601 (nf u.2.1), aJ (CxD X) 601 u.2.2, ob 7 [.ref x0, .ref x1, .ref x2, .ref x3, .ref x4, .ref x5, .int (nI (txSize ((pExp u z1 2).2))), .int (nI (txRules ((pExp u z1 2).2))), .int (nI (txTraits ((pExp u z1 2).2)))], aI (CxD X) 600 ((pExp u z1 2).2.1), aZ (CxD X) 20 (zf ((pExp u z1 2).2.2.1)), aI (CxD X) 20 (nf ((pExp u z1 2).2.2.2.1)), aI (CxD X) 20 (nf ((pExp u z1 2).2.2.2.2.1)), aI (CxD X) 20 (nf ((pExp u z1 2).2.2.2.2.2.1)), aJ (CxD X) 8 ((pExp u z1 2).2.2.2.2.2.2.1)] 74 [(0, .ref pa)] []
      generalize he2 : (pExp u z1 2) = z2
      have ok2 : zOk z2 := by rw [← he2]; exact (pExp_pr).1 ok1
      refine r_aload_n (n := 75) hX dX4_readTrait_74 rfl rfl 0 rfl ?_
      refine r_bipush (n := 77) hX 59 dX4_readTrait_75 rfl rfl ?_
      refine r_callV (n := 80) (av := [.int 59]) hX (ct_X4_expect (CxL X) (CxD X) pa tk k0 k1 k2 tx x0 x1 x2 x3 x4 x5 u z2 59 ok2) ml_X4_68 cv_X4_expect rfl (by decide) [0, 1, 2, 3, 4, 5, 6, 7, 8, 9, 10, 11] rfl rfl (by decide) 0 rfl rfl rfl rfl rfl (Nat.le_of_ble_eq_true rfl) dX4_readTrait_77 rfl (fun r_ es_ h_ l_ => ?_)
      obtain ⟨rfl, rfl⟩ := h_
      show Aw X [pa, tk, k0, k1, k2, tx, x0, x1, x2, x3, x4, x5] [ob 4 [.ref tk, .ref tx, .int (nI (zAt (pExp u z2 59))), .int (nI (zOpen (pExp u z2 59))), .int (zFault (pExp u z2 59)), .int (zLate (pExp u z2 59)), .int (zLateP (pExp u z2 59)), .int (zFaultP (pExp u z2 59))], ob 8 [.ref k0, .ref k1, .ref k2], aI (CxD X) 601 u.1, aI (CxD X) 601 (nf u.2.1), aJ (CxD X) 601 u.2.2, ob 7 [.ref x0, .ref x1, .ref x2, .ref x3, .ref x4, .ref x5, .int (nI (txSize ((pExp u z2 59).2))), .int (nI (txRules ((pExp u z2 59).2))), .int (nI (txTraits ((pExp u z2 59).2)))], aI (CxD X) 600 ((pExp u z2 59).2.1), aZ (CxD X) 20 (zf ((pExp u z2 59).2.2.1)), aI (CxD X) 20 (nf ((pExp u z2 59).2.2.2.1)), aI (CxD X) 20 (nf ((pExp u z2 59).2.2.2.2.1)), aI (CxD X) 20 (nf ((pExp u z2 59).2.2.2.2.2.1)), aJ (CxD X) 8 ((pExp u z2 59).2.2.2.2.2.2.1)] 80 [(0, .ref pa)] []
      generalize he3 : (pExp u z2 59) = z3
      have ok3 : zOk z3 := by rw [← he3]; exact (pExp_pr).1 ok2
      exact r_return hX hR dX4_readTrait_80 ⟨rfl, by rw [show rTrD u z = z3 from (by subst he3; subst he2; subst he1; rw [rTrD, rTr1, rTr2]; (first | rw [if_pos c9] | rw [if_neg c9]); rw [if_neg (by rw [c28]; decide)])]⟩
    · skip
      refine r_aload_n (n := 32) hX dX4_readTrait_31 rfl rfl 0 rfl ?_
      refine r_get (n := 35) hX 0 rfl rfl rfl 0 (by decide) lay_X4 fl_X4_12 rfl dX4_readTrait_32 rfl ?_
      refine r_get (n := 38) hX 1 rfl rfl rfl 2 (by decide) lay_X8 fl_X4_71 rfl dX4_readTrait_35 rfl ?_
      refine r_aload_n (n := 39) hX dX4_readTrait_38 rfl rfl 0 rfl ?_
      refine r_get (n := 42) hX 0 rfl rfl rfl 2 (by decide) lay_X4 fl_X4_25 rfl dX4_readTrait_39 rfl ?_
      refine r_laldn (n := 43) (i := (zAt z1)) hX 4 rfl rfl (by omega) (by decide) dX4_readTrait_42 rfl ?_
      refine r_lstore_n (n := 44) hX [(0, .ref pa), (1, .long (u.2.2 (zAt z1)))] dX4_readTrait_43 rfl rfl (by decide) rfl ?_
      refine r_aload_n (n := 45) hX dX4_readTrait_44 rfl rfl 0 rfl ?_
      refine r_get (n := 48) hX 0 rfl rfl rfl 1 (by decide) lay_X4 fl_X4_21 rfl dX4_readTrait_45 rfl ?_
      refine r_lload_n (n := 49) hX dX4_readTrait_48 rfl rfl 1 rfl ?_
      refine r_callV (n := 52) (av := [.long (u.2.2 (zAt z1))]) hX (ct_X7_traitNamed (CxL X) (CxD X) tx x0 x1 x2 x3 x4 x5 z1.2 (u.2.2 (zAt z1)) ok1.2.2.2.2) ml_X4_75 cv_X7_traitNamed rfl (by decide) [5, 6, 7, 8, 9, 10, 11] rfl rfl (by decide) 5 rfl rfl rfl rfl rfl (Nat.le_of_ble_eq_true rfl) dX4_readTrait_49 rfl (fun r_ es_ h_ l_ => ?_)
      obtain ⟨rfl, rfl⟩ := h_
      show Aw X [pa, tk, k0, k1, k2, tx, x0, x1, x2, x3, x4, x5] [ob 4 [.ref tk, .ref tx, .int (nI (zAt z1)), .int (nI (zOpen z1)), .int (zFault z1), .int (zLate z1), .int (zLateP z1), .int (zFaultP z1)], ob 8 [.ref k0, .ref k1, .ref k2], aI (CxD X) 601 u.1, aI (CxD X) 601 (nf u.2.1), aJ (CxD X) 601 u.2.2, ob 7 [.ref x0, .ref x1, .ref x2, .ref x3, .ref x4, .ref x5, .int (nI (txSize z1.2)), .int (nI (txRules z1.2)), .int (nI (txTraits z1.2))], aI (CxD X) 600 z1.2.1, aZ (CxD X) 20 (zf z1.2.2.1), aI (CxD X) 20 (nf z1.2.2.2.1), aI (CxD X) 20 (nf z1.2.2.2.2.1), aI (CxD X) 20 (nf z1.2.2.2.2.2.1), aJ (CxD X) 8 z1.2.2.2.2.2.2.1] 52 [(0, .ref pa), (1, .long (u.2.2 (zAt z1)))] [.int (eo (txNamed z1.2 (u.2.2 (zAt z1))))]
      refine r_iconst (n := 53) hX (-1) dX4_readTrait_52 rfl rfl ?_
      have hob := fun r e => Nat.lt_trans (txNamed_lt z1.2 (u.2.2 (zAt z1)) r e ok1.2.2.2.2) (by decide : (8 : Nat) < 2 ^ 31)
      refine r_icmp_eq_o (tgt := 61) (n := 56) (x := txNamed z1.2 (u.2.2 (zAt z1))) hX hob dX4_readTrait_53 (by decide) rfl (fun c53 => ?_) (fun c53 => ?_)
      · skip
        refine r_aload_n (n := 62) hX dX4_readTrait_61 rfl rfl 0 rfl ?_
        refine r_get (n := 65) hX 0 rfl rfl rfl 1 (by decide) lay_X4 fl_X4_21 rfl dX4_readTrait_62 rfl ?_
        refine r_lload_n (n := 66) hX dX4_readTrait_65 rfl rfl 1 rfl ?_
        refine r_callV (n := 69) (av := [.long (u.2.2 (zAt z1))]) hX (ct_X7_addTrait (CxL X) (CxD X) tx x0 x1 x2 x3 x4 x5 z1.2 (u.2.2 (zAt z1)) ok1.2.2.2.2) ml_X4_82 cv_X7_addTrait rfl (by decide) [5, 6, 7, 8, 9, 10, 11] rfl rfl (by decide) 5 rfl rfl rfl rfl rfl (Nat.le_of_ble_eq_true rfl) dX4_readTrait_66 rfl (fun r_ es_ h_ l_ => ?_)
        obtain ⟨rfl, rfl⟩ := h_
        show Aw X [pa, tk, k0, k1, k2, tx, x0, x1, x2, x3, x4, x5] [ob 4 [.ref tk, .ref tx, .int (nI (zAt (zAddT z1 (u.2.2 (zAt z1))))), .int (nI (zOpen (zAddT z1 (u.2.2 (zAt z1))))), .int (zFault (zAddT z1 (u.2.2 (zAt z1)))), .int (zLate (zAddT z1 (u.2.2 (zAt z1)))), .int (zLateP (zAddT z1 (u.2.2 (zAt z1)))), .int (zFaultP (zAddT z1 (u.2.2 (zAt z1))))], ob 8 [.ref k0, .ref k1, .ref k2], aI (CxD X) 601 u.1, aI (CxD X) 601 (nf u.2.1), aJ (CxD X) 601 u.2.2, ob 7 [.ref x0, .ref x1, .ref x2, .ref x3, .ref x4, .ref x5, .int (nI (txSize ((zAddT z1 (u.2.2 (zAt z1))).2))), .int (nI (txRules ((zAddT z1 (u.2.2 (zAt z1))).2))), .int (nI (txTraits ((zAddT z1 (u.2.2 (zAt z1))).2)))], aI (CxD X) 600 ((zAddT z1 (u.2.2 (zAt z1))).2.1), aZ (CxD X) 20 (zf ((zAddT z1 (u.2.2 (zAt z1))).2.2.1)), aI (CxD X) 20 (nf ((zAddT z1 (u.2.2 (zAt z1))).2.2.2.1)), aI (CxD X) 20 (nf ((zAddT z1 (u.2.2 (zAt z1))).2.2.2.2.1)), aI (CxD X) 20 (nf ((zAddT z1 (u.2.2 (zAt z1))).2.2.2.2.2.1)), aJ (CxD X) 8 ((zAddT z1 (u.2.2 (zAt z1))).2.2.2.2.2.2.1)] 69 [(0, .ref pa), (1, .long (u.2.2 (zAt z1)))] []
        generalize he2 : (zAddT z1 (u.2.2 (zAt z1))) = z2
        have ok2 : zOk z2 := by rw [← he2]; exact zAddT_ok ok1
        refine r_aload_n (n := 70) hX dX4_readTrait_69 rfl rfl 0 rfl ?_
        refine r_iconst (n := 71) hX 2 dX4_readTrait_70 rfl rfl ?_
        refine r_callV (n := 74) (av := [.int 2]) hX (ct_X4_expect (CxL X) (CxD X) pa tk k0 k1 k2 tx x0 x1 x2 x3 x4 x5 u z2 2 ok2) ml_X4_68 cv_X4_expect rfl (by decide) [0, 1, 2, 3, 4, 5, 6, 7, 8, 9, 10, 11] rfl rfl (by decide) 0 rfl rfl rfl rfl rfl (Nat.le_of_ble_eq_true rfl) dX4_readTrait_71 rfl (fun r_ es_ h_ l_ => ?_)
        obtain ⟨rfl, rfl⟩ := h_
        show Aw X [pa, tk, k0, k1, k2, tx, x0, x1, x2, x3, x4, x5] [ob 4 [.ref tk, .ref tx, .int (nI (zAt (pExp u z2 2))), .int (nI (zOpen (pExp u z2 2))), .int (zFault (pExp u z2 2)), .int (zLate (pExp u z2 2)), .int (zLateP (pExp u z2 2)), .int (zFaultP (pExp u z2 2))], ob 8 [.ref k0, .ref k1, .ref k2], aI (CxD X) 601 u.1, aI (CxD X) 601 (nf u.2.1), aJ (CxD X) 601 u.2.2, ob 7 [.ref x0, .ref x1, .ref x2, .ref x3, .ref x4, .ref x5, .int (nI (txSize ((pExp u z2 2).2))), .int (nI (txRules ((pExp u z2 2).2))), .int (nI (txTraits ((pExp u z2 2).2)))], aI (CxD X) 600 ((pExp u z2 2).2.1), aZ (CxD X) 20 (zf ((pExp u z2 2).2.2.1)), aI (CxD X) 20 (nf ((pExp u z2 2).2.2.2.1)), aI (CxD X) 20 (nf ((pExp u z2 2).2.2.2.2.1)), aI (CxD X) 20 (nf ((pExp u z2 2).2.2.2.2.2.1)), aJ (CxD X) 8 ((pExp u z2 2).2.2.2.2.2.2.1)] 74 [(0, .ref pa), (1, .long (u.2.2 (zAt z1)))] []
        generalize he3 : (pExp u z2 2) = z3
        have ok3 : zOk z3 := by rw [← he3]; exact (pExp_pr).1 ok2
        refine r_aload_n (n := 75) hX dX4_readTrait_74 rfl rfl 0 rfl ?_
        refine r_bipush (n := 77) hX 59 dX4_readTrait_75 rfl rfl ?_
        refine r_callV (n := 80) (av := [.int 59]) hX (ct_X4_expect (CxL X) (CxD X) pa tk k0 k1 k2 tx x0 x1 x2 x3 x4 x5 u z3 59 ok3) ml_X4_68 cv_X4_expect rfl (by decide) [0, 1, 2, 3, 4, 5, 6, 7, 8, 9, 10, 11] rfl rfl (by decide) 0 rfl rfl rfl rfl rfl (Nat.le_of_ble_eq_true rfl) dX4_readTrait_77 rfl (fun r_ es_ h_ l_ => ?_)
        obtain ⟨rfl, rfl⟩ := h_
        show Aw X [pa, tk, k0, k1, k2, tx, x0, x1, x2, x3, x4, x5] [ob 4 [.ref tk, .ref tx, .int (nI (zAt (pExp u z3 59))), .int (nI (zOpen (pExp u z3 59))), .int (zFault (pExp u z3 59)), .int (zLate (pExp u z3 59)), .int (zLateP (pExp u z3 59)), .int (zFaultP (pExp u z3 59))], ob 8 [.ref k0, .ref k1, .ref k2], aI (CxD X) 601 u.1, aI (CxD X) 601 (nf u.2.1), aJ (CxD X) 601 u.2.2, ob 7 [.ref x0, .ref x1, .ref x2, .ref x3, .ref x4, .ref x5, .int (nI (txSize ((pExp u z3 59).2))), .int (nI (txRules ((pExp u z3 59).2))), .int (nI (txTraits ((pExp u z3 59).2)))], aI (CxD X) 600 ((pExp u z3 59).2.1), aZ (CxD X) 20 (zf ((pExp u z3 59).2.2.1)), aI (CxD X) 20 (nf ((pExp u z3 59).2.2.2.1)), aI (CxD X) 20 (nf ((pExp u z3 59).2.2.2.2.1)), aI (CxD X) 20 (nf ((pExp u z3 59).2.2.2.2.2.1)), aJ (CxD X) 8 ((pExp u z3 59).2.2.2.2.2.2.1)] 80 [(0, .ref pa), (1, .long (u.2.2 (zAt z1)))] []
        generalize he4 : (pExp u z3 59) = z4
        have ok4 : zOk z4 := by rw [← he4]; exact (pExp_pr).1 ok3
        exact r_return hX hR dX4_readTrait_80 ⟨rfl, by rw [show rTrD u z = z4 from (by subst he4; subst he3; subst he2; subst he1; rw [rTrD, rTr1, rTr2]; (first | rw [if_pos c9] | rw [if_neg c9]); rw [if_pos c28]; (first | rw [if_pos c53] | rw [if_neg c53]))]⟩
      · skip
        refine r_aload_n (n := 57) hX dX4_readTrait_56 rfl rfl 0 rfl ?_
        refine r_iconst (n := 58) hX 3 dX4_readTrait_57 rfl rfl ?_
        refine r_callV (n := 61) (av := [.int 3]) hX (ct_X4_failLate (CxL X) (CxD X) pa tk k0 k1 k2 tx x0 x1 x2 x3 x4 x5 u z1 3 ok1) ml_X4_79 cv_X4_failLate rfl (by decide) [0, 1, 2, 3, 4, 5, 6, 7, 8, 9, 10, 11] rfl rfl (by decide) 0 rfl rfl rfl rfl rfl (Nat.le_of_ble_eq_true rfl) dX4_readTrait_58 rfl (fun r_ es_ h_ l_ => ?_)
        obtain ⟨rfl, rfl⟩ := h_
        show Aw X [pa, tk, k0, k1, k2, tx, x0, x1, x2, x3, x4, x5] [ob 4 [.ref tk, .ref tx, .int (nI (zAt (pFailL u z1 3))), .int (nI (zOpen (pFailL u z1 3))), .int (zFault (pFailL u z1 3)), .int (zLate (pFailL u z1 3)), .int (zLateP (pFailL u z1 3)), .int (zFaultP (pFailL u z1 3))], ob 8 [.ref k0, .ref k1, .ref k2], aI (CxD X) 601 u.1, aI (CxD X) 601 (nf u.2.1), aJ (CxD X) 601 u.2.2, ob 7 [.ref x0, .ref x1, .ref x2, .ref x3, .ref x4, .ref x5, .int (nI (txSize ((pFailL u z1 3).2))), .int (nI (txRules ((pFailL u z1 3).2))), .int (nI (txTraits ((pFailL u z1 3).2)))], aI (CxD X) 600 ((pFailL u z1 3).2.1), aZ (CxD X) 20 (zf ((pFailL u z1 3).2.2.1)), aI (CxD X) 20 (nf ((pFailL u z1 3).2.2.2.1)), aI (CxD X) 20 (nf ((pFailL u z1 3).2.2.2.2.1)), aI (CxD X) 20 (nf ((pFailL u z1 3).2.2.2.2.2.1)), aJ (CxD X) 8 ((pFailL u z1 3).2.2.2.2.2.2.1)] 61 [(0, .ref pa), (1, .long (u.2.2 (zAt z1)))] []
        generalize he2 : (pFailL u z1 3) = z2
        have ok2 : zOk z2 := by rw [← he2]; exact (pFailL_pr).1 ok1
        refine r_aload_n (n := 62) hX dX4_readTrait_61 rfl rfl 0 rfl ?_
        refine r_get (n := 65) hX 0 rfl rfl rfl 1 (by decide) lay_X4 fl_X4_21 rfl dX4_readTrait_62 rfl ?_
        refine r_lload_n (n := 66) hX dX4_readTrait_65 rfl rfl 1 rfl ?_
        refine r_callV (n := 69) (av := [.long (u.2.2 (zAt z1))]) hX (ct_X7_addTrait (CxL X) (CxD X) tx x0 x1 x2 x3 x4 x5 z2.2 (u.2.2 (zAt z1)) ok2.2.2.2.2) ml_X4_82 cv_X7_addTrait rfl (by decide) [5, 6, 7, 8, 9, 10, 11] rfl rfl (by decide) 5 rfl rfl rfl rfl rfl (Nat.le_of_ble_eq_true rfl) dX4_readTrait_66 rfl (fun r_ es_ h_ l_ => ?_)
        obtain ⟨rfl, rfl⟩ := h_
        show Aw X [pa, tk, k0, k1, k2, tx, x0, x1, x2, x3, x4, x5] [ob 4 [.ref tk, .ref tx, .int (nI (zAt (zAddT z2 (u.2.2 (zAt z1))))), .int (nI (zOpen (zAddT z2 (u.2.2 (zAt z1))))), .int (zFault (zAddT z2 (u.2.2 (zAt z1)))), .int (zLate (zAddT z2 (u.2.2 (zAt z1)))), .int (zLateP (zAddT z2 (u.2.2 (zAt z1)))), .int (zFaultP (zAddT z2 (u.2.2 (zAt z1))))], ob 8 [.ref k0, .ref k1, .ref k2], aI (CxD X) 601 u.1, aI (CxD X) 601 (nf u.2.1), aJ (CxD X) 601 u.2.2, ob 7 [.ref x0, .ref x1, .ref x2, .ref x3, .ref x4, .ref x5, .int (nI (txSize ((zAddT z2 (u.2.2 (zAt z1))).2))), .int (nI (txRules ((zAddT z2 (u.2.2 (zAt z1))).2))), .int (nI (txTraits ((zAddT z2 (u.2.2 (zAt z1))).2)))], aI (CxD X) 600 ((zAddT z2 (u.2.2 (zAt z1))).2.1), aZ (CxD X) 20 (zf ((zAddT z2 (u.2.2 (zAt z1))).2.2.1)), aI (CxD X) 20 (nf ((zAddT z2 (u.2.2 (zAt z1))).2.2.2.1)), aI (CxD X) 20 (nf ((zAddT z2 (u.2.2 (zAt z1))).2.2.2.2.1)), aI (CxD X) 20 (nf ((zAddT z2 (u.2.2 (zAt z1))).2.2.2.2.2.1)), aJ (CxD X) 8 ((zAddT z2 (u.2.2 (zAt z1))).2.2.2.2.2.2.1)] 69 [(0, .ref pa), (1, .long (u.2.2 (zAt z1)))] []
        generalize he3 : (zAddT z2 (u.2.2 (zAt z1))) = z3
        have ok3 : zOk z3 := by rw [← he3]; exact zAddT_ok ok2
        refine r_aload_n (n := 70) hX dX4_readTrait_69 rfl rfl 0 rfl ?_
        refine r_iconst (n := 71) hX 2 dX4_readTrait_70 rfl rfl ?_
        refine r_callV (n := 74) (av := [.int 2]) hX (ct_X4_expect (CxL X) (CxD X) pa tk k0 k1 k2 tx x0 x1 x2 x3 x4 x5 u z3 2 ok3) ml_X4_68 cv_X4_expect rfl (by decide) [0, 1, 2, 3, 4, 5, 6, 7, 8, 9, 10, 11] rfl rfl (by decide) 0 rfl rfl rfl rfl rfl (Nat.le_of_ble_eq_true rfl) dX4_readTrait_71 rfl (fun r_ es_ h_ l_ => ?_)
        obtain ⟨rfl, rfl⟩ := h_
        show Aw X [pa, tk, k0, k1, k2, tx, x0, x1, x2, x3, x4, x5] [ob 4 [.ref tk, .ref tx, .int (nI (zAt (pExp u z3 2))), .int (nI (zOpen (pExp u z3 2))), .int (zFault (pExp u z3 2)), .int (zLate (pExp u z3 2)), .int (zLateP (pExp u z3 2)), .int (zFaultP (pExp u z3 2))], ob 8 [.ref k0, .ref k1, .ref k2], aI (CxD X) 601 u.1, aI (CxD X) 601 (nf u.2.1), aJ (CxD X) 601 u.2.2, ob 7 [.ref x0, .ref x1, .ref x2, .ref x3, .ref x4, .ref x5, .int (nI (txSize ((pExp u z3 2).2))), .int (nI (txRules ((pExp u z3 2).2))), .int (nI (txTraits ((pExp u z3 2).2)))], aI (CxD X) 600 ((pExp u z3 2).2.1), aZ (CxD X) 20 (zf ((pExp u z3 2).2.2.1)), aI (CxD X) 20 (nf ((pExp u z3 2).2.2.2.1)), aI (CxD X) 20 (nf ((pExp u z3 2).2.2.2.2.1)), aI (CxD X) 20 (nf ((pExp u z3 2).2.2.2.2.2.1)), aJ (CxD X) 8 ((pExp u z3 2).2.2.2.2.2.2.1)] 74 [(0, .ref pa), (1, .long (u.2.2 (zAt z1)))] []
        generalize he4 : (pExp u z3 2) = z4
        have ok4 : zOk z4 := by rw [← he4]; exact (pExp_pr).1 ok3
        refine r_aload_n (n := 75) hX dX4_readTrait_74 rfl rfl 0 rfl ?_
        refine r_bipush (n := 77) hX 59 dX4_readTrait_75 rfl rfl ?_
        refine r_callV (n := 80) (av := [.int 59]) hX (ct_X4_expect (CxL X) (CxD X) pa tk k0 k1 k2 tx x0 x1 x2 x3 x4 x5 u z4 59 ok4) ml_X4_68 cv_X4_expect rfl (by decide) [0, 1, 2, 3, 4, 5, 6, 7, 8, 9, 10, 11] rfl rfl (by decide) 0 rfl rfl rfl rfl rfl (Nat.le_of_ble_eq_true rfl) dX4_readTrait_77 rfl (fun r_ es_ h_ l_ => ?_)
        obtain ⟨rfl, rfl⟩ := h_
        show Aw X [pa, tk, k0, k1, k2, tx, x0, x1, x2, x3, x4, x5] [ob 4 [.ref tk, .ref tx, .int (nI (zAt (pExp u z4 59))), .int (nI (zOpen (pExp u z4 59))), .int (zFault (pExp u z4 59)), .int (zLate (pExp u z4 59)), .int (zLateP (pExp u z4 59)), .int (zFaultP (pExp u z4 59))], ob 8 [.ref k0, .ref k1, .ref k2], aI (CxD X) 601 u.1, aI (CxD X) 601 (nf u.2.1), aJ (CxD X) 601 u.2.2, ob 7 [.ref x0, .ref x1, .ref x2, .ref x3, .ref x4, .ref x5, .int (nI (txSize ((pExp u z4 59).2))), .int (nI (txRules ((pExp u z4 59).2))), .int (nI (txTraits ((pExp u z4 59).2)))], aI (CxD X) 600 ((pExp u z4 59).2.1), aZ (CxD X) 20 (zf ((pExp u z4 59).2.2.1)), aI (CxD X) 20 (nf ((pExp u z4 59).2.2.2.1)), aI (CxD X) 20 (nf ((pExp u z4 59).2.2.2.2.1)), aI (CxD X) 20 (nf ((pExp u z4 59).2.2.2.2.2.1)), aJ (CxD X) 8 ((pExp u z4 59).2.2.2.2.2.2.1)] 80 [(0, .ref pa), (1, .long (u.2.2 (zAt z1)))] []
        generalize he5 : (pExp u z4 59) = z5
        have ok5 : zOk z5 := by rw [← he5]; exact (pExp_pr).1 ok4
        exact r_return hX hR dX4_readTrait_80 ⟨rfl, by rw [show rTrD u z = z5 from (by subst he5; subst he4; subst he3; subst he2; subst he1; rw [rTrD, rTr1, rTr2]; (first | rw [if_pos c9] | rw [if_neg c9]); rw [if_pos c28]; (first | rw [if_pos c53] | rw [if_neg c53]))]⟩
  · skip
    refine r_aload_n (n := 13) hX dX4_readTrait_12 rfl rfl 0 rfl ?_
    refine r_iconst (n := 14) hX 2 dX4_readTrait_13 rfl rfl ?_
    refine r_callV (n := 17) (av := [.int 2]) hX (ct_X4_fail (CxL X) (CxD X) pa tk k0 k1 k2 tx x0 x1 x2 x3 x4 x5 u z 2 hz) ml_X4_61 cv_X4_fail rfl (by decide) [0, 1, 2, 3, 4, 5, 6, 7, 8, 9, 10, 11] rfl rfl (by decide) 0 rfl rfl rfl rfl rfl (Nat.le_of_ble_eq_true rfl) dX4_readTrait_14 rfl (fun r_ es_ h_ l_ => ?_)
    obtain ⟨rfl, rfl⟩ := h_
    show Aw X [pa, tk, k0, k1, k2, tx, x0, x1, x2, x3, x4, x5] [ob 4 [.ref tk, .ref tx, .int (nI (zAt (pFail u z 2))), .int (nI (zOpen (pFail u z 2))), .int (zFault (pFail u z 2)), .int (zLate (pFail u z 2)), .int (zLateP (pFail u z 2)), .int (zFaultP (pFail u z 2))], ob 8 [.ref k0, .ref k1, .ref k2], aI (CxD X) 601 u.1, aI (CxD X) 601 (nf u.2.1), aJ (CxD X) 601 u.2.2, ob 7 [.ref x0, .ref x1, .ref x2, .ref x3, .ref x4, .ref x5, .int (nI (txSize ((pFail u z 2).2))), .int (nI (txRules ((pFail u z 2).2))), .int (nI (txTraits ((pFail u z 2).2)))], aI (CxD X) 600 ((pFail u z 2).2.1), aZ (CxD X) 20 (zf ((pFail u z 2).2.2.1)), aI (CxD X) 20 (nf ((pFail u z 2).2.2.2.1)), aI (CxD X) 20 (nf ((pFail u z 2).2.2.2.2.1)), aI (CxD X) 20 (nf ((pFail u z 2).2.2.2.2.2.1)), aJ (CxD X) 8 ((pFail u z 2).2.2.2.2.2.2.1)] 17 [(0, .ref pa)] []
    generalize he1 : (pFail u z 2) = z1
    have ok1 : zOk z1 := by rw [← he1]; exact (pFail_pr).1 hz
    refine r_aload_n (n := 18) hX dX4_readTrait_17 rfl rfl 0 rfl ?_
    refine r_bipush (n := 20) hX 10 dX4_readTrait_18 rfl rfl ?_
    refine r_callV (n := 23) (av := [.int 10]) hX (ct_X4_expect (CxL X) (CxD X) pa tk k0 k1 k2 tx x0 x1 x2 x3 x4 x5 u z1 10 ok1) ml_X4_68 cv_X4_expect rfl (by decide) [0, 1, 2, 3, 4, 5, 6, 7, 8, 9, 10, 11] rfl rfl (by decide) 0 rfl rfl rfl rfl rfl (Nat.le_of_ble_eq_true rfl) dX4_readTrait_20 rfl (fun r_ es_ h_ l_ => ?_)
    obtain ⟨rfl, rfl⟩ := h_
    show Aw X [pa, tk, k0, k1, k2, tx, x0, x1, x2, x3, x4, x5] [ob 4 [.ref tk, .ref tx, .int (nI (zAt (pExp u z1 10))), .int (nI (zOpen (pExp u z1 10))), .int (zFault (pExp u z1 10)), .int (zLate (pExp u z1 10)), .int (zLateP (pExp u z1 10)), .int (zFaultP (pExp u z1 10))], ob 8 [.ref k0, .ref k1, .ref k2], aI (CxD X) 601 u.1, aI (CxD X) 601 (nf u.2.1), aJ (CxD X) 601 u.2.2, ob 7 [.ref x0, .ref x1, .ref x2, .ref x3, .ref x4, .ref x5, .int (nI (txSize ((pExp u z1 10).2))), .int (nI (txRules ((pExp u z1 10).2))), .int (nI (txTraits ((pExp u z1 10).2)))], aI (CxD X) 600 ((pExp u z1 10).2.1), aZ (CxD X) 20 (zf ((pExp u z1 10).2.2.1)), aI (CxD X) 20 (nf ((pExp u z1 10).2.2.2.1)), aI (CxD X) 20 (nf ((pExp u z1 10).2.2.2.2.1)), aI (CxD X) 20 (nf ((pExp u z1 10).2.2.2.2.2.1)), aJ (CxD X) 8 ((pExp u z1 10).2.2.2.2.2.2.1)] 23 [(0, .ref pa)] []
    generalize he2 : (pExp u z1 10) = z2
    have ok2 : zOk z2 := by rw [← he2]; exact (pExp_pr).1 ok1
    have ha2 := ok2.1
    refine r_aload_n (n := 24) hX dX4_readTrait_23 rfl rfl 0 rfl ?_
    refine r_iconst (n := 25) hX 2 dX4_readTrait_24 rfl rfl ?_
    refine r_callV (n := 28) (av := [.int 2]) hX (ct_X4_sees (CxL X) (CxD X) pa tk k0 k1 k2 tx x0 x1 x2 x3 x4 x5 u z2 2 ok2) ml_X4_51 cv_X4_sees rfl (by decide) [0, 1, 2, 3, 4, 5, 6, 7, 8, 9, 10, 11] rfl rfl (by decide) 0 rfl rfl rfl rfl rfl (Nat.le_of_ble_eq_true rfl) dX4_readTrait_25 rfl (fun r_ es_ h_ l_ => ?_)
    obtain ⟨rfl, rfl⟩ := h_
    show Aw X [pa, tk, k0, k1, k2, tx, x0, x1, x2, x3, x4, x5] [ob 4 [.ref tk, .ref tx, .int (nI (zAt z2)), .int (nI (zOpen z2)), .int (zFault z2), .int (zLate z2), .int (zLateP z2), .int (zFaultP z2)], ob 8 [.ref k0, .ref k1, .ref k2], aI (CxD X) 601 u.1, aI (CxD X) 601 (nf u.2.1), aJ (CxD X) 601 u.2.2, ob 7 [.ref x0, .ref x1, .ref x2, .ref x3, .ref x4, .ref x5, .int (nI (txSize z2.2)), .int (nI (txRules z2.2)), .int (nI (txTraits z2.2))], aI (CxD X) 600 z2.2.1, aZ (CxD X) 20 (zf z2.2.2.1), aI (CxD X) 20 (nf z2.2.2.2.1), aI (CxD X) 20 (nf z2.2.2.2.2.1), aI (CxD X) 20 (nf z2.2.2.2.2.2.1), aJ (CxD X) 8 z2.2.2.2.2.2.2.1] 28 [(0, .ref pa)] [.int (b2 (pSees u z2 2))]
    refine r_if_eq_b (tgt := 69) (n := 31) hX dX4_readTrait_28 (by decide) rfl (fun c28 => ?_) (fun c28 => ?_)
    · skip
      refine r_aload_n (n := 70) hX dX4_readTrait_69 rfl rfl 0 rfl ?_
      refine r_iconst (n := 71) hX 2 dX4_readTrait_70 rfl rfl ?_
      refine r_callV (n := 74) (av := [.int 2]) hX (ct_X4_expect (CxL X) (CxD X) pa tk k0 k1 k2 tx x0 x1 x2 x3 x4 x5 u z2 2 ok2) ml_X4_68 cv_X4_expect rfl (by decide) [0, 1, 2, 3, 4, 5, 6, 7, 8, 9, 10, 11] rfl rfl (by decide) 0 rfl rfl rfl rfl rfl (Nat.le_of_ble_eq_true rfl) dX4_readTrait_71 rfl (fun r_ es_ h_ l_ => ?_)
      obtain ⟨rfl, rfl⟩ := h_
      show Aw X [pa, tk, k0, k1, k2, tx, x0, x1, x2, x3, x4, x5] [ob 4 [.ref tk, .ref tx, .int (nI (zAt (pExp u z2 2))), .int (nI (zOpen (pExp u z2 2))), .int (zFault (pExp u z2 2)), .int (zLate (pExp u z2 2)), .int (zLateP (pExp u z2 2)), .int (zFaultP (pExp u z2 2))], ob 8 [.ref k0, .ref k1, .ref k2], aI (CxD X) 601 u.1, aI (CxD X) 601 (nf u.2.1), aJ (CxD X) 601 u.2.2, ob 7 [.ref x0, .ref x1, .ref x2, .ref x3, .ref x4, .ref x5, .int (nI (txSize ((pExp u z2 2).2))), .int (nI (txRules ((pExp u z2 2).2))), .int (nI (txTraits ((pExp u z2 2).2)))], aI (CxD X) 600 ((pExp u z2 2).2.1), aZ (CxD X) 20 (zf ((pExp u z2 2).2.2.1)), aI (CxD X) 20 (nf ((pExp u z2 2).2.2.2.1)), aI (CxD X) 20 (nf ((pExp u z2 2).2.2.2.2.1)), aI (CxD X) 20 (nf ((pExp u z2 2).2.2.2.2.2.1)), aJ (CxD X) 8 ((pExp u z2 2).2.2.2.2.2.2.1)] 74 [(0, .ref pa)] []
      generalize he3 : (pExp u z2 2) = z3
      have ok3 : zOk z3 := by rw [← he3]; exact (pExp_pr).1 ok2
      refine r_aload_n (n := 75) hX dX4_readTrait_74 rfl rfl 0 rfl ?_
      refine r_bipush (n := 77) hX 59 dX4_readTrait_75 rfl rfl ?_
      refine r_callV (n := 80) (av := [.int 59]) hX (ct_X4_expect (CxL X) (CxD X) pa tk k0 k1 k2 tx x0 x1 x2 x3 x4 x5 u z3 59 ok3) ml_X4_68 cv_X4_expect rfl (by decide) [0, 1, 2, 3, 4, 5, 6, 7, 8, 9, 10, 11] rfl rfl (by decide) 0 rfl rfl rfl rfl rfl (Nat.le_of_ble_eq_true rfl) dX4_readTrait_77 rfl (fun r_ es_ h_ l_ => ?_)
      obtain ⟨rfl, rfl⟩ := h_
      show Aw X [pa, tk, k0, k1, k2, tx, x0, x1, x2, x3, x4, x5] [ob 4 [.ref tk, .ref tx, .int (nI (zAt (pExp u z3 59))), .int (nI (zOpen (pExp u z3 59))), .int (zFault (pExp u z3 59)), .int (zLate (pExp u z3 59)), .int (zLateP (pExp u z3 59)), .int (zFaultP (pExp u z3 59))], ob 8 [.ref k0, .ref k1, .ref k2], aI (CxD X) 601 u.1, aI (CxD X) 601 (nf u.2.1), aJ (CxD X) 601 u.2.2, ob 7 [.ref x0, .ref x1, .ref x2, .ref x3, .ref x4, .ref x5, .int (nI (txSize ((pExp u z3 59).2))), .int (nI (txRules ((pExp u z3 59).2))), .int (nI (txTraits ((pExp u z3 59).2)))], aI (CxD X) 600 ((pExp u z3 59).2.1), aZ (CxD X) 20 (zf ((pExp u z3 59).2.2.1)), aI (CxD X) 20 (nf ((pExp u z3 59).2.2.2.1)), aI (CxD X) 20 (nf ((pExp u z3 59).2.2.2.2.1)), aI (CxD X) 20 (nf ((pExp u z3 59).2.2.2.2.2.1)), aJ (CxD X) 8 ((pExp u z3 59).2.2.2.2.2.2.1)] 80 [(0, .ref pa)] []
      generalize he4 : (pExp u z3 59) = z4
      have ok4 : zOk z4 := by rw [← he4]; exact (pExp_pr).1 ok3
      exact r_return hX hR dX4_readTrait_80 ⟨rfl, by rw [show rTrD u z = z4 from (by subst he4; subst he3; subst he2; subst he1; rw [rTrD, rTr1, rTr2]; (first | rw [if_pos c9] | rw [if_neg c9]); rw [if_neg (by rw [c28]; decide)])]⟩
    · skip
      refine r_aload_n (n := 32) hX dX4_readTrait_31 rfl rfl 0 rfl ?_
      refine r_get (n := 35) hX 0 rfl rfl rfl 0 (by decide) lay_X4 fl_X4_12 rfl dX4_readTrait_32 rfl ?_
      refine r_get (n := 38) hX 1 rfl rfl rfl 2 (by decide) lay_X8 fl_X4_71 rfl dX4_readTrait_35 rfl ?_
      refine r_aload_n (n := 39) hX dX4_readTrait_38 rfl rfl 0 rfl ?_
      refine r_get (n := 42) hX 0 rfl rfl rfl 2 (by decide) lay_X4 fl_X4_25 rfl dX4_readTrait_39 rfl ?_
      refine r_laldn (n := 43) (i := (zAt z2)) hX 4 rfl rfl (by omega) (by decide) dX4_readTrait_42 rfl ?_
      refine r_lstore_n (n := 44) hX [(0, .ref pa), (1, .long (u.2.2 (zAt z2)))] dX4_readTrait_43 rfl rfl (by decide) rfl ?_
      refine r_aload_n (n := 45) hX dX4_readTrait_44 rfl rfl 0 rfl ?_
      refine r_get (n := 48) hX 0 rfl rfl rfl 1 (by decide) lay_X4 fl_X4_21 rfl dX4_readTrait_45 rfl ?_
      refine r_lload_n (n := 49) hX dX4_readTrait_48 rfl rfl 1 rfl ?_
      refine r_callV (n := 52) (av := [.long (u.2.2 (zAt z2))]) hX (ct_X7_traitNamed (CxL X) (CxD X) tx x0 x1 x2 x3 x4 x5 z2.2 (u.2.2 (zAt z2)) ok2.2.2.2.2) ml_X4_75 cv_X7_traitNamed rfl (by decide) [5, 6, 7, 8, 9, 10, 11] rfl rfl (by decide) 5 rfl rfl rfl rfl rfl (Nat.le_of_ble_eq_true rfl) dX4_readTrait_49 rfl (fun r_ es_ h_ l_ => ?_)
      obtain ⟨rfl, rfl⟩ := h_
      show Aw X [pa, tk, k0, k1, k2, tx, x0, x1, x2, x3, x4, x5] [ob 4 [.ref tk, .ref tx, .int (nI (zAt z2)), .int (nI (zOpen z2)), .int (zFault z2), .int (zLate z2), .int (zLateP z2), .int (zFaultP z2)], ob 8 [.ref k0, .ref k1, .ref k2], aI (CxD X) 601 u.1, aI (CxD X) 601 (nf u.2.1), aJ (CxD X) 601 u.2.2, ob 7 [.ref x0, .ref x1, .ref x2, .ref x3, .ref x4, .ref x5, .int (nI (txSize z2.2)), .int (nI (txRules z2.2)), .int (nI (txTraits z2.2))], aI (CxD X) 600 z2.2.1, aZ (CxD X) 20 (zf z2.2.2.1), aI (CxD X) 20 (nf z2.2.2.2.1), aI (CxD X) 20 (nf z2.2.2.2.2.1), aI (CxD X) 20 (nf z2.2.2.2.2.2.1), aJ (CxD X) 8 z2.2.2.2.2.2.2.1] 52 [(0, .ref pa), (1, .long (u.2.2 (zAt z2)))] [.int (eo (txNamed z2.2 (u.2.2 (zAt z2))))]
      refine r_iconst (n := 53) hX (-1) dX4_readTrait_52 rfl rfl ?_
      have hob := fun r e => Nat.lt_trans (txNamed_lt z2.2 (u.2.2 (zAt z2)) r e ok2.2.2.2.2) (by decide : (8 : Nat) < 2 ^ 31)
      refine r_icmp_eq_o (tgt := 61) (n := 56) (x := txNamed z2.2 (u.2.2 (zAt z2))) hX hob dX4_readTrait_53 (by decide) rfl (fun c53 => ?_) (fun c53 => ?_)
      · skip
        refine r_aload_n (n := 62) hX dX4_readTrait_61 rfl rfl 0 rfl ?_
        refine r_get (n := 65) hX 0 rfl rfl rfl 1 (by decide) lay_X4 fl_X4_21 rfl dX4_readTrait_62 rfl ?_
        refine r_lload_n (n := 66) hX dX4_readTrait_65 rfl rfl 1 rfl ?_
        refine r_callV (n := 69) (av := [.long (u.2.2 (zAt z2))]) hX (ct_X7_addTrait (CxL X) (CxD X) tx x0 x1 x2 x3 x4 x5 z2.2 (u.2.2 (zAt z2)) ok2.2.2.2.2) ml_X4_82 cv_X7_addTrait rfl (by decide) [5, 6, 7, 8, 9, 10, 11] rfl rfl (by decide) 5 rfl rfl rfl rfl rfl (Nat.le_of_ble_eq_true rfl) dX4_readTrait_66 rfl (fun r_ es_ h_ l_ => ?_)
        obtain ⟨rfl, rfl⟩ := h_
        show Aw X [pa, tk, k0, k1, k2, tx, x0, x1, x2, x3, x4, x5] [ob 4 [.ref tk, .ref tx, .int (nI (zAt (zAddT z2 (u.2.2 (zAt z2))))), .int (nI (zOpen (zAddT z2 (u.2.2 (zAt z2))))), .int (zFault (zAddT z2 (u.2.2 (zAt z2)))), .int (zLate (zAddT z2 (u.2.2 (zAt z2)))), .int (zLateP (zAddT z2 (u.2.2 (zAt z2)))), .int (zFaultP (zAddT z2 (u.2.2 (zAt z2))))], ob 8 [.ref k0, .ref k1, .ref k2], aI (CxD X) 601 u.1, aI (CxD X) 601 (nf u.2.1), aJ (CxD X) 601 u.2.2, ob 7 [.ref x0, .ref x1, .ref x2, .ref x3, .ref x4, .ref x5, .int (nI (txSize ((zAddT z2 (u.2.2 (zAt z2))).2))), .int (nI (txRules ((zAddT z2 (u.2.2 (zAt z2))).2))), .int (nI (txTraits ((zAddT z2 (u.2.2 (zAt z2))).2)))], aI (CxD X) 600 ((zAddT z2 (u.2.2 (zAt z2))).2.1), aZ (CxD X) 20 (zf ((zAddT z2 (u.2.2 (zAt z2))).2.2.1)), aI (CxD X) 20 (nf ((zAddT z2 (u.2.2 (zAt z2))).2.2.2.1)), aI (CxD X) 20 (nf ((zAddT z2 (u.2.2 (zAt z2))).2.2.2.2.1)), aI (CxD X) 20 (nf ((zAddT z2 (u.2.2 (zAt z2))).2.2.2.2.2.1)), aJ (CxD X) 8 ((zAddT z2 (u.2.2 (zAt z2))).2.2.2.2.2.2.1)] 69 [(0, .ref pa), (1, .long (u.2.2 (zAt z2)))] []
        generalize he3 : (zAddT z2 (u.2.2 (zAt z2))) = z3
        have ok3 : zOk z3 := by rw [← he3]; exact zAddT_ok ok2
        refine r_aload_n (n := 70) hX dX4_readTrait_69 rfl rfl 0 rfl ?_
        refine r_iconst (n := 71) hX 2 dX4_readTrait_70 rfl rfl ?_
        refine r_callV (n := 74) (av := [.int 2]) hX (ct_X4_expect (CxL X) (CxD X) pa tk k0 k1 k2 tx x0 x1 x2 x3 x4 x5 u z3 2 ok3) ml_X4_68 cv_X4_expect rfl (by decide) [0, 1, 2, 3, 4, 5, 6, 7, 8, 9, 10, 11] rfl rfl (by decide) 0 rfl rfl rfl rfl rfl (Nat.le_of_ble_eq_true rfl) dX4_readTrait_71 rfl (fun r_ es_ h_ l_ => ?_)
        obtain ⟨rfl, rfl⟩ := h_
        show Aw X [pa, tk, k0, k1, k2, tx, x0, x1, x2, x3, x4, x5] [ob 4 [.ref tk, .ref tx, .int (nI (zAt (pExp u z3 2))), .int (nI (zOpen (pExp u z3 2))), .int (zFault (pExp u z3 2)), .int (zLate (pExp u z3 2)), .int (zLateP (pExp u z3 2)), .int (zFaultP (pExp u z3 2))], ob 8 [.ref k0, .ref k1, .ref k2], aI (CxD X) 601 u.1, aI (CxD X) 601 (nf u.2.1), aJ (CxD X) 601 u.2.2, ob 7 [.ref x0, .ref x1, .ref x2, .ref x3, .ref x4, .ref x5, .int (nI (txSize ((pExp u z3 2).2))), .int (nI (txRules ((pExp u z3 2).2))), .int (nI (txTraits ((pExp u z3 2).2)))], aI (CxD X) 600 ((pExp u z3 2).2.1), aZ (CxD X) 20 (zf ((pExp u z3 2).2.2.1)), aI (CxD X) 20 (nf ((pExp u z3 2).2.2.2.1)), aI (CxD X) 20 (nf ((pExp u z3 2).2.2.2.2.1)), aI (CxD X) 20 (nf ((pExp u z3 2).2.2.2.2.2.1)), aJ (CxD X) 8 ((pExp u z3 2).2.2.2.2.2.2.1)] 74 [(0, .ref pa), (1, .long (u.2.2 (zAt z2)))] []
        generalize he4 : (pExp u z3 2) = z4
        have ok4 : zOk z4 := by rw [← he4]; exact (pExp_pr).1 ok3
        refine r_aload_n (n := 75) hX dX4_readTrait_74 rfl rfl 0 rfl ?_
        refine r_bipush (n := 77) hX 59 dX4_readTrait_75 rfl rfl ?_
        refine r_callV (n := 80) (av := [.int 59]) hX (ct_X4_expect (CxL X) (CxD X) pa tk k0 k1 k2 tx x0 x1 x2 x3 x4 x5 u z4 59 ok4) ml_X4_68 cv_X4_expect rfl (by decide) [0, 1, 2, 3, 4, 5, 6, 7, 8, 9, 10, 11] rfl rfl (by decide) 0 rfl rfl rfl rfl rfl (Nat.le_of_ble_eq_true rfl) dX4_readTrait_77 rfl (fun r_ es_ h_ l_ => ?_)
        obtain ⟨rfl, rfl⟩ := h_
        show Aw X [pa, tk, k0, k1, k2, tx, x0, x1, x2, x3, x4, x5] [ob 4 [.ref tk, .ref tx, .int (nI (zAt (pExp u z4 59))), .int (nI (zOpen (pExp u z4 59))), .int (zFault (pExp u z4 59)), .int (zLate (pExp u z4 59)), .int (zLateP (pExp u z4 59)), .int (zFaultP (pExp u z4 59))], ob 8 [.ref k0, .ref k1, .ref k2], aI (CxD X) 601 u.1, aI (CxD X) 601 (nf u.2.1), aJ (CxD X) 601 u.2.2, ob 7 [.ref x0, .ref x1, .ref x2, .ref x3, .ref x4, .ref x5, .int (nI (txSize ((pExp u z4 59).2))), .int (nI (txRules ((pExp u z4 59).2))), .int (nI (txTraits ((pExp u z4 59).2)))], aI (CxD X) 600 ((pExp u z4 59).2.1), aZ (CxD X) 20 (zf ((pExp u z4 59).2.2.1)), aI (CxD X) 20 (nf ((pExp u z4 59).2.2.2.1)), aI (CxD X) 20 (nf ((pExp u z4 59).2.2.2.2.1)), aI (CxD X) 20 (nf ((pExp u z4 59).2.2.2.2.2.1)), aJ (CxD X) 8 ((pExp u z4 59).2.2.2.2.2.2.1)] 80 [(0, .ref pa), (1, .long (u.2.2 (zAt z2)))] []
        generalize he5 : (pExp u z4 59) = z5
        have ok5 : zOk z5 := by rw [← he5]; exact (pExp_pr).1 ok4
        exact r_return hX hR dX4_readTrait_80 ⟨rfl, by rw [show rTrD u z = z5 from (by subst he5; subst he4; subst he3; subst he2; subst he1; rw [rTrD, rTr1, rTr2]; (first | rw [if_pos c9] | rw [if_neg c9]); rw [if_pos c28]; (first | rw [if_pos c53] | rw [if_neg c53]))]⟩
      · skip
        refine r_aload_n (n := 57) hX dX4_readTrait_56 rfl rfl 0 rfl ?_
        refine r_iconst (n := 58) hX 3 dX4_readTrait_57 rfl rfl ?_
        refine r_callV (n := 61) (av := [.int 3]) hX (ct_X4_failLate (CxL X) (CxD X) pa tk k0 k1 k2 tx x0 x1 x2 x3 x4 x5 u z2 3 ok2) ml_X4_79 cv_X4_failLate rfl (by decide) [0, 1, 2, 3, 4, 5, 6, 7, 8, 9, 10, 11] rfl rfl (by decide) 0 rfl rfl rfl rfl rfl (Nat.le_of_ble_eq_true rfl) dX4_readTrait_58 rfl (fun r_ es_ h_ l_ => ?_)
        obtain ⟨rfl, rfl⟩ := h_
        show Aw X [pa, tk, k0, k1, k2, tx, x0, x1, x2, x3, x4, x5] [ob 4 [.ref tk, .ref tx, .int (nI (zAt (pFailL u z2 3))), .int (nI (zOpen (pFailL u z2 3))), .int (zFault (pFailL u z2 3)), .int (zLate (pFailL u z2 3)), .int (zLateP (pFailL u z2 3)), .int (zFaultP (pFailL u z2 3))], ob 8 [.ref k0, .ref k1, .ref k2], aI (CxD X) 601 u.1, aI (CxD X) 601 (nf u.2.1), aJ (CxD X) 601 u.2.2, ob 7 [.ref x0, .ref x1, .ref x2, .ref x3, .ref x4, .ref x5, .int (nI (txSize ((pFailL u z2 3).2))), .int (nI (txRules ((pFailL u z2 3).2))), .int (nI (txTraits ((pFailL u z2 3).2)))], aI (CxD X) 600 ((pFailL u z2 3).2.1), aZ (CxD X) 20 (zf ((pFailL u z2 3).2.2.1)), aI (CxD X) 20 (nf ((pFailL u z2 3).2.2.2.1)), aI (CxD X) 20 (nf ((pFailL u z2 3).2.2.2.2.1)), aI (CxD X) 20 (nf ((pFailL u z2 3).2.2.2.2.2.1)), aJ (CxD X) 8 ((pFailL u z2 3).2.2.2.2.2.2.1)] 61 [(0, .ref pa), (1, .long (u.2.2 (zAt z2)))] []
        generalize he3 : (pFailL u z2 3) = z3
        have ok3 : zOk z3 := by rw [← he3]; exact (pFailL_pr).1 ok2
        refine r_aload_n (n := 62) hX dX4_readTrait_61 rfl rfl 0 rfl ?_
        refine r_get (n := 65) hX 0 rfl rfl rfl 1 (by decide) lay_X4 fl_X4_21 rfl dX4_readTrait_62 rfl ?_
        refine r_lload_n (n := 66) hX dX4_readTrait_65 rfl rfl 1 rfl ?_
        refine r_callV (n := 69) (av := [.long (u.2.2 (zAt z2))]) hX (ct_X7_addTrait (CxL X) (CxD X) tx x0 x1 x2 x3 x4 x5 z3.2 (u.2.2 (zAt z2)) ok3.2.2.2.2) ml_X4_82 cv_X7_addTrait rfl (by decide) [5, 6, 7, 8, 9, 10, 11] rfl rfl (by decide) 5 rfl rfl rfl rfl rfl (Nat.le_of_ble_eq_true rfl) dX4_readTrait_66 rfl (fun r_ es_ h_ l_ => ?_)
        obtain ⟨rfl, rfl⟩ := h_
        show Aw X [pa, tk, k0, k1, k2, tx, x0, x1, x2, x3, x4, x5] [ob 4 [.ref tk, .ref tx, .int (nI (zAt (zAddT z3 (u.2.2 (zAt z2))))), .int (nI (zOpen (zAddT z3 (u.2.2 (zAt z2))))), .int (zFault (zAddT z3 (u.2.2 (zAt z2)))), .int (zLate (zAddT z3 (u.2.2 (zAt z2)))), .int (zLateP (zAddT z3 (u.2.2 (zAt z2)))), .int (zFaultP (zAddT z3 (u.2.2 (zAt z2))))], ob 8 [.ref k0, .ref k1, .ref k2], aI (CxD X) 601 u.1, aI (CxD X) 601 (nf u.2.1), aJ (CxD X) 601 u.2.2, ob 7 [.ref x0, .ref x1, .ref x2, .ref x3, .ref x4, .ref x5, .int (nI (txSize ((zAddT z3 (u.2.2 (zAt z2))).2))), .int (nI (txRules ((zAddT z3 (u.2.2 (zAt z2))).2))), .int (nI (txTraits ((zAddT z3 (u.2.2 (zAt z2))).2)))], aI (CxD X) 600 ((zAddT z3 (u.2.2 (zAt z2))).2.1), aZ (CxD X) 20 (zf ((zAddT z3 (u.2.2 (zAt z2))).2.2.1)), aI (CxD X) 20 (nf ((zAddT z3 (u.2.2 (zAt z2))).2.2.2.1)), aI (CxD X) 20 (nf ((zAddT z3 (u.2.2 (zAt z2))).2.2.2.2.1)), aI (CxD X) 20 (nf ((zAddT z3 (u.2.2 (zAt z2))).2.2.2.2.2.1)), aJ (CxD X) 8 ((zAddT z3 (u.2.2 (zAt z2))).2.2.2.2.2.2.1)] 69 [(0, .ref pa), (1, .long (u.2.2 (zAt z2)))] []
        generalize he4 : (zAddT z3 (u.2.2 (zAt z2))) = z4
        have ok4 : zOk z4 := by rw [← he4]; exact zAddT_ok ok3
        refine r_aload_n (n := 70) hX dX4_readTrait_69 rfl rfl 0 rfl ?_
        refine r_iconst (n := 71) hX 2 dX4_readTrait_70 rfl rfl ?_
        refine r_callV (n := 74) (av := [.int 2]) hX (ct_X4_expect (CxL X) (CxD X) pa tk k0 k1 k2 tx x0 x1 x2 x3 x4 x5 u z4 2 ok4) ml_X4_68 cv_X4_expect rfl (by decide) [0, 1, 2, 3, 4, 5, 6, 7, 8, 9, 10, 11] rfl rfl (by decide) 0 rfl rfl rfl rfl rfl (Nat.le_of_ble_eq_true rfl) dX4_readTrait_71 rfl (fun r_ es_ h_ l_ => ?_)
        obtain ⟨rfl, rfl⟩ := h_
        show Aw X [pa, tk, k0, k1, k2, tx, x0, x1, x2, x3, x4, x5] [ob 4 [.ref tk, .ref tx, .int (nI (zAt (pExp u z4 2))), .int (nI (zOpen (pExp u z4 2))), .int (zFault (pExp u z4 2)), .int (zLate (pExp u z4 2)), .int (zLateP (pExp u z4 2)), .int (zFaultP (pExp u z4 2))], ob 8 [.ref k0, .ref k1, .ref k2], aI (CxD X) 601 u.1, aI (CxD X) 601 (nf u.2.1), aJ (CxD X) 601 u.2.2, ob 7 [.ref x0, .ref x1, .ref x2, .ref x3, .ref x4, .ref x5, .int (nI (txSize ((pExp u z4 2).2))), .int (nI (txRules ((pExp u z4 2).2))), .int (nI (txTraits ((pExp u z4 2).2)))], aI (CxD X) 600 ((pExp u z4 2).2.1), aZ (CxD X) 20 (zf ((pExp u z4 2).2.2.1)), aI (CxD X) 20 (nf ((pExp u z4 2).2.2.2.1)), aI (CxD X) 20 (nf ((pExp u z4 2).2.2.2.2.1)), aI (CxD X) 20 (nf ((pExp u z4 2).2.2.2.2.2.1)), aJ (CxD X) 8 ((pExp u z4 2).2.2.2.2.2.2.1)] 74 [(0, .ref pa), (1, .long (u.2.2 (zAt z2)))] []
        generalize he5 : (pExp u z4 2) = z5
        have ok5 : zOk z5 := by rw [← he5]; exact (pExp_pr).1 ok4
        refine r_aload_n (n := 75) hX dX4_readTrait_74 rfl rfl 0 rfl ?_
        refine r_bipush (n := 77) hX 59 dX4_readTrait_75 rfl rfl ?_
        refine r_callV (n := 80) (av := [.int 59]) hX (ct_X4_expect (CxL X) (CxD X) pa tk k0 k1 k2 tx x0 x1 x2 x3 x4 x5 u z5 59 ok5) ml_X4_68 cv_X4_expect rfl (by decide) [0, 1, 2, 3, 4, 5, 6, 7, 8, 9, 10, 11] rfl rfl (by decide) 0 rfl rfl rfl rfl rfl (Nat.le_of_ble_eq_true rfl) dX4_readTrait_77 rfl (fun r_ es_ h_ l_ => ?_)
        obtain ⟨rfl, rfl⟩ := h_
        show Aw X [pa, tk, k0, k1, k2, tx, x0, x1, x2, x3, x4, x5] [ob 4 [.ref tk, .ref tx, .int (nI (zAt (pExp u z5 59))), .int (nI (zOpen (pExp u z5 59))), .int (zFault (pExp u z5 59)), .int (zLate (pExp u z5 59)), .int (zLateP (pExp u z5 59)), .int (zFaultP (pExp u z5 59))], ob 8 [.ref k0, .ref k1, .ref k2], aI (CxD X) 601 u.1, aI (CxD X) 601 (nf u.2.1), aJ (CxD X) 601 u.2.2, ob 7 [.ref x0, .ref x1, .ref x2, .ref x3, .ref x4, .ref x5, .int (nI (txSize ((pExp u z5 59).2))), .int (nI (txRules ((pExp u z5 59).2))), .int (nI (txTraits ((pExp u z5 59).2)))], aI (CxD X) 600 ((pExp u z5 59).2.1), aZ (CxD X) 20 (zf ((pExp u z5 59).2.2.1)), aI (CxD X) 20 (nf ((pExp u z5 59).2.2.2.1)), aI (CxD X) 20 (nf ((pExp u z5 59).2.2.2.2.1)), aI (CxD X) 20 (nf ((pExp u z5 59).2.2.2.2.2.1)), aJ (CxD X) 8 ((pExp u z5 59).2.2.2.2.2.2.1)] 80 [(0, .ref pa), (1, .long (u.2.2 (zAt z2)))] []
        generalize he6 : (pExp u z5 59) = z6
        have ok6 : zOk z6 := by rw [← he6]; exact (pExp_pr).1 ok5
        exact r_return hX hR dX4_readTrait_80 ⟨rfl, by rw [show rTrD u z = z6 from (by subst he6; subst he5; subst he4; subst he3; subst he2; subst he1; rw [rTrD, rTr1, rTr2]; (first | rw [if_pos c9] | rw [if_neg c9]); rw [if_pos c28]; (first | rw [if_pos c53] | rw [if_neg c53]))]⟩
theorem ct_X4_readTrait (l : Launch) (D : va_G) (pa tk k0 k1 k2 tx x0 x1 x2 x3 x4 x5 : Nat) (u : TK) (z : PZ) (hz : zOk z) : Ct l D m_X4_readTrait 2 [.ref pa] [pa, tk, k0, k1, k2, tx, x0, x1, x2, x3, x4, x5] [ob 4 [.ref tk, .ref tx, .int (nI (zAt z)), .int (nI (zOpen z)), .int (zFault z), .int (zLate z), .int (zLateP z), .int (zFaultP z)], ob 8 [.ref k0, .ref k1, .ref k2], aI D 601 u.1, aI D 601 (nf u.2.1), aJ D 601 u.2.2, ob 7 [.ref x0, .ref x1, .ref x2, .ref x3, .ref x4, .ref x5, .int (nI (txSize z.2)), .int (nI (txRules z.2)), .int (nI (txTraits z.2))], aI D 600 z.2.1, aZ D 20 (zf z.2.2.1), aI D 20 (nf z.2.2.2.1), aI D 20 (nf z.2.2.2.2.1), aI D 20 (nf z.2.2.2.2.2.1), aJ D 8 z.2.2.2.2.2.2.1] (fun r es' => r = none ∧ es' = [ob 4 [.ref tk, .ref tx, .int (nI (zAt (rTrD u z))), .int (nI (zOpen (rTrD u z))), .int (zFault (rTrD u z)), .int (zLate (rTrD u z)), .int (zLateP (rTrD u z)), .int (zFaultP (rTrD u z))], ob 8 [.ref k0, .ref k1, .ref k2], aI D 601 u.1, aI D 601 (nf u.2.1), aJ D 601 u.2.2, ob 7 [.ref x0, .ref x1, .ref x2, .ref x3, .ref x4, .ref x5, .int (nI (txSize ((rTrD u z).2))), .int (nI (txRules ((rTrD u z).2))), .int (nI (txTraits ((rTrD u z).2)))], aI D 600 ((rTrD u z).2.1), aZ D 20 (zf ((rTrD u z).2.2.1)), aI D 20 (nf ((rTrD u z).2.2.2.1)), aI D 20 (nf ((rTrD u z).2.2.2.2.1)), aI D 20 (nf ((rTrD u z).2.2.2.2.2.1)), aJ D 8 ((rTrD u z).2.2.2.2.2.2.1)]) :=
  Ct.ofA (own := RX4) (by decide) rfl (Nat.le_of_ble_eq_true rfl) rfl (fun X hl hD hX hR => by subst hl; subst hD; exact wk_X4_readTrait hX pa tk k0 k1 k2 tx x0 x1 x2 x3 x4 x5 u z hz hR)
set_option maxHeartbeats 1000000 in
set_option maxRecDepth 100000 in
theorem wk_X4_readRule {X : Cx} (hX : Ok X cX4_readRule 4 RX4 33) (pa tk k0 k1 k2 tx x0 x1 x2 x3 x4 x5 : Nat) (u : TK) (z : PZ) (hz : zOk z) (hR : Rt X (none) (fun r es' => r = none ∧ es' = [ob 4 [.ref tk, .ref tx, .int (nI (zAt (rRuD u z))), .int (nI (zOpen (rRuD u z))), .int (zFault (rRuD u z)), .int (zLate (rRuD u z)), .int (zLateP (rRuD u z)), .int (zFaultP (rRuD u z))], ob 8 [.ref k0, .ref k1, .ref k2], aI (CxD X) 601 u.1, aI (CxD X) 601 (nf u.2.1), aJ (CxD X) 601 u.2.2, ob 7 [.ref x0, .ref x1, .ref x2, .ref x3, .ref x4, .ref x5, .int (nI (txSize ((rRuD u z).2))), .int (nI (txRules ((rRuD u z).2))), .int (nI (txTraits ((rRuD u z).2)))], aI (CxD X) 600 ((rRuD u z).2.1), aZ (CxD X) 20 (zf ((rRuD u z).2.2.1)), aI (CxD X) 20 (nf ((rRuD u z).2.2.2.1)), aI (CxD X) 20 (nf ((rRuD u z).2.2.2.2.1)), aI (CxD X) 20 (nf ((rRuD u z).2.2.2.2.2.1)), aJ (CxD X) 8 ((rRuD u z).2.2.2.2.2.2.1)]) [pa, tk, k0, k1, k2, tx, x0, x1, x2, x3, x4, x5]) : Aw X [pa, tk, k0, k1, k2, tx, x0, x1, x2, x3, x4, x5] [ob 4 [.ref tk, .ref tx, .int (nI (zAt z)), .int (nI (zOpen z)), .int (zFault z), .int (zLate z), .int (zLateP z), .int (zFaultP z)], ob 8 [.ref k0, .ref k1, .ref k2], aI (CxD X) 601 u.1, aI (CxD X) 601 (nf u.2.1), aJ (CxD X) 601 u.2.2, ob 7 [.ref x0, .ref x1, .ref x2, .ref x3, .ref x4, .ref x5, .int (nI (txSize z.2)), .int (nI (txRules z.2)), .int (nI (txTraits z.2))], aI (CxD X) 600 z.2.1, aZ (CxD X) 20 (zf z.2.2.1), aI (CxD X) 20 (nf z.2.2.2.1), aI (CxD X) 20 (nf z.2.2.2.2.1), aI (CxD X) 20 (nf z.2.2.2.2.2.1), aJ (CxD X) 8 z.2.2.2.2.2.2.1] 0 [(0, .ref pa)] [] := by
  have ho := hz.2.2.2.1
  refine r_aload_n (n := 1) hX dX4_readRule_0 rfl rfl 0 rfl ?_
  refine r_get (n := 4) hX 0 rfl rfl rfl 1 (by decide) lay_X4 fl_X4_21 rfl dX4_readRule_1 rfl ?_
  refine r_get (n := 7) hX 5 rfl rfl rfl 7 (by decide) lay_X7 fl_X4_86 rfl dX4_readRule_4 rfl ?_
  refine r_bipush (n := 9) hX 20 dX4_readRule_7 rfl rfl ?_
  refine r_icmp_ne_n (tgt := 17) (n := 12) hX (txRules z.2) 20 (by omega) (by omega) dX4_readRule_9 (by decide) rfl (fun c9 => ?_) (fun c9 => ?_)
  · skip
    refine r_aload_n (n := 18) hX dX4_readRule_17 rfl rfl 0 rfl ?_
    refine r_get (n := 21) hX 0 rfl rfl rfl 1 (by decide) lay_X4 fl_X4_21 rfl dX4_readRule_18 rfl ?_
    refine r_get (n := 24) hX 5 rfl rfl rfl 6 (by decide) lay_X7 fl_X4_89 rfl dX4_readRule_21 rfl ?_
    refine r_istore_n (n := 25) hX [(0, .ref pa), (1, .int (nI (txSize z.2)))] dX4_readRule_24 rfl rfl (by decide) rfl ?_
    refine r_iload_n (n := 26) hX dX4_readRule_25 rfl rfl 1 rfl ?_
    refine r_istore_n (n := 27) hX [(0, .ref pa), (1, .int (nI (txSize z.2))), (2, .int (nI (txSize z.2)))] dX4_readRule_26 rfl rfl (by decide) rfl ?_
    refine r_aload_n (n := 28) hX dX4_readRule_27 rfl rfl 0 rfl ?_
    refine r_bipush (n := 30) hX 11 dX4_readRule_28 rfl rfl ?_
    refine r_callV (n := 33) (av := [.int 11]) hX (ct_X4_sees (CxL X) (CxD X) pa tk k0 k1 k2 tx x0 x1 x2 x3 x4 x5 u z 11 hz) ml_X4_51 cv_X4_sees rfl (by decide) [0, 1, 2, 3, 4, 5, 6, 7, 8, 9, 10, 11] rfl rfl (by decide) 0 rfl rfl rfl rfl rfl (Nat.le_of_ble_eq_true rfl) dX4_readRule_30 rfl (fun r_ es_ h_ l_ => ?_)
    obtain ⟨rfl, rfl⟩ := h_
    show Aw X [pa, tk, k0, k1, k2, tx, x0, x1, x2, x3, x4, x5] [ob 4 [.ref tk, .ref tx, .int (nI (zAt z)), .int (nI (zOpen z)), .int (zFault z), .int (zLate z), .int (zLateP z), .int (zFaultP z)], ob 8 [.ref k0, .ref k1, .ref k2], aI (CxD X) 601 u.1, aI (CxD X) 601 (nf u.2.1), aJ (CxD X) 601 u.2.2, ob 7 [.ref x0, .ref x1, .ref x2, .ref x3, .ref x4, .ref x5, .int (nI (txSize z.2)), .int (nI (txRules z.2)), .int (nI (txTraits z.2))], aI (CxD X) 600 z.2.1, aZ (CxD X) 20 (zf z.2.2.1), aI (CxD X) 20 (nf z.2.2.2.1), aI (CxD X) 20 (nf z.2.2.2.2.1), aI (CxD X) 20 (nf z.2.2.2.2.2.1), aJ (CxD X) 8 z.2.2.2.2.2.2.1] 33 [(0, .ref pa), (1, .int (nI (txSize z.2))), (2, .int (nI (txSize z.2)))] [.int (b2 (pSees u z 11))]
    refine r_istore_n (n := 34) hX [(0, .ref pa), (1, .int (nI (txSize z.2))), (2, .int (nI (txSize z.2))), (3, .int (b2 (pSees u z 11)))] dX4_readRule_33 rfl rfl (by decide) rfl ?_
    refine r_aload_n (n := 35) hX dX4_readRule_34 rfl rfl 0 rfl ?_
    refine r_iload_n (n := 36) hX dX4_readRule_35 rfl rfl 3 rfl ?_
    refine r_if_eq_b (tgt := 44) (n := 39) hX dX4_readRule_36 (by decide) rfl (fun c36 => ?_) (fun c36 => ?_)
    · skip
      refine r_bipush (n := 46) hX 12 dX4_readRule_44 rfl rfl ?_
      skip
      refine r_callV (n := 49) (av := [.int 12]) hX (ct_X4_expect (CxL X) (CxD X) pa tk k0 k1 k2 tx x0 x1 x2 x3 x4 x5 u z 12 hz) ml_X4_68 cv_X4_expect rfl (by decide) [0, 1, 2, 3, 4, 5, 6, 7, 8, 9, 10, 11] rfl rfl (by decide) 0 rfl rfl rfl rfl rfl (Nat.le_of_ble_eq_true rfl) dX4_readRule_46 rfl (fun r_ es_ h_ l_ => ?_)
      obtain ⟨rfl, rfl⟩ := h_
      show Aw X [pa, tk, k0, k1, k2, tx, x0, x1, x2, x3, x4, x5] [ob 4 [.ref tk, .ref tx, .int (nI (zAt (pExp u z 12))), .int (nI (zOpen (pExp u z 12))), .int (zFault (pExp u z 12)), .int (zLate (pExp u z 12)), .int (zLateP (pExp u z 12)), .int (zFaultP (pExp u z 12))], ob 8 [.ref k0, .ref k1, .ref k2], aI (CxD X) 601 u.1, aI (CxD X) 601 (nf u.2.1), aJ (CxD X) 601 u.2.2, ob 7 [.ref x0, .ref x1, .ref x2, .ref x3, .ref x4, .ref x5, .int (nI (txSize ((pExp u z 12).2))), .int (nI (txRules ((pExp u z 12).2))), .int (nI (txTraits ((pExp u z 12).2)))], aI (CxD X) 600 ((pExp u z 12).2.1), aZ (CxD X) 20 (zf ((pExp u z 12).2.2.1)), aI (CxD X) 20 (nf ((pExp u z 12).2.2.2.1)), aI (CxD X) 20 (nf ((pExp u z 12).2.2.2.2.1)), aI (CxD X) 20 (nf ((pExp u z 12).2.2.2.2.2.1)), aJ (CxD X) 8 ((pExp u z 12).2.2.2.2.2.2.1)] 49 [(0, .ref pa), (1, .int (nI (txSize z.2))), (2, .int (nI (txSize z.2))), (3, .int (b2 (pSees u z 11)))] []
      generalize he1 : (pExp u z 12) = z1
      have ok1 : zOk z1 := by rw [← he1]; exact (pExp_pr).1 hz
      refine r_iload_n (n := 50) hX dX4_readRule_49 rfl rfl 3 rfl ?_
      refine r_if_eq_b (tgt := 60) (n := 53) hX dX4_readRule_50 (by decide) rfl (fun c50 => ?_) (fun c50 => absurd c50 (by rw [c36]; decide))
      refine r_aload_n (n := 61) hX dX4_readRule_60 rfl rfl 0 rfl ?_
      refine r_callV (n := 64) (av := []) hX (sumC 8 (CxL X) (CxD X) pa tk k0 k1 k2 tx x0 x1 x2 x3 x4 x5 u z1 ok1 (by omega)) ml_X4_95 cv_X4_readSum rfl (by omega) [0, 1, 2, 3, 4, 5, 6, 7, 8, 9, 10, 11] rfl rfl (by decide) 0 rfl rfl rfl rfl rfl (Nat.le_of_ble_eq_true rfl) dX4_readRule_61 rfl (fun r_ es_ h_ l_ => ?_)
      obtain ⟨rfl, rfl⟩ := h_
      show Aw X [pa, tk, k0, k1, k2, tx, x0, x1, x2, x3, x4, x5] [ob 4 [.ref tk, .ref tx, .int (nI (zAt (rSum u 8 z1))), .int (nI (zOpen (rSum u 8 z1))), .int (zFault (rSum u 8 z1)), .int (zLate (rSum u 8 z1)), .int (zLateP (rSum u 8 z1)), .int (zFaultP (rSum u 8 z1))], ob 8 [.ref k0, .ref k1, .ref k2], aI (CxD X) 601 u.1, aI (CxD X) 601 (nf u.2.1), aJ (CxD X) 601 u.2.2, ob 7 [.ref x0, .ref x1, .ref x2, .ref x3, .ref x4, .ref x5, .int (nI (txSize ((rSum u 8 z1).2))), .int (nI (txRules ((rSum u 8 z1).2))), .int (nI (txTraits ((rSum u 8 z1).2)))], aI (CxD X) 600 ((rSum u 8 z1).2.1), aZ (CxD X) 20 (zf ((rSum u 8 z1).2.2.1)), aI (CxD X) 20 (nf ((rSum u 8 z1).2.2.2.1)), aI (CxD X) 20 (nf ((rSum u 8 z1).2.2.2.2.1)), aI (CxD X) 20 (nf ((rSum u 8 z1).2.2.2.2.2.1)), aJ (CxD X) 8 ((rSum u 8 z1).2.2.2.2.2.2.1)] 64 [(0, .ref pa), (1, .int (nI (txSize z.2))), (2, .int (nI (txSize z.2))), (3, .int (b2 (pSees u z 11)))] []
      generalize he2 : (rSum u 8 z1) = z2
      have ok2 : zOk z2 := by rw [← he2]; exact (rSum_pr 8 _).1 ok1
      refine r_aload_n (n := 65) hX dX4_readRule_64 rfl rfl 0 rfl ?_
      refine r_get (n := 68) hX 0 rfl rfl rfl 1 (by decide) lay_X4 fl_X4_21 rfl dX4_readRule_65 rfl ?_
      refine r_get (n := 71) hX 5 rfl rfl rfl 6 (by decide) lay_X7 fl_X4_89 rfl dX4_readRule_68 rfl ?_
      refine r_istore_n (n := 72) hX [(0, .ref pa), (1, .int (nI (txSize z.2))), (2, .int (nI (txSize z2.2))), (3, .int (b2 (pSees u z 11)))] dX4_readRule_71 rfl rfl (by decide) rfl ?_
      refine r_aload_n (n := 73) hX dX4_readRule_72 rfl rfl 0 rfl ?_
      refine r_bipush (n := 75) hX 13 dX4_readRule_73 rfl rfl ?_
      refine r_callV (n := 78) (av := [.int 13]) hX (ct_X4_accepts (CxL X) (CxD X) pa tk k0 k1 k2 tx x0 x1 x2 x3 x4 x5 u z2 13 ok2) ml_X4_98 cv_X4_accepts rfl (by decide) [0, 1, 2, 3, 4, 5, 6, 7, 8, 9, 10, 11] rfl rfl (by decide) 0 rfl rfl rfl rfl rfl (Nat.le_of_ble_eq_true rfl) dX4_readRule_75 rfl (fun r_ es_ h_ l_ => ?_)
      obtain ⟨rfl, rfl⟩ := h_
      show Aw X [pa, tk, k0, k1, k2, tx, x0, x1, x2, x3, x4, x5] [ob 4 [.ref tk, .ref tx, .int (nI (zAt (pAccZ u z2 13))), .int (nI (zOpen (pAccZ u z2 13))), .int (zFault (pAccZ u z2 13)), .int (zLate (pAccZ u z2 13)), .int (zLateP (pAccZ u z2 13)), .int (zFaultP (pAccZ u z2 13))], ob 8 [.ref k0, .ref k1, .ref k2], aI (CxD X) 601 u.1, aI (CxD X) 601 (nf u.2.1), aJ (CxD X) 601 u.2.2, ob 7 [.ref x0, .ref x1, .ref x2, .ref x3, .ref x4, .ref x5, .int (nI (txSize ((pAccZ u z2 13).2))), .int (nI (txRules ((pAccZ u z2 13).2))), .int (nI (txTraits ((pAccZ u z2 13).2)))], aI (CxD X) 600 ((pAccZ u z2 13).2.1), aZ (CxD X) 20 (zf ((pAccZ u z2 13).2.2.1)), aI (CxD X) 20 (nf ((pAccZ u z2 13).2.2.2.1)), aI (CxD X) 20 (nf ((pAccZ u z2 13).2.2.2.2.1)), aI (CxD X) 20 (nf ((pAccZ u z2 13).2.2.2.2.2.1)), aJ (CxD X) 8 ((pAccZ u z2 13).2.2.2.2.2.2.1)] 78 [(0, .ref pa), (1, .int (nI (txSize z.2))), (2, .int (nI (txSize z2.2))), (3, .int (b2 (pSees u z 11)))] [.int (b2 (pAccB u z2 13))]
      generalize he3 : (pAccZ u z2 13) = z3
      have ok3 : zOk z3 := by rw [← he3]; exact (pAccZ_pr).1 ok2
      refine r_if_eq_b (tgt := 85) (n := 81) hX dX4_readRule_78 (by decide) rfl (fun c78 => ?_) (fun c78 => ?_)
      · skip
        refine r_aload_n (n := 86) hX dX4_readRule_85 rfl rfl 0 rfl ?_
        refine r_bipush (n := 88) hX 59 dX4_readRule_86 rfl rfl ?_
        refine r_callV (n := 91) (av := [.int 59]) hX (ct_X4_expect (CxL X) (CxD X) pa tk k0 k1 k2 tx x0 x1 x2 x3 x4 x5 u z3 59 ok3) ml_X4_68 cv_X4_expect rfl (by decide) [0, 1, 2, 3, 4, 5, 6, 7, 8, 9, 10, 11] rfl rfl (by decide) 0 rfl rfl rfl rfl rfl (Nat.le_of_ble_eq_true rfl) dX4_readRule_88 rfl (fun r_ es_ h_ l_ => ?_)
        obtain ⟨rfl, rfl⟩ := h_
        show Aw X [pa, tk, k0, k1, k2, tx, x0, x1, x2, x3, x4, x5] [ob 4 [.ref tk, .ref tx, .int (nI (zAt (pExp u z3 59))), .int (nI (zOpen (pExp u z3 59))), .int (zFault (pExp u z3 59)), .int (zLate (pExp u z3 59)), .int (zLateP (pExp u z3 59)), .int (zFaultP (pExp u z3 59))], ob 8 [.ref k0, .ref k1, .ref k2], aI (CxD X) 601 u.1, aI (CxD X) 601 (nf u.2.1), aJ (CxD X) 601 u.2.2, ob 7 [.ref x0, .ref x1, .ref x2, .ref x3, .ref x4, .ref x5, .int (nI (txSize ((pExp u z3 59).2))), .int (nI (txRules ((pExp u z3 59).2))), .int (nI (txTraits ((pExp u z3 59).2)))], aI (CxD X) 600 ((pExp u z3 59).2.1), aZ (CxD X) 20 (zf ((pExp u z3 59).2.2.1)), aI (CxD X) 20 (nf ((pExp u z3 59).2.2.2.1)), aI (CxD X) 20 (nf ((pExp u z3 59).2.2.2.2.1)), aI (CxD X) 20 (nf ((pExp u z3 59).2.2.2.2.2.1)), aJ (CxD X) 8 ((pExp u z3 59).2.2.2.2.2.2.1)] 91 [(0, .ref pa), (1, .int (nI (txSize z.2))), (2, .int (nI (txSize z2.2))), (3, .int (b2 (pSees u z 11)))] []
        generalize he4 : (pExp u z3 59) = z4
        have ok4 : zOk z4 := by rw [← he4]; exact (pExp_pr).1 ok3
        refine r_aload_n (n := 92) hX dX4_readRule_91 rfl rfl 0 rfl ?_
        refine r_get (n := 95) hX 0 rfl rfl rfl 1 (by decide) lay_X4 fl_X4_21 rfl dX4_readRule_92 rfl ?_
        refine r_iload_n (n := 96) hX dX4_readRule_95 rfl rfl 3 rfl ?_
        refine r_iload_n (n := 97) hX dX4_readRule_96 rfl rfl 1 rfl ?_
        refine r_iload_n (n := 98) hX dX4_readRule_97 rfl rfl 2 rfl ?_
        refine r_callV (n := 101) (av := [.int (b2 (pSees u z 11)), .int (nI (txSize z.2)), .int (nI (txSize z2.2))]) hX (ct_X7_addRule (CxL X) (CxD X) tx x0 x1 x2 x3 x4 x5 z4.2 (pSees u z 11) (txSize z.2) (txSize z2.2) ok4.2.2.2.1) ml_X4_101 cv_X7_addRule rfl (by decide) [5, 6, 7, 8, 9, 10, 11] rfl rfl (by decide) 5 rfl rfl rfl rfl rfl (Nat.le_of_ble_eq_true rfl) dX4_readRule_98 rfl (fun r_ es_ h_ l_ => ?_)
        obtain ⟨rfl, rfl⟩ := h_
        show Aw X [pa, tk, k0, k1, k2, tx, x0, x1, x2, x3, x4, x5] [ob 4 [.ref tk, .ref tx, .int (nI (zAt (zAddR z4 (pSees u z 11) (txSize z.2) (txSize z2.2)))), .int (nI (zOpen (zAddR z4 (pSees u z 11) (txSize z.2) (txSize z2.2)))), .int (zFault (zAddR z4 (pSees u z 11) (txSize z.2) (txSize z2.2))), .int (zLate (zAddR z4 (pSees u z 11) (txSize z.2) (txSize z2.2))), .int (zLateP (zAddR z4 (pSees u z 11) (txSize z.2) (txSize z2.2))), .int (zFaultP (zAddR z4 (pSees u z 11) (txSize z.2) (txSize z2.2)))], ob 8 [.ref k0, .ref k1, .ref k2], aI (CxD X) 601 u.1, aI (CxD X) 601 (nf u.2.1), aJ (CxD X) 601 u.2.2, ob 7 [.ref x0, .ref x1, .ref x2, .ref x3, .ref x4, .ref x5, .int (nI (txSize ((zAddR z4 (pSees u z 11) (txSize z.2) (txSize z2.2)).2))), .int (nI (txRules ((zAddR z4 (pSees u z 11) (txSize z.2) (txSize z2.2)).2))), .int (nI (txTraits ((zAddR z4 (pSees u z 11) (txSize z.2) (txSize z2.2)).2)))], aI (CxD X) 600 ((zAddR z4 (pSees u z 11) (txSize z.2) (txSize z2.2)).2.1), aZ (CxD X) 20 (zf ((zAddR z4 (pSees u z 11) (txSize z.2) (txSize z2.2)).2.2.1)), aI (CxD X) 20 (nf ((zAddR z4 (pSees u z 11) (txSize z.2) (txSize z2.2)).2.2.2.1)), aI (CxD X) 20 (nf ((zAddR z4 (pSees u z 11) (txSize z.2) (txSize z2.2)).2.2.2.2.1)), aI (CxD X) 20 (nf ((zAddR z4 (pSees u z 11) (txSize z.2) (txSize z2.2)).2.2.2.2.2.1)), aJ (CxD X) 8 ((zAddR z4 (pSees u z 11) (txSize z.2) (txSize z2.2)).2.2.2.2.2.2.1)] 101 [(0, .ref pa), (1, .int (nI (txSize z.2))), (2, .int (nI (txSize z2.2))), (3, .int (b2 (pSees u z 11)))] []
        generalize he5 : (zAddR z4 (pSees u z 11) (txSize z.2) (txSize z2.2)) = z5
        have ok5 : zOk z5 := by rw [← he5]; exact zAddR_ok ok4
        exact r_return hX hR dX4_readRule_101 ⟨rfl, by rw [show rRuD u z = z5 from (by subst he5; subst he4; subst he3; subst he2; subst he1; rw [rRuD, rRu1]; (first | rw [if_pos c9] | rw [if_neg c9]); rw [if_neg (by rw [c36]; decide), rRuC, rRuI]; (first | rw [if_pos c78] | rw [if_neg (by rw [c78]; decide)]); rw [c36])]⟩
      · skip
        refine r_aload_n (n := 82) hX dX4_readRule_81 rfl rfl 0 rfl ?_
        refine r_callV (n := 85) (av := []) hX (condC 8 (CxL X) (CxD X) pa tk k0 k1 k2 tx x0 x1 x2 x3 x4 x5 u z3 ok3 (by omega)) ml_X4_92 cv_X4_readCond rfl (by omega) [0, 1, 2, 3, 4, 5, 6, 7, 8, 9, 10, 11] rfl rfl (by decide) 0 rfl rfl rfl rfl rfl (Nat.le_of_ble_eq_true rfl) dX4_readRule_82 rfl (fun r_ es_ h_ l_ => ?_)
        obtain ⟨rfl, rfl⟩ := h_
        show Aw X [pa, tk, k0, k1, k2, tx, x0, x1, x2, x3, x4, x5] [ob 4 [.ref tk, .ref tx, .int (nI (zAt (rCond u 8 z3))), .int (nI (zOpen (rCond u 8 z3))), .int (zFault (rCond u 8 z3)), .int (zLate (rCond u 8 z3)), .int (zLateP (rCond u 8 z3)), .int (zFaultP (rCond u 8 z3))], ob 8 [.ref k0, .ref k1, .ref k2], aI (CxD X) 601 u.1, aI (CxD X) 601 (nf u.2.1), aJ (CxD X) 601 u.2.2, ob 7 [.ref x0, .ref x1, .ref x2, .ref x3, .ref x4, .ref x5, .int (nI (txSize ((rCond u 8 z3).2))), .int (nI (txRules ((rCond u 8 z3).2))), .int (nI (txTraits ((rCond u 8 z3).2)))], aI (CxD X) 600 ((rCond u 8 z3).2.1), aZ (CxD X) 20 (zf ((rCond u 8 z3).2.2.1)), aI (CxD X) 20 (nf ((rCond u 8 z3).2.2.2.1)), aI (CxD X) 20 (nf ((rCond u 8 z3).2.2.2.2.1)), aI (CxD X) 20 (nf ((rCond u 8 z3).2.2.2.2.2.1)), aJ (CxD X) 8 ((rCond u 8 z3).2.2.2.2.2.2.1)] 85 [(0, .ref pa), (1, .int (nI (txSize z.2))), (2, .int (nI (txSize z2.2))), (3, .int (b2 (pSees u z 11)))] []
        generalize he4 : (rCond u 8 z3) = z4
        have ok4 : zOk z4 := by rw [← he4]; exact (rCond_pr 8 _).1 ok3
        refine r_aload_n (n := 86) hX dX4_readRule_85 rfl rfl 0 rfl ?_
        refine r_bipush (n := 88) hX 59 dX4_readRule_86 rfl rfl ?_
        refine r_callV (n := 91) (av := [.int 59]) hX (ct_X4_expect (CxL X) (CxD X) pa tk k0 k1 k2 tx x0 x1 x2 x3 x4 x5 u z4 59 ok4) ml_X4_68 cv_X4_expect rfl (by decide) [0, 1, 2, 3, 4, 5, 6, 7, 8, 9, 10, 11] rfl rfl (by decide) 0 rfl rfl rfl rfl rfl (Nat.le_of_ble_eq_true rfl) dX4_readRule_88 rfl (fun r_ es_ h_ l_ => ?_)
        obtain ⟨rfl, rfl⟩ := h_
        show Aw X [pa, tk, k0, k1, k2, tx, x0, x1, x2, x3, x4, x5] [ob 4 [.ref tk, .ref tx, .int (nI (zAt (pExp u z4 59))), .int (nI (zOpen (pExp u z4 59))), .int (zFault (pExp u z4 59)), .int (zLate (pExp u z4 59)), .int (zLateP (pExp u z4 59)), .int (zFaultP (pExp u z4 59))], ob 8 [.ref k0, .ref k1, .ref k2], aI (CxD X) 601 u.1, aI (CxD X) 601 (nf u.2.1), aJ (CxD X) 601 u.2.2, ob 7 [.ref x0, .ref x1, .ref x2, .ref x3, .ref x4, .ref x5, .int (nI (txSize ((pExp u z4 59).2))), .int (nI (txRules ((pExp u z4 59).2))), .int (nI (txTraits ((pExp u z4 59).2)))], aI (CxD X) 600 ((pExp u z4 59).2.1), aZ (CxD X) 20 (zf ((pExp u z4 59).2.2.1)), aI (CxD X) 20 (nf ((pExp u z4 59).2.2.2.1)), aI (CxD X) 20 (nf ((pExp u z4 59).2.2.2.2.1)), aI (CxD X) 20 (nf ((pExp u z4 59).2.2.2.2.2.1)), aJ (CxD X) 8 ((pExp u z4 59).2.2.2.2.2.2.1)] 91 [(0, .ref pa), (1, .int (nI (txSize z.2))), (2, .int (nI (txSize z2.2))), (3, .int (b2 (pSees u z 11)))] []
        generalize he5 : (pExp u z4 59) = z5
        have ok5 : zOk z5 := by rw [← he5]; exact (pExp_pr).1 ok4
        refine r_aload_n (n := 92) hX dX4_readRule_91 rfl rfl 0 rfl ?_
        refine r_get (n := 95) hX 0 rfl rfl rfl 1 (by decide) lay_X4 fl_X4_21 rfl dX4_readRule_92 rfl ?_
        refine r_iload_n (n := 96) hX dX4_readRule_95 rfl rfl 3 rfl ?_
        refine r_iload_n (n := 97) hX dX4_readRule_96 rfl rfl 1 rfl ?_
        refine r_iload_n (n := 98) hX dX4_readRule_97 rfl rfl 2 rfl ?_
        refine r_callV (n := 101) (av := [.int (b2 (pSees u z 11)), .int (nI (txSize z.2)), .int (nI (txSize z2.2))]) hX (ct_X7_addRule (CxL X) (CxD X) tx x0 x1 x2 x3 x4 x5 z5.2 (pSees u z 11) (txSize z.2) (txSize z2.2) ok5.2.2.2.1) ml_X4_101 cv_X7_addRule rfl (by decide) [5, 6, 7, 8, 9, 10, 11] rfl rfl (by decide) 5 rfl rfl rfl rfl rfl (Nat.le_of_ble_eq_true rfl) dX4_readRule_98 rfl (fun r_ es_ h_ l_ => ?_)
        obtain ⟨rfl, rfl⟩ := h_
        show Aw X [pa, tk, k0, k1, k2, tx, x0, x1, x2, x3, x4, x5] [ob 4 [.ref tk, .ref tx, .int (nI (zAt (zAddR z5 (pSees u z 11) (txSize z.2) (txSize z2.2)))), .int (nI (zOpen (zAddR z5 (pSees u z 11) (txSize z.2) (txSize z2.2)))), .int (zFault (zAddR z5 (pSees u z 11) (txSize z.2) (txSize z2.2))), .int (zLate (zAddR z5 (pSees u z 11) (txSize z.2) (txSize z2.2))), .int (zLateP (zAddR z5 (pSees u z 11) (txSize z.2) (txSize z2.2))), .int (zFaultP (zAddR z5 (pSees u z 11) (txSize z.2) (txSize z2.2)))], ob 8 [.ref k0, .ref k1, .ref k2], aI (CxD X) 601 u.1, aI (CxD X) 601 (nf u.2.1), aJ (CxD X) 601 u.2.2, ob 7 [.ref x0, .ref x1, .ref x2, .ref x3, .ref x4, .ref x5, .int (nI (txSize ((zAddR z5 (pSees u z 11) (txSize z.2) (txSize z2.2)).2))), .int (nI (txRules ((zAddR z5 (pSees u z 11) (txSize z.2) (txSize z2.2)).2))), .int (nI (txTraits ((zAddR z5 (pSees u z 11) (txSize z.2) (txSize z2.2)).2)))], aI (CxD X) 600 ((zAddR z5 (pSees u z 11) (txSize z.2) (txSize z2.2)).2.1), aZ (CxD X) 20 (zf ((zAddR z5 (pSees u z 11) (txSize z.2) (txSize z2.2)).2.2.1)), aI (CxD X) 20 (nf ((zAddR z5 (pSees u z 11) (txSize z.2) (txSize z2.2)).2.2.2.1)), aI (CxD X) 20 (nf ((zAddR z5 (pSees u z 11) (txSize z.2) (txSize z2.2)).2.2.2.2.1)), aI (CxD X) 20 (nf ((zAddR z5 (pSees u z 11) (txSize z.2) (txSize z2.2)).2.2.2.2.2.1)), aJ (CxD X) 8 ((zAddR z5 (pSees u z 11) (txSize z.2) (txSize z2.2)).2.2.2.2.2.2.1)] 101 [(0, .ref pa), (1, .int (nI (txSize z.2))), (2, .int (nI (txSize z2.2))), (3, .int (b2 (pSees u z 11)))] []
        generalize he6 : (zAddR z5 (pSees u z 11) (txSize z.2) (txSize z2.2)) = z6
        have ok6 : zOk z6 := by rw [← he6]; exact zAddR_ok ok5
        exact r_return hX hR dX4_readRule_101 ⟨rfl, by rw [show rRuD u z = z6 from (by subst he6; subst he5; subst he4; subst he3; subst he2; subst he1; rw [rRuD, rRu1]; (first | rw [if_pos c9] | rw [if_neg c9]); rw [if_neg (by rw [c36]; decide), rRuC, rRuI]; (first | rw [if_pos c78] | rw [if_neg (by rw [c78]; decide)]); rw [c36])]⟩
    · skip
      refine r_bipush (n := 41) hX 11 dX4_readRule_39 rfl rfl ?_
      refine r_goto (tgt := 46) hX dX4_readRule_41 (by decide) ?_
      skip
      refine r_callV (n := 49) (av := [.int 11]) hX (ct_X4_expect (CxL X) (CxD X) pa tk k0 k1 k2 tx x0 x1 x2 x3 x4 x5 u z 11 hz) ml_X4_68 cv_X4_expect rfl (by decide) [0, 1, 2, 3, 4, 5, 6, 7, 8, 9, 10, 11] rfl rfl (by decide) 0 rfl rfl rfl rfl rfl (Nat.le_of_ble_eq_true rfl) dX4_readRule_46 rfl (fun r_ es_ h_ l_ => ?_)
      obtain ⟨rfl, rfl⟩ := h_
      show Aw X [pa, tk, k0, k1, k2, tx, x0, x1, x2, x3, x4, x5] [ob 4 [.ref tk, .ref tx, .int (nI (zAt (pExp u z 11))), .int (nI (zOpen (pExp u z 11))), .int (zFault (pExp u z 11)), .int (zLate (pExp u z 11)), .int (zLateP (pExp u z 11)), .int (zFaultP (pExp u z 11))], ob 8 [.ref k0, .ref k1, .ref k2], aI (CxD X) 601 u.1, aI (CxD X) 601 (nf u.2.1), aJ (CxD X) 601 u.2.2, ob 7 [.ref x0, .ref x1, .ref x2, .ref x3, .ref x4, .ref x5, .int (nI (txSize ((pExp u z 11).2))), .int (nI (txRules ((pExp u z 11).2))), .int (nI (txTraits ((pExp u z 11).2)))], aI (CxD X) 600 ((pExp u z 11).2.1), aZ (CxD X) 20 (zf ((pExp u z 11).2.2.1)), aI (CxD X) 20 (nf ((pExp u z 11).2.2.2.1)), aI (CxD X) 20 (nf ((pExp u z 11).2.2.2.2.1)), aI (CxD X) 20 (nf ((pExp u z 11).2.2.2.2.2.1)), aJ (CxD X) 8 ((pExp u z 11).2.2.2.2.2.2.1)] 49 [(0, .ref pa), (1, .int (nI (txSize z.2))), (2, .int (nI (txSize z.2))), (3, .int (b2 (pSees u z 11)))] []
      generalize he1 : (pExp u z 11) = z1
      have ok1 : zOk z1 := by rw [← he1]; exact (pExp_pr).1 hz
      refine r_iload_n (n := 50) hX dX4_readRule_49 rfl rfl 3 rfl ?_
      refine r_if_eq_b (tgt := 60) (n := 53) hX dX4_readRule_50 (by decide) rfl (fun c50 => absurd c50 (by rw [c36]; decide)) (fun c50 => ?_)
      refine r_aload_n (n := 54) hX dX4_readRule_53 rfl rfl 0 rfl ?_
      refine r_callV (n := 57) (av := []) hX (condC 8 (CxL X) (CxD X) pa tk k0 k1 k2 tx x0 x1 x2 x3 x4 x5 u z1 ok1 (by omega)) ml_X4_92 cv_X4_readCond rfl (by omega) [0, 1, 2, 3, 4, 5, 6, 7, 8, 9, 10, 11] rfl rfl (by decide) 0 rfl rfl rfl rfl rfl (Nat.le_of_ble_eq_true rfl) dX4_readRule_54 rfl (fun r_ es_ h_ l_ => ?_)
      obtain ⟨rfl, rfl⟩ := h_
      show Aw X [pa, tk, k0, k1, k2, tx, x0, x1, x2, x3, x4, x5] [ob 4 [.ref tk, .ref tx, .int (nI (zAt (rCond u 8 z1))), .int (nI (zOpen (rCond u 8 z1))), .int (zFault (rCond u 8 z1)), .int (zLate (rCond u 8 z1)), .int (zLateP (rCond u 8 z1)), .int (zFaultP (rCond u 8 z1))], ob 8 [.ref k0, .ref k1, .ref k2], aI (CxD X) 601 u.1, aI (CxD X) 601 (nf u.2.1), aJ (CxD X) 601 u.2.2, ob 7 [.ref x0, .ref x1, .ref x2, .ref x3, .ref x4, .ref x5, .int (nI (txSize ((rCond u 8 z1).2))), .int (nI (txRules ((rCond u 8 z1).2))), .int (nI (txTraits ((rCond u 8 z1).2)))], aI (CxD X) 600 ((rCond u 8 z1).2.1), aZ (CxD X) 20 (zf ((rCond u 8 z1).2.2.1)), aI (CxD X) 20 (nf ((rCond u 8 z1).2.2.2.1)), aI (CxD X) 20 (nf ((rCond u 8 z1).2.2.2.2.1)), aI (CxD X) 20 (nf ((rCond u 8 z1).2.2.2.2.2.1)), aJ (CxD X) 8 ((rCond u 8 z1).2.2.2.2.2.2.1)] 57 [(0, .ref pa), (1, .int (nI (txSize z.2))), (2, .int (nI (txSize z.2))), (3, .int (b2 (pSees u z 11)))] []
      generalize he2 : (rCond u 8 z1) = z2
      have ok2 : zOk z2 := by rw [← he2]; exact (rCond_pr 8 _).1 ok1
      refine r_goto (tgt := 85) hX dX4_readRule_57 (by decide) ?_
      refine r_aload_n (n := 86) hX dX4_readRule_85 rfl rfl 0 rfl ?_
      refine r_bipush (n := 88) hX 59 dX4_readRule_86 rfl rfl ?_
      refine r_callV (n := 91) (av := [.int 59]) hX (ct_X4_expect (CxL X) (CxD X) pa tk k0 k1 k2 tx x0 x1 x2 x3 x4 x5 u z2 59 ok2) ml_X4_68 cv_X4_expect rfl (by decide) [0, 1, 2, 3, 4, 5, 6, 7, 8, 9, 10, 11] rfl rfl (by decide) 0 rfl rfl rfl rfl rfl (Nat.le_of_ble_eq_true rfl) dX4_readRule_88 rfl (fun r_ es_ h_ l_ => ?_)
      obtain ⟨rfl, rfl⟩ := h_
      show Aw X [pa, tk, k0, k1, k2, tx, x0, x1, x2, x3, x4, x5] [ob 4 [.ref tk, .ref tx, .int (nI (zAt (pExp u z2 59))), .int (nI (zOpen (pExp u z2 59))), .int (zFault (pExp u z2 59)), .int (zLate (pExp u z2 59)), .int (zLateP (pExp u z2 59)), .int (zFaultP (pExp u z2 59))], ob 8 [.ref k0, .ref k1, .ref k2], aI (CxD X) 601 u.1, aI (CxD X) 601 (nf u.2.1), aJ (CxD X) 601 u.2.2, ob 7 [.ref x0, .ref x1, .ref x2, .ref x3, .ref x4, .ref x5, .int (nI (txSize ((pExp u z2 59).2))), .int (nI (txRules ((pExp u z2 59).2))), .int (nI (txTraits ((pExp u z2 59).2)))], aI (CxD X) 600 ((pExp u z2 59).2.1), aZ (CxD X) 20 (zf ((pExp u z2 59).2.2.1)), aI (CxD X) 20 (nf ((pExp u z2 59).2.2.2.1)), aI (CxD X) 20 (nf ((pExp u z2 59).2.2.2.2.1)), aI (CxD X) 20 (nf ((pExp u z2 59).2.2.2.2.2.1)), aJ (CxD X) 8 ((pExp u z2 59).2.2.2.2.2.2.1)] 91 [(0, .ref pa), (1, .int (nI (txSize z.2))), (2, .int (nI (txSize z.2))), (3, .int (b2 (pSees u z 11)))] []
      generalize he3 : (pExp u z2 59) = z3
      have ok3 : zOk z3 := by rw [← he3]; exact (pExp_pr).1 ok2
      refine r_aload_n (n := 92) hX dX4_readRule_91 rfl rfl 0 rfl ?_
      refine r_get (n := 95) hX 0 rfl rfl rfl 1 (by decide) lay_X4 fl_X4_21 rfl dX4_readRule_92 rfl ?_
      refine r_iload_n (n := 96) hX dX4_readRule_95 rfl rfl 3 rfl ?_
      refine r_iload_n (n := 97) hX dX4_readRule_96 rfl rfl 1 rfl ?_
      refine r_iload_n (n := 98) hX dX4_readRule_97 rfl rfl 2 rfl ?_
      refine r_callV (n := 101) (av := [.int (b2 (pSees u z 11)), .int (nI (txSize z.2)), .int (nI (txSize z.2))]) hX (ct_X7_addRule (CxL X) (CxD X) tx x0 x1 x2 x3 x4 x5 z3.2 (pSees u z 11) (txSize z.2) (txSize z.2) ok3.2.2.2.1) ml_X4_101 cv_X7_addRule rfl (by decide) [5, 6, 7, 8, 9, 10, 11] rfl rfl (by decide) 5 rfl rfl rfl rfl rfl (Nat.le_of_ble_eq_true rfl) dX4_readRule_98 rfl (fun r_ es_ h_ l_ => ?_)
      obtain ⟨rfl, rfl⟩ := h_
      show Aw X [pa, tk, k0, k1, k2, tx, x0, x1, x2, x3, x4, x5] [ob 4 [.ref tk, .ref tx, .int (nI (zAt (zAddR z3 (pSees u z 11) (txSize z.2) (txSize z.2)))), .int (nI (zOpen (zAddR z3 (pSees u z 11) (txSize z.2) (txSize z.2)))), .int (zFault (zAddR z3 (pSees u z 11) (txSize z.2) (txSize z.2))), .int (zLate (zAddR z3 (pSees u z 11) (txSize z.2) (txSize z.2))), .int (zLateP (zAddR z3 (pSees u z 11) (txSize z.2) (txSize z.2))), .int (zFaultP (zAddR z3 (pSees u z 11) (txSize z.2) (txSize z.2)))], ob 8 [.ref k0, .ref k1, .ref k2], aI (CxD X) 601 u.1, aI (CxD X) 601 (nf u.2.1), aJ (CxD X) 601 u.2.2, ob 7 [.ref x0, .ref x1, .ref x2, .ref x3, .ref x4, .ref x5, .int (nI (txSize ((zAddR z3 (pSees u z 11) (txSize z.2) (txSize z.2)).2))), .int (nI (txRules ((zAddR z3 (pSees u z 11) (txSize z.2) (txSize z.2)).2))), .int (nI (txTraits ((zAddR z3 (pSees u z 11) (txSize z.2) (txSize z.2)).2)))], aI (CxD X) 600 ((zAddR z3 (pSees u z 11) (txSize z.2) (txSize z.2)).2.1), aZ (CxD X) 20 (zf ((zAddR z3 (pSees u z 11) (txSize z.2) (txSize z.2)).2.2.1)), aI (CxD X) 20 (nf ((zAddR z3 (pSees u z 11) (txSize z.2) (txSize z.2)).2.2.2.1)), aI (CxD X) 20 (nf ((zAddR z3 (pSees u z 11) (txSize z.2) (txSize z.2)).2.2.2.2.1)), aI (CxD X) 20 (nf ((zAddR z3 (pSees u z 11) (txSize z.2) (txSize z.2)).2.2.2.2.2.1)), aJ (CxD X) 8 ((zAddR z3 (pSees u z 11) (txSize z.2) (txSize z.2)).2.2.2.2.2.2.1)] 101 [(0, .ref pa), (1, .int (nI (txSize z.2))), (2, .int (nI (txSize z.2))), (3, .int (b2 (pSees u z 11)))] []
      generalize he4 : (zAddR z3 (pSees u z 11) (txSize z.2) (txSize z.2)) = z4
      have ok4 : zOk z4 := by rw [← he4]; exact zAddR_ok ok3
      exact r_return hX hR dX4_readRule_101 ⟨rfl, by rw [show rRuD u z = z4 from (by subst he4; subst he3; subst he2; subst he1; rw [rRuD, rRu1]; (first | rw [if_pos c9] | rw [if_neg c9]); rw [if_pos c36, rRuB, c36])]⟩
  · skip
    refine r_aload_n (n := 13) hX dX4_readRule_12 rfl rfl 0 rfl ?_
    refine r_iconst (n := 14) hX 2 dX4_readRule_13 rfl rfl ?_
    refine r_callV (n := 17) (av := [.int 2]) hX (ct_X4_fail (CxL X) (CxD X) pa tk k0 k1 k2 tx x0 x1 x2 x3 x4 x5 u z 2 hz) ml_X4_61 cv_X4_fail rfl (by decide) [0, 1, 2, 3, 4, 5, 6, 7, 8, 9, 10, 11] rfl rfl (by decide) 0 rfl rfl rfl rfl rfl (Nat.le_of_ble_eq_true rfl) dX4_readRule_14 rfl (fun r_ es_ h_ l_ => ?_)
    obtain ⟨rfl, rfl⟩ := h_
    show Aw X [pa, tk, k0, k1, k2, tx, x0, x1, x2, x3, x4, x5] [ob 4 [.ref tk, .ref tx, .int (nI (zAt (pFail u z 2))), .int (nI (zOpen (pFail u z 2))), .int (zFault (pFail u z 2)), .int (zLate (pFail u z 2)), .int (zLateP (pFail u z 2)), .int (zFaultP (pFail u z 2))], ob 8 [.ref k0, .ref k1, .ref k2], aI (CxD X) 601 u.1, aI (CxD X) 601 (nf u.2.1), aJ (CxD X) 601 u.2.2, ob 7 [.ref x0, .ref x1, .ref x2, .ref x3, .ref x4, .ref x5, .int (nI (txSize ((pFail u z 2).2))), .int (nI (txRules ((pFail u z 2).2))), .int (nI (txTraits ((pFail u z 2).2)))], aI (CxD X) 600 ((pFail u z 2).2.1), aZ (CxD X) 20 (zf ((pFail u z 2).2.2.1)), aI (CxD X) 20 (nf ((pFail u z 2).2.2.2.1)), aI (CxD X) 20 (nf ((pFail u z 2).2.2.2.2.1)), aI (CxD X) 20 (nf ((pFail u z 2).2.2.2.2.2.1)), aJ (CxD X) 8 ((pFail u z 2).2.2.2.2.2.2.1)] 17 [(0, .ref pa)] []
    generalize he1 : (pFail u z 2) = z1
    have ok1 : zOk z1 := by rw [← he1]; exact (pFail_pr).1 hz
    refine r_aload_n (n := 18) hX dX4_readRule_17 rfl rfl 0 rfl ?_
    refine r_get (n := 21) hX 0 rfl rfl rfl 1 (by decide) lay_X4 fl_X4_21 rfl dX4_readRule_18 rfl ?_
    refine r_get (n := 24) hX 5 rfl rfl rfl 6 (by decide) lay_X7 fl_X4_89 rfl dX4_readRule_21 rfl ?_
    refine r_istore_n (n := 25) hX [(0, .ref pa), (1, .int (nI (txSize z1.2)))] dX4_readRule_24 rfl rfl (by decide) rfl ?_
    refine r_iload_n (n := 26) hX dX4_readRule_25 rfl rfl 1 rfl ?_
    refine r_istore_n (n := 27) hX [(0, .ref pa), (1, .int (nI (txSize z1.2))), (2, .int (nI (txSize z1.2)))] dX4_readRule_26 rfl rfl (by decide) rfl ?_
    refine r_aload_n (n := 28) hX dX4_readRule_27 rfl rfl 0 rfl ?_
    refine r_bipush (n := 30) hX 11 dX4_readRule_28 rfl rfl ?_
    refine r_callV (n := 33) (av := [.int 11]) hX (ct_X4_sees (CxL X) (CxD X) pa tk k0 k1 k2 tx x0 x1 x2 x3 x4 x5 u z1 11 ok1) ml_X4_51 cv_X4_sees rfl (by decide) [0, 1, 2, 3, 4, 5, 6, 7, 8, 9, 10, 11] rfl rfl (by decide) 0 rfl rfl rfl rfl rfl (Nat.le_of_ble_eq_true rfl) dX4_readRule_30 rfl (fun r_ es_ h_ l_ => ?_)
    obtain ⟨rfl, rfl⟩ := h_
    show Aw X [pa, tk, k0, k1, k2, tx, x0, x1, x2, x3, x4, x5] [ob 4 [.ref tk, .ref tx, .int (nI (zAt z1)), .int (nI (zOpen z1)), .int (zFault z1), .int (zLate z1), .int (zLateP z1), .int (zFaultP z1)], ob 8 [.ref k0, .ref k1, .ref k2], aI (CxD X) 601 u.1, aI (CxD X) 601 (nf u.2.1), aJ (CxD X) 601 u.2.2, ob 7 [.ref x0, .ref x1, .ref x2, .ref x3, .ref x4, .ref x5, .int (nI (txSize z1.2)), .int (nI (txRules z1.2)), .int (nI (txTraits z1.2))], aI (CxD X) 600 z1.2.1, aZ (CxD X) 20 (zf z1.2.2.1), aI (CxD X) 20 (nf z1.2.2.2.1), aI (CxD X) 20 (nf z1.2.2.2.2.1), aI (CxD X) 20 (nf z1.2.2.2.2.2.1), aJ (CxD X) 8 z1.2.2.2.2.2.2.1] 33 [(0, .ref pa), (1, .int (nI (txSize z1.2))), (2, .int (nI (txSize z1.2)))] [.int (b2 (pSees u z1 11))]
    refine r_istore_n (n := 34) hX [(0, .ref pa), (1, .int (nI (txSize z1.2))), (2, .int (nI (txSize z1.2))), (3, .int (b2 (pSees u z1 11)))] dX4_readRule_33 rfl rfl (by decide) rfl ?_
    refine r_aload_n (n := 35) hX dX4_readRule_34 rfl rfl 0 rfl ?_
    refine r_iload_n (n := 36) hX dX4_readRule_35 rfl rfl 3 rfl ?_
    refine r_if_eq_b (tgt := 44) (n := 39) hX dX4_readRule_36 (by decide) rfl (fun c36 => ?_) (fun c36 => ?_)
    · skip
      refine r_bipush (n := 46) hX 12 dX4_readRule_44 rfl rfl ?_
      skip
      refine r_callV (n := 49) (av := [.int 12]) hX (ct_X4_expect (CxL X) (CxD X) pa tk k0 k1 k2 tx x0 x1 x2 x3 x4 x5 u z1 12 ok1) ml_X4_68 cv_X4_expect rfl (by decide) [0, 1, 2, 3, 4, 5, 6, 7, 8, 9, 10, 11] rfl rfl (by decide) 0 rfl rfl rfl rfl rfl (Nat.le_of_ble_eq_true rfl) dX4_readRule_46 rfl (fun r_ es_ h_ l_ => ?_)
      obtain ⟨rfl, rfl⟩ := h_
      show Aw X [pa, tk, k0, k1, k2, tx, x0, x1, x2, x3, x4, x5] [ob 4 [.ref tk, .ref tx, .int (nI (zAt (pExp u z1 12))), .int (nI (zOpen (pExp u z1 12))), .int (zFault (pExp u z1 12)), .int (zLate (pExp u z1 12)), .int (zLateP (pExp u z1 12)), .int (zFaultP (pExp u z1 12))], ob 8 [.ref k0, .ref k1, .ref k2], aI (CxD X) 601 u.1, aI (CxD X) 601 (nf u.2.1), aJ (CxD X) 601 u.2.2, ob 7 [.ref x0, .ref x1, .ref x2, .ref x3, .ref x4, .ref x5, .int (nI (txSize ((pExp u z1 12).2))), .int (nI (txRules ((pExp u z1 12).2))), .int (nI (txTraits ((pExp u z1 12).2)))], aI (CxD X) 600 ((pExp u z1 12).2.1), aZ (CxD X) 20 (zf ((pExp u z1 12).2.2.1)), aI (CxD X) 20 (nf ((pExp u z1 12).2.2.2.1)), aI (CxD X) 20 (nf ((pExp u z1 12).2.2.2.2.1)), aI (CxD X) 20 (nf ((pExp u z1 12).2.2.2.2.2.1)), aJ (CxD X) 8 ((pExp u z1 12).2.2.2.2.2.2.1)] 49 [(0, .ref pa), (1, .int (nI (txSize z1.2))), (2, .int (nI (txSize z1.2))), (3, .int (b2 (pSees u z1 11)))] []
      generalize he2 : (pExp u z1 12) = z2
      have ok2 : zOk z2 := by rw [← he2]; exact (pExp_pr).1 ok1
      refine r_iload_n (n := 50) hX dX4_readRule_49 rfl rfl 3 rfl ?_
      refine r_if_eq_b (tgt := 60) (n := 53) hX dX4_readRule_50 (by decide) rfl (fun c50 => ?_) (fun c50 => absurd c50 (by rw [c36]; decide))
      refine r_aload_n (n := 61) hX dX4_readRule_60 rfl rfl 0 rfl ?_
      refine r_callV (n := 64) (av := []) hX (sumC 8 (CxL X) (CxD X) pa tk k0 k1 k2 tx x0 x1 x2 x3 x4 x5 u z2 ok2 (by omega)) ml_X4_95 cv_X4_readSum rfl (by omega) [0, 1, 2, 3, 4, 5, 6, 7, 8, 9, 10, 11] rfl rfl (by decide) 0 rfl rfl rfl rfl rfl (Nat.le_of_ble_eq_true rfl) dX4_readRule_61 rfl (fun r_ es_ h_ l_ => ?_)
      obtain ⟨rfl, rfl⟩ := h_
      show Aw X [pa, tk, k0, k1, k2, tx, x0, x1, x2, x3, x4, x5] [ob 4 [.ref tk, .ref tx, .int (nI (zAt (rSum u 8 z2))), .int (nI (zOpen (rSum u 8 z2))), .int (zFault (rSum u 8 z2)), .int (zLate (rSum u 8 z2)), .int (zLateP (rSum u 8 z2)), .int (zFaultP (rSum u 8 z2))], ob 8 [.ref k0, .ref k1, .ref k2], aI (CxD X) 601 u.1, aI (CxD X) 601 (nf u.2.1), aJ (CxD X) 601 u.2.2, ob 7 [.ref x0, .ref x1, .ref x2, .ref x3, .ref x4, .ref x5, .int (nI (txSize ((rSum u 8 z2).2))), .int (nI (txRules ((rSum u 8 z2).2))), .int (nI (txTraits ((rSum u 8 z2).2)))], aI (CxD X) 600 ((rSum u 8 z2).2.1), aZ (CxD X) 20 (zf ((rSum u 8 z2).2.2.1)), aI (CxD X) 20 (nf ((rSum u 8 z2).2.2.2.1)), aI (CxD X) 20 (nf ((rSum u 8 z2).2.2.2.2.1)), aI (CxD X) 20 (nf ((rSum u 8 z2).2.2.2.2.2.1)), aJ (CxD X) 8 ((rSum u 8 z2).2.2.2.2.2.2.1)] 64 [(0, .ref pa), (1, .int (nI (txSize z1.2))), (2, .int (nI (txSize z1.2))), (3, .int (b2 (pSees u z1 11)))] []
      generalize he3 : (rSum u 8 z2) = z3
      have ok3 : zOk z3 := by rw [← he3]; exact (rSum_pr 8 _).1 ok2
      refine r_aload_n (n := 65) hX dX4_readRule_64 rfl rfl 0 rfl ?_
      refine r_get (n := 68) hX 0 rfl rfl rfl 1 (by decide) lay_X4 fl_X4_21 rfl dX4_readRule_65 rfl ?_
      refine r_get (n := 71) hX 5 rfl rfl rfl 6 (by decide) lay_X7 fl_X4_89 rfl dX4_readRule_68 rfl ?_
      refine r_istore_n (n := 72) hX [(0, .ref pa), (1, .int (nI (txSize z1.2))), (2, .int (nI (txSize z3.2))), (3, .int (b2 (pSees u z1 11)))] dX4_readRule_71 rfl rfl (by decide) rfl ?_
      refine r_aload_n (n := 73) hX dX4_readRule_72 rfl rfl 0 rfl ?_
      refine r_bipush (n := 75) hX 13 dX4_readRule_73 rfl rfl ?_
      refine r_callV (n := 78) (av := [.int 13]) hX (ct_X4_accepts (CxL X) (CxD X) pa tk k0 k1 k2 tx x0 x1 x2 x3 x4 x5 u z3 13 ok3) ml_X4_98 cv_X4_accepts rfl (by decide) [0, 1, 2, 3, 4, 5, 6, 7, 8, 9, 10, 11] rfl rfl (by decide) 0 rfl rfl rfl rfl rfl (Nat.le_of_ble_eq_true rfl) dX4_readRule_75 rfl (fun r_ es_ h_ l_ => ?_)
      obtain ⟨rfl, rfl⟩ := h_
      show Aw X [pa, tk, k0, k1, k2, tx, x0, x1, x2, x3, x4, x5] [ob 4 [.ref tk, .ref tx, .int (nI (zAt (pAccZ u z3 13))), .int (nI (zOpen (pAccZ u z3 13))), .int (zFault (pAccZ u z3 13)), .int (zLate (pAccZ u z3 13)), .int (zLateP (pAccZ u z3 13)), .int (zFaultP (pAccZ u z3 13))], ob 8 [.ref k0, .ref k1, .ref k2], aI (CxD X) 601 u.1, aI (CxD X) 601 (nf u.2.1), aJ (CxD X) 601 u.2.2, ob 7 [.ref x0, .ref x1, .ref x2, .ref x3, .ref x4, .ref x5, .int (nI (txSize ((pAccZ u z3 13).2))), .int (nI (txRules ((pAccZ u z3 13).2))), .int (nI (txTraits ((pAccZ u z3 13).2)))], aI (CxD X) 600 ((pAccZ u z3 13).2.1), aZ (CxD X) 20 (zf ((pAccZ u z3 13).2.2.1)), aI (CxD X) 20 (nf ((pAccZ u z3 13).2.2.2.1)), aI (CxD X) 20 (nf ((pAccZ u z3 13).2.2.2.2.1)), aI (CxD X) 20 (nf ((pAccZ u z3 13).2.2.2.2.2.1)), aJ (CxD X) 8 ((pAccZ u z3 13).2.2.2.2.2.2.1)] 78 [(0, .ref pa), (1, .int (nI (txSize z1.2))), (2, .int (nI (txSize z3.2))), (3, .int (b2 (pSees u z1 11)))] [.int (b2 (pAccB u z3 13))]
      generalize he4 : (pAccZ u z3 13) = z4
      have ok4 : zOk z4 := by rw [← he4]; exact (pAccZ_pr).1 ok3
      refine r_if_eq_b (tgt := 85) (n := 81) hX dX4_readRule_78 (by decide) rfl (fun c78 => ?_) (fun c78 => ?_)
      · skip
        refine r_aload_n (n := 86) hX dX4_readRule_85 rfl rfl 0 rfl ?_
        refine r_bipush (n := 88) hX 59 dX4_readRule_86 rfl rfl ?_
        refine r_callV (n := 91) (av := [.int 59]) hX (ct_X4_expect (CxL X) (CxD X) pa tk k0 k1 k2 tx x0 x1 x2 x3 x4 x5 u z4 59 ok4) ml_X4_68 cv_X4_expect rfl (by decide) [0, 1, 2, 3, 4, 5, 6, 7, 8, 9, 10, 11] rfl rfl (by decide) 0 rfl rfl rfl rfl rfl (Nat.le_of_ble_eq_true rfl) dX4_readRule_88 rfl (fun r_ es_ h_ l_ => ?_)
        obtain ⟨rfl, rfl⟩ := h_
        show Aw X [pa, tk, k0, k1, k2, tx, x0, x1, x2, x3, x4, x5] [ob 4 [.ref tk, .ref tx, .int (nI (zAt (pExp u z4 59))), .int (nI (zOpen (pExp u z4 59))), .int (zFault (pExp u z4 59)), .int (zLate (pExp u z4 59)), .int (zLateP (pExp u z4 59)), .int (zFaultP (pExp u z4 59))], ob 8 [.ref k0, .ref k1, .ref k2], aI (CxD X) 601 u.1, aI (CxD X) 601 (nf u.2.1), aJ (CxD X) 601 u.2.2, ob 7 [.ref x0, .ref x1, .ref x2, .ref x3, .ref x4, .ref x5, .int (nI (txSize ((pExp u z4 59).2))), .int (nI (txRules ((pExp u z4 59).2))), .int (nI (txTraits ((pExp u z4 59).2)))], aI (CxD X) 600 ((pExp u z4 59).2.1), aZ (CxD X) 20 (zf ((pExp u z4 59).2.2.1)), aI (CxD X) 20 (nf ((pExp u z4 59).2.2.2.1)), aI (CxD X) 20 (nf ((pExp u z4 59).2.2.2.2.1)), aI (CxD X) 20 (nf ((pExp u z4 59).2.2.2.2.2.1)), aJ (CxD X) 8 ((pExp u z4 59).2.2.2.2.2.2.1)] 91 [(0, .ref pa), (1, .int (nI (txSize z1.2))), (2, .int (nI (txSize z3.2))), (3, .int (b2 (pSees u z1 11)))] []
        generalize he5 : (pExp u z4 59) = z5
        have ok5 : zOk z5 := by rw [← he5]; exact (pExp_pr).1 ok4
        refine r_aload_n (n := 92) hX dX4_readRule_91 rfl rfl 0 rfl ?_
        refine r_get (n := 95) hX 0 rfl rfl rfl 1 (by decide) lay_X4 fl_X4_21 rfl dX4_readRule_92 rfl ?_
        refine r_iload_n (n := 96) hX dX4_readRule_95 rfl rfl 3 rfl ?_
        refine r_iload_n (n := 97) hX dX4_readRule_96 rfl rfl 1 rfl ?_
        refine r_iload_n (n := 98) hX dX4_readRule_97 rfl rfl 2 rfl ?_
        refine r_callV (n := 101) (av := [.int (b2 (pSees u z1 11)), .int (nI (txSize z1.2)), .int (nI (txSize z3.2))]) hX (ct_X7_addRule (CxL X) (CxD X) tx x0 x1 x2 x3 x4 x5 z5.2 (pSees u z1 11) (txSize z1.2) (txSize z3.2) ok5.2.2.2.1) ml_X4_101 cv_X7_addRule rfl (by decide) [5, 6, 7, 8, 9, 10, 11] rfl rfl (by decide) 5 rfl rfl rfl rfl rfl (Nat.le_of_ble_eq_true rfl) dX4_readRule_98 rfl (fun r_ es_ h_ l_ => ?_)
        obtain ⟨rfl, rfl⟩ := h_
        show Aw X [pa, tk, k0, k1, k2, tx, x0, x1, x2, x3, x4, x5] [ob 4 [.ref tk, .ref tx, .int (nI (zAt (zAddR z5 (pSees u z1 11) (txSize z1.2) (txSize z3.2)))), .int (nI (zOpen (zAddR z5 (pSees u z1 11) (txSize z1.2) (txSize z3.2)))), .int (zFault (zAddR z5 (pSees u z1 11) (txSize z1.2) (txSize z3.2))), .int (zLate (zAddR z5 (pSees u z1 11) (txSize z1.2) (txSize z3.2))), .int (zLateP (zAddR z5 (pSees u z1 11) (txSize z1.2) (txSize z3.2))), .int (zFaultP (zAddR z5 (pSees u z1 11) (txSize z1.2) (txSize z3.2)))], ob 8 [.ref k0, .ref k1, .ref k2], aI (CxD X) 601 u.1, aI (CxD X) 601 (nf u.2.1), aJ (CxD X) 601 u.2.2, ob 7 [.ref x0, .ref x1, .ref x2, .ref x3, .ref x4, .ref x5, .int (nI (txSize ((zAddR z5 (pSees u z1 11) (txSize z1.2) (txSize z3.2)).2))), .int (nI (txRules ((zAddR z5 (pSees u z1 11) (txSize z1.2) (txSize z3.2)).2))), .int (nI (txTraits ((zAddR z5 (pSees u z1 11) (txSize z1.2) (txSize z3.2)).2)))], aI (CxD X) 600 ((zAddR z5 (pSees u z1 11) (txSize z1.2) (txSize z3.2)).2.1), aZ (CxD X) 20 (zf ((zAddR z5 (pSees u z1 11) (txSize z1.2) (txSize z3.2)).2.2.1)), aI (CxD X) 20 (nf ((zAddR z5 (pSees u z1 11) (txSize z1.2) (txSize z3.2)).2.2.2.1)), aI (CxD X) 20 (nf ((zAddR z5 (pSees u z1 11) (txSize z1.2) (txSize z3.2)).2.2.2.2.1)), aI (CxD X) 20 (nf ((zAddR z5 (pSees u z1 11) (txSize z1.2) (txSize z3.2)).2.2.2.2.2.1)), aJ (CxD X) 8 ((zAddR z5 (pSees u z1 11) (txSize z1.2) (txSize z3.2)).2.2.2.2.2.2.1)] 101 [(0, .ref pa), (1, .int (nI (txSize z1.2))), (2, .int (nI (txSize z3.2))), (3, .int (b2 (pSees u z1 11)))] []
        generalize he6 : (zAddR z5 (pSees u z1 11) (txSize z1.2) (txSize z3.2)) = z6
        have ok6 : zOk z6 := by rw [← he6]; exact zAddR_ok ok5
        exact r_return hX hR dX4_readRule_101 ⟨rfl, by rw [show rRuD u z = z6 from (by subst he6; subst he5; subst he4; subst he3; subst he2; subst he1; rw [rRuD, rRu1]; (first | rw [if_pos c9] | rw [if_neg c9]); rw [if_neg (by rw [c36]; decide), rRuC, rRuI]; (first | rw [if_pos c78] | rw [if_neg (by rw [c78]; decide)]); rw [c36])]⟩
      · skip
        refine r_aload_n (n := 82) hX dX4_readRule_81 rfl rfl 0 rfl ?_
        refine r_callV (n := 85) (av := []) hX (condC 8 (CxL X) (CxD X) pa tk k0 k1 k2 tx x0 x1 x2 x3 x4 x5 u z4 ok4 (by omega)) ml_X4_92 cv_X4_readCond rfl (by omega) [0, 1, 2, 3, 4, 5, 6, 7, 8, 9, 10, 11] rfl rfl (by decide) 0 rfl rfl rfl rfl rfl (Nat.le_of_ble_eq_true rfl) dX4_readRule_82 rfl (fun r_ es_ h_ l_ => ?_)
        obtain ⟨rfl, rfl⟩ := h_
        show Aw X [pa, tk, k0, k1, k2, tx, x0, x1, x2, x3, x4, x5] [ob 4 [.ref tk, .ref tx, .int (nI (zAt (rCond u 8 z4))), .int (nI (zOpen (rCond u 8 z4))), .int (zFault (rCond u 8 z4)), .int (zLate (rCond u 8 z4)), .int (zLateP (rCond u 8 z4)), .int (zFaultP (rCond u 8 z4))], ob 8 [.ref k0, .ref k1, .ref k2], aI (CxD X) 601 u.1, aI (CxD X) 601 (nf u.2.1), aJ (CxD X) 601 u.2.2, ob 7 [.ref x0, .ref x1, .ref x2, .ref x3, .ref x4, .ref x5, .int (nI (txSize ((rCond u 8 z4).2))), .int (nI (txRules ((rCond u 8 z4).2))), .int (nI (txTraits ((rCond u 8 z4).2)))], aI (CxD X) 600 ((rCond u 8 z4).2.1), aZ (CxD X) 20 (zf ((rCond u 8 z4).2.2.1)), aI (CxD X) 20 (nf ((rCond u 8 z4).2.2.2.1)), aI (CxD X) 20 (nf ((rCond u 8 z4).2.2.2.2.1)), aI (CxD X) 20 (nf ((rCond u 8 z4).2.2.2.2.2.1)), aJ (CxD X) 8 ((rCond u 8 z4).2.2.2.2.2.2.1)] 85 [(0, .ref pa), (1, .int (nI (txSize z1.2))), (2, .int (nI (txSize z3.2))), (3, .int (b2 (pSees u z1 11)))] []
        generalize he5 : (rCond u 8 z4) = z5
        have ok5 : zOk z5 := by rw [← he5]; exact (rCond_pr 8 _).1 ok4
        refine r_aload_n (n := 86) hX dX4_readRule_85 rfl rfl 0 rfl ?_
        refine r_bipush (n := 88) hX 59 dX4_readRule_86 rfl rfl ?_
        refine r_callV (n := 91) (av := [.int 59]) hX (ct_X4_expect (CxL X) (CxD X) pa tk k0 k1 k2 tx x0 x1 x2 x3 x4 x5 u z5 59 ok5) ml_X4_68 cv_X4_expect rfl (by decide) [0, 1, 2, 3, 4, 5, 6, 7, 8, 9, 10, 11] rfl rfl (by decide) 0 rfl rfl rfl rfl rfl (Nat.le_of_ble_eq_true rfl) dX4_readRule_88 rfl (fun r_ es_ h_ l_ => ?_)
        obtain ⟨rfl, rfl⟩ := h_
        show Aw X [pa, tk, k0, k1, k2, tx, x0, x1, x2, x3, x4, x5] [ob 4 [.ref tk, .ref tx, .int (nI (zAt (pExp u z5 59))), .int (nI (zOpen (pExp u z5 59))), .int (zFault (pExp u z5 59)), .int (zLate (pExp u z5 59)), .int (zLateP (pExp u z5 59)), .int (zFaultP (pExp u z5 59))], ob 8 [.ref k0, .ref k1, .ref k2], aI (CxD X) 601 u.1, aI (CxD X) 601 (nf u.2.1), aJ (CxD X) 601 u.2.2, ob 7 [.ref x0, .ref x1, .ref x2, .ref x3, .ref x4, .ref x5, .int (nI (txSize ((pExp u z5 59).2))), .int (nI (txRules ((pExp u z5 59).2))), .int (nI (txTraits ((pExp u z5 59).2)))], aI (CxD X) 600 ((pExp u z5 59).2.1), aZ (CxD X) 20 (zf ((pExp u z5 59).2.2.1)), aI (CxD X) 20 (nf ((pExp u z5 59).2.2.2.1)), aI (CxD X) 20 (nf ((pExp u z5 59).2.2.2.2.1)), aI (CxD X) 20 (nf ((pExp u z5 59).2.2.2.2.2.1)), aJ (CxD X) 8 ((pExp u z5 59).2.2.2.2.2.2.1)] 91 [(0, .ref pa), (1, .int (nI (txSize z1.2))), (2, .int (nI (txSize z3.2))), (3, .int (b2 (pSees u z1 11)))] []
        generalize he6 : (pExp u z5 59) = z6
        have ok6 : zOk z6 := by rw [← he6]; exact (pExp_pr).1 ok5
        refine r_aload_n (n := 92) hX dX4_readRule_91 rfl rfl 0 rfl ?_
        refine r_get (n := 95) hX 0 rfl rfl rfl 1 (by decide) lay_X4 fl_X4_21 rfl dX4_readRule_92 rfl ?_
        refine r_iload_n (n := 96) hX dX4_readRule_95 rfl rfl 3 rfl ?_
        refine r_iload_n (n := 97) hX dX4_readRule_96 rfl rfl 1 rfl ?_
        refine r_iload_n (n := 98) hX dX4_readRule_97 rfl rfl 2 rfl ?_
        refine r_callV (n := 101) (av := [.int (b2 (pSees u z1 11)), .int (nI (txSize z1.2)), .int (nI (txSize z3.2))]) hX (ct_X7_addRule (CxL X) (CxD X) tx x0 x1 x2 x3 x4 x5 z6.2 (pSees u z1 11) (txSize z1.2) (txSize z3.2) ok6.2.2.2.1) ml_X4_101 cv_X7_addRule rfl (by decide) [5, 6, 7, 8, 9, 10, 11] rfl rfl (by decide) 5 rfl rfl rfl rfl rfl (Nat.le_of_ble_eq_true rfl) dX4_readRule_98 rfl (fun r_ es_ h_ l_ => ?_)
        obtain ⟨rfl, rfl⟩ := h_
        show Aw X [pa, tk, k0, k1, k2, tx, x0, x1, x2, x3, x4, x5] [ob 4 [.ref tk, .ref tx, .int (nI (zAt (zAddR z6 (pSees u z1 11) (txSize z1.2) (txSize z3.2)))), .int (nI (zOpen (zAddR z6 (pSees u z1 11) (txSize z1.2) (txSize z3.2)))), .int (zFault (zAddR z6 (pSees u z1 11) (txSize z1.2) (txSize z3.2))), .int (zLate (zAddR z6 (pSees u z1 11) (txSize z1.2) (txSize z3.2))), .int (zLateP (zAddR z6 (pSees u z1 11) (txSize z1.2) (txSize z3.2))), .int (zFaultP (zAddR z6 (pSees u z1 11) (txSize z1.2) (txSize z3.2)))], ob 8 [.ref k0, .ref k1, .ref k2], aI (CxD X) 601 u.1, aI (CxD X) 601 (nf u.2.1), aJ (CxD X) 601 u.2.2, ob 7 [.ref x0, .ref x1, .ref x2, .ref x3, .ref x4, .ref x5, .int (nI (txSize ((zAddR z6 (pSees u z1 11) (txSize z1.2) (txSize z3.2)).2))), .int (nI (txRules ((zAddR z6 (pSees u z1 11) (txSize z1.2) (txSize z3.2)).2))), .int (nI (txTraits ((zAddR z6 (pSees u z1 11) (txSize z1.2) (txSize z3.2)).2)))], aI (CxD X) 600 ((zAddR z6 (pSees u z1 11) (txSize z1.2) (txSize z3.2)).2.1), aZ (CxD X) 20 (zf ((zAddR z6 (pSees u z1 11) (txSize z1.2) (txSize z3.2)).2.2.1)), aI (CxD X) 20 (nf ((zAddR z6 (pSees u z1 11) (txSize z1.2) (txSize z3.2)).2.2.2.1)), aI (CxD X) 20 (nf ((zAddR z6 (pSees u z1 11) (txSize z1.2) (txSize z3.2)).2.2.2.2.1)), aI (CxD X) 20 (nf ((zAddR z6 (pSees u z1 11) (txSize z1.2) (txSize z3.2)).2.2.2.2.2.1)), aJ (CxD X) 8 ((zAddR z6 (pSees u z1 11) (txSize z1.2) (txSize z3.2)).2.2.2.2.2.2.1)] 101 [(0, .ref pa), (1, .int (nI (txSize z1.2))), (2, .int (nI (txSize z3.2))), (3, .int (b2 (pSees u z1 11)))] []
        generalize he7 : (zAddR z6 (pSees u z1 11) (txSize z1.2) (txSize z3.2)) = z7
        have ok7 : zOk z7 := by rw [← he7]; exact zAddR_ok ok6
        exact r_return hX hR dX4_readRule_101 ⟨rfl, by rw [show rRuD u z = z7 from (by subst he7; subst he6; subst he5; subst he4; subst he3; subst he2; subst he1; rw [rRuD, rRu1]; (first | rw [if_pos c9] | rw [if_neg c9]); rw [if_neg (by rw [c36]; decide), rRuC, rRuI]; (first | rw [if_pos c78] | rw [if_neg (by rw [c78]; decide)]); rw [c36])]⟩
    · skip
      refine r_bipush (n := 41) hX 11 dX4_readRule_39 rfl rfl ?_
      refine r_goto (tgt := 46) hX dX4_readRule_41 (by decide) ?_
      skip
      refine r_callV (n := 49) (av := [.int 11]) hX (ct_X4_expect (CxL X) (CxD X) pa tk k0 k1 k2 tx x0 x1 x2 x3 x4 x5 u z1 11 ok1) ml_X4_68 cv_X4_expect rfl (by decide) [0, 1, 2, 3, 4, 5, 6, 7, 8, 9, 10, 11] rfl rfl (by decide) 0 rfl rfl rfl rfl rfl (Nat.le_of_ble_eq_true rfl) dX4_readRule_46 rfl (fun r_ es_ h_ l_ => ?_)
      obtain ⟨rfl, rfl⟩ := h_
      show Aw X [pa, tk, k0, k1, k2, tx, x0, x1, x2, x3, x4, x5] [ob 4 [.ref tk, .ref tx, .int (nI (zAt (pExp u z1 11))), .int (nI (zOpen (pExp u z1 11))), .int (zFault (pExp u z1 11)), .int (zLate (pExp u z1 11)), .int (zLateP (pExp u z1 11)), .int (zFaultP (pExp u z1 11))], ob 8 [.ref k0, .ref k1, .ref k2], aI (CxD X) 601 u.1, aI (CxD X) 601 (nf u.2.1), aJ (CxD X) 601 u.2.2, ob 7 [.ref x0, .ref x1, .ref x2, .ref x3, .ref x4, .ref x5, .int (nI (txSize ((pExp u z1 11).2))), .int (nI (txRules ((pExp u z1 11).2))), .int (nI (txTraits ((pExp u z1 11).2)))], aI (CxD X) 600 ((pExp u z1 11).2.1), aZ (CxD X) 20 (zf ((pExp u z1 11).2.2.1)), aI (CxD X) 20 (nf ((pExp u z1 11).2.2.2.1)), aI (CxD X) 20 (nf ((pExp u z1 11).2.2.2.2.1)), aI (CxD X) 20 (nf ((pExp u z1 11).2.2.2.2.2.1)), aJ (CxD X) 8 ((pExp u z1 11).2.2.2.2.2.2.1)] 49 [(0, .ref pa), (1, .int (nI (txSize z1.2))), (2, .int (nI (txSize z1.2))), (3, .int (b2 (pSees u z1 11)))] []
      generalize he2 : (pExp u z1 11) = z2
      have ok2 : zOk z2 := by rw [← he2]; exact (pExp_pr).1 ok1
      refine r_iload_n (n := 50) hX dX4_readRule_49 rfl rfl 3 rfl ?_
      refine r_if_eq_b (tgt := 60) (n := 53) hX dX4_readRule_50 (by decide) rfl (fun c50 => absurd c50 (by rw [c36]; decide)) (fun c50 => ?_)
      refine r_aload_n (n := 54) hX dX4_readRule_53 rfl rfl 0 rfl ?_
      refine r_callV (n := 57) (av := []) hX (condC 8 (CxL X) (CxD X) pa tk k0 k1 k2 tx x0 x1 x2 x3 x4 x5 u z2 ok2 (by omega)) ml_X4_92 cv_X4_readCond rfl (by omega) [0, 1, 2, 3, 4, 5, 6, 7, 8, 9, 10, 11] rfl rfl (by decide) 0 rfl rfl rfl rfl rfl (Nat.le_of_ble_eq_true rfl) dX4_readRule_54 rfl (fun r_ es_ h_ l_ => ?_)
      obtain ⟨rfl, rfl⟩ := h_
      show Aw X [pa, tk, k0, k1, k2, tx, x0, x1, x2, x3, x4, x5] [ob 4 [.ref tk, .ref tx, .int (nI (zAt (rCond u 8 z2))), .int (nI (zOpen (rCond u 8 z2))), .int (zFault (rCond u 8 z2)), .int (zLate (rCond u 8 z2)), .int (zLateP (rCond u 8 z2)), .int (zFaultP (rCond u 8 z2))], ob 8 [.ref k0, .ref k1, .ref k2], aI (CxD X) 601 u.1, aI (CxD X) 601 (nf u.2.1), aJ (CxD X) 601 u.2.2, ob 7 [.ref x0, .ref x1, .ref x2, .ref x3, .ref x4, .ref x5, .int (nI (txSize ((rCond u 8 z2).2))), .int (nI (txRules ((rCond u 8 z2).2))), .int (nI (txTraits ((rCond u 8 z2).2)))], aI (CxD X) 600 ((rCond u 8 z2).2.1), aZ (CxD X) 20 (zf ((rCond u 8 z2).2.2.1)), aI (CxD X) 20 (nf ((rCond u 8 z2).2.2.2.1)), aI (CxD X) 20 (nf ((rCond u 8 z2).2.2.2.2.1)), aI (CxD X) 20 (nf ((rCond u 8 z2).2.2.2.2.2.1)), aJ (CxD X) 8 ((rCond u 8 z2).2.2.2.2.2.2.1)] 57 [(0, .ref pa), (1, .int (nI (txSize z1.2))), (2, .int (nI (txSize z1.2))), (3, .int (b2 (pSees u z1 11)))] []
      generalize he3 : (rCond u 8 z2) = z3
      have ok3 : zOk z3 := by rw [← he3]; exact (rCond_pr 8 _).1 ok2
      refine r_goto (tgt := 85) hX dX4_readRule_57 (by decide) ?_
      refine r_aload_n (n := 86) hX dX4_readRule_85 rfl rfl 0 rfl ?_
      refine r_bipush (n := 88) hX 59 dX4_readRule_86 rfl rfl ?_
      refine r_callV (n := 91) (av := [.int 59]) hX (ct_X4_expect (CxL X) (CxD X) pa tk k0 k1 k2 tx x0 x1 x2 x3 x4 x5 u z3 59 ok3) ml_X4_68 cv_X4_expect rfl (by decide) [0, 1, 2, 3, 4, 5, 6, 7, 8, 9, 10, 11] rfl rfl (by decide) 0 rfl rfl rfl rfl rfl (Nat.le_of_ble_eq_true rfl) dX4_readRule_88 rfl (fun r_ es_ h_ l_ => ?_)
      obtain ⟨rfl, rfl⟩ := h_
      show Aw X [pa, tk, k0, k1, k2, tx, x0, x1, x2, x3, x4, x5] [ob 4 [.ref tk, .ref tx, .int (nI (zAt (pExp u z3 59))), .int (nI (zOpen (pExp u z3 59))), .int (zFault (pExp u z3 59)), .int (zLate (pExp u z3 59)), .int (zLateP (pExp u z3 59)), .int (zFaultP (pExp u z3 59))], ob 8 [.ref k0, .ref k1, .ref k2], aI (CxD X) 601 u.1, aI (CxD X) 601 (nf u.2.1), aJ (CxD X) 601 u.2.2, ob 7 [.ref x0, .ref x1, .ref x2, .ref x3, .ref x4, .ref x5, .int (nI (txSize ((pExp u z3 59).2))), .int (nI (txRules ((pExp u z3 59).2))), .int (nI (txTraits ((pExp u z3 59).2)))], aI (CxD X) 600 ((pExp u z3 59).2.1), aZ (CxD X) 20 (zf ((pExp u z3 59).2.2.1)), aI (CxD X) 20 (nf ((pExp u z3 59).2.2.2.1)), aI (CxD X) 20 (nf ((pExp u z3 59).2.2.2.2.1)), aI (CxD X) 20 (nf ((pExp u z3 59).2.2.2.2.2.1)), aJ (CxD X) 8 ((pExp u z3 59).2.2.2.2.2.2.1)] 91 [(0, .ref pa), (1, .int (nI (txSize z1.2))), (2, .int (nI (txSize z1.2))), (3, .int (b2 (pSees u z1 11)))] []
      generalize he4 : (pExp u z3 59) = z4
      have ok4 : zOk z4 := by rw [← he4]; exact (pExp_pr).1 ok3
      refine r_aload_n (n := 92) hX dX4_readRule_91 rfl rfl 0 rfl ?_
      refine r_get (n := 95) hX 0 rfl rfl rfl 1 (by decide) lay_X4 fl_X4_21 rfl dX4_readRule_92 rfl ?_
      refine r_iload_n (n := 96) hX dX4_readRule_95 rfl rfl 3 rfl ?_
      refine r_iload_n (n := 97) hX dX4_readRule_96 rfl rfl 1 rfl ?_
      refine r_iload_n (n := 98) hX dX4_readRule_97 rfl rfl 2 rfl ?_
      refine r_callV (n := 101) (av := [.int (b2 (pSees u z1 11)), .int (nI (txSize z1.2)), .int (nI (txSize z1.2))]) hX (ct_X7_addRule (CxL X) (CxD X) tx x0 x1 x2 x3 x4 x5 z4.2 (pSees u z1 11) (txSize z1.2) (txSize z1.2) ok4.2.2.2.1) ml_X4_101 cv_X7_addRule rfl (by decide) [5, 6, 7, 8, 9, 10, 11] rfl rfl (by decide) 5 rfl rfl rfl rfl rfl (Nat.le_of_ble_eq_true rfl) dX4_readRule_98 rfl (fun r_ es_ h_ l_ => ?_)
      obtain ⟨rfl, rfl⟩ := h_
      show Aw X [pa, tk, k0, k1, k2, tx, x0, x1, x2, x3, x4, x5] [ob 4 [.ref tk, .ref tx, .int (nI (zAt (zAddR z4 (pSees u z1 11) (txSize z1.2) (txSize z1.2)))), .int (nI (zOpen (zAddR z4 (pSees u z1 11) (txSize z1.2) (txSize z1.2)))), .int (zFault (zAddR z4 (pSees u z1 11) (txSize z1.2) (txSize z1.2))), .int (zLate (zAddR z4 (pSees u z1 11) (txSize z1.2) (txSize z1.2))), .int (zLateP (zAddR z4 (pSees u z1 11) (txSize z1.2) (txSize z1.2))), .int (zFaultP (zAddR z4 (pSees u z1 11) (txSize z1.2) (txSize z1.2)))], ob 8 [.ref k0, .ref k1, .ref k2], aI (CxD X) 601 u.1, aI (CxD X) 601 (nf u.2.1), aJ (CxD X) 601 u.2.2, ob 7 [.ref x0, .ref x1, .ref x2, .ref x3, .ref x4, .ref x5, .int (nI (txSize ((zAddR z4 (pSees u z1 11) (txSize z1.2) (txSize z1.2)).2))), .int (nI (txRules ((zAddR z4 (pSees u z1 11) (txSize z1.2) (txSize z1.2)).2))), .int (nI (txTraits ((zAddR z4 (pSees u z1 11) (txSize z1.2) (txSize z1.2)).2)))], aI (CxD X) 600 ((zAddR z4 (pSees u z1 11) (txSize z1.2) (txSize z1.2)).2.1), aZ (CxD X) 20 (zf ((zAddR z4 (pSees u z1 11) (txSize z1.2) (txSize z1.2)).2.2.1)), aI (CxD X) 20 (nf ((zAddR z4 (pSees u z1 11) (txSize z1.2) (txSize z1.2)).2.2.2.1)), aI (CxD X) 20 (nf ((zAddR z4 (pSees u z1 11) (txSize z1.2) (txSize z1.2)).2.2.2.2.1)), aI (CxD X) 20 (nf ((zAddR z4 (pSees u z1 11) (txSize z1.2) (txSize z1.2)).2.2.2.2.2.1)), aJ (CxD X) 8 ((zAddR z4 (pSees u z1 11) (txSize z1.2) (txSize z1.2)).2.2.2.2.2.2.1)] 101 [(0, .ref pa), (1, .int (nI (txSize z1.2))), (2, .int (nI (txSize z1.2))), (3, .int (b2 (pSees u z1 11)))] []
      generalize he5 : (zAddR z4 (pSees u z1 11) (txSize z1.2) (txSize z1.2)) = z5
      have ok5 : zOk z5 := by rw [← he5]; exact zAddR_ok ok4
      exact r_return hX hR dX4_readRule_101 ⟨rfl, by rw [show rRuD u z = z5 from (by subst he5; subst he4; subst he3; subst he2; subst he1; rw [rRuD, rRu1]; (first | rw [if_pos c9] | rw [if_neg c9]); rw [if_pos c36, rRuB, c36])]⟩
theorem ct_X4_readRule (l : Launch) (D : va_G) (pa tk k0 k1 k2 tx x0 x1 x2 x3 x4 x5 : Nat) (u : TK) (z : PZ) (hz : zOk z) : Ct l D m_X4_readRule 33 [.ref pa] [pa, tk, k0, k1, k2, tx, x0, x1, x2, x3, x4, x5] [ob 4 [.ref tk, .ref tx, .int (nI (zAt z)), .int (nI (zOpen z)), .int (zFault z), .int (zLate z), .int (zLateP z), .int (zFaultP z)], ob 8 [.ref k0, .ref k1, .ref k2], aI D 601 u.1, aI D 601 (nf u.2.1), aJ D 601 u.2.2, ob 7 [.ref x0, .ref x1, .ref x2, .ref x3, .ref x4, .ref x5, .int (nI (txSize z.2)), .int (nI (txRules z.2)), .int (nI (txTraits z.2))], aI D 600 z.2.1, aZ D 20 (zf z.2.2.1), aI D 20 (nf z.2.2.2.1), aI D 20 (nf z.2.2.2.2.1), aI D 20 (nf z.2.2.2.2.2.1), aJ D 8 z.2.2.2.2.2.2.1] (fun r es' => r = none ∧ es' = [ob 4 [.ref tk, .ref tx, .int (nI (zAt (rRuD u z))), .int (nI (zOpen (rRuD u z))), .int (zFault (rRuD u z)), .int (zLate (rRuD u z)), .int (zLateP (rRuD u z)), .int (zFaultP (rRuD u z))], ob 8 [.ref k0, .ref k1, .ref k2], aI D 601 u.1, aI D 601 (nf u.2.1), aJ D 601 u.2.2, ob 7 [.ref x0, .ref x1, .ref x2, .ref x3, .ref x4, .ref x5, .int (nI (txSize ((rRuD u z).2))), .int (nI (txRules ((rRuD u z).2))), .int (nI (txTraits ((rRuD u z).2)))], aI D 600 ((rRuD u z).2.1), aZ D 20 (zf ((rRuD u z).2.2.1)), aI D 20 (nf ((rRuD u z).2.2.2.1)), aI D 20 (nf ((rRuD u z).2.2.2.2.1)), aI D 20 (nf ((rRuD u z).2.2.2.2.2.1)), aJ D 8 ((rRuD u z).2.2.2.2.2.2.1)]) :=
  Ct.ofA (own := RX4) (by decide) rfl (Nat.le_of_ble_eq_true rfl) rfl (fun X hl hD hX hR => by subst hl; subst hD; exact wk_X4_readRule hX pa tk k0 k1 k2 tx x0 x1 x2 x3 x4 x5 u z hz hR)
set_option maxHeartbeats 1000000 in
set_option maxRecDepth 100000 in
theorem ex_X4_parse {X : Cx} (hX : Ok X cX4_parse 3 RX4 34) (pa tk k0 k1 k2 tx x0 x1 x2 x3 x4 x5 tp tb : Nat) (s : TP) (t : TK) (z : PZ) (hn : s.2 ≤ 3000) (u : TK) (hu : (tkScan s 601 0 0 t) = u) (y : PZ) (hy : zOk y) (he : pEn2 (pEn1 u y) = pParse (tkScan s 601 0 0 t) z) (hR : Rt X (some FieldType.int) (fun r es' => r = some (.int (zFault (pParse (tkScan s 601 0 0 t) z))) ∧ es' = [ob 4 [.ref tk, .ref tx, .int (nI (zAt (pParse (tkScan s 601 0 0 t) z))), .int (nI (zOpen (pParse (tkScan s 601 0 0 t) z))), .int (zFault (pParse (tkScan s 601 0 0 t) z)), .int (zLate (pParse (tkScan s 601 0 0 t) z)), .int (zLateP (pParse (tkScan s 601 0 0 t) z)), .int (zFaultP (pParse (tkScan s 601 0 0 t) z))], ob 8 [.ref k0, .ref k1, .ref k2], aI (CxD X) 601 ((tkScan s 601 0 0 t).1), aI (CxD X) 601 (nf ((tkScan s 601 0 0 t).2.1)), aJ (CxD X) 601 ((tkScan s 601 0 0 t).2.2), ob 7 [.ref x0, .ref x1, .ref x2, .ref x3, .ref x4, .ref x5, .int (nI (txSize ((pParse (tkScan s 601 0 0 t) z).2))), .int (nI (txRules ((pParse (tkScan s 601 0 0 t) z).2))), .int (nI (txTraits ((pParse (tkScan s 601 0 0 t) z).2)))], aI (CxD X) 600 ((pParse (tkScan s 601 0 0 t) z).2.1), aZ (CxD X) 20 (zf ((pParse (tkScan s 601 0 0 t) z).2.2.1)), aI (CxD X) 20 (nf ((pParse (tkScan s 601 0 0 t) z).2.2.2.1)), aI (CxD X) 20 (nf ((pParse (tkScan s 601 0 0 t) z).2.2.2.2.1)), aI (CxD X) 20 (nf ((pParse (tkScan s 601 0 0 t) z).2.2.2.2.2.1)), aJ (CxD X) 8 ((pParse (tkScan s 601 0 0 t) z).2.2.2.2.2.2.1), ob 6 [.ref tb, .int (nI s.2)], aB (CxD X) 3000 s.1]) [pa, tk, k0, k1, k2, tx, x0, x1, x2, x3, x4, x5, tp, tb]) : Aw X [pa, tk, k0, k1, k2, tx, x0, x1, x2, x3, x4, x5, tp, tb] [ob 4 [.ref tk, .ref tx, .int (nI (zAt y)), .int (nI (zOpen y)), .int (zFault y), .int (zLate y), .int (zLateP y), .int (zFaultP y)], ob 8 [.ref k0, .ref k1, .ref k2], aI (CxD X) 601 u.1, aI (CxD X) 601 (nf u.2.1), aJ (CxD X) 601 u.2.2, ob 7 [.ref x0, .ref x1, .ref x2, .ref x3, .ref x4, .ref x5, .int (nI (txSize y.2)), .int (nI (txRules y.2)), .int (nI (txTraits y.2))], aI (CxD X) 600 y.2.1, aZ (CxD X) 20 (zf y.2.2.1), aI (CxD X) 20 (nf y.2.2.2.1), aI (CxD X) 20 (nf y.2.2.2.2.1), aI (CxD X) 20 (nf y.2.2.2.2.2.1), aJ (CxD X) 8 y.2.2.2.2.2.2.1, ob 6 [.ref tb, .int (nI s.2)], aB (CxD X) 3000 s.1] 103 [(0, .ref pa), (1, .ref tp)] [] := by
  refine r_aload_n (n := 104) hX dX4_parse_103 rfl rfl 0 rfl ?_
  refine r_iconst (n := 105) hX 0 dX4_parse_104 rfl rfl ?_
  refine r_callV (n := 108) (av := [.int 0]) hX (ct_X4_sees (CxL X) (CxD X) pa tk k0 k1 k2 tx x0 x1 x2 x3 x4 x5 u y 0 hy) ml_X4_51 cv_X4_sees rfl (by decide) [0, 1, 2, 3, 4, 5, 6, 7, 8, 9, 10, 11] rfl rfl (by decide) 0 rfl rfl rfl rfl rfl (Nat.le_of_ble_eq_true rfl) dX4_parse_105 rfl (fun r_ es_ h_ l_ => ?_)
  obtain ⟨rfl, rfl⟩ := h_
  show Aw X [pa, tk, k0, k1, k2, tx, x0, x1, x2, x3, x4, x5, tp, tb] [ob 4 [.ref tk, .ref tx, .int (nI (zAt y)), .int (nI (zOpen y)), .int (zFault y), .int (zLate y), .int (zLateP y), .int (zFaultP y)], ob 8 [.ref k0, .ref k1, .ref k2], aI (CxD X) 601 u.1, aI (CxD X) 601 (nf u.2.1), aJ (CxD X) 601 u.2.2, ob 7 [.ref x0, .ref x1, .ref x2, .ref x3, .ref x4, .ref x5, .int (nI (txSize y.2)), .int (nI (txRules y.2)), .int (nI (txTraits y.2))], aI (CxD X) 600 y.2.1, aZ (CxD X) 20 (zf y.2.2.1), aI (CxD X) 20 (nf y.2.2.2.1), aI (CxD X) 20 (nf y.2.2.2.2.1), aI (CxD X) 20 (nf y.2.2.2.2.2.1), aJ (CxD X) 8 y.2.2.2.2.2.2.1, ob 6 [.ref tb, .int (nI s.2)], aB (CxD X) 3000 s.1] 108 [(0, .ref pa), (1, .ref tp)] [.int (b2 (pSees u y 0))]
  refine r_if_ne_b (tgt := 116) (n := 111) hX dX4_parse_108 (by decide) rfl (fun c108 => ?_) (fun c108 => ?_)
  · skip
    refine r_aload_n (n := 117) hX dX4_parse_116 rfl rfl 0 rfl ?_
    refine r_get (n := 120) hX 0 rfl rfl rfl 4 (by decide) lay_X4 fl_X4_32 rfl dX4_parse_117 rfl ?_
    refine r_if_ne (tgt := 139) (n := 123) hX dX4_parse_120 (by decide) rfl (fun c120 => ?_) (fun c120 => ?_)
    · skip
      refine r_aload_n (n := 140) hX dX4_parse_139 rfl rfl 0 rfl ?_
      refine r_get (n := 143) hX 0 rfl rfl rfl 4 (by decide) lay_X4 fl_X4_32 rfl dX4_parse_140 rfl ?_
      exact r_ireturn hX hR dX4_parse_143 (by rw [← he]; subst hu; rw [pEn1, if_pos c108, pEn2]; (first | rw [if_pos c120] | rw [if_neg c120]); exact ⟨rfl, rfl⟩)
    · skip
      refine r_aload_n (n := 124) hX dX4_parse_123 rfl rfl 0 rfl ?_
      refine r_aload_n (n := 125) hX dX4_parse_124 rfl rfl 0 rfl ?_
      refine r_get (n := 128) hX 0 rfl rfl rfl 5 (by decide) lay_X4 fl_X4_35 rfl dX4_parse_125 rfl ?_
      refine r_put (n := 131) hX 0 rfl rfl rfl 4 [ob 4 [.ref tk, .ref tx, .int (nI (zAt y)), .int (nI (zOpen y)), .int (zLate y), .int (zLate y), .int (zLateP y), .int (zFaultP y)], ob 8 [.ref k0, .ref k1, .ref k2], aI (CxD X) 601 u.1, aI (CxD X) 601 (nf u.2.1), aJ (CxD X) 601 u.2.2, ob 7 [.ref x0, .ref x1, .ref x2, .ref x3, .ref x4, .ref x5, .int (nI (txSize y.2)), .int (nI (txRules y.2)), .int (nI (txTraits y.2))], aI (CxD X) 600 y.2.1, aZ (CxD X) 20 (zf y.2.2.1), aI (CxD X) 20 (nf y.2.2.2.1), aI (CxD X) 20 (nf y.2.2.2.2.1), aI (CxD X) 20 (nf y.2.2.2.2.2.1), aJ (CxD X) 8 y.2.2.2.2.2.2.1, ob 6 [.ref tb, .int (nI s.2)], aB (CxD X) 3000 s.1] (by decide) lay_X4 tyX4 tyX4_ok nmX4 fl_X4_32 rfl rfl rfl (Nat.le_of_ble_eq_true rfl) rfl dX4_parse_128 rfl ?_
      refine r_aload_n (n := 132) hX dX4_parse_131 rfl rfl 0 rfl ?_
      refine r_aload_n (n := 133) hX dX4_parse_132 rfl rfl 0 rfl ?_
      refine r_get (n := 136) hX 0 rfl rfl rfl 6 (by decide) lay_X4 fl_X4_38 rfl dX4_parse_133 rfl ?_
      refine r_put (n := 139) hX 0 rfl rfl rfl 7 [ob 4 [.ref tk, .ref tx, .int (nI (zAt y)), .int (nI (zOpen y)), .int (zLate y), .int (zLate y), .int (zLateP y), .int (zLateP y)], ob 8 [.ref k0, .ref k1, .ref k2], aI (CxD X) 601 u.1, aI (CxD X) 601 (nf u.2.1), aJ (CxD X) 601 u.2.2, ob 7 [.ref x0, .ref x1, .ref x2, .ref x3, .ref x4, .ref x5, .int (nI (txSize y.2)), .int (nI (txRules y.2)), .int (nI (txTraits y.2))], aI (CxD X) 600 y.2.1, aZ (CxD X) 20 (zf y.2.2.1), aI (CxD X) 20 (nf y.2.2.2.1), aI (CxD X) 20 (nf y.2.2.2.2.1), aI (CxD X) 20 (nf y.2.2.2.2.2.1), aJ (CxD X) 8 y.2.2.2.2.2.2.1, ob 6 [.ref tb, .int (nI s.2)], aB (CxD X) 3000 s.1] (by decide) lay_X4 tyX4 tyX4_ok nmX4 fl_X4_41 rfl rfl rfl (Nat.le_of_ble_eq_true rfl) rfl dX4_parse_136 rfl ?_
      refine r_aload_n (n := 140) hX dX4_parse_139 rfl rfl 0 rfl ?_
      refine r_get (n := 143) hX 0 rfl rfl rfl 4 (by decide) lay_X4 fl_X4_32 rfl dX4_parse_140 rfl ?_
      exact r_ireturn hX hR dX4_parse_143 (by rw [← he]; subst hu; rw [pEn1, if_pos c108, pEn2]; (first | rw [if_pos c120] | rw [if_neg c120]); exact ⟨rfl, rfl⟩)
  · skip
    refine r_aload_n (n := 112) hX dX4_parse_111 rfl rfl 0 rfl ?_
    refine r_iconst (n := 113) hX 1 dX4_parse_112 rfl rfl ?_
    refine r_callV (n := 116) (av := [.int 1]) hX (ct_X4_fail (CxL X) (CxD X) pa tk k0 k1 k2 tx x0 x1 x2 x3 x4 x5 u y 1 hy) ml_X4_61 cv_X4_fail rfl (by decide) [0, 1, 2, 3, 4, 5, 6, 7, 8, 9, 10, 11] rfl rfl (by decide) 0 rfl rfl rfl rfl rfl (Nat.le_of_ble_eq_true rfl) dX4_parse_113 rfl (fun r_ es_ h_ l_ => ?_)
    obtain ⟨rfl, rfl⟩ := h_
    show Aw X [pa, tk, k0, k1, k2, tx, x0, x1, x2, x3, x4, x5, tp, tb] [ob 4 [.ref tk, .ref tx, .int (nI (zAt (pFail u y 1))), .int (nI (zOpen (pFail u y 1))), .int (zFault (pFail u y 1)), .int (zLate (pFail u y 1)), .int (zLateP (pFail u y 1)), .int (zFaultP (pFail u y 1))], ob 8 [.ref k0, .ref k1, .ref k2], aI (CxD X) 601 u.1, aI (CxD X) 601 (nf u.2.1), aJ (CxD X) 601 u.2.2, ob 7 [.ref x0, .ref x1, .ref x2, .ref x3, .ref x4, .ref x5, .int (nI (txSize ((pFail u y 1).2))), .int (nI (txRules ((pFail u y 1).2))), .int (nI (txTraits ((pFail u y 1).2)))], aI (CxD X) 600 ((pFail u y 1).2.1), aZ (CxD X) 20 (zf ((pFail u y 1).2.2.1)), aI (CxD X) 20 (nf ((pFail u y 1).2.2.2.1)), aI (CxD X) 20 (nf ((pFail u y 1).2.2.2.2.1)), aI (CxD X) 20 (nf ((pFail u y 1).2.2.2.2.2.1)), aJ (CxD X) 8 ((pFail u y 1).2.2.2.2.2.2.1), ob 6 [.ref tb, .int (nI s.2)], aB (CxD X) 3000 s.1] 116 [(0, .ref pa), (1, .ref tp)] []
    generalize he1 : (pFail u y 1) = z1
    have ok1 : zOk z1 := by rw [← he1]; exact (pFail_pr).1 hy
    refine r_aload_n (n := 117) hX dX4_parse_116 rfl rfl 0 rfl ?_
    refine r_get (n := 120) hX 0 rfl rfl rfl 4 (by decide) lay_X4 fl_X4_32 rfl dX4_parse_117 rfl ?_
    refine r_if_ne (tgt := 139) (n := 123) hX dX4_parse_120 (by decide) rfl (fun c120 => ?_) (fun c120 => ?_)
    · skip
      refine r_aload_n (n := 140) hX dX4_parse_139 rfl rfl 0 rfl ?_
      refine r_get (n := 143) hX 0 rfl rfl rfl 4 (by decide) lay_X4 fl_X4_32 rfl dX4_parse_140 rfl ?_
      exact r_ireturn hX hR dX4_parse_143 (by rw [← he]; subst hu; subst he1; rw [pEn1, if_neg (by rw [c108]; decide), pEn2]; (first | rw [if_pos c120] | rw [if_neg c120]); exact ⟨rfl, rfl⟩)
    · skip
      refine r_aload_n (n := 124) hX dX4_parse_123 rfl rfl 0 rfl ?_
      refine r_aload_n (n := 125) hX dX4_parse_124 rfl rfl 0 rfl ?_
      refine r_get (n := 128) hX 0 rfl rfl rfl 5 (by decide) lay_X4 fl_X4_35 rfl dX4_parse_125 rfl ?_
      refine r_put (n := 131) hX 0 rfl rfl rfl 4 [ob 4 [.ref tk, .ref tx, .int (nI (zAt z1)), .int (nI (zOpen z1)), .int (zLate z1), .int (zLate z1), .int (zLateP z1), .int (zFaultP z1)], ob 8 [.ref k0, .ref k1, .ref k2], aI (CxD X) 601 u.1, aI (CxD X) 601 (nf u.2.1), aJ (CxD X) 601 u.2.2, ob 7 [.ref x0, .ref x1, .ref x2, .ref x3, .ref x4, .ref x5, .int (nI (txSize z1.2)), .int (nI (txRules z1.2)), .int (nI (txTraits z1.2))], aI (CxD X) 600 z1.2.1, aZ (CxD X) 20 (zf z1.2.2.1), aI (CxD X) 20 (nf z1.2.2.2.1), aI (CxD X) 20 (nf z1.2.2.2.2.1), aI (CxD X) 20 (nf z1.2.2.2.2.2.1), aJ (CxD X) 8 z1.2.2.2.2.2.2.1, ob 6 [.ref tb, .int (nI s.2)], aB (CxD X) 3000 s.1] (by decide) lay_X4 tyX4 tyX4_ok nmX4 fl_X4_32 rfl rfl rfl (Nat.le_of_ble_eq_true rfl) rfl dX4_parse_128 rfl ?_
      refine r_aload_n (n := 132) hX dX4_parse_131 rfl rfl 0 rfl ?_
      refine r_aload_n (n := 133) hX dX4_parse_132 rfl rfl 0 rfl ?_
      refine r_get (n := 136) hX 0 rfl rfl rfl 6 (by decide) lay_X4 fl_X4_38 rfl dX4_parse_133 rfl ?_
      refine r_put (n := 139) hX 0 rfl rfl rfl 7 [ob 4 [.ref tk, .ref tx, .int (nI (zAt z1)), .int (nI (zOpen z1)), .int (zLate z1), .int (zLate z1), .int (zLateP z1), .int (zLateP z1)], ob 8 [.ref k0, .ref k1, .ref k2], aI (CxD X) 601 u.1, aI (CxD X) 601 (nf u.2.1), aJ (CxD X) 601 u.2.2, ob 7 [.ref x0, .ref x1, .ref x2, .ref x3, .ref x4, .ref x5, .int (nI (txSize z1.2)), .int (nI (txRules z1.2)), .int (nI (txTraits z1.2))], aI (CxD X) 600 z1.2.1, aZ (CxD X) 20 (zf z1.2.2.1), aI (CxD X) 20 (nf z1.2.2.2.1), aI (CxD X) 20 (nf z1.2.2.2.2.1), aI (CxD X) 20 (nf z1.2.2.2.2.2.1), aJ (CxD X) 8 z1.2.2.2.2.2.2.1, ob 6 [.ref tb, .int (nI s.2)], aB (CxD X) 3000 s.1] (by decide) lay_X4 tyX4 tyX4_ok nmX4 fl_X4_41 rfl rfl rfl (Nat.le_of_ble_eq_true rfl) rfl dX4_parse_136 rfl ?_
      refine r_aload_n (n := 140) hX dX4_parse_139 rfl rfl 0 rfl ?_
      refine r_get (n := 143) hX 0 rfl rfl rfl 4 (by decide) lay_X4 fl_X4_32 rfl dX4_parse_140 rfl ?_
      exact r_ireturn hX hR dX4_parse_143 (by rw [← he]; subst hu; subst he1; rw [pEn1, if_neg (by rw [c108]; decide), pEn2]; (first | rw [if_pos c120] | rw [if_neg c120]); exact ⟨rfl, rfl⟩)
set_option maxHeartbeats 1000000 in
set_option maxRecDepth 100000 in
theorem lp_X4_parse2 {X : Cx} (hX : Ok X cX4_parse 3 RX4 34) (pa tk k0 k1 k2 tx x0 x1 x2 x3 x4 x5 tp tb : Nat) (s : TP) (t : TK) (z : PZ) (hn : s.2 ≤ 3000) (u : TK) (hu : (tkScan s 601 0 0 t) = u) (hR : Rt X (some FieldType.int) (fun r es' => r = some (.int (zFault (pParse (tkScan s 601 0 0 t) z))) ∧ es' = [ob 4 [.ref tk, .ref tx, .int (nI (zAt (pParse (tkScan s 601 0 0 t) z))), .int (nI (zOpen (pParse (tkScan s 601 0 0 t) z))), .int (zFault (pParse (tkScan s 601 0 0 t) z)), .int (zLate (pParse (tkScan s 601 0 0 t) z)), .int (zLateP (pParse (tkScan s 601 0 0 t) z)), .int (zFaultP (pParse (tkScan s 601 0 0 t) z))], ob 8 [.ref k0, .ref k1, .ref k2], aI (CxD X) 601 ((tkScan s 601 0 0 t).1), aI (CxD X) 601 (nf ((tkScan s 601 0 0 t).2.1)), aJ (CxD X) 601 ((tkScan s 601 0 0 t).2.2), ob 7 [.ref x0, .ref x1, .ref x2, .ref x3, .ref x4, .ref x5, .int (nI (txSize ((pParse (tkScan s 601 0 0 t) z).2))), .int (nI (txRules ((pParse (tkScan s 601 0 0 t) z).2))), .int (nI (txTraits ((pParse (tkScan s 601 0 0 t) z).2)))], aI (CxD X) 600 ((pParse (tkScan s 601 0 0 t) z).2.1), aZ (CxD X) 20 (zf ((pParse (tkScan s 601 0 0 t) z).2.2.1)), aI (CxD X) 20 (nf ((pParse (tkScan s 601 0 0 t) z).2.2.2.1)), aI (CxD X) 20 (nf ((pParse (tkScan s 601 0 0 t) z).2.2.2.2.1)), aI (CxD X) 20 (nf ((pParse (tkScan s 601 0 0 t) z).2.2.2.2.2.1)), aJ (CxD X) 8 ((pParse (tkScan s 601 0 0 t) z).2.2.2.2.2.2.1), ob 6 [.ref tb, .int (nI s.2)], aB (CxD X) 3000 s.1]) [pa, tk, k0, k1, k2, tx, x0, x1, x2, x3, x4, x5, tp, tb]) : ∀ (m i : Nat) (y : PZ), i + m = 21 → zOk y → pEn2 (pEn1 u (pRu u m y)) = pParse (tkScan s 601 0 0 t) z → Aw X [pa, tk, k0, k1, k2, tx, x0, x1, x2, x3, x4, x5, tp, tb] [ob 4 [.ref tk, .ref tx, .int (nI (zAt y)), .int (nI (zOpen y)), .int (zFault y), .int (zLate y), .int (zLateP y), .int (zFaultP y)], ob 8 [.ref k0, .ref k1, .ref k2], aI (CxD X) 601 u.1, aI (CxD X) 601 (nf u.2.1), aJ (CxD X) 601 u.2.2, ob 7 [.ref x0, .ref x1, .ref x2, .ref x3, .ref x4, .ref x5, .int (nI (txSize y.2)), .int (nI (txRules y.2)), .int (nI (txTraits y.2))], aI (CxD X) 600 y.2.1, aZ (CxD X) 20 (zf y.2.2.1), aI (CxD X) 20 (nf y.2.2.2.1), aI (CxD X) 20 (nf y.2.2.2.2.1), aI (CxD X) 20 (nf y.2.2.2.2.2.1), aJ (CxD X) 8 y.2.2.2.2.2.2.1, ob 6 [.ref tb, .int (nI s.2)], aB (CxD X) 3000 s.1] 69 [(0, .ref pa), (1, .ref tp), (2, .int (nI i))] [] := by
  intro m
  induction m with
  | zero =>
    intro i y hi hy he
    refine r_iload_n (n := 70) hX dX4_parse_69 rfl rfl 2 rfl ?_
    refine r_bipush (n := 72) hX 20 dX4_parse_70 rfl rfl ?_
    refine r_icmp_gt_n (tgt := 103) (n := 75) hX i 20 (by omega) (by omega) dX4_parse_72 (by decide) rfl (fun c72 => ?_) (fun c72 => absurd c72 (by omega))
    refine Aw.loc (lv' := [(0, .ref pa), (1, .ref tp)]) [0, 1] rfl ?_
    exact ex_X4_parse hX pa tk k0 k1 k2 tx x0 x1 x2 x3 x4 x5 tp tb s t z hn u hu y hy he hR
  | succ m ih =>
    intro i y hi hy he
    refine r_iload_n (n := 70) hX dX4_parse_69 rfl rfl 2 rfl ?_
    refine r_bipush (n := 72) hX 20 dX4_parse_70 rfl rfl ?_
    refine r_icmp_gt_n (tgt := 103) (n := 75) hX i 20 (by omega) (by omega) dX4_parse_72 (by decide) rfl (fun c72 => absurd c72 (by omega)) (fun c72 => ?_)
    refine r_aload_n (n := 76) hX dX4_parse_75 rfl rfl 0 rfl ?_
    refine r_bipush (n := 78) hX 11 dX4_parse_76 rfl rfl ?_
    refine r_callV (n := 81) (av := [.int 11]) hX (ct_X4_sees (CxL X) (CxD X) pa tk k0 k1 k2 tx x0 x1 x2 x3 x4 x5 u y 11 hy) ml_X4_51 cv_X4_sees rfl (by decide) [0, 1, 2, 3, 4, 5, 6, 7, 8, 9, 10, 11] rfl rfl (by decide) 0 rfl rfl rfl rfl rfl (Nat.le_of_ble_eq_true rfl) dX4_parse_78 rfl (fun r_ es_ h_ l_ => ?_)
    obtain ⟨rfl, rfl⟩ := h_
    show Aw X [pa, tk, k0, k1, k2, tx, x0, x1, x2, x3, x4, x5, tp, tb] [ob 4 [.ref tk, .ref tx, .int (nI (zAt y)), .int (nI (zOpen y)), .int (zFault y), .int (zLate y), .int (zLateP y), .int (zFaultP y)], ob 8 [.ref k0, .ref k1, .ref k2], aI (CxD X) 601 u.1, aI (CxD X) 601 (nf u.2.1), aJ (CxD X) 601 u.2.2, ob 7 [.ref x0, .ref x1, .ref x2, .ref x3, .ref x4, .ref x5, .int (nI (txSize y.2)), .int (nI (txRules y.2)), .int (nI (txTraits y.2))], aI (CxD X) 600 y.2.1, aZ (CxD X) 20 (zf y.2.2.1), aI (CxD X) 20 (nf y.2.2.2.1), aI (CxD X) 20 (nf y.2.2.2.2.1), aI (CxD X) 20 (nf y.2.2.2.2.2.1), aJ (CxD X) 8 y.2.2.2.2.2.2.1, ob 6 [.ref tb, .int (nI s.2)], aB (CxD X) 3000 s.1] 81 [(0, .ref pa), (1, .ref tp), (2, .int (nI i))] [.int (b2 (pSees u y 11))]
    refine r_if_ne_b (tgt := 93) (n := 84) hX dX4_parse_81 (by decide) rfl (fun c81 => ?_) (fun c81 => ?_)
    · skip
      refine r_aload_n (n := 94) hX dX4_parse_93 rfl rfl 0 rfl ?_
      refine r_callV (n := 97) (av := []) hX (ct_X4_readRule (CxL X) (CxD X) pa tk k0 k1 k2 tx x0 x1 x2 x3 x4 x5 u y hy) ml_X4_58 cv_X4_readRule rfl (by decide) [0, 1, 2, 3, 4, 5, 6, 7, 8, 9, 10, 11] rfl rfl (by decide) 0 rfl rfl rfl rfl rfl (Nat.le_of_ble_eq_true rfl) dX4_parse_94 rfl (fun r_ es_ h_ l_ => ?_)
      obtain ⟨rfl, rfl⟩ := h_
      show Aw X [pa, tk, k0, k1, k2, tx, x0, x1, x2, x3, x4, x5, tp, tb] [ob 4 [.ref tk, .ref tx, .int (nI (zAt (rRuD u y))), .int (nI (zOpen (rRuD u y))), .int (zFault (rRuD u y)), .int (zLate (rRuD u y)), .int (zLateP (rRuD u y)), .int (zFaultP (rRuD u y))], ob 8 [.ref k0, .ref k1, .ref k2], aI (CxD X) 601 u.1, aI (CxD X) 601 (nf u.2.1), aJ (CxD X) 601 u.2.2, ob 7 [.ref x0, .ref x1, .ref x2, .ref x3, .ref x4, .ref x5, .int (nI (txSize ((rRuD u y).2))), .int (nI (txRules ((rRuD u y).2))), .int (nI (txTraits ((rRuD u y).2)))], aI (CxD X) 600 ((rRuD u y).2.1), aZ (CxD X) 20 (zf ((rRuD u y).2.2.1)), aI (CxD X) 20 (nf ((rRuD u y).2.2.2.1)), aI (CxD X) 20 (nf ((rRuD u y).2.2.2.2.1)), aI (CxD X) 20 (nf ((rRuD u y).2.2.2.2.2.1)), aJ (CxD X) 8 ((rRuD u y).2.2.2.2.2.2.1), ob 6 [.ref tb, .int (nI s.2)], aB (CxD X) 3000 s.1] 97 [(0, .ref pa), (1, .ref tp), (2, .int (nI i))] []
      refine r_iinc (n := 100) hX (nI (i + 1)) [(0, .ref pa), (1, .ref tp), (2, .int (nI (i + 1)))] dX4_parse_97 rfl 2 rfl (nI_add _ _) (by decide) rfl ?_
      refine r_goto (tgt := 69) hX dX4_parse_100 (by decide) ?_
      exact ih (i + 1) (rRuD u y) (by omega) (rRuD_ok hy) (by rw [← he]; conv => rhs; rw [pRu, if_pos (Or.inl c81)])
    · skip
      refine r_aload_n (n := 85) hX dX4_parse_84 rfl rfl 0 rfl ?_
      refine r_bipush (n := 87) hX 12 dX4_parse_85 rfl rfl ?_
      refine r_callV (n := 90) (av := [.int 12]) hX (ct_X4_sees (CxL X) (CxD X) pa tk k0 k1 k2 tx x0 x1 x2 x3 x4 x5 u y 12 hy) ml_X4_51 cv_X4_sees rfl (by decide) [0, 1, 2, 3, 4, 5, 6, 7, 8, 9, 10, 11] rfl rfl (by decide) 0 rfl rfl rfl rfl rfl (Nat.le_of_ble_eq_true rfl) dX4_parse_87 rfl (fun r_ es_ h_ l_ => ?_)
      obtain ⟨rfl, rfl⟩ := h_
      show Aw X [pa, tk, k0, k1, k2, tx, x0, x1, x2, x3, x4, x5, tp, tb] [ob 4 [.ref tk, .ref tx, .int (nI (zAt y)), .int (nI (zOpen y)), .int (zFault y), .int (zLate y), .int (zLateP y), .int (zFaultP y)], ob 8 [.ref k0, .ref k1, .ref k2], aI (CxD X) 601 u.1, aI (CxD X) 601 (nf u.2.1), aJ (CxD X) 601 u.2.2, ob 7 [.ref x0, .ref x1, .ref x2, .ref x3, .ref x4, .ref x5, .int (nI (txSize y.2)), .int (nI (txRules y.2)), .int (nI (txTraits y.2))], aI (CxD X) 600 y.2.1, aZ (CxD X) 20 (zf y.2.2.1), aI (CxD X) 20 (nf y.2.2.2.1), aI (CxD X) 20 (nf y.2.2.2.2.1), aI (CxD X) 20 (nf y.2.2.2.2.2.1), aJ (CxD X) 8 y.2.2.2.2.2.2.1, ob 6 [.ref tb, .int (nI s.2)], aB (CxD X) 3000 s.1] 90 [(0, .ref pa), (1, .ref tp), (2, .int (nI i))] [.int (b2 (pSees u y 12))]
      refine r_if_eq_b (tgt := 103) (n := 93) hX dX4_parse_90 (by decide) rfl (fun c90 => ?_) (fun c90 => ?_)
      · skip
        refine Aw.loc (lv' := [(0, .ref pa), (1, .ref tp)]) [0, 1] rfl ?_
        exact ex_X4_parse hX pa tk k0 k1 k2 tx x0 x1 x2 x3 x4 x5 tp tb s t z hn u hu y hy (by rw [← he, pRu, if_neg (by rw [c81, c90]; decide)]) hR
      · skip
        refine r_aload_n (n := 94) hX dX4_parse_93 rfl rfl 0 rfl ?_
        refine r_callV (n := 97) (av := []) hX (ct_X4_readRule (CxL X) (CxD X) pa tk k0 k1 k2 tx x0 x1 x2 x3 x4 x5 u y hy) ml_X4_58 cv_X4_readRule rfl (by decide) [0, 1, 2, 3, 4, 5, 6, 7, 8, 9, 10, 11] rfl rfl (by decide) 0 rfl rfl rfl rfl rfl (Nat.le_of_ble_eq_true rfl) dX4_parse_94 rfl (fun r_ es_ h_ l_ => ?_)
        obtain ⟨rfl, rfl⟩ := h_
        show Aw X [pa, tk, k0, k1, k2, tx, x0, x1, x2, x3, x4, x5, tp, tb] [ob 4 [.ref tk, .ref tx, .int (nI (zAt (rRuD u y))), .int (nI (zOpen (rRuD u y))), .int (zFault (rRuD u y)), .int (zLate (rRuD u y)), .int (zLateP (rRuD u y)), .int (zFaultP (rRuD u y))], ob 8 [.ref k0, .ref k1, .ref k2], aI (CxD X) 601 u.1, aI (CxD X) 601 (nf u.2.1), aJ (CxD X) 601 u.2.2, ob 7 [.ref x0, .ref x1, .ref x2, .ref x3, .ref x4, .ref x5, .int (nI (txSize ((rRuD u y).2))), .int (nI (txRules ((rRuD u y).2))), .int (nI (txTraits ((rRuD u y).2)))], aI (CxD X) 600 ((rRuD u y).2.1), aZ (CxD X) 20 (zf ((rRuD u y).2.2.1)), aI (CxD X) 20 (nf ((rRuD u y).2.2.2.1)), aI (CxD X) 20 (nf ((rRuD u y).2.2.2.2.1)), aI (CxD X) 20 (nf ((rRuD u y).2.2.2.2.2.1)), aJ (CxD X) 8 ((rRuD u y).2.2.2.2.2.2.1), ob 6 [.ref tb, .int (nI s.2)], aB (CxD X) 3000 s.1] 97 [(0, .ref pa), (1, .ref tp), (2, .int (nI i))] []
        refine r_iinc (n := 100) hX (nI (i + 1)) [(0, .ref pa), (1, .ref tp), (2, .int (nI (i + 1)))] dX4_parse_97 rfl 2 rfl (nI_add _ _) (by decide) rfl ?_
        refine r_goto (tgt := 69) hX dX4_parse_100 (by decide) ?_
        exact ih (i + 1) (rRuD u y) (by omega) (rRuD_ok hy) (by rw [← he]; conv => rhs; rw [pRu, if_pos (Or.inr c90)])
set_option maxHeartbeats 1000000 in
set_option maxRecDepth 100000 in
theorem lp_X4_parse1 {X : Cx} (hX : Ok X cX4_parse 3 RX4 34) (pa tk k0 k1 k2 tx x0 x1 x2 x3 x4 x5 tp tb : Nat) (s : TP) (t : TK) (z : PZ) (hn : s.2 ≤ 3000) (u : TK) (hu : (tkScan s 601 0 0 t) = u) (hR : Rt X (some FieldType.int) (fun r es' => r = some (.int (zFault (pParse (tkScan s 601 0 0 t) z))) ∧ es' = [ob 4 [.ref tk, .ref tx, .int (nI (zAt (pParse (tkScan s 601 0 0 t) z))), .int (nI (zOpen (pParse (tkScan s 601 0 0 t) z))), .int (zFault (pParse (tkScan s 601 0 0 t) z)), .int (zLate (pParse (tkScan s 601 0 0 t) z)), .int (zLateP (pParse (tkScan s 601 0 0 t) z)), .int (zFaultP (pParse (tkScan s 601 0 0 t) z))], ob 8 [.ref k0, .ref k1, .ref k2], aI (CxD X) 601 ((tkScan s 601 0 0 t).1), aI (CxD X) 601 (nf ((tkScan s 601 0 0 t).2.1)), aJ (CxD X) 601 ((tkScan s 601 0 0 t).2.2), ob 7 [.ref x0, .ref x1, .ref x2, .ref x3, .ref x4, .ref x5, .int (nI (txSize ((pParse (tkScan s 601 0 0 t) z).2))), .int (nI (txRules ((pParse (tkScan s 601 0 0 t) z).2))), .int (nI (txTraits ((pParse (tkScan s 601 0 0 t) z).2)))], aI (CxD X) 600 ((pParse (tkScan s 601 0 0 t) z).2.1), aZ (CxD X) 20 (zf ((pParse (tkScan s 601 0 0 t) z).2.2.1)), aI (CxD X) 20 (nf ((pParse (tkScan s 601 0 0 t) z).2.2.2.1)), aI (CxD X) 20 (nf ((pParse (tkScan s 601 0 0 t) z).2.2.2.2.1)), aI (CxD X) 20 (nf ((pParse (tkScan s 601 0 0 t) z).2.2.2.2.2.1)), aJ (CxD X) 8 ((pParse (tkScan s 601 0 0 t) z).2.2.2.2.2.2.1), ob 6 [.ref tb, .int (nI s.2)], aB (CxD X) 3000 s.1]) [pa, tk, k0, k1, k2, tx, x0, x1, x2, x3, x4, x5, tp, tb]) : ∀ (m i : Nat) (y : PZ), i + m = 9 → zOk y → pEn2 (pEn1 u (pRu u 21 (pTr u m y))) = pParse (tkScan s 601 0 0 t) z → Aw X [pa, tk, k0, k1, k2, tx, x0, x1, x2, x3, x4, x5, tp, tb] [ob 4 [.ref tk, .ref tx, .int (nI (zAt y)), .int (nI (zOpen y)), .int (zFault y), .int (zLate y), .int (zLateP y), .int (zFaultP y)], ob 8 [.ref k0, .ref k1, .ref k2], aI (CxD X) 601 u.1, aI (CxD X) 601 (nf u.2.1), aJ (CxD X) 601 u.2.2, ob 7 [.ref x0, .ref x1, .ref x2, .ref x3, .ref x4, .ref x5, .int (nI (txSize y.2)), .int (nI (txRules y.2)), .int (nI (txTraits y.2))], aI (CxD X) 600 y.2.1, aZ (CxD X) 20 (zf y.2.2.1), aI (CxD X) 20 (nf y.2.2.2.1), aI (CxD X) 20 (nf y.2.2.2.2.1), aI (CxD X) 20 (nf y.2.2.2.2.2.1), aJ (CxD X) 8 y.2.2.2.2.2.2.1, ob 6 [.ref tb, .int (nI s.2)], aB (CxD X) 3000 s.1] 42 [(0, .ref pa), (1, .ref tp), (2, .int (nI i))] [] := by
  intro m
  induction m with
  | zero =>
    intro i y hi hy he
    refine r_iload_n (n := 43) hX dX4_parse_42 rfl rfl 2 rfl ?_
    refine r_bipush (n := 45) hX 8 dX4_parse_43 rfl rfl ?_
    refine r_icmp_gt_n (tgt := 67) (n := 48) hX i 8 (by omega) (by omega) dX4_parse_45 (by decide) rfl (fun c45 => ?_) (fun c45 => absurd c45 (by omega))
    refine r_iconst (n := 68) hX 0 dX4_parse_67 rfl rfl ?_
    refine r_istore_n (n := 69) hX [(0, .ref pa), (1, .ref tp), (2, .int 0)] dX4_parse_68 rfl rfl (by decide) rfl ?_
    exact lp_X4_parse2 hX pa tk k0 k1 k2 tx x0 x1 x2 x3 x4 x5 tp tb s t z hn u hu hR 21 0 y (by omega) hy (he)
  | succ m ih =>
    intro i y hi hy he
    refine r_iload_n (n := 43) hX dX4_parse_42 rfl rfl 2 rfl ?_
    refine r_bipush (n := 45) hX 8 dX4_parse_43 rfl rfl ?_
    refine r_icmp_gt_n (tgt := 67) (n := 48) hX i 8 (by omega) (by omega) dX4_parse_45 (by decide) rfl (fun c45 => absurd c45 (by omega)) (fun c45 => ?_)
    refine r_aload_n (n := 49) hX dX4_parse_48 rfl rfl 0 rfl ?_
    refine r_bipush (n := 51) hX 10 dX4_parse_49 rfl rfl ?_
    refine r_callV (n := 54) (av := [.int 10]) hX (ct_X4_sees (CxL X) (CxD X) pa tk k0 k1 k2 tx x0 x1 x2 x3 x4 x5 u y 10 hy) ml_X4_51 cv_X4_sees rfl (by decide) [0, 1, 2, 3, 4, 5, 6, 7, 8, 9, 10, 11] rfl rfl (by decide) 0 rfl rfl rfl rfl rfl (Nat.le_of_ble_eq_true rfl) dX4_parse_51 rfl (fun r_ es_ h_ l_ => ?_)
    obtain ⟨rfl, rfl⟩ := h_
    show Aw X [pa, tk, k0, k1, k2, tx, x0, x1, x2, x3, x4, x5, tp, tb] [ob 4 [.ref tk, .ref tx, .int (nI (zAt y)), .int (nI (zOpen y)), .int (zFault y), .int (zLate y), .int (zLateP y), .int (zFaultP y)], ob 8 [.ref k0, .ref k1, .ref k2], aI (CxD X) 601 u.1, aI (CxD X) 601 (nf u.2.1), aJ (CxD X) 601 u.2.2, ob 7 [.ref x0, .ref x1, .ref x2, .ref x3, .ref x4, .ref x5, .int (nI (txSize y.2)), .int (nI (txRules y.2)), .int (nI (txTraits y.2))], aI (CxD X) 600 y.2.1, aZ (CxD X) 20 (zf y.2.2.1), aI (CxD X) 20 (nf y.2.2.2.1), aI (CxD X) 20 (nf y.2.2.2.2.1), aI (CxD X) 20 (nf y.2.2.2.2.2.1), aJ (CxD X) 8 y.2.2.2.2.2.2.1, ob 6 [.ref tb, .int (nI s.2)], aB (CxD X) 3000 s.1] 54 [(0, .ref pa), (1, .ref tp), (2, .int (nI i))] [.int (b2 (pSees u y 10))]
    refine r_if_eq_b (tgt := 67) (n := 57) hX dX4_parse_54 (by decide) rfl (fun c54 => ?_) (fun c54 => ?_)
    · skip
      refine r_iconst (n := 68) hX 0 dX4_parse_67 rfl rfl ?_
      refine r_istore_n (n := 69) hX [(0, .ref pa), (1, .ref tp), (2, .int 0)] dX4_parse_68 rfl rfl (by decide) rfl ?_
      exact lp_X4_parse2 hX pa tk k0 k1 k2 tx x0 x1 x2 x3 x4 x5 tp tb s t z hn u hu hR 21 0 y (by omega) hy (by rw [← he, pTr, if_neg (by rw [c54]; decide)])
    · skip
      refine r_aload_n (n := 58) hX dX4_parse_57 rfl rfl 0 rfl ?_
      refine r_callV (n := 61) (av := []) hX (ct_X4_readTrait (CxL X) (CxD X) pa tk k0 k1 k2 tx x0 x1 x2 x3 x4 x5 u y hy) ml_X4_55 cv_X4_readTrait rfl (by decide) [0, 1, 2, 3, 4, 5, 6, 7, 8, 9, 10, 11] rfl rfl (by decide) 0 rfl rfl rfl rfl rfl (Nat.le_of_ble_eq_true rfl) dX4_parse_58 rfl (fun r_ es_ h_ l_ => ?_)
      obtain ⟨rfl, rfl⟩ := h_
      show Aw X [pa, tk, k0, k1, k2, tx, x0, x1, x2, x3, x4, x5, tp, tb] [ob 4 [.ref tk, .ref tx, .int (nI (zAt (rTrD u y))), .int (nI (zOpen (rTrD u y))), .int (zFault (rTrD u y)), .int (zLate (rTrD u y)), .int (zLateP (rTrD u y)), .int (zFaultP (rTrD u y))], ob 8 [.ref k0, .ref k1, .ref k2], aI (CxD X) 601 u.1, aI (CxD X) 601 (nf u.2.1), aJ (CxD X) 601 u.2.2, ob 7 [.ref x0, .ref x1, .ref x2, .ref x3, .ref x4, .ref x5, .int (nI (txSize ((rTrD u y).2))), .int (nI (txRules ((rTrD u y).2))), .int (nI (txTraits ((rTrD u y).2)))], aI (CxD X) 600 ((rTrD u y).2.1), aZ (CxD X) 20 (zf ((rTrD u y).2.2.1)), aI (CxD X) 20 (nf ((rTrD u y).2.2.2.1)), aI (CxD X) 20 (nf ((rTrD u y).2.2.2.2.1)), aI (CxD X) 20 (nf ((rTrD u y).2.2.2.2.2.1)), aJ (CxD X) 8 ((rTrD u y).2.2.2.2.2.2.1), ob 6 [.ref tb, .int (nI s.2)], aB (CxD X) 3000 s.1] 61 [(0, .ref pa), (1, .ref tp), (2, .int (nI i))] []
      refine r_iinc (n := 64) hX (nI (i + 1)) [(0, .ref pa), (1, .ref tp), (2, .int (nI (i + 1)))] dX4_parse_61 rfl 2 rfl (nI_add _ _) (by decide) rfl ?_
      refine r_goto (tgt := 42) hX dX4_parse_64 (by decide) ?_
      exact ih (i + 1) (rTrD u y) (by omega) (rTrD_ok hy) (by rw [← he]; conv => rhs; rw [pTr, if_pos c54])
set_option maxHeartbeats 1000000 in
set_option maxRecDepth 100000 in
theorem wk_X4_parse {X : Cx} (hX : Ok X cX4_parse 3 RX4 34) (pa tk k0 k1 k2 tx x0 x1 x2 x3 x4 x5 tp tb : Nat) (s : TP) (t : TK) (z : PZ) (hn : s.2 ≤ 3000) (hR : Rt X (some FieldType.int) (fun r es' => r = some (.int (zFault (pParse (tkScan s 601 0 0 t) z))) ∧ es' = [ob 4 [.ref tk, .ref tx, .int (nI (zAt (pParse (tkScan s 601 0 0 t) z))), .int (nI (zOpen (pParse (tkScan s 601 0 0 t) z))), .int (zFault (pParse (tkScan s 601 0 0 t) z)), .int (zLate (pParse (tkScan s 601 0 0 t) z)), .int (zLateP (pParse (tkScan s 601 0 0 t) z)), .int (zFaultP (pParse (tkScan s 601 0 0 t) z))], ob 8 [.ref k0, .ref k1, .ref k2], aI (CxD X) 601 ((tkScan s 601 0 0 t).1), aI (CxD X) 601 (nf ((tkScan s 601 0 0 t).2.1)), aJ (CxD X) 601 ((tkScan s 601 0 0 t).2.2), ob 7 [.ref x0, .ref x1, .ref x2, .ref x3, .ref x4, .ref x5, .int (nI (txSize ((pParse (tkScan s 601 0 0 t) z).2))), .int (nI (txRules ((pParse (tkScan s 601 0 0 t) z).2))), .int (nI (txTraits ((pParse (tkScan s 601 0 0 t) z).2)))], aI (CxD X) 600 ((pParse (tkScan s 601 0 0 t) z).2.1), aZ (CxD X) 20 (zf ((pParse (tkScan s 601 0 0 t) z).2.2.1)), aI (CxD X) 20 (nf ((pParse (tkScan s 601 0 0 t) z).2.2.2.1)), aI (CxD X) 20 (nf ((pParse (tkScan s 601 0 0 t) z).2.2.2.2.1)), aI (CxD X) 20 (nf ((pParse (tkScan s 601 0 0 t) z).2.2.2.2.2.1)), aJ (CxD X) 8 ((pParse (tkScan s 601 0 0 t) z).2.2.2.2.2.2.1), ob 6 [.ref tb, .int (nI s.2)], aB (CxD X) 3000 s.1]) [pa, tk, k0, k1, k2, tx, x0, x1, x2, x3, x4, x5, tp, tb]) : Aw X [pa, tk, k0, k1, k2, tx, x0, x1, x2, x3, x4, x5, tp, tb] [ob 4 [.ref tk, .ref tx, .int (nI (zAt z)), .int (nI (zOpen z)), .int (zFault z), .int (zLate z), .int (zLateP z), .int (zFaultP z)], ob 8 [.ref k0, .ref k1, .ref k2], aI (CxD X) 601 t.1, aI (CxD X) 601 (nf t.2.1), aJ (CxD X) 601 t.2.2, ob 7 [.ref x0, .ref x1, .ref x2, .ref x3, .ref x4, .ref x5, .int (nI (txSize z.2)), .int (nI (txRules z.2)), .int (nI (txTraits z.2))], aI (CxD X) 600 z.2.1, aZ (CxD X) 20 (zf z.2.2.1), aI (CxD X) 20 (nf z.2.2.2.1), aI (CxD X) 20 (nf z.2.2.2.2.1), aI (CxD X) 20 (nf z.2.2.2.2.2.1), aJ (CxD X) 8 z.2.2.2.2.2.2.1, ob 6 [.ref tb, .int (nI s.2)], aB (CxD X) 3000 s.1] 0 [(0, .ref pa), (1, .ref tp)] [] := by
  refine r_aload_n (n := 1) hX dX4_parse_0 rfl rfl 0 rfl ?_
  refine r_get (n := 4) hX 0 rfl rfl rfl 0 (by decide) lay_X4 fl_X4_12 rfl dX4_parse_1 rfl ?_
  refine r_aload_n (n := 5) hX dX4_parse_4 rfl rfl 1 rfl ?_
  refine r_callV (n := 8) (av := [.ref tp]) hX (ct_X8_scan (CxL X) (CxD X) tk k0 k1 k2 tp tb s t hn) ml_X4_44 cv_X8_scan rfl (by decide) [1, 2, 3, 4, 12, 13] rfl rfl (by decide) 1 rfl rfl rfl rfl rfl (Nat.le_of_ble_eq_true rfl) dX4_parse_5 rfl (fun r_ es_ h_ l_ => ?_)
  obtain ⟨rfl, rfl⟩ := h_
  show Aw X [pa, tk, k0, k1, k2, tx, x0, x1, x2, x3, x4, x5, tp, tb] [ob 4 [.ref tk, .ref tx, .int (nI (zAt z)), .int (nI (zOpen z)), .int (zFault z), .int (zLate z), .int (zLateP z), .int (zFaultP z)], ob 8 [.ref k0, .ref k1, .ref k2], aI (CxD X) 601 ((tkScan s 601 0 0 t).1), aI (CxD X) 601 (nf ((tkScan s 601 0 0 t).2.1)), aJ (CxD X) 601 ((tkScan s 601 0 0 t).2.2), ob 7 [.ref x0, .ref x1, .ref x2, .ref x3, .ref x4, .ref x5, .int (nI (txSize z.2)), .int (nI (txRules z.2)), .int (nI (txTraits z.2))], aI (CxD X) 600 z.2.1, aZ (CxD X) 20 (zf z.2.2.1), aI (CxD X) 20 (nf z.2.2.2.1), aI (CxD X) 20 (nf z.2.2.2.2.1), aI (CxD X) 20 (nf z.2.2.2.2.2.1), aJ (CxD X) 8 z.2.2.2.2.2.2.1, ob 6 [.ref tb, .int (nI s.2)], aB (CxD X) 3000 s.1] 8 [(0, .ref pa), (1, .ref tp)] []
  generalize hu : (tkScan s 601 0 0 t) = u
  refine r_aload_n (n := 9) hX dX4_parse_8 rfl rfl 0 rfl ?_
  refine r_get (n := 12) hX 0 rfl rfl rfl 1 (by decide) lay_X4 fl_X4_21 rfl dX4_parse_9 rfl ?_
  refine r_callV (n := 15) (av := []) hX (ct_X7_clear (CxL X) (CxD X) tx x0 x1 x2 x3 x4 x5 z.2) ml_X4_48 cv_X7_clear rfl (by decide) [5, 6, 7, 8, 9, 10, 11] rfl rfl (by decide) 5 rfl rfl rfl rfl rfl (Nat.le_of_ble_eq_true rfl) dX4_parse_12 rfl (fun r_ es_ h_ l_ => ?_)
  obtain ⟨rfl, rfl⟩ := h_
  show Aw X [pa, tk, k0, k1, k2, tx, x0, x1, x2, x3, x4, x5, tp, tb] [ob 4 [.ref tk, .ref tx, .int (nI (zAt z)), .int (nI (zOpen z)), .int (zFault z), .int (zLate z), .int (zLateP z), .int (zFaultP z)], ob 8 [.ref k0, .ref k1, .ref k2], aI (CxD X) 601 u.1, aI (CxD X) 601 (nf u.2.1), aJ (CxD X) 601 u.2.2, ob 7 [.ref x0, .ref x1, .ref x2, .ref x3, .ref x4, .ref x5, .int (nI (txSize (txClear z.2))), .int (nI (txRules (txClear z.2))), .int (nI (txTraits (txClear z.2)))], aI (CxD X) 600 ((txClear z.2).1), aZ (CxD X) 20 (zf ((txClear z.2).2.1)), aI (CxD X) 20 (nf ((txClear z.2).2.2.1)), aI (CxD X) 20 (nf ((txClear z.2).2.2.2.1)), aI (CxD X) 20 (nf ((txClear z.2).2.2.2.2.1)), aJ (CxD X) 8 ((txClear z.2).2.2.2.2.2.1), ob 6 [.ref tb, .int (nI s.2)], aB (CxD X) 3000 s.1] 15 [(0, .ref pa), (1, .ref tp)] []
  refine r_aload_n (n := 16) hX dX4_parse_15 rfl rfl 0 rfl ?_
  refine r_iconst (n := 17) hX 0 dX4_parse_16 rfl rfl ?_
  refine r_put (n := 20) hX 0 rfl rfl rfl 2 [ob 4 [.ref tk, .ref tx, .int 0, .int (nI (zOpen z)), .int (zFault z), .int (zLate z), .int (zLateP z), .int (zFaultP z)], ob 8 [.ref k0, .ref k1, .ref k2], aI (CxD X) 601 u.1, aI (CxD X) 601 (nf u.2.1), aJ (CxD X) 601 u.2.2, ob 7 [.ref x0, .ref x1, .ref x2, .ref x3, .ref x4, .ref x5, .int (nI (txSize (txClear z.2))), .int (nI (txRules (txClear z.2))), .int (nI (txTraits (txClear z.2)))], aI (CxD X) 600 ((txClear z.2).1), aZ (CxD X) 20 (zf ((txClear z.2).2.1)), aI (CxD X) 20 (nf ((txClear z.2).2.2.1)), aI (CxD X) 20 (nf ((txClear z.2).2.2.2.1)), aI (CxD X) 20 (nf ((txClear z.2).2.2.2.2.1)), aJ (CxD X) 8 ((txClear z.2).2.2.2.2.2.1), ob 6 [.ref tb, .int (nI s.2)], aB (CxD X) 3000 s.1] (by decide) lay_X4 tyX4 tyX4_ok nmX4 fl_X4_25 rfl rfl rfl (Nat.le_of_ble_eq_true rfl) rfl dX4_parse_17 rfl ?_
  refine r_aload_n (n := 21) hX dX4_parse_20 rfl rfl 0 rfl ?_
  refine r_iconst (n := 22) hX 0 dX4_parse_21 rfl rfl ?_
  refine r_put (n := 25) hX 0 rfl rfl rfl 3 [ob 4 [.ref tk, .ref tx, .int 0, .int 0, .int (zFault z), .int (zLate z), .int (zLateP z), .int (zFaultP z)], ob 8 [.ref k0, .ref k1, .ref k2], aI (CxD X) 601 u.1, aI (CxD X) 601 (nf u.2.1), aJ (CxD X) 601 u.2.2, ob 7 [.ref x0, .ref x1, .ref x2, .ref x3, .ref x4, .ref x5, .int (nI (txSize (txClear z.2))), .int (nI (txRules (txClear z.2))), .int (nI (txTraits (txClear z.2)))], aI (CxD X) 600 ((txClear z.2).1), aZ (CxD X) 20 (zf ((txClear z.2).2.1)), aI (CxD X) 20 (nf ((txClear z.2).2.2.1)), aI (CxD X) 20 (nf ((txClear z.2).2.2.2.1)), aI (CxD X) 20 (nf ((txClear z.2).2.2.2.2.1)), aJ (CxD X) 8 ((txClear z.2).2.2.2.2.2.1), ob 6 [.ref tb, .int (nI s.2)], aB (CxD X) 3000 s.1] (by decide) lay_X4 tyX4 tyX4_ok nmX4 fl_X4_29 rfl rfl rfl (Nat.le_of_ble_eq_true rfl) rfl dX4_parse_22 rfl ?_
  refine r_aload_n (n := 26) hX dX4_parse_25 rfl rfl 0 rfl ?_
  refine r_iconst (n := 27) hX 0 dX4_parse_26 rfl rfl ?_
  refine r_put (n := 30) hX 0 rfl rfl rfl 4 [ob 4 [.ref tk, .ref tx, .int 0, .int 0, .int 0, .int (zLate z), .int (zLateP z), .int (zFaultP z)], ob 8 [.ref k0, .ref k1, .ref k2], aI (CxD X) 601 u.1, aI (CxD X) 601 (nf u.2.1), aJ (CxD X) 601 u.2.2, ob 7 [.ref x0, .ref x1, .ref x2, .ref x3, .ref x4, .ref x5, .int (nI (txSize (txClear z.2))), .int (nI (txRules (txClear z.2))), .int (nI (txTraits (txClear z.2)))], aI (CxD X) 600 ((txClear z.2).1), aZ (CxD X) 20 (zf ((txClear z.2).2.1)), aI (CxD X) 20 (nf ((txClear z.2).2.2.1)), aI (CxD X) 20 (nf ((txClear z.2).2.2.2.1)), aI (CxD X) 20 (nf ((txClear z.2).2.2.2.2.1)), aJ (CxD X) 8 ((txClear z.2).2.2.2.2.2.1), ob 6 [.ref tb, .int (nI s.2)], aB (CxD X) 3000 s.1] (by decide) lay_X4 tyX4 tyX4_ok nmX4 fl_X4_32 rfl rfl rfl (Nat.le_of_ble_eq_true rfl) rfl dX4_parse_27 rfl ?_
  refine r_aload_n (n := 31) hX dX4_parse_30 rfl rfl 0 rfl ?_
  refine r_iconst (n := 32) hX 0 dX4_parse_31 rfl rfl ?_
  refine r_put (n := 35) hX 0 rfl rfl rfl 5 [ob 4 [.ref tk, .ref tx, .int 0, .int 0, .int 0, .int 0, .int (zLateP z), .int (zFaultP z)], ob 8 [.ref k0, .ref k1, .ref k2], aI (CxD X) 601 u.1, aI (CxD X) 601 (nf u.2.1), aJ (CxD X) 601 u.2.2, ob 7 [.ref x0, .ref x1, .ref x2, .ref x3, .ref x4, .ref x5, .int (nI (txSize (txClear z.2))), .int (nI (txRules (txClear z.2))), .int (nI (txTraits (txClear z.2)))], aI (CxD X) 600 ((txClear z.2).1), aZ (CxD X) 20 (zf ((txClear z.2).2.1)), aI (CxD X) 20 (nf ((txClear z.2).2.2.1)), aI (CxD X) 20 (nf ((txClear z.2).2.2.2.1)), aI (CxD X) 20 (nf ((txClear z.2).2.2.2.2.1)), aJ (CxD X) 8 ((txClear z.2).2.2.2.2.2.1), ob 6 [.ref tb, .int (nI s.2)], aB (CxD X) 3000 s.1] (by decide) lay_X4 tyX4 tyX4_ok nmX4 fl_X4_35 rfl rfl rfl (Nat.le_of_ble_eq_true rfl) rfl dX4_parse_32 rfl ?_
  refine r_aload_n (n := 36) hX dX4_parse_35 rfl rfl 0 rfl ?_
  refine r_iconst (n := 37) hX (-1) dX4_parse_36 rfl rfl ?_
  refine r_put (n := 40) hX 0 rfl rfl rfl 6 [ob 4 [.ref tk, .ref tx, .int 0, .int 0, .int 0, .int 0, .int (-1), .int (zFaultP z)], ob 8 [.ref k0, .ref k1, .ref k2], aI (CxD X) 601 u.1, aI (CxD X) 601 (nf u.2.1), aJ (CxD X) 601 u.2.2, ob 7 [.ref x0, .ref x1, .ref x2, .ref x3, .ref x4, .ref x5, .int (nI (txSize (txClear z.2))), .int (nI (txRules (txClear z.2))), .int (nI (txTraits (txClear z.2)))], aI (CxD X) 600 ((txClear z.2).1), aZ (CxD X) 20 (zf ((txClear z.2).2.1)), aI (CxD X) 20 (nf ((txClear z.2).2.2.1)), aI (CxD X) 20 (nf ((txClear z.2).2.2.2.1)), aI (CxD X) 20 (nf ((txClear z.2).2.2.2.2.1)), aJ (CxD X) 8 ((txClear z.2).2.2.2.2.2.1), ob 6 [.ref tb, .int (nI s.2)], aB (CxD X) 3000 s.1] (by decide) lay_X4 tyX4 tyX4_ok nmX4 fl_X4_38 rfl rfl rfl (Nat.le_of_ble_eq_true rfl) rfl dX4_parse_37 rfl ?_
  refine r_iconst (n := 41) hX 0 dX4_parse_40 rfl rfl ?_
  refine r_istore_n (n := 42) hX [(0, .ref pa), (1, .ref tp), (2, .int 0)] dX4_parse_41 rfl rfl (by decide) rfl ?_
  show Aw X [pa, tk, k0, k1, k2, tx, x0, x1, x2, x3, x4, x5, tp, tb] [ob 4 [.ref tk, .ref tx, .int (nI (zAt (pZ0 z))), .int (nI (zOpen (pZ0 z))), .int (zFault (pZ0 z)), .int (zLate (pZ0 z)), .int (zLateP (pZ0 z)), .int (zFaultP (pZ0 z))], ob 8 [.ref k0, .ref k1, .ref k2], aI (CxD X) 601 u.1, aI (CxD X) 601 (nf u.2.1), aJ (CxD X) 601 u.2.2, ob 7 [.ref x0, .ref x1, .ref x2, .ref x3, .ref x4, .ref x5, .int (nI (txSize ((pZ0 z).2))), .int (nI (txRules ((pZ0 z).2))), .int (nI (txTraits ((pZ0 z).2)))], aI (CxD X) 600 ((pZ0 z).2.1), aZ (CxD X) 20 (zf ((pZ0 z).2.2.1)), aI (CxD X) 20 (nf ((pZ0 z).2.2.2.1)), aI (CxD X) 20 (nf ((pZ0 z).2.2.2.2.1)), aI (CxD X) 20 (nf ((pZ0 z).2.2.2.2.2.1)), aJ (CxD X) 8 ((pZ0 z).2.2.2.2.2.2.1), ob 6 [.ref tb, .int (nI s.2)], aB (CxD X) 3000 s.1] 42 [(0, .ref pa), (1, .ref tp), (2, .int 0)] []
  exact lp_X4_parse1 hX pa tk k0 k1 k2 tx x0 x1 x2 x3 x4 x5 tp tb s t z hn u hu hR 9 0 (pZ0 z) (by omega) (pZ0_ok z) (by rw [← hu]; rfl)
theorem ct_X4_parse (l : Launch) (D : va_G) (pa tk k0 k1 k2 tx x0 x1 x2 x3 x4 x5 tp tb : Nat) (s : TP) (t : TK) (z : PZ) (hn : s.2 ≤ 3000) : Ct l D m_X4_parse 34 [.ref pa, .ref tp] [pa, tk, k0, k1, k2, tx, x0, x1, x2, x3, x4, x5, tp, tb] [ob 4 [.ref tk, .ref tx, .int (nI (zAt z)), .int (nI (zOpen z)), .int (zFault z), .int (zLate z), .int (zLateP z), .int (zFaultP z)], ob 8 [.ref k0, .ref k1, .ref k2], aI D 601 t.1, aI D 601 (nf t.2.1), aJ D 601 t.2.2, ob 7 [.ref x0, .ref x1, .ref x2, .ref x3, .ref x4, .ref x5, .int (nI (txSize z.2)), .int (nI (txRules z.2)), .int (nI (txTraits z.2))], aI D 600 z.2.1, aZ D 20 (zf z.2.2.1), aI D 20 (nf z.2.2.2.1), aI D 20 (nf z.2.2.2.2.1), aI D 20 (nf z.2.2.2.2.2.1), aJ D 8 z.2.2.2.2.2.2.1, ob 6 [.ref tb, .int (nI s.2)], aB D 3000 s.1] (fun r es' => r = some (.int (zFault (pParse (tkScan s 601 0 0 t) z))) ∧ es' = [ob 4 [.ref tk, .ref tx, .int (nI (zAt (pParse (tkScan s 601 0 0 t) z))), .int (nI (zOpen (pParse (tkScan s 601 0 0 t) z))), .int (zFault (pParse (tkScan s 601 0 0 t) z)), .int (zLate (pParse (tkScan s 601 0 0 t) z)), .int (zLateP (pParse (tkScan s 601 0 0 t) z)), .int (zFaultP (pParse (tkScan s 601 0 0 t) z))], ob 8 [.ref k0, .ref k1, .ref k2], aI D 601 ((tkScan s 601 0 0 t).1), aI D 601 (nf ((tkScan s 601 0 0 t).2.1)), aJ D 601 ((tkScan s 601 0 0 t).2.2), ob 7 [.ref x0, .ref x1, .ref x2, .ref x3, .ref x4, .ref x5, .int (nI (txSize ((pParse (tkScan s 601 0 0 t) z).2))), .int (nI (txRules ((pParse (tkScan s 601 0 0 t) z).2))), .int (nI (txTraits ((pParse (tkScan s 601 0 0 t) z).2)))], aI D 600 ((pParse (tkScan s 601 0 0 t) z).2.1), aZ D 20 (zf ((pParse (tkScan s 601 0 0 t) z).2.2.1)), aI D 20 (nf ((pParse (tkScan s 601 0 0 t) z).2.2.2.1)), aI D 20 (nf ((pParse (tkScan s 601 0 0 t) z).2.2.2.2.1)), aI D 20 (nf ((pParse (tkScan s 601 0 0 t) z).2.2.2.2.2.1)), aJ D 8 ((pParse (tkScan s 601 0 0 t) z).2.2.2.2.2.2.1), ob 6 [.ref tb, .int (nI s.2)], aB D 3000 s.1]) :=
  Ct.ofA (own := RX4) (by decide) rfl (Nat.le_of_ble_eq_true rfl) rfl (fun X hl hD hX hR => by subst hl; subst hD; exact wk_X4_parse hX pa tk k0 k1 k2 tx x0 x1 x2 x3 x4 x5 tp tb s t z hn hR)
