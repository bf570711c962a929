
/-! HostYear$Judge: view, stack -/
def jFact (v : Nat → Int32) (f c : Nat) : Int32 := if f * 26 + c < 312 then v (f * 26 + c) else 0
def txArg (c : Int32) : Nat := (c &&& 65535).toNatClampNeg
def txOp (c : Int32) : Int32 := c >>> (16 &&& 31)
theorem txArg_eq (c : Int32) : c &&& 65535 = nI (txArg c) ∧ txArg c < 65536 := by
  obtain ⟨j, hj, e⟩ := pk_andE c (m := 65535) 16 (by decide)
  have hj : j < 65536 := hj
  have e2 : txArg c = j := by unfold txArg; rw [e]; exact nI_clamp (by omega)
  rw [e2]; exact ⟨e, hj⟩
def jLeaf (v : Nat → Int32) (st : Int32) (a p h : Nat) : Int32 := if st = 0 then nI a else if st = 1 then jFact v p (6 + a) else jFact v h (6 + a)
def jComb (st x y : Int32) : Int32 := if st = 5 then x + y else if st = 6 then x - y else if st = 7 then x * y else if st = 8 then (if x = y then 1 else 0) else if st = 9 then (if x = y then 0 else 1) else if st = 10 then (if y ≤ x then 0 else 1) else if st = 11 then (if y < x then 0 else 1) else if st = 12 then x &&& y else x ||| y
/-- one step of a text's code: of (stack, top) -/
def jStep (cd v : Nat → Int32) (p h i : Nat) (z : (Nat → Int32) × Nat) : (Nat → Int32) × Nat :=
  if txOp (cd i) ≤ 2 ∧ z.2 < 64 then (upd z.1 z.2 (jLeaf v (txOp (cd i)) (txArg (cd i)) p h), z.2 + 1)
  else if txOp (cd i) ≤ 4 ∧ 1 ≤ z.2 then (upd z.1 (z.2 - 1) (if txOp (cd i) = 3 then -(z.1 (z.2 - 1)) else 1 - z.1 (z.2 - 1)), z.2)
  else if 2 ≤ z.2 then (upd z.1 (z.2 - 1 - 1) (jComb (txOp (cd i)) (z.1 (z.2 - 1 - 1)) (z.1 (z.2 - 1))), z.2 - 1)
  else z
def jRun (cd v : Nat → Int32) (p h a b : Nat) (k : Nat → Int32) : (Nat → Int32) × Nat := foldF (jStep cd v p h) (min b 600 - a) a (k, 0)
def jTop (z : (Nat → Int32) × Nat) : Int32 := if z.2 < 1 then 0 else z.1 (z.2 - 1)
def jVal (cd v : Nat → Int32) (p h a b : Nat) (k : Nat → Int32) : Int32 := jTop (jRun cd v p h a b k)
theorem jStep_n {cd v : Nat → Int32} {p h i : Nat} {z : (Nat → Int32) × Nat} (hz : z.2 ≤ 64) : (jStep cd v p h i z).2 ≤ 64 := by
  unfold jStep
  split
  · show z.2 + 1 ≤ 64; omega
  · split
    · exact hz
    · split
      · show z.2 - 1 ≤ 64; omega
      · exact hz
def jHold (s : TX) (v : Nat → Int32) (p h r : Nat) (k : Nat → Int32) : Bool := if s.2.2.2.1 r = s.2.2.2.2.1 r then true else if jVal s.1 v p h (s.2.2.2.1 r) (s.2.2.2.2.1 r) k = 0 then false else true
def jHoldK (s : TX) (v : Nat → Int32) (p h r : Nat) (k : Nat → Int32) : Nat → Int32 := if s.2.2.2.1 r = s.2.2.2.2.1 r then k else (jRun s.1 v p h (s.2.2.2.1 r) (s.2.2.2.2.1 r) k).1
/-- the bars, from rule r on: of (stack), answer and stack -/
def jBars (s : TX) (v : Nat → Int32) (p h : Nat) : Nat → Nat → (Nat → Int32) → Nat × (Nat → Int32)
  | 0, _, k => (0, k)
  | m + 1, r, k => if s.2.1 r = true then (if jHold s v p h r k = true then (10 + r, jHoldK s v p h r k) else jBars s v p h m (r + 1) (jHoldK s v p h r k)) else jBars s v p h m (r + 1) k
def jWhy (s : TX) (v : Nat → Int32) (te : Int32) (p h : Nat) (k : Nat → Int32) : Nat × (Nat → Int32) :=
  if p = h then (1, k) else if jFact v p 0 = 0 then (2, k) else if jFact v h 1 = 0 then (3, k) else if jFact v p (14 + h) = 0 then (4, k) else if jFact v p 4 ≤ te then jBars s v p h (txRules s) 0 k else (5, k)
def jSum (s : TX) (v : Nat → Int32) (p h : Nat) : Nat → Nat → Int32 × (Nat → Int32) → Int32 × (Nat → Int32)
  | 0, _, z => z
  | m + 1, r, z => if s.2.1 r = true then jSum s v p h m (r + 1) z else if jHold s v p h r z.2 = true then jSum s v p h m (r + 1) (z.1 + jVal s.1 v p h (s.2.2.1 r) (s.2.2.2.1 r) (jHoldK s v p h r z.2), (jRun s.1 v p h (s.2.2.1 r) (s.2.2.2.1 r) (jHoldK s v p h r z.2)).1) else jSum s v p h m (r + 1) (z.1, jHoldK s v p h r z.2)
def jClamp (x : Int32) : Nat := if x ≤ 0 then 0 else if 10000 < x then 10000 else x.toNatClampNeg
theorem jClamp_le (x : Int32) : jClamp x ≤ 10000 := by
  unfold jClamp
  split
  · omega
  · split
    · omega
    · rename_i h1 h2
      obtain ⟨j, hj, e⟩ := nI_of2 (M := 10000) (n := 10000) (by decide) (fun z => h1 (Int32.le_of_lt z)) (Int32.not_lt.mp h2)
      rw [e, nI_clamp (by omega)]; exact hj
theorem jClamp_eq (x : Int32) : (if (0 : Int32) < (if (10000 : Int32) < x then (10000 : Int32) else x) then (if (10000 : Int32) < x then (10000 : Int32) else x) else (0 : Int32)) = nI (jClamp x) := by
  unfold jClamp
  by_cases h1 : x ≤ 0
  · have h2 : ¬ (10000 : Int32) < x := fun z => by
      rw [Int32.lt_iff_toInt_lt] at z; rw [Int32.le_iff_toInt_le] at h1
      have e1 : (10000 : Int32).toInt = 10000 := rfl
      have e2 : (0 : Int32).toInt = 0 := rfl
      omega
    rw [if_neg h2, if_neg (Int32.not_lt.mpr h1), if_pos h1]; rfl
  · by_cases h2 : (10000 : Int32) < x
    · rw [if_pos h2, if_pos (by decide), if_neg h1, if_pos h2]; rfl
    · rw [if_neg h2, if_pos (Int32.not_le.mp h1), if_neg h1, if_neg h2]
      obtain ⟨j, hj, e⟩ := nI_of2 (M := 10000) (n := 10000) (by decide) (fun z => h1 (Int32.le_of_lt z)) (Int32.not_lt.mp h2)
      rw [e, nI_clamp (by omega)]
def jCostZ (s : TX) (v : Nat → Int32) (te : Int32) (p h : Nat) (k : Nat → Int32) : Int32 × (Nat → Int32) := jSum s v p h (txRules s) 0 (jFact v p (14 + h), (jWhy s v te p h k).2)
def jCost (s : TX) (v : Nat → Int32) (te : Int32) (p h : Nat) (k : Nat → Int32) : Option Nat := if (jWhy s v te p h k).1 = 0 then some (jClamp (jCostZ s v te p h k).1) else none
def jCostK (s : TX) (v : Nat → Int32) (te : Int32) (p h : Nat) (k : Nat → Int32) : Nat → Int32 := if (jWhy s v te p h k).1 = 0 then (jCostZ s v te p h k).2 else (jWhy s v te p h k).2

set_option maxHeartbeats 1000000 in
set_option maxRecDepth 100000 in
theorem wk_X1_fact {X : Cx} (hX : Ok X cX1_fact 4 RX1 0) (ju j0 j1 : Nat) (v k : Nat → Int32) (f c : Nat) (hf : f < 100) (hc : c < 100000) (hR : Rt X (some FieldType.int) (fun r es' => r = some (.int (jFact v f c)) ∧ es' = [ob 1 [.ref j0, .ref j1], aI (CxD X) 312 v, aI (CxD X) 64 k]) [ju, j0, j1]) : Aw X [ju, j0, j1] [ob 1 [.ref j0, .ref j1], aI (CxD X) 312 v, aI (CxD X) 64 k] 0 [(0, .ref ju), (1, .int (nI f)), (2, .int (nI c))] [] := by
  refine r_iload_n (n := 1) hX dX1_fact_0 rfl rfl 1 rfl ?_
  refine r_bipush (n := 3) hX 26 dX1_fact_1 rfl rfl ?_
  refine r_imul (n := 4) hX dX1_fact_3 rfl ?_
  refine Aw.topi (nI (f * 26)) (pk_mul _ _) ?_
  refine r_iload_n (n := 5) hX dX1_fact_4 rfl rfl 2 rfl ?_
  refine r_iadd (n := 6) hX dX1_fact_5 rfl ?_
  refine Aw.topi (nI ((f * 26) + c)) (nI_add _ _) ?_
  refine r_istore_n (n := 7) hX [(0, .ref ju), (1, .int (nI f)), (2, .int (nI c)), (3, .int (nI ((f * 26) + c)))] dX1_fact_6 rfl rfl (by decide) rfl ?_
  refine r_iload_n (n := 8) hX dX1_fact_7 rfl rfl 3 rfl ?_
  refine r_iflt_n (n := 11) (tgt := 20) hX (by omega) dX1_fact_8 rfl (by decide) ?_
  refine r_iload_n (n := 12) hX dX1_fact_11 rfl rfl 3 rfl ?_
  refine r_aload_n (n := 13) hX dX1_fact_12 rfl rfl 0 rfl ?_
  refine r_get (n := 16) hX 0 rfl rfl rfl 0 (by decide) lay_X1 fl_X1_9 rfl dX1_fact_13 rfl ?_
  refine r_alen (n := 17) hX 1 rfl rfl 0 rfl 312 rfl dX1_fact_16 rfl ?_
  refine r_icmp_lt_n (tgt := 24) (n := 20) hX ((f * 26) + c) 312 (by omega) (by omega) dX1_fact_17 (by decide) rfl (fun c17 => ?_) (fun c17 => ?_)
  · skip
    refine r_aload_n (n := 25) hX dX1_fact_24 rfl rfl 0 rfl ?_
    refine r_get (n := 28) hX 0 rfl rfl rfl 0 (by decide) lay_X1 fl_X1_9 rfl dX1_fact_25 rfl ?_
    refine r_iload_n (n := 29) hX dX1_fact_28 rfl rfl 3 rfl ?_
    refine r_ialdn (n := 30) (i := ((f * 26) + c)) hX 1 rfl rfl (by omega) (by decide) dX1_fact_29 rfl ?_
    exact r_ireturn hX hR dX1_fact_30 ⟨by first | (rw [jFact, if_pos c17]) | (rw [jFact, if_neg (Nat.not_lt.mpr c17)]), rfl⟩
  · skip
    refine r_iconst (n := 21) hX 0 dX1_fact_20 rfl rfl ?_
    refine r_goto (tgt := 30) hX dX1_fact_21 (by decide) ?_
    exact r_ireturn hX hR dX1_fact_30 ⟨by first | (rw [jFact, if_pos c17]) | (rw [jFact, if_neg (Nat.not_lt.mpr c17)]), rfl⟩
theorem ct_X1_fact (l : Launch) (D : va_G) (ju j0 j1 : Nat) (v k : Nat → Int32) (f c : Nat) (hf : f < 100) (hc : c < 100000) : Ct l D m_X1_fact 0 [.ref ju, .int (nI f), .int (nI c)] [ju, j0, j1] [ob 1 [.ref j0, .ref j1], aI D 312 v, aI D 64 k] (fun r es' => r = some (.int (jFact v f c)) ∧ es' = [ob 1 [.ref j0, .ref j1], aI D 312 v, aI D 64 k]) :=
  Ct.ofA (own := RX1) (by decide) rfl (Nat.le_of_ble_eq_true rfl) rfl (fun X hl hD hX hR => by subst hl; subst hD; exact wk_X1_fact hX ju j0 j1 v k f c hf hc hR)
set_option maxHeartbeats 1000000 in
set_option maxRecDepth 100000 in
theorem wk_X1_leaf {X : Cx} (hX : Ok X cX1_leaf 5 RX1 1) (ju j0 j1 : Nat) (v k : Nat → Int32) (st : Int32) (a p h : Nat) (ha : a < 65536) (hp : p < 12) (hh : h < 12) (hR : Rt X (some FieldType.int) (fun r es' => r = some (.int (jLeaf v st a p h)) ∧ es' = [ob 1 [.ref j0, .ref j1], aI (CxD X) 312 v, aI (CxD X) 64 k]) [ju, j0, j1]) : Aw X [ju, j0, j1] [ob 1 [.ref j0, .ref j1], aI (CxD X) 312 v, aI (CxD X) 64 k] 0 [(0, .ref ju), (1, .int st), (2, .int (nI a)), (3, .int (nI p)), (4, .int (nI h))] [] := by
  refine r_iload_n (n := 1) hX dX1_leaf_0 rfl rfl 1 rfl ?_
  refine r_if_ne (tgt := 6) (n := 4) hX dX1_leaf_1 (by decide) rfl (fun c1 => ?_) (fun c1 => ?_)
  · skip
    refine r_aload_n (n := 7) hX dX1_leaf_6 rfl rfl 0 rfl ?_
    refine r_iload_n (n := 8) hX dX1_leaf_7 rfl rfl 1 rfl ?_
    refine r_iconst (n := 9) hX 1 dX1_leaf_8 rfl rfl ?_
    refine r_icmp_ne (tgt := 16) (n := 12) hX dX1_leaf_9 (by decide) rfl (fun c9 => ?_) (fun c9 => ?_)
    · skip
      refine r_iload (n := 18) hX dX1_leaf_16 rfl 4 rfl ?_
      refine r_bipush (n := 20) hX 6 dX1_leaf_18 rfl rfl ?_
      refine r_iload_n (n := 21) hX dX1_leaf_20 rfl rfl 2 rfl ?_
      refine r_iadd (n := 22) hX dX1_leaf_21 rfl ?_
      refine Aw.topi (nI (6 + a)) (nI_add _ _) ?_
      refine r_callV (n := 25) (av := [.int (nI h), .int (nI (6 + a))]) hX (ct_X1_fact (CxL X) (CxD X) ju j0 j1 v k h (6 + a) (by omega) (by omega)) ml_X1_18 cv_X1_fact rfl (by decide) [0, 1, 2] rfl rfl (by decide) 0 rfl rfl rfl rfl rfl (Nat.le_of_ble_eq_true rfl) dX1_leaf_22 rfl (fun r_ es_ h_ l_ => ?_)
      obtain ⟨rfl, rfl⟩ := h_
      show Aw X [ju, j0, j1] [ob 1 [.ref j0, .ref j1], aI (CxD X) 312 v, aI (CxD X) 64 k] 25 [(0, .ref ju), (1, .int st), (2, .int (nI a)), (3, .int (nI p)), (4, .int (nI h))] [.int (jFact v h (6 + a))]
      exact r_ireturn hX hR dX1_leaf_25 ⟨by first | (rw [jLeaf, if_neg c1, if_pos c9]) | (rw [jLeaf, if_neg c1, if_neg c9]), rfl⟩
    · skip
      refine r_iload_n (n := 13) hX dX1_leaf_12 rfl rfl 3 rfl ?_
      refine r_goto (tgt := 18) hX dX1_leaf_13 (by decide) ?_
      refine r_bipush (n := 20) hX 6 dX1_leaf_18 rfl rfl ?_
      refine r_iload_n (n := 21) hX dX1_leaf_20 rfl rfl 2 rfl ?_
      refine r_iadd (n := 22) hX dX1_leaf_21 rfl ?_
      refine Aw.topi (nI (6 + a)) (nI_add _ _) ?_
      refine r_callV (n := 25) (av := [.int (nI p), .int (nI (6 + a))]) hX (ct_X1_fact (CxL X) (CxD X) ju j0 j1 v k p (6 + a) (by omega) (by omega)) ml_X1_18 cv_X1_fact rfl (by decide) [0, 1, 2] rfl rfl (by decide) 0 rfl rfl rfl rfl rfl (Nat.le_of_ble_eq_true rfl) dX1_leaf_22 rfl (fun r_ es_ h_ l_ => ?_)
      obtain ⟨rfl, rfl⟩ := h_
      show Aw X [ju, j0, j1] [ob 1 [.ref j0, .ref j1], aI (CxD X) 312 v, aI (CxD X) 64 k] 25 [(0, .ref ju), (1, .int st), (2, .int (nI a)), (3, .int (nI p)), (4, .int (nI h))] [.int (jFact v p (6 + a))]
      exact r_ireturn hX hR dX1_leaf_25 ⟨by first | (rw [jLeaf, if_neg c1, if_pos c9]) | (rw [jLeaf, if_neg c1, if_neg c9]), rfl⟩
  · skip
    refine r_iload_n (n := 5) hX dX1_leaf_4 rfl rfl 2 rfl ?_
    exact r_ireturn hX hR dX1_leaf_5 ⟨by rw [jLeaf, if_pos c1], rfl⟩
theorem ct_X1_leaf (l : Launch) (D : va_G) (ju j0 j1 : Nat) (v k : Nat → Int32) (st : Int32) (a p h : Nat) (ha : a < 65536) (hp : p < 12) (hh : h < 12) : Ct l D m_X1_leaf 1 [.ref ju, .int st, .int (nI a), .int (nI p), .int (nI h)] [ju, j0, j1] [ob 1 [.ref j0, .ref j1], aI D 312 v, aI D 64 k] (fun r es' => r = some (.int (jLeaf v st a p h)) ∧ es' = [ob 1 [.ref j0, .ref j1], aI D 312 v, aI D 64 k]) :=
  Ct.ofA (own := RX1) (by decide) rfl (Nat.le_of_ble_eq_true rfl) rfl (fun X hl hD hX hR => by subst hl; subst hD; exact wk_X1_leaf hX ju j0 j1 v k st a p h ha hp hh hR)
set_option maxHeartbeats 1000000 in
set_option maxRecDepth 100000 in
theorem wk_X1_combine {X : Cx} (hX : Ok X cX1_combine 3 RX1 0) (st x y : Int32)  (hR : Rt X (some FieldType.int) (fun r es' => r = some (.int (jComb st x y)) ∧ es' = []) []) : Aw X [] [] 0 [(0, .int st), (1, .int x), (2, .int y)] [] := by
  refine r_iload_n (n := 1) hX dX1_combine_0 rfl rfl 0 rfl ?_
  by_cases k1_5 : st = 5
  · refine Aw.topi 5 k1_5 ?_
    refine r_tabIn (tgt := 48) (off := 47) hX dX1_combine_1 (by decide) (by decide) (by decide) (by decide) ?_
    refine r_iload_n (n := 49) hX dX1_combine_48 rfl rfl 1 rfl ?_
    refine r_iload_n (n := 50) hX dX1_combine_49 rfl rfl 2 rfl ?_
    refine r_iadd (n := 51) hX dX1_combine_50 rfl ?_
    exact r_ireturn hX hR dX1_combine_51 ⟨by unfold jComb; rw [if_pos k1_5], rfl⟩
  · skip
    by_cases k1_6 : st = 6
    · refine Aw.topi 6 k1_6 ?_
      refine r_tabIn (tgt := 52) (off := 51) hX dX1_combine_1 (by decide) (by decide) (by decide) (by decide) ?_
      refine r_iload_n (n := 53) hX dX1_combine_52 rfl rfl 1 rfl ?_
      refine r_iload_n (n := 54) hX dX1_combine_53 rfl rfl 2 rfl ?_
      refine r_isub (n := 55) hX dX1_combine_54 rfl ?_
      exact r_ireturn hX hR dX1_combine_55 ⟨by unfold jComb; rw [if_neg k1_5]; rw [if_pos k1_6], rfl⟩
    · skip
      by_cases k1_7 : st = 7
      · refine Aw.topi 7 k1_7 ?_
        refine r_tabIn (tgt := 56) (off := 55) hX dX1_combine_1 (by decide) (by decide) (by decide) (by decide) ?_
        refine r_iload_n (n := 57) hX dX1_combine_56 rfl rfl 1 rfl ?_
        refine r_iload_n (n := 58) hX dX1_combine_57 rfl rfl 2 rfl ?_
        refine r_imul (n := 59) hX dX1_combine_58 rfl ?_
        exact r_ireturn hX hR dX1_combine_59 ⟨by unfold jComb; rw [if_neg k1_5]; rw [if_neg k1_6]; rw [if_pos k1_7], rfl⟩
      · skip
        by_cases k1_8 : st = 8
        · refine Aw.topi 8 k1_8 ?_
          refine r_tabIn (tgt := 60) (off := 59) hX dX1_combine_1 (by decide) (by decide) (by decide) (by decide) ?_
          refine r_iload_n (n := 61) hX dX1_combine_60 rfl rfl 1 rfl ?_
          refine r_iload_n (n := 62) hX dX1_combine_61 rfl rfl 2 rfl ?_
          refine r_icmp_ne (tgt := 69) (n := 65) hX dX1_combine_62 (by decide) rfl (fun c62 => ?_) (fun c62 => ?_)
          · skip
            refine r_iconst (n := 70) hX 0 dX1_combine_69 rfl rfl ?_
            exact r_ireturn hX hR dX1_combine_70 ⟨by unfold jComb; rw [if_neg k1_5]; rw [if_neg k1_6]; rw [if_neg k1_7]; rw [if_pos k1_8]; first | rw [if_pos c62] | rw [if_neg c62], rfl⟩
          · skip
            refine r_iconst (n := 66) hX 1 dX1_combine_65 rfl rfl ?_
            refine r_goto (tgt := 70) hX dX1_combine_66 (by decide) ?_
            exact r_ireturn hX hR dX1_combine_70 ⟨by unfold jComb; rw [if_neg k1_5]; rw [if_neg k1_6]; rw [if_neg k1_7]; rw [if_pos k1_8]; first | rw [if_pos c62] | rw [if_neg c62], rfl⟩
        · skip
          by_cases k1_9 : st = 9
          · refine Aw.topi 9 k1_9 ?_
            refine r_tabIn (tgt := 71) (off := 70) hX dX1_combine_1 (by decide) (by decide) (by decide) (by decide) ?_
            refine r_iload_n (n := 72) hX dX1_combine_71 rfl rfl 1 rfl ?_
            refine r_iload_n (n := 73) hX dX1_combine_72 rfl rfl 2 rfl ?_
            refine r_icmp_eq (tgt := 80) (n := 76) hX dX1_combine_73 (by decide) rfl (fun c73 => ?_) (fun c73 => ?_)
            · skip
              refine r_iconst (n := 81) hX 0 dX1_combine_80 rfl rfl ?_
              exact r_ireturn hX hR dX1_combine_81 ⟨by unfold jComb; rw [if_neg k1_5]; rw [if_neg k1_6]; rw [if_neg k1_7]; rw [if_neg k1_8]; rw [if_pos k1_9]; first | rw [if_pos c73] | rw [if_neg c73], rfl⟩
            · skip
              refine r_iconst (n := 77) hX 1 dX1_combine_76 rfl rfl ?_
              refine r_goto (tgt := 81) hX dX1_combine_77 (by decide) ?_
              exact r_ireturn hX hR dX1_combine_81 ⟨by unfold jComb; rw [if_neg k1_5]; rw [if_neg k1_6]; rw [if_neg k1_7]; rw [if_neg k1_8]; rw [if_pos k1_9]; first | rw [if_pos c73] | rw [if_neg c73], rfl⟩
          · skip
            by_cases k1_10 : st = 10
            · refine Aw.topi 10 k1_10 ?_
              refine r_tabIn (tgt := 82) (off := 81) hX dX1_combine_1 (by decide) (by decide) (by decide) (by decide) ?_
              refine r_iload_n (n := 83) hX dX1_combine_82 rfl rfl 1 rfl ?_
              refine r_iload_n (n := 84) hX dX1_combine_83 rfl rfl 2 rfl ?_
              refine r_icmp_ge (tgt := 91) (n := 87) hX dX1_combine_84 (by decide) rfl (fun c84 => ?_) (fun c84 => ?_)
              · skip
                refine r_iconst (n := 92) hX 0 dX1_combine_91 rfl rfl ?_
                exact r_ireturn hX hR dX1_combine_92 ⟨by unfold jComb; rw [if_neg k1_5]; rw [if_neg k1_6]; rw [if_neg k1_7]; rw [if_neg k1_8]; rw [if_neg k1_9]; rw [if_pos k1_10]; first | rw [if_pos c84] | rw [if_neg c84], rfl⟩
              · skip
                refine r_iconst (n := 88) hX 1 dX1_combine_87 rfl rfl ?_
                refine r_goto (tgt := 92) hX dX1_combine_88 (by decide) ?_
                exact r_ireturn hX hR dX1_combine_92 ⟨by unfold jComb; rw [if_neg k1_5]; rw [if_neg k1_6]; rw [if_neg k1_7]; rw [if_neg k1_8]; rw [if_neg k1_9]; rw [if_pos k1_10]; first | rw [if_pos c84] | rw [if_neg c84], rfl⟩
            · skip
              by_cases k1_11 : st = 11
              · refine Aw.topi 11 k1_11 ?_
                refine r_tabIn (tgt := 93) (off := 92) hX dX1_combine_1 (by decide) (by decide) (by decide) (by decide) ?_
                refine r_iload_n (n := 94) hX dX1_combine_93 rfl rfl 1 rfl ?_
                refine r_iload_n (n := 95) hX dX1_combine_94 rfl rfl 2 rfl ?_
                refine r_icmp_gt (tgt := 102) (n := 98) hX dX1_combine_95 (by decide) rfl (fun c95 => ?_) (fun c95 => ?_)
                · skip
                  refine r_iconst (n := 103) hX 0 dX1_combine_102 rfl rfl ?_
                  exact r_ireturn hX hR dX1_combine_103 ⟨by unfold jComb; rw [if_neg k1_5]; rw [if_neg k1_6]; rw [if_neg k1_7]; rw [if_neg k1_8]; rw [if_neg k1_9]; rw [if_neg k1_10]; rw [if_pos k1_11]; first | rw [if_pos c95] | rw [if_neg c95], rfl⟩
                · skip
                  refine r_iconst (n := 99) hX 1 dX1_combine_98 rfl rfl ?_
                  refine r_goto (tgt := 103) hX dX1_combine_99 (by decide) ?_
                  exact r_ireturn hX hR dX1_combine_103 ⟨by unfold jComb; rw [if_neg k1_5]; rw [if_neg k1_6]; rw [if_neg k1_7]; rw [if_neg k1_8]; rw [if_neg k1_9]; rw [if_neg k1_10]; rw [if_pos k1_11]; first | rw [if_pos c95] | rw [if_neg c95], rfl⟩
              · skip
                by_cases k1_12 : st = 12
                · refine Aw.topi 12 k1_12 ?_
                  refine r_tabIn (tgt := 104) (off := 103) hX dX1_combine_1 (by decide) (by decide) (by decide) (by decide) ?_
                  refine r_iload_n (n := 105) hX dX1_combine_104 rfl rfl 1 rfl ?_
                  refine r_iload_n (n := 106) hX dX1_combine_105 rfl rfl 2 rfl ?_
                  refine r_iand (n := 107) hX dX1_combine_106 rfl ?_
                  exact r_ireturn hX hR dX1_combine_107 ⟨by unfold jComb; rw [if_neg k1_5]; rw [if_neg k1_6]; rw [if_neg k1_7]; rw [if_neg k1_8]; rw [if_neg k1_9]; rw [if_neg k1_10]; rw [if_neg k1_11]; rw [if_pos k1_12], rfl⟩
                · skip
                  refine r_tabOut (tgt := 108) hX dX1_combine_1 (by have h0 := ne_toInt k1_5 (a := 5) (by decide); have h1 := ne_toInt k1_6 (a := 6) (by decide); have h2 := ne_toInt k1_7 (a := 7) (by decide); have h3 := ne_toInt k1_8 (a := 8) (by decide); have h4 := ne_toInt k1_9 (a := 9) (by decide); have h5 := ne_toInt k1_10 (a := 10) (by decide); have h6 := ne_toInt k1_11 (a := 11) (by decide); have h7 := ne_toInt k1_12 (a := 12) (by decide); omega) (by decide) ?_
                  refine r_iload_n (n := 109) hX dX1_combine_108 rfl rfl 1 rfl ?_
                  refine r_iload_n (n := 110) hX dX1_combine_109 rfl rfl 2 rfl ?_
                  refine r_ior (n := 111) hX dX1_combine_110 rfl ?_
                  exact r_ireturn hX hR dX1_combine_111 ⟨by unfold jComb; rw [if_neg k1_5]; rw [if_neg k1_6]; rw [if_neg k1_7]; rw [if_neg k1_8]; rw [if_neg k1_9]; rw [if_neg k1_10]; rw [if_neg k1_11]; rw [if_neg k1_12], rfl⟩
theorem ct_X1_combine (l : Launch) (D : va_G) (st x y : Int32)  : Ct l D m_X1_combine 0 [.int st, .int x, .int y] [] [] (fun r es' => r = some (.int (jComb st x y)) ∧ es' = []) :=
  Ct.ofA (own := RX1) (by decide) rfl (Nat.le_of_ble_eq_true rfl) rfl (fun X hl hD hX hR => by subst hl; subst hD; exact wk_X1_combine hX st x y hR)
set_option maxHeartbeats 1000000 in
set_option maxRecDepth 100000 in
theorem lp_X1_val {X : Cx} (hX : Ok X cX1_valueOf 9 RX1 2) (ju j0 j1 : Nat) (tx x0 x1 x2 x3 x4 x5 : Nat) (s : TX) (v k : Nat → Int32) (a b p h : Nat) (ha : a ≤ 600) (hb : b ≤ 600) (hp : p < 12) (hh : h < 12) (hR : Rt X (some FieldType.int) (fun r es' => r = some (.int (jVal s.1 v p h a b k)) ∧ es' = [ob 1 [.ref j0, .ref j1], aI (CxD X) 312 v, aI (CxD X) 64 ((jRun s.1 v p h a b k).1), ob 7 [.ref x0, .ref x1, .ref x2, .ref x3, .ref x4, .ref x5, .int (nI (txSize s)), .int (nI (txRules s)), .int (nI (txTraits s))], aI (CxD X) 600 s.1, aZ (CxD X) 20 (zf s.2.1), aI (CxD X) 20 (nf s.2.2.1), aI (CxD X) 20 (nf s.2.2.2.1), aI (CxD X) 20 (nf s.2.2.2.2.1), aJ (CxD X) 8 s.2.2.2.2.2.1]) [ju, j0, j1, tx, x0, x1, x2, x3, x4, x5]) : ∀ (m i : Nat) (z : (Nat → Int32) × Nat), m = min b 600 - i → i ≤ 600 → z.2 ≤ 64 → foldF (jStep s.1 v p h) m i z = jRun s.1 v p h a b k → Aw X [ju, j0, j1, tx, x0, x1, x2, x3, x4, x5] [ob 1 [.ref j0, .ref j1], aI (CxD X) 312 v, aI (CxD X) 64 z.1, ob 7 [.ref x0, .ref x1, .ref x2, .ref x3, .ref x4, .ref x5, .int (nI (txSize s)), .int (nI (txRules s)), .int (nI (txTraits s))], aI (CxD X) 600 s.1, aZ (CxD X) 20 (zf s.2.1), aI (CxD X) 20 (nf s.2.2.1), aI (CxD X) 20 (nf s.2.2.2.1), aI (CxD X) 20 (nf s.2.2.2.2.1), aJ (CxD X) 8 s.2.2.2.2.2.1] 10 [(0, .ref ju), (1, .ref tx), (2, .int (nI a)), (3, .int (nI b)), (4, .int (nI p)), (5, .int (nI h)), (6, .int (nI z.2)), (7, .int (nI i))] [] := by
  intro m
  induction m with
  | zero =>
    intro i z hi hi6 hz he
    refine r_iload (n := 12) hX dX1_valueOf_10 rfl 7 rfl ?_
    refine r_iload_n (n := 13) hX dX1_valueOf_12 rfl rfl 3 rfl ?_
    refine r_icmp_ge_n (tgt := 181) (n := 16) hX i b (by omega) (by omega) dX1_valueOf_13 (by decide) rfl (fun c13 => ?_) (fun c13 => ?_)
    · skip
      refine r_iload (n := 183) hX dX1_valueOf_181 rfl 6 rfl ?_
      refine r_iconst (n := 184) hX 1 dX1_valueOf_183 rfl rfl ?_
      refine r_icmp_lt_n (tgt := 199) (n := 187) hX z.2 1 (by omega) (by omega) dX1_valueOf_184 (by decide) rfl (fun c184 => ?_) (fun c184 => ?_)
      · skip
        refine r_iconst (n := 200) hX 0 dX1_valueOf_199 rfl rfl ?_
        exact r_ireturn hX hR dX1_valueOf_200 (by have he : z = jRun s.1 v p h a b k := he; simp only [jVal, jTop, ← he]; (first | rw [if_pos c184] | rw [if_neg (Nat.not_lt.mpr c184)]); exact ⟨rfl, trivial⟩)
      · skip
        refine r_aload_n (n := 188) hX dX1_valueOf_187 rfl rfl 0 rfl ?_
        refine r_get (n := 191) hX 0 rfl rfl rfl 1 (by decide) lay_X1 fl_X1_15 rfl dX1_valueOf_188 rfl ?_
        refine r_iload (n := 193) hX dX1_valueOf_191 rfl 6 rfl ?_
        refine r_iconst (n := 194) hX 1 dX1_valueOf_193 rfl rfl ?_
        refine r_isub (n := 195) hX dX1_valueOf_194 rfl ?_
        refine Aw.topi (nI (z.2 - 1)) (nI_m1 (by omega)) ?_
        refine r_ialdn (n := 196) (i := (z.2 - 1)) hX 2 rfl rfl (by omega) (by decide) dX1_valueOf_195 rfl ?_
        refine r_goto (tgt := 200) hX dX1_valueOf_196 (by decide) ?_
        exact r_ireturn hX hR dX1_valueOf_200 (by have he : z = jRun s.1 v p h a b k := he; simp only [jVal, jTop, ← he]; (first | rw [if_pos c184] | rw [if_neg (Nat.not_lt.mpr c184)]); exact ⟨rfl, trivial⟩)
    · skip
      refine r_iload (n := 18) hX dX1_valueOf_16 rfl 7 rfl ?_
      refine r_sipush (n := 21) hX 600 dX1_valueOf_18 rfl rfl ?_
      refine r_icmp_ge_n (tgt := 181) (n := 24) hX i 600 (by omega) (by omega) dX1_valueOf_21 (by decide) rfl (fun c21 => ?_) (fun c21 => absurd c21 (by omega))
      refine r_iload (n := 183) hX dX1_valueOf_181 rfl 6 rfl ?_
      refine r_iconst (n := 184) hX 1 dX1_valueOf_183 rfl rfl ?_
      refine r_icmp_lt_n (tgt := 199) (n := 187) hX z.2 1 (by omega) (by omega) dX1_valueOf_184 (by decide) rfl (fun c184 => ?_) (fun c184 => ?_)
      · skip
        refine r_iconst (n := 200) hX 0 dX1_valueOf_199 rfl rfl ?_
        exact r_ireturn hX hR dX1_valueOf_200 (by have he : z = jRun s.1 v p h a b k := he; simp only [jVal, jTop, ← he]; (first | rw [if_pos c184] | rw [if_neg (Nat.not_lt.mpr c184)]); exact ⟨rfl, trivial⟩)
      · skip
        refine r_aload_n (n := 188) hX dX1_valueOf_187 rfl rfl 0 rfl ?_
        refine r_get (n := 191) hX 0 rfl rfl rfl 1 (by decide) lay_X1 fl_X1_15 rfl dX1_valueOf_188 rfl ?_
        refine r_iload (n := 193) hX dX1_valueOf_191 rfl 6 rfl ?_
        refine r_iconst (n := 194) hX 1 dX1_valueOf_193 rfl rfl ?_
        refine r_isub (n := 195) hX dX1_valueOf_194 rfl ?_
        refine Aw.topi (nI (z.2 - 1)) (nI_m1 (by omega)) ?_
        refine r_ialdn (n := 196) (i := (z.2 - 1)) hX 2 rfl rfl (by omega) (by decide) dX1_valueOf_195 rfl ?_
        refine r_goto (tgt := 200) hX dX1_valueOf_196 (by decide) ?_
        exact r_ireturn hX hR dX1_valueOf_200 (by have he : z = jRun s.1 v p h a b k := he; simp only [jVal, jTop, ← he]; (first | rw [if_pos c184] | rw [if_neg (Nat.not_lt.mpr c184)]); exact ⟨rfl, trivial⟩)
  | succ m ih =>
    intro i z hi hi6 hz he
    refine r_iload (n := 12) hX dX1_valueOf_10 rfl 7 rfl ?_
    refine r_iload_n (n := 13) hX dX1_valueOf_12 rfl rfl 3 rfl ?_
    refine r_icmp_ge_n (tgt := 181) (n := 16) hX i b (by omega) (by omega) dX1_valueOf_13 (by decide) rfl (fun c13 => absurd c13 (by omega)) (fun c13 => ?_)
    refine r_iload (n := 18) hX dX1_valueOf_16 rfl 7 rfl ?_
    refine r_sipush (n := 21) hX 600 dX1_valueOf_18 rfl rfl ?_
    refine r_icmp_ge_n (tgt := 181) (n := 24) hX i 600 (by omega) (by omega) dX1_valueOf_21 (by decide) rfl (fun c21 => absurd c21 (by omega)) (fun c21 => ?_)
    refine r_aload_n (n := 25) hX dX1_valueOf_24 rfl rfl 1 rfl ?_
    refine r_get (n := 28) hX 3 rfl rfl rfl 0 (by decide) lay_X7 fl_X1_61 rfl dX1_valueOf_25 rfl ?_
    refine r_iload (n := 30) hX dX1_valueOf_28 rfl 7 rfl ?_
    refine r_ialdn (n := 31) (i := i) hX 4 rfl rfl (by omega) (by decide) dX1_valueOf_30 rfl ?_
    refine r_bipush (n := 33) hX 16 dX1_valueOf_31 rfl rfl ?_
    refine r_ishr (n := 34) hX dX1_valueOf_33 rfl ?_
    refine Aw.topi (txOp (s.1 i)) rfl ?_
    refine r_istore (n := 36) hX [(0, .ref ju), (1, .ref tx), (2, .int (nI a)), (3, .int (nI b)), (4, .int (nI p)), (5, .int (nI h)), (6, .int (nI z.2)), (7, .int (nI i)), (8, .int (txOp (s.1 i)))] dX1_valueOf_34 rfl (by decide) rfl ?_
    refine r_iload (n := 38) hX dX1_valueOf_36 rfl 8 rfl ?_
    refine r_iconst (n := 39) hX 2 dX1_valueOf_38 rfl rfl ?_
    refine r_icmp_gt (tgt := 82) (n := 42) hX dX1_valueOf_39 (by decide) rfl (fun c39 => ?_) (fun c39 => ?_)
    · skip
      refine r_iload (n := 84) hX dX1_valueOf_82 rfl 8 rfl ?_
      refine r_iconst (n := 85) hX 4 dX1_valueOf_84 rfl rfl ?_
      refine r_icmp_gt (tgt := 136) (n := 88) hX dX1_valueOf_85 (by decide) rfl (fun c85 => ?_) (fun c85 => ?_)
      · skip
        refine r_iload (n := 138) hX dX1_valueOf_136 rfl 6 rfl ?_
        refine r_iconst (n := 139) hX 2 dX1_valueOf_138 rfl rfl ?_
        refine r_icmp_lt_n (tgt := 175) (n := 142) hX z.2 2 (by omega) (by omega) dX1_valueOf_139 (by decide) rfl (fun c139 => ?_) (fun c139 => ?_)
        · skip
          refine r_iinc (n := 178) hX (nI (i + 1)) [(0, .ref ju), (1, .ref tx), (2, .int (nI a)), (3, .int (nI b)), (4, .int (nI p)), (5, .int (nI h)), (6, .int (nI z.2)), (7, .int (nI (i + 1))), (8, .int (txOp (s.1 i)))] dX1_valueOf_175 rfl 7 rfl (nI_add _ _) (by decide) rfl ?_
          refine r_goto (tgt := 10) hX dX1_valueOf_178 (by decide) ?_
          refine Aw.loc (lv' := [(0, .ref ju), (1, .ref tx), (2, .int (nI a)), (3, .int (nI b)), (4, .int (nI p)), (5, .int (nI h)), (6, .int (nI z.2)), (7, .int (nI (i + 1)))]) [0, 1, 2, 3, 4, 5, 6, 7] rfl ?_
          have hs : jStep s.1 v p h i z = z := by
            unfold jStep; rw [if_neg (fun e => absurd c39 (Int32.not_lt.mpr e.1))]; rw [if_neg (fun e => absurd c85 (Int32.not_lt.mpr e.1))]; rw [if_neg (Nat.not_le.mpr c139)]
          exact ih (i + 1) z (by omega) (by omega) (by rw [← hs]; exact jStep_n hz) (by rw [← he]; simp only [foldF, hs])
        · skip
          refine r_iinc (n := 145) hX (nI (z.2 - 1)) [(0, .ref ju), (1, .ref tx), (2, .int (nI a)), (3, .int (nI b)), (4, .int (nI p)), (5, .int (nI h)), (6, .int (nI (z.2 - 1))), (7, .int (nI i)), (8, .int (txOp (s.1 i)))] dX1_valueOf_142 rfl 6 rfl (by rw [inc_m1]; exact nI_m1 (by omega)) (by decide) rfl ?_
          refine r_aload_n (n := 146) hX dX1_valueOf_145 rfl rfl 0 rfl ?_
          refine r_get (n := 149) hX 0 rfl rfl rfl 1 (by decide) lay_X1 fl_X1_15 rfl dX1_valueOf_146 rfl ?_
          refine r_iload (n := 151) hX dX1_valueOf_149 rfl 6 rfl ?_
          refine r_iconst (n := 152) hX 1 dX1_valueOf_151 rfl rfl ?_
          refine r_isub (n := 153) hX dX1_valueOf_152 rfl ?_
          refine Aw.topi (nI (z.2 - 1 - 1)) (nI_m1 (by omega)) ?_
          refine r_iload (n := 155) hX dX1_valueOf_153 rfl 8 rfl ?_
          refine r_aload_n (n := 156) hX dX1_valueOf_155 rfl rfl 0 rfl ?_
          refine r_get (n := 159) hX 0 rfl rfl rfl 1 (by decide) lay_X1 fl_X1_15 rfl dX1_valueOf_156 rfl ?_
          refine r_iload (n := 161) hX dX1_valueOf_159 rfl 6 rfl ?_
          refine r_iconst (n := 162) hX 1 dX1_valueOf_161 rfl rfl ?_
          refine r_isub (n := 163) hX dX1_valueOf_162 rfl ?_
          refine Aw.topi (nI (z.2 - 1 - 1)) (nI_m1 (by omega)) ?_
          refine r_ialdn (n := 164) (i := (z.2 - 1 - 1)) hX 2 rfl rfl (by omega) (by decide) dX1_valueOf_163 rfl ?_
          refine r_aload_n (n := 165) hX dX1_valueOf_164 rfl rfl 0 rfl ?_
          refine r_get (n := 168) hX 0 rfl rfl rfl 1 (by decide) lay_X1 fl_X1_15 rfl dX1_valueOf_165 rfl ?_
          refine r_iload (n := 170) hX dX1_valueOf_168 rfl 6 rfl ?_
          refine r_ialdn (n := 171) (i := (z.2 - 1)) hX 2 rfl rfl (by omega) (by decide) dX1_valueOf_170 rfl ?_
          refine r_callS (n := 174) (av := [.int (txOp (s.1 i)), .int (z.1 (z.2 - 1 - 1)), .int (z.1 (z.2 - 1))]) hX (ct_X1_combine (CxL X) (CxD X) (txOp (s.1 i)) (z.1 (z.2 - 1 - 1)) (z.1 (z.2 - 1))) ml_X1_69 cs_X1_combine rfl (by decide) [] rfl rfl (by decide) rfl (Nat.le_of_ble_eq_true rfl) dX1_valueOf_171 rfl (fun r_ es_ h_ l_ => ?_)
          obtain ⟨rfl, rfl⟩ := h_
          show Aw X [ju, j0, j1, tx, x0, x1, x2, x3, x4, x5] [ob 1 [.ref j0, .ref j1], aI (CxD X) 312 v, aI (CxD X) 64 z.1, ob 7 [.ref x0, .ref x1, .ref x2, .ref x3, .ref x4, .ref x5, .int (nI (txSize s)), .int (nI (txRules s)), .int (nI (txTraits s))], aI (CxD X) 600 s.1, aZ (CxD X) 20 (zf s.2.1), aI (CxD X) 20 (nf s.2.2.1), aI (CxD X) 20 (nf s.2.2.2.1), aI (CxD X) 20 (nf s.2.2.2.2.1), aJ (CxD X) 8 s.2.2.2.2.2.1] 174 [(0, .ref ju), (1, .ref tx), (2, .int (nI a)), (3, .int (nI b)), (4, .int (nI p)), (5, .int (nI h)), (6, .int (nI (z.2 - 1))), (7, .int (nI i)), (8, .int (txOp (s.1 i)))] [.int (jComb (txOp (s.1 i)) (z.1 (z.2 - 1 - 1)) (z.1 (z.2 - 1))), .int (nI (z.2 - 1 - 1)), .ref j1]
          refine r_iastn (n := 175) (i := (z.2 - 1 - 1)) hX 2 rfl rfl [ob 1 [.ref j0, .ref j1], aI (CxD X) 312 v, aI (CxD X) 64 (upd z.1 (z.2 - 1 - 1) (jComb (txOp (s.1 i)) (z.1 (z.2 - 1 - 1)) (z.1 (z.2 - 1)))), ob 7 [.ref x0, .ref x1, .ref x2, .ref x3, .ref x4, .ref x5, .int (nI (txSize s)), .int (nI (txRules s)), .int (nI (txTraits s))], aI (CxD X) 600 s.1, aZ (CxD X) 20 (zf s.2.1), aI (CxD X) 20 (nf s.2.2.1), aI (CxD X) 20 (nf s.2.2.2.1), aI (CxD X) 20 (nf s.2.2.2.2.1), aJ (CxD X) 8 s.2.2.2.2.2.1] (by omega) (by decide) rfl dX1_valueOf_174 rfl ?_
          refine r_iinc (n := 178) hX (nI (i + 1)) [(0, .ref ju), (1, .ref tx), (2, .int (nI a)), (3, .int (nI b)), (4, .int (nI p)), (5, .int (nI h)), (6, .int (nI (z.2 - 1))), (7, .int (nI (i + 1))), (8, .int (txOp (s.1 i)))] dX1_valueOf_175 rfl 7 rfl (nI_add _ _) (by decide) rfl ?_
          refine r_goto (tgt := 10) hX dX1_valueOf_178 (by decide) ?_
          refine Aw.loc (lv' := [(0, .ref ju), (1, .ref tx), (2, .int (nI a)), (3, .int (nI b)), (4, .int (nI p)), (5, .int (nI h)), (6, .int (nI (z.2 - 1))), (7, .int (nI (i + 1)))]) [0, 1, 2, 3, 4, 5, 6, 7] rfl ?_
          have hs : jStep s.1 v p h i z = (upd z.1 (z.2 - 1 - 1) (jComb (txOp (s.1 i)) (z.1 (z.2 - 1 - 1)) (z.1 (z.2 - 1))), z.2 - 1) := by
            unfold jStep; rw [if_neg (fun e => absurd c39 (Int32.not_lt.mpr e.1))]; rw [if_neg (fun e => absurd c85 (Int32.not_lt.mpr e.1))]; rw [if_pos c139]
          exact ih (i + 1) (upd z.1 (z.2 - 1 - 1) (jComb (txOp (s.1 i)) (z.1 (z.2 - 1 - 1)) (z.1 (z.2 - 1))), z.2 - 1) (by omega) (by omega) (by rw [← hs]; exact jStep_n hz) (by rw [← he]; simp only [foldF, hs])
      · skip
        refine r_iload (n := 90) hX dX1_valueOf_88 rfl 6 rfl ?_
        refine r_iconst (n := 91) hX 1 dX1_valueOf_90 rfl rfl ?_
        refine r_icmp_lt_n (tgt := 136) (n := 94) hX z.2 1 (by omega) (by omega) dX1_valueOf_91 (by decide) rfl (fun c91 => ?_) (fun c91 => ?_)
        · skip
          refine r_iload (n := 138) hX dX1_valueOf_136 rfl 6 rfl ?_
          refine r_iconst (n := 139) hX 2 dX1_valueOf_138 rfl rfl ?_
          refine r_icmp_lt_n (tgt := 175) (n := 142) hX z.2 2 (by omega) (by omega) dX1_valueOf_139 (by decide) rfl (fun c139 => ?_) (fun c139 => ?_)
          · skip
            refine r_iinc (n := 178) hX (nI (i + 1)) [(0, .ref ju), (1, .ref tx), (2, .int (nI a)), (3, .int (nI b)), (4, .int (nI p)), (5, .int (nI h)), (6, .int (nI z.2)), (7, .int (nI (i + 1))), (8, .int (txOp (s.1 i)))] dX1_valueOf_175 rfl 7 rfl (nI_add _ _) (by decide) rfl ?_
            refine r_goto (tgt := 10) hX dX1_valueOf_178 (by decide) ?_
            refine Aw.loc (lv' := [(0, .ref ju), (1, .ref tx), (2, .int (nI a)), (3, .int (nI b)), (4, .int (nI p)), (5, .int (nI h)), (6, .int (nI z.2)), (7, .int (nI (i + 1)))]) [0, 1, 2, 3, 4, 5, 6, 7] rfl ?_
            have hs : jStep s.1 v p h i z = z := by
              unfold jStep; rw [if_neg (fun e => absurd c39 (Int32.not_lt.mpr e.1))]; rw [if_neg (fun e => absurd c91 (Nat.not_lt.mpr e.2))]; rw [if_neg (Nat.not_le.mpr c139)]
            exact ih (i + 1) z (by omega) (by omega) (by rw [← hs]; exact jStep_n hz) (by rw [← he]; simp only [foldF, hs])
          · skip
            refine r_iinc (n := 145) hX (nI (z.2 - 1)) [(0, .ref ju), (1, .ref tx), (2, .int (nI a)), (3, .int (nI b)), (4, .int (nI p)), (5, .int (nI h)), (6, .int (nI (z.2 - 1))), (7, .int (nI i)), (8, .int (txOp (s.1 i)))] dX1_valueOf_142 rfl 6 rfl (by rw [inc_m1]; exact nI_m1 (by omega)) (by decide) rfl ?_
            refine r_aload_n (n := 146) hX dX1_valueOf_145 rfl rfl 0 rfl ?_
            refine r_get (n := 149) hX 0 rfl rfl rfl 1 (by decide) lay_X1 fl_X1_15 rfl dX1_valueOf_146 rfl ?_
            refine r_iload (n := 151) hX dX1_valueOf_149 rfl 6 rfl ?_
            refine r_iconst (n := 152) hX 1 dX1_valueOf_151 rfl rfl ?_
            refine r_isub (n := 153) hX dX1_valueOf_152 rfl ?_
            refine Aw.topi (nI (z.2 - 1 - 1)) (nI_m1 (by omega)) ?_
            refine r_iload (n := 155) hX dX1_valueOf_153 rfl 8 rfl ?_
            refine r_aload_n (n := 156) hX dX1_valueOf_155 rfl rfl 0 rfl ?_
            refine r_get (n := 159) hX 0 rfl rfl rfl 1 (by decide) lay_X1 fl_X1_15 rfl dX1_valueOf_156 rfl ?_
            refine r_iload (n := 161) hX dX1_valueOf_159 rfl 6 rfl ?_
            refine r_iconst (n := 162) hX 1 dX1_valueOf_161 rfl rfl ?_
            refine r_isub (n := 163) hX dX1_valueOf_162 rfl ?_
            refine Aw.topi (nI (z.2 - 1 - 1)) (nI_m1 (by omega)) ?_
            refine r_ialdn (n := 164) (i := (z.2 - 1 - 1)) hX 2 rfl rfl (by omega) (by decide) dX1_valueOf_163 rfl ?_
            refine r_aload_n (n := 165) hX dX1_valueOf_164 rfl rfl 0 rfl ?_
            refine r_get (n := 168) hX 0 rfl rfl rfl 1 (by decide) lay_X1 fl_X1_15 rfl dX1_valueOf_165 rfl ?_
            refine r_iload (n := 170) hX dX1_valueOf_168 rfl 6 rfl ?_
            refine r_ialdn (n := 171) (i := (z.2 - 1)) hX 2 rfl rfl (by omega) (by decide) dX1_valueOf_170 rfl ?_
            refine r_callS (n := 174) (av := [.int (txOp (s.1 i)), .int (z.1 (z.2 - 1 - 1)), .int (z.1 (z.2 - 1))]) hX (ct_X1_combine (CxL X) (CxD X) (txOp (s.1 i)) (z.1 (z.2 - 1 - 1)) (z.1 (z.2 - 1))) ml_X1_69 cs_X1_combine rfl (by decide) [] rfl rfl (by decide) rfl (Nat.le_of_ble_eq_true rfl) dX1_valueOf_171 rfl (fun r_ es_ h_ l_ => ?_)
            obtain ⟨rfl, rfl⟩ := h_
            show Aw X [ju, j0, j1, tx, x0, x1, x2, x3, x4, x5] [ob 1 [.ref j0, .ref j1], aI (CxD X) 312 v, aI (CxD X) 64 z.1, ob 7 [.ref x0, .ref x1, .ref x2, .ref x3, .ref x4, .ref x5, .int (nI (txSize s)), .int (nI (txRules s)), .int (nI (txTraits s))], aI (CxD X) 600 s.1, aZ (CxD X) 20 (zf s.2.1), aI (CxD X) 20 (nf s.2.2.1), aI (CxD X) 20 (nf s.2.2.2.1), aI (CxD X) 20 (nf s.2.2.2.2.1), aJ (CxD X) 8 s.2.2.2.2.2.1] 174 [(0, .ref ju), (1, .ref tx), (2, .int (nI a)), (3, .int (nI b)), (4, .int (nI p)), (5, .int (nI h)), (6, .int (nI (z.2 - 1))), (7, .int (nI i)), (8, .int (txOp (s.1 i)))] [.int (jComb (txOp (s.1 i)) (z.1 (z.2 - 1 - 1)) (z.1 (z.2 - 1))), .int (nI (z.2 - 1 - 1)), .ref j1]
            refine r_iastn (n := 175) (i := (z.2 - 1 - 1)) hX 2 rfl rfl [ob 1 [.ref j0, .ref j1], aI (CxD X) 312 v, aI (CxD X) 64 (upd z.1 (z.2 - 1 - 1) (jComb (txOp (s.1 i)) (z.1 (z.2 - 1 - 1)) (z.1 (z.2 - 1)))), ob 7 [.ref x0, .ref x1, .ref x2, .ref x3, .ref x4, .ref x5, .int (nI (txSize s)), .int (nI (txRules s)), .int (nI (txTraits s))], aI (CxD X) 600 s.1, aZ (CxD X) 20 (zf s.2.1), aI (CxD X) 20 (nf s.2.2.1), aI (CxD X) 20 (nf s.2.2.2.1), aI (CxD X) 20 (nf s.2.2.2.2.1), aJ (CxD X) 8 s.2.2.2.2.2.1] (by omega) (by decide) rfl dX1_valueOf_174 rfl ?_
            refine r_iinc (n := 178) hX (nI (i + 1)) [(0, .ref ju), (1, .ref tx), (2, .int (nI a)), (3, .int (nI b)), (4, .int (nI p)), (5, .int (nI h)), (6, .int (nI (z.2 - 1))), (7, .int (nI (i + 1))), (8, .int (txOp (s.1 i)))] dX1_valueOf_175 rfl 7 rfl (nI_add _ _) (by decide) rfl ?_
            refine r_goto (tgt := 10) hX dX1_valueOf_178 (by decide) ?_
            refine Aw.loc (lv' := [(0, .ref ju), (1, .ref tx), (2, .int (nI a)), (3, .int (nI b)), (4, .int (nI p)), (5, .int (nI h)), (6, .int (nI (z.2 - 1))), (7, .int (nI (i + 1)))]) [0, 1, 2, 3, 4, 5, 6, 7] rfl ?_
            have hs : jStep s.1 v p h i z = (upd z.1 (z.2 - 1 - 1) (jComb (txOp (s.1 i)) (z.1 (z.2 - 1 - 1)) (z.1 (z.2 - 1))), z.2 - 1) := by
              unfold jStep; rw [if_neg (fun e => absurd c39 (Int32.not_lt.mpr e.1))]; rw [if_neg (fun e => absurd c91 (Nat.not_lt.mpr e.2))]; rw [if_pos c139]
            exact ih (i + 1) (upd z.1 (z.2 - 1 - 1) (jComb (txOp (s.1 i)) (z.1 (z.2 - 1 - 1)) (z.1 (z.2 - 1))), z.2 - 1) (by omega) (by omega) (by rw [← hs]; exact jStep_n hz) (by rw [← he]; simp only [foldF, hs])
        · skip
          refine r_aload_n (n := 95) hX dX1_valueOf_94 rfl rfl 0 rfl ?_
          refine r_get (n := 98) hX 0 rfl rfl rfl 1 (by decide) lay_X1 fl_X1_15 rfl dX1_valueOf_95 rfl ?_
          refine r_iload (n := 100) hX dX1_valueOf_98 rfl 6 rfl ?_
          refine r_iconst (n := 101) hX 1 dX1_valueOf_100 rfl rfl ?_
          refine r_isub (n := 102) hX dX1_valueOf_101 rfl ?_
          refine Aw.topi (nI (z.2 - 1)) (nI_m1 (by omega)) ?_
          refine r_iload (n := 104) hX dX1_valueOf_102 rfl 8 rfl ?_
          refine r_iconst (n := 105) hX 3 dX1_valueOf_104 rfl rfl ?_
          refine r_icmp_ne (tgt := 121) (n := 108) hX dX1_valueOf_105 (by decide) rfl (fun c105 => ?_) (fun c105 => ?_)
          · skip
            refine r_iconst (n := 122) hX 1 dX1_valueOf_121 rfl rfl ?_
            refine r_aload_n (n := 123) hX dX1_valueOf_122 rfl rfl 0 rfl ?_
            refine r_get (n := 126) hX 0 rfl rfl rfl 1 (by decide) lay_X1 fl_X1_15 rfl dX1_valueOf_123 rfl ?_
            refine r_iload (n := 128) hX dX1_valueOf_126 rfl 6 rfl ?_
            refine r_iconst (n := 129) hX 1 dX1_valueOf_128 rfl rfl ?_
            refine r_isub (n := 130) hX dX1_valueOf_129 rfl ?_
            refine Aw.topi (nI (z.2 - 1)) (nI_m1 (by omega)) ?_
            refine r_ialdn (n := 131) (i := (z.2 - 1)) hX 2 rfl rfl (by omega) (by decide) dX1_valueOf_130 rfl ?_
            refine r_isub (n := 132) hX dX1_valueOf_131 rfl ?_
            refine r_iastn (n := 133) (i := (z.2 - 1)) hX 2 rfl rfl [ob 1 [.ref j0, .ref j1], aI (CxD X) 312 v, aI (CxD X) 64 (upd z.1 (z.2 - 1) (1 - (z.1 (z.2 - 1)))), ob 7 [.ref x0, .ref x1, .ref x2, .ref x3, .ref x4, .ref x5, .int (nI (txSize s)), .int (nI (txRules s)), .int (nI (txTraits s))], aI (CxD X) 600 s.1, aZ (CxD X) 20 (zf s.2.1), aI (CxD X) 20 (nf s.2.2.1), aI (CxD X) 20 (nf s.2.2.2.1), aI (CxD X) 20 (nf s.2.2.2.2.1), aJ (CxD X) 8 s.2.2.2.2.2.1] (by omega) (by decide) rfl dX1_valueOf_132 rfl ?_
            refine r_goto (tgt := 175) hX dX1_valueOf_133 (by decide) ?_
            refine r_iinc (n := 178) hX (nI (i + 1)) [(0, .ref ju), (1, .ref tx), (2, .int (nI a)), (3, .int (nI b)), (4, .int (nI p)), (5, .int (nI h)), (6, .int (nI z.2)), (7, .int (nI (i + 1))), (8, .int (txOp (s.1 i)))] dX1_valueOf_175 rfl 7 rfl (nI_add _ _) (by decide) rfl ?_
            refine r_goto (tgt := 10) hX dX1_valueOf_178 (by decide) ?_
            refine Aw.loc (lv' := [(0, .ref ju), (1, .ref tx), (2, .int (nI a)), (3, .int (nI b)), (4, .int (nI p)), (5, .int (nI h)), (6, .int (nI z.2)), (7, .int (nI (i + 1)))]) [0, 1, 2, 3, 4, 5, 6, 7] rfl ?_
            have hs : jStep s.1 v p h i z = (upd z.1 (z.2 - 1) (1 - (z.1 (z.2 - 1))), z.2) := by
              unfold jStep; rw [if_neg (fun e => absurd c39 (Int32.not_lt.mpr e.1))]; rw [if_pos ⟨Int32.not_lt.mp c85, c91⟩]; first | rw [if_pos c105] | rw [if_neg c105]
            exact ih (i + 1) (upd z.1 (z.2 - 1) (1 - (z.1 (z.2 - 1))), z.2) (by omega) (by omega) (by rw [← hs]; exact jStep_n hz) (by rw [← he]; simp only [foldF, hs])
          · skip
            refine r_aload_n (n := 109) hX dX1_valueOf_108 rfl rfl 0 rfl ?_
            refine r_get (n := 112) hX 0 rfl rfl rfl 1 (by decide) lay_X1 fl_X1_15 rfl dX1_valueOf_109 rfl ?_
            refine r_iload (n := 114) hX dX1_valueOf_112 rfl 6 rfl ?_
            refine r_iconst (n := 115) hX 1 dX1_valueOf_114 rfl rfl ?_
            refine r_isub (n := 116) hX dX1_valueOf_115 rfl ?_
            refine Aw.topi (nI (z.2 - 1)) (nI_m1 (by omega)) ?_
            refine r_ialdn (n := 117) (i := (z.2 - 1)) hX 2 rfl rfl (by omega) (by decide) dX1_valueOf_116 rfl ?_
            refine r_ineg (n := 118) hX dX1_valueOf_117 rfl ?_
            refine r_goto (tgt := 132) hX dX1_valueOf_118 (by decide) ?_
            refine r_iastn (n := 133) (i := (z.2 - 1)) hX 2 rfl rfl [ob 1 [.ref j0, .ref j1], aI (CxD X) 312 v, aI (CxD X) 64 (upd z.1 (z.2 - 1) (-(z.1 (z.2 - 1)))), ob 7 [.ref x0, .ref x1, .ref x2, .ref x3, .ref x4, .ref x5, .int (nI (txSize s)), .int (nI (txRules s)), .int (nI (txTraits s))], aI (CxD X) 600 s.1, aZ (CxD X) 20 (zf s.2.1), aI (CxD X) 20 (nf s.2.2.1), aI (CxD X) 20 (nf s.2.2.2.1), aI (CxD X) 20 (nf s.2.2.2.2.1), aJ (CxD X) 8 s.2.2.2.2.2.1] (by omega) (by decide) rfl dX1_valueOf_132 rfl ?_
            refine r_goto (tgt := 175) hX dX1_valueOf_133 (by decide) ?_
            refine r_iinc (n := 178) hX (nI (i + 1)) [(0, .ref ju), (1, .ref tx), (2, .int (nI a)), (3, .int (nI b)), (4, .int (nI p)), (5, .int (nI h)), (6, .int (nI z.2)), (7, .int (nI (i + 1))), (8, .int (txOp (s.1 i)))] dX1_valueOf_175 rfl 7 rfl (nI_add _ _) (by decide) rfl ?_
            refine r_goto (tgt := 10) hX dX1_valueOf_178 (by decide) ?_
            refine Aw.loc (lv' := [(0, .ref ju), (1, .ref tx), (2, .int (nI a)), (3, .int (nI b)), (4, .int (nI p)), (5, .int (nI h)), (6, .int (nI z.2)), (7, .int (nI (i + 1)))]) [0, 1, 2, 3, 4, 5, 6, 7] rfl ?_
            have hs : jStep s.1 v p h i z = (upd z.1 (z.2 - 1) (-(z.1 (z.2 - 1))), z.2) := by
              unfold jStep; rw [if_neg (fun e => absurd c39 (Int32.not_lt.mpr e.1))]; rw [if_pos ⟨Int32.not_lt.mp c85, c91⟩]; first | rw [if_pos c105] | rw [if_neg c105]
            exact ih (i + 1) (upd z.1 (z.2 - 1) (-(z.1 (z.2 - 1))), z.2) (by omega) (by omega) (by rw [← hs]; exact jStep_n hz) (by rw [← he]; simp only [foldF, hs])
    · skip
      refine r_iload (n := 44) hX dX1_valueOf_42 rfl 6 rfl ?_
      refine r_bipush (n := 46) hX 64 dX1_valueOf_44 rfl rfl ?_
      refine r_icmp_ge_n (tgt := 82) (n := 49) hX z.2 64 (by omega) (by omega) dX1_valueOf_46 (by decide) rfl (fun c46 => ?_) (fun c46 => ?_)
      · skip
        refine r_iload (n := 84) hX dX1_valueOf_82 rfl 8 rfl ?_
        refine r_iconst (n := 85) hX 4 dX1_valueOf_84 rfl rfl ?_
        refine r_icmp_gt (tgt := 136) (n := 88) hX dX1_valueOf_85 (by decide) rfl (fun c85 => ?_) (fun c85 => ?_)
        · skip
          refine r_iload (n := 138) hX dX1_valueOf_136 rfl 6 rfl ?_
          refine r_iconst (n := 139) hX 2 dX1_valueOf_138 rfl rfl ?_
          refine r_icmp_lt_n (tgt := 175) (n := 142) hX z.2 2 (by omega) (by omega) dX1_valueOf_139 (by decide) rfl (fun c139 => ?_) (fun c139 => ?_)
          · skip
            refine r_iinc (n := 178) hX (nI (i + 1)) [(0, .ref ju), (1, .ref tx), (2, .int (nI a)), (3, .int (nI b)), (4, .int (nI p)), (5, .int (nI h)), (6, .int (nI z.2)), (7, .int (nI (i + 1))), (8, .int (txOp (s.1 i)))] dX1_valueOf_175 rfl 7 rfl (nI_add _ _) (by decide) rfl ?_
            refine r_goto (tgt := 10) hX dX1_valueOf_178 (by decide) ?_
            refine Aw.loc (lv' := [(0, .ref ju), (1, .ref tx), (2, .int (nI a)), (3, .int (nI b)), (4, .int (nI p)), (5, .int (nI h)), (6, .int (nI z.2)), (7, .int (nI (i + 1)))]) [0, 1, 2, 3, 4, 5, 6, 7] rfl ?_
            have hs : jStep s.1 v p h i z = z := by
              unfold jStep; rw [if_neg (fun e => absurd c46 (Nat.not_le.mpr e.2))]; rw [if_neg (fun e => absurd c85 (Int32.not_lt.mpr e.1))]; rw [if_neg (Nat.not_le.mpr c139)]
            exact ih (i + 1) z (by omega) (by omega) (by rw [← hs]; exact jStep_n hz) (by rw [← he]; simp only [foldF, hs])
          · skip
            refine r_iinc (n := 145) hX (nI (z.2 - 1)) [(0, .ref ju), (1, .ref tx), (2, .int (nI a)), (3, .int (nI b)), (4, .int (nI p)), (5, .int (nI h)), (6, .int (nI (z.2 - 1))), (7, .int (nI i)), (8, .int (txOp (s.1 i)))] dX1_valueOf_142 rfl 6 rfl (by rw [inc_m1]; exact nI_m1 (by omega)) (by decide) rfl ?_
            refine r_aload_n (n := 146) hX dX1_valueOf_145 rfl rfl 0 rfl ?_
            refine r_get (n := 149) hX 0 rfl rfl rfl 1 (by decide) lay_X1 fl_X1_15 rfl dX1_valueOf_146 rfl ?_
            refine r_iload (n := 151) hX dX1_valueOf_149 rfl 6 rfl ?_
            refine r_iconst (n := 152) hX 1 dX1_valueOf_151 rfl rfl ?_
            refine r_isub (n := 153) hX dX1_valueOf_152 rfl ?_
            refine Aw.topi (nI (z.2 - 1 - 1)) (nI_m1 (by omega)) ?_
            refine r_iload (n := 155) hX dX1_valueOf_153 rfl 8 rfl ?_
            refine r_aload_n (n := 156) hX dX1_valueOf_155 rfl rfl 0 rfl ?_
            refine r_get (n := 159) hX 0 rfl rfl rfl 1 (by decide) lay_X1 fl_X1_15 rfl dX1_valueOf_156 rfl ?_
            refine r_iload (n := 161) hX dX1_valueOf_159 rfl 6 rfl ?_
            refine r_iconst (n := 162) hX 1 dX1_valueOf_161 rfl rfl ?_
            refine r_isub (n := 163) hX dX1_valueOf_162 rfl ?_
            refine Aw.topi (nI (z.2 - 1 - 1)) (nI_m1 (by omega)) ?_
            refine r_ialdn (n := 164) (i := (z.2 - 1 - 1)) hX 2 rfl rfl (by omega) (by decide) dX1_valueOf_163 rfl ?_
            refine r_aload_n (n := 165) hX dX1_valueOf_164 rfl rfl 0 rfl ?_
            refine r_get (n := 168) hX 0 rfl rfl rfl 1 (by decide) lay_X1 fl_X1_15 rfl dX1_valueOf_165 rfl ?_
            refine r_iload (n := 170) hX dX1_valueOf_168 rfl 6 rfl ?_
            refine r_ialdn (n := 171) (i := (z.2 - 1)) hX 2 rfl rfl (by omega) (by decide) dX1_valueOf_170 rfl ?_
            refine r_callS (n := 174) (av := [.int (txOp (s.1 i)), .int (z.1 (z.2 - 1 - 1)), .int (z.1 (z.2 - 1))]) hX (ct_X1_combine (CxL X) (CxD X) (txOp (s.1 i)) (z.1 (z.2 - 1 - 1)) (z.1 (z.2 - 1))) ml_X1_69 cs_X1_combine rfl (by decide) [] rfl rfl (by decide) rfl (Nat.le_of_ble_eq_true rfl) dX1_valueOf_171 rfl (fun r_ es_ h_ l_ => ?_)
            obtain ⟨rfl, rfl⟩ := h_
            show Aw X [ju, j0, j1, tx, x0, x1, x2, x3, x4, x5] [ob 1 [.ref j0, .ref j1], aI (CxD X) 312 v, aI (CxD X) 64 z.1, ob 7 [.ref x0, .ref x1, .ref x2, .ref x3, .ref x4, .ref x5, .int (nI (txSize s)), .int (nI (txRules s)), .int (nI (txTraits s))], aI (CxD X) 600 s.1, aZ (CxD X) 20 (zf s.2.1), aI (CxD X) 20 (nf s.2.2.1), aI (CxD X) 20 (nf s.2.2.2.1), aI (CxD X) 20 (nf s.2.2.2.2.1), aJ (CxD X) 8 s.2.2.2.2.2.1] 174 [(0, .ref ju), (1, .ref tx), (2, .int (nI a)), (3, .int (nI b)), (4, .int (nI p)), (5, .int (nI h)), (6, .int (nI (z.2 - 1))), (7, .int (nI i)), (8, .int (txOp (s.1 i)))] [.int (jComb (txOp (s.1 i)) (z.1 (z.2 - 1 - 1)) (z.1 (z.2 - 1))), .int (nI (z.2 - 1 - 1)), .ref j1]
            refine r_iastn (n := 175) (i := (z.2 - 1 - 1)) hX 2 rfl rfl [ob 1 [.ref j0, .ref j1], aI (CxD X) 312 v, aI (CxD X) 64 (upd z.1 (z.2 - 1 - 1) (jComb (txOp (s.1 i)) (z.1 (z.2 - 1 - 1)) (z.1 (z.2 - 1)))), ob 7 [.ref x0, .ref x1, .ref x2, .ref x3, .ref x4, .ref x5, .int (nI (txSize s)), .int (nI (txRules s)), .int (nI (txTraits s))], aI (CxD X) 600 s.1, aZ (CxD X) 20 (zf s.2.1), aI (CxD X) 20 (nf s.2.2.1), aI (CxD X) 20 (nf s.2.2.2.1), aI (CxD X) 20 (nf s.2.2.2.2.1), aJ (CxD X) 8 s.2.2.2.2.2.1] (by omega) (by decide) rfl dX1_valueOf_174 rfl ?_
            refine r_iinc (n := 178) hX (nI (i + 1)) [(0, .ref ju), (1, .ref tx), (2, .int (nI a)), (3, .int (nI b)), (4, .int (nI p)), (5, .int (nI h)), (6, .int (nI (z.2 - 1))), (7, .int (nI (i + 1))), (8, .int (txOp (s.1 i)))] dX1_valueOf_175 rfl 7 rfl (nI_add _ _) (by decide) rfl ?_
            refine r_goto (tgt := 10) hX dX1_valueOf_178 (by decide) ?_
            refine Aw.loc (lv' := [(0, .ref ju), (1, .ref tx), (2, .int (nI a)), (3, .int (nI b)), (4, .int (nI p)), (5, .int (nI h)), (6, .int (nI (z.2 - 1))), (7, .int (nI (i + 1)))]) [0, 1, 2, 3, 4, 5, 6, 7] rfl ?_
            have hs : jStep s.1 v p h i z = (upd z.1 (z.2 - 1 - 1) (jComb (txOp (s.1 i)) (z.1 (z.2 - 1 - 1)) (z.1 (z.2 - 1))), z.2 - 1) := by
              unfold jStep; rw [if_neg (fun e => absurd c46 (Nat.not_le.mpr e.2))]; rw [if_neg (fun e => absurd c85 (Int32.not_lt.mpr e.1))]; rw [if_pos c139]
            exact ih (i + 1) (upd z.1 (z.2 - 1 - 1) (jComb (txOp (s.1 i)) (z.1 (z.2 - 1 - 1)) (z.1 (z.2 - 1))), z.2 - 1) (by omega) (by omega) (by rw [← hs]; exact jStep_n hz) (by rw [← he]; simp only [foldF, hs])
        · skip
          refine r_iload (n := 90) hX dX1_valueOf_88 rfl 6 rfl ?_
          refine r_iconst (n := 91) hX 1 dX1_valueOf_90 rfl rfl ?_
          refine r_icmp_lt_n (tgt := 136) (n := 94) hX z.2 1 (by omega) (by omega) dX1_valueOf_91 (by decide) rfl (fun c91 => ?_) (fun c91 => ?_)
          · skip
            refine r_iload (n := 138) hX dX1_valueOf_136 rfl 6 rfl ?_
            refine r_iconst (n := 139) hX 2 dX1_valueOf_138 rfl rfl ?_
            refine r_icmp_lt_n (tgt := 175) (n := 142) hX z.2 2 (by omega) (by omega) dX1_valueOf_139 (by decide) rfl (fun c139 => ?_) (fun c139 => ?_)
            · skip
              refine r_iinc (n := 178) hX (nI (i + 1)) [(0, .ref ju), (1, .ref tx), (2, .int (nI a)), (3, .int (nI b)), (4, .int (nI p)), (5, .int (nI h)), (6, .int (nI z.2)), (7, .int (nI (i + 1))), (8, .int (txOp (s.1 i)))] dX1_valueOf_175 rfl 7 rfl (nI_add _ _) (by decide) rfl ?_
              refine r_goto (tgt := 10) hX dX1_valueOf_178 (by decide) ?_
              refine Aw.loc (lv' := [(0, .ref ju), (1, .ref tx), (2, .int (nI a)), (3, .int (nI b)), (4, .int (nI p)), (5, .int (nI h)), (6, .int (nI z.2)), (7, .int (nI (i + 1)))]) [0, 1, 2, 3, 4, 5, 6, 7] rfl ?_
              have hs : jStep s.1 v p h i z = z := by
                unfold jStep; rw [if_neg (fun e => absurd c46 (Nat.not_le.mpr e.2))]; rw [if_neg (fun e => absurd c91 (Nat.not_lt.mpr e.2))]; rw [if_neg (Nat.not_le.mpr c139)]
              exact ih (i + 1) z (by omega) (by omega) (by rw [← hs]; exact jStep_n hz) (by rw [← he]; simp only [foldF, hs])
            · skip
              refine r_iinc (n := 145) hX (nI (z.2 - 1)) [(0, .ref ju), (1, .ref tx), (2, .int (nI a)), (3, .int (nI b)), (4, .int (nI p)), (5, .int (nI h)), (6, .int (nI (z.2 - 1))), (7, .int (nI i)), (8, .int (txOp (s.1 i)))] dX1_valueOf_142 rfl 6 rfl (by rw [inc_m1]; exact nI_m1 (by omega)) (by decide) rfl ?_
              refine r_aload_n (n := 146) hX dX1_valueOf_145 rfl rfl 0 rfl ?_
              refine r_get (n := 149) hX 0 rfl rfl rfl 1 (by decide) lay_X1 fl_X1_15 rfl dX1_valueOf_146 rfl ?_
              refine r_iload (n := 151) hX dX1_valueOf_149 rfl 6 rfl ?_
              refine r_iconst (n := 152) hX 1 dX1_valueOf_151 rfl rfl ?_
              refine r_isub (n := 153) hX dX1_valueOf_152 rfl ?_
              refine Aw.topi (nI (z.2 - 1 - 1)) (nI_m1 (by omega)) ?_
              refine r_iload (n := 155) hX dX1_valueOf_153 rfl 8 rfl ?_
              refine r_aload_n (n := 156) hX dX1_valueOf_155 rfl rfl 0 rfl ?_
              refine r_get (n := 159) hX 0 rfl rfl rfl 1 (by decide) lay_X1 fl_X1_15 rfl dX1_valueOf_156 rfl ?_
              refine r_iload (n := 161) hX dX1_valueOf_159 rfl 6 rfl ?_
              refine r_iconst (n := 162) hX 1 dX1_valueOf_161 rfl rfl ?_
              refine r_isub (n := 163) hX dX1_valueOf_162 rfl ?_
              refine Aw.topi (nI (z.2 - 1 - 1)) (nI_m1 (by omega)) ?_
              refine r_ialdn (n := 164) (i := (z.2 - 1 - 1)) hX 2 rfl rfl (by omega) (by decide) dX1_valueOf_163 rfl ?_
              refine r_aload_n (n := 165) hX dX1_valueOf_164 rfl rfl 0 rfl ?_
              refine r_get (n := 168) hX 0 rfl rfl rfl 1 (by decide) lay_X1 fl_X1_15 rfl dX1_valueOf_165 rfl ?_
              refine r_iload (n := 170) hX dX1_valueOf_168 rfl 6 rfl ?_
              refine r_ialdn (n := 171) (i := (z.2 - 1)) hX 2 rfl rfl (by omega) (by decide) dX1_valueOf_170 rfl ?_
              refine r_callS (n := 174) (av := [.int (txOp (s.1 i)), .int (z.1 (z.2 - 1 - 1)), .int (z.1 (z.2 - 1))]) hX (ct_X1_combine (CxL X) (CxD X) (txOp (s.1 i)) (z.1 (z.2 - 1 - 1)) (z.1 (z.2 - 1))) ml_X1_69 cs_X1_combine rfl (by decide) [] rfl rfl (by decide) rfl (Nat.le_of_ble_eq_true rfl) dX1_valueOf_171 rfl (fun r_ es_ h_ l_ => ?_)
              obtain ⟨rfl, rfl⟩ := h_
              show Aw X [ju, j0, j1, tx, x0, x1, x2, x3, x4, x5] [ob 1 [.ref j0, .ref j1], aI (CxD X) 312 v, aI (CxD X) 64 z.1, ob 7 [.ref x0, .ref x1, .ref x2, .ref x3, .ref x4, .ref x5, .int (nI (txSize s)), .int (nI (txRules s)), .int (nI (txTraits s))], aI (CxD X) 600 s.1, aZ (CxD X) 20 (zf s.2.1), aI (CxD X) 20 (nf s.2.2.1), aI (CxD X) 20 (nf s.2.2.2.1), aI (CxD X) 20 (nf s.2.2.2.2.1), aJ (CxD X) 8 s.2.2.2.2.2.1] 174 [(0, .ref ju), (1, .ref tx), (2, .int (nI a)), (3, .int (nI b)), (4, .int (nI p)), (5, .int (nI h)), (6, .int (nI (z.2 - 1))), (7, .int (nI i)), (8, .int (txOp (s.1 i)))] [.int (jComb (txOp (s.1 i)) (z.1 (z.2 - 1 - 1)) (z.1 (z.2 - 1))), .int (nI (z.2 - 1 - 1)), .ref j1]
              refine r_iastn (n := 175) (i := (z.2 - 1 - 1)) hX 2 rfl rfl [ob 1 [.ref j0, .ref j1], aI (CxD X) 312 v, aI (CxD X) 64 (upd z.1 (z.2 - 1 - 1) (jComb (txOp (s.1 i)) (z.1 (z.2 - 1 - 1)) (z.1 (z.2 - 1)))), ob 7 [.ref x0, .ref x1, .ref x2, .ref x3, .ref x4, .ref x5, .int (nI (txSize s)), .int (nI (txRules s)), .int (nI (txTraits s))], aI (CxD X) 600 s.1, aZ (CxD X) 20 (zf s.2.1), aI (CxD X) 20 (nf s.2.2.1), aI (CxD X) 20 (nf s.2.2.2.1), aI (CxD X) 20 (nf s.2.2.2.2.1), aJ (CxD X) 8 s.2.2.2.2.2.1] (by omega) (by decide) rfl dX1_valueOf_174 rfl ?_
              refine r_iinc (n := 178) hX (nI (i + 1)) [(0, .ref ju), (1, .ref tx), (2, .int (nI a)), (3, .int (nI b)), (4, .int (nI p)), (5, .int (nI h)), (6, .int (nI (z.2 - 1))), (7, .int (nI (i + 1))), (8, .int (txOp (s.1 i)))] dX1_valueOf_175 rfl 7 rfl (nI_add _ _) (by decide) rfl ?_
              refine r_goto (tgt := 10) hX dX1_valueOf_178 (by decide) ?_
              refine Aw.loc (lv' := [(0, .ref ju), (1, .ref tx), (2, .int (nI a)), (3, .int (nI b)), (4, .int (nI p)), (5, .int (nI h)), (6, .int (nI (z.2 - 1))), (7, .int (nI (i + 1)))]) [0, 1, 2, 3, 4, 5, 6, 7] rfl ?_
              have hs : jStep s.1 v p h i z = (upd z.1 (z.2 - 1 - 1) (jComb (txOp (s.1 i)) (z.1 (z.2 - 1 - 1)) (z.1 (z.2 - 1))), z.2 - 1) := by
                unfold jStep; rw [if_neg (fun e => absurd c46 (Nat.not_le.mpr e.2))]; rw [if_neg (fun e => absurd c91 (Nat.not_lt.mpr e.2))]; rw [if_pos c139]
              exact ih (i + 1) (upd z.1 (z.2 - 1 - 1) (jComb (txOp (s.1 i)) (z.1 (z.2 - 1 - 1)) (z.1 (z.2 - 1))), z.2 - 1) (by omega) (by omega) (by rw [← hs]; exact jStep_n hz) (by rw [← he]; simp only [foldF, hs])
          · skip
            refine r_aload_n (n := 95) hX dX1_valueOf_94 rfl rfl 0 rfl ?_
            refine r_get (n := 98) hX 0 rfl rfl rfl 1 (by decide) lay_X1 fl_X1_15 rfl dX1_valueOf_95 rfl ?_
            refine r_iload (n := 100) hX dX1_valueOf_98 rfl 6 rfl ?_
            refine r_iconst (n := 101) hX 1 dX1_valueOf_100 rfl rfl ?_
            refine r_isub (n := 102) hX dX1_valueOf_101 rfl ?_
            refine Aw.topi (nI (z.2 - 1)) (nI_m1 (by omega)) ?_
            refine r_iload (n := 104) hX dX1_valueOf_102 rfl 8 rfl ?_
            refine r_iconst (n := 105) hX 3 dX1_valueOf_104 rfl rfl ?_
            refine r_icmp_ne (tgt := 121) (n := 108) hX dX1_valueOf_105 (by decide) rfl (fun c105 => ?_) (fun c105 => ?_)
            · skip
              refine r_iconst (n := 122) hX 1 dX1_valueOf_121 rfl rfl ?_
              refine r_aload_n (n := 123) hX dX1_valueOf_122 rfl rfl 0 rfl ?_
              refine r_get (n := 126) hX 0 rfl rfl rfl 1 (by decide) lay_X1 fl_X1_15 rfl dX1_valueOf_123 rfl ?_
              refine r_iload (n := 128) hX dX1_valueOf_126 rfl 6 rfl ?_
              refine r_iconst (n := 129) hX 1 dX1_valueOf_128 rfl rfl ?_
              refine r_isub (n := 130) hX dX1_valueOf_129 rfl ?_
              refine Aw.topi (nI (z.2 - 1)) (nI_m1 (by omega)) ?_
              refine r_ialdn (n := 131) (i := (z.2 - 1)) hX 2 rfl rfl (by omega) (by decide) dX1_valueOf_130 rfl ?_
              refine r_isub (n := 132) hX dX1_valueOf_131 rfl ?_
              refine r_iastn (n := 133) (i := (z.2 - 1)) hX 2 rfl rfl [ob 1 [.ref j0, .ref j1], aI (CxD X) 312 v, aI (CxD X) 64 (upd z.1 (z.2 - 1) (1 - (z.1 (z.2 - 1)))), ob 7 [.ref x0, .ref x1, .ref x2, .ref x3, .ref x4, .ref x5, .int (nI (txSize s)), .int (nI (txRules s)), .int (nI (txTraits s))], aI (CxD X) 600 s.1, aZ (CxD X) 20 (zf s.2.1), aI (CxD X) 20 (nf s.2.2.1), aI (CxD X) 20 (nf s.2.2.2.1), aI (CxD X) 20 (nf s.2.2.2.2.1), aJ (CxD X) 8 s.2.2.2.2.2.1] (by omega) (by decide) rfl dX1_valueOf_132 rfl ?_
              refine r_goto (tgt := 175) hX dX1_valueOf_133 (by decide) ?_
              refine r_iinc (n := 178) hX (nI (i + 1)) [(0, .ref ju), (1, .ref tx), (2, .int (nI a)), (3, .int (nI b)), (4, .int (nI p)), (5, .int (nI h)), (6, .int (nI z.2)), (7, .int (nI (i + 1))), (8, .int (txOp (s.1 i)))] dX1_valueOf_175 rfl 7 rfl (nI_add _ _) (by decide) rfl ?_
              refine r_goto (tgt := 10) hX dX1_valueOf_178 (by decide) ?_
              refine Aw.loc (lv' := [(0, .ref ju), (1, .ref tx), (2, .int (nI a)), (3, .int (nI b)), (4, .int (nI p)), (5, .int (nI h)), (6, .int (nI z.2)), (7, .int (nI (i + 1)))]) [0, 1, 2, 3, 4, 5, 6, 7] rfl ?_
              have hs : jStep s.1 v p h i z = (upd z.1 (z.2 - 1) (1 - (z.1 (z.2 - 1))), z.2) := by
                unfold jStep; rw [if_neg (fun e => absurd c46 (Nat.not_le.mpr e.2))]; rw [if_pos ⟨Int32.not_lt.mp c85, c91⟩]; first | rw [if_pos c105] | rw [if_neg c105]
              exact ih (i + 1) (upd z.1 (z.2 - 1) (1 - (z.1 (z.2 - 1))), z.2) (by omega) (by omega) (by rw [← hs]; exact jStep_n hz) (by rw [← he]; simp only [foldF, hs])
            · skip
              refine r_aload_n (n := 109) hX dX1_valueOf_108 rfl rfl 0 rfl ?_
              refine r_get (n := 112) hX 0 rfl rfl rfl 1 (by decide) lay_X1 fl_X1_15 rfl dX1_valueOf_109 rfl ?_
              refine r_iload (n := 114) hX dX1_valueOf_112 rfl 6 rfl ?_
              refine r_iconst (n := 115) hX 1 dX1_valueOf_114 rfl rfl ?_
              refine r_isub (n := 116) hX dX1_valueOf_115 rfl ?_
              refine Aw.topi (nI (z.2 - 1)) (nI_m1 (by omega)) ?_
              refine r_ialdn (n := 117) (i := (z.2 - 1)) hX 2 rfl rfl (by omega) (by decide) dX1_valueOf_116 rfl ?_
              refine r_ineg (n := 118) hX dX1_valueOf_117 rfl ?_
              refine r_goto (tgt := 132) hX dX1_valueOf_118 (by decide) ?_
              refine r_iastn (n := 133) (i := (z.2 - 1)) hX 2 rfl rfl [ob 1 [.ref j0, .ref j1], aI (CxD X) 312 v, aI (CxD X) 64 (upd z.1 (z.2 - 1) (-(z.1 (z.2 - 1)))), ob 7 [.ref x0, .ref x1, .ref x2, .ref x3, .ref x4, .ref x5, .int (nI (txSize s)), .int (nI (txRules s)), .int (nI (txTraits s))], aI (CxD X) 600 s.1, aZ (CxD X) 20 (zf s.2.1), aI (CxD X) 20 (nf s.2.2.1), aI (CxD X) 20 (nf s.2.2.2.1), aI (CxD X) 20 (nf s.2.2.2.2.1), aJ (CxD X) 8 s.2.2.2.2.2.1] (by omega) (by decide) rfl dX1_valueOf_132 rfl ?_
              refine r_goto (tgt := 175) hX dX1_valueOf_133 (by decide) ?_
              refine r_iinc (n := 178) hX (nI (i + 1)) [(0, .ref ju), (1, .ref tx), (2, .int (nI a)), (3, .int (nI b)), (4, .int (nI p)), (5, .int (nI h)), (6, .int (nI z.2)), (7, .int (nI (i + 1))), (8, .int (txOp (s.1 i)))] dX1_valueOf_175 rfl 7 rfl (nI_add _ _) (by decide) rfl ?_
              refine r_goto (tgt := 10) hX dX1_valueOf_178 (by decide) ?_
              refine Aw.loc (lv' := [(0, .ref ju), (1, .ref tx), (2, .int (nI a)), (3, .int (nI b)), (4, .int (nI p)), (5, .int (nI h)), (6, .int (nI z.2)), (7, .int (nI (i + 1)))]) [0, 1, 2, 3, 4, 5, 6, 7] rfl ?_
              have hs : jStep s.1 v p h i z = (upd z.1 (z.2 - 1) (-(z.1 (z.2 - 1))), z.2) := by
                unfold jStep; rw [if_neg (fun e => absurd c46 (Nat.not_le.mpr e.2))]; rw [if_pos ⟨Int32.not_lt.mp c85, c91⟩]; first | rw [if_pos c105] | rw [if_neg c105]
              exact ih (i + 1) (upd z.1 (z.2 - 1) (-(z.1 (z.2 - 1))), z.2) (by omega) (by omega) (by rw [← hs]; exact jStep_n hz) (by rw [← he]; simp only [foldF, hs])
      · skip
        refine r_aload_n (n := 50) hX dX1_valueOf_49 rfl rfl 0 rfl ?_
        refine r_get (n := 53) hX 0 rfl rfl rfl 1 (by decide) lay_X1 fl_X1_15 rfl dX1_valueOf_50 rfl ?_
        refine r_iload (n := 55) hX dX1_valueOf_53 rfl 6 rfl ?_
        refine r_aload_n (n := 56) hX dX1_valueOf_55 rfl rfl 0 rfl ?_
        refine r_iload (n := 58) hX dX1_valueOf_56 rfl 8 rfl ?_
        refine r_aload_n (n := 59) hX dX1_valueOf_58 rfl rfl 1 rfl ?_
        refine r_get (n := 62) hX 3 rfl rfl rfl 0 (by decide) lay_X7 fl_X1_61 rfl dX1_valueOf_59 rfl ?_
        refine r_iload (n := 64) hX dX1_valueOf_62 rfl 7 rfl ?_
        refine r_ialdn (n := 65) (i := i) hX 4 rfl rfl (by omega) (by decide) dX1_valueOf_64 rfl ?_
        refine r_ldc (n := 67) hX dX1_valueOf_65 rfl kc_X1_64 ?_
        refine r_iand (n := 68) hX dX1_valueOf_67 rfl ?_
        refine Aw.topi (nI (txArg (s.1 i))) (txArg_eq _).1 ?_
        refine r_iload (n := 70) hX dX1_valueOf_68 rfl 4 rfl ?_
        refine r_iload (n := 72) hX dX1_valueOf_70 rfl 5 rfl ?_
        refine r_callV (n := 75) (av := [.int (txOp (s.1 i)), .int (nI (txArg (s.1 i))), .int (nI p), .int (nI h)]) hX (ct_X1_leaf (CxL X) (CxD X) ju j0 j1 v z.1 (txOp (s.1 i)) (txArg (s.1 i)) p h (txArg_eq _).2 hp hh) ml_X1_65 cv_X1_leaf rfl (by decide) [0, 1, 2] rfl rfl (by decide) 0 rfl rfl rfl rfl rfl (Nat.le_of_ble_eq_true rfl) dX1_valueOf_72 rfl (fun r_ es_ h_ l_ => ?_)
        obtain ⟨rfl, rfl⟩ := h_
        show Aw X [ju, j0, j1, tx, x0, x1, x2, x3, x4, x5] [ob 1 [.ref j0, .ref j1], aI (CxD X) 312 v, aI (CxD X) 64 z.1, ob 7 [.ref x0, .ref x1, .ref x2, .ref x3, .ref x4, .ref x5, .int (nI (txSize s)), .int (nI (txRules s)), .int (nI (txTraits s))], aI (CxD X) 600 s.1, aZ (CxD X) 20 (zf s.2.1), aI (CxD X) 20 (nf s.2.2.1), aI (CxD X) 20 (nf s.2.2.2.1), aI (CxD X) 20 (nf s.2.2.2.2.1), aJ (CxD X) 8 s.2.2.2.2.2.1] 75 [(0, .ref ju), (1, .ref tx), (2, .int (nI a)), (3, .int (nI b)), (4, .int (nI p)), (5, .int (nI h)), (6, .int (nI z.2)), (7, .int (nI i)), (8, .int (txOp (s.1 i)))] [.int (jLeaf v (txOp (s.1 i)) (txArg (s.1 i)) p h), .int (nI z.2), .ref j1]
        refine r_iastn (n := 76) (i := z.2) hX 2 rfl rfl [ob 1 [.ref j0, .ref j1], aI (CxD X) 312 v, aI (CxD X) 64 (upd z.1 z.2 (jLeaf v (txOp (s.1 i)) (txArg (s.1 i)) p h)), ob 7 [.ref x0, .ref x1, .ref x2, .ref x3, .ref x4, .ref x5, .int (nI (txSize s)), .int (nI (txRules s)), .int (nI (txTraits s))], aI (CxD X) 600 s.1, aZ (CxD X) 20 (zf s.2.1), aI (CxD X) 20 (nf s.2.2.1), aI (CxD X) 20 (nf s.2.2.2.1), aI (CxD X) 20 (nf s.2.2.2.2.1), aJ (CxD X) 8 s.2.2.2.2.2.1] (by omega) (by decide) rfl dX1_valueOf_75 rfl ?_
        refine r_iinc (n := 79) hX (nI (z.2 + 1)) [(0, .ref ju), (1, .ref tx), (2, .int (nI a)), (3, .int (nI b)), (4, .int (nI p)), (5, .int (nI h)), (6, .int (nI (z.2 + 1))), (7, .int (nI i)), (8, .int (txOp (s.1 i)))] dX1_valueOf_76 rfl 6 rfl (nI_add _ _) (by decide) rfl ?_
        refine r_goto (tgt := 175) hX dX1_valueOf_79 (by decide) ?_
        refine r_iinc (n := 178) hX (nI (i + 1)) [(0, .ref ju), (1, .ref tx), (2, .int (nI a)), (3, .int (nI b)), (4, .int (nI p)), (5, .int (nI h)), (6, .int (nI (z.2 + 1))), (7, .int (nI (i + 1))), (8, .int (txOp (s.1 i)))] dX1_valueOf_175 rfl 7 rfl (nI_add _ _) (by decide) rfl ?_
        refine r_goto (tgt := 10) hX dX1_valueOf_178 (by decide) ?_
        refine Aw.loc (lv' := [(0, .ref ju), (1, .ref tx), (2, .int (nI a)), (3, .int (nI b)), (4, .int (nI p)), (5, .int (nI h)), (6, .int (nI (z.2 + 1))), (7, .int (nI (i + 1)))]) [0, 1, 2, 3, 4, 5, 6, 7] rfl ?_
        have hs : jStep s.1 v p h i z = (upd z.1 z.2 (jLeaf v (txOp (s.1 i)) (txArg (s.1 i)) p h), z.2 + 1) := by
          unfold jStep; rw [if_pos ⟨Int32.not_lt.mp c39, c46⟩]
        exact ih (i + 1) (upd z.1 z.2 (jLeaf v (txOp (s.1 i)) (txArg (s.1 i)) p h), z.2 + 1) (by omega) (by omega) (by rw [← hs]; exact jStep_n hz) (by rw [← he]; simp only [foldF, hs])
set_option maxHeartbeats 1000000 in
set_option maxRecDepth 100000 in
theorem wk_X1_valueOf {X : Cx} (hX : Ok X cX1_valueOf 9 RX1 2) (ju j0 j1 : Nat) (tx x0 x1 x2 x3 x4 x5 : Nat) (s : TX) (v k : Nat → Int32) (a b p h : Nat) (ha : a ≤ 600) (hb : b ≤ 600) (hp : p < 12) (hh : h < 12) (hR : Rt X (some FieldType.int) (fun r es' => r = some (.int (jVal s.1 v p h a b k)) ∧ es' = [ob 1 [.ref j0, .ref j1], aI (CxD X) 312 v, aI (CxD X) 64 ((jRun s.1 v p h a b k).1), ob 7 [.ref x0, .ref x1, .ref x2, .ref x3, .ref x4, .ref x5, .int (nI (txSize s)), .int (nI (txRules s)), .int (nI (txTraits s))], aI (CxD X) 600 s.1, aZ (CxD X) 20 (zf s.2.1), aI (CxD X) 20 (nf s.2.2.1), aI (CxD X) 20 (nf s.2.2.2.1), aI (CxD X) 20 (nf s.2.2.2.2.1), aJ (CxD X) 8 s.2.2.2.2.2.1]) [ju, j0, j1, tx, x0, x1, x2, x3, x4, x5]) : Aw X [ju, j0, j1, tx, x0, x1, x2, x3, x4, x5] [ob 1 [.ref j0, .ref j1], aI (CxD X) 312 v, aI (CxD X) 64 k, ob 7 [.ref x0, .ref x1, .ref x2, .ref x3, .ref x4, .ref x5, .int (nI (txSize s)), .int (nI (txRules s)), .int (nI (txTraits s))], aI (CxD X) 600 s.1, aZ (CxD X) 20 (zf s.2.1), aI (CxD X) 20 (nf s.2.2.1), aI (CxD X) 20 (nf s.2.2.2.1), aI (CxD X) 20 (nf s.2.2.2.2.1), aJ (CxD X) 8 s.2.2.2.2.2.1] 0 [(0, .ref ju), (1, .ref tx), (2, .int (nI a)), (3, .int (nI b)), (4, .int (nI p)), (5, .int (nI h))] [] := by
  refine r_iconst (n := 1) hX 0 dX1_valueOf_0 rfl rfl ?_
  refine r_istore (n := 3) hX [(0, .ref ju), (1, .ref tx), (2, .int (nI a)), (3, .int (nI b)), (4, .int (nI p)), (5, .int (nI h)), (6, .int 0)] dX1_valueOf_1 rfl (by decide) rfl ?_
  refine r_iconst (n := 4) hX 0 dX1_valueOf_3 rfl rfl ?_
  refine r_iload_n (n := 5) hX dX1_valueOf_4 rfl rfl 2 rfl ?_
  refine r_mmax (n := 8) hX mt_X1_55 (by decide) (Nat.le_of_ble_eq_true rfl) dX1_valueOf_5 rfl ?_
  refine Aw.topi (nI a) (mmax0 (by omega)) ?_
  refine r_istore (n := 10) hX [(0, .ref ju), (1, .ref tx), (2, .int (nI a)), (3, .int (nI b)), (4, .int (nI p)), (5, .int (nI h)), (6, .int 0), (7, .int (nI a))] dX1_valueOf_8 rfl (by decide) rfl ?_
  exact lp_X1_val hX ju j0 j1 tx x0 x1 x2 x3 x4 x5 s v k a b p h ha hb hp hh hR _ a (k, 0) rfl ha (Nat.zero_le _) rfl
theorem ct_X1_valueOf (l : Launch) (D : va_G) (ju j0 j1 : Nat) (tx x0 x1 x2 x3 x4 x5 : Nat) (s : TX) (v k : Nat → Int32) (a b p h : Nat) (ha : a ≤ 600) (hb : b ≤ 600) (hp : p < 12) (hh : h < 12) : Ct l D m_X1_valueOf 2 [.ref ju, .ref tx, .int (nI a), .int (nI b), .int (nI p), .int (nI h)] [ju, j0, j1, tx, x0, x1, x2, x3, x4, x5] [ob 1 [.ref j0, .ref j1], aI D 312 v, aI D 64 k, ob 7 [.ref x0, .ref x1, .ref x2, .ref x3, .ref x4, .ref x5, .int (nI (txSize s)), .int (nI (txRules s)), .int (nI (txTraits s))], aI D 600 s.1, aZ D 20 (zf s.2.1), aI D 20 (nf s.2.2.1), aI D 20 (nf s.2.2.2.1), aI D 20 (nf s.2.2.2.2.1), aJ D 8 s.2.2.2.2.2.1] (fun r es' => r = some (.int (jVal s.1 v p h a b k)) ∧ es' = [ob 1 [.ref j0, .ref j1], aI D 312 v, aI D 64 ((jRun s.1 v p h a b k).1), ob 7 [.ref x0, .ref x1, .ref x2, .ref x3, .ref x4, .ref x5, .int (nI (txSize s)), .int (nI (txRules s)), .int (nI (txTraits s))], aI D 600 s.1, aZ D 20 (zf s.2.1), aI D 20 (nf s.2.2.1), aI D 20 (nf s.2.2.2.1), aI D 20 (nf s.2.2.2.2.1), aJ D 8 s.2.2.2.2.2.1]) :=
  Ct.ofA (own := RX1) (by decide) rfl (Nat.le_of_ble_eq_true rfl) rfl (fun X hl hD hX hR => by subst hl; subst hD; exact wk_X1_valueOf hX ju j0 j1 tx x0 x1 x2 x3 x4 x5 s v k a b p h ha hb hp hh hR)

/-- what a read text holds: at most 20 rules, their marks within 600 -/
def txOk (s : TX) : Prop := txRules s ≤ 20 ∧ ∀ r, s.2.2.1 r ≤ 600 ∧ s.2.2.2.1 r ≤ 600 ∧ s.2.2.2.2.1 r ≤ 600

set_option maxHeartbeats 1000000 in
set_option maxRecDepth 100000 in
theorem wk_X1_holds {X : Cx} (hX : Ok X cX1_holds 6 RX1 3) (ju j0 j1 : Nat) (tx x0 x1 x2 x3 x4 x5 : Nat) (s : TX) (v k : Nat → Int32) (r p h : Nat) (ht : txOk s) (hr : r < 20) (hp : p < 12) (hh : h < 12) (hR : Rt X (some FieldType.boolean) (fun r_ es' => r_ = some (.int (b2 (jHold s v p h r k))) ∧ es' = [ob 1 [.ref j0, .ref j1], aI (CxD X) 312 v, aI (CxD X) 64 (jHoldK s v p h r k), ob 7 [.ref x0, .ref x1, .ref x2, .ref x3, .ref x4, .ref x5, .int (nI (txSize s)), .int (nI (txRules s)), .int (nI (txTraits s))], aI (CxD X) 600 s.1, aZ (CxD X) 20 (zf s.2.1), aI (CxD X) 20 (nf s.2.2.1), aI (CxD X) 20 (nf s.2.2.2.1), aI (CxD X) 20 (nf s.2.2.2.2.1), aJ (CxD X) 8 s.2.2.2.2.2.1]) [ju, j0, j1, tx, x0, x1, x2, x3, x4, x5]) : Aw X [ju, j0, j1, tx, x0, x1, x2, x3, x4, x5] [ob 1 [.ref j0, .ref j1], aI (CxD X) 312 v, aI (CxD X) 64 k, ob 7 [.ref x0, .ref x1, .ref x2, .ref x3, .ref x4, .ref x5, .int (nI (txSize s)), .int (nI (txRules s)), .int (nI (txTraits s))], aI (CxD X) 600 s.1, aZ (CxD X) 20 (zf s.2.1), aI (CxD X) 20 (nf s.2.2.1), aI (CxD X) 20 (nf s.2.2.2.1), aI (CxD X) 20 (nf s.2.2.2.2.1), aJ (CxD X) 8 s.2.2.2.2.2.1] 0 [(0, .ref ju), (1, .ref tx), (2, .int (nI r)), (3, .int (nI p)), (4, .int (nI h))] [] := by
  refine r_iload_n (n := 1) hX dX1_holds_0 rfl rfl 2 rfl ?_
  refine r_iflt_n (n := 4) (tgt := 10) hX (by omega) dX1_holds_1 rfl (by decide) ?_
  refine r_iload_n (n := 5) hX dX1_holds_4 rfl rfl 2 rfl ?_
  refine r_bipush (n := 7) hX 20 dX1_holds_5 rfl rfl ?_
  refine r_icmp_lt_n (tgt := 12) (n := 10) hX r 20 (by omega) (by omega) dX1_holds_7 (by decide) rfl (fun c7 => ?_) (fun c7 => absurd c7 (by omega))
  refine r_aload_n (n := 13) hX dX1_holds_12 rfl rfl 1 rfl ?_
  refine r_get (n := 16) hX 3 rfl rfl rfl 3 (by decide) lay_X7 fl_X1_43 rfl dX1_holds_13 rfl ?_
  refine r_iload_n (n := 17) hX dX1_holds_16 rfl rfl 2 rfl ?_
  refine r_ialdNn (n := 18) (i := r) hX 7 rfl rfl (by omega) (by decide) dX1_holds_17 rfl ?_
  refine r_aload_n (n := 19) hX dX1_holds_18 rfl rfl 1 rfl ?_
  refine r_get (n := 22) hX 3 rfl rfl rfl 4 (by decide) lay_X7 fl_X1_58 rfl dX1_holds_19 rfl ?_
  refine r_iload_n (n := 23) hX dX1_holds_22 rfl rfl 2 rfl ?_
  refine r_ialdNn (n := 24) (i := r) hX 8 rfl rfl (by omega) (by decide) dX1_holds_23 rfl ?_
  refine r_icmp_ne_n (tgt := 31) (n := 27) hX (s.2.2.2.1 r) (s.2.2.2.2.1 r) (by have := (ht.2 r).2.1; omega) (by have := (ht.2 r).2.2; omega) dX1_holds_24 (by decide) rfl (fun c24 => ?_) (fun c24 => ?_)
  · skip
    refine r_iconst (n := 32) hX 0 dX1_holds_31 rfl rfl ?_
    refine r_istore (n := 34) hX [(0, .ref ju), (1, .ref tx), (2, .int (nI r)), (3, .int (nI p)), (4, .int (nI h)), (5, .int 0)] dX1_holds_32 rfl (by decide) rfl ?_
    refine r_iload (n := 36) hX dX1_holds_34 rfl 5 rfl ?_
    refine r_if_ne (tgt := 62) (n := 39) hX dX1_holds_36 (by decide) rfl (fun h => False.elim (by revert h; decide)) (fun _ => ?_)
    refine r_aload_n (n := 40) hX dX1_holds_39 rfl rfl 0 rfl ?_
    refine r_aload_n (n := 41) hX dX1_holds_40 rfl rfl 1 rfl ?_
    refine r_aload_n (n := 42) hX dX1_holds_41 rfl rfl 1 rfl ?_
    refine r_get (n := 45) hX 3 rfl rfl rfl 3 (by decide) lay_X7 fl_X1_43 rfl dX1_holds_42 rfl ?_
    refine r_iload_n (n := 46) hX dX1_holds_45 rfl rfl 2 rfl ?_
    refine r_ialdNn (n := 47) (i := r) hX 7 rfl rfl (by omega) (by decide) dX1_holds_46 rfl ?_
    refine r_aload_n (n := 48) hX dX1_holds_47 rfl rfl 1 rfl ?_
    refine r_get (n := 51) hX 3 rfl rfl rfl 4 (by decide) lay_X7 fl_X1_58 rfl dX1_holds_48 rfl ?_
    refine r_iload_n (n := 52) hX dX1_holds_51 rfl rfl 2 rfl ?_
    refine r_ialdNn (n := 53) (i := r) hX 8 rfl rfl (by omega) (by decide) dX1_holds_52 rfl ?_
    refine r_iload_n (n := 54) hX dX1_holds_53 rfl rfl 3 rfl ?_
    refine r_iload (n := 56) hX dX1_holds_54 rfl 4 rfl ?_
    refine r_callV (n := 59) (av := [.ref tx, .int (nI (s.2.2.2.1 r)), .int (nI (s.2.2.2.2.1 r)), .int (nI p), .int (nI h)]) hX (ct_X1_valueOf (CxL X) (CxD X) ju j0 j1 tx x0 x1 x2 x3 x4 x5 s v k (s.2.2.2.1 r) (s.2.2.2.2.1 r) p h (by first | exact (ht.2 _).1 | exact (ht.2 _).2.1 | exact (ht.2 _).2.2) (by first | exact (ht.2 _).1 | exact (ht.2 _).2.1 | exact (ht.2 _).2.2) hp hh) ml_X1_46 cv_X1_valueOf rfl (by decide) [0, 1, 2, 3, 4, 5, 6, 7, 8, 9] rfl rfl (by decide) 0 rfl rfl rfl rfl rfl (Nat.le_of_ble_eq_true rfl) dX1_holds_56 rfl (fun r_ es_ h_ l_ => ?_)
    obtain ⟨rfl, rfl⟩ := h_
    show Aw X [ju, j0, j1, tx, x0, x1, x2, x3, x4, x5] [ob 1 [.ref j0, .ref j1], aI (CxD X) 312 v, aI (CxD X) 64 ((jRun s.1 v p h (s.2.2.2.1 r) (s.2.2.2.2.1 r) k).1), ob 7 [.ref x0, .ref x1, .ref x2, .ref x3, .ref x4, .ref x5, .int (nI (txSize s)), .int (nI (txRules s)), .int (nI (txTraits s))], aI (CxD X) 600 s.1, aZ (CxD X) 20 (zf s.2.1), aI (CxD X) 20 (nf s.2.2.1), aI (CxD X) 20 (nf s.2.2.2.1), aI (CxD X) 20 (nf s.2.2.2.2.1), aJ (CxD X) 8 s.2.2.2.2.2.1] 59 [(0, .ref ju), (1, .ref tx), (2, .int (nI r)), (3, .int (nI p)), (4, .int (nI h)), (5, .int 0)] [.int (jVal s.1 v p h (s.2.2.2.1 r) (s.2.2.2.2.1 r) k)]
    generalize hk1 : (jRun s.1 v p h (s.2.2.2.1 r) (s.2.2.2.2.1 r) k).1 = k1
    refine r_if_eq (tgt := 66) (n := 62) hX dX1_holds_59 (by decide) rfl (fun c59 => ?_) (fun c59 => ?_)
    · skip
      refine r_iconst (n := 67) hX 0 dX1_holds_66 rfl rfl ?_
      exact r_zreturn hX hR rfl dX1_holds_67 (by subst hk1; rw [jHold, jHoldK]; rw [if_neg c24, if_neg c24]; (first | rw [if_pos c59] | rw [if_neg c59]); exact ⟨rfl, rfl⟩)
    · skip
      refine r_iconst (n := 63) hX 1 dX1_holds_62 rfl rfl ?_
      refine r_goto (tgt := 67) hX dX1_holds_63 (by decide) ?_
      exact r_zreturn hX hR rfl dX1_holds_67 (by subst hk1; rw [jHold, jHoldK]; rw [if_neg c24, if_neg c24]; (first | rw [if_pos c59] | rw [if_neg c59]); exact ⟨rfl, rfl⟩)
  · skip
    refine r_iconst (n := 28) hX 1 dX1_holds_27 rfl rfl ?_
    refine r_goto (tgt := 32) hX dX1_holds_28 (by decide) ?_
    refine r_istore (n := 34) hX [(0, .ref ju), (1, .ref tx), (2, .int (nI r)), (3, .int (nI p)), (4, .int (nI h)), (5, .int 1)] dX1_holds_32 rfl (by decide) rfl ?_
    refine r_iload (n := 36) hX dX1_holds_34 rfl 5 rfl ?_
    refine r_if_ne (tgt := 62) (n := 39) hX dX1_holds_36 (by decide) rfl (fun _ => ?_) (fun h => False.elim (by revert h; decide))
    refine r_iconst (n := 63) hX 1 dX1_holds_62 rfl rfl ?_
    refine r_goto (tgt := 67) hX dX1_holds_63 (by decide) ?_
    exact r_zreturn hX hR rfl dX1_holds_67 (by rw [jHold, jHoldK]; rw [if_pos c24, if_pos c24]; exact ⟨rfl, rfl⟩)
theorem ct_X1_holds (l : Launch) (D : va_G) (ju j0 j1 : Nat) (tx x0 x1 x2 x3 x4 x5 : Nat) (s : TX) (v k : Nat → Int32) (r p h : Nat) (ht : txOk s) (hr : r < 20) (hp : p < 12) (hh : h < 12) : Ct l D m_X1_holds 3 [.ref ju, .ref tx, .int (nI r), .int (nI p), .int (nI h)] [ju, j0, j1, tx, x0, x1, x2, x3, x4, x5] [ob 1 [.ref j0, .ref j1], aI D 312 v, aI D 64 k, ob 7 [.ref x0, .ref x1, .ref x2, .ref x3, .ref x4, .ref x5, .int (nI (txSize s)), .int (nI (txRules s)), .int (nI (txTraits s))], aI D 600 s.1, aZ D 20 (zf s.2.1), aI D 20 (nf s.2.2.1), aI D 20 (nf s.2.2.2.1), aI D 20 (nf s.2.2.2.2.1), aJ D 8 s.2.2.2.2.2.1] (fun r_ es' => r_ = some (.int (b2 (jHold s v p h r k))) ∧ es' = [ob 1 [.ref j0, .ref j1], aI D 312 v, aI D 64 (jHoldK s v p h r k), ob 7 [.ref x0, .ref x1, .ref x2, .ref x3, .ref x4, .ref x5, .int (nI (txSize s)), .int (nI (txRules s)), .int (nI (txTraits s))], aI D 600 s.1, aZ D 20 (zf s.2.1), aI D 20 (nf s.2.2.1), aI D 20 (nf s.2.2.2.1), aI D 20 (nf s.2.2.2.2.1), aJ D 8 s.2.2.2.2.2.1]) :=
  Ct.ofA (own := RX1) (by decide) rfl (Nat.le_of_ble_eq_true rfl) rfl (fun X hl hD hX hR => by subst hl; subst hD; exact wk_X1_holds hX ju j0 j1 tx x0 x1 x2 x3 x4 x5 s v k r p h ht hr hp hh hR)
set_option maxHeartbeats 1000000 in
set_option maxRecDepth 100000 in
theorem lp_X1_reason {X : Cx} (hX : Ok X cX1_reason 6 RX1 4) (ju j0 j1 : Nat) (tx x0 x1 x2 x3 x4 x5 : Nat) (s : TX) (v k : Nat → Int32) (te : Int32) (p h : Nat) (ht : txOk s) (hp : p < 12) (hh : h < 12) (hR : Rt X (some FieldType.int) (fun r_ es' => r_ = some (.int (nI (jWhy s v te p h k).1)) ∧ es' = [ob 1 [.ref j0, .ref j1], aI (CxD X) 312 v, aI (CxD X) 64 ((jWhy s v te p h k).2), ob 7 [.ref x0, .ref x1, .ref x2, .ref x3, .ref x4, .ref x5, .int (nI (txSize s)), .int (nI (txRules s)), .int (nI (txTraits s))], aI (CxD X) 600 s.1, aZ (CxD X) 20 (zf s.2.1), aI (CxD X) 20 (nf s.2.2.1), aI (CxD X) 20 (nf s.2.2.2.1), aI (CxD X) 20 (nf s.2.2.2.2.1), aJ (CxD X) 8 s.2.2.2.2.2.1]) [ju, j0, j1, tx, x0, x1, x2, x3, x4, x5]) : ∀ (m r : Nat) (q : Nat → Int32), r + m = txRules s → jBars s v p h m r q = jWhy s v te p h k → Aw X [ju, j0, j1, tx, x0, x1, x2, x3, x4, x5] [ob 1 [.ref j0, .ref j1], aI (CxD X) 312 v, aI (CxD X) 64 q, ob 7 [.ref x0, .ref x1, .ref x2, .ref x3, .ref x4, .ref x5, .int (nI (txSize s)), .int (nI (txRules s)), .int (nI (txTraits s))], aI (CxD X) 600 s.1, aZ (CxD X) 20 (zf s.2.1), aI (CxD X) 20 (nf s.2.2.1), aI (CxD X) 20 (nf s.2.2.2.1), aI (CxD X) 20 (nf s.2.2.2.2.1), aJ (CxD X) 8 s.2.2.2.2.2.1] 61 [(0, .ref ju), (1, .ref tx), (2, .int te), (3, .int (nI p)), (4, .int (nI h)), (5, .int (nI r))] [] := by
  intro m
  induction m with
  | zero =>
    intro r q hr he
    have hru := ht.1
    refine r_iload (n := 63) hX dX1_reason_61 rfl 5 rfl ?_
    refine r_aload_n (n := 64) hX dX1_reason_63 rfl rfl 1 rfl ?_
    refine r_get (n := 67) hX 3 rfl rfl rfl 7 (by decide) lay_X7 fl_X1_22 rfl dX1_reason_64 rfl ?_
    refine r_icmp_ge_n (tgt := 112) (n := 70) hX r (txRules s) (by omega) (by omega) dX1_reason_67 (by decide) rfl (fun c67 => ?_) (fun c67 => absurd c67 (by omega))
    refine r_iconst (n := 113) hX 0 dX1_reason_112 rfl rfl ?_
    exact r_ireturn hX hR dX1_reason_113 (by rw [← he]; exact ⟨rfl, rfl⟩)
  | succ m ih =>
    intro r q hr he
    have hru := ht.1
    refine r_iload (n := 63) hX dX1_reason_61 rfl 5 rfl ?_
    refine r_aload_n (n := 64) hX dX1_reason_63 rfl rfl 1 rfl ?_
    refine r_get (n := 67) hX 3 rfl rfl rfl 7 (by decide) lay_X7 fl_X1_22 rfl dX1_reason_64 rfl ?_
    refine r_icmp_ge_n (tgt := 112) (n := 70) hX r (txRules s) (by omega) (by omega) dX1_reason_67 (by decide) rfl (fun c67 => absurd c67 (by omega)) (fun c67 => ?_)
    refine r_iload (n := 72) hX dX1_reason_70 rfl 5 rfl ?_
    refine r_bipush (n := 74) hX 20 dX1_reason_72 rfl rfl ?_
    refine r_icmp_ge_n (tgt := 112) (n := 77) hX r 20 (by omega) (by omega) dX1_reason_74 (by decide) rfl (fun c74 => absurd c74 (by omega)) (fun c74 => ?_)
    refine r_aload_n (n := 78) hX dX1_reason_77 rfl rfl 1 rfl ?_
    refine r_get (n := 81) hX 3 rfl rfl rfl 1 (by decide) lay_X7 fl_X1_28 rfl dX1_reason_78 rfl ?_
    refine r_iload (n := 83) hX dX1_reason_81 rfl 5 rfl ?_
    refine r_zaldbn (n := 84) (i := r) hX 5 rfl rfl (by omega) (by decide) dX1_reason_83 rfl ?_
    refine r_if_eq_b (tgt := 106) (n := 87) hX dX1_reason_84 (by decide) rfl (fun c84 => ?_) (fun c84 => ?_)
    · skip
      refine r_iinc (n := 109) hX (nI (r + 1)) [(0, .ref ju), (1, .ref tx), (2, .int te), (3, .int (nI p)), (4, .int (nI h)), (5, .int (nI (r + 1)))] dX1_reason_106 rfl 5 rfl (nI_add _ _) (by decide) rfl ?_
      refine r_goto (tgt := 61) hX dX1_reason_109 (by decide) ?_
      exact ih (r + 1) _ (by omega) (by rw [← he]; conv => rhs; rw [jBars, if_neg (by rw [c84]; decide)])
    · skip
      refine r_aload_n (n := 88) hX dX1_reason_87 rfl rfl 0 rfl ?_
      refine r_aload_n (n := 89) hX dX1_reason_88 rfl rfl 1 rfl ?_
      refine r_iload (n := 91) hX dX1_reason_89 rfl 5 rfl ?_
      refine r_iload_n (n := 92) hX dX1_reason_91 rfl rfl 3 rfl ?_
      refine r_iload (n := 94) hX dX1_reason_92 rfl 4 rfl ?_
      refine r_callV (n := 97) (av := [.ref tx, .int (nI r), .int (nI p), .int (nI h)]) hX (ct_X1_holds (CxL X) (CxD X) ju j0 j1 tx x0 x1 x2 x3 x4 x5 s v q r p h ht (by omega) hp hh) ml_X1_32 cv_X1_holds rfl (by decide) [0, 1, 2, 3, 4, 5, 6, 7, 8, 9] rfl rfl (by decide) 0 rfl rfl rfl rfl rfl (Nat.le_of_ble_eq_true rfl) dX1_reason_94 rfl (fun r_ es_ h_ l_ => ?_)
      obtain ⟨rfl, rfl⟩ := h_
      show Aw X [ju, j0, j1, tx, x0, x1, x2, x3, x4, x5] [ob 1 [.ref j0, .ref j1], aI (CxD X) 312 v, aI (CxD X) 64 (jHoldK s v p h r q), ob 7 [.ref x0, .ref x1, .ref x2, .ref x3, .ref x4, .ref x5, .int (nI (txSize s)), .int (nI (txRules s)), .int (nI (txTraits s))], aI (CxD X) 600 s.1, aZ (CxD X) 20 (zf s.2.1), aI (CxD X) 20 (nf s.2.2.1), aI (CxD X) 20 (nf s.2.2.2.1), aI (CxD X) 20 (nf s.2.2.2.2.1), aJ (CxD X) 8 s.2.2.2.2.2.1] 97 [(0, .ref ju), (1, .ref tx), (2, .int te), (3, .int (nI p)), (4, .int (nI h)), (5, .int (nI r))] [.int (b2 (jHold s v p h r q))]
      generalize hk1 : jHoldK s v p h r q = k1
      refine r_if_eq_b (tgt := 106) (n := 100) hX dX1_reason_97 (by decide) rfl (fun c97 => ?_) (fun c97 => ?_)
      · skip
        refine r_iinc (n := 109) hX (nI (r + 1)) [(0, .ref ju), (1, .ref tx), (2, .int te), (3, .int (nI p)), (4, .int (nI h)), (5, .int (nI (r + 1)))] dX1_reason_106 rfl 5 rfl (nI_add _ _) (by decide) rfl ?_
        refine r_goto (tgt := 61) hX dX1_reason_109 (by decide) ?_
        exact ih (r + 1) _ (by omega) (by subst hk1; rw [← he]; conv => rhs; rw [jBars, if_pos c84, if_neg (by rw [c97]; decide)])
      · skip
        refine r_bipush (n := 102) hX 10 dX1_reason_100 rfl rfl ?_
        refine r_iload (n := 104) hX dX1_reason_102 rfl 5 rfl ?_
        refine r_iadd (n := 105) hX dX1_reason_104 rfl ?_
        refine Aw.topi (nI (10 + r)) (nI_add _ _) ?_
        exact r_ireturn hX hR dX1_reason_105 (by subst hk1; rw [← he, jBars, if_pos c84, if_pos c97]; exact ⟨rfl, rfl⟩)
set_option maxHeartbeats 1000000 in
set_option maxRecDepth 100000 in
theorem wk_X1_reason {X : Cx} (hX : Ok X cX1_reason 6 RX1 4) (ju j0 j1 : Nat) (tx x0 x1 x2 x3 x4 x5 : Nat) (s : TX) (v k : Nat → Int32) (te : Int32) (p h : Nat) (ht : txOk s) (hp : p < 12) (hh : h < 12) (hR : Rt X (some FieldType.int) (fun r_ es' => r_ = some (.int (nI (jWhy s v te p h k).1)) ∧ es' = [ob 1 [.ref j0, .ref j1], aI (CxD X) 312 v, aI (CxD X) 64 ((jWhy s v te p h k).2), ob 7 [.ref x0, .ref x1, .ref x2, .ref x3, .ref x4, .ref x5, .int (nI (txSize s)), .int (nI (txRules s)), .int (nI (txTraits s))], aI (CxD X) 600 s.1, aZ (CxD X) 20 (zf s.2.1), aI (CxD X) 20 (nf s.2.2.1), aI (CxD X) 20 (nf s.2.2.2.1), aI (CxD X) 20 (nf s.2.2.2.2.1), aJ (CxD X) 8 s.2.2.2.2.2.1]) [ju, j0, j1, tx, x0, x1, x2, x3, x4, x5]) : Aw X [ju, j0, j1, tx, x0, x1, x2, x3, x4, x5] [ob 1 [.ref j0, .ref j1], aI (CxD X) 312 v, aI (CxD X) 64 k, ob 7 [.ref x0, .ref x1, .ref x2, .ref x3, .ref x4, .ref x5, .int (nI (txSize s)), .int (nI (txRules s)), .int (nI (txTraits s))], aI (CxD X) 600 s.1, aZ (CxD X) 20 (zf s.2.1), aI (CxD X) 20 (nf s.2.2.1), aI (CxD X) 20 (nf s.2.2.2.1), aI (CxD X) 20 (nf s.2.2.2.2.1), aJ (CxD X) 8 s.2.2.2.2.2.1] 0 [(0, .ref ju), (1, .ref tx), (2, .int te), (3, .int (nI p)), (4, .int (nI h))] [] := by
  refine r_iload_n (n := 1) hX dX1_reason_0 rfl rfl 3 rfl ?_
  refine r_iload (n := 3) hX dX1_reason_1 rfl 4 rfl ?_
  refine r_icmp_ne_n (tgt := 8) (n := 6) hX p h (by omega) (by omega) dX1_reason_3 (by decide) rfl (fun c3 => ?_) (fun c3 => ?_)
  · skip
    refine r_aload_n (n := 9) hX dX1_reason_8 rfl rfl 0 rfl ?_
    refine r_iload_n (n := 10) hX dX1_reason_9 rfl rfl 3 rfl ?_
    refine r_iconst (n := 11) hX 0 dX1_reason_10 rfl rfl ?_
    refine r_callV (n := 14) (av := [.int (nI p), .int 0]) hX (ct_X1_fact (CxL X) (CxD X) ju j0 j1 v k p 0 (by omega) (by omega)) ml_X1_18 cv_X1_fact rfl (by decide) [0, 1, 2] rfl rfl (by decide) 0 rfl rfl rfl rfl rfl (Nat.le_of_ble_eq_true rfl) dX1_reason_11 rfl (fun r_ es_ h_ l_ => ?_)
    obtain ⟨rfl, rfl⟩ := h_
    show Aw X [ju, j0, j1, tx, x0, x1, x2, x3, x4, x5] [ob 1 [.ref j0, .ref j1], aI (CxD X) 312 v, aI (CxD X) 64 k, ob 7 [.ref x0, .ref x1, .ref x2, .ref x3, .ref x4, .ref x5, .int (nI (txSize s)), .int (nI (txRules s)), .int (nI (txTraits s))], aI (CxD X) 600 s.1, aZ (CxD X) 20 (zf s.2.1), aI (CxD X) 20 (nf s.2.2.1), aI (CxD X) 20 (nf s.2.2.2.1), aI (CxD X) 20 (nf s.2.2.2.2.1), aJ (CxD X) 8 s.2.2.2.2.2.1] 14 [(0, .ref ju), (1, .ref tx), (2, .int te), (3, .int (nI p)), (4, .int (nI h))] [.int (jFact v p 0)]
    refine r_if_ne (tgt := 19) (n := 17) hX dX1_reason_14 (by decide) rfl (fun c14 => ?_) (fun c14 => ?_)
    · skip
      refine r_aload_n (n := 20) hX dX1_reason_19 rfl rfl 0 rfl ?_
      refine r_iload (n := 22) hX dX1_reason_20 rfl 4 rfl ?_
      refine r_iconst (n := 23) hX 1 dX1_reason_22 rfl rfl ?_
      refine r_callV (n := 26) (av := [.int (nI h), .int 1]) hX (ct_X1_fact (CxL X) (CxD X) ju j0 j1 v k h 1 (by omega) (by omega)) ml_X1_18 cv_X1_fact rfl (by decide) [0, 1, 2] rfl rfl (by decide) 0 rfl rfl rfl rfl rfl (Nat.le_of_ble_eq_true rfl) dX1_reason_23 rfl (fun r_ es_ h_ l_ => ?_)
      obtain ⟨rfl, rfl⟩ := h_
      show Aw X [ju, j0, j1, tx, x0, x1, x2, x3, x4, x5] [ob 1 [.ref j0, .ref j1], aI (CxD X) 312 v, aI (CxD X) 64 k, ob 7 [.ref x0, .ref x1, .ref x2, .ref x3, .ref x4, .ref x5, .int (nI (txSize s)), .int (nI (txRules s)), .int (nI (txTraits s))], aI (CxD X) 600 s.1, aZ (CxD X) 20 (zf s.2.1), aI (CxD X) 20 (nf s.2.2.1), aI (CxD X) 20 (nf s.2.2.2.1), aI (CxD X) 20 (nf s.2.2.2.2.1), aJ (CxD X) 8 s.2.2.2.2.2.1] 26 [(0, .ref ju), (1, .ref tx), (2, .int te), (3, .int (nI p)), (4, .int (nI h))] [.int (jFact v h 1)]
      refine r_if_ne (tgt := 31) (n := 29) hX dX1_reason_26 (by decide) rfl (fun c26 => ?_) (fun c26 => ?_)
      · skip
        refine r_aload_n (n := 32) hX dX1_reason_31 rfl rfl 0 rfl ?_
        refine r_iload_n (n := 33) hX dX1_reason_32 rfl rfl 3 rfl ?_
        refine r_bipush (n := 35) hX 14 dX1_reason_33 rfl rfl ?_
        refine r_iload (n := 37) hX dX1_reason_35 rfl 4 rfl ?_
        refine r_iadd (n := 38) hX dX1_reason_37 rfl ?_
        refine Aw.topi (nI (14 + h)) (nI_add _ _) ?_
        refine r_callV (n := 41) (av := [.int (nI p), .int (nI (14 + h))]) hX (ct_X1_fact (CxL X) (CxD X) ju j0 j1 v k p (14 + h) (by omega) (by omega)) ml_X1_18 cv_X1_fact rfl (by decide) [0, 1, 2] rfl rfl (by decide) 0 rfl rfl rfl rfl rfl (Nat.le_of_ble_eq_true rfl) dX1_reason_38 rfl (fun r_ es_ h_ l_ => ?_)
        obtain ⟨rfl, rfl⟩ := h_
        show Aw X [ju, j0, j1, tx, x0, x1, x2, x3, x4, x5] [ob 1 [.ref j0, .ref j1], aI (CxD X) 312 v, aI (CxD X) 64 k, ob 7 [.ref x0, .ref x1, .ref x2, .ref x3, .ref x4, .ref x5, .int (nI (txSize s)), .int (nI (txRules s)), .int (nI (txTraits s))], aI (CxD X) 600 s.1, aZ (CxD X) 20 (zf s.2.1), aI (CxD X) 20 (nf s.2.2.1), aI (CxD X) 20 (nf s.2.2.2.1), aI (CxD X) 20 (nf s.2.2.2.2.1), aJ (CxD X) 8 s.2.2.2.2.2.1] 41 [(0, .ref ju), (1, .ref tx), (2, .int te), (3, .int (nI p)), (4, .int (nI h))] [.int (jFact v p (14 + h))]
        refine r_if_ne (tgt := 46) (n := 44) hX dX1_reason_41 (by decide) rfl (fun c41 => ?_) (fun c41 => ?_)
        · skip
          refine r_aload_n (n := 47) hX dX1_reason_46 rfl rfl 0 rfl ?_
          refine r_iload_n (n := 48) hX dX1_reason_47 rfl rfl 3 rfl ?_
          refine r_iconst (n := 49) hX 4 dX1_reason_48 rfl rfl ?_
          refine r_callV (n := 52) (av := [.int (nI p), .int 4]) hX (ct_X1_fact (CxL X) (CxD X) ju j0 j1 v k p 4 (by omega) (by omega)) ml_X1_18 cv_X1_fact rfl (by decide) [0, 1, 2] rfl rfl (by decide) 0 rfl rfl rfl rfl rfl (Nat.le_of_ble_eq_true rfl) dX1_reason_49 rfl (fun r_ es_ h_ l_ => ?_)
          obtain ⟨rfl, rfl⟩ := h_
          show Aw X [ju, j0, j1, tx, x0, x1, x2, x3, x4, x5] [ob 1 [.ref j0, .ref j1], aI (CxD X) 312 v, aI (CxD X) 64 k, ob 7 [.ref x0, .ref x1, .ref x2, .ref x3, .ref x4, .ref x5, .int (nI (txSize s)), .int (nI (txRules s)), .int (nI (txTraits s))], aI (CxD X) 600 s.1, aZ (CxD X) 20 (zf s.2.1), aI (CxD X) 20 (nf s.2.2.1), aI (CxD X) 20 (nf s.2.2.2.1), aI (CxD X) 20 (nf s.2.2.2.2.1), aJ (CxD X) 8 s.2.2.2.2.2.1] 52 [(0, .ref ju), (1, .ref tx), (2, .int te), (3, .int (nI p)), (4, .int (nI h))] [.int (jFact v p 4)]
          refine r_iload_n (n := 53) hX dX1_reason_52 rfl rfl 2 rfl ?_
          refine r_icmp_le (tgt := 58) (n := 56) hX dX1_reason_53 (by decide) rfl (fun c53 => ?_) (fun c53 => ?_)
          · skip
            refine r_iconst (n := 59) hX 0 dX1_reason_58 rfl rfl ?_
            refine r_istore (n := 61) hX [(0, .ref ju), (1, .ref tx), (2, .int te), (3, .int (nI p)), (4, .int (nI h)), (5, .int 0)] dX1_reason_59 rfl (by decide) rfl ?_
            exact lp_X1_reason hX ju j0 j1 tx x0 x1 x2 x3 x4 x5 s v k te p h ht hp hh hR (txRules s) 0 k (by omega) (by rw [jWhy, if_neg c3, if_neg c14, if_neg c26, if_neg c41, if_pos c53])
          · skip
            refine r_iconst (n := 57) hX 5 dX1_reason_56 rfl rfl ?_
            exact r_ireturn hX hR dX1_reason_57 (by rw [jWhy, if_neg c3, if_neg c14, if_neg c26, if_neg c41, if_neg c53]; exact ⟨rfl, rfl⟩)
        · skip
          refine r_iconst (n := 45) hX 4 dX1_reason_44 rfl rfl ?_
          exact r_ireturn hX hR dX1_reason_45 (by rw [jWhy, if_neg c3, if_neg c14, if_neg c26, if_pos c41]; exact ⟨rfl, rfl⟩)
      · skip
        refine r_iconst (n := 30) hX 3 dX1_reason_29 rfl rfl ?_
        exact r_ireturn hX hR dX1_reason_30 (by rw [jWhy, if_neg c3, if_neg c14, if_pos c26]; exact ⟨rfl, rfl⟩)
    · skip
      refine r_iconst (n := 18) hX 2 dX1_reason_17 rfl rfl ?_
      exact r_ireturn hX hR dX1_reason_18 (by rw [jWhy, if_neg c3, if_pos c14]; exact ⟨rfl, rfl⟩)
  · skip
    refine r_iconst (n := 7) hX 1 dX1_reason_6 rfl rfl ?_
    exact r_ireturn hX hR dX1_reason_7 (by rw [jWhy, if_pos c3]; exact ⟨rfl, rfl⟩)
theorem ct_X1_reason (l : Launch) (D : va_G) (ju j0 j1 : Nat) (tx x0 x1 x2 x3 x4 x5 : Nat) (s : TX) (v k : Nat → Int32) (te : Int32) (p h : Nat) (ht : txOk s) (hp : p < 12) (hh : h < 12) : Ct l D m_X1_reason 4 [.ref ju, .ref tx, .int te, .int (nI p), .int (nI h)] [ju, j0, j1, tx, x0, x1, x2, x3, x4, x5] [ob 1 [.ref j0, .ref j1], aI D 312 v, aI D 64 k, ob 7 [.ref x0, .ref x1, .ref x2, .ref x3, .ref x4, .ref x5, .int (nI (txSize s)), .int (nI (txRules s)), .int (nI (txTraits s))], aI D 600 s.1, aZ D 20 (zf s.2.1), aI D 20 (nf s.2.2.1), aI D 20 (nf s.2.2.2.1), aI D 20 (nf s.2.2.2.2.1), aJ D 8 s.2.2.2.2.2.1] (fun r_ es' => r_ = some (.int (nI (jWhy s v te p h k).1)) ∧ es' = [ob 1 [.ref j0, .ref j1], aI D 312 v, aI D 64 ((jWhy s v te p h k).2), ob 7 [.ref x0, .ref x1, .ref x2, .ref x3, .ref x4, .ref x5, .int (nI (txSize s)), .int (nI (txRules s)), .int (nI (txTraits s))], aI D 600 s.1, aZ D 20 (zf s.2.1), aI D 20 (nf s.2.2.1), aI D 20 (nf s.2.2.2.1), aI D 20 (nf s.2.2.2.2.1), aJ D 8 s.2.2.2.2.2.1]) :=
  Ct.ofA (own := RX1) (by decide) rfl (Nat.le_of_ble_eq_true rfl) rfl (fun X hl hD hX hR => by subst hl; subst hD; exact wk_X1_reason hX ju j0 j1 tx x0 x1 x2 x3 x4 x5 s v k te p h ht hp hh hR)
theorem jBars_le {s : TX} {v : Nat → Int32} {p h : Nat} : ∀ (m r : Nat) (k : Nat → Int32), (jBars s v p h m r k).1 ≤ 10 + r + m
  | 0, r, k => Nat.zero_le _
  | m + 1, r, k => by
    unfold jBars
    split
    · split
      · show 10 + r ≤ _; omega
      · have := jBars_le (s := s) (v := v) (p := p) (h := h) m (r + 1) (jHoldK s v p h r k); omega
    · have := jBars_le (s := s) (v := v) (p := p) (h := h) m (r + 1) k; omega
theorem jWhy_le {s : TX} {v : Nat → Int32} {te : Int32} {p h : Nat} {k : Nat → Int32} (hs : txRules s ≤ 20) : (jWhy s v te p h k).1 ≤ 30 := by
  unfold jWhy
  have := jBars_le (s := s) (v := v) (p := p) (h := h) (txRules s) 0 k
  split
  · show 1 ≤ 30; omega
  · split
    · show 2 ≤ 30; omega
    · split
      · show 3 ≤ 30; omega
      · split
        · show 4 ≤ 30; omega
        · split
          · omega
          · show 5 ≤ 30; omega
set_option maxHeartbeats 1000000 in
set_option maxRecDepth 100000 in
theorem lp_X1_cost {X : Cx} (hX : Ok X cX1_costOrNone 7 RX1 5) (ju j0 j1 : Nat) (tx x0 x1 x2 x3 x4 x5 : Nat) (s : TX) (v k : Nat → Int32) (te : Int32) (p h : Nat) (ht : txOk s) (hp : p < 12) (hh : h < 12) (hw : (jWhy s v te p h k).1 = 0) (hR : Rt X (some FieldType.int) (fun r_ es' => r_ = some (.int (eo (jCost s v te p h k))) ∧ es' = [ob 1 [.ref j0, .ref j1], aI (CxD X) 312 v, aI (CxD X) 64 (jCostK s v te p h k), ob 7 [.ref x0, .ref x1, .ref x2, .ref x3, .ref x4, .ref x5, .int (nI (txSize s)), .int (nI (txRules s)), .int (nI (txTraits s))], aI (CxD X) 600 s.1, aZ (CxD X) 20 (zf s.2.1), aI (CxD X) 20 (nf s.2.2.1), aI (CxD X) 20 (nf s.2.2.2.1), aI (CxD X) 20 (nf s.2.2.2.2.1), aJ (CxD X) 8 s.2.2.2.2.2.1]) [ju, j0, j1, tx, x0, x1, x2, x3, x4, x5]) : ∀ (m r : Nat) (z : Int32 × (Nat → Int32)), r + m = txRules s → jSum s v p h m r z = jCostZ s v te p h k → Aw X [ju, j0, j1, tx, x0, x1, x2, x3, x4, x5] [ob 1 [.ref j0, .ref j1], aI (CxD X) 312 v, aI (CxD X) 64 z.2, ob 7 [.ref x0, .ref x1, .ref x2, .ref x3, .ref x4, .ref x5, .int (nI (txSize s)), .int (nI (txRules s)), .int (nI (txTraits s))], aI (CxD X) 600 s.1, aZ (CxD X) 20 (zf s.2.1), aI (CxD X) 20 (nf s.2.2.1), aI (CxD X) 20 (nf s.2.2.2.1), aI (CxD X) 20 (nf s.2.2.2.2.1), aJ (CxD X) 8 s.2.2.2.2.2.1] 29 [(0, .ref ju), (1, .ref tx), (2, .int te), (3, .int (nI p)), (4, .int (nI h)), (5, .int z.1), (6, .int (nI r))] [] := by
  intro m
  induction m with
  | zero =>
    intro r z hr he
    have hru := ht.1
    refine r_iload (n := 31) hX dX1_costOrNone_29 rfl 6 rfl ?_
    refine r_aload_n (n := 32) hX dX1_costOrNone_31 rfl rfl 1 rfl ?_
    refine r_get (n := 35) hX 3 rfl rfl rfl 7 (by decide) lay_X7 fl_X1_22 rfl dX1_costOrNone_32 rfl ?_
    refine r_icmp_ge_n (tgt := 101) (n := 38) hX r (txRules s) (by omega) (by omega) dX1_costOrNone_35 (by decide) rfl (fun c35 => ?_) (fun c35 => absurd c35 (by omega))
    refine r_iconst (n := 102) hX 0 dX1_costOrNone_101 rfl rfl ?_
    refine r_iload (n := 104) hX dX1_costOrNone_102 rfl 5 rfl ?_
    refine r_sipush (n := 107) hX 10000 dX1_costOrNone_104 rfl rfl ?_
    refine r_mmin (n := 110) hX mt_X1_50 (by decide) (Nat.le_of_ble_eq_true rfl) dX1_costOrNone_107 rfl ?_
    refine r_mmax (n := 113) hX mt_X1_55 (by decide) (Nat.le_of_ble_eq_true rfl) dX1_costOrNone_110 rfl ?_
    refine Aw.topi (nI (jClamp z.1)) (jClamp_eq z.1) ?_
    exact r_ireturn hX hR dX1_costOrNone_113 (by have he : z = jCostZ s v te p h k := he; rw [jCost, jCostK, if_pos hw, if_pos hw, ← he]; exact ⟨rfl, rfl⟩)
  | succ m ih =>
    intro r z hr he
    have hru := ht.1
    refine r_iload (n := 31) hX dX1_costOrNone_29 rfl 6 rfl ?_
    refine r_aload_n (n := 32) hX dX1_costOrNone_31 rfl rfl 1 rfl ?_
    refine r_get (n := 35) hX 3 rfl rfl rfl 7 (by decide) lay_X7 fl_X1_22 rfl dX1_costOrNone_32 rfl ?_
    refine r_icmp_ge_n (tgt := 101) (n := 38) hX r (txRules s) (by omega) (by omega) dX1_costOrNone_35 (by decide) rfl (fun c35 => absurd c35 (by omega)) (fun c35 => ?_)
    refine r_iload (n := 40) hX dX1_costOrNone_38 rfl 6 rfl ?_
    refine r_bipush (n := 42) hX 20 dX1_costOrNone_40 rfl rfl ?_
    refine r_icmp_ge_n (tgt := 101) (n := 45) hX r 20 (by omega) (by omega) dX1_costOrNone_42 (by decide) rfl (fun c42 => absurd c42 (by omega)) (fun c42 => ?_)
    refine r_aload_n (n := 46) hX dX1_costOrNone_45 rfl rfl 1 rfl ?_
    refine r_get (n := 49) hX 3 rfl rfl rfl 1 (by decide) lay_X7 fl_X1_28 rfl dX1_costOrNone_46 rfl ?_
    refine r_iload (n := 51) hX dX1_costOrNone_49 rfl 6 rfl ?_
    refine r_zaldbn (n := 52) (i := r) hX 5 rfl rfl (by omega) (by decide) dX1_costOrNone_51 rfl ?_
    refine r_if_ne_b (tgt := 95) (n := 55) hX dX1_costOrNone_52 (by decide) rfl (fun c52 => ?_) (fun c52 => ?_)
    · skip
      refine r_iinc (n := 98) hX (nI (r + 1)) [(0, .ref ju), (1, .ref tx), (2, .int te), (3, .int (nI p)), (4, .int (nI h)), (5, .int z.1), (6, .int (nI (r + 1)))] dX1_costOrNone_95 rfl 6 rfl (nI_add _ _) (by decide) rfl ?_
      refine r_goto (tgt := 29) hX dX1_costOrNone_98 (by decide) ?_
      exact ih (r + 1) (z.1, z.2) (by omega) (by rw [← he]; conv => rhs; rw [jSum, if_pos c52])
    · skip
      refine r_aload_n (n := 56) hX dX1_costOrNone_55 rfl rfl 0 rfl ?_
      refine r_aload_n (n := 57) hX dX1_costOrNone_56 rfl rfl 1 rfl ?_
      refine r_iload (n := 59) hX dX1_costOrNone_57 rfl 6 rfl ?_
      refine r_iload_n (n := 60) hX dX1_costOrNone_59 rfl rfl 3 rfl ?_
      refine r_iload (n := 62) hX dX1_costOrNone_60 rfl 4 rfl ?_
      refine r_callV (n := 65) (av := [.ref tx, .int (nI r), .int (nI p), .int (nI h)]) hX (ct_X1_holds (CxL X) (CxD X) ju j0 j1 tx x0 x1 x2 x3 x4 x5 s v z.2 r p h ht (by omega) hp hh) ml_X1_32 cv_X1_holds rfl (by decide) [0, 1, 2, 3, 4, 5, 6, 7, 8, 9] rfl rfl (by decide) 0 rfl rfl rfl rfl rfl (Nat.le_of_ble_eq_true rfl) dX1_costOrNone_62 rfl (fun r_ es_ h_ l_ => ?_)
      obtain ⟨rfl, rfl⟩ := h_
      show Aw X [ju, j0, j1, tx, x0, x1, x2, x3, x4, x5] [ob 1 [.ref j0, .ref j1], aI (CxD X) 312 v, aI (CxD X) 64 (jHoldK s v p h r z.2), ob 7 [.ref x0, .ref x1, .ref x2, .ref x3, .ref x4, .ref x5, .int (nI (txSize s)), .int (nI (txRules s)), .int (nI (txTraits s))], aI (CxD X) 600 s.1, aZ (CxD X) 20 (zf s.2.1), aI (CxD X) 20 (nf s.2.2.1), aI (CxD X) 20 (nf s.2.2.2.1), aI (CxD X) 20 (nf s.2.2.2.2.1), aJ (CxD X) 8 s.2.2.2.2.2.1] 65 [(0, .ref ju), (1, .ref tx), (2, .int te), (3, .int (nI p)), (4, .int (nI h)), (5, .int z.1), (6, .int (nI r))] [.int (b2 (jHold s v p h r z.2))]
      generalize hk1 : jHoldK s v p h r z.2 = k1
      refine r_if_eq_b (tgt := 95) (n := 68) hX dX1_costOrNone_65 (by decide) rfl (fun c65 => ?_) (fun c65 => ?_)
      · skip
        refine r_iinc (n := 98) hX (nI (r + 1)) [(0, .ref ju), (1, .ref tx), (2, .int te), (3, .int (nI p)), (4, .int (nI h)), (5, .int z.1), (6, .int (nI (r + 1)))] dX1_costOrNone_95 rfl 6 rfl (nI_add _ _) (by decide) rfl ?_
        refine r_goto (tgt := 29) hX dX1_costOrNone_98 (by decide) ?_
        exact ih (r + 1) (z.1, k1) (by omega) (by subst hk1; rw [← he]; conv => rhs; rw [jSum, if_neg (by rw [c52]; decide), if_neg (by rw [c65]; decide)])
      · skip
        refine r_iload (n := 70) hX dX1_costOrNone_68 rfl 5 rfl ?_
        refine r_aload_n (n := 71) hX dX1_costOrNone_70 rfl rfl 0 rfl ?_
        refine r_aload_n (n := 72) hX dX1_costOrNone_71 rfl rfl 1 rfl ?_
        refine r_aload_n (n := 73) hX dX1_costOrNone_72 rfl rfl 1 rfl ?_
        refine r_get (n := 76) hX 3 rfl rfl rfl 2 (by decide) lay_X7 fl_X1_40 rfl dX1_costOrNone_73 rfl ?_
        refine r_iload (n := 78) hX dX1_costOrNone_76 rfl 6 rfl ?_
        refine r_ialdNn (n := 79) (i := r) hX 6 rfl rfl (by omega) (by decide) dX1_costOrNone_78 rfl ?_
        refine r_aload_n (n := 80) hX dX1_costOrNone_79 rfl rfl 1 rfl ?_
        refine r_get (n := 83) hX 3 rfl rfl rfl 3 (by decide) lay_X7 fl_X1_43 rfl dX1_costOrNone_80 rfl ?_
        refine r_iload (n := 85) hX dX1_costOrNone_83 rfl 6 rfl ?_
        refine r_ialdNn (n := 86) (i := r) hX 7 rfl rfl (by omega) (by decide) dX1_costOrNone_85 rfl ?_
        refine r_iload_n (n := 87) hX dX1_costOrNone_86 rfl rfl 3 rfl ?_
        refine r_iload (n := 89) hX dX1_costOrNone_87 rfl 4 rfl ?_
        refine r_callV (n := 92) (av := [.ref tx, .int (nI (s.2.2.1 r)), .int (nI (s.2.2.2.1 r)), .int (nI p), .int (nI h)]) hX (ct_X1_valueOf (CxL X) (CxD X) ju j0 j1 tx x0 x1 x2 x3 x4 x5 s v k1 (s.2.2.1 r) (s.2.2.2.1 r) p h (by first | exact (ht.2 _).1 | exact (ht.2 _).2.1 | exact (ht.2 _).2.2) (by first | exact (ht.2 _).1 | exact (ht.2 _).2.1 | exact (ht.2 _).2.2) hp hh) ml_X1_46 cv_X1_valueOf rfl (by decide) [0, 1, 2, 3, 4, 5, 6, 7, 8, 9] rfl rfl (by decide) 0 rfl rfl rfl rfl rfl (Nat.le_of_ble_eq_true rfl) dX1_costOrNone_89 rfl (fun r_ es_ h_ l_ => ?_)
        obtain ⟨rfl, rfl⟩ := h_
        show Aw X [ju, j0, j1, tx, x0, x1, x2, x3, x4, x5] [ob 1 [.ref j0, .ref j1], aI (CxD X) 312 v, aI (CxD X) 64 ((jRun s.1 v p h (s.2.2.1 r) (s.2.2.2.1 r) k1).1), ob 7 [.ref x0, .ref x1, .ref x2, .ref x3, .ref x4, .ref x5, .int (nI (txSize s)), .int (nI (txRules s)), .int (nI (txTraits s))], aI (CxD X) 600 s.1, aZ (CxD X) 20 (zf s.2.1), aI (CxD X) 20 (nf s.2.2.1), aI (CxD X) 20 (nf s.2.2.2.1), aI (CxD X) 20 (nf s.2.2.2.2.1), aJ (CxD X) 8 s.2.2.2.2.2.1] 92 [(0, .ref ju), (1, .ref tx), (2, .int te), (3, .int (nI p)), (4, .int (nI h)), (5, .int z.1), (6, .int (nI r))] [.int (jVal s.1 v p h (s.2.2.1 r) (s.2.2.2.1 r) k1), .int z.1]
        generalize hk2 : (jRun s.1 v p h (s.2.2.1 r) (s.2.2.2.1 r) k1).1 = k2
        refine r_iadd (n := 93) hX dX1_costOrNone_92 rfl ?_
        refine r_istore (n := 95) hX [(0, .ref ju), (1, .ref tx), (2, .int te), (3, .int (nI p)), (4, .int (nI h)), (5, .int (z.1 + (jVal s.1 v p h (s.2.2.1 r) (s.2.2.2.1 r) k1))), (6, .int (nI r))] dX1_costOrNone_93 rfl (by decide) rfl ?_
        refine r_iinc (n := 98) hX (nI (r + 1)) [(0, .ref ju), (1, .ref tx), (2, .int te), (3, .int (nI p)), (4, .int (nI h)), (5, .int (z.1 + (jVal s.1 v p h (s.2.2.1 r) (s.2.2.2.1 r) k1))), (6, .int (nI (r + 1)))] dX1_costOrNone_95 rfl 6 rfl (nI_add _ _) (by decide) rfl ?_
        refine r_goto (tgt := 29) hX dX1_costOrNone_98 (by decide) ?_
        exact ih (r + 1) (z.1 + (jVal s.1 v p h (s.2.2.1 r) (s.2.2.2.1 r) k1), k2) (by omega) (by subst hk2; subst hk1; rw [← he]; conv => rhs; rw [jSum, if_neg (by rw [c52]; decide), if_pos c65])
set_option maxHeartbeats 1000000 in
set_option maxRecDepth 100000 in
theorem wk_X1_costOrNone {X : Cx} (hX : Ok X cX1_costOrNone 7 RX1 5) (ju j0 j1 : Nat) (tx x0 x1 x2 x3 x4 x5 : Nat) (s : TX) (v k : Nat → Int32) (te : Int32) (p h : Nat) (ht : txOk s) (hp : p < 12) (hh : h < 12) (hR : Rt X (some FieldType.int) (fun r_ es' => r_ = some (.int (eo (jCost s v te p h k))) ∧ es' = [ob 1 [.ref j0, .ref j1], aI (CxD X) 312 v, aI (CxD X) 64 (jCostK s v te p h k), ob 7 [.ref x0, .ref x1, .ref x2, .ref x3, .ref x4, .ref x5, .int (nI (txSize s)), .int (nI (txRules s)), .int (nI (txTraits s))], aI (CxD X) 600 s.1, aZ (CxD X) 20 (zf s.2.1), aI (CxD X) 20 (nf s.2.2.1), aI (CxD X) 20 (nf s.2.2.2.1), aI (CxD X) 20 (nf s.2.2.2.2.1), aJ (CxD X) 8 s.2.2.2.2.2.1]) [ju, j0, j1, tx, x0, x1, x2, x3, x4, x5]) : Aw X [ju, j0, j1, tx, x0, x1, x2, x3, x4, x5] [ob 1 [.ref j0, .ref j1], aI (CxD X) 312 v, aI (CxD X) 64 k, ob 7 [.ref x0, .ref x1, .ref x2, .ref x3, .ref x4, .ref x5, .int (nI (txSize s)), .int (nI (txRules s)), .int (nI (txTraits s))], aI (CxD X) 600 s.1, aZ (CxD X) 20 (zf s.2.1), aI (CxD X) 20 (nf s.2.2.1), aI (CxD X) 20 (nf s.2.2.2.1), aI (CxD X) 20 (nf s.2.2.2.2.1), aJ (CxD X) 8 s.2.2.2.2.2.1] 0 [(0, .ref ju), (1, .ref tx), (2, .int te), (3, .int (nI p)), (4, .int (nI h))] [] := by
  refine r_aload_n (n := 1) hX dX1_costOrNone_0 rfl rfl 0 rfl ?_
  refine r_aload_n (n := 2) hX dX1_costOrNone_1 rfl rfl 1 rfl ?_
  refine r_iload_n (n := 3) hX dX1_costOrNone_2 rfl rfl 2 rfl ?_
  refine r_iload_n (n := 4) hX dX1_costOrNone_3 rfl rfl 3 rfl ?_
  refine r_iload (n := 6) hX dX1_costOrNone_4 rfl 4 rfl ?_
  refine r_callV (n := 9) (av := [.ref tx, .int te, .int (nI p), .int (nI h)]) hX (ct_X1_reason (CxL X) (CxD X) ju j0 j1 tx x0 x1 x2 x3 x4 x5 s v k te p h ht hp hh) ml_X1_36 cv_X1_reason rfl (by decide) [0, 1, 2, 3, 4, 5, 6, 7, 8, 9] rfl rfl (by decide) 0 rfl rfl rfl rfl rfl (Nat.le_of_ble_eq_true rfl) dX1_costOrNone_6 rfl (fun r_ es_ h_ l_ => ?_)
  obtain ⟨rfl, rfl⟩ := h_
  show Aw X [ju, j0, j1, tx, x0, x1, x2, x3, x4, x5] [ob 1 [.ref j0, .ref j1], aI (CxD X) 312 v, aI (CxD X) 64 ((jWhy s v te p h k).2), ob 7 [.ref x0, .ref x1, .ref x2, .ref x3, .ref x4, .ref x5, .int (nI (txSize s)), .int (nI (txRules s)), .int (nI (txTraits s))], aI (CxD X) 600 s.1, aZ (CxD X) 20 (zf s.2.1), aI (CxD X) 20 (nf s.2.2.1), aI (CxD X) 20 (nf s.2.2.2.1), aI (CxD X) 20 (nf s.2.2.2.2.1), aJ (CxD X) 8 s.2.2.2.2.2.1] 9 [(0, .ref ju), (1, .ref tx), (2, .int te), (3, .int (nI p)), (4, .int (nI h))] [.int (nI ((jWhy s v te p h k).1))]
  refine r_if_eq_n (tgt := 14) (n := 12) hX ((jWhy s v te p h k).1) (Nat.lt_of_le_of_lt (jWhy_le ht.1) (by decide)) dX1_costOrNone_9 (by decide) rfl (fun c9 => ?_) (fun c9 => ?_)
  · skip
    refine r_aload_n (n := 15) hX dX1_costOrNone_14 rfl rfl 0 rfl ?_
    refine r_iload_n (n := 16) hX dX1_costOrNone_15 rfl rfl 3 rfl ?_
    refine r_bipush (n := 18) hX 14 dX1_costOrNone_16 rfl rfl ?_
    refine r_iload (n := 20) hX dX1_costOrNone_18 rfl 4 rfl ?_
    refine r_iadd (n := 21) hX dX1_costOrNone_20 rfl ?_
    refine Aw.topi (nI (14 + h)) (nI_add _ _) ?_
    refine r_callV (n := 24) (av := [.int (nI p), .int (nI (14 + h))]) hX (ct_X1_fact (CxL X) (CxD X) ju j0 j1 v ((jWhy s v te p h k).2) p (14 + h) (by omega) (by omega)) ml_X1_18 cv_X1_fact rfl (by decide) [0, 1, 2] rfl rfl (by decide) 0 rfl rfl rfl rfl rfl (Nat.le_of_ble_eq_true rfl) dX1_costOrNone_21 rfl (fun r_ es_ h_ l_ => ?_)
    obtain ⟨rfl, rfl⟩ := h_
    show Aw X [ju, j0, j1, tx, x0, x1, x2, x3, x4, x5] [ob 1 [.ref j0, .ref j1], aI (CxD X) 312 v, aI (CxD X) 64 ((jWhy s v te p h k).2), ob 7 [.ref x0, .ref x1, .ref x2, .ref x3, .ref x4, .ref x5, .int (nI (txSize s)), .int (nI (txRules s)), .int (nI (txTraits s))], aI (CxD X) 600 s.1, aZ (CxD X) 20 (zf s.2.1), aI (CxD X) 20 (nf s.2.2.1), aI (CxD X) 20 (nf s.2.2.2.1), aI (CxD X) 20 (nf s.2.2.2.2.1), aJ (CxD X) 8 s.2.2.2.2.2.1] 24 [(0, .ref ju), (1, .ref tx), (2, .int te), (3, .int (nI p)), (4, .int (nI h))] [.int (jFact v p (14 + h))]
    refine r_istore (n := 26) hX [(0, .ref ju), (1, .ref tx), (2, .int te), (3, .int (nI p)), (4, .int (nI h)), (5, .int (jFact v p (14 + h)))] dX1_costOrNone_24 rfl (by decide) rfl ?_
    refine r_iconst (n := 27) hX 0 dX1_costOrNone_26 rfl rfl ?_
    refine r_istore (n := 29) hX [(0, .ref ju), (1, .ref tx), (2, .int te), (3, .int (nI p)), (4, .int (nI h)), (5, .int (jFact v p (14 + h))), (6, .int 0)] dX1_costOrNone_27 rfl (by decide) rfl ?_
    exact lp_X1_cost hX ju j0 j1 tx x0 x1 x2 x3 x4 x5 s v k te p h ht hp hh c9 hR (txRules s) 0 (jFact v p (14 + h), (jWhy s v te p h k).2) (by omega) rfl
  · skip
    refine r_iconst (n := 13) hX (-1) dX1_costOrNone_12 rfl rfl ?_
    exact r_ireturn hX hR dX1_costOrNone_13 (by rw [jCost, jCostK, if_neg c9, if_neg c9]; exact ⟨rfl, rfl⟩)
theorem ct_X1_costOrNone (l : Launch) (D : va_G) (ju j0 j1 : Nat) (tx x0 x1 x2 x3 x4 x5 : Nat) (s : TX) (v k : Nat → Int32) (te : Int32) (p h : Nat) (ht : txOk s) (hp : p < 12) (hh : h < 12) : Ct l D m_X1_costOrNone 5 [.ref ju, .ref tx, .int te, .int (nI p), .int (nI h)] [ju, j0, j1, tx, x0, x1, x2, x3, x4, x5] [ob 1 [.ref j0, .ref j1], aI D 312 v, aI D 64 k, ob 7 [.ref x0, .ref x1, .ref x2, .ref x3, .ref x4, .ref x5, .int (nI (txSize s)), .int (nI (txRules s)), .int (nI (txTraits s))], aI D 600 s.1, aZ D 20 (zf s.2.1), aI D 20 (nf s.2.2.1), aI D 20 (nf s.2.2.2.1), aI D 20 (nf s.2.2.2.2.1), aJ D 8 s.2.2.2.2.2.1] (fun r_ es' => r_ = some (.int (eo (jCost s v te p h k))) ∧ es' = [ob 1 [.ref j0, .ref j1], aI D 312 v, aI D 64 (jCostK s v te p h k), ob 7 [.ref x0, .ref x1, .ref x2, .ref x3, .ref x4, .ref x5, .int (nI (txSize s)), .int (nI (txRules s)), .int (nI (txTraits s))], aI D 600 s.1, aZ D 20 (zf s.2.1), aI D 20 (nf s.2.2.1), aI D 20 (nf s.2.2.2.1), aI D 20 (nf s.2.2.2.2.1), aJ D 8 s.2.2.2.2.2.1]) :=
  Ct.ofA (own := RX1) (by decide) rfl (Nat.le_of_ble_eq_true rfl) rfl (fun X hl hD hX hR => by subst hl; subst hD; exact wk_X1_costOrNone hX ju j0 j1 tx x0 x1 x2 x3 x4 x5 s v k te p h ht hp hh hR)
