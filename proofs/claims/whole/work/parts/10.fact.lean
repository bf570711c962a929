
theorem inc_m1 (x : Int32) : x + Int32.ofInt (-1) = x - 1 := by
  have : Int32.ofInt (-1) = -1 := by decide
  rw [this, Int32.sub_eq_add_neg]
theorem vin_of {i M : Int32} {n : Nat} (hM : M.toInt = n) (h0 : ¬ i < 0) (h1 : ¬ M ≤ i) : vp_in i n := by
  rw [vp_in_iff]
  rw [Int32.lt_iff_toInt_lt] at h0
  rw [Int32.le_iff_toInt_le] at h1
  have : (0 : Int32).toInt = 0 := rfl
  omega
/-! HostYear$Tape: bytes, length -/
abbrev TP : Type := (Nat → Int32) × Nat
def tpByteAt (s : TP) (i : Int32) : Int32 := if i < 0 ∨ nI s.2 ≤ i ∨ 3000 ≤ i then -1 else s.1 i.toNatClampNeg &&& 255
def tbyte (x sh : Int32) : Int32 := vp_nar .byte (Int32.toInt8 (x >>> (sh &&& 31))).toInt32
def tpAppend (s : TP) (x : Int32) : TP := (upd (upd (upd (upd s.1 s.2 (tbyte x 24)) (s.2 + 1) (tbyte x 16)) (s.2 + 2) (tbyte x 8)) (s.2 + 3) (tbyte x 0), s.2 + 4)
/-! HostYear$FactBook: cell, value, told, size -/
abbrev FB : Type := (Nat → Int32) × (Nat → Int32) × (Nat → Int32) × Nat
def fbAdd (s : FB) (c v d : Int32) : Int32 × FB := if s.2.2.2 < 400 then (nI s.2.2.2, upd s.1 s.2.2.2 c, upd s.2.1 s.2.2.2 v, upd s.2.2.1 s.2.2.2 d, s.2.2.2 + 1) else (-1, s)
def fbLatest (s : FB) (w day : Int32) : Nat → Int32
  | 0 => 0
  | k + 1 => if s.1 k = w ∧ s.2.2.1 k ≤ day then s.2.1 k else fbLatest s w day k
def zfill (v : Nat → Int32) (m : Nat) : Nat → Int32 := fun j => if j < m then 0 else v j
theorem zfill_0 (v : Nat → Int32) : zfill v 0 = v := by funext j; simp [zfill]
theorem zfill_s (v : Nat → Int32) (m : Nat) : upd (zfill v m) m 0 = zfill v (m + 1) := by
  funext j
  simp only [upd, zfill]
  by_cases h : j = m
  · subst h; simp
  · simp only [h, if_false]
    by_cases h2 : j < m
    · simp [h2, Nat.lt_succ_of_lt h2]
    · have : ¬ j < m + 1 := by omega
      simp [h2, this]
def fbPut (s : FB) (i : Nat) (v : Nat → Int32) : Nat → Int32 := if s.1 i < 0 ∨ 312 ≤ s.1 i then v else upd v (s.1 i).toNatClampNeg (s.2.1 i)
def fbFill (s : FB) (day : Int32) : Nat → Nat → (Nat → Int32) → (Nat → Int32)
  | 0, _, v => v
  | m + 1, i, v => if s.2.2.1 i ≤ day then fbFill s day m (i + 1) (fbPut s i v) else v

set_option maxHeartbeats 4000000 in
set_option maxRecDepth 100000 in
theorem wk_X6_byteAt {X : Cx} (hX : Ok X cX6_byteAt 2 RX6 0) (tp tb : Nat) (s : TP) (i : Int32)  (hR : Rt X (some FieldType.int) (fun r es' => r = some (.int (tpByteAt s i)) ∧ es' = [ob 6 [.ref tb, .int (nI s.2)], aB (CxD X) 3000 s.1]) [tp, tb]) : Aw X [tp, tb] [ob 6 [.ref tb, .int (nI s.2)], aB (CxD X) 3000 s.1] 0 [(0, .ref tp), (1, .int i)] [] := by
  refine r_iload_n (n := 1) hX dX6_byteAt_0 rfl rfl 1 rfl ?_
  refine r_if_lt (tgt := 19) (n := 4) hX dX6_byteAt_1 (by decide) rfl (fun c1 => ?_) (fun c1 => ?_)
  · skip
    refine r_iconst (n := 20) hX (-1) dX6_byteAt_19 rfl rfl ?_
    refine r_goto (tgt := 33) hX dX6_byteAt_20 (by decide) ?_
    exact r_ireturn hX hR dX6_byteAt_33 ⟨by congr 2; unfold tpByteAt; simp [*], rfl⟩
  · skip
    refine r_iload_n (n := 5) hX dX6_byteAt_4 rfl rfl 1 rfl ?_
    refine r_aload_n (n := 6) hX dX6_byteAt_5 rfl rfl 0 rfl ?_
    refine r_get (n := 9) hX 0 rfl rfl rfl 1 (by decide) lay_X6 fl_X6_15 rfl dX6_byteAt_6 rfl ?_
    refine r_icmp_ge (tgt := 19) (n := 12) hX dX6_byteAt_9 (by decide) rfl (fun c9 => ?_) (fun c9 => ?_)
    · skip
      refine r_iconst (n := 20) hX (-1) dX6_byteAt_19 rfl rfl ?_
      refine r_goto (tgt := 33) hX dX6_byteAt_20 (by decide) ?_
      exact r_ireturn hX hR dX6_byteAt_33 ⟨by congr 2; unfold tpByteAt; simp [*], rfl⟩
    · skip
      refine r_iload_n (n := 13) hX dX6_byteAt_12 rfl rfl 1 rfl ?_
      refine r_sipush (n := 16) hX 3000 dX6_byteAt_13 rfl rfl ?_
      refine r_icmp_lt (tgt := 23) (n := 19) hX dX6_byteAt_16 (by decide) rfl (fun c16 => ?_) (fun c16 => ?_)
      · skip
        refine r_aload_n (n := 24) hX dX6_byteAt_23 rfl rfl 0 rfl ?_
        refine r_get (n := 27) hX 0 rfl rfl rfl 0 (by decide) lay_X6 fl_X6_9 rfl dX6_byteAt_24 rfl ?_
        refine r_iload_n (n := 28) hX dX6_byteAt_27 rfl rfl 1 rfl ?_
        refine r_bald (n := 29) hX 1 rfl rfl (vin_of (M := 3000) rfl c1 (by rw [Int32.not_le]; assumption)) dX6_byteAt_28 rfl ?_
        refine r_sipush (n := 32) hX 255 dX6_byteAt_29 rfl rfl ?_
        refine r_iand (n := 33) hX dX6_byteAt_32 rfl ?_
        exact r_ireturn hX hR dX6_byteAt_33 ⟨by congr 2; unfold tpByteAt; simp [*], rfl⟩
      · skip
        refine r_iconst (n := 20) hX (-1) dX6_byteAt_19 rfl rfl ?_
        refine r_goto (tgt := 33) hX dX6_byteAt_20 (by decide) ?_
        exact r_ireturn hX hR dX6_byteAt_33 ⟨by congr 2; unfold tpByteAt; simp [*], rfl⟩
theorem ct_X6_byteAt (l : Launch) (D : va_G) (tp tb : Nat) (s : TP) (i : Int32)  : Ct l D m_X6_byteAt 0 [.ref tp, .int i] [tp, tb] [ob 6 [.ref tb, .int (nI s.2)], aB D 3000 s.1] (fun r es' => r = some (.int (tpByteAt s i)) ∧ es' = [ob 6 [.ref tb, .int (nI s.2)], aB D 3000 s.1]) :=
  Ct.ofA (own := RX6) (by decide) rfl (Nat.le_of_ble_eq_true rfl) rfl (fun X hl hD hX hR => by subst hl; subst hD; exact wk_X6_byteAt hX tp tb s i hR)
set_option maxHeartbeats 4000000 in
set_option maxRecDepth 100000 in
theorem wk_X6_append {X : Cx} (hX : Ok X cX6_append 3 RX6 0) (tp tb : Nat) (s : TP) (x : Int32) (hn : s.2 + 4 ≤ 3000) (hR : Rt X (none) (fun r es' => r = none ∧ es' = [ob 6 [.ref tb, .int (nI ((tpAppend s x).2))], aB (CxD X) 3000 ((tpAppend s x).1)]) [tp, tb]) : Aw X [tp, tb] [ob 6 [.ref tb, .int (nI s.2)], aB (CxD X) 3000 s.1] 0 [(0, .ref tp), (1, .int x)] [] := by
  refine r_bipush (n := 2) hX 24 dX6_append_0 rfl rfl ?_
  refine r_istore_n (n := 3) hX [(0, .ref tp), (1, .int x), (2, .int 24)] dX6_append_2 rfl rfl (by decide) rfl ?_
  refine r_iload_n (n := 4) hX dX6_append_3 rfl rfl 2 rfl ?_
  refine r_if_lt (tgt := 46) (n := 7) hX dX6_append_4 (by decide) rfl (fun h => absurd h (by decide)) (fun _ => ?_)
  refine r_aload_n (n := 8) hX dX6_append_7 rfl rfl 0 rfl ?_
  refine r_get (n := 11) hX 0 rfl rfl rfl 1 (by decide) lay_X6 fl_X6_15 rfl dX6_append_8 rfl ?_
  refine r_sipush (n := 14) hX 3000 dX6_append_11 rfl rfl ?_
  refine r_icmp_ge_n (tgt := 46) (n := 17) hX s.2 3000 (by omega) (by omega) dX6_append_14 (by decide) rfl (fun c14 => absurd c14 (by omega)) (fun c14 => ?_)
  refine r_aload_n (n := 18) hX dX6_append_17 rfl rfl 0 rfl ?_
  refine r_get (n := 21) hX 0 rfl rfl rfl 0 (by decide) lay_X6 fl_X6_9 rfl dX6_append_18 rfl ?_
  refine r_aload_n (n := 22) hX dX6_append_21 rfl rfl 0 rfl ?_
  refine r_get (n := 25) hX 0 rfl rfl rfl 1 (by decide) lay_X6 fl_X6_15 rfl dX6_append_22 rfl ?_
  refine r_iload_n (n := 26) hX dX6_append_25 rfl rfl 1 rfl ?_
  refine r_iload_n (n := 27) hX dX6_append_26 rfl rfl 2 rfl ?_
  refine r_ishr (n := 28) hX dX6_append_27 rfl ?_
  refine r_i2b (n := 29) hX dX6_append_28 rfl ?_
  refine r_bastn (n := 30) (i := s.2) hX 1 rfl rfl [ob 6 [.ref tb, .int (nI s.2)], aB (CxD X) 3000 (upd s.1 s.2 (vp_nar .byte ((Int32.toInt8 (x >>> (24 &&& 31))).toInt32)))] (by omega) (by decide) rfl dX6_append_29 rfl ?_
  refine r_aload_n (n := 31) hX dX6_append_30 rfl rfl 0 rfl ?_
  refine r_dup (n := 32) hX dX6_append_31 rfl rfl ?_
  refine r_get (n := 35) hX 0 rfl rfl rfl 1 (by decide) lay_X6 fl_X6_15 rfl dX6_append_32 rfl ?_
  refine r_iconst (n := 36) hX 1 dX6_append_35 rfl rfl ?_
  refine r_iadd (n := 37) hX dX6_append_36 rfl ?_
  refine Aw.topi (nI (s.2 + 1)) (nI_add _ _) ?_
  refine r_put (n := 40) hX 0 rfl rfl rfl 1 [ob 6 [.ref tb, .int (nI (s.2 + 1))], aB (CxD X) 3000 (upd s.1 s.2 (vp_nar .byte ((Int32.toInt8 (x >>> (24 &&& 31))).toInt32)))] (by decide) lay_X6 tyX6 tyX6_ok nmX6 fl_X6_15 rfl rfl rfl (Nat.le_of_ble_eq_true rfl) rfl dX6_append_37 rfl ?_
  refine r_iinc (n := 43) hX 16 [(0, .ref tp), (1, .int x), (2, .int 16)] dX6_append_40 rfl 2 rfl (by decide) (by decide) rfl ?_
  refine r_goto (tgt := 3) hX dX6_append_43 (by decide) ?_
  refine r_iload_n (n := 4) hX dX6_append_3 rfl rfl 2 rfl ?_
  refine r_if_lt (tgt := 46) (n := 7) hX dX6_append_4 (by decide) rfl (fun h => absurd h (by decide)) (fun _ => ?_)
  refine r_aload_n (n := 8) hX dX6_append_7 rfl rfl 0 rfl ?_
  refine r_get (n := 11) hX 0 rfl rfl rfl 1 (by decide) lay_X6 fl_X6_15 rfl dX6_append_8 rfl ?_
  refine r_sipush (n := 14) hX 3000 dX6_append_11 rfl rfl ?_
  refine r_icmp_ge_n (tgt := 46) (n := 17) hX (s.2 + 1) 3000 (by omega) (by omega) dX6_append_14 (by decide) rfl (fun c14 => absurd c14 (by omega)) (fun c14 => ?_)
  refine r_aload_n (n := 18) hX dX6_append_17 rfl rfl 0 rfl ?_
  refine r_get (n := 21) hX 0 rfl rfl rfl 0 (by decide) lay_X6 fl_X6_9 rfl dX6_append_18 rfl ?_
  refine r_aload_n (n := 22) hX dX6_append_21 rfl rfl 0 rfl ?_
  refine r_get (n := 25) hX 0 rfl rfl rfl 1 (by decide) lay_X6 fl_X6_15 rfl dX6_append_22 rfl ?_
  refine r_iload_n (n := 26) hX dX6_append_25 rfl rfl 1 rfl ?_
  refine r_iload_n (n := 27) hX dX6_append_26 rfl rfl 2 rfl ?_
  refine r_ishr (n := 28) hX dX6_append_27 rfl ?_
  refine r_i2b (n := 29) hX dX6_append_28 rfl ?_
  refine r_bastn (n := 30) (i := (s.2 + 1)) hX 1 rfl rfl [ob 6 [.ref tb, .int (nI (s.2 + 1))], aB (CxD X) 3000 (upd (upd s.1 s.2 (vp_nar .byte ((Int32.toInt8 (x >>> (24 &&& 31))).toInt32))) (s.2 + 1) (vp_nar .byte ((Int32.toInt8 (x >>> (16 &&& 31))).toInt32)))] (by omega) (by decide) rfl dX6_append_29 rfl ?_
  refine r_aload_n (n := 31) hX dX6_append_30 rfl rfl 0 rfl ?_
  refine r_dup (n := 32) hX dX6_append_31 rfl rfl ?_
  refine r_get (n := 35) hX 0 rfl rfl rfl 1 (by decide) lay_X6 fl_X6_15 rfl dX6_append_32 rfl ?_
  refine r_iconst (n := 36) hX 1 dX6_append_35 rfl rfl ?_
  refine r_iadd (n := 37) hX dX6_append_36 rfl ?_
  refine Aw.topi (nI ((s.2 + 1) + 1)) (nI_add _ _) ?_
  refine r_put (n := 40) hX 0 rfl rfl rfl 1 [ob 6 [.ref tb, .int (nI ((s.2 + 1) + 1))], aB (CxD X) 3000 (upd (upd s.1 s.2 (vp_nar .byte ((Int32.toInt8 (x >>> (24 &&& 31))).toInt32))) (s.2 + 1) (vp_nar .byte ((Int32.toInt8 (x >>> (16 &&& 31))).toInt32)))] (by decide) lay_X6 tyX6 tyX6_ok nmX6 fl_X6_15 rfl rfl rfl (Nat.le_of_ble_eq_true rfl) rfl dX6_append_37 rfl ?_
  refine r_iinc (n := 43) hX 8 [(0, .ref tp), (1, .int x), (2, .int 8)] dX6_append_40 rfl 2 rfl (by decide) (by decide) rfl ?_
  refine r_goto (tgt := 3) hX dX6_append_43 (by decide) ?_
  refine r_iload_n (n := 4) hX dX6_append_3 rfl rfl 2 rfl ?_
  refine r_if_lt (tgt := 46) (n := 7) hX dX6_append_4 (by decide) rfl (fun h => absurd h (by decide)) (fun _ => ?_)
  refine r_aload_n (n := 8) hX dX6_append_7 rfl rfl 0 rfl ?_
  refine r_get (n := 11) hX 0 rfl rfl rfl 1 (by decide) lay_X6 fl_X6_15 rfl dX6_append_8 rfl ?_
  refine r_sipush (n := 14) hX 3000 dX6_append_11 rfl rfl ?_
  refine r_icmp_ge_n (tgt := 46) (n := 17) hX ((s.2 + 1) + 1) 3000 (by omega) (by omega) dX6_append_14 (by decide) rfl (fun c14 => absurd c14 (by omega)) (fun c14 => ?_)
  refine r_aload_n (n := 18) hX dX6_append_17 rfl rfl 0 rfl ?_
  refine r_get (n := 21) hX 0 rfl rfl rfl 0 (by decide) lay_X6 fl_X6_9 rfl dX6_append_18 rfl ?_
  refine r_aload_n (n := 22) hX dX6_append_21 rfl rfl 0 rfl ?_
  refine r_get (n := 25) hX 0 rfl rfl rfl 1 (by decide) lay_X6 fl_X6_15 rfl dX6_append_22 rfl ?_
  refine r_iload_n (n := 26) hX dX6_append_25 rfl rfl 1 rfl ?_
  refine r_iload_n (n := 27) hX dX6_append_26 rfl rfl 2 rfl ?_
  refine r_ishr (n := 28) hX dX6_append_27 rfl ?_
  refine r_i2b (n := 29) hX dX6_append_28 rfl ?_
  refine r_bastn (n := 30) (i := ((s.2 + 1) + 1)) hX 1 rfl rfl [ob 6 [.ref tb, .int (nI ((s.2 + 1) + 1))], aB (CxD X) 3000 (upd (upd (upd s.1 s.2 (vp_nar .byte ((Int32.toInt8 (x >>> (24 &&& 31))).toInt32))) (s.2 + 1) (vp_nar .byte ((Int32.toInt8 (x >>> (16 &&& 31))).toInt32))) ((s.2 + 1) + 1) (vp_nar .byte ((Int32.toInt8 (x >>> (8 &&& 31))).toInt32)))] (by omega) (by decide) rfl dX6_append_29 rfl ?_
  refine r_aload_n (n := 31) hX dX6_append_30 rfl rfl 0 rfl ?_
  refine r_dup (n := 32) hX dX6_append_31 rfl rfl ?_
  refine r_get (n := 35) hX 0 rfl rfl rfl 1 (by decide) lay_X6 fl_X6_15 rfl dX6_append_32 rfl ?_
  refine r_iconst (n := 36) hX 1 dX6_append_35 rfl rfl ?_
  refine r_iadd (n := 37) hX dX6_append_36 rfl ?_
  refine Aw.topi (nI (((s.2 + 1) + 1) + 1)) (nI_add _ _) ?_
  refine r_put (n := 40) hX 0 rfl rfl rfl 1 [ob 6 [.ref tb, .int (nI (((s.2 + 1) + 1) + 1))], aB (CxD X) 3000 (upd (upd (upd s.1 s.2 (vp_nar .byte ((Int32.toInt8 (x >>> (24 &&& 31))).toInt32))) (s.2 + 1) (vp_nar .byte ((Int32.toInt8 (x >>> (16 &&& 31))).toInt32))) ((s.2 + 1) + 1) (vp_nar .byte ((Int32.toInt8 (x >>> (8 &&& 31))).toInt32)))] (by decide) lay_X6 tyX6 tyX6_ok nmX6 fl_X6_15 rfl rfl rfl (Nat.le_of_ble_eq_true rfl) rfl dX6_append_37 rfl ?_
  refine r_iinc (n := 43) hX 0 [(0, .ref tp), (1, .int x), (2, .int 0)] dX6_append_40 rfl 2 rfl (by decide) (by decide) rfl ?_
  refine r_goto (tgt := 3) hX dX6_append_43 (by decide) ?_
  refine r_iload_n (n := 4) hX dX6_append_3 rfl rfl 2 rfl ?_
  refine r_if_lt (tgt := 46) (n := 7) hX dX6_append_4 (by decide) rfl (fun h => absurd h (by decide)) (fun _ => ?_)
  refine r_aload_n (n := 8) hX dX6_append_7 rfl rfl 0 rfl ?_
  refine r_get (n := 11) hX 0 rfl rfl rfl 1 (by decide) lay_X6 fl_X6_15 rfl dX6_append_8 rfl ?_
  refine r_sipush (n := 14) hX 3000 dX6_append_11 rfl rfl ?_
  refine r_icmp_ge_n (tgt := 46) (n := 17) hX (((s.2 + 1) + 1) + 1) 3000 (by omega) (by omega) dX6_append_14 (by decide) rfl (fun c14 => absurd c14 (by omega)) (fun c14 => ?_)
  refine r_aload_n (n := 18) hX dX6_append_17 rfl rfl 0 rfl ?_
  refine r_get (n := 21) hX 0 rfl rfl rfl 0 (by decide) lay_X6 fl_X6_9 rfl dX6_append_18 rfl ?_
  refine r_aload_n (n := 22) hX dX6_append_21 rfl rfl 0 rfl ?_
  refine r_get (n := 25) hX 0 rfl rfl rfl 1 (by decide) lay_X6 fl_X6_15 rfl dX6_append_22 rfl ?_
  refine r_iload_n (n := 26) hX dX6_append_25 rfl rfl 1 rfl ?_
  refine r_iload_n (n := 27) hX dX6_append_26 rfl rfl 2 rfl ?_
  refine r_ishr (n := 28) hX dX6_append_27 rfl ?_
  refine r_i2b (n := 29) hX dX6_append_28 rfl ?_
  refine r_bastn (n := 30) (i := (((s.2 + 1) + 1) + 1)) hX 1 rfl rfl [ob 6 [.ref tb, .int (nI (((s.2 + 1) + 1) + 1))], aB (CxD X) 3000 (upd (upd (upd (upd s.1 s.2 (vp_nar .byte ((Int32.toInt8 (x >>> (24 &&& 31))).toInt32))) (s.2 + 1) (vp_nar .byte ((Int32.toInt8 (x >>> (16 &&& 31))).toInt32))) ((s.2 + 1) + 1) (vp_nar .byte ((Int32.toInt8 (x >>> (8 &&& 31))).toInt32))) (((s.2 + 1) + 1) + 1) (vp_nar .byte ((Int32.toInt8 (x >>> (0 &&& 31))).toInt32)))] (by omega) (by decide) rfl dX6_append_29 rfl ?_
  refine r_aload_n (n := 31) hX dX6_append_30 rfl rfl 0 rfl ?_
  refine r_dup (n := 32) hX dX6_append_31 rfl rfl ?_
  refine r_get (n := 35) hX 0 rfl rfl rfl 1 (by decide) lay_X6 fl_X6_15 rfl dX6_append_32 rfl ?_
  refine r_iconst (n := 36) hX 1 dX6_append_35 rfl rfl ?_
  refine r_iadd (n := 37) hX dX6_append_36 rfl ?_
  refine Aw.topi (nI ((((s.2 + 1) + 1) + 1) + 1)) (nI_add _ _) ?_
  refine r_put (n := 40) hX 0 rfl rfl rfl 1 [ob 6 [.ref tb, .int (nI ((((s.2 + 1) + 1) + 1) + 1))], aB (CxD X) 3000 (upd (upd (upd (upd s.1 s.2 (vp_nar .byte ((Int32.toInt8 (x >>> (24 &&& 31))).toInt32))) (s.2 + 1) (vp_nar .byte ((Int32.toInt8 (x >>> (16 &&& 31))).toInt32))) ((s.2 + 1) + 1) (vp_nar .byte ((Int32.toInt8 (x >>> (8 &&& 31))).toInt32))) (((s.2 + 1) + 1) + 1) (vp_nar .byte ((Int32.toInt8 (x >>> (0 &&& 31))).toInt32)))] (by decide) lay_X6 tyX6 tyX6_ok nmX6 fl_X6_15 rfl rfl rfl (Nat.le_of_ble_eq_true rfl) rfl dX6_append_37 rfl ?_
  refine r_iinc (n := 43) hX (-8) [(0, .ref tp), (1, .int x), (2, .int (-8))] dX6_append_40 rfl 2 rfl (by decide) (by decide) rfl ?_
  refine r_goto (tgt := 3) hX dX6_append_43 (by decide) ?_
  refine r_iload_n (n := 4) hX dX6_append_3 rfl rfl 2 rfl ?_
  refine r_if_lt (tgt := 46) (n := 7) hX dX6_append_4 (by decide) rfl (fun _ => ?_) (fun h => absurd (by decide) h)
  exact r_return hX hR dX6_append_46 ⟨rfl, rfl⟩
theorem ct_X6_append (l : Launch) (D : va_G) (tp tb : Nat) (s : TP) (x : Int32) (hn : s.2 + 4 ≤ 3000) : Ct l D m_X6_append 0 [.ref tp, .int x] [tp, tb] [ob 6 [.ref tb, .int (nI s.2)], aB D 3000 s.1] (fun r es' => r = none ∧ es' = [ob 6 [.ref tb, .int (nI ((tpAppend s x).2))], aB D 3000 ((tpAppend s x).1)]) :=
  Ct.ofA (own := RX6) (by decide) rfl (Nat.le_of_ble_eq_true rfl) rfl (fun X hl hD hX hR => by subst hl; subst hD; exact wk_X6_append hX tp tb s x hn hR)
set_option maxHeartbeats 4000000 in
set_option maxRecDepth 100000 in
theorem wk_X0_add {X : Cx} (hX : Ok X cX0_add 4 RX0 0) (fb f0 f1 f2 : Nat) (s : FB) (c v dy : Int32) (hn : s.2.2.2 ≤ 400) (hR : Rt X (some FieldType.int) (fun r es' => r = some (.int (fbAdd s c v dy).1) ∧ es' = [ob 0 [.ref f0, .ref f1, .ref f2, .int (nI ((fbAdd s c v dy).2.2.2.2))], aI (CxD X) 400 ((fbAdd s c v dy).2.1), aI (CxD X) 400 ((fbAdd s c v dy).2.2.1), aI (CxD X) 400 ((fbAdd s c v dy).2.2.2.1)]) [fb, f0, f1, f2]) : Aw X [fb, f0, f1, f2] [ob 0 [.ref f0, .ref f1, .ref f2, .int (nI s.2.2.2)], aI (CxD X) 400 s.1, aI (CxD X) 400 s.2.1, aI (CxD X) 400 s.2.2.1] 0 [(0, .ref fb), (1, .int c), (2, .int v), (3, .int dy)] [] := by
  refine r_aload_n (n := 1) hX dX0_add_0 rfl rfl 0 rfl ?_
  refine r_get (n := 4) hX 0 rfl rfl rfl 3 (by decide) lay_X0 fl_X0_21 rfl dX0_add_1 rfl ?_
  refine r_sipush (n := 7) hX 400 dX0_add_4 rfl rfl ?_
  refine r_icmp_lt_n (tgt := 12) (n := 10) hX s.2.2.2 400 (by omega) (by omega) dX0_add_7 (by decide) rfl (fun c7 => ?_) (fun c7 => ?_)
  · skip
    refine r_aload_n (n := 13) hX dX0_add_12 rfl rfl 0 rfl ?_
    refine r_get (n := 16) hX 0 rfl rfl rfl 0 (by decide) lay_X0 fl_X0_9 rfl dX0_add_13 rfl ?_
    refine r_aload_n (n := 17) hX dX0_add_16 rfl rfl 0 rfl ?_
    refine r_get (n := 20) hX 0 rfl rfl rfl 3 (by decide) lay_X0 fl_X0_21 rfl dX0_add_17 rfl ?_
    refine r_iload_n (n := 21) hX dX0_add_20 rfl rfl 1 rfl ?_
    refine r_iastn (n := 22) (i := s.2.2.2) hX 1 rfl rfl [ob 0 [.ref f0, .ref f1, .ref f2, .int (nI s.2.2.2)], aI (CxD X) 400 (upd s.1 s.2.2.2 c), aI (CxD X) 400 s.2.1, aI (CxD X) 400 s.2.2.1] (by omega) (by decide) rfl dX0_add_21 rfl ?_
    refine r_aload_n (n := 23) hX dX0_add_22 rfl rfl 0 rfl ?_
    refine r_get (n := 26) hX 0 rfl rfl rfl 1 (by decide) lay_X0 fl_X0_15 rfl dX0_add_23 rfl ?_
    refine r_aload_n (n := 27) hX dX0_add_26 rfl rfl 0 rfl ?_
    refine r_get (n := 30) hX 0 rfl rfl rfl 3 (by decide) lay_X0 fl_X0_21 rfl dX0_add_27 rfl ?_
    refine r_iload_n (n := 31) hX dX0_add_30 rfl rfl 2 rfl ?_
    refine r_iastn (n := 32) (i := s.2.2.2) hX 2 rfl rfl [ob 0 [.ref f0, .ref f1, .ref f2, .int (nI s.2.2.2)], aI (CxD X) 400 (upd s.1 s.2.2.2 c), aI (CxD X) 400 (upd s.2.1 s.2.2.2 v), aI (CxD X) 400 s.2.2.1] (by omega) (by decide) rfl dX0_add_31 rfl ?_
    refine r_aload_n (n := 33) hX dX0_add_32 rfl rfl 0 rfl ?_
    refine r_get (n := 36) hX 0 rfl rfl rfl 2 (by decide) lay_X0 fl_X0_18 rfl dX0_add_33 rfl ?_
    refine r_aload_n (n := 37) hX dX0_add_36 rfl rfl 0 rfl ?_
    refine r_get (n := 40) hX 0 rfl rfl rfl 3 (by decide) lay_X0 fl_X0_21 rfl dX0_add_37 rfl ?_
    refine r_iload_n (n := 41) hX dX0_add_40 rfl rfl 3 rfl ?_
    refine r_iastn (n := 42) (i := s.2.2.2) hX 3 rfl rfl [ob 0 [.ref f0, .ref f1, .ref f2, .int (nI s.2.2.2)], aI (CxD X) 400 (upd s.1 s.2.2.2 c), aI (CxD X) 400 (upd s.2.1 s.2.2.2 v), aI (CxD X) 400 (upd s.2.2.1 s.2.2.2 dy)] (by omega) (by decide) rfl dX0_add_41 rfl ?_
    refine r_aload_n (n := 43) hX dX0_add_42 rfl rfl 0 rfl ?_
    refine r_dup (n := 44) hX dX0_add_43 rfl rfl ?_
    refine r_get (n := 47) hX 0 rfl rfl rfl 3 (by decide) lay_X0 fl_X0_21 rfl dX0_add_44 rfl ?_
    refine r_iconst (n := 48) hX 1 dX0_add_47 rfl rfl ?_
    refine r_iadd (n := 49) hX dX0_add_48 rfl ?_
    refine Aw.topi (nI (s.2.2.2 + 1)) (nI_add _ _) ?_
    refine r_put (n := 52) hX 0 rfl rfl rfl 3 [ob 0 [.ref f0, .ref f1, .ref f2, .int (nI (s.2.2.2 + 1))], aI (CxD X) 400 (upd s.1 s.2.2.2 c), aI (CxD X) 400 (upd s.2.1 s.2.2.2 v), aI (CxD X) 400 (upd s.2.2.1 s.2.2.2 dy)] (by decide) lay_X0 tyX0 tyX0_ok nmX0 fl_X0_21 rfl rfl rfl (Nat.le_of_ble_eq_true rfl) rfl dX0_add_49 rfl ?_
    refine r_aload_n (n := 53) hX dX0_add_52 rfl rfl 0 rfl ?_
    refine r_get (n := 56) hX 0 rfl rfl rfl 3 (by decide) lay_X0 fl_X0_21 rfl dX0_add_53 rfl ?_
    refine r_iconst (n := 57) hX 1 dX0_add_56 rfl rfl ?_
    refine r_isub (n := 58) hX dX0_add_57 rfl ?_
    refine Aw.topi (nI s.2.2.2) (nI_pred _) ?_
    exact r_ireturn hX hR dX0_add_58 (by simp [fbAdd, c7])
  · skip
    refine r_iconst (n := 11) hX (-1) dX0_add_10 rfl rfl ?_
    exact r_ireturn hX hR dX0_add_11 (by simp [fbAdd, Nat.not_lt.mpr c7])
theorem ct_X0_add (l : Launch) (D : va_G) (fb f0 f1 f2 : Nat) (s : FB) (c v dy : Int32) (hn : s.2.2.2 ≤ 400) : Ct l D m_X0_add 0 [.ref fb, .int c, .int v, .int dy] [fb, f0, f1, f2] [ob 0 [.ref f0, .ref f1, .ref f2, .int (nI s.2.2.2)], aI D 400 s.1, aI D 400 s.2.1, aI D 400 s.2.2.1] (fun r es' => r = some (.int (fbAdd s c v dy).1) ∧ es' = [ob 0 [.ref f0, .ref f1, .ref f2, .int (nI ((fbAdd s c v dy).2.2.2.2))], aI D 400 ((fbAdd s c v dy).2.1), aI D 400 ((fbAdd s c v dy).2.2.1), aI D 400 ((fbAdd s c v dy).2.2.2.1)]) :=
  Ct.ofA (own := RX0) (by decide) rfl (Nat.le_of_ble_eq_true rfl) rfl (fun X hl hD hX hR => by subst hl; subst hD; exact wk_X0_add hX fb f0 f1 f2 s c v dy hn hR)
set_option maxHeartbeats 4000000 in
set_option maxRecDepth 100000 in
theorem lp_X0_latest {X : Cx} (hX : Ok X cX0_latest 4 RX0 0) (fb f0 f1 f2 : Nat) (s : FB) (w dy : Int32) (hn : s.2.2.2 ≤ 400) (hR : Rt X (some FieldType.int) (fun r es' => r = some (.int (fbLatest s w dy s.2.2.2)) ∧ es' = [ob 0 [.ref f0, .ref f1, .ref f2, .int (nI s.2.2.2)], aI (CxD X) 400 s.1, aI (CxD X) 400 s.2.1, aI (CxD X) 400 s.2.2.1]) [fb, f0, f1, f2]) : ∀ k : Nat, k ≤ s.2.2.2 → fbLatest s w dy k = fbLatest s w dy s.2.2.2 → Aw X [fb, f0, f1, f2] [ob 0 [.ref f0, .ref f1, .ref f2, .int (nI s.2.2.2)], aI (CxD X) 400 s.1, aI (CxD X) 400 s.2.1, aI (CxD X) 400 s.2.2.1] 7 [(0, .ref fb), (1, .int w), (2, .int dy), (3, .int (nI k - 1))] [] := by
  intro k
  induction k with
  | zero =>
    intro hk he
    refine r_iload_n (n := 8) hX dX0_latest_7 rfl rfl 3 rfl ?_
    refine r_if_lt (tgt := 44) (n := 11) hX dX0_latest_8 (by decide) rfl (fun c8 => ?_) (fun c8 => absurd c8 (by decide))
    refine r_iconst (n := 45) hX 0 dX0_latest_44 rfl rfl ?_
    exact r_ireturn hX hR dX0_latest_45 (by rw [← he]; exact ⟨rfl, rfl⟩)
  | succ k ih =>
    intro hk he
    refine Aw.eqs (lv' := [(0, .ref fb), (1, .int w), (2, .int dy), (3, .int (nI k))]) rfl (by rw [nI_pred]) rfl ?_
    refine r_iload_n (n := 8) hX dX0_latest_7 rfl rfl 3 rfl ?_
    refine r_iflt_n (n := 11) (tgt := 44) hX (by omega) dX0_latest_8 rfl (by decide) ?_
    refine r_aload_n (n := 12) hX dX0_latest_11 rfl rfl 0 rfl ?_
    refine r_get (n := 15) hX 0 rfl rfl rfl 0 (by decide) lay_X0 fl_X0_9 rfl dX0_latest_12 rfl ?_
    refine r_iload_n (n := 16) hX dX0_latest_15 rfl rfl 3 rfl ?_
    refine r_ialdn (n := 17) (i := k) hX 1 rfl rfl (by omega) (by decide) dX0_latest_16 rfl ?_
    refine r_iload_n (n := 18) hX dX0_latest_17 rfl rfl 1 rfl ?_
    refine r_icmp_ne (tgt := 38) (n := 21) hX dX0_latest_18 (by decide) rfl (fun c18 => ?_) (fun c18 => ?_)
    · have he2 : fbLatest s w dy k = fbLatest s w dy s.2.2.2 := by rw [← he]; simp [fbLatest, c18]
      refine r_iinc (n := 41) hX (nI k - 1) [(0, .ref fb), (1, .int w), (2, .int dy), (3, .int (nI k - 1))] dX0_latest_38 rfl 3 rfl (inc_m1 _) (by decide) rfl ?_
      refine r_goto (tgt := 7) hX dX0_latest_41 (by decide) ?_
      exact ih (by omega) he2
    · skip
      refine r_aload_n (n := 22) hX dX0_latest_21 rfl rfl 0 rfl ?_
      refine r_get (n := 25) hX 0 rfl rfl rfl 2 (by decide) lay_X0 fl_X0_18 rfl dX0_latest_22 rfl ?_
      refine r_iload_n (n := 26) hX dX0_latest_25 rfl rfl 3 rfl ?_
      refine r_ialdn (n := 27) (i := k) hX 3 rfl rfl (by omega) (by decide) dX0_latest_26 rfl ?_
      refine r_iload_n (n := 28) hX dX0_latest_27 rfl rfl 2 rfl ?_
      refine r_icmp_gt (tgt := 38) (n := 31) hX dX0_latest_28 (by decide) rfl (fun c28 => ?_) (fun c28 => ?_)
      · have he2 : fbLatest s w dy k = fbLatest s w dy s.2.2.2 := by rw [← he]; simp [fbLatest, Int32.not_le.mpr c28]
        refine r_iinc (n := 41) hX (nI k - 1) [(0, .ref fb), (1, .int w), (2, .int dy), (3, .int (nI k - 1))] dX0_latest_38 rfl 3 rfl (inc_m1 _) (by decide) rfl ?_
        refine r_goto (tgt := 7) hX dX0_latest_41 (by decide) ?_
        exact ih (by omega) he2
      · have c28 := Int32.not_lt.mp c28
        refine r_aload_n (n := 32) hX dX0_latest_31 rfl rfl 0 rfl ?_
        refine r_get (n := 35) hX 0 rfl rfl rfl 1 (by decide) lay_X0 fl_X0_15 rfl dX0_latest_32 rfl ?_
        refine r_iload_n (n := 36) hX dX0_latest_35 rfl rfl 3 rfl ?_
        refine r_ialdn (n := 37) (i := k) hX 2 rfl rfl (by omega) (by decide) dX0_latest_36 rfl ?_
        exact r_ireturn hX hR dX0_latest_37 (by rw [← he]; simp [fbLatest, *])
set_option maxHeartbeats 4000000 in
set_option maxRecDepth 100000 in
theorem wk_X0_latest {X : Cx} (hX : Ok X cX0_latest 4 RX0 0) (fb f0 f1 f2 : Nat) (s : FB) (w dy : Int32) (hn : s.2.2.2 ≤ 400) (hR : Rt X (some FieldType.int) (fun r es' => r = some (.int (fbLatest s w dy s.2.2.2)) ∧ es' = [ob 0 [.ref f0, .ref f1, .ref f2, .int (nI s.2.2.2)], aI (CxD X) 400 s.1, aI (CxD X) 400 s.2.1, aI (CxD X) 400 s.2.2.1]) [fb, f0, f1, f2]) : Aw X [fb, f0, f1, f2] [ob 0 [.ref f0, .ref f1, .ref f2, .int (nI s.2.2.2)], aI (CxD X) 400 s.1, aI (CxD X) 400 s.2.1, aI (CxD X) 400 s.2.2.1] 0 [(0, .ref fb), (1, .int w), (2, .int dy)] [] := by
  refine r_aload_n (n := 1) hX dX0_latest_0 rfl rfl 0 rfl ?_
  refine r_get (n := 4) hX 0 rfl rfl rfl 3 (by decide) lay_X0 fl_X0_21 rfl dX0_latest_1 rfl ?_
  refine r_iconst (n := 5) hX 1 dX0_latest_4 rfl rfl ?_
  refine r_isub (n := 6) hX dX0_latest_5 rfl ?_
  refine r_istore_n (n := 7) hX [(0, .ref fb), (1, .int w), (2, .int dy), (3, .int ((nI s.2.2.2) - 1))] dX0_latest_6 rfl rfl (by decide) rfl ?_
  exact lp_X0_latest hX fb f0 f1 f2 s w dy hn hR s.2.2.2 (Nat.le_refl _) rfl
theorem ct_X0_latest (l : Launch) (D : va_G) (fb f0 f1 f2 : Nat) (s : FB) (w dy : Int32) (hn : s.2.2.2 ≤ 400) : Ct l D m_X0_latest 0 [.ref fb, .int w, .int dy] [fb, f0, f1, f2] [ob 0 [.ref f0, .ref f1, .ref f2, .int (nI s.2.2.2)], aI D 400 s.1, aI D 400 s.2.1, aI D 400 s.2.2.1] (fun r es' => r = some (.int (fbLatest s w dy s.2.2.2)) ∧ es' = [ob 0 [.ref f0, .ref f1, .ref f2, .int (nI s.2.2.2)], aI D 400 s.1, aI D 400 s.2.1, aI D 400 s.2.2.1]) :=
  Ct.ofA (own := RX0) (by decide) rfl (Nat.le_of_ble_eq_true rfl) rfl (fun X hl hD hX hR => by subst hl; subst hD; exact wk_X0_latest hX fb f0 f1 f2 s w dy hn hR)
set_option maxHeartbeats 4000000 in
set_option maxRecDepth 100000 in
theorem lp_X0_fill2 {X : Cx} (hX : Ok X cX0_fill 4 RX0 0) (fb f0 f1 f2 vw : Nat) (s : FB) (v : Nat → Int32) (dy : Int32) (hn : s.2.2.2 ≤ 400) (hR : Rt X (none) (fun r es' => r = none ∧ es' = [ob 0 [.ref f0, .ref f1, .ref f2, .int (nI s.2.2.2)], aI (CxD X) 400 s.1, aI (CxD X) 400 s.2.1, aI (CxD X) 400 s.2.2.1, aI (CxD X) 312 (fbFill s dy s.2.2.2 0 (zfill v 312))]) [fb, f0, f1, f2, vw]) : ∀ (m i : Nat) (u : Nat → Int32), i + m = s.2.2.2 → fbFill s dy m i u = fbFill s dy s.2.2.2 0 (zfill v 312) → Aw X [fb, f0, f1, f2, vw] [ob 0 [.ref f0, .ref f1, .ref f2, .int (nI s.2.2.2)], aI (CxD X) 400 s.1, aI (CxD X) 400 s.2.1, aI (CxD X) 400 s.2.2.1, aI (CxD X) 312 u] 20 [(0, .ref fb), (1, .ref vw), (2, .int dy), (3, .int (nI i))] [] := by
  intro m
  induction m with
  | zero =>
    intro i u hi he
    refine r_iload_n (n := 21) hX dX0_fill_20 rfl rfl 3 rfl ?_
    refine r_aload_n (n := 22) hX dX0_fill_21 rfl rfl 0 rfl ?_
    refine r_get (n := 25) hX 0 rfl rfl rfl 3 (by decide) lay_X0 fl_X0_21 rfl dX0_fill_22 rfl ?_
    refine r_icmp_ge_n (tgt := 78) (n := 28) hX i s.2.2.2 (by omega) (by omega) dX0_fill_25 (by decide) rfl (fun c25 => ?_) (fun c25 => absurd c25 (by omega))
    exact r_return hX hR dX0_fill_78 ⟨rfl, by simp only [fbFill] at he; rw [he]⟩
  | succ m ih =>
    intro i u hi he
    refine r_iload_n (n := 21) hX dX0_fill_20 rfl rfl 3 rfl ?_
    refine r_aload_n (n := 22) hX dX0_fill_21 rfl rfl 0 rfl ?_
    refine r_get (n := 25) hX 0 rfl rfl rfl 3 (by decide) lay_X0 fl_X0_21 rfl dX0_fill_22 rfl ?_
    refine r_icmp_ge_n (tgt := 78) (n := 28) hX i s.2.2.2 (by omega) (by omega) dX0_fill_25 (by decide) rfl (fun c25 => absurd c25 (by omega)) (fun c25 => ?_)
    refine r_aload_n (n := 29) hX dX0_fill_28 rfl rfl 0 rfl ?_
    refine r_get (n := 32) hX 0 rfl rfl rfl 2 (by decide) lay_X0 fl_X0_18 rfl dX0_fill_29 rfl ?_
    refine r_iload_n (n := 33) hX dX0_fill_32 rfl rfl 3 rfl ?_
    refine r_ialdn (n := 34) (i := i) hX 3 rfl rfl (by omega) (by decide) dX0_fill_33 rfl ?_
    refine r_iload_n (n := 35) hX dX0_fill_34 rfl rfl 2 rfl ?_
    refine r_icmp_gt (tgt := 78) (n := 38) hX dX0_fill_35 (by decide) rfl (fun c35 => ?_) (fun c35 => ?_)
    · have hc : ¬ s.2.2.1 i ≤ dy := Int32.not_le.mpr c35
      exact r_return hX hR dX0_fill_78 ⟨rfl, by simp only [fbFill, hc, if_false] at he; rw [he]⟩
    · have hc : s.2.2.1 i ≤ dy := Int32.not_lt.mp c35
      refine r_aload_n (n := 39) hX dX0_fill_38 rfl rfl 0 rfl ?_
      refine r_get (n := 42) hX 0 rfl rfl rfl 0 (by decide) lay_X0 fl_X0_9 rfl dX0_fill_39 rfl ?_
      refine r_iload_n (n := 43) hX dX0_fill_42 rfl rfl 3 rfl ?_
      refine r_ialdn (n := 44) (i := i) hX 1 rfl rfl (by omega) (by decide) dX0_fill_43 rfl ?_
      refine r_if_lt (tgt := 72) (n := 47) hX dX0_fill_44 (by decide) rfl (fun c44 => ?_) (fun c44 => ?_)
      · have hp : fbPut s i u = u := by simp [fbPut, c44]
        refine r_iinc (n := 75) hX (nI (i + 1)) [(0, .ref fb), (1, .ref vw), (2, .int dy), (3, .int (nI (i + 1)))] dX0_fill_72 rfl 3 rfl (nI_add _ _) (by decide) rfl ?_
        refine r_goto (tgt := 20) hX dX0_fill_75 (by decide) ?_
        refine ih (i + 1) _ (by omega) ?_
        rw [← he]
        simp only [fbFill, hc, if_true, hp]
      · skip
        refine r_aload_n (n := 48) hX dX0_fill_47 rfl rfl 0 rfl ?_
        refine r_get (n := 51) hX 0 rfl rfl rfl 0 (by decide) lay_X0 fl_X0_9 rfl dX0_fill_48 rfl ?_
        refine r_iload_n (n := 52) hX dX0_fill_51 rfl rfl 3 rfl ?_
        refine r_ialdn (n := 53) (i := i) hX 1 rfl rfl (by omega) (by decide) dX0_fill_52 rfl ?_
        refine r_aload_n (n := 54) hX dX0_fill_53 rfl rfl 1 rfl ?_
        refine r_alen (n := 55) hX 4 rfl rfl 0 rfl 312 rfl dX0_fill_54 rfl ?_
        refine r_icmp_ge (tgt := 72) (n := 58) hX dX0_fill_55 (by decide) rfl (fun c55 => ?_) (fun c55 => ?_)
        · have hp : fbPut s i u = u := by simp [fbPut, c55]
          refine r_iinc (n := 75) hX (nI (i + 1)) [(0, .ref fb), (1, .ref vw), (2, .int dy), (3, .int (nI (i + 1)))] dX0_fill_72 rfl 3 rfl (nI_add _ _) (by decide) rfl ?_
          refine r_goto (tgt := 20) hX dX0_fill_75 (by decide) ?_
          refine ih (i + 1) _ (by omega) ?_
          rw [← he]
          simp only [fbFill, hc, if_true, hp]
        · have hp : fbPut s i u = upd u (s.1 i).toNatClampNeg (s.2.1 i) := by simp [fbPut, c44, c55]
          refine r_aload_n (n := 59) hX dX0_fill_58 rfl rfl 1 rfl ?_
          refine r_aload_n (n := 60) hX dX0_fill_59 rfl rfl 0 rfl ?_
          refine r_get (n := 63) hX 0 rfl rfl rfl 0 (by decide) lay_X0 fl_X0_9 rfl dX0_fill_60 rfl ?_
          refine r_iload_n (n := 64) hX dX0_fill_63 rfl rfl 3 rfl ?_
          refine r_ialdn (n := 65) (i := i) hX 1 rfl rfl (by omega) (by decide) dX0_fill_64 rfl ?_
          refine r_aload_n (n := 66) hX dX0_fill_65 rfl rfl 0 rfl ?_
          refine r_get (n := 69) hX 0 rfl rfl rfl 1 (by decide) lay_X0 fl_X0_15 rfl dX0_fill_66 rfl ?_
          refine r_iload_n (n := 70) hX dX0_fill_69 rfl rfl 3 rfl ?_
          refine r_ialdn (n := 71) (i := i) hX 2 rfl rfl (by omega) (by decide) dX0_fill_70 rfl ?_
          refine r_iast (n := 72) hX 4 rfl rfl [ob 0 [.ref f0, .ref f1, .ref f2, .int (nI s.2.2.2)], aI (CxD X) 400 s.1, aI (CxD X) 400 s.2.1, aI (CxD X) 400 s.2.2.1, aI (CxD X) 312 (upd u (Int32.toNatClampNeg (s.1 i)) (s.2.1 i))] (vin_of (M := 312) rfl c44 c55) rfl dX0_fill_71 rfl ?_
          refine r_iinc (n := 75) hX (nI (i + 1)) [(0, .ref fb), (1, .ref vw), (2, .int dy), (3, .int (nI (i + 1)))] dX0_fill_72 rfl 3 rfl (nI_add _ _) (by decide) rfl ?_
          refine r_goto (tgt := 20) hX dX0_fill_75 (by decide) ?_
          refine ih (i + 1) _ (by omega) ?_
          rw [← he]
          simp only [fbFill, hc, if_true, hp]
set_option maxHeartbeats 4000000 in
set_option maxRecDepth 100000 in
theorem lp_X0_fill1 {X : Cx} (hX : Ok X cX0_fill 4 RX0 0) (fb f0 f1 f2 vw : Nat) (s : FB) (v : Nat → Int32) (dy : Int32) (hn : s.2.2.2 ≤ 400) (hR : Rt X (none) (fun r es' => r = none ∧ es' = [ob 0 [.ref f0, .ref f1, .ref f2, .int (nI s.2.2.2)], aI (CxD X) 400 s.1, aI (CxD X) 400 s.2.1, aI (CxD X) 400 s.2.2.1, aI (CxD X) 312 (fbFill s dy s.2.2.2 0 (zfill v 312))]) [fb, f0, f1, f2, vw]) : ∀ (m j : Nat), j + m = 312 → Aw X [fb, f0, f1, f2, vw] [ob 0 [.ref f0, .ref f1, .ref f2, .int (nI s.2.2.2)], aI (CxD X) 400 s.1, aI (CxD X) 400 s.2.1, aI (CxD X) 400 s.2.2.1, aI (CxD X) 312 (zfill v j)] 2 [(0, .ref fb), (1, .ref vw), (2, .int dy), (3, .int (nI j))] [] := by
  intro m
  induction m with
  | zero =>
    intro j hj
    refine r_iload_n (n := 3) hX dX0_fill_2 rfl rfl 3 rfl ?_
    refine r_aload_n (n := 4) hX dX0_fill_3 rfl rfl 1 rfl ?_
    refine r_alen (n := 5) hX 4 rfl rfl 0 rfl 312 rfl dX0_fill_4 rfl ?_
    refine r_icmp_ge_n (tgt := 18) (n := 8) hX j 312 (by omega) (by omega) dX0_fill_5 (by decide) rfl (fun c5 => ?_) (fun c5 => absurd c5 (by omega))
    refine r_iconst (n := 19) hX 0 dX0_fill_18 rfl rfl ?_
    refine r_istore_n (n := 20) hX [(0, .ref fb), (1, .ref vw), (2, .int dy), (3, .int 0)] dX0_fill_19 rfl rfl (by decide) rfl ?_
    exact lp_X0_fill2 hX fb f0 f1 f2 vw s v dy hn hR s.2.2.2 0 _ (by omega) (by rw [show j = 312 by omega])
  | succ m ih =>
    intro j hj
    refine r_iload_n (n := 3) hX dX0_fill_2 rfl rfl 3 rfl ?_
    refine r_aload_n (n := 4) hX dX0_fill_3 rfl rfl 1 rfl ?_
    refine r_alen (n := 5) hX 4 rfl rfl 0 rfl 312 rfl dX0_fill_4 rfl ?_
    refine r_icmp_ge_n (tgt := 18) (n := 8) hX j 312 (by omega) (by omega) dX0_fill_5 (by decide) rfl (fun c5 => absurd c5 (by omega)) (fun c5 => ?_)
    refine r_aload_n (n := 9) hX dX0_fill_8 rfl rfl 1 rfl ?_
    refine r_iload_n (n := 10) hX dX0_fill_9 rfl rfl 3 rfl ?_
    refine r_iconst (n := 11) hX 0 dX0_fill_10 rfl rfl ?_
    refine r_iastn (n := 12) (i := j) hX 4 rfl rfl [ob 0 [.ref f0, .ref f1, .ref f2, .int (nI s.2.2.2)], aI (CxD X) 400 s.1, aI (CxD X) 400 s.2.1, aI (CxD X) 400 s.2.2.1, aI (CxD X) 312 (upd (zfill v j) j 0)] (by omega) (by decide) rfl dX0_fill_11 rfl ?_
    refine Aw.eqs (es' := [ob 0 [.ref f0, .ref f1, .ref f2, .int (nI s.2.2.2)], aI (CxD X) 400 s.1, aI (CxD X) 400 s.2.1, aI (CxD X) 400 s.2.2.1, aI (CxD X) 312 (zfill v (j + 1))]) (by rw [zfill_s]) rfl rfl ?_
    refine r_iinc (n := 15) hX (nI (j + 1)) [(0, .ref fb), (1, .ref vw), (2, .int dy), (3, .int (nI (j + 1)))] dX0_fill_12 rfl 3 rfl (nI_add _ _) (by decide) rfl ?_
    refine r_goto (tgt := 2) hX dX0_fill_15 (by decide) ?_
    exact ih (j + 1) (by omega)
set_option maxHeartbeats 4000000 in
set_option maxRecDepth 100000 in
theorem wk_X0_fill {X : Cx} (hX : Ok X cX0_fill 4 RX0 0) (fb f0 f1 f2 vw : Nat) (s : FB) (v : Nat → Int32) (dy : Int32) (hn : s.2.2.2 ≤ 400) (hR : Rt X (none) (fun r es' => r = none ∧ es' = [ob 0 [.ref f0, .ref f1, .ref f2, .int (nI s.2.2.2)], aI (CxD X) 400 s.1, aI (CxD X) 400 s.2.1, aI (CxD X) 400 s.2.2.1, aI (CxD X) 312 (fbFill s dy s.2.2.2 0 (zfill v 312))]) [fb, f0, f1, f2, vw]) : Aw X [fb, f0, f1, f2, vw] [ob 0 [.ref f0, .ref f1, .ref f2, .int (nI s.2.2.2)], aI (CxD X) 400 s.1, aI (CxD X) 400 s.2.1, aI (CxD X) 400 s.2.2.1, aI (CxD X) 312 v] 0 [(0, .ref fb), (1, .ref vw), (2, .int dy)] [] := by
  refine r_iconst (n := 1) hX 0 dX0_fill_0 rfl rfl ?_
  refine r_istore_n (n := 2) hX [(0, .ref fb), (1, .ref vw), (2, .int dy), (3, .int 0)] dX0_fill_1 rfl rfl (by decide) rfl ?_
  refine Aw.eqs (es' := [ob 0 [.ref f0, .ref f1, .ref f2, .int (nI s.2.2.2)], aI (CxD X) 400 s.1, aI (CxD X) 400 s.2.1, aI (CxD X) 400 s.2.2.1, aI (CxD X) 312 (zfill v 0)]) (by rw [zfill_0]) rfl rfl ?_
  exact lp_X0_fill1 hX fb f0 f1 f2 vw s v dy hn hR 312 0 (by omega)
theorem ct_X0_fill (l : Launch) (D : va_G) (fb f0 f1 f2 vw : Nat) (s : FB) (v : Nat → Int32) (dy : Int32) (hn : s.2.2.2 ≤ 400) : Ct l D m_X0_fill 0 [.ref fb, .ref vw, .int dy] [fb, f0, f1, f2, vw] [ob 0 [.ref f0, .ref f1, .ref f2, .int (nI s.2.2.2)], aI D 400 s.1, aI D 400 s.2.1, aI D 400 s.2.2.1, aI D 312 v] (fun r es' => r = none ∧ es' = [ob 0 [.ref f0, .ref f1, .ref f2, .int (nI s.2.2.2)], aI D 400 s.1, aI D 400 s.2.1, aI D 400 s.2.2.1, aI D 312 (fbFill s dy s.2.2.2 0 (zfill v 312))]) :=
  Ct.ofA (own := RX0) (by decide) rfl (Nat.le_of_ble_eq_true rfl) rfl (fun X hl hD hX hR => by subst hl; subst hD; exact wk_X0_fill hX fb f0 f1 f2 vw s v dy hn hR)
