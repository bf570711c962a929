
/-! HostYear itself: isAtHand, handCost, families, today, lastTerm, years -/
abbrev HS : Type := Bool × Int32 × Nat × Int32 × Int32 × Int32
abbrev hFs (h : HS) : Nat := h.2.2.1
def hFam (n : Nat) (f : Int32) : Bool := if f < 0 then false else if nI n ≤ f then false else if 12 ≤ f then false else true
def hDay (d : Int32) : Bool := if d < 0 then false else if 100000 < d then false else true
def hCol (n j : Nat) : Option Nat := if j ≤ 5 then some j else if 10 ≤ j ∧ j < 18 then some (6 + (j - 10)) else if 20 ≤ j ∧ j < 20 + n then some (14 + (j - 20)) else none
def hLeast (c : Nat) : Int32 := if 6 ≤ c ∧ c < 14 then -999 else 0
def hMost (c : Nat) : Int32 := if c ≤ 3 then 1 else if c = 4 then 100000 else if c = 5 then 1000 else if c < 14 then 999 else 9
theorem hFam_nI {n : Nat} {f : Int32} (hn : n ≤ 12) (h : hFam n f = true) : ∃ j, j < n ∧ f = nI j := by
  unfold hFam at h
  split at h
  · cases h
  · split at h
    · cases h
    · rename_i h1 h2
      obtain ⟨j, hj, e⟩ := nI_of h1
      refine ⟨j, ?_, e⟩
      rw [e] at h2
      exact Nat.lt_of_not_le fun z => h2 (nI_le z (by omega))
theorem hFam_of {n j : Nat} (hn : n ≤ 12) (h : j < n) : hFam n (nI j) = true := by
  unfold hFam
  rw [if_neg (nI_pos (by omega)), if_neg (nI_ge h (by omega)), if_neg (show ¬ (12 : Int32) ≤ nI j from nI_ge (a := j) (b := 12) (by omega) (by decide))]
theorem hCol_lt {n j c : Nat} (hn : n ≤ 12) (h : hCol n j = some c) : c < 26 := by
  unfold hCol at h
  split at h
  · cases h; omega
  · split at h
    · cases h; omega
    · split at h
      · cases h; omega
      · cases h

set_option maxHeartbeats 1000000 in
set_option maxRecDepth 100000 in
theorem wk_X10_isFamily {X : Cx} (hX : Ok X cX10_isFamily 2 RX10 0) (hy fb tp pa ju pl yr lg ha t1 t2 : Nat) (h : HS) (f : Int32)  (hR : Rt X (some FieldType.boolean) (fun r es' => r = some (.int (b2 (hFam (hFs h) f))) ∧ es' = [ob 10 [.ref fb, .ref tp, .ref pa, .ref ju, .ref pl, .ref yr, .ref lg, .ref ha, .ref t1, .ref t2, .int (b2 h.1), .int h.2.1, .int (nI (hFs h)), .int h.2.2.2.1, .int h.2.2.2.2.1, .int h.2.2.2.2.2]]) [hy]) : Aw X [hy] [ob 10 [.ref fb, .ref tp, .ref pa, .ref ju, .ref pl, .ref yr, .ref lg, .ref ha, .ref t1, .ref t2, .int (b2 h.1), .int h.2.1, .int (nI (hFs h)), .int h.2.2.2.1, .int h.2.2.2.2.1, .int h.2.2.2.2.2]] 0 [(0, .ref hy), (1, .int f)] [] := by
  refine r_iload_n (n := 1) hX dX10_isFamily_0 rfl rfl 1 rfl ?_
  refine r_if_lt (tgt := 22) (n := 4) hX dX10_isFamily_1 (by decide) rfl (fun c1 => ?_) (fun c1 => ?_)
  · skip
    refine r_iconst (n := 23) hX 0 dX10_isFamily_22 rfl rfl ?_
    exact r_zreturn hX hR rfl dX10_isFamily_23 ⟨by unfold hFam; rw [if_pos c1]; rfl, rfl⟩
  · skip
    refine r_iload_n (n := 5) hX dX10_isFamily_4 rfl rfl 1 rfl ?_
    refine r_aload_n (n := 6) hX dX10_isFamily_5 rfl rfl 0 rfl ?_
    refine r_get (n := 9) hX 0 rfl rfl rfl 12 (by decide) lay_X10 fl_X10_80 rfl dX10_isFamily_6 rfl ?_
    refine r_icmp_ge (tgt := 22) (n := 12) hX dX10_isFamily_9 (by decide) rfl (fun c9 => ?_) (fun c9 => ?_)
    · skip
      refine r_iconst (n := 23) hX 0 dX10_isFamily_22 rfl rfl ?_
      exact r_zreturn hX hR rfl dX10_isFamily_23 ⟨by unfold hFam; rw [if_neg c1, if_pos c9]; rfl, rfl⟩
    · skip
      refine r_iload_n (n := 13) hX dX10_isFamily_12 rfl rfl 1 rfl ?_
      refine r_bipush (n := 15) hX 12 dX10_isFamily_13 rfl rfl ?_
      refine r_icmp_ge (tgt := 22) (n := 18) hX dX10_isFamily_15 (by decide) rfl (fun c15 => ?_) (fun c15 => ?_)
      · skip
        refine r_iconst (n := 23) hX 0 dX10_isFamily_22 rfl rfl ?_
        exact r_zreturn hX hR rfl dX10_isFamily_23 ⟨by unfold hFam; (first | rw [if_neg c1, if_neg c9, if_pos c15] | rw [if_neg c1, if_neg c9, if_neg c15]); rfl, rfl⟩
      · skip
        refine r_iconst (n := 19) hX 1 dX10_isFamily_18 rfl rfl ?_
        refine r_goto (tgt := 23) hX dX10_isFamily_19 (by decide) ?_
        exact r_zreturn hX hR rfl dX10_isFamily_23 ⟨by unfold hFam; (first | rw [if_neg c1, if_neg c9, if_pos c15] | rw [if_neg c1, if_neg c9, if_neg c15]); rfl, rfl⟩
theorem ct_X10_isFamily (l : Launch) (D : va_G) (hy fb tp pa ju pl yr lg ha t1 t2 : Nat) (h : HS) (f : Int32)  : Ct l D m_X10_isFamily 0 [.ref hy, .int f] [hy] [ob 10 [.ref fb, .ref tp, .ref pa, .ref ju, .ref pl, .ref yr, .ref lg, .ref ha, .ref t1, .ref t2, .int (b2 h.1), .int h.2.1, .int (nI (hFs h)), .int h.2.2.2.1, .int h.2.2.2.2.1, .int h.2.2.2.2.2]] (fun r es' => r = some (.int (b2 (hFam (hFs h) f))) ∧ es' = [ob 10 [.ref fb, .ref tp, .ref pa, .ref ju, .ref pl, .ref yr, .ref lg, .ref ha, .ref t1, .ref t2, .int (b2 h.1), .int h.2.1, .int (nI (hFs h)), .int h.2.2.2.1, .int h.2.2.2.2.1, .int h.2.2.2.2.2]]) :=
  Ct.ofA (own := RX10) (by decide) rfl (Nat.le_of_ble_eq_true rfl) rfl (fun X hl hD hX hR => by subst hl; subst hD; exact wk_X10_isFamily hX hy fb tp pa ju pl yr lg ha t1 t2 h f hR)
set_option maxHeartbeats 1000000 in
set_option maxRecDepth 100000 in
theorem wk_X10_isDay {X : Cx} (hX : Ok X cX10_isDay 1 RX10 0) (dd : Int32)  (hR : Rt X (some FieldType.boolean) (fun r es' => r = some (.int (b2 (hDay dd))) ∧ es' = []) []) : Aw X [] [] 0 [(0, .int dd)] [] := by
  refine r_iload_n (n := 1) hX dX10_isDay_0 rfl rfl 0 rfl ?_
  refine r_if_lt (tgt := 14) (n := 4) hX dX10_isDay_1 (by decide) rfl (fun c1 => ?_) (fun c1 => ?_)
  · skip
    refine r_iconst (n := 15) hX 0 dX10_isDay_14 rfl rfl ?_
    exact r_zreturn hX hR rfl dX10_isDay_15 ⟨by unfold hDay; rw [if_pos c1]; rfl, rfl⟩
  · skip
    refine r_iload_n (n := 5) hX dX10_isDay_4 rfl rfl 0 rfl ?_
    refine r_ldc (n := 7) hX dX10_isDay_5 rfl kc_X10_114 ?_
    refine r_icmp_gt (tgt := 14) (n := 10) hX dX10_isDay_7 (by decide) rfl (fun c7 => ?_) (fun c7 => ?_)
    · skip
      refine r_iconst (n := 15) hX 0 dX10_isDay_14 rfl rfl ?_
      exact r_zreturn hX hR rfl dX10_isDay_15 ⟨by unfold hDay; (first | rw [if_neg c1, if_pos c7] | rw [if_neg c1, if_neg c7]); rfl, rfl⟩
    · skip
      refine r_iconst (n := 11) hX 1 dX10_isDay_10 rfl rfl ?_
      refine r_goto (tgt := 15) hX dX10_isDay_11 (by decide) ?_
      exact r_zreturn hX hR rfl dX10_isDay_15 ⟨by unfold hDay; (first | rw [if_neg c1, if_pos c7] | rw [if_neg c1, if_neg c7]); rfl, rfl⟩
theorem ct_X10_isDay (l : Launch) (D : va_G) (dd : Int32)  : Ct l D m_X10_isDay 0 [.int dd] [] [] (fun r es' => r = some (.int (b2 (hDay dd))) ∧ es' = []) :=
  Ct.ofA (own := RX10) (by decide) rfl (Nat.le_of_ble_eq_true rfl) rfl (fun X hl hD hX hR => by subst hl; subst hD; exact wk_X10_isDay hX dd hR)
set_option maxHeartbeats 1000000 in
set_option maxRecDepth 100000 in
theorem wk_textOf0 {X : Cx} (hX : Ok X cX10_textOf 2 RX10 0) (hy fb tp pa ju pl yr lg ha t1 t2 : Nat) (h : HS) (sl : Int32) (hs : sl = 0) (hR : Rt X (some (FieldType.object "HostYear$Text")) (fun r es' => r = some (.ref t1) ∧ es' = [ob 10 [.ref fb, .ref tp, .ref pa, .ref ju, .ref pl, .ref yr, .ref lg, .ref ha, .ref t1, .ref t2, .int (b2 h.1), .int h.2.1, .int (nI (hFs h)), .int h.2.2.2.1, .int h.2.2.2.2.1, .int h.2.2.2.2.2]]) [hy]) : Aw X [hy] [ob 10 [.ref fb, .ref tp, .ref pa, .ref ju, .ref pl, .ref yr, .ref lg, .ref ha, .ref t1, .ref t2, .int (b2 h.1), .int h.2.1, .int (nI (hFs h)), .int h.2.2.2.1, .int h.2.2.2.2.1, .int h.2.2.2.2.2]] 0 [(0, .ref hy), (1, .int sl)] [] := by
  refine r_iload_n (n := 1) hX dX10_textOf_0 rfl rfl 1 rfl ?_
  refine r_if_ne (tgt := 9) (n := 4) hX dX10_textOf_1 (by decide) rfl (fun c1 => absurd c1 (fun e => e hs)) (fun c1 => ?_)
  refine r_aload_n (n := 5) hX dX10_textOf_4 rfl rfl 0 rfl ?_
  refine r_get (n := 8) hX 0 rfl rfl rfl 8 (by decide) lay_X10 fl_X10_65 rfl dX10_textOf_5 rfl ?_
  exact r_areturn hX hR (Or.inl ⟨_, rfl⟩) (Or.inr ⟨_, rfl⟩) dX10_textOf_8 ⟨rfl, rfl⟩
theorem ct_textOf0 (l : Launch) (D : va_G) (hy fb tp pa ju pl yr lg ha t1 t2 : Nat) (h : HS) (sl : Int32) (hs : sl = 0) : Ct l D m_X10_textOf 0 [.ref hy, .int sl] [hy] [ob 10 [.ref fb, .ref tp, .ref pa, .ref ju, .ref pl, .ref yr, .ref lg, .ref ha, .ref t1, .ref t2, .int (b2 h.1), .int h.2.1, .int (nI (hFs h)), .int h.2.2.2.1, .int h.2.2.2.2.1, .int h.2.2.2.2.2]] (fun r es' => r = some (.ref t1) ∧ es' = [ob 10 [.ref fb, .ref tp, .ref pa, .ref ju, .ref pl, .ref yr, .ref lg, .ref ha, .ref t1, .ref t2, .int (b2 h.1), .int h.2.1, .int (nI (hFs h)), .int h.2.2.2.1, .int h.2.2.2.2.1, .int h.2.2.2.2.2]]) :=
  Ct.ofA (own := RX10) (by decide) rfl (Nat.le_of_ble_eq_true rfl) rfl (fun X hl hD hX hR => by subst hl; subst hD; exact wk_textOf0 hX hy fb tp pa ju pl yr lg ha t1 t2 h sl hs hR)
set_option maxHeartbeats 1000000 in
set_option maxRecDepth 100000 in
theorem wk_textOf1 {X : Cx} (hX : Ok X cX10_textOf 2 RX10 0) (hy fb tp pa ju pl yr lg ha t1 t2 : Nat) (h : HS) (sl : Int32) (hs : sl = 1) (hR : Rt X (some (FieldType.object "HostYear$Text")) (fun r es' => r = some (.ref t2) ∧ es' = [ob 10 [.ref fb, .ref tp, .ref pa, .ref ju, .ref pl, .ref yr, .ref lg, .ref ha, .ref t1, .ref t2, .int (b2 h.1), .int h.2.1, .int (nI (hFs h)), .int h.2.2.2.1, .int h.2.2.2.2.1, .int h.2.2.2.2.2]]) [hy]) : Aw X [hy] [ob 10 [.ref fb, .ref tp, .ref pa, .ref ju, .ref pl, .ref yr, .ref lg, .ref ha, .ref t1, .ref t2, .int (b2 h.1), .int h.2.1, .int (nI (hFs h)), .int h.2.2.2.1, .int h.2.2.2.2.1, .int h.2.2.2.2.2]] 0 [(0, .ref hy), (1, .int sl)] [] := by
  refine r_iload_n (n := 1) hX dX10_textOf_0 rfl rfl 1 rfl ?_
  refine r_if_ne (tgt := 9) (n := 4) hX dX10_textOf_1 (by decide) rfl (fun c1 => ?_) (fun c1 => absurd c1 (by rw [hs]; decide))
  refine r_iload_n (n := 10) hX dX10_textOf_9 rfl rfl 1 rfl ?_
  refine r_iconst (n := 11) hX 1 dX10_textOf_10 rfl rfl ?_
  refine r_icmp_ne (tgt := 21) (n := 14) hX dX10_textOf_11 (by decide) rfl (fun c11 => absurd c11 (fun e => e hs)) (fun c11 => ?_)
  refine r_aload_n (n := 15) hX dX10_textOf_14 rfl rfl 0 rfl ?_
  refine r_get (n := 18) hX 0 rfl rfl rfl 9 (by decide) lay_X10 fl_X10_69 rfl dX10_textOf_15 rfl ?_
  refine r_goto (tgt := 22) hX dX10_textOf_18 (by decide) ?_
  exact r_areturn hX hR (Or.inl ⟨_, rfl⟩) (Or.inr ⟨_, rfl⟩) dX10_textOf_22 ⟨rfl, rfl⟩
theorem ct_textOf1 (l : Launch) (D : va_G) (hy fb tp pa ju pl yr lg ha t1 t2 : Nat) (h : HS) (sl : Int32) (hs : sl = 1) : Ct l D m_X10_textOf 0 [.ref hy, .int sl] [hy] [ob 10 [.ref fb, .ref tp, .ref pa, .ref ju, .ref pl, .ref yr, .ref lg, .ref ha, .ref t1, .ref t2, .int (b2 h.1), .int h.2.1, .int (nI (hFs h)), .int h.2.2.2.1, .int h.2.2.2.2.1, .int h.2.2.2.2.2]] (fun r es' => r = some (.ref t2) ∧ es' = [ob 10 [.ref fb, .ref tp, .ref pa, .ref ju, .ref pl, .ref yr, .ref lg, .ref ha, .ref t1, .ref t2, .int (b2 h.1), .int h.2.1, .int (nI (hFs h)), .int h.2.2.2.1, .int h.2.2.2.2.1, .int h.2.2.2.2.2]]) :=
  Ct.ofA (own := RX10) (by decide) rfl (Nat.le_of_ble_eq_true rfl) rfl (fun X hl hD hX hR => by subst hl; subst hD; exact wk_textOf1 hX hy fb tp pa ju pl yr lg ha t1 t2 h sl hs hR)
set_option maxHeartbeats 1000000 in
set_option maxRecDepth 100000 in
theorem wk_textOfN {X : Cx} (hX : Ok X cX10_textOf 2 RX10 0) (hy fb tp pa ju pl yr lg ha t1 t2 : Nat) (h : HS) (sl : Int32) (hs : ¬ sl = 0) (hs1 : ¬ sl = 1) (hR : Rt X (some (FieldType.object "HostYear$Text")) (fun r es' => r = some (.null) ∧ es' = [ob 10 [.ref fb, .ref tp, .ref pa, .ref ju, .ref pl, .ref yr, .ref lg, .ref ha, .ref t1, .ref t2, .int (b2 h.1), .int h.2.1, .int (nI (hFs h)), .int h.2.2.2.1, .int h.2.2.2.2.1, .int h.2.2.2.2.2]]) [hy]) : Aw X [hy] [ob 10 [.ref fb, .ref tp, .ref pa, .ref ju, .ref pl, .ref yr, .ref lg, .ref ha, .ref t1, .ref t2, .int (b2 h.1), .int h.2.1, .int (nI (hFs h)), .int h.2.2.2.1, .int h.2.2.2.2.1, .int h.2.2.2.2.2]] 0 [(0, .ref hy), (1, .int sl)] [] := by
  refine r_iload_n (n := 1) hX dX10_textOf_0 rfl rfl 1 rfl ?_
  refine r_if_ne (tgt := 9) (n := 4) hX dX10_textOf_1 (by decide) rfl (fun c1 => ?_) (fun c1 => absurd c1 hs)
  refine r_iload_n (n := 10) hX dX10_textOf_9 rfl rfl 1 rfl ?_
  refine r_iconst (n := 11) hX 1 dX10_textOf_10 rfl rfl ?_
  refine r_icmp_ne (tgt := 21) (n := 14) hX dX10_textOf_11 (by decide) rfl (fun c11 => ?_) (fun c11 => absurd c11 hs1)
  refine r_null (n := 22) hX dX10_textOf_21 rfl ?_
  exact r_areturn hX hR (Or.inl ⟨_, rfl⟩) (Or.inl rfl) dX10_textOf_22 ⟨rfl, rfl⟩
theorem ct_textOfN (l : Launch) (D : va_G) (hy fb tp pa ju pl yr lg ha t1 t2 : Nat) (h : HS) (sl : Int32) (hs : ¬ sl = 0) (hs1 : ¬ sl = 1) : Ct l D m_X10_textOf 0 [.ref hy, .int sl] [hy] [ob 10 [.ref fb, .ref tp, .ref pa, .ref ju, .ref pl, .ref yr, .ref lg, .ref ha, .ref t1, .ref t2, .int (b2 h.1), .int h.2.1, .int (nI (hFs h)), .int h.2.2.2.1, .int h.2.2.2.2.1, .int h.2.2.2.2.2]] (fun r es' => r = some (.null) ∧ es' = [ob 10 [.ref fb, .ref tp, .ref pa, .ref ju, .ref pl, .ref yr, .ref lg, .ref ha, .ref t1, .ref t2, .int (b2 h.1), .int h.2.1, .int (nI (hFs h)), .int h.2.2.2.1, .int h.2.2.2.2.1, .int h.2.2.2.2.2]]) :=
  Ct.ofA (own := RX10) (by decide) rfl (Nat.le_of_ble_eq_true rfl) rfl (fun X hl hD hX hR => by subst hl; subst hD; exact wk_textOfN hX hy fb tp pa ju pl yr lg ha t1 t2 h sl hs hs1 hR)
set_option maxHeartbeats 1000000 in
set_option maxRecDepth 100000 in
theorem wk_X10_columnOf {X : Cx} (hX : Ok X cX10_columnOf 2 RX10 0) (hy fb tp pa ju pl yr lg ha t1 t2 : Nat) (h : HS) (j : Nat) (hn : hFs h ≤ 12) (hj : j < 2 ^ 31) (hR : Rt X (some FieldType.int) (fun r es' => r = some (.int (eo (hCol (hFs h) j))) ∧ es' = [ob 10 [.ref fb, .ref tp, .ref pa, .ref ju, .ref pl, .ref yr, .ref lg, .ref ha, .ref t1, .ref t2, .int (b2 h.1), .int h.2.1, .int (nI (hFs h)), .int h.2.2.2.1, .int h.2.2.2.2.1, .int h.2.2.2.2.2]]) [hy]) : Aw X [hy] [ob 10 [.ref fb, .ref tp, .ref pa, .ref ju, .ref pl, .ref yr, .ref lg, .ref ha, .ref t1, .ref t2, .int (b2 h.1), .int h.2.1, .int (nI (hFs h)), .int h.2.2.2.1, .int h.2.2.2.2.1, .int h.2.2.2.2.2]] 0 [(0, .ref hy), (1, .int (nI j))] [] := by
  refine r_iload_n (n := 1) hX dX10_columnOf_0 rfl rfl 1 rfl ?_
  refine r_iflt_n (n := 4) (tgt := 11) hX (by omega) dX10_columnOf_1 rfl (by decide) ?_
  refine r_iload_n (n := 5) hX dX10_columnOf_4 rfl rfl 1 rfl ?_
  refine r_iconst (n := 6) hX 5 dX10_columnOf_5 rfl rfl ?_
  refine r_icmp_gt_n (tgt := 11) (n := 9) hX j 5 (by omega) (by omega) dX10_columnOf_6 (by decide) rfl (fun c6 => ?_) (fun c6 => ?_)
  · skip
    refine r_iload_n (n := 12) hX dX10_columnOf_11 rfl rfl 1 rfl ?_
    refine r_bipush (n := 14) hX 10 dX10_columnOf_12 rfl rfl ?_
    refine r_icmp_lt_n (tgt := 31) (n := 17) hX j 10 (by omega) (by omega) dX10_columnOf_14 (by decide) rfl (fun c14 => ?_) (fun c14 => ?_)
    · skip
      refine r_iload_n (n := 32) hX dX10_columnOf_31 rfl rfl 1 rfl ?_
      refine r_bipush (n := 34) hX 20 dX10_columnOf_32 rfl rfl ?_
      refine r_icmp_lt_n (tgt := 56) (n := 37) hX j 20 (by omega) (by omega) dX10_columnOf_34 (by decide) rfl (fun c34 => ?_) (fun c34 => ?_)
      · skip
        refine r_iconst (n := 57) hX (-1) dX10_columnOf_56 rfl rfl ?_
        exact r_ireturn hX hR dX10_columnOf_57 ⟨by unfold hCol; rw [if_neg (Nat.not_le.mpr c6), if_neg (fun e => absurd e.1 (Nat.not_le.mpr c14)), if_neg (fun e => absurd e.1 (Nat.not_le.mpr c34))]; rfl, rfl⟩
      · skip
        refine r_iload_n (n := 38) hX dX10_columnOf_37 rfl rfl 1 rfl ?_
        refine r_bipush (n := 40) hX 20 dX10_columnOf_38 rfl rfl ?_
        refine r_aload_n (n := 41) hX dX10_columnOf_40 rfl rfl 0 rfl ?_
        refine r_get (n := 44) hX 0 rfl rfl rfl 12 (by decide) lay_X10 fl_X10_80 rfl dX10_columnOf_41 rfl ?_
        refine r_iadd (n := 45) hX dX10_columnOf_44 rfl ?_
        refine Aw.topi (nI (20 + (hFs h))) (nI_add _ _) ?_
        refine r_icmp_ge_n (tgt := 56) (n := 48) hX j (20 + (hFs h)) (by omega) (by omega) dX10_columnOf_45 (by decide) rfl (fun c45 => ?_) (fun c45 => ?_)
        · skip
          refine r_iconst (n := 57) hX (-1) dX10_columnOf_56 rfl rfl ?_
          exact r_ireturn hX hR dX10_columnOf_57 ⟨by unfold hCol; rw [if_neg (Nat.not_le.mpr c6), if_neg (fun e => absurd e.1 (Nat.not_le.mpr c14)), if_neg (fun e => absurd e.2 (Nat.not_lt.mpr c45))]; rfl, rfl⟩
        · skip
          refine r_bipush (n := 50) hX 14 dX10_columnOf_48 rfl rfl ?_
          refine r_iload_n (n := 51) hX dX10_columnOf_50 rfl rfl 1 rfl ?_
          refine r_bipush (n := 53) hX 20 dX10_columnOf_51 rfl rfl ?_
          refine r_isub (n := 54) hX dX10_columnOf_53 rfl ?_
          refine Aw.topi (nI (j - 20)) (pk_sub (a := j) (b := 20) (by omega)) ?_
          refine r_iadd (n := 55) hX dX10_columnOf_54 rfl ?_
          refine Aw.topi (nI (14 + (j - 20))) (nI_add _ _) ?_
          exact r_ireturn hX hR dX10_columnOf_55 ⟨by unfold hCol; rw [if_neg (Nat.not_le.mpr c6), if_neg (fun e => absurd e.1 (Nat.not_le.mpr c14)), if_pos ⟨c34, c45⟩]; rfl, rfl⟩
    · skip
      refine r_iload_n (n := 18) hX dX10_columnOf_17 rfl rfl 1 rfl ?_
      refine r_bipush (n := 20) hX 18 dX10_columnOf_18 rfl rfl ?_
      refine r_icmp_ge_n (tgt := 31) (n := 23) hX j 18 (by omega) (by omega) dX10_columnOf_20 (by decide) rfl (fun c20 => ?_) (fun c20 => ?_)
      · skip
        refine r_iload_n (n := 32) hX dX10_columnOf_31 rfl rfl 1 rfl ?_
        refine r_bipush (n := 34) hX 20 dX10_columnOf_32 rfl rfl ?_
        refine r_icmp_lt_n (tgt := 56) (n := 37) hX j 20 (by omega) (by omega) dX10_columnOf_34 (by decide) rfl (fun c34 => ?_) (fun c34 => ?_)
        · skip
          refine r_iconst (n := 57) hX (-1) dX10_columnOf_56 rfl rfl ?_
          exact r_ireturn hX hR dX10_columnOf_57 ⟨by unfold hCol; rw [if_neg (Nat.not_le.mpr c6), if_neg (fun e => absurd e.2 (Nat.not_lt.mpr c20)), if_neg (fun e => absurd e.1 (Nat.not_le.mpr c34))]; rfl, rfl⟩
        · skip
          refine r_iload_n (n := 38) hX dX10_columnOf_37 rfl rfl 1 rfl ?_
          refine r_bipush (n := 40) hX 20 dX10_columnOf_38 rfl rfl ?_
          refine r_aload_n (n := 41) hX dX10_columnOf_40 rfl rfl 0 rfl ?_
          refine r_get (n := 44) hX 0 rfl rfl rfl 12 (by decide) lay_X10 fl_X10_80 rfl dX10_columnOf_41 rfl ?_
          refine r_iadd (n := 45) hX dX10_columnOf_44 rfl ?_
          refine Aw.topi (nI (20 + (hFs h))) (nI_add _ _) ?_
          refine r_icmp_ge_n (tgt := 56) (n := 48) hX j (20 + (hFs h)) (by omega) (by omega) dX10_columnOf_45 (by decide) rfl (fun c45 => ?_) (fun c45 => ?_)
          · skip
            refine r_iconst (n := 57) hX (-1) dX10_columnOf_56 rfl rfl ?_
            exact r_ireturn hX hR dX10_columnOf_57 ⟨by unfold hCol; rw [if_neg (Nat.not_le.mpr c6), if_neg (fun e => absurd e.2 (Nat.not_lt.mpr c20)), if_neg (fun e => absurd e.2 (Nat.not_lt.mpr c45))]; rfl, rfl⟩
          · skip
            refine r_bipush (n := 50) hX 14 dX10_columnOf_48 rfl rfl ?_
            refine r_iload_n (n := 51) hX dX10_columnOf_50 rfl rfl 1 rfl ?_
            refine r_bipush (n := 53) hX 20 dX10_columnOf_51 rfl rfl ?_
            refine r_isub (n := 54) hX dX10_columnOf_53 rfl ?_
            refine Aw.topi (nI (j - 20)) (pk_sub (a := j) (b := 20) (by omega)) ?_
            refine r_iadd (n := 55) hX dX10_columnOf_54 rfl ?_
            refine Aw.topi (nI (14 + (j - 20))) (nI_add _ _) ?_
            exact r_ireturn hX hR dX10_columnOf_55 ⟨by unfold hCol; rw [if_neg (Nat.not_le.mpr c6), if_neg (fun e => absurd e.2 (Nat.not_lt.mpr c20)), if_pos ⟨c34, c45⟩]; rfl, rfl⟩
      · skip
        refine r_bipush (n := 25) hX 6 dX10_columnOf_23 rfl rfl ?_
        refine r_iload_n (n := 26) hX dX10_columnOf_25 rfl rfl 1 rfl ?_
        refine r_bipush (n := 28) hX 10 dX10_columnOf_26 rfl rfl ?_
        refine r_isub (n := 29) hX dX10_columnOf_28 rfl ?_
        refine Aw.topi (nI (j - 10)) (pk_sub (a := j) (b := 10) (by omega)) ?_
        refine r_iadd (n := 30) hX dX10_columnOf_29 rfl ?_
        refine Aw.topi (nI (6 + (j - 10))) (nI_add _ _) ?_
        exact r_ireturn hX hR dX10_columnOf_30 ⟨by unfold hCol; rw [if_neg (Nat.not_le.mpr c6), if_pos ⟨c14, c20⟩]; rfl, rfl⟩
  · skip
    refine r_iload_n (n := 10) hX dX10_columnOf_9 rfl rfl 1 rfl ?_
    exact r_ireturn hX hR dX10_columnOf_10 ⟨by unfold hCol; rw [if_pos c6]; rfl, rfl⟩
theorem ct_X10_columnOf (l : Launch) (D : va_G) (hy fb tp pa ju pl yr lg ha t1 t2 : Nat) (h : HS) (j : Nat) (hn : hFs h ≤ 12) (hj : j < 2 ^ 31) : Ct l D m_X10_columnOf 0 [.ref hy, .int (nI j)] [hy] [ob 10 [.ref fb, .ref tp, .ref pa, .ref ju, .ref pl, .ref yr, .ref lg, .ref ha, .ref t1, .ref t2, .int (b2 h.1), .int h.2.1, .int (nI (hFs h)), .int h.2.2.2.1, .int h.2.2.2.2.1, .int h.2.2.2.2.2]] (fun r es' => r = some (.int (eo (hCol (hFs h) j))) ∧ es' = [ob 10 [.ref fb, .ref tp, .ref pa, .ref ju, .ref pl, .ref yr, .ref lg, .ref ha, .ref t1, .ref t2, .int (b2 h.1), .int h.2.1, .int (nI (hFs h)), .int h.2.2.2.1, .int h.2.2.2.2.1, .int h.2.2.2.2.2]]) :=
  Ct.ofA (own := RX10) (by decide) rfl (Nat.le_of_ble_eq_true rfl) rfl (fun X hl hD hX hR => by subst hl; subst hD; exact wk_X10_columnOf hX hy fb tp pa ju pl yr lg ha t1 t2 h j hn hj hR)
set_option maxHeartbeats 1000000 in
set_option maxRecDepth 100000 in
theorem wk_columnNeg {X : Cx} (hX : Ok X cX10_columnOf 2 RX10 0) (hy fb tp pa ju pl yr lg ha t1 t2 : Nat) (h : HS) (w : Int32) (hn : hFs h ≤ 12) (hw : w < 0) (hR : Rt X (some FieldType.int) (fun r es' => r = some (.int (-1)) ∧ es' = [ob 10 [.ref fb, .ref tp, .ref pa, .ref ju, .ref pl, .ref yr, .ref lg, .ref ha, .ref t1, .ref t2, .int (b2 h.1), .int h.2.1, .int (nI (hFs h)), .int h.2.2.2.1, .int h.2.2.2.2.1, .int h.2.2.2.2.2]]) [hy]) : Aw X [hy] [ob 10 [.ref fb, .ref tp, .ref pa, .ref ju, .ref pl, .ref yr, .ref lg, .ref ha, .ref t1, .ref t2, .int (b2 h.1), .int h.2.1, .int (nI (hFs h)), .int h.2.2.2.1, .int h.2.2.2.2.1, .int h.2.2.2.2.2]] 0 [(0, .ref hy), (1, .int w)] [] := by
  refine r_iload_n (n := 1) hX dX10_columnOf_0 rfl rfl 1 rfl ?_
  refine r_if_lt (tgt := 11) (n := 4) hX dX10_columnOf_1 (by decide) rfl (fun c1 => ?_) (fun c1 => absurd c1 (fun e => e hw))
  refine r_iload_n (n := 12) hX dX10_columnOf_11 rfl rfl 1 rfl ?_
  refine r_bipush (n := 14) hX 10 dX10_columnOf_12 rfl rfl ?_
  refine r_icmp_lt (tgt := 31) (n := 17) hX dX10_columnOf_14 (by decide) rfl (fun c14 => ?_) (fun c14 => absurd c14 (fun e => e (Int32.lt_trans hw (by decide))))
  refine r_iload_n (n := 32) hX dX10_columnOf_31 rfl rfl 1 rfl ?_
  refine r_bipush (n := 34) hX 20 dX10_columnOf_32 rfl rfl ?_
  refine r_icmp_lt (tgt := 56) (n := 37) hX dX10_columnOf_34 (by decide) rfl (fun c34 => ?_) (fun c34 => absurd c34 (fun e => e (Int32.lt_trans hw (by decide))))
  refine r_iconst (n := 57) hX (-1) dX10_columnOf_56 rfl rfl ?_
  exact r_ireturn hX hR dX10_columnOf_57 ⟨rfl, rfl⟩
theorem ct_columnNeg (l : Launch) (D : va_G) (hy fb tp pa ju pl yr lg ha t1 t2 : Nat) (h : HS) (w : Int32) (hn : hFs h ≤ 12) (hw : w < 0) : Ct l D m_X10_columnOf 0 [.ref hy, .int w] [hy] [ob 10 [.ref fb, .ref tp, .ref pa, .ref ju, .ref pl, .ref yr, .ref lg, .ref ha, .ref t1, .ref t2, .int (b2 h.1), .int h.2.1, .int (nI (hFs h)), .int h.2.2.2.1, .int h.2.2.2.2.1, .int h.2.2.2.2.2]] (fun r es' => r = some (.int (-1)) ∧ es' = [ob 10 [.ref fb, .ref tp, .ref pa, .ref ju, .ref pl, .ref yr, .ref lg, .ref ha, .ref t1, .ref t2, .int (b2 h.1), .int h.2.1, .int (nI (hFs h)), .int h.2.2.2.1, .int h.2.2.2.2.1, .int h.2.2.2.2.2]]) :=
  Ct.ofA (own := RX10) (by decide) rfl (Nat.le_of_ble_eq_true rfl) rfl (fun X hl hD hX hR => by subst hl; subst hD; exact wk_columnNeg hX hy fb tp pa ju pl yr lg ha t1 t2 h w hn hw hR)
set_option maxHeartbeats 1000000 in
set_option maxRecDepth 100000 in
theorem wk_X10_leastOf {X : Cx} (hX : Ok X cX10_leastOf 1 RX10 0) (c : Nat) (hc : c < 2 ^ 31) (hR : Rt X (some FieldType.int) (fun r es' => r = some (.int (hLeast c)) ∧ es' = []) []) : Aw X [] [] 0 [(0, .int (nI c))] [] := by
  refine r_iload_n (n := 1) hX dX10_leastOf_0 rfl rfl 0 rfl ?_
  refine r_bipush (n := 3) hX 6 dX10_leastOf_1 rfl rfl ?_
  refine r_icmp_lt_n (tgt := 18) (n := 6) hX c 6 (by omega) (by omega) dX10_leastOf_3 (by decide) rfl (fun c3 => ?_) (fun c3 => ?_)
  · skip
    refine r_iconst (n := 19) hX 0 dX10_leastOf_18 rfl rfl ?_
    exact r_ireturn hX hR dX10_leastOf_19 ⟨by unfold hLeast; rw [if_neg (fun e => absurd e.1 (Nat.not_le.mpr c3))], rfl⟩
  · skip
    refine r_iload_n (n := 7) hX dX10_leastOf_6 rfl rfl 0 rfl ?_
    refine r_bipush (n := 9) hX 14 dX10_leastOf_7 rfl rfl ?_
    refine r_icmp_ge_n (tgt := 18) (n := 12) hX c 14 (by omega) (by omega) dX10_leastOf_9 (by decide) rfl (fun c9 => ?_) (fun c9 => ?_)
    · skip
      refine r_iconst (n := 19) hX 0 dX10_leastOf_18 rfl rfl ?_
      exact r_ireturn hX hR dX10_leastOf_19 ⟨by unfold hLeast; rw [if_neg (fun e => absurd e.2 (Nat.not_lt.mpr c9))], rfl⟩
    · skip
      refine r_sipush (n := 15) hX (-999) dX10_leastOf_12 rfl rfl ?_
      refine r_goto (tgt := 19) hX dX10_leastOf_15 (by decide) ?_
      exact r_ireturn hX hR dX10_leastOf_19 ⟨by unfold hLeast; rw [if_pos ⟨c3, c9⟩], rfl⟩
theorem ct_X10_leastOf (l : Launch) (D : va_G) (c : Nat) (hc : c < 2 ^ 31) : Ct l D m_X10_leastOf 0 [.int (nI c)] [] [] (fun r es' => r = some (.int (hLeast c)) ∧ es' = []) :=
  Ct.ofA (own := RX10) (by decide) rfl (Nat.le_of_ble_eq_true rfl) rfl (fun X hl hD hX hR => by subst hl; subst hD; exact wk_X10_leastOf hX c hc hR)
set_option maxHeartbeats 1000000 in
set_option maxRecDepth 100000 in
theorem wk_X10_mostOf {X : Cx} (hX : Ok X cX10_mostOf 1 RX10 0) (c : Nat) (hc : c < 2 ^ 31) (hR : Rt X (some FieldType.int) (fun r es' => r = some (.int (hMost c)) ∧ es' = []) []) : Aw X [] [] 0 [(0, .int (nI c))] [] := by
  refine r_iload_n (n := 1) hX dX10_mostOf_0 rfl rfl 0 rfl ?_
  refine r_iconst (n := 2) hX 3 dX10_mostOf_1 rfl rfl ?_
  refine r_icmp_gt_n (tgt := 7) (n := 5) hX c 3 (by omega) (by omega) dX10_mostOf_2 (by decide) rfl (fun c2 => ?_) (fun c2 => ?_)
  · skip
    refine r_iload_n (n := 8) hX dX10_mostOf_7 rfl rfl 0 rfl ?_
    refine r_iconst (n := 9) hX 4 dX10_mostOf_8 rfl rfl ?_
    refine r_icmp_ne_n (tgt := 15) (n := 12) hX c 4 (by omega) (by omega) dX10_mostOf_9 (by decide) rfl (fun c9 => ?_) (fun c9 => ?_)
    · skip
      refine r_iload_n (n := 16) hX dX10_mostOf_15 rfl rfl 0 rfl ?_
      refine r_iconst (n := 17) hX 5 dX10_mostOf_16 rfl rfl ?_
      refine r_icmp_ne_n (tgt := 24) (n := 20) hX c 5 (by omega) (by omega) dX10_mostOf_17 (by decide) rfl (fun c17 => ?_) (fun c17 => ?_)
      · skip
        refine r_iload_n (n := 25) hX dX10_mostOf_24 rfl rfl 0 rfl ?_
        refine r_bipush (n := 27) hX 14 dX10_mostOf_25 rfl rfl ?_
        refine r_icmp_ge_n (tgt := 36) (n := 30) hX c 14 (by omega) (by omega) dX10_mostOf_27 (by decide) rfl (fun c27 => ?_) (fun c27 => ?_)
        · skip
          refine r_bipush (n := 38) hX 9 dX10_mostOf_36 rfl rfl ?_
          exact r_ireturn hX hR dX10_mostOf_38 ⟨by unfold hMost; rw [if_neg (Nat.not_le.mpr c2), if_neg c9, if_neg c17]; first | rw [if_pos c27] | rw [if_neg (Nat.not_lt.mpr c27)], rfl⟩
        · skip
          refine r_sipush (n := 33) hX 999 dX10_mostOf_30 rfl rfl ?_
          refine r_goto (tgt := 38) hX dX10_mostOf_33 (by decide) ?_
          exact r_ireturn hX hR dX10_mostOf_38 ⟨by unfold hMost; rw [if_neg (Nat.not_le.mpr c2), if_neg c9, if_neg c17]; first | rw [if_pos c27] | rw [if_neg (Nat.not_lt.mpr c27)], rfl⟩
      · skip
        refine r_sipush (n := 23) hX 1000 dX10_mostOf_20 rfl rfl ?_
        exact r_ireturn hX hR dX10_mostOf_23 ⟨by unfold hMost; rw [if_neg (Nat.not_le.mpr c2), if_neg c9, if_pos c17], rfl⟩
    · skip
      refine r_ldc (n := 14) hX dX10_mostOf_12 rfl kc_X10_114 ?_
      exact r_ireturn hX hR dX10_mostOf_14 ⟨by unfold hMost; rw [if_neg (Nat.not_le.mpr c2), if_pos c9], rfl⟩
  · skip
    refine r_iconst (n := 6) hX 1 dX10_mostOf_5 rfl rfl ?_
    exact r_ireturn hX hR dX10_mostOf_6 ⟨by unfold hMost; rw [if_pos c2], rfl⟩
theorem ct_X10_mostOf (l : Launch) (D : va_G) (c : Nat) (hc : c < 2 ^ 31) : Ct l D m_X10_mostOf 0 [.int (nI c)] [] [] (fun r es' => r = some (.int (hMost c)) ∧ es' = []) :=
  Ct.ofA (own := RX10) (by decide) rfl (Nat.le_of_ble_eq_true rfl) rfl (fun X hl hD hX hR => by subst hl; subst hD; exact wk_X10_mostOf hX c hc hR)

def hFeed (s : TP) (a b c d e : Int32) : TP := tpAppend (tpAppend (tpAppend (tpAppend (tpAppend s a) b) c) d) e

set_option maxHeartbeats 1000000 in
set_option maxRecDepth 100000 in
theorem wk_X10_feed {X : Cx} (hX : Ok X cX10_feed 6 RX10 1) (hy fb tp pa ju pl yr lg ha t1 t2 : Nat) (tb : Nat) (h : HS) (s : TP) (a b c d e : Int32) (hs : s.2 ≤ 3000) (hR : Rt X (some FieldType.int) (fun r es' => r = some (.int (if s.2 + 20 ≤ 3000 then nI (hFeed s a b c d e).2 else -1)) ∧ es' = [ob 10 [.ref fb, .ref tp, .ref pa, .ref ju, .ref pl, .ref yr, .ref lg, .ref ha, .ref t1, .ref t2, .int (b2 h.1), .int h.2.1, .int (nI (hFs h)), .int h.2.2.2.1, .int h.2.2.2.2.1, .int h.2.2.2.2.2], ob 6 [.ref tb, .int (nI ((if s.2 + 20 ≤ 3000 then hFeed s a b c d e else s).2))], aB (CxD X) 3000 ((if s.2 + 20 ≤ 3000 then hFeed s a b c d e else s).1)]) [hy, tp, tb]) : Aw X [hy, tp, tb] [ob 10 [.ref fb, .ref tp, .ref pa, .ref ju, .ref pl, .ref yr, .ref lg, .ref ha, .ref t1, .ref t2, .int (b2 h.1), .int h.2.1, .int (nI (hFs h)), .int h.2.2.2.1, .int h.2.2.2.2.1, .int h.2.2.2.2.2], ob 6 [.ref tb, .int (nI s.2)], aB (CxD X) 3000 s.1] 0 [(0, .ref hy), (1, .int a), (2, .int b), (3, .int c), (4, .int d), (5, .int e)] [] := by
  refine r_aload_n (n := 1) hX dX10_feed_0 rfl rfl 0 rfl ?_
  refine r_get (n := 4) hX 0 rfl rfl rfl 1 (by decide) lay_X10 fl_X10_19 rfl dX10_feed_1 rfl ?_
  refine r_get (n := 7) hX 1 rfl rfl rfl 1 (by decide) lay_X6 fl_X10_92 rfl dX10_feed_4 rfl ?_
  refine r_bipush (n := 9) hX 20 dX10_feed_7 rfl rfl ?_
  refine r_iadd (n := 10) hX dX10_feed_9 rfl ?_
  refine Aw.topi (nI (s.2 + 20)) (nI_add _ _) ?_
  refine r_sipush (n := 13) hX 3000 dX10_feed_10 rfl rfl ?_
  refine r_icmp_le_n (tgt := 18) (n := 16) hX (s.2 + 20) 3000 (by omega) (by omega) dX10_feed_13 (by decide) rfl (fun c13 => ?_) (fun c13 => ?_)
  · skip
    refine r_aload_n (n := 19) hX dX10_feed_18 rfl rfl 0 rfl ?_
    refine r_get (n := 22) hX 0 rfl rfl rfl 1 (by decide) lay_X10 fl_X10_19 rfl dX10_feed_19 rfl ?_
    refine r_iload_n (n := 23) hX dX10_feed_22 rfl rfl 1 rfl ?_
    refine r_callV (n := 26) (av := [.int a]) hX (ct_X6_append (CxL X) (CxD X) tp tb s a (by omega)) ml_X10_95 cv_X6_append rfl (by decide) [1, 2] rfl rfl (by decide) 1 rfl rfl rfl rfl rfl (Nat.le_of_ble_eq_true rfl) dX10_feed_23 rfl (fun r_ es_ h_ l_ => ?_)
    obtain ⟨rfl, rfl⟩ := h_
    show Aw X [hy, tp, tb] [ob 10 [.ref fb, .ref tp, .ref pa, .ref ju, .ref pl, .ref yr, .ref lg, .ref ha, .ref t1, .ref t2, .int (b2 h.1), .int h.2.1, .int (nI (hFs h)), .int h.2.2.2.1, .int h.2.2.2.2.1, .int h.2.2.2.2.2], ob 6 [.ref tb, .int (nI ((tpAppend s a).2))], aB (CxD X) 3000 ((tpAppend s a).1)] 26 [(0, .ref hy), (1, .int a), (2, .int b), (3, .int c), (4, .int d), (5, .int e)] []
    refine r_aload_n (n := 27) hX dX10_feed_26 rfl rfl 0 rfl ?_
    refine r_get (n := 30) hX 0 rfl rfl rfl 1 (by decide) lay_X10 fl_X10_19 rfl dX10_feed_27 rfl ?_
    refine r_iload_n (n := 31) hX dX10_feed_30 rfl rfl 2 rfl ?_
    refine r_callV (n := 34) (av := [.int b]) hX (ct_X6_append (CxL X) (CxD X) tp tb (tpAppend s a) b (by simp only [tpAppend]; omega)) ml_X10_95 cv_X6_append rfl (by decide) [1, 2] rfl rfl (by decide) 1 rfl rfl rfl rfl rfl (Nat.le_of_ble_eq_true rfl) dX10_feed_31 rfl (fun r_ es_ h_ l_ => ?_)
    obtain ⟨rfl, rfl⟩ := h_
    show Aw X [hy, tp, tb] [ob 10 [.ref fb, .ref tp, .ref pa, .ref ju, .ref pl, .ref yr, .ref lg, .ref ha, .ref t1, .ref t2, .int (b2 h.1), .int h.2.1, .int (nI (hFs h)), .int h.2.2.2.1, .int h.2.2.2.2.1, .int h.2.2.2.2.2], ob 6 [.ref tb, .int (nI ((tpAppend (tpAppend s a) b).2))], aB (CxD X) 3000 ((tpAppend (tpAppend s a) b).1)] 34 [(0, .ref hy), (1, .int a), (2, .int b), (3, .int c), (4, .int d), (5, .int e)] []
    refine r_aload_n (n := 35) hX dX10_feed_34 rfl rfl 0 rfl ?_
    refine r_get (n := 38) hX 0 rfl rfl rfl 1 (by decide) lay_X10 fl_X10_19 rfl dX10_feed_35 rfl ?_
    refine r_iload_n (n := 39) hX dX10_feed_38 rfl rfl 3 rfl ?_
    refine r_callV (n := 42) (av := [.int c]) hX (ct_X6_append (CxL X) (CxD X) tp tb (tpAppend (tpAppend s a) b) c (by simp only [tpAppend]; omega)) ml_X10_95 cv_X6_append rfl (by decide) [1, 2] rfl rfl (by decide) 1 rfl rfl rfl rfl rfl (Nat.le_of_ble_eq_true rfl) dX10_feed_39 rfl (fun r_ es_ h_ l_ => ?_)
    obtain ⟨rfl, rfl⟩ := h_
    show Aw X [hy, tp, tb] [ob 10 [.ref fb, .ref tp, .ref pa, .ref ju, .ref pl, .ref yr, .ref lg, .ref ha, .ref t1, .ref t2, .int (b2 h.1), .int h.2.1, .int (nI (hFs h)), .int h.2.2.2.1, .int h.2.2.2.2.1, .int h.2.2.2.2.2], ob 6 [.ref tb, .int (nI ((tpAppend (tpAppend (tpAppend s a) b) c).2))], aB (CxD X) 3000 ((tpAppend (tpAppend (tpAppend s a) b) c).1)] 42 [(0, .ref hy), (1, .int a), (2, .int b), (3, .int c), (4, .int d), (5, .int e)] []
    refine r_aload_n (n := 43) hX dX10_feed_42 rfl rfl 0 rfl ?_
    refine r_get (n := 46) hX 0 rfl rfl rfl 1 (by decide) lay_X10 fl_X10_19 rfl dX10_feed_43 rfl ?_
    refine r_iload (n := 48) hX dX10_feed_46 rfl 4 rfl ?_
    refine r_callV (n := 51) (av := [.int d]) hX (ct_X6_append (CxL X) (CxD X) tp tb (tpAppend (tpAppend (tpAppend s a) b) c) d (by simp only [tpAppend]; omega)) ml_X10_95 cv_X6_append rfl (by decide) [1, 2] rfl rfl (by decide) 1 rfl rfl rfl rfl rfl (Nat.le_of_ble_eq_true rfl) dX10_feed_48 rfl (fun r_ es_ h_ l_ => ?_)
    obtain ⟨rfl, rfl⟩ := h_
    show Aw X [hy, tp, tb] [ob 10 [.ref fb, .ref tp, .ref pa, .ref ju, .ref pl, .ref yr, .ref lg, .ref ha, .ref t1, .ref t2, .int (b2 h.1), .int h.2.1, .int (nI (hFs h)), .int h.2.2.2.1, .int h.2.2.2.2.1, .int h.2.2.2.2.2], ob 6 [.ref tb, .int (nI ((tpAppend (tpAppend (tpAppend (tpAppend s a) b) c) d).2))], aB (CxD X) 3000 ((tpAppend (tpAppend (tpAppend (tpAppend s a) b) c) d).1)] 51 [(0, .ref hy), (1, .int a), (2, .int b), (3, .int c), (4, .int d), (5, .int e)] []
    refine r_aload_n (n := 52) hX dX10_feed_51 rfl rfl 0 rfl ?_
    refine r_get (n := 55) hX 0 rfl rfl rfl 1 (by decide) lay_X10 fl_X10_19 rfl dX10_feed_52 rfl ?_
    refine r_iload (n := 57) hX dX10_feed_55 rfl 5 rfl ?_
    refine r_callV (n := 60) (av := [.int e]) hX (ct_X6_append (CxL X) (CxD X) tp tb (tpAppend (tpAppend (tpAppend (tpAppend s a) b) c) d) e (by simp only [tpAppend]; omega)) ml_X10_95 cv_X6_append rfl (by decide) [1, 2] rfl rfl (by decide) 1 rfl rfl rfl rfl rfl (Nat.le_of_ble_eq_true rfl) dX10_feed_57 rfl (fun r_ es_ h_ l_ => ?_)
    obtain ⟨rfl, rfl⟩ := h_
    show Aw X [hy, tp, tb] [ob 10 [.ref fb, .ref tp, .ref pa, .ref ju, .ref pl, .ref yr, .ref lg, .ref ha, .ref t1, .ref t2, .int (b2 h.1), .int h.2.1, .int (nI (hFs h)), .int h.2.2.2.1, .int h.2.2.2.2.1, .int h.2.2.2.2.2], ob 6 [.ref tb, .int (nI ((hFeed s a b c d e).2))], aB (CxD X) 3000 ((hFeed s a b c d e).1)] 60 [(0, .ref hy), (1, .int a), (2, .int b), (3, .int c), (4, .int d), (5, .int e)] []
    refine r_aload_n (n := 61) hX dX10_feed_60 rfl rfl 0 rfl ?_
    refine r_get (n := 64) hX 0 rfl rfl rfl 1 (by decide) lay_X10 fl_X10_19 rfl dX10_feed_61 rfl ?_
    refine r_get (n := 67) hX 1 rfl rfl rfl 1 (by decide) lay_X6 fl_X10_92 rfl dX10_feed_64 rfl ?_
    exact r_ireturn hX hR dX10_feed_67 (by rw [if_pos c13, if_pos c13]; exact ⟨rfl, rfl⟩)
  · skip
    refine r_iconst (n := 17) hX (-1) dX10_feed_16 rfl rfl ?_
    exact r_ireturn hX hR dX10_feed_17 (by rw [if_neg (Nat.not_le.mpr c13), if_neg (Nat.not_le.mpr c13)]; exact ⟨rfl, rfl⟩)
theorem ct_X10_feed (l : Launch) (D : va_G) (hy fb tp pa ju pl yr lg ha t1 t2 : Nat) (tb : Nat) (h : HS) (s : TP) (a b c d e : Int32) (hs : s.2 ≤ 3000) : Ct l D m_X10_feed 1 [.ref hy, .int a, .int b, .int c, .int d, .int e] [hy, tp, tb] [ob 10 [.ref fb, .ref tp, .ref pa, .ref ju, .ref pl, .ref yr, .ref lg, .ref ha, .ref t1, .ref t2, .int (b2 h.1), .int h.2.1, .int (nI (hFs h)), .int h.2.2.2.1, .int h.2.2.2.2.1, .int h.2.2.2.2.2], ob 6 [.ref tb, .int (nI s.2)], aB D 3000 s.1] (fun r es' => r = some (.int (if s.2 + 20 ≤ 3000 then nI (hFeed s a b c d e).2 else -1)) ∧ es' = [ob 10 [.ref fb, .ref tp, .ref pa, .ref ju, .ref pl, .ref yr, .ref lg, .ref ha, .ref t1, .ref t2, .int (b2 h.1), .int h.2.1, .int (nI (hFs h)), .int h.2.2.2.1, .int h.2.2.2.2.1, .int h.2.2.2.2.2], ob 6 [.ref tb, .int (nI ((if s.2 + 20 ≤ 3000 then hFeed s a b c d e else s).2))], aB D 3000 ((if s.2 + 20 ≤ 3000 then hFeed s a b c d e else s).1)]) :=
  Ct.ofA (own := RX10) (by decide) rfl (Nat.le_of_ble_eq_true rfl) rfl (fun X hl hD hX hR => by subst hl; subst hD; exact wk_X10_feed hX hy fb tp pa ju pl yr lg ha t1 t2 tb h s a b c d e hs hR)
set_option maxHeartbeats 1000000 in
set_option maxRecDepth 100000 in
theorem wk_X10_back {X : Cx} (hX : Ok X cX10_back 2 RX10 0) (hy fb tp pa ju pl yr lg ha t1 t2 : Nat) (tb : Nat) (h : HS) (s : TP) (n : Nat) (hs : s.2 ≤ 3000) (hn : n < 2 ^ 31) (hR : Rt X (some FieldType.int) (fun r es' => r = some (.int (if n ≤ s.2 then nI (s.2 - n) else -1)) ∧ es' = [ob 10 [.ref fb, .ref tp, .ref pa, .ref ju, .ref pl, .ref yr, .ref lg, .ref ha, .ref t1, .ref t2, .int (b2 h.1), .int h.2.1, .int (nI (hFs h)), .int h.2.2.2.1, .int h.2.2.2.2.1, .int h.2.2.2.2.2], ob 6 [.ref tb, .int (nI ((s.1, if n ≤ s.2 then s.2 - n else s.2).2))], aB (CxD X) 3000 ((s.1, if n ≤ s.2 then s.2 - n else s.2).1)]) [hy, tp, tb]) : Aw X [hy, tp, tb] [ob 10 [.ref fb, .ref tp, .ref pa, .ref ju, .ref pl, .ref yr, .ref lg, .ref ha, .ref t1, .ref t2, .int (b2 h.1), .int h.2.1, .int (nI (hFs h)), .int h.2.2.2.1, .int h.2.2.2.2.1, .int h.2.2.2.2.2], ob 6 [.ref tb, .int (nI s.2)], aB (CxD X) 3000 s.1] 0 [(0, .ref hy), (1, .int (nI n))] [] := by
  refine r_iload_n (n := 1) hX dX10_back_0 rfl rfl 1 rfl ?_
  refine r_iflt_n (n := 4) (tgt := 15) hX (by omega) dX10_back_1 rfl (by decide) ?_
  refine r_iload_n (n := 5) hX dX10_back_4 rfl rfl 1 rfl ?_
  refine r_aload_n (n := 6) hX dX10_back_5 rfl rfl 0 rfl ?_
  refine r_get (n := 9) hX 0 rfl rfl rfl 1 (by decide) lay_X10 fl_X10_19 rfl dX10_back_6 rfl ?_
  refine r_get (n := 12) hX 1 rfl rfl rfl 1 (by decide) lay_X6 fl_X10_92 rfl dX10_back_9 rfl ?_
  refine r_icmp_le_n (tgt := 17) (n := 15) hX n s.2 (by omega) (by omega) dX10_back_12 (by decide) rfl (fun c12 => ?_) (fun c12 => ?_)
  · skip
    refine r_aload_n (n := 18) hX dX10_back_17 rfl rfl 0 rfl ?_
    refine r_get (n := 21) hX 0 rfl rfl rfl 1 (by decide) lay_X10 fl_X10_19 rfl dX10_back_18 rfl ?_
    refine r_dup (n := 22) hX dX10_back_21 rfl rfl ?_
    refine r_get (n := 25) hX 1 rfl rfl rfl 1 (by decide) lay_X6 fl_X10_92 rfl dX10_back_22 rfl ?_
    refine r_iload_n (n := 26) hX dX10_back_25 rfl rfl 1 rfl ?_
    refine r_isub (n := 27) hX dX10_back_26 rfl ?_
    refine Aw.topi (nI (s.2 - n)) (pk_sub c12) ?_
    refine r_put (n := 30) hX 1 rfl rfl rfl 1 [ob 10 [.ref fb, .ref tp, .ref pa, .ref ju, .ref pl, .ref yr, .ref lg, .ref ha, .ref t1, .ref t2, .int (b2 h.1), .int h.2.1, .int (nI (hFs h)), .int h.2.2.2.1, .int h.2.2.2.2.1, .int h.2.2.2.2.2], ob 6 [.ref tb, .int (nI (s.2 - n))], aB (CxD X) 3000 s.1] (by decide) lay_X6 tyX6 tyX6_ok nmX6 fl_X10_92 rfl rfl rfl (Nat.le_of_ble_eq_true rfl) rfl dX10_back_27 rfl ?_
    refine r_aload_n (n := 31) hX dX10_back_30 rfl rfl 0 rfl ?_
    refine r_get (n := 34) hX 0 rfl rfl rfl 1 (by decide) lay_X10 fl_X10_19 rfl dX10_back_31 rfl ?_
    refine r_get (n := 37) hX 1 rfl rfl rfl 1 (by decide) lay_X6 fl_X10_92 rfl dX10_back_34 rfl ?_
    exact r_ireturn hX hR dX10_back_37 (by rw [if_pos c12, if_pos c12]; exact ⟨rfl, rfl⟩)
  · skip
    refine r_iconst (n := 16) hX (-1) dX10_back_15 rfl rfl ?_
    exact r_ireturn hX hR dX10_back_16 (by rw [if_neg (Nat.not_le.mpr c12), if_neg (Nat.not_le.mpr c12)]; exact ⟨rfl, rfl⟩)
theorem ct_X10_back (l : Launch) (D : va_G) (hy fb tp pa ju pl yr lg ha t1 t2 : Nat) (tb : Nat) (h : HS) (s : TP) (n : Nat) (hs : s.2 ≤ 3000) (hn : n < 2 ^ 31) : Ct l D m_X10_back 0 [.ref hy, .int (nI n)] [hy, tp, tb] [ob 10 [.ref fb, .ref tp, .ref pa, .ref ju, .ref pl, .ref yr, .ref lg, .ref ha, .ref t1, .ref t2, .int (b2 h.1), .int h.2.1, .int (nI (hFs h)), .int h.2.2.2.1, .int h.2.2.2.2.1, .int h.2.2.2.2.2], ob 6 [.ref tb, .int (nI s.2)], aB D 3000 s.1] (fun r es' => r = some (.int (if n ≤ s.2 then nI (s.2 - n) else -1)) ∧ es' = [ob 10 [.ref fb, .ref tp, .ref pa, .ref ju, .ref pl, .ref yr, .ref lg, .ref ha, .ref t1, .ref t2, .int (b2 h.1), .int h.2.1, .int (nI (hFs h)), .int h.2.2.2.1, .int h.2.2.2.2.1, .int h.2.2.2.2.2], ob 6 [.ref tb, .int (nI ((s.1, if n ≤ s.2 then s.2 - n else s.2).2))], aB D 3000 ((s.1, if n ≤ s.2 then s.2 - n else s.2).1)]) :=
  Ct.ofA (own := RX10) (by decide) rfl (Nat.le_of_ble_eq_true rfl) rfl (fun X hl hD hX hR => by subst hl; subst hD; exact wk_X10_back hX hy fb tp pa ju pl yr lg ha t1 t2 tb h s n hs hn hR)
set_option maxHeartbeats 1000000 in
set_option maxRecDepth 100000 in
theorem wk_backNeg {X : Cx} (hX : Ok X cX10_back 2 RX10 0) (hy fb tp pa ju pl yr lg ha t1 t2 : Nat) (h : HS) (w : Int32) (hw : w < 0) (hR : Rt X (some FieldType.int) (fun r es' => r = some (.int (-1)) ∧ es' = [ob 10 [.ref fb, .ref tp, .ref pa, .ref ju, .ref pl, .ref yr, .ref lg, .ref ha, .ref t1, .ref t2, .int (b2 h.1), .int h.2.1, .int (nI (hFs h)), .int h.2.2.2.1, .int h.2.2.2.2.1, .int h.2.2.2.2.2]]) [hy]) : Aw X [hy] [ob 10 [.ref fb, .ref tp, .ref pa, .ref ju, .ref pl, .ref yr, .ref lg, .ref ha, .ref t1, .ref t2, .int (b2 h.1), .int h.2.1, .int (nI (hFs h)), .int h.2.2.2.1, .int h.2.2.2.2.1, .int h.2.2.2.2.2]] 0 [(0, .ref hy), (1, .int w)] [] := by
  refine r_iload_n (n := 1) hX dX10_back_0 rfl rfl 1 rfl ?_
  refine r_if_lt (tgt := 15) (n := 4) hX dX10_back_1 (by decide) rfl (fun c1 => ?_) (fun c1 => absurd c1 (fun e => e hw))
  refine r_iconst (n := 16) hX (-1) dX10_back_15 rfl rfl ?_
  exact r_ireturn hX hR dX10_back_16 ⟨rfl, rfl⟩
theorem ct_backNeg (l : Launch) (D : va_G) (hy fb tp pa ju pl yr lg ha t1 t2 : Nat) (h : HS) (w : Int32) (hw : w < 0) : Ct l D m_X10_back 0 [.ref hy, .int w] [hy] [ob 10 [.ref fb, .ref tp, .ref pa, .ref ju, .ref pl, .ref yr, .ref lg, .ref ha, .ref t1, .ref t2, .int (b2 h.1), .int h.2.1, .int (nI (hFs h)), .int h.2.2.2.1, .int h.2.2.2.2.1, .int h.2.2.2.2.2]] (fun r es' => r = some (.int (-1)) ∧ es' = [ob 10 [.ref fb, .ref tp, .ref pa, .ref ju, .ref pl, .ref yr, .ref lg, .ref ha, .ref t1, .ref t2, .int (b2 h.1), .int h.2.1, .int (nI (hFs h)), .int h.2.2.2.1, .int h.2.2.2.2.1, .int h.2.2.2.2.2]]) :=
  Ct.ofA (own := RX10) (by decide) rfl (Nat.le_of_ble_eq_true rfl) rfl (fun X hl hD hX hR => by subst hl; subst hD; exact wk_backNeg hX hy fb tp pa ju pl yr lg ha t1 t2 h w hw hR)
set_option maxHeartbeats 1000000 in
set_option maxRecDepth 100000 in
theorem wk_X10_place {X : Cx} (hX : Ok X cX10_place 1 RX10 0) (hy fb tp pa ju pl yr lg ha t1 t2 : Nat) (tk tx : Nat) (h : HS) (z : PZ)  (hR : Rt X (some FieldType.int) (fun r es' => r = some (.int (zFaultP z)) ∧ es' = [ob 10 [.ref fb, .ref tp, .ref pa, .ref ju, .ref pl, .ref yr, .ref lg, .ref ha, .ref t1, .ref t2, .int (b2 h.1), .int h.2.1, .int (nI (hFs h)), .int h.2.2.2.1, .int h.2.2.2.2.1, .int h.2.2.2.2.2], ob 4 [.ref tk, .ref tx, .int (nI (zAt z)), .int (nI (zOpen z)), .int (zFault z), .int (zLate z), .int (zLateP z), .int (zFaultP z)]]) [hy, pa]) : Aw X [hy, pa] [ob 10 [.ref fb, .ref tp, .ref pa, .ref ju, .ref pl, .ref yr, .ref lg, .ref ha, .ref t1, .ref t2, .int (b2 h.1), .int h.2.1, .int (nI (hFs h)), .int h.2.2.2.1, .int h.2.2.2.2.1, .int h.2.2.2.2.2], ob 4 [.ref tk, .ref tx, .int (nI (zAt z)), .int (nI (zOpen z)), .int (zFault z), .int (zLate z), .int (zLateP z), .int (zFaultP z)]] 0 [(0, .ref hy)] [] := by
  refine r_aload_n (n := 1) hX dX10_place_0 rfl rfl 0 rfl ?_
  refine r_get (n := 4) hX 0 rfl rfl rfl 2 (by decide) lay_X10 fl_X10_26 rfl dX10_place_1 rfl ?_
  refine r_get (n := 7) hX 1 rfl rfl rfl 7 (by decide) lay_X4 fl_X10_111 rfl dX10_place_4 rfl ?_
  exact r_ireturn hX hR dX10_place_7 ⟨rfl, rfl⟩
theorem ct_X10_place (l : Launch) (D : va_G) (hy fb tp pa ju pl yr lg ha t1 t2 : Nat) (tk tx : Nat) (h : HS) (z : PZ)  : Ct l D m_X10_place 0 [.ref hy] [hy, pa] [ob 10 [.ref fb, .ref tp, .ref pa, .ref ju, .ref pl, .ref yr, .ref lg, .ref ha, .ref t1, .ref t2, .int (b2 h.1), .int h.2.1, .int (nI (hFs h)), .int h.2.2.2.1, .int h.2.2.2.2.1, .int h.2.2.2.2.2], ob 4 [.ref tk, .ref tx, .int (nI (zAt z)), .int (nI (zOpen z)), .int (zFault z), .int (zLate z), .int (zLateP z), .int (zFaultP z)]] (fun r es' => r = some (.int (zFaultP z)) ∧ es' = [ob 10 [.ref fb, .ref tp, .ref pa, .ref ju, .ref pl, .ref yr, .ref lg, .ref ha, .ref t1, .ref t2, .int (b2 h.1), .int h.2.1, .int (nI (hFs h)), .int h.2.2.2.1, .int h.2.2.2.2.1, .int h.2.2.2.2.2], ob 4 [.ref tk, .ref tx, .int (nI (zAt z)), .int (nI (zOpen z)), .int (zFault z), .int (zLate z), .int (zLateP z), .int (zFaultP z)]]) :=
  Ct.ofA (own := RX10) (by decide) rfl (Nat.le_of_ble_eq_true rfl) rfl (fun X hl hD hX hR => by subst hl; subst hD; exact wk_X10_place hX hy fb tp pa ju pl yr lg ha t1 t2 tk tx h z hR)
set_option maxHeartbeats 1000000 in
set_option maxRecDepth 100000 in
theorem wk_X10_family {X : Cx} (hX : Ok X cX10_family 1 RX10 0) (hy fb tp pa ju pl yr lg ha t1 t2 : Nat) (h : HS) (hn : hFs h ≤ 12) (hR : Rt X (some FieldType.int) (fun r es' => r = some (.int (if hFs h < 12 then nI (hFs h) else -1)) ∧ es' = [ob 10 [.ref fb, .ref tp, .ref pa, .ref ju, .ref pl, .ref yr, .ref lg, .ref ha, .ref t1, .ref t2, .int (b2 ((h.1, h.2.1, (if hFs h < 12 then hFs h + 1 else hFs h), h.2.2.2).1)), .int ((h.1, h.2.1, (if hFs h < 12 then hFs h + 1 else hFs h), h.2.2.2).2.1), .int (nI (hFs (h.1, h.2.1, (if hFs h < 12 then hFs h + 1 else hFs h), h.2.2.2))), .int ((h.1, h.2.1, (if hFs h < 12 then hFs h + 1 else hFs h), h.2.2.2).2.2.2.1), .int ((h.1, h.2.1, (if hFs h < 12 then hFs h + 1 else hFs h), h.2.2.2).2.2.2.2.1), .int ((h.1, h.2.1, (if hFs h < 12 then hFs h + 1 else hFs h), h.2.2.2).2.2.2.2.2)]]) [hy]) : Aw X [hy] [ob 10 [.ref fb, .ref tp, .ref pa, .ref ju, .ref pl, .ref yr, .ref lg, .ref ha, .ref t1, .ref t2, .int (b2 h.1), .int h.2.1, .int (nI (hFs h)), .int h.2.2.2.1, .int h.2.2.2.2.1, .int h.2.2.2.2.2]] 0 [(0, .ref hy)] [] := by
  refine r_aload_n (n := 1) hX dX10_family_0 rfl rfl 0 rfl ?_
  refine r_get (n := 4) hX 0 rfl rfl rfl 12 (by decide) lay_X10 fl_X10_80 rfl dX10_family_1 rfl ?_
  refine r_bipush (n := 6) hX 12 dX10_family_4 rfl rfl ?_
  refine r_icmp_lt_n (tgt := 11) (n := 9) hX (hFs h) 12 (by omega) (by omega) dX10_family_6 (by decide) rfl (fun c6 => ?_) (fun c6 => ?_)
  · skip
    refine r_aload_n (n := 12) hX dX10_family_11 rfl rfl 0 rfl ?_
    refine r_dup (n := 13) hX dX10_family_12 rfl rfl ?_
    refine r_get (n := 16) hX 0 rfl rfl rfl 12 (by decide) lay_X10 fl_X10_80 rfl dX10_family_13 rfl ?_
    refine r_iconst (n := 17) hX 1 dX10_family_16 rfl rfl ?_
    refine r_iadd (n := 18) hX dX10_family_17 rfl ?_
    refine Aw.topi (nI ((hFs h) + 1)) (nI_add _ _) ?_
    refine r_put (n := 21) hX 0 rfl rfl rfl 12 [ob 10 [.ref fb, .ref tp, .ref pa, .ref ju, .ref pl, .ref yr, .ref lg, .ref ha, .ref t1, .ref t2, .int (b2 h.1), .int h.2.1, .int (nI ((hFs h) + 1)), .int h.2.2.2.1, .int h.2.2.2.2.1, .int h.2.2.2.2.2]] (by decide) lay_X10 tyX10 tyX10_ok nmX10 fl_X10_80 rfl rfl rfl (Nat.le_of_ble_eq_true rfl) rfl dX10_family_18 rfl ?_
    refine r_aload_n (n := 22) hX dX10_family_21 rfl rfl 0 rfl ?_
    refine r_get (n := 25) hX 0 rfl rfl rfl 12 (by decide) lay_X10 fl_X10_80 rfl dX10_family_22 rfl ?_
    refine r_iconst (n := 26) hX 1 dX10_family_25 rfl rfl ?_
    refine r_isub (n := 27) hX dX10_family_26 rfl ?_
    refine Aw.topi (nI (hFs h)) (nI_pred _) ?_
    exact r_ireturn hX hR dX10_family_27 (by rw [if_pos c6]; dsimp only [hFs]; rw [if_pos c6]; exact ⟨rfl, rfl⟩)
  · skip
    refine r_iconst (n := 10) hX (-1) dX10_family_9 rfl rfl ?_
    exact r_ireturn hX hR dX10_family_10 (by rw [if_neg (Nat.not_lt.mpr c6)]; dsimp only [hFs]; rw [if_neg (Nat.not_lt.mpr c6)]; exact ⟨rfl, rfl⟩)
theorem ct_X10_family (l : Launch) (D : va_G) (hy fb tp pa ju pl yr lg ha t1 t2 : Nat) (h : HS) (hn : hFs h ≤ 12) : Ct l D m_X10_family 0 [.ref hy] [hy] [ob 10 [.ref fb, .ref tp, .ref pa, .ref ju, .ref pl, .ref yr, .ref lg, .ref ha, .ref t1, .ref t2, .int (b2 h.1), .int h.2.1, .int (nI (hFs h)), .int h.2.2.2.1, .int h.2.2.2.2.1, .int h.2.2.2.2.2]] (fun r es' => r = some (.int (if hFs h < 12 then nI (hFs h) else -1)) ∧ es' = [ob 10 [.ref fb, .ref tp, .ref pa, .ref ju, .ref pl, .ref yr, .ref lg, .ref ha, .ref t1, .ref t2, .int (b2 ((h.1, h.2.1, (if hFs h < 12 then hFs h + 1 else hFs h), h.2.2.2).1)), .int ((h.1, h.2.1, (if hFs h < 12 then hFs h + 1 else hFs h), h.2.2.2).2.1), .int (nI (hFs (h.1, h.2.1, (if hFs h < 12 then hFs h + 1 else hFs h), h.2.2.2))), .int ((h.1, h.2.1, (if hFs h < 12 then hFs h + 1 else hFs h), h.2.2.2).2.2.2.1), .int ((h.1, h.2.1, (if hFs h < 12 then hFs h + 1 else hFs h), h.2.2.2).2.2.2.2.1), .int ((h.1, h.2.1, (if hFs h < 12 then hFs h + 1 else hFs h), h.2.2.2).2.2.2.2.2)]]) :=
  Ct.ofA (own := RX10) (by decide) rfl (Nat.le_of_ble_eq_true rfl) rfl (fun X hl hD hX hR => by subst hl; subst hD; exact wk_X10_family hX hy fb tp pa ju pl yr lg ha t1 t2 h hn hR)
def hClk (t d : Int32) : Bool := if d < t then false else if d ≤ 100000 then true else false
set_option maxHeartbeats 1000000 in
set_option maxRecDepth 100000 in
theorem wk_X10_clock {X : Cx} (hX : Ok X cX10_clock 2 RX10 0) (hy fb tp pa ju pl yr lg ha t1 t2 : Nat) (h : HS) (dd : Int32)  (hR : Rt X (some FieldType.boolean) (fun r es' => r = some (.int (b2 (hClk h.2.2.2.1 dd))) ∧ es' = [ob 10 [.ref fb, .ref tp, .ref pa, .ref ju, .ref pl, .ref yr, .ref lg, .ref ha, .ref t1, .ref t2, .int (b2 ((h.1, h.2.1, hFs h, (if hClk h.2.2.2.1 dd = true then dd else h.2.2.2.1), h.2.2.2.2).1)), .int ((h.1, h.2.1, hFs h, (if hClk h.2.2.2.1 dd = true then dd else h.2.2.2.1), h.2.2.2.2).2.1), .int (nI (hFs (h.1, h.2.1, hFs h, (if hClk h.2.2.2.1 dd = true then dd else h.2.2.2.1), h.2.2.2.2))), .int ((h.1, h.2.1, hFs h, (if hClk h.2.2.2.1 dd = true then dd else h.2.2.2.1), h.2.2.2.2).2.2.2.1), .int ((h.1, h.2.1, hFs h, (if hClk h.2.2.2.1 dd = true then dd else h.2.2.2.1), h.2.2.2.2).2.2.2.2.1), .int ((h.1, h.2.1, hFs h, (if hClk h.2.2.2.1 dd = true then dd else h.2.2.2.1), h.2.2.2.2).2.2.2.2.2)]]) [hy]) : Aw X [hy] [ob 10 [.ref fb, .ref tp, .ref pa, .ref ju, .ref pl, .ref yr, .ref lg, .ref ha, .ref t1, .ref t2, .int (b2 h.1), .int h.2.1, .int (nI (hFs h)), .int h.2.2.2.1, .int h.2.2.2.2.1, .int h.2.2.2.2.2]] 0 [(0, .ref hy), (1, .int dd)] [] := by
  refine r_iload_n (n := 1) hX dX10_clock_0 rfl rfl 1 rfl ?_
  refine r_aload_n (n := 2) hX dX10_clock_1 rfl rfl 0 rfl ?_
  refine r_get (n := 5) hX 0 rfl rfl rfl 13 (by decide) lay_X10 fl_X10_83 rfl dX10_clock_2 rfl ?_
  refine r_icmp_lt (tgt := 14) (n := 8) hX dX10_clock_5 (by decide) rfl (fun c5 => ?_) (fun c5 => ?_)
  · skip
    refine r_iconst (n := 15) hX 0 dX10_clock_14 rfl rfl ?_
    exact r_zreturn hX hR rfl dX10_clock_15 (by have e : hClk h.2.2.2.1 dd = false := (by unfold hClk; rw [if_pos c5]); rw [e]; exact ⟨rfl, rfl⟩)
  · skip
    refine r_iload_n (n := 9) hX dX10_clock_8 rfl rfl 1 rfl ?_
    refine r_ldc (n := 11) hX dX10_clock_9 rfl kc_X10_114 ?_
    refine r_icmp_le (tgt := 16) (n := 14) hX dX10_clock_11 (by decide) rfl (fun c11 => ?_) (fun c11 => ?_)
    · skip
      refine r_aload_n (n := 17) hX dX10_clock_16 rfl rfl 0 rfl ?_
      refine r_iload_n (n := 18) hX dX10_clock_17 rfl rfl 1 rfl ?_
      refine r_put (n := 21) hX 0 rfl rfl rfl 13 [ob 10 [.ref fb, .ref tp, .ref pa, .ref ju, .ref pl, .ref yr, .ref lg, .ref ha, .ref t1, .ref t2, .int (b2 h.1), .int h.2.1, .int (nI (hFs h)), .int dd, .int h.2.2.2.2.1, .int h.2.2.2.2.2]] (by decide) lay_X10 tyX10 tyX10_ok nmX10 fl_X10_83 rfl rfl rfl (Nat.le_of_ble_eq_true rfl) rfl dX10_clock_18 rfl ?_
      refine r_iconst (n := 22) hX 1 dX10_clock_21 rfl rfl ?_
      exact r_zreturn hX hR rfl dX10_clock_22 (by have e : hClk h.2.2.2.1 dd = true := (by unfold hClk; rw [if_neg c5, if_pos c11]); rw [e]; exact ⟨rfl, rfl⟩)
    · skip
      refine r_iconst (n := 15) hX 0 dX10_clock_14 rfl rfl ?_
      exact r_zreturn hX hR rfl dX10_clock_15 (by have e : hClk h.2.2.2.1 dd = false := (by unfold hClk; rw [if_neg c5, if_neg c11]); rw [e]; exact ⟨rfl, rfl⟩)
theorem ct_X10_clock (l : Launch) (D : va_G) (hy fb tp pa ju pl yr lg ha t1 t2 : Nat) (h : HS) (dd : Int32)  : Ct l D m_X10_clock 0 [.ref hy, .int dd] [hy] [ob 10 [.ref fb, .ref tp, .ref pa, .ref ju, .ref pl, .ref yr, .ref lg, .ref ha, .ref t1, .ref t2, .int (b2 h.1), .int h.2.1, .int (nI (hFs h)), .int h.2.2.2.1, .int h.2.2.2.2.1, .int h.2.2.2.2.2]] (fun r es' => r = some (.int (b2 (hClk h.2.2.2.1 dd))) ∧ es' = [ob 10 [.ref fb, .ref tp, .ref pa, .ref ju, .ref pl, .ref yr, .ref lg, .ref ha, .ref t1, .ref t2, .int (b2 ((h.1, h.2.1, hFs h, (if hClk h.2.2.2.1 dd = true then dd else h.2.2.2.1), h.2.2.2.2).1)), .int ((h.1, h.2.1, hFs h, (if hClk h.2.2.2.1 dd = true then dd else h.2.2.2.1), h.2.2.2.2).2.1), .int (nI (hFs (h.1, h.2.1, hFs h, (if hClk h.2.2.2.1 dd = true then dd else h.2.2.2.1), h.2.2.2.2))), .int ((h.1, h.2.1, hFs h, (if hClk h.2.2.2.1 dd = true then dd else h.2.2.2.1), h.2.2.2.2).2.2.2.1), .int ((h.1, h.2.1, hFs h, (if hClk h.2.2.2.1 dd = true then dd else h.2.2.2.1), h.2.2.2.2).2.2.2.2.1), .int ((h.1, h.2.1, hFs h, (if hClk h.2.2.2.1 dd = true then dd else h.2.2.2.1), h.2.2.2.2).2.2.2.2.2)]]) :=
  Ct.ofA (own := RX10) (by decide) rfl (Nat.le_of_ble_eq_true rfl) rfl (fun X hl hD hX hR => by subst hl; subst hD; exact wk_X10_clock hX hy fb tp pa ju pl yr lg ha t1 t2 h dd hR)
set_option maxHeartbeats 1000000 in
set_option maxRecDepth 100000 in
theorem wk_X10_term {X : Cx} (hX : Ok X cX10_term 2 RX10 1) (hy fb tp pa ju pl yr lg ha t1 t2 : Nat) (h : HS) (dd : Int32)  (hR : Rt X (some FieldType.boolean) (fun r es' => r = some (.int (b2 (hDay dd))) ∧ es' = [ob 10 [.ref fb, .ref tp, .ref pa, .ref ju, .ref pl, .ref yr, .ref lg, .ref ha, .ref t1, .ref t2, .int (b2 ((h.1, h.2.1, hFs h, h.2.2.2.1, (if hDay dd = true then dd else h.2.2.2.2.1), h.2.2.2.2.2).1)), .int ((h.1, h.2.1, hFs h, h.2.2.2.1, (if hDay dd = true then dd else h.2.2.2.2.1), h.2.2.2.2.2).2.1), .int (nI (hFs (h.1, h.2.1, hFs h, h.2.2.2.1, (if hDay dd = true then dd else h.2.2.2.2.1), h.2.2.2.2.2))), .int ((h.1, h.2.1, hFs h, h.2.2.2.1, (if hDay dd = true then dd else h.2.2.2.2.1), h.2.2.2.2.2).2.2.2.1), .int ((h.1, h.2.1, hFs h, h.2.2.2.1, (if hDay dd = true then dd else h.2.2.2.2.1), h.2.2.2.2.2).2.2.2.2.1), .int ((h.1, h.2.1, hFs h, h.2.2.2.1, (if hDay dd = true then dd else h.2.2.2.2.1), h.2.2.2.2.2).2.2.2.2.2)]]) [hy]) : Aw X [hy] [ob 10 [.ref fb, .ref tp, .ref pa, .ref ju, .ref pl, .ref yr, .ref lg, .ref ha, .ref t1, .ref t2, .int (b2 h.1), .int h.2.1, .int (nI (hFs h)), .int h.2.2.2.1, .int h.2.2.2.2.1, .int h.2.2.2.2.2]] 0 [(0, .ref hy), (1, .int dd)] [] := by
  refine r_iload_n (n := 1) hX dX10_term_0 rfl rfl 1 rfl ?_
  refine r_callS (n := 4) (av := [.int dd]) hX (ct_X10_isDay (CxL X) (CxD X) dd) ml_X10_115 cs_X10_isDay rfl (by decide) [] rfl rfl (by decide) rfl (Nat.le_of_ble_eq_true rfl) dX10_term_1 rfl (fun r_ es_ h_ l_ => ?_)
  obtain ⟨rfl, rfl⟩ := h_
  show Aw X [hy] [ob 10 [.ref fb, .ref tp, .ref pa, .ref ju, .ref pl, .ref yr, .ref lg, .ref ha, .ref t1, .ref t2, .int (b2 h.1), .int h.2.1, .int (nI (hFs h)), .int h.2.2.2.1, .int h.2.2.2.2.1, .int h.2.2.2.2.2]] 4 [(0, .ref hy), (1, .int dd)] [.int (b2 (hDay dd))]
  refine r_if_ne_b (tgt := 9) (n := 7) hX dX10_term_4 (by decide) rfl (fun c4 => ?_) (fun c4 => ?_)
  · skip
    refine r_aload_n (n := 10) hX dX10_term_9 rfl rfl 0 rfl ?_
    refine r_iload_n (n := 11) hX dX10_term_10 rfl rfl 1 rfl ?_
    refine r_put (n := 14) hX 0 rfl rfl rfl 14 [ob 10 [.ref fb, .ref tp, .ref pa, .ref ju, .ref pl, .ref yr, .ref lg, .ref ha, .ref t1, .ref t2, .int (b2 h.1), .int h.2.1, .int (nI (hFs h)), .int h.2.2.2.1, .int dd, .int h.2.2.2.2.2]] (by decide) lay_X10 tyX10 tyX10_ok nmX10 fl_X10_86 rfl rfl rfl (Nat.le_of_ble_eq_true rfl) rfl dX10_term_11 rfl ?_
    refine r_iconst (n := 15) hX 1 dX10_term_14 rfl rfl ?_
    exact r_zreturn hX hR rfl dX10_term_15 (by rw [c4]; exact ⟨rfl, rfl⟩)
  · skip
    refine r_iconst (n := 8) hX 0 dX10_term_7 rfl rfl ?_
    exact r_zreturn hX hR rfl dX10_term_8 (by rw [c4]; exact ⟨rfl, rfl⟩)
theorem ct_X10_term (l : Launch) (D : va_G) (hy fb tp pa ju pl yr lg ha t1 t2 : Nat) (h : HS) (dd : Int32)  : Ct l D m_X10_term 1 [.ref hy, .int dd] [hy] [ob 10 [.ref fb, .ref tp, .ref pa, .ref ju, .ref pl, .ref yr, .ref lg, .ref ha, .ref t1, .ref t2, .int (b2 h.1), .int h.2.1, .int (nI (hFs h)), .int h.2.2.2.1, .int h.2.2.2.2.1, .int h.2.2.2.2.2]] (fun r es' => r = some (.int (b2 (hDay dd))) ∧ es' = [ob 10 [.ref fb, .ref tp, .ref pa, .ref ju, .ref pl, .ref yr, .ref lg, .ref ha, .ref t1, .ref t2, .int (b2 ((h.1, h.2.1, hFs h, h.2.2.2.1, (if hDay dd = true then dd else h.2.2.2.2.1), h.2.2.2.2.2).1)), .int ((h.1, h.2.1, hFs h, h.2.2.2.1, (if hDay dd = true then dd else h.2.2.2.2.1), h.2.2.2.2.2).2.1), .int (nI (hFs (h.1, h.2.1, hFs h, h.2.2.2.1, (if hDay dd = true then dd else h.2.2.2.2.1), h.2.2.2.2.2))), .int ((h.1, h.2.1, hFs h, h.2.2.2.1, (if hDay dd = true then dd else h.2.2.2.2.1), h.2.2.2.2.2).2.2.2.1), .int ((h.1, h.2.1, hFs h, h.2.2.2.1, (if hDay dd = true then dd else h.2.2.2.2.1), h.2.2.2.2.2).2.2.2.2.1), .int ((h.1, h.2.1, hFs h, h.2.2.2.1, (if hDay dd = true then dd else h.2.2.2.2.1), h.2.2.2.2.2).2.2.2.2.2)]]) :=
  Ct.ofA (own := RX10) (by decide) rfl (Nat.le_of_ble_eq_true rfl) rfl (fun X hl hD hX hR => by subst hl; subst hD; exact wk_X10_term hX hy fb tp pa ju pl yr lg ha t1 t2 h dd hR)
set_option maxHeartbeats 1000000 in
set_option maxRecDepth 100000 in
theorem wk_X10_tell_neg {X : Cx} (hX : Ok X cX10_tell 5 RX10 1) (hy fb tp pa ju pl yr lg ha t1 t2 : Nat) (h : HS) (f w v : Int32) (hn : hFs h ≤ 12) (hw : w < 0) (hR : Rt X (some FieldType.int) (fun r es' => r = some (.int (-1)) ∧ es' = [ob 10 [.ref fb, .ref tp, .ref pa, .ref ju, .ref pl, .ref yr, .ref lg, .ref ha, .ref t1, .ref t2, .int (b2 h.1), .int h.2.1, .int (nI (hFs h)), .int h.2.2.2.1, .int h.2.2.2.2.1, .int h.2.2.2.2.2]]) [hy]) : Aw X [hy] [ob 10 [.ref fb, .ref tp, .ref pa, .ref ju, .ref pl, .ref yr, .ref lg, .ref ha, .ref t1, .ref t2, .int (b2 h.1), .int h.2.1, .int (nI (hFs h)), .int h.2.2.2.1, .int h.2.2.2.2.1, .int h.2.2.2.2.2]] 0 [(0, .ref hy), (1, .int f), (2, .int w), (3, .int v)] [] := by
  refine r_aload_n (n := 1) hX dX10_tell_0 rfl rfl 0 rfl ?_
  refine r_iload_n (n := 2) hX dX10_tell_1 rfl rfl 2 rfl ?_
  refine r_callV (n := 5) (av := [.int w]) hX (ct_columnNeg (CxL X) (CxD X) hy fb tp pa ju pl yr lg ha t1 t2 h w hn hw) ml_X10_119 cv_X10_columnOf rfl (by decide) [0] rfl rfl (by decide) 0 rfl rfl rfl rfl rfl (Nat.le_of_ble_eq_true rfl) dX10_tell_2 rfl (fun r_ es_ h_ l_ => ?_)
  obtain ⟨rfl, rfl⟩ := h_
  show Aw X [hy] [ob 10 [.ref fb, .ref tp, .ref pa, .ref ju, .ref pl, .ref yr, .ref lg, .ref ha, .ref t1, .ref t2, .int (b2 h.1), .int h.2.1, .int (nI (hFs h)), .int h.2.2.2.1, .int h.2.2.2.2.1, .int h.2.2.2.2.2]] 5 [(0, .ref hy), (1, .int f), (2, .int w), (3, .int v)] [.int (-1)]
  refine r_istore (n := 7) hX [(0, .ref hy), (1, .int f), (2, .int w), (3, .int v), (4, .int (-1))] dX10_tell_5 rfl (by decide) rfl ?_
  refine r_aload_n (n := 8) hX dX10_tell_7 rfl rfl 0 rfl ?_
  refine r_iload_n (n := 9) hX dX10_tell_8 rfl rfl 1 rfl ?_
  refine r_callV (n := 12) (av := [.int f]) hX (ct_X10_isFamily (CxL X) (CxD X) hy fb tp pa ju pl yr lg ha t1 t2 h f) ml_X10_123 cv_X10_isFamily rfl (by decide) [0] rfl rfl (by decide) 0 rfl rfl rfl rfl rfl (Nat.le_of_ble_eq_true rfl) dX10_tell_9 rfl (fun r_ es_ h_ l_ => ?_)
  obtain ⟨rfl, rfl⟩ := h_
  show Aw X [hy] [ob 10 [.ref fb, .ref tp, .ref pa, .ref ju, .ref pl, .ref yr, .ref lg, .ref ha, .ref t1, .ref t2, .int (b2 h.1), .int h.2.1, .int (nI (hFs h)), .int h.2.2.2.1, .int h.2.2.2.2.1, .int h.2.2.2.2.2]] 12 [(0, .ref hy), (1, .int f), (2, .int w), (3, .int v), (4, .int (-1))] [.int (b2 (hFam (hFs h) f))]
  refine r_if_eq_b (tgt := 39) (n := 15) hX dX10_tell_12 (by decide) rfl (fun c12 => ?_) (fun c12 => ?_)
  · skip
    refine r_iconst (n := 40) hX (-1) dX10_tell_39 rfl rfl ?_
    exact r_ireturn hX hR dX10_tell_40 ⟨rfl, rfl⟩
  · skip
    refine r_iload (n := 17) hX dX10_tell_15 rfl 4 rfl ?_
    refine r_iconst (n := 18) hX (-1) dX10_tell_17 rfl rfl ?_
    refine r_icmp_eq (tgt := 39) (n := 21) hX dX10_tell_18 (by decide) rfl (fun _ => ?_) (fun h => False.elim (by revert h; decide))
    refine r_iconst (n := 40) hX (-1) dX10_tell_39 rfl rfl ?_
    exact r_ireturn hX hR dX10_tell_40 ⟨rfl, rfl⟩
theorem ct_X10_tell_neg (l : Launch) (D : va_G) (hy fb tp pa ju pl yr lg ha t1 t2 : Nat) (h : HS) (f w v : Int32) (hn : hFs h ≤ 12) (hw : w < 0) : Ct l D m_X10_tell 1 [.ref hy, .int f, .int w, .int v] [hy] [ob 10 [.ref fb, .ref tp, .ref pa, .ref ju, .ref pl, .ref yr, .ref lg, .ref ha, .ref t1, .ref t2, .int (b2 h.1), .int h.2.1, .int (nI (hFs h)), .int h.2.2.2.1, .int h.2.2.2.2.1, .int h.2.2.2.2.2]] (fun r es' => r = some (.int (-1)) ∧ es' = [ob 10 [.ref fb, .ref tp, .ref pa, .ref ju, .ref pl, .ref yr, .ref lg, .ref ha, .ref t1, .ref t2, .int (b2 h.1), .int h.2.1, .int (nI (hFs h)), .int h.2.2.2.1, .int h.2.2.2.2.1, .int h.2.2.2.2.2]]) :=
  Ct.ofA (own := RX10) (by decide) rfl (Nat.le_of_ble_eq_true rfl) rfl (fun X hl hD hX hR => by subst hl; subst hD; exact wk_X10_tell_neg hX hy fb tp pa ju pl yr lg ha t1 t2 h f w v hn hw hR)
set_option maxHeartbeats 1000000 in
set_option maxRecDepth 100000 in
theorem wk_X10_tell_bad {X : Cx} (hX : Ok X cX10_tell 5 RX10 1) (hy fb tp pa ju pl yr lg ha t1 t2 : Nat) (h : HS) (f v : Int32) (j : Nat) (hn : hFs h ≤ 12) (hj : j < 2 ^ 31) (hb : hFam (hFs h) f = false ∨ hCol (hFs h) j = none) (hR : Rt X (some FieldType.int) (fun r es' => r = some (.int (-1)) ∧ es' = [ob 10 [.ref fb, .ref tp, .ref pa, .ref ju, .ref pl, .ref yr, .ref lg, .ref ha, .ref t1, .ref t2, .int (b2 h.1), .int h.2.1, .int (nI (hFs h)), .int h.2.2.2.1, .int h.2.2.2.2.1, .int h.2.2.2.2.2]]) [hy]) : Aw X [hy] [ob 10 [.ref fb, .ref tp, .ref pa, .ref ju, .ref pl, .ref yr, .ref lg, .ref ha, .ref t1, .ref t2, .int (b2 h.1), .int h.2.1, .int (nI (hFs h)), .int h.2.2.2.1, .int h.2.2.2.2.1, .int h.2.2.2.2.2]] 0 [(0, .ref hy), (1, .int f), (2, .int (nI j)), (3, .int v)] [] := by
  refine r_aload_n (n := 1) hX dX10_tell_0 rfl rfl 0 rfl ?_
  refine r_iload_n (n := 2) hX dX10_tell_1 rfl rfl 2 rfl ?_
  refine r_callV (n := 5) (av := [.int (nI j)]) hX (ct_X10_columnOf (CxL X) (CxD X) hy fb tp pa ju pl yr lg ha t1 t2 h j hn hj) ml_X10_119 cv_X10_columnOf rfl (by decide) [0] rfl rfl (by decide) 0 rfl rfl rfl rfl rfl (Nat.le_of_ble_eq_true rfl) dX10_tell_2 rfl (fun r_ es_ h_ l_ => ?_)
  obtain ⟨rfl, rfl⟩ := h_
  show Aw X [hy] [ob 10 [.ref fb, .ref tp, .ref pa, .ref ju, .ref pl, .ref yr, .ref lg, .ref ha, .ref t1, .ref t2, .int (b2 h.1), .int h.2.1, .int (nI (hFs h)), .int h.2.2.2.1, .int h.2.2.2.2.1, .int h.2.2.2.2.2]] 5 [(0, .ref hy), (1, .int f), (2, .int (nI j)), (3, .int v)] [.int (eo (hCol (hFs h) j))]
  refine r_istore (n := 7) hX [(0, .ref hy), (1, .int f), (2, .int (nI j)), (3, .int v), (4, .int (eo (hCol (hFs h) j)))] dX10_tell_5 rfl (by decide) rfl ?_
  refine r_aload_n (n := 8) hX dX10_tell_7 rfl rfl 0 rfl ?_
  refine r_iload_n (n := 9) hX dX10_tell_8 rfl rfl 1 rfl ?_
  refine r_callV (n := 12) (av := [.int f]) hX (ct_X10_isFamily (CxL X) (CxD X) hy fb tp pa ju pl yr lg ha t1 t2 h f) ml_X10_123 cv_X10_isFamily rfl (by decide) [0] rfl rfl (by decide) 0 rfl rfl rfl rfl rfl (Nat.le_of_ble_eq_true rfl) dX10_tell_9 rfl (fun r_ es_ h_ l_ => ?_)
  obtain ⟨rfl, rfl⟩ := h_
  show Aw X [hy] [ob 10 [.ref fb, .ref tp, .ref pa, .ref ju, .ref pl, .ref yr, .ref lg, .ref ha, .ref t1, .ref t2, .int (b2 h.1), .int h.2.1, .int (nI (hFs h)), .int h.2.2.2.1, .int h.2.2.2.2.1, .int h.2.2.2.2.2]] 12 [(0, .ref hy), (1, .int f), (2, .int (nI j)), (3, .int v), (4, .int (eo (hCol (hFs h) j)))] [.int (b2 (hFam (hFs h) f))]
  refine r_if_eq_b (tgt := 39) (n := 15) hX dX10_tell_12 (by decide) rfl (fun c12 => ?_) (fun c12 => ?_)
  · skip
    refine r_iconst (n := 40) hX (-1) dX10_tell_39 rfl rfl ?_
    exact r_ireturn hX hR dX10_tell_40 ⟨rfl, rfl⟩
  · skip
    refine r_iload (n := 17) hX dX10_tell_15 rfl 4 rfl ?_
    refine r_iconst (n := 18) hX (-1) dX10_tell_17 rfl rfl ?_
    refine r_icmp_eq_o (tgt := 39) (n := 21) (x := hCol (hFs h) j) hX (fun r e => Nat.lt_trans (hCol_lt hn e) (by decide)) dX10_tell_18 (by decide) rfl (fun c18 => ?_) (fun c18 => absurd c18 (fun e => hb.elim (fun q => by rw [q] at c12; cases c12) e))
    refine r_iconst (n := 40) hX (-1) dX10_tell_39 rfl rfl ?_
    exact r_ireturn hX hR dX10_tell_40 ⟨rfl, rfl⟩
theorem ct_X10_tell_bad (l : Launch) (D : va_G) (hy fb tp pa ju pl yr lg ha t1 t2 : Nat) (h : HS) (f v : Int32) (j : Nat) (hn : hFs h ≤ 12) (hj : j < 2 ^ 31) (hb : hFam (hFs h) f = false ∨ hCol (hFs h) j = none) : Ct l D m_X10_tell 1 [.ref hy, .int f, .int (nI j), .int v] [hy] [ob 10 [.ref fb, .ref tp, .ref pa, .ref ju, .ref pl, .ref yr, .ref lg, .ref ha, .ref t1, .ref t2, .int (b2 h.1), .int h.2.1, .int (nI (hFs h)), .int h.2.2.2.1, .int h.2.2.2.2.1, .int h.2.2.2.2.2]] (fun r es' => r = some (.int (-1)) ∧ es' = [ob 10 [.ref fb, .ref tp, .ref pa, .ref ju, .ref pl, .ref yr, .ref lg, .ref ha, .ref t1, .ref t2, .int (b2 h.1), .int h.2.1, .int (nI (hFs h)), .int h.2.2.2.1, .int h.2.2.2.2.1, .int h.2.2.2.2.2]]) :=
  Ct.ofA (own := RX10) (by decide) rfl (Nat.le_of_ble_eq_true rfl) rfl (fun X hl hD hX hR => by subst hl; subst hD; exact wk_X10_tell_bad hX hy fb tp pa ju pl yr lg ha t1 t2 h f v j hn hj hb hR)
set_option maxHeartbeats 1000000 in
set_option maxRecDepth 100000 in
theorem wk_X10_known_neg {X : Cx} (hX : Ok X cX10_known 5 RX10 1) (hy fb tp pa ju pl yr lg ha t1 t2 : Nat) (h : HS) (f w v : Int32) (hn : hFs h ≤ 12) (hw : w < 0) (hR : Rt X (some FieldType.int) (fun r es' => r = some (.int (0)) ∧ es' = [ob 10 [.ref fb, .ref tp, .ref pa, .ref ju, .ref pl, .ref yr, .ref lg, .ref ha, .ref t1, .ref t2, .int (b2 h.1), .int h.2.1, .int (nI (hFs h)), .int h.2.2.2.1, .int h.2.2.2.2.1, .int h.2.2.2.2.2]]) [hy]) : Aw X [hy] [ob 10 [.ref fb, .ref tp, .ref pa, .ref ju, .ref pl, .ref yr, .ref lg, .ref ha, .ref t1, .ref t2, .int (b2 h.1), .int h.2.1, .int (nI (hFs h)), .int h.2.2.2.1, .int h.2.2.2.2.1, .int h.2.2.2.2.2]] 0 [(0, .ref hy), (1, .int f), (2, .int w), (3, .int v)] [] := by
  refine r_aload_n (n := 1) hX dX10_known_0 rfl rfl 0 rfl ?_
  refine r_iload_n (n := 2) hX dX10_known_1 rfl rfl 2 rfl ?_
  refine r_callV (n := 5) (av := [.int w]) hX (ct_columnNeg (CxL X) (CxD X) hy fb tp pa ju pl yr lg ha t1 t2 h w hn hw) ml_X10_119 cv_X10_columnOf rfl (by decide) [0] rfl rfl (by decide) 0 rfl rfl rfl rfl rfl (Nat.le_of_ble_eq_true rfl) dX10_known_2 rfl (fun r_ es_ h_ l_ => ?_)
  obtain ⟨rfl, rfl⟩ := h_
  show Aw X [hy] [ob 10 [.ref fb, .ref tp, .ref pa, .ref ju, .ref pl, .ref yr, .ref lg, .ref ha, .ref t1, .ref t2, .int (b2 h.1), .int h.2.1, .int (nI (hFs h)), .int h.2.2.2.1, .int h.2.2.2.2.1, .int h.2.2.2.2.2]] 5 [(0, .ref hy), (1, .int f), (2, .int w), (3, .int v)] [.int (-1)]
  refine r_istore (n := 7) hX [(0, .ref hy), (1, .int f), (2, .int w), (3, .int v), (4, .int (-1))] dX10_known_5 rfl (by decide) rfl ?_
  refine r_aload_n (n := 8) hX dX10_known_7 rfl rfl 0 rfl ?_
  refine r_iload_n (n := 9) hX dX10_known_8 rfl rfl 1 rfl ?_
  refine r_callV (n := 12) (av := [.int f]) hX (ct_X10_isFamily (CxL X) (CxD X) hy fb tp pa ju pl yr lg ha t1 t2 h f) ml_X10_123 cv_X10_isFamily rfl (by decide) [0] rfl rfl (by decide) 0 rfl rfl rfl rfl rfl (Nat.le_of_ble_eq_true rfl) dX10_known_9 rfl (fun r_ es_ h_ l_ => ?_)
  obtain ⟨rfl, rfl⟩ := h_
  show Aw X [hy] [ob 10 [.ref fb, .ref tp, .ref pa, .ref ju, .ref pl, .ref yr, .ref lg, .ref ha, .ref t1, .ref t2, .int (b2 h.1), .int h.2.1, .int (nI (hFs h)), .int h.2.2.2.1, .int h.2.2.2.2.1, .int h.2.2.2.2.2]] 12 [(0, .ref hy), (1, .int f), (2, .int w), (3, .int v), (4, .int (-1))] [.int (b2 (hFam (hFs h) f))]
  refine r_if_eq_b (tgt := 28) (n := 15) hX dX10_known_12 (by decide) rfl (fun c12 => ?_) (fun c12 => ?_)
  · skip
    refine r_iconst (n := 29) hX 0 dX10_known_28 rfl rfl ?_
    exact r_ireturn hX hR dX10_known_29 ⟨rfl, rfl⟩
  · skip
    refine r_iload (n := 17) hX dX10_known_15 rfl 4 rfl ?_
    refine r_iconst (n := 18) hX (-1) dX10_known_17 rfl rfl ?_
    refine r_icmp_eq (tgt := 28) (n := 21) hX dX10_known_18 (by decide) rfl (fun _ => ?_) (fun h => False.elim (by revert h; decide))
    refine r_iconst (n := 29) hX 0 dX10_known_28 rfl rfl ?_
    exact r_ireturn hX hR dX10_known_29 ⟨rfl, rfl⟩
theorem ct_X10_known_neg (l : Launch) (D : va_G) (hy fb tp pa ju pl yr lg ha t1 t2 : Nat) (h : HS) (f w v : Int32) (hn : hFs h ≤ 12) (hw : w < 0) : Ct l D m_X10_known 1 [.ref hy, .int f, .int w, .int v] [hy] [ob 10 [.ref fb, .ref tp, .ref pa, .ref ju, .ref pl, .ref yr, .ref lg, .ref ha, .ref t1, .ref t2, .int (b2 h.1), .int h.2.1, .int (nI (hFs h)), .int h.2.2.2.1, .int h.2.2.2.2.1, .int h.2.2.2.2.2]] (fun r es' => r = some (.int (0)) ∧ es' = [ob 10 [.ref fb, .ref tp, .ref pa, .ref ju, .ref pl, .ref yr, .ref lg, .ref ha, .ref t1, .ref t2, .int (b2 h.1), .int h.2.1, .int (nI (hFs h)), .int h.2.2.2.1, .int h.2.2.2.2.1, .int h.2.2.2.2.2]]) :=
  Ct.ofA (own := RX10) (by decide) rfl (Nat.le_of_ble_eq_true rfl) rfl (fun X hl hD hX hR => by subst hl; subst hD; exact wk_X10_known_neg hX hy fb tp pa ju pl yr lg ha t1 t2 h f w v hn hw hR)
set_option maxHeartbeats 1000000 in
set_option maxRecDepth 100000 in
theorem wk_X10_known_bad {X : Cx} (hX : Ok X cX10_known 5 RX10 1) (hy fb tp pa ju pl yr lg ha t1 t2 : Nat) (h : HS) (f v : Int32) (j : Nat) (hn : hFs h ≤ 12) (hj : j < 2 ^ 31) (hb : hFam (hFs h) f = false ∨ hCol (hFs h) j = none) (hR : Rt X (some FieldType.int) (fun r es' => r = some (.int (0)) ∧ es' = [ob 10 [.ref fb, .ref tp, .ref pa, .ref ju, .ref pl, .ref yr, .ref lg, .ref ha, .ref t1, .ref t2, .int (b2 h.1), .int h.2.1, .int (nI (hFs h)), .int h.2.2.2.1, .int h.2.2.2.2.1, .int h.2.2.2.2.2]]) [hy]) : Aw X [hy] [ob 10 [.ref fb, .ref tp, .ref pa, .ref ju, .ref pl, .ref yr, .ref lg, .ref ha, .ref t1, .ref t2, .int (b2 h.1), .int h.2.1, .int (nI (hFs h)), .int h.2.2.2.1, .int h.2.2.2.2.1, .int h.2.2.2.2.2]] 0 [(0, .ref hy), (1, .int f), (2, .int (nI j)), (3, .int v)] [] := by
  refine r_aload_n (n := 1) hX dX10_known_0 rfl rfl 0 rfl ?_
  refine r_iload_n (n := 2) hX dX10_known_1 rfl rfl 2 rfl ?_
  refine r_callV (n := 5) (av := [.int (nI j)]) hX (ct_X10_columnOf (CxL X) (CxD X) hy fb tp pa ju pl yr lg ha t1 t2 h j hn hj) ml_X10_119 cv_X10_columnOf rfl (by decide) [0] rfl rfl (by decide) 0 rfl rfl rfl rfl rfl (Nat.le_of_ble_eq_true rfl) dX10_known_2 rfl (fun r_ es_ h_ l_ => ?_)
  obtain ⟨rfl, rfl⟩ := h_
  show Aw X [hy] [ob 10 [.ref fb, .ref tp, .ref pa, .ref ju, .ref pl, .ref yr, .ref lg, .ref ha, .ref t1, .ref t2, .int (b2 h.1), .int h.2.1, .int (nI (hFs h)), .int h.2.2.2.1, .int h.2.2.2.2.1, .int h.2.2.2.2.2]] 5 [(0, .ref hy), (1, .int f), (2, .int (nI j)), (3, .int v)] [.int (eo (hCol (hFs h) j))]
  refine r_istore (n := 7) hX [(0, .ref hy), (1, .int f), (2, .int (nI j)), (3, .int v), (4, .int (eo (hCol (hFs h) j)))] dX10_known_5 rfl (by decide) rfl ?_
  refine r_aload_n (n := 8) hX dX10_known_7 rfl rfl 0 rfl ?_
  refine r_iload_n (n := 9) hX dX10_known_8 rfl rfl 1 rfl ?_
  refine r_callV (n := 12) (av := [.int f]) hX (ct_X10_isFamily (CxL X) (CxD X) hy fb tp pa ju pl yr lg ha t1 t2 h f) ml_X10_123 cv_X10_isFamily rfl (by decide) [0] rfl rfl (by decide) 0 rfl rfl rfl rfl rfl (Nat.le_of_ble_eq_true rfl) dX10_known_9 rfl (fun r_ es_ h_ l_ => ?_)
  obtain ⟨rfl, rfl⟩ := h_
  show Aw X [hy] [ob 10 [.ref fb, .ref tp, .ref pa, .ref ju, .ref pl, .ref yr, .ref lg, .ref ha, .ref t1, .ref t2, .int (b2 h.1), .int h.2.1, .int (nI (hFs h)), .int h.2.2.2.1, .int h.2.2.2.2.1, .int h.2.2.2.2.2]] 12 [(0, .ref hy), (1, .int f), (2, .int (nI j)), (3, .int v), (4, .int (eo (hCol (hFs h) j)))] [.int (b2 (hFam (hFs h) f))]
  refine r_if_eq_b (tgt := 28) (n := 15) hX dX10_known_12 (by decide) rfl (fun c12 => ?_) (fun c12 => ?_)
  · skip
    refine r_iconst (n := 29) hX 0 dX10_known_28 rfl rfl ?_
    exact r_ireturn hX hR dX10_known_29 ⟨rfl, rfl⟩
  · skip
    refine r_iload (n := 17) hX dX10_known_15 rfl 4 rfl ?_
    refine r_iconst (n := 18) hX (-1) dX10_known_17 rfl rfl ?_
    refine r_icmp_eq_o (tgt := 28) (n := 21) (x := hCol (hFs h) j) hX (fun r e => Nat.lt_trans (hCol_lt hn e) (by decide)) dX10_known_18 (by decide) rfl (fun c18 => ?_) (fun c18 => absurd c18 (fun e => hb.elim (fun q => by rw [q] at c12; cases c12) e))
    refine r_iconst (n := 29) hX 0 dX10_known_28 rfl rfl ?_
    exact r_ireturn hX hR dX10_known_29 ⟨rfl, rfl⟩
theorem ct_X10_known_bad (l : Launch) (D : va_G) (hy fb tp pa ju pl yr lg ha t1 t2 : Nat) (h : HS) (f v : Int32) (j : Nat) (hn : hFs h ≤ 12) (hj : j < 2 ^ 31) (hb : hFam (hFs h) f = false ∨ hCol (hFs h) j = none) : Ct l D m_X10_known 1 [.ref hy, .int f, .int (nI j), .int v] [hy] [ob 10 [.ref fb, .ref tp, .ref pa, .ref ju, .ref pl, .ref yr, .ref lg, .ref ha, .ref t1, .ref t2, .int (b2 h.1), .int h.2.1, .int (nI (hFs h)), .int h.2.2.2.1, .int h.2.2.2.2.1, .int h.2.2.2.2.2]] (fun r es' => r = some (.int (0)) ∧ es' = [ob 10 [.ref fb, .ref tp, .ref pa, .ref ju, .ref pl, .ref yr, .ref lg, .ref ha, .ref t1, .ref t2, .int (b2 h.1), .int h.2.1, .int (nI (hFs h)), .int h.2.2.2.1, .int h.2.2.2.2.1, .int h.2.2.2.2.2]]) :=
  Ct.ofA (own := RX10) (by decide) rfl (Nat.le_of_ble_eq_true rfl) rfl (fun X hl hD hX hR => by subst hl; subst hD; exact wk_X10_known_bad hX hy fb tp pa ju pl yr lg ha t1 t2 h f v j hn hj hb hR)
def hTell (s : FB) (f c : Nat) (v dy : Int32) : Int32 × FB := if v < hLeast c then (-1, s) else if v ≤ hMost c then fbAdd s (nI (f * 26 + c)) v dy else (-1, s)
set_option maxHeartbeats 1000000 in
set_option maxRecDepth 100000 in
theorem wk_X10_tell {X : Cx} (hX : Ok X cX10_tell 5 RX10 1) (hy fb tp pa ju pl yr lg ha t1 t2 : Nat) (f0 f1 f2 : Nat) (h : HS) (s : FB) (f j c : Nat) (v : Int32) (hn : hFs h ≤ 12) (hj : j < 2 ^ 31) (hcol : hCol (hFs h) j = some c) (hf : f < hFs h) (hs : s.2.2.2 ≤ 400) (hR : Rt X (some FieldType.int) (fun r es' => r = some (.int (hTell s f c v h.2.2.2.1).1) ∧ es' = [ob 10 [.ref fb, .ref tp, .ref pa, .ref ju, .ref pl, .ref yr, .ref lg, .ref ha, .ref t1, .ref t2, .int (b2 h.1), .int h.2.1, .int (nI (hFs h)), .int h.2.2.2.1, .int h.2.2.2.2.1, .int h.2.2.2.2.2], ob 0 [.ref f0, .ref f1, .ref f2, .int (nI ((hTell s f c v h.2.2.2.1).2.2.2.2))], aI (CxD X) 400 ((hTell s f c v h.2.2.2.1).2.1), aI (CxD X) 400 ((hTell s f c v h.2.2.2.1).2.2.1), aI (CxD X) 400 ((hTell s f c v h.2.2.2.1).2.2.2.1)]) [hy, fb, f0, f1, f2]) : Aw X [hy, fb, f0, f1, f2] [ob 10 [.ref fb, .ref tp, .ref pa, .ref ju, .ref pl, .ref yr, .ref lg, .ref ha, .ref t1, .ref t2, .int (b2 h.1), .int h.2.1, .int (nI (hFs h)), .int h.2.2.2.1, .int h.2.2.2.2.1, .int h.2.2.2.2.2], ob 0 [.ref f0, .ref f1, .ref f2, .int (nI s.2.2.2)], aI (CxD X) 400 s.1, aI (CxD X) 400 s.2.1, aI (CxD X) 400 s.2.2.1] 0 [(0, .ref hy), (1, .int (nI f)), (2, .int (nI j)), (3, .int v)] [] := by
  have hc26 := hCol_lt hn hcol
  refine r_aload_n (n := 1) hX dX10_tell_0 rfl rfl 0 rfl ?_
  refine r_iload_n (n := 2) hX dX10_tell_1 rfl rfl 2 rfl ?_
  refine r_callV (n := 5) (av := [.int (nI j)]) hX (ct_X10_columnOf (CxL X) (CxD X) hy fb tp pa ju pl yr lg ha t1 t2 h j hn hj) ml_X10_119 cv_X10_columnOf rfl (by decide) [0] rfl rfl (by decide) 0 rfl rfl rfl rfl rfl (Nat.le_of_ble_eq_true rfl) dX10_tell_2 rfl (fun r_ es_ h_ l_ => ?_)
  obtain ⟨rfl, rfl⟩ := h_
  show Aw X [hy, fb, f0, f1, f2] [ob 10 [.ref fb, .ref tp, .ref pa, .ref ju, .ref pl, .ref yr, .ref lg, .ref ha, .ref t1, .ref t2, .int (b2 h.1), .int h.2.1, .int (nI (hFs h)), .int h.2.2.2.1, .int h.2.2.2.2.1, .int h.2.2.2.2.2], ob 0 [.ref f0, .ref f1, .ref f2, .int (nI s.2.2.2)], aI (CxD X) 400 s.1, aI (CxD X) 400 s.2.1, aI (CxD X) 400 s.2.2.1] 5 [(0, .ref hy), (1, .int (nI f)), (2, .int (nI j)), (3, .int v)] [.int (eo (hCol (hFs h) j))]
  refine Aw.topi (nI c) (by rw [hcol]; rfl) ?_
  skip
  refine r_istore (n := 7) hX [(0, .ref hy), (1, .int (nI f)), (2, .int (nI j)), (3, .int v), (4, .int (nI c))] dX10_tell_5 rfl (by decide) rfl ?_
  refine r_aload_n (n := 8) hX dX10_tell_7 rfl rfl 0 rfl ?_
  refine r_iload_n (n := 9) hX dX10_tell_8 rfl rfl 1 rfl ?_
  refine r_callV (n := 12) (av := [.int (nI f)]) hX (ct_X10_isFamily (CxL X) (CxD X) hy fb tp pa ju pl yr lg ha t1 t2 h (nI f)) ml_X10_123 cv_X10_isFamily rfl (by decide) [0] rfl rfl (by decide) 0 rfl rfl rfl rfl rfl (Nat.le_of_ble_eq_true rfl) dX10_tell_9 rfl (fun r_ es_ h_ l_ => ?_)
  obtain ⟨rfl, rfl⟩ := h_
  show Aw X [hy, fb, f0, f1, f2] [ob 10 [.ref fb, .ref tp, .ref pa, .ref ju, .ref pl, .ref yr, .ref lg, .ref ha, .ref t1, .ref t2, .int (b2 h.1), .int h.2.1, .int (nI (hFs h)), .int h.2.2.2.1, .int h.2.2.2.2.1, .int h.2.2.2.2.2], ob 0 [.ref f0, .ref f1, .ref f2, .int (nI s.2.2.2)], aI (CxD X) 400 s.1, aI (CxD X) 400 s.2.1, aI (CxD X) 400 s.2.2.1] 12 [(0, .ref hy), (1, .int (nI f)), (2, .int (nI j)), (3, .int v), (4, .int (nI c))] [.int (b2 (hFam (hFs h) (nI f)))]
  refine r_if_eq_b (tgt := 39) (n := 15) hX dX10_tell_12 (by decide) rfl (fun c12 => absurd c12 (by rw [hFam_of hn hf]; decide)) (fun c12 => ?_)
  refine r_iload (n := 17) hX dX10_tell_15 rfl 4 rfl ?_
  refine r_iconst (n := 18) hX (-1) dX10_tell_17 rfl rfl ?_
  refine r_icmp_eq (tgt := 39) (n := 21) hX dX10_tell_18 (by decide) rfl (fun c18 => absurd c18 (nI_ne_m1 (by omega))) (fun c18 => ?_)
  refine r_iload_n (n := 22) hX dX10_tell_21 rfl rfl 3 rfl ?_
  refine r_iload (n := 24) hX dX10_tell_22 rfl 4 rfl ?_
  refine r_callS (n := 27) (av := [.int (nI c)]) hX (ct_X10_leastOf (CxL X) (CxD X) c (by omega)) ml_X10_126 cs_X10_leastOf rfl (by decide) [] rfl rfl (by decide) rfl (Nat.le_of_ble_eq_true rfl) dX10_tell_24 rfl (fun r_ es_ h_ l_ => ?_)
  obtain ⟨rfl, rfl⟩ := h_
  show Aw X [hy, fb, f0, f1, f2] [ob 10 [.ref fb, .ref tp, .ref pa, .ref ju, .ref pl, .ref yr, .ref lg, .ref ha, .ref t1, .ref t2, .int (b2 h.1), .int h.2.1, .int (nI (hFs h)), .int h.2.2.2.1, .int h.2.2.2.2.1, .int h.2.2.2.2.2], ob 0 [.ref f0, .ref f1, .ref f2, .int (nI s.2.2.2)], aI (CxD X) 400 s.1, aI (CxD X) 400 s.2.1, aI (CxD X) 400 s.2.2.1] 27 [(0, .ref hy), (1, .int (nI f)), (2, .int (nI j)), (3, .int v), (4, .int (nI c))] [.int (hLeast c), .int v]
  refine r_icmp_lt (tgt := 39) (n := 30) hX dX10_tell_27 (by decide) rfl (fun c27 => ?_) (fun c27 => ?_)
  · skip
    refine r_iconst (n := 40) hX (-1) dX10_tell_39 rfl rfl ?_
    exact r_ireturn hX hR dX10_tell_40 (by unfold hTell; rw [if_pos c27]; exact ⟨rfl, rfl⟩)
  · skip
    refine r_iload_n (n := 31) hX dX10_tell_30 rfl rfl 3 rfl ?_
    refine r_iload (n := 33) hX dX10_tell_31 rfl 4 rfl ?_
    refine r_callS (n := 36) (av := [.int (nI c)]) hX (ct_X10_mostOf (CxL X) (CxD X) c (by omega)) ml_X10_129 cs_X10_mostOf rfl (by decide) [] rfl rfl (by decide) rfl (Nat.le_of_ble_eq_true rfl) dX10_tell_33 rfl (fun r_ es_ h_ l_ => ?_)
    obtain ⟨rfl, rfl⟩ := h_
    show Aw X [hy, fb, f0, f1, f2] [ob 10 [.ref fb, .ref tp, .ref pa, .ref ju, .ref pl, .ref yr, .ref lg, .ref ha, .ref t1, .ref t2, .int (b2 h.1), .int h.2.1, .int (nI (hFs h)), .int h.2.2.2.1, .int h.2.2.2.2.1, .int h.2.2.2.2.2], ob 0 [.ref f0, .ref f1, .ref f2, .int (nI s.2.2.2)], aI (CxD X) 400 s.1, aI (CxD X) 400 s.2.1, aI (CxD X) 400 s.2.2.1] 36 [(0, .ref hy), (1, .int (nI f)), (2, .int (nI j)), (3, .int v), (4, .int (nI c))] [.int (hMost c), .int v]
    refine r_icmp_le (tgt := 41) (n := 39) hX dX10_tell_36 (by decide) rfl (fun c36 => ?_) (fun c36 => ?_)
    · skip
      refine r_aload_n (n := 42) hX dX10_tell_41 rfl rfl 0 rfl ?_
      refine r_get (n := 45) hX 0 rfl rfl rfl 0 (by decide) lay_X10 fl_X10_10 rfl dX10_tell_42 rfl ?_
      refine r_iload_n (n := 46) hX dX10_tell_45 rfl rfl 1 rfl ?_
      refine r_bipush (n := 48) hX 26 dX10_tell_46 rfl rfl ?_
      refine r_imul (n := 49) hX dX10_tell_48 rfl ?_
      refine Aw.topi (nI (f * 26)) (pk_mul _ _) ?_
      refine r_iload (n := 51) hX dX10_tell_49 rfl 4 rfl ?_
      refine r_iadd (n := 52) hX dX10_tell_51 rfl ?_
      refine Aw.topi (nI ((f * 26) + c)) (nI_add _ _) ?_
      refine r_iload_n (n := 53) hX dX10_tell_52 rfl rfl 3 rfl ?_
      refine r_aload_n (n := 54) hX dX10_tell_53 rfl rfl 0 rfl ?_
      refine r_get (n := 57) hX 0 rfl rfl rfl 13 (by decide) lay_X10 fl_X10_83 rfl dX10_tell_54 rfl ?_
      refine r_callV (n := 60) (av := [.int (nI ((f * 26) + c)), .int v, .int h.2.2.2.1]) hX (ct_X0_add (CxL X) (CxD X) fb f0 f1 f2 s (nI ((f * 26) + c)) v h.2.2.2.1 hs) ml_X10_132 cv_X0_add rfl (by decide) [1, 2, 3, 4] rfl rfl (by decide) 1 rfl rfl rfl rfl rfl (Nat.le_of_ble_eq_true rfl) dX10_tell_57 rfl (fun r_ es_ h_ l_ => ?_)
      obtain ⟨rfl, rfl⟩ := h_
      show Aw X [hy, fb, f0, f1, f2] [ob 10 [.ref fb, .ref tp, .ref pa, .ref ju, .ref pl, .ref yr, .ref lg, .ref ha, .ref t1, .ref t2, .int (b2 h.1), .int h.2.1, .int (nI (hFs h)), .int h.2.2.2.1, .int h.2.2.2.2.1, .int h.2.2.2.2.2], ob 0 [.ref f0, .ref f1, .ref f2, .int (nI ((fbAdd s (nI ((f * 26) + c)) v h.2.2.2.1).2.2.2.2))], aI (CxD X) 400 ((fbAdd s (nI ((f * 26) + c)) v h.2.2.2.1).2.1), aI (CxD X) 400 ((fbAdd s (nI ((f * 26) + c)) v h.2.2.2.1).2.2.1), aI (CxD X) 400 ((fbAdd s (nI ((f * 26) + c)) v h.2.2.2.1).2.2.2.1)] 60 [(0, .ref hy), (1, .int (nI f)), (2, .int (nI j)), (3, .int v), (4, .int (nI c))] [.int ((fbAdd s (nI ((f * 26) + c)) v h.2.2.2.1).1)]
      exact r_ireturn hX hR dX10_tell_60 (by unfold hTell; rw [if_neg c27, if_pos c36]; exact ⟨rfl, rfl⟩)
    · skip
      refine r_iconst (n := 40) hX (-1) dX10_tell_39 rfl rfl ?_
      exact r_ireturn hX hR dX10_tell_40 (by unfold hTell; rw [if_neg c27, if_neg c36]; exact ⟨rfl, rfl⟩)
theorem ct_X10_tell (l : Launch) (D : va_G) (hy fb tp pa ju pl yr lg ha t1 t2 : Nat) (f0 f1 f2 : Nat) (h : HS) (s : FB) (f j c : Nat) (v : Int32) (hn : hFs h ≤ 12) (hj : j < 2 ^ 31) (hcol : hCol (hFs h) j = some c) (hf : f < hFs h) (hs : s.2.2.2 ≤ 400) : Ct l D m_X10_tell 1 [.ref hy, .int (nI f), .int (nI j), .int v] [hy, fb, f0, f1, f2] [ob 10 [.ref fb, .ref tp, .ref pa, .ref ju, .ref pl, .ref yr, .ref lg, .ref ha, .ref t1, .ref t2, .int (b2 h.1), .int h.2.1, .int (nI (hFs h)), .int h.2.2.2.1, .int h.2.2.2.2.1, .int h.2.2.2.2.2], ob 0 [.ref f0, .ref f1, .ref f2, .int (nI s.2.2.2)], aI D 400 s.1, aI D 400 s.2.1, aI D 400 s.2.2.1] (fun r es' => r = some (.int (hTell s f c v h.2.2.2.1).1) ∧ es' = [ob 10 [.ref fb, .ref tp, .ref pa, .ref ju, .ref pl, .ref yr, .ref lg, .ref ha, .ref t1, .ref t2, .int (b2 h.1), .int h.2.1, .int (nI (hFs h)), .int h.2.2.2.1, .int h.2.2.2.2.1, .int h.2.2.2.2.2], ob 0 [.ref f0, .ref f1, .ref f2, .int (nI ((hTell s f c v h.2.2.2.1).2.2.2.2))], aI D 400 ((hTell s f c v h.2.2.2.1).2.1), aI D 400 ((hTell s f c v h.2.2.2.1).2.2.1), aI D 400 ((hTell s f c v h.2.2.2.1).2.2.2.1)]) :=
  Ct.ofA (own := RX10) (by decide) rfl (Nat.le_of_ble_eq_true rfl) rfl (fun X hl hD hX hR => by subst hl; subst hD; exact wk_X10_tell hX hy fb tp pa ju pl yr lg ha t1 t2 f0 f1 f2 h s f j c v hn hj hcol hf hs hR)
set_option maxHeartbeats 1000000 in
set_option maxRecDepth 100000 in
theorem wk_X10_known {X : Cx} (hX : Ok X cX10_known 5 RX10 1) (hy fb tp pa ju pl yr lg ha t1 t2 : Nat) (f0 f1 f2 : Nat) (h : HS) (s : FB) (f j c : Nat) (v : Int32) (hn : hFs h ≤ 12) (hj : j < 2 ^ 31) (hcol : hCol (hFs h) j = some c) (hf : f < hFs h) (hs : s.2.2.2 ≤ 400) (hR : Rt X (some FieldType.int) (fun r es' => r = some (.int (if hDay v = true then fbLatest s (nI (f * 26 + c)) v s.2.2.2 else 0)) ∧ es' = [ob 10 [.ref fb, .ref tp, .ref pa, .ref ju, .ref pl, .ref yr, .ref lg, .ref ha, .ref t1, .ref t2, .int (b2 h.1), .int h.2.1, .int (nI (hFs h)), .int h.2.2.2.1, .int h.2.2.2.2.1, .int h.2.2.2.2.2], ob 0 [.ref f0, .ref f1, .ref f2, .int (nI s.2.2.2)], aI (CxD X) 400 s.1, aI (CxD X) 400 s.2.1, aI (CxD X) 400 s.2.2.1]) [hy, fb, f0, f1, f2]) : Aw X [hy, fb, f0, f1, f2] [ob 10 [.ref fb, .ref tp, .ref pa, .ref ju, .ref pl, .ref yr, .ref lg, .ref ha, .ref t1, .ref t2, .int (b2 h.1), .int h.2.1, .int (nI (hFs h)), .int h.2.2.2.1, .int h.2.2.2.2.1, .int h.2.2.2.2.2], ob 0 [.ref f0, .ref f1, .ref f2, .int (nI s.2.2.2)], aI (CxD X) 400 s.1, aI (CxD X) 400 s.2.1, aI (CxD X) 400 s.2.2.1] 0 [(0, .ref hy), (1, .int (nI f)), (2, .int (nI j)), (3, .int v)] [] := by
  have hc26 := hCol_lt hn hcol
  refine r_aload_n (n := 1) hX dX10_known_0 rfl rfl 0 rfl ?_
  refine r_iload_n (n := 2) hX dX10_known_1 rfl rfl 2 rfl ?_
  refine r_callV (n := 5) (av := [.int (nI j)]) hX (ct_X10_columnOf (CxL X) (CxD X) hy fb tp pa ju pl yr lg ha t1 t2 h j hn hj) ml_X10_119 cv_X10_columnOf rfl (by decide) [0] rfl rfl (by decide) 0 rfl rfl rfl rfl rfl (Nat.le_of_ble_eq_true rfl) dX10_known_2 rfl (fun r_ es_ h_ l_ => ?_)
  obtain ⟨rfl, rfl⟩ := h_
  show Aw X [hy, fb, f0, f1, f2] [ob 10 [.ref fb, .ref tp, .ref pa, .ref ju, .ref pl, .ref yr, .ref lg, .ref ha, .ref t1, .ref t2, .int (b2 h.1), .int h.2.1, .int (nI (hFs h)), .int h.2.2.2.1, .int h.2.2.2.2.1, .int h.2.2.2.2.2], ob 0 [.ref f0, .ref f1, .ref f2, .int (nI s.2.2.2)], aI (CxD X) 400 s.1, aI (CxD X) 400 s.2.1, aI (CxD X) 400 s.2.2.1] 5 [(0, .ref hy), (1, .int (nI f)), (2, .int (nI j)), (3, .int v)] [.int (eo (hCol (hFs h) j))]
  refine Aw.topi (nI c) (by rw [hcol]; rfl) ?_
  skip
  refine r_istore (n := 7) hX [(0, .ref hy), (1, .int (nI f)), (2, .int (nI j)), (3, .int v), (4, .int (nI c))] dX10_known_5 rfl (by decide) rfl ?_
  refine r_aload_n (n := 8) hX dX10_known_7 rfl rfl 0 rfl ?_
  refine r_iload_n (n := 9) hX dX10_known_8 rfl rfl 1 rfl ?_
  refine r_callV (n := 12) (av := [.int (nI f)]) hX (ct_X10_isFamily (CxL X) (CxD X) hy fb tp pa ju pl yr lg ha t1 t2 h (nI f)) ml_X10_123 cv_X10_isFamily rfl (by decide) [0] rfl rfl (by decide) 0 rfl rfl rfl rfl rfl (Nat.le_of_ble_eq_true rfl) dX10_known_9 rfl (fun r_ es_ h_ l_ => ?_)
  obtain ⟨rfl, rfl⟩ := h_
  show Aw X [hy, fb, f0, f1, f2] [ob 10 [.ref fb, .ref tp, .ref pa, .ref ju, .ref pl, .ref yr, .ref lg, .ref ha, .ref t1, .ref t2, .int (b2 h.1), .int h.2.1, .int (nI (hFs h)), .int h.2.2.2.1, .int h.2.2.2.2.1, .int h.2.2.2.2.2], ob 0 [.ref f0, .ref f1, .ref f2, .int (nI s.2.2.2)], aI (CxD X) 400 s.1, aI (CxD X) 400 s.2.1, aI (CxD X) 400 s.2.2.1] 12 [(0, .ref hy), (1, .int (nI f)), (2, .int (nI j)), (3, .int v), (4, .int (nI c))] [.int (b2 (hFam (hFs h) (nI f)))]
  refine r_if_eq_b (tgt := 28) (n := 15) hX dX10_known_12 (by decide) rfl (fun c12 => absurd c12 (by rw [hFam_of hn hf]; decide)) (fun c12 => ?_)
  refine r_iload (n := 17) hX dX10_known_15 rfl 4 rfl ?_
  refine r_iconst (n := 18) hX (-1) dX10_known_17 rfl rfl ?_
  refine r_icmp_eq (tgt := 28) (n := 21) hX dX10_known_18 (by decide) rfl (fun c18 => absurd c18 (nI_ne_m1 (by omega))) (fun c18 => ?_)
  refine r_iload_n (n := 22) hX dX10_known_21 rfl rfl 3 rfl ?_
  refine r_callS (n := 25) (av := [.int v]) hX (ct_X10_isDay (CxL X) (CxD X) v) ml_X10_115 cs_X10_isDay rfl (by decide) [] rfl rfl (by decide) rfl (Nat.le_of_ble_eq_true rfl) dX10_known_22 rfl (fun r_ es_ h_ l_ => ?_)
  obtain ⟨rfl, rfl⟩ := h_
  show Aw X [hy, fb, f0, f1, f2] [ob 10 [.ref fb, .ref tp, .ref pa, .ref ju, .ref pl, .ref yr, .ref lg, .ref ha, .ref t1, .ref t2, .int (b2 h.1), .int h.2.1, .int (nI (hFs h)), .int h.2.2.2.1, .int h.2.2.2.2.1, .int h.2.2.2.2.2], ob 0 [.ref f0, .ref f1, .ref f2, .int (nI s.2.2.2)], aI (CxD X) 400 s.1, aI (CxD X) 400 s.2.1, aI (CxD X) 400 s.2.2.1] 25 [(0, .ref hy), (1, .int (nI f)), (2, .int (nI j)), (3, .int v), (4, .int (nI c))] [.int (b2 (hDay v))]
  refine r_if_ne_b (tgt := 30) (n := 28) hX dX10_known_25 (by decide) rfl (fun c25 => ?_) (fun c25 => ?_)
  · skip
    refine r_aload_n (n := 31) hX dX10_known_30 rfl rfl 0 rfl ?_
    refine r_get (n := 34) hX 0 rfl rfl rfl 0 (by decide) lay_X10 fl_X10_10 rfl dX10_known_31 rfl ?_
    refine r_iload_n (n := 35) hX dX10_known_34 rfl rfl 1 rfl ?_
    refine r_bipush (n := 37) hX 26 dX10_known_35 rfl rfl ?_
    refine r_imul (n := 38) hX dX10_known_37 rfl ?_
    refine Aw.topi (nI (f * 26)) (pk_mul _ _) ?_
    refine r_iload (n := 40) hX dX10_known_38 rfl 4 rfl ?_
    refine r_iadd (n := 41) hX dX10_known_40 rfl ?_
    refine Aw.topi (nI ((f * 26) + c)) (nI_add _ _) ?_
    refine r_iload_n (n := 42) hX dX10_known_41 rfl rfl 3 rfl ?_
    refine r_callV (n := 45) (av := [.int (nI ((f * 26) + c)), .int v]) hX (ct_X0_latest (CxL X) (CxD X) fb f0 f1 f2 s (nI ((f * 26) + c)) v hs) ml_X10_136 cv_X0_latest rfl (by decide) [1, 2, 3, 4] rfl rfl (by decide) 1 rfl rfl rfl rfl rfl (Nat.le_of_ble_eq_true rfl) dX10_known_42 rfl (fun r_ es_ h_ l_ => ?_)
    obtain ⟨rfl, rfl⟩ := h_
    show Aw X [hy, fb, f0, f1, f2] [ob 10 [.ref fb, .ref tp, .ref pa, .ref ju, .ref pl, .ref yr, .ref lg, .ref ha, .ref t1, .ref t2, .int (b2 h.1), .int h.2.1, .int (nI (hFs h)), .int h.2.2.2.1, .int h.2.2.2.2.1, .int h.2.2.2.2.2], ob 0 [.ref f0, .ref f1, .ref f2, .int (nI s.2.2.2)], aI (CxD X) 400 s.1, aI (CxD X) 400 s.2.1, aI (CxD X) 400 s.2.2.1] 45 [(0, .ref hy), (1, .int (nI f)), (2, .int (nI j)), (3, .int v), (4, .int (nI c))] [.int (fbLatest s (nI ((f * 26) + c)) v s.2.2.2)]
    exact r_ireturn hX hR dX10_known_45 (by rw [if_pos c25]; exact ⟨rfl, rfl⟩)
  · skip
    refine r_iconst (n := 29) hX 0 dX10_known_28 rfl rfl ?_
    exact r_ireturn hX hR dX10_known_29 (by rw [if_neg (by rw [c25]; decide)]; exact ⟨rfl, rfl⟩)
theorem ct_X10_known (l : Launch) (D : va_G) (hy fb tp pa ju pl yr lg ha t1 t2 : Nat) (f0 f1 f2 : Nat) (h : HS) (s : FB) (f j c : Nat) (v : Int32) (hn : hFs h ≤ 12) (hj : j < 2 ^ 31) (hcol : hCol (hFs h) j = some c) (hf : f < hFs h) (hs : s.2.2.2 ≤ 400) : Ct l D m_X10_known 1 [.ref hy, .int (nI f), .int (nI j), .int v] [hy, fb, f0, f1, f2] [ob 10 [.ref fb, .ref tp, .ref pa, .ref ju, .ref pl, .ref yr, .ref lg, .ref ha, .ref t1, .ref t2, .int (b2 h.1), .int h.2.1, .int (nI (hFs h)), .int h.2.2.2.1, .int h.2.2.2.2.1, .int h.2.2.2.2.2], ob 0 [.ref f0, .ref f1, .ref f2, .int (nI s.2.2.2)], aI D 400 s.1, aI D 400 s.2.1, aI D 400 s.2.2.1] (fun r es' => r = some (.int (if hDay v = true then fbLatest s (nI (f * 26 + c)) v s.2.2.2 else 0)) ∧ es' = [ob 10 [.ref fb, .ref tp, .ref pa, .ref ju, .ref pl, .ref yr, .ref lg, .ref ha, .ref t1, .ref t2, .int (b2 h.1), .int h.2.1, .int (nI (hFs h)), .int h.2.2.2.1, .int h.2.2.2.2.1, .int h.2.2.2.2.2], ob 0 [.ref f0, .ref f1, .ref f2, .int (nI s.2.2.2)], aI D 400 s.1, aI D 400 s.2.1, aI D 400 s.2.2.1]) :=
  Ct.ofA (own := RX10) (by decide) rfl (Nat.le_of_ble_eq_true rfl) rfl (fun X hl hD hX hR => by subst hl; subst hD; exact wk_X10_known hX hy fb tp pa ju pl yr lg ha t1 t2 f0 f1 f2 h s f j c v hn hj hcol hf hs hR)
set_option maxHeartbeats 1000000 in
set_option maxRecDepth 100000 in
theorem wk_goesN {X : Cx} (hX : Ok X cX10_goes 2 RX10 1) (hy fb tp pa ju pl yr lg ha t1 t2 : Nat) (h : HS) (f : Int32) (hb : h.1 = false ∨ hFam (hFs h) f = false) (hR : Rt X (some FieldType.int) (fun r es' => r = some (.int (-1)) ∧ es' = [ob 10 [.ref fb, .ref tp, .ref pa, .ref ju, .ref pl, .ref yr, .ref lg, .ref ha, .ref t1, .ref t2, .int (b2 h.1), .int h.2.1, .int (nI (hFs h)), .int h.2.2.2.1, .int h.2.2.2.2.1, .int h.2.2.2.2.2]]) [hy]) : Aw X [hy] [ob 10 [.ref fb, .ref tp, .ref pa, .ref ju, .ref pl, .ref yr, .ref lg, .ref ha, .ref t1, .ref t2, .int (b2 h.1), .int h.2.1, .int (nI (hFs h)), .int h.2.2.2.1, .int h.2.2.2.2.1, .int h.2.2.2.2.2]] 0 [(0, .ref hy), (1, .int f)] [] := by
  refine r_aload_n (n := 1) hX dX10_goes_0 rfl rfl 0 rfl ?_
  refine r_get (n := 4) hX 0 rfl rfl rfl 10 (by decide) lay_X10 fl_X10_72 rfl dX10_goes_1 rfl ?_
  refine r_if_eq_b (tgt := 24) (n := 7) hX dX10_goes_4 (by decide) rfl (fun c4 => ?_) (fun c4 => ?_)
  · skip
    refine r_iconst (n := 25) hX (-1) dX10_goes_24 rfl rfl ?_
    exact r_ireturn hX hR dX10_goes_25 ⟨rfl, rfl⟩
  · skip
    refine r_aload_n (n := 8) hX dX10_goes_7 rfl rfl 0 rfl ?_
    refine r_iload_n (n := 9) hX dX10_goes_8 rfl rfl 1 rfl ?_
    refine r_callV (n := 12) (av := [.int f]) hX (ct_X10_isFamily (CxL X) (CxD X) hy fb tp pa ju pl yr lg ha t1 t2 h f) ml_X10_123 cv_X10_isFamily rfl (by decide) [0] rfl rfl (by decide) 0 rfl rfl rfl rfl rfl (Nat.le_of_ble_eq_true rfl) dX10_goes_9 rfl (fun r_ es_ h_ l_ => ?_)
    obtain ⟨rfl, rfl⟩ := h_
    show Aw X [hy] [ob 10 [.ref fb, .ref tp, .ref pa, .ref ju, .ref pl, .ref yr, .ref lg, .ref ha, .ref t1, .ref t2, .int (b2 h.1), .int h.2.1, .int (nI (hFs h)), .int h.2.2.2.1, .int h.2.2.2.2.1, .int h.2.2.2.2.2]] 12 [(0, .ref hy), (1, .int f)] [.int (b2 (hFam (hFs h) f))]
    refine r_if_eq_b (tgt := 24) (n := 15) hX dX10_goes_12 (by decide) rfl (fun c12 => ?_) (fun c12 => absurd c12 (fun e => hb.elim (fun q => by rw [q] at c4; cases c4) (fun q => by rw [q] at e; cases e)))
    refine r_iconst (n := 25) hX (-1) dX10_goes_24 rfl rfl ?_
    exact r_ireturn hX hR dX10_goes_25 ⟨rfl, rfl⟩
theorem ct_goesN (l : Launch) (D : va_G) (hy fb tp pa ju pl yr lg ha t1 t2 : Nat) (h : HS) (f : Int32) (hb : h.1 = false ∨ hFam (hFs h) f = false) : Ct l D m_X10_goes 1 [.ref hy, .int f] [hy] [ob 10 [.ref fb, .ref tp, .ref pa, .ref ju, .ref pl, .ref yr, .ref lg, .ref ha, .ref t1, .ref t2, .int (b2 h.1), .int h.2.1, .int (nI (hFs h)), .int h.2.2.2.1, .int h.2.2.2.2.1, .int h.2.2.2.2.2]] (fun r es' => r = some (.int (-1)) ∧ es' = [ob 10 [.ref fb, .ref tp, .ref pa, .ref ju, .ref pl, .ref yr, .ref lg, .ref ha, .ref t1, .ref t2, .int (b2 h.1), .int h.2.1, .int (nI (hFs h)), .int h.2.2.2.1, .int h.2.2.2.2.1, .int h.2.2.2.2.2]]) :=
  Ct.ofA (own := RX10) (by decide) rfl (Nat.le_of_ble_eq_true rfl) rfl (fun X hl hD hX hR => by subst hl; subst hD; exact wk_goesN hX hy fb tp pa ju pl yr lg ha t1 t2 h f hb hR)
set_option maxHeartbeats 1000000 in
set_option maxRecDepth 100000 in
theorem wk_X10_goes {X : Cx} (hX : Ok X cX10_goes 2 RX10 1) (hy fb tp pa ju pl yr lg ha t1 t2 : Nat) (h : HS) (u : Nat → Option Nat) (f : Nat) (hn : hFs h ≤ 12) (hh : h.1 = true) (hf : f < hFs h) (hR : Rt X (some FieldType.int) (fun r es' => r = some (.int (eo (u f))) ∧ es' = [ob 10 [.ref fb, .ref tp, .ref pa, .ref ju, .ref pl, .ref yr, .ref lg, .ref ha, .ref t1, .ref t2, .int (b2 h.1), .int h.2.1, .int (nI (hFs h)), .int h.2.2.2.1, .int h.2.2.2.2.1, .int h.2.2.2.2.2], aI (CxD X) 12 (opf u)]) [hy, ha]) : Aw X [hy, ha] [ob 10 [.ref fb, .ref tp, .ref pa, .ref ju, .ref pl, .ref yr, .ref lg, .ref ha, .ref t1, .ref t2, .int (b2 h.1), .int h.2.1, .int (nI (hFs h)), .int h.2.2.2.1, .int h.2.2.2.2.1, .int h.2.2.2.2.2], aI (CxD X) 12 (opf u)] 0 [(0, .ref hy), (1, .int (nI f))] [] := by
  refine r_aload_n (n := 1) hX dX10_goes_0 rfl rfl 0 rfl ?_
  refine r_get (n := 4) hX 0 rfl rfl rfl 10 (by decide) lay_X10 fl_X10_72 rfl dX10_goes_1 rfl ?_
  refine r_if_eq_b (tgt := 24) (n := 7) hX dX10_goes_4 (by decide) rfl (fun c4 => absurd c4 (by rw [hh]; decide)) (fun c4 => ?_)
  refine r_aload_n (n := 8) hX dX10_goes_7 rfl rfl 0 rfl ?_
  refine r_iload_n (n := 9) hX dX10_goes_8 rfl rfl 1 rfl ?_
  refine r_callV (n := 12) (av := [.int (nI f)]) hX (ct_X10_isFamily (CxL X) (CxD X) hy fb tp pa ju pl yr lg ha t1 t2 h (nI f)) ml_X10_123 cv_X10_isFamily rfl (by decide) [0] rfl rfl (by decide) 0 rfl rfl rfl rfl rfl (Nat.le_of_ble_eq_true rfl) dX10_goes_9 rfl (fun r_ es_ h_ l_ => ?_)
  obtain ⟨rfl, rfl⟩ := h_
  show Aw X [hy, ha] [ob 10 [.ref fb, .ref tp, .ref pa, .ref ju, .ref pl, .ref yr, .ref lg, .ref ha, .ref t1, .ref t2, .int (b2 h.1), .int h.2.1, .int (nI (hFs h)), .int h.2.2.2.1, .int h.2.2.2.2.1, .int h.2.2.2.2.2], aI (CxD X) 12 (opf u)] 12 [(0, .ref hy), (1, .int (nI f))] [.int (b2 (hFam (hFs h) (nI f)))]
  refine r_if_eq_b (tgt := 24) (n := 15) hX dX10_goes_12 (by decide) rfl (fun c12 => absurd c12 (by rw [hFam_of hn hf]; decide)) (fun c12 => ?_)
  refine r_aload_n (n := 16) hX dX10_goes_15 rfl rfl 0 rfl ?_
  refine r_get (n := 19) hX 0 rfl rfl rfl 7 (by decide) lay_X10 fl_X10_58 rfl dX10_goes_16 rfl ?_
  refine r_iload_n (n := 20) hX dX10_goes_19 rfl rfl 1 rfl ?_
  refine r_ialdOn (n := 21) (i := f) hX 1 rfl rfl (by omega) (by decide) dX10_goes_20 rfl ?_
  refine r_goto (tgt := 25) hX dX10_goes_21 (by decide) ?_
  exact r_ireturn hX hR dX10_goes_25 ⟨rfl, rfl⟩
theorem ct_X10_goes (l : Launch) (D : va_G) (hy fb tp pa ju pl yr lg ha t1 t2 : Nat) (h : HS) (u : Nat → Option Nat) (f : Nat) (hn : hFs h ≤ 12) (hh : h.1 = true) (hf : f < hFs h) : Ct l D m_X10_goes 1 [.ref hy, .int (nI f)] [hy, ha] [ob 10 [.ref fb, .ref tp, .ref pa, .ref ju, .ref pl, .ref yr, .ref lg, .ref ha, .ref t1, .ref t2, .int (b2 h.1), .int h.2.1, .int (nI (hFs h)), .int h.2.2.2.1, .int h.2.2.2.2.1, .int h.2.2.2.2.2], aI D 12 (opf u)] (fun r es' => r = some (.int (eo (u f))) ∧ es' = [ob 10 [.ref fb, .ref tp, .ref pa, .ref ju, .ref pl, .ref yr, .ref lg, .ref ha, .ref t1, .ref t2, .int (b2 h.1), .int h.2.1, .int (nI (hFs h)), .int h.2.2.2.1, .int h.2.2.2.2.1, .int h.2.2.2.2.2], aI D 12 (opf u)]) :=
  Ct.ofA (own := RX10) (by decide) rfl (Nat.le_of_ble_eq_true rfl) rfl (fun X hl hD hX hR => by subst hl; subst hD; exact wk_X10_goes hX hy fb tp pa ju pl yr lg ha t1 t2 h u f hn hh hf hR)
set_option maxHeartbeats 1000000 in
set_option maxRecDepth 100000 in
theorem wk_X10_costs {X : Cx} (hX : Ok X cX10_costs 1 RX10 0) (hy fb tp pa ju pl yr lg ha t1 t2 : Nat) (h : HS)  (hR : Rt X (some FieldType.int) (fun r es' => r = some (.int (if h.1 = true then h.2.1 else -1)) ∧ es' = [ob 10 [.ref fb, .ref tp, .ref pa, .ref ju, .ref pl, .ref yr, .ref lg, .ref ha, .ref t1, .ref t2, .int (b2 h.1), .int h.2.1, .int (nI (hFs h)), .int h.2.2.2.1, .int h.2.2.2.2.1, .int h.2.2.2.2.2]]) [hy]) : Aw X [hy] [ob 10 [.ref fb, .ref tp, .ref pa, .ref ju, .ref pl, .ref yr, .ref lg, .ref ha, .ref t1, .ref t2, .int (b2 h.1), .int h.2.1, .int (nI (hFs h)), .int h.2.2.2.1, .int h.2.2.2.2.1, .int h.2.2.2.2.2]] 0 [(0, .ref hy)] [] := by
  refine r_aload_n (n := 1) hX dX10_costs_0 rfl rfl 0 rfl ?_
  refine r_get (n := 4) hX 0 rfl rfl rfl 10 (by decide) lay_X10 fl_X10_72 rfl dX10_costs_1 rfl ?_
  refine r_if_eq_b (tgt := 14) (n := 7) hX dX10_costs_4 (by decide) rfl (fun c4 => ?_) (fun c4 => ?_)
  · skip
    refine r_iconst (n := 15) hX (-1) dX10_costs_14 rfl rfl ?_
    exact r_ireturn hX hR dX10_costs_15 ⟨by first | rw [if_pos c4] | rw [if_neg (by rw [c4]; decide)], rfl⟩
  · skip
    refine r_aload_n (n := 8) hX dX10_costs_7 rfl rfl 0 rfl ?_
    refine r_get (n := 11) hX 0 rfl rfl rfl 11 (by decide) lay_X10 fl_X10_76 rfl dX10_costs_8 rfl ?_
    refine r_goto (tgt := 15) hX dX10_costs_11 (by decide) ?_
    exact r_ireturn hX hR dX10_costs_15 ⟨by first | rw [if_pos c4] | rw [if_neg (by rw [c4]; decide)], rfl⟩
theorem ct_X10_costs (l : Launch) (D : va_G) (hy fb tp pa ju pl yr lg ha t1 t2 : Nat) (h : HS)  : Ct l D m_X10_costs 0 [.ref hy] [hy] [ob 10 [.ref fb, .ref tp, .ref pa, .ref ju, .ref pl, .ref yr, .ref lg, .ref ha, .ref t1, .ref t2, .int (b2 h.1), .int h.2.1, .int (nI (hFs h)), .int h.2.2.2.1, .int h.2.2.2.2.1, .int h.2.2.2.2.2]] (fun r es' => r = some (.int (if h.1 = true then h.2.1 else -1)) ∧ es' = [ob 10 [.ref fb, .ref tp, .ref pa, .ref ju, .ref pl, .ref yr, .ref lg, .ref ha, .ref t1, .ref t2, .int (b2 h.1), .int h.2.1, .int (nI (hFs h)), .int h.2.2.2.1, .int h.2.2.2.2.1, .int h.2.2.2.2.2]]) :=
  Ct.ofA (own := RX10) (by decide) rfl (Nat.le_of_ble_eq_true rfl) rfl (fun X hl hD hX hR => by subst hl; subst hD; exact wk_X10_costs hX hy fb tp pa ju pl yr lg ha t1 t2 h hR)
