
def cpyL (v u : Nat → Int64) (m : Nat) : Nat → Int64 := fun j => if j < m then u j else v j
theorem cpyL_0 (v u : Nat → Int64) : cpyL v u 0 = v := by funext j; simp [cpyL]
theorem cpyL_s (v u : Nat → Int64) (m : Nat) : vp_updL (cpyL v u m) m (u m) = cpyL v u (m + 1) := by
  funext j
  simp only [vp_updL, cpyL]
  by_cases h : j = m
  · subst h; simp
  · simp only [h, if_false]
    by_cases h2 : j < m
    · simp [h2, Nat.lt_succ_of_lt h2]
    · have : ¬ j < m + 1 := by omega
      simp [h2, this]
/-! HostYear$Matching: weight, rowOf, rowPrice, columnPrice, slack, cameFrom, isSeen -/
abbrev MT : Type := (Nat → Int64) × (Nat → Option Nat) × (Nat → Int64) × (Nat → Int64) × (Nat → Int64) × (Nat → Nat) × (Nat → Bool)
/-- one column's turn in shiftPrices: of (slack, rowPrice, columnPrice) -/
def mtSh (by_ : Int64) (ro : Nat → Option Nat) (sn : Nat → Bool) (j : Nat) (z : (Nat → Int64) × (Nat → Int64) × (Nat → Int64)) : (Nat → Int64) × (Nat → Int64) × (Nat → Int64) :=
  if sn j then (z.1, vp_updL z.2.1 ((ro j).getD 0) (z.2.1 ((ro j).getD 0) + by_), vp_updL z.2.2 j (z.2.2 j - by_)) else (vp_updL z.1 j (z.1 j - by_), z.2)
def mtShift (s : MT) (by_ : Int64) (n : Nat) : MT := (s.1, s.2.1, (foldF (mtSh by_ s.2.1 s.2.2.2.2.2.2) (n + 1) 0 (s.2.2.2.2.1, s.2.2.1, s.2.2.2.1)).2.1, (foldF (mtSh by_ s.2.1 s.2.2.2.2.2.2) (n + 1) 0 (s.2.2.2.2.1, s.2.2.1, s.2.2.2.1)).2.2, (foldF (mtSh by_ s.2.1 s.2.2.2.2.2.2) (n + 1) 0 (s.2.2.2.2.1, s.2.2.1, s.2.2.2.1)).1, s.2.2.2.2.2.1, s.2.2.2.2.2.2)
/-- one column's turn in nextColumn: of (slack, cameFrom, least, nearest) -/
def mtNx (w rp cp : Nat → Int64) (sn : Nat → Bool) (r c : Nat) (j : Nat) (z : (Nat → Int64) × (Nat → Nat) × Int64 × Nat) : (Nat → Int64) × (Nat → Nat) × Int64 × Nat :=
  if sn j then z else
    let g := w (r * 12 + j) - rp r - cp j
    let y : (Nat → Int64) × (Nat → Nat) := if g < z.1 j then (vp_updL z.1 j g, va_up z.2.1 j c) else (z.1, z.2.1)
    if y.1 j < z.2.2.1 then (y.1, y.2, y.1 j, j) else (y.1, y.2, z.2.2)
def mtNxF (s : MT) (c n r : Nat) : (Nat → Int64) × (Nat → Nat) × Int64 × Nat := foldF (mtNx s.1 s.2.2.1 s.2.2.2.1 (updB s.2.2.2.2.2.2 c true) r c) n 0 (s.2.2.2.2.1, s.2.2.2.2.2.1, 1152921504606846976, c)
def mtNextS (s : MT) (c n r : Nat) : MT := mtShift (s.1, s.2.1, s.2.2.1, s.2.2.2.1, (mtNxF s c n r).1, (mtNxF s c n r).2.1, updB s.2.2.2.2.2.2 c true) (mtNxF s c n r).2.2.1 n
def mtNextC (s : MT) (c n r : Nat) : Nat := (mtNxF s c n r).2.2.2

set_option maxHeartbeats 1000000 in
set_option maxRecDepth 100000 in
theorem lp_X3_shift {X : Cx} (hX : Ok X cX3_shiftPrices 5 RX3 0) (mt g0 g1 g2 g3 g4 g5 g6 : Nat) (s : MT) (by_ : Int64) (n : Nat) (hn : n ≤ 12) (hs : ∀ j, j ≤ n → s.2.2.2.2.2.2 j = true → ∃ r, s.2.1 j = some r ∧ r < 12) (hR : Rt X (none) (fun r es' => r = none ∧ es' = [ob 3 [.ref g0, .ref g1, .ref g2, .ref g3, .ref g4, .ref g5, .ref g6], aJ (CxD X) 144 ((mtShift s by_ n).1), aI (CxD X) 13 (opf ((mtShift s by_ n).2.1)), aJ (CxD X) 12 ((mtShift s by_ n).2.2.1), aJ (CxD X) 13 ((mtShift s by_ n).2.2.2.1), aJ (CxD X) 13 ((mtShift s by_ n).2.2.2.2.1), aI (CxD X) 13 (nf ((mtShift s by_ n).2.2.2.2.2.1)), aZ (CxD X) 13 (zf ((mtShift s by_ n).2.2.2.2.2.2))]) [mt, g0, g1, g2, g3, g4, g5, g6]) : ∀ (m j : Nat) (z : (Nat → Int64) × (Nat → Int64) × (Nat → Int64)), j + m = n + 1 → foldF (mtSh by_ s.2.1 s.2.2.2.2.2.2) m j z = foldF (mtSh by_ s.2.1 s.2.2.2.2.2.2) (n + 1) 0 (s.2.2.2.2.1, s.2.2.1, s.2.2.2.1) → Aw X [mt, g0, g1, g2, g3, g4, g5, g6] [ob 3 [.ref g0, .ref g1, .ref g2, .ref g3, .ref g4, .ref g5, .ref g6], aJ (CxD X) 144 s.1, aI (CxD X) 13 (opf s.2.1), aJ (CxD X) 12 z.2.1, aJ (CxD X) 13 z.2.2, aJ (CxD X) 13 z.1, aI (CxD X) 13 (nf s.2.2.2.2.2.1), aZ (CxD X) 13 (zf s.2.2.2.2.2.2)] 3 [(0, .ref mt), (1, .long by_), (3, .int (nI n)), (4, .int (nI j))] [] := by
  intro m
  induction m with
  | zero =>
    intro j z hj he
    refine r_iload (n := 5) hX dX3_shiftPrices_3 rfl 3 rfl ?_
    refine r_iload_n (n := 6) hX dX3_shiftPrices_5 rfl rfl 2 rfl ?_
    refine r_icmp_gt_n (tgt := 88) (n := 9) hX j n (by omega) (by omega) dX3_shiftPrices_6 (by decide) rfl (fun c6 => ?_) (fun c6 => absurd c6 (by omega))
    exact r_return hX hR dX3_shiftPrices_88 (by have he : z = foldF (mtSh by_ s.2.1 s.2.2.2.2.2.2) (n + 1) 0 (s.2.2.2.2.1, s.2.2.1, s.2.2.2.1) := he; simp only [mtShift, ← he, and_self])
  | succ m ih =>
    intro j z hj he
    refine r_iload (n := 5) hX dX3_shiftPrices_3 rfl 3 rfl ?_
    refine r_iload_n (n := 6) hX dX3_shiftPrices_5 rfl rfl 2 rfl ?_
    refine r_icmp_gt_n (tgt := 88) (n := 9) hX j n (by omega) (by omega) dX3_shiftPrices_6 (by decide) rfl (fun c6 => absurd c6 (by omega)) (fun c6 => ?_)
    refine r_aload_n (n := 10) hX dX3_shiftPrices_9 rfl rfl 0 rfl ?_
    refine r_get (n := 13) hX 0 rfl rfl rfl 6 (by decide) lay_X3 fl_X3_31 rfl dX3_shiftPrices_10 rfl ?_
    refine r_iload (n := 15) hX dX3_shiftPrices_13 rfl 3 rfl ?_
    refine r_zaldbn (n := 16) (i := j) hX 7 rfl rfl (by omega) (by decide) dX3_shiftPrices_15 rfl ?_
    refine r_if_ne_b (tgt := 33) (n := 19) hX dX3_shiftPrices_16 (by decide) rfl (fun c16 => ?_) (fun c16 => ?_)
    · obtain ⟨r, hro, hr⟩ := hs j (by omega) c16
      refine r_aload_n (n := 34) hX dX3_shiftPrices_33 rfl rfl 0 rfl ?_
      refine r_get (n := 37) hX 0 rfl rfl rfl 1 (by decide) lay_X3 fl_X3_15 rfl dX3_shiftPrices_34 rfl ?_
      refine r_iload (n := 39) hX dX3_shiftPrices_37 rfl 3 rfl ?_
      refine r_ialdOn (n := 40) (i := j) hX 2 rfl rfl (by omega) (by decide) dX3_shiftPrices_39 rfl ?_
      refine Aw.topi (nI r) (by rw [hro]; rfl) ?_
      refine r_iflt_n (n := 43) (tgt := 82) hX (by omega) dX3_shiftPrices_40 rfl (by decide) ?_
      refine r_aload_n (n := 44) hX dX3_shiftPrices_43 rfl rfl 0 rfl ?_
      refine r_get (n := 47) hX 0 rfl rfl rfl 1 (by decide) lay_X3 fl_X3_15 rfl dX3_shiftPrices_44 rfl ?_
      refine r_iload (n := 49) hX dX3_shiftPrices_47 rfl 3 rfl ?_
      refine r_ialdOn (n := 50) (i := j) hX 2 rfl rfl (by omega) (by decide) dX3_shiftPrices_49 rfl ?_
      refine Aw.topi (nI r) (by rw [hro]; rfl) ?_
      refine r_bipush (n := 52) hX 12 dX3_shiftPrices_50 rfl rfl ?_
      refine r_icmp_ge_n (tgt := 82) (n := 55) hX r 12 (by omega) (by omega) dX3_shiftPrices_52 (by decide) rfl (fun c52 => absurd c52 (by omega)) (fun c52 => ?_)
      refine r_aload_n (n := 56) hX dX3_shiftPrices_55 rfl rfl 0 rfl ?_
      refine r_get (n := 59) hX 0 rfl rfl rfl 2 (by decide) lay_X3 fl_X3_19 rfl dX3_shiftPrices_56 rfl ?_
      refine r_aload_n (n := 60) hX dX3_shiftPrices_59 rfl rfl 0 rfl ?_
      refine r_get (n := 63) hX 0 rfl rfl rfl 1 (by decide) lay_X3 fl_X3_15 rfl dX3_shiftPrices_60 rfl ?_
      refine r_iload (n := 65) hX dX3_shiftPrices_63 rfl 3 rfl ?_
      refine r_ialdOn (n := 66) (i := j) hX 2 rfl rfl (by omega) (by decide) dX3_shiftPrices_65 rfl ?_
      refine Aw.topi (nI r) (by rw [hro]; rfl) ?_
      refine r_dup2 (n := 67) hX dX3_shiftPrices_66 rfl rfl rfl ?_
      refine r_laldn (n := 68) (i := r) hX 3 rfl rfl (by omega) (by decide) dX3_shiftPrices_67 rfl ?_
      refine r_lload_n (n := 69) hX dX3_shiftPrices_68 rfl rfl 1 rfl ?_
      refine r_ladd (n := 70) hX dX3_shiftPrices_69 rfl ?_
      refine r_lastn (n := 71) (i := r) hX 3 rfl rfl [ob 3 [.ref g0, .ref g1, .ref g2, .ref g3, .ref g4, .ref g5, .ref g6], aJ (CxD X) 144 s.1, aI (CxD X) 13 (opf s.2.1), aJ (CxD X) 12 (vp_updL z.2.1 r ((z.2.1 r) + by_)), aJ (CxD X) 13 z.2.2, aJ (CxD X) 13 z.1, aI (CxD X) 13 (nf s.2.2.2.2.2.1), aZ (CxD X) 13 (zf s.2.2.2.2.2.2)] (by omega) (by decide) rfl dX3_shiftPrices_70 rfl ?_
      refine r_aload_n (n := 72) hX dX3_shiftPrices_71 rfl rfl 0 rfl ?_
      refine r_get (n := 75) hX 0 rfl rfl rfl 3 (by decide) lay_X3 fl_X3_22 rfl dX3_shiftPrices_72 rfl ?_
      refine r_iload (n := 77) hX dX3_shiftPrices_75 rfl 3 rfl ?_
      refine r_dup2 (n := 78) hX dX3_shiftPrices_77 rfl rfl rfl ?_
      refine r_laldn (n := 79) (i := j) hX 4 rfl rfl (by omega) (by decide) dX3_shiftPrices_78 rfl ?_
      refine r_lload_n (n := 80) hX dX3_shiftPrices_79 rfl rfl 1 rfl ?_
      refine r_lsub (n := 81) hX dX3_shiftPrices_80 rfl ?_
      refine r_lastn (n := 82) (i := j) hX 4 rfl rfl [ob 3 [.ref g0, .ref g1, .ref g2, .ref g3, .ref g4, .ref g5, .ref g6], aJ (CxD X) 144 s.1, aI (CxD X) 13 (opf s.2.1), aJ (CxD X) 12 (vp_updL z.2.1 r ((z.2.1 r) + by_)), aJ (CxD X) 13 (vp_updL z.2.2 j ((z.2.2 j) - by_)), aJ (CxD X) 13 z.1, aI (CxD X) 13 (nf s.2.2.2.2.2.1), aZ (CxD X) 13 (zf s.2.2.2.2.2.2)] (by omega) (by decide) rfl dX3_shiftPrices_81 rfl ?_
      refine r_iinc (n := 85) hX (nI (j + 1)) [(0, .ref mt), (1, .long by_), (3, .int (nI n)), (4, .int (nI (j + 1)))] dX3_shiftPrices_82 rfl 3 rfl (nI_add _ _) (by decide) rfl ?_
      refine r_goto (tgt := 3) hX dX3_shiftPrices_85 (by decide) ?_
      exact ih (j + 1) (z.1, vp_updL z.2.1 r ((z.2.1 r) + by_), vp_updL z.2.2 j ((z.2.2 j) - by_)) (by omega) (by rw [← he]; simp [foldF, mtSh, *])
    · skip
      refine r_aload_n (n := 20) hX dX3_shiftPrices_19 rfl rfl 0 rfl ?_
      refine r_get (n := 23) hX 0 rfl rfl rfl 4 (by decide) lay_X3 fl_X3_25 rfl dX3_shiftPrices_20 rfl ?_
      refine r_iload (n := 25) hX dX3_shiftPrices_23 rfl 3 rfl ?_
      refine r_dup2 (n := 26) hX dX3_shiftPrices_25 rfl rfl rfl ?_
      refine r_laldn (n := 27) (i := j) hX 5 rfl rfl (by omega) (by decide) dX3_shiftPrices_26 rfl ?_
      refine r_lload_n (n := 28) hX dX3_shiftPrices_27 rfl rfl 1 rfl ?_
      refine r_lsub (n := 29) hX dX3_shiftPrices_28 rfl ?_
      refine r_lastn (n := 30) (i := j) hX 5 rfl rfl [ob 3 [.ref g0, .ref g1, .ref g2, .ref g3, .ref g4, .ref g5, .ref g6], aJ (CxD X) 144 s.1, aI (CxD X) 13 (opf s.2.1), aJ (CxD X) 12 z.2.1, aJ (CxD X) 13 z.2.2, aJ (CxD X) 13 (vp_updL z.1 j ((z.1 j) - by_)), aI (CxD X) 13 (nf s.2.2.2.2.2.1), aZ (CxD X) 13 (zf s.2.2.2.2.2.2)] (by omega) (by decide) rfl dX3_shiftPrices_29 rfl ?_
      refine r_goto (tgt := 82) hX dX3_shiftPrices_30 (by decide) ?_
      refine r_iinc (n := 85) hX (nI (j + 1)) [(0, .ref mt), (1, .long by_), (3, .int (nI n)), (4, .int (nI (j + 1)))] dX3_shiftPrices_82 rfl 3 rfl (nI_add _ _) (by decide) rfl ?_
      refine r_goto (tgt := 3) hX dX3_shiftPrices_85 (by decide) ?_
      exact ih (j + 1) (vp_updL z.1 j ((z.1 j) - by_), z.2.1, z.2.2) (by omega) (by rw [← he]; simp [foldF, mtSh, *])
set_option maxHeartbeats 1000000 in
set_option maxRecDepth 100000 in
theorem wk_X3_shiftPrices {X : Cx} (hX : Ok X cX3_shiftPrices 5 RX3 0) (mt g0 g1 g2 g3 g4 g5 g6 : Nat) (s : MT) (by_ : Int64) (n : Nat) (hn : n ≤ 12) (hs : ∀ j, j ≤ n → s.2.2.2.2.2.2 j = true → ∃ r, s.2.1 j = some r ∧ r < 12) (hR : Rt X (none) (fun r es' => r = none ∧ es' = [ob 3 [.ref g0, .ref g1, .ref g2, .ref g3, .ref g4, .ref g5, .ref g6], aJ (CxD X) 144 ((mtShift s by_ n).1), aI (CxD X) 13 (opf ((mtShift s by_ n).2.1)), aJ (CxD X) 12 ((mtShift s by_ n).2.2.1), aJ (CxD X) 13 ((mtShift s by_ n).2.2.2.1), aJ (CxD X) 13 ((mtShift s by_ n).2.2.2.2.1), aI (CxD X) 13 (nf ((mtShift s by_ n).2.2.2.2.2.1)), aZ (CxD X) 13 (zf ((mtShift s by_ n).2.2.2.2.2.2))]) [mt, g0, g1, g2, g3, g4, g5, g6]) : Aw X [mt, g0, g1, g2, g3, g4, g5, g6] [ob 3 [.ref g0, .ref g1, .ref g2, .ref g3, .ref g4, .ref g5, .ref g6], aJ (CxD X) 144 s.1, aI (CxD X) 13 (opf s.2.1), aJ (CxD X) 12 s.2.2.1, aJ (CxD X) 13 s.2.2.2.1, aJ (CxD X) 13 s.2.2.2.2.1, aI (CxD X) 13 (nf s.2.2.2.2.2.1), aZ (CxD X) 13 (zf s.2.2.2.2.2.2)] 0 [(0, .ref mt), (1, .long by_), (3, .int (nI n))] [] := by
  refine r_iconst (n := 1) hX 0 dX3_shiftPrices_0 rfl rfl ?_
  refine r_istore (n := 3) hX [(0, .ref mt), (1, .long by_), (3, .int (nI n)), (4, .int 0)] dX3_shiftPrices_1 rfl (by decide) rfl ?_
  exact lp_X3_shift hX mt g0 g1 g2 g3 g4 g5 g6 s by_ n hn hs hR (n + 1) 0 (s.2.2.2.2.1, s.2.2.1, s.2.2.2.1) (by omega) rfl
theorem ct_X3_shiftPrices (l : Launch) (D : va_G) (mt g0 g1 g2 g3 g4 g5 g6 : Nat) (s : MT) (by_ : Int64) (n : Nat) (hn : n ≤ 12) (hs : ∀ j, j ≤ n → s.2.2.2.2.2.2 j = true → ∃ r, s.2.1 j = some r ∧ r < 12) : Ct l D m_X3_shiftPrices 0 [.ref mt, .long by_, .int (nI n)] [mt, g0, g1, g2, g3, g4, g5, g6] [ob 3 [.ref g0, .ref g1, .ref g2, .ref g3, .ref g4, .ref g5, .ref g6], aJ D 144 s.1, aI D 13 (opf s.2.1), aJ D 12 s.2.2.1, aJ D 13 s.2.2.2.1, aJ D 13 s.2.2.2.2.1, aI D 13 (nf s.2.2.2.2.2.1), aZ D 13 (zf s.2.2.2.2.2.2)] (fun r es' => r = none ∧ es' = [ob 3 [.ref g0, .ref g1, .ref g2, .ref g3, .ref g4, .ref g5, .ref g6], aJ D 144 ((mtShift s by_ n).1), aI D 13 (opf ((mtShift s by_ n).2.1)), aJ D 12 ((mtShift s by_ n).2.2.1), aJ D 13 ((mtShift s by_ n).2.2.2.1), aJ D 13 ((mtShift s by_ n).2.2.2.2.1), aI D 13 (nf ((mtShift s by_ n).2.2.2.2.2.1)), aZ D 13 (zf ((mtShift s by_ n).2.2.2.2.2.2))]) :=
  Ct.ofA (own := RX3) (by decide) rfl (Nat.le_of_ble_eq_true rfl) rfl (fun X hl hD hX hR => by subst hl; subst hD; exact wk_X3_shiftPrices hX mt g0 g1 g2 g3 g4 g5 g6 s by_ n hn hs hR)
set_option maxHeartbeats 1000000 in
set_option maxRecDepth 100000 in
theorem lp_X3_next {X : Cx} (hX : Ok X cX3_nextColumn 10 RX3 1) (mt g0 g1 g2 g3 g4 g5 g6 : Nat) (s : MT) (c n r : Nat) (hc : c ≤ n) (hn : n ≤ 12) (hr : s.2.1 c = some r) (hr2 : r < 12) (hs : ∀ j, j ≤ n → s.2.2.2.2.2.2 j = true → ∃ r, s.2.1 j = some r ∧ r < 12) (hR : Rt X (some FieldType.int) (fun r_ es' => r_ = some (.int (nI (mtNextC s c n r))) ∧ es' = [ob 3 [.ref g0, .ref g1, .ref g2, .ref g3, .ref g4, .ref g5, .ref g6], aJ (CxD X) 144 ((mtNextS s c n r).1), aI (CxD X) 13 (opf ((mtNextS s c n r).2.1)), aJ (CxD X) 12 ((mtNextS s c n r).2.2.1), aJ (CxD X) 13 ((mtNextS s c n r).2.2.2.1), aJ (CxD X) 13 ((mtNextS s c n r).2.2.2.2.1), aI (CxD X) 13 (nf ((mtNextS s c n r).2.2.2.2.2.1)), aZ (CxD X) 13 (zf ((mtNextS s c n r).2.2.2.2.2.2))]) [mt, g0, g1, g2, g3, g4, g5, g6]) : ∀ (m j : Nat) (z : (Nat → Int64) × (Nat → Nat) × Int64 × Nat), j + m = n → foldF (mtNx s.1 s.2.2.1 s.2.2.2.1 (updB s.2.2.2.2.2.2 c true) r c) m j z = mtNxF s c n r → Aw X [mt, g0, g1, g2, g3, g4, g5, g6] [ob 3 [.ref g0, .ref g1, .ref g2, .ref g3, .ref g4, .ref g5, .ref g6], aJ (CxD X) 144 s.1, aI (CxD X) 13 (opf s.2.1), aJ (CxD X) 12 s.2.2.1, aJ (CxD X) 13 s.2.2.2.1, aJ (CxD X) 13 z.1, aI (CxD X) 13 (nf z.2.1), aZ (CxD X) 13 (zf (updB s.2.2.2.2.2.2 c true))] 38 [(0, .ref mt), (1, .int (nI c)), (2, .int (nI n)), (3, .int (nI r)), (4, .int (nI z.2.2.2)), (5, .long z.2.2.1), (7, .int (nI j))] [] := by
  intro m
  induction m with
  | zero =>
    intro j z hj he
    refine r_iload (n := 40) hX dX3_nextColumn_38 rfl 6 rfl ?_
    refine r_iload_n (n := 41) hX dX3_nextColumn_40 rfl rfl 2 rfl ?_
    refine r_icmp_ge_n (tgt := 148) (n := 44) hX j n (by omega) (by omega) dX3_nextColumn_41 (by decide) rfl (fun c41 => ?_) (fun c41 => absurd c41 (by omega))
    refine r_aload_n (n := 149) hX dX3_nextColumn_148 rfl rfl 0 rfl ?_
    refine r_lload (n := 151) hX dX3_nextColumn_149 rfl 5 rfl ?_
    refine r_iload_n (n := 152) hX dX3_nextColumn_151 rfl rfl 2 rfl ?_
    have hs2 : ∀ j, j ≤ n → (updB s.2.2.2.2.2.2 c true) j = true → ∃ r, s.2.1 j = some r ∧ r < 12 := fun j h1 h2 => by
      by_cases e : j = c
      · rw [e]; exact ⟨r, hr, hr2⟩
      · exact hs j h1 (by simpa [updB, e] using h2)
    refine r_callV (n := 155) (av := [.long z.2.2.1, .int (nI n)]) hX (ct_X3_shiftPrices (CxL X) (CxD X) mt g0 g1 g2 g3 g4 g5 g6 (s.1, s.2.1, s.2.2.1, s.2.2.2.1, z.1, z.2.1, (updB s.2.2.2.2.2.2 c true)) z.2.2.1 n hn hs2) ml_X3_55 cv_X3_shiftPrices rfl (by decide) [0, 1, 2, 3, 4, 5, 6, 7] rfl rfl (by decide) 0 rfl rfl rfl rfl rfl (Nat.le_of_ble_eq_true rfl) dX3_nextColumn_152 rfl (fun r_ es_ h_ l_ => ?_)
    obtain ⟨rfl, rfl⟩ := h_
    show Aw X [mt, g0, g1, g2, g3, g4, g5, g6] [ob 3 [.ref g0, .ref g1, .ref g2, .ref g3, .ref g4, .ref g5, .ref g6], aJ (CxD X) 144 ((mtShift (s.1, s.2.1, s.2.2.1, s.2.2.2.1, z.1, z.2.1, (updB s.2.2.2.2.2.2 c true)) z.2.2.1 n).1), aI (CxD X) 13 (opf ((mtShift (s.1, s.2.1, s.2.2.1, s.2.2.2.1, z.1, z.2.1, (updB s.2.2.2.2.2.2 c true)) z.2.2.1 n).2.1)), aJ (CxD X) 12 ((mtShift (s.1, s.2.1, s.2.2.1, s.2.2.2.1, z.1, z.2.1, (updB s.2.2.2.2.2.2 c true)) z.2.2.1 n).2.2.1), aJ (CxD X) 13 ((mtShift (s.1, s.2.1, s.2.2.1, s.2.2.2.1, z.1, z.2.1, (updB s.2.2.2.2.2.2 c true)) z.2.2.1 n).2.2.2.1), aJ (CxD X) 13 ((mtShift (s.1, s.2.1, s.2.2.1, s.2.2.2.1, z.1, z.2.1, (updB s.2.2.2.2.2.2 c true)) z.2.2.1 n).2.2.2.2.1), aI (CxD X) 13 (nf ((mtShift (s.1, s.2.1, s.2.2.1, s.2.2.2.1, z.1, z.2.1, (updB s.2.2.2.2.2.2 c true)) z.2.2.1 n).2.2.2.2.2.1)), aZ (CxD X) 13 (zf ((mtShift (s.1, s.2.1, s.2.2.1, s.2.2.2.1, z.1, z.2.1, (updB s.2.2.2.2.2.2 c true)) z.2.2.1 n).2.2.2.2.2.2))] 155 [(0, .ref mt), (1, .int (nI c)), (2, .int (nI n)), (3, .int (nI r)), (4, .int (nI z.2.2.2)), (5, .long z.2.2.1), (7, .int (nI j))] []
    refine r_iload (n := 157) hX dX3_nextColumn_155 rfl 4 rfl ?_
    exact r_ireturn hX hR dX3_nextColumn_157 (by have he : z = mtNxF s c n r := he; simp only [mtNextC, mtNextS, ← he, and_self])
  | succ m ih =>
    intro j z hj he
    refine r_iload (n := 40) hX dX3_nextColumn_38 rfl 6 rfl ?_
    refine r_iload_n (n := 41) hX dX3_nextColumn_40 rfl rfl 2 rfl ?_
    refine r_icmp_ge_n (tgt := 148) (n := 44) hX j n (by omega) (by omega) dX3_nextColumn_41 (by decide) rfl (fun c41 => absurd c41 (by omega)) (fun c41 => ?_)
    refine r_aload_n (n := 45) hX dX3_nextColumn_44 rfl rfl 0 rfl ?_
    refine r_get (n := 48) hX 0 rfl rfl rfl 6 (by decide) lay_X3 fl_X3_31 rfl dX3_nextColumn_45 rfl ?_
    refine r_iload (n := 50) hX dX3_nextColumn_48 rfl 6 rfl ?_
    refine r_zaldbn (n := 51) (i := j) hX 7 rfl rfl (by omega) (by decide) dX3_nextColumn_50 rfl ?_
    refine r_if_eq_b (tgt := 57) (n := 54) hX dX3_nextColumn_51 (by decide) rfl (fun c51 => ?_) (fun c51 => ?_)
    · skip
      refine r_aload_n (n := 58) hX dX3_nextColumn_57 rfl rfl 0 rfl ?_
      refine r_get (n := 61) hX 0 rfl rfl rfl 0 (by decide) lay_X3 fl_X3_9 rfl dX3_nextColumn_58 rfl ?_
      refine r_iload_n (n := 62) hX dX3_nextColumn_61 rfl rfl 3 rfl ?_
      refine r_bipush (n := 64) hX 12 dX3_nextColumn_62 rfl rfl ?_
      refine r_imul (n := 65) hX dX3_nextColumn_64 rfl ?_
      refine Aw.topi (nI (r * 12)) (pk_mul _ _) ?_
      refine r_iload (n := 67) hX dX3_nextColumn_65 rfl 6 rfl ?_
      refine r_iadd (n := 68) hX dX3_nextColumn_67 rfl ?_
      refine Aw.topi (nI ((r * 12) + j)) (nI_add _ _) ?_
      refine r_laldn (n := 69) (i := ((r * 12) + j)) hX 1 rfl rfl (by omega) (by decide) dX3_nextColumn_68 rfl ?_
      refine r_aload_n (n := 70) hX dX3_nextColumn_69 rfl rfl 0 rfl ?_
      refine r_get (n := 73) hX 0 rfl rfl rfl 2 (by decide) lay_X3 fl_X3_19 rfl dX3_nextColumn_70 rfl ?_
      refine r_iload_n (n := 74) hX dX3_nextColumn_73 rfl rfl 3 rfl ?_
      refine r_laldn (n := 75) (i := r) hX 3 rfl rfl (by omega) (by decide) dX3_nextColumn_74 rfl ?_
      refine r_lsub (n := 76) hX dX3_nextColumn_75 rfl ?_
      refine r_aload_n (n := 77) hX dX3_nextColumn_76 rfl rfl 0 rfl ?_
      refine r_get (n := 80) hX 0 rfl rfl rfl 3 (by decide) lay_X3 fl_X3_22 rfl dX3_nextColumn_77 rfl ?_
      refine r_iload (n := 82) hX dX3_nextColumn_80 rfl 6 rfl ?_
      refine r_laldn (n := 83) (i := j) hX 4 rfl rfl (by omega) (by decide) dX3_nextColumn_82 rfl ?_
      refine r_lsub (n := 84) hX dX3_nextColumn_83 rfl ?_
      refine r_lstore (n := 86) hX [(0, .ref mt), (1, .int (nI c)), (2, .int (nI n)), (3, .int (nI r)), (4, .int (nI z.2.2.2)), (5, .long z.2.2.1), (7, .int (nI j)), (8, .long (((s.1 ((r * 12) + j)) - (s.2.2.1 r)) - (s.2.2.2.1 j)))] dX3_nextColumn_84 rfl (by decide) rfl ?_
      refine r_lload (n := 88) hX dX3_nextColumn_86 rfl 7 rfl ?_
      refine r_aload_n (n := 89) hX dX3_nextColumn_88 rfl rfl 0 rfl ?_
      refine r_get (n := 92) hX 0 rfl rfl rfl 4 (by decide) lay_X3 fl_X3_25 rfl dX3_nextColumn_89 rfl ?_
      refine r_iload (n := 94) hX dX3_nextColumn_92 rfl 6 rfl ?_
      refine r_laldn (n := 95) (i := j) hX 5 rfl rfl (by omega) (by decide) dX3_nextColumn_94 rfl ?_
      refine r_lif_ge (tgt := 116) (n := 99) hX dX3_nextColumn_95 rfl dX3_nextColumn_96 (by decide) rfl (fun c95 => ?_) (fun c95 => ?_)
      · replace c95 := Int64.not_lt.mpr c95
        refine r_aload_n (n := 117) hX dX3_nextColumn_116 rfl rfl 0 rfl ?_
        refine r_get (n := 120) hX 0 rfl rfl rfl 4 (by decide) lay_X3 fl_X3_25 rfl dX3_nextColumn_117 rfl ?_
        refine r_iload (n := 122) hX dX3_nextColumn_120 rfl 6 rfl ?_
        refine r_laldn (n := 123) (i := j) hX 5 rfl rfl (by omega) (by decide) dX3_nextColumn_122 rfl ?_
        refine r_lload (n := 125) hX dX3_nextColumn_123 rfl 5 rfl ?_
        refine r_lif_ge (tgt := 142) (n := 129) hX dX3_nextColumn_125 rfl dX3_nextColumn_126 (by decide) rfl (fun c125 => ?_) (fun c125 => ?_)
        · replace c125 := Int64.not_lt.mpr c125
          refine r_iinc (n := 145) hX (nI (j + 1)) [(0, .ref mt), (1, .int (nI c)), (2, .int (nI n)), (3, .int (nI r)), (4, .int (nI z.2.2.2)), (5, .long z.2.2.1), (7, .int (nI (j + 1))), (8, .long (((s.1 ((r * 12) + j)) - (s.2.2.1 r)) - (s.2.2.2.1 j)))] dX3_nextColumn_142 rfl 6 rfl (nI_add _ _) (by decide) rfl ?_
          refine r_goto (tgt := 38) hX dX3_nextColumn_145 (by decide) ?_
          refine Aw.loc (lv' := [(0, .ref mt), (1, .int (nI c)), (2, .int (nI n)), (3, .int (nI r)), (4, .int (nI z.2.2.2)), (5, .long z.2.2.1), (7, .int (nI (j + 1)))]) [0, 1, 2, 3, 4, 5, 6] rfl ?_
          exact ih (j + 1) (z.1, z.2.1, z.2.2.1, z.2.2.2) (by omega) (by rw [← he]; have e51 := c51; simp only [foldF, mtNx, c51, c95, c125, if_true, if_false, Bool.false_eq_true])
        · replace c125 := Int64.not_le.mp c125
          refine r_aload_n (n := 130) hX dX3_nextColumn_129 rfl rfl 0 rfl ?_
          refine r_get (n := 133) hX 0 rfl rfl rfl 4 (by decide) lay_X3 fl_X3_25 rfl dX3_nextColumn_130 rfl ?_
          refine r_iload (n := 135) hX dX3_nextColumn_133 rfl 6 rfl ?_
          refine r_laldn (n := 136) (i := j) hX 5 rfl rfl (by omega) (by decide) dX3_nextColumn_135 rfl ?_
          refine r_lstore (n := 138) hX [(0, .ref mt), (1, .int (nI c)), (2, .int (nI n)), (3, .int (nI r)), (4, .int (nI z.2.2.2)), (5, .long (z.1 j)), (7, .int (nI j)), (8, .long (((s.1 ((r * 12) + j)) - (s.2.2.1 r)) - (s.2.2.2.1 j)))] dX3_nextColumn_136 rfl (by decide) rfl ?_
          refine r_iload (n := 140) hX dX3_nextColumn_138 rfl 6 rfl ?_
          refine r_istore (n := 142) hX [(0, .ref mt), (1, .int (nI c)), (2, .int (nI n)), (3, .int (nI r)), (4, .int (nI j)), (5, .long (z.1 j)), (7, .int (nI j)), (8, .long (((s.1 ((r * 12) + j)) - (s.2.2.1 r)) - (s.2.2.2.1 j)))] dX3_nextColumn_140 rfl (by decide) rfl ?_
          refine r_iinc (n := 145) hX (nI (j + 1)) [(0, .ref mt), (1, .int (nI c)), (2, .int (nI n)), (3, .int (nI r)), (4, .int (nI j)), (5, .long (z.1 j)), (7, .int (nI (j + 1))), (8, .long (((s.1 ((r * 12) + j)) - (s.2.2.1 r)) - (s.2.2.2.1 j)))] dX3_nextColumn_142 rfl 6 rfl (nI_add _ _) (by decide) rfl ?_
          refine r_goto (tgt := 38) hX dX3_nextColumn_145 (by decide) ?_
          refine Aw.loc (lv' := [(0, .ref mt), (1, .int (nI c)), (2, .int (nI n)), (3, .int (nI r)), (4, .int (nI j)), (5, .long (z.1 j)), (7, .int (nI (j + 1)))]) [0, 1, 2, 3, 4, 5, 6] rfl ?_
          exact ih (j + 1) (z.1, z.2.1, z.1 j, j) (by omega) (by rw [← he]; have e51 := c51; simp only [foldF, mtNx, c51, c95, c125, if_true, if_false, Bool.false_eq_true])
      · replace c95 := Int64.not_le.mp c95
        refine r_aload_n (n := 100) hX dX3_nextColumn_99 rfl rfl 0 rfl ?_
        refine r_get (n := 103) hX 0 rfl rfl rfl 4 (by decide) lay_X3 fl_X3_25 rfl dX3_nextColumn_100 rfl ?_
        refine r_iload (n := 105) hX dX3_nextColumn_103 rfl 6 rfl ?_
        refine r_lload (n := 107) hX dX3_nextColumn_105 rfl 7 rfl ?_
        refine r_lastn (n := 108) (i := j) hX 5 rfl rfl [ob 3 [.ref g0, .ref g1, .ref g2, .ref g3, .ref g4, .ref g5, .ref g6], aJ (CxD X) 144 s.1, aI (CxD X) 13 (opf s.2.1), aJ (CxD X) 12 s.2.2.1, aJ (CxD X) 13 s.2.2.2.1, aJ (CxD X) 13 (vp_updL z.1 j (((s.1 ((r * 12) + j)) - (s.2.2.1 r)) - (s.2.2.2.1 j))), aI (CxD X) 13 (nf z.2.1), aZ (CxD X) 13 (zf (updB s.2.2.2.2.2.2 c true))] (by omega) (by decide) rfl dX3_nextColumn_107 rfl ?_
        refine r_aload_n (n := 109) hX dX3_nextColumn_108 rfl rfl 0 rfl ?_
        refine r_get (n := 112) hX 0 rfl rfl rfl 5 (by decide) lay_X3 fl_X3_28 rfl dX3_nextColumn_109 rfl ?_
        refine r_iload (n := 114) hX dX3_nextColumn_112 rfl 6 rfl ?_
        refine r_iload_n (n := 115) hX dX3_nextColumn_114 rfl rfl 1 rfl ?_
        refine r_iastNn (n := 116) (i := j) hX 6 rfl rfl c [ob 3 [.ref g0, .ref g1, .ref g2, .ref g3, .ref g4, .ref g5, .ref g6], aJ (CxD X) 144 s.1, aI (CxD X) 13 (opf s.2.1), aJ (CxD X) 12 s.2.2.1, aJ (CxD X) 13 s.2.2.2.1, aJ (CxD X) 13 (vp_updL z.1 j (((s.1 ((r * 12) + j)) - (s.2.2.1 r)) - (s.2.2.2.1 j))), aI (CxD X) 13 (nf (va_up z.2.1 j c)), aZ (CxD X) 13 (zf (updB s.2.2.2.2.2.2 c true))] (by omega) (by decide) rfl dX3_nextColumn_115 rfl ?_
        refine r_aload_n (n := 117) hX dX3_nextColumn_116 rfl rfl 0 rfl ?_
        refine r_get (n := 120) hX 0 rfl rfl rfl 4 (by decide) lay_X3 fl_X3_25 rfl dX3_nextColumn_117 rfl ?_
        refine r_iload (n := 122) hX dX3_nextColumn_120 rfl 6 rfl ?_
        refine r_laldn (n := 123) (i := j) hX 5 rfl rfl (by omega) (by decide) dX3_nextColumn_122 rfl ?_
        refine r_lload (n := 125) hX dX3_nextColumn_123 rfl 5 rfl ?_
        refine r_lif_ge (tgt := 142) (n := 129) hX dX3_nextColumn_125 rfl dX3_nextColumn_126 (by decide) rfl (fun c125 => ?_) (fun c125 => ?_)
        · replace c125 := Int64.not_lt.mpr c125
          refine r_iinc (n := 145) hX (nI (j + 1)) [(0, .ref mt), (1, .int (nI c)), (2, .int (nI n)), (3, .int (nI r)), (4, .int (nI z.2.2.2)), (5, .long z.2.2.1), (7, .int (nI (j + 1))), (8, .long (((s.1 ((r * 12) + j)) - (s.2.2.1 r)) - (s.2.2.2.1 j)))] dX3_nextColumn_142 rfl 6 rfl (nI_add _ _) (by decide) rfl ?_
          refine r_goto (tgt := 38) hX dX3_nextColumn_145 (by decide) ?_
          refine Aw.loc (lv' := [(0, .ref mt), (1, .int (nI c)), (2, .int (nI n)), (3, .int (nI r)), (4, .int (nI z.2.2.2)), (5, .long z.2.2.1), (7, .int (nI (j + 1)))]) [0, 1, 2, 3, 4, 5, 6] rfl ?_
          exact ih (j + 1) (vp_updL z.1 j (((s.1 ((r * 12) + j)) - (s.2.2.1 r)) - (s.2.2.2.1 j)), va_up z.2.1 j c, z.2.2.1, z.2.2.2) (by omega) (by rw [← he]; have e51 := c51; simp only [foldF, mtNx, c51, c95, c125, if_true, if_false, Bool.false_eq_true])
        · replace c125 := Int64.not_le.mp c125
          refine r_aload_n (n := 130) hX dX3_nextColumn_129 rfl rfl 0 rfl ?_
          refine r_get (n := 133) hX 0 rfl rfl rfl 4 (by decide) lay_X3 fl_X3_25 rfl dX3_nextColumn_130 rfl ?_
          refine r_iload (n := 135) hX dX3_nextColumn_133 rfl 6 rfl ?_
          refine r_laldn (n := 136) (i := j) hX 5 rfl rfl (by omega) (by decide) dX3_nextColumn_135 rfl ?_
          refine r_lstore (n := 138) hX [(0, .ref mt), (1, .int (nI c)), (2, .int (nI n)), (3, .int (nI r)), (4, .int (nI z.2.2.2)), (5, .long ((vp_updL z.1 j (((s.1 ((r * 12) + j)) - (s.2.2.1 r)) - (s.2.2.2.1 j))) j)), (7, .int (nI j)), (8, .long (((s.1 ((r * 12) + j)) - (s.2.2.1 r)) - (s.2.2.2.1 j)))] dX3_nextColumn_136 rfl (by decide) rfl ?_
          refine r_iload (n := 140) hX dX3_nextColumn_138 rfl 6 rfl ?_
          refine r_istore (n := 142) hX [(0, .ref mt), (1, .int (nI c)), (2, .int (nI n)), (3, .int (nI r)), (4, .int (nI j)), (5, .long ((vp_updL z.1 j (((s.1 ((r * 12) + j)) - (s.2.2.1 r)) - (s.2.2.2.1 j))) j)), (7, .int (nI j)), (8, .long (((s.1 ((r * 12) + j)) - (s.2.2.1 r)) - (s.2.2.2.1 j)))] dX3_nextColumn_140 rfl (by decide) rfl ?_
          refine r_iinc (n := 145) hX (nI (j + 1)) [(0, .ref mt), (1, .int (nI c)), (2, .int (nI n)), (3, .int (nI r)), (4, .int (nI j)), (5, .long ((vp_updL z.1 j (((s.1 ((r * 12) + j)) - (s.2.2.1 r)) - (s.2.2.2.1 j))) j)), (7, .int (nI (j + 1))), (8, .long (((s.1 ((r * 12) + j)) - (s.2.2.1 r)) - (s.2.2.2.1 j)))] dX3_nextColumn_142 rfl 6 rfl (nI_add _ _) (by decide) rfl ?_
          refine r_goto (tgt := 38) hX dX3_nextColumn_145 (by decide) ?_
          refine Aw.loc (lv' := [(0, .ref mt), (1, .int (nI c)), (2, .int (nI n)), (3, .int (nI r)), (4, .int (nI j)), (5, .long ((vp_updL z.1 j (((s.1 ((r * 12) + j)) - (s.2.2.1 r)) - (s.2.2.2.1 j))) j)), (7, .int (nI (j + 1)))]) [0, 1, 2, 3, 4, 5, 6] rfl ?_
          exact ih (j + 1) (vp_updL z.1 j (((s.1 ((r * 12) + j)) - (s.2.2.1 r)) - (s.2.2.2.1 j)), va_up z.2.1 j c, (vp_updL z.1 j (((s.1 ((r * 12) + j)) - (s.2.2.1 r)) - (s.2.2.2.1 j))) j, j) (by omega) (by rw [← he]; have e51 := c51; simp only [foldF, mtNx, c51, c95, c125, if_true, if_false, Bool.false_eq_true])
    · have hb : mtNx s.1 s.2.2.1 s.2.2.2.1 (updB s.2.2.2.2.2.2 c true) r c j z = z := by simp [mtNx, c51]
      refine r_goto (tgt := 142) hX dX3_nextColumn_54 (by decide) ?_
      refine r_iinc (n := 145) hX (nI (j + 1)) [(0, .ref mt), (1, .int (nI c)), (2, .int (nI n)), (3, .int (nI r)), (4, .int (nI z.2.2.2)), (5, .long z.2.2.1), (7, .int (nI (j + 1)))] dX3_nextColumn_142 rfl 6 rfl (nI_add _ _) (by decide) rfl ?_
      refine r_goto (tgt := 38) hX dX3_nextColumn_145 (by decide) ?_
      exact ih (j + 1) (z.1, z.2.1, z.2.2.1, z.2.2.2) (by omega) (by rw [← he]; simp only [foldF, hb])
set_option maxHeartbeats 1000000 in
set_option maxRecDepth 100000 in
theorem wk_X3_nextColumn {X : Cx} (hX : Ok X cX3_nextColumn 10 RX3 1) (mt g0 g1 g2 g3 g4 g5 g6 : Nat) (s : MT) (c n r : Nat) (hc : c ≤ n) (hn : n ≤ 12) (hr : s.2.1 c = some r) (hr2 : r < 12) (hs : ∀ j, j ≤ n → s.2.2.2.2.2.2 j = true → ∃ r, s.2.1 j = some r ∧ r < 12) (hR : Rt X (some FieldType.int) (fun r_ es' => r_ = some (.int (nI (mtNextC s c n r))) ∧ es' = [ob 3 [.ref g0, .ref g1, .ref g2, .ref g3, .ref g4, .ref g5, .ref g6], aJ (CxD X) 144 ((mtNextS s c n r).1), aI (CxD X) 13 (opf ((mtNextS s c n r).2.1)), aJ (CxD X) 12 ((mtNextS s c n r).2.2.1), aJ (CxD X) 13 ((mtNextS s c n r).2.2.2.1), aJ (CxD X) 13 ((mtNextS s c n r).2.2.2.2.1), aI (CxD X) 13 (nf ((mtNextS s c n r).2.2.2.2.2.1)), aZ (CxD X) 13 (zf ((mtNextS s c n r).2.2.2.2.2.2))]) [mt, g0, g1, g2, g3, g4, g5, g6]) : Aw X [mt, g0, g1, g2, g3, g4, g5, g6] [ob 3 [.ref g0, .ref g1, .ref g2, .ref g3, .ref g4, .ref g5, .ref g6], aJ (CxD X) 144 s.1, aI (CxD X) 13 (opf s.2.1), aJ (CxD X) 12 s.2.2.1, aJ (CxD X) 13 s.2.2.2.1, aJ (CxD X) 13 s.2.2.2.2.1, aI (CxD X) 13 (nf s.2.2.2.2.2.1), aZ (CxD X) 13 (zf s.2.2.2.2.2.2)] 0 [(0, .ref mt), (1, .int (nI c)), (2, .int (nI n))] [] := by
  refine r_aload_n (n := 1) hX dX3_nextColumn_0 rfl rfl 0 rfl ?_
  refine r_get (n := 4) hX 0 rfl rfl rfl 1 (by decide) lay_X3 fl_X3_15 rfl dX3_nextColumn_1 rfl ?_
  refine r_iload_n (n := 5) hX dX3_nextColumn_4 rfl rfl 1 rfl ?_
  refine r_ialdOn (n := 6) (i := c) hX 2 rfl rfl (by omega) (by decide) dX3_nextColumn_5 rfl ?_
  refine Aw.topi (nI r) (by rw [hr]; rfl) ?_
  refine r_istore_n (n := 7) hX [(0, .ref mt), (1, .int (nI c)), (2, .int (nI n)), (3, .int (nI r))] dX3_nextColumn_6 rfl rfl (by decide) rfl ?_
  refine r_iload_n (n := 8) hX dX3_nextColumn_7 rfl rfl 1 rfl ?_
  refine r_istore (n := 10) hX [(0, .ref mt), (1, .int (nI c)), (2, .int (nI n)), (3, .int (nI r)), (4, .int (nI c))] dX3_nextColumn_8 rfl (by decide) rfl ?_
  refine r_ldc2 (n := 13) hX dX3_nextColumn_10 rfl kl_X3_50 ?_
  refine r_lstore (n := 15) hX [(0, .ref mt), (1, .int (nI c)), (2, .int (nI n)), (3, .int (nI r)), (4, .int (nI c)), (5, .long 1152921504606846976)] dX3_nextColumn_13 rfl (by decide) rfl ?_
  refine r_iload_n (n := 16) hX dX3_nextColumn_15 rfl rfl 3 rfl ?_
  refine r_iflt_n (n := 19) (tgt := 25) hX (by omega) dX3_nextColumn_16 rfl (by decide) ?_
  refine r_iload_n (n := 20) hX dX3_nextColumn_19 rfl rfl 3 rfl ?_
  refine r_bipush (n := 22) hX 12 dX3_nextColumn_20 rfl rfl ?_
  refine r_icmp_lt_n (tgt := 28) (n := 25) hX r 12 (by omega) (by omega) dX3_nextColumn_22 (by decide) rfl (fun c22 => ?_) (fun c22 => absurd c22 (by omega))
  refine r_aload_n (n := 29) hX dX3_nextColumn_28 rfl rfl 0 rfl ?_
  refine r_get (n := 32) hX 0 rfl rfl rfl 6 (by decide) lay_X3 fl_X3_31 rfl dX3_nextColumn_29 rfl ?_
  refine r_iload_n (n := 33) hX dX3_nextColumn_32 rfl rfl 1 rfl ?_
  refine r_iconst (n := 34) hX 1 dX3_nextColumn_33 rfl rfl ?_
  refine r_zastbn (n := 35) (i := c) hX 7 rfl rfl true [ob 3 [.ref g0, .ref g1, .ref g2, .ref g3, .ref g4, .ref g5, .ref g6], aJ (CxD X) 144 s.1, aI (CxD X) 13 (opf s.2.1), aJ (CxD X) 12 s.2.2.1, aJ (CxD X) 13 s.2.2.2.1, aJ (CxD X) 13 s.2.2.2.2.1, aI (CxD X) 13 (nf s.2.2.2.2.2.1), aZ (CxD X) 13 (zf (updB s.2.2.2.2.2.2 c true))] (by omega) (by decide) rfl dX3_nextColumn_34 rfl ?_
  refine r_iconst (n := 36) hX 0 dX3_nextColumn_35 rfl rfl ?_
  refine r_istore (n := 38) hX [(0, .ref mt), (1, .int (nI c)), (2, .int (nI n)), (3, .int (nI r)), (4, .int (nI c)), (5, .long 1152921504606846976), (7, .int 0)] dX3_nextColumn_36 rfl (by decide) rfl ?_
  exact lp_X3_next hX mt g0 g1 g2 g3 g4 g5 g6 s c n r hc hn hr hr2 hs hR n 0 (s.2.2.2.2.1, s.2.2.2.2.2.1, 1152921504606846976, c) (by omega) rfl
theorem ct_X3_nextColumn (l : Launch) (D : va_G) (mt g0 g1 g2 g3 g4 g5 g6 : Nat) (s : MT) (c n r : Nat) (hc : c ≤ n) (hn : n ≤ 12) (hr : s.2.1 c = some r) (hr2 : r < 12) (hs : ∀ j, j ≤ n → s.2.2.2.2.2.2 j = true → ∃ r, s.2.1 j = some r ∧ r < 12) : Ct l D m_X3_nextColumn 1 [.ref mt, .int (nI c), .int (nI n)] [mt, g0, g1, g2, g3, g4, g5, g6] [ob 3 [.ref g0, .ref g1, .ref g2, .ref g3, .ref g4, .ref g5, .ref g6], aJ D 144 s.1, aI D 13 (opf s.2.1), aJ D 12 s.2.2.1, aJ D 13 s.2.2.2.1, aJ D 13 s.2.2.2.2.1, aI D 13 (nf s.2.2.2.2.2.1), aZ D 13 (zf s.2.2.2.2.2.2)] (fun r_ es' => r_ = some (.int (nI (mtNextC s c n r))) ∧ es' = [ob 3 [.ref g0, .ref g1, .ref g2, .ref g3, .ref g4, .ref g5, .ref g6], aJ D 144 ((mtNextS s c n r).1), aI D 13 (opf ((mtNextS s c n r).2.1)), aJ D 12 ((mtNextS s c n r).2.2.1), aJ D 13 ((mtNextS s c n r).2.2.2.1), aJ D 13 ((mtNextS s c n r).2.2.2.2.1), aI D 13 (nf ((mtNextS s c n r).2.2.2.2.2.1)), aZ D 13 (zf ((mtNextS s c n r).2.2.2.2.2.2))]) :=
  Ct.ofA (own := RX3) (by decide) rfl (Nat.le_of_ble_eq_true rfl) rfl (fun X hl hD hX hR => by subst hl; subst hD; exact wk_X3_nextColumn hX mt g0 g1 g2 g3 g4 g5 g6 s c n r hc hn hr hr2 hs hR)
def mtTight (s : MT) (p h : Nat) : Bool := if 1125899906842624 ≤ s.1 (p * 12 + h) then false else decide (s.1 (p * 12 + h) = s.2.2.1 p + s.2.2.2.1 h)
set_option maxHeartbeats 1000000 in
set_option maxRecDepth 100000 in
theorem wk_X3_isTight {X : Cx} (hX : Ok X cX3_isTight 5 RX3 0) (mt g0 g1 g2 g3 g4 g5 g6 : Nat) (s : MT) (p h : Nat) (hp : p < 12) (hh : h < 12) (hR : Rt X (some FieldType.boolean) (fun r es' => r = some (.int (b2 (mtTight s p h))) ∧ es' = [ob 3 [.ref g0, .ref g1, .ref g2, .ref g3, .ref g4, .ref g5, .ref g6], aJ (CxD X) 144 s.1, aI (CxD X) 13 (opf s.2.1), aJ (CxD X) 12 s.2.2.1, aJ (CxD X) 13 s.2.2.2.1, aJ (CxD X) 13 s.2.2.2.2.1, aI (CxD X) 13 (nf s.2.2.2.2.2.1), aZ (CxD X) 13 (zf s.2.2.2.2.2.2)]) [mt, g0, g1, g2, g3, g4, g5, g6]) : Aw X [mt, g0, g1, g2, g3, g4, g5, g6] [ob 3 [.ref g0, .ref g1, .ref g2, .ref g3, .ref g4, .ref g5, .ref g6], aJ (CxD X) 144 s.1, aI (CxD X) 13 (opf s.2.1), aJ (CxD X) 12 s.2.2.1, aJ (CxD X) 13 s.2.2.2.1, aJ (CxD X) 13 s.2.2.2.2.1, aI (CxD X) 13 (nf s.2.2.2.2.2.1), aZ (CxD X) 13 (zf s.2.2.2.2.2.2)] 0 [(0, .ref mt), (1, .int (nI p)), (2, .int (nI h))] [] := by
  refine r_iload_n (n := 1) hX dX3_isTight_0 rfl rfl 1 rfl ?_
  refine r_iflt_n (n := 4) (tgt := 20) hX (by omega) dX3_isTight_1 rfl (by decide) ?_
  refine r_iload_n (n := 5) hX dX3_isTight_4 rfl rfl 1 rfl ?_
  refine r_bipush (n := 7) hX 12 dX3_isTight_5 rfl rfl ?_
  refine r_icmp_ge_n (tgt := 20) (n := 10) hX p 12 (by omega) (by omega) dX3_isTight_7 (by decide) rfl (fun c7 => absurd c7 (by omega)) (fun c7 => ?_)
  refine r_iload_n (n := 11) hX dX3_isTight_10 rfl rfl 2 rfl ?_
  refine r_iflt_n (n := 14) (tgt := 20) hX (by omega) dX3_isTight_11 rfl (by decide) ?_
  refine r_iload_n (n := 15) hX dX3_isTight_14 rfl rfl 2 rfl ?_
  refine r_bipush (n := 17) hX 12 dX3_isTight_15 rfl rfl ?_
  refine r_icmp_lt_n (tgt := 22) (n := 20) hX h 12 (by omega) (by omega) dX3_isTight_17 (by decide) rfl (fun c17 => ?_) (fun c17 => absurd c17 (by omega))
  refine r_aload_n (n := 23) hX dX3_isTight_22 rfl rfl 0 rfl ?_
  refine r_get (n := 26) hX 0 rfl rfl rfl 0 (by decide) lay_X3 fl_X3_9 rfl dX3_isTight_23 rfl ?_
  refine r_iload_n (n := 27) hX dX3_isTight_26 rfl rfl 1 rfl ?_
  refine r_bipush (n := 29) hX 12 dX3_isTight_27 rfl rfl ?_
  refine r_imul (n := 30) hX dX3_isTight_29 rfl ?_
  refine Aw.topi (nI (p * 12)) (pk_mul _ _) ?_
  refine r_iload_n (n := 31) hX dX3_isTight_30 rfl rfl 2 rfl ?_
  refine r_iadd (n := 32) hX dX3_isTight_31 rfl ?_
  refine Aw.topi (nI ((p * 12) + h)) (nI_add _ _) ?_
  refine r_laldn (n := 33) (i := ((p * 12) + h)) hX 1 rfl rfl (by omega) (by decide) dX3_isTight_32 rfl ?_
  refine r_lstore_n (n := 34) hX [(0, .ref mt), (1, .int (nI p)), (2, .int (nI h)), (3, .long (s.1 ((p * 12) + h)))] dX3_isTight_33 rfl rfl (by decide) rfl ?_
  refine r_lload_n (n := 35) hX dX3_isTight_34 rfl rfl 3 rfl ?_
  refine r_ldc2 (n := 38) hX dX3_isTight_35 rfl kl_X3_48 ?_
  refine r_lif_ge (tgt := 64) (n := 42) hX dX3_isTight_38 rfl dX3_isTight_39 (by decide) rfl (fun c38 => ?_) (fun c38 => ?_)
  · skip
    refine r_iconst (n := 65) hX 0 dX3_isTight_64 rfl rfl ?_
    exact r_zreturn hX hR rfl dX3_isTight_65 ⟨by first | (rw [mtTight, if_pos c38]; rfl) | (rw [mtTight, if_neg c38, decide_eq_true c56]; rfl) | (rw [mtTight, if_neg c38, decide_eq_false c56]; rfl), rfl⟩
  · skip
    refine r_lload_n (n := 43) hX dX3_isTight_42 rfl rfl 3 rfl ?_
    refine r_aload_n (n := 44) hX dX3_isTight_43 rfl rfl 0 rfl ?_
    refine r_get (n := 47) hX 0 rfl rfl rfl 2 (by decide) lay_X3 fl_X3_19 rfl dX3_isTight_44 rfl ?_
    refine r_iload_n (n := 48) hX dX3_isTight_47 rfl rfl 1 rfl ?_
    refine r_laldn (n := 49) (i := p) hX 3 rfl rfl (by omega) (by decide) dX3_isTight_48 rfl ?_
    refine r_aload_n (n := 50) hX dX3_isTight_49 rfl rfl 0 rfl ?_
    refine r_get (n := 53) hX 0 rfl rfl rfl 3 (by decide) lay_X3 fl_X3_22 rfl dX3_isTight_50 rfl ?_
    refine r_iload_n (n := 54) hX dX3_isTight_53 rfl rfl 2 rfl ?_
    refine r_laldn (n := 55) (i := h) hX 4 rfl rfl (by omega) (by decide) dX3_isTight_54 rfl ?_
    refine r_ladd (n := 56) hX dX3_isTight_55 rfl ?_
    refine r_lif_ne (tgt := 64) (n := 60) hX dX3_isTight_56 rfl dX3_isTight_57 (by decide) rfl (fun c56 => ?_) (fun c56 => ?_)
    · skip
      refine r_iconst (n := 65) hX 0 dX3_isTight_64 rfl rfl ?_
      exact r_zreturn hX hR rfl dX3_isTight_65 ⟨by first | (rw [mtTight, if_pos c38]; rfl) | (rw [mtTight, if_neg c38, decide_eq_true c56]; rfl) | (rw [mtTight, if_neg c38, decide_eq_false c56]; rfl), rfl⟩
    · skip
      refine r_iconst (n := 61) hX 1 dX3_isTight_60 rfl rfl ?_
      refine r_goto (tgt := 65) hX dX3_isTight_61 (by decide) ?_
      exact r_zreturn hX hR rfl dX3_isTight_65 ⟨by first | (rw [mtTight, if_pos c38]; rfl) | (rw [mtTight, if_neg c38, decide_eq_true c56]; rfl) | (rw [mtTight, if_neg c38, decide_eq_false c56]; rfl), rfl⟩
theorem ct_X3_isTight (l : Launch) (D : va_G) (mt g0 g1 g2 g3 g4 g5 g6 : Nat) (s : MT) (p h : Nat) (hp : p < 12) (hh : h < 12) : Ct l D m_X3_isTight 0 [.ref mt, .int (nI p), .int (nI h)] [mt, g0, g1, g2, g3, g4, g5, g6] [ob 3 [.ref g0, .ref g1, .ref g2, .ref g3, .ref g4, .ref g5, .ref g6], aJ D 144 s.1, aI D 13 (opf s.2.1), aJ D 12 s.2.2.1, aJ D 13 s.2.2.2.1, aJ D 13 s.2.2.2.2.1, aI D 13 (nf s.2.2.2.2.2.1), aZ D 13 (zf s.2.2.2.2.2.2)] (fun r es' => r = some (.int (b2 (mtTight s p h))) ∧ es' = [ob 3 [.ref g0, .ref g1, .ref g2, .ref g3, .ref g4, .ref g5, .ref g6], aJ D 144 s.1, aI D 13 (opf s.2.1), aJ D 12 s.2.2.1, aJ D 13 s.2.2.2.1, aJ D 13 s.2.2.2.2.1, aI D 13 (nf s.2.2.2.2.2.1), aZ D 13 (zf s.2.2.2.2.2.2)]) :=
  Ct.ofA (own := RX3) (by decide) rfl (Nat.le_of_ble_eq_true rfl) rfl (fun X hl hD hX hR => by subst hl; subst hD; exact wk_X3_isTight hX mt g0 g1 g2 g3 g4 g5 g6 s p h hp hh hR)

def mtInit (s : MT) (i n : Nat) : MT := (s.1, va_up s.2.1 n (some i), s.2.2.1, s.2.2.2.1, cpyL s.2.2.2.2.1 (fun _ => 1152921504606846976) 13, s.2.2.2.2.2.1, cpyB s.2.2.2.2.2.2 (fun _ => false) 13)
/-- the search: at most so many steps, from column c -/
def mtGo (n : Nat) : Nat → MT × Nat → MT × Nat
  | 0, z => z
  | m + 1, z => match z.1.2.1 z.2 with
    | none => z
    | some r => mtGo n m (mtNextS z.1 z.2 n r, mtNextC z.1 z.2 n r)
theorem mtGo_some {n m r : Nat} {z : MT × Nat} (hr : z.1.2.1 z.2 = some r) : mtGo n (m + 1) z = mtGo n m (mtNextS z.1 z.2 n r, mtNextC z.1 z.2 n r) := by
  conv => lhs; unfold mtGo
  rw [hr]
/-- the rows move along the way that was found: of (rowOf, column) -/
def mtMv (cf : Nat → Nat) (n : Nat) : Nat → (Nat → Option Nat) × Nat → (Nat → Option Nat) × Nat
  | 0, z => z
  | m + 1, z => if z.2 = n then z else mtMv cf n m (va_up z.1 z.2 (z.1 (cf z.2)), cf z.2)
def mtEnd (z : MT × Nat) (n : Nat) : MT := (z.1.1, (mtMv z.1.2.2.2.2.2.1 n (n + 1) (z.1.2.1, z.2)).1, z.1.2.2)
def mtPlace (s : MT) (i n : Nat) : MT := mtEnd (mtGo n (n + 1) (mtInit s i n, n)) n
/-- what the rows hold: rows below 12, ways below 13; a column that was seen has a row -/
def mtOk0 (s : MT) : Prop := (∀ j r, s.2.1 j = some r → r < 12) ∧ (∀ j, s.2.2.2.2.2.1 j ≤ 12)
def mtOk (n : Nat) (s : MT) : Prop := mtOk0 s ∧ (∀ j, j ≤ n → s.2.2.2.2.2.2 j = true → ∃ r, s.2.1 j = some r ∧ r < 12)
theorem mtNx_ok (w rp cp : Nat → Int64) (sn : Nat → Bool) (r c n : Nat) (hc : c ≤ n) (hn : n ≤ 12) : ∀ (m j : Nat) (z : (Nat → Int64) × (Nat → Nat) × Int64 × Nat), j + m ≤ n → (∀ i, z.2.1 i ≤ 12) → z.2.2.2 ≤ n → (∀ i, (foldF (mtNx w rp cp sn r c) m j z).2.1 i ≤ 12) ∧ (foldF (mtNx w rp cp sn r c) m j z).2.2.2 ≤ n
  | 0, j, z, hj, h1, h2 => ⟨h1, h2⟩
  | m + 1, j, z, hj, h1, h2 => by
    have hs : (∀ i, (mtNx w rp cp sn r c j z).2.1 i ≤ 12) ∧ (mtNx w rp cp sn r c j z).2.2.2 ≤ n := by
      have hu : ∀ i, va_up z.2.1 j c i ≤ 12 := fun i => by
        by_cases e : i = j
        · rw [e, va_up_self]; omega
        · rw [va_up_ne _ _ e]; exact h1 i
      unfold mtNx
      split
      · exact ⟨h1, h2⟩
      · dsimp only
        split <;> split <;> first | exact ⟨hu, by dsimp only; omega⟩ | exact ⟨hu, h2⟩ | exact ⟨h1, by dsimp only; omega⟩ | exact ⟨h1, h2⟩
    exact mtNx_ok w rp cp sn r c n hc hn m (j + 1) _ (by omega) hs.1 hs.2
theorem mtNext_ok {s : MT} {c n r : Nat} (hc : c ≤ n) (hn : n ≤ 12) (hr : s.2.1 c = some r) (h : mtOk n s) : mtOk n (mtNextS s c n r) ∧ mtNextC s c n r ≤ n ∧ (mtNextS s c n r).2.1 = s.2.1 := by
  have k := mtNx_ok s.1 s.2.2.1 s.2.2.2.1 (updB s.2.2.2.2.2.2 c true) r c n hc hn n 0 (s.2.2.2.2.1, s.2.2.2.2.2.1, 1152921504606846976, c) (by omega) h.1.2 hc
  refine ⟨⟨⟨h.1.1, k.1⟩, fun j h1 h2 => ?_⟩, k.2, rfl⟩
  by_cases e : j = c
  · rw [e]; exact ⟨r, hr, h.1.1 c r hr⟩
  · exact h.2 j h1 (by
      have h3 : updB s.2.2.2.2.2.2 c true j = true := h2
      simpa [updB, e] using h3)
theorem mtGo_ok {n : Nat} (hn : n ≤ 12) : ∀ (m : Nat) (z : MT × Nat), mtOk n z.1 → z.2 ≤ n → mtOk n (mtGo n m z).1 ∧ (mtGo n m z).2 ≤ n
  | 0, z, h1, h2 => ⟨h1, h2⟩
  | m + 1, z, h1, h2 => by
    unfold mtGo
    split
    · exact ⟨h1, h2⟩
    · rename_i r hr
      have k := mtNext_ok h2 hn hr h1
      exact mtGo_ok hn m _ k.1 k.2.1
theorem mtMv_ok {cf : Nat → Nat} {n : Nat} : ∀ (m : Nat) (z : (Nat → Option Nat) × Nat), (∀ j r, z.1 j = some r → r < 12) → ∀ j r, (mtMv cf n m z).1 j = some r → r < 12
  | 0, z, h => h
  | m + 1, z, h => by
    unfold mtMv
    split
    · exact h
    · refine mtMv_ok m _ (fun j r hj => ?_)
      dsimp only at hj
      by_cases e : j = z.2
      · rw [e, va_up_self] at hj; exact h _ r hj
      · rw [va_up_ne _ _ e] at hj; exact h j r hj
theorem mtInit_ok {s : MT} {i n : Nat} (hi : i < 12) (hn : n ≤ 12) (h : mtOk0 s) : mtOk n (mtInit s i n) := by
  refine ⟨⟨fun j r hj => ?_, h.2⟩, fun j h1 h2 => ?_⟩
  · have hj : va_up s.2.1 n (some i) j = some r := hj
    by_cases e : j = n
    · rw [e, va_up_self] at hj; cases hj; exact hi
    · rw [va_up_ne _ _ e] at hj; exact h.1 j r hj
  · have h2 : cpyB s.2.2.2.2.2.2 (fun _ => false) 13 j = true := h2
    simp [cpyB, show j < 13 by omega] at h2
theorem mtPlace_ok {s : MT} {i n : Nat} (hi : i < 12) (hn : n ≤ 12) (h : mtOk0 s) : mtOk0 (mtPlace s i n) := by
  have k := mtGo_ok hn (n + 1) (mtInit s i n, n) (mtInit_ok hi hn h) (Nat.le_refl n)
  exact ⟨mtMv_ok (n + 1) _ k.1.1.1, k.1.1.2⟩

set_option maxHeartbeats 1000000 in
set_option maxRecDepth 100000 in
theorem lp_X3_place3 {X : Cx} (hX : Ok X cX3_placeRow 6 RX3 2) (mt g0 g1 g2 g3 g4 g5 g6 : Nat) (s : MT) (i n : Nat) (hi : i < 12) (hn : n ≤ 12) (hs : mtOk0 s) (q : MT) (hcf : ∀ j, q.2.2.2.2.2.1 j ≤ 12) (hR : Rt X (none) (fun r es' => r = none ∧ es' = [ob 3 [.ref g0, .ref g1, .ref g2, .ref g3, .ref g4, .ref g5, .ref g6], aJ (CxD X) 144 ((mtPlace s i n).1), aI (CxD X) 13 (opf ((mtPlace s i n).2.1)), aJ (CxD X) 12 ((mtPlace s i n).2.2.1), aJ (CxD X) 13 ((mtPlace s i n).2.2.2.1), aJ (CxD X) 13 ((mtPlace s i n).2.2.2.2.1), aI (CxD X) 13 (nf ((mtPlace s i n).2.2.2.2.2.1)), aZ (CxD X) 13 (zf ((mtPlace s i n).2.2.2.2.2.2))]) [mt, g0, g1, g2, g3, g4, g5, g6]) : ∀ (m t : Nat) (ro : Nat → Option Nat) (c : Nat), t + m = n + 1 → c ≤ 12 → (q.1, (mtMv q.2.2.2.2.2.1 n m (ro, c)).1, q.2.2) = mtPlace s i n → Aw X [mt, g0, g1, g2, g3, g4, g5, g6] [ob 3 [.ref g0, .ref g1, .ref g2, .ref g3, .ref g4, .ref g5, .ref g6], aJ (CxD X) 144 q.1, aI (CxD X) 13 (opf ro), aJ (CxD X) 12 q.2.2.1, aJ (CxD X) 13 q.2.2.2.1, aJ (CxD X) 13 q.2.2.2.2.1, aI (CxD X) 13 (nf q.2.2.2.2.2.1), aZ (CxD X) 13 (zf q.2.2.2.2.2.2)] 74 [(0, .ref mt), (1, .int (nI i)), (2, .int (nI n)), (3, .int (nI c)), (4, .int (nI t))] [] := by
  intro m
  induction m with
  | zero =>
    intro t ro c ht hc he
    refine r_iload (n := 76) hX dX3_placeRow_74 rfl 4 rfl ?_
    refine r_iload_n (n := 77) hX dX3_placeRow_76 rfl rfl 2 rfl ?_
    refine r_icmp_gt_n (tgt := 115) (n := 80) hX t n (by omega) (by omega) dX3_placeRow_77 (by decide) rfl (fun c77 => ?_) (fun c77 => absurd c77 (by omega))
    exact r_return hX hR dX3_placeRow_115 (by have he : (q.1, ro, q.2.2) = mtPlace s i n := he; rw [← he]; exact ⟨rfl, rfl⟩)
  | succ m ih =>
    intro t ro c ht hc he
    refine r_iload (n := 76) hX dX3_placeRow_74 rfl 4 rfl ?_
    refine r_iload_n (n := 77) hX dX3_placeRow_76 rfl rfl 2 rfl ?_
    refine r_icmp_gt_n (tgt := 115) (n := 80) hX t n (by omega) (by omega) dX3_placeRow_77 (by decide) rfl (fun c77 => absurd c77 (by omega)) (fun c77 => ?_)
    refine r_iload_n (n := 81) hX dX3_placeRow_80 rfl rfl 3 rfl ?_
    refine r_iload_n (n := 82) hX dX3_placeRow_81 rfl rfl 2 rfl ?_
    refine r_icmp_eq_n (tgt := 115) (n := 85) hX c n (by omega) (by omega) dX3_placeRow_82 (by decide) rfl (fun c82 => ?_) (fun c82 => ?_)
    · have hm : mtMv q.2.2.2.2.2.1 n (m + 1) (ro, c) = (ro, c) := by simp [mtMv, c82]
      exact r_return hX hR dX3_placeRow_115 (by rw [hm] at he; rw [← he]; exact ⟨rfl, rfl⟩)
    · have hm : mtMv q.2.2.2.2.2.1 n (m + 1) (ro, c) = mtMv q.2.2.2.2.2.1 n m (va_up ro c (ro (q.2.2.2.2.2.1 c)), q.2.2.2.2.2.1 c) := by simp [mtMv, c82]
      have hcc := hcf c
      refine r_aload_n (n := 86) hX dX3_placeRow_85 rfl rfl 0 rfl ?_
      refine r_get (n := 89) hX 0 rfl rfl rfl 5 (by decide) lay_X3 fl_X3_28 rfl dX3_placeRow_86 rfl ?_
      refine r_iload_n (n := 90) hX dX3_placeRow_89 rfl rfl 3 rfl ?_
      refine r_ialdNn (n := 91) (i := c) hX 6 rfl rfl (by omega) (by decide) dX3_placeRow_90 rfl ?_
      refine r_istore (n := 93) hX [(0, .ref mt), (1, .int (nI i)), (2, .int (nI n)), (3, .int (nI c)), (4, .int (nI t)), (5, .int (nI (q.2.2.2.2.2.1 c)))] dX3_placeRow_91 rfl (by decide) rfl ?_
      refine r_aload_n (n := 94) hX dX3_placeRow_93 rfl rfl 0 rfl ?_
      refine r_get (n := 97) hX 0 rfl rfl rfl 1 (by decide) lay_X3 fl_X3_15 rfl dX3_placeRow_94 rfl ?_
      refine r_iload_n (n := 98) hX dX3_placeRow_97 rfl rfl 3 rfl ?_
      refine r_aload_n (n := 99) hX dX3_placeRow_98 rfl rfl 0 rfl ?_
      refine r_get (n := 102) hX 0 rfl rfl rfl 1 (by decide) lay_X3 fl_X3_15 rfl dX3_placeRow_99 rfl ?_
      refine r_iload (n := 104) hX dX3_placeRow_102 rfl 5 rfl ?_
      refine r_ialdOn (n := 105) (i := (q.2.2.2.2.2.1 c)) hX 2 rfl rfl (by omega) (by decide) dX3_placeRow_104 rfl ?_
      refine r_iastOn (n := 106) (i := c) hX 2 rfl rfl (ro (q.2.2.2.2.2.1 c)) [ob 3 [.ref g0, .ref g1, .ref g2, .ref g3, .ref g4, .ref g5, .ref g6], aJ (CxD X) 144 q.1, aI (CxD X) 13 (opf (va_up ro c (ro (q.2.2.2.2.2.1 c)))), aJ (CxD X) 12 q.2.2.1, aJ (CxD X) 13 q.2.2.2.1, aJ (CxD X) 13 q.2.2.2.2.1, aI (CxD X) 13 (nf q.2.2.2.2.2.1), aZ (CxD X) 13 (zf q.2.2.2.2.2.2)] (by omega) (by decide) rfl dX3_placeRow_105 rfl ?_
      refine r_iload (n := 108) hX dX3_placeRow_106 rfl 5 rfl ?_
      refine r_istore_n (n := 109) hX [(0, .ref mt), (1, .int (nI i)), (2, .int (nI n)), (3, .int (nI (q.2.2.2.2.2.1 c))), (4, .int (nI t)), (5, .int (nI (q.2.2.2.2.2.1 c)))] dX3_placeRow_108 rfl rfl (by decide) rfl ?_
      refine r_iinc (n := 112) hX (nI (t + 1)) [(0, .ref mt), (1, .int (nI i)), (2, .int (nI n)), (3, .int (nI (q.2.2.2.2.2.1 c))), (4, .int (nI (t + 1))), (5, .int (nI (q.2.2.2.2.2.1 c)))] dX3_placeRow_109 rfl 4 rfl (nI_add _ _) (by decide) rfl ?_
      refine r_goto (tgt := 74) hX dX3_placeRow_112 (by decide) ?_
      refine Aw.loc (lv' := [(0, .ref mt), (1, .int (nI i)), (2, .int (nI n)), (3, .int (nI (q.2.2.2.2.2.1 c))), (4, .int (nI (t + 1)))]) [0, 1, 2, 3, 4] rfl ?_
      exact ih (t + 1) _ _ (by omega) (by omega) (by rw [hm] at he; exact he)
set_option maxHeartbeats 1000000 in
set_option maxRecDepth 100000 in
theorem lp_X3_place2 {X : Cx} (hX : Ok X cX3_placeRow 6 RX3 2) (mt g0 g1 g2 g3 g4 g5 g6 : Nat) (s : MT) (i n : Nat) (hi : i < 12) (hn : n ≤ 12) (hs : mtOk0 s) (hR : Rt X (none) (fun r es' => r = none ∧ es' = [ob 3 [.ref g0, .ref g1, .ref g2, .ref g3, .ref g4, .ref g5, .ref g6], aJ (CxD X) 144 ((mtPlace s i n).1), aI (CxD X) 13 (opf ((mtPlace s i n).2.1)), aJ (CxD X) 12 ((mtPlace s i n).2.2.1), aJ (CxD X) 13 ((mtPlace s i n).2.2.2.1), aJ (CxD X) 13 ((mtPlace s i n).2.2.2.2.1), aI (CxD X) 13 (nf ((mtPlace s i n).2.2.2.2.2.1)), aZ (CxD X) 13 (zf ((mtPlace s i n).2.2.2.2.2.2))]) [mt, g0, g1, g2, g3, g4, g5, g6]) : ∀ (m t : Nat) (z : MT × Nat), t + m = n + 1 → mtOk n z.1 → z.2 ≤ n → mtGo n m z = mtGo n (n + 1) (mtInit s i n, n) → Aw X [mt, g0, g1, g2, g3, g4, g5, g6] [ob 3 [.ref g0, .ref g1, .ref g2, .ref g3, .ref g4, .ref g5, .ref g6], aJ (CxD X) 144 z.1.1, aI (CxD X) 13 (opf z.1.2.1), aJ (CxD X) 12 z.1.2.2.1, aJ (CxD X) 13 z.1.2.2.2.1, aJ (CxD X) 13 z.1.2.2.2.2.1, aI (CxD X) 13 (nf z.1.2.2.2.2.2.1), aZ (CxD X) 13 (zf z.1.2.2.2.2.2.2)] 42 [(0, .ref mt), (1, .int (nI i)), (2, .int (nI n)), (3, .int (nI z.2)), (4, .int (nI t))] [] := by
  intro m
  induction m with
  | zero =>
    intro t z ht hz hz2 he
    have he2 : (z.1.1, (mtMv z.1.2.2.2.2.2.1 n (n + 1) (z.1.2.1, z.2)).1, z.1.2.2) = mtPlace s i n := by rw [mtPlace, ← he]; rfl
    refine r_iload (n := 44) hX dX3_placeRow_42 rfl 4 rfl ?_
    refine r_iload_n (n := 45) hX dX3_placeRow_44 rfl rfl 2 rfl ?_
    refine r_icmp_gt_n (tgt := 71) (n := 48) hX t n (by omega) (by omega) dX3_placeRow_45 (by decide) rfl (fun c45 => ?_) (fun c45 => absurd c45 (by omega))
    refine r_iconst (n := 72) hX 0 dX3_placeRow_71 rfl rfl ?_
    refine r_istore (n := 74) hX [(0, .ref mt), (1, .int (nI i)), (2, .int (nI n)), (3, .int (nI z.2)), (4, .int 0)] dX3_placeRow_72 rfl (by decide) rfl ?_
    exact lp_X3_place3 hX mt g0 g1 g2 g3 g4 g5 g6 s i n hi hn hs z.1 hz.1.2 hR (n + 1) 0 z.1.2.1 z.2 (by omega) (by omega) he2
  | succ m ih =>
    intro t z ht hz hz2 he
    refine r_iload (n := 44) hX dX3_placeRow_42 rfl 4 rfl ?_
    refine r_iload_n (n := 45) hX dX3_placeRow_44 rfl rfl 2 rfl ?_
    refine r_icmp_gt_n (tgt := 71) (n := 48) hX t n (by omega) (by omega) dX3_placeRow_45 (by decide) rfl (fun c45 => absurd c45 (by omega)) (fun c45 => ?_)
    refine r_aload_n (n := 49) hX dX3_placeRow_48 rfl rfl 0 rfl ?_
    refine r_get (n := 52) hX 0 rfl rfl rfl 1 (by decide) lay_X3 fl_X3_15 rfl dX3_placeRow_49 rfl ?_
    refine r_iload_n (n := 53) hX dX3_placeRow_52 rfl rfl 3 rfl ?_
    refine r_ialdOn (n := 54) (i := z.2) hX 2 rfl rfl (by omega) (by decide) dX3_placeRow_53 rfl ?_
    refine r_iconst (n := 55) hX (-1) dX3_placeRow_54 rfl rfl ?_
    refine r_icmp_eq_o (tgt := 71) (n := 58) (x := z.1.2.1 z.2) hX (fun r h => Nat.lt_trans (hz.1.1 _ r h) (by decide)) dX3_placeRow_55 (by decide) rfl (fun c55 => ?_) (fun c55 => ?_)
    · have he2 : (z.1.1, (mtMv z.1.2.2.2.2.2.1 n (n + 1) (z.1.2.1, z.2)).1, z.1.2.2) = mtPlace s i n := by rw [mtPlace, ← he, show mtGo n (m + 1) z = z by unfold mtGo; rw [c55]]; rfl
      refine r_iconst (n := 72) hX 0 dX3_placeRow_71 rfl rfl ?_
      refine r_istore (n := 74) hX [(0, .ref mt), (1, .int (nI i)), (2, .int (nI n)), (3, .int (nI z.2)), (4, .int 0)] dX3_placeRow_72 rfl (by decide) rfl ?_
      exact lp_X3_place3 hX mt g0 g1 g2 g3 g4 g5 g6 s i n hi hn hs z.1 hz.1.2 hR (n + 1) 0 z.1.2.1 z.2 (by omega) (by omega) he2
    · obtain ⟨r, hr⟩ := Option.ne_none_iff_exists'.mp c55
      refine r_aload_n (n := 59) hX dX3_placeRow_58 rfl rfl 0 rfl ?_
      refine r_iload_n (n := 60) hX dX3_placeRow_59 rfl rfl 3 rfl ?_
      refine r_iload_n (n := 61) hX dX3_placeRow_60 rfl rfl 2 rfl ?_
      refine r_callV (n := 64) (av := [.int (nI z.2), .int (nI n)]) hX (ct_X3_nextColumn (CxL X) (CxD X) mt g0 g1 g2 g3 g4 g5 g6 z.1 z.2 n r hz2 hn hr (hz.1.1 _ r hr) hz.2) ml_X3_52 cv_X3_nextColumn rfl (by decide) [0, 1, 2, 3, 4, 5, 6, 7] rfl rfl (by decide) 0 rfl rfl rfl rfl rfl (Nat.le_of_ble_eq_true rfl) dX3_placeRow_61 rfl (fun r_ es_ h_ l_ => ?_)
      obtain ⟨rfl, rfl⟩ := h_
      show Aw X [mt, g0, g1, g2, g3, g4, g5, g6] [ob 3 [.ref g0, .ref g1, .ref g2, .ref g3, .ref g4, .ref g5, .ref g6], aJ (CxD X) 144 ((mtNextS z.1 z.2 n r).1), aI (CxD X) 13 (opf ((mtNextS z.1 z.2 n r).2.1)), aJ (CxD X) 12 ((mtNextS z.1 z.2 n r).2.2.1), aJ (CxD X) 13 ((mtNextS z.1 z.2 n r).2.2.2.1), aJ (CxD X) 13 ((mtNextS z.1 z.2 n r).2.2.2.2.1), aI (CxD X) 13 (nf ((mtNextS z.1 z.2 n r).2.2.2.2.2.1)), aZ (CxD X) 13 (zf ((mtNextS z.1 z.2 n r).2.2.2.2.2.2))] 64 [(0, .ref mt), (1, .int (nI i)), (2, .int (nI n)), (3, .int (nI z.2)), (4, .int (nI t))] [.int (nI (mtNextC z.1 z.2 n r))]
      refine r_istore_n (n := 65) hX [(0, .ref mt), (1, .int (nI i)), (2, .int (nI n)), (3, .int (nI (mtNextC z.1 z.2 n r))), (4, .int (nI t))] dX3_placeRow_64 rfl rfl (by decide) rfl ?_
      refine r_iinc (n := 68) hX (nI (t + 1)) [(0, .ref mt), (1, .int (nI i)), (2, .int (nI n)), (3, .int (nI (mtNextC z.1 z.2 n r))), (4, .int (nI (t + 1)))] dX3_placeRow_65 rfl 4 rfl (nI_add _ _) (by decide) rfl ?_
      refine r_goto (tgt := 42) hX dX3_placeRow_68 (by decide) ?_
      have hk := mtNext_ok hz2 hn hr hz
      exact ih (t + 1) (mtNextS z.1 z.2 n r, mtNextC z.1 z.2 n r) (by omega) hk.1 hk.2.1 (by rw [← he, mtGo_some hr])
set_option maxHeartbeats 1000000 in
set_option maxRecDepth 100000 in
theorem lp_X3_place1 {X : Cx} (hX : Ok X cX3_placeRow 6 RX3 2) (mt g0 g1 g2 g3 g4 g5 g6 : Nat) (s : MT) (i n : Nat) (hi : i < 12) (hn : n ≤ 12) (hs : mtOk0 s) (hR : Rt X (none) (fun r es' => r = none ∧ es' = [ob 3 [.ref g0, .ref g1, .ref g2, .ref g3, .ref g4, .ref g5, .ref g6], aJ (CxD X) 144 ((mtPlace s i n).1), aI (CxD X) 13 (opf ((mtPlace s i n).2.1)), aJ (CxD X) 12 ((mtPlace s i n).2.2.1), aJ (CxD X) 13 ((mtPlace s i n).2.2.2.1), aJ (CxD X) 13 ((mtPlace s i n).2.2.2.2.1), aI (CxD X) 13 (nf ((mtPlace s i n).2.2.2.2.2.1)), aZ (CxD X) 13 (zf ((mtPlace s i n).2.2.2.2.2.2))]) [mt, g0, g1, g2, g3, g4, g5, g6]) : ∀ (m j : Nat), j + m = 13 → Aw X [mt, g0, g1, g2, g3, g4, g5, g6] [ob 3 [.ref g0, .ref g1, .ref g2, .ref g3, .ref g4, .ref g5, .ref g6], aJ (CxD X) 144 s.1, aI (CxD X) 13 (opf s.2.1), aJ (CxD X) 12 s.2.2.1, aJ (CxD X) 13 s.2.2.2.1, aJ (CxD X) 13 (cpyL s.2.2.2.2.1 (fun _ => 1152921504606846976) j), aI (CxD X) 13 (nf s.2.2.2.2.2.1), aZ (CxD X) 13 (zf (cpyB s.2.2.2.2.2.2 (fun _ => false) j))] 2 [(0, .ref mt), (1, .int (nI i)), (2, .int (nI n)), (3, .int (nI j))] [] := by
  intro m
  induction m with
  | zero =>
    intro j hj
    refine r_iload_n (n := 3) hX dX3_placeRow_2 rfl rfl 3 rfl ?_
    refine r_bipush (n := 5) hX 12 dX3_placeRow_3 rfl rfl ?_
    refine r_icmp_gt_n (tgt := 30) (n := 8) hX j 12 (by omega) (by omega) dX3_placeRow_5 (by decide) rfl (fun c5 => ?_) (fun c5 => absurd c5 (by omega))
    refine r_aload_n (n := 31) hX dX3_placeRow_30 rfl rfl 0 rfl ?_
    refine r_get (n := 34) hX 0 rfl rfl rfl 1 (by decide) lay_X3 fl_X3_15 rfl dX3_placeRow_31 rfl ?_
    refine r_iload_n (n := 35) hX dX3_placeRow_34 rfl rfl 2 rfl ?_
    refine r_iload_n (n := 36) hX dX3_placeRow_35 rfl rfl 1 rfl ?_
    refine r_iastOn (n := 37) (i := n) hX 2 rfl rfl (some i) [ob 3 [.ref g0, .ref g1, .ref g2, .ref g3, .ref g4, .ref g5, .ref g6], aJ (CxD X) 144 s.1, aI (CxD X) 13 (opf (va_up s.2.1 n (some i))), aJ (CxD X) 12 s.2.2.1, aJ (CxD X) 13 s.2.2.2.1, aJ (CxD X) 13 (cpyL s.2.2.2.2.1 (fun _ => 1152921504606846976) j), aI (CxD X) 13 (nf s.2.2.2.2.2.1), aZ (CxD X) 13 (zf (cpyB s.2.2.2.2.2.2 (fun _ => false) j))] (by omega) (by decide) rfl dX3_placeRow_36 rfl ?_
    refine r_iload_n (n := 38) hX dX3_placeRow_37 rfl rfl 2 rfl ?_
    refine r_istore_n (n := 39) hX [(0, .ref mt), (1, .int (nI i)), (2, .int (nI n)), (3, .int (nI n))] dX3_placeRow_38 rfl rfl (by decide) rfl ?_
    refine r_iconst (n := 40) hX 0 dX3_placeRow_39 rfl rfl ?_
    refine r_istore (n := 42) hX [(0, .ref mt), (1, .int (nI i)), (2, .int (nI n)), (3, .int (nI n)), (4, .int 0)] dX3_placeRow_40 rfl (by decide) rfl ?_
    obtain rfl : j = 13 := by omega
    exact lp_X3_place2 hX mt g0 g1 g2 g3 g4 g5 g6 s i n hi hn hs hR (n + 1) 0 (mtInit s i n, n) (by omega) (mtInit_ok hi hn hs) (Nat.le_refl n) rfl
  | succ m ih =>
    intro j hj
    refine r_iload_n (n := 3) hX dX3_placeRow_2 rfl rfl 3 rfl ?_
    refine r_bipush (n := 5) hX 12 dX3_placeRow_3 rfl rfl ?_
    refine r_icmp_gt_n (tgt := 30) (n := 8) hX j 12 (by omega) (by omega) dX3_placeRow_5 (by decide) rfl (fun c5 => absurd c5 (by omega)) (fun c5 => ?_)
    refine r_aload_n (n := 9) hX dX3_placeRow_8 rfl rfl 0 rfl ?_
    refine r_get (n := 12) hX 0 rfl rfl rfl 4 (by decide) lay_X3 fl_X3_25 rfl dX3_placeRow_9 rfl ?_
    refine r_iload_n (n := 13) hX dX3_placeRow_12 rfl rfl 3 rfl ?_
    refine r_ldc2 (n := 16) hX dX3_placeRow_13 rfl kl_X3_50 ?_
    refine r_lastn (n := 17) (i := j) hX 5 rfl rfl [ob 3 [.ref g0, .ref g1, .ref g2, .ref g3, .ref g4, .ref g5, .ref g6], aJ (CxD X) 144 s.1, aI (CxD X) 13 (opf s.2.1), aJ (CxD X) 12 s.2.2.1, aJ (CxD X) 13 s.2.2.2.1, aJ (CxD X) 13 (vp_updL (cpyL s.2.2.2.2.1 (fun _ => 1152921504606846976) j) j 1152921504606846976), aI (CxD X) 13 (nf s.2.2.2.2.2.1), aZ (CxD X) 13 (zf (cpyB s.2.2.2.2.2.2 (fun _ => false) j))] (by omega) (by decide) rfl dX3_placeRow_16 rfl ?_
    refine Aw.eqs (es' := [ob 3 [.ref g0, .ref g1, .ref g2, .ref g3, .ref g4, .ref g5, .ref g6], aJ (CxD X) 144 s.1, aI (CxD X) 13 (opf s.2.1), aJ (CxD X) 12 s.2.2.1, aJ (CxD X) 13 s.2.2.2.1, aJ (CxD X) 13 (cpyL s.2.2.2.2.1 (fun _ => 1152921504606846976) (j + 1)), aI (CxD X) 13 (nf s.2.2.2.2.2.1), aZ (CxD X) 13 (zf (cpyB s.2.2.2.2.2.2 (fun _ => false) j))]) (by rw [← cpyL_s]) rfl rfl ?_
    refine r_aload_n (n := 18) hX dX3_placeRow_17 rfl rfl 0 rfl ?_
    refine r_get (n := 21) hX 0 rfl rfl rfl 6 (by decide) lay_X3 fl_X3_31 rfl dX3_placeRow_18 rfl ?_
    refine r_iload_n (n := 22) hX dX3_placeRow_21 rfl rfl 3 rfl ?_
    refine r_iconst (n := 23) hX 0 dX3_placeRow_22 rfl rfl ?_
    refine r_zastbn (n := 24) (i := j) hX 7 rfl rfl false [ob 3 [.ref g0, .ref g1, .ref g2, .ref g3, .ref g4, .ref g5, .ref g6], aJ (CxD X) 144 s.1, aI (CxD X) 13 (opf s.2.1), aJ (CxD X) 12 s.2.2.1, aJ (CxD X) 13 s.2.2.2.1, aJ (CxD X) 13 (cpyL s.2.2.2.2.1 (fun _ => 1152921504606846976) (j + 1)), aI (CxD X) 13 (nf s.2.2.2.2.2.1), aZ (CxD X) 13 (zf (updB (cpyB s.2.2.2.2.2.2 (fun _ => false) j) j false))] (by omega) (by decide) rfl dX3_placeRow_23 rfl ?_
    refine Aw.eqs (es' := [ob 3 [.ref g0, .ref g1, .ref g2, .ref g3, .ref g4, .ref g5, .ref g6], aJ (CxD X) 144 s.1, aI (CxD X) 13 (opf s.2.1), aJ (CxD X) 12 s.2.2.1, aJ (CxD X) 13 s.2.2.2.1, aJ (CxD X) 13 (cpyL s.2.2.2.2.1 (fun _ => 1152921504606846976) (j + 1)), aI (CxD X) 13 (nf s.2.2.2.2.2.1), aZ (CxD X) 13 (zf (cpyB s.2.2.2.2.2.2 (fun _ => false) (j + 1)))]) (by rw [← cpyB_s]) rfl rfl ?_
    refine r_iinc (n := 27) hX (nI (j + 1)) [(0, .ref mt), (1, .int (nI i)), (2, .int (nI n)), (3, .int (nI (j + 1)))] dX3_placeRow_24 rfl 3 rfl (nI_add _ _) (by decide) rfl ?_
    refine r_goto (tgt := 2) hX dX3_placeRow_27 (by decide) ?_
    exact ih (j + 1) (by omega)
set_option maxHeartbeats 1000000 in
set_option maxRecDepth 100000 in
theorem wk_X3_placeRow {X : Cx} (hX : Ok X cX3_placeRow 6 RX3 2) (mt g0 g1 g2 g3 g4 g5 g6 : Nat) (s : MT) (i n : Nat) (hi : i < 12) (hn : n ≤ 12) (hs : mtOk0 s) (hR : Rt X (none) (fun r es' => r = none ∧ es' = [ob 3 [.ref g0, .ref g1, .ref g2, .ref g3, .ref g4, .ref g5, .ref g6], aJ (CxD X) 144 ((mtPlace s i n).1), aI (CxD X) 13 (opf ((mtPlace s i n).2.1)), aJ (CxD X) 12 ((mtPlace s i n).2.2.1), aJ (CxD X) 13 ((mtPlace s i n).2.2.2.1), aJ (CxD X) 13 ((mtPlace s i n).2.2.2.2.1), aI (CxD X) 13 (nf ((mtPlace s i n).2.2.2.2.2.1)), aZ (CxD X) 13 (zf ((mtPlace s i n).2.2.2.2.2.2))]) [mt, g0, g1, g2, g3, g4, g5, g6]) : Aw X [mt, g0, g1, g2, g3, g4, g5, g6] [ob 3 [.ref g0, .ref g1, .ref g2, .ref g3, .ref g4, .ref g5, .ref g6], aJ (CxD X) 144 s.1, aI (CxD X) 13 (opf s.2.1), aJ (CxD X) 12 s.2.2.1, aJ (CxD X) 13 s.2.2.2.1, aJ (CxD X) 13 s.2.2.2.2.1, aI (CxD X) 13 (nf s.2.2.2.2.2.1), aZ (CxD X) 13 (zf s.2.2.2.2.2.2)] 0 [(0, .ref mt), (1, .int (nI i)), (2, .int (nI n))] [] := by
  refine r_iconst (n := 1) hX 0 dX3_placeRow_0 rfl rfl ?_
  refine r_istore_n (n := 2) hX [(0, .ref mt), (1, .int (nI i)), (2, .int (nI n)), (3, .int 0)] dX3_placeRow_1 rfl rfl (by decide) rfl ?_
  refine Aw.eqs (es' := [ob 3 [.ref g0, .ref g1, .ref g2, .ref g3, .ref g4, .ref g5, .ref g6], aJ (CxD X) 144 s.1, aI (CxD X) 13 (opf s.2.1), aJ (CxD X) 12 s.2.2.1, aJ (CxD X) 13 s.2.2.2.1, aJ (CxD X) 13 (cpyL s.2.2.2.2.1 (fun _ => 1152921504606846976) 0), aI (CxD X) 13 (nf s.2.2.2.2.2.1), aZ (CxD X) 13 (zf (cpyB s.2.2.2.2.2.2 (fun _ => false) 0))]) (by rw [cpyL_0, cpyB_0]) rfl rfl ?_
  exact lp_X3_place1 hX mt g0 g1 g2 g3 g4 g5 g6 s i n hi hn hs hR 13 0 (by omega)
theorem ct_X3_placeRow (l : Launch) (D : va_G) (mt g0 g1 g2 g3 g4 g5 g6 : Nat) (s : MT) (i n : Nat) (hi : i < 12) (hn : n ≤ 12) (hs : mtOk0 s) : Ct l D m_X3_placeRow 2 [.ref mt, .int (nI i), .int (nI n)] [mt, g0, g1, g2, g3, g4, g5, g6] [ob 3 [.ref g0, .ref g1, .ref g2, .ref g3, .ref g4, .ref g5, .ref g6], aJ D 144 s.1, aI D 13 (opf s.2.1), aJ D 12 s.2.2.1, aJ D 13 s.2.2.2.1, aJ D 13 s.2.2.2.2.1, aI D 13 (nf s.2.2.2.2.2.1), aZ D 13 (zf s.2.2.2.2.2.2)] (fun r es' => r = none ∧ es' = [ob 3 [.ref g0, .ref g1, .ref g2, .ref g3, .ref g4, .ref g5, .ref g6], aJ D 144 ((mtPlace s i n).1), aI D 13 (opf ((mtPlace s i n).2.1)), aJ D 12 ((mtPlace s i n).2.2.1), aJ D 13 ((mtPlace s i n).2.2.2.1), aJ D 13 ((mtPlace s i n).2.2.2.2.1), aI D 13 (nf ((mtPlace s i n).2.2.2.2.2.1)), aZ D 13 (zf ((mtPlace s i n).2.2.2.2.2.2))]) :=
  Ct.ofA (own := RX3) (by decide) rfl (Nat.le_of_ble_eq_true rfl) rfl (fun X hl hD hX hR => by subst hl; subst hD; exact wk_X3_placeRow hX mt g0 g1 g2 g3 g4 g5 g6 s i n hi hn hs hR)

def mtReset (s : MT) : MT := (s.1, cpyO s.2.1 (fun _ => none) 13, cpyL s.2.2.1 (fun _ => 0) 12, cpyL s.2.2.2.1 (fun _ => 0) 13, s.2.2.2.2)
def mtSolve (s : MT) (n : Nat) : MT := foldF (fun i q => mtPlace q i n) n 0 (mtReset s)
/-- what a matching holds between two calls -/
def mtInv (s : MT) : Prop := (∀ j, j < 13 → ∀ r, s.2.1 j = some r → r < 12) ∧ (∀ j, s.2.2.2.2.2.1 j ≤ 12)
theorem mmin12 {n : Nat} (h : n ≤ 12) : (if (12 : Int32) < nI n then (12 : Int32) else nI n) = nI n := if_neg (fun e => by have := (nI_ltI (a := 12) (b := n) (by decide) (by omega)).mp e; omega)
theorem mmax0 {n : Nat} (h : n < 2 ^ 31) : (if (0 : Int32) < nI n then nI n else (0 : Int32)) = nI n := by
  split
  · rfl
  · rename_i e
    have h0 : n = 0 := Nat.eq_zero_of_not_pos fun z => e ((nI_gtz h).mpr z)
    rw [h0]; rfl

set_option maxHeartbeats 1000000 in
set_option maxRecDepth 100000 in
theorem lp_X3_solve2 {X : Cx} (hX : Ok X cX3_solve 4 RX3 3) (mt g0 g1 g2 g3 g4 g5 g6 : Nat) (s : MT) (n : Nat) (hn : n ≤ 12) (hc : ∀ j, s.2.2.2.2.2.1 j ≤ 12) (ho : ∀ j, 13 ≤ j → s.2.1 j = none) (hR : Rt X (none) (fun r es' => r = none ∧ es' = [ob 3 [.ref g0, .ref g1, .ref g2, .ref g3, .ref g4, .ref g5, .ref g6], aJ (CxD X) 144 ((mtSolve s n).1), aI (CxD X) 13 (opf ((mtSolve s n).2.1)), aJ (CxD X) 12 ((mtSolve s n).2.2.1), aJ (CxD X) 13 ((mtSolve s n).2.2.2.1), aJ (CxD X) 13 ((mtSolve s n).2.2.2.2.1), aI (CxD X) 13 (nf ((mtSolve s n).2.2.2.2.2.1)), aZ (CxD X) 13 (zf ((mtSolve s n).2.2.2.2.2.2))]) [mt, g0, g1, g2, g3, g4, g5, g6]) : ∀ (m i : Nat) (q : MT), i + m = n → mtOk0 q → foldF (fun i q => mtPlace q i n) m i q = mtSolve s n → Aw X [mt, g0, g1, g2, g3, g4, g5, g6] [ob 3 [.ref g0, .ref g1, .ref g2, .ref g3, .ref g4, .ref g5, .ref g6], aJ (CxD X) 144 q.1, aI (CxD X) 13 (opf q.2.1), aJ (CxD X) 12 q.2.2.1, aJ (CxD X) 13 q.2.2.2.1, aJ (CxD X) 13 q.2.2.2.2.1, aI (CxD X) 13 (nf q.2.2.2.2.2.1), aZ (CxD X) 13 (zf q.2.2.2.2.2.2)] 54 [(0, .ref mt), (1, .int (nI n)), (2, .int (nI n)), (3, .int (nI i))] [] := by
  intro m
  induction m with
  | zero =>
    intro i q hi hq he
    refine r_iload_n (n := 55) hX dX3_solve_54 rfl rfl 3 rfl ?_
    refine r_iload_n (n := 56) hX dX3_solve_55 rfl rfl 2 rfl ?_
    refine r_icmp_ge_n (tgt := 71) (n := 59) hX i n (by omega) (by omega) dX3_solve_56 (by decide) rfl (fun c56 => ?_) (fun c56 => absurd c56 (by omega))
    exact r_return hX hR dX3_solve_71 (by have he : q = mtSolve s n := he; rw [← he]; exact ⟨rfl, rfl⟩)
  | succ m ih =>
    intro i q hi hq he
    refine r_iload_n (n := 55) hX dX3_solve_54 rfl rfl 3 rfl ?_
    refine r_iload_n (n := 56) hX dX3_solve_55 rfl rfl 2 rfl ?_
    refine r_icmp_ge_n (tgt := 71) (n := 59) hX i n (by omega) (by omega) dX3_solve_56 (by decide) rfl (fun c56 => absurd c56 (by omega)) (fun c56 => ?_)
    refine r_aload_n (n := 60) hX dX3_solve_59 rfl rfl 0 rfl ?_
    refine r_iload_n (n := 61) hX dX3_solve_60 rfl rfl 3 rfl ?_
    refine r_iload_n (n := 62) hX dX3_solve_61 rfl rfl 2 rfl ?_
    refine r_callV (n := 65) (av := [.int (nI i), .int (nI n)]) hX (ct_X3_placeRow (CxL X) (CxD X) mt g0 g1 g2 g3 g4 g5 g6 q i n (by omega) hn hq) ml_X3_44 cv_X3_placeRow rfl (by decide) [0, 1, 2, 3, 4, 5, 6, 7] rfl rfl (by decide) 0 rfl rfl rfl rfl rfl (Nat.le_of_ble_eq_true rfl) dX3_solve_62 rfl (fun r_ es_ h_ l_ => ?_)
    obtain ⟨rfl, rfl⟩ := h_
    show Aw X [mt, g0, g1, g2, g3, g4, g5, g6] [ob 3 [.ref g0, .ref g1, .ref g2, .ref g3, .ref g4, .ref g5, .ref g6], aJ (CxD X) 144 ((mtPlace q i n).1), aI (CxD X) 13 (opf ((mtPlace q i n).2.1)), aJ (CxD X) 12 ((mtPlace q i n).2.2.1), aJ (CxD X) 13 ((mtPlace q i n).2.2.2.1), aJ (CxD X) 13 ((mtPlace q i n).2.2.2.2.1), aI (CxD X) 13 (nf ((mtPlace q i n).2.2.2.2.2.1)), aZ (CxD X) 13 (zf ((mtPlace q i n).2.2.2.2.2.2))] 65 [(0, .ref mt), (1, .int (nI n)), (2, .int (nI n)), (3, .int (nI i))] []
    refine r_iinc (n := 68) hX (nI (i + 1)) [(0, .ref mt), (1, .int (nI n)), (2, .int (nI n)), (3, .int (nI (i + 1)))] dX3_solve_65 rfl 3 rfl (nI_add _ _) (by decide) rfl ?_
    refine r_goto (tgt := 54) hX dX3_solve_68 (by decide) ?_
    exact ih (i + 1) (mtPlace q i n) (by omega) (mtPlace_ok (by omega) hn hq) he
theorem mtReset_ok {s : MT} (hc : ∀ j, s.2.2.2.2.2.1 j ≤ 12) (ho : ∀ j, 13 ≤ j → s.2.1 j = none) : mtOk0 (mtReset s) := by
  refine ⟨fun j r h => ?_, hc⟩
  have h : cpyO s.2.1 (fun _ => none) 13 j = some r := h
  unfold cpyO at h
  split at h
  · cases h
  · rw [ho j (by omega)] at h; cases h
set_option maxHeartbeats 1000000 in
set_option maxRecDepth 100000 in
theorem lp_X3_solve1 {X : Cx} (hX : Ok X cX3_solve 4 RX3 3) (mt g0 g1 g2 g3 g4 g5 g6 : Nat) (s : MT) (n : Nat) (hn : n ≤ 12) (hc : ∀ j, s.2.2.2.2.2.1 j ≤ 12) (ho : ∀ j, 13 ≤ j → s.2.1 j = none) (hR : Rt X (none) (fun r es' => r = none ∧ es' = [ob 3 [.ref g0, .ref g1, .ref g2, .ref g3, .ref g4, .ref g5, .ref g6], aJ (CxD X) 144 ((mtSolve s n).1), aI (CxD X) 13 (opf ((mtSolve s n).2.1)), aJ (CxD X) 12 ((mtSolve s n).2.2.1), aJ (CxD X) 13 ((mtSolve s n).2.2.2.1), aJ (CxD X) 13 ((mtSolve s n).2.2.2.2.1), aI (CxD X) 13 (nf ((mtSolve s n).2.2.2.2.2.1)), aZ (CxD X) 13 (zf ((mtSolve s n).2.2.2.2.2.2))]) [mt, g0, g1, g2, g3, g4, g5, g6]) : ∀ (m j : Nat), j + m = 13 → Aw X [mt, g0, g1, g2, g3, g4, g5, g6] [ob 3 [.ref g0, .ref g1, .ref g2, .ref g3, .ref g4, .ref g5, .ref g6], aJ (CxD X) 144 s.1, aI (CxD X) 13 (opf (cpyO s.2.1 (fun _ => none) j)), aJ (CxD X) 12 (cpyL s.2.2.1 (fun _ => 0) (min j 12)), aJ (CxD X) 13 (cpyL s.2.2.2.1 (fun _ => 0) j), aJ (CxD X) 13 s.2.2.2.2.1, aI (CxD X) 13 (nf s.2.2.2.2.2.1), aZ (CxD X) 13 (zf s.2.2.2.2.2.2)] 13 [(0, .ref mt), (1, .int (nI n)), (2, .int (nI n)), (3, .int (nI j))] [] := by
  intro m
  induction m with
  | zero =>
    intro j hj
    refine r_iload_n (n := 14) hX dX3_solve_13 rfl rfl 3 rfl ?_
    refine r_bipush (n := 16) hX 12 dX3_solve_14 rfl rfl ?_
    refine r_icmp_gt_n (tgt := 52) (n := 19) hX j 12 (by omega) (by omega) dX3_solve_16 (by decide) rfl (fun c16 => ?_) (fun c16 => absurd c16 (by omega))
    refine r_iconst (n := 53) hX 0 dX3_solve_52 rfl rfl ?_
    refine r_istore_n (n := 54) hX [(0, .ref mt), (1, .int (nI n)), (2, .int (nI n)), (3, .int 0)] dX3_solve_53 rfl rfl (by decide) rfl ?_
    obtain rfl : j = 13 := by omega
    exact lp_X3_solve2 hX mt g0 g1 g2 g3 g4 g5 g6 s n hn hc ho hR n 0 (mtReset s) (by omega) (mtReset_ok hc ho) rfl
  | succ m ih =>
    intro j hj
    refine r_iload_n (n := 14) hX dX3_solve_13 rfl rfl 3 rfl ?_
    refine r_bipush (n := 16) hX 12 dX3_solve_14 rfl rfl ?_
    refine r_icmp_gt_n (tgt := 52) (n := 19) hX j 12 (by omega) (by omega) dX3_solve_16 (by decide) rfl (fun c16 => absurd c16 (by omega)) (fun c16 => ?_)
    refine r_aload_n (n := 20) hX dX3_solve_19 rfl rfl 0 rfl ?_
    refine r_get (n := 23) hX 0 rfl rfl rfl 1 (by decide) lay_X3 fl_X3_15 rfl dX3_solve_20 rfl ?_
    refine r_iload_n (n := 24) hX dX3_solve_23 rfl rfl 3 rfl ?_
    refine r_iconst (n := 25) hX (-1) dX3_solve_24 rfl rfl ?_
    refine r_iastOn (n := 26) (i := j) hX 2 rfl rfl none [ob 3 [.ref g0, .ref g1, .ref g2, .ref g3, .ref g4, .ref g5, .ref g6], aJ (CxD X) 144 s.1, aI (CxD X) 13 (opf (va_up (cpyO s.2.1 (fun _ => none) j) j none)), aJ (CxD X) 12 (cpyL s.2.2.1 (fun _ => 0) (min j 12)), aJ (CxD X) 13 (cpyL s.2.2.2.1 (fun _ => 0) j), aJ (CxD X) 13 s.2.2.2.2.1, aI (CxD X) 13 (nf s.2.2.2.2.2.1), aZ (CxD X) 13 (zf s.2.2.2.2.2.2)] (by omega) (by decide) rfl dX3_solve_25 rfl ?_
    refine Aw.eqs (es' := [ob 3 [.ref g0, .ref g1, .ref g2, .ref g3, .ref g4, .ref g5, .ref g6], aJ (CxD X) 144 s.1, aI (CxD X) 13 (opf (cpyO s.2.1 (fun _ => none) (j + 1))), aJ (CxD X) 12 (cpyL s.2.2.1 (fun _ => 0) (min j 12)), aJ (CxD X) 13 (cpyL s.2.2.2.1 (fun _ => 0) j), aJ (CxD X) 13 s.2.2.2.2.1, aI (CxD X) 13 (nf s.2.2.2.2.2.1), aZ (CxD X) 13 (zf s.2.2.2.2.2.2)]) (by rw [← cpyO_s]) rfl rfl ?_
    refine r_aload_n (n := 27) hX dX3_solve_26 rfl rfl 0 rfl ?_
    refine r_get (n := 30) hX 0 rfl rfl rfl 3 (by decide) lay_X3 fl_X3_22 rfl dX3_solve_27 rfl ?_
    refine r_iload_n (n := 31) hX dX3_solve_30 rfl rfl 3 rfl ?_
    refine r_lconst (n := 32) hX 0 dX3_solve_31 rfl rfl ?_
    refine r_lastn (n := 33) (i := j) hX 4 rfl rfl [ob 3 [.ref g0, .ref g1, .ref g2, .ref g3, .ref g4, .ref g5, .ref g6], aJ (CxD X) 144 s.1, aI (CxD X) 13 (opf (cpyO s.2.1 (fun _ => none) (j + 1))), aJ (CxD X) 12 (cpyL s.2.2.1 (fun _ => 0) (min j 12)), aJ (CxD X) 13 (vp_updL (cpyL s.2.2.2.1 (fun _ => 0) j) j 0), aJ (CxD X) 13 s.2.2.2.2.1, aI (CxD X) 13 (nf s.2.2.2.2.2.1), aZ (CxD X) 13 (zf s.2.2.2.2.2.2)] (by omega) (by decide) rfl dX3_solve_32 rfl ?_
    refine Aw.eqs (es' := [ob 3 [.ref g0, .ref g1, .ref g2, .ref g3, .ref g4, .ref g5, .ref g6], aJ (CxD X) 144 s.1, aI (CxD X) 13 (opf (cpyO s.2.1 (fun _ => none) (j + 1))), aJ (CxD X) 12 (cpyL s.2.2.1 (fun _ => 0) (min j 12)), aJ (CxD X) 13 (cpyL s.2.2.2.1 (fun _ => 0) (j + 1)), aJ (CxD X) 13 s.2.2.2.2.1, aI (CxD X) 13 (nf s.2.2.2.2.2.1), aZ (CxD X) 13 (zf s.2.2.2.2.2.2)]) (by rw [← cpyL_s]) rfl rfl ?_
    refine r_iload_n (n := 34) hX dX3_solve_33 rfl rfl 3 rfl ?_
    refine r_bipush (n := 36) hX 12 dX3_solve_34 rfl rfl ?_
    refine r_icmp_ge_n (tgt := 46) (n := 39) hX j 12 (by omega) (by omega) dX3_solve_36 (by decide) rfl (fun c36 => ?_) (fun c36 => ?_)
    · skip
      refine r_iinc (n := 49) hX (nI (j + 1)) [(0, .ref mt), (1, .int (nI n)), (2, .int (nI n)), (3, .int (nI (j + 1)))] dX3_solve_46 rfl 3 rfl (nI_add _ _) (by decide) rfl ?_
      refine r_goto (tgt := 13) hX dX3_solve_49 (by decide) ?_
      refine Aw.eqs (es' := [ob 3 [.ref g0, .ref g1, .ref g2, .ref g3, .ref g4, .ref g5, .ref g6], aJ (CxD X) 144 s.1, aI (CxD X) 13 (opf (cpyO s.2.1 (fun _ => none) (j + 1))), aJ (CxD X) 12 (cpyL s.2.2.1 (fun _ => 0) (min (j + 1) 12)), aJ (CxD X) 13 (cpyL s.2.2.2.1 (fun _ => 0) (j + 1)), aJ (CxD X) 13 s.2.2.2.2.1, aI (CxD X) 13 (nf s.2.2.2.2.2.1), aZ (CxD X) 13 (zf s.2.2.2.2.2.2)]) (by rw [show min (j + 1) 12 = min j 12 by omega]) rfl rfl ?_
      exact ih (j + 1) (by omega)
    · skip
      refine r_aload_n (n := 40) hX dX3_solve_39 rfl rfl 0 rfl ?_
      refine r_get (n := 43) hX 0 rfl rfl rfl 2 (by decide) lay_X3 fl_X3_19 rfl dX3_solve_40 rfl ?_
      refine r_iload_n (n := 44) hX dX3_solve_43 rfl rfl 3 rfl ?_
      refine r_lconst (n := 45) hX 0 dX3_solve_44 rfl rfl ?_
      refine r_lastn (n := 46) (i := j) hX 3 rfl rfl [ob 3 [.ref g0, .ref g1, .ref g2, .ref g3, .ref g4, .ref g5, .ref g6], aJ (CxD X) 144 s.1, aI (CxD X) 13 (opf (cpyO s.2.1 (fun _ => none) (j + 1))), aJ (CxD X) 12 (vp_updL (cpyL s.2.2.1 (fun _ => 0) (min j 12)) j 0), aJ (CxD X) 13 (cpyL s.2.2.2.1 (fun _ => 0) (j + 1)), aJ (CxD X) 13 s.2.2.2.2.1, aI (CxD X) 13 (nf s.2.2.2.2.2.1), aZ (CxD X) 13 (zf s.2.2.2.2.2.2)] (by omega) (by decide) rfl dX3_solve_45 rfl ?_
      refine Aw.eqs (es' := [ob 3 [.ref g0, .ref g1, .ref g2, .ref g3, .ref g4, .ref g5, .ref g6], aJ (CxD X) 144 s.1, aI (CxD X) 13 (opf (cpyO s.2.1 (fun _ => none) (j + 1))), aJ (CxD X) 12 (cpyL s.2.2.1 (fun _ => 0) (min (j + 1) 12)), aJ (CxD X) 13 (cpyL s.2.2.2.1 (fun _ => 0) (j + 1)), aJ (CxD X) 13 s.2.2.2.2.1, aI (CxD X) 13 (nf s.2.2.2.2.2.1), aZ (CxD X) 13 (zf s.2.2.2.2.2.2)]) (by rw [show cpyL s.2.2.1 (fun _ => 0) (min (j + 1) 12) = vp_updL (cpyL s.2.2.1 (fun _ => 0) (min j 12)) j 0 by rw [Nat.min_eq_left (show j ≤ 12 by omega), Nat.min_eq_left (show j + 1 ≤ 12 by omega), ← cpyL_s]]) rfl rfl ?_
      refine r_iinc (n := 49) hX (nI (j + 1)) [(0, .ref mt), (1, .int (nI n)), (2, .int (nI n)), (3, .int (nI (j + 1)))] dX3_solve_46 rfl 3 rfl (nI_add _ _) (by decide) rfl ?_
      refine r_goto (tgt := 13) hX dX3_solve_49 (by decide) ?_
      exact ih (j + 1) (by omega)
set_option maxHeartbeats 1000000 in
set_option maxRecDepth 100000 in
theorem wk_X3_solve {X : Cx} (hX : Ok X cX3_solve 4 RX3 3) (mt g0 g1 g2 g3 g4 g5 g6 : Nat) (s : MT) (n : Nat) (hn : n ≤ 12) (hc : ∀ j, s.2.2.2.2.2.1 j ≤ 12) (ho : ∀ j, 13 ≤ j → s.2.1 j = none) (hR : Rt X (none) (fun r es' => r = none ∧ es' = [ob 3 [.ref g0, .ref g1, .ref g2, .ref g3, .ref g4, .ref g5, .ref g6], aJ (CxD X) 144 ((mtSolve s n).1), aI (CxD X) 13 (opf ((mtSolve s n).2.1)), aJ (CxD X) 12 ((mtSolve s n).2.2.1), aJ (CxD X) 13 ((mtSolve s n).2.2.2.1), aJ (CxD X) 13 ((mtSolve s n).2.2.2.2.1), aI (CxD X) 13 (nf ((mtSolve s n).2.2.2.2.2.1)), aZ (CxD X) 13 (zf ((mtSolve s n).2.2.2.2.2.2))]) [mt, g0, g1, g2, g3, g4, g5, g6]) : Aw X [mt, g0, g1, g2, g3, g4, g5, g6] [ob 3 [.ref g0, .ref g1, .ref g2, .ref g3, .ref g4, .ref g5, .ref g6], aJ (CxD X) 144 s.1, aI (CxD X) 13 (opf s.2.1), aJ (CxD X) 12 s.2.2.1, aJ (CxD X) 13 s.2.2.2.1, aJ (CxD X) 13 s.2.2.2.2.1, aI (CxD X) 13 (nf s.2.2.2.2.2.1), aZ (CxD X) 13 (zf s.2.2.2.2.2.2)] 0 [(0, .ref mt), (1, .int (nI n))] [] := by
  refine r_iconst (n := 1) hX 0 dX3_solve_0 rfl rfl ?_
  refine r_iload_n (n := 2) hX dX3_solve_1 rfl rfl 1 rfl ?_
  refine r_bipush (n := 4) hX 12 dX3_solve_2 rfl rfl ?_
  refine r_mmin (n := 7) hX mt_X3_35 (by decide) (Nat.le_of_ble_eq_true rfl) dX3_solve_4 rfl ?_
  refine Aw.topi (nI n) (mmin12 hn) ?_
  refine r_mmax (n := 10) hX mt_X3_41 (by decide) (Nat.le_of_ble_eq_true rfl) dX3_solve_7 rfl ?_
  refine Aw.topi (nI n) (mmax0 (by omega)) ?_
  refine r_istore_n (n := 11) hX [(0, .ref mt), (1, .int (nI n)), (2, .int (nI n))] dX3_solve_10 rfl rfl (by decide) rfl ?_
  refine r_iconst (n := 12) hX 0 dX3_solve_11 rfl rfl ?_
  refine r_istore_n (n := 13) hX [(0, .ref mt), (1, .int (nI n)), (2, .int (nI n)), (3, .int 0)] dX3_solve_12 rfl rfl (by decide) rfl ?_
  refine Aw.eqs (es' := [ob 3 [.ref g0, .ref g1, .ref g2, .ref g3, .ref g4, .ref g5, .ref g6], aJ (CxD X) 144 s.1, aI (CxD X) 13 (opf (cpyO s.2.1 (fun _ => none) 0)), aJ (CxD X) 12 (cpyL s.2.2.1 (fun _ => 0) (min 0 12)), aJ (CxD X) 13 (cpyL s.2.2.2.1 (fun _ => 0) 0), aJ (CxD X) 13 s.2.2.2.2.1, aI (CxD X) 13 (nf s.2.2.2.2.2.1), aZ (CxD X) 13 (zf s.2.2.2.2.2.2)]) (by rw [cpyO_0, Nat.zero_min, cpyL_0, cpyL_0]) rfl rfl ?_
  exact lp_X3_solve1 hX mt g0 g1 g2 g3 g4 g5 g6 s n hn hc ho hR 13 0 (by omega)
theorem ct_X3_solve (l : Launch) (D : va_G) (mt g0 g1 g2 g3 g4 g5 g6 : Nat) (s : MT) (n : Nat) (hn : n ≤ 12) (hc : ∀ j, s.2.2.2.2.2.1 j ≤ 12) (ho : ∀ j, 13 ≤ j → s.2.1 j = none) : Ct l D m_X3_solve 3 [.ref mt, .int (nI n)] [mt, g0, g1, g2, g3, g4, g5, g6] [ob 3 [.ref g0, .ref g1, .ref g2, .ref g3, .ref g4, .ref g5, .ref g6], aJ D 144 s.1, aI D 13 (opf s.2.1), aJ D 12 s.2.2.1, aJ D 13 s.2.2.2.1, aJ D 13 s.2.2.2.2.1, aI D 13 (nf s.2.2.2.2.2.1), aZ D 13 (zf s.2.2.2.2.2.2)] (fun r es' => r = none ∧ es' = [ob 3 [.ref g0, .ref g1, .ref g2, .ref g3, .ref g4, .ref g5, .ref g6], aJ D 144 ((mtSolve s n).1), aI D 13 (opf ((mtSolve s n).2.1)), aJ D 12 ((mtSolve s n).2.2.1), aJ D 13 ((mtSolve s n).2.2.2.1), aJ D 13 ((mtSolve s n).2.2.2.2.1), aI D 13 (nf ((mtSolve s n).2.2.2.2.2.1)), aZ D 13 (zf ((mtSolve s n).2.2.2.2.2.2))]) :=
  Ct.ofA (own := RX3) (by decide) rfl (Nat.le_of_ble_eq_true rfl) rfl (fun X hl hD hX hR => by subst hl; subst hD; exact wk_X3_solve hX mt g0 g1 g2 g3 g4 g5 g6 s n hn hc ho hR)
