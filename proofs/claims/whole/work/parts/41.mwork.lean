
/-! the reference: a text's steps, worked on a stack -/
def mTwo (o x y : Int32) : Int32 := if o = 3 then x + y else if o = 4 then x - y else if o = 5 then x * y else if o = 7 then (if x = y then 1 else 0) else if o = 8 then (if x = y then 0 else 1) else if o = 9 then (if y ≤ x then 0 else 1) else if o = 10 then (if y < x then 0 else 1) else if o = 11 then x &&& y else x ||| y
def mUn (f : Int32 → Int32) : List Int32 → Option (List Int32)
  | [] => none
  | x :: s => some (f x :: s)
def mBi (f : Int32 → Int32 → Int32) : List Int32 → Option (List Int32)
  | y :: x :: s => some (f x y :: s)
  | _ => none
def mStep (nw : Nat → Int32) (p h : Nat) (o n : Int32) (L : List Int32) : Option (List Int32) :=
  if o = 0 then some (n :: L)
  else if o = 1 then (if n < 0 ∨ 8 ≤ n then none else some (nw (32 * p + 10 + n.toNatClampNeg) :: L))
  else if o = 2 then (if n < 0 ∨ 8 ≤ n then none else some (nw (32 * h + 10 + n.toNatClampNeg) :: L))
  else if o = 6 then mUn (fun x => -x) L
  else if o = 13 then mUn (fun x => 1 - x) L
  else mBi (mTwo o) L
def mEv (nw od nu : Nat → Int32) (p h : Nat) : Nat → Nat → List Int32 → Option (List Int32)
  | 0, _, L => some L
  | m + 1, k, L => (mStep nw p h (od k) (nu k) L).bind (mEv nw od nu p h m (k + 1))
def mWf (od nu : Nat → Int32) (sl fr to_ : Nat) : Prop := fr ≤ to_ ∧ to_ ≤ 650 ∧ ∀ (nw : Nat → Int32) (p h : Nat), ∃ v, mEv nw od nu p h (to_ - fr) (sl * 1300 + fr) [] = some [v]
def mVal (nw od nu : Nat → Int32) (p h sl fr to_ : Nat) : Int32 := match mEv nw od nu p h (to_ - fr) (sl * 1300 + fr) [] with
  | some [v] => v
  | _ => 0
theorem mVal_eq {nw od nu : Nat → Int32} {p h sl fr to_ : Nat} {v : Int32} (e : mEv nw od nu p h (to_ - fr) (sl * 1300 + fr) [] = some [v]) : mVal nw od nu p h sl fr to_ = v := by
  unfold mVal; rw [e]
/-- a step that went well -/
theorem mEv_s {nw od nu : Nat → Int32} {p h m k : Nat} {L M : List Int32} (e : mEv nw od nu p h (m + 1) k L = some M) : ∃ L', mStep nw p h (od k) (nu k) L = some L' ∧ mEv nw od nu p h m (k + 1) L' = some M := by
  unfold mEv at e
  cases q : mStep nw p h (od k) (nu k) L with
  | none => rw [q] at e; cases e
  | some L' => rw [q] at e; exact ⟨L', rfl, e⟩
/-! holds, reason, price: rows of a slot -/
abbrev MR : Type := (Nat → Int32) × (Nat → Int32) × (Nat → Nat) × (Nat → Bool) × (Nat → Nat) × (Nat → Nat) × (Nat → Nat) × (Nat → Nat)
abbrev rOd (t : MR) : Nat → Int32 := t.1
abbrev rNu (t : MR) : Nat → Int32 := t.2.1
abbrev rRg (t : MR) : Nat → Nat := t.2.2.1
abbrev rIb (t : MR) : Nat → Bool := t.2.2.2.1
abbrev rEf (t : MR) : Nat → Nat := t.2.2.2.2.1
abbrev rEt (t : MR) : Nat → Nat := t.2.2.2.2.2.1
abbrev rCf (t : MR) : Nat → Nat := t.2.2.2.2.2.2.1
abbrev rCt (t : MR) : Nat → Nat := t.2.2.2.2.2.2.2
def mtxOk (t : MR) (sl : Nat) : Prop := rRg t sl ≤ 20 ∧ ∀ r, r < rRg t sl → (rCf t (sl * 20 + r) = rCt t (sl * 20 + r) ∨ mWf (rOd t) (rNu t) sl (rCf t (sl * 20 + r)) (rCt t (sl * 20 + r))) ∧ (rIb t (sl * 20 + r) = false → mWf (rOd t) (rNu t) sl (rEf t (sl * 20 + r)) (rEt t (sl * 20 + r))) ∧ rCf t (sl * 20 + r) ≤ 650 ∧ rCt t (sl * 20 + r) ≤ 650
def mHolds (t : MR) (nw : Nat → Int32) (p h sl r : Nat) : Bool := if rCf t (sl * 20 + r) = rCt t (sl * 20 + r) then true else decide (mVal nw (rOd t) (rNu t) p h sl (rCf t (sl * 20 + r)) (rCt t (sl * 20 + r)) = 1)
def mBars (t : MR) (nw : Nat → Int32) (p h sl : Nat) : Nat → Nat → Nat
  | 0, _ => 0
  | m + 1, r => if rIb t (sl * 20 + r) = true then (if mHolds t nw p h sl r = true then 10 + r else mBars t nw p h sl m (r + 1)) else mBars t nw p h sl m (r + 1)
def mWhy (t : MR) (nw : Nat → Int32) (te : Int32) (p h sl : Nat) : Nat := if p = h then 1 else if nw (32 * p) = 0 then 2 else if nw (32 * h + 1) = 0 then 3 else if nw (32 * p + 20 + h) = 0 then 4 else if nw (32 * p + 4) ≤ te then mBars t nw p h sl (rRg t sl) 0 else 5
theorem mBars_le {t : MR} {nw : Nat → Int32} {p h sl : Nat} : ∀ (m r : Nat), r + m ≤ 20 → mBars t nw p h sl m r ≤ 30
  | 0, r, _ => Nat.zero_le _
  | m + 1, r, hr => by
    unfold mBars
    split
    · split
      · omega
      · exact mBars_le m (r + 1) (by omega)
    · exact mBars_le m (r + 1) (by omega)
def mSum (t : MR) (nw : Nat → Int32) (p h sl : Nat) : Nat → Nat → Int32 → Int32
  | 0, _, c => c
  | m + 1, r, c => if rIb t (sl * 20 + r) = true then mSum t nw p h sl m (r + 1) c else if mHolds t nw p h sl r = true then mSum t nw p h sl m (r + 1) (c + mVal nw (rOd t) (rNu t) p h sl (rEf t (sl * 20 + r)) (rEt t (sl * 20 + r))) else mSum t nw p h sl m (r + 1) c
def mPrice (t : MR) (nw : Nat → Int32) (p h sl : Nat) : Nat := jClamp (mSum t nw p h sl (rRg t sl) 0 (nw (32 * p + 20 + h)))
theorem mClamp (x : Int32) : (if x < 0 then (0 : Int32) else if x ≤ 10000 then x else 10000) = nI (jClamp x) := by
  rw [← jClamp_eq]
  by_cases h1 : x < 0
  · have h2 : ¬ (10000 : Int32) < x := fun z => absurd (Int32.lt_trans z h1) (by decide)
    rw [if_pos h1, if_neg h2, if_neg (Int32.not_lt.mpr (Int32.le_of_lt h1))]
  · by_cases h2 : (10000 : Int32) < x
    · rw [if_neg h1, if_neg (Int32.not_le.mpr h2), if_pos h2, if_pos (by decide)]
    · rw [if_neg h1, if_pos (Int32.not_lt.mp h2), if_neg h2]
      by_cases h3 : (0 : Int32) < x
      · rw [if_pos h3]
      · rw [if_neg h3]; exact Int32.le_antisymm (Int32.not_lt.mp h3) (Int32.not_lt.mp h1)

set_option maxHeartbeats 1000000 in
set_option maxRecDepth 100000 in
theorem wk_X11_two {X : Cx} (hX : Ok X cX11_two 3 RX11 0) (o x y : Int32)  (hR : Rt X (some FieldType.int) (fun r es' => r = some (.int (mTwo o x y)) ∧ es' = []) []) : Aw X [] [] 0 [(0, .int o), (1, .int x), (2, .int y)] [] := by
  refine r_iload_n (n := 1) hX dX11_two_0 rfl rfl 0 rfl ?_
  by_cases k1_3 : o = 3
  · refine Aw.topi 3 k1_3 ?_
    refine r_tabIn (tgt := 52) (off := 51) hX dX11_two_1 (by decide) (by decide) (by decide) (by decide) ?_
    refine r_iload_n (n := 53) hX dX11_two_52 rfl rfl 1 rfl ?_
    refine r_iload_n (n := 54) hX dX11_two_53 rfl rfl 2 rfl ?_
    refine r_iadd (n := 55) hX dX11_two_54 rfl ?_
    exact r_ireturn hX hR dX11_two_55 ⟨by simp [mTwo, k1_3], rfl⟩
  · skip
    by_cases k1_4 : o = 4
    · refine Aw.topi 4 k1_4 ?_
      refine r_tabIn (tgt := 56) (off := 55) hX dX11_two_1 (by decide) (by decide) (by decide) (by decide) ?_
      refine r_iload_n (n := 57) hX dX11_two_56 rfl rfl 1 rfl ?_
      refine r_iload_n (n := 58) hX dX11_two_57 rfl rfl 2 rfl ?_
      refine r_isub (n := 59) hX dX11_two_58 rfl ?_
      exact r_ireturn hX hR dX11_two_59 ⟨by simp [mTwo, k1_4], rfl⟩
    · skip
      by_cases k1_5 : o = 5
      · refine Aw.topi 5 k1_5 ?_
        refine r_tabIn (tgt := 60) (off := 59) hX dX11_two_1 (by decide) (by decide) (by decide) (by decide) ?_
        refine r_iload_n (n := 61) hX dX11_two_60 rfl rfl 1 rfl ?_
        refine r_iload_n (n := 62) hX dX11_two_61 rfl rfl 2 rfl ?_
        refine r_imul (n := 63) hX dX11_two_62 rfl ?_
        exact r_ireturn hX hR dX11_two_63 ⟨by simp [mTwo, k1_5], rfl⟩
      · skip
        by_cases k1_6 : o = 6
        · refine Aw.topi 6 k1_6 ?_
          refine r_tabIn (tgt := 112) (off := 111) hX dX11_two_1 (by decide) (by decide) (by decide) (by decide) ?_
          refine r_iload_n (n := 113) hX dX11_two_112 rfl rfl 1 rfl ?_
          refine r_iload_n (n := 114) hX dX11_two_113 rfl rfl 2 rfl ?_
          refine r_ior (n := 115) hX dX11_two_114 rfl ?_
          exact r_ireturn hX hR dX11_two_115 ⟨by simp [mTwo, k1_6], rfl⟩
        · skip
          by_cases k1_7 : o = 7
          · refine Aw.topi 7 k1_7 ?_
            refine r_tabIn (tgt := 64) (off := 63) hX dX11_two_1 (by decide) (by decide) (by decide) (by decide) ?_
            refine r_iload_n (n := 65) hX dX11_two_64 rfl rfl 1 rfl ?_
            refine r_iload_n (n := 66) hX dX11_two_65 rfl rfl 2 rfl ?_
            refine r_icmp_ne (tgt := 73) (n := 69) hX dX11_two_66 (by decide) rfl (fun c66 => ?_) (fun c66 => ?_)
            · skip
              refine r_iconst (n := 74) hX 0 dX11_two_73 rfl rfl ?_
              exact r_ireturn hX hR dX11_two_74 ⟨by simp [mTwo, k1_7, c66], rfl⟩
            · skip
              refine r_iconst (n := 70) hX 1 dX11_two_69 rfl rfl ?_
              refine r_goto (tgt := 74) hX dX11_two_70 (by decide) ?_
              exact r_ireturn hX hR dX11_two_74 ⟨by simp [mTwo, k1_7, c66], rfl⟩
          · skip
            by_cases k1_8 : o = 8
            · refine Aw.topi 8 k1_8 ?_
              refine r_tabIn (tgt := 75) (off := 74) hX dX11_two_1 (by decide) (by decide) (by decide) (by decide) ?_
              refine r_iload_n (n := 76) hX dX11_two_75 rfl rfl 1 rfl ?_
              refine r_iload_n (n := 77) hX dX11_two_76 rfl rfl 2 rfl ?_
              refine r_icmp_eq (tgt := 84) (n := 80) hX dX11_two_77 (by decide) rfl (fun c77 => ?_) (fun c77 => ?_)
              · skip
                refine r_iconst (n := 85) hX 0 dX11_two_84 rfl rfl ?_
                exact r_ireturn hX hR dX11_two_85 ⟨by simp [mTwo, k1_8, c77], rfl⟩
              · skip
                refine r_iconst (n := 81) hX 1 dX11_two_80 rfl rfl ?_
                refine r_goto (tgt := 85) hX dX11_two_81 (by decide) ?_
                exact r_ireturn hX hR dX11_two_85 ⟨by simp [mTwo, k1_8, c77], rfl⟩
            · skip
              by_cases k1_9 : o = 9
              · refine Aw.topi 9 k1_9 ?_
                refine r_tabIn (tgt := 86) (off := 85) hX dX11_two_1 (by decide) (by decide) (by decide) (by decide) ?_
                refine r_iload_n (n := 87) hX dX11_two_86 rfl rfl 1 rfl ?_
                refine r_iload_n (n := 88) hX dX11_two_87 rfl rfl 2 rfl ?_
                refine r_icmp_ge (tgt := 95) (n := 91) hX dX11_two_88 (by decide) rfl (fun c88 => ?_) (fun c88 => ?_)
                · skip
                  refine r_iconst (n := 96) hX 0 dX11_two_95 rfl rfl ?_
                  exact r_ireturn hX hR dX11_two_96 ⟨by simp [mTwo, k1_9, c88], rfl⟩
                · skip
                  refine r_iconst (n := 92) hX 1 dX11_two_91 rfl rfl ?_
                  refine r_goto (tgt := 96) hX dX11_two_92 (by decide) ?_
                  exact r_ireturn hX hR dX11_two_96 ⟨by simp [mTwo, k1_9, c88], rfl⟩
              · skip
                by_cases k1_10 : o = 10
                · refine Aw.topi 10 k1_10 ?_
                  refine r_tabIn (tgt := 97) (off := 96) hX dX11_two_1 (by decide) (by decide) (by decide) (by decide) ?_
                  refine r_iload_n (n := 98) hX dX11_two_97 rfl rfl 1 rfl ?_
                  refine r_iload_n (n := 99) hX dX11_two_98 rfl rfl 2 rfl ?_
                  refine r_icmp_gt (tgt := 106) (n := 102) hX dX11_two_99 (by decide) rfl (fun c99 => ?_) (fun c99 => ?_)
                  · skip
                    refine r_iconst (n := 107) hX 0 dX11_two_106 rfl rfl ?_
                    exact r_ireturn hX hR dX11_two_107 ⟨by simp [mTwo, k1_10, c99], rfl⟩
                  · skip
                    refine r_iconst (n := 103) hX 1 dX11_two_102 rfl rfl ?_
                    refine r_goto (tgt := 107) hX dX11_two_103 (by decide) ?_
                    exact r_ireturn hX hR dX11_two_107 ⟨by simp [mTwo, k1_10, c99], rfl⟩
                · skip
                  by_cases k1_11 : o = 11
                  · refine Aw.topi 11 k1_11 ?_
                    refine r_tabIn (tgt := 108) (off := 107) hX dX11_two_1 (by decide) (by decide) (by decide) (by decide) ?_
                    refine r_iload_n (n := 109) hX dX11_two_108 rfl rfl 1 rfl ?_
                    refine r_iload_n (n := 110) hX dX11_two_109 rfl rfl 2 rfl ?_
                    refine r_iand (n := 111) hX dX11_two_110 rfl ?_
                    exact r_ireturn hX hR dX11_two_111 ⟨by simp [mTwo, k1_11], rfl⟩
                  · skip
                    refine r_tabOut (tgt := 112) hX dX11_two_1 (by have h0 := ne_toInt k1_3 (a := 3) (by decide); have h1 := ne_toInt k1_4 (a := 4) (by decide); have h2 := ne_toInt k1_5 (a := 5) (by decide); have h3 := ne_toInt k1_6 (a := 6) (by decide); have h4 := ne_toInt k1_7 (a := 7) (by decide); have h5 := ne_toInt k1_8 (a := 8) (by decide); have h6 := ne_toInt k1_9 (a := 9) (by decide); have h7 := ne_toInt k1_10 (a := 10) (by decide); have h8 := ne_toInt k1_11 (a := 11) (by decide); omega) (by decide) ?_
                    refine r_iload_n (n := 113) hX dX11_two_112 rfl rfl 1 rfl ?_
                    refine r_iload_n (n := 114) hX dX11_two_113 rfl rfl 2 rfl ?_
                    refine r_ior (n := 115) hX dX11_two_114 rfl ?_
                    exact r_ireturn hX hR dX11_two_115 ⟨by simp [mTwo, k1_3, k1_4, k1_5, k1_6, k1_7, k1_8, k1_9, k1_10, k1_11], rfl⟩
theorem ct_X11_two (l : Launch) (D : va_G) (o x y : Int32)  : Ct l D m_X11_two 0 [.int o, .int x, .int y] [] [] (fun r es' => r = some (.int (mTwo o x y)) ∧ es' = []) :=
  Ct.ofA (own := RX11) (by decide) rfl (Nat.le_of_ble_eq_true rfl) rfl (fun X hl hD hX hR => by subst hl; subst hD; exact wk_X11_two hX o x y hR)

theorem mUn_s {f : Int32 → Int32} {L M : List Int32} (h : mUn f L = some M) : ∃ x s, L = x :: s ∧ M = f x :: s := by
  cases L with
  | nil => cases h
  | cons x s => exact ⟨x, s, rfl, (Option.some.inj h).symm⟩
theorem mBi_s {f : Int32 → Int32 → Int32} {L M : List Int32} (h : mBi f L = some M) : ∃ x y s, L = y :: x :: s ∧ M = f x y :: s := by
  match L, h with
  | y :: x :: s, h => exact ⟨x, y, s, rfl, (Option.some.inj h).symm⟩
  | [_], h => cases h
  | [], h => cases h

set_option maxHeartbeats 1000000 in
set_option maxRecDepth 100000 in
theorem lp_worked {X : Cx} (hX : Ok X cX11_worked 9 RX11 1) (mo : Nat) (a : Nat → Nat) (tn tr fm fn mv bg en tk op wn jn cq cm : Nat) (fk fp ck te yn rc kd mk : Int32) (le : Int64) (hp ir ke : Bool) (t : MR) (nw pl : Nat → Int32) (sl fr to_ p h : Nat) (hsl : sl ≤ 1) (hw : mWf (rOd t) (rNu t) sl fr to_) (hp12 : p < 12) (hh12 : h < 12) (v : Int32) (hv : mEv nw (rOd t) (rNu t) p h (to_ - fr) (sl * 1300 + fr) [] = some [v]) (hR : Rt X (some FieldType.int) (fun r es' => r = some (.int (mVal nw (rOd t) (rNu t) p h sl fr to_)) ∧ ∃ pl : Nat → Int32, es' = [ob 11 (.ref (a 0) :: .int (nI tn) :: .int fk :: .int fp :: .ref (a 4) :: .ref (a 5) :: .ref (a 6) :: .ref (a 7) :: .ref (a 8) :: .ref (a 9) :: .ref (a 10) :: .ref (a 11) :: .ref (a 12) :: .ref (a 13) :: .int (nI tr) :: .int (nI fm) :: .int ck :: .int te :: .int (nI fn) :: .ref (a 19) :: .ref (a 20) :: .ref (a 21) :: .ref (a 22) :: .ref (a 23) :: .ref (a 24) :: .ref (a 25) :: .ref (a 26) :: .ref (a 27) :: .int (b2 hp) :: .int yn :: .int (b2 ir) :: .ref (a 31) :: .int rc :: .ref (a 33) :: .int (nI mv) :: .int kd :: .int (nI bg) :: .int (nI en) :: .int mk :: .long le :: .int (nI tk) :: .int (nI op) :: .ref (a 42) :: .int (nI wn) :: .ref (a 44) :: .int (nI jn) :: .ref (a 46) :: .ref (a 47) :: .ref (a 48) :: .ref (a 49) :: .ref (a 50) :: .ref (a 51) :: .int (b2 ke) :: .ref (a 53) :: .ref (a 54) :: .ref (a 55) :: .int (nI cq) :: .int (nI cm) :: []), aI (CxD X) 3900 (rOd t), aI (CxD X) 3900 (rNu t), aI (CxD X) 384 nw, aI (CxD X) 700 pl]) [mo, a 4, a 5, a 46, a 47]) : ∀ (m k top : Nat) (pl1 : Nat → Int32) (L : List Int32), k + m = sl * 1300 + to_ → stk pl1 top L → top + m ≤ 700 → mEv nw (rOd t) (rNu t) p h m k L = some [v] → Aw X [mo, a 4, a 5, a 46, a 47] [ob 11 (.ref (a 0) :: .int (nI tn) :: .int fk :: .int fp :: .ref (a 4) :: .ref (a 5) :: .ref (a 6) :: .ref (a 7) :: .ref (a 8) :: .ref (a 9) :: .ref (a 10) :: .ref (a 11) :: .ref (a 12) :: .ref (a 13) :: .int (nI tr) :: .int (nI fm) :: .int ck :: .int te :: .int (nI fn) :: .ref (a 19) :: .ref (a 20) :: .ref (a 21) :: .ref (a 22) :: .ref (a 23) :: .ref (a 24) :: .ref (a 25) :: .ref (a 26) :: .ref (a 27) :: .int (b2 hp) :: .int yn :: .int (b2 ir) :: .ref (a 31) :: .int rc :: .ref (a 33) :: .int (nI mv) :: .int kd :: .int (nI bg) :: .int (nI en) :: .int mk :: .long le :: .int (nI tk) :: .int (nI op) :: .ref (a 42) :: .int (nI wn) :: .ref (a 44) :: .int (nI jn) :: .ref (a 46) :: .ref (a 47) :: .ref (a 48) :: .ref (a 49) :: .ref (a 50) :: .ref (a 51) :: .int (b2 ke) :: .ref (a 53) :: .ref (a 54) :: .ref (a 55) :: .int (nI cq) :: .int (nI cm) :: []), aI (CxD X) 3900 (rOd t), aI (CxD X) 3900 (rNu t), aI (CxD X) 384 nw, aI (CxD X) 700 pl1] 12 [(0, .ref mo), (1, .int (nI sl)), (2, .int (nI fr)), (3, .int (nI to_)), (4, .int (nI p)), (5, .int (nI h)), (6, .int (nI top)), (7, .int (nI k))] [] := by
  have hw1 := hw.1
  have hw2 := hw.2.1
  intro m
  induction m with
  | zero =>
    intro k top pl1 L hk hS ht he
    obtain rfl := Option.some.inj he
    obtain ⟨j, rfl, hv0, hS1⟩ := hS
    have hj0 : j = 0 := hS1
    subst hj0
    refine r_iload (n := 14) hX dX11_worked_12 rfl 7 rfl ?_
    refine r_iload_n (n := 15) hX dX11_worked_14 rfl rfl 1 rfl ?_
    refine r_sipush (n := 18) hX 1300 dX11_worked_15 rfl rfl ?_
    refine r_imul (n := 19) hX dX11_worked_18 rfl ?_
    refine Aw.topi (nI (sl * 1300)) (pk_mul _ _) ?_
    refine r_iload_n (n := 20) hX dX11_worked_19 rfl rfl 3 rfl ?_
    refine r_iadd (n := 21) hX dX11_worked_20 rfl ?_
    refine Aw.topi (nI ((sl * 1300) + to_)) (nI_add _ _) ?_
    refine r_icmp_ge_n (tgt := 213) (n := 24) hX k ((sl * 1300) + to_) (by omega) (by omega) dX11_worked_21 (by decide) rfl (fun c21 => ?_) (fun c21 => absurd c21 (by omega))
    refine r_aload_n (n := 214) hX dX11_worked_213 rfl rfl 0 rfl ?_
    refine r_get (n := 217) hX 0 rfl rfl rfl 47 (by decide) lay_X11 fl_X11_92 rfl dX11_worked_214 rfl ?_
    refine r_iconst (n := 218) hX 0 dX11_worked_217 rfl rfl ?_
    refine r_ialdn (n := 219) (i := 0) hX 4 rfl rfl (by omega) (by decide) dX11_worked_218 rfl ?_
    refine Aw.topi v hv0 ?_
    exact r_ireturn hX hR dX11_worked_219 ⟨by rw [mVal_eq hv], pl1, rfl⟩
  | succ m ih =>
    intro k top pl1 L hk hS ht he
    obtain ⟨L1, hst, he1⟩ := mEv_s he
    refine r_iload (n := 14) hX dX11_worked_12 rfl 7 rfl ?_
    refine r_iload_n (n := 15) hX dX11_worked_14 rfl rfl 1 rfl ?_
    refine r_sipush (n := 18) hX 1300 dX11_worked_15 rfl rfl ?_
    refine r_imul (n := 19) hX dX11_worked_18 rfl ?_
    refine Aw.topi (nI (sl * 1300)) (pk_mul _ _) ?_
    refine r_iload_n (n := 20) hX dX11_worked_19 rfl rfl 3 rfl ?_
    refine r_iadd (n := 21) hX dX11_worked_20 rfl ?_
    refine Aw.topi (nI ((sl * 1300) + to_)) (nI_add _ _) ?_
    refine r_icmp_ge_n (tgt := 213) (n := 24) hX k ((sl * 1300) + to_) (by omega) (by omega) dX11_worked_21 (by decide) rfl (fun c21 => absurd c21 (by omega)) (fun c21 => ?_)
    refine r_aload_n (n := 25) hX dX11_worked_24 rfl rfl 0 rfl ?_
    refine r_get (n := 28) hX 0 rfl rfl rfl 4 (by decide) lay_X11 fl_X11_17 rfl dX11_worked_25 rfl ?_
    refine r_iload (n := 30) hX dX11_worked_28 rfl 7 rfl ?_
    refine r_ialdn (n := 31) (i := k) hX 1 rfl rfl (by omega) (by decide) dX11_worked_30 rfl ?_
    refine r_istore (n := 33) hX [(0, .ref mo), (1, .int (nI sl)), (2, .int (nI fr)), (3, .int (nI to_)), (4, .int (nI p)), (5, .int (nI h)), (6, .int (nI top)), (7, .int (nI k)), (8, .int ((rOd t) k))] dX11_worked_31 rfl (by decide) rfl ?_
    refine r_iload (n := 35) hX dX11_worked_33 rfl 8 rfl ?_
    refine r_if_ne (tgt := 58) (n := 38) hX dX11_worked_35 (by decide) rfl (fun c35 => ?_) (fun c35 => ?_)
    · skip
      refine r_iload (n := 60) hX dX11_worked_58 rfl 8 rfl ?_
      refine r_iconst (n := 61) hX 1 dX11_worked_60 rfl rfl ?_
      refine r_icmp_eq (tgt := 70) (n := 64) hX dX11_worked_61 (by decide) rfl (fun c61 => ?_) (fun c61 => ?_)
      · skip
        rw [mStep, if_neg c35, if_pos c61] at hst
        have hnn : ¬ (rNu t k < 0 ∨ 8 ≤ rNu t k) := fun e => by rw [if_pos e] at hst; cases hst
        rw [if_neg hnn] at hst
        obtain ⟨q, hq2, hq⟩ := nI_of (fun e => hnn (Or.inl e))
        have hq8 : q < 8 := Nat.lt_of_not_le fun e => hnn (Or.inr (by rw [hq]; exact nI_le (a := 8) (b := q) e (by omega)))
        rw [hq, nI_clamp (by omega)] at hst
        obtain rfl := Option.some.inj hst
        refine r_aload_n (n := 71) hX dX11_worked_70 rfl rfl 0 rfl ?_
        refine r_get (n := 74) hX 0 rfl rfl rfl 47 (by decide) lay_X11 fl_X11_92 rfl dX11_worked_71 rfl ?_
        refine r_iload (n := 76) hX dX11_worked_74 rfl 6 rfl ?_
        refine r_aload_n (n := 77) hX dX11_worked_76 rfl rfl 0 rfl ?_
        refine r_get (n := 80) hX 0 rfl rfl rfl 46 (by decide) lay_X11 fl_X11_89 rfl dX11_worked_77 rfl ?_
        refine r_bipush (n := 82) hX 32 dX11_worked_80 rfl rfl ?_
        refine r_iload (n := 84) hX dX11_worked_82 rfl 8 rfl ?_
        refine r_iconst (n := 85) hX 1 dX11_worked_84 rfl rfl ?_
        refine r_icmp_ne (tgt := 93) (n := 88) hX dX11_worked_85 (by decide) rfl (fun c85 => absurd c85 (fun e => e c61)) (fun c85 => ?_)
        refine r_iload (n := 90) hX dX11_worked_88 rfl 4 rfl ?_
        refine r_goto (tgt := 95) hX dX11_worked_90 (by decide) ?_
        refine r_imul (n := 96) hX dX11_worked_95 rfl ?_
        refine Aw.topi (nI (32 * p)) (pk_mul _ _) ?_
        refine r_bipush (n := 98) hX 10 dX11_worked_96 rfl rfl ?_
        refine r_iadd (n := 99) hX dX11_worked_98 rfl ?_
        refine Aw.topi (nI ((32 * p) + 10)) (nI_add _ _) ?_
        refine r_aload_n (n := 100) hX dX11_worked_99 rfl rfl 0 rfl ?_
        refine r_get (n := 103) hX 0 rfl rfl rfl 5 (by decide) lay_X11 fl_X11_21 rfl dX11_worked_100 rfl ?_
        refine r_iload (n := 105) hX dX11_worked_103 rfl 7 rfl ?_
        refine r_ialdn (n := 106) (i := k) hX 2 rfl rfl (by omega) (by decide) dX11_worked_105 rfl ?_
        refine Aw.topi (nI q) hq ?_
        refine r_iadd (n := 107) hX dX11_worked_106 rfl ?_
        refine Aw.topi (nI (((32 * p) + 10) + q)) (nI_add _ _) ?_
        refine r_ialdn (n := 108) (i := (((32 * p) + 10) + q)) hX 3 rfl rfl (by omega) (by decide) dX11_worked_107 rfl ?_
        refine r_iastn (n := 109) (i := top) hX 4 rfl rfl [ob 11 (.ref (a 0) :: .int (nI tn) :: .int fk :: .int fp :: .ref (a 4) :: .ref (a 5) :: .ref (a 6) :: .ref (a 7) :: .ref (a 8) :: .ref (a 9) :: .ref (a 10) :: .ref (a 11) :: .ref (a 12) :: .ref (a 13) :: .int (nI tr) :: .int (nI fm) :: .int ck :: .int te :: .int (nI fn) :: .ref (a 19) :: .ref (a 20) :: .ref (a 21) :: .ref (a 22) :: .ref (a 23) :: .ref (a 24) :: .ref (a 25) :: .ref (a 26) :: .ref (a 27) :: .int (b2 hp) :: .int yn :: .int (b2 ir) :: .ref (a 31) :: .int rc :: .ref (a 33) :: .int (nI mv) :: .int kd :: .int (nI bg) :: .int (nI en) :: .int mk :: .long le :: .int (nI tk) :: .int (nI op) :: .ref (a 42) :: .int (nI wn) :: .ref (a 44) :: .int (nI jn) :: .ref (a 46) :: .ref (a 47) :: .ref (a 48) :: .ref (a 49) :: .ref (a 50) :: .ref (a 51) :: .int (b2 ke) :: .ref (a 53) :: .ref (a 54) :: .ref (a 55) :: .int (nI cq) :: .int (nI cm) :: []), aI (CxD X) 3900 (rOd t), aI (CxD X) 3900 (rNu t), aI (CxD X) 384 nw, aI (CxD X) 700 (upd pl1 top (nw (((32 * p) + 10) + q)))] (by omega) (by decide) rfl dX11_worked_108 rfl ?_
        refine r_iinc (n := 112) hX (nI (top + 1)) [(0, .ref mo), (1, .int (nI sl)), (2, .int (nI fr)), (3, .int (nI to_)), (4, .int (nI p)), (5, .int (nI h)), (6, .int (nI (top + 1))), (7, .int (nI k)), (8, .int ((rOd t) k))] dX11_worked_109 rfl 6 rfl (nI_add _ _) (by decide) rfl ?_
        refine r_goto (tgt := 207) hX dX11_worked_112 (by decide) ?_
        refine r_iinc (n := 210) hX (nI (k + 1)) [(0, .ref mo), (1, .int (nI sl)), (2, .int (nI fr)), (3, .int (nI to_)), (4, .int (nI p)), (5, .int (nI h)), (6, .int (nI (top + 1))), (7, .int (nI (k + 1))), (8, .int ((rOd t) k))] dX11_worked_207 rfl 7 rfl (nI_add _ _) (by decide) rfl ?_
        refine r_goto (tgt := 12) hX dX11_worked_210 (by decide) ?_
        refine Aw.loc (lv' := [(0, .ref mo), (1, .int (nI sl)), (2, .int (nI fr)), (3, .int (nI to_)), (4, .int (nI p)), (5, .int (nI h)), (6, .int (nI (top + 1))), (7, .int (nI (k + 1)))]) [0, 1, 2, 3, 4, 5, 6, 7] rfl ?_
        exact ih (k + 1) _ _ _ (by omega) (stk_push hS) (by omega) he1
      · skip
        refine r_iload (n := 66) hX dX11_worked_64 rfl 8 rfl ?_
        refine r_iconst (n := 67) hX 2 dX11_worked_66 rfl rfl ?_
        refine r_icmp_ne (tgt := 115) (n := 70) hX dX11_worked_67 (by decide) rfl (fun c67 => ?_) (fun c67 => ?_)
        · skip
          refine r_iload (n := 117) hX dX11_worked_115 rfl 8 rfl ?_
          refine r_bipush (n := 119) hX 6 dX11_worked_117 rfl rfl ?_
          refine r_icmp_ne (tgt := 144) (n := 122) hX dX11_worked_119 (by decide) rfl (fun c119 => ?_) (fun c119 => ?_)
          · skip
            refine r_iload (n := 146) hX dX11_worked_144 rfl 8 rfl ?_
            refine r_bipush (n := 148) hX 13 dX11_worked_146 rfl rfl ?_
            refine r_icmp_ne (tgt := 174) (n := 151) hX dX11_worked_148 (by decide) rfl (fun c148 => ?_) (fun c148 => ?_)
            · skip
              rw [mStep, if_neg c35, if_neg c61, if_neg c67, if_neg c119, if_neg c148] at hst
              obtain ⟨x, y, s_, rfl, rfl⟩ := mBi_s hst
              obtain ⟨j1, rfl, hy, j, rfl, hx, hS1⟩ := hS
              refine r_iinc (n := 177) hX (nI (j + 1)) [(0, .ref mo), (1, .int (nI sl)), (2, .int (nI fr)), (3, .int (nI to_)), (4, .int (nI p)), (5, .int (nI h)), (6, .int (nI (j + 1))), (7, .int (nI k)), (8, .int ((rOd t) k))] dX11_worked_174 rfl 6 rfl (by rw [inc_m1]; exact nI_pred _) (by decide) rfl ?_
              refine r_aload_n (n := 178) hX dX11_worked_177 rfl rfl 0 rfl ?_
              refine r_get (n := 181) hX 0 rfl rfl rfl 47 (by decide) lay_X11 fl_X11_92 rfl dX11_worked_178 rfl ?_
              refine r_iload (n := 183) hX dX11_worked_181 rfl 6 rfl ?_
              refine r_iconst (n := 184) hX 1 dX11_worked_183 rfl rfl ?_
              refine r_isub (n := 185) hX dX11_worked_184 rfl ?_
              refine Aw.topi (nI j) (nI_pred _) ?_
              refine r_iload (n := 187) hX dX11_worked_185 rfl 8 rfl ?_
              refine r_aload_n (n := 188) hX dX11_worked_187 rfl rfl 0 rfl ?_
              refine r_get (n := 191) hX 0 rfl rfl rfl 47 (by decide) lay_X11 fl_X11_92 rfl dX11_worked_188 rfl ?_
              refine r_iload (n := 193) hX dX11_worked_191 rfl 6 rfl ?_
              refine r_iconst (n := 194) hX 1 dX11_worked_193 rfl rfl ?_
              refine r_isub (n := 195) hX dX11_worked_194 rfl ?_
              refine Aw.topi (nI j) (nI_pred _) ?_
              refine r_ialdn (n := 196) (i := j) hX 4 rfl rfl (by omega) (by decide) dX11_worked_195 rfl ?_
              refine Aw.topi x hx ?_
              refine r_aload_n (n := 197) hX dX11_worked_196 rfl rfl 0 rfl ?_
              refine r_get (n := 200) hX 0 rfl rfl rfl 47 (by decide) lay_X11 fl_X11_92 rfl dX11_worked_197 rfl ?_
              refine r_iload (n := 202) hX dX11_worked_200 rfl 6 rfl ?_
              refine r_ialdn (n := 203) (i := (j + 1)) hX 4 rfl rfl (by omega) (by decide) dX11_worked_202 rfl ?_
              refine Aw.topi y hy ?_
              refine r_callS (n := 206) (av := [.int ((rOd t) k), .int x, .int y]) hX (ct_X11_two (CxL X) (CxD X) ((rOd t) k) x y) ml_X11_280 cs_X11_two rfl (by decide) [] rfl rfl (by decide) rfl (Nat.le_of_ble_eq_true rfl) dX11_worked_203 rfl (fun r_ es_ h_ l_ => ?_)
              obtain ⟨rfl, rfl⟩ := h_
              show Aw X [mo, a 4, a 5, a 46, a 47] [ob 11 (.ref (a 0) :: .int (nI tn) :: .int fk :: .int fp :: .ref (a 4) :: .ref (a 5) :: .ref (a 6) :: .ref (a 7) :: .ref (a 8) :: .ref (a 9) :: .ref (a 10) :: .ref (a 11) :: .ref (a 12) :: .ref (a 13) :: .int (nI tr) :: .int (nI fm) :: .int ck :: .int te :: .int (nI fn) :: .ref (a 19) :: .ref (a 20) :: .ref (a 21) :: .ref (a 22) :: .ref (a 23) :: .ref (a 24) :: .ref (a 25) :: .ref (a 26) :: .ref (a 27) :: .int (b2 hp) :: .int yn :: .int (b2 ir) :: .ref (a 31) :: .int rc :: .ref (a 33) :: .int (nI mv) :: .int kd :: .int (nI bg) :: .int (nI en) :: .int mk :: .long le :: .int (nI tk) :: .int (nI op) :: .ref (a 42) :: .int (nI wn) :: .ref (a 44) :: .int (nI jn) :: .ref (a 46) :: .ref (a 47) :: .ref (a 48) :: .ref (a 49) :: .ref (a 50) :: .ref (a 51) :: .int (b2 ke) :: .ref (a 53) :: .ref (a 54) :: .ref (a 55) :: .int (nI cq) :: .int (nI cm) :: []), aI (CxD X) 3900 (rOd t), aI (CxD X) 3900 (rNu t), aI (CxD X) 384 nw, aI (CxD X) 700 pl1] 206 [(0, .ref mo), (1, .int (nI sl)), (2, .int (nI fr)), (3, .int (nI to_)), (4, .int (nI p)), (5, .int (nI h)), (6, .int (nI (j + 1))), (7, .int (nI k)), (8, .int ((rOd t) k))] [.int (mTwo ((rOd t) k) x y), .int (nI j), .ref (a 47)]
              refine r_iastn (n := 207) (i := j) hX 4 rfl rfl [ob 11 (.ref (a 0) :: .int (nI tn) :: .int fk :: .int fp :: .ref (a 4) :: .ref (a 5) :: .ref (a 6) :: .ref (a 7) :: .ref (a 8) :: .ref (a 9) :: .ref (a 10) :: .ref (a 11) :: .ref (a 12) :: .ref (a 13) :: .int (nI tr) :: .int (nI fm) :: .int ck :: .int te :: .int (nI fn) :: .ref (a 19) :: .ref (a 20) :: .ref (a 21) :: .ref (a 22) :: .ref (a 23) :: .ref (a 24) :: .ref (a 25) :: .ref (a 26) :: .ref (a 27) :: .int (b2 hp) :: .int yn :: .int (b2 ir) :: .ref (a 31) :: .int rc :: .ref (a 33) :: .int (nI mv) :: .int kd :: .int (nI bg) :: .int (nI en) :: .int mk :: .long le :: .int (nI tk) :: .int (nI op) :: .ref (a 42) :: .int (nI wn) :: .ref (a 44) :: .int (nI jn) :: .ref (a 46) :: .ref (a 47) :: .ref (a 48) :: .ref (a 49) :: .ref (a 50) :: .ref (a 51) :: .int (b2 ke) :: .ref (a 53) :: .ref (a 54) :: .ref (a 55) :: .int (nI cq) :: .int (nI cm) :: []), aI (CxD X) 3900 (rOd t), aI (CxD X) 3900 (rNu t), aI (CxD X) 384 nw, aI (CxD X) 700 (upd pl1 j (mTwo ((rOd t) k) x y))] (by omega) (by decide) rfl dX11_worked_206 rfl ?_
              refine r_iinc (n := 210) hX (nI (k + 1)) [(0, .ref mo), (1, .int (nI sl)), (2, .int (nI fr)), (3, .int (nI to_)), (4, .int (nI p)), (5, .int (nI h)), (6, .int (nI (j + 1))), (7, .int (nI (k + 1))), (8, .int ((rOd t) k))] dX11_worked_207 rfl 7 rfl (nI_add _ _) (by decide) rfl ?_
              refine r_goto (tgt := 12) hX dX11_worked_210 (by decide) ?_
              refine Aw.loc (lv' := [(0, .ref mo), (1, .int (nI sl)), (2, .int (nI fr)), (3, .int (nI to_)), (4, .int (nI p)), (5, .int (nI h)), (6, .int (nI (j + 1))), (7, .int (nI (k + 1)))]) [0, 1, 2, 3, 4, 5, 6, 7] rfl ?_
              exact ih (k + 1) _ _ _ (by omega) (stk_push hS1) (by omega) he1
            · skip
              rw [mStep, if_neg c35, if_neg c61, if_neg c67, if_neg c119, if_pos c148] at hst
              obtain ⟨x, s_, rfl, rfl⟩ := mUn_s hst
              obtain ⟨j, rfl, hx, hS1⟩ := hS
              refine r_aload_n (n := 152) hX dX11_worked_151 rfl rfl 0 rfl ?_
              refine r_get (n := 155) hX 0 rfl rfl rfl 47 (by decide) lay_X11 fl_X11_92 rfl dX11_worked_152 rfl ?_
              refine r_iload (n := 157) hX dX11_worked_155 rfl 6 rfl ?_
              refine r_iconst (n := 158) hX 1 dX11_worked_157 rfl rfl ?_
              refine r_isub (n := 159) hX dX11_worked_158 rfl ?_
              refine Aw.topi (nI j) (nI_pred _) ?_
              refine r_iconst (n := 160) hX 1 dX11_worked_159 rfl rfl ?_
              refine r_aload_n (n := 161) hX dX11_worked_160 rfl rfl 0 rfl ?_
              refine r_get (n := 164) hX 0 rfl rfl rfl 47 (by decide) lay_X11 fl_X11_92 rfl dX11_worked_161 rfl ?_
              refine r_iload (n := 166) hX dX11_worked_164 rfl 6 rfl ?_
              refine r_iconst (n := 167) hX 1 dX11_worked_166 rfl rfl ?_
              refine r_isub (n := 168) hX dX11_worked_167 rfl ?_
              refine Aw.topi (nI j) (nI_pred _) ?_
              refine r_ialdn (n := 169) (i := j) hX 4 rfl rfl (by omega) (by decide) dX11_worked_168 rfl ?_
              refine Aw.topi x hx ?_
              refine r_isub (n := 170) hX dX11_worked_169 rfl ?_
              refine r_iastn (n := 171) (i := j) hX 4 rfl rfl [ob 11 (.ref (a 0) :: .int (nI tn) :: .int fk :: .int fp :: .ref (a 4) :: .ref (a 5) :: .ref (a 6) :: .ref (a 7) :: .ref (a 8) :: .ref (a 9) :: .ref (a 10) :: .ref (a 11) :: .ref (a 12) :: .ref (a 13) :: .int (nI tr) :: .int (nI fm) :: .int ck :: .int te :: .int (nI fn) :: .ref (a 19) :: .ref (a 20) :: .ref (a 21) :: .ref (a 22) :: .ref (a 23) :: .ref (a 24) :: .ref (a 25) :: .ref (a 26) :: .ref (a 27) :: .int (b2 hp) :: .int yn :: .int (b2 ir) :: .ref (a 31) :: .int rc :: .ref (a 33) :: .int (nI mv) :: .int kd :: .int (nI bg) :: .int (nI en) :: .int mk :: .long le :: .int (nI tk) :: .int (nI op) :: .ref (a 42) :: .int (nI wn) :: .ref (a 44) :: .int (nI jn) :: .ref (a 46) :: .ref (a 47) :: .ref (a 48) :: .ref (a 49) :: .ref (a 50) :: .ref (a 51) :: .int (b2 ke) :: .ref (a 53) :: .ref (a 54) :: .ref (a 55) :: .int (nI cq) :: .int (nI cm) :: []), aI (CxD X) 3900 (rOd t), aI (CxD X) 3900 (rNu t), aI (CxD X) 384 nw, aI (CxD X) 700 (upd pl1 j (1 - x))] (by omega) (by decide) rfl dX11_worked_170 rfl ?_
              refine r_goto (tgt := 207) hX dX11_worked_171 (by decide) ?_
              refine r_iinc (n := 210) hX (nI (k + 1)) [(0, .ref mo), (1, .int (nI sl)), (2, .int (nI fr)), (3, .int (nI to_)), (4, .int (nI p)), (5, .int (nI h)), (6, .int (nI (j + 1))), (7, .int (nI (k + 1))), (8, .int ((rOd t) k))] dX11_worked_207 rfl 7 rfl (nI_add _ _) (by decide) rfl ?_
              refine r_goto (tgt := 12) hX dX11_worked_210 (by decide) ?_
              refine Aw.loc (lv' := [(0, .ref mo), (1, .int (nI sl)), (2, .int (nI fr)), (3, .int (nI to_)), (4, .int (nI p)), (5, .int (nI h)), (6, .int (nI (j + 1))), (7, .int (nI (k + 1)))]) [0, 1, 2, 3, 4, 5, 6, 7] rfl ?_
              exact ih (k + 1) _ _ _ (by omega) (stk_push hS1) (by omega) he1
          · skip
            rw [mStep, if_neg c35, if_neg c61, if_neg c67, if_pos c119] at hst
            obtain ⟨x, s_, rfl, rfl⟩ := mUn_s hst
            obtain ⟨j, rfl, hx, hS1⟩ := hS
            refine r_aload_n (n := 123) hX dX11_worked_122 rfl rfl 0 rfl ?_
            refine r_get (n := 126) hX 0 rfl rfl rfl 47 (by decide) lay_X11 fl_X11_92 rfl dX11_worked_123 rfl ?_
            refine r_iload (n := 128) hX dX11_worked_126 rfl 6 rfl ?_
            refine r_iconst (n := 129) hX 1 dX11_worked_128 rfl rfl ?_
            refine r_isub (n := 130) hX dX11_worked_129 rfl ?_
            refine Aw.topi (nI j) (nI_pred _) ?_
            refine r_aload_n (n := 131) hX dX11_worked_130 rfl rfl 0 rfl ?_
            refine r_get (n := 134) hX 0 rfl rfl rfl 47 (by decide) lay_X11 fl_X11_92 rfl dX11_worked_131 rfl ?_
            refine r_iload (n := 136) hX dX11_worked_134 rfl 6 rfl ?_
            refine r_iconst (n := 137) hX 1 dX11_worked_136 rfl rfl ?_
            refine r_isub (n := 138) hX dX11_worked_137 rfl ?_
            refine Aw.topi (nI j) (nI_pred _) ?_
            refine r_ialdn (n := 139) (i := j) hX 4 rfl rfl (by omega) (by decide) dX11_worked_138 rfl ?_
            refine Aw.topi x hx ?_
            refine r_ineg (n := 140) hX dX11_worked_139 rfl ?_
            refine r_iastn (n := 141) (i := j) hX 4 rfl rfl [ob 11 (.ref (a 0) :: .int (nI tn) :: .int fk :: .int fp :: .ref (a 4) :: .ref (a 5) :: .ref (a 6) :: .ref (a 7) :: .ref (a 8) :: .ref (a 9) :: .ref (a 10) :: .ref (a 11) :: .ref (a 12) :: .ref (a 13) :: .int (nI tr) :: .int (nI fm) :: .int ck :: .int te :: .int (nI fn) :: .ref (a 19) :: .ref (a 20) :: .ref (a 21) :: .ref (a 22) :: .ref (a 23) :: .ref (a 24) :: .ref (a 25) :: .ref (a 26) :: .ref (a 27) :: .int (b2 hp) :: .int yn :: .int (b2 ir) :: .ref (a 31) :: .int rc :: .ref (a 33) :: .int (nI mv) :: .int kd :: .int (nI bg) :: .int (nI en) :: .int mk :: .long le :: .int (nI tk) :: .int (nI op) :: .ref (a 42) :: .int (nI wn) :: .ref (a 44) :: .int (nI jn) :: .ref (a 46) :: .ref (a 47) :: .ref (a 48) :: .ref (a 49) :: .ref (a 50) :: .ref (a 51) :: .int (b2 ke) :: .ref (a 53) :: .ref (a 54) :: .ref (a 55) :: .int (nI cq) :: .int (nI cm) :: []), aI (CxD X) 3900 (rOd t), aI (CxD X) 3900 (rNu t), aI (CxD X) 384 nw, aI (CxD X) 700 (upd pl1 j (-x))] (by omega) (by decide) rfl dX11_worked_140 rfl ?_
            refine r_goto (tgt := 207) hX dX11_worked_141 (by decide) ?_
            refine r_iinc (n := 210) hX (nI (k + 1)) [(0, .ref mo), (1, .int (nI sl)), (2, .int (nI fr)), (3, .int (nI to_)), (4, .int (nI p)), (5, .int (nI h)), (6, .int (nI (j + 1))), (7, .int (nI (k + 1))), (8, .int ((rOd t) k))] dX11_worked_207 rfl 7 rfl (nI_add _ _) (by decide) rfl ?_
            refine r_goto (tgt := 12) hX dX11_worked_210 (by decide) ?_
            refine Aw.loc (lv' := [(0, .ref mo), (1, .int (nI sl)), (2, .int (nI fr)), (3, .int (nI to_)), (4, .int (nI p)), (5, .int (nI h)), (6, .int (nI (j + 1))), (7, .int (nI (k + 1)))]) [0, 1, 2, 3, 4, 5, 6, 7] rfl ?_
            exact ih (k + 1) _ _ _ (by omega) (stk_push hS1) (by omega) he1
        · skip
          rw [mStep, if_neg c35, if_neg c61, if_pos c67] at hst
          have hnn : ¬ (rNu t k < 0 ∨ 8 ≤ rNu t k) := fun e => by rw [if_pos e] at hst; cases hst
          rw [if_neg hnn] at hst
          obtain ⟨q, hq2, hq⟩ := nI_of (fun e => hnn (Or.inl e))
          have hq8 : q < 8 := Nat.lt_of_not_le fun e => hnn (Or.inr (by rw [hq]; exact nI_le (a := 8) (b := q) e (by omega)))
          rw [hq, nI_clamp (by omega)] at hst
          obtain rfl := Option.some.inj hst
          refine r_aload_n (n := 71) hX dX11_worked_70 rfl rfl 0 rfl ?_
          refine r_get (n := 74) hX 0 rfl rfl rfl 47 (by decide) lay_X11 fl_X11_92 rfl dX11_worked_71 rfl ?_
          refine r_iload (n := 76) hX dX11_worked_74 rfl 6 rfl ?_
          refine r_aload_n (n := 77) hX dX11_worked_76 rfl rfl 0 rfl ?_
          refine r_get (n := 80) hX 0 rfl rfl rfl 46 (by decide) lay_X11 fl_X11_89 rfl dX11_worked_77 rfl ?_
          refine r_bipush (n := 82) hX 32 dX11_worked_80 rfl rfl ?_
          refine r_iload (n := 84) hX dX11_worked_82 rfl 8 rfl ?_
          refine r_iconst (n := 85) hX 1 dX11_worked_84 rfl rfl ?_
          refine r_icmp_ne (tgt := 93) (n := 88) hX dX11_worked_85 (by decide) rfl (fun c85 => ?_) (fun c85 => absurd c85 c61)
          refine r_iload (n := 95) hX dX11_worked_93 rfl 5 rfl ?_
          refine r_imul (n := 96) hX dX11_worked_95 rfl ?_
          refine Aw.topi (nI (32 * h)) (pk_mul _ _) ?_
          refine r_bipush (n := 98) hX 10 dX11_worked_96 rfl rfl ?_
          refine r_iadd (n := 99) hX dX11_worked_98 rfl ?_
          refine Aw.topi (nI ((32 * h) + 10)) (nI_add _ _) ?_
          refine r_aload_n (n := 100) hX dX11_worked_99 rfl rfl 0 rfl ?_
          refine r_get (n := 103) hX 0 rfl rfl rfl 5 (by decide) lay_X11 fl_X11_21 rfl dX11_worked_100 rfl ?_
          refine r_iload (n := 105) hX dX11_worked_103 rfl 7 rfl ?_
          refine r_ialdn (n := 106) (i := k) hX 2 rfl rfl (by omega) (by decide) dX11_worked_105 rfl ?_
          refine Aw.topi (nI q) hq ?_
          refine r_iadd (n := 107) hX dX11_worked_106 rfl ?_
          refine Aw.topi (nI (((32 * h) + 10) + q)) (nI_add _ _) ?_
          refine r_ialdn (n := 108) (i := (((32 * h) + 10) + q)) hX 3 rfl rfl (by omega) (by decide) dX11_worked_107 rfl ?_
          refine r_iastn (n := 109) (i := top) hX 4 rfl rfl [ob 11 (.ref (a 0) :: .int (nI tn) :: .int fk :: .int fp :: .ref (a 4) :: .ref (a 5) :: .ref (a 6) :: .ref (a 7) :: .ref (a 8) :: .ref (a 9) :: .ref (a 10) :: .ref (a 11) :: .ref (a 12) :: .ref (a 13) :: .int (nI tr) :: .int (nI fm) :: .int ck :: .int te :: .int (nI fn) :: .ref (a 19) :: .ref (a 20) :: .ref (a 21) :: .ref (a 22) :: .ref (a 23) :: .ref (a 24) :: .ref (a 25) :: .ref (a 26) :: .ref (a 27) :: .int (b2 hp) :: .int yn :: .int (b2 ir) :: .ref (a 31) :: .int rc :: .ref (a 33) :: .int (nI mv) :: .int kd :: .int (nI bg) :: .int (nI en) :: .int mk :: .long le :: .int (nI tk) :: .int (nI op) :: .ref (a 42) :: .int (nI wn) :: .ref (a 44) :: .int (nI jn) :: .ref (a 46) :: .ref (a 47) :: .ref (a 48) :: .ref (a 49) :: .ref (a 50) :: .ref (a 51) :: .int (b2 ke) :: .ref (a 53) :: .ref (a 54) :: .ref (a 55) :: .int (nI cq) :: .int (nI cm) :: []), aI (CxD X) 3900 (rOd t), aI (CxD X) 3900 (rNu t), aI (CxD X) 384 nw, aI (CxD X) 700 (upd pl1 top (nw (((32 * h) + 10) + q)))] (by omega) (by decide) rfl dX11_worked_108 rfl ?_
          refine r_iinc (n := 112) hX (nI (top + 1)) [(0, .ref mo), (1, .int (nI sl)), (2, .int (nI fr)), (3, .int (nI to_)), (4, .int (nI p)), (5, .int (nI h)), (6, .int (nI (top + 1))), (7, .int (nI k)), (8, .int ((rOd t) k))] dX11_worked_109 rfl 6 rfl (nI_add _ _) (by decide) rfl ?_
          refine r_goto (tgt := 207) hX dX11_worked_112 (by decide) ?_
          refine r_iinc (n := 210) hX (nI (k + 1)) [(0, .ref mo), (1, .int (nI sl)), (2, .int (nI fr)), (3, .int (nI to_)), (4, .int (nI p)), (5, .int (nI h)), (6, .int (nI (top + 1))), (7, .int (nI (k + 1))), (8, .int ((rOd t) k))] dX11_worked_207 rfl 7 rfl (nI_add _ _) (by decide) rfl ?_
          refine r_goto (tgt := 12) hX dX11_worked_210 (by decide) ?_
          refine Aw.loc (lv' := [(0, .ref mo), (1, .int (nI sl)), (2, .int (nI fr)), (3, .int (nI to_)), (4, .int (nI p)), (5, .int (nI h)), (6, .int (nI (top + 1))), (7, .int (nI (k + 1)))]) [0, 1, 2, 3, 4, 5, 6, 7] rfl ?_
          exact ih (k + 1) _ _ _ (by omega) (stk_push hS) (by omega) he1
    · skip
      rw [mStep, if_pos c35] at hst
      obtain rfl := Option.some.inj hst
      refine r_aload_n (n := 39) hX dX11_worked_38 rfl rfl 0 rfl ?_
      refine r_get (n := 42) hX 0 rfl rfl rfl 47 (by decide) lay_X11 fl_X11_92 rfl dX11_worked_39 rfl ?_
      refine r_iload (n := 44) hX dX11_worked_42 rfl 6 rfl ?_
      refine r_aload_n (n := 45) hX dX11_worked_44 rfl rfl 0 rfl ?_
      refine r_get (n := 48) hX 0 rfl rfl rfl 5 (by decide) lay_X11 fl_X11_21 rfl dX11_worked_45 rfl ?_
      refine r_iload (n := 50) hX dX11_worked_48 rfl 7 rfl ?_
      refine r_ialdn (n := 51) (i := k) hX 2 rfl rfl (by omega) (by decide) dX11_worked_50 rfl ?_
      refine r_iastn (n := 52) (i := top) hX 4 rfl rfl [ob 11 (.ref (a 0) :: .int (nI tn) :: .int fk :: .int fp :: .ref (a 4) :: .ref (a 5) :: .ref (a 6) :: .ref (a 7) :: .ref (a 8) :: .ref (a 9) :: .ref (a 10) :: .ref (a 11) :: .ref (a 12) :: .ref (a 13) :: .int (nI tr) :: .int (nI fm) :: .int ck :: .int te :: .int (nI fn) :: .ref (a 19) :: .ref (a 20) :: .ref (a 21) :: .ref (a 22) :: .ref (a 23) :: .ref (a 24) :: .ref (a 25) :: .ref (a 26) :: .ref (a 27) :: .int (b2 hp) :: .int yn :: .int (b2 ir) :: .ref (a 31) :: .int rc :: .ref (a 33) :: .int (nI mv) :: .int kd :: .int (nI bg) :: .int (nI en) :: .int mk :: .long le :: .int (nI tk) :: .int (nI op) :: .ref (a 42) :: .int (nI wn) :: .ref (a 44) :: .int (nI jn) :: .ref (a 46) :: .ref (a 47) :: .ref (a 48) :: .ref (a 49) :: .ref (a 50) :: .ref (a 51) :: .int (b2 ke) :: .ref (a 53) :: .ref (a 54) :: .ref (a 55) :: .int (nI cq) :: .int (nI cm) :: []), aI (CxD X) 3900 (rOd t), aI (CxD X) 3900 (rNu t), aI (CxD X) 384 nw, aI (CxD X) 700 (upd pl1 top ((rNu t) k))] (by omega) (by decide) rfl dX11_worked_51 rfl ?_
      refine r_iinc (n := 55) hX (nI (top + 1)) [(0, .ref mo), (1, .int (nI sl)), (2, .int (nI fr)), (3, .int (nI to_)), (4, .int (nI p)), (5, .int (nI h)), (6, .int (nI (top + 1))), (7, .int (nI k)), (8, .int ((rOd t) k))] dX11_worked_52 rfl 6 rfl (nI_add _ _) (by decide) rfl ?_
      refine r_goto (tgt := 207) hX dX11_worked_55 (by decide) ?_
      refine r_iinc (n := 210) hX (nI (k + 1)) [(0, .ref mo), (1, .int (nI sl)), (2, .int (nI fr)), (3, .int (nI to_)), (4, .int (nI p)), (5, .int (nI h)), (6, .int (nI (top + 1))), (7, .int (nI (k + 1))), (8, .int ((rOd t) k))] dX11_worked_207 rfl 7 rfl (nI_add _ _) (by decide) rfl ?_
      refine r_goto (tgt := 12) hX dX11_worked_210 (by decide) ?_
      refine Aw.loc (lv' := [(0, .ref mo), (1, .int (nI sl)), (2, .int (nI fr)), (3, .int (nI to_)), (4, .int (nI p)), (5, .int (nI h)), (6, .int (nI (top + 1))), (7, .int (nI (k + 1)))]) [0, 1, 2, 3, 4, 5, 6, 7] rfl ?_
      exact ih (k + 1) _ _ _ (by omega) (stk_push hS) (by omega) he1
set_option maxHeartbeats 1000000 in
set_option maxRecDepth 100000 in
theorem wk_X11_worked {X : Cx} (hX : Ok X cX11_worked 9 RX11 1) (mo : Nat) (a : Nat → Nat) (tn tr fm fn mv bg en tk op wn jn cq cm : Nat) (fk fp ck te yn rc kd mk : Int32) (le : Int64) (hp ir ke : Bool) (t : MR) (nw pl : Nat → Int32) (sl fr to_ p h : Nat) (hsl : sl ≤ 1) (hw : mWf (rOd t) (rNu t) sl fr to_) (hp12 : p < 12) (hh12 : h < 12) (hR : Rt X (some FieldType.int) (fun r es' => r = some (.int (mVal nw (rOd t) (rNu t) p h sl fr to_)) ∧ ∃ pl : Nat → Int32, es' = [ob 11 (.ref (a 0) :: .int (nI tn) :: .int fk :: .int fp :: .ref (a 4) :: .ref (a 5) :: .ref (a 6) :: .ref (a 7) :: .ref (a 8) :: .ref (a 9) :: .ref (a 10) :: .ref (a 11) :: .ref (a 12) :: .ref (a 13) :: .int (nI tr) :: .int (nI fm) :: .int ck :: .int te :: .int (nI fn) :: .ref (a 19) :: .ref (a 20) :: .ref (a 21) :: .ref (a 22) :: .ref (a 23) :: .ref (a 24) :: .ref (a 25) :: .ref (a 26) :: .ref (a 27) :: .int (b2 hp) :: .int yn :: .int (b2 ir) :: .ref (a 31) :: .int rc :: .ref (a 33) :: .int (nI mv) :: .int kd :: .int (nI bg) :: .int (nI en) :: .int mk :: .long le :: .int (nI tk) :: .int (nI op) :: .ref (a 42) :: .int (nI wn) :: .ref (a 44) :: .int (nI jn) :: .ref (a 46) :: .ref (a 47) :: .ref (a 48) :: .ref (a 49) :: .ref (a 50) :: .ref (a 51) :: .int (b2 ke) :: .ref (a 53) :: .ref (a 54) :: .ref (a 55) :: .int (nI cq) :: .int (nI cm) :: []), aI (CxD X) 3900 (rOd t), aI (CxD X) 3900 (rNu t), aI (CxD X) 384 nw, aI (CxD X) 700 pl]) [mo, a 4, a 5, a 46, a 47]) : Aw X [mo, a 4, a 5, a 46, a 47] [ob 11 (.ref (a 0) :: .int (nI tn) :: .int fk :: .int fp :: .ref (a 4) :: .ref (a 5) :: .ref (a 6) :: .ref (a 7) :: .ref (a 8) :: .ref (a 9) :: .ref (a 10) :: .ref (a 11) :: .ref (a 12) :: .ref (a 13) :: .int (nI tr) :: .int (nI fm) :: .int ck :: .int te :: .int (nI fn) :: .ref (a 19) :: .ref (a 20) :: .ref (a 21) :: .ref (a 22) :: .ref (a 23) :: .ref (a 24) :: .ref (a 25) :: .ref (a 26) :: .ref (a 27) :: .int (b2 hp) :: .int yn :: .int (b2 ir) :: .ref (a 31) :: .int rc :: .ref (a 33) :: .int (nI mv) :: .int kd :: .int (nI bg) :: .int (nI en) :: .int mk :: .long le :: .int (nI tk) :: .int (nI op) :: .ref (a 42) :: .int (nI wn) :: .ref (a 44) :: .int (nI jn) :: .ref (a 46) :: .ref (a 47) :: .ref (a 48) :: .ref (a 49) :: .ref (a 50) :: .ref (a 51) :: .int (b2 ke) :: .ref (a 53) :: .ref (a 54) :: .ref (a 55) :: .int (nI cq) :: .int (nI cm) :: []), aI (CxD X) 3900 (rOd t), aI (CxD X) 3900 (rNu t), aI (CxD X) 384 nw, aI (CxD X) 700 pl] 0 [(0, .ref mo), (1, .int (nI sl)), (2, .int (nI fr)), (3, .int (nI to_)), (4, .int (nI p)), (5, .int (nI h))] [] := by
  have hw1 := hw.1
  have hw2 := hw.2.1
  refine r_iconst (n := 1) hX 0 dX11_worked_0 rfl rfl ?_
  refine r_istore (n := 3) hX [(0, .ref mo), (1, .int (nI sl)), (2, .int (nI fr)), (3, .int (nI to_)), (4, .int (nI p)), (5, .int (nI h)), (6, .int 0)] dX11_worked_1 rfl (by decide) rfl ?_
  refine r_iload_n (n := 4) hX dX11_worked_3 rfl rfl 1 rfl ?_
  refine r_sipush (n := 7) hX 1300 dX11_worked_4 rfl rfl ?_
  refine r_imul (n := 8) hX dX11_worked_7 rfl ?_
  refine Aw.topi (nI (sl * 1300)) (pk_mul _ _) ?_
  refine r_iload_n (n := 9) hX dX11_worked_8 rfl rfl 2 rfl ?_
  refine r_iadd (n := 10) hX dX11_worked_9 rfl ?_
  refine Aw.topi (nI ((sl * 1300) + fr)) (nI_add _ _) ?_
  refine r_istore (n := 12) hX [(0, .ref mo), (1, .int (nI sl)), (2, .int (nI fr)), (3, .int (nI to_)), (4, .int (nI p)), (5, .int (nI h)), (6, .int 0), (7, .int (nI ((sl * 1300) + fr)))] dX11_worked_10 rfl (by decide) rfl ?_
  obtain ⟨v, hv⟩ := hw.2.2 nw p h
  exact lp_worked hX mo a tn tr fm fn mv bg en tk op wn jn cq cm fk fp ck te yn rc kd mk le hp ir ke t nw pl sl fr to_ p h hsl hw hp12 hh12 v hv hR (to_ - fr) (sl * 1300 + fr) 0 pl [] (by omega) rfl (by omega) hv
theorem ct_X11_worked (l : Launch) (D : va_G) (mo : Nat) (a : Nat → Nat) (tn tr fm fn mv bg en tk op wn jn cq cm : Nat) (fk fp ck te yn rc kd mk : Int32) (le : Int64) (hp ir ke : Bool) (t : MR) (nw pl : Nat → Int32) (sl fr to_ p h : Nat) (hsl : sl ≤ 1) (hw : mWf (rOd t) (rNu t) sl fr to_) (hp12 : p < 12) (hh12 : h < 12) : Ct l D m_X11_worked 1 [.ref mo, .int (nI sl), .int (nI fr), .int (nI to_), .int (nI p), .int (nI h)] [mo, a 4, a 5, a 46, a 47] [ob 11 (.ref (a 0) :: .int (nI tn) :: .int fk :: .int fp :: .ref (a 4) :: .ref (a 5) :: .ref (a 6) :: .ref (a 7) :: .ref (a 8) :: .ref (a 9) :: .ref (a 10) :: .ref (a 11) :: .ref (a 12) :: .ref (a 13) :: .int (nI tr) :: .int (nI fm) :: .int ck :: .int te :: .int (nI fn) :: .ref (a 19) :: .ref (a 20) :: .ref (a 21) :: .ref (a 22) :: .ref (a 23) :: .ref (a 24) :: .ref (a 25) :: .ref (a 26) :: .ref (a 27) :: .int (b2 hp) :: .int yn :: .int (b2 ir) :: .ref (a 31) :: .int rc :: .ref (a 33) :: .int (nI mv) :: .int kd :: .int (nI bg) :: .int (nI en) :: .int mk :: .long le :: .int (nI tk) :: .int (nI op) :: .ref (a 42) :: .int (nI wn) :: .ref (a 44) :: .int (nI jn) :: .ref (a 46) :: .ref (a 47) :: .ref (a 48) :: .ref (a 49) :: .ref (a 50) :: .ref (a 51) :: .int (b2 ke) :: .ref (a 53) :: .ref (a 54) :: .ref (a 55) :: .int (nI cq) :: .int (nI cm) :: []), aI D 3900 (rOd t), aI D 3900 (rNu t), aI D 384 nw, aI D 700 pl] (fun r es' => r = some (.int (mVal nw (rOd t) (rNu t) p h sl fr to_)) ∧ ∃ pl : Nat → Int32, es' = [ob 11 (.ref (a 0) :: .int (nI tn) :: .int fk :: .int fp :: .ref (a 4) :: .ref (a 5) :: .ref (a 6) :: .ref (a 7) :: .ref (a 8) :: .ref (a 9) :: .ref (a 10) :: .ref (a 11) :: .ref (a 12) :: .ref (a 13) :: .int (nI tr) :: .int (nI fm) :: .int ck :: .int te :: .int (nI fn) :: .ref (a 19) :: .ref (a 20) :: .ref (a 21) :: .ref (a 22) :: .ref (a 23) :: .ref (a 24) :: .ref (a 25) :: .ref (a 26) :: .ref (a 27) :: .int (b2 hp) :: .int yn :: .int (b2 ir) :: .ref (a 31) :: .int rc :: .ref (a 33) :: .int (nI mv) :: .int kd :: .int (nI bg) :: .int (nI en) :: .int mk :: .long le :: .int (nI tk) :: .int (nI op) :: .ref (a 42) :: .int (nI wn) :: .ref (a 44) :: .int (nI jn) :: .ref (a 46) :: .ref (a 47) :: .ref (a 48) :: .ref (a 49) :: .ref (a 50) :: .ref (a 51) :: .int (b2 ke) :: .ref (a 53) :: .ref (a 54) :: .ref (a 55) :: .int (nI cq) :: .int (nI cm) :: []), aI D 3900 (rOd t), aI D 3900 (rNu t), aI D 384 nw, aI D 700 pl]) :=
  Ct.ofA (own := RX11) (by decide) rfl (Nat.le_of_ble_eq_true rfl) rfl (fun X hl hD hX hR => by subst hl; subst hD; exact wk_X11_worked hX mo a tn tr fm fn mv bg en tk op wn jn cq cm fk fp ck te yn rc kd mk le hp ir ke t nw pl sl fr to_ p h hsl hw hp12 hh12 hR)
