
/-! HostYear$Planner: cost, mayBeFirst, mayBeLast, home, size, isOut, before -/
abbrev PL : Type := (Nat → Option Nat) × (Nat → Bool) × (Nat → Bool) × (Nat → Option Nat) × Nat × (Nat → Bool) × (Nat → Option Nat)
def plBe (s : PL) (p h : Nat) : Bool := if s.2.2.2.2.1 ≤ h then false else if s.1 (p * 12 + h) = none then false else true
def plGo (s : PL) (p h : Nat) : Bool := if s.2.2.2.2.2.1 p = true then false else plBe s p h
def plForget (s : PL) : PL := (s.1, s.2.1, s.2.2.1, s.2.2.2.1, s.2.2.2.2.1, cpyB s.2.2.2.2.2.1 (fun _ => false) 12, cpyO s.2.2.2.2.2.2 (fun _ => none) 12)
def plRemember (s : PL) (o : Nat → Bool) (u : Nat → Option Nat) : PL := (s.1, s.2.1, s.2.2.1, s.2.2.2.1, s.2.2.2.2.1, cpyB s.2.2.2.2.2.1 o 12, cpyO s.2.2.2.2.2.2 u 12)
def plW (s : PL) (p h : Nat) : Int64 := if plGo s p h = true then (lN ((s.1 (p * 12 + h)).getD 0) - 262144) + (if s.2.2.2.2.2.2 p = none ∨ s.2.2.2.2.2.2 p = some h then 0 else 8388608) else if p = h ∨ (s.2.2.1 p = true ∧ s.2.1 h = true) then (if s.2.2.2.2.2.2 p = none then 0 else 8388608) else 1125899906842624
def plWrow (s : PL) (p : Nat) (w : Nat → Int64) : Nat → Int64 := foldF (fun h w => vp_updL w (p * 12 + h) (plW s p h)) s.2.2.2.2.1 0 w
def plWall (s : PL) (w : Nat → Int64) : Nat → Int64 := foldF (plWrow s) s.2.2.2.2.1 0 w
def plRank (s : PL) (p h : Nat) : Nat := if plGo s p h = true then h else 12
/-- one pair's turn in weighOrder, over the matching's weights -/
def plO (s : PL) (q : MT) (sc : Int64) (p h : Nat) (w : Nat → Int64) : Nat → Int64 := vp_updL w (p * 12 + h) (if mtTight (w, q.2) p h = true then lN (plRank s p h) * sc else 1125899906842624)
def plOrd (s : PL) (q : MT) : Nat → Int64 → (Nat → Int64) → (Nat → Int64)
  | 0, _, w => w
  | k + 1, sc, w => plOrd s q k (sc * 13) (foldF (plO s q sc k) s.2.2.2.2.1 0 w)
def plSum (s : PL) : Nat → Nat
  | 0 => 0
  | m + 1 => plSum s m + (match s.2.2.2.1 m with | none => 0 | some h => (s.1 (m * 12 + h)).getD 0)
def plAllow (s : PL) (u : Nat → Option Nat) : Nat → Nat → Bool
  | 0, _ => true
  | m + 1, f => if (match u f with | none => false | some h => !(plBe s f h)) = true then false
      else if u f ≠ none ∧ gIn u f 12 0 = none ∧ s.2.1 f = false then false
      else if u f = none ∧ gIn u f 12 0 ≠ none ∧ s.2.2.1 f = false then false
      else plAllow s u m (f + 1)
def plHm (s : PL) (ro : Nat → Option Nat) (h : Nat) (hm : Nat → Option Nat) : Nat → Option Nat := match ro h with
  | none => hm
  | some p => if plGo s p h = true then va_up hm p (some h) else hm
def plHome (s : PL) (ro : Nat → Option Nat) : Nat → Option Nat := foldF (plHm s ro) s.2.2.2.2.1 0 (cpyO s.2.2.2.1 (fun _ => none) 12)
theorem nI_lt64 (c : Nat) (h : c < 2 ^ 31) : Int32.toInt64 (nI c) = lN c := nI_l h

set_option maxHeartbeats 4000000 in
set_option maxRecDepth 100000 in
theorem wk_X5_mayBe {X : Cx} (hX : Ok X cX5_mayBe 4 RX5 0) (pl p0 p1 p2 p3 p4 p5 mt : Nat) (s : PL) (p h : Nat) (hn : s.2.2.2.2.1 ≤ 12) (hp : p < 12) (hh : h < 2 ^ 31) (hc : ∀ i c, s.1 i = some c → c ≤ 10000) (hR : Rt X (some FieldType.boolean) (fun r es' => r = some (.int (b2 (plBe s p h))) ∧ es' = [ob 5 [.ref p0, .ref p1, .ref p2, .ref p3, .int (nI s.2.2.2.2.1), .ref p4, .ref p5, .ref mt], aI (CxD X) 144 (opf s.1), aZ (CxD X) 12 (zf s.2.1), aZ (CxD X) 12 (zf s.2.2.1), aI (CxD X) 12 (opf s.2.2.2.1), aZ (CxD X) 12 (zf s.2.2.2.2.2.1), aI (CxD X) 12 (opf s.2.2.2.2.2.2)]) [pl, p0, p1, p2, p3, p4, p5]) : Aw X [pl, p0, p1, p2, p3, p4, p5] [ob 5 [.ref p0, .ref p1, .ref p2, .ref p3, .int (nI s.2.2.2.2.1), .ref p4, .ref p5, .ref mt], aI (CxD X) 144 (opf s.1), aZ (CxD X) 12 (zf s.2.1), aZ (CxD X) 12 (zf s.2.2.1), aI (CxD X) 12 (opf s.2.2.2.1), aZ (CxD X) 12 (zf s.2.2.2.2.2.1), aI (CxD X) 12 (opf s.2.2.2.2.2.2)] 0 [(0, .ref pl), (1, .int (nI p)), (2, .int (nI h))] [] := by
  refine r_iload_n (n := 1) hX dX5_mayBe_0 rfl rfl 1 rfl ?_
  refine r_bipush (n := 3) hX 12 dX5_mayBe_1 rfl rfl ?_
  refine r_imul (n := 4) hX dX5_mayBe_3 rfl ?_
  refine Aw.topi (nI (p * 12)) (pk_mul _ _) ?_
  refine r_iload_n (n := 5) hX dX5_mayBe_4 rfl rfl 2 rfl ?_
  refine r_iadd (n := 6) hX dX5_mayBe_5 rfl ?_
  refine Aw.topi (nI ((p * 12) + h)) (nI_add _ _) ?_
  refine r_istore_n (n := 7) hX [(0, .ref pl), (1, .int (nI p)), (2, .int (nI h)), (3, .int (nI ((p * 12) + h)))] dX5_mayBe_6 rfl rfl (by decide) rfl ?_
  refine r_iload_n (n := 8) hX dX5_mayBe_7 rfl rfl 2 rfl ?_
  refine r_iflt_n (n := 11) (tgt := 46) hX (by omega) dX5_mayBe_8 rfl (by decide) ?_
  refine r_iload_n (n := 12) hX dX5_mayBe_11 rfl rfl 2 rfl ?_
  refine r_aload_n (n := 13) hX dX5_mayBe_12 rfl rfl 0 rfl ?_
  refine r_get (n := 16) hX 0 rfl rfl rfl 4 (by decide) lay_X5 fl_X5_25 rfl dX5_mayBe_13 rfl ?_
  refine r_icmp_ge_n (tgt := 46) (n := 19) hX h s.2.2.2.2.1 (by omega) (by omega) dX5_mayBe_16 (by decide) rfl (fun c16 => ?_) (fun c16 => ?_)
  · skip
    refine r_iconst (n := 47) hX 0 dX5_mayBe_46 rfl rfl ?_
    exact r_zreturn hX hR rfl dX5_mayBe_47 ⟨by first | (rw [plBe, if_pos c16]; rfl) | (rw [plBe, if_neg (Nat.not_le.mpr c16), if_pos c39]; rfl) | (rw [plBe, if_neg (Nat.not_le.mpr c16), if_neg c39]; rfl), rfl⟩
  · skip
    refine r_iload_n (n := 20) hX dX5_mayBe_19 rfl rfl 3 rfl ?_
    refine r_iflt_n (n := 23) (tgt := 46) hX (by omega) dX5_mayBe_20 rfl (by decide) ?_
    refine r_iload_n (n := 24) hX dX5_mayBe_23 rfl rfl 3 rfl ?_
    refine r_aload_n (n := 25) hX dX5_mayBe_24 rfl rfl 0 rfl ?_
    refine r_get (n := 28) hX 0 rfl rfl rfl 0 (by decide) lay_X5 fl_X5_9 rfl dX5_mayBe_25 rfl ?_
    refine r_alen (n := 29) hX 1 rfl rfl 0 rfl 144 rfl dX5_mayBe_28 rfl ?_
    refine r_icmp_ge_n (tgt := 46) (n := 32) hX ((p * 12) + h) 144 (by omega) (by omega) dX5_mayBe_29 (by decide) rfl (fun c29 => absurd c29 (by omega)) (fun c29 => ?_)
    refine r_aload_n (n := 33) hX dX5_mayBe_32 rfl rfl 0 rfl ?_
    refine r_get (n := 36) hX 0 rfl rfl rfl 0 (by decide) lay_X5 fl_X5_9 rfl dX5_mayBe_33 rfl ?_
    refine r_iload_n (n := 37) hX dX5_mayBe_36 rfl rfl 3 rfl ?_
    refine r_ialdOn (n := 38) (i := ((p * 12) + h)) hX 1 rfl rfl (by omega) (by decide) dX5_mayBe_37 rfl ?_
    refine r_iconst (n := 39) hX (-1) dX5_mayBe_38 rfl rfl ?_
    refine r_icmp_eq_o (tgt := 46) (n := 42) (x := s.1 ((p * 12) + h)) hX (fun c e => Nat.lt_of_le_of_lt (hc _ c e) (by decide)) dX5_mayBe_39 (by decide) rfl (fun c39 => ?_) (fun c39 => ?_)
    · skip
      refine r_iconst (n := 47) hX 0 dX5_mayBe_46 rfl rfl ?_
      exact r_zreturn hX hR rfl dX5_mayBe_47 ⟨by first | (rw [plBe, if_pos c16]; rfl) | (rw [plBe, if_neg (Nat.not_le.mpr c16), if_pos c39]; rfl) | (rw [plBe, if_neg (Nat.not_le.mpr c16), if_neg c39]; rfl), rfl⟩
    · skip
      refine r_iconst (n := 43) hX 1 dX5_mayBe_42 rfl rfl ?_
      refine r_goto (tgt := 47) hX dX5_mayBe_43 (by decide) ?_
      exact r_zreturn hX hR rfl dX5_mayBe_47 ⟨by first | (rw [plBe, if_pos c16]; rfl) | (rw [plBe, if_neg (Nat.not_le.mpr c16), if_pos c39]; rfl) | (rw [plBe, if_neg (Nat.not_le.mpr c16), if_neg c39]; rfl), rfl⟩
theorem ct_X5_mayBe (l : Launch) (D : va_G) (pl p0 p1 p2 p3 p4 p5 mt : Nat) (s : PL) (p h : Nat) (hn : s.2.2.2.2.1 ≤ 12) (hp : p < 12) (hh : h < 2 ^ 31) (hc : ∀ i c, s.1 i = some c → c ≤ 10000) : Ct l D m_X5_mayBe 0 [.ref pl, .int (nI p), .int (nI h)] [pl, p0, p1, p2, p3, p4, p5] [ob 5 [.ref p0, .ref p1, .ref p2, .ref p3, .int (nI s.2.2.2.2.1), .ref p4, .ref p5, .ref mt], aI D 144 (opf s.1), aZ D 12 (zf s.2.1), aZ D 12 (zf s.2.2.1), aI D 12 (opf s.2.2.2.1), aZ D 12 (zf s.2.2.2.2.2.1), aI D 12 (opf s.2.2.2.2.2.2)] (fun r es' => r = some (.int (b2 (plBe s p h))) ∧ es' = [ob 5 [.ref p0, .ref p1, .ref p2, .ref p3, .int (nI s.2.2.2.2.1), .ref p4, .ref p5, .ref mt], aI D 144 (opf s.1), aZ D 12 (zf s.2.1), aZ D 12 (zf s.2.2.1), aI D 12 (opf s.2.2.2.1), aZ D 12 (zf s.2.2.2.2.2.1), aI D 12 (opf s.2.2.2.2.2.2)]) :=
  Ct.ofA (own := RX5) (by decide) rfl (Nat.le_of_ble_eq_true rfl) rfl (fun X hl hD hX hR => by subst hl; subst hD; exact wk_X5_mayBe hX pl p0 p1 p2 p3 p4 p5 mt s p h hn hp hh hc hR)
set_option maxHeartbeats 4000000 in
set_option maxRecDepth 100000 in
theorem wk_X5_mayGo {X : Cx} (hX : Ok X cX5_mayGo 3 RX5 1) (pl p0 p1 p2 p3 p4 p5 mt : Nat) (s : PL) (p h : Nat) (hn : s.2.2.2.2.1 ≤ 12) (hp : p < 12) (hh : h < 2 ^ 31) (hc : ∀ i c, s.1 i = some c → c ≤ 10000) (hR : Rt X (some FieldType.boolean) (fun r es' => r = some (.int (b2 (plGo s p h))) ∧ es' = [ob 5 [.ref p0, .ref p1, .ref p2, .ref p3, .int (nI s.2.2.2.2.1), .ref p4, .ref p5, .ref mt], aI (CxD X) 144 (opf s.1), aZ (CxD X) 12 (zf s.2.1), aZ (CxD X) 12 (zf s.2.2.1), aI (CxD X) 12 (opf s.2.2.2.1), aZ (CxD X) 12 (zf s.2.2.2.2.2.1), aI (CxD X) 12 (opf s.2.2.2.2.2.2)]) [pl, p0, p1, p2, p3, p4, p5]) : Aw X [pl, p0, p1, p2, p3, p4, p5] [ob 5 [.ref p0, .ref p1, .ref p2, .ref p3, .int (nI s.2.2.2.2.1), .ref p4, .ref p5, .ref mt], aI (CxD X) 144 (opf s.1), aZ (CxD X) 12 (zf s.2.1), aZ (CxD X) 12 (zf s.2.2.1), aI (CxD X) 12 (opf s.2.2.2.1), aZ (CxD X) 12 (zf s.2.2.2.2.2.1), aI (CxD X) 12 (opf s.2.2.2.2.2.2)] 0 [(0, .ref pl), (1, .int (nI p)), (2, .int (nI h))] [] := by
  refine r_iload_n (n := 1) hX dX5_mayGo_0 rfl rfl 1 rfl ?_
  refine r_iflt_n (n := 4) (tgt := 32) hX (by omega) dX5_mayGo_1 rfl (by decide) ?_
  refine r_iload_n (n := 5) hX dX5_mayGo_4 rfl rfl 1 rfl ?_
  refine r_bipush (n := 7) hX 12 dX5_mayGo_5 rfl rfl ?_
  refine r_icmp_ge_n (tgt := 32) (n := 10) hX p 12 (by omega) (by omega) dX5_mayGo_7 (by decide) rfl (fun c7 => absurd c7 (by omega)) (fun c7 => ?_)
  refine r_aload_n (n := 11) hX dX5_mayGo_10 rfl rfl 0 rfl ?_
  refine r_get (n := 14) hX 0 rfl rfl rfl 5 (by decide) lay_X5 fl_X5_29 rfl dX5_mayGo_11 rfl ?_
  refine r_iload_n (n := 15) hX dX5_mayGo_14 rfl rfl 1 rfl ?_
  refine r_zaldbn (n := 16) (i := p) hX 5 rfl rfl (by omega) (by decide) dX5_mayGo_15 rfl ?_
  refine r_if_ne_b (tgt := 32) (n := 19) hX dX5_mayGo_16 (by decide) rfl (fun c16 => ?_) (fun c16 => ?_)
  · skip
    refine r_iconst (n := 33) hX 0 dX5_mayGo_32 rfl rfl ?_
    exact r_zreturn hX hR rfl dX5_mayGo_33 ⟨by first | (rw [plGo, if_pos c16]; rfl) | (rw [plGo, if_neg (by rw [c16]; decide), c25]; rfl), rfl⟩
  · skip
    refine r_aload_n (n := 20) hX dX5_mayGo_19 rfl rfl 0 rfl ?_
    refine r_iload_n (n := 21) hX dX5_mayGo_20 rfl rfl 1 rfl ?_
    refine r_iload_n (n := 22) hX dX5_mayGo_21 rfl rfl 2 rfl ?_
    refine r_callV (n := 25) (av := [.int (nI p), .int (nI h)]) hX (ct_X5_mayBe (CxL X) (CxD X) pl p0 p1 p2 p3 p4 p5 mt s p h hn (by omega) (by omega) hc) ml_X5_67 cv_X5_mayBe rfl (by decide) [0, 1, 2, 3, 4, 5, 6] rfl rfl (by decide) 0 rfl rfl rfl rfl rfl (Nat.le_of_ble_eq_true rfl) dX5_mayGo_22 rfl (fun r_ es_ h_ l_ => ?_)
    obtain ⟨rfl, rfl⟩ := h_
    show Aw X [pl, p0, p1, p2, p3, p4, p5] [ob 5 [.ref p0, .ref p1, .ref p2, .ref p3, .int (nI s.2.2.2.2.1), .ref p4, .ref p5, .ref mt], aI (CxD X) 144 (opf s.1), aZ (CxD X) 12 (zf s.2.1), aZ (CxD X) 12 (zf s.2.2.1), aI (CxD X) 12 (opf s.2.2.2.1), aZ (CxD X) 12 (zf s.2.2.2.2.2.1), aI (CxD X) 12 (opf s.2.2.2.2.2.2)] 25 [(0, .ref pl), (1, .int (nI p)), (2, .int (nI h))] [.int (b2 (plBe s p h))]
    refine r_if_eq_b (tgt := 32) (n := 28) hX dX5_mayGo_25 (by decide) rfl (fun c25 => ?_) (fun c25 => ?_)
    · skip
      refine r_iconst (n := 33) hX 0 dX5_mayGo_32 rfl rfl ?_
      exact r_zreturn hX hR rfl dX5_mayGo_33 ⟨by first | (rw [plGo, if_pos c16]; rfl) | (rw [plGo, if_neg (by rw [c16]; decide), c25]; rfl), rfl⟩
    · skip
      refine r_iconst (n := 29) hX 1 dX5_mayGo_28 rfl rfl ?_
      refine r_goto (tgt := 33) hX dX5_mayGo_29 (by decide) ?_
      exact r_zreturn hX hR rfl dX5_mayGo_33 ⟨by first | (rw [plGo, if_pos c16]; rfl) | (rw [plGo, if_neg (by rw [c16]; decide), c25]; rfl), rfl⟩
theorem ct_X5_mayGo (l : Launch) (D : va_G) (pl p0 p1 p2 p3 p4 p5 mt : Nat) (s : PL) (p h : Nat) (hn : s.2.2.2.2.1 ≤ 12) (hp : p < 12) (hh : h < 2 ^ 31) (hc : ∀ i c, s.1 i = some c → c ≤ 10000) : Ct l D m_X5_mayGo 1 [.ref pl, .int (nI p), .int (nI h)] [pl, p0, p1, p2, p3, p4, p5] [ob 5 [.ref p0, .ref p1, .ref p2, .ref p3, .int (nI s.2.2.2.2.1), .ref p4, .ref p5, .ref mt], aI D 144 (opf s.1), aZ D 12 (zf s.2.1), aZ D 12 (zf s.2.2.1), aI D 12 (opf s.2.2.2.1), aZ D 12 (zf s.2.2.2.2.2.1), aI D 12 (opf s.2.2.2.2.2.2)] (fun r es' => r = some (.int (b2 (plGo s p h))) ∧ es' = [ob 5 [.ref p0, .ref p1, .ref p2, .ref p3, .int (nI s.2.2.2.2.1), .ref p4, .ref p5, .ref mt], aI D 144 (opf s.1), aZ D 12 (zf s.2.1), aZ D 12 (zf s.2.2.1), aI D 12 (opf s.2.2.2.1), aZ D 12 (zf s.2.2.2.2.2.1), aI D 12 (opf s.2.2.2.2.2.2)]) :=
  Ct.ofA (own := RX5) (by decide) rfl (Nat.le_of_ble_eq_true rfl) rfl (fun X hl hD hX hR => by subst hl; subst hD; exact wk_X5_mayGo hX pl p0 p1 p2 p3 p4 p5 mt s p h hn hp hh hc hR)
set_option maxHeartbeats 4000000 in
set_option maxRecDepth 100000 in
theorem lp_X5_forget {X : Cx} (hX : Ok X cX5_forget 2 RX5 0) (pl p0 p1 p2 p3 p4 p5 mt : Nat) (s : PL) (hR : Rt X (none) (fun r es' => r = none ∧ es' = [ob 5 [.ref p0, .ref p1, .ref p2, .ref p3, .int (nI ((plForget s).2.2.2.2.1)), .ref p4, .ref p5, .ref mt], aI (CxD X) 144 (opf ((plForget s).1)), aZ (CxD X) 12 (zf ((plForget s).2.1)), aZ (CxD X) 12 (zf ((plForget s).2.2.1)), aI (CxD X) 12 (opf ((plForget s).2.2.2.1)), aZ (CxD X) 12 (zf ((plForget s).2.2.2.2.2.1)), aI (CxD X) 12 (opf ((plForget s).2.2.2.2.2.2))]) [pl, p0, p1, p2, p3, p4, p5]) : ∀ (m j : Nat), j + m = 12 → Aw X [pl, p0, p1, p2, p3, p4, p5] [ob 5 [.ref p0, .ref p1, .ref p2, .ref p3, .int (nI s.2.2.2.2.1), .ref p4, .ref p5, .ref mt], aI (CxD X) 144 (opf s.1), aZ (CxD X) 12 (zf s.2.1), aZ (CxD X) 12 (zf s.2.2.1), aI (CxD X) 12 (opf s.2.2.2.1), aZ (CxD X) 12 (zf (cpyB s.2.2.2.2.2.1 (fun _ => false) j)), aI (CxD X) 12 (opf (cpyO s.2.2.2.2.2.2 (fun _ => none) j))] 2 [(0, .ref pl), (1, .int (nI j))] [] := by
  intro m
  induction m with
  | zero =>
    intro j hj
    refine r_iload_n (n := 3) hX dX5_forget_2 rfl rfl 1 rfl ?_
    refine r_bipush (n := 5) hX 12 dX5_forget_3 rfl rfl ?_
    refine r_icmp_ge_n (tgt := 28) (n := 8) hX j 12 (by omega) (by omega) dX5_forget_5 (by decide) rfl (fun c5 => ?_) (fun c5 => absurd c5 (by omega))
    exact r_return hX hR dX5_forget_28 ⟨rfl, by rw [show j = 12 by omega]; rfl⟩
  | succ m ih =>
    intro j hj
    refine r_iload_n (n := 3) hX dX5_forget_2 rfl rfl 1 rfl ?_
    refine r_bipush (n := 5) hX 12 dX5_forget_3 rfl rfl ?_
    refine r_icmp_ge_n (tgt := 28) (n := 8) hX j 12 (by omega) (by omega) dX5_forget_5 (by decide) rfl (fun c5 => absurd c5 (by omega)) (fun c5 => ?_)
    refine r_aload_n (n := 9) hX dX5_forget_8 rfl rfl 0 rfl ?_
    refine r_get (n := 12) hX 0 rfl rfl rfl 5 (by decide) lay_X5 fl_X5_29 rfl dX5_forget_9 rfl ?_
    refine r_iload_n (n := 13) hX dX5_forget_12 rfl rfl 1 rfl ?_
    refine r_iconst (n := 14) hX 0 dX5_forget_13 rfl rfl ?_
    refine r_zastbn (n := 15) (i := j) hX 5 rfl rfl false [ob 5 [.ref p0, .ref p1, .ref p2, .ref p3, .int (nI s.2.2.2.2.1), .ref p4, .ref p5, .ref mt], aI (CxD X) 144 (opf s.1), aZ (CxD X) 12 (zf s.2.1), aZ (CxD X) 12 (zf s.2.2.1), aI (CxD X) 12 (opf s.2.2.2.1), aZ (CxD X) 12 (zf (updB (cpyB s.2.2.2.2.2.1 (fun _ => false) j) j false)), aI (CxD X) 12 (opf (cpyO s.2.2.2.2.2.2 (fun _ => none) j))] (by omega) (by decide) rfl dX5_forget_14 rfl ?_
    refine Aw.eqs (es' := [ob 5 [.ref p0, .ref p1, .ref p2, .ref p3, .int (nI s.2.2.2.2.1), .ref p4, .ref p5, .ref mt], aI (CxD X) 144 (opf s.1), aZ (CxD X) 12 (zf s.2.1), aZ (CxD X) 12 (zf s.2.2.1), aI (CxD X) 12 (opf s.2.2.2.1), aZ (CxD X) 12 (zf (cpyB s.2.2.2.2.2.1 (fun _ => false) (j + 1))), aI (CxD X) 12 (opf (cpyO s.2.2.2.2.2.2 (fun _ => none) j))]) (by rw [← cpyB_s]) rfl rfl ?_
    refine r_aload_n (n := 16) hX dX5_forget_15 rfl rfl 0 rfl ?_
    refine r_get (n := 19) hX 0 rfl rfl rfl 6 (by decide) lay_X5 fl_X5_32 rfl dX5_forget_16 rfl ?_
    refine r_iload_n (n := 20) hX dX5_forget_19 rfl rfl 1 rfl ?_
    refine r_iconst (n := 21) hX (-1) dX5_forget_20 rfl rfl ?_
    refine r_iastOn (n := 22) (i := j) hX 6 rfl rfl none [ob 5 [.ref p0, .ref p1, .ref p2, .ref p3, .int (nI s.2.2.2.2.1), .ref p4, .ref p5, .ref mt], aI (CxD X) 144 (opf s.1), aZ (CxD X) 12 (zf s.2.1), aZ (CxD X) 12 (zf s.2.2.1), aI (CxD X) 12 (opf s.2.2.2.1), aZ (CxD X) 12 (zf (cpyB s.2.2.2.2.2.1 (fun _ => false) (j + 1))), aI (CxD X) 12 (opf (va_up (cpyO s.2.2.2.2.2.2 (fun _ => none) j) j none))] (by omega) (by decide) rfl dX5_forget_21 rfl ?_
    refine Aw.eqs (es' := [ob 5 [.ref p0, .ref p1, .ref p2, .ref p3, .int (nI s.2.2.2.2.1), .ref p4, .ref p5, .ref mt], aI (CxD X) 144 (opf s.1), aZ (CxD X) 12 (zf s.2.1), aZ (CxD X) 12 (zf s.2.2.1), aI (CxD X) 12 (opf s.2.2.2.1), aZ (CxD X) 12 (zf (cpyB s.2.2.2.2.2.1 (fun _ => false) (j + 1))), aI (CxD X) 12 (opf (cpyO s.2.2.2.2.2.2 (fun _ => none) (j + 1)))]) (by rw [← cpyO_s]) rfl rfl ?_
    refine r_iinc (n := 25) hX (nI (j + 1)) [(0, .ref pl), (1, .int (nI (j + 1)))] dX5_forget_22 rfl 1 rfl (nI_add _ _) (by decide) rfl ?_
    refine r_goto (tgt := 2) hX dX5_forget_25 (by decide) ?_
    exact ih (j + 1) (by omega)
set_option maxHeartbeats 4000000 in
set_option maxRecDepth 100000 in
theorem wk_X5_forget {X : Cx} (hX : Ok X cX5_forget 2 RX5 0) (pl p0 p1 p2 p3 p4 p5 mt : Nat) (s : PL)  (hR : Rt X (none) (fun r es' => r = none ∧ es' = [ob 5 [.ref p0, .ref p1, .ref p2, .ref p3, .int (nI ((plForget s).2.2.2.2.1)), .ref p4, .ref p5, .ref mt], aI (CxD X) 144 (opf ((plForget s).1)), aZ (CxD X) 12 (zf ((plForget s).2.1)), aZ (CxD X) 12 (zf ((plForget s).2.2.1)), aI (CxD X) 12 (opf ((plForget s).2.2.2.1)), aZ (CxD X) 12 (zf ((plForget s).2.2.2.2.2.1)), aI (CxD X) 12 (opf ((plForget s).2.2.2.2.2.2))]) [pl, p0, p1, p2, p3, p4, p5]) : Aw X [pl, p0, p1, p2, p3, p4, p5] [ob 5 [.ref p0, .ref p1, .ref p2, .ref p3, .int (nI s.2.2.2.2.1), .ref p4, .ref p5, .ref mt], aI (CxD X) 144 (opf s.1), aZ (CxD X) 12 (zf s.2.1), aZ (CxD X) 12 (zf s.2.2.1), aI (CxD X) 12 (opf s.2.2.2.1), aZ (CxD X) 12 (zf s.2.2.2.2.2.1), aI (CxD X) 12 (opf s.2.2.2.2.2.2)] 0 [(0, .ref pl)] [] := by
  refine r_iconst (n := 1) hX 0 dX5_forget_0 rfl rfl ?_
  refine r_istore_n (n := 2) hX [(0, .ref pl), (1, .int 0)] dX5_forget_1 rfl rfl (by decide) rfl ?_
  refine Aw.eqs (es' := [ob 5 [.ref p0, .ref p1, .ref p2, .ref p3, .int (nI s.2.2.2.2.1), .ref p4, .ref p5, .ref mt], aI (CxD X) 144 (opf s.1), aZ (CxD X) 12 (zf s.2.1), aZ (CxD X) 12 (zf s.2.2.1), aI (CxD X) 12 (opf s.2.2.2.1), aZ (CxD X) 12 (zf (cpyB s.2.2.2.2.2.1 (fun _ => false) 0)), aI (CxD X) 12 (opf (cpyO s.2.2.2.2.2.2 (fun _ => none) 0))]) (by rw [cpyB_0, cpyO_0]) rfl rfl ?_
  exact lp_X5_forget hX pl p0 p1 p2 p3 p4 p5 mt s hR 12 0 (by omega)
theorem ct_X5_forget (l : Launch) (D : va_G) (pl p0 p1 p2 p3 p4 p5 mt : Nat) (s : PL)  : Ct l D m_X5_forget 0 [.ref pl] [pl, p0, p1, p2, p3, p4, p5] [ob 5 [.ref p0, .ref p1, .ref p2, .ref p3, .int (nI s.2.2.2.2.1), .ref p4, .ref p5, .ref mt], aI D 144 (opf s.1), aZ D 12 (zf s.2.1), aZ D 12 (zf s.2.2.1), aI D 12 (opf s.2.2.2.1), aZ D 12 (zf s.2.2.2.2.2.1), aI D 12 (opf s.2.2.2.2.2.2)] (fun r es' => r = none ∧ es' = [ob 5 [.ref p0, .ref p1, .ref p2, .ref p3, .int (nI ((plForget s).2.2.2.2.1)), .ref p4, .ref p5, .ref mt], aI D 144 (opf ((plForget s).1)), aZ D 12 (zf ((plForget s).2.1)), aZ D 12 (zf ((plForget s).2.2.1)), aI D 12 (opf ((plForget s).2.2.2.1)), aZ D 12 (zf ((plForget s).2.2.2.2.2.1)), aI D 12 (opf ((plForget s).2.2.2.2.2.2))]) :=
  Ct.ofA (own := RX5) (by decide) rfl (Nat.le_of_ble_eq_true rfl) rfl (fun X hl hD hX hR => by subst hl; subst hD; exact wk_X5_forget hX pl p0 p1 p2 p3 p4 p5 mt s hR)
set_option maxHeartbeats 4000000 in
set_option maxRecDepth 100000 in
theorem lp_X5_remember {X : Cx} (hX : Ok X cX5_remember 3 RX5 0) (pl p0 p1 p2 p3 p4 p5 mt : Nat) (yr y0 y1 y2 : Nat) (s : PL) (y : YR) (hR : Rt X (none) (fun r es' => r = none ∧ es' = [ob 5 [.ref p0, .ref p1, .ref p2, .ref p3, .int (nI ((plRemember s y.2.1 y.1).2.2.2.2.1)), .ref p4, .ref p5, .ref mt], aI (CxD X) 144 (opf ((plRemember s y.2.1 y.1).1)), aZ (CxD X) 12 (zf ((plRemember s y.2.1 y.1).2.1)), aZ (CxD X) 12 (zf ((plRemember s y.2.1 y.1).2.2.1)), aI (CxD X) 12 (opf ((plRemember s y.2.1 y.1).2.2.2.1)), aZ (CxD X) 12 (zf ((plRemember s y.2.1 y.1).2.2.2.2.2.1)), aI (CxD X) 12 (opf ((plRemember s y.2.1 y.1).2.2.2.2.2.2)), ob 9 [.ref y0, .ref y1, .ref y2, .int (nI y.2.2.2.1), .int (b2 y.2.2.2.2)], aI (CxD X) 12 (opf y.1), aZ (CxD X) 12 (zf y.2.1), aI (CxD X) 12 (nf y.2.2.1)]) [pl, p0, p1, p2, p3, p4, p5, yr, y0, y1, y2]) : ∀ (m j : Nat), j + m = 12 → Aw X [pl, p0, p1, p2, p3, p4, p5, yr, y0, y1, y2] [ob 5 [.ref p0, .ref p1, .ref p2, .ref p3, .int (nI s.2.2.2.2.1), .ref p4, .ref p5, .ref mt], aI (CxD X) 144 (opf s.1), aZ (CxD X) 12 (zf s.2.1), aZ (CxD X) 12 (zf s.2.2.1), aI (CxD X) 12 (opf s.2.2.2.1), aZ (CxD X) 12 (zf (cpyB s.2.2.2.2.2.1 y.2.1 j)), aI (CxD X) 12 (opf (cpyO s.2.2.2.2.2.2 y.1 j)), ob 9 [.ref y0, .ref y1, .ref y2, .int (nI y.2.2.2.1), .int (b2 y.2.2.2.2)], aI (CxD X) 12 (opf y.1), aZ (CxD X) 12 (zf y.2.1), aI (CxD X) 12 (nf y.2.2.1)] 2 [(0, .ref pl), (1, .ref yr), (2, .int (nI j))] [] := by
  intro m
  induction m with
  | zero =>
    intro j hj
    refine r_iload_n (n := 3) hX dX5_remember_2 rfl rfl 2 rfl ?_
    refine r_bipush (n := 5) hX 12 dX5_remember_3 rfl rfl ?_
    refine r_icmp_ge_n (tgt := 38) (n := 8) hX j 12 (by omega) (by omega) dX5_remember_5 (by decide) rfl (fun c5 => ?_) (fun c5 => absurd c5 (by omega))
    exact r_return hX hR dX5_remember_38 ⟨rfl, by rw [show j = 12 by omega]; rfl⟩
  | succ m ih =>
    intro j hj
    refine r_iload_n (n := 3) hX dX5_remember_2 rfl rfl 2 rfl ?_
    refine r_bipush (n := 5) hX 12 dX5_remember_3 rfl rfl ?_
    refine r_icmp_ge_n (tgt := 38) (n := 8) hX j 12 (by omega) (by omega) dX5_remember_5 (by decide) rfl (fun c5 => absurd c5 (by omega)) (fun c5 => ?_)
    refine r_aload_n (n := 9) hX dX5_remember_8 rfl rfl 0 rfl ?_
    refine r_get (n := 12) hX 0 rfl rfl rfl 5 (by decide) lay_X5 fl_X5_29 rfl dX5_remember_9 rfl ?_
    refine r_iload_n (n := 13) hX dX5_remember_12 rfl rfl 2 rfl ?_
    refine r_aload_n (n := 14) hX dX5_remember_13 rfl rfl 1 rfl ?_
    refine r_get (n := 17) hX 7 rfl rfl rfl 1 (by decide) lay_X9 fl_X5_42 rfl dX5_remember_14 rfl ?_
    refine r_iload_n (n := 18) hX dX5_remember_17 rfl rfl 2 rfl ?_
    refine r_zaldbn (n := 19) (i := j) hX 9 rfl rfl (by omega) (by decide) dX5_remember_18 rfl ?_
    refine r_zastbn (n := 20) (i := j) hX 5 rfl rfl (y.2.1 j) [ob 5 [.ref p0, .ref p1, .ref p2, .ref p3, .int (nI s.2.2.2.2.1), .ref p4, .ref p5, .ref mt], aI (CxD X) 144 (opf s.1), aZ (CxD X) 12 (zf s.2.1), aZ (CxD X) 12 (zf s.2.2.1), aI (CxD X) 12 (opf s.2.2.2.1), aZ (CxD X) 12 (zf (updB (cpyB s.2.2.2.2.2.1 y.2.1 j) j (y.2.1 j))), aI (CxD X) 12 (opf (cpyO s.2.2.2.2.2.2 y.1 j)), ob 9 [.ref y0, .ref y1, .ref y2, .int (nI y.2.2.2.1), .int (b2 y.2.2.2.2)], aI (CxD X) 12 (opf y.1), aZ (CxD X) 12 (zf y.2.1), aI (CxD X) 12 (nf y.2.2.1)] (by omega) (by decide) rfl dX5_remember_19 rfl ?_
    refine Aw.eqs (es' := [ob 5 [.ref p0, .ref p1, .ref p2, .ref p3, .int (nI s.2.2.2.2.1), .ref p4, .ref p5, .ref mt], aI (CxD X) 144 (opf s.1), aZ (CxD X) 12 (zf s.2.1), aZ (CxD X) 12 (zf s.2.2.1), aI (CxD X) 12 (opf s.2.2.2.1), aZ (CxD X) 12 (zf (cpyB s.2.2.2.2.2.1 y.2.1 (j + 1))), aI (CxD X) 12 (opf (cpyO s.2.2.2.2.2.2 y.1 j)), ob 9 [.ref y0, .ref y1, .ref y2, .int (nI y.2.2.2.1), .int (b2 y.2.2.2.2)], aI (CxD X) 12 (opf y.1), aZ (CxD X) 12 (zf y.2.1), aI (CxD X) 12 (nf y.2.2.1)]) (by rw [← cpyB_s]) rfl rfl ?_
    refine r_aload_n (n := 21) hX dX5_remember_20 rfl rfl 0 rfl ?_
    refine r_get (n := 24) hX 0 rfl rfl rfl 6 (by decide) lay_X5 fl_X5_32 rfl dX5_remember_21 rfl ?_
    refine r_iload_n (n := 25) hX dX5_remember_24 rfl rfl 2 rfl ?_
    refine r_aload_n (n := 26) hX dX5_remember_25 rfl rfl 1 rfl ?_
    refine r_get (n := 29) hX 7 rfl rfl rfl 0 (by decide) lay_X9 fl_X5_45 rfl dX5_remember_26 rfl ?_
    refine r_iload_n (n := 30) hX dX5_remember_29 rfl rfl 2 rfl ?_
    refine r_ialdOn (n := 31) (i := j) hX 8 rfl rfl (by omega) (by decide) dX5_remember_30 rfl ?_
    refine r_iastOn (n := 32) (i := j) hX 6 rfl rfl (y.1 j) [ob 5 [.ref p0, .ref p1, .ref p2, .ref p3, .int (nI s.2.2.2.2.1), .ref p4, .ref p5, .ref mt], aI (CxD X) 144 (opf s.1), aZ (CxD X) 12 (zf s.2.1), aZ (CxD X) 12 (zf s.2.2.1), aI (CxD X) 12 (opf s.2.2.2.1), aZ (CxD X) 12 (zf (cpyB s.2.2.2.2.2.1 y.2.1 (j + 1))), aI (CxD X) 12 (opf (va_up (cpyO s.2.2.2.2.2.2 y.1 j) j (y.1 j))), ob 9 [.ref y0, .ref y1, .ref y2, .int (nI y.2.2.2.1), .int (b2 y.2.2.2.2)], aI (CxD X) 12 (opf y.1), aZ (CxD X) 12 (zf y.2.1), aI (CxD X) 12 (nf y.2.2.1)] (by omega) (by decide) rfl dX5_remember_31 rfl ?_
    refine Aw.eqs (es' := [ob 5 [.ref p0, .ref p1, .ref p2, .ref p3, .int (nI s.2.2.2.2.1), .ref p4, .ref p5, .ref mt], aI (CxD X) 144 (opf s.1), aZ (CxD X) 12 (zf s.2.1), aZ (CxD X) 12 (zf s.2.2.1), aI (CxD X) 12 (opf s.2.2.2.1), aZ (CxD X) 12 (zf (cpyB s.2.2.2.2.2.1 y.2.1 (j + 1))), aI (CxD X) 12 (opf (cpyO s.2.2.2.2.2.2 y.1 (j + 1))), ob 9 [.ref y0, .ref y1, .ref y2, .int (nI y.2.2.2.1), .int (b2 y.2.2.2.2)], aI (CxD X) 12 (opf y.1), aZ (CxD X) 12 (zf y.2.1), aI (CxD X) 12 (nf y.2.2.1)]) (by rw [← cpyO_s]) rfl rfl ?_
    refine r_iinc (n := 35) hX (nI (j + 1)) [(0, .ref pl), (1, .ref yr), (2, .int (nI (j + 1)))] dX5_remember_32 rfl 2 rfl (nI_add _ _) (by decide) rfl ?_
    refine r_goto (tgt := 2) hX dX5_remember_35 (by decide) ?_
    exact ih (j + 1) (by omega)
set_option maxHeartbeats 4000000 in
set_option maxRecDepth 100000 in
theorem wk_X5_remember {X : Cx} (hX : Ok X cX5_remember 3 RX5 0) (pl p0 p1 p2 p3 p4 p5 mt : Nat) (yr y0 y1 y2 : Nat) (s : PL) (y : YR)  (hR : Rt X (none) (fun r es' => r = none ∧ es' = [ob 5 [.ref p0, .ref p1, .ref p2, .ref p3, .int (nI ((plRemember s y.2.1 y.1).2.2.2.2.1)), .ref p4, .ref p5, .ref mt], aI (CxD X) 144 (opf ((plRemember s y.2.1 y.1).1)), aZ (CxD X) 12 (zf ((plRemember s y.2.1 y.1).2.1)), aZ (CxD X) 12 (zf ((plRemember s y.2.1 y.1).2.2.1)), aI (CxD X) 12 (opf ((plRemember s y.2.1 y.1).2.2.2.1)), aZ (CxD X) 12 (zf ((plRemember s y.2.1 y.1).2.2.2.2.2.1)), aI (CxD X) 12 (opf ((plRemember s y.2.1 y.1).2.2.2.2.2.2)), ob 9 [.ref y0, .ref y1, .ref y2, .int (nI y.2.2.2.1), .int (b2 y.2.2.2.2)], aI (CxD X) 12 (opf y.1), aZ (CxD X) 12 (zf y.2.1), aI (CxD X) 12 (nf y.2.2.1)]) [pl, p0, p1, p2, p3, p4, p5, yr, y0, y1, y2]) : Aw X [pl, p0, p1, p2, p3, p4, p5, yr, y0, y1, y2] [ob 5 [.ref p0, .ref p1, .ref p2, .ref p3, .int (nI s.2.2.2.2.1), .ref p4, .ref p5, .ref mt], aI (CxD X) 144 (opf s.1), aZ (CxD X) 12 (zf s.2.1), aZ (CxD X) 12 (zf s.2.2.1), aI (CxD X) 12 (opf s.2.2.2.1), aZ (CxD X) 12 (zf s.2.2.2.2.2.1), aI (CxD X) 12 (opf s.2.2.2.2.2.2), ob 9 [.ref y0, .ref y1, .ref y2, .int (nI y.2.2.2.1), .int (b2 y.2.2.2.2)], aI (CxD X) 12 (opf y.1), aZ (CxD X) 12 (zf y.2.1), aI (CxD X) 12 (nf y.2.2.1)] 0 [(0, .ref pl), (1, .ref yr)] [] := by
  refine r_iconst (n := 1) hX 0 dX5_remember_0 rfl rfl ?_
  refine r_istore_n (n := 2) hX [(0, .ref pl), (1, .ref yr), (2, .int 0)] dX5_remember_1 rfl rfl (by decide) rfl ?_
  refine Aw.eqs (es' := [ob 5 [.ref p0, .ref p1, .ref p2, .ref p3, .int (nI s.2.2.2.2.1), .ref p4, .ref p5, .ref mt], aI (CxD X) 144 (opf s.1), aZ (CxD X) 12 (zf s.2.1), aZ (CxD X) 12 (zf s.2.2.1), aI (CxD X) 12 (opf s.2.2.2.1), aZ (CxD X) 12 (zf (cpyB s.2.2.2.2.2.1 y.2.1 0)), aI (CxD X) 12 (opf (cpyO s.2.2.2.2.2.2 y.1 0)), ob 9 [.ref y0, .ref y1, .ref y2, .int (nI y.2.2.2.1), .int (b2 y.2.2.2.2)], aI (CxD X) 12 (opf y.1), aZ (CxD X) 12 (zf y.2.1), aI (CxD X) 12 (nf y.2.2.1)]) (by rw [cpyB_0, cpyO_0]) rfl rfl ?_
  exact lp_X5_remember hX pl p0 p1 p2 p3 p4 p5 mt yr y0 y1 y2 s y hR 12 0 (by omega)
theorem ct_X5_remember (l : Launch) (D : va_G) (pl p0 p1 p2 p3 p4 p5 mt : Nat) (yr y0 y1 y2 : Nat) (s : PL) (y : YR)  : Ct l D m_X5_remember 0 [.ref pl, .ref yr] [pl, p0, p1, p2, p3, p4, p5, yr, y0, y1, y2] [ob 5 [.ref p0, .ref p1, .ref p2, .ref p3, .int (nI s.2.2.2.2.1), .ref p4, .ref p5, .ref mt], aI D 144 (opf s.1), aZ D 12 (zf s.2.1), aZ D 12 (zf s.2.2.1), aI D 12 (opf s.2.2.2.1), aZ D 12 (zf s.2.2.2.2.2.1), aI D 12 (opf s.2.2.2.2.2.2), ob 9 [.ref y0, .ref y1, .ref y2, .int (nI y.2.2.2.1), .int (b2 y.2.2.2.2)], aI D 12 (opf y.1), aZ D 12 (zf y.2.1), aI D 12 (nf y.2.2.1)] (fun r es' => r = none ∧ es' = [ob 5 [.ref p0, .ref p1, .ref p2, .ref p3, .int (nI ((plRemember s y.2.1 y.1).2.2.2.2.1)), .ref p4, .ref p5, .ref mt], aI D 144 (opf ((plRemember s y.2.1 y.1).1)), aZ D 12 (zf ((plRemember s y.2.1 y.1).2.1)), aZ D 12 (zf ((plRemember s y.2.1 y.1).2.2.1)), aI D 12 (opf ((plRemember s y.2.1 y.1).2.2.2.1)), aZ D 12 (zf ((plRemember s y.2.1 y.1).2.2.2.2.2.1)), aI D 12 (opf ((plRemember s y.2.1 y.1).2.2.2.2.2.2)), ob 9 [.ref y0, .ref y1, .ref y2, .int (nI y.2.2.2.1), .int (b2 y.2.2.2.2)], aI D 12 (opf y.1), aZ D 12 (zf y.2.1), aI D 12 (nf y.2.2.1)]) :=
  Ct.ofA (own := RX5) (by decide) rfl (Nat.le_of_ble_eq_true rfl) rfl (fun X hl hD hX hR => by subst hl; subst hD; exact wk_X5_remember hX pl p0 p1 p2 p3 p4 p5 mt yr y0 y1 y2 s y hR)
set_option maxHeartbeats 4000000 in
set_option maxRecDepth 100000 in
theorem wk_X5_placeWeight {X : Cx} (hX : Ok X cX5_placeWeight 4 RX5 2) (pl p0 p1 p2 p3 p4 p5 mt : Nat) (s : PL) (p h : Nat) (hn : s.2.2.2.2.1 ≤ 12) (hp : p < 12) (hh : h < 12) (hc : ∀ i c, s.1 i = some c → c ≤ 10000) (hb : obd s.2.2.2.2.2.2) (hR : Rt X (some FieldType.long) (fun r es' => r = some (.long (plW s p h)) ∧ es' = [ob 5 [.ref p0, .ref p1, .ref p2, .ref p3, .int (nI s.2.2.2.2.1), .ref p4, .ref p5, .ref mt], aI (CxD X) 144 (opf s.1), aZ (CxD X) 12 (zf s.2.1), aZ (CxD X) 12 (zf s.2.2.1), aI (CxD X) 12 (opf s.2.2.2.1), aZ (CxD X) 12 (zf s.2.2.2.2.2.1), aI (CxD X) 12 (opf s.2.2.2.2.2.2)]) [pl, p0, p1, p2, p3, p4, p5]) : Aw X [pl, p0, p1, p2, p3, p4, p5] [ob 5 [.ref p0, .ref p1, .ref p2, .ref p3, .int (nI s.2.2.2.2.1), .ref p4, .ref p5, .ref mt], aI (CxD X) 144 (opf s.1), aZ (CxD X) 12 (zf s.2.1), aZ (CxD X) 12 (zf s.2.2.1), aI (CxD X) 12 (opf s.2.2.2.1), aZ (CxD X) 12 (zf s.2.2.2.2.2.1), aI (CxD X) 12 (opf s.2.2.2.2.2.2)] 0 [(0, .ref pl), (1, .int (nI p)), (2, .int (nI h))] [] := by
  refine r_aload_n (n := 1) hX dX5_placeWeight_0 rfl rfl 0 rfl ?_
  refine r_iload_n (n := 2) hX dX5_placeWeight_1 rfl rfl 1 rfl ?_
  refine r_iload_n (n := 3) hX dX5_placeWeight_2 rfl rfl 2 rfl ?_
  refine r_callV (n := 6) (av := [.int (nI p), .int (nI h)]) hX (ct_X5_mayGo (CxL X) (CxD X) pl p0 p1 p2 p3 p4 p5 mt s p h hn (by omega) (by omega) hc) ml_X5_59 cv_X5_mayGo rfl (by decide) [0, 1, 2, 3, 4, 5, 6] rfl rfl (by decide) 0 rfl rfl rfl rfl rfl (Nat.le_of_ble_eq_true rfl) dX5_placeWeight_3 rfl (fun r_ es_ h_ l_ => ?_)
  obtain ⟨rfl, rfl⟩ := h_
  show Aw X [pl, p0, p1, p2, p3, p4, p5] [ob 5 [.ref p0, .ref p1, .ref p2, .ref p3, .int (nI s.2.2.2.2.1), .ref p4, .ref p5, .ref mt], aI (CxD X) 144 (opf s.1), aZ (CxD X) 12 (zf s.2.1), aZ (CxD X) 12 (zf s.2.2.1), aI (CxD X) 12 (opf s.2.2.2.1), aZ (CxD X) 12 (zf s.2.2.2.2.2.1), aI (CxD X) 12 (opf s.2.2.2.2.2.2)] 6 [(0, .ref pl), (1, .int (nI p)), (2, .int (nI h))] [.int (b2 (plGo s p h))]
  refine r_if_eq_b (tgt := 64) (n := 9) hX dX5_placeWeight_6 (by decide) rfl (fun c6 => ?_) (fun c6 => ?_)
  · skip
    refine r_iload_n (n := 65) hX dX5_placeWeight_64 rfl rfl 1 rfl ?_
    refine r_iload_n (n := 66) hX dX5_placeWeight_65 rfl rfl 2 rfl ?_
    refine r_icmp_eq_n (tgt := 87) (n := 69) hX p h (by omega) (by omega) dX5_placeWeight_66 (by decide) rfl (fun c66 => ?_) (fun c66 => ?_)
    · skip
      refine r_aload_n (n := 88) hX dX5_placeWeight_87 rfl rfl 0 rfl ?_
      refine r_get (n := 91) hX 0 rfl rfl rfl 6 (by decide) lay_X5 fl_X5_32 rfl dX5_placeWeight_88 rfl ?_
      refine r_iload_n (n := 92) hX dX5_placeWeight_91 rfl rfl 1 rfl ?_
      refine r_ialdOn (n := 93) (i := p) hX 6 rfl rfl (by omega) (by decide) dX5_placeWeight_92 rfl ?_
      refine r_iconst (n := 94) hX (-1) dX5_placeWeight_93 rfl rfl ?_
      refine r_icmp_eq_o (tgt := 103) (n := 97) (x := s.2.2.2.2.2.2 p) hX hb.b dX5_placeWeight_94 (by decide) rfl (fun c94 => ?_) (fun c94 => ?_)
      · skip
        refine r_lconst (n := 104) hX 0 dX5_placeWeight_103 rfl rfl ?_
        exact r_lreturn hX hR dX5_placeWeight_104 ⟨by rw [plW, if_neg (by rw [c6]; decide)]; (first | rw [if_pos (Or.inl c66)] | rw [if_pos (Or.inr ⟨c75, c84⟩)]); (first | (rw [if_pos c94]) | (rw [if_neg c94])), rfl⟩
      · skip
        refine r_ldc2 (n := 100) hX dX5_placeWeight_97 rfl kl_X5_80 ?_
        refine r_goto (tgt := 104) hX dX5_placeWeight_100 (by decide) ?_
        exact r_lreturn hX hR dX5_placeWeight_104 ⟨by rw [plW, if_neg (by rw [c6]; decide)]; (first | rw [if_pos (Or.inl c66)] | rw [if_pos (Or.inr ⟨c75, c84⟩)]); (first | (rw [if_pos c94]) | (rw [if_neg c94])), rfl⟩
    · skip
      refine r_aload_n (n := 70) hX dX5_placeWeight_69 rfl rfl 0 rfl ?_
      refine r_get (n := 73) hX 0 rfl rfl rfl 2 (by decide) lay_X5 fl_X5_19 rfl dX5_placeWeight_70 rfl ?_
      refine r_iload_n (n := 74) hX dX5_placeWeight_73 rfl rfl 1 rfl ?_
      refine r_zaldbn (n := 75) (i := p) hX 3 rfl rfl (by omega) (by decide) dX5_placeWeight_74 rfl ?_
      refine r_if_eq_b (tgt := 105) (n := 78) hX dX5_placeWeight_75 (by decide) rfl (fun c75 => ?_) (fun c75 => ?_)
      · skip
        refine r_ldc2 (n := 108) hX dX5_placeWeight_105 rfl kl_X5_82 ?_
        exact r_lreturn hX hR dX5_placeWeight_108 ⟨by rw [plW, if_neg (by rw [c6]; decide), if_neg (by simp [*])], rfl⟩
      · skip
        refine r_aload_n (n := 79) hX dX5_placeWeight_78 rfl rfl 0 rfl ?_
        refine r_get (n := 82) hX 0 rfl rfl rfl 1 (by decide) lay_X5 fl_X5_15 rfl dX5_placeWeight_79 rfl ?_
        refine r_iload_n (n := 83) hX dX5_placeWeight_82 rfl rfl 2 rfl ?_
        refine r_zaldbn (n := 84) (i := h) hX 2 rfl rfl (by omega) (by decide) dX5_placeWeight_83 rfl ?_
        refine r_if_eq_b (tgt := 105) (n := 87) hX dX5_placeWeight_84 (by decide) rfl (fun c84 => ?_) (fun c84 => ?_)
        · skip
          refine r_ldc2 (n := 108) hX dX5_placeWeight_105 rfl kl_X5_82 ?_
          exact r_lreturn hX hR dX5_placeWeight_108 ⟨by rw [plW, if_neg (by rw [c6]; decide), if_neg (by simp [*])], rfl⟩
        · skip
          refine r_aload_n (n := 88) hX dX5_placeWeight_87 rfl rfl 0 rfl ?_
          refine r_get (n := 91) hX 0 rfl rfl rfl 6 (by decide) lay_X5 fl_X5_32 rfl dX5_placeWeight_88 rfl ?_
          refine r_iload_n (n := 92) hX dX5_placeWeight_91 rfl rfl 1 rfl ?_
          refine r_ialdOn (n := 93) (i := p) hX 6 rfl rfl (by omega) (by decide) dX5_placeWeight_92 rfl ?_
          refine r_iconst (n := 94) hX (-1) dX5_placeWeight_93 rfl rfl ?_
          refine r_icmp_eq_o (tgt := 103) (n := 97) (x := s.2.2.2.2.2.2 p) hX hb.b dX5_placeWeight_94 (by decide) rfl (fun c94 => ?_) (fun c94 => ?_)
          · skip
            refine r_lconst (n := 104) hX 0 dX5_placeWeight_103 rfl rfl ?_
            exact r_lreturn hX hR dX5_placeWeight_104 ⟨by rw [plW, if_neg (by rw [c6]; decide)]; (first | rw [if_pos (Or.inl c66)] | rw [if_pos (Or.inr ⟨c75, c84⟩)]); (first | (rw [if_pos c94]) | (rw [if_neg c94])), rfl⟩
          · skip
            refine r_ldc2 (n := 100) hX dX5_placeWeight_97 rfl kl_X5_80 ?_
            refine r_goto (tgt := 104) hX dX5_placeWeight_100 (by decide) ?_
            exact r_lreturn hX hR dX5_placeWeight_104 ⟨by rw [plW, if_neg (by rw [c6]; decide)]; (first | rw [if_pos (Or.inl c66)] | rw [if_pos (Or.inr ⟨c75, c84⟩)]); (first | (rw [if_pos c94]) | (rw [if_neg c94])), rfl⟩
  · skip
    obtain ⟨c, hcc⟩ : ∃ c, s.1 (p * 12 + h) = some c := by
      cases hq : s.1 (p * 12 + h) with
      | none => simp [plGo, plBe, hq] at c6
      | some c => exact ⟨c, rfl⟩
    have hcb := hc _ c hcc
    refine r_aload_n (n := 10) hX dX5_placeWeight_9 rfl rfl 0 rfl ?_
    refine r_get (n := 13) hX 0 rfl rfl rfl 6 (by decide) lay_X5 fl_X5_32 rfl dX5_placeWeight_10 rfl ?_
    refine r_iload_n (n := 14) hX dX5_placeWeight_13 rfl rfl 1 rfl ?_
    refine r_ialdOn (n := 15) (i := p) hX 6 rfl rfl (by omega) (by decide) dX5_placeWeight_14 rfl ?_
    refine r_iconst (n := 16) hX (-1) dX5_placeWeight_15 rfl rfl ?_
    refine r_icmp_eq_o (tgt := 33) (n := 19) (x := s.2.2.2.2.2.2 p) hX hb.b dX5_placeWeight_16 (by decide) rfl (fun c16 => ?_) (fun c16 => ?_)
    · skip
      refine r_iconst (n := 34) hX 0 dX5_placeWeight_33 rfl rfl ?_
      refine r_istore_n (n := 35) hX [(0, .ref pl), (1, .int (nI p)), (2, .int (nI h)), (3, .int 0)] dX5_placeWeight_34 rfl rfl (by decide) rfl ?_
      refine r_aload_n (n := 36) hX dX5_placeWeight_35 rfl rfl 0 rfl ?_
      refine r_get (n := 39) hX 0 rfl rfl rfl 0 (by decide) lay_X5 fl_X5_9 rfl dX5_placeWeight_36 rfl ?_
      refine r_iload_n (n := 40) hX dX5_placeWeight_39 rfl rfl 1 rfl ?_
      refine r_bipush (n := 42) hX 12 dX5_placeWeight_40 rfl rfl ?_
      refine r_imul (n := 43) hX dX5_placeWeight_42 rfl ?_
      refine Aw.topi (nI (p * 12)) (pk_mul _ _) ?_
      refine r_iload_n (n := 44) hX dX5_placeWeight_43 rfl rfl 2 rfl ?_
      refine r_iadd (n := 45) hX dX5_placeWeight_44 rfl ?_
      refine Aw.topi (nI ((p * 12) + h)) (nI_add _ _) ?_
      refine r_ialdOn (n := 46) (i := ((p * 12) + h)) hX 1 rfl rfl (by omega) (by decide) dX5_placeWeight_45 rfl ?_
      refine Aw.topi (nI c) (by rw [hcc]; rfl) ?_
      refine r_i2l (n := 47) hX dX5_placeWeight_46 rfl ?_
      refine Aw.topl (lN c) (nI_lt64 c (by omega)) ?_
      refine r_ldc2 (n := 50) hX dX5_placeWeight_47 rfl kl_X5_78 ?_
      refine r_lsub (n := 51) hX dX5_placeWeight_50 rfl ?_
      refine r_iload_n (n := 52) hX dX5_placeWeight_51 rfl rfl 3 rfl ?_
      refine r_if_eq (tgt := 61) (n := 55) hX dX5_placeWeight_52 (by decide) rfl (fun _ => ?_) (fun h => False.elim (by revert h; decide))
      refine r_lconst (n := 62) hX 0 dX5_placeWeight_61 rfl rfl ?_
      refine r_ladd (n := 63) hX dX5_placeWeight_62 rfl ?_
      exact r_lreturn hX hR dX5_placeWeight_63 ⟨by rw [plW, if_pos c6, hcc, Option.getD_some]; first | rw [if_pos (Or.inl c16)] | rw [if_pos (Or.inr c26)] | rw [if_neg (fun z => z.elim c16 c26)], rfl⟩
    · skip
      refine r_aload_n (n := 20) hX dX5_placeWeight_19 rfl rfl 0 rfl ?_
      refine r_get (n := 23) hX 0 rfl rfl rfl 6 (by decide) lay_X5 fl_X5_32 rfl dX5_placeWeight_20 rfl ?_
      refine r_iload_n (n := 24) hX dX5_placeWeight_23 rfl rfl 1 rfl ?_
      refine r_ialdOn (n := 25) (i := p) hX 6 rfl rfl (by omega) (by decide) dX5_placeWeight_24 rfl ?_
      refine r_iload_n (n := 26) hX dX5_placeWeight_25 rfl rfl 2 rfl ?_
      refine r_icmp_eq (tgt := 33) (n := 29) hX dX5_placeWeight_26 (by decide) rfl (fun c26 => ?_) (fun c26 => ?_)
      · replace c26 := (eo_nI hb.b (by omega)).mp c26
        refine r_iconst (n := 34) hX 0 dX5_placeWeight_33 rfl rfl ?_
        refine r_istore_n (n := 35) hX [(0, .ref pl), (1, .int (nI p)), (2, .int (nI h)), (3, .int 0)] dX5_placeWeight_34 rfl rfl (by decide) rfl ?_
        refine r_aload_n (n := 36) hX dX5_placeWeight_35 rfl rfl 0 rfl ?_
        refine r_get (n := 39) hX 0 rfl rfl rfl 0 (by decide) lay_X5 fl_X5_9 rfl dX5_placeWeight_36 rfl ?_
        refine r_iload_n (n := 40) hX dX5_placeWeight_39 rfl rfl 1 rfl ?_
        refine r_bipush (n := 42) hX 12 dX5_placeWeight_40 rfl rfl ?_
        refine r_imul (n := 43) hX dX5_placeWeight_42 rfl ?_
        refine Aw.topi (nI (p * 12)) (pk_mul _ _) ?_
        refine r_iload_n (n := 44) hX dX5_placeWeight_43 rfl rfl 2 rfl ?_
        refine r_iadd (n := 45) hX dX5_placeWeight_44 rfl ?_
        refine Aw.topi (nI ((p * 12) + h)) (nI_add _ _) ?_
        refine r_ialdOn (n := 46) (i := ((p * 12) + h)) hX 1 rfl rfl (by omega) (by decide) dX5_placeWeight_45 rfl ?_
        refine Aw.topi (nI c) (by rw [hcc]; rfl) ?_
        refine r_i2l (n := 47) hX dX5_placeWeight_46 rfl ?_
        refine Aw.topl (lN c) (nI_lt64 c (by omega)) ?_
        refine r_ldc2 (n := 50) hX dX5_placeWeight_47 rfl kl_X5_78 ?_
        refine r_lsub (n := 51) hX dX5_placeWeight_50 rfl ?_
        refine r_iload_n (n := 52) hX dX5_placeWeight_51 rfl rfl 3 rfl ?_
        refine r_if_eq (tgt := 61) (n := 55) hX dX5_placeWeight_52 (by decide) rfl (fun _ => ?_) (fun h => False.elim (by revert h; decide))
        refine r_lconst (n := 62) hX 0 dX5_placeWeight_61 rfl rfl ?_
        refine r_ladd (n := 63) hX dX5_placeWeight_62 rfl ?_
        exact r_lreturn hX hR dX5_placeWeight_63 ⟨by rw [plW, if_pos c6, hcc, Option.getD_some]; first | rw [if_pos (Or.inl c16)] | rw [if_pos (Or.inr c26)] | rw [if_neg (fun z => z.elim c16 c26)], rfl⟩
      · replace c26 : ¬ s.2.2.2.2.2.2 p = some h := fun z => c26 ((eo_nI hb.b (by omega)).mpr z)
        refine r_iconst (n := 30) hX 1 dX5_placeWeight_29 rfl rfl ?_
        refine r_goto (tgt := 34) hX dX5_placeWeight_30 (by decide) ?_
        refine r_istore_n (n := 35) hX [(0, .ref pl), (1, .int (nI p)), (2, .int (nI h)), (3, .int 1)] dX5_placeWeight_34 rfl rfl (by decide) rfl ?_
        refine r_aload_n (n := 36) hX dX5_placeWeight_35 rfl rfl 0 rfl ?_
        refine r_get (n := 39) hX 0 rfl rfl rfl 0 (by decide) lay_X5 fl_X5_9 rfl dX5_placeWeight_36 rfl ?_
        refine r_iload_n (n := 40) hX dX5_placeWeight_39 rfl rfl 1 rfl ?_
        refine r_bipush (n := 42) hX 12 dX5_placeWeight_40 rfl rfl ?_
        refine r_imul (n := 43) hX dX5_placeWeight_42 rfl ?_
        refine Aw.topi (nI (p * 12)) (pk_mul _ _) ?_
        refine r_iload_n (n := 44) hX dX5_placeWeight_43 rfl rfl 2 rfl ?_
        refine r_iadd (n := 45) hX dX5_placeWeight_44 rfl ?_
        refine Aw.topi (nI ((p * 12) + h)) (nI_add _ _) ?_
        refine r_ialdOn (n := 46) (i := ((p * 12) + h)) hX 1 rfl rfl (by omega) (by decide) dX5_placeWeight_45 rfl ?_
        refine Aw.topi (nI c) (by rw [hcc]; rfl) ?_
        refine r_i2l (n := 47) hX dX5_placeWeight_46 rfl ?_
        refine Aw.topl (lN c) (nI_lt64 c (by omega)) ?_
        refine r_ldc2 (n := 50) hX dX5_placeWeight_47 rfl kl_X5_78 ?_
        refine r_lsub (n := 51) hX dX5_placeWeight_50 rfl ?_
        refine r_iload_n (n := 52) hX dX5_placeWeight_51 rfl rfl 3 rfl ?_
        refine r_if_eq (tgt := 61) (n := 55) hX dX5_placeWeight_52 (by decide) rfl (fun h => False.elim (by revert h; decide)) (fun _ => ?_)
        refine r_ldc2 (n := 58) hX dX5_placeWeight_55 rfl kl_X5_80 ?_
        refine r_goto (tgt := 62) hX dX5_placeWeight_58 (by decide) ?_
        refine r_ladd (n := 63) hX dX5_placeWeight_62 rfl ?_
        exact r_lreturn hX hR dX5_placeWeight_63 ⟨by rw [plW, if_pos c6, hcc, Option.getD_some]; first | rw [if_pos (Or.inl c16)] | rw [if_pos (Or.inr c26)] | rw [if_neg (fun z => z.elim c16 c26)], rfl⟩
theorem ct_X5_placeWeight (l : Launch) (D : va_G) (pl p0 p1 p2 p3 p4 p5 mt : Nat) (s : PL) (p h : Nat) (hn : s.2.2.2.2.1 ≤ 12) (hp : p < 12) (hh : h < 12) (hc : ∀ i c, s.1 i = some c → c ≤ 10000) (hb : obd s.2.2.2.2.2.2) : Ct l D m_X5_placeWeight 2 [.ref pl, .int (nI p), .int (nI h)] [pl, p0, p1, p2, p3, p4, p5] [ob 5 [.ref p0, .ref p1, .ref p2, .ref p3, .int (nI s.2.2.2.2.1), .ref p4, .ref p5, .ref mt], aI D 144 (opf s.1), aZ D 12 (zf s.2.1), aZ D 12 (zf s.2.2.1), aI D 12 (opf s.2.2.2.1), aZ D 12 (zf s.2.2.2.2.2.1), aI D 12 (opf s.2.2.2.2.2.2)] (fun r es' => r = some (.long (plW s p h)) ∧ es' = [ob 5 [.ref p0, .ref p1, .ref p2, .ref p3, .int (nI s.2.2.2.2.1), .ref p4, .ref p5, .ref mt], aI D 144 (opf s.1), aZ D 12 (zf s.2.1), aZ D 12 (zf s.2.2.1), aI D 12 (opf s.2.2.2.1), aZ D 12 (zf s.2.2.2.2.2.1), aI D 12 (opf s.2.2.2.2.2.2)]) :=
  Ct.ofA (own := RX5) (by decide) rfl (Nat.le_of_ble_eq_true rfl) rfl (fun X hl hD hX hR => by subst hl; subst hD; exact wk_X5_placeWeight hX pl p0 p1 p2 p3 p4 p5 mt s p h hn hp hh hc hb hR)
set_option maxHeartbeats 4000000 in
set_option maxRecDepth 100000 in
theorem lp_X5_wp2 {X : Cx} (hX : Ok X cX5_weighPlaces 3 RX5 3) (pl p0 p1 p2 p3 p4 p5 : Nat) (mt g0 g1 g2 g3 g4 g5 g6 : Nat) (s : PL) (q : MT) (hn : s.2.2.2.2.1 ≤ 12) (hc : ∀ i c, s.1 i = some c → c ≤ 10000) (hb : obd s.2.2.2.2.2.2) (p : Nat) (hp : p < s.2.2.2.2.1) (hR : Rt X (none) (fun r es' => r = none ∧ es' = [ob 5 [.ref p0, .ref p1, .ref p2, .ref p3, .int (nI s.2.2.2.2.1), .ref p4, .ref p5, .ref mt], aI (CxD X) 144 (opf s.1), aZ (CxD X) 12 (zf s.2.1), aZ (CxD X) 12 (zf s.2.2.1), aI (CxD X) 12 (opf s.2.2.2.1), aZ (CxD X) 12 (zf s.2.2.2.2.2.1), aI (CxD X) 12 (opf s.2.2.2.2.2.2), ob 3 [.ref g0, .ref g1, .ref g2, .ref g3, .ref g4, .ref g5, .ref g6], aJ (CxD X) 144 (plWall s q.1), aI (CxD X) 13 (opf q.2.1), aJ (CxD X) 12 q.2.2.1, aJ (CxD X) 13 q.2.2.2.1, aJ (CxD X) 13 q.2.2.2.2.1, aI (CxD X) 13 (nf q.2.2.2.2.2.1), aZ (CxD X) 13 (zf q.2.2.2.2.2.2)]) [pl, p0, p1, p2, p3, p4, p5, mt, g0, g1, g2, g3, g4, g5, g6]) : ∀ (m h : Nat) (w : Nat → Int64), h + m = s.2.2.2.2.1 → Aw X [pl, p0, p1, p2, p3, p4, p5, mt, g0, g1, g2, g3, g4, g5, g6] [ob 5 [.ref p0, .ref p1, .ref p2, .ref p3, .int (nI s.2.2.2.2.1), .ref p4, .ref p5, .ref mt], aI (CxD X) 144 (opf s.1), aZ (CxD X) 12 (zf s.2.1), aZ (CxD X) 12 (zf s.2.2.1), aI (CxD X) 12 (opf s.2.2.2.1), aZ (CxD X) 12 (zf s.2.2.2.2.2.1), aI (CxD X) 12 (opf s.2.2.2.2.2.2), ob 3 [.ref g0, .ref g1, .ref g2, .ref g3, .ref g4, .ref g5, .ref g6], aJ (CxD X) 144 (foldF (fun h w => vp_updL w (p * 12 + h) (plW s p h)) m h w), aI (CxD X) 13 (opf q.2.1), aJ (CxD X) 12 q.2.2.1, aJ (CxD X) 13 q.2.2.2.1, aJ (CxD X) 13 q.2.2.2.2.1, aI (CxD X) 13 (nf q.2.2.2.2.2.1), aZ (CxD X) 13 (zf q.2.2.2.2.2.2)] 18 [(0, .ref pl), (1, .int (nI p)), (2, .int (nI s.2.2.2.2.1))] [] → Aw X [pl, p0, p1, p2, p3, p4, p5, mt, g0, g1, g2, g3, g4, g5, g6] [ob 5 [.ref p0, .ref p1, .ref p2, .ref p3, .int (nI s.2.2.2.2.1), .ref p4, .ref p5, .ref mt], aI (CxD X) 144 (opf s.1), aZ (CxD X) 12 (zf s.2.1), aZ (CxD X) 12 (zf s.2.2.1), aI (CxD X) 12 (opf s.2.2.2.1), aZ (CxD X) 12 (zf s.2.2.2.2.2.1), aI (CxD X) 12 (opf s.2.2.2.2.2.2), ob 3 [.ref g0, .ref g1, .ref g2, .ref g3, .ref g4, .ref g5, .ref g6], aJ (CxD X) 144 w, aI (CxD X) 13 (opf q.2.1), aJ (CxD X) 12 q.2.2.1, aJ (CxD X) 13 q.2.2.2.1, aJ (CxD X) 13 q.2.2.2.2.1, aI (CxD X) 13 (nf q.2.2.2.2.2.1), aZ (CxD X) 13 (zf q.2.2.2.2.2.2)] 18 [(0, .ref pl), (1, .int (nI p)), (2, .int (nI h))] [] := by
  intro m
  induction m with
  | zero =>
    intro h w hh kk_
    obtain rfl : h = s.2.2.2.2.1 := by omega
    exact kk_
  | succ m ih =>
    intro h w hh kk_
    refine r_iload_n (n := 19) hX dX5_weighPlaces_18 rfl rfl 2 rfl ?_
    refine r_aload_n (n := 20) hX dX5_weighPlaces_19 rfl rfl 0 rfl ?_
    refine r_get (n := 23) hX 0 rfl rfl rfl 4 (by decide) lay_X5 fl_X5_25 rfl dX5_weighPlaces_20 rfl ?_
    refine r_icmp_ge_n (tgt := 58) (n := 26) hX h s.2.2.2.2.1 (by omega) (by omega) dX5_weighPlaces_23 (by decide) rfl (fun c23 => absurd c23 (by omega)) (fun c23 => ?_)
    refine r_iload_n (n := 27) hX dX5_weighPlaces_26 rfl rfl 2 rfl ?_
    refine r_bipush (n := 29) hX 12 dX5_weighPlaces_27 rfl rfl ?_
    refine r_icmp_ge_n (tgt := 58) (n := 32) hX h 12 (by omega) (by omega) dX5_weighPlaces_29 (by decide) rfl (fun c29 => absurd c29 (by omega)) (fun c29 => ?_)
    refine r_aload_n (n := 33) hX dX5_weighPlaces_32 rfl rfl 0 rfl ?_
    refine r_get (n := 36) hX 0 rfl rfl rfl 7 (by decide) lay_X5 fl_X5_38 rfl dX5_weighPlaces_33 rfl ?_
    refine r_get (n := 39) hX 7 rfl rfl rfl 0 (by decide) lay_X3 fl_X5_70 rfl dX5_weighPlaces_36 rfl ?_
    refine r_iload_n (n := 40) hX dX5_weighPlaces_39 rfl rfl 1 rfl ?_
    refine r_bipush (n := 42) hX 12 dX5_weighPlaces_40 rfl rfl ?_
    refine r_imul (n := 43) hX dX5_weighPlaces_42 rfl ?_
    refine Aw.topi (nI (p * 12)) (pk_mul _ _) ?_
    refine r_iload_n (n := 44) hX dX5_weighPlaces_43 rfl rfl 2 rfl ?_
    refine r_iadd (n := 45) hX dX5_weighPlaces_44 rfl ?_
    refine Aw.topi (nI ((p * 12) + h)) (nI_add _ _) ?_
    refine r_aload_n (n := 46) hX dX5_weighPlaces_45 rfl rfl 0 rfl ?_
    refine r_iload_n (n := 47) hX dX5_weighPlaces_46 rfl rfl 1 rfl ?_
    refine r_iload_n (n := 48) hX dX5_weighPlaces_47 rfl rfl 2 rfl ?_
    refine r_callV (n := 51) (av := [.int (nI p), .int (nI h)]) hX (ct_X5_placeWeight (CxL X) (CxD X) pl p0 p1 p2 p3 p4 p5 mt s p h hn (by omega) (by omega) hc hb) ml_X5_74 cv_X5_placeWeight rfl (by decide) [0, 1, 2, 3, 4, 5, 6] rfl rfl (by decide) 0 rfl rfl rfl rfl rfl (Nat.le_of_ble_eq_true rfl) dX5_weighPlaces_48 rfl (fun r_ es_ h_ l_ => ?_)
    obtain ⟨rfl, rfl⟩ := h_
    show Aw X [pl, p0, p1, p2, p3, p4, p5, mt, g0, g1, g2, g3, g4, g5, g6] [ob 5 [.ref p0, .ref p1, .ref p2, .ref p3, .int (nI s.2.2.2.2.1), .ref p4, .ref p5, .ref mt], aI (CxD X) 144 (opf s.1), aZ (CxD X) 12 (zf s.2.1), aZ (CxD X) 12 (zf s.2.2.1), aI (CxD X) 12 (opf s.2.2.2.1), aZ (CxD X) 12 (zf s.2.2.2.2.2.1), aI (CxD X) 12 (opf s.2.2.2.2.2.2), ob 3 [.ref g0, .ref g1, .ref g2, .ref g3, .ref g4, .ref g5, .ref g6], aJ (CxD X) 144 w, aI (CxD X) 13 (opf q.2.1), aJ (CxD X) 12 q.2.2.1, aJ (CxD X) 13 q.2.2.2.1, aJ (CxD X) 13 q.2.2.2.2.1, aI (CxD X) 13 (nf q.2.2.2.2.2.1), aZ (CxD X) 13 (zf q.2.2.2.2.2.2)] 51 [(0, .ref pl), (1, .int (nI p)), (2, .int (nI h))] [.long (plW s p h), .int (nI ((p * 12) + h)), .ref g0]
    refine r_lastn (n := 52) (i := ((p * 12) + h)) hX 8 rfl rfl [ob 5 [.ref p0, .ref p1, .ref p2, .ref p3, .int (nI s.2.2.2.2.1), .ref p4, .ref p5, .ref mt], aI (CxD X) 144 (opf s.1), aZ (CxD X) 12 (zf s.2.1), aZ (CxD X) 12 (zf s.2.2.1), aI (CxD X) 12 (opf s.2.2.2.1), aZ (CxD X) 12 (zf s.2.2.2.2.2.1), aI (CxD X) 12 (opf s.2.2.2.2.2.2), ob 3 [.ref g0, .ref g1, .ref g2, .ref g3, .ref g4, .ref g5, .ref g6], aJ (CxD X) 144 (vp_updL w ((p * 12) + h) (plW s p h)), aI (CxD X) 13 (opf q.2.1), aJ (CxD X) 12 q.2.2.1, aJ (CxD X) 13 q.2.2.2.1, aJ (CxD X) 13 q.2.2.2.2.1, aI (CxD X) 13 (nf q.2.2.2.2.2.1), aZ (CxD X) 13 (zf q.2.2.2.2.2.2)] (by omega) (by decide) rfl dX5_weighPlaces_51 rfl ?_
    refine r_iinc (n := 55) hX (nI (h + 1)) [(0, .ref pl), (1, .int (nI p)), (2, .int (nI (h + 1)))] dX5_weighPlaces_52 rfl 2 rfl (nI_add _ _) (by decide) rfl ?_
    refine r_goto (tgt := 18) hX dX5_weighPlaces_55 (by decide) ?_
    exact ih (h + 1) _ (by omega) kk_
set_option maxHeartbeats 4000000 in
set_option maxRecDepth 100000 in
theorem lp_X5_wp1 {X : Cx} (hX : Ok X cX5_weighPlaces 3 RX5 3) (pl p0 p1 p2 p3 p4 p5 : Nat) (mt g0 g1 g2 g3 g4 g5 g6 : Nat) (s : PL) (q : MT) (hn : s.2.2.2.2.1 ≤ 12) (hc : ∀ i c, s.1 i = some c → c ≤ 10000) (hb : obd s.2.2.2.2.2.2) (hR : Rt X (none) (fun r es' => r = none ∧ es' = [ob 5 [.ref p0, .ref p1, .ref p2, .ref p3, .int (nI s.2.2.2.2.1), .ref p4, .ref p5, .ref mt], aI (CxD X) 144 (opf s.1), aZ (CxD X) 12 (zf s.2.1), aZ (CxD X) 12 (zf s.2.2.1), aI (CxD X) 12 (opf s.2.2.2.1), aZ (CxD X) 12 (zf s.2.2.2.2.2.1), aI (CxD X) 12 (opf s.2.2.2.2.2.2), ob 3 [.ref g0, .ref g1, .ref g2, .ref g3, .ref g4, .ref g5, .ref g6], aJ (CxD X) 144 (plWall s q.1), aI (CxD X) 13 (opf q.2.1), aJ (CxD X) 12 q.2.2.1, aJ (CxD X) 13 q.2.2.2.1, aJ (CxD X) 13 q.2.2.2.2.1, aI (CxD X) 13 (nf q.2.2.2.2.2.1), aZ (CxD X) 13 (zf q.2.2.2.2.2.2)]) [pl, p0, p1, p2, p3, p4, p5, mt, g0, g1, g2, g3, g4, g5, g6]) : ∀ (m p : Nat) (w : Nat → Int64), p + m = s.2.2.2.2.1 → foldF (plWrow s) m p w = plWall s q.1 → Aw X [pl, p0, p1, p2, p3, p4, p5, mt, g0, g1, g2, g3, g4, g5, g6] [ob 5 [.ref p0, .ref p1, .ref p2, .ref p3, .int (nI s.2.2.2.2.1), .ref p4, .ref p5, .ref mt], aI (CxD X) 144 (opf s.1), aZ (CxD X) 12 (zf s.2.1), aZ (CxD X) 12 (zf s.2.2.1), aI (CxD X) 12 (opf s.2.2.2.1), aZ (CxD X) 12 (zf s.2.2.2.2.2.1), aI (CxD X) 12 (opf s.2.2.2.2.2.2), ob 3 [.ref g0, .ref g1, .ref g2, .ref g3, .ref g4, .ref g5, .ref g6], aJ (CxD X) 144 w, aI (CxD X) 13 (opf q.2.1), aJ (CxD X) 12 q.2.2.1, aJ (CxD X) 13 q.2.2.2.1, aJ (CxD X) 13 q.2.2.2.2.1, aI (CxD X) 13 (nf q.2.2.2.2.2.1), aZ (CxD X) 13 (zf q.2.2.2.2.2.2)] 2 [(0, .ref pl), (1, .int (nI p))] [] := by
  intro m
  induction m with
  | zero =>
    intro p w hp he
    refine r_iload_n (n := 3) hX dX5_weighPlaces_2 rfl rfl 1 rfl ?_
    refine r_aload_n (n := 4) hX dX5_weighPlaces_3 rfl rfl 0 rfl ?_
    refine r_get (n := 7) hX 0 rfl rfl rfl 4 (by decide) lay_X5 fl_X5_25 rfl dX5_weighPlaces_4 rfl ?_
    refine r_icmp_ge_n (tgt := 64) (n := 10) hX p s.2.2.2.2.1 (by omega) (by omega) dX5_weighPlaces_7 (by decide) rfl (fun c7 => ?_) (fun c7 => absurd c7 (by omega))
    exact r_return hX hR dX5_weighPlaces_64 (by have he : w = plWall s q.1 := he; rw [← he]; exact ⟨rfl, rfl⟩)
  | succ m ih =>
    intro p w hp he
    refine r_iload_n (n := 3) hX dX5_weighPlaces_2 rfl rfl 1 rfl ?_
    refine r_aload_n (n := 4) hX dX5_weighPlaces_3 rfl rfl 0 rfl ?_
    refine r_get (n := 7) hX 0 rfl rfl rfl 4 (by decide) lay_X5 fl_X5_25 rfl dX5_weighPlaces_4 rfl ?_
    refine r_icmp_ge_n (tgt := 64) (n := 10) hX p s.2.2.2.2.1 (by omega) (by omega) dX5_weighPlaces_7 (by decide) rfl (fun c7 => absurd c7 (by omega)) (fun c7 => ?_)
    refine r_iload_n (n := 11) hX dX5_weighPlaces_10 rfl rfl 1 rfl ?_
    refine r_bipush (n := 13) hX 12 dX5_weighPlaces_11 rfl rfl ?_
    refine r_icmp_ge_n (tgt := 64) (n := 16) hX p 12 (by omega) (by omega) dX5_weighPlaces_13 (by decide) rfl (fun c13 => absurd c13 (by omega)) (fun c13 => ?_)
    refine r_iconst (n := 17) hX 0 dX5_weighPlaces_16 rfl rfl ?_
    refine r_istore_n (n := 18) hX [(0, .ref pl), (1, .int (nI p)), (2, .int 0)] dX5_weighPlaces_17 rfl rfl (by decide) rfl ?_
    refine lp_X5_wp2 hX pl p0 p1 p2 p3 p4 p5 mt g0 g1 g2 g3 g4 g5 g6 s q hn hc hb p (by omega) hR s.2.2.2.2.1 0 w (by omega) ?_
    show Aw X [pl, p0, p1, p2, p3, p4, p5, mt, g0, g1, g2, g3, g4, g5, g6] [ob 5 [.ref p0, .ref p1, .ref p2, .ref p3, .int (nI s.2.2.2.2.1), .ref p4, .ref p5, .ref mt], aI (CxD X) 144 (opf s.1), aZ (CxD X) 12 (zf s.2.1), aZ (CxD X) 12 (zf s.2.2.1), aI (CxD X) 12 (opf s.2.2.2.1), aZ (CxD X) 12 (zf s.2.2.2.2.2.1), aI (CxD X) 12 (opf s.2.2.2.2.2.2), ob 3 [.ref g0, .ref g1, .ref g2, .ref g3, .ref g4, .ref g5, .ref g6], aJ (CxD X) 144 (plWrow s p w), aI (CxD X) 13 (opf q.2.1), aJ (CxD X) 12 q.2.2.1, aJ (CxD X) 13 q.2.2.2.1, aJ (CxD X) 13 q.2.2.2.2.1, aI (CxD X) 13 (nf q.2.2.2.2.2.1), aZ (CxD X) 13 (zf q.2.2.2.2.2.2)] 18 [(0, .ref pl), (1, .int (nI p)), (2, .int (nI s.2.2.2.2.1))] []
    refine r_iload_n (n := 19) hX dX5_weighPlaces_18 rfl rfl 2 rfl ?_
    refine r_aload_n (n := 20) hX dX5_weighPlaces_19 rfl rfl 0 rfl ?_
    refine r_get (n := 23) hX 0 rfl rfl rfl 4 (by decide) lay_X5 fl_X5_25 rfl dX5_weighPlaces_20 rfl ?_
    refine r_icmp_ge_n (tgt := 58) (n := 26) hX s.2.2.2.2.1 s.2.2.2.2.1 (by omega) (by omega) dX5_weighPlaces_23 (by decide) rfl (fun c23 => ?_) (fun c23 => absurd c23 (by omega))
    refine r_iinc (n := 61) hX (nI (p + 1)) [(0, .ref pl), (1, .int (nI (p + 1))), (2, .int (nI s.2.2.2.2.1))] dX5_weighPlaces_58 rfl 1 rfl (nI_add _ _) (by decide) rfl ?_
    refine r_goto (tgt := 2) hX dX5_weighPlaces_61 (by decide) ?_
    refine Aw.loc (lv' := [(0, .ref pl), (1, .int (nI (p + 1)))]) [0, 1] rfl ?_
    exact ih (p + 1) (plWrow s p w) (by omega) he
set_option maxHeartbeats 4000000 in
set_option maxRecDepth 100000 in
theorem wk_X5_weighPlaces {X : Cx} (hX : Ok X cX5_weighPlaces 3 RX5 3) (pl p0 p1 p2 p3 p4 p5 : Nat) (mt g0 g1 g2 g3 g4 g5 g6 : Nat) (s : PL) (q : MT) (hn : s.2.2.2.2.1 ≤ 12) (hc : ∀ i c, s.1 i = some c → c ≤ 10000) (hb : obd s.2.2.2.2.2.2) (hR : Rt X (none) (fun r es' => r = none ∧ es' = [ob 5 [.ref p0, .ref p1, .ref p2, .ref p3, .int (nI s.2.2.2.2.1), .ref p4, .ref p5, .ref mt], aI (CxD X) 144 (opf s.1), aZ (CxD X) 12 (zf s.2.1), aZ (CxD X) 12 (zf s.2.2.1), aI (CxD X) 12 (opf s.2.2.2.1), aZ (CxD X) 12 (zf s.2.2.2.2.2.1), aI (CxD X) 12 (opf s.2.2.2.2.2.2), ob 3 [.ref g0, .ref g1, .ref g2, .ref g3, .ref g4, .ref g5, .ref g6], aJ (CxD X) 144 (plWall s q.1), aI (CxD X) 13 (opf q.2.1), aJ (CxD X) 12 q.2.2.1, aJ (CxD X) 13 q.2.2.2.1, aJ (CxD X) 13 q.2.2.2.2.1, aI (CxD X) 13 (nf q.2.2.2.2.2.1), aZ (CxD X) 13 (zf q.2.2.2.2.2.2)]) [pl, p0, p1, p2, p3, p4, p5, mt, g0, g1, g2, g3, g4, g5, g6]) : Aw X [pl, p0, p1, p2, p3, p4, p5, mt, g0, g1, g2, g3, g4, g5, g6] [ob 5 [.ref p0, .ref p1, .ref p2, .ref p3, .int (nI s.2.2.2.2.1), .ref p4, .ref p5, .ref mt], aI (CxD X) 144 (opf s.1), aZ (CxD X) 12 (zf s.2.1), aZ (CxD X) 12 (zf s.2.2.1), aI (CxD X) 12 (opf s.2.2.2.1), aZ (CxD X) 12 (zf s.2.2.2.2.2.1), aI (CxD X) 12 (opf s.2.2.2.2.2.2), ob 3 [.ref g0, .ref g1, .ref g2, .ref g3, .ref g4, .ref g5, .ref g6], aJ (CxD X) 144 q.1, aI (CxD X) 13 (opf q.2.1), aJ (CxD X) 12 q.2.2.1, aJ (CxD X) 13 q.2.2.2.1, aJ (CxD X) 13 q.2.2.2.2.1, aI (CxD X) 13 (nf q.2.2.2.2.2.1), aZ (CxD X) 13 (zf q.2.2.2.2.2.2)] 0 [(0, .ref pl)] [] := by
  refine r_iconst (n := 1) hX 0 dX5_weighPlaces_0 rfl rfl ?_
  refine r_istore_n (n := 2) hX [(0, .ref pl), (1, .int 0)] dX5_weighPlaces_1 rfl rfl (by decide) rfl ?_
  exact lp_X5_wp1 hX pl p0 p1 p2 p3 p4 p5 mt g0 g1 g2 g3 g4 g5 g6 s q hn hc hb hR s.2.2.2.2.1 0 q.1 (by omega) rfl
theorem ct_X5_weighPlaces (l : Launch) (D : va_G) (pl p0 p1 p2 p3 p4 p5 : Nat) (mt g0 g1 g2 g3 g4 g5 g6 : Nat) (s : PL) (q : MT) (hn : s.2.2.2.2.1 ≤ 12) (hc : ∀ i c, s.1 i = some c → c ≤ 10000) (hb : obd s.2.2.2.2.2.2) : Ct l D m_X5_weighPlaces 3 [.ref pl] [pl, p0, p1, p2, p3, p4, p5, mt, g0, g1, g2, g3, g4, g5, g6] [ob 5 [.ref p0, .ref p1, .ref p2, .ref p3, .int (nI s.2.2.2.2.1), .ref p4, .ref p5, .ref mt], aI D 144 (opf s.1), aZ D 12 (zf s.2.1), aZ D 12 (zf s.2.2.1), aI D 12 (opf s.2.2.2.1), aZ D 12 (zf s.2.2.2.2.2.1), aI D 12 (opf s.2.2.2.2.2.2), ob 3 [.ref g0, .ref g1, .ref g2, .ref g3, .ref g4, .ref g5, .ref g6], aJ D 144 q.1, aI D 13 (opf q.2.1), aJ D 12 q.2.2.1, aJ D 13 q.2.2.2.1, aJ D 13 q.2.2.2.2.1, aI D 13 (nf q.2.2.2.2.2.1), aZ D 13 (zf q.2.2.2.2.2.2)] (fun r es' => r = none ∧ es' = [ob 5 [.ref p0, .ref p1, .ref p2, .ref p3, .int (nI s.2.2.2.2.1), .ref p4, .ref p5, .ref mt], aI D 144 (opf s.1), aZ D 12 (zf s.2.1), aZ D 12 (zf s.2.2.1), aI D 12 (opf s.2.2.2.1), aZ D 12 (zf s.2.2.2.2.2.1), aI D 12 (opf s.2.2.2.2.2.2), ob 3 [.ref g0, .ref g1, .ref g2, .ref g3, .ref g4, .ref g5, .ref g6], aJ D 144 (plWall s q.1), aI D 13 (opf q.2.1), aJ D 12 q.2.2.1, aJ D 13 q.2.2.2.1, aJ D 13 q.2.2.2.2.1, aI D 13 (nf q.2.2.2.2.2.1), aZ D 13 (zf q.2.2.2.2.2.2)]) :=
  Ct.ofA (own := RX5) (by decide) rfl (Nat.le_of_ble_eq_true rfl) rfl (fun X hl hD hX hR => by subst hl; subst hD; exact wk_X5_weighPlaces hX pl p0 p1 p2 p3 p4 p5 mt g0 g1 g2 g3 g4 g5 g6 s q hn hc hb hR)
set_option maxHeartbeats 4000000 in
set_option maxRecDepth 100000 in
theorem lp_X5_wo2 {X : Cx} (hX : Ok X cX5_weighOrder 6 RX5 2) (pl p0 p1 p2 p3 p4 p5 : Nat) (mt g0 g1 g2 g3 g4 g5 g6 : Nat) (s : PL) (q : MT) (hn : s.2.2.2.2.1 ≤ 12) (hc : ∀ i c, s.1 i = some c → c ≤ 10000) (p : Nat) (hp : p < s.2.2.2.2.1) (sc : Int64) (hR : Rt X (none) (fun r es' => r = none ∧ es' = [ob 5 [.ref p0, .ref p1, .ref p2, .ref p3, .int (nI s.2.2.2.2.1), .ref p4, .ref p5, .ref mt], aI (CxD X) 144 (opf s.1), aZ (CxD X) 12 (zf s.2.1), aZ (CxD X) 12 (zf s.2.2.1), aI (CxD X) 12 (opf s.2.2.2.1), aZ (CxD X) 12 (zf s.2.2.2.2.2.1), aI (CxD X) 12 (opf s.2.2.2.2.2.2), ob 3 [.ref g0, .ref g1, .ref g2, .ref g3, .ref g4, .ref g5, .ref g6], aJ (CxD X) 144 (plOrd s q s.2.2.2.2.1 1 q.1), aI (CxD X) 13 (opf q.2.1), aJ (CxD X) 12 q.2.2.1, aJ (CxD X) 13 q.2.2.2.1, aJ (CxD X) 13 q.2.2.2.2.1, aI (CxD X) 13 (nf q.2.2.2.2.2.1), aZ (CxD X) 13 (zf q.2.2.2.2.2.2)]) [pl, p0, p1, p2, p3, p4, p5, mt, g0, g1, g2, g3, g4, g5, g6]) : ∀ (m h : Nat) (w : Nat → Int64), h + m = s.2.2.2.2.1 → Aw X [pl, p0, p1, p2, p3, p4, p5, mt, g0, g1, g2, g3, g4, g5, g6] [ob 5 [.ref p0, .ref p1, .ref p2, .ref p3, .int (nI s.2.2.2.2.1), .ref p4, .ref p5, .ref mt], aI (CxD X) 144 (opf s.1), aZ (CxD X) 12 (zf s.2.1), aZ (CxD X) 12 (zf s.2.2.1), aI (CxD X) 12 (opf s.2.2.2.1), aZ (CxD X) 12 (zf s.2.2.2.2.2.1), aI (CxD X) 12 (opf s.2.2.2.2.2.2), ob 3 [.ref g0, .ref g1, .ref g2, .ref g3, .ref g4, .ref g5, .ref g6], aJ (CxD X) 144 (foldF (plO s q sc p) m h w), aI (CxD X) 13 (opf q.2.1), aJ (CxD X) 12 q.2.2.1, aJ (CxD X) 13 q.2.2.2.1, aJ (CxD X) 13 q.2.2.2.2.1, aI (CxD X) 13 (nf q.2.2.2.2.2.1), aZ (CxD X) 13 (zf q.2.2.2.2.2.2)] 21 [(0, .ref pl), (1, .long sc), (3, .int (nI p)), (4, .int (nI s.2.2.2.2.1))] [] → Aw X [pl, p0, p1, p2, p3, p4, p5, mt, g0, g1, g2, g3, g4, g5, g6] [ob 5 [.ref p0, .ref p1, .ref p2, .ref p3, .int (nI s.2.2.2.2.1), .ref p4, .ref p5, .ref mt], aI (CxD X) 144 (opf s.1), aZ (CxD X) 12 (zf s.2.1), aZ (CxD X) 12 (zf s.2.2.1), aI (CxD X) 12 (opf s.2.2.2.1), aZ (CxD X) 12 (zf s.2.2.2.2.2.1), aI (CxD X) 12 (opf s.2.2.2.2.2.2), ob 3 [.ref g0, .ref g1, .ref g2, .ref g3, .ref g4, .ref g5, .ref g6], aJ (CxD X) 144 w, aI (CxD X) 13 (opf q.2.1), aJ (CxD X) 12 q.2.2.1, aJ (CxD X) 13 q.2.2.2.1, aJ (CxD X) 13 q.2.2.2.2.1, aI (CxD X) 13 (nf q.2.2.2.2.2.1), aZ (CxD X) 13 (zf q.2.2.2.2.2.2)] 21 [(0, .ref pl), (1, .long sc), (3, .int (nI p)), (4, .int (nI h))] [] := by
  intro m
  induction m with
  | zero =>
    intro h w hh kk_
    obtain rfl : h = s.2.2.2.2.1 := by omega
    exact kk_
  | succ m ih =>
    intro h w hh kk_
    refine r_iload (n := 23) hX dX5_weighOrder_21 rfl 3 rfl ?_
    refine r_aload_n (n := 24) hX dX5_weighOrder_23 rfl rfl 0 rfl ?_
    refine r_get (n := 27) hX 0 rfl rfl rfl 4 (by decide) lay_X5 fl_X5_25 rfl dX5_weighOrder_24 rfl ?_
    refine r_icmp_ge_n (tgt := 101) (n := 30) hX h s.2.2.2.2.1 (by omega) (by omega) dX5_weighOrder_27 (by decide) rfl (fun c27 => absurd c27 (by omega)) (fun c27 => ?_)
    refine r_iload (n := 32) hX dX5_weighOrder_30 rfl 3 rfl ?_
    refine r_bipush (n := 34) hX 12 dX5_weighOrder_32 rfl rfl ?_
    refine r_icmp_ge_n (tgt := 101) (n := 37) hX h 12 (by omega) (by omega) dX5_weighOrder_34 (by decide) rfl (fun c34 => absurd c34 (by omega)) (fun c34 => ?_)
    refine r_aload_n (n := 38) hX dX5_weighOrder_37 rfl rfl 0 rfl ?_
    refine r_iload_n (n := 39) hX dX5_weighOrder_38 rfl rfl 2 rfl ?_
    refine r_iload (n := 41) hX dX5_weighOrder_39 rfl 3 rfl ?_
    refine r_callV (n := 44) (av := [.int (nI p), .int (nI h)]) hX (ct_X5_mayGo (CxL X) (CxD X) pl p0 p1 p2 p3 p4 p5 mt s p h hn (by omega) (by omega) hc) ml_X5_59 cv_X5_mayGo rfl (by decide) [0, 1, 2, 3, 4, 5, 6] rfl rfl (by decide) 0 rfl rfl rfl rfl rfl (Nat.le_of_ble_eq_true rfl) dX5_weighOrder_41 rfl (fun r_ es_ h_ l_ => ?_)
    obtain ⟨rfl, rfl⟩ := h_
    show Aw X [pl, p0, p1, p2, p3, p4, p5, mt, g0, g1, g2, g3, g4, g5, g6] [ob 5 [.ref p0, .ref p1, .ref p2, .ref p3, .int (nI s.2.2.2.2.1), .ref p4, .ref p5, .ref mt], aI (CxD X) 144 (opf s.1), aZ (CxD X) 12 (zf s.2.1), aZ (CxD X) 12 (zf s.2.2.1), aI (CxD X) 12 (opf s.2.2.2.1), aZ (CxD X) 12 (zf s.2.2.2.2.2.1), aI (CxD X) 12 (opf s.2.2.2.2.2.2), ob 3 [.ref g0, .ref g1, .ref g2, .ref g3, .ref g4, .ref g5, .ref g6], aJ (CxD X) 144 w, aI (CxD X) 13 (opf q.2.1), aJ (CxD X) 12 q.2.2.1, aJ (CxD X) 13 q.2.2.2.1, aJ (CxD X) 13 q.2.2.2.2.1, aI (CxD X) 13 (nf q.2.2.2.2.2.1), aZ (CxD X) 13 (zf q.2.2.2.2.2.2)] 44 [(0, .ref pl), (1, .long sc), (3, .int (nI p)), (4, .int (nI h))] [.int (b2 (plGo s p h))]
    refine r_if_eq_b (tgt := 52) (n := 47) hX dX5_weighOrder_44 (by decide) rfl (fun c44 => ?_) (fun c44 => ?_)
    · skip
      refine r_bipush (n := 54) hX 12 dX5_weighOrder_52 rfl rfl ?_
      refine r_istore (n := 56) hX [(0, .ref pl), (1, .long sc), (3, .int (nI p)), (4, .int (nI h)), (5, .int 12)] dX5_weighOrder_54 rfl (by decide) rfl ?_
      refine r_aload_n (n := 57) hX dX5_weighOrder_56 rfl rfl 0 rfl ?_
      refine r_get (n := 60) hX 0 rfl rfl rfl 7 (by decide) lay_X5 fl_X5_38 rfl dX5_weighOrder_57 rfl ?_
      refine r_get (n := 63) hX 7 rfl rfl rfl 0 (by decide) lay_X3 fl_X5_70 rfl dX5_weighOrder_60 rfl ?_
      refine r_iload_n (n := 64) hX dX5_weighOrder_63 rfl rfl 2 rfl ?_
      refine r_bipush (n := 66) hX 12 dX5_weighOrder_64 rfl rfl ?_
      refine r_imul (n := 67) hX dX5_weighOrder_66 rfl ?_
      refine Aw.topi (nI (p * 12)) (pk_mul _ _) ?_
      refine r_iload (n := 69) hX dX5_weighOrder_67 rfl 3 rfl ?_
      refine r_iadd (n := 70) hX dX5_weighOrder_69 rfl ?_
      refine Aw.topi (nI ((p * 12) + h)) (nI_add _ _) ?_
      refine r_aload_n (n := 71) hX dX5_weighOrder_70 rfl rfl 0 rfl ?_
      refine r_get (n := 74) hX 0 rfl rfl rfl 7 (by decide) lay_X5 fl_X5_38 rfl dX5_weighOrder_71 rfl ?_
      refine r_iload_n (n := 75) hX dX5_weighOrder_74 rfl rfl 2 rfl ?_
      refine r_iload (n := 77) hX dX5_weighOrder_75 rfl 3 rfl ?_
      refine r_callV (n := 80) (av := [.int (nI p), .int (nI h)]) hX (ct_X3_isTight (CxL X) (CxD X) mt g0 g1 g2 g3 g4 g5 g6 (w, q.2) p h (by omega) (by omega)) ml_X5_90 cv_X3_isTight rfl (by decide) [7, 8, 9, 10, 11, 12, 13, 14] rfl rfl (by decide) 7 rfl rfl rfl rfl rfl (Nat.le_of_ble_eq_true rfl) dX5_weighOrder_77 rfl (fun r_ es_ h_ l_ => ?_)
      obtain ⟨rfl, rfl⟩ := h_
      show Aw X [pl, p0, p1, p2, p3, p4, p5, mt, g0, g1, g2, g3, g4, g5, g6] [ob 5 [.ref p0, .ref p1, .ref p2, .ref p3, .int (nI s.2.2.2.2.1), .ref p4, .ref p5, .ref mt], aI (CxD X) 144 (opf s.1), aZ (CxD X) 12 (zf s.2.1), aZ (CxD X) 12 (zf s.2.2.1), aI (CxD X) 12 (opf s.2.2.2.1), aZ (CxD X) 12 (zf s.2.2.2.2.2.1), aI (CxD X) 12 (opf s.2.2.2.2.2.2), ob 3 [.ref g0, .ref g1, .ref g2, .ref g3, .ref g4, .ref g5, .ref g6], aJ (CxD X) 144 w, aI (CxD X) 13 (opf q.2.1), aJ (CxD X) 12 q.2.2.1, aJ (CxD X) 13 q.2.2.2.1, aJ (CxD X) 13 q.2.2.2.2.1, aI (CxD X) 13 (nf q.2.2.2.2.2.1), aZ (CxD X) 13 (zf q.2.2.2.2.2.2)] 80 [(0, .ref pl), (1, .long sc), (3, .int (nI p)), (4, .int (nI h)), (5, .int 12)] [.int (b2 (mtTight (w, q.2) p h)), .int (nI ((p * 12) + h)), .ref g0]
      refine r_if_eq_b (tgt := 91) (n := 83) hX dX5_weighOrder_80 (by decide) rfl (fun c80 => ?_) (fun c80 => ?_)
      · skip
        refine r_ldc2 (n := 94) hX dX5_weighOrder_91 rfl kl_X5_82 ?_
        refine r_lastn (n := 95) (i := ((p * 12) + h)) hX 8 rfl rfl [ob 5 [.ref p0, .ref p1, .ref p2, .ref p3, .int (nI s.2.2.2.2.1), .ref p4, .ref p5, .ref mt], aI (CxD X) 144 (opf s.1), aZ (CxD X) 12 (zf s.2.1), aZ (CxD X) 12 (zf s.2.2.1), aI (CxD X) 12 (opf s.2.2.2.1), aZ (CxD X) 12 (zf s.2.2.2.2.2.1), aI (CxD X) 12 (opf s.2.2.2.2.2.2), ob 3 [.ref g0, .ref g1, .ref g2, .ref g3, .ref g4, .ref g5, .ref g6], aJ (CxD X) 144 (vp_updL w ((p * 12) + h) 1125899906842624), aI (CxD X) 13 (opf q.2.1), aJ (CxD X) 12 q.2.2.1, aJ (CxD X) 13 q.2.2.2.1, aJ (CxD X) 13 q.2.2.2.2.1, aI (CxD X) 13 (nf q.2.2.2.2.2.1), aZ (CxD X) 13 (zf q.2.2.2.2.2.2)] (by omega) (by decide) rfl dX5_weighOrder_94 rfl ?_
        refine r_iinc (n := 98) hX (nI (h + 1)) [(0, .ref pl), (1, .long sc), (3, .int (nI p)), (4, .int (nI (h + 1))), (5, .int 12)] dX5_weighOrder_95 rfl 3 rfl (nI_add _ _) (by decide) rfl ?_
        refine r_goto (tgt := 21) hX dX5_weighOrder_98 (by decide) ?_
        refine Aw.loc (lv' := [(0, .ref pl), (1, .long sc), (3, .int (nI p)), (4, .int (nI (h + 1)))]) [0, 1, 2, 3] rfl ?_
        refine Aw.eqs (es' := [ob 5 [.ref p0, .ref p1, .ref p2, .ref p3, .int (nI s.2.2.2.2.1), .ref p4, .ref p5, .ref mt], aI (CxD X) 144 (opf s.1), aZ (CxD X) 12 (zf s.2.1), aZ (CxD X) 12 (zf s.2.2.1), aI (CxD X) 12 (opf s.2.2.2.1), aZ (CxD X) 12 (zf s.2.2.2.2.2.1), aI (CxD X) 12 (opf s.2.2.2.2.2.2), ob 3 [.ref g0, .ref g1, .ref g2, .ref g3, .ref g4, .ref g5, .ref g6], aJ (CxD X) 144 (plO s q sc p h w), aI (CxD X) 13 (opf q.2.1), aJ (CxD X) 12 q.2.2.1, aJ (CxD X) 13 q.2.2.2.1, aJ (CxD X) 13 q.2.2.2.2.1, aI (CxD X) 13 (nf q.2.2.2.2.2.1), aZ (CxD X) 13 (zf q.2.2.2.2.2.2)]) (by rw [show vp_updL w ((p * 12) + h) 1125899906842624 = plO s q sc p h w from (by unfold plO plRank; first | rw [if_pos c80, if_pos c44] | rw [if_pos c80, if_neg (by rw [c44]; decide)] | rw [if_neg (by rw [c80]; decide)])]) rfl rfl (ih (h + 1) _ (by omega) kk_)
      · skip
        refine r_iload (n := 85) hX dX5_weighOrder_83 rfl 4 rfl ?_
        refine r_i2l (n := 86) hX dX5_weighOrder_85 rfl ?_
        refine Aw.topl (lN 12) (nI_lt64 12 (by decide)) ?_
        refine r_lload_n (n := 87) hX dX5_weighOrder_86 rfl rfl 1 rfl ?_
        refine r_lmul (n := 88) hX dX5_weighOrder_87 rfl ?_
        refine r_goto (tgt := 94) hX dX5_weighOrder_88 (by decide) ?_
        refine r_lastn (n := 95) (i := ((p * 12) + h)) hX 8 rfl rfl [ob 5 [.ref p0, .ref p1, .ref p2, .ref p3, .int (nI s.2.2.2.2.1), .ref p4, .ref p5, .ref mt], aI (CxD X) 144 (opf s.1), aZ (CxD X) 12 (zf s.2.1), aZ (CxD X) 12 (zf s.2.2.1), aI (CxD X) 12 (opf s.2.2.2.1), aZ (CxD X) 12 (zf s.2.2.2.2.2.1), aI (CxD X) 12 (opf s.2.2.2.2.2.2), ob 3 [.ref g0, .ref g1, .ref g2, .ref g3, .ref g4, .ref g5, .ref g6], aJ (CxD X) 144 (vp_updL w ((p * 12) + h) ((lN 12) * sc)), aI (CxD X) 13 (opf q.2.1), aJ (CxD X) 12 q.2.2.1, aJ (CxD X) 13 q.2.2.2.1, aJ (CxD X) 13 q.2.2.2.2.1, aI (CxD X) 13 (nf q.2.2.2.2.2.1), aZ (CxD X) 13 (zf q.2.2.2.2.2.2)] (by omega) (by decide) rfl dX5_weighOrder_94 rfl ?_
        refine r_iinc (n := 98) hX (nI (h + 1)) [(0, .ref pl), (1, .long sc), (3, .int (nI p)), (4, .int (nI (h + 1))), (5, .int 12)] dX5_weighOrder_95 rfl 3 rfl (nI_add _ _) (by decide) rfl ?_
        refine r_goto (tgt := 21) hX dX5_weighOrder_98 (by decide) ?_
        refine Aw.loc (lv' := [(0, .ref pl), (1, .long sc), (3, .int (nI p)), (4, .int (nI (h + 1)))]) [0, 1, 2, 3] rfl ?_
        refine Aw.eqs (es' := [ob 5 [.ref p0, .ref p1, .ref p2, .ref p3, .int (nI s.2.2.2.2.1), .ref p4, .ref p5, .ref mt], aI (CxD X) 144 (opf s.1), aZ (CxD X) 12 (zf s.2.1), aZ (CxD X) 12 (zf s.2.2.1), aI (CxD X) 12 (opf s.2.2.2.1), aZ (CxD X) 12 (zf s.2.2.2.2.2.1), aI (CxD X) 12 (opf s.2.2.2.2.2.2), ob 3 [.ref g0, .ref g1, .ref g2, .ref g3, .ref g4, .ref g5, .ref g6], aJ (CxD X) 144 (plO s q sc p h w), aI (CxD X) 13 (opf q.2.1), aJ (CxD X) 12 q.2.2.1, aJ (CxD X) 13 q.2.2.2.1, aJ (CxD X) 13 q.2.2.2.2.1, aI (CxD X) 13 (nf q.2.2.2.2.2.1), aZ (CxD X) 13 (zf q.2.2.2.2.2.2)]) (by rw [show vp_updL w ((p * 12) + h) ((lN 12) * sc) = plO s q sc p h w from (by unfold plO plRank; first | rw [if_pos c80, if_pos c44] | rw [if_pos c80, if_neg (by rw [c44]; decide)] | rw [if_neg (by rw [c80]; decide)])]) rfl rfl (ih (h + 1) _ (by omega) kk_)
    · skip
      refine r_iload (n := 49) hX dX5_weighOrder_47 rfl 3 rfl ?_
      refine r_goto (tgt := 54) hX dX5_weighOrder_49 (by decide) ?_
      refine r_istore (n := 56) hX [(0, .ref pl), (1, .long sc), (3, .int (nI p)), (4, .int (nI h)), (5, .int (nI h))] dX5_weighOrder_54 rfl (by decide) rfl ?_
      refine r_aload_n (n := 57) hX dX5_weighOrder_56 rfl rfl 0 rfl ?_
      refine r_get (n := 60) hX 0 rfl rfl rfl 7 (by decide) lay_X5 fl_X5_38 rfl dX5_weighOrder_57 rfl ?_
      refine r_get (n := 63) hX 7 rfl rfl rfl 0 (by decide) lay_X3 fl_X5_70 rfl dX5_weighOrder_60 rfl ?_
      refine r_iload_n (n := 64) hX dX5_weighOrder_63 rfl rfl 2 rfl ?_
      refine r_bipush (n := 66) hX 12 dX5_weighOrder_64 rfl rfl ?_
      refine r_imul (n := 67) hX dX5_weighOrder_66 rfl ?_
      refine Aw.topi (nI (p * 12)) (pk_mul _ _) ?_
      refine r_iload (n := 69) hX dX5_weighOrder_67 rfl 3 rfl ?_
      refine r_iadd (n := 70) hX dX5_weighOrder_69 rfl ?_
      refine Aw.topi (nI ((p * 12) + h)) (nI_add _ _) ?_
      refine r_aload_n (n := 71) hX dX5_weighOrder_70 rfl rfl 0 rfl ?_
      refine r_get (n := 74) hX 0 rfl rfl rfl 7 (by decide) lay_X5 fl_X5_38 rfl dX5_weighOrder_71 rfl ?_
      refine r_iload_n (n := 75) hX dX5_weighOrder_74 rfl rfl 2 rfl ?_
      refine r_iload (n := 77) hX dX5_weighOrder_75 rfl 3 rfl ?_
      refine r_callV (n := 80) (av := [.int (nI p), .int (nI h)]) hX (ct_X3_isTight (CxL X) (CxD X) mt g0 g1 g2 g3 g4 g5 g6 (w, q.2) p h (by omega) (by omega)) ml_X5_90 cv_X3_isTight rfl (by decide) [7, 8, 9, 10, 11, 12, 13, 14] rfl rfl (by decide) 7 rfl rfl rfl rfl rfl (Nat.le_of_ble_eq_true rfl) dX5_weighOrder_77 rfl (fun r_ es_ h_ l_ => ?_)
      obtain ⟨rfl, rfl⟩ := h_
      show Aw X [pl, p0, p1, p2, p3, p4, p5, mt, g0, g1, g2, g3, g4, g5, g6] [ob 5 [.ref p0, .ref p1, .ref p2, .ref p3, .int (nI s.2.2.2.2.1), .ref p4, .ref p5, .ref mt], aI (CxD X) 144 (opf s.1), aZ (CxD X) 12 (zf s.2.1), aZ (CxD X) 12 (zf s.2.2.1), aI (CxD X) 12 (opf s.2.2.2.1), aZ (CxD X) 12 (zf s.2.2.2.2.2.1), aI (CxD X) 12 (opf s.2.2.2.2.2.2), ob 3 [.ref g0, .ref g1, .ref g2, .ref g3, .ref g4, .ref g5, .ref g6], aJ (CxD X) 144 w, aI (CxD X) 13 (opf q.2.1), aJ (CxD X) 12 q.2.2.1, aJ (CxD X) 13 q.2.2.2.1, aJ (CxD X) 13 q.2.2.2.2.1, aI (CxD X) 13 (nf q.2.2.2.2.2.1), aZ (CxD X) 13 (zf q.2.2.2.2.2.2)] 80 [(0, .ref pl), (1, .long sc), (3, .int (nI p)), (4, .int (nI h)), (5, .int (nI h))] [.int (b2 (mtTight (w, q.2) p h)), .int (nI ((p * 12) + h)), .ref g0]
      refine r_if_eq_b (tgt := 91) (n := 83) hX dX5_weighOrder_80 (by decide) rfl (fun c80 => ?_) (fun c80 => ?_)
      · skip
        refine r_ldc2 (n := 94) hX dX5_weighOrder_91 rfl kl_X5_82 ?_
        refine r_lastn (n := 95) (i := ((p * 12) + h)) hX 8 rfl rfl [ob 5 [.ref p0, .ref p1, .ref p2, .ref p3, .int (nI s.2.2.2.2.1), .ref p4, .ref p5, .ref mt], aI (CxD X) 144 (opf s.1), aZ (CxD X) 12 (zf s.2.1), aZ (CxD X) 12 (zf s.2.2.1), aI (CxD X) 12 (opf s.2.2.2.1), aZ (CxD X) 12 (zf s.2.2.2.2.2.1), aI (CxD X) 12 (opf s.2.2.2.2.2.2), ob 3 [.ref g0, .ref g1, .ref g2, .ref g3, .ref g4, .ref g5, .ref g6], aJ (CxD X) 144 (vp_updL w ((p * 12) + h) 1125899906842624), aI (CxD X) 13 (opf q.2.1), aJ (CxD X) 12 q.2.2.1, aJ (CxD X) 13 q.2.2.2.1, aJ (CxD X) 13 q.2.2.2.2.1, aI (CxD X) 13 (nf q.2.2.2.2.2.1), aZ (CxD X) 13 (zf q.2.2.2.2.2.2)] (by omega) (by decide) rfl dX5_weighOrder_94 rfl ?_
        refine r_iinc (n := 98) hX (nI (h + 1)) [(0, .ref pl), (1, .long sc), (3, .int (nI p)), (4, .int (nI (h + 1))), (5, .int (nI h))] dX5_weighOrder_95 rfl 3 rfl (nI_add _ _) (by decide) rfl ?_
        refine r_goto (tgt := 21) hX dX5_weighOrder_98 (by decide) ?_
        refine Aw.loc (lv' := [(0, .ref pl), (1, .long sc), (3, .int (nI p)), (4, .int (nI (h + 1)))]) [0, 1, 2, 3] rfl ?_
        refine Aw.eqs (es' := [ob 5 [.ref p0, .ref p1, .ref p2, .ref p3, .int (nI s.2.2.2.2.1), .ref p4, .ref p5, .ref mt], aI (CxD X) 144 (opf s.1), aZ (CxD X) 12 (zf s.2.1), aZ (CxD X) 12 (zf s.2.2.1), aI (CxD X) 12 (opf s.2.2.2.1), aZ (CxD X) 12 (zf s.2.2.2.2.2.1), aI (CxD X) 12 (opf s.2.2.2.2.2.2), ob 3 [.ref g0, .ref g1, .ref g2, .ref g3, .ref g4, .ref g5, .ref g6], aJ (CxD X) 144 (plO s q sc p h w), aI (CxD X) 13 (opf q.2.1), aJ (CxD X) 12 q.2.2.1, aJ (CxD X) 13 q.2.2.2.1, aJ (CxD X) 13 q.2.2.2.2.1, aI (CxD X) 13 (nf q.2.2.2.2.2.1), aZ (CxD X) 13 (zf q.2.2.2.2.2.2)]) (by rw [show vp_updL w ((p * 12) + h) 1125899906842624 = plO s q sc p h w from (by unfold plO plRank; first | rw [if_pos c80, if_pos c44] | rw [if_pos c80, if_neg (by rw [c44]; decide)] | rw [if_neg (by rw [c80]; decide)])]) rfl rfl (ih (h + 1) _ (by omega) kk_)
      · skip
        refine r_iload (n := 85) hX dX5_weighOrder_83 rfl 4 rfl ?_
        refine r_i2l (n := 86) hX dX5_weighOrder_85 rfl ?_
        refine Aw.topl (lN h) (nI_lt64 h (by omega)) ?_
        refine r_lload_n (n := 87) hX dX5_weighOrder_86 rfl rfl 1 rfl ?_
        refine r_lmul (n := 88) hX dX5_weighOrder_87 rfl ?_
        refine r_goto (tgt := 94) hX dX5_weighOrder_88 (by decide) ?_
        refine r_lastn (n := 95) (i := ((p * 12) + h)) hX 8 rfl rfl [ob 5 [.ref p0, .ref p1, .ref p2, .ref p3, .int (nI s.2.2.2.2.1), .ref p4, .ref p5, .ref mt], aI (CxD X) 144 (opf s.1), aZ (CxD X) 12 (zf s.2.1), aZ (CxD X) 12 (zf s.2.2.1), aI (CxD X) 12 (opf s.2.2.2.1), aZ (CxD X) 12 (zf s.2.2.2.2.2.1), aI (CxD X) 12 (opf s.2.2.2.2.2.2), ob 3 [.ref g0, .ref g1, .ref g2, .ref g3, .ref g4, .ref g5, .ref g6], aJ (CxD X) 144 (vp_updL w ((p * 12) + h) ((lN h) * sc)), aI (CxD X) 13 (opf q.2.1), aJ (CxD X) 12 q.2.2.1, aJ (CxD X) 13 q.2.2.2.1, aJ (CxD X) 13 q.2.2.2.2.1, aI (CxD X) 13 (nf q.2.2.2.2.2.1), aZ (CxD X) 13 (zf q.2.2.2.2.2.2)] (by omega) (by decide) rfl dX5_weighOrder_94 rfl ?_
        refine r_iinc (n := 98) hX (nI (h + 1)) [(0, .ref pl), (1, .long sc), (3, .int (nI p)), (4, .int (nI (h + 1))), (5, .int (nI h))] dX5_weighOrder_95 rfl 3 rfl (nI_add _ _) (by decide) rfl ?_
        refine r_goto (tgt := 21) hX dX5_weighOrder_98 (by decide) ?_
        refine Aw.loc (lv' := [(0, .ref pl), (1, .long sc), (3, .int (nI p)), (4, .int (nI (h + 1)))]) [0, 1, 2, 3] rfl ?_
        refine Aw.eqs (es' := [ob 5 [.ref p0, .ref p1, .ref p2, .ref p3, .int (nI s.2.2.2.2.1), .ref p4, .ref p5, .ref mt], aI (CxD X) 144 (opf s.1), aZ (CxD X) 12 (zf s.2.1), aZ (CxD X) 12 (zf s.2.2.1), aI (CxD X) 12 (opf s.2.2.2.1), aZ (CxD X) 12 (zf s.2.2.2.2.2.1), aI (CxD X) 12 (opf s.2.2.2.2.2.2), ob 3 [.ref g0, .ref g1, .ref g2, .ref g3, .ref g4, .ref g5, .ref g6], aJ (CxD X) 144 (plO s q sc p h w), aI (CxD X) 13 (opf q.2.1), aJ (CxD X) 12 q.2.2.1, aJ (CxD X) 13 q.2.2.2.1, aJ (CxD X) 13 q.2.2.2.2.1, aI (CxD X) 13 (nf q.2.2.2.2.2.1), aZ (CxD X) 13 (zf q.2.2.2.2.2.2)]) (by rw [show vp_updL w ((p * 12) + h) ((lN h) * sc) = plO s q sc p h w from (by unfold plO plRank; first | rw [if_pos c80, if_pos c44] | rw [if_pos c80, if_neg (by rw [c44]; decide)] | rw [if_neg (by rw [c80]; decide)])]) rfl rfl (ih (h + 1) _ (by omega) kk_)
set_option maxHeartbeats 4000000 in
set_option maxRecDepth 100000 in
theorem lp_X5_wo1 {X : Cx} (hX : Ok X cX5_weighOrder 6 RX5 2) (pl p0 p1 p2 p3 p4 p5 : Nat) (mt g0 g1 g2 g3 g4 g5 g6 : Nat) (s : PL) (q : MT) (hn : s.2.2.2.2.1 ≤ 12) (hc : ∀ i c, s.1 i = some c → c ≤ 10000) (hR : Rt X (none) (fun r es' => r = none ∧ es' = [ob 5 [.ref p0, .ref p1, .ref p2, .ref p3, .int (nI s.2.2.2.2.1), .ref p4, .ref p5, .ref mt], aI (CxD X) 144 (opf s.1), aZ (CxD X) 12 (zf s.2.1), aZ (CxD X) 12 (zf s.2.2.1), aI (CxD X) 12 (opf s.2.2.2.1), aZ (CxD X) 12 (zf s.2.2.2.2.2.1), aI (CxD X) 12 (opf s.2.2.2.2.2.2), ob 3 [.ref g0, .ref g1, .ref g2, .ref g3, .ref g4, .ref g5, .ref g6], aJ (CxD X) 144 (plOrd s q s.2.2.2.2.1 1 q.1), aI (CxD X) 13 (opf q.2.1), aJ (CxD X) 12 q.2.2.1, aJ (CxD X) 13 q.2.2.2.1, aJ (CxD X) 13 q.2.2.2.2.1, aI (CxD X) 13 (nf q.2.2.2.2.2.1), aZ (CxD X) 13 (zf q.2.2.2.2.2.2)]) [pl, p0, p1, p2, p3, p4, p5, mt, g0, g1, g2, g3, g4, g5, g6]) : ∀ (k : Nat) (sc : Int64) (w : Nat → Int64), k ≤ s.2.2.2.2.1 → plOrd s q k sc w = plOrd s q s.2.2.2.2.1 1 q.1 → Aw X [pl, p0, p1, p2, p3, p4, p5, mt, g0, g1, g2, g3, g4, g5, g6] [ob 5 [.ref p0, .ref p1, .ref p2, .ref p3, .int (nI s.2.2.2.2.1), .ref p4, .ref p5, .ref mt], aI (CxD X) 144 (opf s.1), aZ (CxD X) 12 (zf s.2.1), aZ (CxD X) 12 (zf s.2.2.1), aI (CxD X) 12 (opf s.2.2.2.1), aZ (CxD X) 12 (zf s.2.2.2.2.2.1), aI (CxD X) 12 (opf s.2.2.2.2.2.2), ob 3 [.ref g0, .ref g1, .ref g2, .ref g3, .ref g4, .ref g5, .ref g6], aJ (CxD X) 144 w, aI (CxD X) 13 (opf q.2.1), aJ (CxD X) 12 q.2.2.1, aJ (CxD X) 13 q.2.2.2.1, aJ (CxD X) 13 q.2.2.2.2.1, aI (CxD X) 13 (nf q.2.2.2.2.2.1), aZ (CxD X) 13 (zf q.2.2.2.2.2.2)] 14 [(0, .ref pl), (1, .long sc), (3, .int (nI k - 1))] [] := by
  intro k
  induction k with
  | zero =>
    intro sc w hk he
    refine r_iload_n (n := 15) hX dX5_weighOrder_14 rfl rfl 2 rfl ?_
    refine r_if_lt (tgt := 113) (n := 18) hX dX5_weighOrder_15 (by decide) rfl (fun c15 => ?_) (fun c15 => absurd c15 (by decide))
    exact r_return hX hR dX5_weighOrder_113 (by have he : w = plOrd s q s.2.2.2.2.1 1 q.1 := he; rw [← he]; exact ⟨rfl, rfl⟩)
  | succ k ih =>
    intro sc w hk he
    refine Aw.eqs (lv' := [(0, .ref pl), (1, .long sc), (3, .int (nI k))]) rfl (by rw [nI_pred]) rfl ?_
    refine r_iload_n (n := 15) hX dX5_weighOrder_14 rfl rfl 2 rfl ?_
    refine r_iflt_n (n := 18) (tgt := 113) hX (by omega) dX5_weighOrder_15 rfl (by decide) ?_
    refine r_iconst (n := 19) hX 0 dX5_weighOrder_18 rfl rfl ?_
    refine r_istore (n := 21) hX [(0, .ref pl), (1, .long sc), (3, .int (nI k)), (4, .int 0)] dX5_weighOrder_19 rfl (by decide) rfl ?_
    refine lp_X5_wo2 hX pl p0 p1 p2 p3 p4 p5 mt g0 g1 g2 g3 g4 g5 g6 s q hn hc k (by omega) sc hR s.2.2.2.2.1 0 w (by omega) ?_
    show Aw X [pl, p0, p1, p2, p3, p4, p5, mt, g0, g1, g2, g3, g4, g5, g6] [ob 5 [.ref p0, .ref p1, .ref p2, .ref p3, .int (nI s.2.2.2.2.1), .ref p4, .ref p5, .ref mt], aI (CxD X) 144 (opf s.1), aZ (CxD X) 12 (zf s.2.1), aZ (CxD X) 12 (zf s.2.2.1), aI (CxD X) 12 (opf s.2.2.2.1), aZ (CxD X) 12 (zf s.2.2.2.2.2.1), aI (CxD X) 12 (opf s.2.2.2.2.2.2), ob 3 [.ref g0, .ref g1, .ref g2, .ref g3, .ref g4, .ref g5, .ref g6], aJ (CxD X) 144 (foldF (plO s q sc k) s.2.2.2.2.1 0 w), aI (CxD X) 13 (opf q.2.1), aJ (CxD X) 12 q.2.2.1, aJ (CxD X) 13 q.2.2.2.1, aJ (CxD X) 13 q.2.2.2.2.1, aI (CxD X) 13 (nf q.2.2.2.2.2.1), aZ (CxD X) 13 (zf q.2.2.2.2.2.2)] 21 [(0, .ref pl), (1, .long sc), (3, .int (nI k)), (4, .int (nI s.2.2.2.2.1))] []
    refine r_iload (n := 23) hX dX5_weighOrder_21 rfl 3 rfl ?_
    refine r_aload_n (n := 24) hX dX5_weighOrder_23 rfl rfl 0 rfl ?_
    refine r_get (n := 27) hX 0 rfl rfl rfl 4 (by decide) lay_X5 fl_X5_25 rfl dX5_weighOrder_24 rfl ?_
    refine r_icmp_ge_n (tgt := 101) (n := 30) hX s.2.2.2.2.1 s.2.2.2.2.1 (by omega) (by omega) dX5_weighOrder_27 (by decide) rfl (fun c27 => ?_) (fun c27 => absurd c27 (by omega))
    refine r_lload_n (n := 102) hX dX5_weighOrder_101 rfl rfl 1 rfl ?_
    refine r_ldc2 (n := 105) hX dX5_weighOrder_102 rfl kl_X5_93 ?_
    refine r_lmul (n := 106) hX dX5_weighOrder_105 rfl ?_
    refine r_lstore_n (n := 107) hX [(0, .ref pl), (1, .long (sc * 13)), (3, .int (nI k)), (4, .int (nI s.2.2.2.2.1))] dX5_weighOrder_106 rfl rfl (by decide) rfl ?_
    refine r_iinc (n := 110) hX (nI k - 1) [(0, .ref pl), (1, .long (sc * 13)), (3, .int (nI k - 1)), (4, .int (nI s.2.2.2.2.1))] dX5_weighOrder_107 rfl 2 rfl (inc_m1 _) (by decide) rfl ?_
    refine r_goto (tgt := 14) hX dX5_weighOrder_110 (by decide) ?_
    refine Aw.loc (lv' := [(0, .ref pl), (1, .long (sc * 13)), (3, .int (nI k - 1))]) [0, 1, 2] rfl ?_
    exact ih (sc * 13) _ (by omega) he
set_option maxHeartbeats 4000000 in
set_option maxRecDepth 100000 in
theorem wk_X5_weighOrder {X : Cx} (hX : Ok X cX5_weighOrder 6 RX5 2) (pl p0 p1 p2 p3 p4 p5 : Nat) (mt g0 g1 g2 g3 g4 g5 g6 : Nat) (s : PL) (q : MT) (hn : s.2.2.2.2.1 ≤ 12) (hc : ∀ i c, s.1 i = some c → c ≤ 10000) (hR : Rt X (none) (fun r es' => r = none ∧ es' = [ob 5 [.ref p0, .ref p1, .ref p2, .ref p3, .int (nI s.2.2.2.2.1), .ref p4, .ref p5, .ref mt], aI (CxD X) 144 (opf s.1), aZ (CxD X) 12 (zf s.2.1), aZ (CxD X) 12 (zf s.2.2.1), aI (CxD X) 12 (opf s.2.2.2.1), aZ (CxD X) 12 (zf s.2.2.2.2.2.1), aI (CxD X) 12 (opf s.2.2.2.2.2.2), ob 3 [.ref g0, .ref g1, .ref g2, .ref g3, .ref g4, .ref g5, .ref g6], aJ (CxD X) 144 (plOrd s q s.2.2.2.2.1 1 q.1), aI (CxD X) 13 (opf q.2.1), aJ (CxD X) 12 q.2.2.1, aJ (CxD X) 13 q.2.2.2.1, aJ (CxD X) 13 q.2.2.2.2.1, aI (CxD X) 13 (nf q.2.2.2.2.2.1), aZ (CxD X) 13 (zf q.2.2.2.2.2.2)]) [pl, p0, p1, p2, p3, p4, p5, mt, g0, g1, g2, g3, g4, g5, g6]) : Aw X [pl, p0, p1, p2, p3, p4, p5, mt, g0, g1, g2, g3, g4, g5, g6] [ob 5 [.ref p0, .ref p1, .ref p2, .ref p3, .int (nI s.2.2.2.2.1), .ref p4, .ref p5, .ref mt], aI (CxD X) 144 (opf s.1), aZ (CxD X) 12 (zf s.2.1), aZ (CxD X) 12 (zf s.2.2.1), aI (CxD X) 12 (opf s.2.2.2.1), aZ (CxD X) 12 (zf s.2.2.2.2.2.1), aI (CxD X) 12 (opf s.2.2.2.2.2.2), ob 3 [.ref g0, .ref g1, .ref g2, .ref g3, .ref g4, .ref g5, .ref g6], aJ (CxD X) 144 q.1, aI (CxD X) 13 (opf q.2.1), aJ (CxD X) 12 q.2.2.1, aJ (CxD X) 13 q.2.2.2.1, aJ (CxD X) 13 q.2.2.2.2.1, aI (CxD X) 13 (nf q.2.2.2.2.2.1), aZ (CxD X) 13 (zf q.2.2.2.2.2.2)] 0 [(0, .ref pl)] [] := by
  refine r_lconst (n := 1) hX 1 dX5_weighOrder_0 rfl rfl ?_
  refine r_lstore_n (n := 2) hX [(0, .ref pl), (1, .long 1)] dX5_weighOrder_1 rfl rfl (by decide) rfl ?_
  refine r_aload_n (n := 3) hX dX5_weighOrder_2 rfl rfl 0 rfl ?_
  refine r_get (n := 6) hX 0 rfl rfl rfl 4 (by decide) lay_X5 fl_X5_25 rfl dX5_weighOrder_3 rfl ?_
  refine r_bipush (n := 8) hX 12 dX5_weighOrder_6 rfl rfl ?_
  refine r_mmin (n := 11) hX mt_X5_84 (by decide) (Nat.le_of_ble_eq_true rfl) dX5_weighOrder_8 rfl ?_
  refine Aw.topi (nI s.2.2.2.2.1) (mmin12 hn) ?_
  refine r_iconst (n := 12) hX 1 dX5_weighOrder_11 rfl rfl ?_
  refine r_isub (n := 13) hX dX5_weighOrder_12 rfl ?_
  refine r_istore_n (n := 14) hX [(0, .ref pl), (1, .long 1), (3, .int ((nI s.2.2.2.2.1) - 1))] dX5_weighOrder_13 rfl rfl (by decide) rfl ?_
  exact lp_X5_wo1 hX pl p0 p1 p2 p3 p4 p5 mt g0 g1 g2 g3 g4 g5 g6 s q hn hc hR s.2.2.2.2.1 1 q.1 (Nat.le_refl _) rfl
theorem ct_X5_weighOrder (l : Launch) (D : va_G) (pl p0 p1 p2 p3 p4 p5 : Nat) (mt g0 g1 g2 g3 g4 g5 g6 : Nat) (s : PL) (q : MT) (hn : s.2.2.2.2.1 ≤ 12) (hc : ∀ i c, s.1 i = some c → c ≤ 10000) : Ct l D m_X5_weighOrder 2 [.ref pl] [pl, p0, p1, p2, p3, p4, p5, mt, g0, g1, g2, g3, g4, g5, g6] [ob 5 [.ref p0, .ref p1, .ref p2, .ref p3, .int (nI s.2.2.2.2.1), .ref p4, .ref p5, .ref mt], aI D 144 (opf s.1), aZ D 12 (zf s.2.1), aZ D 12 (zf s.2.2.1), aI D 12 (opf s.2.2.2.1), aZ D 12 (zf s.2.2.2.2.2.1), aI D 12 (opf s.2.2.2.2.2.2), ob 3 [.ref g0, .ref g1, .ref g2, .ref g3, .ref g4, .ref g5, .ref g6], aJ D 144 q.1, aI D 13 (opf q.2.1), aJ D 12 q.2.2.1, aJ D 13 q.2.2.2.1, aJ D 13 q.2.2.2.2.1, aI D 13 (nf q.2.2.2.2.2.1), aZ D 13 (zf q.2.2.2.2.2.2)] (fun r es' => r = none ∧ es' = [ob 5 [.ref p0, .ref p1, .ref p2, .ref p3, .int (nI s.2.2.2.2.1), .ref p4, .ref p5, .ref mt], aI D 144 (opf s.1), aZ D 12 (zf s.2.1), aZ D 12 (zf s.2.2.1), aI D 12 (opf s.2.2.2.1), aZ D 12 (zf s.2.2.2.2.2.1), aI D 12 (opf s.2.2.2.2.2.2), ob 3 [.ref g0, .ref g1, .ref g2, .ref g3, .ref g4, .ref g5, .ref g6], aJ D 144 (plOrd s q s.2.2.2.2.1 1 q.1), aI D 13 (opf q.2.1), aJ D 12 q.2.2.1, aJ D 13 q.2.2.2.1, aJ D 13 q.2.2.2.2.1, aI D 13 (nf q.2.2.2.2.2.1), aZ D 13 (zf q.2.2.2.2.2.2)]) :=
  Ct.ofA (own := RX5) (by decide) rfl (Nat.le_of_ble_eq_true rfl) rfl (fun X hl hD hX hR => by subst hl; subst hD; exact wk_X5_weighOrder hX pl p0 p1 p2 p3 p4 p5 mt g0 g1 g2 g3 g4 g5 g6 s q hn hc hR)
set_option maxHeartbeats 4000000 in
set_option maxRecDepth 100000 in
theorem lp_X5_cost {X : Cx} (hX : Ok X cX5_costTogether 4 RX5 0) (pl p0 p1 p2 p3 p4 p5 mt : Nat) (s : PL) (hc : ∀ i c, s.1 i = some c → c ≤ 10000) (hh : ∀ p h, s.2.2.2.1 p = some h → h < 12 ∧ s.1 (p * 12 + h) ≠ none) (hR : Rt X (some FieldType.int) (fun r es' => r = some (.int (nI (plSum s 12))) ∧ es' = [ob 5 [.ref p0, .ref p1, .ref p2, .ref p3, .int (nI s.2.2.2.2.1), .ref p4, .ref p5, .ref mt], aI (CxD X) 144 (opf s.1), aZ (CxD X) 12 (zf s.2.1), aZ (CxD X) 12 (zf s.2.2.1), aI (CxD X) 12 (opf s.2.2.2.1), aZ (CxD X) 12 (zf s.2.2.2.2.2.1), aI (CxD X) 12 (opf s.2.2.2.2.2.2)]) [pl, p0, p1, p2, p3, p4, p5]) : ∀ (m j : Nat), j + m = 12 → Aw X [pl, p0, p1, p2, p3, p4, p5] [ob 5 [.ref p0, .ref p1, .ref p2, .ref p3, .int (nI s.2.2.2.2.1), .ref p4, .ref p5, .ref mt], aI (CxD X) 144 (opf s.1), aZ (CxD X) 12 (zf s.2.1), aZ (CxD X) 12 (zf s.2.2.1), aI (CxD X) 12 (opf s.2.2.2.1), aZ (CxD X) 12 (zf s.2.2.2.2.2.1), aI (CxD X) 12 (opf s.2.2.2.2.2.2)] 4 [(0, .ref pl), (1, .int (nI (plSum s j))), (2, .int (nI j))] [] := by
  intro m
  induction m with
  | zero =>
    intro j hj
    refine r_iload_n (n := 5) hX dX5_costTogether_4 rfl rfl 2 rfl ?_
    refine r_bipush (n := 7) hX 12 dX5_costTogether_5 rfl rfl ?_
    refine r_icmp_ge_n (tgt := 66) (n := 10) hX j 12 (by omega) (by omega) dX5_costTogether_7 (by decide) rfl (fun c7 => ?_) (fun c7 => absurd c7 (by omega))
    refine r_iload_n (n := 67) hX dX5_costTogether_66 rfl rfl 1 rfl ?_
    exact r_ireturn hX hR dX5_costTogether_67 ⟨by rw [show j = 12 by omega], rfl⟩
  | succ m ih =>
    intro j hj
    cases hq : s.2.2.2.1 j with
    | none =>
      refine r_iload_n (n := 5) hX dX5_costTogether_4 rfl rfl 2 rfl ?_
      refine r_bipush (n := 7) hX 12 dX5_costTogether_5 rfl rfl ?_
      refine r_icmp_ge_n (tgt := 66) (n := 10) hX j 12 (by omega) (by omega) dX5_costTogether_7 (by decide) rfl (fun c7 => absurd c7 (by omega)) (fun c7 => ?_)
      refine r_iload_n (n := 11) hX dX5_costTogether_10 rfl rfl 2 rfl ?_
      refine r_bipush (n := 13) hX 12 dX5_costTogether_11 rfl rfl ?_
      refine r_imul (n := 14) hX dX5_costTogether_13 rfl ?_
      refine Aw.topi (nI (j * 12)) (pk_mul _ _) ?_
      refine r_aload_n (n := 15) hX dX5_costTogether_14 rfl rfl 0 rfl ?_
      refine r_get (n := 18) hX 0 rfl rfl rfl 3 (by decide) lay_X5 fl_X5_22 rfl dX5_costTogether_15 rfl ?_
      refine r_iload_n (n := 19) hX dX5_costTogether_18 rfl rfl 2 rfl ?_
      refine r_ialdOn (n := 20) (i := j) hX 4 rfl rfl (by omega) (by decide) dX5_costTogether_19 rfl ?_
      refine r_iadd (n := 21) hX dX5_costTogether_20 rfl ?_
      refine r_istore_n (n := 22) hX [(0, .ref pl), (1, .int (nI (plSum s j))), (2, .int (nI j)), (3, .int ((nI (j * 12)) + (eo (s.2.2.2.1 j))))] dX5_costTogether_21 rfl rfl (by decide) rfl ?_
      refine r_aload_n (n := 23) hX dX5_costTogether_22 rfl rfl 0 rfl ?_
      refine r_get (n := 26) hX 0 rfl rfl rfl 3 (by decide) lay_X5 fl_X5_22 rfl dX5_costTogether_23 rfl ?_
      refine r_iload_n (n := 27) hX dX5_costTogether_26 rfl rfl 2 rfl ?_
      refine r_ialdOn (n := 28) (i := j) hX 4 rfl rfl (by omega) (by decide) dX5_costTogether_27 rfl ?_
      refine r_if_lt_o (tgt := 60) (n := 31) (x := s.2.2.2.1 j) hX (fun r e => Nat.lt_trans (hh _ r e).1 (by decide)) dX5_costTogether_28 (by decide) rfl (fun c28 => ?_) (fun c28 => absurd c28 (by rw [hq]; simp))
      refine r_iinc (n := 63) hX (nI (j + 1)) [(0, .ref pl), (1, .int (nI (plSum s j))), (2, .int (nI (j + 1))), (3, .int ((nI (j * 12)) + (eo (s.2.2.2.1 j))))] dX5_costTogether_60 rfl 2 rfl (nI_add _ _) (by decide) rfl ?_
      refine r_goto (tgt := 4) hX dX5_costTogether_63 (by decide) ?_
      refine Aw.loc (lv' := [(0, .ref pl), (1, .int (nI (plSum s j))), (2, .int (nI (j + 1)))]) [0, 1, 2] rfl ?_
      refine Aw.eqs (lv' := [(0, .ref pl), (1, .int (nI (plSum s (j + 1)))), (2, .int (nI (j + 1)))]) rfl (by simp only [plSum, hq, Nat.add_zero]) rfl (ih (j + 1) (by omega))
    | some h =>
      have hx := hh j h hq
      obtain ⟨c, hcc⟩ := Option.ne_none_iff_exists'.mp hx.2
      have hx1 := hx.1
      refine r_iload_n (n := 5) hX dX5_costTogether_4 rfl rfl 2 rfl ?_
      refine r_bipush (n := 7) hX 12 dX5_costTogether_5 rfl rfl ?_
      refine r_icmp_ge_n (tgt := 66) (n := 10) hX j 12 (by omega) (by omega) dX5_costTogether_7 (by decide) rfl (fun c7 => absurd c7 (by omega)) (fun c7 => ?_)
      refine r_iload_n (n := 11) hX dX5_costTogether_10 rfl rfl 2 rfl ?_
      refine r_bipush (n := 13) hX 12 dX5_costTogether_11 rfl rfl ?_
      refine r_imul (n := 14) hX dX5_costTogether_13 rfl ?_
      refine Aw.topi (nI (j * 12)) (pk_mul _ _) ?_
      refine r_aload_n (n := 15) hX dX5_costTogether_14 rfl rfl 0 rfl ?_
      refine r_get (n := 18) hX 0 rfl rfl rfl 3 (by decide) lay_X5 fl_X5_22 rfl dX5_costTogether_15 rfl ?_
      refine r_iload_n (n := 19) hX dX5_costTogether_18 rfl rfl 2 rfl ?_
      refine r_ialdOn (n := 20) (i := j) hX 4 rfl rfl (by omega) (by decide) dX5_costTogether_19 rfl ?_
      refine Aw.topi (nI h) (by rw [hq]; rfl) ?_
      refine r_iadd (n := 21) hX dX5_costTogether_20 rfl ?_
      refine Aw.topi (nI ((j * 12) + h)) (nI_add _ _) ?_
      refine r_istore_n (n := 22) hX [(0, .ref pl), (1, .int (nI (plSum s j))), (2, .int (nI j)), (3, .int (nI ((j * 12) + h)))] dX5_costTogether_21 rfl rfl (by decide) rfl ?_
      refine r_aload_n (n := 23) hX dX5_costTogether_22 rfl rfl 0 rfl ?_
      refine r_get (n := 26) hX 0 rfl rfl rfl 3 (by decide) lay_X5 fl_X5_22 rfl dX5_costTogether_23 rfl ?_
      refine r_iload_n (n := 27) hX dX5_costTogether_26 rfl rfl 2 rfl ?_
      refine r_ialdOn (n := 28) (i := j) hX 4 rfl rfl (by omega) (by decide) dX5_costTogether_27 rfl ?_
      refine Aw.topi (nI h) (by rw [hq]; rfl) ?_
      refine r_iflt_n (n := 31) (tgt := 60) hX (by omega) dX5_costTogether_28 rfl (by decide) ?_
      refine r_aload_n (n := 32) hX dX5_costTogether_31 rfl rfl 0 rfl ?_
      refine r_get (n := 35) hX 0 rfl rfl rfl 3 (by decide) lay_X5 fl_X5_22 rfl dX5_costTogether_32 rfl ?_
      refine r_iload_n (n := 36) hX dX5_costTogether_35 rfl rfl 2 rfl ?_
      refine r_ialdOn (n := 37) (i := j) hX 4 rfl rfl (by omega) (by decide) dX5_costTogether_36 rfl ?_
      refine Aw.topi (nI h) (by rw [hq]; rfl) ?_
      refine r_bipush (n := 39) hX 12 dX5_costTogether_37 rfl rfl ?_
      refine r_icmp_ge_n (tgt := 60) (n := 42) hX h 12 (by omega) (by omega) dX5_costTogether_39 (by decide) rfl (fun c39 => absurd c39 (by omega)) (fun c39 => ?_)
      refine r_iload_n (n := 43) hX dX5_costTogether_42 rfl rfl 3 rfl ?_
      refine r_aload_n (n := 44) hX dX5_costTogether_43 rfl rfl 0 rfl ?_
      refine r_get (n := 47) hX 0 rfl rfl rfl 0 (by decide) lay_X5 fl_X5_9 rfl dX5_costTogether_44 rfl ?_
      refine r_alen (n := 48) hX 1 rfl rfl 0 rfl 144 rfl dX5_costTogether_47 rfl ?_
      refine r_icmp_ge_n (tgt := 60) (n := 51) hX ((j * 12) + h) 144 (by omega) (by omega) dX5_costTogether_48 (by decide) rfl (fun c48 => absurd c48 (by omega)) (fun c48 => ?_)
      refine r_iload_n (n := 52) hX dX5_costTogether_51 rfl rfl 1 rfl ?_
      refine r_aload_n (n := 53) hX dX5_costTogether_52 rfl rfl 0 rfl ?_
      refine r_get (n := 56) hX 0 rfl rfl rfl 0 (by decide) lay_X5 fl_X5_9 rfl dX5_costTogether_53 rfl ?_
      refine r_iload_n (n := 57) hX dX5_costTogether_56 rfl rfl 3 rfl ?_
      refine r_ialdOn (n := 58) (i := ((j * 12) + h)) hX 1 rfl rfl (by omega) (by decide) dX5_costTogether_57 rfl ?_
      refine Aw.topi (nI c) (by rw [hcc]; rfl) ?_
      refine r_iadd (n := 59) hX dX5_costTogether_58 rfl ?_
      refine Aw.topi (nI ((plSum s j) + c)) (nI_add _ _) ?_
      refine r_istore_n (n := 60) hX [(0, .ref pl), (1, .int (nI ((plSum s j) + c))), (2, .int (nI j)), (3, .int (nI ((j * 12) + h)))] dX5_costTogether_59 rfl rfl (by decide) rfl ?_
      refine r_iinc (n := 63) hX (nI (j + 1)) [(0, .ref pl), (1, .int (nI ((plSum s j) + c))), (2, .int (nI (j + 1))), (3, .int (nI ((j * 12) + h)))] dX5_costTogether_60 rfl 2 rfl (nI_add _ _) (by decide) rfl ?_
      refine r_goto (tgt := 4) hX dX5_costTogether_63 (by decide) ?_
      refine Aw.loc (lv' := [(0, .ref pl), (1, .int (nI ((plSum s j) + c))), (2, .int (nI (j + 1)))]) [0, 1, 2] rfl ?_
      refine Aw.eqs (lv' := [(0, .ref pl), (1, .int (nI (plSum s (j + 1)))), (2, .int (nI (j + 1)))]) rfl (by simp only [plSum, hq, hcc, Option.getD_some]) rfl (ih (j + 1) (by omega))
set_option maxHeartbeats 4000000 in
set_option maxRecDepth 100000 in
theorem wk_X5_costTogether {X : Cx} (hX : Ok X cX5_costTogether 4 RX5 0) (pl p0 p1 p2 p3 p4 p5 mt : Nat) (s : PL) (hc : ∀ i c, s.1 i = some c → c ≤ 10000) (hh : ∀ p h, s.2.2.2.1 p = some h → h < 12 ∧ s.1 (p * 12 + h) ≠ none) (hR : Rt X (some FieldType.int) (fun r es' => r = some (.int (nI (plSum s 12))) ∧ es' = [ob 5 [.ref p0, .ref p1, .ref p2, .ref p3, .int (nI s.2.2.2.2.1), .ref p4, .ref p5, .ref mt], aI (CxD X) 144 (opf s.1), aZ (CxD X) 12 (zf s.2.1), aZ (CxD X) 12 (zf s.2.2.1), aI (CxD X) 12 (opf s.2.2.2.1), aZ (CxD X) 12 (zf s.2.2.2.2.2.1), aI (CxD X) 12 (opf s.2.2.2.2.2.2)]) [pl, p0, p1, p2, p3, p4, p5]) : Aw X [pl, p0, p1, p2, p3, p4, p5] [ob 5 [.ref p0, .ref p1, .ref p2, .ref p3, .int (nI s.2.2.2.2.1), .ref p4, .ref p5, .ref mt], aI (CxD X) 144 (opf s.1), aZ (CxD X) 12 (zf s.2.1), aZ (CxD X) 12 (zf s.2.2.1), aI (CxD X) 12 (opf s.2.2.2.1), aZ (CxD X) 12 (zf s.2.2.2.2.2.1), aI (CxD X) 12 (opf s.2.2.2.2.2.2)] 0 [(0, .ref pl)] [] := by
  refine r_iconst (n := 1) hX 0 dX5_costTogether_0 rfl rfl ?_
  refine r_istore_n (n := 2) hX [(0, .ref pl), (1, .int 0)] dX5_costTogether_1 rfl rfl (by decide) rfl ?_
  refine r_iconst (n := 3) hX 0 dX5_costTogether_2 rfl rfl ?_
  refine r_istore_n (n := 4) hX [(0, .ref pl), (1, .int 0), (2, .int 0)] dX5_costTogether_3 rfl rfl (by decide) rfl ?_
  exact lp_X5_cost hX pl p0 p1 p2 p3 p4 p5 mt s hc hh hR 12 0 (by omega)
theorem ct_X5_costTogether (l : Launch) (D : va_G) (pl p0 p1 p2 p3 p4 p5 mt : Nat) (s : PL) (hc : ∀ i c, s.1 i = some c → c ≤ 10000) (hh : ∀ p h, s.2.2.2.1 p = some h → h < 12 ∧ s.1 (p * 12 + h) ≠ none) : Ct l D m_X5_costTogether 0 [.ref pl] [pl, p0, p1, p2, p3, p4, p5] [ob 5 [.ref p0, .ref p1, .ref p2, .ref p3, .int (nI s.2.2.2.2.1), .ref p4, .ref p5, .ref mt], aI D 144 (opf s.1), aZ D 12 (zf s.2.1), aZ D 12 (zf s.2.2.1), aI D 12 (opf s.2.2.2.1), aZ D 12 (zf s.2.2.2.2.2.1), aI D 12 (opf s.2.2.2.2.2.2)] (fun r es' => r = some (.int (nI (plSum s 12))) ∧ es' = [ob 5 [.ref p0, .ref p1, .ref p2, .ref p3, .int (nI s.2.2.2.2.1), .ref p4, .ref p5, .ref mt], aI D 144 (opf s.1), aZ D 12 (zf s.2.1), aZ D 12 (zf s.2.2.1), aI D 12 (opf s.2.2.2.1), aZ D 12 (zf s.2.2.2.2.2.1), aI D 12 (opf s.2.2.2.2.2.2)]) :=
  Ct.ofA (own := RX5) (by decide) rfl (Nat.le_of_ble_eq_true rfl) rfl (fun X hl hD hX hR => by subst hl; subst hD; exact wk_X5_costTogether hX pl p0 p1 p2 p3 p4 p5 mt s hc hh hR)
theorem gIn_lt (u : Nat → Option Nat) (x : Nat) : ∀ (m j r : Nat), gIn u x m j = some r → r < j + m
  | 0, j, r, h => by simp [gIn] at h
  | m + 1, j, r, h => by
    unfold gIn at h
    split at h
    · cases h; omega
    · have := gIn_lt u x m (j + 1) r h; omega
set_option maxHeartbeats 4000000 in
set_option maxRecDepth 100000 in
theorem lp_X5_allows {X : Cx} (hX : Ok X cX5_allows 5 RX5 1) (pl p0 p1 p2 p3 p4 p5 mt : Nat) (ho : Nat) (s : PL) (u : Nat → Option Nat) (hn : s.2.2.2.2.1 ≤ 12) (hc : ∀ i c, s.1 i = some c → c ≤ 10000) (hu : obd u) (hR : Rt X (some FieldType.boolean) (fun r es' => r = some (.int (b2 (plAllow s u s.2.2.2.2.1 0))) ∧ es' = [ob 5 [.ref p0, .ref p1, .ref p2, .ref p3, .int (nI s.2.2.2.2.1), .ref p4, .ref p5, .ref mt], aI (CxD X) 144 (opf s.1), aZ (CxD X) 12 (zf s.2.1), aZ (CxD X) 12 (zf s.2.2.1), aI (CxD X) 12 (opf s.2.2.2.1), aZ (CxD X) 12 (zf s.2.2.2.2.2.1), aI (CxD X) 12 (opf s.2.2.2.2.2.2), aI (CxD X) 12 (opf u)]) [pl, p0, p1, p2, p3, p4, p5, ho]) : ∀ (m f : Nat), f + m = s.2.2.2.2.1 → plAllow s u m f = plAllow s u s.2.2.2.2.1 0 → Aw X [pl, p0, p1, p2, p3, p4, p5, ho] [ob 5 [.ref p0, .ref p1, .ref p2, .ref p3, .int (nI s.2.2.2.2.1), .ref p4, .ref p5, .ref mt], aI (CxD X) 144 (opf s.1), aZ (CxD X) 12 (zf s.2.1), aZ (CxD X) 12 (zf s.2.2.1), aI (CxD X) 12 (opf s.2.2.2.1), aZ (CxD X) 12 (zf s.2.2.2.2.2.1), aI (CxD X) 12 (opf s.2.2.2.2.2.2), aI (CxD X) 12 (opf u)] 2 [(0, .ref pl), (1, .ref ho), (2, .int (nI f))] [] := by
  intro m
  induction m with
  | zero =>
    intro f hf he
    refine r_iload_n (n := 3) hX dX5_allows_2 rfl rfl 2 rfl ?_
    refine r_aload_n (n := 4) hX dX5_allows_3 rfl rfl 0 rfl ?_
    refine r_get (n := 7) hX 0 rfl rfl rfl 4 (by decide) lay_X5 fl_X5_25 rfl dX5_allows_4 rfl ?_
    refine r_icmp_ge_n (tgt := 112) (n := 10) hX f s.2.2.2.2.1 (by omega) (by omega) dX5_allows_7 (by decide) rfl (fun c7 => ?_) (fun c7 => absurd c7 (by omega))
    refine r_iconst (n := 113) hX 1 dX5_allows_112 rfl rfl ?_
    exact r_zreturn hX hR rfl dX5_allows_113 ⟨by rw [← he]; rfl, rfl⟩
  | succ m ih =>
    intro f hf he
    cases hq : u f with
    | none =>
      refine r_iload_n (n := 3) hX dX5_allows_2 rfl rfl 2 rfl ?_
      refine r_aload_n (n := 4) hX dX5_allows_3 rfl rfl 0 rfl ?_
      refine r_get (n := 7) hX 0 rfl rfl rfl 4 (by decide) lay_X5 fl_X5_25 rfl dX5_allows_4 rfl ?_
      refine r_icmp_ge_n (tgt := 112) (n := 10) hX f s.2.2.2.2.1 (by omega) (by omega) dX5_allows_7 (by decide) rfl (fun c7 => absurd c7 (by omega)) (fun c7 => ?_)
      refine r_iload_n (n := 11) hX dX5_allows_10 rfl rfl 2 rfl ?_
      refine r_bipush (n := 13) hX 12 dX5_allows_11 rfl rfl ?_
      refine r_icmp_ge_n (tgt := 112) (n := 16) hX f 12 (by omega) (by omega) dX5_allows_13 (by decide) rfl (fun c13 => absurd c13 (by omega)) (fun c13 => ?_)
      refine r_iload_n (n := 17) hX dX5_allows_16 rfl rfl 2 rfl ?_
      refine r_aload_n (n := 18) hX dX5_allows_17 rfl rfl 1 rfl ?_
      refine r_alen (n := 19) hX 7 rfl rfl 0 rfl 12 rfl dX5_allows_18 rfl ?_
      refine r_icmp_ge_n (tgt := 112) (n := 22) hX f 12 (by omega) (by omega) dX5_allows_19 (by decide) rfl (fun c19 => absurd c19 (by omega)) (fun c19 => ?_)
      refine r_aload_n (n := 23) hX dX5_allows_22 rfl rfl 1 rfl ?_
      refine r_iload_n (n := 24) hX dX5_allows_23 rfl rfl 2 rfl ?_
      refine r_ialdOn (n := 25) (i := f) hX 7 rfl rfl (by omega) (by decide) dX5_allows_24 rfl ?_
      refine r_iconst (n := 26) hX (-1) dX5_allows_25 rfl rfl ?_
      refine r_icmp_eq_o (tgt := 33) (n := 29) (x := u f) hX hu.b dX5_allows_26 (by decide) rfl (fun c26 => ?_) (fun c26 => absurd c26 (by rw [hq]; simp))
      refine r_iconst (n := 34) hX 0 dX5_allows_33 rfl rfl ?_
      refine r_istore_n (n := 35) hX [(0, .ref pl), (1, .ref ho), (2, .int (nI f)), (3, .int 0)] dX5_allows_34 rfl rfl (by decide) rfl ?_
      refine r_aload_n (n := 36) hX dX5_allows_35 rfl rfl 1 rfl ?_
      refine r_iload_n (n := 37) hX dX5_allows_36 rfl rfl 2 rfl ?_
      refine r_callSN (n := 40) (av := [.ref ho, .int (nI f)]) hX (ct_X10_guestIn (CxL X) (CxD X) ho u f hu (by omega)) nw_X5_63 cs_X10_guestIn rfl (by decide) [7] rfl rfl (by decide) rfl (Nat.le_of_ble_eq_true rfl) dX5_allows_37 rfl (fun r_ es_ h_ l_ => ?_)
      obtain ⟨rfl, rfl⟩ := h_
      show Aw X [pl, p0, p1, p2, p3, p4, p5, ho] [ob 5 [.ref p0, .ref p1, .ref p2, .ref p3, .int (nI s.2.2.2.2.1), .ref p4, .ref p5, .ref mt], aI (CxD X) 144 (opf s.1), aZ (CxD X) 12 (zf s.2.1), aZ (CxD X) 12 (zf s.2.2.1), aI (CxD X) 12 (opf s.2.2.2.1), aZ (CxD X) 12 (zf s.2.2.2.2.2.1), aI (CxD X) 12 (opf s.2.2.2.2.2.2), aI (CxD X) 12 (opf u)] 40 [(0, .ref pl), (1, .ref ho), (2, .int (nI f)), (3, .int 0)] [.int (eo (gIn u f 12 0))]
      refine r_iconst (n := 41) hX (-1) dX5_allows_40 rfl rfl ?_
      refine r_icmp_eq_o (tgt := 48) (n := 44) (x := gIn u f 12 0) hX (fun r e => Nat.lt_trans (gIn_lt u f 12 0 r e) (by decide)) dX5_allows_41 (by decide) rfl (fun c41 => ?_) (fun c41 => ?_)
      · skip
        refine r_iconst (n := 49) hX 0 dX5_allows_48 rfl rfl ?_
        refine r_istore (n := 51) hX [(0, .ref pl), (1, .ref ho), (2, .int (nI f)), (3, .int 0), (4, .int 0)] dX5_allows_49 rfl (by decide) rfl ?_
        refine r_iload_n (n := 52) hX dX5_allows_51 rfl rfl 3 rfl ?_
        refine r_if_eq (tgt := 68) (n := 55) hX dX5_allows_52 (by decide) rfl (fun _ => ?_) (fun h => False.elim (by revert h; decide))
        refine r_iload_n (n := 69) hX dX5_allows_68 rfl rfl 3 rfl ?_
        refine r_if_eq (tgt := 86) (n := 72) hX dX5_allows_69 (by decide) rfl (fun _ => ?_) (fun h => False.elim (by revert h; decide))
        refine r_iload (n := 88) hX dX5_allows_86 rfl 4 rfl ?_
        refine r_if_eq (tgt := 106) (n := 91) hX dX5_allows_88 (by decide) rfl (fun _ => ?_) (fun h => False.elim (by revert h; decide))
        refine r_iinc (n := 109) hX (nI (f + 1)) [(0, .ref pl), (1, .ref ho), (2, .int (nI (f + 1))), (3, .int 0), (4, .int 0)] dX5_allows_106 rfl 2 rfl (nI_add _ _) (by decide) rfl ?_
        refine r_goto (tgt := 2) hX dX5_allows_109 (by decide) ?_
        refine Aw.loc (lv' := [(0, .ref pl), (1, .ref ho), (2, .int (nI (f + 1)))]) [0, 1, 2] rfl ?_
        refine ih (f + 1) (by omega) ?_
        rw [← he]
        simp [plAllow, *]
      · skip
        refine r_iconst (n := 45) hX 1 dX5_allows_44 rfl rfl ?_
        refine r_goto (tgt := 49) hX dX5_allows_45 (by decide) ?_
        refine r_istore (n := 51) hX [(0, .ref pl), (1, .ref ho), (2, .int (nI f)), (3, .int 0), (4, .int 1)] dX5_allows_49 rfl (by decide) rfl ?_
        refine r_iload_n (n := 52) hX dX5_allows_51 rfl rfl 3 rfl ?_
        refine r_if_eq (tgt := 68) (n := 55) hX dX5_allows_52 (by decide) rfl (fun _ => ?_) (fun h => False.elim (by revert h; decide))
        refine r_iload_n (n := 69) hX dX5_allows_68 rfl rfl 3 rfl ?_
        refine r_if_eq (tgt := 86) (n := 72) hX dX5_allows_69 (by decide) rfl (fun _ => ?_) (fun h => False.elim (by revert h; decide))
        refine r_iload (n := 88) hX dX5_allows_86 rfl 4 rfl ?_
        refine r_if_eq (tgt := 106) (n := 91) hX dX5_allows_88 (by decide) rfl (fun h => False.elim (by revert h; decide)) (fun _ => ?_)
        refine r_iload_n (n := 92) hX dX5_allows_91 rfl rfl 3 rfl ?_
        refine r_if_ne (tgt := 106) (n := 95) hX dX5_allows_92 (by decide) rfl (fun h => False.elim (by revert h; decide)) (fun _ => ?_)
        refine r_aload_n (n := 96) hX dX5_allows_95 rfl rfl 0 rfl ?_
        refine r_get (n := 99) hX 0 rfl rfl rfl 2 (by decide) lay_X5 fl_X5_19 rfl dX5_allows_96 rfl ?_
        refine r_iload_n (n := 100) hX dX5_allows_99 rfl rfl 2 rfl ?_
        refine r_zaldbn (n := 101) (i := f) hX 3 rfl rfl (by omega) (by decide) dX5_allows_100 rfl ?_
        refine r_if_ne_b (tgt := 106) (n := 104) hX dX5_allows_101 (by decide) rfl (fun c101 => ?_) (fun c101 => ?_)
        · skip
          refine r_iinc (n := 109) hX (nI (f + 1)) [(0, .ref pl), (1, .ref ho), (2, .int (nI (f + 1))), (3, .int 0), (4, .int 1)] dX5_allows_106 rfl 2 rfl (nI_add _ _) (by decide) rfl ?_
          refine r_goto (tgt := 2) hX dX5_allows_109 (by decide) ?_
          refine Aw.loc (lv' := [(0, .ref pl), (1, .ref ho), (2, .int (nI (f + 1)))]) [0, 1, 2] rfl ?_
          refine ih (f + 1) (by omega) ?_
          rw [← he]
          simp [plAllow, *]
        · skip
          refine r_iconst (n := 105) hX 0 dX5_allows_104 rfl rfl ?_
          exact r_zreturn hX hR rfl dX5_allows_105 (by rw [← he]; exact ⟨by simp [plAllow, b2, *], rfl⟩)
    | some h =>
      have hub := hu f h hq
      refine r_iload_n (n := 3) hX dX5_allows_2 rfl rfl 2 rfl ?_
      refine r_aload_n (n := 4) hX dX5_allows_3 rfl rfl 0 rfl ?_
      refine r_get (n := 7) hX 0 rfl rfl rfl 4 (by decide) lay_X5 fl_X5_25 rfl dX5_allows_4 rfl ?_
      refine r_icmp_ge_n (tgt := 112) (n := 10) hX f s.2.2.2.2.1 (by omega) (by omega) dX5_allows_7 (by decide) rfl (fun c7 => absurd c7 (by omega)) (fun c7 => ?_)
      refine r_iload_n (n := 11) hX dX5_allows_10 rfl rfl 2 rfl ?_
      refine r_bipush (n := 13) hX 12 dX5_allows_11 rfl rfl ?_
      refine r_icmp_ge_n (tgt := 112) (n := 16) hX f 12 (by omega) (by omega) dX5_allows_13 (by decide) rfl (fun c13 => absurd c13 (by omega)) (fun c13 => ?_)
      refine r_iload_n (n := 17) hX dX5_allows_16 rfl rfl 2 rfl ?_
      refine r_aload_n (n := 18) hX dX5_allows_17 rfl rfl 1 rfl ?_
      refine r_alen (n := 19) hX 7 rfl rfl 0 rfl 12 rfl dX5_allows_18 rfl ?_
      refine r_icmp_ge_n (tgt := 112) (n := 22) hX f 12 (by omega) (by omega) dX5_allows_19 (by decide) rfl (fun c19 => absurd c19 (by omega)) (fun c19 => ?_)
      refine r_aload_n (n := 23) hX dX5_allows_22 rfl rfl 1 rfl ?_
      refine r_iload_n (n := 24) hX dX5_allows_23 rfl rfl 2 rfl ?_
      refine r_ialdOn (n := 25) (i := f) hX 7 rfl rfl (by omega) (by decide) dX5_allows_24 rfl ?_
      refine r_iconst (n := 26) hX (-1) dX5_allows_25 rfl rfl ?_
      refine r_icmp_eq_o (tgt := 33) (n := 29) (x := u f) hX hu.b dX5_allows_26 (by decide) rfl (fun c26 => absurd c26 (by rw [hq]; simp)) (fun c26 => ?_)
      refine r_iconst (n := 30) hX 1 dX5_allows_29 rfl rfl ?_
      refine r_goto (tgt := 34) hX dX5_allows_30 (by decide) ?_
      refine r_istore_n (n := 35) hX [(0, .ref pl), (1, .ref ho), (2, .int (nI f)), (3, .int 1)] dX5_allows_34 rfl rfl (by decide) rfl ?_
      refine r_aload_n (n := 36) hX dX5_allows_35 rfl rfl 1 rfl ?_
      refine r_iload_n (n := 37) hX dX5_allows_36 rfl rfl 2 rfl ?_
      refine r_callSN (n := 40) (av := [.ref ho, .int (nI f)]) hX (ct_X10_guestIn (CxL X) (CxD X) ho u f hu (by omega)) nw_X5_63 cs_X10_guestIn rfl (by decide) [7] rfl rfl (by decide) rfl (Nat.le_of_ble_eq_true rfl) dX5_allows_37 rfl (fun r_ es_ h_ l_ => ?_)
      obtain ⟨rfl, rfl⟩ := h_
      show Aw X [pl, p0, p1, p2, p3, p4, p5, ho] [ob 5 [.ref p0, .ref p1, .ref p2, .ref p3, .int (nI s.2.2.2.2.1), .ref p4, .ref p5, .ref mt], aI (CxD X) 144 (opf s.1), aZ (CxD X) 12 (zf s.2.1), aZ (CxD X) 12 (zf s.2.2.1), aI (CxD X) 12 (opf s.2.2.2.1), aZ (CxD X) 12 (zf s.2.2.2.2.2.1), aI (CxD X) 12 (opf s.2.2.2.2.2.2), aI (CxD X) 12 (opf u)] 40 [(0, .ref pl), (1, .ref ho), (2, .int (nI f)), (3, .int 1)] [.int (eo (gIn u f 12 0))]
      refine r_iconst (n := 41) hX (-1) dX5_allows_40 rfl rfl ?_
      refine r_icmp_eq_o (tgt := 48) (n := 44) (x := gIn u f 12 0) hX (fun r e => Nat.lt_trans (gIn_lt u f 12 0 r e) (by decide)) dX5_allows_41 (by decide) rfl (fun c41 => ?_) (fun c41 => ?_)
      · skip
        refine r_iconst (n := 49) hX 0 dX5_allows_48 rfl rfl ?_
        refine r_istore (n := 51) hX [(0, .ref pl), (1, .ref ho), (2, .int (nI f)), (3, .int 1), (4, .int 0)] dX5_allows_49 rfl (by decide) rfl ?_
        refine r_iload_n (n := 52) hX dX5_allows_51 rfl rfl 3 rfl ?_
        refine r_if_eq (tgt := 68) (n := 55) hX dX5_allows_52 (by decide) rfl (fun h => False.elim (by revert h; decide)) (fun _ => ?_)
        refine r_aload_n (n := 56) hX dX5_allows_55 rfl rfl 0 rfl ?_
        refine r_iload_n (n := 57) hX dX5_allows_56 rfl rfl 2 rfl ?_
        refine r_aload_n (n := 58) hX dX5_allows_57 rfl rfl 1 rfl ?_
        refine r_iload_n (n := 59) hX dX5_allows_58 rfl rfl 2 rfl ?_
        refine r_ialdOn (n := 60) (i := f) hX 7 rfl rfl (by omega) (by decide) dX5_allows_59 rfl ?_
        refine Aw.topi (nI h) (by rw [hq]; rfl) ?_
        refine r_callV (n := 63) (av := [.int (nI f), .int (nI h)]) hX (ct_X5_mayBe (CxL X) (CxD X) pl p0 p1 p2 p3 p4 p5 mt s f h hn (by omega) (by omega) hc) ml_X5_67 cv_X5_mayBe rfl (by decide) [0, 1, 2, 3, 4, 5, 6] rfl rfl (by decide) 0 rfl rfl rfl rfl rfl (Nat.le_of_ble_eq_true rfl) dX5_allows_60 rfl (fun r_ es_ h_ l_ => ?_)
        obtain ⟨rfl, rfl⟩ := h_
        show Aw X [pl, p0, p1, p2, p3, p4, p5, ho] [ob 5 [.ref p0, .ref p1, .ref p2, .ref p3, .int (nI s.2.2.2.2.1), .ref p4, .ref p5, .ref mt], aI (CxD X) 144 (opf s.1), aZ (CxD X) 12 (zf s.2.1), aZ (CxD X) 12 (zf s.2.2.1), aI (CxD X) 12 (opf s.2.2.2.1), aZ (CxD X) 12 (zf s.2.2.2.2.2.1), aI (CxD X) 12 (opf s.2.2.2.2.2.2), aI (CxD X) 12 (opf u)] 63 [(0, .ref pl), (1, .ref ho), (2, .int (nI f)), (3, .int 1), (4, .int 0)] [.int (b2 (plBe s f h))]
        refine r_if_ne_b (tgt := 68) (n := 66) hX dX5_allows_63 (by decide) rfl (fun c63 => ?_) (fun c63 => ?_)
        · skip
          refine r_iload_n (n := 69) hX dX5_allows_68 rfl rfl 3 rfl ?_
          refine r_if_eq (tgt := 86) (n := 72) hX dX5_allows_69 (by decide) rfl (fun h => False.elim (by revert h; decide)) (fun _ => ?_)
          refine r_iload (n := 74) hX dX5_allows_72 rfl 4 rfl ?_
          refine r_if_ne (tgt := 86) (n := 77) hX dX5_allows_74 (by decide) rfl (fun h => False.elim (by revert h; decide)) (fun _ => ?_)
          refine r_aload_n (n := 78) hX dX5_allows_77 rfl rfl 0 rfl ?_
          refine r_get (n := 81) hX 0 rfl rfl rfl 1 (by decide) lay_X5 fl_X5_15 rfl dX5_allows_78 rfl ?_
          refine r_iload_n (n := 82) hX dX5_allows_81 rfl rfl 2 rfl ?_
          refine r_zaldbn (n := 83) (i := f) hX 2 rfl rfl (by omega) (by decide) dX5_allows_82 rfl ?_
          refine r_if_eq_b (tgt := 104) (n := 86) hX dX5_allows_83 (by decide) rfl (fun c83 => ?_) (fun c83 => ?_)
          · skip
            refine r_iconst (n := 105) hX 0 dX5_allows_104 rfl rfl ?_
            exact r_zreturn hX hR rfl dX5_allows_105 (by rw [← he]; exact ⟨by simp [plAllow, b2, *], rfl⟩)
          · skip
            refine r_iload (n := 88) hX dX5_allows_86 rfl 4 rfl ?_
            refine r_if_eq (tgt := 106) (n := 91) hX dX5_allows_88 (by decide) rfl (fun _ => ?_) (fun h => False.elim (by revert h; decide))
            refine r_iinc (n := 109) hX (nI (f + 1)) [(0, .ref pl), (1, .ref ho), (2, .int (nI (f + 1))), (3, .int 1), (4, .int 0)] dX5_allows_106 rfl 2 rfl (nI_add _ _) (by decide) rfl ?_
            refine r_goto (tgt := 2) hX dX5_allows_109 (by decide) ?_
            refine Aw.loc (lv' := [(0, .ref pl), (1, .ref ho), (2, .int (nI (f + 1)))]) [0, 1, 2] rfl ?_
            refine ih (f + 1) (by omega) ?_
            rw [← he]
            simp [plAllow, *]
        · skip
          refine r_iconst (n := 67) hX 0 dX5_allows_66 rfl rfl ?_
          exact r_zreturn hX hR rfl dX5_allows_67 (by rw [← he]; exact ⟨by simp [plAllow, b2, *], rfl⟩)
      · skip
        refine r_iconst (n := 45) hX 1 dX5_allows_44 rfl rfl ?_
        refine r_goto (tgt := 49) hX dX5_allows_45 (by decide) ?_
        refine r_istore (n := 51) hX [(0, .ref pl), (1, .ref ho), (2, .int (nI f)), (3, .int 1), (4, .int 1)] dX5_allows_49 rfl (by decide) rfl ?_
        refine r_iload_n (n := 52) hX dX5_allows_51 rfl rfl 3 rfl ?_
        refine r_if_eq (tgt := 68) (n := 55) hX dX5_allows_52 (by decide) rfl (fun h => False.elim (by revert h; decide)) (fun _ => ?_)
        refine r_aload_n (n := 56) hX dX5_allows_55 rfl rfl 0 rfl ?_
        refine r_iload_n (n := 57) hX dX5_allows_56 rfl rfl 2 rfl ?_
        refine r_aload_n (n := 58) hX dX5_allows_57 rfl rfl 1 rfl ?_
        refine r_iload_n (n := 59) hX dX5_allows_58 rfl rfl 2 rfl ?_
        refine r_ialdOn (n := 60) (i := f) hX 7 rfl rfl (by omega) (by decide) dX5_allows_59 rfl ?_
        refine Aw.topi (nI h) (by rw [hq]; rfl) ?_
        refine r_callV (n := 63) (av := [.int (nI f), .int (nI h)]) hX (ct_X5_mayBe (CxL X) (CxD X) pl p0 p1 p2 p3 p4 p5 mt s f h hn (by omega) (by omega) hc) ml_X5_67 cv_X5_mayBe rfl (by decide) [0, 1, 2, 3, 4, 5, 6] rfl rfl (by decide) 0 rfl rfl rfl rfl rfl (Nat.le_of_ble_eq_true rfl) dX5_allows_60 rfl (fun r_ es_ h_ l_ => ?_)
        obtain ⟨rfl, rfl⟩ := h_
        show Aw X [pl, p0, p1, p2, p3, p4, p5, ho] [ob 5 [.ref p0, .ref p1, .ref p2, .ref p3, .int (nI s.2.2.2.2.1), .ref p4, .ref p5, .ref mt], aI (CxD X) 144 (opf s.1), aZ (CxD X) 12 (zf s.2.1), aZ (CxD X) 12 (zf s.2.2.1), aI (CxD X) 12 (opf s.2.2.2.1), aZ (CxD X) 12 (zf s.2.2.2.2.2.1), aI (CxD X) 12 (opf s.2.2.2.2.2.2), aI (CxD X) 12 (opf u)] 63 [(0, .ref pl), (1, .ref ho), (2, .int (nI f)), (3, .int 1), (4, .int 1)] [.int (b2 (plBe s f h))]
        refine r_if_ne_b (tgt := 68) (n := 66) hX dX5_allows_63 (by decide) rfl (fun c63 => ?_) (fun c63 => ?_)
        · skip
          refine r_iload_n (n := 69) hX dX5_allows_68 rfl rfl 3 rfl ?_
          refine r_if_eq (tgt := 86) (n := 72) hX dX5_allows_69 (by decide) rfl (fun h => False.elim (by revert h; decide)) (fun _ => ?_)
          refine r_iload (n := 74) hX dX5_allows_72 rfl 4 rfl ?_
          refine r_if_ne (tgt := 86) (n := 77) hX dX5_allows_74 (by decide) rfl (fun _ => ?_) (fun h => False.elim (by revert h; decide))
          refine r_iload (n := 88) hX dX5_allows_86 rfl 4 rfl ?_
          refine r_if_eq (tgt := 106) (n := 91) hX dX5_allows_88 (by decide) rfl (fun h => False.elim (by revert h; decide)) (fun _ => ?_)
          refine r_iload_n (n := 92) hX dX5_allows_91 rfl rfl 3 rfl ?_
          refine r_if_ne (tgt := 106) (n := 95) hX dX5_allows_92 (by decide) rfl (fun _ => ?_) (fun h => False.elim (by revert h; decide))
          refine r_iinc (n := 109) hX (nI (f + 1)) [(0, .ref pl), (1, .ref ho), (2, .int (nI (f + 1))), (3, .int 1), (4, .int 1)] dX5_allows_106 rfl 2 rfl (nI_add _ _) (by decide) rfl ?_
          refine r_goto (tgt := 2) hX dX5_allows_109 (by decide) ?_
          refine Aw.loc (lv' := [(0, .ref pl), (1, .ref ho), (2, .int (nI (f + 1)))]) [0, 1, 2] rfl ?_
          refine ih (f + 1) (by omega) ?_
          rw [← he]
          simp [plAllow, *]
        · skip
          refine r_iconst (n := 67) hX 0 dX5_allows_66 rfl rfl ?_
          exact r_zreturn hX hR rfl dX5_allows_67 (by rw [← he]; exact ⟨by simp [plAllow, b2, *], rfl⟩)
set_option maxHeartbeats 4000000 in
set_option maxRecDepth 100000 in
theorem wk_X5_allows {X : Cx} (hX : Ok X cX5_allows 5 RX5 1) (pl p0 p1 p2 p3 p4 p5 mt : Nat) (ho : Nat) (s : PL) (u : Nat → Option Nat) (hn : s.2.2.2.2.1 ≤ 12) (hc : ∀ i c, s.1 i = some c → c ≤ 10000) (hu : obd u) (hR : Rt X (some FieldType.boolean) (fun r es' => r = some (.int (b2 (plAllow s u s.2.2.2.2.1 0))) ∧ es' = [ob 5 [.ref p0, .ref p1, .ref p2, .ref p3, .int (nI s.2.2.2.2.1), .ref p4, .ref p5, .ref mt], aI (CxD X) 144 (opf s.1), aZ (CxD X) 12 (zf s.2.1), aZ (CxD X) 12 (zf s.2.2.1), aI (CxD X) 12 (opf s.2.2.2.1), aZ (CxD X) 12 (zf s.2.2.2.2.2.1), aI (CxD X) 12 (opf s.2.2.2.2.2.2), aI (CxD X) 12 (opf u)]) [pl, p0, p1, p2, p3, p4, p5, ho]) : Aw X [pl, p0, p1, p2, p3, p4, p5, ho] [ob 5 [.ref p0, .ref p1, .ref p2, .ref p3, .int (nI s.2.2.2.2.1), .ref p4, .ref p5, .ref mt], aI (CxD X) 144 (opf s.1), aZ (CxD X) 12 (zf s.2.1), aZ (CxD X) 12 (zf s.2.2.1), aI (CxD X) 12 (opf s.2.2.2.1), aZ (CxD X) 12 (zf s.2.2.2.2.2.1), aI (CxD X) 12 (opf s.2.2.2.2.2.2), aI (CxD X) 12 (opf u)] 0 [(0, .ref pl), (1, .ref ho)] [] := by
  refine r_iconst (n := 1) hX 0 dX5_allows_0 rfl rfl ?_
  refine r_istore_n (n := 2) hX [(0, .ref pl), (1, .ref ho), (2, .int 0)] dX5_allows_1 rfl rfl (by decide) rfl ?_
  exact lp_X5_allows hX pl p0 p1 p2 p3 p4 p5 mt ho s u hn hc hu hR s.2.2.2.2.1 0 (by omega) rfl
theorem ct_X5_allows (l : Launch) (D : va_G) (pl p0 p1 p2 p3 p4 p5 mt : Nat) (ho : Nat) (s : PL) (u : Nat → Option Nat) (hn : s.2.2.2.2.1 ≤ 12) (hc : ∀ i c, s.1 i = some c → c ≤ 10000) (hu : obd u) : Ct l D m_X5_allows 1 [.ref pl, .ref ho] [pl, p0, p1, p2, p3, p4, p5, ho] [ob 5 [.ref p0, .ref p1, .ref p2, .ref p3, .int (nI s.2.2.2.2.1), .ref p4, .ref p5, .ref mt], aI D 144 (opf s.1), aZ D 12 (zf s.2.1), aZ D 12 (zf s.2.2.1), aI D 12 (opf s.2.2.2.1), aZ D 12 (zf s.2.2.2.2.2.1), aI D 12 (opf s.2.2.2.2.2.2), aI D 12 (opf u)] (fun r es' => r = some (.int (b2 (plAllow s u s.2.2.2.2.1 0))) ∧ es' = [ob 5 [.ref p0, .ref p1, .ref p2, .ref p3, .int (nI s.2.2.2.2.1), .ref p4, .ref p5, .ref mt], aI D 144 (opf s.1), aZ D 12 (zf s.2.1), aZ D 12 (zf s.2.2.1), aI D 12 (opf s.2.2.2.1), aZ D 12 (zf s.2.2.2.2.2.1), aI D 12 (opf s.2.2.2.2.2.2), aI D 12 (opf u)]) :=
  Ct.ofA (own := RX5) (by decide) rfl (Nat.le_of_ble_eq_true rfl) rfl (fun X hl hD hX hR => by subst hl; subst hD; exact wk_X5_allows hX pl p0 p1 p2 p3 p4 p5 mt ho s u hn hc hu hR)

/-! what stays in a matching over its calls -/
def mtIn (q : MT) : Prop := (∀ j r, q.2.1 j = some r → r < 12) ∧ (∀ j, q.2.2.2.2.2.1 j ≤ 12) ∧ (∀ j, 13 ≤ j → q.2.1 j = none)
theorem mtGo_ro {n : Nat} (hn : n ≤ 12) : ∀ (m : Nat) (z : MT × Nat), mtOk n z.1 → z.2 ≤ n → (mtGo n m z).1.2.1 = z.1.2.1
  | 0, z, h1, h2 => rfl
  | m + 1, z, h1, h2 => by
    cases hr : z.1.2.1 z.2 with
    | none => unfold mtGo; rw [hr]
    | some r =>
      have k := mtNext_ok h2 hn hr h1
      rw [mtGo_some hr, mtGo_ro hn m _ k.1 k.2.1]
      exact k.2.2
theorem mtMv_ho {cf : Nat → Nat} {n : Nat} (hcf : ∀ j, cf j ≤ 12) : ∀ (m : Nat) (z : (Nat → Option Nat) × Nat), z.2 ≤ 12 → (∀ j, 13 ≤ j → z.1 j = none) → ∀ j, 13 ≤ j → (mtMv cf n m z).1 j = none
  | 0, z, _, h => h
  | m + 1, z, hz, h => by
    unfold mtMv
    split
    · exact h
    · refine mtMv_ho hcf m _ (hcf _) (fun j hj => ?_)
      dsimp only
      rw [va_up_ne _ _ (by omega)]
      exact h j hj
theorem mtPlace_in {s : MT} {i n : Nat} (hi : i < 12) (hn : n ≤ 12) (h : mtIn s) : mtIn (mtPlace s i n) := by
  have h0 : mtOk0 s := ⟨h.1, h.2.1⟩
  have k := mtGo_ok hn (n + 1) (mtInit s i n, n) (mtInit_ok hi hn h0) (Nat.le_refl n)
  have kr := mtGo_ro hn (n + 1) (mtInit s i n, n) (mtInit_ok hi hn h0) (Nat.le_refl n)
  have p := mtPlace_ok hi hn h0
  refine ⟨p.1, p.2, ?_⟩
  refine mtMv_ho k.1.1.2 (n + 1) _ (by have := k.2; dsimp only; omega) (fun j hj => ?_)
  show (mtGo n (n + 1) (mtInit s i n, n)).1.2.1 j = none
  rw [kr]
  show va_up s.2.1 n (some i) j = none
  rw [va_up_ne _ _ (by omega)]
  exact h.2.2 j hj
theorem mtFold_in {n : Nat} (hn : n ≤ 12) : ∀ (m i : Nat) (q : MT), i + m ≤ 12 → mtIn q → mtIn (foldF (fun i q => mtPlace q i n) m i q)
  | 0, _, _, _, h => h
  | m + 1, i, q, hi, h => mtFold_in hn m (i + 1) _ (by omega) (mtPlace_in (by omega) hn h)
theorem mtReset_in {s : MT} (h : mtIn s) : mtIn (mtReset s) := by
  have k := mtReset_ok h.2.1 h.2.2
  refine ⟨k.1, k.2, fun j hj => ?_⟩
  show cpyO s.2.1 (fun _ => none) 13 j = none
  unfold cpyO
  rw [if_neg (by omega)]
  exact h.2.2 j hj
theorem mtSolve_in {s : MT} {n : Nat} (hn : n ≤ 12) (h : mtIn s) : mtIn (mtSolve s n) := mtFold_in hn n 0 _ (by omega) (mtReset_in h)
def plQ1 (s : PL) (q : MT) : MT := mtSolve (plWall s q.1, q.2) s.2.2.2.2.1
def plQ2 (s : PL) (q : MT) : MT := mtSolve (plOrd s (plQ1 s q) s.2.2.2.2.1 1 (plQ1 s q).1, (plQ1 s q).2) s.2.2.2.2.1
def plDecide (s : PL) (q : MT) : PL := (s.1, s.2.1, s.2.2.1, plHome s (plQ2 s q).2.1, s.2.2.2.2)
theorem plQ1_in {s : PL} {q : MT} (hn : s.2.2.2.2.1 ≤ 12) (h : mtIn q) : mtIn (plQ1 s q) := mtSolve_in hn h
theorem plQ2_in {s : PL} {q : MT} (hn : s.2.2.2.2.1 ≤ 12) (h : mtIn q) : mtIn (plQ2 s q) := mtSolve_in hn (show mtIn (_, (plQ1 s q).2) from plQ1_in hn h)

set_option maxHeartbeats 4000000 in
set_option maxRecDepth 100000 in
theorem lp_X5_dB {X : Cx} (hX : Ok X cX5_decide 3 RX5 4) (pl p0 p1 p2 p3 p4 p5 : Nat) (mt g0 g1 g2 g3 g4 g5 g6 : Nat) (s : PL) (q : MT) (hn : s.2.2.2.2.1 ≤ 12) (hc : ∀ i c, s.1 i = some c → c ≤ 10000) (hb : obd s.2.2.2.2.2.2) (hq : mtIn q) (hR : Rt X (none) (fun r es' => r = none ∧ es' = [ob 5 [.ref p0, .ref p1, .ref p2, .ref p3, .int (nI ((plDecide s q).2.2.2.2.1)), .ref p4, .ref p5, .ref mt], aI (CxD X) 144 (opf ((plDecide s q).1)), aZ (CxD X) 12 (zf ((plDecide s q).2.1)), aZ (CxD X) 12 (zf ((plDecide s q).2.2.1)), aI (CxD X) 12 (opf ((plDecide s q).2.2.2.1)), aZ (CxD X) 12 (zf ((plDecide s q).2.2.2.2.2.1)), aI (CxD X) 12 (opf ((plDecide s q).2.2.2.2.2.2)), ob 3 [.ref g0, .ref g1, .ref g2, .ref g3, .ref g4, .ref g5, .ref g6], aJ (CxD X) 144 ((plQ2 s q).1), aI (CxD X) 13 (opf ((plQ2 s q).2.1)), aJ (CxD X) 12 ((plQ2 s q).2.2.1), aJ (CxD X) 13 ((plQ2 s q).2.2.2.1), aJ (CxD X) 13 ((plQ2 s q).2.2.2.2.1), aI (CxD X) 13 (nf ((plQ2 s q).2.2.2.2.2.1)), aZ (CxD X) 13 (zf ((plQ2 s q).2.2.2.2.2.2))]) [pl, p0, p1, p2, p3, p4, p5, mt, g0, g1, g2, g3, g4, g5, g6]) : ∀ (m h : Nat) (hm : Nat → Option Nat), h + m = s.2.2.2.2.1 → foldF (plHm s (plQ2 s q).2.1) m h hm = plHome s (plQ2 s q).2.1 → Aw X [pl, p0, p1, p2, p3, p4, p5, mt, g0, g1, g2, g3, g4, g5, g6] [ob 5 [.ref p0, .ref p1, .ref p2, .ref p3, .int (nI s.2.2.2.2.1), .ref p4, .ref p5, .ref mt], aI (CxD X) 144 (opf s.1), aZ (CxD X) 12 (zf s.2.1), aZ (CxD X) 12 (zf s.2.2.1), aI (CxD X) 12 (opf hm), aZ (CxD X) 12 (zf s.2.2.2.2.2.1), aI (CxD X) 12 (opf s.2.2.2.2.2.2), ob 3 [.ref g0, .ref g1, .ref g2, .ref g3, .ref g4, .ref g5, .ref g6], aJ (CxD X) 144 ((plQ2 s q).1), aI (CxD X) 13 (opf ((plQ2 s q).2.1)), aJ (CxD X) 12 ((plQ2 s q).2.2.1), aJ (CxD X) 13 ((plQ2 s q).2.2.2.1), aJ (CxD X) 13 ((plQ2 s q).2.2.2.2.1), aI (CxD X) 13 (nf ((plQ2 s q).2.2.2.2.2.1)), aZ (CxD X) 13 (zf ((plQ2 s q).2.2.2.2.2.2))] 53 [(0, .ref pl), (1, .int (nI h))] [] := by
  intro m
  induction m with
  | zero =>
    intro h hm hh he
    refine r_iload_n (n := 54) hX dX5_decide_53 rfl rfl 1 rfl ?_
    refine r_aload_n (n := 55) hX dX5_decide_54 rfl rfl 0 rfl ?_
    refine r_get (n := 58) hX 0 rfl rfl rfl 4 (by decide) lay_X5 fl_X5_25 rfl dX5_decide_55 rfl ?_
    refine r_icmp_ge_n (tgt := 109) (n := 61) hX h s.2.2.2.2.1 (by omega) (by omega) dX5_decide_58 (by decide) rfl (fun c58 => ?_) (fun c58 => absurd c58 (by omega))
    exact r_return hX hR dX5_decide_109 (by have he : hm = plHome s (plQ2 s q).2.1 := he; simp only [plDecide, ← he, and_self])
  | succ m ih =>
    intro h hm hh he
    cases hro : (plQ2 s q).2.1 h with
    | none =>
      refine r_iload_n (n := 54) hX dX5_decide_53 rfl rfl 1 rfl ?_
      refine r_aload_n (n := 55) hX dX5_decide_54 rfl rfl 0 rfl ?_
      refine r_get (n := 58) hX 0 rfl rfl rfl 4 (by decide) lay_X5 fl_X5_25 rfl dX5_decide_55 rfl ?_
      refine r_icmp_ge_n (tgt := 109) (n := 61) hX h s.2.2.2.2.1 (by omega) (by omega) dX5_decide_58 (by decide) rfl (fun c58 => absurd c58 (by omega)) (fun c58 => ?_)
      refine r_iload_n (n := 62) hX dX5_decide_61 rfl rfl 1 rfl ?_
      refine r_bipush (n := 64) hX 12 dX5_decide_62 rfl rfl ?_
      refine r_icmp_ge_n (tgt := 109) (n := 67) hX h 12 (by omega) (by omega) dX5_decide_64 (by decide) rfl (fun c64 => absurd c64 (by omega)) (fun c64 => ?_)
      refine r_aload_n (n := 68) hX dX5_decide_67 rfl rfl 0 rfl ?_
      refine r_get (n := 71) hX 0 rfl rfl rfl 7 (by decide) lay_X5 fl_X5_38 rfl dX5_decide_68 rfl ?_
      refine r_get (n := 74) hX 7 rfl rfl rfl 1 (by decide) lay_X3 fl_X5_56 rfl dX5_decide_71 rfl ?_
      refine r_iload_n (n := 75) hX dX5_decide_74 rfl rfl 1 rfl ?_
      refine r_ialdOn (n := 76) (i := h) hX 9 rfl rfl (by omega) (by decide) dX5_decide_75 rfl ?_
      refine r_istore_n (n := 77) hX [(0, .ref pl), (1, .int (nI h)), (2, .int (eo (((plQ2 s q).2.1) h)))] dX5_decide_76 rfl rfl (by decide) rfl ?_
      refine r_iload_n (n := 78) hX dX5_decide_77 rfl rfl 2 rfl ?_
      refine r_if_lt_o (tgt := 103) (n := 81) (x := ((plQ2 s q).2.1) h) hX (fun r e => Nat.lt_trans ((plQ2_in hn hq).1 _ r e) (by decide)) dX5_decide_78 (by decide) rfl (fun c78 => ?_) (fun c78 => absurd c78 (by rw [hro]; simp))
      refine r_iinc (n := 106) hX (nI (h + 1)) [(0, .ref pl), (1, .int (nI (h + 1))), (2, .int (eo (((plQ2 s q).2.1) h)))] dX5_decide_103 rfl 1 rfl (nI_add _ _) (by decide) rfl ?_
      refine r_goto (tgt := 53) hX dX5_decide_106 (by decide) ?_
      refine Aw.loc (lv' := [(0, .ref pl), (1, .int (nI (h + 1)))]) [0, 1] rfl ?_
      refine ih (h + 1) _ (by omega) ?_
      rw [← he]
      simp only [foldF, plHm, hro]
    | some p =>
      have hp := (plQ2_in hn hq).1 _ p hro
      refine r_iload_n (n := 54) hX dX5_decide_53 rfl rfl 1 rfl ?_
      refine r_aload_n (n := 55) hX dX5_decide_54 rfl rfl 0 rfl ?_
      refine r_get (n := 58) hX 0 rfl rfl rfl 4 (by decide) lay_X5 fl_X5_25 rfl dX5_decide_55 rfl ?_
      refine r_icmp_ge_n (tgt := 109) (n := 61) hX h s.2.2.2.2.1 (by omega) (by omega) dX5_decide_58 (by decide) rfl (fun c58 => absurd c58 (by omega)) (fun c58 => ?_)
      refine r_iload_n (n := 62) hX dX5_decide_61 rfl rfl 1 rfl ?_
      refine r_bipush (n := 64) hX 12 dX5_decide_62 rfl rfl ?_
      refine r_icmp_ge_n (tgt := 109) (n := 67) hX h 12 (by omega) (by omega) dX5_decide_64 (by decide) rfl (fun c64 => absurd c64 (by omega)) (fun c64 => ?_)
      refine r_aload_n (n := 68) hX dX5_decide_67 rfl rfl 0 rfl ?_
      refine r_get (n := 71) hX 0 rfl rfl rfl 7 (by decide) lay_X5 fl_X5_38 rfl dX5_decide_68 rfl ?_
      refine r_get (n := 74) hX 7 rfl rfl rfl 1 (by decide) lay_X3 fl_X5_56 rfl dX5_decide_71 rfl ?_
      refine r_iload_n (n := 75) hX dX5_decide_74 rfl rfl 1 rfl ?_
      refine r_ialdOn (n := 76) (i := h) hX 9 rfl rfl (by omega) (by decide) dX5_decide_75 rfl ?_
      refine Aw.topi (nI p) (by rw [hro]; rfl) ?_
      refine r_istore_n (n := 77) hX [(0, .ref pl), (1, .int (nI h)), (2, .int (nI p))] dX5_decide_76 rfl rfl (by decide) rfl ?_
      refine r_iload_n (n := 78) hX dX5_decide_77 rfl rfl 2 rfl ?_
      refine r_iflt_n (n := 81) (tgt := 103) hX (by omega) dX5_decide_78 rfl (by decide) ?_
      refine r_iload_n (n := 82) hX dX5_decide_81 rfl rfl 2 rfl ?_
      refine r_bipush (n := 84) hX 12 dX5_decide_82 rfl rfl ?_
      refine r_icmp_ge_n (tgt := 103) (n := 87) hX p 12 (by omega) (by omega) dX5_decide_84 (by decide) rfl (fun c84 => absurd c84 (by omega)) (fun c84 => ?_)
      refine r_aload_n (n := 88) hX dX5_decide_87 rfl rfl 0 rfl ?_
      refine r_iload_n (n := 89) hX dX5_decide_88 rfl rfl 2 rfl ?_
      refine r_iload_n (n := 90) hX dX5_decide_89 rfl rfl 1 rfl ?_
      refine r_callV (n := 93) (av := [.int (nI p), .int (nI h)]) hX (ct_X5_mayGo (CxL X) (CxD X) pl p0 p1 p2 p3 p4 p5 mt (s.1, s.2.1, s.2.2.1, hm, s.2.2.2.2) p h hn (by omega) (by omega) hc) ml_X5_59 cv_X5_mayGo rfl (by decide) [0, 1, 2, 3, 4, 5, 6] rfl rfl (by decide) 0 rfl rfl rfl rfl rfl (Nat.le_of_ble_eq_true rfl) dX5_decide_90 rfl (fun r_ es_ h_ l_ => ?_)
      obtain ⟨rfl, rfl⟩ := h_
      show Aw X [pl, p0, p1, p2, p3, p4, p5, mt, g0, g1, g2, g3, g4, g5, g6] [ob 5 [.ref p0, .ref p1, .ref p2, .ref p3, .int (nI s.2.2.2.2.1), .ref p4, .ref p5, .ref mt], aI (CxD X) 144 (opf s.1), aZ (CxD X) 12 (zf s.2.1), aZ (CxD X) 12 (zf s.2.2.1), aI (CxD X) 12 (opf hm), aZ (CxD X) 12 (zf s.2.2.2.2.2.1), aI (CxD X) 12 (opf s.2.2.2.2.2.2), ob 3 [.ref g0, .ref g1, .ref g2, .ref g3, .ref g4, .ref g5, .ref g6], aJ (CxD X) 144 ((plQ2 s q).1), aI (CxD X) 13 (opf ((plQ2 s q).2.1)), aJ (CxD X) 12 ((plQ2 s q).2.2.1), aJ (CxD X) 13 ((plQ2 s q).2.2.2.1), aJ (CxD X) 13 ((plQ2 s q).2.2.2.2.1), aI (CxD X) 13 (nf ((plQ2 s q).2.2.2.2.2.1)), aZ (CxD X) 13 (zf ((plQ2 s q).2.2.2.2.2.2))] 93 [(0, .ref pl), (1, .int (nI h)), (2, .int (nI p))] [.int (b2 (plGo s p h))]
      refine r_if_eq_b (tgt := 103) (n := 96) hX dX5_decide_93 (by decide) rfl (fun c93 => ?_) (fun c93 => ?_)
      · skip
        refine r_iinc (n := 106) hX (nI (h + 1)) [(0, .ref pl), (1, .int (nI (h + 1))), (2, .int (nI p))] dX5_decide_103 rfl 1 rfl (nI_add _ _) (by decide) rfl ?_
        refine r_goto (tgt := 53) hX dX5_decide_106 (by decide) ?_
        refine Aw.loc (lv' := [(0, .ref pl), (1, .int (nI (h + 1)))]) [0, 1] rfl ?_
        refine ih (h + 1) _ (by omega) ?_
        rw [← he]
        simp only [foldF, plHm, hro, c93, if_false, Bool.false_eq_true]
      · skip
        refine r_aload_n (n := 97) hX dX5_decide_96 rfl rfl 0 rfl ?_
        refine r_get (n := 100) hX 0 rfl rfl rfl 3 (by decide) lay_X5 fl_X5_22 rfl dX5_decide_97 rfl ?_
        refine r_iload_n (n := 101) hX dX5_decide_100 rfl rfl 2 rfl ?_
        refine r_iload_n (n := 102) hX dX5_decide_101 rfl rfl 1 rfl ?_
        refine r_iastOn (n := 103) (i := p) hX 4 rfl rfl (some h) [ob 5 [.ref p0, .ref p1, .ref p2, .ref p3, .int (nI s.2.2.2.2.1), .ref p4, .ref p5, .ref mt], aI (CxD X) 144 (opf s.1), aZ (CxD X) 12 (zf s.2.1), aZ (CxD X) 12 (zf s.2.2.1), aI (CxD X) 12 (opf (va_up hm p (some h))), aZ (CxD X) 12 (zf s.2.2.2.2.2.1), aI (CxD X) 12 (opf s.2.2.2.2.2.2), ob 3 [.ref g0, .ref g1, .ref g2, .ref g3, .ref g4, .ref g5, .ref g6], aJ (CxD X) 144 ((plQ2 s q).1), aI (CxD X) 13 (opf ((plQ2 s q).2.1)), aJ (CxD X) 12 ((plQ2 s q).2.2.1), aJ (CxD X) 13 ((plQ2 s q).2.2.2.1), aJ (CxD X) 13 ((plQ2 s q).2.2.2.2.1), aI (CxD X) 13 (nf ((plQ2 s q).2.2.2.2.2.1)), aZ (CxD X) 13 (zf ((plQ2 s q).2.2.2.2.2.2))] (by omega) (by decide) rfl dX5_decide_102 rfl ?_
        refine r_iinc (n := 106) hX (nI (h + 1)) [(0, .ref pl), (1, .int (nI (h + 1))), (2, .int (nI p))] dX5_decide_103 rfl 1 rfl (nI_add _ _) (by decide) rfl ?_
        refine r_goto (tgt := 53) hX dX5_decide_106 (by decide) ?_
        refine Aw.loc (lv' := [(0, .ref pl), (1, .int (nI (h + 1)))]) [0, 1] rfl ?_
        refine ih (h + 1) _ (by omega) ?_
        rw [← he]
        simp only [foldF, plHm, hro, c93, if_true]
set_option maxHeartbeats 4000000 in
set_option maxRecDepth 100000 in
theorem lp_X5_dA {X : Cx} (hX : Ok X cX5_decide 3 RX5 4) (pl p0 p1 p2 p3 p4 p5 : Nat) (mt g0 g1 g2 g3 g4 g5 g6 : Nat) (s : PL) (q : MT) (hn : s.2.2.2.2.1 ≤ 12) (hc : ∀ i c, s.1 i = some c → c ≤ 10000) (hb : obd s.2.2.2.2.2.2) (hq : mtIn q) (hR : Rt X (none) (fun r es' => r = none ∧ es' = [ob 5 [.ref p0, .ref p1, .ref p2, .ref p3, .int (nI ((plDecide s q).2.2.2.2.1)), .ref p4, .ref p5, .ref mt], aI (CxD X) 144 (opf ((plDecide s q).1)), aZ (CxD X) 12 (zf ((plDecide s q).2.1)), aZ (CxD X) 12 (zf ((plDecide s q).2.2.1)), aI (CxD X) 12 (opf ((plDecide s q).2.2.2.1)), aZ (CxD X) 12 (zf ((plDecide s q).2.2.2.2.2.1)), aI (CxD X) 12 (opf ((plDecide s q).2.2.2.2.2.2)), ob 3 [.ref g0, .ref g1, .ref g2, .ref g3, .ref g4, .ref g5, .ref g6], aJ (CxD X) 144 ((plQ2 s q).1), aI (CxD X) 13 (opf ((plQ2 s q).2.1)), aJ (CxD X) 12 ((plQ2 s q).2.2.1), aJ (CxD X) 13 ((plQ2 s q).2.2.2.1), aJ (CxD X) 13 ((plQ2 s q).2.2.2.2.1), aI (CxD X) 13 (nf ((plQ2 s q).2.2.2.2.2.1)), aZ (CxD X) 13 (zf ((plQ2 s q).2.2.2.2.2.2))]) [pl, p0, p1, p2, p3, p4, p5, mt, g0, g1, g2, g3, g4, g5, g6]) : ∀ (m j : Nat), j + m = 12 → Aw X [pl, p0, p1, p2, p3, p4, p5, mt, g0, g1, g2, g3, g4, g5, g6] [ob 5 [.ref p0, .ref p1, .ref p2, .ref p3, .int (nI s.2.2.2.2.1), .ref p4, .ref p5, .ref mt], aI (CxD X) 144 (opf s.1), aZ (CxD X) 12 (zf s.2.1), aZ (CxD X) 12 (zf s.2.2.1), aI (CxD X) 12 (opf (cpyO s.2.2.2.1 (fun _ => none) j)), aZ (CxD X) 12 (zf s.2.2.2.2.2.1), aI (CxD X) 12 (opf s.2.2.2.2.2.2), ob 3 [.ref g0, .ref g1, .ref g2, .ref g3, .ref g4, .ref g5, .ref g6], aJ (CxD X) 144 ((plQ2 s q).1), aI (CxD X) 13 (opf ((plQ2 s q).2.1)), aJ (CxD X) 12 ((plQ2 s q).2.2.1), aJ (CxD X) 13 ((plQ2 s q).2.2.2.1), aJ (CxD X) 13 ((plQ2 s q).2.2.2.2.1), aI (CxD X) 13 (nf ((plQ2 s q).2.2.2.2.2.1)), aZ (CxD X) 13 (zf ((plQ2 s q).2.2.2.2.2.2))] 32 [(0, .ref pl), (1, .int (nI j))] [] := by
  intro m
  induction m with
  | zero =>
    intro j hj
    refine r_iload_n (n := 33) hX dX5_decide_32 rfl rfl 1 rfl ?_
    refine r_bipush (n := 35) hX 12 dX5_decide_33 rfl rfl ?_
    refine r_icmp_ge_n (tgt := 51) (n := 38) hX j 12 (by omega) (by omega) dX5_decide_35 (by decide) rfl (fun c35 => ?_) (fun c35 => absurd c35 (by omega))
    refine r_iconst (n := 52) hX 0 dX5_decide_51 rfl rfl ?_
    refine r_istore_n (n := 53) hX [(0, .ref pl), (1, .int 0)] dX5_decide_52 rfl rfl (by decide) rfl ?_
    obtain rfl : j = 12 := by omega
    exact lp_X5_dB hX pl p0 p1 p2 p3 p4 p5 mt g0 g1 g2 g3 g4 g5 g6 s q hn hc hb hq hR s.2.2.2.2.1 0 _ (by omega) rfl
  | succ m ih =>
    intro j hj
    refine r_iload_n (n := 33) hX dX5_decide_32 rfl rfl 1 rfl ?_
    refine r_bipush (n := 35) hX 12 dX5_decide_33 rfl rfl ?_
    refine r_icmp_ge_n (tgt := 51) (n := 38) hX j 12 (by omega) (by omega) dX5_decide_35 (by decide) rfl (fun c35 => absurd c35 (by omega)) (fun c35 => ?_)
    refine r_aload_n (n := 39) hX dX5_decide_38 rfl rfl 0 rfl ?_
    refine r_get (n := 42) hX 0 rfl rfl rfl 3 (by decide) lay_X5 fl_X5_22 rfl dX5_decide_39 rfl ?_
    refine r_iload_n (n := 43) hX dX5_decide_42 rfl rfl 1 rfl ?_
    refine r_iconst (n := 44) hX (-1) dX5_decide_43 rfl rfl ?_
    refine r_iastOn (n := 45) (i := j) hX 4 rfl rfl none [ob 5 [.ref p0, .ref p1, .ref p2, .ref p3, .int (nI s.2.2.2.2.1), .ref p4, .ref p5, .ref mt], aI (CxD X) 144 (opf s.1), aZ (CxD X) 12 (zf s.2.1), aZ (CxD X) 12 (zf s.2.2.1), aI (CxD X) 12 (opf (va_up (cpyO s.2.2.2.1 (fun _ => none) j) j none)), aZ (CxD X) 12 (zf s.2.2.2.2.2.1), aI (CxD X) 12 (opf s.2.2.2.2.2.2), ob 3 [.ref g0, .ref g1, .ref g2, .ref g3, .ref g4, .ref g5, .ref g6], aJ (CxD X) 144 ((plQ2 s q).1), aI (CxD X) 13 (opf ((plQ2 s q).2.1)), aJ (CxD X) 12 ((plQ2 s q).2.2.1), aJ (CxD X) 13 ((plQ2 s q).2.2.2.1), aJ (CxD X) 13 ((plQ2 s q).2.2.2.2.1), aI (CxD X) 13 (nf ((plQ2 s q).2.2.2.2.2.1)), aZ (CxD X) 13 (zf ((plQ2 s q).2.2.2.2.2.2))] (by omega) (by decide) rfl dX5_decide_44 rfl ?_
    refine Aw.eqs (es' := [ob 5 [.ref p0, .ref p1, .ref p2, .ref p3, .int (nI s.2.2.2.2.1), .ref p4, .ref p5, .ref mt], aI (CxD X) 144 (opf s.1), aZ (CxD X) 12 (zf s.2.1), aZ (CxD X) 12 (zf s.2.2.1), aI (CxD X) 12 (opf (cpyO s.2.2.2.1 (fun _ => none) (j + 1))), aZ (CxD X) 12 (zf s.2.2.2.2.2.1), aI (CxD X) 12 (opf s.2.2.2.2.2.2), ob 3 [.ref g0, .ref g1, .ref g2, .ref g3, .ref g4, .ref g5, .ref g6], aJ (CxD X) 144 ((plQ2 s q).1), aI (CxD X) 13 (opf ((plQ2 s q).2.1)), aJ (CxD X) 12 ((plQ2 s q).2.2.1), aJ (CxD X) 13 ((plQ2 s q).2.2.2.1), aJ (CxD X) 13 ((plQ2 s q).2.2.2.2.1), aI (CxD X) 13 (nf ((plQ2 s q).2.2.2.2.2.1)), aZ (CxD X) 13 (zf ((plQ2 s q).2.2.2.2.2.2))]) (by rw [← cpyO_s]) rfl rfl ?_
    refine r_iinc (n := 48) hX (nI (j + 1)) [(0, .ref pl), (1, .int (nI (j + 1)))] dX5_decide_45 rfl 1 rfl (nI_add _ _) (by decide) rfl ?_
    refine r_goto (tgt := 32) hX dX5_decide_48 (by decide) ?_
    exact ih (j + 1) (by omega)
set_option maxHeartbeats 4000000 in
set_option maxRecDepth 100000 in
theorem wk_X5_decide {X : Cx} (hX : Ok X cX5_decide 3 RX5 4) (pl p0 p1 p2 p3 p4 p5 : Nat) (mt g0 g1 g2 g3 g4 g5 g6 : Nat) (s : PL) (q : MT) (hn : s.2.2.2.2.1 ≤ 12) (hc : ∀ i c, s.1 i = some c → c ≤ 10000) (hb : obd s.2.2.2.2.2.2) (hq : mtIn q) (hR : Rt X (none) (fun r es' => r = none ∧ es' = [ob 5 [.ref p0, .ref p1, .ref p2, .ref p3, .int (nI ((plDecide s q).2.2.2.2.1)), .ref p4, .ref p5, .ref mt], aI (CxD X) 144 (opf ((plDecide s q).1)), aZ (CxD X) 12 (zf ((plDecide s q).2.1)), aZ (CxD X) 12 (zf ((plDecide s q).2.2.1)), aI (CxD X) 12 (opf ((plDecide s q).2.2.2.1)), aZ (CxD X) 12 (zf ((plDecide s q).2.2.2.2.2.1)), aI (CxD X) 12 (opf ((plDecide s q).2.2.2.2.2.2)), ob 3 [.ref g0, .ref g1, .ref g2, .ref g3, .ref g4, .ref g5, .ref g6], aJ (CxD X) 144 ((plQ2 s q).1), aI (CxD X) 13 (opf ((plQ2 s q).2.1)), aJ (CxD X) 12 ((plQ2 s q).2.2.1), aJ (CxD X) 13 ((plQ2 s q).2.2.2.1), aJ (CxD X) 13 ((plQ2 s q).2.2.2.2.1), aI (CxD X) 13 (nf ((plQ2 s q).2.2.2.2.2.1)), aZ (CxD X) 13 (zf ((plQ2 s q).2.2.2.2.2.2))]) [pl, p0, p1, p2, p3, p4, p5, mt, g0, g1, g2, g3, g4, g5, g6]) : Aw X [pl, p0, p1, p2, p3, p4, p5, mt, g0, g1, g2, g3, g4, g5, g6] [ob 5 [.ref p0, .ref p1, .ref p2, .ref p3, .int (nI s.2.2.2.2.1), .ref p4, .ref p5, .ref mt], aI (CxD X) 144 (opf s.1), aZ (CxD X) 12 (zf s.2.1), aZ (CxD X) 12 (zf s.2.2.1), aI (CxD X) 12 (opf s.2.2.2.1), aZ (CxD X) 12 (zf s.2.2.2.2.2.1), aI (CxD X) 12 (opf s.2.2.2.2.2.2), ob 3 [.ref g0, .ref g1, .ref g2, .ref g3, .ref g4, .ref g5, .ref g6], aJ (CxD X) 144 q.1, aI (CxD X) 13 (opf q.2.1), aJ (CxD X) 12 q.2.2.1, aJ (CxD X) 13 q.2.2.2.1, aJ (CxD X) 13 q.2.2.2.2.1, aI (CxD X) 13 (nf q.2.2.2.2.2.1), aZ (CxD X) 13 (zf q.2.2.2.2.2.2)] 0 [(0, .ref pl)] [] := by
  refine r_aload_n (n := 1) hX dX5_decide_0 rfl rfl 0 rfl ?_
  refine r_callV (n := 4) (av := []) hX (ct_X5_weighPlaces (CxL X) (CxD X) pl p0 p1 p2 p3 p4 p5 mt g0 g1 g2 g3 g4 g5 g6 s q hn hc hb) ml_X5_46 cv_X5_weighPlaces rfl (by decide) [0, 1, 2, 3, 4, 5, 6, 7, 8, 9, 10, 11, 12, 13, 14] rfl rfl (by decide) 0 rfl rfl rfl rfl rfl (Nat.le_of_ble_eq_true rfl) dX5_decide_1 rfl (fun r_ es_ h_ l_ => ?_)
  obtain ⟨rfl, rfl⟩ := h_
  show Aw X [pl, p0, p1, p2, p3, p4, p5, mt, g0, g1, g2, g3, g4, g5, g6] [ob 5 [.ref p0, .ref p1, .ref p2, .ref p3, .int (nI s.2.2.2.2.1), .ref p4, .ref p5, .ref mt], aI (CxD X) 144 (opf s.1), aZ (CxD X) 12 (zf s.2.1), aZ (CxD X) 12 (zf s.2.2.1), aI (CxD X) 12 (opf s.2.2.2.1), aZ (CxD X) 12 (zf s.2.2.2.2.2.1), aI (CxD X) 12 (opf s.2.2.2.2.2.2), ob 3 [.ref g0, .ref g1, .ref g2, .ref g3, .ref g4, .ref g5, .ref g6], aJ (CxD X) 144 (plWall s q.1), aI (CxD X) 13 (opf q.2.1), aJ (CxD X) 12 q.2.2.1, aJ (CxD X) 13 q.2.2.2.1, aJ (CxD X) 13 q.2.2.2.2.1, aI (CxD X) 13 (nf q.2.2.2.2.2.1), aZ (CxD X) 13 (zf q.2.2.2.2.2.2)] 4 [(0, .ref pl)] []
  refine r_aload_n (n := 5) hX dX5_decide_4 rfl rfl 0 rfl ?_
  refine r_get (n := 8) hX 0 rfl rfl rfl 7 (by decide) lay_X5 fl_X5_38 rfl dX5_decide_5 rfl ?_
  refine r_aload_n (n := 9) hX dX5_decide_8 rfl rfl 0 rfl ?_
  refine r_get (n := 12) hX 0 rfl rfl rfl 4 (by decide) lay_X5 fl_X5_25 rfl dX5_decide_9 rfl ?_
  refine r_callV (n := 15) (av := [.int (nI s.2.2.2.2.1)]) hX (ct_X3_solve (CxL X) (CxD X) mt g0 g1 g2 g3 g4 g5 g6 (plWall s q.1, q.2) s.2.2.2.2.1 hn hq.2.1 hq.2.2) ml_X5_49 cv_X3_solve rfl (by decide) [7, 8, 9, 10, 11, 12, 13, 14] rfl rfl (by decide) 7 rfl rfl rfl rfl rfl (Nat.le_of_ble_eq_true rfl) dX5_decide_12 rfl (fun r_ es_ h_ l_ => ?_)
  obtain ⟨rfl, rfl⟩ := h_
  show Aw X [pl, p0, p1, p2, p3, p4, p5, mt, g0, g1, g2, g3, g4, g5, g6] [ob 5 [.ref p0, .ref p1, .ref p2, .ref p3, .int (nI s.2.2.2.2.1), .ref p4, .ref p5, .ref mt], aI (CxD X) 144 (opf s.1), aZ (CxD X) 12 (zf s.2.1), aZ (CxD X) 12 (zf s.2.2.1), aI (CxD X) 12 (opf s.2.2.2.1), aZ (CxD X) 12 (zf s.2.2.2.2.2.1), aI (CxD X) 12 (opf s.2.2.2.2.2.2), ob 3 [.ref g0, .ref g1, .ref g2, .ref g3, .ref g4, .ref g5, .ref g6], aJ (CxD X) 144 ((plQ1 s q).1), aI (CxD X) 13 (opf ((plQ1 s q).2.1)), aJ (CxD X) 12 ((plQ1 s q).2.2.1), aJ (CxD X) 13 ((plQ1 s q).2.2.2.1), aJ (CxD X) 13 ((plQ1 s q).2.2.2.2.1), aI (CxD X) 13 (nf ((plQ1 s q).2.2.2.2.2.1)), aZ (CxD X) 13 (zf ((plQ1 s q).2.2.2.2.2.2))] 15 [(0, .ref pl)] []
  refine r_aload_n (n := 16) hX dX5_decide_15 rfl rfl 0 rfl ?_
  refine r_callV (n := 19) (av := []) hX (ct_X5_weighOrder (CxL X) (CxD X) pl p0 p1 p2 p3 p4 p5 mt g0 g1 g2 g3 g4 g5 g6 s (plQ1 s q) hn hc) ml_X5_53 cv_X5_weighOrder rfl (by decide) [0, 1, 2, 3, 4, 5, 6, 7, 8, 9, 10, 11, 12, 13, 14] rfl rfl (by decide) 0 rfl rfl rfl rfl rfl (Nat.le_of_ble_eq_true rfl) dX5_decide_16 rfl (fun r_ es_ h_ l_ => ?_)
  obtain ⟨rfl, rfl⟩ := h_
  show Aw X [pl, p0, p1, p2, p3, p4, p5, mt, g0, g1, g2, g3, g4, g5, g6] [ob 5 [.ref p0, .ref p1, .ref p2, .ref p3, .int (nI s.2.2.2.2.1), .ref p4, .ref p5, .ref mt], aI (CxD X) 144 (opf s.1), aZ (CxD X) 12 (zf s.2.1), aZ (CxD X) 12 (zf s.2.2.1), aI (CxD X) 12 (opf s.2.2.2.1), aZ (CxD X) 12 (zf s.2.2.2.2.2.1), aI (CxD X) 12 (opf s.2.2.2.2.2.2), ob 3 [.ref g0, .ref g1, .ref g2, .ref g3, .ref g4, .ref g5, .ref g6], aJ (CxD X) 144 (plOrd s (plQ1 s q) s.2.2.2.2.1 1 (plQ1 s q).1), aI (CxD X) 13 (opf ((plQ1 s q).2.1)), aJ (CxD X) 12 ((plQ1 s q).2.2.1), aJ (CxD X) 13 ((plQ1 s q).2.2.2.1), aJ (CxD X) 13 ((plQ1 s q).2.2.2.2.1), aI (CxD X) 13 (nf ((plQ1 s q).2.2.2.2.2.1)), aZ (CxD X) 13 (zf ((plQ1 s q).2.2.2.2.2.2))] 19 [(0, .ref pl)] []
  refine r_aload_n (n := 20) hX dX5_decide_19 rfl rfl 0 rfl ?_
  refine r_get (n := 23) hX 0 rfl rfl rfl 7 (by decide) lay_X5 fl_X5_38 rfl dX5_decide_20 rfl ?_
  refine r_aload_n (n := 24) hX dX5_decide_23 rfl rfl 0 rfl ?_
  refine r_get (n := 27) hX 0 rfl rfl rfl 4 (by decide) lay_X5 fl_X5_25 rfl dX5_decide_24 rfl ?_
  refine r_callV (n := 30) (av := [.int (nI s.2.2.2.2.1)]) hX (ct_X3_solve (CxL X) (CxD X) mt g0 g1 g2 g3 g4 g5 g6 (plOrd s (plQ1 s q) s.2.2.2.2.1 1 (plQ1 s q).1, (plQ1 s q).2) s.2.2.2.2.1 hn (plQ1_in hn hq).2.1 (plQ1_in hn hq).2.2) ml_X5_49 cv_X3_solve rfl (by decide) [7, 8, 9, 10, 11, 12, 13, 14] rfl rfl (by decide) 7 rfl rfl rfl rfl rfl (Nat.le_of_ble_eq_true rfl) dX5_decide_27 rfl (fun r_ es_ h_ l_ => ?_)
  obtain ⟨rfl, rfl⟩ := h_
  show Aw X [pl, p0, p1, p2, p3, p4, p5, mt, g0, g1, g2, g3, g4, g5, g6] [ob 5 [.ref p0, .ref p1, .ref p2, .ref p3, .int (nI s.2.2.2.2.1), .ref p4, .ref p5, .ref mt], aI (CxD X) 144 (opf s.1), aZ (CxD X) 12 (zf s.2.1), aZ (CxD X) 12 (zf s.2.2.1), aI (CxD X) 12 (opf s.2.2.2.1), aZ (CxD X) 12 (zf s.2.2.2.2.2.1), aI (CxD X) 12 (opf s.2.2.2.2.2.2), ob 3 [.ref g0, .ref g1, .ref g2, .ref g3, .ref g4, .ref g5, .ref g6], aJ (CxD X) 144 ((plQ2 s q).1), aI (CxD X) 13 (opf ((plQ2 s q).2.1)), aJ (CxD X) 12 ((plQ2 s q).2.2.1), aJ (CxD X) 13 ((plQ2 s q).2.2.2.1), aJ (CxD X) 13 ((plQ2 s q).2.2.2.2.1), aI (CxD X) 13 (nf ((plQ2 s q).2.2.2.2.2.1)), aZ (CxD X) 13 (zf ((plQ2 s q).2.2.2.2.2.2))] 30 [(0, .ref pl)] []
  refine r_iconst (n := 31) hX 0 dX5_decide_30 rfl rfl ?_
  refine r_istore_n (n := 32) hX [(0, .ref pl), (1, .int 0)] dX5_decide_31 rfl rfl (by decide) rfl ?_
  refine Aw.eqs (es' := [ob 5 [.ref p0, .ref p1, .ref p2, .ref p3, .int (nI s.2.2.2.2.1), .ref p4, .ref p5, .ref mt], aI (CxD X) 144 (opf s.1), aZ (CxD X) 12 (zf s.2.1), aZ (CxD X) 12 (zf s.2.2.1), aI (CxD X) 12 (opf (cpyO s.2.2.2.1 (fun _ => none) 0)), aZ (CxD X) 12 (zf s.2.2.2.2.2.1), aI (CxD X) 12 (opf s.2.2.2.2.2.2), ob 3 [.ref g0, .ref g1, .ref g2, .ref g3, .ref g4, .ref g5, .ref g6], aJ (CxD X) 144 ((plQ2 s q).1), aI (CxD X) 13 (opf ((plQ2 s q).2.1)), aJ (CxD X) 12 ((plQ2 s q).2.2.1), aJ (CxD X) 13 ((plQ2 s q).2.2.2.1), aJ (CxD X) 13 ((plQ2 s q).2.2.2.2.1), aI (CxD X) 13 (nf ((plQ2 s q).2.2.2.2.2.1)), aZ (CxD X) 13 (zf ((plQ2 s q).2.2.2.2.2.2))]) (by rw [cpyO_0]) rfl rfl ?_
  exact lp_X5_dA hX pl p0 p1 p2 p3 p4 p5 mt g0 g1 g2 g3 g4 g5 g6 s q hn hc hb hq hR 12 0 (by omega)
theorem ct_X5_decide (l : Launch) (D : va_G) (pl p0 p1 p2 p3 p4 p5 : Nat) (mt g0 g1 g2 g3 g4 g5 g6 : Nat) (s : PL) (q : MT) (hn : s.2.2.2.2.1 ≤ 12) (hc : ∀ i c, s.1 i = some c → c ≤ 10000) (hb : obd s.2.2.2.2.2.2) (hq : mtIn q) : Ct l D m_X5_decide 4 [.ref pl] [pl, p0, p1, p2, p3, p4, p5, mt, g0, g1, g2, g3, g4, g5, g6] [ob 5 [.ref p0, .ref p1, .ref p2, .ref p3, .int (nI s.2.2.2.2.1), .ref p4, .ref p5, .ref mt], aI D 144 (opf s.1), aZ D 12 (zf s.2.1), aZ D 12 (zf s.2.2.1), aI D 12 (opf s.2.2.2.1), aZ D 12 (zf s.2.2.2.2.2.1), aI D 12 (opf s.2.2.2.2.2.2), ob 3 [.ref g0, .ref g1, .ref g2, .ref g3, .ref g4, .ref g5, .ref g6], aJ D 144 q.1, aI D 13 (opf q.2.1), aJ D 12 q.2.2.1, aJ D 13 q.2.2.2.1, aJ D 13 q.2.2.2.2.1, aI D 13 (nf q.2.2.2.2.2.1), aZ D 13 (zf q.2.2.2.2.2.2)] (fun r es' => r = none ∧ es' = [ob 5 [.ref p0, .ref p1, .ref p2, .ref p3, .int (nI ((plDecide s q).2.2.2.2.1)), .ref p4, .ref p5, .ref mt], aI D 144 (opf ((plDecide s q).1)), aZ D 12 (zf ((plDecide s q).2.1)), aZ D 12 (zf ((plDecide s q).2.2.1)), aI D 12 (opf ((plDecide s q).2.2.2.1)), aZ D 12 (zf ((plDecide s q).2.2.2.2.2.1)), aI D 12 (opf ((plDecide s q).2.2.2.2.2.2)), ob 3 [.ref g0, .ref g1, .ref g2, .ref g3, .ref g4, .ref g5, .ref g6], aJ D 144 ((plQ2 s q).1), aI D 13 (opf ((plQ2 s q).2.1)), aJ D 12 ((plQ2 s q).2.2.1), aJ D 13 ((plQ2 s q).2.2.2.1), aJ D 13 ((plQ2 s q).2.2.2.2.1), aI D 13 (nf ((plQ2 s q).2.2.2.2.2.1)), aZ D 13 (zf ((plQ2 s q).2.2.2.2.2.2))]) :=
  Ct.ofA (own := RX5) (by decide) rfl (Nat.le_of_ble_eq_true rfl) rfl (fun X hl hD hX hR => by subst hl; subst hD; exact wk_X5_decide hX pl p0 p1 p2 p3 p4 p5 mt g0 g1 g2 g3 g4 g5 g6 s q hn hc hb hq hR)
