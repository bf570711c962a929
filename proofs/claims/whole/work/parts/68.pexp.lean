/-! the parsers: expressions. What the class does from a state of the reference's machine on -/
def em7 (b : Bool) (z : PZ) : PZ := if b = true then zStep z 7 0 else z
def emS (o : Option Int32) (z : PZ) : PZ := match o with
  | none => z
  | some c => zStep z (if c = 43 then 5 else if c = 45 then 6 else 3) 0
def smK (u : TK) (g : Nat) (l : LV) (z : PZ) : PZ := rSums u (rPart u g) 600 (emS l.1 (rLoop u 42 7 (rUnit u g) 600 (em7 l.2 z)))
def K0 (u : TK) : Nat → LV → List LV → PZ → PZ
  | g, l, [], z => smK u g l z
  | g, l, l' :: r, z => K0 u (g + 1) l' r (zDn (pExp u (smK u g l z) 41))
def K0t (u : TK) (g : Nat) (r : List LV) (y : PZ) : PZ := match r with
  | [] => y
  | l' :: r' => K0 u (g + 1) l' r' (zDn (pExp u y 41))
theorem K0_t (u : TK) (g : Nat) (l : LV) (r : List LV) (z : PZ) : K0 u g l r z = K0t u g r (smK u g l z) := by
  cases r with
  | nil => rw [K0, K0t]
  | cons l' r' => rw [K0, K0t]
def K2 (u : TK) (g : Nat) (r : List LV) (z : PZ) : PZ := if pAccB u z 45 = true then K0 u g (some 110, false) r (rUnit u g (pAccZ u z 45)) else K0 u g (none, false) r (rUnit u g (pAccZ u z 45))
theorem kp_em7 (b : Bool) : keeps (em7 b) := fun z _ => by unfold em7; split <;> exact ⟨rfl, rfl⟩
theorem kp_emS (o : Option Int32) : keeps (emS o) := fun z _ => by unfold emS; split <;> exact ⟨rfl, rfl⟩
theorem kp_sums (u : TK) (f : PZ → PZ) (m : Nat) : keeps (rSums u f m) := kp_id (fun _ h => fz_sums h m)
theorem kp_loop (u : TK) (k st : Int32) (f : PZ → PZ) (m : Nat) : keeps (rLoop u k st f m) := kp_id (fun _ h => fz_loop h m)
theorem kp_unit (u : TK) (g : Nat) : keeps (rUnit u g) := kp_id (fun _ h => fz_unit h)
theorem kp_part (u : TK) (g : Nat) : keeps (rPart u g) := kp_id (fun _ h => fz_part h)
theorem kp_sum (u : TK) (g : Nat) : keeps (rSum u g) := kp_id (fun _ h => fz_sum h)
theorem kp_ap {g : PZ → PZ} (hg : keeps g) {z y : PZ} (hz : flt z) (h : zFault y = zFault z ∧ zFaultP y = zFaultP z) : zFault (g y) = zFault z ∧ zFaultP (g y) = zFaultP z := by
  obtain ⟨b1, b2⟩ := hg y (by show zFault y ≠ 0; rw [h.1]; exact hz)
  exact ⟨b1.trans h.1, b2.trans h.2⟩
theorem kp_smK (u : TK) (g : Nat) (l : LV) : keeps (smK u g l) := fun z hz => by
  rw [smK]
  refine kp_ap (g := rSums u (rPart u g) 600) (kp_sums u (rPart u g) 600) hz ?_
  refine kp_ap (g := emS l.1) (kp_emS l.1) hz ?_
  exact kp_ap (g := rLoop u 42 7 (rUnit u g) 600) (kp_loop u 42 7 (rUnit u g) 600) hz (kp_em7 l.2 z hz)
theorem kp_K0 (u : TK) : ∀ (r : List LV) (g : Nat) (l : LV), keeps (K0 u g l r)
  | [], g, l => fun z hz => by rw [K0]; exact kp_smK u g l z hz
  | l' :: r, g, l => fun z hz => by
    rw [K0]
    refine kp_ap (g := K0 u (g + 1) l' r) (kp_K0 u r (g + 1) l') hz ?_
    refine kp_ap (g := zDn) kp_dn hz ?_
    exact kp_ap (g := fun y => pExp u y 41) (kp_exp u 41) hz (kp_smK u g l z hz)
theorem kp_K0t (u : TK) (g : Nat) (r : List LV) : keeps (K0t u g r) := fun z hz => by
  cases r with
  | nil => rw [K0t]; exact ⟨rfl, rfl⟩
  | cons l' r' =>
    rw [K0t]
    refine kp_ap (g := K0 u (g + 1) l' r') (kp_K0 u r' (g + 1) l') hz ?_
    refine kp_ap (g := zDn) kp_dn hz ?_
    exact kp_exp u 41 z hz
theorem em7_f (z : PZ) : em7 false z = z := rfl
theorem em7_t (z : PZ) : em7 true z = zStep z 7 0 := rfl
theorem emS_n (z : PZ) : emS none z = z := rfl
theorem emS_a (z : PZ) : emS (some 43) z = zStep z 5 0 := rfl
theorem emS_b (z : PZ) : emS (some 45) z = zStep z 6 0 := rfl
theorem emS_c (z : PZ) : emS (some 110) z = zStep z 3 0 := rfl
theorem rPart_e (u : TK) (g : Nat) (z : PZ) : rPart u g z = rLoop u 42 7 (rUnit u g) 600 (rUnit u g z) := by rw [rPart, rPartF]
theorem smK_e (u : TK) (g : Nat) (o : Option Int32) (b : Bool) (z : PZ) : smK u g (o, b) z = rSums u (rPart u g) 600 (emS o (rLoop u 42 7 (rUnit u g) 600 (em7 b z))) := by rw [smK]
theorem K0_nil (u : TK) (g : Nat) (l : LV) (z : PZ) : K0 u g l [] z = smK u g l z := by rw [K0]
theorem K0_cons (u : TK) (g : Nat) (l l' : LV) (r : List LV) (z : PZ) : K0 u g l (l' :: r) z = K0 u (g + 1) l' r (zDn (pExp u (smK u g l z) 41)) := by rw [K0]
theorem K2_nil (u : TK) (g : Nat) (z : PZ) : K2 u g [] z = rSum u g z := by
  rw [rSum_eq, K2, rSumF]
  by_cases h : pAccB u z 45 = true
  · rw [if_pos h, if_pos h, K0_nil, smK_e, em7_f, emS_c, rPart_e]
  · rw [if_neg h, if_neg h, K0_nil, smK_e, em7_f, emS_n, rPart_e]
theorem K2_cons (u : TK) (g : Nat) (l : LV) (r : List LV) (z : PZ) : K2 u g (l :: r) z = K0 u (g + 1) l r (zDn (pExp u (rSum u g z) 41)) := by
  rw [← K2_nil, K2, K2]
  by_cases h : pAccB u z 45 = true
  · rw [if_pos h, if_pos h, K0_cons, K0_nil]
  · rw [if_neg h, if_neg h, K0_cons, K0_nil]
def pnd (l : LV) : Nat := (if l.2 = true then 1 else 0) + (if l.1 = none then 0 else 1)
def pndR : List LV → Nat
  | [] => 0
  | l :: r => pnd l + pndR r
/-- emissions that are due -/
theorem em7_same {tp : Nat → Int32} {tn : Nat} {l0 : Int64} {tr : Nat} {tv : Nat → Int64} {rz : RW} {z : PZ} {x : XZ} {l : LV} {B : Nat} (h : RRz tp tn l0 tr tv rz z x) (hB : txSize z.2 + (if l.2 = true then 1 else 0) ≤ B) (hb : B ≤ 600) : RRz tp tn l0 tr tv rz (em7 l.2 z) (xSt1 x l) ∧ txSize (em7 l.2 z).2 = txSize z.2 + (if l.2 = true then 1 else 0) ∧ (em7 l.2 z).1 = z.1 := by
  unfold em7 xSt1
  by_cases h2 : l.2 = true
  · rw [if_pos h2] at hB
    rw [if_pos h2, if_pos h2, if_pos h2]
    exact ⟨op_same (o := 5) h (by omega) (by decide), sz_step (by omega), rfl⟩
  · rw [if_neg h2, if_neg h2, if_neg h2]
    exact ⟨h, rfl, rfl⟩
theorem emS_same {tp : Nat → Int32} {tn : Nat} {l0 : Int64} {tr : Nat} {tv : Nat → Int64} {rz : RW} {z : PZ} {x : XZ} {l : LV} {B : Nat} (h : RRz tp tn l0 tr tv rz z x) (hl : lvOk l) (hB : txSize z.2 + pnd l ≤ B) (hb : B ≤ 600) : RRz tp tn l0 tr tv rz (emS l.1 (em7 l.2 z)) (xSetL x l) ∧ txSize (emS l.1 (em7 l.2 z)).2 = txSize z.2 + pnd l ∧ (emS l.1 (em7 l.2 z)).1 = z.1 := by
  unfold pnd at hB ⊢
  obtain ⟨a1, a2, a3⟩ := em7_same (l := l) (B := B) h (by omega) hb
  unfold xSetL
  rcases hl with e | e | e | e
  · rw [e]; exact ⟨a1, by rw [if_pos rfl]; exact a2, a3⟩
  · rw [e] at hB ⊢
    rw [if_neg (show ¬ (some (43 : Int32) = none) from fun q => by cases q)] at hB ⊢
    exact ⟨op_same (o := 3) a1 (by omega) (by decide), by rw [show emS (some 43) (em7 l.2 z) = zStep (em7 l.2 z) 5 0 from rfl, sz_step (by omega), a2, Nat.add_assoc], a3⟩
  · rw [e] at hB ⊢
    rw [if_neg (show ¬ (some (45 : Int32) = none) from fun q => by cases q)] at hB ⊢
    exact ⟨op_same (o := 4) a1 (by omega) (by decide), by rw [show emS (some 45) (em7 l.2 z) = zStep (em7 l.2 z) 6 0 from rfl, sz_step (by omega), a2, Nat.add_assoc], a3⟩
  · rw [e] at hB ⊢
    rw [if_neg (show ¬ (some (110 : Int32) = none) from fun q => by cases q)] at hB ⊢
    exact ⟨op_same (o := 6) a1 (by omega) (by decide), by rw [show emS (some 110) (em7 l.2 z) = zStep (em7 l.2 z) 3 0 from rfl, sz_step (by omega), a2, Nat.add_assoc], a3⟩
/-! how the class's loops go on -/
theorem sm_star {u : TK} {g : Nat} {l : LV} {z : PZ} (hs : pSees u (em7 l.2 z) 42 = true) (h1 : 1 ≤ zAt z) (h6 : zAt z ≤ 600) : (zFault (pExp u (em7 l.2 z) 42) = 0 → smK u g l z = smK u g (l.1, true) (rUnit u g (pExp u (em7 l.2 z) 42))) ∧ (flt (pExp u (em7 l.2 z) 42) → smK u g l z = rSums u (rPart u g) 600 (emS l.1 (pExp u (em7 l.2 z) 42))) := by
  have eA : pAccZ u (em7 l.2 z) 42 = pExp u (em7 l.2 z) 42 := by unfold pAccZ; rw [if_pos hs]
  have ea : zAt (em7 l.2 z) = zAt z := by unfold em7; split <;> rfl
  refine ⟨fun h0 => ?_, fun hf => ?_⟩
  · have eB : pAccB u (em7 l.2 z) 42 = true := by unfold pAccB; rw [if_pos hs]; exact decide_eq_true h0
    have fu := rLoop_fu (u := u) (k := 42) (st := 7) (mo_unit u g) (kp_unit u g) 599 (zStep (rUnit u g (pExp u (em7 l.2 z) 42)) 7 0) (fu_next (mo_unit u g) (kp_unit u g) ⟨by rw [ea]; exact h6, by rw [ea]; omega⟩)
    rw [smK, rLoop_6 (em7 l.2 z), if_pos eB, eA, ← fu, smK_e, em7_t]
  · have eB : pAccB u (em7 l.2 z) 42 = false := by unfold pAccB; rw [if_pos hs]; exact decide_eq_false hf
    rw [smK, rLoop_6 (em7 l.2 z), if_neg (by rw [eB]; decide), eA]
theorem sm_no {u : TK} {g : Nat} {l : LV} {z : PZ} (hs : pSees u (em7 l.2 z) 42 = false) : smK u g l z = rSums u (rPart u g) 600 (emS l.1 (em7 l.2 z)) := by
  have eA : pAccZ u (em7 l.2 z) 42 = em7 l.2 z := by unfold pAccZ; rw [hs, if_neg (by decide)]
  have eB : pAccB u (em7 l.2 z) 42 = false := by unfold pAccB; rw [hs, if_neg (by decide)]
  rw [smK, rLoop_6 (em7 l.2 z), if_neg (by rw [eB]; decide), eA]
theorem sums_go {u : TK} {g : Nat} {y : PZ} (c st : Int32) (hc : (c = 43 ∧ st = 5) ∨ (c = 45 ∧ st = 6)) (hs : pSees u y c = true) (h1 : 1 ≤ zAt y) (h6 : zAt y ≤ 600) : rSums u (rPart u g) 600 y = smK u g (some c, false) (rUnit u g (pExp u y c)) := by
  have ec : u.1 (zAt y) = c := (of_decide_eq_true hs).2
  have fu := rSums_fu (u := u) (mo_part u g) (kp_part u g) 599 (zStep (rPart u g (pExp u y c)) st 0) (fu_next (mo_part u g) (kp_part u g) ⟨h6, by omega⟩)
  have es : smK u g (some c, false) (rUnit u g (pExp u y c)) = rSums u (rPart u g) 600 (zStep (rPart u g (pExp u y c)) st 0) := by
    rcases hc with ⟨e1, e2⟩ | ⟨e1, e2⟩
    · subst e1; subst e2; rw [smK_e, em7_f, emS_a, ← rPart_e]
    · subst e1; subst e2; rw [smK_e, em7_f, emS_b, ← rPart_e]
  rw [es]
  rw [rSums_6 y, ec]
  rcases hc with ⟨e1, e2⟩ | ⟨e1, e2⟩
  · subst e1; subst e2
    rw [if_pos hs]
    exact fu.symm
  · subst e1; subst e2
    have n43 : ¬ pSees u y 43 = true := fun q => by
      have e3 : u.1 (zAt y) = 43 := (of_decide_eq_true q).2
      rw [ec] at e3
      exact absurd e3 (by decide)
    rw [if_neg n43, if_pos hs]
    exact fu.symm
theorem sums_no {u : TK} {g : Nat} {y : PZ} (h3 : pSees u y 43 = false) (h5 : pSees u y 45 = false) : rSums u (rPart u g) 600 y = y := by
  rw [rSums_6 y, if_neg (by rw [h3]; decide), if_neg (by rw [h5]; decide)]
/-! the machine -/
def Hy (tp : Nat → Int32) (tn : Nat) (l0 : Int64) (tr : Nat) (tv : Nat → Int64) (rz : RW) (m g : Nat) (l : LV) (r : List LV) (z : PZ) (x : XZ) (P O : Nat) : Prop := RRz tp tn l0 tr tv rz z x ∧ 1 ≤ P ∧ txSize z.2 + P + pnd l + pndR r ≤ zAt z ∧ lvOk l ∧ lvsOk r ∧ 8 ≤ zOpen z + g ∧ zOpen z = O + r.length ∧ 602 ≤ m + xTk x ∧ zOpen z ≤ 8
def S0 (tp : Nat → Int32) (tn : Nat) (l0 : Int64) (tr : Nat) (tv : Nat → Int64) (rz : RW) (u : TK) (nm : Nat → Int64) (m : Nat) : Prop := ∀ g l r z x P O, Hy tp tn l0 tr tv rz m g l r z x P O → Res tp tn l0 tr tv rz P O (zAt z) (xM tp tn nm tr m 0 l r x) (K0 u g l r z)
def S1 (tp : Nat → Int32) (tn : Nat) (l0 : Int64) (tr : Nat) (tv : Nat → Int64) (rz : RW) (u : TK) (nm : Nat → Int64) (m : Nat) : Prop := ∀ g l r z x P O, Hy tp tn l0 tr tv rz m g l r z x P O → Res tp tn l0 tr tv rz P O (zAt z) (xM tp tn nm tr m 1 l r x) (K0 u g l r (rUnit u g z))
def S2 (tp : Nat → Int32) (tn : Nat) (l0 : Int64) (tr : Nat) (tv : Nat → Int64) (rz : RW) (u : TK) (nm : Nat → Int64) (m : Nat) : Prop := ∀ g r z x P O, Hy tp tn l0 tr tv rz m g (none, false) r z x P O → Res tp tn l0 tr tv rz P O (zAt z) (xM tp tn nm tr m 2 (none, false) r x) (K2 u g r z)
theorem xBt_ {b : Bool} {w : XZ} {f : XZ → Bool × XZ} (h : b = true) : xB (b, w) f = f w := by unfold xB; rw [if_pos h]
theorem xBf_ {b : Bool} {w : XZ} {f : XZ → Bool × XZ} (h : b = false) : xB (b, w) f = (false, w) := by subst h; rfl
theorem rr_at {tp : Nat → Int32} {tn : Nat} {l0 : Int64} {tr : Nat} {tv : Nat → Int64} {rz : RW} {z : PZ} {x : XZ} (h : RRz tp tn l0 tr tv rz z x) : zAt z ≤ 600 := h.1.2.1
theorem nx_tk {tp : Nat → Int32} {tn : Nat} {l0 : Int64} {tr : Nat} {tv : Nat → Int64} {rz : RW} {z : PZ} {x : XZ} (h : RRz tp tn l0 tr tv rz z x) : xTk x = zAt z + 1 := h.1.2.2.1
theorem s0_step {tp : Nat → Int32} {tn : Nat} {l0 : Int64} {tr : Nat} {tv : Nat → Int64} {rz : RW} {u : TK} {nm : Nat → Int64} {m : Nat} (hL : Lx tp tn l0 u) (i0 : S0 tp tn l0 tr tv rz u nm m) (i1 : S1 tp tn l0 tr tv rz u nm m) : S0 tp tn l0 tr tv rz u nm (m + 1) := by
  intro g l r z x P O ⟨h, hP, hz, hl, hr, hg, ho, hm, h8⟩
  have a6 := rr_at h
  have hx := nx_tk h
  obtain ⟨b1, b2, b3⟩ := em7_same (l := l) (B := zAt z) h (by unfold pnd at hz; omega) a6
  obtain ⟨c1, c2, c3⟩ := emS_same (l := l) (B := zAt z) h hl (by omega) a6
  have ba : zAt (em7 l.2 z) = zAt z := congrArg (·.1) b3
  have bo : zOpen (em7 l.2 z) = zOpen z := congrArg (·.2.1) b3
  have ca : zAt (emS l.1 (em7 l.2 z)) = zAt z := congrArg (·.1) c3
  have co : zOpen (emS l.1 (em7 l.2 z)) = zOpen z := congrArg (·.2.1) c3
  have t1 : ∀ c, xIsS (xSt1 x l) c = xIsS x c := fun c => by unfold xSt1; split <;> rfl
  have t2 : ∀ c, xIsS (xSetL x l) c = xIsS x c := fun c => by unfold xSetL; split <;> exact t1 c
  have s42 : pSees u (em7 l.2 z) 42 = xIsS x 42 := (sees_S hL b1 (by decide)).trans (t1 42)
  have s43 : pSees u (emS l.1 (em7 l.2 z)) 43 = xIsS x 43 := (sees_S hL c1 (by decide)).trans (t2 43)
  have s45 : pSees u (emS l.1 (em7 l.2 z)) 45 = xIsS x 45 := (sees_S hL c1 (by decide)).trans (t2 45)
  -- a star
  have star : xIsS x 42 = true → Res tp tn l0 tr tv rz P O (zAt z) (xB (xP tp tn (xSt1 x l)) (fun y => xM tp tn nm tr m 1 (l.1, true) r y)) (K0 u g l r z) := fun h4 => by
    have hs : pSees u (em7 l.2 z) 42 = true := s42.trans h4
    obtain ⟨k1, k2⟩ := sm_star (g := g) hs (by omega) a6
    rcases pass_same hL (RL_wk b1 (Nat.le_succ _)) hs (by decide) (by decide) with ⟨p1, p2, p3⟩ | ⟨p1, p2⟩
    · rw [show xP tp tn (xSt1 x l) = (xPassB (xSt1 x l), xPass tp tn (xSt1 x l)) from rfl, xBt_ p1, K0_t, k1 (by rw [p2]; exact p3.1.1), ← K0_t, p2]
      refine Res_wk (i1 g (l.1, true) r _ _ P O ⟨p3, hP, ?_, hl, hr, ?_, ?_, ?_, ?_⟩) (by show zAt z ≤ zAt (em7 l.2 z) + 1; omega)
      · show txSize (em7 l.2 z).2 + P + pnd (l.1, true) + pndR r ≤ zAt (em7 l.2 z) + 1
        rw [b2, ba]
        unfold pnd at hz ⊢
        show _ + P + (1 + (if l.1 = none then 0 else 1)) + _ ≤ _
        omega
      · show 8 ≤ zOpen (em7 l.2 z) + g; rw [bo]; exact hg
      · show zOpen (em7 l.2 z) = _; rw [bo]; exact ho
      · have := nx_tk p3
        have e : zAt (zNx (em7 l.2 z)) = zAt z + 1 := by show zAt (em7 l.2 z) + 1 = _; rw [ba]
        omega
      · show zOpen (em7 l.2 z) ≤ 8; rw [bo]; exact h8
    · rw [show xP tp tn (xSt1 x l) = (xPassB (xSt1 x l), xPass tp tn (xSt1 x l)) from rfl, xBf_ p1, K0_t, k2 p2.1]
      right
      refine ⟨rfl, ?_⟩
      exact ff_keep (k := K0t u g r) (ff_keep (k := rSums u (rPart u g) 600) (ff_keep (k := emS l.1) p2 (kp_emS l.1)) (kp_sums u (rPart u g) 600)) (kp_K0t u g r)
  have sign : ∀ c st : Int32, (c = 43 ∧ st = 5) ∨ (c = 45 ∧ st = 6) → xIsS x 42 = false → xIsS x c = true → Res tp tn l0 tr tv rz P O (zAt z) (xB (xP tp tn (xSetL x l)) (fun y => xM tp tn nm tr m 1 (some c, false) r y)) (K0 u g l r z) := fun c st hc h4 h5 => by
    have cS : c ∈ SL := by rcases hc with ⟨e, _⟩ | ⟨e, _⟩ <;> (subst e; decide)
    have c0 : c ≠ 0 ∧ c ≠ 1 := by rcases hc with ⟨e, _⟩ | ⟨e, _⟩ <;> (subst e; decide)
    have hs : pSees u (emS l.1 (em7 l.2 z)) c = true := ((sees_S hL c1 cS).trans (t2 c)).trans h5
    have k1 := sm_no (u := u) (g := g) (l := l) (z := z) (s42.trans h4)
    rw [sums_go c st hc hs (by rw [ca]; omega) (by rw [ca]; exact a6)] at k1
    rcases pass_same hL (RL_wk c1 (Nat.le_succ _)) hs c0.1 c0.2 with ⟨p1, p2, p3⟩ | ⟨p1, p2⟩
    · rw [show xP tp tn (xSetL x l) = (xPassB (xSetL x l), xPass tp tn (xSetL x l)) from rfl, xBt_ p1, K0_t, k1, ← K0_t, p2]
      refine Res_wk (i1 g (some c, false) r _ _ P O ⟨p3, hP, ?_, ?_, hr, ?_, ?_, ?_, ?_⟩) (by show zAt z ≤ zAt (emS l.1 (em7 l.2 z)) + 1; omega)
      · show txSize (emS l.1 (em7 l.2 z)).2 + P + (0 + 1) + pndR r ≤ zAt (emS l.1 (em7 l.2 z)) + 1
        rw [c2, ca]
        omega
      · rcases hc with ⟨e, _⟩ | ⟨e, _⟩
        · exact Or.inr (Or.inl (by rw [e]))
        · exact Or.inr (Or.inr (Or.inl (by rw [e])))
      · show 8 ≤ zOpen (emS l.1 (em7 l.2 z)) + g; rw [co]; exact hg
      · show zOpen (emS l.1 (em7 l.2 z)) = _; rw [co]; exact ho
      · have := nx_tk p3
        have e : zAt (zNx (emS l.1 (em7 l.2 z))) = zAt z + 1 := by show zAt (emS l.1 (em7 l.2 z)) + 1 = _; rw [ca]
        omega
      · show zOpen (emS l.1 (em7 l.2 z)) ≤ 8; rw [co]; exact h8
    · rw [show xP tp tn (xSetL x l) = (xPassB (xSetL x l), xPass tp tn (xSetL x l)) from rfl, xBf_ p1, K0_t, k1]
      right
      refine ⟨rfl, ?_⟩
      exact ff_keep (k := K0t u g r) (ff_keep (k := smK u g (some c, false)) (ff_keep (k := rUnit u g) p2 (kp_unit u g)) (kp_smK u g (some c, false))) (kp_K0t u g r)
  have last : xIsS x 42 = false → xIsS x 43 = false → xIsS x 45 = false → smK u g l z = emS l.1 (em7 l.2 z) := fun h4 h5 h6 => by
    rw [sm_no (s42.trans h4), sums_no (s43.trans h5) (s45.trans h6)]
  show Res tp tn l0 tr tv rz P O (zAt z) (xM0 tp tn (xM tp tn nm tr m) l r x) (K0 u g l r z)
  cases r with
  | nil =>
    unfold xM0
    by_cases h4 : xIsS x 42 = true
    · dsimp only; rw [if_pos h4]; exact star h4
    · have h4' := Bool.eq_false_iff.2 h4
      by_cases h5 : xIsS x 43 = true
      · dsimp only; rw [if_neg h4, if_pos h5]; exact sign 43 5 (Or.inl ⟨rfl, rfl⟩) h4' h5
      · by_cases h6 : xIsS x 45 = true
        · dsimp only; rw [if_neg h4, if_neg h5, if_pos h6]; exact sign 45 6 (Or.inr ⟨rfl, rfl⟩) h4' h6
        · dsimp only; rw [if_neg h4, if_neg h5, if_neg h6]
          left
          rw [K0_t, last h4' (Bool.eq_false_iff.2 h5) (Bool.eq_false_iff.2 h6)]
          refine ⟨rfl, c1, ?_, ?_, ?_⟩
          · show txSize (emS l.1 (em7 l.2 z)).2 + P ≤ zAt (emS l.1 (em7 l.2 z))
            rw [c2, ca]; omega
          · show zOpen (emS l.1 (em7 l.2 z)) = O
            rw [co, ho]; rfl
          · show zAt z ≤ zAt (emS l.1 (em7 l.2 z))
            omega
  | cons l' r' =>
    unfold xM0
    dsimp only
    have s41 : pSees u (emS l.1 (em7 l.2 z)) 41 = xIsS x 41 := (sees_S hL c1 (by decide)).trans (t2 41)
    by_cases h1 : xIsS x 41 = true
    · rw [if_pos h1]
      have oth : ∀ c, c ≠ 41 → xIsS x c = false := fun c hc => by
        rw [isS_n] at h1 ⊢
        have e := of_decide_eq_true h1
        rw [e]
        exact decide_eq_false (fun q => hc (Prod.mk.inj q).2.symm)
      rw [K0_t, last (oth 42 (by decide)) (oth 43 (by decide)) (oth 45 (by decide))]
      have hs : pSees u (emS l.1 (em7 l.2 z)) 41 = true := s41.trans h1
      -- passing and going down may change places
      have dn : ∀ w, xP tp tn (xDn w) = ((xP tp tn w).1, xDn (xP tp tn w).2) := fun w => rfl
      rw [dn]
      rcases pass_same hL (RL_wk c1 (Nat.le_succ _)) hs (by decide) (by decide) with ⟨p1, p2, p3⟩ | ⟨p1, p2⟩
      · rw [show ((xP tp tn (xSetL x l)).1, xDn (xP tp tn (xSetL x l)).2) = (xPassB (xSetL x l), xDn (xPass tp tn (xSetL x l))) from rfl, xBt_ p1]
        unfold K0t
        dsimp only
        rw [p2]
        have hpd : pndR (l' :: r') = pnd l' + pndR r' := rfl
        have hln : (l' :: r').length = r'.length + 1 := rfl
        refine Res_wk (i0 (g + 1) l' r' _ _ P O ⟨⟨p3.1, ⟨?_, p3.2.1.2⟩, p3.2.2⟩, hP, ?_, hr.1, hr.2, ?_, ?_, ?_, ?_⟩) (by show zAt z ≤ zAt (emS l.1 (em7 l.2 z)) + 1; omega)
        · show zOpen (emS l.1 (em7 l.2 z)) - 1 = xOp (xPass tp tn (xSetL x l)) - 1
          have := p3.2.1.1
          have this : zOpen (emS l.1 (em7 l.2 z)) = xOp (xPass tp tn (xSetL x l)) := this
          rw [this]
        · show txSize (emS l.1 (em7 l.2 z)).2 + P + pnd l' + pndR r' ≤ zAt (emS l.1 (em7 l.2 z)) + 1
          rw [c2, ca]; omega
        · show 8 ≤ zOpen (emS l.1 (em7 l.2 z)) - 1 + (g + 1)
          rw [co]; omega
        · show zOpen (emS l.1 (em7 l.2 z)) - 1 = _
          rw [co]; omega
        · have := nx_tk p3
          have e : zAt (zNx (emS l.1 (em7 l.2 z))) = zAt z + 1 := by show zAt (emS l.1 (em7 l.2 z)) + 1 = _; rw [ca]
          show 602 ≤ m + xTk (xPass tp tn (xSetL x l))
          omega
        · show zOpen (emS l.1 (em7 l.2 z)) - 1 ≤ 8
          rw [co]; omega
      · rw [show ((xP tp tn (xSetL x l)).1, xDn (xP tp tn (xSetL x l)).2) = (xPassB (xSetL x l), xDn (xPass tp tn (xSetL x l))) from rfl, xBf_ p1]
        right
        refine ⟨rfl, ?_⟩
        have p2 : FF (pExp u (emS l.1 (em7 l.2 z)) 41) (xDn (xPass tp tn (xSetL x l))) := p2
        unfold K0t
        dsimp only
        exact ff_keep (k := K0 u (g + 1) l' r') (ff_keep (k := zDn) p2 kp_dn) (kp_K0 u r' (g + 1) l')
    · rw [if_neg h1]
      by_cases h4 : xIsS x 42 = true
      · rw [if_pos h4]; exact star h4
      · have h4' := Bool.eq_false_iff.2 h4
        by_cases h5 : xIsS x 43 = true
        · rw [if_neg h4, if_pos h5]; exact sign 43 5 (Or.inl ⟨rfl, rfl⟩) h4' h5
        · by_cases h6 : xIsS x 45 = true
          · rw [if_neg h4, if_neg h5, if_pos h6]; exact sign 45 6 (Or.inr ⟨rfl, rfl⟩) h4' h6
          · rw [if_neg h4, if_neg h5, if_neg h6, K0_t, last h4' (Bool.eq_false_iff.2 h5) (Bool.eq_false_iff.2 h6)]
            right
            refine ⟨rfl, ?_⟩
            unfold K0t
            dsimp only
            have f1 : FF (pExp u (emS l.1 (em7 l.2 z)) 41) (xStop x 1) := by
              have hs : pSees u (emS l.1 (em7 l.2 z)) 41 = false := s41.trans (Bool.eq_false_iff.2 h1)
              unfold pExp
              rw [hs, if_neg (by decide)]
              have := ff_stop hL c1 (n := 1) (by decide)
              have e : xBg (xSetL x l) = xBg x := by
                unfold xSetL xSt1
                split <;> (split <;> rfl)
              refine ⟨this.1, this.2.1, this.2.2.trans ?_⟩
              show nI (xBg (xSetL x l)) = nI (xBg x)
              rw [e]
            exact ff_keep (k := K0 u (g + 1) l' r') (ff_keep (k := zDn) f1 kp_dn) (kp_K0 u r' (g + 1) l')
theorem m1_step {tp : Nat → Int32} {tn : Nat} {l0 : Int64} {tr : Nat} {tv : Nat → Int64} {rz : RW} {u : TK} {nm : Nat → Int64} {m : Nat} (hL : Lx tp tn l0 u) (hN : NmR tr tv nm) (i0 : S0 tp tn l0 tr tv rz u nm m) (i2 : S2 tp tn l0 tr tv rz u nm m) {g : Nat} {l : LV} {r : List LV} {z : PZ} {x : XZ} {P O : Nat} (hy : Hy tp tn l0 tr tv rz (m + 1) g l r z x P O) : Res tp tn l0 tr tv rz P O (zAt z) (xM1 tp tn nm tr (xM tp tn nm tr m) l r x) (K0 u g l r (rUnit u g z)) := by
  obtain ⟨h, hP, hz, hl, hr, hg, ho, hm, h8⟩ := hy
  have a6 := rr_at h
  have hx := nx_tk h
  have eF : ∃ f, rUnit u g z = rUnitF u f z ∧ (g ≠ 0 → f = rSum u (g - 1)) := by
    cases g with
    | zero => exact ⟨id, rfl, fun q => absurd rfl q⟩
    | succ g => exact ⟨rSum u g, rfl, fun _ => rfl⟩
  obtain ⟨f, ef, efs⟩ := eF
  unfold xM1
  by_cases h40 : xIsS x 40 = true
  · rw [if_pos h40]
    have oth : ∀ c, c ≠ 40 → xIsS x c = false := fun c hc => by
      rw [isS_n] at h40 ⊢
      have e := of_decide_eq_true h40
      rw [e]
      exact decide_eq_false (fun q => hc (Prod.mk.inj q).2.symm)
    have en : nrm x.1.1 = (3, 40) := by rw [isS_n] at h40; exact of_decide_eq_true h40
    have hs : pSees u z 40 = true := (sees_S hL h (by decide)).trans h40
    have sn : ∀ c, c ≠ 40 → pSees u z c = false := fun c hc => by
      rw [sees_k hL h, en]
      exact decide_eq_false (fun q => hc (by rw [← q]; decide))
    have eU : rUnitF u f z = if pOpB u z 40 = true then zDn (pExp u (f (pOpZ u z 40)) 41) else pFail u (pOpZ u z 40) 1 := by
      unfold rUnitF
      rw [if_neg (by rw [sn 3 (by decide)]; decide), if_neg (by rw [sn 17 (by decide)]; decide), if_neg (by rw [sn 18 (by decide)]; decide)]
    rw [ef, eU]
    have eo : zOpen z = xOp x := h.2.1.1
    by_cases h8 : xOp x = 8
    · rw [if_pos h8]
      have eB : pOpB u z 40 = false := by unfold pOpB; rw [if_pos hs, if_pos (by omega)]
      have eZ : pOpZ u z 40 = pFail u z 2 := by unfold pOpZ; rw [if_pos hs, if_pos (by omega)]
      rw [eB, if_neg (by decide), eZ]
      have f1 := ff_stop hL h (n := 2) (by decide)
      rw [fz_fail f1.1]
      exact Or.inr ⟨rfl, ff_keep (k := K0 u g l r) f1 (kp_K0 u r g l)⟩
    · rw [if_neg h8]
      have ho8 : ¬ 8 ≤ zOpen z := by omega
      have hup : RLz tp tn l0 tr tv rz (zAt (zUp z) + 1) (zUp z) (xUp x) := ⟨h.1, ⟨by show zOpen z + 1 = xOp x + 1; rw [eo], h.2.1.2.1, h.2.1.2.2.1, fun q => by
        obtain ⟨e, e1, e2⟩ := h.2.1.2.2.2 q
        exact ⟨e, by show e < zAt z + 1; omega, e2⟩⟩, h.2.2⟩
      have hsu : pSees u (zUp z) 40 = true := hs
      have eB : pOpB u z 40 = decide (zFault (pExp u (zUp z) 40) = 0) := by unfold pOpB; rw [if_pos hs, if_neg ho8]
      have eZ : pOpZ u z 40 = pExp u (zUp z) 40 := by unfold pOpZ; rw [if_pos hs, if_neg ho8]
      rw [eB, eZ, show xP tp tn (xUp x) = (xPassB (xUp x), xPass tp tn (xUp x)) from rfl]
      rcases pass_same hL hup hsu (by decide) (by decide) with ⟨p1, p2, p3⟩ | ⟨p1, p2⟩
      · rw [xBt_ p1, p2, if_pos (decide_eq_true p3.1.1)]
        have hg0 : g ≠ 0 := by omega
        rw [efs hg0]
        have eg : g = g - 1 + 1 := by omega
        have ek : K0 u g l r (zDn (pExp u (rSum u (g - 1) (zNx (zUp z))) 41)) = K2 u (g - 1) (l :: r) (zNx (zUp z)) := by
          rw [K2_cons, ← eg]
        rw [ek]
        refine Res_wk (i2 (g - 1) (l :: r) _ _ P O ⟨p3, hP, ?_, Or.inl rfl, ⟨hl, hr⟩, ?_, ?_, ?_, ?_⟩) (by show zAt z ≤ zAt z + 1; omega)
        · show txSize z.2 + P + 0 + (pnd l + pndR r) ≤ zAt z + 1; omega
        · show 8 ≤ zOpen z + 1 + (g - 1); omega
        · show zOpen z + 1 = O + (r.length + 1); omega
        · have := nx_tk p3
          have e : zAt (zNx (zUp z)) = zAt z + 1 := rfl
          omega
        · show zOpen z + 1 ≤ 8; omega
      · rw [xBf_ p1, if_neg (by rw [decide_eq_false p2.1]; decide), fz_fail p2.1]
        exact Or.inr ⟨rfl, ff_keep (k := K0 u g l r) p2 (kp_K0 u r g l)⟩
  · have hS := Bool.eq_false_iff.2 h40
    rw [if_neg h40, ef]
    have R1 := unit_same (f := f) (P := P + pnd l + pndR r) hL hN h hS (by omega) (by omega)
    refine Res_b (k := K0 u g l r) R1 (kp_K0 u r g l) (fun w hw hp ho_ ha_ => ?_)
    have := nx_tk hw
    exact Res_wk (i0 g l r _ _ P O ⟨hw, hP, by omega, hl, hr, by omega, by omega, by omega, by omega⟩) (by omega)
theorem m2_step {tp : Nat → Int32} {tn : Nat} {l0 : Int64} {tr : Nat} {tv : Nat → Int64} {rz : RW} {u : TK} {nm : Nat → Int64} {m : Nat} (hL : Lx tp tn l0 u) (hN : NmR tr tv nm) (i0 : S0 tp tn l0 tr tv rz u nm m) (i1 : S1 tp tn l0 tr tv rz u nm m) (i2 : S2 tp tn l0 tr tv rz u nm m) : S2 tp tn l0 tr tv rz u nm (m + 1) := by
  intro g r z x P O hy
  have hy' := hy
  obtain ⟨h, hP, hz, hl, hr, hg, ho, hm, h8⟩ := hy
  have a6 := rr_at h
  have hx := nx_tk h
  show Res tp tn l0 tr tv rz P O (zAt z) (xM2 tp tn nm tr (xM tp tn nm tr m) (none, false) r x) (K2 u g r z)
  unfold xM2
  have s45 : pSees u z 45 = xIsS x 45 := sees_S hL h (by decide)
  by_cases h4 : xIsS x 45 = true
  · rw [if_pos h4]
    have hs := s45.trans h4
    have eB : pAccB u z 45 = decide (zFault (pExp u z 45) = 0) := by unfold pAccB; rw [if_pos hs]
    have eZ : pAccZ u z 45 = pExp u z 45 := by unfold pAccZ; rw [if_pos hs]
    rw [show xP tp tn x = (xPassB x, xPass tp tn x) from rfl, K2, eB, eZ]
    rcases pass_same hL (RL_wk h (Nat.le_succ _)) hs (by decide) (by decide) with ⟨p1, p2, p3⟩ | ⟨p1, p2⟩
    · rw [xBt_ p1, p2, if_pos (decide_eq_true p3.1.1)]
      refine Res_wk (i1 g (some 110, false) r _ _ P O ⟨p3, hP, ?_, Or.inr (Or.inr (Or.inr rfl)), hr, hg, ho, ?_, h8⟩) (by show zAt z ≤ zAt z + 1; omega)
      · show txSize z.2 + P + (0 + 1) + pndR r ≤ zAt z + 1
        have e : pnd (none, false) = 0 := rfl
        omega
      · have := nx_tk p3
        have e : zAt (zNx z) = zAt z + 1 := rfl
        omega
    · rw [xBf_ p1, if_neg (by rw [decide_eq_false p2.1]; decide)]
      exact Or.inr ⟨rfl, ff_keep (k := K0 u g (none, false) r) (ff_keep (k := rUnit u g) p2 (kp_unit u g)) (kp_K0 u r g (none, false))⟩
  · rw [if_neg h4]
    have hs := s45.trans (Bool.eq_false_iff.2 h4)
    have eB : pAccB u z 45 = false := by unfold pAccB; rw [hs, if_neg (by decide)]
    have eZ : pAccZ u z 45 = z := by unfold pAccZ; rw [hs, if_neg (by decide)]
    rw [K2, eB, if_neg (by decide), eZ]
    exact m1_step hL hN i0 i2 hy'
theorem m_all {tp : Nat → Int32} {tn : Nat} {l0 : Int64} {tr : Nat} {tv : Nat → Int64} {rz : RW} {u : TK} {nm : Nat → Int64} (hL : Lx tp tn l0 u) (hN : NmR tr tv nm) : ∀ m, S0 tp tn l0 tr tv rz u nm m ∧ S1 tp tn l0 tr tv rz u nm m ∧ S2 tp tn l0 tr tv rz u nm m
  | 0 => by
    refine ⟨fun g l r z x P O hy => ?_, fun g l r z x P O hy => ?_, fun g r z x P O hy => ?_⟩
    · have := nx_tk hy.1; have := rr_at hy.1; have := hy.2.2.2.2.2.2.2.1; omega
    · have := nx_tk hy.1; have := rr_at hy.1; have := hy.2.2.2.2.2.2.2.1; omega
    · have := nx_tk hy.1; have := rr_at hy.1; have := hy.2.2.2.2.2.2.2.1; omega
  | m + 1 => by
    obtain ⟨i0, i1, i2⟩ := m_all hL hN m
    exact ⟨s0_step hL i0 i1, fun g l r z x P O hy => m1_step hL hN i0 i2 hy, m2_step hL hN i0 i1 i2⟩
/-- expressions -/
theorem exp_same {tp : Nat → Int32} {tn : Nat} {l0 : Int64} {tr : Nat} {tv : Nat → Int64} {rz : RW} {u : TK} {nm : Nat → Int64} {g : Nat} {z : PZ} {x : XZ} {P : Nat} (hL : Lx tp tn l0 u) (hN : NmR tr tv nm) (h : RRz tp tn l0 tr tv rz z x) (hP1 : 1 ≤ P) (hP : txSize z.2 + P ≤ zAt z) (hg : 8 ≤ zOpen z + g) (h8 : zOpen z ≤ 8) : Res tp tn l0 tr tv rz P (zOpen z) (zAt z) (xExp tp tn nm tr x) (rSum u g z) := by
  rw [← K2_nil]
  unfold xExp
  exact (m_all hL hN 602).2.2 g [] z x P (zOpen z) ⟨h, hP1, hP, Or.inl rfl, trivial, hg, rfl, by omega, h8⟩
