/-! the parsers: comparisons and conditions -/
def roP (p : Int32 × Int32) : Option Int32 := if p.1 = 3 then (if p.2 = 256 then some 7 else if p.2 = 257 then some 8 else if p.2 = 258 then some 10 else if p.2 = 60 then some 9 else none) else none
theorem xRo_n (x : XZ) : xRo x = roP (nrm x.1.1) := by
  unfold xRo roP
  by_cases h : x.1.1.1 = 3
  · rw [show nrm x.1.1 = (x.1.1.1, x.1.1.2.2.2.1) from if_pos (Or.inl h)]
  · rw [if_neg h, if_neg (by rw [nrm_1]; exact h)]
theorem ro_all : ∀ p ∈ VL, (roP p = none → pRel (kdP p) = -1) ∧ ∀ o ∈ ([7, 8, 9, 10] : List Int32), roP p = some o → pRel (kdP p) = ren o ∧ ren o ≠ -1 ∧ kdP p ≠ 0 ∧ kdP p ≠ 1 := by decide +kernel
theorem ro_in {p : Int32 × Int32} {o : Int32} (h : roP p = some o) : o ∈ ([7, 8, 9, 10] : List Int32) := by
  unfold roP at h
  split at h
  · split at h
    · cases h; decide
    · split at h
      · cases h; decide
      · split at h
        · cases h; decide
        · split at h
          · cases h; decide
          · cases h
  · cases h
theorem ops_sub : ∀ o ∈ ([7, 8, 9, 10] : List Int32), o ∈ ([3, 4, 5, 6, 7, 8, 9, 10, 11, 12, 13] : List Int32) := by decide
def relK (u : TK) (g : Nat) (z1 : PZ) : PZ := zStep (rSum u g (pExp u (if pRel (u.1 (zAt z1)) = -1 then pFail u z1 1 else z1) (u.1 (zAt (if pRel (u.1 (zAt z1)) = -1 then pFail u z1 1 else z1))))) (pRel (u.1 (zAt z1))) 0
theorem rRel_k (u : TK) (g : Nat) (z : PZ) : rRel u g z = relK u g (rSum u g z) := by rw [rRel, relK]
theorem fz_ite {u : TK} {z : PZ} {c : Prop} [Decidable c] (h : flt z) : (if c then pFail u z 1 else z) = z := by
  split
  · exact fz_fail h
  · rfl
theorem kp_relK (u : TK) (g : Nat) : keeps (relK u g) := fun z hz => by
  rw [relK, fz_ite hz, fz_exp hz, fz_sum hz]
  exact ⟨rfl, rfl⟩
theorem kp_rel (u : TK) (g : Nat) : keeps (rRel u g) := fun z hz => by
  rw [rRel_k, fz_sum hz]
  exact kp_relK u g z hz
theorem mo_rel (u : TK) (g : Nat) : mono (rRel u g) := fun z hz => by
  rw [rRel_k, relK]
  refine mo_ap (g := fun y => zStep y (pRel (u.1 (zAt (rSum u g z)))) 0) (mo_step _ _) ?_
  refine mo_ap (g := rSum u g) (mo_sum u g) ?_
  have h1 := mo_sum u g z hz
  generalize rSum u g z = y at h1
  have e : zAt (if pRel (u.1 (zAt y)) = -1 then pFail u y 1 else y) = zAt y := by
    split
    · exact at_fail u y 1
    · rfl
  have h2 := mo_exp' u (if pRel (u.1 (zAt y)) = -1 then pFail u y 1 else y) (u.1 (zAt (if pRel (u.1 (zAt y)) = -1 then pFail u y 1 else y))) (by rw [e]; exact h1.2)
  exact ⟨by omega, h2.2.1⟩
theorem rel_same {tp : Nat → Int32} {tn : Nat} {l0 : Int64} {tr : Nat} {tv : Nat → Int64} {rz : RW} {u : TK} {nm : Nat → Int64} {g : Nat} {z : PZ} {x : XZ} {P : Nat} (hL : Lx tp tn l0 u) (hN : NmR tr tv nm) (h : RRz tp tn l0 tr tv rz z x) (hP1 : 1 ≤ P) (hP : txSize z.2 + P ≤ zAt z) (hg : 8 ≤ zOpen z + g) (h8 : zOpen z ≤ 8) : Res tp tn l0 tr tv rz P (zOpen z) (zAt z + 1) (xRel tp tn nm tr x) (rRel u g z) := by
  rw [rRel_k]
  unfold xRel
  refine Res_b (k := relK u g) (exp_same (g := g) hL hN h hP1 hP hg h8) (kp_relK u g) (fun w hw hp ho ha => ?_)
  generalize rSum u g z = y at hw hp ho ha
  obtain ⟨tk1, tv1, _⟩ := rl_tok hL hw
  have ek : u.1 (zAt y) = kdP (nrm w.1.1) := tk1.1
  obtain ⟨r1, r2⟩ := ro_all _ tv1
  unfold xRel2
  rw [xRo_n]
  cases er : roP (nrm w.1.1) with
  | none =>
    dsimp only
    rw [relK, ek, if_pos (r1 er)]
    have f1 := ff_stop hL hw (n := 1) (by decide)
    refine Or.inr ⟨rfl, ?_⟩
    rw [fz_exp f1.1, fz_sum f1.1]
    exact ff_keep (k := fun q => zStep q (pRel (kdP (nrm w.1.1))) 0) f1 (kp_step _ _)
  | some o =>
    dsimp only
    have hin := ro_in er
    obtain ⟨q1, q2, q3, q4⟩ := r2 o hin er
    rw [relK, ek, q1, if_neg q2, ek]
    have hs : pSees u y (kdP (nrm w.1.1)) = true := by rw [sees_k hL hw]; exact decide_eq_true rfl
    unfold xRel3
    refine Res_b (k := fun q => zStep (rSum u g q) (ren o) 0) (P_res (P := P + 1) hL (RL_wk hw (Nat.le_succ _)) hs q3 q4 (by omega)) (kp_comp (f := rSum u g) (g := fun q => zStep q (ren o) 0) (kp_sum u g) (kp_step _ _)) (fun w2 hw2 hp2 ho2 ha2 => ?_)
    refine Res_b (k := fun q => zStep q (ren o) 0) (exp_same (g := g) hL hN hw2 (by omega) hp2 (by omega) (by omega)) (kp_step _ _) (fun w3 hw3 hp3 ho3 ha3 => ?_)
    have a6 := rr_at hw3
    left
    refine ⟨rfl, op_same (o := o) hw3 (by omega) (ops_sub o hin), ?_, ?_, ?_⟩
    · rw [sz_step (by omega)]
      show _ ≤ zAt (rSum u g (pExp u y (kdP (nrm w.1.1))))
      omega
    · show zOpen (rSum u g _) = zOpen z
      omega
    · show zAt z + 1 ≤ zAt (rSum u g _)
      omega
/-! literals, ands, ors -/
theorem kp_lit (u : TK) : ∀ g, keeps (rLit u g)
  | 0 => fun z hz => by
    rw [rLit, rLitF, fz_opB hz, if_neg (by decide), fz_opZ hz, fz_opB hz, if_neg (by decide), fz_opZ hz]
    exact kp_rel u 0 z hz
  | g + 1 => fun z hz => by
    rw [rLit, rLitF, fz_opB hz, if_neg (by decide), fz_opZ hz, fz_opB hz, if_neg (by decide), fz_opZ hz]
    exact kp_rel u (g + 1) z hz
theorem rAll_e (u : TK) (g : Nat) (z : PZ) : rAll u g z = rLoop u 15 12 (rLit u g) 600 (rLit u g z) := by rw [rAll, rAllF]
theorem rCond_e (u : TK) (g : Nat) (z : PZ) : rCond u g z = rLoop u 14 13 (rAll u g) 600 (rAll u g z) := by rw [rCond, rCondF]
theorem kp_all (u : TK) (g : Nat) : keeps (rAll u g) := fun z hz => by
  rw [rAll_e]
  exact kp_ap (g := rLoop u 15 12 (rLit u g) 600) (kp_loop u 15 12 (rLit u g) 600) hz (kp_lit u g z hz)
theorem kp_cond (u : TK) (g : Nat) : keeps (rCond u g) := fun z hz => by
  rw [rCond_e]
  exact kp_ap (g := rLoop u 14 13 (rAll u g) 600) (kp_loop u 14 13 (rAll u g) 600) hz (kp_all u g z hz)
theorem mo_litF {u : TK} {g : Nat} {f c : PZ → PZ} (hf : mono f) (hc : mono c) : mono (rLitF u g f c) := fun z hz => by
  rw [rLitF]
  split
  · exact mo_ap (g := zDn) mo_dn (mo_ap (g := fun y => zStep y 4 0) (mo_step 4 0) (mo_ap (g := f) hf (mo_opZ u 16 z hz)))
  · split
    · exact mo_ap (g := zDn) mo_dn (mo_ap (g := fun y => pExp u y 93) (mo_exp u 93) (mo_ap (g := c) hc (mo_ap (g := fun y => pOpZ u y 91) (mo_opZ u 91) (mo_opZ u 16 z hz))))
    · exact mo_ap (g := rRel u g) (mo_rel u g) (mo_ap (g := fun y => pOpZ u y 91) (mo_opZ u 91) (mo_opZ u 16 z hz))
theorem mo_allF {u : TK} {f : PZ → PZ} (hf : mono f) : mono (rAllF u f) := fun z hz => by
  rw [rAllF]
  exact mo_ap (g := rLoop u 15 12 f 600) (mo_loop hf 600) (hf z hz)
theorem mo_condF {u : TK} {f : PZ → PZ} (hf : mono f) : mono (rCondF u f) := fun z hz => by
  rw [rCondF]
  exact mo_ap (g := rLoop u 14 13 f 600) (mo_loop hf 600) (hf z hz)
theorem mo_lit (u : TK) : ∀ g, mono (rLit u g)
  | 0 => fun z hz => by rw [rLit]; exact mo_litF mo_idz mo_idz z hz
  | g + 1 => fun z hz => by rw [rLit]; exact mo_litF (mo_lit u g) (mo_condF (mo_allF (mo_lit u g))) z hz
theorem mo_all (u : TK) (g : Nat) : mono (rAll u g) := fun z hz => by rw [rAll]; exact mo_allF (mo_lit u g) z hz
theorem mo_cond (u : TK) (g : Nat) : mono (rCond u g) := fun z hz => by rw [rCond]; exact mo_condF (mo_all u g) z hz
def emA (q : Bool) (z : PZ) : PZ := if q = true then zStep z 12 0 else z
def emO (o : Bool) (z : PZ) : PZ := if o = true then zStep z 13 0 else z
def ntK : Nat → PZ → PZ
  | 0, z => z
  | n + 1, z => ntK n (zDn (zStep z 4 0))
def cK (u : TK) (g : Nat) (o q : Bool) (z : PZ) : PZ := rLoop u 14 13 (rAll u g) 600 (emO o (rLoop u 15 12 (rLit u g) 600 (emA q z)))
def C0 (u : TK) : Nat → Bool → Bool → List CV → PZ → PZ
  | g, o, q, [], z => cK u g o q z
  | g, o, q, v :: r, z => C0 u (g + 1 + v.2.2) v.1 v.2.1 r (ntK v.2.2 (zDn (pExp u (cK u g o q z) 93)))
def C0t (u : TK) (g : Nat) (r : List CV) (y : PZ) : PZ := match r with
  | [] => y
  | v :: r' => C0 u (g + 1 + v.2.2) v.1 v.2.1 r' (ntK v.2.2 (zDn (pExp u y 93)))
theorem C0_t (u : TK) (g : Nat) (o q : Bool) (r : List CV) (z : PZ) : C0 u g o q r z = C0t u g r (cK u g o q z) := by
  cases r with
  | nil => rw [C0, C0t]
  | cons v r' => rw [C0, C0t]
theorem kp_nt : ∀ n, keeps (ntK n)
  | 0 => fun _ _ => ⟨rfl, rfl⟩
  | n + 1 => fun z hz => by
    rw [ntK]
    exact kp_ap (g := ntK n) (kp_nt n) hz ⟨rfl, rfl⟩
theorem kp_emA (b : Bool) : keeps (emA b) := fun z _ => by unfold emA; split <;> exact ⟨rfl, rfl⟩
theorem kp_emO (b : Bool) : keeps (emO b) := fun z _ => by unfold emO; split <;> exact ⟨rfl, rfl⟩
theorem kp_cK (u : TK) (g : Nat) (o q : Bool) : keeps (cK u g o q) := fun z hz => by
  rw [cK]
  refine kp_ap (g := rLoop u 14 13 (rAll u g) 600) (kp_loop u 14 13 (rAll u g) 600) hz ?_
  refine kp_ap (g := emO o) (kp_emO o) hz ?_
  exact kp_ap (g := rLoop u 15 12 (rLit u g) 600) (kp_loop u 15 12 (rLit u g) 600) hz (kp_emA q z hz)
theorem kp_C0 (u : TK) : ∀ (r : List CV) (g : Nat) (o q : Bool), keeps (C0 u g o q r)
  | [], g, o, q => fun z hz => by rw [C0]; exact kp_cK u g o q z hz
  | v :: r, g, o, q => fun z hz => by
    rw [C0]
    refine kp_ap (g := C0 u (g + 1 + v.2.2) v.1 v.2.1 r) (kp_C0 u r _ _ _) hz ?_
    refine kp_ap (g := ntK v.2.2) (kp_nt _) hz ?_
    refine kp_ap (g := zDn) kp_dn hz ?_
    exact kp_ap (g := fun y => pExp u y 93) (kp_exp u 93) hz (kp_cK u g o q z hz)
theorem kp_C0t (u : TK) (g : Nat) (r : List CV) : keeps (C0t u g r) := fun z hz => by
  cases r with
  | nil => rw [C0t]; exact ⟨rfl, rfl⟩
  | cons v r' =>
    rw [C0t]
    refine kp_ap (g := C0 u (g + 1 + v.2.2) v.1 v.2.1 r') (kp_C0 u r' _ _ _) hz ?_
    refine kp_ap (g := ntK v.2.2) (kp_nt _) hz ?_
    refine kp_ap (g := zDn) kp_dn hz ?_
    exact kp_exp u 93 z hz
theorem emA_f (z : PZ) : emA false z = z := rfl
theorem emA_t (z : PZ) : emA true z = zStep z 12 0 := rfl
theorem emO_f (z : PZ) : emO false z = z := rfl
theorem emO_t (z : PZ) : emO true z = zStep z 13 0 := rfl
theorem cK_cond (u : TK) (g : Nat) (z : PZ) : cK u g false false (rLit u g z) = rCond u g z := by rw [cK, emA_f, emO_f, ← rAll_e, ← rCond_e]
theorem C0_brk (u : TK) (g : Nat) (v : CV) (r : List CV) (z : PZ) : C0 u g false false (v :: r) (rLit u g z) = C0 u (g + 1 + v.2.2) v.1 v.2.1 r (ntK v.2.2 (zDn (pExp u (rCond u g z) 93))) := by rw [C0, cK_cond]
theorem cK_and {u : TK} {g : Nat} {o q : Bool} {z : PZ} (hs : pSees u (emA q z) 15 = true) (h1 : 1 ≤ zAt z) (h6 : zAt z ≤ 600) : (zFault (pExp u (emA q z) 15) = 0 → cK u g o q z = cK u g o true (rLit u g (pExp u (emA q z) 15))) ∧ (flt (pExp u (emA q z) 15) → cK u g o q z = rLoop u 14 13 (rAll u g) 600 (emO o (pExp u (emA q z) 15))) := by
  have eA : pAccZ u (emA q z) 15 = pExp u (emA q z) 15 := by unfold pAccZ; rw [if_pos hs]
  have ea : zAt (emA q z) = zAt z := by unfold emA; split <;> rfl
  refine ⟨fun h0 => ?_, fun hf => ?_⟩
  · have eB : pAccB u (emA q z) 15 = true := by unfold pAccB; rw [if_pos hs]; exact decide_eq_true h0
    have fu := rLoop_fu (u := u) (k := 15) (st := 12) (mo_lit u g) (kp_lit u g) 599 (zStep (rLit u g (pExp u (emA q z) 15)) 12 0) (fu_next (mo_lit u g) (kp_lit u g) ⟨by rw [ea]; exact h6, by rw [ea]; omega⟩)
    rw [cK, rLoop_6 (emA q z), if_pos eB, eA, ← fu, cK, emA_t]
  · have eB : pAccB u (emA q z) 15 = false := by unfold pAccB; rw [if_pos hs]; exact decide_eq_false hf
    rw [cK, rLoop_6 (emA q z), if_neg (by rw [eB]; decide), eA]
theorem cK_no {u : TK} {g : Nat} {o q : Bool} {z : PZ} (hs : pSees u (emA q z) 15 = false) : cK u g o q z = rLoop u 14 13 (rAll u g) 600 (emO o (emA q z)) := by
  have eA : pAccZ u (emA q z) 15 = emA q z := by unfold pAccZ; rw [hs, if_neg (by decide)]
  have eB : pAccB u (emA q z) 15 = false := by unfold pAccB; rw [hs, if_neg (by decide)]
  rw [cK, rLoop_6 (emA q z), if_neg (by rw [eB]; decide), eA]
theorem or_go {u : TK} {g : Nat} {y : PZ} (hs : pSees u y 14 = true) (h1 : 1 ≤ zAt y) (h6 : zAt y ≤ 600) : (zFault (pExp u y 14) = 0 → rLoop u 14 13 (rAll u g) 600 y = cK u g true false (rLit u g (pExp u y 14))) ∧ (flt (pExp u y 14) → rLoop u 14 13 (rAll u g) 600 y = pExp u y 14) := by
  have eA : pAccZ u y 14 = pExp u y 14 := by unfold pAccZ; rw [if_pos hs]
  refine ⟨fun h0 => ?_, fun hf => ?_⟩
  · have eB : pAccB u y 14 = true := by unfold pAccB; rw [if_pos hs]; exact decide_eq_true h0
    have fu := rLoop_fu (u := u) (k := 14) (st := 13) (mo_all u g) (kp_all u g) 599 (zStep (rAll u g (pExp u y 14)) 13 0) (fu_next (mo_all u g) (kp_all u g) ⟨h6, by omega⟩)
    rw [rLoop_6 y, if_pos eB, eA, ← fu, cK, emA_f, emO_t, ← rAll_e]
  · have eB : pAccB u y 14 = false := by unfold pAccB; rw [if_pos hs]; exact decide_eq_false hf
    rw [rLoop_6 y, if_neg (by rw [eB]; decide), eA]
theorem or_no {u : TK} {g : Nat} {y : PZ} (hs : pSees u y 14 = false) : rLoop u 14 13 (rAll u g) 600 y = y := by
  have eA : pAccZ u y 14 = y := by unfold pAccZ; rw [hs, if_neg (by decide)]
  have eB : pAccB u y 14 = false := by unfold pAccB; rw [hs, if_neg (by decide)]
  rw [rLoop_6 y, if_neg (by rw [eB]; decide), eA]
/-! emissions -/
def bN (b : Bool) : Nat := if b = true then 1 else 0
theorem emA_same {tp : Nat → Int32} {tn : Nat} {l0 : Int64} {tr : Nat} {tv : Nat → Int64} {rz : RW} {z : PZ} {x : XZ} {q : Bool} {B : Nat} (h : RRz tp tn l0 tr tv rz z x) (hB : txSize z.2 + bN q ≤ B) (hb : B ≤ 600) : RRz tp tn l0 tr tv rz (emA q z) (xSc1 x q) ∧ txSize (emA q z).2 = txSize z.2 + bN q ∧ (emA q z).1 = z.1 := by
  cases q with
  | true =>
    have hB : txSize z.2 + 1 ≤ B := hB
    exact ⟨op_same (o := 11) h (by omega) (by decide), sz_step (by omega), rfl⟩
  | false => exact ⟨h, rfl, rfl⟩
theorem emO_same {tp : Nat → Int32} {tn : Nat} {l0 : Int64} {tr : Nat} {tv : Nat → Int64} {rz : RW} {z : PZ} {x : XZ} {o q : Bool} {B : Nat} (h : RRz tp tn l0 tr tv rz z x) (hB : txSize z.2 + bN q + bN o ≤ B) (hb : B ≤ 600) : RRz tp tn l0 tr tv rz (emO o (emA q z)) (xSetC x o q) ∧ txSize (emO o (emA q z)).2 = txSize z.2 + bN q + bN o ∧ (emO o (emA q z)).1 = z.1 := by
  obtain ⟨a1, a2, a3⟩ := emA_same (q := q) (B := B) h (by omega) hb
  cases o with
  | true =>
    have hB : txSize z.2 + bN q + 1 ≤ B := hB
    exact ⟨op_same (o := 12) a1 (by omega) (by decide), by rw [emO_t, sz_step (by omega), a2]; rfl, a3⟩
  | false => exact ⟨a1, a2, a3⟩
theorem nt_same {tp : Nat → Int32} {tn : Nat} {l0 : Int64} {tr : Nat} {tv : Nat → Int64} {rz : RW} : ∀ (n : Nat) {z : PZ} {x : XZ} {B : Nat}, RRz tp tn l0 tr tv rz z x → txSize z.2 + n ≤ B → B ≤ 600 → RRz tp tn l0 tr tv rz (ntK n z) (xNots n x) ∧ txSize (ntK n z).2 = txSize z.2 + n ∧ zOpen (ntK n z) = zOpen z - n ∧ zAt (ntK n z) = zAt z
  | 0, z, x, B, h, _, _ => ⟨h, rfl, rfl, rfl⟩
  | n + 1, z, x, B, h, hB, hb => by
    have h1 : RRz tp tn l0 tr tv rz (zDn (zStep z 4 0)) (xJ6 x) := by
      have hd : RRz tp tn l0 tr tv rz (zDn z) (xDn x) := ⟨h.1, ⟨by show zOpen z - 1 = xOp x - 1; rw [h.2.1.1], h.2.1.2⟩, h.2.2⟩
      exact op_same (o := 13) hd (by show txSize z.2 < 600; omega) (by decide)
    have s1 : txSize (zDn (zStep z 4 0)).2 = txSize z.2 + 1 := sz_step (z := z) (by omega)
    obtain ⟨i1, i2, i3, i4⟩ := nt_same n (B := B) h1 (by rw [s1]; omega) hb
    rw [ntK, xNots]
    refine ⟨i1, by rw [i2, s1]; omega, ?_, i4⟩
    rw [i3]
    show zOpen z - 1 - n = zOpen z - (n + 1)
    omega
/-! the machine -/
def pC (v : CV) : Nat := bN v.1 + bN v.2.1 + v.2.2
def pCR : List CV → Nat
  | [] => 0
  | v :: r => pC v + pCR r
def Hc (tp : Nat → Int32) (tn : Nat) (l0 : Int64) (tr : Nat) (tv : Nat → Int64) (rz : RW) (m g : Nat) (v : CV) (r : List CV) (z : PZ) (x : XZ) (P O : Nat) : Prop := RRz tp tn l0 tr tv rz z x ∧ 1 ≤ P ∧ txSize z.2 + P + pC v + pCR r ≤ zAt z ∧ 8 ≤ zOpen z + g ∧ zOpen z = O + v.2.2 + nbC r ∧ 602 ≤ m + xTk x ∧ zOpen z ≤ 8
def T0 (tp : Nat → Int32) (tn : Nat) (l0 : Int64) (tr : Nat) (tv : Nat → Int64) (rz : RW) (u : TK) (nm : Nat → Int64) (m : Nat) : Prop := ∀ g o q r z x P O, Hc tp tn l0 tr tv rz m g (o, q, 0) r z x P O → Res tp tn l0 tr tv rz P O (zAt z) (xC tp tn nm tr m 0 (o, q, 0) r x) (C0 u g o q r z)
def T1 (tp : Nat → Int32) (tn : Nat) (l0 : Int64) (tr : Nat) (tv : Nat → Int64) (rz : RW) (u : TK) (nm : Nat → Int64) (m : Nat) : Prop := ∀ g v r z x P O, Hc tp tn l0 tr tv rz m g v r z x P O → Res tp tn l0 tr tv rz P O (zAt z) (xC tp tn nm tr m 1 v r x) (C0 u (g + v.2.2) v.1 v.2.1 r (ntK v.2.2 (rLit u g z)))
theorem t0_step {tp : Nat → Int32} {tn : Nat} {l0 : Int64} {tr : Nat} {tv : Nat → Int64} {rz : RW} {u : TK} {nm : Nat → Int64} {m : Nat} (hL : Lx tp tn l0 u) (i0 : T0 tp tn l0 tr tv rz u nm m) (i1 : T1 tp tn l0 tr tv rz u nm m) : T0 tp tn l0 tr tv rz u nm (m + 1) := by
  intro g o q r z x P O ⟨h, hP, hz, hg, ho, hm, h8⟩
  have hz : txSize z.2 + P + (bN o + bN q + 0) + pCR r ≤ zAt z := hz
  have ho : zOpen z = O + 0 + nbC r := ho
  have a6 := rr_at h
  have hx := nx_tk h
  obtain ⟨b1, b2, b3⟩ := emA_same (q := q) (B := zAt z) h (by omega) a6
  obtain ⟨c1, c2, c3⟩ := emO_same (o := o) (q := q) (B := zAt z) h (by omega) a6
  have ba : zAt (emA q z) = zAt z := congrArg (·.1) b3
  have bo : zOpen (emA q z) = zOpen z := congrArg (·.2.1) b3
  have ca : zAt (emO o (emA q z)) = zAt z := congrArg (·.1) c3
  have co : zOpen (emO o (emA q z)) = zOpen z := congrArg (·.2.1) c3
  have t1 : ∀ c, xIsW (xSc1 x q) c = xIsW x c := fun c => by unfold xSc1; split <;> rfl
  have t2 : ∀ c, xIsW (xSetC x o q) c = xIsW x c := fun c => by
    unfold xSetC
    split
    · exact t1 c
    · exact t1 c
  have t3 : ∀ c, xIsS (xSetC x o q) c = xIsS x c := fun c => by
    unfold xSetC xSc1
    split <;> (split <;> rfl)
  have s5 : pSees u (emA q z) 15 = xIsW x 5 := (sees_W (c := 5) hL b1 (by decide)).trans (t1 5)
  have s4 : pSees u (emO o (emA q z)) 14 = xIsW x 4 := (sees_W (c := 4) hL c1 (by decide)).trans (t2 4)
  have and_ : xIsW x 5 = true → Res tp tn l0 tr tv rz P O (zAt z) (xB (xP tp tn (xSc1 x q)) (fun y => xC tp tn nm tr m 1 (o, true, 0) r y)) (C0 u g o q r z) := fun h4 => by
    have hs : pSees u (emA q z) 15 = true := s5.trans h4
    obtain ⟨k1, k2⟩ := cK_and (g := g) (o := o) hs (by omega) a6
    rw [show xP tp tn (xSc1 x q) = (xPassB (xSc1 x q), xPass tp tn (xSc1 x q)) from rfl]
    rcases pass_same hL (RL_wk b1 (Nat.le_succ _)) hs (by decide) (by decide) with ⟨p1, p2, p3⟩ | ⟨p1, p2⟩
    · rw [xBt_ p1, C0_t, k1 (by rw [p2]; exact p3.1.1), ← C0_t, p2]
      refine Res_wk (i1 g (o, true, 0) r _ _ P O ⟨p3, hP, ?_, ?_, ?_, ?_, ?_⟩) (by show zAt z ≤ zAt (emA q z) + 1; omega)
      · show txSize (emA q z).2 + P + (bN o + 1 + 0) + pCR r ≤ zAt (emA q z) + 1
        rw [b2, ba]
        omega
      · show 8 ≤ zOpen (emA q z) + g; rw [bo]; exact hg
      · show zOpen (emA q z) = O + 0 + nbC r; rw [bo]; exact ho
      · have := nx_tk p3
        have e : zAt (zNx (emA q z)) = zAt z + 1 := by show zAt (emA q z) + 1 = _; rw [ba]
        omega
      · show zOpen (emA q z) ≤ 8; rw [bo]; exact h8
    · rw [xBf_ p1, C0_t, k2 p2.1]
      refine Or.inr ⟨rfl, ?_⟩
      exact ff_keep (k := C0t u g r) (ff_keep (k := rLoop u 14 13 (rAll u g) 600) (ff_keep (k := emO o) p2 (kp_emO o)) (kp_loop u 14 13 (rAll u g) 600)) (kp_C0t u g r)
  have or_ : xIsW x 5 = false → xIsW x 4 = true → Res tp tn l0 tr tv rz P O (zAt z) (xB (xP tp tn (xSetC x o q)) (fun y => xC tp tn nm tr m 1 (true, false, 0) r y)) (C0 u g o q r z) := fun h5 h4 => by
    have hs : pSees u (emO o (emA q z)) 14 = true := s4.trans h4
    have k0 := cK_no (u := u) (g := g) (o := o) (q := q) (z := z) (s5.trans h5)
    obtain ⟨k1, k2⟩ := or_go (g := g) hs (by omega) (by rw [ca]; exact a6)
    rw [show xP tp tn (xSetC x o q) = (xPassB (xSetC x o q), xPass tp tn (xSetC x o q)) from rfl]
    rcases pass_same hL (RL_wk c1 (Nat.le_succ _)) hs (by decide) (by decide) with ⟨p1, p2, p3⟩ | ⟨p1, p2⟩
    · rw [xBt_ p1, C0_t, k0, k1 (by rw [p2]; exact p3.1.1), ← C0_t, p2]
      refine Res_wk (i1 g (true, false, 0) r _ _ P O ⟨p3, hP, ?_, ?_, ?_, ?_, ?_⟩) (by show zAt z ≤ zAt (emO o (emA q z)) + 1; omega)
      · show txSize (emO o (emA q z)).2 + P + (1 + 0 + 0) + pCR r ≤ zAt (emO o (emA q z)) + 1
        rw [c2, ca]
        omega
      · show 8 ≤ zOpen (emO o (emA q z)) + g; rw [co]; exact hg
      · show zOpen (emO o (emA q z)) = O + 0 + nbC r; rw [co]; exact ho
      · have := nx_tk p3
        have e : zAt (zNx (emO o (emA q z))) = zAt z + 1 := by show zAt (emO o (emA q z)) + 1 = _; rw [ca]
        omega
      · show zOpen (emO o (emA q z)) ≤ 8; rw [co]; exact h8
    · rw [xBf_ p1, C0_t, k0, k2 p2.1]
      refine Or.inr ⟨rfl, ?_⟩
      exact ff_keep (k := C0t u g r) p2 (kp_C0t u g r)
  have last : xIsW x 5 = false → xIsW x 4 = false → cK u g o q z = emO o (emA q z) := fun h5 h4 => by
    rw [cK_no (s5.trans h5), or_no (s4.trans h4)]
  show Res tp tn l0 tr tv rz P O (zAt z) (xC0 tp tn (xC tp tn nm tr m) (o, q, 0) r x) (C0 u g o q r z)
  cases r with
  | nil =>
    unfold xC0
    dsimp only
    by_cases h5 : xIsW x 5 = true
    · rw [if_pos h5]; exact and_ h5
    · have h5' := Bool.eq_false_iff.2 h5
      by_cases h4 : xIsW x 4 = true
      · rw [if_neg h5, if_pos h4]; exact or_ h5' h4
      · rw [if_neg h5, if_neg h4, C0_t, last h5' (Bool.eq_false_iff.2 h4)]
        left
        refine ⟨rfl, c1, ?_, ?_, ?_⟩
        · show txSize (emO o (emA q z)).2 + P ≤ zAt (emO o (emA q z))
          rw [c2, ca]; omega
        · show zOpen (emO o (emA q z)) = O
          rw [co, ho]; rfl
        · show zAt z ≤ zAt (emO o (emA q z))
          omega
  | cons v r' =>
    unfold xC0
    dsimp only
    have s93 : pSees u (emO o (emA q z)) 93 = xIsS x 93 := (sees_S hL c1 (by decide)).trans (t3 93)
    by_cases h1 : xIsS x 93 = true
    · rw [if_pos h1]
      have oth : ∀ c, xIsW x c = false := fun c => by
        rw [isS_n] at h1
        rw [isW_n, of_decide_eq_true h1]
        exact decide_eq_false (fun w => absurd (Prod.mk.inj w).1 (by decide))
      rw [C0_t, last (oth 5) (oth 4)]
      have hs : pSees u (emO o (emA q z)) 93 = true := s93.trans h1
      have dn : ∀ w, xP tp tn (xDn w) = ((xP tp tn w).1, xDn (xP tp tn w).2) := fun w => rfl
      rw [dn, show ((xP tp tn (xSetC x o q)).1, xDn (xP tp tn (xSetC x o q)).2) = (xPassB (xSetC x o q), xDn (xPass tp tn (xSetC x o q))) from rfl, C0t]
      have hpd : pCR (v :: r') = bN v.1 + bN v.2.1 + v.2.2 + pCR r' := rfl
      have hnb : nbC (v :: r') = 1 + v.2.2 + nbC r' := rfl
      rcases pass_same hL (RL_wk c1 (Nat.le_succ _)) hs (by decide) (by decide) with ⟨p1, p2, p3⟩ | ⟨p1, p2⟩
      · rw [xBt_ p1, p2]
        have hd : RRz tp tn l0 tr tv rz (zDn (zNx (emO o (emA q z)))) (xDn (xPass tp tn (xSetC x o q))) := ⟨p3.1, ⟨by
          have e : zOpen (zNx (emO o (emA q z))) = xOp (xPass tp tn (xSetC x o q)) := p3.2.1.1
          show zOpen (zNx (emO o (emA q z))) - 1 = xOp (xPass tp tn (xSetC x o q)) - 1
          rw [e], p3.2.1.2⟩, p3.2.2⟩
        have e1 : zAt (zDn (zNx (emO o (emA q z)))) = zAt z + 1 := by show zAt (emO o (emA q z)) + 1 = _; rw [ca]
        have e2 : zOpen (zDn (zNx (emO o (emA q z)))) = zOpen z - 1 := by show zOpen (emO o (emA q z)) - 1 = _; rw [co]
        have e3 : txSize (zDn (zNx (emO o (emA q z)))).2 = txSize z.2 + bN q + bN o := c2
        have a7 := rr_at hd
        obtain ⟨n1, n2, n3, n4⟩ := nt_same v.2.2 (B := 600) hd (by omega) (Nat.le_refl _)
        refine Res_wk (i0 (g + 1 + v.2.2) v.1 v.2.1 r' _ _ P O ⟨n1, hP, ?_, ?_, ?_, ?_, ?_⟩) (by rw [n4, e1]; omega)
        · show txSize (ntK v.2.2 (zDn (zNx (emO o (emA q z))))).2 + P + (bN v.1 + bN v.2.1 + 0) + pCR r' ≤ zAt (ntK v.2.2 (zDn (zNx (emO o (emA q z)))))
          rw [n2, n4, e1, e3]; omega
        · rw [n3, e2]; omega
        · show zOpen (ntK v.2.2 (zDn (zNx (emO o (emA q z))))) = O + 0 + nbC r'
          rw [n3, e2]; omega
        · have := nx_tk n1
          omega
        · rw [n3, e2]; omega
      · rw [xBf_ p1]
        refine Or.inr ⟨rfl, ?_⟩
        have p2 : FF (pExp u (emO o (emA q z)) 93) (xDn (xPass tp tn (xSetC x o q))) := p2
        exact ff_keep (k := C0 u (g + 1 + v.2.2) v.1 v.2.1 r') (ff_keep (k := ntK v.2.2) (ff_keep (k := zDn) p2 kp_dn) (kp_nt _)) (kp_C0 u r' _ _ _)
    · rw [if_neg h1]
      by_cases h5 : xIsW x 5 = true
      · rw [if_pos h5]; exact and_ h5
      · have h5' := Bool.eq_false_iff.2 h5
        by_cases h4 : xIsW x 4 = true
        · rw [if_neg h5, if_pos h4]; exact or_ h5' h4
        · rw [if_neg h5, if_neg h4, C0_t, last h5' (Bool.eq_false_iff.2 h4), C0t]
          refine Or.inr ⟨rfl, ?_⟩
          have f1 : FF (pExp u (emO o (emA q z)) 93) (xStop x 1) := by
            have hs : pSees u (emO o (emA q z)) 93 = false := s93.trans (Bool.eq_false_iff.2 h1)
            unfold pExp
            rw [hs, if_neg (by decide)]
            have := ff_stop hL c1 (n := 1) (by decide)
            have e : xBg (xSetC x o q) = xBg x := by
              unfold xSetC xSc1
              split <;> (split <;> rfl)
            refine ⟨this.1, this.2.1, this.2.2.trans ?_⟩
            show nI (xBg (xSetC x o q)) = nI (xBg x)
            rw [e]
          exact ff_keep (k := C0 u (g + 1 + v.2.2) v.1 v.2.1 r') (ff_keep (k := ntK v.2.2) (ff_keep (k := zDn) f1 kp_dn) (kp_nt _)) (kp_C0 u r' _ _ _)
theorem t1_step {tp : Nat → Int32} {tn : Nat} {l0 : Int64} {tr : Nat} {tv : Nat → Int64} {rz : RW} {u : TK} {nm : Nat → Int64} {m : Nat} (hL : Lx tp tn l0 u) (hN : NmR tr tv nm) (i0 : T0 tp tn l0 tr tv rz u nm m) (i1 : T1 tp tn l0 tr tv rz u nm m) : T1 tp tn l0 tr tv rz u nm (m + 1) := by
  intro g v r z x P O ⟨h, hP, hz, hg, ho, hm, h8⟩
  have hz : txSize z.2 + P + (bN v.1 + bN v.2.1 + v.2.2) + pCR r ≤ zAt z := hz
  have a6 := rr_at h
  have hx := nx_tk h
  have eo : zOpen z = xOp x := h.2.1.1
  have eF : ∃ f c, rLit u g z = rLitF u g f c z ∧ (g ≠ 0 → f = rLit u (g - 1) ∧ c = rCond u (g - 1)) := by
    cases g with
    | zero => exact ⟨id, id, by rw [rLit], fun w => absurd rfl w⟩
    | succ g => exact ⟨rLit u g, rCond u g, by rw [rLit, rCond, rAll], fun _ => ⟨rfl, rfl⟩⟩
  obtain ⟨f, c, ef, efs⟩ := eF
  have hup : RLz tp tn l0 tr tv rz (zAt (zUp z) + 1) (zUp z) (xUp x) := ⟨h.1, ⟨by show zOpen z + 1 = xOp x + 1; rw [eo], h.2.1.2.1, h.2.1.2.2.1, fun w => by
    obtain ⟨e, e1, e2⟩ := h.2.1.2.2.2 w
    exact ⟨e, by show e < zAt z + 1; omega, e2⟩⟩, h.2.2⟩
  have s6 : pSees u z 16 = xIsW x 6 := sees_W (c := 6) hL h (by decide)
  have s91 : pSees u z 91 = xIsS x 91 := sees_S hL h (by decide)
  have kall : keeps (fun y => C0 u (g + v.2.2) v.1 v.2.1 r (ntK v.2.2 y)) := fun y hy => kp_ap (g := C0 u (g + v.2.2) v.1 v.2.1 r) (kp_C0 u r _ _ _) hy (kp_nt _ y hy)
  have bad : ∀ {y : PZ} {w : XZ}, FF y w → FF (C0 u (g + v.2.2) v.1 v.2.1 r (ntK v.2.2 (rRel u g y))) w := fun hf => ff_keep (k := fun y => C0 u (g + v.2.2) v.1 v.2.1 r (ntK v.2.2 y)) (ff_keep (k := rRel u g) hf (kp_rel u g)) kall
  show Res tp tn l0 tr tv rz P O (zAt z) (xC1 tp tn nm tr (xC tp tn nm tr m) v r x) (C0 u (g + v.2.2) v.1 v.2.1 r (ntK v.2.2 (rLit u g z)))
  rw [ef]
  unfold xC1
  by_cases h6 : xIsW x 6 = true
  · rw [if_pos h6]
    have hs := s6.trans h6
    by_cases ho8 : xOp x = 8
    · rw [if_pos ho8]
      have eB : pOpB u z 16 = false := by unfold pOpB; rw [if_pos hs, if_pos (by omega)]
      have eZ : pOpZ u z 16 = pFail u z 2 := by unfold pOpZ; rw [if_pos hs, if_pos (by omega)]
      have f1 := ff_stop hL h (n := 2) (by decide)
      rw [rLitF, eB, if_neg (by decide), eZ, fz_opB f1.1, if_neg (by decide), fz_opZ f1.1]
      exact Or.inr ⟨rfl, bad f1⟩
    · rw [if_neg ho8]
      have h8' : ¬ 8 ≤ zOpen z := by omega
      have hsu : pSees u (zUp z) 16 = true := hs
      have eB : pOpB u z 16 = decide (zFault (pExp u (zUp z) 16) = 0) := by unfold pOpB; rw [if_pos hs, if_neg h8']
      have eZ : pOpZ u z 16 = pExp u (zUp z) 16 := by unfold pOpZ; rw [if_pos hs, if_neg h8']
      rw [rLitF, eB, eZ, show xP tp tn (xUp x) = (xPassB (xUp x), xPass tp tn (xUp x)) from rfl]
      rcases pass_same hL hup hsu (by decide) (by decide) with ⟨p1, p2, p3⟩ | ⟨p1, p2⟩
      · rw [xBt_ p1, p2, if_pos (decide_eq_true p3.1.1)]
        have hg0 : g ≠ 0 := by omega
        rw [(efs hg0).1]
        have ek : C0 u (g + v.2.2) v.1 v.2.1 r (ntK v.2.2 (zDn (zStep (rLit u (g - 1) (zNx (zUp z))) 4 0))) = C0 u (g - 1 + (v.2.2 + 1)) v.1 v.2.1 r (ntK (v.2.2 + 1) (rLit u (g - 1) (zNx (zUp z)))) := by
          rw [ntK, show g - 1 + (v.2.2 + 1) = g + v.2.2 by omega]
        rw [ek]
        refine Res_wk (i1 (g - 1) (v.1, v.2.1, v.2.2 + 1) r _ _ P O ⟨p3, hP, ?_, ?_, ?_, ?_, ?_⟩) (by show zAt z ≤ zAt z + 1; omega)
        · show txSize z.2 + P + (bN v.1 + bN v.2.1 + (v.2.2 + 1)) + pCR r ≤ zAt z + 1; omega
        · show 8 ≤ zOpen z + 1 + (g - 1); omega
        · show zOpen z + 1 = O + (v.2.2 + 1) + nbC r; omega
        · have := nx_tk p3
          have e : zAt (zNx (zUp z)) = zAt z + 1 := rfl
          omega
        · show zOpen z + 1 ≤ 8; omega
      · rw [xBf_ p1, if_neg (by rw [decide_eq_false p2.1]; decide), fz_opB p2.1, if_neg (by decide), fz_opZ p2.1]
        exact Or.inr ⟨rfl, bad p2⟩
  · rw [if_neg h6]
    have hs6 := s6.trans (Bool.eq_false_iff.2 h6)
    have eB6 : pOpB u z 16 = false := by unfold pOpB; rw [hs6, if_neg (by decide)]
    have eZ6 : pOpZ u z 16 = z := by unfold pOpZ; rw [hs6, if_neg (by decide)]
    rw [rLitF, eB6, if_neg (show ¬ (false = true) by decide), eZ6]
    by_cases h9 : xIsS x 91 = true
    · rw [if_pos h9]
      have hs := s91.trans h9
      by_cases ho8 : xOp x = 8
      · rw [if_pos ho8]
        have eB : pOpB u z 91 = false := by unfold pOpB; rw [if_pos hs, if_pos (by omega)]
        have eZ : pOpZ u z 91 = pFail u z 2 := by unfold pOpZ; rw [if_pos hs, if_pos (by omega)]
        rw [eB, if_neg (by decide), eZ]
        exact Or.inr ⟨rfl, bad (ff_stop hL h (n := 2) (by decide))⟩
      · rw [if_neg ho8]
        have h8' : ¬ 8 ≤ zOpen z := by omega
        have hsu : pSees u (zUp z) 91 = true := hs
        have eB : pOpB u z 91 = decide (zFault (pExp u (zUp z) 91) = 0) := by unfold pOpB; rw [if_pos hs, if_neg h8']
        have eZ : pOpZ u z 91 = pExp u (zUp z) 91 := by unfold pOpZ; rw [if_pos hs, if_neg h8']
        rw [eB, eZ, show xP tp tn (xUp x) = (xPassB (xUp x), xPass tp tn (xUp x)) from rfl]
        rcases pass_same hL hup hsu (by decide) (by decide) with ⟨p1, p2, p3⟩ | ⟨p1, p2⟩
        · rw [xBt_ p1, p2, if_pos (decide_eq_true p3.1.1)]
          have hg0 : g ≠ 0 := by omega
          rw [(efs hg0).2]
          have ek : C0 u (g + v.2.2) v.1 v.2.1 r (ntK v.2.2 (zDn (pExp u (rCond u (g - 1) (zNx (zUp z))) 93))) = C0 u (g - 1 + 0) false false (v :: r) (ntK 0 (rLit u (g - 1) (zNx (zUp z)))) := by
            rw [show g - 1 + 0 = g - 1 from rfl, ntK, C0_brk, show g - 1 + 1 + v.2.2 = g + v.2.2 by omega]
          rw [ek]
          refine Res_wk (i1 (g - 1) (false, false, 0) (v :: r) _ _ P O ⟨p3, hP, ?_, ?_, ?_, ?_, ?_⟩) (by show zAt z ≤ zAt z + 1; omega)
          · show txSize z.2 + P + (0 + 0 + 0) + (bN v.1 + bN v.2.1 + v.2.2 + pCR r) ≤ zAt z + 1; omega
          · show 8 ≤ zOpen z + 1 + (g - 1); omega
          · show zOpen z + 1 = O + 0 + (1 + v.2.2 + nbC r); omega
          · have := nx_tk p3
            have e : zAt (zNx (zUp z)) = zAt z + 1 := rfl
            omega
          · show zOpen z + 1 ≤ 8; omega
        · rw [xBf_ p1, if_neg (by rw [decide_eq_false p2.1]; decide)]
          exact Or.inr ⟨rfl, bad p2⟩
    · rw [if_neg h9]
      have hs9 := s91.trans (Bool.eq_false_iff.2 h9)
      have eB9 : pOpB u z 91 = false := by unfold pOpB; rw [hs9, if_neg (by decide)]
      have eZ9 : pOpZ u z 91 = z := by unfold pOpZ; rw [hs9, if_neg (by decide)]
      rw [eB9, if_neg (by decide), eZ9]
      refine Res_b (k := fun y => C0 u (g + v.2.2) v.1 v.2.1 r (ntK v.2.2 y)) (rel_same (P := P + (bN v.1 + bN v.2.1 + v.2.2) + pCR r) hL hN h (by omega) (by omega) hg h8) kall (fun w hw hp ho_ ha_ => ?_)
      have a7 := rr_at hw
      obtain ⟨n1, n2, n3, n4⟩ := nt_same v.2.2 (B := 600) hw (by omega) (Nat.le_refl _)
      have := nx_tk n1
      refine Res_wk (i0 (g + v.2.2) v.1 v.2.1 r _ _ P O ⟨n1, hP, ?_, ?_, ?_, ?_, ?_⟩) (by rw [n4]; omega)
      · show txSize (ntK v.2.2 (rRel u g z)).2 + P + (bN v.1 + bN v.2.1 + 0) + pCR r ≤ zAt (ntK v.2.2 (rRel u g z))
        rw [n2, n4]; omega
      · rw [n3]; omega
      · show zOpen (ntK v.2.2 (rRel u g z)) = O + 0 + nbC r
        rw [n3]; omega
      · omega
      · rw [n3]; omega
theorem t_all {tp : Nat → Int32} {tn : Nat} {l0 : Int64} {tr : Nat} {tv : Nat → Int64} {rz : RW} {u : TK} {nm : Nat → Int64} (hL : Lx tp tn l0 u) (hN : NmR tr tv nm) : ∀ m, T0 tp tn l0 tr tv rz u nm m ∧ T1 tp tn l0 tr tv rz u nm m
  | 0 => by
    refine ⟨fun g o q r z x P O hy => ?_, fun g v r z x P O hy => ?_⟩
    · have := nx_tk hy.1; have := rr_at hy.1; have := hy.2.2.2.2.2.1; omega
    · have := nx_tk hy.1; have := rr_at hy.1; have := hy.2.2.2.2.2.1; omega
  | m + 1 => by
    obtain ⟨i0, i1⟩ := t_all hL hN m
    exact ⟨t0_step hL i0 i1, t1_step hL hN i0 i1⟩
/-- conditions -/
theorem cond_same {tp : Nat → Int32} {tn : Nat} {l0 : Int64} {tr : Nat} {tv : Nat → Int64} {rz : RW} {u : TK} {nm : Nat → Int64} {g : Nat} {z : PZ} {x : XZ} {P : Nat} (hL : Lx tp tn l0 u) (hN : NmR tr tv nm) (h : RRz tp tn l0 tr tv rz z x) (hP1 : 1 ≤ P) (hP : txSize z.2 + P ≤ zAt z) (hg : 8 ≤ zOpen z + g) (h8 : zOpen z ≤ 8) : Res tp tn l0 tr tv rz P (zOpen z) (zAt z) (xCond tp tn nm tr x) (rCond u g z) := by
  have := (t_all hL hN 602).2 g (false, false, 0) [] z x P (zOpen z) ⟨h, hP1, hP, hg, rfl, by omega, h8⟩
  have e : C0 u (g + 0) false false [] (ntK 0 (rLit u g z)) = rCond u g z := by rw [C0, ntK, show g + 0 = g from rfl, cK_cond]
  unfold xCond
  rw [← e]
  exact this
