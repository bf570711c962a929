
/-! HostYear$Parser: (at, open, fault, lateFault, latePlace, faultPlace), and the text that is written -/
abbrev PZ : Type := (Nat × Nat × Int32 × Int32 × Int32 × Int32) × TX
abbrev zAt (z : PZ) : Nat := z.1.1
abbrev zOpen (z : PZ) : Nat := z.1.2.1
abbrev zFault (z : PZ) : Int32 := z.1.2.2.1
abbrev zLate (z : PZ) : Int32 := z.1.2.2.2.1
abbrev zLateP (z : PZ) : Int32 := z.1.2.2.2.2.1
abbrev zFaultP (z : PZ) : Int32 := z.1.2.2.2.2.2
def pSees (u : TK) (z : PZ) (k : Int32) : Bool := decide (zFault z = 0 ∧ u.1 (zAt z) = k)
def pFail (u : TK) (z : PZ) (n : Int32) : PZ := if zFault z = 0 then ((zAt z, zOpen z, n, zLate z, zLateP z, nI (u.2.1 (zAt z))), z.2) else z
def pFailL (u : TK) (z : PZ) (n : Int32) : PZ := if zLate z = 0 then ((zAt z, zOpen z, zFault z, n, nI (u.2.1 (zAt z)), zFaultP z), z.2) else z
def pExp (u : TK) (z : PZ) (k : Int32) : PZ := if pSees u z k = true then (if 600 ≤ zAt z then pFail u z 2 else ((zAt z + 1, z.1.2), z.2)) else pFail u z 1
def pAccB (u : TK) (z : PZ) (k : Int32) : Bool := if pSees u z k = true then decide (zFault (pExp u z k) = 0) else false
def pAccZ (u : TK) (z : PZ) (k : Int32) : PZ := if pSees u z k = true then pExp u z k else z
def zUp (z : PZ) : PZ := ((zAt z, zOpen z + 1, z.1.2.2), z.2)
def zDn (z : PZ) : PZ := ((zAt z, zOpen z - 1, z.1.2.2), z.2)
def pOpB (u : TK) (z : PZ) (k : Int32) : Bool := if pSees u z k = true then (if 8 ≤ zOpen z then false else decide (zFault (pExp u (zUp z) k) = 0)) else false
def pOpZ (u : TK) (z : PZ) (k : Int32) : PZ := if pSees u z k = true then (if 8 ≤ zOpen z then pFail u z 2 else pExp u (zUp z) k) else z
def zStep (z : PZ) (st ar : Int32) : PZ := (z.1, txStep z.2 st ar)
def pRel (k : Int32) : Int32 := if k = 4 then 8 else if k = 5 then 9 else if k = 6 then 11 else if k = 60 then 10 else -1
def rTrait (u : TK) (z : PZ) (st : Int32) : PZ :=
  let z2 := pExp u (pExp u z (u.1 (zAt z))) 46
  pExp u (if pSees u z2 2 = true then zStep (if txNamed z2.2 (u.2.2 (zAt z2)) = none then pFailL u z2 4 else z2) st (eo (txNamed z2.2 (u.2.2 (zAt z2)))) else z2) 2
def rUnitF (u : TK) (sum : PZ → PZ) (z : PZ) : PZ :=
  if pSees u z 3 = true then pExp u (zStep z 0 (Int64.toInt32 (u.2.2 (zAt z)))) 3
  else if pSees u z 17 = true then rTrait u z 1
  else if pSees u z 18 = true then rTrait u z 2
  else if pOpB u z 40 = true then zDn (pExp u (sum (pOpZ u z 40)) 41)
  else pFail u (pOpZ u z 40) 1
/-- what stands behind a first part: as long as sign k is there, one more, and a step -/
def rLoop (u : TK) (k st : Int32) (f : PZ → PZ) : Nat → PZ → PZ
  | 0, z => z
  | m + 1, z => if pAccB u z k = true then rLoop u k st f m (zStep (f (pAccZ u z k)) st 0) else pAccZ u z k
def rPartF (u : TK) (unit : PZ → PZ) (z : PZ) : PZ := rLoop u 42 7 unit 600 (unit z)
def rSums (u : TK) (part : PZ → PZ) : Nat → PZ → PZ
  | 0, z => z
  | m + 1, z => if pSees u z 43 = true then rSums u part m (zStep (part (pExp u z (u.1 (zAt z)))) 5 0) else if pSees u z 45 = true then rSums u part m (zStep (part (pExp u z (u.1 (zAt z)))) 6 0) else z
def rSumF (u : TK) (part : PZ → PZ) (z : PZ) : PZ := rSums u part 600 (if pAccB u z 45 = true then zStep (part (pAccZ u z 45)) 3 0 else part (pAccZ u z 45))
def rSum (u : TK) : Nat → PZ → PZ
  | 0 => rSumF u (rPartF u (rUnitF u id))
  | g + 1 => rSumF u (rPartF u (rUnitF u (rSum u g)))
def rUnit (u : TK) : Nat → PZ → PZ
  | 0 => rUnitF u id
  | g + 1 => rUnitF u (rSum u g)
def rPart (u : TK) (g : Nat) : PZ → PZ := rPartF u (rUnit u g)
theorem rSum_eq (u : TK) (g : Nat) : rSum u g = rSumF u (rPart u g) := by cases g <;> rfl
def rRel (u : TK) (g : Nat) (z : PZ) : PZ :=
  let z1 := rSum u g z
  let z2 := if pRel (u.1 (zAt z1)) = -1 then pFail u z1 1 else z1
  zStep (rSum u g (pExp u z2 (u.1 (zAt z2)))) (pRel (u.1 (zAt z1))) 0
def rLitF (u : TK) (g : Nat) (lit cond : PZ → PZ) (z : PZ) : PZ :=
  if pOpB u z 16 = true then zDn (zStep (lit (pOpZ u z 16)) 4 0)
  else if pOpB u (pOpZ u z 16) 91 = true then zDn (pExp u (cond (pOpZ u (pOpZ u z 16) 91)) 93)
  else rRel u g (pOpZ u (pOpZ u z 16) 91)
def rAllF (u : TK) (lit : PZ → PZ) (z : PZ) : PZ := rLoop u 15 12 lit 600 (lit z)
def rCondF (u : TK) (all : PZ → PZ) (z : PZ) : PZ := rLoop u 14 13 all 600 (all z)
def rLit (u : TK) : Nat → PZ → PZ
  | 0 => rLitF u 0 id id
  | g + 1 => rLitF u (g + 1) (rLit u g) (rCondF u (rAllF u (rLit u g)))
def rAll (u : TK) (g : Nat) : PZ → PZ := rAllF u (rLit u g)
def rCond (u : TK) (g : Nat) : PZ → PZ := rCondF u (rAll u g)
/-! what holds all along -/
def zOk (z : PZ) : Prop := zAt z ≤ 600 ∧ zOpen z ≤ 8 ∧ txSize z.2 ≤ 600 ∧ txRules z.2 ≤ 20 ∧ txTraits z.2 ≤ 8
def zPr (z y : PZ) : Prop := (zOk z → zOk y) ∧ zOpen z ≤ zOpen y ∧ txRules y.2 = txRules z.2 ∧ txTraits y.2 = txTraits z.2
theorem zPr.rf {z : PZ} : zPr z z := ⟨id, Nat.le_refl _, rfl, rfl⟩
theorem zPr.tr {x y z : PZ} (h : zPr x y) (k : zPr y z) : zPr x z := ⟨fun o => k.1 (h.1 o), Nat.le_trans h.2.1 k.2.1, k.2.2.1.trans h.2.2.1, k.2.2.2.trans h.2.2.2⟩
theorem pFail_pr {u : TK} {z : PZ} {n : Int32} : zPr z (pFail u z n) := by unfold pFail; split <;> exact ⟨id, Nat.le_refl _, rfl, rfl⟩
theorem pFailL_pr {u : TK} {z : PZ} {n : Int32} : zPr z (pFailL u z n) := by unfold pFailL; split <;> exact ⟨id, Nat.le_refl _, rfl, rfl⟩
theorem pExp_pr {u : TK} {z : PZ} {k : Int32} : zPr z (pExp u z k) := by
  unfold pExp
  split
  · split
    · exact pFail_pr
    · refine ⟨fun h => ⟨?_, h.2⟩, Nat.le_refl _, rfl, rfl⟩
      show zAt z + 1 ≤ 600; omega
  · exact pFail_pr
theorem pAccZ_pr {u : TK} {z : PZ} {k : Int32} : zPr z (pAccZ u z k) := by
  unfold pAccZ; split
  · exact pExp_pr
  · exact zPr.rf
theorem txStep_sz (s : TX) (st ar : Int32) : (txSize s ≤ 600 → txSize (txStep s st ar) ≤ 600) ∧ txRules (txStep s st ar) = txRules s ∧ txTraits (txStep s st ar) = txTraits s := by
  unfold txStep; split
  · exact ⟨id, rfl, rfl⟩
  · exact ⟨fun _ => by show txSize s + 1 ≤ 600; omega, rfl, rfl⟩
theorem zStep_pr {z : PZ} {st ar : Int32} : zPr z (zStep z st ar) := by
  have k := txStep_sz z.2 st ar
  refine ⟨fun h => ⟨h.1, h.2.1, k.1 h.2.2.1, ?_, ?_⟩, Nat.le_refl _, k.2.1, k.2.2⟩
  · show txRules (txStep z.2 st ar) ≤ 20; rw [k.2.1]; exact h.2.2.2.1
  · show txTraits (txStep z.2 st ar) ≤ 8; rw [k.2.2]; exact h.2.2.2.2
theorem pOpZ_pr {u : TK} {z : PZ} {k : Int32} : zPr z (pOpZ u z k) := by
  unfold pOpZ; split
  · split
    · exact pFail_pr
    · have h : zPr (zUp z) (pExp u (zUp z) k) := pExp_pr
      refine ⟨fun o => h.1 ⟨o.1, ?_, o.2.2⟩, Nat.le_trans (Nat.le_succ _) h.2.1, h.2.2⟩
      show zOpen z + 1 ≤ 8; omega
  · exact zPr.rf
/-- an opening that went well: one more is open -/
theorem pOpZ_up {u : TK} {z : PZ} {k : Int32} (h : pOpB u z k = true) : zOpen z + 1 ≤ zOpen (pOpZ u z k) ∧ zOpen z < 8 := by
  unfold pOpB at h
  split at h
  · rename_i hs
    split at h
    · cases h
    · rename_i ho
      unfold pOpZ
      rw [if_pos hs, if_neg ho]
      exact ⟨(pExp_pr (u := u) (z := zUp z) (k := k)).2.1, by omega⟩
  · cases h
theorem zDn_pr {z y : PZ} {u : TK} {k : Int32} (hb : pOpB u z k = true) (h : zPr (pOpZ u z k) y) : zPr z (zDn y) := by
  have h1 := pOpZ_up hb
  have h2 := h.2.1
  have h3 := (pOpZ_pr (u := u) (z := z) (k := k)).tr h
  refine ⟨fun o => ?_, ?_, h3.2.2⟩
  · have := h3.1 o
    refine ⟨this.1, ?_, this.2.2⟩
    show zOpen y - 1 ≤ 8
    have := this.2.1; omega
  · show zOpen z ≤ zOpen y - 1
    omega
theorem rTrait_pr {u : TK} {z : PZ} {st : Int32} : zPr z (rTrait u z st) := by
  unfold rTrait
  have h1 : zPr z (pExp u (pExp u z (u.1 (zAt z))) 46) := pExp_pr.tr pExp_pr
  refine h1.tr ?_
  dsimp only
  split
  · refine zPr.tr ?_ pExp_pr
    split
    · exact pFailL_pr.tr zStep_pr
    · exact zStep_pr
  · exact pExp_pr
theorem rUnitF_pr {u : TK} {f : PZ → PZ} (hf : ∀ z, zPr z (f z)) (z : PZ) : zPr z (rUnitF u f z) := by
  unfold rUnitF
  split
  · exact zStep_pr.tr pExp_pr
  · split
    · exact rTrait_pr
    · split
      · exact rTrait_pr
      · split
        · rename_i hb
          exact zDn_pr hb ((hf _).tr pExp_pr)
        · exact pOpZ_pr.tr pFail_pr
theorem rLoop_pr {u : TK} {k st : Int32} {f : PZ → PZ} (hf : ∀ z, zPr z (f z)) : ∀ (m : Nat) (z : PZ), zPr z (rLoop u k st f m z)
  | 0, z => zPr.rf
  | m + 1, z => by
    unfold rLoop
    split
    · exact ((pAccZ_pr.tr (hf _)).tr zStep_pr).tr (rLoop_pr hf m _)
    · exact pAccZ_pr
theorem rPartF_pr {u : TK} {f : PZ → PZ} (hf : ∀ z, zPr z (f z)) (z : PZ) : zPr z (rPartF u f z) := (hf z).tr (rLoop_pr hf 600 _)
theorem rSums_pr {u : TK} {f : PZ → PZ} (hf : ∀ z, zPr z (f z)) : ∀ (m : Nat) (z : PZ), zPr z (rSums u f m z)
  | 0, z => zPr.rf
  | m + 1, z => by
    unfold rSums
    split
    · exact ((pExp_pr.tr (hf _)).tr zStep_pr).tr (rSums_pr hf m _)
    · split
      · exact ((pExp_pr.tr (hf _)).tr zStep_pr).tr (rSums_pr hf m _)
      · exact zPr.rf
theorem rSumF_pr {u : TK} {f : PZ → PZ} (hf : ∀ z, zPr z (f z)) (z : PZ) : zPr z (rSumF u f z) := by
  unfold rSumF
  refine zPr.tr ?_ (rSums_pr hf 600 _)
  split
  · exact (pAccZ_pr.tr (hf _)).tr zStep_pr
  · exact pAccZ_pr.tr (hf _)
theorem rSum_pr {u : TK} : ∀ (g : Nat) (z : PZ), zPr z (rSum u g z)
  | 0 => rSumF_pr (rPartF_pr (rUnitF_pr (fun _ => zPr.rf)))
  | g + 1 => rSumF_pr (rPartF_pr (rUnitF_pr (rSum_pr g)))
theorem rUnit_pr {u : TK} : ∀ (g : Nat) (z : PZ), zPr z (rUnit u g z)
  | 0 => rUnitF_pr (fun _ => zPr.rf)
  | g + 1 => rUnitF_pr (rSum_pr g)
theorem rPart_pr {u : TK} (g : Nat) (z : PZ) : zPr z (rPart u g z) := rPartF_pr (rUnit_pr g) z
theorem rRel_pr {u : TK} (g : Nat) (z : PZ) : zPr z (rRel u g z) := by
  unfold rRel
  dsimp only
  refine (rSum_pr (u := u) g z).tr (zPr.tr ?_ zStep_pr)
  refine zPr.tr (y := pExp u (if pRel (u.1 (zAt (rSum u g z))) = -1 then pFail u (rSum u g z) 1 else rSum u g z) (u.1 (zAt (if pRel (u.1 (zAt (rSum u g z))) = -1 then pFail u (rSum u g z) 1 else rSum u g z)))) (zPr.tr ?_ pExp_pr) (rSum_pr (u := u) g _)
  split
  · exact pFail_pr
  · exact zPr.rf
theorem rLitF_pr {u : TK} {g : Nat} {f c : PZ → PZ} (hf : ∀ z, zPr z (f z)) (hc : ∀ z, zPr z (c z)) (z : PZ) : zPr z (rLitF u g f c z) := by
  unfold rLitF
  split
  · rename_i hb
    exact zDn_pr hb ((hf _).tr zStep_pr)
  · split
    · rename_i hb
      exact pOpZ_pr.tr (zDn_pr hb ((hc _).tr pExp_pr))
    · exact (pOpZ_pr.tr pOpZ_pr).tr (rRel_pr g _)
theorem rLit_pr {u : TK} : ∀ (g : Nat) (z : PZ), zPr z (rLit u g z)
  | 0 => rLitF_pr (fun _ => zPr.rf) (fun _ => zPr.rf)
  | g + 1 => rLitF_pr (rLit_pr g) (fun z => ((rLit_pr g _).tr (rLoop_pr (rLit_pr g) 600 _)).tr (rLoop_pr (fun z => (rLit_pr g _).tr (rLoop_pr (rLit_pr g) 600 _)) 600 _))
theorem rAll_pr {u : TK} (g : Nat) (z : PZ) : zPr z (rAll u g z) := (rLit_pr g _).tr (rLoop_pr (rLit_pr g) 600 _)
theorem rCond_pr {u : TK} (g : Nat) (z : PZ) : zPr z (rCond u g z) := (rAll_pr g _).tr (rLoop_pr (rAll_pr g) 600 _)

