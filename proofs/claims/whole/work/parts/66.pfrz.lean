/-! the class's parser: after a fault nothing is read any more; the place never goes back; the loops' fuel is ample -/
abbrev flt (z : PZ) : Prop := zFault z ≠ 0
theorem fz_sees {u : TK} {z : PZ} {k : Int32} (h : flt z) : pSees u z k = false := by
  unfold pSees
  exact decide_eq_false (fun e => h e.1)
theorem fz_fail {u : TK} {z : PZ} {n : Int32} (h : flt z) : pFail u z n = z := by unfold pFail; rw [if_neg h]
theorem fz_exp {u : TK} {z : PZ} {k : Int32} (h : flt z) : pExp u z k = z := by
  unfold pExp; rw [fz_sees h, if_neg (by decide), fz_fail h]
theorem fz_accB {u : TK} {z : PZ} {k : Int32} (h : flt z) : pAccB u z k = false := by
  unfold pAccB; rw [fz_sees h, if_neg (by decide)]
theorem fz_accZ {u : TK} {z : PZ} {k : Int32} (h : flt z) : pAccZ u z k = z := by
  unfold pAccZ; rw [fz_sees h, if_neg (by decide)]
theorem fz_opB {u : TK} {z : PZ} {k : Int32} (h : flt z) : pOpB u z k = false := by
  unfold pOpB; rw [fz_sees h, if_neg (by decide)]
theorem fz_opZ {u : TK} {z : PZ} {k : Int32} (h : flt z) : pOpZ u z k = z := by
  unfold pOpZ; rw [fz_sees h, if_neg (by decide)]
theorem fz_loop {u : TK} {k st : Int32} {f : PZ → PZ} {z : PZ} (h : flt z) : ∀ m, rLoop u k st f m z = z
  | 0 => rfl
  | m + 1 => by unfold rLoop; rw [fz_accB h, if_neg (by decide), fz_accZ h]
theorem fz_sums {u : TK} {f : PZ → PZ} {z : PZ} (h : flt z) : ∀ m, rSums u f m z = z
  | 0 => rfl
  | m + 1 => by unfold rSums; rw [fz_sees h, if_neg (by decide), fz_sees h, if_neg (by decide)]
theorem fz_unitF {u : TK} {f : PZ → PZ} {z : PZ} (h : flt z) : rUnitF u f z = z := by
  unfold rUnitF
  rw [fz_sees h, if_neg (by decide), fz_sees h, if_neg (by decide), fz_sees h, if_neg (by decide), fz_opB h, if_neg (by decide), fz_opZ h, fz_fail h]
theorem fz_unit {u : TK} {g : Nat} {z : PZ} (h : flt z) : rUnit u g z = z := by cases g <;> exact fz_unitF h
theorem fz_part {u : TK} {g : Nat} {z : PZ} (h : flt z) : rPart u g z = z := by
  unfold rPart rPartF
  rw [fz_unit h, fz_loop h]
theorem fz_sum {u : TK} {g : Nat} {z : PZ} (h : flt z) : rSum u g z = z := by
  rw [rSum_eq]
  unfold rSumF
  rw [fz_accB h, if_neg (by decide), fz_accZ h, fz_part h, fz_sums h]
/-- a step that lets a fault stand -/
def keeps (f : PZ → PZ) : Prop := ∀ z, flt z → zFault (f z) = zFault z ∧ zFaultP (f z) = zFaultP z
theorem kp_id {f : PZ → PZ} (h : ∀ z, flt z → f z = z) : keeps f := fun z hz => by rw [h z hz]; exact ⟨rfl, rfl⟩
theorem kp_step (st ar : Int32) : keeps (fun z => zStep z st ar) := fun _ _ => ⟨rfl, rfl⟩
theorem kp_dn : keeps zDn := fun _ _ => ⟨rfl, rfl⟩
theorem kp_comp {f g : PZ → PZ} (hf : keeps f) (hg : keeps g) : keeps (fun z => g (f z)) := fun z hz => by
  obtain ⟨a1, a2⟩ := hf z hz
  obtain ⟨b1, b2⟩ := hg (f z) (by show zFault (f z) ≠ 0; rw [a1]; exact hz)
  exact ⟨b1.trans a1, b2.trans a2⟩
/-! the place -/
def mono (f : PZ → PZ) : Prop := ∀ z, zAt z ≤ 600 → zAt z ≤ zAt (f z) ∧ zAt (f z) ≤ 600
theorem mo_comp {f g : PZ → PZ} (hf : mono f) (hg : mono g) : mono (fun z => g (f z)) := fun z hz => by
  have a := hf z hz
  have b := hg (f z) a.2
  exact ⟨Nat.le_trans a.1 b.1, b.2⟩
theorem at_fail (u : TK) (z : PZ) (n : Int32) : zAt (pFail u z n) = zAt z := by unfold pFail; split <;> rfl
theorem at_failL (u : TK) (z : PZ) (n : Int32) : zAt (pFailL u z n) = zAt z := by unfold pFailL; split <;> rfl
theorem mo_fail (u : TK) (n : Int32) : mono (fun z => pFail u z n) := fun z hz => by
  show zAt z ≤ zAt (pFail u z n) ∧ zAt (pFail u z n) ≤ 600
  rw [at_fail]; exact ⟨Nat.le_refl _, hz⟩
theorem mo_exp' (u : TK) (z : PZ) (k : Int32) (hz : zAt z ≤ 600) : zAt z ≤ zAt (pExp u z k) ∧ zAt (pExp u z k) ≤ 600 ∧ (flt (pExp u z k) ∨ zAt (pExp u z k) = zAt z + 1) := by
  unfold pExp
  split
  · rename_i hs
    have h0 : zFault z = 0 := (of_decide_eq_true hs).1
    split
    · rw [at_fail]
      refine ⟨Nat.le_refl _, hz, Or.inl ?_⟩
      unfold pFail; rw [if_pos h0]; show (2 : Int32) ≠ 0; decide
    · exact ⟨Nat.le_succ _, by show zAt z + 1 ≤ 600; omega, Or.inr rfl⟩
  · rw [at_fail]
    refine ⟨Nat.le_refl _, hz, Or.inl ?_⟩
    unfold pFail
    split
    · show (1 : Int32) ≠ 0; decide
    · rename_i h; exact h
theorem mo_exp (u : TK) (k : Int32) : mono (fun z => pExp u z k) := fun z hz => ⟨(mo_exp' u z k hz).1, (mo_exp' u z k hz).2.1⟩
theorem mo_accZ (u : TK) (k : Int32) : mono (fun z => pAccZ u z k) := fun z hz => by
  show zAt z ≤ zAt (pAccZ u z k) ∧ zAt (pAccZ u z k) ≤ 600
  unfold pAccZ
  split
  · exact mo_exp u k z hz
  · exact ⟨Nat.le_refl _, hz⟩
theorem mo_opZ (u : TK) (k : Int32) : mono (fun z => pOpZ u z k) := fun z hz => by
  show zAt z ≤ zAt (pOpZ u z k) ∧ zAt (pOpZ u z k) ≤ 600
  unfold pOpZ
  split
  · split
    · rw [at_fail]; exact ⟨Nat.le_refl _, hz⟩
    · exact mo_exp u k (zUp z) hz
  · exact ⟨Nat.le_refl _, hz⟩
theorem mo_step (st ar : Int32) : mono (fun z => zStep z st ar) := fun _ hz => ⟨Nat.le_refl _, hz⟩
theorem mo_dn : mono zDn := fun _ hz => ⟨Nat.le_refl _, hz⟩
theorem mo_loop {u : TK} {k st : Int32} {f : PZ → PZ} (hf : mono f) : ∀ m, mono (rLoop u k st f m)
  | 0 => fun _ hz => ⟨Nat.le_refl _, hz⟩
  | m + 1 => fun z hz => by
    unfold rLoop
    split
    · exact mo_comp (mo_comp (mo_accZ u k) hf) (mo_comp (mo_step st 0) (mo_loop hf m)) z hz
    · exact mo_accZ u k z hz
theorem mo_sums {u : TK} {f : PZ → PZ} (hf : mono f) : ∀ m, mono (rSums u f m)
  | 0 => fun _ hz => ⟨Nat.le_refl _, hz⟩
  | m + 1 => fun z hz => by
    unfold rSums
    split
    · exact mo_comp (mo_comp (mo_exp u (u.1 (zAt z))) hf) (mo_comp (mo_step 5 0) (mo_sums hf m)) z hz
    · split
      · exact mo_comp (mo_comp (mo_exp u (u.1 (zAt z))) hf) (mo_comp (mo_step 6 0) (mo_sums hf m)) z hz
      · exact ⟨Nat.le_refl _, hz⟩
theorem mo_trait (u : TK) (st : Int32) : mono (fun z => rTrait u z st) := fun z hz => by
  have h2 := mo_comp (mo_exp u (u.1 (zAt z))) (mo_exp u 46) z hz
  have h2 : zAt z ≤ zAt (pExp u (pExp u z (u.1 (zAt z))) 46) ∧ zAt (pExp u (pExp u z (u.1 (zAt z))) 46) ≤ 600 := h2
  show zAt z ≤ zAt (rTrait u z st) ∧ zAt (rTrait u z st) ≤ 600
  unfold rTrait
  dsimp only
  generalize pExp u (pExp u z (u.1 (zAt z))) 46 = y at h2
  have key : ∀ w : PZ, zAt w = zAt y → zAt z ≤ zAt (pExp u w 2) ∧ zAt (pExp u w 2) ≤ 600 := fun w e => by
    have := mo_exp' u w 2 (by rw [e]; exact h2.2)
    exact ⟨by omega, this.2.1⟩
  apply key
  split
  · show zAt (if txNamed y.2 (u.2.2 (zAt y)) = none then pFailL u y 4 else y) = zAt y
    split
    · exact at_failL u y 4
    · rfl
  · rfl
theorem mo_unitF {u : TK} {f : PZ → PZ} (hf : mono f) : mono (rUnitF u f) := fun z hz => by
  unfold rUnitF
  split
  · exact mo_comp (mo_step 0 _) (mo_exp u 3) z hz
  · split
    · exact mo_trait u 1 z hz
    · split
      · exact mo_trait u 2 z hz
      · split
        · exact mo_comp (mo_comp (mo_opZ u 40) hf) (mo_comp (mo_exp u 41) mo_dn) z hz
        · exact mo_comp (mo_opZ u 40) (mo_fail u 1) z hz
theorem mo_idz : mono id := fun _ hz => ⟨Nat.le_refl _, hz⟩
theorem mo_ap {g : PZ → PZ} (hg : mono g) {z y : PZ} (h : zAt z ≤ zAt y ∧ zAt y ≤ 600) : zAt z ≤ zAt (g y) ∧ zAt (g y) ≤ 600 := ⟨Nat.le_trans h.1 (hg y h.2).1, (hg y h.2).2⟩
theorem mo_partF {u : TK} {f : PZ → PZ} (hf : mono f) : mono (rPartF u f) := fun z hz => by
  unfold rPartF
  exact mo_ap (g := rLoop u 42 7 f 600) (mo_loop hf 600) (hf z hz)
theorem mo_sumF {u : TK} {f : PZ → PZ} (hf : mono f) : mono (rSumF u f) := fun z hz => by
  unfold rSumF
  refine mo_ap (g := rSums u f 600) (mo_sums hf 600) ?_
  split
  · exact mo_ap (g := fun y => zStep y 3 0) (mo_step 3 0) (mo_ap (g := f) hf (mo_accZ u 45 z hz))
  · exact mo_ap (g := f) hf (mo_accZ u 45 z hz)
theorem mo_sum (u : TK) : ∀ g, mono (rSum u g)
  | 0 => mo_sumF (mo_partF (mo_unitF mo_idz))
  | g + 1 => mo_sumF (mo_partF (mo_unitF (mo_sum u g)))
theorem mo_unit (u : TK) : ∀ g, mono (rUnit u g)
  | 0 => mo_unitF mo_idz
  | g + 1 => mo_unitF (mo_sum u g)
theorem mo_part (u : TK) (g : Nat) : mono (rPart u g) := mo_partF (mo_unit u g)
/-! fuel -/
def fuO (m : Nat) (z : PZ) : Prop := flt z ∨ (zAt z ≤ 600 ∧ 601 ≤ m + zAt z)
theorem fu_next {u : TK} {z : PZ} {k st : Int32} {f : PZ → PZ} {m : Nat} (hf : mono f) (hk : keeps f) (hm : zAt z ≤ 600 ∧ 601 ≤ m + 1 + zAt z) : fuO m (zStep (f (pExp u z k)) st 0) := by
  obtain ⟨a1, a2, a3⟩ := mo_exp' u z k hm.1
  rcases a3 with a3 | a3
  · left
    show zFault (f (pExp u z k)) ≠ 0
    rw [(hk _ a3).1]; exact a3
  · right
    obtain ⟨b1, b2⟩ := hf _ a2
    exact ⟨b2, by show 601 ≤ m + zAt (f (pExp u z k)); omega⟩
theorem rLoop_fu {u : TK} {k st : Int32} {f : PZ → PZ} (hf : mono f) (hk : keeps f) : ∀ m z, fuO m z → rLoop u k st f (m + 1) z = rLoop u k st f m z
  | 0, z, h => by
    rcases h with h | h
    · rw [fz_loop h, fz_loop h]
    · omega
  | m + 1, z, h => by
    rcases h with h | h
    · rw [fz_loop h, fz_loop h]
    · show (if pAccB u z k = true then rLoop u k st f (m + 1) (zStep (f (pAccZ u z k)) st 0) else pAccZ u z k) = (if pAccB u z k = true then rLoop u k st f m (zStep (f (pAccZ u z k)) st 0) else pAccZ u z k)
      by_cases hb : pAccB u z k = true
      · rw [if_pos hb, if_pos hb]
        refine rLoop_fu hf hk m _ ?_
        have e : pAccZ u z k = pExp u z k := by
          unfold pAccZ
          unfold pAccB at hb
          split at hb
          · rename_i hs; rw [if_pos hs]
          · cases hb
        rw [e]
        exact fu_next hf hk h
      · rw [if_neg hb, if_neg hb]
theorem rSums_fu {u : TK} {f : PZ → PZ} (hf : mono f) (hk : keeps f) : ∀ m z, fuO m z → rSums u f (m + 1) z = rSums u f m z
  | 0, z, h => by
    rcases h with h | h
    · rw [fz_sums h, fz_sums h]
    · omega
  | m + 1, z, h => by
    rcases h with h | h
    · rw [fz_sums h, fz_sums h]
    · show (if pSees u z 43 = true then rSums u f (m + 1) (zStep (f (pExp u z (u.1 (zAt z)))) 5 0) else if pSees u z 45 = true then rSums u f (m + 1) (zStep (f (pExp u z (u.1 (zAt z)))) 6 0) else z) = (if pSees u z 43 = true then rSums u f m (zStep (f (pExp u z (u.1 (zAt z)))) 5 0) else if pSees u z 45 = true then rSums u f m (zStep (f (pExp u z (u.1 (zAt z)))) 6 0) else z)
      by_cases hb : pSees u z 43 = true
      · rw [if_pos hb, if_pos hb]
        exact rSums_fu hf hk m _ (fu_next hf hk h)
      · rw [if_neg hb, if_neg hb]
        by_cases hb : pSees u z 45 = true
        · rw [if_pos hb, if_pos hb]
          exact rSums_fu hf hk m _ (fu_next hf hk h)
        · rw [if_neg hb, if_neg hb]
theorem rLoop_6 {u : TK} {k st : Int32} {f : PZ → PZ} (z : PZ) : rLoop u k st f 600 z = if pAccB u z k = true then rLoop u k st f 599 (zStep (f (pAccZ u z k)) st 0) else pAccZ u z k := rLoop.eq_2 u k st f z 599
theorem rSums_6 {u : TK} {f : PZ → PZ} (z : PZ) : rSums u f 600 z = if pSees u z 43 = true then rSums u f 599 (zStep (f (pExp u z (u.1 (zAt z)))) 5 0) else if pSees u z 45 = true then rSums u f 599 (zStep (f (pExp u z (u.1 (zAt z)))) 6 0) else z := rSums.eq_2 u f z 599
