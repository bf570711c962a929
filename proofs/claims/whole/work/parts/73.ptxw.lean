/-! a text that was read: every rule's code leaves one value -/
def TxW (s : TX) : Prop := txRules s ≤ 20 ∧ txSize s ≤ 600 ∧ ∀ r, r < txRules s → s.2.2.1 r ≤ s.2.2.2.1 r ∧ s.2.2.2.1 r ≤ s.2.2.2.2.1 r ∧ s.2.2.2.2.1 r ≤ txSize s ∧ (s.2.2.2.1 r = s.2.2.2.2.1 r ∨ wf s.1 true (s.2.2.2.1 r) (s.2.2.2.2.1 r) 22) ∧ (s.2.1 r = false → wf s.1 false (s.2.2.1 r) (s.2.2.2.1 r) 19)
def dat (s : TX) : (Nat → Int32) × RW × Nat := (s.1, txRW s, txSize s)
theorem dat_exp (u : TK) (z : PZ) (k : Int32) : dat (pExp u z k).2 = dat z.2 ∧ zOpen (pExp u z k) = zOpen z := by
  refine ⟨by rw [sz_exp], ?_⟩
  unfold pExp pFail
  split
  · split
    · split <;> rfl
    · rfl
  · split <;> rfl
theorem dat_trD (u : TK) (z : PZ) : dat (rTrD u z).2 = dat z.2 ∧ zOpen (rTrD u z) = zOpen z ∧ (zAt z ≤ 600 → zAt z ≤ zAt (rTrD u z) ∧ zAt (rTrD u z) ≤ 600) := by
  have f1 : ∀ (y : PZ) (n : Int32), dat (pFail u y n).2 = dat y.2 ∧ zOpen (pFail u y n) = zOpen y := fun y n => by unfold pFail; split <;> exact ⟨rfl, rfl⟩
  have f2 : ∀ (y : PZ) (n : Int32), dat (pFailL u y n).2 = dat y.2 ∧ zOpen (pFailL u y n) = zOpen y := fun y n => by unfold pFailL; split <;> exact ⟨rfl, rfl⟩
  have f3 : ∀ (y : PZ) (v : Int64), dat (zAddT y v).2 = dat y.2 ∧ zOpen (zAddT y v) = zOpen y := fun y v => by
    refine ⟨?_, rfl⟩
    show dat (txAddT y.2 v) = dat y.2
    unfold txAddT; split <;> rfl
  have a1 : dat (rTr1 u z).2 = dat z.2 ∧ zOpen (rTr1 u z) = zOpen z ∧ (zAt z ≤ 600 → zAt z ≤ zAt (rTr1 u z) ∧ zAt (rTr1 u z) ≤ 600) := by
    unfold rTr1
    by_cases h : txTraits z.2 = 8
    · rw [if_pos h]
      have e := dat_exp u (pFail u z 2) 10
      have e2 := f1 z 2
      refine ⟨e.1.trans e2.1, e.2.trans e2.2, fun h6 => ?_⟩
      have := mo_exp' u (pFail u z 2) 10 (by rw [at_fail]; exact h6)
      rw [at_fail] at this
      exact ⟨this.1, this.2.1⟩
    · rw [if_neg h]
      have e := dat_exp u z 10
      exact ⟨e.1, e.2, fun h6 => ⟨(mo_exp' u z 10 h6).1, (mo_exp' u z 10 h6).2.1⟩⟩
  have a2 : ∀ y : PZ, dat (rTr2 u y).2 = dat y.2 ∧ zOpen (rTr2 u y) = zOpen y ∧ zAt (rTr2 u y) = zAt y := fun y => by
    unfold rTr2
    split
    · have e := f3 (if txNamed y.2 (u.2.2 (zAt y)) = none then y else pFailL u y 3) (u.2.2 (zAt y))
      have e2 : dat (if txNamed y.2 (u.2.2 (zAt y)) = none then y else pFailL u y 3).2 = dat y.2 ∧ zOpen (if txNamed y.2 (u.2.2 (zAt y)) = none then y else pFailL u y 3) = zOpen y ∧ zAt (if txNamed y.2 (u.2.2 (zAt y)) = none then y else pFailL u y 3) = zAt y := by
        split
        · exact ⟨rfl, rfl, rfl⟩
        · exact ⟨(f2 y 3).1, (f2 y 3).2, at_failL u y 3⟩
      exact ⟨e.1.trans e2.1, e.2.trans e2.2.1, e2.2.2⟩
    · exact ⟨rfl, rfl, rfl⟩
  unfold rTrD
  have b := a2 (rTr1 u z)
  have c := dat_exp u (rTr2 u (rTr1 u z)) 2
  have d := dat_exp u (pExp u (rTr2 u (rTr1 u z)) 2) 59
  refine ⟨d.1.trans (c.1.trans (b.1.trans a1.1)), d.2.trans (c.2.trans (b.2.1.trans a1.2.1)), fun h6 => ?_⟩
  have m1 := a1.2.2 h6
  have m2 := mo_exp' u (rTr2 u (rTr1 u z)) 2 (by rw [b.2.2]; exact m1.2)
  have m3 := mo_exp' u (pExp u (rTr2 u (rTr1 u z)) 2) 59 m2.2.1
  rw [b.2.2] at m2
  exact ⟨by omega, m3.2.1⟩
theorem dat_tr (u : TK) : ∀ m z, dat (pTr u m z).2 = dat z.2 ∧ zOpen (pTr u m z) = zOpen z ∧ (zAt z ≤ 600 → zAt z ≤ zAt (pTr u m z) ∧ zAt (pTr u m z) ≤ 600) := by
  intro m
  induction m with
  | zero => intro z; exact ⟨rfl, rfl, fun h => ⟨Nat.le_refl _, h⟩⟩
  | succ m ih =>
    intro z
    unfold pTr
    split
    · have a := dat_trD u z
      have b := ih (rTrD u z)
      exact ⟨b.1.trans a.1, b.2.1.trans a.2.1, fun h6 => by
        have c := a.2.2 h6
        have d := b.2.2 c.2
        exact ⟨by omega, d.2⟩⟩
    · exact ⟨rfl, rfl, fun h => ⟨Nat.le_refl _, h⟩⟩
theorem TxW_dat {s t : TX} (h : dat s = dat t) (hs : TxW s) : TxW t := by
  have e1 : s.1 = t.1 := (Prod.mk.inj h).1
  have e2 : txRW s = txRW t := (Prod.mk.inj (Prod.mk.inj h).2).1
  have e3 : txSize s = txSize t := (Prod.mk.inj (Prod.mk.inj h).2).2
  have r1 : s.2.1 = t.2.1 := congrArg (·.1) e2
  have r2 : s.2.2.1 = t.2.2.1 := congrArg (·.2.1) e2
  have r3 : s.2.2.2.1 = t.2.2.2.1 := congrArg (·.2.2.1) e2
  have r4 : s.2.2.2.2.1 = t.2.2.2.2.1 := congrArg (·.2.2.2.1) e2
  have r5 : txRules s = txRules t := congrArg (·.2.2.2.2) e2
  unfold TxW at hs ⊢
  rw [e1, e3, r1, r2, r3, r4, r5] at hs
  exact hs
/-- the rules so far -/
def J (z : PZ) : Prop := zAt z ≤ 600 ∧ txSize z.2 ≤ zAt z ∧ zOpen z = 0 ∧ TxW z.2
theorem addR_w {z0 y : PZ} {b : Bool} {i j : Nat} (hz : TxW z0.2) (hl : lo z0 y) (h6 : txSize y.2 ≤ 600) (h20 : txRules z0.2 < 20) (h1 : i ≤ j) (h2 : j ≤ txSize y.2) (hc : j = txSize y.2 ∨ wf y.2.1 true j (txSize y.2) 22) (hx : b = false → wf y.2.1 false i j 19) : TxW (zAddR y b i j).2 := by
  have hrw := hl.2.2.2
  have e1 : txRules y.2 = txRules z0.2 := congrArg (·.2.2.2.2) hrw
  have e2 : y.2.2.1 = z0.2.2.1 := congrArg (·.1) hrw
  have e3 : y.2.2.2.1 = z0.2.2.2.1 := congrArg (·.2.1) hrw
  have e4 : y.2.2.2.2.1 = z0.2.2.2.2.1 := congrArg (·.2.2.1) hrw
  have e5 : y.2.2.2.2.2.1 = z0.2.2.2.2.2.1 := congrArg (·.2.2.2.1) hrw
  have e : (zAddR y b i j).2 = (y.2.1, updB y.2.2.1 (txRules y.2) b, va_up y.2.2.2.1 (txRules y.2) i, va_up y.2.2.2.2.1 (txRules y.2) j, va_up y.2.2.2.2.2.1 (txRules y.2) (txSize y.2), y.2.2.2.2.2.2.1, txSize y.2, txRules y.2 + 1, txTraits y.2) := by
    unfold zAddR txRule
    rw [if_neg (by omega)]
  rw [e]
  refine ⟨by show txRules y.2 + 1 ≤ 20; omega, h6, fun r hr' => ?_⟩
  have hr' : r < txRules y.2 + 1 := hr'
  show va_up y.2.2.2.1 (txRules y.2) i r ≤ va_up y.2.2.2.2.1 (txRules y.2) j r ∧ va_up y.2.2.2.2.1 (txRules y.2) j r ≤ va_up y.2.2.2.2.2.1 (txRules y.2) (txSize y.2) r ∧ va_up y.2.2.2.2.2.1 (txRules y.2) (txSize y.2) r ≤ txSize y.2 ∧ (va_up y.2.2.2.2.1 (txRules y.2) j r = va_up y.2.2.2.2.2.1 (txRules y.2) (txSize y.2) r ∨ wf y.2.1 true (va_up y.2.2.2.2.1 (txRules y.2) j r) (va_up y.2.2.2.2.2.1 (txRules y.2) (txSize y.2) r) 22) ∧ (updB y.2.2.1 (txRules y.2) b r = false → wf y.2.1 false (va_up y.2.2.2.1 (txRules y.2) i r) (va_up y.2.2.2.2.1 (txRules y.2) j r) 19)
  by_cases er : r = txRules y.2
  · subst er
    rw [up_at, up_at, up_at, uB_at]
    exact ⟨h1, h2, Nat.le_refl _, hc, hx⟩
  · rw [up_ne er, up_ne er, up_ne er, uB_ne er, e2, e3, e4, e5]
    obtain ⟨a1, a2, a3, a4, a5⟩ := hz.2.2 r (by omega)
    have l1 := hl.1
    refine ⟨a1, a2, by omega, ?_, fun q => ?_⟩
    · rcases a4 with a4 | a4
      · exact Or.inl a4
      · exact Or.inr (wf_congr a4 (fun i _ i2 => (hl.2.1 i (by omega)).symm))
    · exact wf_congr (a5 q) (fun i _ i2 => (hl.2.1 i (by omega)).symm)
theorem J_nx {z : PZ} (h : J z) (h0 : zFault z = 0) (h6 : zAt z < 600) : gd (zNx z) 1 := ⟨h0, by show zAt z + 1 ≤ 600; omega, by decide, by show txSize z.2 + 1 ≤ zAt z + 1; have := h.2.1; omega, by show zOpen z ≤ 8; have := h.2.2.1; omega⟩
theorem J_ru {u : TK} {z : PZ} (h : J z) (hf : zFault (rRuD u z) = 0) : J (rRuD u z) := by
  obtain ⟨G, hG⟩ : ∃ G : Nat, G = 8 := ⟨8, rfl⟩
  have eB : ∀ z, rRuB u z = zAddR (pExp u (rCond u G (pExp u z 11)) 59) true (txSize z.2) (txSize z.2) := fun z => by rw [rRuB, hG]
  have eC : ∀ z, rRuC u z = zAddR (pExp u (rRuG u G (rSum u G (pExp u z 12))) 59) false (txSize z.2) (txSize (rSum u G (pExp u z 12)).2) := fun z => by rw [rRuC, hG, ← rRuI_g]
  rw [rRuD] at hf ⊢
  rw [eB, eC] at hf ⊢
  clear eB eC
  have D1 : 2 * G + 6 = 22 := by omega
  have D2 : 2 * G + 3 = 19 := by omega
  by_cases h20 : txRules z.2 = 20
  · exfalso
    have e1 : rRu1 u z = pFail u z 2 := by unfold rRu1; rw [if_pos h20]
    have f1 := fail_ne (u := u) (z := z) (n := 2) (by decide)
    rw [e1, fz_sees f1, if_neg (by decide)] at hf
    have hf : zFault (pExp u (rRuG u G (rSum u G (pExp u (pFail u z 2) 12))) 59) = 0 := hf
    rw [fz_exp f1, fz_sum f1] at hf
    have := nf_of (kp_exp u 59) hf
    exact f1 (nf_of (kp_ruG u G) this)
  · have e1 : rRu1 u z = z := by unfold rRu1; rw [if_neg h20]
    have hlt : txRules z.2 < 20 := by have := h.2.2.2.1; omega
    rw [e1] at hf ⊢
    have fin : ∀ (y : PZ) (b : Bool) (i j : Nat), zFault (pExp u y 59) = 0 → gd y 1 → lo z y → i ≤ j → j ≤ txSize y.2 → (j = txSize y.2 ∨ wf y.2.1 true j (txSize y.2) 22) → (b = false → wf y.2.1 false i j 19) → J (zAddR (pExp u y 59) b i j) := fun y b i j hy hgd hlo h1 h2 hc hx => by
      obtain ⟨p1, p2, p3, _⟩ := ok_exp hy
      rw [p3]
      have sz : txSize (zAddR (zNx y) b i j).2 = txSize y.2 := by
        show txSize (txRule y.2 b i j) = txSize y.2
        unfold txRule; split <;> rfl
      refine ⟨by show zAt y + 1 ≤ 600; omega, by rw [sz]; show txSize y.2 ≤ zAt y + 1; have := hgd.2.2.2.1; omega, ?_, ?_⟩
      · show zOpen y = 0
        rw [hlo.2.2.1]; exact h.2.2.1
      · refine addR_w (z0 := z) (y := zNx y) h.2.2.2 hlo ?_ hlt h1 h2 hc hx
        show txSize y.2 ≤ 600
        have := hgd.2.2.2.1; have := hgd.2.1; omega
    by_cases h11 : pSees u z 11 = true
    · rw [if_pos h11] at hf ⊢
      have hf : zFault (pExp u (rCond u G (pExp u z 11)) 59) = 0 := hf
      have f1 := nf_of (kp_exp u 59) hf
      have f2 := nf_of (kp_cond u G) f1
      obtain ⟨p1, p2, p3, _⟩ := ok_exp f2
      rw [p3] at hf f1 ⊢
      obtain ⟨a1, a2, a3⟩ := WF_cond (u := u) G (zNx z) 1 (J_nx h p1 p2) (by show 8 ≤ zOpen z + G; omega) f1
      rw [D1] at a3
      exact fin _ true _ _ hf a1 a2 (Nat.le_refl _) a2.1 (Or.inr a3) (fun q => by cases q)
    · rw [if_neg h11] at hf ⊢
      have hf : zFault (pExp u (rRuG u G (rSum u G (pExp u z 12))) 59) = 0 := hf
      have f1 := nf_of (kp_exp u 59) hf
      have f2 := nf_of (kp_ruG u G) f1
      have f3 := nf_of (kp_sum u G) f2
      obtain ⟨p1, p2, p3, _⟩ := ok_exp f3
      rw [p3] at hf f1 f2 ⊢
      obtain ⟨a1, a2, a3⟩ := WF_sum (u := u) G (zNx z) 1 (J_nx h p1 p2) (by show 8 ≤ zOpen z + G; omega) f2
      rw [D2] at a3
      have a2 : lo z (rSum u G (zNx z)) := a2
      have a3 : wf (rSum u G (zNx z)).2.1 false (txSize z.2) (txSize (rSum u G (zNx z)).2) 19 := a3
      generalize rSum u G (zNx z) = y at hf f1 f2 a1 a2 a3
      rw [rRuG] at hf f1 ⊢
      by_cases hB : pAccB u y 13 = true
      · rw [if_pos hB] at hf f1 ⊢
        have hx : zFault (pExp u y 13) = 0 ∧ pAccZ u y 13 = pExp u y 13 := by
          unfold pAccB at hB
          unfold pAccZ
          by_cases hs : pSees u y 13 = true
          · rw [if_pos hs] at hB ⊢; exact ⟨of_decide_eq_true hB, rfl⟩
          · rw [if_neg hs] at hB; cases hB
        obtain ⟨x1, x2⟩ := hx
        obtain ⟨y1, y2, y3, y4⟩ := ok_exp x1
        rw [x2, y3] at hf f1 ⊢
        have g2 := nx_gd a1 y2
        obtain ⟨b1, b2, b3⟩ := WF_cond (u := u) G (zNx y) 1 (gd_wk g2 (by decide) (by decide)) (by show 8 ≤ zOpen y + G; omega) f1
        rw [D1] at b3
        have b2 : lo y (rCond u G (zNx y)) := b2
        exact fin _ false _ _ hf b1 (lo_tr a2 b2) a2.1 b2.1 (Or.inr b3) (fun _ => wf_congr a3 (fun i _ i2 => (b2.2.1 i i2).symm))
      · rw [if_neg hB] at hf f1 ⊢
        have e : pAccZ u y 13 = y := by
          unfold pAccZ at f1 ⊢
          by_cases hs : pSees u y 13 = true
          · exfalso
            rw [if_pos hs] at f1
            exact hB (by unfold pAccB; rw [if_pos hs]; exact decide_eq_true f1)
          · rw [if_neg hs]
        rw [e] at hf ⊢
        exact fin _ false _ _ hf a1 a2 a2.1 (Nat.le_refl _) (Or.inl rfl) (fun _ => a3)
theorem J_pRu {u : TK} : ∀ m z, J z → zFault (pRu u m z) = 0 → J (pRu u m z) := by
  intro m
  induction m with
  | zero => intro z h _; exact h
  | succ m ih =>
    intro z h hf
    unfold pRu at hf ⊢
    split at hf
    · rename_i hc
      rw [if_pos hc]
      have h0 : zFault (rRuD u z) = 0 := Classical.byContradiction (fun q => by rw [fz_ru q] at hf; exact q hf)
      exact ih _ (J_ru h h0) hf
    · rename_i hc
      rw [if_neg hc]
      exact h
theorem parse_w {u : TK} {z : PZ} (h : zFault (pParse u z) = 0) : TxW (pParse u z).2 := by
  unfold pParse at h ⊢
  have j0 : J (pTr u 9 (pZ0 z)) := by
    have d := dat_tr u 9 (pZ0 z)
    have m := d.2.2 (Nat.zero_le _)
    have w : TxW (pZ0 z).2 := ⟨Nat.zero_le _, Nat.zero_le _, fun r hr => absurd hr (Nat.not_lt_zero _)⟩
    have s0 : txSize (pTr u 9 (pZ0 z)).2 = 0 := congrArg (·.2.2) d.1
    exact ⟨m.2, by omega, d.2.1, TxW_dat d.1.symm w⟩
  generalize pTr u 9 (pZ0 z) = y1 at h j0
  have h2 : zFault (pEn1 u (pRu u 21 y1)) = 0 := Classical.byContradiction (fun q => by
    have e : pEn2 (pEn1 u (pRu u 21 y1)) = pEn1 u (pRu u 21 y1) := by unfold pEn2; rw [if_neg q]
    rw [e] at h
    exact q h)
  have h3 : zFault (pRu u 21 y1) = 0 := Classical.byContradiction (fun q => by rw [fz_en q] at h2; exact q h2)
  have j1 := J_pRu 21 y1 j0 h3
  generalize pRu u 21 y1 = y2 at h h2 h3 j1
  have e1 : (pEn1 u y2).2 = y2.2 := by
    unfold pEn1
    split
    · rfl
    · unfold pFail; split <;> rfl
  have e2 : (pEn2 (pEn1 u y2)).2 = y2.2 := by
    rw [← e1]
    unfold pEn2
    split <;> rfl
  rw [e2]
  exact j1.2.2.2
