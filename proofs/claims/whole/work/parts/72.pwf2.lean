/-! every part of the grammar writes one value's code -/
theorem wf_un2 {cd : Nat → Int32} {bo : Bool} {a b D s : Nat} {st ar : Int32} (h : wf cd bo a b D) (es : st = nI s) (hs : s = 3 ∨ (s = 4 ∧ bo = true)) (hb : s = 3 → bo = false) (e : cd b = txEnc st ar) : wf cd bo a (b + 1) D := by
  subst es
  exact wf_un h hs hb e
theorem wf_leaf2 {cd : Nat → Int32} {a s : Nat} {st ar : Int32} (es : st = nI s) (hs : s ≤ 2) (e : cd a = txEnc st ar) : wf cd false a (a + 1) 1 := by
  subst es
  exact wf_leaf hs e
theorem fail_ne {u : TK} {z : PZ} {n : Int32} (hn : n ≠ 0) : flt (pFail u z n) := by
  unfold pFail
  split
  · exact hn
  · rename_i h; exact h
theorem nf_of {f : PZ → PZ} {z : PZ} (hk : keeps f) (h : zFault (f z) = 0) : zFault z = 0 := Classical.byContradiction (fun q => by
  have := (hk z q).1
  rw [h] at this
  exact q this.symm)
theorem nx_lo (z : PZ) : lo z (zNx z) := lo_rf z
theorem WF_trait {u : TK} {z : PZ} {P s : Nat} (hs : s = 1 ∨ s = 2) (hg : gd z P) (h : zFault (rTrait u z (nI s)) = 0) : gd (rTrait u z (nI s)) P ∧ lo z (rTrait u z (nI s)) ∧ wf (rTrait u z (nI s)).2.1 false (txSize z.2) (txSize (rTrait u z (nI s)).2) 1 := by
  have e : rTrait u z (nI s) = pExp u (if pSees u (pExp u (pExp u z (u.1 (zAt z))) 46) 2 = true then zStep (if txNamed (pExp u (pExp u z (u.1 (zAt z))) 46).2 (u.2.2 (zAt (pExp u (pExp u z (u.1 (zAt z))) 46))) = none then pFailL u (pExp u (pExp u z (u.1 (zAt z))) 46) 4 else (pExp u (pExp u z (u.1 (zAt z))) 46)) (nI s) (eo (txNamed (pExp u (pExp u z (u.1 (zAt z))) 46).2 (u.2.2 (zAt (pExp u (pExp u z (u.1 (zAt z))) 46))))) else (pExp u (pExp u z (u.1 (zAt z))) 46)) 2 := rfl
  rw [e] at h ⊢
  clear e
  by_cases h2 : pSees u (pExp u (pExp u z (u.1 (zAt z))) 46) 2 = true
  · rw [if_pos h2] at h ⊢
    have hz2 : zFault (pExp u (pExp u z (u.1 (zAt z))) 46) = 0 := (of_decide_eq_true h2).1
    obtain ⟨p1, p2, p3, _⟩ := ok_exp hz2
    obtain ⟨q1, q2, q3, _⟩ := ok_exp p1
    rw [q3] at p2 p3
    rw [q3, p3] at h ⊢
    generalize eo (txNamed (zNx (zNx z)).2 (u.2.2 (zAt (zNx (zNx z))))) = ar at h ⊢
    have hz : gd (zNx (zNx z)) (P + 2) := nx_gd (nx_gd hg q2) p2
    have key : ∀ y : PZ, gd y (P + 2) → y.2 = z.2 → zOpen y = zOpen z → zFault (pExp u (zStep y (nI s) ar) 2) = 0 → gd (pExp u (zStep y (nI s) ar) 2) P ∧ lo z (pExp u (zStep y (nI s) ar) 2) ∧ wf (pExp u (zStep y (nI s) ar) 2).2.1 false (txSize z.2) (txSize (pExp u (zStep y (nI s) ar) 2).2) 1 := fun y hy ey eo_ hf => by
      obtain ⟨b1, b2, b3, b4⟩ := st_gd (st := nI s) (ar := ar) (P := P + 1) hy (by omega)
      obtain ⟨c1, c2, c3, _⟩ := ok_exp hf
      rw [c3]
      have d := nx_gd b1 c2
      rw [ey] at b3 b4
      refine ⟨gd_wk d hg.2.2.1 (by omega), ⟨?_, fun i hi => ?_, b2.2.2.1.trans eo_, b2.2.2.2.trans (by rw [ey])⟩, ?_⟩
      · show txSize z.2 ≤ txSize (zStep y (nI s) ar).2
        omega
      · show (zStep y (nI s) ar).2.1 i = z.2.1 i
        rw [b2.2.1 i (by rw [ey]; exact hi), ey]
      · show wf (zStep y (nI s) ar).2.1 false (txSize z.2) (txSize (zStep y (nI s) ar).2) 1
        rw [b3]
        exact wf_leaf (s := s) (by omega) b4
    by_cases hn : txNamed (zNx (zNx z)).2 (u.2.2 (zAt (zNx (zNx z)))) = none
    · rw [if_pos hn] at h ⊢
      refine key (pFailL u (zNx (zNx z)) 4) ?_ ?_ ?_ h
      · unfold pFailL
        split
        · exact hz
        · exact hz
      · unfold pFailL; split <;> rfl
      · unfold pFailL; split <;> rfl
    · rw [if_neg hn] at h ⊢
      exact key (zNx (zNx z)) hz rfl rfl h
  · exfalso
    rw [if_neg h2] at h
    exact h2 (ok_exp h).2.2.2
theorem WF_trait2 {u : TK} {z : PZ} {P s : Nat} {st : Int32} (es : st = nI s) (hs : s = 1 ∨ s = 2) (hg : gd z P) (h : zFault (rTrait u z st) = 0) : gd (rTrait u z st) P ∧ lo z (rTrait u z st) ∧ wf (rTrait u z st).2.1 false (txSize z.2) (txSize (rTrait u z st).2) 1 := by
  subst es
  exact WF_trait hs hg h
theorem WF_unitF {u : TK} {f : PZ → PZ} {D g : Nat} (hD : 1 ≤ D) (hf : ∀ g', g = g' + 1 → WF f false D g') : WF (rUnitF u f) false D g := by
  intro z P hg ho h
  unfold rUnitF at h ⊢
  by_cases h3 : pSees u z 3 = true
  · rw [if_pos h3] at h ⊢
    obtain ⟨p1, p2, p3, _⟩ := ok_exp h
    rw [p3]
    obtain ⟨b1, b2, b3, b4⟩ := st_gd (st := 0) (ar := Int64.toInt32 (u.2.2 (zAt z))) (P := P) (nx_gd hg p2) hg.2.2.1
    refine ⟨b1, b2, ?_⟩
    show wf (zStep (zNx z) 0 (Int64.toInt32 (u.2.2 (zAt z)))).2.1 false (txSize z.2) (txSize (zStep (zNx z) 0 (Int64.toInt32 (u.2.2 (zAt z)))).2) D
    rw [b3]
    exact wf_mono (wf_leaf2 (st := 0) (s := 0) rfl (by decide) b4) hD
  · rw [if_neg h3] at h ⊢
    by_cases h7 : pSees u z 17 = true
    · rw [if_pos h7] at h ⊢
      obtain ⟨a1, a2, a3⟩ := WF_trait2 (u := u) (z := z) (st := 1) (s := 1) rfl (Or.inl rfl) hg h
      exact ⟨a1, a2, wf_mono a3 hD⟩
    · rw [if_neg h7] at h ⊢
      by_cases h8 : pSees u z 18 = true
      · rw [if_pos h8] at h ⊢
        obtain ⟨a1, a2, a3⟩ := WF_trait2 (u := u) (z := z) (st := 2) (s := 2) rfl (Or.inr rfl) hg h
        exact ⟨a1, a2, wf_mono a3 hD⟩
      · rw [if_neg h8] at h ⊢
        by_cases hB : pOpB u z 40 = true
        · rw [if_pos hB] at h ⊢
          unfold pOpB at hB
          by_cases hs : pSees u z 40 = true
          · rw [if_pos hs] at hB
            by_cases h88 : 8 ≤ zOpen z
            · rw [if_pos h88] at hB; cases hB
            · rw [if_neg h88] at hB
              have eZ : pOpZ u z 40 = pExp u (zUp z) 40 := by unfold pOpZ; rw [if_pos hs, if_neg h88]
              obtain ⟨p1, p2, p3, _⟩ := ok_exp (of_decide_eq_true hB)
              rw [eZ, p3] at h ⊢
              obtain ⟨g', hg'⟩ : ∃ g', g = g' + 1 := ⟨g - 1, by omega⟩
              have h : zFault (pExp u (f (zNx (zUp z))) 41) = 0 := h
              obtain ⟨q1, q2, q3, _⟩ := ok_exp h
              have gu : gd (zUp z) P := ⟨hg.1, hg.2.1, hg.2.2.1, hg.2.2.2.1, by show zOpen z + 1 ≤ 8; omega⟩
              obtain ⟨a1, a2, a3⟩ := hf g' hg' (zNx (zUp z)) (P + 1) (nx_gd gu p2) (by show 8 ≤ zOpen z + 1 + g'; omega) q1
              have a2o : zOpen (f (zNx (zUp z))) = zOpen z + 1 := a2.2.2.1
              rw [q3]
              have d := nx_gd a1 q2
              refine ⟨⟨d.1, d.2.1, hg.2.2.1, ?_, ?_⟩, ⟨a2.1, a2.2.1, ?_, a2.2.2.2⟩, a3⟩
              · have := d.2.2.2.1
                show txSize (zNx (f (zNx (zUp z)))).2 + P ≤ zAt (zNx (f (zNx (zUp z))))
                omega
              · show zOpen (f (zNx (zUp z))) - 1 ≤ 8
                have := hg.2.2.2.2
                omega
              · show zOpen (f (zNx (zUp z))) - 1 = zOpen z
                omega
          · rw [if_neg hs] at hB; cases hB
        · rw [if_neg hB] at h
          exact absurd h (fail_ne (by decide))
theorem WF_loop2 {u : TK} {f : PZ → PZ} {k st : Int32} {s : Nat} {bo : Bool} {D g : Nat} (m : Nat) (hf : WF f bo D g) (hkp : keeps f) (es : st = nI s) (hs : 5 ≤ s) (hs2 : s ≤ 13) (hb : bo = true → 12 ≤ s) : WF (fun z => rLoop u k st f m (f z)) bo (D + 1) g := by
  intro z P hg ho h
  subst es
  have h : zFault (rLoop u k (nI s) f m (f z)) = 0 := h
  have h0 : zFault (f z) = 0 := Classical.byContradiction (fun q => by rw [fz_loop q] at h; exact q h)
  obtain ⟨a1, a2, a3⟩ := hf z P hg ho h0
  obtain ⟨b1, b2, b3⟩ := WF_loop (u := u) (k := k) hf hkp hs hs2 hb m z (f z) P a1 (by rw [a2.2.2.1]; exact ho) h a2.2.1 (wf_mono a3 (by omega))
  exact ⟨b1, lo_tr a2 b2, b3⟩
theorem WF_sums {u : TK} {f : PZ → PZ} {D g : Nat} (hf : WF f false D g) (hk : keeps f) : ∀ (m : Nat) (z0 z : PZ) (P : Nat), gd z P → 8 ≤ zOpen z + g → zFault (rSums u f m z) = 0 → (∀ i, i < txSize z0.2 → z.2.1 i = z0.2.1 i) → wf z.2.1 false (txSize z0.2) (txSize z.2) (D + 1) → gd (rSums u f m z) P ∧ lo z (rSums u f m z) ∧ wf (rSums u f m z).2.1 false (txSize z0.2) (txSize (rSums u f m z).2) (D + 1) := by
  intro m
  induction m with
  | zero => intro z0 z P hg _ _ _ hw; exact ⟨hg, lo_rf z, hw⟩
  | succ m ih =>
    intro z0 z P hg ho hfl hl hw
    have step : ∀ (s : Nat) (st : Int32), st = nI s → (s = 5 ∨ s = 6) → zFault (rSums u f m (zStep (f (pExp u z (u.1 (zAt z)))) st 0)) = 0 → gd (rSums u f m (zStep (f (pExp u z (u.1 (zAt z)))) st 0)) P ∧ lo z (rSums u f m (zStep (f (pExp u z (u.1 (zAt z)))) st 0)) ∧ wf (rSums u f m (zStep (f (pExp u z (u.1 (zAt z)))) st 0)).2.1 false (txSize z0.2) (txSize (rSums u f m (zStep (f (pExp u z (u.1 (zAt z)))) st 0)).2) (D + 1) := fun s st es hs hfl => by
      subst es
      have hf0 : zFault (f (pExp u z (u.1 (zAt z)))) = 0 := Classical.byContradiction (fun q => by
        have q1 : flt (zStep (f (pExp u z (u.1 (zAt z)))) (nI s) 0) := q
        rw [fz_sums q1] at hfl
        exact q1 hfl)
      by_cases he : zFault (pExp u z (u.1 (zAt z))) = 0
      · obtain ⟨y1, y2, y3, y4⟩ := ok_exp he
        rw [y3] at hfl hf0 ⊢
        obtain ⟨a1, a2, a3⟩ := hf (zNx z) (P + 1) (nx_gd hg y2) ho hf0
        obtain ⟨b1, b2, b3, b4⟩ := st_gd (st := nI s) (ar := 0) a1 hg.2.2.1
        have a2o : zOpen (f (zNx z)) = zOpen z := a2.2.2.1
        have e0 : txSize (zNx z).2 = txSize z.2 := rfl
        have l0 : txSize z0.2 ≤ txSize z.2 := hw.1
        have same : ∀ i, i < txSize z.2 → (zStep (f (zNx z)) (nI s) 0).2.1 i = z.2.1 i := fun i hi => by
          rw [b2.2.1 i (by have := a2.1; omega)]
          exact a2.2.1 i hi
        have w1 : wf (zStep (f (zNx z)) (nI s) 0).2.1 false (txSize z0.2) (txSize z.2) (D + 1) := wf_congr hw (fun i _ i2 => (same i i2).symm)
        have w2 : wf (zStep (f (zNx z)) (nI s) 0).2.1 false (txSize z.2) (txSize (f (zNx z)).2) D := wf_congr a3 (fun i _ i2 => (b2.2.1 i i2).symm)
        have w3 := wf_bin (b3 := false) w1 w2 (by omega) (by omega) (fun q => by cases q) b4
        rw [← b3] at w3
        obtain ⟨c1, c2, c3⟩ := ih z0 _ P b1 (by show 8 ≤ zOpen (f (zNx z)) + g; rw [a2o]; exact ho) hfl (fun i hi => (same i (by omega)).trans (hl i hi)) w3
        refine ⟨c1, lo_tr ⟨by have := a2.1; omega, same, ?_, b2.2.2.2.trans a2.2.2.2⟩ c2, c3⟩
        show zOpen (f (zNx z)) = zOpen z
        exact a2o
      · exfalso
        exact he (nf_of hk hf0)
    unfold rSums at hfl ⊢
    by_cases h3 : pSees u z 43 = true
    · rw [if_pos h3] at hfl ⊢
      exact step 5 5 rfl (Or.inl rfl) hfl
    · rw [if_neg h3] at hfl ⊢
      by_cases h5 : pSees u z 45 = true
      · rw [if_pos h5] at hfl ⊢
        exact step 6 6 rfl (Or.inr rfl) hfl
      · rw [if_neg h5]
        exact ⟨hg, lo_rf z, hw⟩
theorem WF_sumF {u : TK} {f : PZ → PZ} {D g : Nat} (m : Nat) (hf : WF f false D g) (hk : keeps f) : WF (fun z => rSums u f m (if pAccB u z 45 = true then zStep (f (pAccZ u z 45)) 3 0 else f (pAccZ u z 45))) false (D + 1) g := by
  intro z P hg ho h
  have h : zFault (rSums u f m (if pAccB u z 45 = true then zStep (f (pAccZ u z 45)) 3 0 else f (pAccZ u z 45))) = 0 := h
  show gd (rSums u f m (if pAccB u z 45 = true then zStep (f (pAccZ u z 45)) 3 0 else f (pAccZ u z 45))) P ∧ lo z (rSums u f m (if pAccB u z 45 = true then zStep (f (pAccZ u z 45)) 3 0 else f (pAccZ u z 45))) ∧ wf (rSums u f m (if pAccB u z 45 = true then zStep (f (pAccZ u z 45)) 3 0 else f (pAccZ u z 45))).2.1 false (txSize z.2) (txSize (rSums u f m (if pAccB u z 45 = true then zStep (f (pAccZ u z 45)) 3 0 else f (pAccZ u z 45))).2) (D + 1)
  by_cases hB : pAccB u z 45 = true
  · rw [if_pos hB] at h ⊢
    have hx : zFault (pExp u z 45) = 0 ∧ pAccZ u z 45 = pExp u z 45 := by
      unfold pAccB at hB
      unfold pAccZ
      by_cases hs : pSees u z 45 = true
      · rw [if_pos hs] at hB ⊢; exact ⟨of_decide_eq_true hB, rfl⟩
      · rw [if_neg hs] at hB; cases hB
    obtain ⟨x1, x2⟩ := hx
    obtain ⟨y1, y2, y3, y4⟩ := ok_exp x1
    rw [x2, y3] at h ⊢
    have hf0 : zFault (f (zNx z)) = 0 := Classical.byContradiction (fun q => by
      have q1 : flt (zStep (f (zNx z)) 3 0) := q
      rw [fz_sums q1] at h
      exact q1 h)
    obtain ⟨a1, a2, a3⟩ := hf (zNx z) (P + 1) (nx_gd hg y2) ho hf0
    obtain ⟨b1, b2, b3, b4⟩ := st_gd (st := 3) (ar := 0) a1 hg.2.2.1
    have a2o : zOpen (f (zNx z)) = zOpen z := a2.2.2.1
    have w2 : wf (zStep (f (zNx z)) 3 0).2.1 false (txSize z.2) (txSize (f (zNx z)).2) D := wf_congr a3 (fun i _ i2 => (b2.2.1 i i2).symm)
    have w3 := wf_un2 (st := 3) (s := 3) w2 rfl (Or.inl rfl) (fun _ => rfl) b4
    rw [← b3] at w3
    have l2 : lo z (zStep (f (zNx z)) 3 0) := lo_tr (lo_tr (nx_lo z) a2) b2
    obtain ⟨c1, c2, c3⟩ := WF_sums hf hk m z _ P b1 (by show 8 ≤ zOpen (f (zNx z)) + g; rw [a2o]; exact ho) h l2.2.1 (wf_mono w3 (by omega))
    exact ⟨c1, lo_tr l2 c2, c3⟩
  · rw [if_neg hB] at h ⊢
    have hf0 : zFault (f (pAccZ u z 45)) = 0 := Classical.byContradiction (fun q => by rw [fz_sums q] at h; exact q h)
    have e : pAccZ u z 45 = z := by
      have h0 := nf_of hk hf0
      unfold pAccZ at h0 ⊢
      by_cases hs : pSees u z 45 = true
      · exfalso
        rw [if_pos hs] at h0
        exact hB (by unfold pAccB; rw [if_pos hs]; exact decide_eq_true h0)
      · rw [if_neg hs]
    rw [e] at h hf0 ⊢
    obtain ⟨a1, a2, a3⟩ := hf z P hg ho hf0
    obtain ⟨c1, c2, c3⟩ := WF_sums hf hk m z _ P a1 (by rw [a2.2.2.1]; exact ho) h a2.2.1 (wf_mono a3 (by omega))
    exact ⟨c1, lo_tr a2 c2, c3⟩
theorem WF_ext {f h : PZ → PZ} {bo : Bool} {D g : Nat} (hf : WF f bo D g) (e : ∀ z, h z = f z) : WF h bo D g := fun z P h1 h2 h3 => by
  rw [e z] at h3 ⊢
  exact hf z P h1 h2 h3
theorem WF_wk {f : PZ → PZ} {bo : Bool} {D E g : Nat} (hf : WF f bo D g) (h : D ≤ E) : WF f bo E g := fun z P h1 h2 h3 => by
  obtain ⟨a1, a2, a3⟩ := hf z P h1 h2 h3
  exact ⟨a1, a2, wf_mono a3 h⟩
theorem WF_part_of {u : TK} {g D : Nat} (hu : WF (rUnit u g) false D g) : WF (rPart u g) false (D + 1) g := WF_ext (WF_loop2 (u := u) (k := 42) (st := 7) (s := 7) 600 hu (kp_unit u g) rfl (by decide) (by decide) (fun q => by cases q)) (fun z => rPart_e u g z)
theorem WF_sum_of {u : TK} {g D : Nat} (hp : WF (rPart u g) false D g) : WF (rSum u g) false (D + 1) g := WF_ext (WF_sumF (u := u) 600 hp (kp_part u g)) (fun z => by rw [rSum_eq, rSumF])
theorem WF_unit {u : TK} : ∀ g, WF (rUnit u g) false (2 * g + 1) g
  | 0 => WF_ext (WF_unitF (u := u) (f := id) (D := 1) (g := 0) (by decide) (fun g' q => by omega)) (fun z => by rw [rUnit])
  | g + 1 => WF_ext (WF_unitF (u := u) (f := rSum u g) (D := 2 * (g + 1) + 1) (g := g + 1) (by omega) (fun g' q => by
      obtain rfl : g = g' := by omega
      exact WF_wk (WF_sum_of (WF_part_of (WF_unit g))) (by omega))) (fun z => by rw [rUnit])
theorem WF_sum {u : TK} (g : Nat) : WF (rSum u g) false (2 * g + 3) g := WF_sum_of (WF_part_of (WF_unit g))
theorem pRel_s (k : Int32) : pRel k = -1 ∨ ∃ s, 8 ≤ s ∧ s ≤ 11 ∧ pRel k = nI s := by
  unfold pRel
  split
  · exact Or.inr ⟨8, by decide, by decide, rfl⟩
  · split
    · exact Or.inr ⟨9, by decide, by decide, rfl⟩
    · split
      · exact Or.inr ⟨11, by decide, by decide, rfl⟩
      · split
        · exact Or.inr ⟨10, by decide, by decide, rfl⟩
        · exact Or.inl rfl
theorem WF_rel {u : TK} (g : Nat) : WF (rRel u g) true (2 * g + 4) g := by
  intro z P hg ho h
  rw [rRel_k] at h ⊢
  have h1 : zFault (rSum u g z) = 0 := nf_of (kp_relK u g) h
  obtain ⟨a1, a2, a3⟩ := WF_sum (u := u) g z P hg ho h1
  generalize rSum u g z = y at h h1 a1 a2 a3
  rw [relK] at h ⊢
  rcases pRel_s (u.1 (zAt y)) with q | ⟨s, s1, s2, es⟩
  · exfalso
    rw [if_pos q] at h
    have f1 := fail_ne (u := u) (z := y) (n := 1) (by decide)
    rw [fz_exp f1, fz_sum f1] at h
    exact f1 h
  · have hne : pRel (u.1 (zAt y)) ≠ -1 := by rw [es]; exact nI_ne_m1 (by omega)
    rw [if_neg hne, es] at h ⊢
    have h : zFault (rSum u g (pExp u y (u.1 (zAt y)))) = 0 := h
    obtain ⟨p1, p2, p3, _⟩ := ok_exp (nf_of (kp_sum u g) h)
    rw [p3] at h ⊢
    obtain ⟨b1, b2, b3⟩ := WF_sum (u := u) g (zNx y) (P + 1) (nx_gd a1 p2) (by show 8 ≤ zOpen y + g; rw [a2.2.2.1]; exact ho) h
    obtain ⟨c1, c2, c3, c4⟩ := st_gd (st := nI s) (ar := 0) b1 hg.2.2.1
    have w2 : wf (zStep (rSum u g (zNx y)) (nI s) 0).2.1 false (txSize y.2) (txSize (rSum u g (zNx y)).2) (2 * g + 3) := wf_congr b3 (fun i _ i2 => (c2.2.1 i i2).symm)
    have l1 : lo y (zStep (rSum u g (zNx y)) (nI s) 0) := lo_tr (lo_tr (nx_lo y) b2) c2
    have w1 : wf (zStep (rSum u g (zNx y)) (nI s) 0).2.1 false (txSize z.2) (txSize y.2) (2 * g + 3) := wf_congr a3 (fun i _ i2 => (l1.2.1 i i2).symm)
    have w3 := wf_bin (b3 := true) (wf_mono w1 (Nat.le_succ _)) w2 (by omega) (by omega) (fun _ => Or.inl ⟨s1, s2⟩) c4
    rw [← c3] at w3
    exact ⟨c1, lo_tr a2 l1, w3⟩
theorem WF_all_of {u : TK} {g D : Nat} (hl : WF (rLit u g) true D g) : WF (rAll u g) true (D + 1) g := WF_ext (WF_loop2 (u := u) (k := 15) (st := 12) (s := 12) 600 hl (kp_lit u g) rfl (by decide) (by decide) (fun _ => by decide)) (fun z => rAll_e u g z)
theorem WF_cond_of {u : TK} {g D : Nat} (hl : WF (rAll u g) true D g) : WF (rCond u g) true (D + 1) g := WF_ext (WF_loop2 (u := u) (k := 14) (st := 13) (s := 13) 600 hl (kp_all u g) rfl (by decide) (by decide) (fun _ => by decide)) (fun z => rCond_e u g z)
theorem opB_ok {u : TK} {z : PZ} {k : Int32} {P : Nat} (hg : gd z P) (hB : pOpB u z k = true) : zOpen z < 8 ∧ pOpZ u z k = zNx (zUp z) ∧ gd (zNx (zUp z)) (P + 1) := by
  unfold pOpB at hB
  by_cases hs : pSees u z k = true
  · rw [if_pos hs] at hB
    by_cases h88 : 8 ≤ zOpen z
    · rw [if_pos h88] at hB; cases hB
    · rw [if_neg h88] at hB
      have eZ : pOpZ u z k = pExp u (zUp z) k := by unfold pOpZ; rw [if_pos hs, if_neg h88]
      obtain ⟨p1, p2, p3, _⟩ := ok_exp (of_decide_eq_true hB)
      have gu : gd (zUp z) P := ⟨hg.1, hg.2.1, hg.2.2.1, hg.2.2.2.1, by show zOpen z + 1 ≤ 8; omega⟩
      exact ⟨by omega, eZ.trans p3, nx_gd gu p2⟩
  · rw [if_neg hs] at hB; cases hB
theorem opZ_no {u : TK} {z : PZ} {k : Int32} (hB : ¬ pOpB u z k = true) (h : zFault (pOpZ u z k) = 0) : pOpZ u z k = z := by
  unfold pOpB at hB
  unfold pOpZ at h ⊢
  by_cases hs : pSees u z k = true
  · rw [if_pos hs] at hB h
    by_cases h88 : 8 ≤ zOpen z
    · rw [if_pos h88] at h; exact absurd h (fail_ne (by decide))
    · rw [if_neg h88] at hB h; exact absurd (decide_eq_true h) hB
  · rw [if_neg hs]
theorem WF_litF {u : TK} {f c : PZ → PZ} {D g : Nat} (hD : 2 * g + 4 ≤ D) (hf : ∀ g', g = g' + 1 → WF f true D g' ∧ WF c true D g') : WF (rLitF u g f c) true D g := by
  intro z P hg ho h
  rw [rLitF] at h ⊢
  by_cases hB : pOpB u z 16 = true
  · rw [if_pos hB] at h ⊢
    obtain ⟨o1, o2, o3⟩ := opB_ok hg hB
    rw [o2] at h ⊢
    obtain ⟨g', hg'⟩ : ∃ g', g = g' + 1 := ⟨g - 1, by omega⟩
    have h : zFault (f (zNx (zUp z))) = 0 := h
    obtain ⟨a1, a2, a3⟩ := (hf g' hg').1 (zNx (zUp z)) (P + 1) o3 (by show 8 ≤ zOpen z + 1 + g'; omega) h
    obtain ⟨b1, b2, b3, b4⟩ := st_gd (st := 4) (ar := 0) a1 hg.2.2.1
    have w2 : wf (zStep (f (zNx (zUp z))) 4 0).2.1 true (txSize z.2) (txSize (f (zNx (zUp z))).2) D := wf_congr a3 (fun i _ i2 => (b2.2.1 i i2).symm)
    have w3 := wf_un2 (st := 4) (s := 4) w2 rfl (Or.inr ⟨rfl, rfl⟩) (fun q => by omega) b4
    rw [← b3] at w3
    have a2o : zOpen (f (zNx (zUp z))) = zOpen z + 1 := a2.2.2.1
    refine ⟨⟨b1.1, b1.2.1, hg.2.2.1, b1.2.2.2.1, ?_⟩, ⟨?_, fun i hi => ?_, ?_, b2.2.2.2.trans a2.2.2.2⟩, w3⟩
    · show zOpen (f (zNx (zUp z))) - 1 ≤ 8; omega
    · show txSize z.2 ≤ txSize (zStep (f (zNx (zUp z))) 4 0).2
      have : txSize z.2 ≤ txSize (f (zNx (zUp z))).2 := a2.1
      omega
    · show (zStep (f (zNx (zUp z))) 4 0).2.1 i = z.2.1 i
      have l : txSize z.2 ≤ txSize (f (zNx (zUp z))).2 := a2.1
      rw [b2.2.1 i (by omega)]
      exact a2.2.1 i hi
    · show zOpen (f (zNx (zUp z))) - 1 = zOpen z; omega
  · rw [if_neg hB] at h ⊢
    have e0 : zFault (pOpZ u z 16) = 0 := by
      apply Classical.byContradiction
      intro q
      rw [fz_opB q, if_neg (by decide), fz_opZ q] at h
      exact q (nf_of (kp_rel u g) h)
    rw [opZ_no hB e0] at h ⊢
    by_cases hB9 : pOpB u z 91 = true
    · rw [if_pos hB9] at h ⊢
      obtain ⟨o1, o2, o3⟩ := opB_ok hg hB9
      rw [o2] at h ⊢
      obtain ⟨g', hg'⟩ : ∃ g', g = g' + 1 := ⟨g - 1, by omega⟩
      have h : zFault (pExp u (c (zNx (zUp z))) 93) = 0 := h
      obtain ⟨q1, q2, q3, _⟩ := ok_exp h
      obtain ⟨a1, a2, a3⟩ := (hf g' hg').2 (zNx (zUp z)) (P + 1) o3 (by show 8 ≤ zOpen z + 1 + g'; omega) q1
      have a2o : zOpen (c (zNx (zUp z))) = zOpen z + 1 := a2.2.2.1
      rw [q3]
      have d := nx_gd a1 q2
      refine ⟨⟨d.1, d.2.1, hg.2.2.1, ?_, ?_⟩, ⟨a2.1, a2.2.1, ?_, a2.2.2.2⟩, a3⟩
      · have := d.2.2.2.1
        show txSize (zNx (c (zNx (zUp z)))).2 + P ≤ zAt (zNx (c (zNx (zUp z))))
        omega
      · show zOpen (c (zNx (zUp z))) - 1 ≤ 8; omega
      · show zOpen (c (zNx (zUp z))) - 1 = zOpen z; omega
    · rw [if_neg hB9] at h ⊢
      have e9 : zFault (pOpZ u z 91) = 0 := nf_of (kp_rel u g) h
      rw [opZ_no hB9 e9] at h ⊢
      obtain ⟨a1, a2, a3⟩ := WF_rel (u := u) g z P hg ho h
      exact ⟨a1, a2, wf_mono a3 hD⟩
theorem WF_lit {u : TK} : ∀ g, WF (rLit u g) true (2 * g + 4) g
  | 0 => WF_ext (WF_litF (u := u) (f := id) (c := id) (D := 4) (g := 0) (by decide) (fun g' q => by omega)) (fun z => by rw [rLit])
  | g + 1 => WF_ext (WF_litF (u := u) (f := rLit u g) (c := rCond u g) (D := 2 * (g + 1) + 4) (g := g + 1) (Nat.le_refl _) (fun g' q => by
      obtain rfl : g = g' := by omega
      exact ⟨WF_wk (WF_lit g) (by omega), WF_wk (WF_cond_of (WF_all_of (WF_lit g))) (by omega)⟩)) (fun z => by rw [rLit, rCond, rAll])
theorem WF_cond {u : TK} (g : Nat) : WF (rCond u g) true (2 * g + 6) g := WF_cond_of (WF_all_of (WF_lit g))
