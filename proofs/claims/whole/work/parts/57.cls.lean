/-! the class's two matchings -/
abbrev plN (s : PL) : Nat := s.2.2.2.2.1
theorem q1_ok {s : PL} {q : MT} (hn : plN s ≤ 12) (hc : cLe s.1) : HM (plQ1 s q) (plN s) (plN s) ∧ HB (plQ1 s q) (plN s) (plN s) ∧ ∀ p h, p < plN s → h < plN s → wI (plQ1 s q) p h = plP s p h := by
  have hv : ∀ p h, p < plN s → h < plN s → (plWall s q.1 (p * 12 + h)).toInt = plP s p h := fun p h hp hh => by
    rw [plWall_at hn q.1 hp hh, plW_int hc, plWI_P]
  have hw : HW (plWall s q.1, q.2) (plN s) := fun p h hp hh => by
    show -1125899906842624 ≤ (plWall s q.1 (p * 12 + h)).toInt ∧ (plWall s q.1 (p * 12 + h)).toInt ≤ 1125899906842624
    rw [hv p h hp hh, ← plWI_P]
    exact plWI_bd hc p h
  obtain ⟨a1, a2, a3⟩ := hung_solve hn hw
  refine ⟨a1, a3, fun p h hp hh => ?_⟩
  show ((mtSolve (plWall s q.1, q.2) (plN s)).1 (p * 12 + h)).toInt = _
  rw [a2]
  exact hv p h hp hh
theorem tight_iff {s : PL} {q : MT} (hn : plN s ≤ 12) (hc : cLe s.1) {p h : Nat} (hp : p < plN s) (hh : h < plN s) : mtTight (plQ1 s q) p h = true ↔ plP s p h < 1125899906842624 ∧ plP s p h = rI (plQ1 s q) p + cI (plQ1 s q) h := by
  obtain ⟨a1, ⟨b1, b2⟩, a3⟩ := q1_ok (q := q) hn hc
  have e := a3 p h hp hh
  have c1 := b1 p hp
  have c2 := b2 h hh
  have c3 := a1.2.2.2.2.2.1 h hh
  have ea : ((plQ1 s q).2.2.1 p + (plQ1 s q).2.2.2.1 h).toInt = rI (plQ1 s q) p + cI (plQ1 s q) h := i64_add (by show -4611686018427387904 ≤ rI (plQ1 s q) p + cI (plQ1 s q) h; omega) (by show rI (plQ1 s q) p + cI (plQ1 s q) h ≤ 4611686018427387904; omega)
  have ef : (1125899906842624 : Int64).toInt = 1125899906842624 := by decide
  unfold mtTight
  constructor
  · intro ht
    split at ht
    · cases ht
    · rename_i h1
      have h2 := of_decide_eq_true ht
      have h3 := congrArg Int64.toInt h2
      rw [ea] at h3
      have h4 : wI (plQ1 s q) p h = rI (plQ1 s q) p + cI (plQ1 s q) h := h3
      have h5 : ¬ (1125899906842624 : Int) ≤ wI (plQ1 s q) p h := fun z => h1 (Int64.le_iff_toInt_le.mpr (by rw [ef]; exact z))
      rw [e] at h4 h5
      exact ⟨Int.not_le.mp h5, h4⟩
  · intro ⟨h1, h2⟩
    rw [if_neg (fun z => by
      have := Int64.le_iff_toInt_le.mp z
      rw [ef] at this
      have : (1125899906842624 : Int) ≤ wI (plQ1 s q) p h := this
      rw [e] at this
      omega)]
    apply decide_eq_true
    apply Int64.toInt_inj.mp
    rw [ea, ← h2, ← e]
/-- the least weight, and who has it -/
theorem q1_min {s : PL} {q : MT} (hn : plN s ≤ 12) (hc : cLe s.1) (hg : ∀ p, plGo s p p = false) : ∃ (M : Int) (t1 : Nat → Nat), isPm t1 (plN s) ∧ sumN (fun p => plP s p (t1 p)) (plN s) = M ∧ ∀ t, isPm t (plN s) → M ≤ sumN (fun p => plP s p (t p)) (plN s) ∧ (sumN (fun p => plP s p (t p)) (plN s) ≤ M → ∀ p, p < plN s → alw s p (t p) ∧ mtTight (plQ1 s q) p (t p) = true) ∧ ((∀ p, p < plN s → mtTight (plQ1 s q) p (t p) = true) → sumN (fun p => plP s p (t p)) (plN s) ≤ M) := by
  obtain ⟨a1, a2, a3⟩ := q1_ok (q := q) hn hc
  obtain ⟨r1, hr1⟩ := a1.pm
  have sw : ∀ (t r : Nat → Nat), isPm t (plN s) → isPm r (plN s) → (∀ j, j < plN s → t (r j) = j) → wgt (plQ1 s q) r (plN s) = sumN (fun p => plP s p (t p)) (plN s) := fun t r ht hr e => by
    rw [wgt_rows hr e]
    exact sumN_congr _ (fun p hp => a3 p (t p) hp (ht.1 p hp))
  obtain ⟨t1, ht1, g1, g2⟩ := inv_pm r1
  have idb : sumN (fun p => plP s p p) (plN s) ≤ 8388608 * (plN s : Int) := sumN_hi _ (fun p _ => plP_id hg p)
  have hM := sw t1 _ ht1 r1 g2
  refine ⟨wgt (plQ1 s q) (fun j => ((plQ1 s q).2.1 j).getD 0) (plN s), t1, ht1, hM.symm, fun t ht => ?_⟩
  obtain ⟨r, hr, e1, e2⟩ := inv_pm ht
  have hs := sw t r ht hr e1
  have hd := dual_le a1 hr
  have hid := dual_le a1 (p := fun p => p) ⟨fun _ h => h, fun _ _ _ _ e => e⟩
  have hids := sw (fun p => p) (fun p => p) ⟨fun _ h => h, fun _ _ _ _ e => e⟩ ⟨fun _ h => h, fun _ _ _ _ e => e⟩ (fun _ _ => rfl)
  have hids : wgt (plQ1 s q) (fun p => p) (plN s) = sumN (fun p => plP s p p) (plN s) := hids
  rw [hids] at hid
  have htt := dual_tight a1 hr
  rw [hs] at hd htt
  refine ⟨hd, fun hl p hp => ?_, fun hall => ?_⟩
  · have ha : alw s p (t p) := by
      apply Classical.byContradiction
      intro hna
      have := sumN_far (f := fun p => plP s p (t p)) (k := p) (plN s) hp (fun i _ => plP_lo i (t i)) (by
        show 1125899906842624 ≤ plP s p (t p)
        rw [plP_far hna]; exact Int.le_refl _)
      omega
    refine ⟨ha, (tight_iff hn hc hp (ht.1 p hp)).mpr ?_⟩
    have h1 := htt.mp hl (t p) (ht.1 p hp)
    rw [e2 p hp, a3 p (t p) hp (ht.1 p hp)] at h1
    refine ⟨?_, h1⟩
    apply Int.not_le.mp
    intro hfar
    have := sumN_far (f := fun p => plP s p (t p)) (k := p) (plN s) hp (fun i _ => plP_lo i (t i)) hfar
    omega
  · apply htt.mpr
    intro j hj
    have h1 := ((tight_iff hn hc (hr.1 j hj) (ht.1 _ (hr.1 j hj))).mp (hall (r j) (hr.1 j hj))).2
    rw [e1 j hj] at h1
    rw [a3 (r j) j (hr.1 j hj) hj]
    exact h1
