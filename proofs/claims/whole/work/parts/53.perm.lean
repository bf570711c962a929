/-! sums over a permutation; none is lighter -/
def sumN (f : Nat → Int) : Nat → Int
  | 0 => 0
  | n + 1 => sumN f n + f n
theorem sumN_congr {f g : Nat → Int} : ∀ n, (∀ i, i < n → f i = g i) → sumN f n = sumN g n
  | 0, _ => rfl
  | n + 1, h => by
    show sumN f n + f n = sumN g n + g n
    rw [sumN_congr n (fun i hi => h i (by omega)), h n (by omega)]
theorem sumN_add (f g : Nat → Int) : ∀ n, sumN (fun i => f i + g i) n = sumN f n + sumN g n
  | 0 => rfl
  | n + 1 => by
    show sumN (fun i => f i + g i) n + (f n + g n) = sumN f n + f n + (sumN g n + g n)
    rw [sumN_add f g n]; omega
theorem sumN_le {f g : Nat → Int} : ∀ n, (∀ i, i < n → f i ≤ g i) → sumN f n ≤ sumN g n
  | 0, _ => Int.le_refl _
  | n + 1, h => by
    have h1 := sumN_le n (fun i hi => h i (by omega))
    have h2 := h n (by omega)
    show sumN f n + f n ≤ sumN g n + g n
    omega
/-- equal sums of what is nowhere less: equal everywhere -/
theorem sumN_eq {f g : Nat → Int} : ∀ n, (∀ i, i < n → f i ≤ g i) → sumN g n ≤ sumN f n → ∀ i, i < n → f i = g i
  | 0, _, _, i, hi => by omega
  | n + 1, h, he, i, hi => by
    have h1 := sumN_le n (fun i hi => h i (by omega))
    have h2 := h n (by omega)
    have he : sumN g n + g n ≤ sumN f n + f n := he
    by_cases e : i = n
    · rw [e]; omega
    · exact sumN_eq n (fun i hi => h i (by omega)) (by omega) i (by omega)
/-- one place changed -/
theorem sumN_one {f g : Nat → Int} {k : Nat} : ∀ n, k < n → (∀ i, i < n → i ≠ k → f i = g i) → sumN f n = sumN g n + f k - g k
  | 0, h, _ => by omega
  | n + 1, h, he => by
    show sumN f n + f n = sumN g n + g n + f k - g k
    by_cases e : k = n
    · rw [sumN_congr n (fun i hi => he i (by omega) (by omega)), e]; omega
    · rw [sumN_one n (by omega) (fun i hi hk => he i (by omega) hk), he n (by omega) (fun q => e q.symm)]; omega
def isPm (p : Nat → Nat) (n : Nat) : Prop := (∀ i, i < n → p i < n) ∧ ∀ i j, i < n → j < n → p i = p j → i = j
theorem isPm.onto {p : Nat → Nat} {n : Nat} (h : isPm p n) (v : Nat) (hv : v < n) : ∃ i, i < n ∧ p i = v := by
  apply Classical.byContradiction
  intro hn
  have hne : ∀ i, i < n → p i ≠ v := fun i hi e => hn ⟨i, hi, e⟩
  have := pig (n - 1) n (fun i => if p i < v then p i else p i - 1) (fun i hi => by
    have h1 := h.1 i hi
    have h2 := hne i hi
    show (if p i < v then p i else p i - 1) < n - 1
    by_cases q : p i < v
    · rw [if_pos q]; omega
    · rw [if_neg q]; omega) (fun i j hi hj e => by
    have e : (if p i < v then p i else p i - 1) = (if p j < v then p j else p j - 1) := e
    have h1 := hne i hi
    have h2 := hne j hj
    apply h.2 i j hi hj
    by_cases q : p i < v
    · rw [if_pos q] at e
      by_cases q2 : p j < v
      · rw [if_pos q2] at e; exact e
      · rw [if_neg q2] at e; omega
    · rw [if_neg q] at e
      by_cases q2 : p j < v
      · rw [if_pos q2] at e; omega
      · rw [if_neg q2] at e; omega)
  omega
theorem sum_pm (f : Nat → Int) : ∀ (n : Nat) (p : Nat → Nat), isPm p n → sumN (fun i => f (p i)) n = sumN f n
  | 0, _, _ => rfl
  | n + 1, p, h => by
    obtain ⟨k, hk, e⟩ := h.onto n (by omega)
    by_cases q : k = n
    · have h1 : isPm p n := ⟨fun i hi => by
        have a1 := h.1 i (by omega)
        have a2 : p i ≠ n := fun z => by have := h.2 i k (by omega) hk (z.trans e.symm); omega
        omega, fun i j hi hj => h.2 i j (by omega) (by omega)⟩
      show sumN (fun i => f (p i)) n + f (p n) = sumN f n + f n
      rw [sum_pm f n p h1, ← q, e, q]
    · have hkn : k < n := by omega
      have h1 : isPm (fun i => if i = k then p n else p i) n := ⟨fun i hi => by
        show (if i = k then p n else p i) < n
        by_cases z : i = k
        · rw [if_pos z]
          have a1 := h.1 n (by omega)
          have a2 : p n ≠ n := fun w => by have := h.2 n k (by omega) hk (w.trans e.symm); omega
          omega
        · rw [if_neg z]
          have a1 := h.1 i (by omega)
          have a2 : p i ≠ n := fun w => z (h.2 i k (by omega) hk (w.trans e.symm))
          omega, fun i j hi hj he => by
        have he : (if i = k then p n else p i) = (if j = k then p n else p j) := he
        by_cases z : i = k
        · by_cases z2 : j = k
          · omega
          · rw [if_pos z, if_neg z2] at he
            have := h.2 n j (by omega) (by omega) he; omega
        · by_cases z2 : j = k
          · rw [if_neg z, if_pos z2] at he
            have := h.2 i n (by omega) (by omega) he; omega
          · rw [if_neg z, if_neg z2] at he
            exact h.2 i j (by omega) (by omega) he⟩
      have h2 := sum_pm f n _ h1
      have h3 := sumN_one (f := fun i => f (p i)) (g := fun i => f (if i = k then p n else p i)) (k := k) n hkn (fun i hi hne => by
        show f (p i) = f (if i = k then p n else p i)
        rw [if_neg hne])
      show sumN (fun i => f (p i)) n + f (p n) = sumN f n + f n
      rw [h3, h2]
      show sumN f n + f (p k) - f (if k = k then p n else p k) + f (p n) = sumN f n + f n
      rw [if_pos rfl, e]; omega
/-- the matched rows, by columns, as a permutation -/
theorem HM.pm {s : MT} {n : Nat} (h : HM s n n) : isPm (fun j => (s.2.1 j).getD 0) n ∧ ∀ j, j < n → s.2.1 j = some ((s.2.1 j).getD 0) := by
  obtain ⟨m1, m2, m3, _⟩ := h
  have a : ∀ j, j < n → ∃ r, s.2.1 j = some r := by
    apply Classical.byContradiction
    intro hn
    obtain ⟨j0, hj⟩ := Classical.not_forall.mp hn
    obtain ⟨hj1, hj2⟩ := Classical.not_imp.mp hj
    have hnone : s.2.1 j0 = none := by
      cases e : s.2.1 j0 with
      | none => rfl
      | some r => exact absurd ⟨r, e⟩ hj2
    have sel : ∀ r, ∃ j, r < n → (j < n ∧ s.2.1 j = some r) := fun r => by
      by_cases hr : r < n
      · obtain ⟨j, h1, h2⟩ := m3 r hr
        exact ⟨j, fun _ => ⟨h1, h2⟩⟩
      · exact ⟨0, fun q => absurd q hr⟩
    obtain ⟨g, hg⟩ := Classical.axiomOfChoice sel
    have hp : isPm g n := ⟨fun r hr => (hg r hr).1, fun r q hr hq e => by
      have e1 := (hg r hr).2
      have e2 := (hg q hq).2
      rw [e, e2] at e1
      exact (Option.some.inj e1).symm⟩
    obtain ⟨r, hr, e⟩ := hp.onto j0 hj1
    have := (hg r hr).2
    rw [e, hnone] at this
    cases this
  refine ⟨⟨fun j hj => ?_, fun i j hi hj e => ?_⟩, fun j hj => ?_⟩
  · obtain ⟨r, e⟩ := a j hj
    show (s.2.1 j).getD 0 < n
    rw [e]; exact m1 j r hj e
  · obtain ⟨r, e1⟩ := a i hi
    obtain ⟨q, e2⟩ := a j hj
    have e : (s.2.1 i).getD 0 = (s.2.1 j).getD 0 := e
    rw [e1, e2] at e
    have e : r = q := e
    subst e
    exact m2 i j r hi hj e1 e2
  · obtain ⟨r, e⟩ := a j hj
    rw [e]; rfl
/-- what a permutation (the row of each column) weighs -/
def wgt (s : MT) (p : Nat → Nat) (n : Nat) : Int := sumN (fun j => wI s (p j) j) n
theorem dual_le {s : MT} {n : Nat} (h : HM s n n) {p : Nat → Nat} (hp : isPm p n) : wgt s (fun j => (s.2.1 j).getD 0) n ≤ wgt s p n := by
  obtain ⟨h1, h2⟩ := h.pm
  obtain ⟨_, _, _, m4, m5, _⟩ := h
  have e1 : wgt s (fun j => (s.2.1 j).getD 0) n = sumN (fun j => rI s ((s.2.1 j).getD 0) + cI s j) n := sumN_congr n (fun j hj => m4 j _ hj (h2 j hj))
  have e2 : sumN (fun j => rI s (p j) + cI s j) n ≤ wgt s p n := sumN_le n (fun j hj => m5 (p j) j (hp.1 j hj) hj)
  rw [e1, sumN_add (fun j => rI s ((s.2.1 j).getD 0)) (fun j => cI s j), sum_pm (fun r => rI s r) n _ h1]
  rw [sumN_add (fun j => rI s (p j)) (fun j => cI s j), sum_pm (fun r => rI s r) n p hp] at e2
  exact e2
/-- as light as the matching: just those in which every pair is tight -/
theorem dual_tight {s : MT} {n : Nat} (h : HM s n n) {p : Nat → Nat} (hp : isPm p n) : wgt s p n ≤ wgt s (fun j => (s.2.1 j).getD 0) n ↔ ∀ j, j < n → wI s (p j) j = rI s (p j) + cI s j := by
  obtain ⟨h1, h2⟩ := h.pm
  have hd := dual_le h hp
  obtain ⟨_, _, _, m4, m5, _⟩ := h
  have e1 : wgt s (fun j => (s.2.1 j).getD 0) n = sumN (fun j => rI s ((s.2.1 j).getD 0) + cI s j) n := sumN_congr n (fun j hj => m4 j _ hj (h2 j hj))
  rw [e1, sumN_add (fun j => rI s ((s.2.1 j).getD 0)) (fun j => cI s j), sum_pm (fun r => rI s r) n _ h1]
  constructor
  · intro hl j hj
    have := sumN_eq (f := fun j => rI s (p j) + cI s j) (g := fun j => wI s (p j) j) n (fun j hj => m5 (p j) j (hp.1 j hj) hj) (by
      rw [sumN_add (fun j => rI s (p j)) (fun j => cI s j), sum_pm (fun r => rI s r) n p hp]
      exact hl) j hj
    exact this.symm
  · intro ht
    have : wgt s p n = sumN (fun j => rI s (p j) + cI s j) n := sumN_congr n ht
    rw [this, sumN_add (fun j => rI s (p j)) (fun j => cI s j), sum_pm (fun r => rI s r) n p hp]
    exact Int.le_refl _
