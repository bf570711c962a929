/-! the class's first matching: none of all CLOSED PLACES weighs less -/
theorem inv_pm {t : Nat → Nat} {n : Nat} (h : isPm t n) : ∃ r, isPm r n ∧ (∀ j, j < n → t (r j) = j) ∧ ∀ p, p < n → r (t p) = p := by
  have sel : ∀ j, ∃ p, j < n → (p < n ∧ t p = j) := fun j => by
    by_cases hj : j < n
    · obtain ⟨p, h1, h2⟩ := h.onto j hj
      exact ⟨p, fun _ => ⟨h1, h2⟩⟩
    · exact ⟨0, fun q => absurd q hj⟩
  obtain ⟨r, hr⟩ := Classical.axiomOfChoice sel
  refine ⟨r, ⟨fun j hj => (hr j hj).1, fun i j hi hj e => ?_⟩, fun j hj => (hr j hj).2, fun p hp => ?_⟩
  · rw [← (hr i hi).2, ← (hr j hj).2, e]
  · have h1 := hr (t p) (h.1 p hp)
    exact h.2 _ _ h1.1 hp h1.2
theorem wgt_rows {s : MT} {n : Nat} {t r : Nat → Nat} (hr : isPm r n) (e : ∀ j, j < n → t (r j) = j) : wgt s r n = sumN (fun p => wI s p (t p)) n := by
  rw [← sum_pm (fun p => wI s p (t p)) n r hr]
  exact sumN_congr n (fun j hj => by
    show wI s (r j) j = wI s (r j) (t (r j))
    rw [e j hj])
theorem sumN_lo {f : Nat → Int} : ∀ n, (∀ i, i < n → -262144 ≤ f i) → -262144 * (n : Int) ≤ sumN f n
  | 0, _ => by show -262144 * (0 : Int) ≤ 0; omega
  | n + 1, h => by
    have h1 := sumN_lo n (fun i hi => h i (by omega))
    have h2 := h n (by omega)
    show -262144 * ((n + 1 : Nat) : Int) ≤ sumN f n + f n
    omega
theorem sumN_far {f : Nat → Int} {k : Nat} : ∀ n, k < n → (∀ i, i < n → -262144 ≤ f i) → 1125899906842624 ≤ f k → 1125899906842624 - 262144 * (n : Int) ≤ sumN f n
  | 0, h, _, _ => by omega
  | n + 1, h, hl, hf => by
    show 1125899906842624 - 262144 * ((n + 1 : Nat) : Int) ≤ sumN f n + f n
    by_cases e : k = n
    · have h1 := sumN_lo n (fun i hi => hl i (by omega))
      rw [e] at hf
      omega
    · have h1 := sumN_far n (by omega) (fun i hi => hl i (by omega)) hf
      have h2 := hl n (by omega)
      omega
theorem sumN_hi {f : Nat → Int} : ∀ n, (∀ i, i < n → f i ≤ 8388608) → sumN f n ≤ 8388608 * (n : Int)
  | 0, _ => by show (0 : Int) ≤ 8388608 * 0; omega
  | n + 1, h => by
    have h1 := sumN_hi n (fun i hi => h i (by omega))
    have h2 := h n (by omega)
    show sumN f n + f n ≤ 8388608 * ((n + 1 : Nat) : Int)
    omega
abbrev plC (s : PL) (p h : Nat) : Nat := (s.1 (p * 12 + h)).getD 0
theorem plC_le {s : PL} (hc : cLe s.1) (p h : Nat) : plC s p h ≤ 10000 := by
  show (s.1 (p * 12 + h)).getD 0 ≤ 10000
  cases e : s.1 (p * 12 + h) with
  | none => exact Nat.zero_le _
  | some c => exact hc _ _ e
abbrev plP (s : PL) (p h : Nat) : Int := pW (plGo s) (plC s) s.2.1 s.2.2.1 s.2.2.2.2.2.2 p h
theorem plWI_P (s : PL) (p h : Nat) : plWI s p h = plP s p h := rfl
def alw (s : PL) (p h : Nat) : Prop := plGo s p h = true ∨ p = h ∨ (s.2.2.1 p = true ∧ s.2.1 h = true)
theorem uW_lo {c : Nat → Nat → Nat} {b : Nat → Option Nat} (p : Nat) (o : Option Nat) : -262144 ≤ uW c b p o := by
  cases o with
  | none =>
    show -262144 ≤ (if b p = none then (0 : Int) else 8388608)
    split <;> omega
  | some h =>
    show -262144 ≤ (c p h : Int) - 262144 + (if b p = none ∨ b p = some h then 0 else 8388608)
    split <;> omega
theorem plP_lo {s : PL} (p h : Nat) : -262144 ≤ plP s p h := by
  show -262144 ≤ pW (plGo s) (plC s) s.2.1 s.2.2.1 s.2.2.2.2.2.2 p h
  unfold pW
  split
  · exact uW_lo _ _
  · split
    · exact uW_lo _ _
    · omega
theorem plP_far {s : PL} {p h : Nat} (hn : ¬ alw s p h) : plP s p h = 1125899906842624 := by
  show pW (plGo s) (plC s) s.2.1 s.2.2.1 s.2.2.2.2.2.2 p h = _
  unfold pW
  rw [if_neg (fun e => hn (Or.inl e)), if_neg (fun e => hn (Or.inr e))]
theorem plP_id {s : PL} (hg : ∀ p, plGo s p p = false) (p : Nat) : plP s p p ≤ 8388608 := by
  show pW (plGo s) (plC s) s.2.1 s.2.2.1 s.2.2.2.2.2.2 p p ≤ _
  unfold pW
  rw [if_neg (by rw [hg p]; decide), if_pos (Or.inl rfl)]
  show (if s.2.2.2.2.2.2 p = none then (0 : Int) else 8388608) ≤ 8388608
  split <;> omega
/-- to go is always lighter than to stay -/
theorem uW_go {c : Nat → Nat → Nat} {b : Nat → Option Nat} {p h : Nat} (hc : c p h ≤ 10000) : uW c b p (some h) < uW c b p none := by
  show (c p h : Int) - 262144 + (if b p = none ∨ b p = some h then 0 else 8388608) < (if b p = none then (0 : Int) else 8388608)
  by_cases e : b p = none
  · rw [if_pos (Or.inl e), if_pos e]; omega
  · rw [if_neg e]
    split <;> omega
abbrev uSum (s : PL) (u : Nat → Option Nat) : Int := sumN (fun p => uW (plC s) s.2.2.2.2.2.2 p (u p)) s.2.2.2.2.1
abbrev plClo (s : PL) (u : Nat → Option Nat) : Prop := Clo s.2.2.2.2.1 (plGo s) s.2.1 s.2.2.1 u
/-- closed places have a permutation that weighs no more; as much only if it tells these places -/
theorem clo_pm {s : PL} (hc : cLe s.1) {u : Nat → Option Nat} (h : plClo s u) : ∃ t, isPm t s.2.2.2.2.1 ∧ (∀ p, p < s.2.2.2.2.1 → alw s p (t p)) ∧ sumN (fun p => plP s p (t p)) s.2.2.2.2.1 ≤ uSum s u ∧ (uSum s u ≤ sumN (fun p => plP s p (t p)) s.2.2.2.2.1 → ∀ p, p < s.2.2.2.2.1 → uOf (plGo s) t p = u p) := by
  obtain ⟨t, h1, h2, h3⟩ := ext_pm h
  have key : ∀ p, p < s.2.2.2.2.1 → alw s p (t p) ∧ plP s p (t p) ≤ uW (plC s) s.2.2.2.2.2.2 p (u p) ∧ (plP s p (t p) = uW (plC s) s.2.2.2.2.2.2 p (u p) → uOf (plGo s) t p = u p) := fun p hp => by
    cases e : u p with
    | some x =>
      have e1 := h2 p x hp e
      have e2 := (h.1 p x hp e).2
      have e3 : plP s p (t p) = uW (plC s) s.2.2.2.2.2.2 p (some x) := by
        show pW (plGo s) (plC s) s.2.1 s.2.2.1 s.2.2.2.2.2.2 p (t p) = _
        unfold pW
        rw [e1, if_pos e2]
      refine ⟨Or.inl (by rw [e1]; exact e2), by rw [e3]; exact Int.le_refl _, fun _ => ?_⟩
      unfold uOf
      rw [e1, if_pos e2]
    | none =>
      have e1 := h3 p hp e
      by_cases hg : plGo s p (t p) = true
      · have e3 : plP s p (t p) = uW (plC s) s.2.2.2.2.2.2 p (some (t p)) := by
          show pW (plGo s) (plC s) s.2.1 s.2.2.1 s.2.2.2.2.2.2 p (t p) = _
          unfold pW
          rw [if_pos hg]
        have e4 := uW_go (c := plC s) (b := s.2.2.2.2.2.2) (p := p) (h := t p) (plC_le hc p (t p))
        refine ⟨Or.inl hg, by rw [e3]; exact Int.le_of_lt e4, fun z => ?_⟩
        rw [e3] at z
        rw [z] at e4
        exact absurd e4 (Int.lt_irrefl _)
      · have e3 : plP s p (t p) = uW (plC s) s.2.2.2.2.2.2 p none := by
          show pW (plGo s) (plC s) s.2.1 s.2.2.1 s.2.2.2.2.2.2 p (t p) = _
          unfold pW
          rw [if_neg hg, if_pos e1]
        refine ⟨Or.inr e1, by rw [e3]; exact Int.le_refl _, fun _ => ?_⟩
        unfold uOf
        rw [if_neg hg]
  refine ⟨t, h1, fun p hp => (key p hp).1, sumN_le _ (fun p hp => (key p hp).2.1), fun hl p hp => ?_⟩
  exact (key p hp).2.2 (sumN_eq _ (fun p hp => (key p hp).2.1) hl p hp)
