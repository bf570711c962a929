/-! a pupil falls out -/
theorem up_none {n : Nat} {hm : Nat → Option Nat} : True := trivial
theorem far_at {q : Nat} : ∀ (m j : Nat) (my : Nat → Nat), (∀ r, j ≤ r → r < j + m → foldF (mFarR q) m j my (12 * q + r) = 100000000) ∧ ∀ i, (∀ r, j ≤ r → r < j + m → i ≠ 12 * q + r) → foldF (mFarR q) m j my i = my i := by
  intro m
  induction m with
  | zero => intro j z; exact ⟨fun q h1 h2 => by omega, fun i _ => rfl⟩
  | succ m ih =>
    intro j z
    obtain ⟨a1, a2⟩ := ih (j + 1) (mFarR q j z)
    refine ⟨fun r h1 h2 => ?_, fun i hi => ?_⟩
    · by_cases e : r = j
      · subst e
        show foldF (mFarR q) m (r + 1) (mFarR q r z) (12 * q + r) = _
        rw [a2 (12 * q + r) (fun r' h3 h4 => by omega)]
        show va_up z (12 * q + r) 100000000 (12 * q + r) = _
        rw [up_at]
      · exact a1 r (by omega) (by omega)
    · show foldF (mFarR q) m (j + 1) (mFarR q j z) i = _
      rw [a2 i (fun r h1 h2 => hi r (by omega) (by omega))]
      show va_up z (12 * q + j) 100000000 i = _
      rw [up_ne (hi j (Nat.le_refl j) (by omega))]
theorem ou_at {io : Nat → Bool} {n : Nat} (hn : n ≤ 12) : ∀ (m f : Nat) (my : Nat → Nat), f + m ≤ n → (∀ p q, p < n → q < n → foldF (mOu io n) m f my (12 * p + q) = if (f ≤ p ∧ p < f + m) ∧ io p = true then 100000000 else my (12 * p + q)) := by
  intro m
  induction m with
  | zero => intro f my _ p q _ _; show my (12 * p + q) = _; rw [if_neg (fun z => by omega)]
  | succ m ih =>
    intro f my hf p q hp hq
    show foldF (mOu io n) m (f + 1) (mOu io n f my) (12 * p + q) = _
    rw [ih (f + 1) _ (by omega) p q hp hq]
    have one : mOu io n f my (12 * p + q) = if p = f ∧ io p = true then 100000000 else my (12 * p + q) := by
      unfold mOu
      by_cases hio : io f = true
      · rw [if_pos hio]
        obtain ⟨a1, a2⟩ := far_at (q := f) n 0 my
        by_cases e : p = f
        · subst e
          rw [if_pos ⟨rfl, hio⟩]
          exact a1 q (Nat.zero_le _) (by omega)
        · rw [if_neg (fun z => e z.1)]
          exact a2 _ (fun r _ hr => by omega)
      · rw [if_neg hio]
        by_cases e : p = f
        · subst e; rw [if_neg (fun z => hio z.2)]
        · rw [if_neg (fun z => e z.1)]
    rw [one]
    by_cases h1 : (f + 1 ≤ p ∧ p < f + 1 + m) ∧ io p = true
    · rw [if_pos h1, if_pos ⟨by omega, h1.2⟩]
    · rw [if_neg h1]
      by_cases h2 : p = f ∧ io p = true
      · rw [if_pos h2, if_pos ⟨by omega, h2.2⟩]
      · rw [if_neg h2, if_neg (fun z => by
          by_cases e : p = f
          · exact h2 ⟨e, z.2⟩
          · exact h1 ⟨by omega, z.2⟩)]
/-- the new places, and whose place moved -/
theorem mov_at {b c : Nat → Option Nat} : ∀ (m j : Nat) (z : (Nat → Option Nat) × (Nat → Nat) × Nat) (w : MO), (∀ i, j ≤ i → i < j + m → z.1 i = b i) → z.2.2 = w.2.2 → (∀ i, i < z.2.2 → z.2.1 i = w.2.1 i) → (foldF (yrStep c) m j z).2.2 = (foldF (mMo b c) m j w).2.2 ∧ (∀ i, i < (foldF (yrStep c) m j z).2.2 → (foldF (yrStep c) m j z).2.1 i = (foldF (mMo b c) m j w).2.1 i) ∧ (∀ i, j ≤ i → i < j + m → (foldF (yrStep c) m j z).1 i = c i ∧ (foldF (mMo b c) m j w).1 i = c i) ∧ (∀ i, i < j ∨ j + m ≤ i → (foldF (yrStep c) m j z).1 i = z.1 i ∧ (foldF (mMo b c) m j w).1 i = w.1 i) ∧ (foldF (yrStep c) m j z).2.2 ≤ z.2.2 + m ∧ ∀ i, z.2.2 ≤ i → i < (foldF (yrStep c) m j z).2.2 → (foldF (yrStep c) m j z).2.1 i < j + m := by
  intro m
  induction m with
  | zero => intro j z w _ h2 h3; exact ⟨h2, h3, fun i h4 h5 => by omega, fun i _ => ⟨rfl, rfl⟩, Nat.le_refl _, fun i h4 h5 => by have h5 : i < z.2.2 := h5; omega⟩
  | succ m ih =>
    intro j z w h1 h2 h3
    have hb := h1 j (Nat.le_refl j) (by omega)
    have step : (yrStep c j z).1 = va_up z.1 j (c j) ∧ (mMo b c j w).1 = va_up w.1 j (c j) ∧ (yrStep c j z).2.2 = (mMo b c j w).2.2 ∧ (∀ i, i < (yrStep c j z).2.2 → (yrStep c j z).2.1 i = (mMo b c j w).2.1 i) ∧ (yrStep c j z).2.2 ≤ z.2.2 + 1 ∧ z.2.2 ≤ (yrStep c j z).2.2 ∧ (∀ i, i < z.2.2 → (yrStep c j z).2.1 i = z.2.1 i) ∧ ∀ i, z.2.2 ≤ i → i < (yrStep c j z).2.2 → (yrStep c j z).2.1 i = j := by
      unfold yrStep mMo
      rw [hb]
      by_cases e1 : b j = none
      · rw [if_pos (Or.inl e1), if_pos e1]
        exact ⟨rfl, rfl, h2, h3, Nat.le_succ _, Nat.le_refl _, fun _ _ => rfl, fun i i1 i2 => by have i2 : i < z.2.2 := i2; omega⟩
      · rw [if_neg e1]
        by_cases e2 : b j = c j
        · rw [if_pos (Or.inr e2), if_pos e2]
          exact ⟨rfl, rfl, h2, h3, Nat.le_succ _, Nat.le_refl _, fun _ _ => rfl, fun i i1 i2 => by have i2 : i < z.2.2 := i2; omega⟩
        · rw [if_neg (fun q => by rcases q with q | q; exact e1 q; exact e2 q), if_neg e2]
          refine ⟨rfl, rfl, by show z.2.2 + 1 = w.2.2 + 1; rw [h2], fun i hi => ?_, Nat.le_refl _, Nat.le_succ _, fun i hi => up_ne (by omega), fun i i1 i2 => ?_⟩
          · have hi : i < z.2.2 + 1 := hi
            show va_up z.2.1 z.2.2 j i = va_up w.2.1 w.2.2 j i
            rw [← h2]
            by_cases e : i = z.2.2
            · rw [e, up_at, up_at]
            · rw [up_ne e, up_ne e]; exact h3 i (by omega)
          · have i2 : i < z.2.2 + 1 := i2
            obtain rfl : i = z.2.2 := by omega
            exact up_at _ _ _
    obtain ⟨s1, s2, s3, s4, s5, s6, s7, s8⟩ := step
    obtain ⟨a1, a2, a3, a4, a5, a6⟩ := ih (j + 1) (yrStep c j z) (mMo b c j w) (fun i i1 i2 => by rw [s1, up_ne (by omega)]; exact h1 i (by omega) (by omega)) s3 s4
    refine ⟨a1, a2, fun i i1 i2 => ?_, fun i hi => ?_, by show (foldF (yrStep c) m (j + 1) (yrStep c j z)).2.2 ≤ _; omega, fun i i1 i2 => ?_⟩
    · by_cases e : i = j
      · subst e
        obtain ⟨q1, q2⟩ := a4 i (Or.inl (by omega))
        exact ⟨by show (foldF (yrStep c) m (i + 1) (yrStep c i z)).1 i = _; rw [q1, s1, up_at], by show (foldF (mMo b c) m (i + 1) (mMo b c i w)).1 i = _; rw [q2, s2, up_at]⟩
      · exact a3 i (by omega) (by omega)
    · obtain ⟨q1, q2⟩ := a4 i (by omega)
      exact ⟨by show (foldF (yrStep c) m (j + 1) (yrStep c j z)).1 i = _; rw [q1, s1, up_ne (by omega)], by show (foldF (mMo b c) m (j + 1) (mMo b c j w)).1 i = _; rw [q2, s2, up_ne (by omega)]⟩
    · show (foldF (yrStep c) m (j + 1) (yrStep c j z)).2.1 i < _
      by_cases e : (yrStep c j z).2.2 ≤ i
      · have := a6 i e i2; omega
      · -- written in this step, and kept
        have keep : ∀ (m j : Nat) (z : (Nat → Option Nat) × (Nat → Nat) × Nat), ∀ i, i < z.2.2 → (foldF (yrStep c) m j z).2.1 i = z.2.1 i := by
          intro m
          induction m with
          | zero => intro j z i _; rfl
          | succ m ihm =>
            intro j z i hi
            have st : z.2.2 ≤ (yrStep c j z).2.2 ∧ (yrStep c j z).2.1 i = z.2.1 i := by
              unfold yrStep
              split
              · exact ⟨Nat.le_refl _, rfl⟩
              · exact ⟨Nat.le_succ _, up_ne (by omega)⟩
            show (foldF (yrStep c) m (j + 1) (yrStep c j z)).2.1 i = _
            rw [ihm (j + 1) (yrStep c j z) i (by omega), st.2]
        rw [keep m (j + 1) (yrStep c j z) i (by omega), s8 i i1 (by omega)]
        omega
/-- places of a year and those of the reference -/
def HmR (u hm : Nat → Option Nat) (n : Nat) : Prop := (∀ j, j < 12 → u j = hm j) ∧ (∀ p r, u p = some r → p < n ∧ r < n) ∧ (∀ p q r, u p = some r → u q = some r → p = q) ∧ obd u ∧ obd hm
theorem fo_more {c : Nat → Option Nat} : ∀ (m j : Nat) (z : (Nat → Option Nat) × (Nat → Nat) × Nat), (∀ i, j ≤ i → i < j + m → z.1 i = none) → (foldF (yrStep c) m j z).2 = z.2 ∧ (∀ i, j ≤ i → i < j + m → (foldF (yrStep c) m j z).1 i = c i) ∧ ∀ i, i < j ∨ j + m ≤ i → (foldF (yrStep c) m j z).1 i = z.1 i := by
  intro m
  induction m with
  | zero => intro j z _; exact ⟨rfl, fun i h1 h2 => by omega, fun i _ => rfl⟩
  | succ m ih =>
    intro j z h
    have e : yrStep c j z = (va_up z.1 j (c j), z.2.1, z.2.2) := by
      unfold yrStep
      rw [if_pos (Or.inl (h j (Nat.le_refl j) (by omega)))]
    obtain ⟨a1, a2, a3⟩ := ih (j + 1) (yrStep c j z) (fun i i1 i2 => by rw [e]; show va_up z.1 j (c j) i = none; rw [up_ne (by omega)]; exact h i (by omega) (by omega))
    refine ⟨?_, fun i i1 i2 => ?_, fun i hi => ?_⟩
    · show (foldF (yrStep c) m (j + 1) (yrStep c j z)).2 = z.2
      rw [a1, e]
    · show (foldF (yrStep c) m (j + 1) (yrStep c j z)).1 i = c i
      by_cases z' : i = j
      · rw [a3 i (Or.inl (by omega)), e, z']
        show va_up z.1 j (c j) j = c j
        rw [up_at]
      · exact a2 i (by omega) (by omega)
    · show (foldF (yrStep c) m (j + 1) (yrStep c j z)).1 i = z.1 i
      rw [a3 i (by omega), e]
      show va_up z.1 j (c j) i = z.1 i
      rw [up_ne (by omega)]
theorem fold_split {σ : Type} (body : Nat → σ → σ) : ∀ m n j s, foldF body (m + n) j s = foldF body n (j + m) (foldF body m j s)
  | 0, n, j, s => by rw [Nat.zero_add]; rfl
  | m + 1, n, j, s => by
    rw [show m + 1 + n = (m + n) + 1 by omega]
    show foldF body (m + n) (j + 1) (body j s) = foldF body n (j + (m + 1)) (foldF body m (j + 1) (body j s))
    rw [fold_split body m n (j + 1) (body j s), show j + 1 + m = j + (m + 1) by omega]
theorem fold_congr {σ : Type} {f g : Nat → σ → σ} : ∀ m j s, (∀ i s, j ≤ i → i < j + m → f i s = g i s) → foldF f m j s = foldF g m j s
  | 0, _, _, _ => rfl
  | m + 1, j, s, h => by
    show foldF f m (j + 1) (f j s) = foldF g m (j + 1) (g j s)
    rw [h j s (Nat.le_refl j) (by omega)]
    exact fold_congr m (j + 1) _ (fun i s h1 h2 => h i s (by omega) (by omega))
