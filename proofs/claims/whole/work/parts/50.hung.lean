/-! the lightest full matching: prices and shortest paths, in whole numbers -/
theorem i64_sub {x y : Int64} (h1 : -4611686018427387904 ≤ x.toInt - y.toInt) (h2 : x.toInt - y.toInt ≤ 4611686018427387904) : (x - y).toInt = x.toInt - y.toInt := by
  rw [Int64.toInt_sub]; exact Int.bmod_eq_of_le_mul_two (by omega) (by omega)
theorem i64_add {x y : Int64} (h1 : -4611686018427387904 ≤ x.toInt + y.toInt) (h2 : x.toInt + y.toInt ≤ 4611686018427387904) : (x + y).toInt = x.toInt + y.toInt := by
  rw [Int64.toInt_add]; exact Int.bmod_eq_of_le_mul_two (by omega) (by omega)
/-- no more pigeons than holes -/
theorem pig : ∀ (m t : Nat) (f : Nat → Nat), (∀ i, i < t → f i < m) → (∀ i j, i < t → j < t → f i = f j → i = j) → t ≤ m
  | 0, t, f, h, _ => by
    cases t with
    | zero => exact Nat.le_refl 0
    | succ t => exact absurd (h 0 (by omega)) (by omega)
  | m + 1, 0, f, _, _ => Nat.zero_le _
  | m + 1, t + 1, f, h, hi => by
    have := pig m t (fun i => if f i = m then f t else f i) (fun i h1 => by
      by_cases e : f i = m
      · rw [if_pos e]
        have h2 := h t (by omega)
        have h3 : f t ≠ m := fun q => by have := hi i t (by omega) (by omega) (e.trans q.symm); omega
        omega
      · rw [if_neg e]; have := h i (by omega); omega) (fun i j h1 h2 e => by
      by_cases e1 : f i = m
      · rw [if_pos e1] at e
        by_cases e2 : f j = m
        · exact hi i j (by omega) (by omega) (e1.trans e2.symm)
        · rw [if_neg e2] at e
          have := hi t j (by omega) (by omega) e; omega
      · rw [if_neg e1] at e
        by_cases e2 : f j = m
        · rw [if_pos e2] at e
          have := hi i t (by omega) (by omega) e; omega
        · rw [if_neg e2] at e
          exact hi i j (by omega) (by omega) e)
    omega
theorem vpL_self (f : Nat → Int64) (i : Nat) (v : Int64) : vp_updL f i v i = v := by simp [vp_updL]
theorem vpL_ne (f : Nat → Int64) {i j : Nat} (v : Int64) (h : j ≠ i) : vp_updL f i v j = f j := by simp [vp_updL, h]
/-! one look over the columns -/
abbrev NZ : Type := (Nat → Int64) × (Nat → Nat) × Int64 × Nat
theorem mtNx_seen {w rp cp : Nat → Int64} {sn : Nat → Bool} {r c j : Nat} {z : NZ} (h : sn j = true) : mtNx w rp cp sn r c j z = z := by
  unfold mtNx; rw [if_pos h]
theorem mtNx_st {w rp cp : Nat → Int64} {sn : Nat → Bool} {r c j : Nat} {z : NZ} (h : sn j = false) :
    (mtNx w rp cp sn r c j z).1 j = (if w (r * 12 + j) - rp r - cp j < z.1 j then w (r * 12 + j) - rp r - cp j else z.1 j) ∧
    (mtNx w rp cp sn r c j z).2.1 j = (if w (r * 12 + j) - rp r - cp j < z.1 j then c else z.2.1 j) ∧
    (∀ i, i ≠ j → (mtNx w rp cp sn r c j z).1 i = z.1 i ∧ (mtNx w rp cp sn r c j z).2.1 i = z.2.1 i) ∧
    (mtNx w rp cp sn r c j z).2.2.1.toInt ≤ z.2.2.1.toInt ∧ (mtNx w rp cp sn r c j z).2.2.1.toInt ≤ ((mtNx w rp cp sn r c j z).1 j).toInt ∧
    ((mtNx w rp cp sn r c j z).2.2 = z.2.2 ∨ ((mtNx w rp cp sn r c j z).2.2.2 = j ∧ (mtNx w rp cp sn r c j z).2.2.1 = (mtNx w rp cp sn r c j z).1 j)) := by
  have hn : ¬ sn j = true := by rw [h]; decide
  by_cases h1 : w (r * 12 + j) - rp r - cp j < z.1 j
  · by_cases h2 : vp_updL z.1 j (w (r * 12 + j) - rp r - cp j) j < z.2.2.1
    · have e : mtNx w rp cp sn r c j z = (vp_updL z.1 j (w (r * 12 + j) - rp r - cp j), va_up z.2.1 j c, vp_updL z.1 j (w (r * 12 + j) - rp r - cp j) j, j) := by
        unfold mtNx; rw [if_neg hn]; dsimp only; rw [if_pos h1]; dsimp only; rw [if_pos h2]
      rw [e, if_pos h1, if_pos h1]
      refine ⟨vpL_self _ _ _, va_up_self _ _ _, fun i hi => ⟨vpL_ne _ _ hi, va_up_ne _ _ hi⟩, ?_, Int.le_refl _, Or.inr ⟨rfl, rfl⟩⟩
      exact Int.le_of_lt (Int64.lt_iff_toInt_lt.mp h2)
    · have e : mtNx w rp cp sn r c j z = (vp_updL z.1 j (w (r * 12 + j) - rp r - cp j), va_up z.2.1 j c, z.2.2) := by
        unfold mtNx; rw [if_neg hn]; dsimp only; rw [if_pos h1]; dsimp only; rw [if_neg h2]
      rw [e, if_pos h1, if_pos h1]
      exact ⟨vpL_self _ _ _, va_up_self _ _ _, fun i hi => ⟨vpL_ne _ _ hi, va_up_ne _ _ hi⟩, Int.le_refl _, Int.not_lt.mp (fun q => h2 (Int64.lt_iff_toInt_lt.mpr q)), Or.inl rfl⟩
  · by_cases h2 : z.1 j < z.2.2.1
    · have e : mtNx w rp cp sn r c j z = (z.1, z.2.1, z.1 j, j) := by
        unfold mtNx; rw [if_neg hn]; dsimp only; rw [if_neg h1]; dsimp only; rw [if_pos h2]
      rw [e, if_neg h1, if_neg h1]
      exact ⟨rfl, rfl, fun i _ => ⟨rfl, rfl⟩, Int.le_of_lt (Int64.lt_iff_toInt_lt.mp h2), Int.le_refl _, Or.inr ⟨rfl, rfl⟩⟩
    · have e : mtNx w rp cp sn r c j z = z := by
        unfold mtNx; rw [if_neg hn]; dsimp only; rw [if_neg h1]; dsimp only; rw [if_neg h2]
      rw [e, if_neg h1, if_neg h1]
      exact ⟨rfl, rfl, fun i _ => ⟨rfl, rfl⟩, Int.le_refl _, Int.not_lt.mp (fun q => h2 (Int64.lt_iff_toInt_lt.mpr q)), Or.inl rfl⟩
theorem mtNx_spec {w rp cp : Nat → Int64} {sn : Nat → Bool} {r c : Nat} : ∀ (m j : Nat) (z : NZ),
    (∀ i, (i < j ∨ j + m ≤ i ∨ sn i = true) → (foldF (mtNx w rp cp sn r c) m j z).1 i = z.1 i ∧ (foldF (mtNx w rp cp sn r c) m j z).2.1 i = z.2.1 i) ∧
    (∀ i, j ≤ i → i < j + m → sn i = false → (foldF (mtNx w rp cp sn r c) m j z).1 i = (if w (r * 12 + i) - rp r - cp i < z.1 i then w (r * 12 + i) - rp r - cp i else z.1 i) ∧ (foldF (mtNx w rp cp sn r c) m j z).2.1 i = (if w (r * 12 + i) - rp r - cp i < z.1 i then c else z.2.1 i) ∧ (foldF (mtNx w rp cp sn r c) m j z).2.2.1.toInt ≤ ((foldF (mtNx w rp cp sn r c) m j z).1 i).toInt) ∧
    (foldF (mtNx w rp cp sn r c) m j z).2.2.1.toInt ≤ z.2.2.1.toInt ∧
    ((foldF (mtNx w rp cp sn r c) m j z).2.2 = z.2.2 ∨ ∃ i, j ≤ i ∧ i < j + m ∧ sn i = false ∧ (foldF (mtNx w rp cp sn r c) m j z).2.2.2 = i ∧ (foldF (mtNx w rp cp sn r c) m j z).2.2.1 = (foldF (mtNx w rp cp sn r c) m j z).1 i)
  | 0, j, z => ⟨fun i _ => ⟨rfl, rfl⟩, fun i h1 h2 => by omega, Int.le_refl _, Or.inl rfl⟩
  | m + 1, j, z => by
    obtain ⟨a1, a2, a3, a4⟩ := mtNx_spec (w := w) (rp := rp) (cp := cp) (sn := sn) (r := r) (c := c) m (j + 1) (mtNx w rp cp sn r c j z)
    rw [show foldF (mtNx w rp cp sn r c) (m + 1) j z = foldF (mtNx w rp cp sn r c) m (j + 1) (mtNx w rp cp sn r c j z) from rfl]
    cases hs : sn j with
    | true =>
      rw [mtNx_seen hs] at a1 a2 a3 a4 ⊢
      refine ⟨fun i h => a1 i (by rcases h with h | h | h
                                  · exact Or.inl (by omega)
                                  · exact Or.inr (Or.inl (by omega))
                                  · exact Or.inr (Or.inr h)), fun i h1 h2 h3 => ?_, a3, ?_⟩
      · have : i ≠ j := fun e => by rw [e, hs] at h3; cases h3
        exact a2 i (by omega) (by omega) h3
      · rcases a4 with a4 | ⟨i, h1, h2, h3⟩
        · exact Or.inl a4
        · exact Or.inr ⟨i, by omega, by omega, h3⟩
    | false =>
      obtain ⟨b1, b2, b3, b4, b5, b6⟩ := mtNx_st (w := w) (rp := rp) (cp := cp) (r := r) (c := c) (z := z) hs
      generalize mtNx w rp cp sn r c j z = z1 at a1 a2 a3 a4 b1 b2 b3 b4 b5 b6 ⊢
      generalize foldF (mtNx w rp cp sn r c) m (j + 1) z1 = F at a1 a2 a3 a4 ⊢
      have aj := a1 j (Or.inl (by omega))
      refine ⟨fun i h => ?_, fun i h1 h2 h3 => ?_, Int.le_trans a3 b4, ?_⟩
      · have hne : i ≠ j := fun e => by
          rcases h with h | h | h
          · omega
          · omega
          · rw [e, hs] at h; cases h
        have := a1 i (by rcases h with h | h | h
                         · exact Or.inl (by omega)
                         · exact Or.inr (Or.inl (by omega))
                         · exact Or.inr (Or.inr h))
        exact ⟨this.1.trans (b3 i hne).1, this.2.trans (b3 i hne).2⟩
      · by_cases e : i = j
        · subst e
          refine ⟨aj.1.trans b1, aj.2.trans b2, ?_⟩
          rw [aj.1]; exact Int.le_trans a3 b5
        · have := a2 i (by omega) (by omega) h3
          rw [(b3 i e).1, (b3 i e).2] at this
          exact this
      · rcases a4 with a4 | ⟨i, h1, h2, h3⟩
        · rcases b6 with b6 | ⟨b6, b7⟩
          · exact Or.inl (a4.trans b6)
          · exact Or.inr ⟨j, by omega, by omega, hs, by rw [a4, b6], by rw [a4, b7, aj.1]⟩
        · exact Or.inr ⟨i, by omega, by omega, h3⟩
/-! the shift of prices -/
theorem mtSh_spec {b : Int64} {ro : Nat → Option Nat} {sn : Nat → Bool} : ∀ (m j : Nat) (z : (Nat → Int64) × (Nat → Int64) × (Nat → Int64)),
    (∀ i, (foldF (mtSh b ro sn) m j z).1 i = if j ≤ i ∧ i < j + m ∧ sn i = false then z.1 i - b else z.1 i) ∧
    (∀ i, (foldF (mtSh b ro sn) m j z).2.2 i = if j ≤ i ∧ i < j + m ∧ sn i = true then z.2.2 i - b else z.2.2 i) ∧
    (∀ r, (∀ i, j ≤ i → i < j + m → sn i = true → (ro i).getD 0 ≠ r) → (foldF (mtSh b ro sn) m j z).2.1 r = z.2.1 r) ∧
    (∀ i, j ≤ i → i < j + m → sn i = true → (∀ i', j ≤ i' → i' < j + m → sn i' = true → (ro i').getD 0 = (ro i).getD 0 → i' = i) → (foldF (mtSh b ro sn) m j z).2.1 ((ro i).getD 0) = z.2.1 ((ro i).getD 0) + b)
  | 0, j, z => ⟨fun i => by rw [if_neg (by omega)]; rfl, fun i => by rw [if_neg (by omega)]; rfl, fun r _ => rfl, fun i h1 h2 => by omega⟩
  | m + 1, j, z => by
    obtain ⟨a1, a2, a3, a4⟩ := mtSh_spec (b := b) (ro := ro) (sn := sn) m (j + 1) (mtSh b ro sn j z)
    rw [show foldF (mtSh b ro sn) (m + 1) j z = foldF (mtSh b ro sn) m (j + 1) (mtSh b ro sn j z) from rfl]
    generalize foldF (mtSh b ro sn) m (j + 1) (mtSh b ro sn j z) = F at a1 a2 a3 a4 ⊢
    cases hs : sn j with
    | true =>
      have e : mtSh b ro sn j z = (z.1, vp_updL z.2.1 ((ro j).getD 0) (z.2.1 ((ro j).getD 0) + b), vp_updL z.2.2 j (z.2.2 j - b)) := by unfold mtSh; rw [if_pos hs]
      rw [e] at a1 a2 a3 a4
      dsimp only at a1 a2 a3 a4
      refine ⟨fun i => ?_, fun i => ?_, fun r h => ?_, fun i h1 h2 h3 h4 => ?_⟩
      · rw [a1 i]
        by_cases q : j + 1 ≤ i ∧ i < j + 1 + m ∧ sn i = false
        · rw [if_pos q, if_pos ⟨by omega, by omega, q.2.2⟩]
        · rw [if_neg q, if_neg (fun h => q ⟨by
            have : i ≠ j := fun e => by rw [e, hs] at h; exact absurd h.2.2 (by decide)
            omega, by omega, h.2.2⟩)]
      · rw [a2 i]
        by_cases q : i = j
        · subst q; rw [if_neg (by omega), vpL_self, if_pos ⟨by omega, by omega, hs⟩]
        · rw [vpL_ne _ _ q]
          by_cases q2 : j + 1 ≤ i ∧ i < j + 1 + m ∧ sn i = true
          · rw [if_pos q2, if_pos ⟨by omega, by omega, q2.2.2⟩]
          · rw [if_neg q2, if_neg (fun h => q2 ⟨by omega, by omega, h.2.2⟩)]
      · rw [a3 r (fun i h1 h2 h3 => h i (by omega) (by omega) h3), vpL_ne _ _ (fun e => h j (by omega) (by omega) hs e.symm)]
      · by_cases q : i = j
        · subst q
          rw [a3 _ (fun i' g1 g2 g3 g4 => by have := h4 i' (by omega) (by omega) g3 g4; omega), vpL_self]
        · rw [a4 i (by omega) (by omega) h3 (fun i' g1 g2 g3 g4 => h4 i' (by omega) (by omega) g3 g4), vpL_ne _ _ (fun e => q (h4 j (by omega) (by omega) hs e.symm).symm)]
    | false =>
      have e : mtSh b ro sn j z = (vp_updL z.1 j (z.1 j - b), z.2) := by unfold mtSh; rw [if_neg (by rw [hs]; decide)]
      rw [e] at a1 a2 a3 a4
      dsimp only at a1 a2 a3 a4
      refine ⟨fun i => ?_, fun i => ?_, fun r h => ?_, fun i h1 h2 h3 h4 => ?_⟩
      · rw [a1 i]
        by_cases q : i = j
        · subst q; rw [if_neg (by omega), vpL_self, if_pos ⟨by omega, by omega, hs⟩]
        · rw [vpL_ne _ _ q]
          by_cases q2 : j + 1 ≤ i ∧ i < j + 1 + m ∧ sn i = false
          · rw [if_pos q2, if_pos ⟨by omega, by omega, q2.2.2⟩]
          · rw [if_neg q2, if_neg (fun h => q2 ⟨by omega, by omega, h.2.2⟩)]
      · rw [a2 i]
        by_cases q : j + 1 ≤ i ∧ i < j + 1 + m ∧ sn i = true
        · rw [if_pos q, if_pos ⟨by omega, by omega, q.2.2⟩]
        · rw [if_neg q, if_neg (fun h => q ⟨by
            have : i ≠ j := fun e => by rw [e, hs] at h; exact absurd h.2.2 (by decide)
            omega, by omega, h.2.2⟩)]
      · exact a3 r (fun i h1 h2 h3 => h i (by omega) (by omega) h3)
      · have q : i ≠ j := fun e => by rw [e, hs] at h3; cases h3
        exact a4 i (by omega) (by omega) h3 (fun i' g1 g2 g3 g4 => h4 i' (by omega) (by omega) g3 g4)
