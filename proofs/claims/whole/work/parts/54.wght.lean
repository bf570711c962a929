/-! the planner's weights, in whole numbers -/
theorem lN_mul2 (x y : Nat) : lN x * lN y = lN (x * y) := by
  unfold lN; exact (Int64.ofNat_mul x y).symm
theorem rowF_spec (g : Nat → Int64) (b : Nat) : ∀ (m j : Nat) (w : Nat → Int64), (∀ i, (i < b + j ∨ b + j + m ≤ i) → foldF (fun h w => vp_updL w (b + h) (g h)) m j w i = w i) ∧ ∀ h, j ≤ h → h < j + m → foldF (fun h w => vp_updL w (b + h) (g h)) m j w (b + h) = g h
  | 0, j, w => ⟨fun _ _ => rfl, fun h h1 h2 => by omega⟩
  | m + 1, j, w => by
    obtain ⟨a1, a2⟩ := rowF_spec g b m (j + 1) (vp_updL w (b + j) (g j))
    rw [show foldF (fun h w => vp_updL w (b + h) (g h)) (m + 1) j w = foldF (fun h w => vp_updL w (b + h) (g h)) m (j + 1) (vp_updL w (b + j) (g j)) from rfl]
    refine ⟨fun i hi => ?_, fun h h1 h2 => ?_⟩
    · rw [a1 i (by omega), vpL_ne _ _ (by omega)]
    · by_cases e : h = j
      · subst e
        rw [a1 (b + h) (by omega), vpL_self]
      · exact a2 h (by omega) (by omega)
theorem plWall_spec (s : PL) (hn : s.2.2.2.2.1 ≤ 12) : ∀ (m p : Nat) (w : Nat → Int64), (∀ i, (i < p * 12 ∨ (p + m) * 12 ≤ i) → foldF (plWrow s) m p w i = w i) ∧ ∀ q h, p ≤ q → q < p + m → h < s.2.2.2.2.1 → foldF (plWrow s) m p w (q * 12 + h) = plW s q h
  | 0, p, w => ⟨fun _ _ => rfl, fun q h h1 h2 => by omega⟩
  | m + 1, p, w => by
    obtain ⟨a1, a2⟩ := plWall_spec s hn m (p + 1) (plWrow s p w)
    obtain ⟨b1, b2⟩ := rowF_spec (plW s p) (p * 12) s.2.2.2.2.1 0 w
    rw [show foldF (plWrow s) (m + 1) p w = foldF (plWrow s) m (p + 1) (plWrow s p w) from rfl]
    have e : plWrow s p w = foldF (fun h w => vp_updL w (p * 12 + h) (plW s p h)) s.2.2.2.2.1 0 w := rfl
    refine ⟨fun i hi => ?_, fun q h h1 h2 h3 => ?_⟩
    · rw [a1 i (by omega), e, b1 i (by omega)]
    · by_cases z : q = p
      · subst z
        rw [a1 (q * 12 + h) (by omega), e, b2 h (by omega) (by omega)]
      · exact a2 q h (by omega) (by omega) h3
theorem plWall_at {s : PL} (hn : s.2.2.2.2.1 ≤ 12) (w : Nat → Int64) {p h : Nat} (hp : p < s.2.2.2.2.1) (hh : h < s.2.2.2.2.1) : plWall s w (p * 12 + h) = plW s p h := (plWall_spec s hn s.2.2.2.2.1 0 w).2 p h (by omega) (by omega) hh
/-- one pair's weight: to go costs, less what a place is worth; to move is dear -/
def plWI (s : PL) (p h : Nat) : Int := if plGo s p h = true then (((s.1 (p * 12 + h)).getD 0 : Nat) : Int) - 262144 + (if s.2.2.2.2.2.2 p = none ∨ s.2.2.2.2.2.2 p = some h then 0 else 8388608) else if p = h ∨ (s.2.2.1 p = true ∧ s.2.1 h = true) then (if s.2.2.2.2.2.2 p = none then 0 else 8388608) else 1125899906842624
theorem plW_int {s : PL} (hc : cLe s.1) (p h : Nat) : (plW s p h).toInt = plWI s p h := by
  unfold plW plWI
  by_cases hg : plGo s p h = true
  · rw [if_pos hg, if_pos hg]
    have hk : (s.1 (p * 12 + h)).getD 0 ≤ 10000 := by
      cases e : s.1 (p * 12 + h) with
      | none => exact Nat.zero_le _
      | some c => exact hc _ _ e
    have e1 : (lN ((s.1 (p * 12 + h)).getD 0)).toInt = (((s.1 (p * 12 + h)).getD 0 : Nat) : Int) := pk_lT (by omega)
    have e2 : (262144 : Int64).toInt = 262144 := by decide
    have e3 : (lN ((s.1 (p * 12 + h)).getD 0) - 262144).toInt = (((s.1 (p * 12 + h)).getD 0 : Nat) : Int) - 262144 := by
      rw [i64_sub (by rw [e1, e2]; omega) (by rw [e1, e2]; omega), e1, e2]
    by_cases hm : s.2.2.2.2.2.2 p = none ∨ s.2.2.2.2.2.2 p = some h
    · rw [if_pos hm, if_pos hm]
      have e4 : (0 : Int64).toInt = 0 := by decide
      rw [i64_add (by rw [e3, e4]; omega) (by rw [e3, e4]; omega), e3, e4]
    · rw [if_neg hm, if_neg hm]
      have e4 : (8388608 : Int64).toInt = 8388608 := by decide
      rw [i64_add (by rw [e3, e4]; omega) (by rw [e3, e4]; omega), e3, e4]
  · rw [if_neg hg, if_neg hg]
    by_cases hs : p = h ∨ (s.2.2.1 p = true ∧ s.2.1 h = true)
    · rw [if_pos hs, if_pos hs]
      by_cases hm : s.2.2.2.2.2.2 p = none
      · rw [if_pos hm, if_pos hm]; decide
      · rw [if_neg hm, if_neg hm]; decide
    · rw [if_neg hs, if_neg hs]; decide
theorem plWI_bd {s : PL} (hc : cLe s.1) (p h : Nat) : -1125899906842624 ≤ plWI s p h ∧ plWI s p h ≤ 1125899906842624 := by
  have hk : (s.1 (p * 12 + h)).getD 0 ≤ 10000 := by
    cases e : s.1 (p * 12 + h) with
    | none => exact Nat.zero_le _
    | some c => exact hc _ _ e
  unfold plWI
  split
  · split
    · constructor <;> omega
    · constructor <;> omega
  · split
    · split
      · constructor <;> omega
      · constructor <;> omega
    · constructor <;> omega
/-! the weights of the order: ranks, row by row, of tight pairs -/
theorem mtTight_w {w v : Nat → Int64} {q : (Nat → Option Nat) × (Nat → Int64) × (Nat → Int64) × (Nat → Int64) × (Nat → Nat) × (Nat → Bool)} {p h : Nat} (e : w (p * 12 + h) = v (p * 12 + h)) : mtTight (w, q) p h = mtTight (v, q) p h := by
  simp only [mtTight, e]
theorem plO_spec (s : PL) (q : MT) (sc : Int64) (k : Nat) : ∀ (m j : Nat) (w : Nat → Int64), (∀ i, (i < k * 12 + j ∨ k * 12 + j + m ≤ i) → foldF (plO s q sc k) m j w i = w i) ∧ ∀ h, j ≤ h → h < j + m → foldF (plO s q sc k) m j w (k * 12 + h) = if mtTight (w, q.2) k h = true then lN (plRank s k h) * sc else 1125899906842624
  | 0, j, w => ⟨fun _ _ => rfl, fun h h1 h2 => by omega⟩
  | m + 1, j, w => by
    obtain ⟨a1, a2⟩ := plO_spec s q sc k m (j + 1) (plO s q sc k j w)
    rw [show foldF (plO s q sc k) (m + 1) j w = foldF (plO s q sc k) m (j + 1) (plO s q sc k j w) from rfl]
    have o : ∀ i, i ≠ k * 12 + j → plO s q sc k j w i = w i := fun i hi => vpL_ne _ _ hi
    refine ⟨fun i hi => ?_, fun h h1 h2 => ?_⟩
    · rw [a1 i (by omega), o i (by omega)]
    · by_cases e : h = j
      · subst e
        rw [a1 (k * 12 + h) (by omega)]
        exact vpL_self _ _ _
      · rw [a2 h (by omega) (by omega), mtTight_w (o (k * 12 + h) (by omega))]
theorem plOrd_spec (s : PL) (q : MT) (hn : s.2.2.2.2.1 ≤ 12) : ∀ (k S : Nat) (w : Nat → Int64), (∀ i, k * 12 ≤ i → plOrd s q k (lN S) w i = w i) ∧ ∀ p h, p < k → h < s.2.2.2.2.1 → plOrd s q k (lN S) w (p * 12 + h) = if mtTight (w, q.2) p h = true then lN (plRank s p h * (S * 13 ^ (k - 1 - p))) else 1125899906842624
  | 0, S, w => ⟨fun _ _ => rfl, fun p h h1 => by omega⟩
  | k + 1, S, w => by
    obtain ⟨a1, a2⟩ := plOrd_spec s q hn k (S * 13) (foldF (plO s q (lN S) k) s.2.2.2.2.1 0 w)
    obtain ⟨b1, b2⟩ := plO_spec s q (lN S) k s.2.2.2.2.1 0 w
    have e : plOrd s q (k + 1) (lN S) w = plOrd s q k (lN (S * 13)) (foldF (plO s q (lN S) k) s.2.2.2.2.1 0 w) := by
      show plOrd s q k (lN S * 13) _ = _
      rw [show lN S * 13 = lN (S * 13) from lN_mul2 S 13]
    rw [e]
    refine ⟨fun i hi => ?_, fun p h hp hh => ?_⟩
    · rw [a1 i (by omega), b1 i (by omega)]
    · by_cases z : p = k
      · subst z
        rw [a1 (p * 12 + h) (by omega), b2 h (by omega) (by omega)]
        rw [show p + 1 - 1 - p = 0 by omega, Nat.pow_zero, Nat.mul_one, lN_mul2]
      · rw [a2 p h (by omega) hh, mtTight_w (b1 (p * 12 + h) (by omega))]
        rw [show k + 1 - 1 - p = (k - 1 - p) + 1 by omega, Nat.pow_succ, Nat.mul_assoc S 13, Nat.mul_comm 13]
