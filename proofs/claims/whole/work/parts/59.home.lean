/-! the places that the class writes down; places that stand alike are the same -/
theorem plHm_u {s : PL} {ro : Nat → Option Nat} {t : Nat → Nat} (ht : isPm t (plN s)) (hr : ∀ j, j < plN s → ∃ p, p < plN s ∧ t p = j ∧ ro j = some p) : ∀ (m k : Nat) (hm : Nat → Option Nat), k + m = plN s → (∀ p, p < plN s → hm p = if t p < k ∧ plGo s p (t p) = true then some (t p) else none) → ∀ p, p < plN s → foldF (plHm s ro) m k hm p = uOf (plGo s) t p
  | 0, k, hm, hk, h, p, hp => by
    show hm p = _
    rw [h p hp]
    unfold uOf
    have := ht.1 p hp
    by_cases hg : plGo s p (t p) = true
    · rw [if_pos ⟨by omega, hg⟩, if_pos hg]
    · rw [if_neg (fun e => hg e.2), if_neg hg]
  | m + 1, k, hm, hk, h, p, hp => by
    refine plHm_u ht hr m (k + 1) (plHm s ro k hm) (by omega) (fun x hx => ?_) p hp
    obtain ⟨y, hy, hty, hry⟩ := hr k (by omega)
    have e : plHm s ro k hm = if plGo s y k = true then va_up hm y (some k) else hm := by
      unfold plHm; rw [hry]
    rw [e]
    by_cases hxy : x = y
    · subst hxy
      by_cases hg : plGo s x k = true
      · rw [if_pos hg, va_up_self, if_pos ⟨by omega, by rw [hty]; exact hg⟩, hty]
      · rw [if_neg hg, h x hx, if_neg (fun z => by omega), if_neg (fun z => hg (by rw [← hty]; exact z.2))]
    · have hne : t x ≠ k := fun z => hxy (ht.2 x y hx hy (z.trans hty.symm))
      have e2 : (if plGo s y k = true then va_up hm y (some k) else hm) x = hm x := by
        by_cases hg : plGo s y k = true
        · rw [if_pos hg, va_up_ne _ _ hxy]
        · rw [if_neg hg]
      rw [e2, h x hx]
      by_cases q : t x < k ∧ plGo s x (t x) = true
      · rw [if_pos q, if_pos ⟨by omega, q.2⟩]
      · rw [if_neg q, if_neg (fun z => q ⟨by omega, z.2⟩)]
theorem plHome_u {s : PL} {ro : Nat → Option Nat} {t : Nat → Nat} (hn : plN s ≤ 12) (ht : isPm t (plN s)) (hr : ∀ j, j < plN s → ∃ p, p < plN s ∧ t p = j ∧ ro j = some p) (p : Nat) (hp : p < plN s) : plHome s ro p = uOf (plGo s) t p := plHm_u ht hr (plN s) 0 _ (by omega) (fun x hx => by
    rw [if_neg (fun z => by omega)]
    unfold cpyO
    rw [if_pos (by omega)]) p hp
theorem ky_sh (u : Nat → Option Nat) (n : Nat) : ∀ m, m ≤ n → sumN (fun p => ((rkO (u p) * 13 ^ (n + 1 - 1 - p) : Nat) : Int)) m = 13 * sumN (fun p => ((rkO (u p) * 13 ^ (n - 1 - p) : Nat) : Int)) m
  | 0, _ => rfl
  | m + 1, h => by
    show sumN _ m + ((rkO (u m) * 13 ^ (n + 1 - 1 - m) : Nat) : Int) = 13 * (sumN _ m + ((rkO (u m) * 13 ^ (n - 1 - m) : Nat) : Int))
    rw [ky_sh u n m (by omega), show n + 1 - 1 - m = (n - 1 - m) + 1 by omega, Nat.pow_succ, ← Nat.mul_assoc]
    omega
theorem ky_s (u : Nat → Option Nat) (n : Nat) : ky (n + 1) u = 13 * ky n u + (rkO (u n) : Int) := by
  show sumN _ n + ((rkO (u n) * 13 ^ (n + 1 - 1 - n) : Nat) : Int) = _
  rw [ky_sh u n n (Nat.le_refl n), show n + 1 - 1 - n = 0 by omega, Nat.pow_zero, Nat.mul_one]
  rfl
theorem ky_inj {u v : Nat → Option Nat} : ∀ n, (∀ p, p < n → rkO (u p) ≤ 12) → (∀ p, p < n → rkO (v p) ≤ 12) → ky n u = ky n v → ∀ p, p < n → rkO (u p) = rkO (v p)
  | 0, _, _, _, p, hp => by omega
  | n + 1, hu, hv, e, p, hp => by
    rw [ky_s, ky_s] at e
    have h1 := hu n (by omega)
    have h2 := hv n (by omega)
    by_cases z : p = n
    · rw [z]; omega
    · exact ky_inj n (fun p hp => hu p (by omega)) (fun p hp => hv p (by omega)) (by omega) p (by omega)
theorem rkO_inj {x y : Option Nat} (hx : ∀ h, x = some h → h < 12) (hy : ∀ h, y = some h → h < 12) (e : rkO x = rkO y) : x = y := by
  cases x with
  | none =>
    cases y with
    | none => rfl
    | some h => have := hy h rfl; have e : 12 = h := e; omega
  | some h =>
    cases y with
    | none => have := hx h rfl; have e : h = 12 := e; omega
    | some k => have e : h = k := e; rw [e]
/-- two best ones are the same -/
theorem best_uniq {s : PL} {u v : Nat → Option Nat} (hn : plN s ≤ 12) (hu : plClo s u) (hv : plClo s v) (h1 : uSum s u ≤ uSum s v) (h2 : uSum s v ≤ uSum s u) (k1 : uSum s v ≤ uSum s u → ky (plN s) u ≤ ky (plN s) v) (k2 : uSum s u ≤ uSum s v → ky (plN s) v ≤ ky (plN s) u) : ∀ p, p < plN s → u p = v p := fun p hp => by
  have bu : ∀ p, p < plN s → ∀ h, u p = some h → h < 12 := fun p hp h e => by
    exact Nat.lt_of_lt_of_le (hu.1 p h hp e).1 hn
  have bv : ∀ p, p < plN s → ∀ h, v p = some h → h < 12 := fun p hp h e => by
    exact Nat.lt_of_lt_of_le (hv.1 p h hp e).1 hn
  have le12 : ∀ (o : Option Nat), (∀ h, o = some h → h < 12) → rkO o ≤ 12 := fun o ho => by
    cases o with
    | none => exact Nat.le_refl _
    | some h => exact Nat.le_of_lt (ho h rfl)
  have e := Int.le_antisymm (k1 h2) (k2 h1)
  exact rkO_inj (bu p hp) (bv p hp) (ky_inj (plN s) (fun p hp => le12 _ (bu p hp)) (fun p hp => le12 _ (bv p hp)) e p hp)
