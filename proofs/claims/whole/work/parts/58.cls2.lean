/-! the second matching: homes in order -/
theorem sumN_hiB {f : Nat → Int} {B : Int} (hB : 0 ≤ B) : ∀ n, n ≤ 12 → (∀ i, i < n → f i ≤ B) → sumN f n ≤ 12 * B
  | n, hn, h => by
    have key : ∀ m, m ≤ n → sumN f m ≤ (m : Int) * B := fun m => by
      induction m with
      | zero => intro _; show (0 : Int) ≤ ((0 : Nat) : Int) * B; simp
      | succ m ih =>
        intro hm
        have h1 := ih (by omega)
        have h2 := h m (by omega)
        show sumN f m + f m ≤ ((m + 1 : Nat) : Int) * B
        rw [show ((m + 1 : Nat) : Int) * B = (m : Int) * B + B by rw [Int.natCast_add, Int.add_mul]; simp]
        omega
    have h1 := key n (Nat.le_refl n)
    have h2 : (n : Int) * B ≤ 12 * B := Int.mul_le_mul_of_nonneg_right (by omega) hB
    omega
theorem sumN_one1 {f : Nat → Int} {k : Nat} {B : Int} : ∀ n, k < n → (∀ i, i < n → 0 ≤ f i) → B ≤ f k → B ≤ sumN f n
  | 0, h, _, _ => by omega
  | n + 1, h, hl, hf => by
    have p0 : ∀ m, m ≤ n → 0 ≤ sumN f m := fun m => by
      induction m with
      | zero => intro _; exact Int.le_refl _
      | succ m ih =>
        intro hm
        have h1 := ih (by omega)
        have h2 := hl m (by omega)
        show 0 ≤ sumN f m + f m
        omega
    show B ≤ sumN f n + f n
    by_cases e : k = n
    · have h1 := p0 n (Nat.le_refl n)
      rw [e] at hf
      omega
    · have h1 := sumN_one1 n (by omega) (fun i hi => hl i (by omega)) hf
      have h2 := hl n (by omega)
      omega
def rkO : Option Nat → Nat
  | none => 12
  | some h => h
/-- how places stand in order -/
def ky (n : Nat) (u : Nat → Option Nat) : Int := sumN (fun p => ((rkO (u p) * 13 ^ (n - 1 - p) : Nat) : Int)) n
theorem rk_bd {n p r : Nat} (hn : n ≤ 12) (hr : r ≤ 12) : r * 13 ^ (n - 1 - p) ≤ 21505924728444 := by
  have h1 : 13 ^ (n - 1 - p) ≤ 13 ^ 11 := Nat.pow_le_pow_right (by decide) (by omega)
  have h2 : r * 13 ^ (n - 1 - p) ≤ 12 * 13 ^ 11 := Nat.mul_le_mul hr h1
  have h3 : 12 * 13 ^ 11 = 21505924728444 := by decide
  omega
theorem plRank_uOf {s : PL} {t : Nat → Nat} {p : Nat} : plRank s p (t p) = rkO (uOf (plGo s) t p) := by
  unfold plRank uOf
  by_cases h : plGo s p (t p) = true
  · rw [if_pos h, if_pos h]; rfl
  · rw [if_neg h, if_neg h]; rfl
theorem plRank_le {s : PL} {p h : Nat} (hh : h < 12) : plRank s p h ≤ 12 := by
  unfold plRank
  split <;> omega
def plK (s : PL) (q : MT) (p h : Nat) : Int := if mtTight (plQ1 s q) p h = true then ((plRank s p h * 13 ^ (plN s - 1 - p) : Nat) : Int) else 1125899906842624
theorem q2_ok {s : PL} {q : MT} (hn : plN s ≤ 12) : HM (plQ2 s q) (plN s) (plN s) ∧ ∀ p h, p < plN s → h < plN s → wI (plQ2 s q) p h = plK s q p h := by
  have hv : ∀ p h, p < plN s → h < plN s → (plOrd s (plQ1 s q) (plN s) 1 (plQ1 s q).1 (p * 12 + h)).toInt = plK s q p h := fun p h hp hh => by
    have e := (plOrd_spec s (plQ1 s q) hn (plN s) 1 (plQ1 s q).1).2 p h hp hh
    rw [Nat.one_mul] at e
    have e : plOrd s (plQ1 s q) (plN s) 1 (plQ1 s q).1 (p * 12 + h) = if mtTight (plQ1 s q) p h = true then lN (plRank s p h * 13 ^ (plN s - 1 - p)) else 1125899906842624 := e
    rw [e]
    unfold plK
    by_cases ht : mtTight (plQ1 s q) p h = true
    · rw [if_pos ht, if_pos ht]
      have := rk_bd (p := p) hn (plRank_le (s := s) (p := p) (h := h) (by omega))
      exact pk_lT (by omega)
    · rw [if_neg ht, if_neg ht]; decide
  have hb : ∀ p h, p < plN s → h < plN s → -1125899906842624 ≤ plK s q p h ∧ plK s q p h ≤ 1125899906842624 := fun p h hp hh => by
    unfold plK
    have := rk_bd (p := p) hn (plRank_le (s := s) (p := p) (h := h) (by omega))
    split
    · constructor <;> omega
    · constructor <;> omega
  have hw : HW (plOrd s (plQ1 s q) (plN s) 1 (plQ1 s q).1, (plQ1 s q).2) (plN s) := fun p h hp hh => by
    show -1125899906842624 ≤ (plOrd s (plQ1 s q) (plN s) 1 (plQ1 s q).1 (p * 12 + h)).toInt ∧ (plOrd s (plQ1 s q) (plN s) 1 (plQ1 s q).1 (p * 12 + h)).toInt ≤ 1125899906842624
    rw [hv p h hp hh]
    exact hb p h hp hh
  obtain ⟨a1, a2, _⟩ := hung_solve hn hw
  refine ⟨a1, fun p h hp hh => ?_⟩
  show ((mtSolve (plOrd s (plQ1 s q) (plN s) 1 (plQ1 s q).1, (plQ1 s q).2) (plN s)).1 (p * 12 + h)).toInt = _
  rw [a2]
  exact hv p h hp hh
/-- the class's places are closed; none weigh less; of those that weigh as much none stand ahead -/
theorem cls_best {s : PL} {q : MT} (hn : plN s ≤ 12) (hc : cLe s.1) (hg : ∀ p, plGo s p p = false) : ∃ t2, isPm t2 (plN s) ∧ (∀ j, j < plN s → ∃ p, p < plN s ∧ t2 p = j ∧ (plQ2 s q).2.1 j = some p) ∧ plClo s (uOf (plGo s) t2) ∧ ∀ u, plClo s u → uSum s (uOf (plGo s) t2) ≤ uSum s u ∧ (uSum s u ≤ uSum s (uOf (plGo s) t2) → ky (plN s) (uOf (plGo s) t2) ≤ ky (plN s) u) := by
  obtain ⟨M, t1, ht1, hM, hall⟩ := q1_min (q := q) hn hc hg
  obtain ⟨a1, a3⟩ := q2_ok (q := q) hn
  obtain ⟨r2, hr2⟩ := a1.pm
  obtain ⟨t2, ht2, g1, g2⟩ := inv_pm r2
  have sw : ∀ (t r : Nat → Nat), isPm t (plN s) → isPm r (plN s) → (∀ j, j < plN s → t (r j) = j) → wgt (plQ2 s q) r (plN s) = sumN (fun p => plK s q p (t p)) (plN s) := fun t r ht hr e => by
    rw [wgt_rows hr e]
    exact sumN_congr _ (fun p hp => a3 p (t p) hp (ht.1 p hp))
  have hK2 := sw t2 _ ht2 r2 g2
  have least : ∀ t, isPm t (plN s) → sumN (fun p => plK s q p (t2 p)) (plN s) ≤ sumN (fun p => plK s q p (t p)) (plN s) := fun t ht => by
    obtain ⟨r, hr, e1, _⟩ := inv_pm ht
    rw [← hK2, ← sw t r ht hr e1]
    exact dual_le a1 hr
  have pos : ∀ p h, 0 ≤ plK s q p h := fun p h => by
    unfold plK
    split <;> omega
  have kyE : ∀ t, (∀ p, p < plN s → mtTight (plQ1 s q) p (t p) = true) → sumN (fun p => plK s q p (t p)) (plN s) = ky (plN s) (uOf (plGo s) t) := fun t h => sumN_congr _ (fun p hp => by
    show plK s q p (t p) = ((rkO (uOf (plGo s) t p) * 13 ^ (plN s - 1 - p) : Nat) : Int)
    unfold plK
    rw [if_pos (h p hp), plRank_uOf])
  have tt1 := ((hall t1 ht1).2.1 (by rw [hM]; exact Int.le_refl _))
  have small : sumN (fun p => plK s q p (t1 p)) (plN s) ≤ 12 * 21505924728444 := sumN_hiB (by omega) _ hn (fun p hp => by
    show plK s q p (t1 p) ≤ 21505924728444
    unfold plK
    rw [if_pos (tt1 p hp).2]
    have := rk_bd (p := p) hn (plRank_le (s := s) (p := p) (h := t1 p) (by have := ht1.1 p hp; omega))
    omega)
  have tt2 : ∀ p, p < plN s → mtTight (plQ1 s q) p (t2 p) = true := fun p hp => by
    apply Classical.byContradiction
    intro hnt
    have h1 := least t1 ht1
    have h2 := sumN_one1 (f := fun p => plK s q p (t2 p)) (k := p) (B := 1125899906842624) (plN s) hp (fun i _ => pos i (t2 i)) (by
      show 1125899906842624 ≤ plK s q p (t2 p)
      unfold plK
      rw [if_neg hnt]; exact Int.le_refl _)
    omega
  have h2M := (hall t2 ht2).2.2 tt2
  have al2 := fun p hp => ((hall t2 ht2).2.1 h2M p hp).1
  have s2 : uSum s (uOf (plGo s) t2) = sumN (fun p => plP s p (t2 p)) (plN s) := uOf_wgt al2
  refine ⟨t2, ht2, fun j hj => ⟨((plQ2 s q).2.1 j).getD 0, r2.1 j hj, g2 j hj, hr2 j hj⟩, uOf_clo ht2 hg al2, fun u hu => ?_⟩
  obtain ⟨t, ht, hal, hle, heq⟩ := clo_pm hc hu
  have hm := (hall t ht).1
  rw [s2]
  refine ⟨Int.le_trans h2M (Int.le_trans hm hle), fun hl => ?_⟩
  have tM : sumN (fun p => plP s p (t p)) (plN s) ≤ M := by
    have h1 : sumN (fun p => plP s p (t p)) (plN s) ≤ uSum s u := hle
    omega
  have tt := (hall t ht).2.1 tM
  have hu2 : ∀ p, p < plN s → uOf (plGo s) t p = u p := heq (by
    show uSum s u ≤ sumN (fun p => plP s p (t p)) (plN s)
    omega)
  have hk := least t ht
  rw [kyE t2 tt2, kyE t (fun p hp => (tt p hp).2)] at hk
  have : ky (plN s) (uOf (plGo s) t) = ky (plN s) u := sumN_congr _ (fun p hp => by
    show ((rkO (uOf (plGo s) t p) * 13 ^ (plN s - 1 - p) : Nat) : Int) = ((rkO (u p) * 13 ^ (plN s - 1 - p) : Nat) : Int)
    rw [hu2 p hp])
  rw [this] at hk
  exact hk
