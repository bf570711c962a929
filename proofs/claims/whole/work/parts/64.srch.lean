/-! the reference's search keeps the best CLOSED PLACES -/
theorem nI_subI {a b : Nat} (ha : a < 2 ^ 31) (hb : b < 2 ^ 31) : (nI a - nI b).toInt = (a : Int) - (b : Int) := by
  rw [Int32.toInt_sub, nI_toInt ha, nI_toInt hb]
  exact Int.bmod_eq_of_le_mul_two (by omega) (by omega)
theorem nI_subP {a b : Nat} (ha : a < 2 ^ 31) (hb : b < 2 ^ 31) : (0 : Int32) < nI a - nI b ↔ b < a := by
  rw [Int32.lt_iff_toInt_lt, nI_subI ha hb, show (0 : Int32).toInt = 0 by decide]
  omega
theorem nI_subN {a b : Nat} (ha : a < 2 ^ 31) (hb : b < 2 ^ 31) : nI a - nI b < (0 : Int32) ↔ a < b := by
  rw [Int32.lt_iff_toInt_lt, nI_subI ha hb, show (0 : Int32).toInt = 0 by decide]
  omega
/-- against is the order of weights -/
theorem mAg_lt {m n k m' n' k' : Nat} (hm : m ≤ 12) (hn : n ≤ 12) (hk : k ≤ 120000) (hm' : m' ≤ 12) (hn' : n' ≤ 12) (hk' : k' ≤ 120000) :
    (0 < mAg (1000000 * m + k) n (1000000 * m' + k') n' ↔ 8388608 * (m' : Int) - 262144 * (n' : Int) + (k' : Int) < 8388608 * (m : Int) - 262144 * (n : Int) + (k : Int)) ∧
    (mAg (1000000 * m + k) n (1000000 * m' + k') n' < 0 ↔ 8388608 * (m : Int) - 262144 * (n : Int) + (k : Int) < 8388608 * (m' : Int) - 262144 * (n' : Int) + (k' : Int)) := by
  have e1 : (1000000 * m + k) / 1000000 = m := by omega
  have e2 : (1000000 * m' + k') / 1000000 = m' := by omega
  have e3 : (1000000 * m + k) % 1000000 = k := by omega
  have e4 : (1000000 * m' + k') % 1000000 = k' := by omega
  unfold mAg
  rw [e1, e2, e3, e4]
  by_cases z : m = m'
  · rw [if_pos z]
    by_cases y : n = n'
    · rw [if_pos y, nI_subP (by omega) (by omega), nI_subN (by omega) (by omega)]; omega
    · rw [if_neg y, nI_subP (by omega) (by omega), nI_subN (by omega) (by omega)]; omega
  · rw [if_neg z, nI_subP (by omega) (by omega), nI_subN (by omega) (by omega)]; omega
theorem lex_ky {u v : Nat → Option Nat} : ∀ n p, p < n → (∀ q, q < n → rkO (u q) ≤ 12) → (∀ q, q < n → rkO (v q) ≤ 12) → (∀ q, q < p → rkO (u q) = rkO (v q)) → rkO (u p) < rkO (v p) → ky n u < ky n v
  | 0, p, hp, _, _, _, _ => by omega
  | n + 1, p, hp, hu, hv, he, hl => by
    rw [ky_s, ky_s]
    have b1 := hu n (by omega)
    have b2 := hv n (by omega)
    by_cases z : p = n
    · subst z
      have : ky p u = ky p v := by
        show sumN _ p = sumN _ p
        refine sumN_congr p (fun q hq => ?_)
        show ((rkO (u q) * 13 ^ (p - 1 - q) : Nat) : Int) = ((rkO (v q) * 13 ^ (p - 1 - q) : Nat) : Int)
        rw [he q hq]
      omega
    · have := lex_ky n p (by omega) (fun q hq => hu q (by omega)) (fun q hq => hv q (by omega)) he hl
      omega
theorem ky_congr {u v : Nat → Option Nat} {n : Nat} (h : ∀ p, p < n → u p = v p) : ky n u = ky n v := by
  show sumN _ n = sumN _ n
  refine sumN_congr n (fun q hq => ?_)
  show ((rkO (u q) * 13 ^ (n - 1 - q) : Nat) : Int) = ((rkO (v q) * 13 ^ (n - 1 - q) : Nat) : Int)
  rw [h q hq]
/-- ahead of is the order of ky -/
theorem mAhead_ky {u v : Nat → Option Nat} {n : Nat} (hu : ∀ q h, q < n → u q = some h → h < 12) (hv : ∀ q h, q < n → v q = some h → h < 12) : ∀ m p, p + m = n → (∀ q, q < p → u q = v q) → (mAhead u v m p = true → ky n u < ky n v) ∧ (mAhead u v m p = false → ky n v ≤ ky n u)
  | 0, p, e, h => ⟨(fun z => by cases z), fun _ => by
      rw [ky_congr (u := v) (v := u) (n := n) (fun q hq => (h q (by omega)).symm)]; exact Int.le_refl _⟩
  | m + 1, p, e, h => by
    have rb : ∀ (w : Nat → Option Nat), (∀ q h, q < n → w q = some h → h < 12) → ∀ q, q < n → rkO (w q) ≤ 12 := fun w hw q hq => by
      cases ew : w q with
      | none => exact Nat.le_refl 12
      | some x => exact Nat.le_of_lt (hw q x hq ew)
    unfold mAhead
    by_cases z : u p = v p
    · rw [if_pos z]
      exact mAhead_ky hu hv m (p + 1) (by omega) (fun q hq => by
        by_cases y : q = p
        · rw [y, z]
        · exact h q (by omega))
    · rw [if_neg z]
      have hp : p < n := by omega
      have lt : rkO (u p) < rkO (v p) → ky n u < ky n v := fun hl => lex_ky n p hp (rb u hu) (rb v hv) (fun q hq => by rw [h q hq]) hl
      have gt : rkO (v p) < rkO (u p) → ky n v < ky n u := fun hl => lex_ky n p hp (rb v hv) (rb u hu) (fun q hq => by rw [h q hq]) hl
      cases ev : v p with
      | none =>
        refine ⟨fun _ => lt ?_, (fun w => by cases w)⟩
        cases eu : u p with
        | none => exact absurd (by rw [eu, ev]) z
        | some x => rw [ev]; exact hu p x hp eu
      | some y =>
        cases eu : u p with
        | none =>
          refine ⟨(fun w => by cases w), fun _ => Int.le_of_lt (gt ?_)⟩
          rw [ev, eu]; exact hv p y hp ev
        | some x =>
          refine ⟨fun w => lt ?_, fun w => Int.le_of_lt (gt ?_)⟩
          · rw [eu, ev]; exact of_decide_eq_true w
          · have w := of_decide_eq_false w
            rw [eu, ev]
            have : x ≠ y := fun w2 => z (by rw [eu, ev, w2])
            show y < x
            omega
theorem gcount_congr {u v : Nat → Option Nat} : ∀ n, (∀ p, p < n → u p = v p) → gcount u n = gcount v n
  | 0, _ => rfl
  | n + 1, h => by
    show gcount u n + (if u n = none then 0 else 1) = gcount v n + (if v n = none then 0 else 1)
    rw [gcount_congr n (fun p hp => h p (by omega)), h n (by omega)]
theorem Clo_congr {n : Nat} {go : Nat → Nat → Bool} {F Lb : Nat → Bool} {u v : Nat → Option Nat} (h : ∀ p, p < n → u p = v p) (hc : Clo n go F Lb u) : Clo n go F Lb v := by
  obtain ⟨c1, c2, c3, c4⟩ := hc
  refine ⟨fun p x hp e => c1 p x hp (by rw [h p hp]; exact e), fun p q x hp hq e1 e2 => c2 p q x hp hq (by rw [h p hp]; exact e1) (by rw [h q hq]; exact e2), fun p hp e => ?_, fun f q hf hq e => ?_⟩
  · rcases c3 p hp (by rw [h p hp]; exact e) with z | ⟨q, hq, z⟩
    · exact Or.inl z
    · exact Or.inr ⟨q, hq, by rw [← h q hq]; exact z⟩
  · rw [← h f hf]
    exact c4 f q hf hq (by rw [h q hq]; exact e)
theorem us_congr {c : Nat → Nat → Nat} {b u v : Nat → Option Nat} {n : Nat} (h : ∀ p, p < n → u p = v p) : sumN (fun p => uW c b p (u p)) n = sumN (fun p => uW c b p (v p)) n := sumN_congr n (fun q hq => by
  show uW c b q (u q) = uW c b q (v q)
  rw [h q hq])
/-- u stands no later than v -/
def bet (c : Nat → Nat → Nat) (b : Nat → Option Nat) (n : Nat) (u v : Nat → Option Nat) : Prop := sumN (fun p => uW c b p (u p)) n ≤ sumN (fun p => uW c b p (v p)) n ∧ (sumN (fun p => uW c b p (v p)) n ≤ sumN (fun p => uW c b p (u p)) n → ky n u ≤ ky n v)
theorem bet_tr {c : Nat → Nat → Nat} {b : Nat → Option Nat} {n : Nat} {u v w : Nat → Option Nat} (h1 : bet c b n u v) (h2 : bet c b n v w) : bet c b n u w :=
  ⟨Int.le_trans h1.1 h2.1, fun h => Int.le_trans (h1.2 (Int.le_trans h2.1 h)) (h2.2 (Int.le_trans h h1.1))⟩
theorem bet_congr {c : Nat → Nat → Nat} {b : Nat → Option Nat} {n : Nat} {u u' v : Nat → Option Nat} (h : ∀ p, p < n → u p = u' p) (h1 : bet c b n u v) : bet c b n u' v := by
  unfold bet at h1 ⊢
  rw [← us_congr (c := c) (b := b) h, ← ky_congr h]
  exact h1
/-- within one set -/
theorem pt_best {my : Nat → Nat} {ke : Bool} {ai b : Nat → Option Nat} {tr gv : Nat → Bool} {n s : Nat} {go : Nat → Nat → Bool} {c : Nat → Nat → Nat} (hn : n ≤ 12) (hm : myIs my n go c) (hb : ∀ p, p < n → b p = if ke = true then ai p else none) (hv : mVW my ke ai tr gv n s 0 0 < 100000000) {v : Nat → Option Nat} (hc : Clo n go tr gv v) (hs : tkn v n = s) : bet c b n (mPT my ke ai tr n (mVW my ke ai tr gv n s) s) v := by
  obtain ⟨w1, w2⟩ := pt_way hn hv
  have hw := clo_way hm hc
  rw [hs] at hw
  have hcp := way_clo hm w1
  have lo := way_lo (ke := ke) (ai := ai) hw n 0 (by omega)
  have lo : mVW my ke ai tr gv n s 0 0 + 0 ≤ Pc my ke ai v n := lo
  have m1 := way_many hn w1
  have m2 := way_many hn hw
  have p1 := Pc_eq (ke := ke) (ai := ai) (b := b) hm hb hcp.1 n (Nat.le_refl n)
  have p2 := Pc_eq (ke := ke) (ai := ai) (b := b) hm hb hc.1 n (Nat.le_refl n)
  have k1 := csN_le hm.2 (mPT my ke ai tr n (mVW my ke ai tr gv n s) s) n
  have k2 := csN_le hm.2 v n
  refine ⟨?_, fun h => ?_⟩
  · rw [us_eq, us_eq, ← m1, ← m2]; omega
  · rw [us_eq, us_eq, ← m1, ← m2] at h
    have heq : Pc my ke ai v n = mVW my ke ai tr gv n s 0 0 := by omega
    have hd : ∀ m p, p + m = n → (∀ q, q < p → mPT my ke ai tr n (mVW my ke ai tr gv n s) s q = v q) → ky n (mPT my ke ai tr n (mVW my ke ai tr gv n s) s) ≤ ky n v := fun m => by
      induction m with
      | zero => exact fun p e hq => by rw [ky_congr (fun q hx => hq q (by omega))]; exact Int.le_refl _
      | succ m ih =>
        intro p e hq
        by_cases z : mPT my ke ai tr n (mVW my ke ai tr gv n s) s p = v p
        · exact ih (p + 1) (by omega) (fun q hx => by
            by_cases y : q = p
            · rw [y, z]
            · exact hq q (by omega))
        · have hp : p < n := by omega
          have hl := pt_lex hn hv hw heq p hp hq
          have bu : ∀ q h, q < n → mPT my ke ai tr n (mVW my ke ai tr gv n s) s q = some h → h < 12 := fun q h hq e => by have := (hcp.1 q h hq e).1; omega
          have bv : ∀ q h, q < n → v q = some h → h < 12 := fun q h hq e => by have := (hc.1 q h hq e).1; omega
          have rb : ∀ (w : Nat → Option Nat), (∀ q h, q < n → w q = some h → h < 12) → ∀ q, q < n → rkO (w q) ≤ 12 := fun w hw q hq => by
            cases ew : w q with
            | none => exact Nat.le_refl 12
            | some x => exact Nat.le_of_lt (hw q x hq ew)
          rcases Nat.lt_or_eq_of_le hl with y | y
          · exact Int.le_of_lt (lex_ky n p hp (rb _ bu) (rb _ bv) (fun q hx => by rw [hq q hx]) y)
          · exact absurd (rkO_inj (fun h e => bu p h hp e) (fun h e => bv p h hp e) y) z
    exact hd n 0 (by omega) (fun q hq => by omega)
/-- what the fold keeps -/
def kept (my : Nat → Nat) (ke : Bool) (ai b : Nat → Option Nat) (tr gv : Nat → Bool) (n : Nat) (go : Nat → Nat → Bool) (c : Nat → Nat → Nat) (m : Nat) (z : SZ) : Prop :=
  (z.1 = 100000000 ∧ ∀ v, Clo n go tr gv v → ¬ tkn v n < m) ∨
  (z.1 < 100000000 ∧ Clo n go tr gv z.2.2 ∧ z.1 = 1000000 * mvN b z.2.2 n + csN c z.2.2 n ∧ z.2.1 = gcount z.2.2 n ∧ ∀ v, Clo n go tr gv v → tkn v n < m → bet c b n z.2.2 v)
theorem mvN_congr {b u v : Nat → Option Nat} : ∀ n, (∀ p, p < n → u p = v p) → mvN b u n = mvN b v n
  | 0, _ => rfl
  | n + 1, h => by
    show mvN b u n + (if b n = none ∨ b n = u n then 0 else 1) = mvN b v n + (if b n = none ∨ b n = v n then 0 else 1)
    rw [mvN_congr n (fun p hp => h p (by omega)), h n (by omega)]
theorem csN_congr {c : Nat → Nat → Nat} {u v : Nat → Option Nat} : ∀ n, (∀ p, p < n → u p = v p) → csN c u n = csN c v n
  | 0, _ => rfl
  | n + 1, h => by
    show csN c u n + (match u n with | none => 0 | some h => c n h) = csN c v n + (match v n with | none => 0 | some h => c n h)
    rw [csN_congr n (fun p hp => h p (by omega)), h n (by omega)]
theorem kept_ss {my : Nat → Nat} {ke : Bool} {ai b : Nat → Option Nat} {tr gv : Nat → Bool} {n : Nat} {go : Nat → Nat → Bool} {c : Nat → Nat → Nat} (hn : n ≤ 12) (hm : myIs my n go c) (hb : ∀ p, p < n → b p = if ke = true then ai p else none) {s : Nat} {z : SZ} (hk : kept my ke ai b tr gv n go c s z) : kept my ke ai b tr gv n go c (s + 1) (mSs my ke ai tr gv n (mAbl my n (12 * n)) s z) := by
  have eV : mV my ke ai tr gv n s n 0 = mVW my ke ai tr gv n s 0 0 := rfl
  have same : (∀ v, Clo n go tr gv v → tkn v n ≠ s) → kept my ke ai b tr gv n go c (s + 1) z := fun hno => by
    rcases hk with ⟨h1, h2⟩ | ⟨h1, h2, h3, h4, h5⟩
    · exact Or.inl ⟨h1, fun v hv hl => h2 v hv (by have := hno v hv; omega)⟩
    · exact Or.inr ⟨h1, h2, h3, h4, fun v hv hl => h5 v hv (by have := hno v hv; omega)⟩
  have kb : ∀ u, csN c u n ≤ 120000 := fun u => by have := csN_le hm.2 u n; omega
  have mb : ∀ u, mvN b u n ≤ 12 := fun u => by have := mvN_le b u n; omega
  have gb : ∀ u, gcount u n ≤ 12 := fun u => by have := gcount_le u n; omega
  unfold mSs
  by_cases ha : s &&& mAbl my n (12 * n) = s
  · rw [if_pos ha]
    by_cases hV : mV my ke ai tr gv n s n 0 < 100000000
    · rw [if_pos hV]
      have hv : mVW my ke ai tr gv n s 0 0 < 100000000 := hV
      obtain ⟨w1, w2⟩ := pt_way hn hv
      have hcp := way_clo hm w1
      have m1 := way_many hn w1
      have p1 := Pc_eq (ke := ke) (ai := ai) (b := b) hm hb hcp.1 n (Nat.le_refl n)
      have eT : ∀ p, p < n → mPT my ke ai tr n (mVW my ke ai tr gv n s) s p = cpyO z.2.2 (mPT my ke ai tr n (mVW my ke ai tr gv n s) s) n p := fun p hp => by
        unfold cpyO; rw [if_pos hp]
      have new : (∀ v, Clo n go tr gv v → tkn v n < s → bet c b n (mPT my ke ai tr n (mVW my ke ai tr gv n s) s) v) → kept my ke ai b tr gv n go c (s + 1) (mNew my ke ai tr gv n s z) := fun hall => by
        refine Or.inr ⟨hV, Clo_congr eT hcp, ?_, ?_, fun v hv' hl => ?_⟩
        · show mV my ke ai tr gv n s n 0 = 1000000 * mvN b (cpyO z.2.2 (mPT my ke ai tr n (mVW my ke ai tr gv n s) s) n) n + csN c (cpyO z.2.2 (mPT my ke ai tr n (mVW my ke ai tr gv n s) s) n) n
          rw [← mvN_congr n eT, ← csN_congr n eT, eV, ← w2, p1]
        · show mBi12 s 12 = gcount (cpyO z.2.2 (mPT my ke ai tr n (mVW my ke ai tr gv n s) s) n) n
          rw [← gcount_congr n eT, m1]
        · refine bet_congr eT ?_
          by_cases y : tkn v n = s
          · exact pt_best hn hm hb hv hv' y
          · exact hall v hv' (by omega)
      rcases hk with ⟨h1, h2⟩ | ⟨h1, h2, h3, h4, h5⟩
      · rw [if_neg (by omega)]
        exact new (fun v hv' hl => absurd hl (h2 v hv'))
      · rw [if_pos h1]
        have old : bet c b n z.2.2 (mPT my ke ai tr n (mVW my ke ai tr gv n s) s) → kept my ke ai b tr gv n go c (s + 1) z := fun hbz => by
          refine Or.inr ⟨h1, h2, h3, h4, fun v hv' hl => ?_⟩
          by_cases y : tkn v n = s
          · exact bet_tr hbz (pt_best hn hm hb hv hv' y)
          · exact h5 v hv' (by omega)
        have ag := mAg_lt (mb (mPT my ke ai tr n (mVW my ke ai tr gv n s) s)) (gb (mPT my ke ai tr n (mVW my ke ai tr gv n s) s)) (kb (mPT my ke ai tr n (mVW my ke ai tr gv n s) s)) (mb z.2.2) (gb z.2.2) (kb z.2.2)
        rw [← p1, w2, ← eV, ← m1, ← h3, ← h4] at ag
        have e1 := us_eq c b (mPT my ke ai tr n (mVW my ke ai tr gv n s) s) n
        have e2 := us_eq c b z.2.2 n
        rw [← m1] at e1
        rw [← h4] at e2
        rw [← e1, ← e2] at ag
        by_cases g1 : 0 < mAg (mV my ke ai tr gv n s n 0) (mBi12 s 12) z.1 z.2.1
        · rw [if_pos g1]
          have := ag.1.1 g1
          exact old ⟨Int.le_of_lt this, fun h => by omega⟩
        · rw [if_neg g1]
          have g1' := fun h => g1 (ag.1.2 h)
          by_cases g2 : mAg (mV my ke ai tr gv n s n 0) (mBi12 s 12) z.1 z.2.1 < 0
          · rw [if_pos g2]
            have := ag.2.1 g2
            exact new (fun v hv' hl => bet_tr ⟨Int.le_of_lt this, fun h => by omega⟩ (h5 v hv' hl))
          · rw [if_neg g2]
            have g2' := fun h => g2 (ag.2.2 h)
            have ah := mAhead_ky (u := mPT my ke ai tr n (mVW my ke ai tr gv n s) s) (v := z.2.2) (n := n) (fun q h hq e => by have := (hcp.1 q h hq e).1; omega) (fun q h hq e => by have := (h2.1 q h hq e).1; omega) n 0 (by omega) (fun q hq => by omega)
            by_cases g3 : mAhead (mPT my ke ai tr n (mVW my ke ai tr gv n s) s) z.2.2 n 0 = true
            · rw [if_pos g3]
              have := ah.1 g3
              exact new (fun v hv' hl => bet_tr ⟨Int.not_lt.1 g1', fun _ => Int.le_of_lt this⟩ (h5 v hv' hl))
            · rw [if_neg g3]
              have := ah.2 (Bool.eq_false_iff.2 g3)
              exact old ⟨Int.not_lt.1 g2', fun _ => this⟩
    · rw [if_neg hV]
      refine same (fun v hv' e => hV ?_)
      have hw := clo_way hm hv'
      rw [e] at hw
      have lo := way_lo (ke := ke) (ai := ai) hw n 0 (by omega)
      have lo : mV my ke ai tr gv n s n 0 + 0 ≤ Pc my ke ai v n := lo
      have p2 := Pc_eq (ke := ke) (ai := ai) (b := b) hm hb hv'.1 n (Nat.le_refl n)
      have := kb v
      have := mb v
      omega
  · rw [if_neg ha]
    refine same (fun v hv' e => ha ?_)
    have hw := clo_way hm hv'
    rw [e] at hw
    exact (way_abl hn hm hw).1
theorem kept_all {my : Nat → Nat} {ke : Bool} {ai b : Nat → Option Nat} {tr gv : Nat → Bool} {n : Nat} {go : Nat → Nat → Bool} {c : Nat → Nat → Nat} (hn : n ≤ 12) (hm : myIs my n go c) (hb : ∀ p, p < n → b p = if ke = true then ai p else none) : ∀ m s z, kept my ke ai b tr gv n go c s z → kept my ke ai b tr gv n go c (s + m) (foldF (mSs my ke ai tr gv n (mAbl my n (12 * n))) m s z)
  | 0, s, z, h => h
  | m + 1, s, z, h => by
    have := kept_all hn hm hb m (s + 1) _ (kept_ss hn hm hb h)
    rw [show s + (m + 1) = s + 1 + m by omega]
    exact this
theorem search_best {my : Nat → Nat} {ke : Bool} {ai b : Nat → Option Nat} {tr gv : Nat → Bool} {n : Nat} {go : Nat → Nat → Bool} {c : Nat → Nat → Nat} (hn : n ≤ 12) (hm : myIs my n go c) (hb : ∀ p, p < n → b p = if ke = true then ai p else none) {ch w : Nat → Option Nat} (hw : Clo n go tr gv w) :
    Clo n go tr gv (mSearch my ke ai tr gv n ch).2.2 ∧ (mSearch my ke ai tr gv n ch).1 = 1000000 * mvN b (mSearch my ke ai tr gv n ch).2.2 n + csN c (mSearch my ke ai tr gv n ch).2.2 n ∧ (mSearch my ke ai tr gv n ch).2.1 = gcount (mSearch my ke ai tr gv n ch).2.2 n ∧ ∀ v, Clo n go tr gv v → bet c b n (mSearch my ke ai tr gv n ch).2.2 v := by
  have h := kept_all (ke := ke) (ai := ai) (b := b) (tr := tr) (gv := gv) hn hm hb (2 ^ n) 0 (100000000, 0, ch) (Or.inl ⟨rfl, fun v _ => Nat.not_lt_zero _⟩)
  rw [Nat.zero_add] at h
  have h : kept my ke ai b tr gv n go c (2 ^ n) (mSearch my ke ai tr gv n ch) := h
  have lt : ∀ v, Clo n go tr gv v → tkn v n < 2 ^ n := fun v hv => (way_abl hn hm (clo_way hm hv)).2
  rcases h with ⟨_, h2⟩ | ⟨_, h2, h3, h4, h5⟩
  · exact absurd (lt w hw) (h2 w hw)
  · exact ⟨h2, h3, h4, fun v hv => h5 v hv (lt v hv)⟩
/-- the class's places and the reference's are the same -/
theorem plan_same {s : PL} {q : MT} {my : Nat → Nat} {ke : Bool} {ai : Nat → Option Nat} {ch : Nat → Option Nat} (hn : plN s ≤ 12) (hc : cLe s.1) (hg : ∀ p, plGo s p p = false) (hm : ∀ p h, p < plN s → h < plN s → my (12 * p + h) = if plGo s p h = true then plC s p h else 100000000) (hb : ∀ p, p < plN s → s.2.2.2.2.2.2 p = if ke = true then ai p else none) :
    (∀ p, p < plN s → plHome s (plQ2 s q).2.1 p = (mSearch my ke ai s.2.1 s.2.2.1 (plN s) ch).2.2 p) ∧ (mSearch my ke ai s.2.1 s.2.2.1 (plN s) ch).1 = 1000000 * mvN s.2.2.2.2.2.2 (mSearch my ke ai s.2.1 s.2.2.1 (plN s) ch).2.2 (plN s) + csN (plC s) (mSearch my ke ai s.2.1 s.2.2.1 (plN s) ch).2.2 (plN s) ∧ (mSearch my ke ai s.2.1 s.2.2.1 (plN s) ch).2.1 = gcount (mSearch my ke ai s.2.1 s.2.2.1 (plN s) ch).2.2 (plN s) ∧ plClo s (plHome s (plQ2 s q).2.1) := by
  obtain ⟨t2, h1, h2, h3, h4⟩ := cls_best (q := q) hn hc hg
  have hmi : myIs my (plN s) (plGo s) (plC s) := ⟨hm, plC_le hc⟩
  obtain ⟨s1, s2, s3, s4⟩ := search_best (ke := ke) (ai := ai) (b := s.2.2.2.2.2.2) (ch := ch) hn hmi hb h3
  have eh := fun p hp => plHome_u (ro := (plQ2 s q).2.1) hn h1 h2 p hp
  refine ⟨fun p hp => ?_, s2, s3, Clo_congr (fun p hp => (eh p hp).symm) h3⟩
  rw [eh p hp]
  exact best_uniq hn h3 s1 (h4 _ s1).1 (s4 _ h3).1 (h4 _ s1).2 (s4 _ h3).2 p hp
