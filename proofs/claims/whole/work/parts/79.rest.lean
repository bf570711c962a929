/-! taking, closing, links -/
theorem gIn_cut {u : Nat → Option Nat} {x : Nat} (k : Nat) : ∀ m j, (∀ i, j + m ≤ i → u i = none) → gIn u x (m + k) j = gIn u x m j
  | 0, j, h => by
    rw [Nat.zero_add]
    show gIn u x k j = none
    induction k generalizing j with
    | zero => rfl
    | succ k ih =>
      unfold gIn
      rw [h j (by omega), if_neg (fun q => by cases q)]
      exact ih (j + 1) (fun i hi => h i (by omega))
  | m + 1, j, h => by
    rw [show m + 1 + k = (m + k) + 1 by omega]
    unfold gIn
    rw [gIn_cut k m (j + 1) (fun i hi => h i (by omega))]
theorem gIn_congr {u w : Nat → Option Nat} {x : Nat} : ∀ m j, (∀ i, j ≤ i → i < j + m → u i = w i) → gIn u x m j = gIn w x m j
  | 0, _, _ => rfl
  | m + 1, j, h => by
    unfold gIn
    rw [h j (Nat.le_refl j) (by omega), gIn_congr m (j + 1) (fun i h1 h2 => h i (by omega) (by omega))]
theorem HmR.hi {u hm : Nat → Option Nat} {n : Nat} (h : HmR u hm n) (p : Nat) (hp : n ≤ p) : u p = none := by
  cases e : u p with
  | none => rfl
  | some r => have := (h.2.1 p r e).1; omega
theorem HmR.gin {u hm : Nat → Option Nat} {n : Nat} (h : HmR u hm n) (hn : n ≤ 12) (x : Nat) : gIn u x 12 0 = gIn hm x n 0 := by
  have e : 12 = n + (12 - n) := by omega
  rw [e, gIn_cut (12 - n) n 0 (fun i hi => h.hi i (by omega))]
  exact gIn_congr n 0 (fun i _ hi => h.1 i (by omega))
theorem HmR.gct {u hm : Nat → Option Nat} {n : Nat} (h : HmR u hm n) (hn : n ≤ 12) : gcount u 12 = gcount hm n := by
  have e : 12 = n + (12 - n) := by omega
  rw [e, gc_cut (12 - n) (fun p hp => h.hi p hp)]
  exact gcount_congr n (fun i hi => h.1 i (by omega))
theorem HmR.more {u hm : Nat → Option Nat} {n m : Nat} (h : HmR u hm n) (hm_ : n ≤ m) : HmR u hm m := ⟨h.1, fun p r e => by have := h.2.1 p r e; omega, h.2.2⟩
theorem take_same {x : TX} {t : MR} (ht : TxR x t 0) {v nw k : Nat → Int32} {g : LG} {h : HS} {ql : PL} {y : MY} {u rh : Nat → Option Nat} (hv : VR v nw) (hg : dbOk g) (hn : hFs h ≤ 12) (hh : HmR u rh (hFs h)) : plAllow (hPl h v k ql g x) u (hPl h v k ql g x).2.2.2.2.1 0 = mClo (mWgh t nw g.1 h.2.2.2.2.1 0 (hFs h) y).1 (mWgh t nw g.1 h.2.2.2.2.1 0 (hFs h) y).2.1 (mWgh t nw g.1 h.2.2.2.2.1 0 (hFs h) y).2.2 rh (hFs h) (hFs h) 0 := by
  obtain ⟨a0, a1⟩ := hPl_at (k := k) (ql := ql) ht hv hg hn
  have eN : (hPl h v k ql g x).2.2.2.2.1 = hFs h := rfl
  rw [eN]
  have key : ∀ m f, f + m = hFs h → plAllow (hPl h v k ql g x) u m f = mClo (mWgh t nw g.1 h.2.2.2.2.1 0 (hFs h) y).1 (mWgh t nw g.1 h.2.2.2.2.1 0 (hFs h) y).2.1 (mWgh t nw g.1 h.2.2.2.2.1 0 (hFs h) y).2.2 rh (hFs h) m f := by
    intro m
    induction m with
    | zero => intro f _; rfl
    | succ m ih =>
      intro f hf
      have hfn : f < hFs h := by omega
      have eu : u f = rh f := hh.1 f (by omega)
      have w := wgh_at (t := t) (nw := nw) (db := g.1) (te := h.2.2.2.2.1) (sl := 0) hn y f hfn
      unfold plAllow mClo
      rw [ih (f + 1) (by omega), hh.gin hn f, (a1 f hfn).2.1, (a1 f hfn).2.2, w.2.1, w.2.2, ← eu]
      cases e : u f with
      | none =>
        dsimp only
        rw [if_neg (show ¬ (false = true) by decide), if_neg (fun q => q.1 rfl)]
        by_cases eg : gIn rh f (hFs h) 0 = none
        · rw [if_neg (fun q => q.2.1 eg), if_pos eg]
        · rw [if_neg eg]
          by_cases eg2 : mGiv nw g.1 f = true
          · rw [if_neg (fun q => by rw [eg2] at q; exact absurd q.2.2 (by decide)), if_pos eg2]
          · rw [if_pos ⟨rfl, eg, Bool.eq_false_iff.2 eg2⟩, if_neg eg2]
      | some r =>
        dsimp only
        have hr := (hh.2.1 f r e).2
        have eb : plBe (hPl h v k ql g x) f r = decide (mWhy t nw h.2.2.2.2.1 f r 0 = 0) := by
          unfold plBe
          rw [if_neg (show ¬ (hPl h v k ql g x).2.2.2.2.1 ≤ r from fun z => absurd z (Nat.not_le.2 hr)), (a1 f hfn).1 r hr]
          unfold cstO
          by_cases q : mWhy t nw h.2.2.2.2.1 f r 0 = 0
          · rw [if_pos q, if_neg (fun z => by cases z), decide_eq_true q]
          · rw [if_neg q, if_pos rfl, decide_eq_false q]
        rw [w.1 r hr]
        unfold mMay
        by_cases q : mWhy t nw h.2.2.2.2.1 f r 0 = 0
        · have pl : mPrice t nw f r 0 ≠ 100000000 := by
            unfold mPrice
            have : ∀ z, jClamp z ≤ 10000 := fun z => by
              unfold jClamp
              split
              · omega
              · split
                · omega
                · rename_i q1 q2
                  have q2 := Int32.not_lt.1 q2
                  have q1 := Int32.not_le.1 q1
                  rw [Int32.le_iff_toInt_le] at q2
                  have q2 : z.toInt ≤ 10000 := q2
                  show z.toInt.toNat ≤ 10000
                  omega
            have := this (mSum t nw f r 0 (rRg t 0) 0 (nw (32 * f + 20 + r)))
            omega
          have hb : plBe (hPl h v k ql g x) f r = true := by rw [eb, decide_eq_true q]
          rw [if_pos q, if_neg pl, if_neg (show ¬ ((!plBe (hPl h v k ql g x) f r) = true) by rw [hb]; decide)]
          by_cases eg : gIn rh f (hFs h) 0 = none
          · rw [if_pos eg]
            by_cases et : mTru nw g.1 f = true
            · rw [if_neg (fun z => by rw [et] at z; exact absurd z.2.2 (by decide)), if_neg (fun z => by cases z.1), if_pos et]
            · rw [if_pos ⟨(fun z => by cases z), eg, Bool.eq_false_iff.2 et⟩, if_neg et]
          · rw [if_neg eg, if_neg (fun z => eg z.2.1), if_neg (fun z => by cases z.1)]
        · have hb : plBe (hPl h v k ql g x) f r = false := by rw [eb, decide_eq_false q]
          rw [if_neg q, if_pos (show (!plBe (hPl h v k ql g x) f r) = true by rw [hb]; rfl), if_pos rfl]
  exact key (hFs h) 0 (by omega)
/-! closing -/
theorem set_same (g : LG) (f : Nat) (w c : Bool) : lgSettle g f w c = mSet g f w c := by
  cases w <;> cases c <;> rfl
theorem close_same {s : FB} {f : MF} {fn : Nat} {ck : Int32} (hf : FcR s f fn ck) {y : YR} {hm : Nat → Option Nat} {n : Nat} (hh : HmR y.1 hm n) (hn : n ≤ 12) (v : Nat → Int32) (g : LG) : foldF (hCl y (hV s v ck)) 12 0 g = foldF (mCls hm f fn ck n) n 0 g := by
  have e12 : 12 = n + (12 - n) := by omega
  conv => lhs; rw [e12]
  rw [fold_split, Nat.zero_add]
  have idl : ∀ m j (g : LG), n ≤ j → j + m ≤ 12 → foldF (hCl y (hV s v ck)) m j g = g := by
    intro m
    induction m with
    | zero => intro j g _ _; rfl
    | succ m ih =>
      intro j g hj hm_
      show foldF (hCl y (hV s v ck)) m (j + 1) (hCl y (hV s v ck) j g) = g
      have e : hCl y (hV s v ck) j g = g := by
        unfold hCl
        rw [hh.hi j hj]
        dsimp only
        have eg : gIn y.1 j 12 0 = none := by
          rw [hh.gin hn]
          cases q : gIn hm j n 0 with
          | none => rfl
          | some r =>
            have key : ∀ m i, gIn hm j m i = some r → hm r = some j ∧ r < i + m := by
              intro m
              induction m with
              | zero => intro i z; cases z
              | succ m ihm =>
                intro i z
                unfold gIn at z
                split at z
                · rename_i q1
                  cases z
                  exact ⟨q1, by omega⟩
                · have := ihm (i + 1) z
                  exact ⟨this.1, by omega⟩
            obtain ⟨k1, k2⟩ := key n 0 q
            have := hh.2.1 r j (by rw [hh.1 r (by omega)]; exact k1)
            omega
        rw [eg]
        rfl
      rw [e]
      exact ih (j + 1) g (by omega) (by omega)
  rw [idl (12 - n) n _ (Nat.le_refl n) (by omega)]
  refine fold_congr n 0 g (fun i g _ hi => ?_)
  have hi : i < n := by omega
  unfold hCl mCls
  rw [hh.gin hn i, ← hh.1 i (by omega)]
  cases e : y.1 i with
  | none => exact set_same g i false _
  | some q =>
    dsimp only
    have hq := hh.2.2.2.1 i q e
    rw [set_same, fact5_same hf ck v hq]
    unfold lgPay mPay
    rw [if_neg (fun z => by rcases z with z | z; exact nI_pos (by omega) z; exact nI_ge (a := q) (b := 12) hq (by decide) z), nI_clamp (by omega)]
def dbB (N : Nat) (g : LG) : Prop := ∀ j, 0 ≤ (g.1 j).toInt ∧ (g.1 j).toInt ≤ N
theorem dbB.ok {N : Nat} {g : LG} (h : dbB N g) : dbOk g := fun j => (h j).1
theorem dbB.more {N M : Nat} {g : LG} (h : dbB N g) (hm : N ≤ M) : dbB M g := fun j => ⟨(h j).1, by have := (h j).2; omega⟩
theorem set_db {N : Nat} (hN : N < 1000000) {g : LG} {p : Nat} {w c : Bool} (h : 0 ≤ (g.1 p).toInt ∧ (g.1 p).toInt ≤ N) : (0 ≤ ((mSet g p w c).1 p).toInt ∧ ((mSet g p w c).1 p).toInt ≤ N + 1) ∧ ∀ j, j ≠ p → (mSet g p w c).1 j = g.1 j := by
  have up : (g.1 p + 1).toInt = (g.1 p).toInt + 1 := by
    rw [Int32.toInt_add, show (1 : Int32).toInt = 1 by decide]
    exact Int.bmod_eq_of_le_mul_two (by omega) (by omega)
  have dn : (g.1 p - 1).toInt = (g.1 p).toInt - 1 := by
    rw [Int32.toInt_sub, show (1 : Int32).toInt = 1 by decide]
    exact Int.bmod_eq_of_le_mul_two (by omega) (by omega)
  unfold mSet
  by_cases h1 : w = true
  · rw [if_pos h1]
    by_cases h2 : c = true
    · rw [if_pos h2]; exact ⟨by omega, fun j _ => rfl⟩
    · rw [if_neg h2]
      refine ⟨?_, fun j hj => upd_ne hj⟩
      show 0 ≤ (upd g.1 p (g.1 p + 1) p).toInt ∧ (upd g.1 p (g.1 p + 1) p).toInt ≤ N + 1
      rw [upd_at, up]; omega
  · rw [if_neg h1]
    by_cases h2 : c = true
    · rw [if_pos h2]
      by_cases h3 : g.1 p ≤ 0
      · rw [if_pos h3]; exact ⟨by show 0 ≤ (g.1 p).toInt ∧ (g.1 p).toInt ≤ N + 1; omega, fun j _ => rfl⟩
      · rw [if_neg h3]
        refine ⟨?_, fun j hj => upd_ne hj⟩
        show 0 ≤ (upd g.1 p (g.1 p - 1) p).toInt ∧ (upd g.1 p (g.1 p - 1) p).toInt ≤ N + 1
        rw [upd_at, dn]
        have h3 := Int32.not_le.1 h3
        rw [Int32.lt_iff_toInt_lt] at h3
        have h3 : 0 < (g.1 p).toInt := h3
        omega
    · rw [if_neg h2]; exact ⟨by omega, fun j _ => rfl⟩
theorem close_db {N : Nat} (hN : N < 1000000) {hm : Nat → Option Nat} {f : MF} {fn n : Nat} {ck : Int32} : ∀ m p (g : LG), (∀ j, j < p → 0 ≤ (g.1 j).toInt ∧ (g.1 j).toInt ≤ N + 1) → (∀ j, p ≤ j → 0 ≤ (g.1 j).toInt ∧ (g.1 j).toInt ≤ N) → dbB (N + 1) (foldF (mCls hm f fn ck n) m p g) := by
  intro m
  induction m with
  | zero => intro p g h1 h2 j; exact (if z : j < p then h1 j z else ⟨(h2 j (Nat.not_lt.1 z)).1, by have := (h2 j (Nat.not_lt.1 z)).2; show (g.1 j).toInt ≤ ((N + 1 : Nat) : Int); omega⟩)
  | succ m ih =>
    intro p g h1 h2
    have st : (0 ≤ ((mCls hm f fn ck n p g).1 p).toInt ∧ ((mCls hm f fn ck n p g).1 p).toInt ≤ N + 1) ∧ ∀ j, j ≠ p → (mCls hm f fn ck n p g).1 j = g.1 j := by
      unfold mCls
      cases hm p with
      | none => exact set_db hN (h2 p (Nat.le_refl p))
      | some q => exact set_db hN (h2 p (Nat.le_refl p))
    show dbB (N + 1) (foldF (mCls hm f fn ck n) m (p + 1) (mCls hm f fn ck n p g))
    refine ih (p + 1) _ (fun j hj => ?_) (fun j hj => ?_)
    · by_cases z : j = p
      · rw [z]; exact st.1
      · rw [st.2 j z]; exact h1 j (by omega)
    · rw [st.2 j (by omega)]; exact h2 j (by omega)
/-! links -/
theorem lnk_none (hm : Nat → Option Nat) (p : Nat) : ∀ m, mLnk hm p m none = none
  | 0 => rfl
  | m + 1 => rfl
theorem link_at {u hm : Nat → Option Nat} {n p : Nat} (hh : HmR u hm n) (hn : n ≤ 12) : ∀ m x, x < n → hLink u n p m x = mLnk hm p m (some x) := by
  intro m
  induction m with
  | zero => intro x _; rfl
  | succ m ih =>
    intro x hx
    unfold hLink mLnk
    rw [← hh.1 x (by omega)]
    cases e : u x with
    | none => rw [if_neg (fun q => by cases q), lnk_none]
    | some q =>
      have hq := (hh.2.1 x q e).2
      dsimp only
      rw [if_pos hq]
      by_cases z : q = p
      · rw [if_pos z, z, if_pos rfl, lnk_none]
      · rw [if_neg z, if_neg (fun w => z (Option.some.inj w))]
        exact ih q hq
theorem pigeon : ∀ n m (f : Nat → Nat), (∀ i, i < m → f i < n) → (∀ i j, i < m → j < m → f i = f j → i = j) → m ≤ n := by
  intro n
  induction n with
  | zero =>
    intro m f h1 _
    cases m with
    | zero => exact Nat.le_refl 0
    | succ m => have := h1 0 (by omega); omega
  | succ n ih =>
    intro m f h1 h2
    by_cases z : ∃ k, k < m ∧ f k = n
    · obtain ⟨k, k1, k2⟩ := z
      obtain ⟨m, rfl⟩ : ∃ m', m = m' + 1 := ⟨m - 1, by omega⟩
      have := ih m (fun i => if i < k then f i else f (i + 1)) (fun i hi => by
        show (if i < k then f i else f (i + 1)) < n
        split
        · have a := h1 i (by omega)
          have b : f i ≠ n := fun e => by have := h2 i k (by omega) k1 (by rw [e, k2]); omega
          omega
        · have a := h1 (i + 1) (by omega)
          have b : f (i + 1) ≠ n := fun e => by have := h2 (i + 1) k (by omega) k1 (by rw [e, k2]); omega
          omega) (fun i j hi hj e => by
        have e : (if i < k then f i else f (i + 1)) = (if j < k then f j else f (j + 1)) := e
        by_cases a : i < k
        · rw [if_pos a] at e
          by_cases b : j < k
          · rw [if_pos b] at e; exact h2 i j (by omega) (by omega) e
          · rw [if_neg b] at e; have := h2 i (j + 1) (by omega) (by omega) e; omega
        · rw [if_neg a] at e
          by_cases b : j < k
          · rw [if_pos b] at e; have := h2 (i + 1) j (by omega) (by omega) e; omega
          · rw [if_neg b] at e; have := h2 (i + 1) (j + 1) (by omega) (by omega) e; omega)
      omega
    · have := ih m f (fun i hi => by
        have a := h1 i hi
        have b : f i ≠ n := fun e => z ⟨i, hi, e⟩
        omega) h2
      omega
/-- where the links lead, step by step -/
def lkA (hm : Nat → Option Nat) (p : Nat) : Nat → Option Nat
  | 0 => some p
  | k + 1 => match lkA hm p k with
    | none => none
    | some q => if hm q = some p then none else hm q
theorem lnk_A (hm : Nat → Option Nat) (p : Nat) : ∀ m k, mLnk hm p m (lkA hm p k) = lkA hm p (k + m) := by
  intro m
  induction m with
  | zero => intro k; rfl
  | succ m ih =>
    intro k
    have e := ih (k + 1)
    rw [show k + 1 + m = k + (m + 1) by omega] at e
    rw [← e]
    cases q : lkA hm p k with
    | none =>
      rw [lnk_none]
      have : lkA hm p (k + 1) = none := by unfold lkA; rw [q]
      rw [this, lnk_none]
    | some r =>
      have : lkA hm p (k + 1) = if hm r = some p then none else hm r := by unfold lkA; rw [q]
      rw [this]
      rfl
theorem link_end {u hm : Nat → Option Nat} {n p : Nat} (hh : HmR u hm n) (hn : n ≤ 12) (hp : p < n) (i : Nat) (hi : 12 ≤ i) : mLnk hm p i (some p) = none := by
  have e := lnk_A hm p i 0
  rw [Nat.zero_add] at e
  rw [show mLnk hm p i (some p) = lkA hm p i from e]
  apply Classical.byContradiction
  intro hne
  have ex : ∀ k, k ≤ i → ∃ q, lkA hm p k = some q := fun k hk => by
    cases q : lkA hm p k with
    | some r => exact ⟨r, rfl⟩
    | none =>
      exfalso
      have := lnk_A hm p (i - k) k
      rw [q, lnk_none, show k + (i - k) = i by omega] at this
      exact hne this.symm
  have stp : ∀ k q, k + 1 ≤ i → lkA hm p k = some q → ∃ r, lkA hm p (k + 1) = some r ∧ hm q = some r ∧ r ≠ p := fun k q hk e => by
    obtain ⟨r, hr⟩ := ex (k + 1) hk
    have e2 : lkA hm p (k + 1) = if hm q = some p then none else hm q := by conv => lhs; unfold lkA; rw [e]
    rw [hr] at e2
    by_cases z : hm q = some p
    · rw [if_pos z] at e2; cases e2
    · rw [if_neg z] at e2
      exact ⟨r, hr, e2.symm, fun w => z (by rw [← e2, w])⟩
  have lt : ∀ k q, k ≤ i → lkA hm p k = some q → q < n := by
    intro k
    induction k with
    | zero => intro q _ e; cases e; exact hp
    | succ k ih =>
      intro q hk e
      obtain ⟨q0, h0⟩ := ex k (by omega)
      have l0 := ih q0 (by omega) h0
      obtain ⟨r, r1, r2, _⟩ := stp k q0 hk h0
      rw [e] at r1
      cases r1
      exact (hh.2.1 q0 q (by rw [hh.1 q0 (by omega)]; exact r2)).2
  have inj : ∀ a b q, a < b → b ≤ i → lkA hm p a = some q → lkA hm p b ≠ some q := by
    intro a
    induction a with
    | zero =>
      intro b q hab hb e1 e2
      cases e1
      obtain ⟨q0, h0⟩ := ex (b - 1) (by omega)
      obtain ⟨r, r1, _, r3⟩ := stp (b - 1) q0 (by omega) h0
      rw [show b - 1 + 1 = b by omega, e2] at r1
      cases r1
      exact r3 rfl
    | succ a ih =>
      intro b q hab hb e1 e2
      obtain ⟨qa, ha⟩ := ex a (by omega)
      obtain ⟨qb, hqb⟩ := ex (b - 1) (by omega)
      obtain ⟨r, r1, r2, _⟩ := stp a qa (by omega) ha
      obtain ⟨r', r1', r2', _⟩ := stp (b - 1) qb (by omega) hqb
      rw [e1] at r1
      cases r1
      rw [show b - 1 + 1 = b by omega, e2] at r1'
      cases r1'
      have la := lt a qa (by omega) ha
      have lb := lt (b - 1) qb (by omega) hqb
      have := hh.2.2.1 qa qb q (by rw [hh.1 qa (by omega)]; exact r2) (by rw [hh.1 qb (by omega)]; exact r2')
      exact ih (b - 1) qa (by omega) (by omega) ha (by rw [hqb, this])
  have := pigeon n (i + 1) (fun k => (lkA hm p k).getD 0) (fun k hk => by
    obtain ⟨q, hq⟩ := ex k (by omega)
    show (lkA hm p k).getD 0 < n
    rw [hq]; exact lt k q (by omega) hq) (fun a b ha hb e => by
    obtain ⟨qa, ha'⟩ := ex a (by omega)
    obtain ⟨qb, hb'⟩ := ex b (by omega)
    have e : (lkA hm p a).getD 0 = (lkA hm p b).getD 0 := e
    rw [ha', hb'] at e
    have e : qa = qb := e
    rcases Nat.lt_trichotomy a b with z | z | z
    · exact absurd (by rw [hb', e]) (inj a b qa z (by omega) ha')
    · exact z
    · exact absurd (by rw [ha', e]) (inj b a qb z (by omega) hb'))
  omega
