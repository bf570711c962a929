/-! what holds while a row is placed -/
abbrev wI (s : MT) (r j : Nat) : Int := (s.1 (r * 12 + j)).toInt
abbrev rI (s : MT) (r : Nat) : Int := (s.2.2.1 r).toInt
abbrev cI (s : MT) (j : Nat) : Int := (s.2.2.2.1 j).toInt
abbrev sI (s : MT) (j : Nat) : Int := (s.2.2.2.2.1 j).toInt
abbrev mCf (s : MT) : Nat → Nat := s.2.2.2.2.2.1
abbrev mSn (s : MT) : Nat → Bool := s.2.2.2.2.2.2
def HW (s : MT) (n : Nat) : Prop := ∀ r j, r < n → j < n → -1125899906842624 ≤ wI s r j ∧ wI s r j ≤ 1125899906842624
/-- matching and prices: k rows are placed, row k stands in column n -/
def HM (s : MT) (n k : Nat) : Prop :=
  (∀ j r, j < n → s.2.1 j = some r → r < k) ∧
  (∀ i j r, i < n → j < n → s.2.1 i = some r → s.2.1 j = some r → i = j) ∧
  (∀ r, r < k → ∃ j, j < n ∧ s.2.1 j = some r) ∧
  (∀ j r, j < n → s.2.1 j = some r → wI s r j = rI s r + cI s j) ∧
  (∀ r j, r < k → j < n → rI s r + cI s j ≤ wI s r j) ∧
  (∀ j, j < n → cI s j ≤ 0) ∧ (∀ j, j < n → s.2.1 j = none → cI s j = 0)
def HT (s : MT) (n k t : Nat) (e : Nat → Nat) (c : Nat) : Prop :=
  s.2.1 n = some k ∧
  (∀ r, k < r → r < 12 → rI s r = 0) ∧
  (∀ i, i < t → e i ≤ n ∧ mSn s (e i) = true ∧ ∃ r, s.2.1 (e i) = some r) ∧
  (∀ i j, i < t → j < t → e i = e j → i = j) ∧
  (∀ j, j ≤ n → mSn s j = true → ∃ i, i < t ∧ e i = j) ∧
  (c ≤ n ∧ mSn s c = false) ∧
  (t = 0 → c = n ∧ rI s k = 0 ∧ ∀ j, j < n → sI s j = 1152921504606846976) ∧
  (0 < t → e 0 = n ∧ c < n ∧ sI s c = 0 ∧ -1125899906842624 ≤ rI s k ∧ (∀ j, j < n → rI s k + cI s j ≤ wI s k j) ∧
     (∀ j, j < n → mSn s j = false → ∃ i, i < t ∧ mCf s j = e i ∧ ∀ r, s.2.1 (e i) = some r → sI s j = wI s r j - rI s r - cI s j) ∧
     (∀ j i r, j < n → mSn s j = false → i < t → s.2.1 (e i) = some r → sI s j ≤ wI s r j - rI s r - cI s j) ∧
     (∀ i, 0 < i → i < t → ∃ i', i' < i ∧ mCf s (e i) = e i' ∧ ∀ r, s.2.1 (e i') = some r → wI s r (e i) = rI s r + cI s (e i)))
/-- a column is free as long as a row is not placed -/
theorem HM.free {s : MT} {n k : Nat} (h : HM s n k) (hk : k < n) : ∃ j, j < n ∧ s.2.1 j = none := by
  apply Classical.byContradiction
  intro hn
  have h1 : ∀ j, j < n → ∃ r, s.2.1 j = some r := fun j hj => by
    cases e : s.2.1 j with
    | none => exact absurd ⟨j, hj, e⟩ hn
    | some r => exact ⟨r, rfl⟩
  have := pig k n (fun j => (s.2.1 j).getD 0) (fun j hj => by
    obtain ⟨r, e⟩ := h1 j hj
    rw [e]; exact h.1 j r hj e) (fun i j hi hj e => by
    obtain ⟨r, e1⟩ := h1 i hi
    obtain ⟨q, e2⟩ := h1 j hj
    rw [e1, e2] at e
    have e : r = q := e
    subst e
    exact h.2.1 i j r hi hj e1 e2)
  omega
theorem HM.bd {s : MT} {n k : Nat} (hw : HW s n) (h : HM s n k) (hk : k < n) : (∀ r, r < k → -1125899906842624 ≤ rI s r ∧ rI s r ≤ 1125899906842624) ∧ ∀ j, j < n → -2251799813685248 ≤ cI s j := by
  obtain ⟨j0, hj0, hf⟩ := h.free hk
  obtain ⟨h1, h2, h3, h4, h5, h6, h7⟩ := h
  have b1 : ∀ r, r < k → -1125899906842624 ≤ rI s r ∧ rI s r ≤ 1125899906842624 := fun r hr => by
    obtain ⟨j, hj, e⟩ := h3 r hr
    have a1 := h4 j r hj e
    have a2 := h6 j hj
    have a3 := hw r j (by omega) hj
    have a4 := h5 r j0 hr hj0
    have a5 := h7 j0 hj0 hf
    have a6 := hw r j0 (by omega) hj0
    exact ⟨by omega, by omega⟩
  refine ⟨b1, fun j hj => ?_⟩
  cases e : s.2.1 j with
  | none => rw [h7 j hj e]; omega
  | some r =>
    have a1 := h4 j r hj e
    have a2 := b1 r (h1 j r hj e)
    have a3 := hw r j (by have := h1 j r hj e; omega) hj
    omega
set_option maxHeartbeats 2000000 in
/-- one step of the search -/
theorem hung_step {s : MT} {n k t : Nat} {e : Nat → Nat} {c r : Nat} (hn : n ≤ 12) (hk : k < n) (hw : HW s n) (hm : HM s n k) (ht : HT s n k t e c) (hr : s.2.1 c = some r) :
    HM (mtNextS s c n r) n k ∧ HT (mtNextS s c n r) n k (t + 1) (fun i => if i = t then c else e i) (mtNextC s c n r) ∧ (mtNextS s c n r).1 = s.1 ∧ (mtNextS s c n r).2.1 = s.2.1 := by
  obtain ⟨j0, hj0, hf0⟩ := hm.free hk
  obtain ⟨bR, bC⟩ := hm.bd hw hk
  obtain ⟨m1, m2, m3, m4, m5, m6, m7⟩ := hm
  obtain ⟨t1, t2, t3, t4, t5, ⟨t6, t6'⟩, t7, t8⟩ := ht
  -- rows
  have inj : ∀ i j q, i ≤ n → j ≤ n → s.2.1 i = some q → s.2.1 j = some q → i = j := fun i j q hi hj e1 e2 => by
    by_cases a : i = n
    · by_cases b : j = n
      · omega
      · rw [a, t1] at e1
        have := m1 j q (by omega) e2
        cases e1; omega
    · by_cases b : j = n
      · rw [b, t1] at e2
        have := m1 i q (by omega) e1
        cases e2; omega
      · exact m2 i j q (by omega) (by omega) e1 e2
  have rk : ∀ j q, j ≤ n → s.2.1 j = some q → q ≤ k := fun j q hj e1 => by
    by_cases a : j = n
    · rw [a, t1] at e1; cases e1; exact Nat.le_refl _
    · exact Nat.le_of_lt (m1 j q (by omega) e1)
  have hrk := rk c r t6 hr
  -- bounds of row k
  have bK : -1125899906842624 ≤ rI s k ∧ rI s k ≤ 1125899906842624 := by
    by_cases z : t = 0
    · rw [(t7 z).2.1]; exact ⟨by decide, by decide⟩
    · obtain ⟨_, _, _, u4, u5, _⟩ := t8 (by omega)
      have a1 := u5 j0 hj0
      have a2 := m7 j0 hj0 hf0
      have a3 := hw k j0 hk hj0
      exact ⟨u4, by omega⟩
  have bQ : ∀ q, q ≤ k → -1125899906842624 ≤ rI s q ∧ rI s q ≤ 1125899906842624 := fun q hq => by
    by_cases a : q = k
    · rw [a]; exact bK
    · exact bR q (by omega)
  have gI : ∀ q j, q ≤ k → j < n → (s.1 (q * 12 + j) - s.2.2.1 q - s.2.2.2.1 j).toInt = wI s q j - rI s q - cI s j := fun q j hq hj => by
    have a1 := hw q j (by omega) hj
    have a2 := bQ q hq
    have a3 := bC j hj
    have a4 := m6 j hj
    have e1 : (s.1 (q * 12 + j) - s.2.2.1 q).toInt = wI s q j - rI s q := i64_sub (by show -4611686018427387904 ≤ wI s q j - rI s q; omega) (by show wI s q j - rI s q ≤ 4611686018427387904; omega)
    rw [i64_sub (by rw [e1]; show -4611686018427387904 ≤ wI s q j - rI s q - cI s j; omega) (by rw [e1]; show wI s q j - rI s q - cI s j ≤ 4611686018427387904; omega), e1]
  -- who is seen then
  have sn_c : updB (mSn s) c true c = true := by unfold updB; rw [if_pos rfl]
  have sn_o : ∀ j, j ≠ c → updB (mSn s) c true j = mSn s j := fun j hj => by unfold updB; rw [if_neg hj]
  have sn_f : ∀ j, updB (mSn s) c true j = false → j ≠ c ∧ mSn s j = false := fun j hj => by
    have hc : j ≠ c := fun q => by rw [q, sn_c] at hj; cases hj
    exact ⟨hc, by rw [← sn_o j hc]; exact hj⟩
  have sn_t : ∀ j, j ≤ n → updB (mSn s) c true j = true → ∃ q, s.2.1 j = some q ∧ q ≤ k := fun j hj h => by
    by_cases a : j = c
    · rw [a]; exact ⟨r, hr, hrk⟩
    · rw [sn_o j a] at h
      obtain ⟨i, hi, q⟩ := t5 j hj h
      obtain ⟨_, _, q2, h3⟩ := t3 i hi
      rw [q] at h3
      exact ⟨q2, h3, rk j q2 hj h3⟩
  have un0 : updB (mSn s) c true j0 = false := by
    cases h : updB (mSn s) c true j0 with
    | false => rfl
    | true =>
      obtain ⟨q, hq, _⟩ := sn_t j0 (by omega) h
      rw [hf0] at hq; cases hq
  -- the look
  obtain ⟨x1, x2, x3, x4⟩ := mtNx_spec (w := s.1) (rp := s.2.2.1) (cp := s.2.2.2.1) (sn := updB (mSn s) c true) (r := r) (c := c) n 0 (s.2.2.2.2.1, s.2.2.2.2.2.1, 1152921504606846976, c)
  have hF : foldF (mtNx s.1 s.2.2.1 s.2.2.2.1 (updB (mSn s) c true) r c) n 0 (s.2.2.2.2.1, s.2.2.2.2.2.1, 1152921504606846976, c) = mtNxF s c n r := rfl
  rw [hF] at x1 x2 x3 x4
  have hS : mtNextS s c n r = mtShift (s.1, s.2.1, s.2.2.1, s.2.2.2.1, (mtNxF s c n r).1, (mtNxF s c n r).2.1, updB (mSn s) c true) (mtNxF s c n r).2.2.1 n := rfl
  have hC : mtNextC s c n r = (mtNxF s c n r).2.2.2 := rfl
  rw [hS, hC]
  generalize mtNxF s c n r = F at x1 x2 x3 x4 ⊢
  -- slacks of the look
  have y1 : ∀ j, j < n → updB (mSn s) c true j = false → (F.1 j).toInt ≤ wI s r j - rI s r - cI s j ∧ ((F.1 j).toInt = wI s r j - rI s r - cI s j ∧ F.2.1 j = c ∨ 0 < t ∧ (F.1 j).toInt = sI s j ∧ F.2.1 j = mCf s j) ∧ (0 < t → (F.1 j).toInt ≤ sI s j) := fun j hj hu => by
    obtain ⟨a1, a2, _⟩ := x2 j (Nat.zero_le _) (by omega) hu
    dsimp only at a1 a2
    have g := gI r j hrk hj
    by_cases q : s.1 (r * 12 + j) - s.2.2.1 r - s.2.2.2.1 j < s.2.2.2.2.1 j
    · rw [if_pos q] at a1 a2
      have q2 := Int64.lt_iff_toInt_lt.mp q
      rw [g] at q2
      rw [a1, g, a2]
      exact ⟨Int.le_refl _, Or.inl ⟨rfl, rfl⟩, fun _ => Int.le_of_lt q2⟩
    · rw [if_neg q] at a1 a2
      have q2 : ¬ wI s r j - rI s r - cI s j < sI s j := fun z => q (Int64.lt_iff_toInt_lt.mpr (by rw [g]; exact z))
      have tp : 0 < t := by
        apply Nat.pos_of_ne_zero
        intro z
        have a3 := (t7 z).2.2 j hj
        have a4 := hw r j (by omega) hj
        have a5 := bQ r hrk
        have a6 := bC j hj
        apply q2; omega
      rw [a1, a2]
      exact ⟨Int.not_lt.mp q2, Or.inr ⟨tp, rfl, rfl⟩, fun _ => Int.le_refl _⟩
  -- feasible rows have no negative slack
  have fe : 0 < t → ∀ q j, q ≤ k → j < n → 0 ≤ wI s q j - rI s q - cI s j := fun tp q j hq hj => by
    obtain ⟨_, _, _, _, u5, _⟩ := t8 tp
    by_cases a : q = k
    · have := u5 j hj; rw [a]; omega
    · have := m5 q j (by omega) hj; omega
  have y2 : 0 < t → ∀ j, j < n → updB (mSn s) c true j = false → 0 ≤ (F.1 j).toInt := fun tp j hj hu => by
    rcases (y1 j hj hu).2.1 with ⟨h, _⟩ | ⟨_, h, _⟩
    · rw [h]; exact fe tp r j hrk hj
    · rw [h]
      obtain ⟨_, _, _, _, _, u6, _⟩ := t8 tp
      obtain ⟨i, hi, _, h2⟩ := u6 j hj (sn_f j hu).2
      obtain ⟨g1, _, q, h3⟩ := t3 i hi
      rw [h2 q h3]; exact fe tp q j (rk _ q g1 h3) hj
  have y3 : ∀ j, j < n → updB (mSn s) c true j = false → (F.1 j).toInt ≤ 5629499534213120 := fun j hj hu => by
    have a1 := (y1 j hj hu).1
    have a2 := hw r j (by omega) hj
    have a3 := bQ r hrk
    have a4 := bC j hj
    omega
  have y4 : ∀ j, j < n → updB (mSn s) c true j = false → -5629499534213120 ≤ (F.1 j).toInt := fun j hj hu => by
    rcases (y1 j hj hu).2.1 with ⟨h, _⟩ | ⟨tp, h, _⟩
    · have a2 := hw r j (by omega) hj
      have a3 := bQ r hrk
      have a4 := m6 j hj
      omega
    · have := y2 tp j hj hu; omega
  -- the nearest
  obtain ⟨i0, hi0, hu0, hn0, hl0⟩ : ∃ i, i < n ∧ updB (mSn s) c true i = false ∧ F.2.2.2 = i ∧ F.2.2.1 = F.1 i := by
    rcases x4 with x4 | ⟨i, _, h2, h3, h4, h5⟩
    · have a1 := (x2 j0 (Nat.zero_le _) (by omega) un0).2.2
      have a2 := y3 j0 hj0 un0
      have a3 : F.2.2.1 = 1152921504606846976 := congrArg (·.1) x4
      rw [a3] at a1
      have a4 : (1152921504606846976 : Int64).toInt = 1152921504606846976 := by decide
      rw [a4] at a1
      omega
    · exact ⟨i, by omega, h3, h4, h5⟩
  have hmin : ∀ j, j < n → updB (mSn s) c true j = false → (F.1 i0).toInt ≤ (F.1 j).toInt := fun j hj hu => by
    have := (x2 j (Nat.zero_le _) (by omega) hu).2.2
    rw [hl0] at this; exact this
  have dlo := y4 i0 hi0 hu0
  have dhi := y3 i0 hi0 hu0
  rw [hn0, hl0]
  have hd : ∃ d : Int, (F.1 i0).toInt = d := ⟨_, rfl⟩
  obtain ⟨d, hd⟩ := hd
  rw [hd] at hmin dlo dhi
  have dpos : 0 < t → 0 ≤ d := fun tp => by rw [← hd]; exact y2 tp i0 hi0 hu0
  -- the shift
  obtain ⟨z1, z2, z3, z4⟩ := mtSh_spec (b := F.1 i0) (ro := s.2.1) (sn := updB (mSn s) c true) (n + 1) 0 (F.1, s.2.2.1, s.2.2.2.1)
  have hSh : mtShift (s.1, s.2.1, s.2.2.1, s.2.2.2.1, F.1, F.2.1, updB (mSn s) c true) (F.1 i0) n = (s.1, s.2.1, (foldF (mtSh (F.1 i0) s.2.1 (updB (mSn s) c true)) (n + 1) 0 (F.1, s.2.2.1, s.2.2.2.1)).2.1, (foldF (mtSh (F.1 i0) s.2.1 (updB (mSn s) c true)) (n + 1) 0 (F.1, s.2.2.1, s.2.2.2.1)).2.2, (foldF (mtSh (F.1 i0) s.2.1 (updB (mSn s) c true)) (n + 1) 0 (F.1, s.2.2.1, s.2.2.2.1)).1, F.2.1, updB (mSn s) c true) := rfl
  rw [hSh]
  generalize foldF (mtSh (F.1 i0) s.2.1 (updB (mSn s) c true)) (n + 1) 0 (F.1, s.2.2.1, s.2.2.2.1) = G at z1 z2 z3 z4 ⊢
  -- in whole numbers
  have R1 : ∀ j q, j ≤ n → updB (mSn s) c true j = true → s.2.1 j = some q → (G.2.1 q).toInt = rI s q + d := fun j q hj hs e1 => by
    have hq := rk j q hj e1
    have h := z4 j (Nat.zero_le _) (by omega) hs (fun i' _ g2 g3 g4 => by
      obtain ⟨q2, e2, _⟩ := sn_t i' (by omega) g3
      rw [e1, e2] at g4
      have g4 : q2 = q := g4
      subst g4
      exact inj i' j q2 (by omega) hj e2 e1)
    rw [e1] at h
    have h : G.2.1 q = s.2.2.1 q + F.1 i0 := h
    have := bQ q hq
    rw [h, i64_add (by rw [hd]; show -4611686018427387904 ≤ rI s q + d; omega) (by rw [hd]; show rI s q + d ≤ 4611686018427387904; omega), hd]
  have R2 : ∀ q, (∀ j, j ≤ n → updB (mSn s) c true j = true → s.2.1 j ≠ some q) → G.2.1 q = s.2.2.1 q := fun q h => z3 q (fun i _ g2 g3 g4 => by
    obtain ⟨q2, e2, _⟩ := sn_t i (by omega) g3
    rw [e2] at g4
    have g4 : q2 = q := g4
    exact h i (by omega) g3 (by rw [e2, g4]))
  have C1 : ∀ j, j < n → updB (mSn s) c true j = true → (G.2.2 j).toInt = cI s j - d := fun j hj hs => by
    have h : G.2.2 j = s.2.2.2.1 j - F.1 i0 := (z2 j).trans (if_pos ⟨Nat.zero_le _, by omega, hs⟩)
    have a1 := bC j hj
    have a2 := m6 j hj
    rw [h, i64_sub (by rw [hd]; show -4611686018427387904 ≤ cI s j - d; omega) (by rw [hd]; show cI s j - d ≤ 4611686018427387904; omega), hd]
  have C2 : ∀ j, updB (mSn s) c true j = false → G.2.2 j = s.2.2.2.1 j := fun j hs => by
    have h := z2 j
    rw [if_neg (fun q => by rw [hs] at q; exact absurd q.2.2 (by decide))] at h
    exact h
  have S1 : ∀ j, j < n → updB (mSn s) c true j = false → (G.1 j).toInt = (F.1 j).toInt - d := fun j hj hs => by
    have h : G.1 j = F.1 j - F.1 i0 := (z1 j).trans (if_pos ⟨Nat.zero_le _, by omega, hs⟩)
    have a1 := y3 j hj hs
    have a2 := y4 j hj hs
    rw [h, i64_sub (by rw [hd]; omega) (by rw [hd]; omega), hd]
  have tn : t = 0 → ∀ j, j < n → updB (mSn s) c true j = false := fun z j hj => by
    cases h : updB (mSn s) c true j with
    | false => rfl
    | true =>
      have hc : j ≠ c := by have := (t7 z).1; omega
      rw [sn_o j hc] at h
      obtain ⟨i, hi, _⟩ := t5 j (by omega) h
      omega
  have rows : ∀ q, q ≤ k → (∃ j, j ≤ n ∧ updB (mSn s) c true j = true ∧ s.2.1 j = some q) ∨ (∀ j, j ≤ n → updB (mSn s) c true j = true → s.2.1 j ≠ some q) := fun q _ => by
    by_cases h : ∃ j, j ≤ n ∧ updB (mSn s) c true j = true ∧ s.2.1 j = some q
    · exact Or.inl h
    · exact Or.inr (fun j h1 h2 h3 => h ⟨j, h1, h2, h3⟩)
  -- every row of the tree is at least the least slack away from what is not seen
  have far : ∀ j i q, i < n → updB (mSn s) c true i = false → j ≤ n → updB (mSn s) c true j = true → s.2.1 j = some q → d ≤ wI s q i - rI s q - cI s i := fun j i q hi hu hj hs e1 => by
    have a1 := hmin i hi hu
    obtain ⟨b1, _, b3⟩ := y1 i hi hu
    by_cases a : j = c
    · rw [a, hr] at e1; cases e1; omega
    · rw [sn_o j a] at hs
      obtain ⟨i', hi', q1⟩ := t5 j hj hs
      obtain ⟨_, _, _, _, _, _, u7, _⟩ := t8 (by omega)
      have := u7 i i' q hi (sn_f i hu).2 hi' (by rw [q1]; exact e1)
      have := b3 (by omega)
      omega
  have feas : ∀ q j, q ≤ k → j < n → (q < k ∨ 0 < t ∨ ∃ j, j ≤ n ∧ updB (mSn s) c true j = true ∧ s.2.1 j = some q) → (G.2.1 q).toInt + (G.2.2 j).toInt ≤ wI s q j := fun q j hq hj hh => by
    have old : (q < k ∨ 0 < t) → rI s q + cI s j ≤ wI s q j := fun h => by
      rcases h with h | h
      · exact m5 q j h hj
      · have := fe h q j hq hj; omega
    rcases rows q hq with ⟨i, h1, h2, h3⟩ | h
    · rw [R1 i q h1 h2 h3]
      cases hs : updB (mSn s) c true j with
      | true =>
        rw [C1 j hj hs]
        have tp : 0 < t := by
          apply Nat.pos_of_ne_zero; intro z
          rw [tn z j hj] at hs; cases hs
        have := old (Or.inr tp); omega
      | false =>
        rw [C2 j hs]
        have := far i j q hj hs h1 h2 h3
        show rI s q + d + cI s j ≤ _
        omega
    · rw [R2 q h]
      have o : rI s q + cI s j ≤ wI s q j := old (by
        rcases hh with hh | hh | ⟨i, h1, h2, h3⟩
        · exact Or.inl hh
        · exact Or.inr hh
        · exact absurd h3 (h i h1 h2))
      cases hs : updB (mSn s) c true j with
      | true =>
        rw [C1 j hj hs]
        have tp : 0 < t := by
          apply Nat.pos_of_ne_zero; intro z
          rw [tn z j hj] at hs; cases hs
        have := dpos tp
        show rI s q + (cI s j - d) ≤ _
        omega
      | false => rw [C2 j hs]; exact o
  have nseen : updB (mSn s) c true n = true := by
    by_cases z : t = 0
    · rw [← (t7 z).1]; exact sn_c
    · obtain ⟨u1, u2, _⟩ := t8 (by omega)
      rw [sn_o n (by omega)]
      have := (t3 0 (by omega)).2.1
      rw [u1] at this; exact this
  refine ⟨⟨m1, m2, m3, fun j q hj e1 => ?_, fun q j hq hj => feas q j (by omega) hj (Or.inl hq), fun j hj => ?_, fun j hj e1 => ?_⟩, ⟨t1, fun q h1 h2 => ?_, fun i hi => ?_, fun i j hi hj he => ?_, fun j hj hs => ?_, ⟨by omega, hu0⟩, fun h => by omega, fun _ => ⟨?_, hi0, ?_, ?_, fun j hj => feas k j (Nat.le_refl k) hj (Or.inr (Or.inr ⟨n, Nat.le_refl n, nseen, t1⟩)), fun j hj hu => ?_, fun j i q hj hu hi e1 => ?_, fun i h1 h2 => ?_⟩⟩, rfl, rfl⟩
  · -- tight
    have o := m4 j q hj e1
    have hq := rk j q (by omega) e1
    show wI s q j = (G.2.1 q).toInt + (G.2.2 j).toInt
    cases hs : updB (mSn s) c true j with
    | true => rw [R1 j q (by omega) hs e1, C1 j hj hs]; omega
    | false =>
      rw [R2 q (fun i h1 h2 h3 => by
        have := inj i j q h1 (by omega) h3 e1
        rw [this, hs] at h2; cases h2), C2 j hs]
      exact o
  · show (G.2.2 j).toInt ≤ 0
    have o := m6 j hj
    cases hs : updB (mSn s) c true j with
    | true =>
      rw [C1 j hj hs]
      have tp : 0 < t := by
        apply Nat.pos_of_ne_zero; intro z
        rw [tn z j hj] at hs; cases hs
      have := dpos tp
      omega
    | false => rw [C2 j hs]; exact o
  · show (G.2.2 j).toInt = 0
    have hs : updB (mSn s) c true j = false := by
      cases h : updB (mSn s) c true j with
      | false => rfl
      | true =>
        obtain ⟨q, hq, _⟩ := sn_t j (by omega) h
        rw [hq] at e1; cases e1
    rw [C2 j hs]; exact m7 j hj e1
  · show (G.2.1 q).toInt = 0
    rw [R2 q (fun j g1 g2 g3 => by
      obtain ⟨q2, e2, hq⟩ := sn_t j g1 g2
      rw [e2] at g3; cases g3; omega)]
    exact t2 q h1 h2
  · show (if i = t then c else e i) ≤ n ∧ updB (mSn s) c true (if i = t then c else e i) = true ∧ ∃ q, s.2.1 (if i = t then c else e i) = some q
    by_cases a : i = t
    · rw [if_pos a]; exact ⟨t6, sn_c, r, hr⟩
    · rw [if_neg a]
      obtain ⟨b1, b2, b3⟩ := t3 i (by omega)
      have hc : e i ≠ c := fun q => by rw [q, t6'] at b2; cases b2
      exact ⟨b1, by rw [sn_o _ hc]; exact b2, b3⟩
  · have he : (if i = t then c else e i) = (if j = t then c else e j) := he
    by_cases a : i = t
    · by_cases b : j = t
      · omega
      · rw [if_pos a, if_neg b] at he
        have := (t3 j (by omega)).2.1
        rw [← he, t6'] at this; cases this
    · by_cases b : j = t
      · rw [if_neg a, if_pos b] at he
        have := (t3 i (by omega)).2.1
        rw [he, t6'] at this; cases this
      · rw [if_neg a, if_neg b] at he
        exact t4 i j (by omega) (by omega) he
  · have hs : updB (mSn s) c true j = true := hs
    by_cases a : j = c
    · exact ⟨t, by omega, by show (if t = t then c else e t) = j; rw [if_pos rfl, a]⟩
    · rw [sn_o j a] at hs
      obtain ⟨i, hi, q⟩ := t5 j hj hs
      exact ⟨i, by omega, by show (if i = t then c else e i) = j; rw [if_neg (by omega), q]⟩
  · show (if 0 = t then c else e 0) = n
    by_cases z : t = 0
    · rw [if_pos z.symm]; exact (t7 z).1
    · rw [if_neg (by omega)]; exact (t8 (by omega)).1
  · show (G.1 i0).toInt = 0
    rw [S1 i0 hi0 hu0, hd]; omega
  · show -1125899906842624 ≤ (G.2.1 k).toInt
    rw [R1 n k (Nat.le_refl n) nseen t1]
    by_cases z : t = 0
    · have q0 := (t7 z).2.1
      have qc := (t7 z).1
      have hrk2 : r = k := by rw [qc, t1] at hr; cases hr; rfl
      rcases (y1 i0 hi0 hu0).2.1 with ⟨h, _⟩ | ⟨tp, _⟩
      · have a2 := hw r i0 (by omega) hi0
        have a4 := m6 i0 hi0
        rw [hd] at h
        rw [hrk2] at h a2
        omega
      · omega
    · have := (t8 (by omega)).2.2.2.1
      have := dpos (by omega)
      omega
  · show ∃ i, i < t + 1 ∧ F.2.1 j = (if i = t then c else e i) ∧ ∀ q, s.2.1 (if i = t then c else e i) = some q → (G.1 j).toInt = wI s q j - (G.2.1 q).toInt - (G.2.2 j).toInt
    have hu : updB (mSn s) c true j = false := hu
    rcases (y1 j hj hu).2.1 with ⟨h, hc⟩ | ⟨tp, h, hc⟩
    · refine ⟨t, by omega, by rw [if_pos rfl, hc], fun q hq => ?_⟩
      rw [if_pos rfl, hr] at hq
      cases hq
      rw [S1 j hj hu, C2 j hu, R1 c r t6 sn_c hr, h]
      show wI s r j - rI s r - cI s j - d = wI s r j - (rI s r + d) - cI s j
      omega
    · obtain ⟨_, _, _, _, _, u6, _⟩ := t8 tp
      obtain ⟨i, hi, g1, g2⟩ := u6 j hj (sn_f j hu).2
      refine ⟨i, by omega, by rw [if_neg (by omega), hc, g1], fun q hq => ?_⟩
      rw [if_neg (by omega)] at hq
      obtain ⟨b1, b2, _⟩ := t3 i hi
      have hne : e i ≠ c := fun q => by rw [q, t6'] at b2; cases b2
      rw [S1 j hj hu, C2 j hu, R1 (e i) q b1 (by rw [sn_o _ hne]; exact b2) hq, h, g2 q hq]
      show wI s q j - rI s q - cI s j - d = wI s q j - (rI s q + d) - cI s j
      omega
  · show (G.1 j).toInt ≤ wI s q j - (G.2.1 q).toInt - (G.2.2 j).toInt
    have hu : updB (mSn s) c true j = false := hu
    have e1 : s.2.1 (if i = t then c else e i) = some q := e1
    by_cases a : i = t
    · rw [if_pos a, hr] at e1
      cases e1
      rw [S1 j hj hu, C2 j hu, R1 c r t6 sn_c hr]
      have := (y1 j hj hu).1
      show (F.1 j).toInt - d ≤ wI s r j - (rI s r + d) - cI s j
      omega
    · rw [if_neg a] at e1
      obtain ⟨b1, b2, _⟩ := t3 i (by omega)
      have hne : e i ≠ c := fun q => by rw [q, t6'] at b2; cases b2
      rw [S1 j hj hu, C2 j hu, R1 (e i) q b1 (by rw [sn_o _ hne]; exact b2) e1]
      obtain ⟨_, _, _, _, _, _, u7, _⟩ := t8 (by omega)
      have := u7 j i q hj (sn_f j hu).2 (by omega) e1
      have := (y1 j hj hu).2.2 (by omega)
      show (F.1 j).toInt - d ≤ wI s q j - (rI s q + d) - cI s j
      omega
  · show ∃ i', i' < i ∧ F.2.1 (if i = t then c else e i) = (if i' = t then c else e i') ∧ ∀ q, s.2.1 (if i' = t then c else e i') = some q → wI s q (if i = t then c else e i) = (G.2.1 q).toInt + (G.2.2 (if i = t then c else e i)).toInt
    have tp : 0 < t := by omega
    obtain ⟨u1, u2, u3, u4, u5, u6, u7, u8⟩ := t8 tp
    by_cases a : i = t
    · rw [if_pos a]
      obtain ⟨i', hi', g1, g2⟩ := u6 c u2 t6'
      refine ⟨i', by omega, ?_, fun q hq => ?_⟩
      · rw [if_neg (by omega), ← g1]
        exact (x1 c (Or.inr (Or.inr sn_c))).2
      · rw [if_neg (by omega)] at hq
        obtain ⟨b1, b2, _⟩ := t3 i' hi'
        have hne : e i' ≠ c := fun q => by rw [q, t6'] at b2; cases b2
        rw [R1 (e i') q b1 (by rw [sn_o _ hne]; exact b2) hq, C1 c u2 sn_c]
        have := g2 q hq
        rw [u3] at this
        omega
    · rw [if_neg a]
      obtain ⟨i', hi', g1, g2⟩ := u8 i h1 (by omega)
      obtain ⟨d1, d2, _⟩ := t3 i (by omega)
      have hne0 : e i ≠ c := fun q => by rw [q, t6'] at d2; cases d2
      have hen : e i < n := by
        apply Nat.lt_of_le_of_ne d1
        intro q
        have := t4 i 0 (by omega) tp (by rw [q, u1])
        omega
      refine ⟨i', hi', ?_, fun q hq => ?_⟩
      · rw [if_neg (by omega), ← g1]
        exact (x1 (e i) (Or.inr (Or.inr (by rw [sn_o _ hne0]; exact d2)))).2
      · rw [if_neg (by omega)] at hq
        obtain ⟨b1, b2, _⟩ := t3 i' (by omega)
        have hne : e i' ≠ c := fun q => by rw [q, t6'] at b2; cases b2
        rw [R1 (e i') q b1 (by rw [sn_o _ hne]; exact b2) hq, C1 (e i) hen (by rw [sn_o _ hne0]; exact d2)]
        have := g2 q hq
        omega
