/-! facts: what is known on a day -/
def FcR (s : FB) (f : MF) (fn : Nat) (ck : Int32) : Prop := s.2.2.2 = fn ∧ fn ≤ 400 ∧ (∀ k, k < fn → f.1 k < 12 ∧ (∃ c, hCol 12 (f.2.1 k) = some c ∧ s.1 k = nI (f.1 k * 26 + c)) ∧ s.2.1 k = f.2.2.1 k ∧ s.2.2.1 k = f.2.2.2 k ∧ s.2.2.1 k ≤ ck) ∧ ∀ j k, j < k → k < fn → s.2.2.1 j ≤ s.2.2.1 k
theorem col_in {n j c : Nat} (hn : n ≤ 12) (h : hCol n j = some c) : c < 26 ∧ j < 32 ∧ hCol 12 j = some c := by
  unfold hCol at h ⊢
  by_cases h1 : j ≤ 5
  · rw [if_pos h1] at h ⊢
    cases h
    exact ⟨by omega, by omega, rfl⟩
  · rw [if_neg h1] at h ⊢
    by_cases h2 : 10 ≤ j ∧ j < 18
    · rw [if_pos h2] at h ⊢
      cases h
      exact ⟨by omega, by omega, rfl⟩
    · rw [if_neg h2] at h ⊢
      by_cases h3 : 20 ≤ j ∧ j < 20 + n
      · rw [if_pos h3] at h
        cases h
        rw [if_pos (by omega)]
        exact ⟨by omega, by omega, rfl⟩
      · rw [if_neg h3] at h; cases h
theorem col_inj {i j c : Nat} (hi : hCol 12 i = some c) (hj : hCol 12 j = some c) : i = j := by
  have key : ∀ a : Fin 32, ∀ b : Fin 32, hCol 12 a.val = hCol 12 b.val → hCol 12 a.val ≠ none → a = b := by decide +kernel
  have h1 := (col_in (Nat.le_refl 12) hi).2.1
  have h2 := (col_in (Nat.le_refl 12) hj).2.1
  have := key ⟨i, h1⟩ ⟨j, h2⟩ (by show hCol 12 i = hCol 12 j; rw [hi, hj]) (by show hCol 12 i ≠ none; rw [hi]; exact fun q => by cases q)
  exact congrArg Fin.val this
theorem FcR.ok {s : FB} {f : MF} {fn : Nat} {ck : Int32} (h : FcR s f fn ck) : mfOk f fn := ⟨h.2.1, fun k hk => by
  obtain ⟨a1, ⟨c, a2, _⟩, _⟩ := h.2.2.1 k hk
  exact ⟨a1, (col_in (Nat.le_refl 12) a2).2.1⟩⟩
theorem lat_same {s : FB} {f : MF} {fn : Nat} {ck : Int32} (h : FcR s f fn ck) {x w c : Nat} (hx : x < 12) (hw : hCol 12 w = some c) (dd : Int32) : ∀ n, n ≤ fn → fbLatest s (nI (x * 26 + c)) dd n = mLat f x w dd n := by
  intro n
  induction n with
  | zero => intro _; rfl
  | succ n ih =>
    intro hn
    obtain ⟨a1, ⟨c', a2, a3⟩, a4, a5, a6⟩ := h.2.2.1 n (by omega)
    have hc := (col_in (Nat.le_refl 12) hw).1
    have hc' := (col_in (Nat.le_refl 12) a2).1
    unfold fbLatest mLat
    rw [a3, a4, a5, ih (by omega)]
    by_cases e1 : f.1 n = x
    · rw [if_pos e1]
      by_cases e2 : f.2.1 n = w
      · rw [if_pos e2]
        have ec : c' = c := by
          rw [e2, hw] at a2
          cases a2; rfl
        by_cases e3 : dd < f.2.2.2 n
        · rw [if_pos e3, if_neg (fun q => absurd e3 (Int32.not_lt.2 q.2))]
        · rw [if_neg e3, if_pos ⟨by rw [e1, ec], Int32.not_lt.1 e3⟩]
      · rw [if_neg e2, if_neg (fun q => e2 ?_)]
        have := (nI_eq (by omega) (by omega)).1 q.1
        have ec : c' = c := by omega
        exact col_inj (by rw [a2, ec]) hw
    · rw [if_neg e1, if_neg (fun q => e1 ?_)]
      have := (nI_eq (by omega) (by omega)).1 q.1
      omega
theorem lrn_snoc (s : MF) (day : Int32) : ∀ m k v, mLrn s day (m + 1) k v = (if day < s.2.2.2 (k + m) then mLrn s day m k v else upd (mLrn s day m k v) (32 * s.1 (k + m) + s.2.1 (k + m)) (s.2.2.1 (k + m))) := by
  intro m
  induction m with
  | zero => intro k v; rfl
  | succ m ih =>
    intro k v
    rw [mLrn, ih (k + 1), show k + 1 + m = k + (m + 1) by omega]
    rw [show mLrn s day (m + 1) k v = mLrn s day m (k + 1) (if day < s.2.2.2 k then v else upd v (32 * s.1 k + s.2.1 k) (s.2.2.1 k)) from rfl]
theorem learn_at {s : FB} {f : MF} {fn : Nat} {ck : Int32} (h : FcR s f fn ck) (dd : Int32) (nw : Nat → Int32) {x w : Nat} (hx : x < 12) (hw : w < 32) : mLearn f fn dd nw (32 * x + w) = mLat f x w dd fn := by
  unfold mLearn
  have key : ∀ n, n ≤ fn → mLrn f dd n 0 (zfill nw 384) (32 * x + w) = mLat f x w dd n := fun n => by
    induction n with
    | zero =>
      intro _
      show zfill nw 384 (32 * x + w) = 0
      unfold zfill
      rw [if_pos (by omega)]
    | succ n ih =>
      intro hn
      have o := h.ok.2 n (by omega)
      rw [lrn_snoc, Nat.zero_add]
      unfold mLat
      rw [← ih (by omega)]
      by_cases e3 : dd < f.2.2.2 n
      · rw [if_pos e3]
        by_cases e1 : f.1 n = x
        · rw [if_pos e1]
          by_cases e2 : f.2.1 n = w
          · rw [if_pos e2, if_pos e3]
          · rw [if_neg e2]
        · rw [if_neg e1]
      · rw [if_neg e3]
        by_cases e1 : f.1 n = x
        · rw [if_pos e1]
          by_cases e2 : f.2.1 n = w
          · rw [if_pos e2, if_neg e3, e1, e2, upd_at]
          · rw [if_neg e2, upd_ne (by omega)]
        · rw [if_neg e1, upd_ne (by omega)]
  exact key fn (Nat.le_refl _)
theorem fill_at {s : FB} {f : MF} {fn : Nat} {ck : Int32} (h : FcR s f fn ck) (dd : Int32) {i : Nat} (hi : i < 312) : ∀ m k v, k + m = fn → v i = fbLatest s (nI i) dd k → fbFill s dd m k v i = fbLatest s (nI i) dd fn := by
  intro m
  induction m with
  | zero =>
    intro k v hk hv
    have : k = fn := by omega
    subst this
    exact hv
  | succ m ih =>
    intro k v hk hv
    obtain ⟨a1, ⟨c, a2, a3⟩, a4, a5, a6⟩ := h.2.2.1 k (by omega)
    have hc := (col_in (Nat.le_refl 12) a2).1
    unfold fbFill
    by_cases e : s.2.2.1 k ≤ dd
    · rw [if_pos e]
      refine ih (k + 1) _ (by omega) ?_
      unfold fbPut
      rw [a3, if_neg (fun q => by rcases q with q | q; exact nI_pos (by omega) q; exact nI_ge (a := f.1 k * 26 + c) (b := 312) (by omega) (by decide) q), nI_clamp (by omega)]
      unfold fbLatest
      rw [a3]
      by_cases z : i = f.1 k * 26 + c
      · rw [if_pos ⟨by rw [z], e⟩, z, upd_at]
      · rw [if_neg (fun q => z ((nI_eq (by omega) (by omega)).1 q.1).symm), upd_ne z]
        exact hv
    · rw [if_neg e, hv]
      -- all that is told later is told after dd
      have key : ∀ d, k + d ≤ fn → fbLatest s (nI i) dd (k + d) = fbLatest s (nI i) dd k := fun d => by
        induction d with
        | zero => intro _; rfl
        | succ d ihd =>
          intro hd
          rw [show k + (d + 1) = (k + d) + 1 by omega]
          rw [fbLatest, if_neg (fun q => e ?_)]
          · exact ihd (by omega)
          · by_cases z : d = 0
            · subst z; exact q.2
            · exact Int32.le_trans (h.2.2.2 k (k + d) (by omega) (by omega)) q.2
      rw [← key (m + 1) (by omega), hk]
theorem view_same {s : FB} {f : MF} {fn : Nat} {ck : Int32} (h : FcR s f fn ck) (dd : Int32) (v nw : Nat → Int32) : VR (hV s v dd) (mLearn f fn dd nw) := by
  have key : ∀ x w c, x < 12 → hCol 12 w = some c → hV s v dd (x * 26 + c) = mLearn f fn dd nw (32 * x + w) := fun x w c hx hw => by
    have hc := col_in (Nat.le_refl 12) hw
    unfold hV
    rw [learn_at h dd nw hx hc.2.1, ← lat_same h hx hw dd fn (Nat.le_refl _), h.1]
    exact fill_at h dd (by omega) fn 0 _ (by omega) (by unfold zfill; rw [if_pos (by omega)]; rfl)
  intro x hx
  refine ⟨fun c hc => ?_, fun a ha => ?_, fun g hg => ?_⟩
  · exact key x c c hx (by unfold hCol; rw [if_pos (by omega)])
  · have := key x (10 + a) (6 + a) hx (by unfold hCol; rw [if_neg (by omega), if_pos (by omega)]; congr 1; omega)
    rw [this, Nat.add_assoc]
  · have := key x (20 + g) (14 + g) hx (by unfold hCol; rw [if_neg (by omega), if_neg (by omega), if_pos (by omega)]; congr 1; omega)
    rw [this, Nat.add_assoc]
theorem fact5_same {s : FB} {f : MF} {fn : Nat} {ck : Int32} (h : FcR s f fn ck) (dd : Int32) (v : Nat → Int32) {x : Nat} (hx : x < 12) : jFact (hV s v dd) x 5 = mLat f x 5 dd fn := by
  have e := ((view_same h dd v (fun _ => 0)) x hx).1 5 (by decide)
  unfold jFact
  rw [if_pos (by omega), e, learn_at h dd _ hx (by decide)]
/-! telling -/
theorem fits_same {n j c : Nat} (hn : n ≤ 12) (h : hCol n j = some c) (v : Int32) : mFits j v = true ↔ ¬ v < hLeast c ∧ v ≤ hMost c := by
  unfold hCol at h
  unfold mFits hLeast hMost
  by_cases h1 : j ≤ 5
  · rw [if_pos h1] at h
    cases h
    rw [if_neg (show ¬ (6 ≤ j ∧ j < 14) by omega)]
    by_cases h4 : j < 4
    · rw [if_pos h4, if_pos (show j ≤ 3 by omega), decide_eq_true_iff]
      constructor
      · intro q; rcases q with q | q <;> (subst q; decide)
      · intro ⟨q1, q2⟩
        have a := Int32.not_lt.1 q1
        rw [Int32.le_iff_toInt_le] at a q2
        have a : (0 : Int) ≤ v.toInt := a
        have q2 : v.toInt ≤ 1 := q2
        by_cases z : v.toInt = 0
        · exact Or.inl (Int32.toInt_inj.1 z)
        · exact Or.inr (Int32.toInt_inj.1 (show v.toInt = 1 by omega))
    · rw [if_neg h4, if_neg (show ¬ j ≤ 3 by omega)]
      by_cases h5 : j = 4
      · rw [if_pos h5, if_pos h5]
        unfold hDay
        by_cases q : v < 0
        · rw [if_pos q]
          exact ⟨(fun z => by cases z), fun z => absurd q z.1⟩
        · rw [if_neg q]
          by_cases q2 : 100000 < v
          · rw [if_pos q2]
            exact ⟨(fun z => by cases z), fun z => absurd q2 (Int32.not_lt.2 z.2)⟩
          · rw [if_neg q2]
            exact ⟨fun _ => ⟨q, Int32.not_lt.1 q2⟩, fun _ => rfl⟩
      · have e5 : j = 5 := by omega
        subst e5
        rw [if_neg (by decide), if_pos rfl, if_neg (by decide), if_pos rfl, decide_eq_true_iff]
        exact ⟨fun q => ⟨Int32.not_lt.2 q.1, q.2⟩, fun q => ⟨Int32.not_lt.1 q.1, q.2⟩⟩
  · rw [if_neg h1] at h
    rw [if_neg (show ¬ j < 4 by omega), if_neg (show ¬ j = 4 by omega), if_neg (show ¬ j = 5 by omega)]
    by_cases h2 : 10 ≤ j ∧ j < 18
    · rw [if_pos h2] at h
      cases h
      rw [if_pos (show j < 20 by omega), if_pos (show 6 ≤ 6 + (j - 10) ∧ 6 + (j - 10) < 14 by omega), if_neg (show ¬ 6 + (j - 10) ≤ 3 by omega), if_neg (show ¬ 6 + (j - 10) = 4 by omega), if_neg (show ¬ 6 + (j - 10) = 5 by omega), if_pos (show 6 + (j - 10) < 14 by omega), decide_eq_true_iff]
      exact ⟨fun q => ⟨Int32.not_lt.2 q.1, q.2⟩, fun q => ⟨Int32.not_lt.1 q.1, q.2⟩⟩
    · rw [if_neg h2] at h
      by_cases h3 : 20 ≤ j ∧ j < 20 + n
      · rw [if_pos h3] at h
        cases h
        rw [if_neg (show ¬ j < 20 by omega), if_neg (show ¬ (6 ≤ 14 + (j - 20) ∧ 14 + (j - 20) < 14) by omega), if_neg (show ¬ 14 + (j - 20) ≤ 3 by omega), if_neg (show ¬ 14 + (j - 20) = 4 by omega), if_neg (show ¬ 14 + (j - 20) = 5 by omega), if_neg (show ¬ 14 + (j - 20) < 14 by omega), decide_eq_true_iff]
        exact ⟨fun q => ⟨Int32.not_lt.2 q.1, q.2⟩, fun q => ⟨Int32.not_lt.1 q.1, q.2⟩⟩
      · rw [if_neg h3] at h; cases h
theorem tell_no {s : FB} {f c : Nat} {v dy : Int32} (h : ¬ (s.2.2.2 < 400 ∧ ¬ v < hLeast c ∧ v ≤ hMost c)) : hTell s f c v dy = (-1, s) := by
  unfold hTell
  by_cases h1 : v < hLeast c
  · rw [if_pos h1]
  · rw [if_neg h1]
    by_cases h2 : v ≤ hMost c
    · rw [if_pos h2]
      unfold fbAdd
      rw [if_neg (fun q => h ⟨q, h1, h2⟩)]
    · rw [if_neg h2]
theorem tell_yes {s : FB} {f c : Nat} {v dy : Int32} (h : s.2.2.2 < 400 ∧ ¬ v < hLeast c ∧ v ≤ hMost c) : hTell s f c v dy = (nI s.2.2.2, upd s.1 s.2.2.2 (nI (f * 26 + c)), upd s.2.1 s.2.2.2 v, upd s.2.2.1 s.2.2.2 dy, s.2.2.2 + 1) := by
  unfold hTell fbAdd
  rw [if_neg h.2.1, if_pos h.2.2, if_pos h.1]
theorem tell_FcR {s : FB} {f : MF} {fn : Nat} {ck : Int32} (h : FcR s f fn ck) {n x j c : Nat} {v : Int32} (hn : n ≤ 12) (hx : x < n) (hc : hCol n j = some c) (h4 : fn < 400) : FcR (upd s.1 fn (nI (x * 26 + c)), upd s.2.1 fn v, upd s.2.2.1 fn ck, fn + 1) (mAdd f fn x j v ck) (fn + 1) ck := by
  refine ⟨rfl, by omega, fun k hk => ?_, fun i k hik hk => ?_⟩
  · show va_up f.1 fn x k < 12 ∧ (∃ c', hCol 12 (va_up f.2.1 fn j k) = some c' ∧ upd s.1 fn (nI (x * 26 + c)) k = nI (va_up f.1 fn x k * 26 + c')) ∧ upd s.2.1 fn v k = upd f.2.2.1 fn v k ∧ upd s.2.2.1 fn ck k = upd f.2.2.2 fn ck k ∧ upd s.2.2.1 fn ck k ≤ ck
    by_cases e : k = fn
    · subst e
      rw [up_at, up_at, upd_at, upd_at, upd_at, upd_at, upd_at]
      exact ⟨by omega, ⟨c, (col_in hn hc).2.2, rfl⟩, rfl, rfl, Int32.le_refl _⟩
    · rw [up_ne e, up_ne e, upd_ne e, upd_ne e, upd_ne e, upd_ne e, upd_ne e]
      exact h.2.2.1 k (by omega)
  · show upd s.2.2.1 fn ck i ≤ upd s.2.2.1 fn ck k
    have hk : k < fn + 1 := hk
    rw [upd_ne (show i ≠ fn by omega)]
    by_cases e : k = fn
    · rw [e, upd_at]
      exact (h.2.2.1 i (by omega)).2.2.2.2
    · rw [upd_ne e]
      exact h.2.2.2 i k hik (by omega)
theorem FcR.later {s : FB} {f : MF} {fn : Nat} {ck dd : Int32} (h : FcR s f fn ck) (hd : ck ≤ dd) : FcR s f fn dd := ⟨h.1, h.2.1, fun k hk => by
  obtain ⟨a1, a2, a3, a4, a5⟩ := h.2.2.1 k hk
  exact ⟨a1, a2, a3, a4, Int32.le_trans a5 hd⟩, h.2.2.2⟩
theorem clk_le {t d : Int32} (h : hClk t d = true) : t ≤ d := by
  unfold hClk at h
  split at h
  · cases h
  · rename_i q; exact Int32.not_lt.1 q
