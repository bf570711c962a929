/-! texts and what they say: class and reference judge alike -/
def TxR (s : TX) (t : MR) (sl : Nat) : Prop := txRules s = rRg t sl ∧ TxW s ∧ (∀ r, r < txRules s → s.2.1 r = rIb t (sl * 20 + r) ∧ s.2.2.1 r = rEf t (sl * 20 + r) ∧ s.2.2.2.1 r = rEt t (sl * 20 + r) ∧ s.2.2.2.1 r = rCf t (sl * 20 + r) ∧ s.2.2.2.2.1 r = rCt t (sl * 20 + r)) ∧ ∀ i, i < txSize s → cR (s.1 i) (rOd t (sl * 1300 + i)) (rNu t (sl * 1300 + i))
/-- what is known, on both sides -/
def VR (v nw : Nat → Int32) : Prop := ∀ f, f < 12 → (∀ c, c < 6 → v (f * 26 + c) = nw (32 * f + c)) ∧ (∀ a, a < 8 → v (f * 26 + (6 + a)) = nw (32 * f + 10 + a)) ∧ ∀ h, h < 12 → v (f * 26 + (14 + h)) = nw (32 * f + 20 + h)
def lfM (nw : Nat → Int32) (p h : Nat) (st : Int32) (a : Nat) : Int32 := if st = 0 then nI a else if st = 1 then nw (32 * p + 10 + a) else nw (32 * h + 10 + a)
theorem cR_op_s {c o n : Int32} (h : cR c o n) : ∃ s a : Nat, s ≤ 13 ∧ a < 10000 ∧ ren o = nI s ∧ txOp c = nI s ∧ txArg c = a ∧ n = nI a ∧ (o = 1 ∨ o = 2 → a < 8) := by
  obtain ⟨h1, h2, a, a1, a2, a3⟩ := h
  have h3 : ∀ o ∈ ([0, 1, 2, 3, 4, 5, 6, 7, 8, 9, 10, 11, 12, 13] : List Int32), ∃ s : Fin 14, ren o = nI s.val := by decide +kernel
  obtain ⟨s, hs⟩ := h3 o h2
  have hl := s.isLt
  refine ⟨s.val, a, by omega, a1, hs, ?_, ?_, a2, a3⟩
  · rw [h1, hs]; exact (enc_at (by omega) n).1
  · rw [h1, hs, a2]; exact enc_arg (by omega) (by omega)
theorem step_same {nw : Nat → Int32} {p h : Nat} {c o n : Int32} {L M : List Int32} (hc : cR c o n) (hg : gS (lfM nw p h) c L = some M) : mStep nw p h o n L = some M := by
  have ho := hc.2.1
  obtain ⟨s, a, s1, a1, e1, e2, e3, e4, e5⟩ := cR_op_s hc
  unfold gS at hg
  rw [e2, e3, ← e1] at hg
  subst e4
  clear e1 e2 e3 hc
  simp only [List.mem_cons, List.mem_nil_iff, or_false] at ho
  rcases ho with e | e | e | e | e | e | e | e | e | e | e | e | e | e
  · subst e
    have hg : (if L.length < 64 then some (nI a :: L) else none) = some M := hg
    split at hg
    · exact hg
    · cases hg
  · subst e
    have h8 := e5 (Or.inl rfl)
    have hg : (if L.length < 64 then some (nw (32 * p + 10 + a) :: L) else none) = some M := hg
    split at hg
    · show (if nI a < 0 ∨ 8 ≤ nI a then none else some (nw (32 * p + 10 + (nI a).toNatClampNeg) :: L)) = some M
      rw [if_neg (fun q => by rcases q with q | q; exact nI_pos (by omega) q; exact nI_ge (a := a) (b := 8) h8 (by decide) q), nI_clamp (by omega)]
      exact hg
    · cases hg
  · subst e
    have h8 := e5 (Or.inr rfl)
    have hg : (if L.length < 64 then some (nw (32 * h + 10 + a) :: L) else none) = some M := hg
    split at hg
    · show (if nI a < 0 ∨ 8 ≤ nI a then none else some (nw (32 * h + 10 + (nI a).toNatClampNeg) :: L)) = some M
      rw [if_neg (fun q => by rcases q with q | q; exact nI_pos (by omega) q; exact nI_ge (a := a) (b := 8) h8 (by decide) q), nI_clamp (by omega)]
      exact hg
    · cases hg
  · subst e; exact hg
  · subst e; exact hg
  · subst e; exact hg
  · subst e; exact hg
  · subst e; exact hg
  · subst e; exact hg
  · subst e; exact hg
  · subst e; exact hg
  · subst e; exact hg
  · subst e; exact hg
  · subst e; exact hg
theorem ev_same {nw cd od nu : Nat → Int32} {p h B : Nat} : ∀ m k L M, (∀ i, k ≤ i → i < k + m → cR (cd i) (od (B + i)) (nu (B + i))) → gE (lfM nw p h) cd m k L = some M → mEv nw od nu p h m (B + k) L = some M := by
  intro m
  induction m with
  | zero => intro k L M _ hg; exact hg
  | succ m ih =>
    intro k L M hc hg
    rw [gE] at hg
    rw [mEv]
    cases e : gS (lfM nw p h) (cd k) L with
    | none => rw [e] at hg; cases hg
    | some K =>
      rw [e] at hg
      rw [step_same (hc k (Nat.le_refl k) (by omega)) e]
      exact ih (k + 1) K M (fun i h1 h2 => hc i (by omega) (by omega)) hg
/-! the class's stack -/
def stkL (k : Nat → Int32) : List Int32 → Prop
  | [] => True
  | x :: L => k L.length = x ∧ stkL k L
theorem stkL_up {k : Nat → Int32} {i : Nat} {v : Int32} : ∀ {L : List Int32}, L.length ≤ i → stkL k L → stkL (upd k i v) L
  | [], _, _ => trivial
  | x :: L, hi, h => by
    have hi : L.length + 1 ≤ i := hi
    exact ⟨by rw [upd_ne (by omega)]; exact h.1, stkL_up (by omega) h.2⟩
theorem jst_same {cd v : Nat → Int32} {p h i : Nat} {z : (Nat → Int32) × Nat} {L M : List Int32} (hz : z.2 = L.length) (hs : stkL z.1 L) (hg : gS (fun st a => jLeaf v st a p h) (cd i) L = some M) : (jStep cd v p h i z).2 = M.length ∧ stkL (jStep cd v p h i z).1 M := by
  unfold gS at hg
  unfold jStep
  by_cases h2 : txOp (cd i) ≤ 2
  · rw [if_pos h2] at hg
    split at hg
    · rename_i h64
      rw [if_pos ⟨h2, by omega⟩]
      cases hg
      exact ⟨by show z.2 + 1 = L.length + 1; rw [hz], by show upd z.1 z.2 _ L.length = _; rw [hz, upd_at], by rw [hz]; exact stkL_up (Nat.le_refl _) hs⟩
    · cases hg
  · rw [if_neg h2] at hg
    rw [if_neg (fun q => h2 q.1)]
    by_cases h4 : txOp (cd i) ≤ 4
    · rw [if_pos h4] at hg
      cases L with
      | nil => cases hg
      | cons x L0 =>
        have hz : z.2 = L0.length + 1 := hz
        have hg : some ((if txOp (cd i) = 3 then -x else 1 - x) :: L0) = some M := hg
        cases hg
        rw [if_pos ⟨h4, by omega⟩]
        have e : z.2 - 1 = L0.length := by omega
        rw [e]
        refine ⟨hz, ?_, stkL_up (Nat.le_refl _) hs.2⟩
        show upd z.1 L0.length _ L0.length = _
        rw [upd_at, hs.1]
    · rw [if_neg h4] at hg
      rw [if_neg (fun q => h4 q.1)]
      cases L with
      | nil => cases hg
      | cons y L1 =>
        cases L1 with
        | nil => cases hg
        | cons x L0 =>
          have hz : z.2 = L0.length + 1 + 1 := hz
          have hg : some (jComb (txOp (cd i)) x y :: L0) = some M := hg
          cases hg
          rw [if_pos (by omega)]
          have e1 : z.2 - 1 = L0.length + 1 := by omega
          have e2 : L0.length + 1 - 1 = L0.length := by omega
          rw [e1, e2]
          refine ⟨rfl, ?_, stkL_up (Nat.le_refl _) hs.2.2⟩
          show upd z.1 L0.length _ L0.length = _
          have s1 : z.1 (L0.length + 1) = y := hs.1
          rw [upd_at, s1, hs.2.1]
theorem jrun_same {cd v : Nat → Int32} {p h : Nat} : ∀ (m i : Nat) (z : (Nat → Int32) × Nat) (L M : List Int32), z.2 = L.length → stkL z.1 L → gE (fun st a => jLeaf v st a p h) cd m i L = some M → (foldF (jStep cd v p h) m i z).2 = M.length ∧ stkL (foldF (jStep cd v p h) m i z).1 M := by
  intro m
  induction m with
  | zero => intro i z L M hz hs hg; cases hg; exact ⟨hz, hs⟩
  | succ m ih =>
    intro i z L M hz hs hg
    rw [gE] at hg
    cases e : gS (fun st a => jLeaf v st a p h) (cd i) L with
    | none => rw [e] at hg; cases hg
    | some K =>
      rw [e] at hg
      obtain ⟨a1, a2⟩ := jst_same hz hs e
      exact ih (i + 1) _ K M a1 a2 hg
theorem gE_lf {f g : Int32 → Nat → Int32} {cd : Nat → Int32} : ∀ m k L, (∀ i, k ≤ i → i < k + m → txOp (cd i) ≤ 2 → f (txOp (cd i)) (txArg (cd i)) = g (txOp (cd i)) (txArg (cd i))) → gE f cd m k L = gE g cd m k L := by
  intro m
  induction m with
  | zero => intro k L _; rfl
  | succ m ih =>
    intro k L h
    have e1 : gS f (cd k) L = gS g (cd k) L := by
      unfold gS
      by_cases h2 : txOp (cd k) ≤ 2
      · rw [if_pos h2, if_pos h2, h k (Nat.le_refl k) (by omega) h2]
      · rw [if_neg h2, if_neg h2]
    have e2 : gE f cd m (k + 1) = gE g cd m (k + 1) := funext (fun M => ih (k + 1) M (fun i h1 h2 => h i (by omega) (by omega)))
    rw [gE, gE, e1, e2]
theorem lf_same {v nw : Nat → Int32} {p h : Nat} {c o n : Int32} (hv : VR v nw) (hp : p < 12) (hh : h < 12) (hc : cR c o n) (h2 : txOp c ≤ 2) : jLeaf v (txOp c) (txArg c) p h = lfM nw p h (txOp c) (txArg c) := by
  have ho := hc.2.1
  obtain ⟨s, a, s1, a1, e1, e2, e3, e4, e5⟩ := cR_op_s hc
  rw [e2] at h2
  have h2 : s ≤ 2 := (nI_leI (a := s) (b := 2) (by omega) (by decide)).1 h2
  rw [e2, e3]
  have fact : ∀ f, f < 12 → a < 8 → jFact v f (6 + a) = nw (32 * f + 10 + a) := fun f hf ha => by
    unfold jFact
    rw [if_pos (by omega)]
    exact (hv f hf).2.1 a ha
  have h3 : ∀ o ∈ ([0, 1, 2, 3, 4, 5, 6, 7, 8, 9, 10, 11, 12, 13] : List Int32), ren o = nI 0 ∨ (ren o = nI 1 ∧ o = 1) ∨ (ren o = nI 2 ∧ o = 2) ∨ ∃ k : Fin 14, 3 ≤ k.val ∧ ren o = nI k.val := by decide +kernel
  rcases h3 o ho with q | ⟨q, r⟩ | ⟨q, r⟩ | ⟨k, k1, q⟩
  · rw [q] at e1
    have := (nI_eq (by omega) (by omega)).1 e1
    rw [← this]; rfl
  · rw [q] at e1
    have e := (nI_eq (by omega) (by omega)).1 e1
    rw [← e]
    exact fact p hp (e5 (Or.inl r))
  · rw [q] at e1
    have e := (nI_eq (by omega) (by omega)).1 e1
    rw [← e]
    exact fact h hh (e5 (Or.inr r))
  · have := k.isLt
    rw [q] at e1
    have := (nI_eq (by omega) (by omega)).1 e1
    omega
/-- values -/
theorem val_same {s : TX} {t : MR} {sl : Nat} {bo : Bool} {a b D : Nat} (ht : TxR s t sl) (hw : wf s.1 bo a b D) (hD : D ≤ 64) (hb : b ≤ txSize s) {v nw : Nat → Int32} {p h : Nat} (hv : VR v nw) (hp : p < 12) (hh : h < 12) (k : Nat → Int32) : jVal s.1 v p h a b k = mVal nw (rOd t) (rNu t) p h sl a b ∧ (bo = true → mVal nw (rOd t) (rNu t) p h sl a b = 0 ∨ mVal nw (rOd t) (rNu t) p h sl a b = 1) := by
  have h1 := hw.1
  have h6 := ht.2.1.2.1
  obtain ⟨w, w1, w2⟩ := hw.2 (lfM nw p h) [] (by show 0 + D ≤ 64; omega)
  have hc : ∀ i, a ≤ i → i < a + (b - a) → cR (s.1 i) (rOd t (sl * 1300 + i)) (rNu t (sl * 1300 + i)) := fun i _ i2 => ht.2.2.2 i (by omega)
  have e1 : mEv nw (rOd t) (rNu t) p h (b - a) (sl * 1300 + a) [] = some [w] := ev_same (b - a) a [] [w] hc w1
  have e2 : mVal nw (rOd t) (rNu t) p h sl a b = w := by unfold mVal; rw [e1]
  have e3 : gE (fun st a => jLeaf v st a p h) s.1 (b - a) a [] = some [w] := by
    rw [← w1]
    exact gE_lf (b - a) a [] (fun i i1 i2 i3 => lf_same hv hp hh (hc i i1 i2) i3)
  obtain ⟨f1, f2⟩ := jrun_same (cd := s.1) (v := v) (p := p) (h := h) (b - a) a (k, 0) [] [w] rfl trivial e3
  have e4 : jVal s.1 v p h a b k = w := by
    unfold jVal jRun
    rw [show min b 600 = b by omega]
    generalize foldF (jStep s.1 v p h) (b - a) a (k, 0) = z at f1 f2
    have f1 : z.2 = 1 := f1
    unfold jTop
    rw [f1, if_neg (by decide)]
    exact f2.1
  rw [e2, e4]
  exact ⟨rfl, w2⟩
theorem mtx_of {s : TX} {t : MR} {sl : Nat} (ht : TxR s t sl) : mtxOk t sl := by
  obtain ⟨h1, ⟨h2, h3, h4⟩, h5, h6⟩ := ht
  have mw : ∀ bo a b D, wf s.1 bo a b D → D ≤ 64 → b ≤ txSize s → mWf (rOd t) (rNu t) sl a b := fun bo a b D hw hD hb => ⟨hw.1, by omega, fun nw p h => by
    obtain ⟨w, w1, _⟩ := hw.2 (lfM nw p h) [] (by show 0 + D ≤ 64; omega)
    exact ⟨w, ev_same (b - a) a [] [w] (fun i _ i2 => h6 i (by have := hw.1; omega)) w1⟩⟩
  refine ⟨by omega, fun r hr => ?_⟩
  have hr : r < txRules s := by omega
  obtain ⟨a1, a2, a3, a4, a5⟩ := h4 r hr
  obtain ⟨b1, b2, b3, b4, b5⟩ := h5 r hr
  rw [← b1, ← b2, ← b3, ← b4, ← b5]
  refine ⟨?_, fun q => mw false _ _ 19 (a5 q) (by decide) (by omega), by omega, by omega⟩
  rcases a4 with a4 | a4
  · exact Or.inl a4
  · exact Or.inr (mw true _ _ 22 a4 (by decide) a3)
theorem hold_same {s : TX} {t : MR} {sl : Nat} (ht : TxR s t sl) {v nw : Nat → Int32} {p h : Nat} (hv : VR v nw) (hp : p < 12) (hh : h < 12) (k : Nat → Int32) {r : Nat} (hr : r < txRules s) : jHold s v p h r k = mHolds t nw p h sl r := by
  obtain ⟨a1, a2, a3, a4, a5⟩ := ht.2.1.2.2 r hr
  obtain ⟨b1, b2, b3, b4, b5⟩ := ht.2.2.1 r hr
  unfold jHold mHolds
  rw [← b4, ← b5]
  by_cases e : s.2.2.2.1 r = s.2.2.2.2.1 r
  · rw [if_pos e, if_pos e]
  · rw [if_neg e, if_neg e]
    rcases a4 with a4 | a4
    · exact absurd a4 e
    · obtain ⟨v1, v2⟩ := val_same ht a4 (by decide) a3 hv hp hh k
      rw [v1]
      rcases v2 rfl with q | q
      · rw [q]; rfl
      · rw [q]; rfl
theorem bars_same {s : TX} {t : MR} {sl : Nat} (ht : TxR s t sl) {v nw : Nat → Int32} {p h : Nat} (hv : VR v nw) (hp : p < 12) (hh : h < 12) : ∀ m r k, r + m ≤ txRules s → (jBars s v p h m r k).1 = mBars t nw p h sl m r := by
  intro m
  induction m with
  | zero => intro r k _; rfl
  | succ m ih =>
    intro r k hm
    unfold jBars mBars
    rw [(ht.2.2.1 r (by omega)).1, hold_same ht hv hp hh k (show r < txRules s by omega)]
    split
    · split
      · rfl
      · exact ih (r + 1) _ (by omega)
    · exact ih (r + 1) _ (by omega)
theorem why_same {s : TX} {t : MR} {sl : Nat} (ht : TxR s t sl) {v nw : Nat → Int32} {p h : Nat} (hv : VR v nw) (hp : p < 12) (hh : h < 12) (te : Int32) (k : Nat → Int32) : (jWhy s v te p h k).1 = mWhy t nw te p h sl := by
  have f : ∀ g c, g < 12 → c < 6 → jFact v g c = nw (32 * g + c) := fun g c hg hc => by
    unfold jFact
    rw [if_pos (by omega)]
    exact (hv g hg).1 c hc
  have f0 := f p 0 hp (by decide)
  rw [Nat.add_zero] at f0
  have f1 := f h 1 hh (by decide)
  have f4 := f p 4 hp (by decide)
  have fw : jFact v p (14 + h) = nw (32 * p + 20 + h) := by
    unfold jFact
    rw [if_pos (by omega)]
    exact (hv p hp).2.2 h hh
  unfold jWhy mWhy
  rw [f0, f1, f4, fw]
  split
  · rfl
  · split
    · rfl
    · split
      · rfl
      · split
        · rfl
        · split
          · rw [bars_same ht hv hp hh _ _ _ (by omega), ht.1]
          · rfl
theorem sum_same {s : TX} {t : MR} {sl : Nat} (ht : TxR s t sl) {v nw : Nat → Int32} {p h : Nat} (hv : VR v nw) (hp : p < 12) (hh : h < 12) : ∀ m r (z : Int32 × (Nat → Int32)), r + m ≤ txRules s → (jSum s v p h m r z).1 = mSum t nw p h sl m r z.1 := by
  intro m
  induction m with
  | zero => intro r z _; rfl
  | succ m ih =>
    intro r z hm
    have hr : r < txRules s := by omega
    obtain ⟨a1, a2, a3, a4, a5⟩ := ht.2.1.2.2 r hr
    obtain ⟨b1, b2, b3, b4, b5⟩ := ht.2.2.1 r hr
    unfold jSum mSum
    rw [← b1, hold_same ht hv hp hh z.2 hr]
    by_cases hb : s.2.1 r = true
    · rw [if_pos hb, if_pos hb]; exact ih (r + 1) z (by omega)
    · rw [if_neg hb, if_neg hb]
      have w := a5 (Bool.eq_false_iff.2 hb)
      split
      · rw [ih (r + 1) _ (by omega)]
        show mSum t nw p h sl m (r + 1) (z.1 + jVal s.1 v p h (s.2.2.1 r) (s.2.2.2.1 r) (jHoldK s v p h r z.2)) = _
        rw [(val_same ht w (by decide) (by omega) hv hp hh (jHoldK s v p h r z.2)).1, ← b2, ← b3]
      · exact ih (r + 1) _ (by omega)
theorem cost_same {s : TX} {t : MR} {sl : Nat} (ht : TxR s t sl) {v nw : Nat → Int32} {p h : Nat} (hv : VR v nw) (hp : p < 12) (hh : h < 12) (te : Int32) (k : Nat → Int32) : jCost s v te p h k = if mWhy t nw te p h sl = 0 then some (mPrice t nw p h sl) else none := by
  have fw : jFact v p (14 + h) = nw (32 * p + 20 + h) := by
    unfold jFact
    rw [if_pos (by omega)]
    exact (hv p hp).2.2 h hh
  unfold jCost
  rw [why_same ht hv hp hh te k]
  by_cases e : mWhy t nw te p h sl = 0
  · rw [if_pos e, if_pos e]
    unfold mPrice jCostZ
    rw [sum_same ht hv hp hh _ _ _ (by omega), fw, ht.1]
  · rw [if_neg e, if_neg e]
