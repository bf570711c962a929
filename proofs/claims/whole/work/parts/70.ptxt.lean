/-! the parsers: traits, rules, the text -/
theorem late_same {tp : Nat → Int32} {tn : Nat} {l0 : Int64} {tr : Nat} {tv : Nat → Int64} {rz : RW} {u : TK} {z : PZ} {x : XZ} {n : Int32} (hL : Lx tp tn l0 u) (h : RRz tp tn l0 tr tv rz z x) (hn : n ≠ 0) : RLz tp tn l0 tr tv rz (zAt z + 1) (pFailL u z n) (xFlt x n) ∧ xFk (xFlt x n) ≠ 0 := by
  obtain ⟨⟨tk1, tk2, tk3, tk4⟩, tv1, tv2, tv3⟩ := rl_tok hL h
  obtain ⟨a, ⟨b1, b2, b3, b4⟩, c, d⟩ := h
  have eF : xFlt x n = (x.1, (if xFk x = 0 then (n, nI (xBg x)) else x.2.1), x.2.2) := by
    unfold xFlt xFt
    by_cases h0 : xFk x = 0
    · rw [if_pos h0, if_pos h0]
    · rw [if_neg h0, if_neg h0]
      obtain ⟨e, e1, e2⟩ := b4 h0
      have lt := tv2 e e1
      have tnb := hL.2
      rw [e2, if_neg (nI_nlt (by omega) (by omega)), if_neg (fun q => by have := (nI_eq (by omega) (by omega)).1 q; omega), ← e2]
  have eZ : pFailL u z n = ((zAt z, zOpen z, zFault z, (if zLate z = 0 then n else zLate z), (if zLate z = 0 then nI (u.2.1 (zAt z)) else zLateP z), zFaultP z), z.2) := by
    unfold pFailL
    by_cases h0 : zLate z = 0
    · rw [if_pos h0, if_pos h0, if_pos h0]
    · rw [if_neg h0, if_neg h0, if_neg h0]
  have hne : (if xFk x = 0 then (n, nI (xBg x)) else x.2.1).1 ≠ 0 := by
    by_cases h0 : xFk x = 0
    · rw [if_pos h0]; exact hn
    · rw [if_neg h0]; exact h0
  rw [eF, eZ]
  refine ⟨⟨a, ⟨b1, ?_, ?_, fun _ => ?_⟩, ⟨c.1, fun hf => absurd hf hne⟩, d⟩, hne⟩
  · show (if zLate z = 0 then n else zLate z) = (if xFk x = 0 then (n, nI (xBg x)) else x.2.1).1
    rw [b2]
    by_cases h0 : xFk x = 0
    · rw [if_pos h0, if_pos h0]
    · rw [if_neg h0, if_neg h0]
  · show (if zLate z = 0 then nI (u.2.1 (zAt z)) else zLateP z) = (if xFk x = 0 then (n, nI (xBg x)) else x.2.1).2
    rw [b2, tk2, b3]
    by_cases h0 : xFk x = 0
    · rw [if_pos h0, if_pos h0]
    · rw [if_neg h0, if_neg h0]
  · show ∃ e, e < zAt z + 1 ∧ (if xFk x = 0 then (n, nI (xBg x)) else x.2.1).2 = nI (xTs tp tn 0 l0 e).2.1
    by_cases h0 : xFk x = 0
    · rw [if_pos h0]
      exact ⟨zAt z, by omega, by rw [← a.2.2.2.1]⟩
    · rw [if_neg h0]
      obtain ⟨e, e1, e2⟩ := b4 h0
      exact ⟨e, by omega, e2⟩
/-- names as they are added -/
theorem nm_add {tr : Nat} {tv nm : Nat → Int64} {v : Int64} (h : NmR tr tv nm) (h8 : tr < 8) : NmR (tr + 1) (vp_updL tv tr v) (vp_updL nm tr v) := ⟨by omega, fun k hk => by
  unfold vp_updL
  by_cases e : k = tr
  · rw [if_pos e, if_pos e]
  · rw [if_neg e, if_neg e]; exact h.2 k (by omega)⟩
theorem addT_same {tp : Nat → Int32} {tn : Nat} {l0 : Int64} {tr : Nat} {tv : Nat → Int64} {rz : RW} {L : Nat} {z : PZ} {x : XZ} {v : Int64} (h : RLz tp tn l0 tr tv rz L z x) (h8 : tr < 8) : RLz tp tn l0 (tr + 1) (vp_updL tv tr v) rz L (zAddT z v) x := by
  obtain ⟨a, b, c, d1, d2, d3⟩ := h
  have e : zAddT z v = (z.1, (z.2.1, z.2.2.1, z.2.2.2.1, z.2.2.2.2.1, z.2.2.2.2.2.1, vp_updL tv tr v, txSize z.2, txRules z.2, tr + 1)) := by
    unfold zAddT txAddT
    rw [d3, d2, if_neg (by omega)]
  rw [e]
  exact ⟨a, b, c, d1, rfl, rfl⟩
theorem kp_addT (v : Int64) : keeps (fun z => zAddT z v) := fun _ _ => ⟨rfl, rfl⟩
theorem fz_tr2 {u : TK} {z : PZ} (h : flt z) : rTr2 u z = z := by unfold rTr2; rw [fz_sees h, if_neg (by decide)]
theorem fz_tr {u : TK} {z : PZ} (h : flt z) : ∀ m, pTr u m z = z
  | 0 => rfl
  | m + 1 => by unfold pTr; rw [fz_sees h, if_neg (by decide)]
def TrR (tp : Nat → Int32) (tn : Nat) (l0 : Int64) (rz : RW) (z : PZ) (r : TZ) (y : PZ) : Prop := (r.1 = true ∧ (∃ tv, RRz tp tn l0 r.2.2.1 tv rz y r.2.1 ∧ NmR r.2.2.1 tv r.2.2.2) ∧ txSize y.2 = txSize z.2 ∧ zOpen y = zOpen z ∧ zAt z ≤ zAt y ∧ xIsW r.2.1 0 = false) ∨ (r.1 = false ∧ FF y r.2.1)
theorem trs_same {tp : Nat → Int32} {tn : Nat} {l0 : Int64} {rz : RW} {u : TK} (hL : Lx tp tn l0 u) : ∀ M m tr tv nm z x, RRz tp tn l0 tr tv rz z x → NmR tr tv nm → m + tr = 9 → 602 ≤ M + xTk x → txSize z.2 ≤ zAt z → TrR tp tn l0 rz z (xTrs tp tn M tr nm x) (pTr u m z) := by
  intro M
  induction M with
  | zero => intro m tr tv nm z x h hN hm hM hsz; have := nx_tk h; have := rr_at h; omega
  | succ M ih =>
    intro m tr tv nm z x h hN hm hM hsz
    have a6 := rr_at h
    have hx := nx_tk h
    have h8 := hN.1
    obtain ⟨m, rfl⟩ : ∃ k, m = k + 1 := ⟨m - 1, by omega⟩
    have s0 : pSees u z 10 = xIsW x 0 := sees_W (c := 0) hL h (by decide)
    unfold xTrs pTr
    by_cases hw : xIsW x 0 = true
    · rw [if_pos hw, if_pos (s0.trans hw)]
      have et : txTraits z.2 = tr := h.2.2.2.2.2
      unfold rTrD rTr1 xTr1
      rw [et]
      by_cases e8 : tr = 8
      · rw [if_pos e8, if_pos e8]
        have f1 := ff_stop hL h (n := 2) (by decide)
        rw [fz_exp f1.1, fz_tr2 f1.1, fz_exp f1.1, fz_exp f1.1, fz_tr f1.1]
        exact Or.inr ⟨rfl, f1⟩
      · rw [if_neg e8, if_neg e8]
        rcases pass_same hL (RL_wk h (Nat.le_succ _)) (s0.trans hw) (by decide) (by decide) with ⟨p1, p2, p3⟩ | ⟨p1, p2⟩
        · rw [if_pos p1, p2]
          unfold rTr2 xTr2
          have s2 := (sees_0 hL p3).2.1
          by_cases hk : xKd (xPass tp tn x) = 1
          · rw [if_pos hk, s2, decide_eq_true hk, if_pos rfl]
            obtain ⟨⟨tk1, tk2, tk3, tk4⟩, tv1, tv2, tv3⟩ := rl_tok hL p3
            have ev : u.2.2 (zAt (zNx z)) = xLe (xPass tp tn x) := tk3 hk
            have en : txNamed (zNx z).2 (xLe (xPass tp tn x)) = mTrait nm (xLe (xPass tp tn x)) tr 0 := by
              unfold txNamed
              rw [p3.2.2.2.2.2]
              exact named_same tr 0 (fun j _ hj => by rw [p3.2.2.2.2.1]; exact hN.2 j (by omega))
            rw [ev, en]
            generalize xLe (xPass tp tn x) = V
            -- with or without a late fault
            have key : ∀ (z' : PZ) (x' : XZ), RLz tp tn l0 tr tv rz (zAt z' + 1) z' x' → zAt z' = zAt z + 1 → zOpen z' = zOpen z → txSize z'.2 = txSize z.2 → TrR tp tn l0 rz z (xTr3 tp tn (xTrs tp tn M) tr (vp_updL nm tr V) x') (pTr u m (pExp u (pExp u (zAddT z' V) 2) 59)) := fun z' x' h' ea eo_ es => by
              have hA := addT_same (v := V) h' (by omega)
              have hk' : xKd x' = 1 := by
                show x'.1.1.1 = 1
                rw [h'.1.2.2.2.1, ea]
                have := p3.1.2.2.2.1
                have this : (xPass tp tn x).1.1 = xTs tp tn 0 l0 (zAt z + 1) := this
                rw [← this]; exact hk
              have s2' := (sees_0 hL hA).2.1
              unfold xTr3
              rcases pass_same hL hA (by rw [s2']; exact decide_eq_true hk') (by decide) (by decide) with ⟨q1, q2, q3⟩ | ⟨q1, q2⟩
              · rw [if_pos q1, q2]
                have e1 : zAt (zNx (zAddT z' V)) = zAt z + 1 + 1 := by show zAt z' + 1 = _; rw [ea]
                have e2 : txSize (zNx (zAddT z' V)).2 = txSize z.2 := by
                  rw [← es]
                  show txSize (txAddT z'.2 V) = txSize z'.2
                  unfold txAddT; split <;> rfl
                rcases S_res (c := 59) (P := 0) hL q3 (by decide) (by rw [e2]; omega) with ⟨r1, r2, r3, r4, r5⟩ | ⟨r1, r2⟩
                · rw [if_pos r1]
                  have hx2 := nx_tk r2
                  have I := ih m (tr + 1) (vp_updL tv tr V) (vp_updL nm tr V) _ _ r2 (nm_add hN (by omega)) (by omega) (by omega) r3
                  have e3 : txSize (pExp u (zNx (zAddT z' V)) 59).2 = txSize z.2 := by
                    rw [← e2]
                    unfold pExp pFail
                    split
                    · split
                      · split <;> rfl
                      · rfl
                    · split <;> rfl
                  rcases I with ⟨i1, i2, i3, i4, i5, i6⟩ | I
                  · exact Or.inl ⟨i1, i2, i3.trans e3, i4.trans (r4.trans eo_), by omega, i6⟩
                  · exact Or.inr I
                · rw [if_neg (by rw [r1]; decide), fz_tr r2.1]
                  exact Or.inr ⟨rfl, r2⟩
              · rw [if_neg (by rw [q1]; decide), fz_exp q2.1, fz_tr q2.1]
                exact Or.inr ⟨rfl, q2⟩
            cases em : mTrait nm V tr 0 with
            | none =>
              rw [if_pos rfl, if_pos rfl]
              exact key (zNx z) (xPass tp tn x) (RL_wk p3 (Nat.le_succ _)) rfl rfl rfl
            | some k =>
              rw [if_neg (fun q => by cases q), if_neg (fun q => by cases q)]
              have l1 := (late_same (n := 3) hL p3 (by decide)).1
              have ea : zAt (pFailL u (zNx z) 3) = zAt (zNx z) := at_failL u (zNx z) 3
              refine key (pFailL u (zNx z) 3) (xFlt (xPass tp tn x) 3) (by rw [ea]; exact l1) ea ?_ ?_
              · unfold pFailL; split <;> rfl
              · unfold pFailL; split <;> rfl
          · rw [if_neg hk, s2, decide_eq_false hk, if_neg (show ¬ (false = true) by decide)]
            have f1 : FF (pExp u (zNx z) 2) (xStop (xPass tp tn x) 1) := by
              unfold pExp
              rw [s2, decide_eq_false hk, if_neg (show ¬ (false = true) by decide)]
              exact ff_stop hL p3 (by decide)
            rw [fz_exp f1.1, fz_tr f1.1]
            exact Or.inr ⟨rfl, f1⟩
        · rw [if_neg (by rw [p1]; decide), fz_tr2 p2.1, fz_exp p2.1, fz_exp p2.1, fz_tr p2.1]
          exact Or.inr ⟨rfl, p2⟩
    · rw [if_neg hw, if_neg (by rw [s0]; exact hw)]
      exact Or.inl ⟨rfl, ⟨tv, h, hN⟩, rfl, rfl, Nat.le_refl _, Bool.eq_false_iff.2 hw⟩
/-! rules -/
def QR (rz : RW) (q : RZ) : Prop := rz.2.2.2.2 = q.1 2 ∧ rz.2.2.2.2 ≤ 20 ∧ ∀ r, r < rz.2.2.2.2 → rz.1 r = q.2.1 (40 + r) ∧ rz.2.1 r = q.2.2.1 (40 + r) ∧ rz.2.2.1 r = q.2.2.2.1 (40 + r) ∧ rz.2.2.1 r = q.2.2.2.2.1 (40 + r) ∧ rz.2.2.2.1 r = q.2.2.2.2.2 (40 + r)
def rzA (rz : RW) (b : Bool) (i j s : Nat) : RW := (updB rz.1 rz.2.2.2.2 b, va_up rz.2.1 rz.2.2.2.2 i, va_up rz.2.2.1 rz.2.2.2.2 j, va_up rz.2.2.2.1 rz.2.2.2.2 s, rz.2.2.2.2 + 1)
def qA (q : RZ) (b : Bool) (i j s : Nat) : RZ := (va_up q.1 2 (q.1 2 + 1), updB q.2.1 (40 + q.1 2) b, va_up q.2.2.1 (40 + q.1 2) i, va_up q.2.2.2.1 (40 + q.1 2) j, va_up q.2.2.2.2.1 (40 + q.1 2) j, va_up q.2.2.2.2.2 (40 + q.1 2) s)
theorem up_at {α : Type} (f : Nat → α) (k : Nat) (v : α) : va_up f k v k = v := by unfold va_up; rw [if_pos rfl]
theorem up_ne {α : Type} {f : Nat → α} {k j : Nat} {v : α} (h : j ≠ k) : va_up f k v j = f j := by unfold va_up; rw [if_neg h]
theorem uB_at (f : Nat → Bool) (k : Nat) (v : Bool) : updB f k v k = v := by unfold updB; rw [if_pos rfl]
theorem uB_ne {f : Nat → Bool} {k j : Nat} {v : Bool} (h : j ≠ k) : updB f k v j = f j := by unfold updB; rw [if_neg h]
theorem QR_add {rz : RW} {q : RZ} (h : QR rz q) (hr : rz.2.2.2.2 < 20) (b : Bool) (i j s : Nat) : QR (rzA rz b i j s) (qA q b i j s) := by
  obtain ⟨h1, h2, h3⟩ := h
  refine ⟨?_, by show rz.2.2.2.2 + 1 ≤ 20; omega, fun r hr' => ?_⟩
  · show rz.2.2.2.2 + 1 = va_up q.1 2 (q.1 2 + 1) 2
    rw [up_at, h1]
  · have hr' : r < rz.2.2.2.2 + 1 := hr'
    show updB rz.1 rz.2.2.2.2 b r = updB q.2.1 (40 + q.1 2) b (40 + r) ∧ va_up rz.2.1 rz.2.2.2.2 i r = va_up q.2.2.1 (40 + q.1 2) i (40 + r) ∧ va_up rz.2.2.1 rz.2.2.2.2 j r = va_up q.2.2.2.1 (40 + q.1 2) j (40 + r) ∧ va_up rz.2.2.1 rz.2.2.2.2 j r = va_up q.2.2.2.2.1 (40 + q.1 2) j (40 + r) ∧ va_up rz.2.2.2.1 rz.2.2.2.2 s r = va_up q.2.2.2.2.2 (40 + q.1 2) s (40 + r)
    rw [← h1]
    by_cases e : r = rz.2.2.2.2
    · subst e
      rw [uB_at, uB_at, up_at, up_at, up_at, up_at, up_at, up_at, up_at]
      exact ⟨rfl, rfl, rfl, rfl, rfl⟩
    · have e2 : 40 + r ≠ 40 + rz.2.2.2.2 := by omega
      rw [uB_ne e, uB_ne e2, up_ne e, up_ne e2, up_ne e, up_ne e2, up_ne e2, up_ne e, up_ne e2]
      exact h3 r (by omega)
theorem addR_same {tp : Nat → Int32} {tn : Nat} {l0 : Int64} {tr : Nat} {tv : Nat → Int64} {rz : RW} {L : Nat} {z : PZ} {x : XZ} {b : Bool} {i j : Nat} (h : RLz tp tn l0 tr tv rz L z x) (hr : rz.2.2.2.2 < 20) : RLz tp tn l0 tr tv (rzA rz b i j (txSize z.2)) L (zAddR z b i j) x := by
  obtain ⟨a, bb, c, d1, d2, d3⟩ := h
  have er : txRules z.2 = rz.2.2.2.2 := by rw [← d1]
  have e : zAddR z b i j = (z.1, (z.2.1, updB z.2.2.1 (txRules z.2) b, va_up z.2.2.2.1 (txRules z.2) i, va_up z.2.2.2.2.1 (txRules z.2) j, va_up z.2.2.2.2.2.1 (txRules z.2) (txSize z.2), z.2.2.2.2.2.2.1, txSize z.2, txRules z.2 + 1, txTraits z.2)) := by
    unfold zAddR txRule
    rw [if_neg (by omega)]
  rw [e]
  refine ⟨a, bb, c, ?_, d2, d3⟩
  subst d1
  rfl
theorem kp_addR (b : Bool) (i j : Nat) : keeps (fun z => zAddR z b i j) := fun _ _ => ⟨rfl, rfl⟩
theorem sz_exp (u : TK) (z : PZ) (k : Int32) : (pExp u z k).2 = z.2 := by
  unfold pExp pFail
  split
  · split
    · split <;> rfl
    · rfl
  · split <;> rfl
/-- the frame of a rule -/
theorem rule_gen {tp : Nat → Int32} {tn : Nat} {l0 : Int64} {tr : Nat} {tv : Nat → Int64} {rz : RW} {u : TK} {A1 : Nat} {r1 : Bool × XZ} {Y1 : PZ} {f : XZ → Bool × XZ} {k : PZ → PZ} (hL : Lx tp tn l0 u) (R1 : Res tp tn l0 tr tv rz 1 0 A1 r1 Y1) (hk : keeps k) (hf : ∀ w, RRz tp tn l0 tr tv rz Y1 w → txSize Y1.2 + 1 ≤ zAt Y1 → zOpen Y1 = 0 → Res tp tn l0 tr tv rz 1 0 (zAt Y1) (f w) (k Y1)) : ((xB r1 (fun y => xB (f y) (xS tp tn 59))).1 = true ∧ RRz tp tn l0 tr tv rz (pExp u (k Y1) 59) (xB r1 (fun y => xB (f y) (xS tp tn 59))).2 ∧ txSize Y1.2 = xOg r1.2 2 ∧ txSize (k Y1).2 = xOg (f r1.2).2 2 ∧ txSize (pExp u (k Y1) 59).2 ≤ zAt (pExp u (k Y1) 59) ∧ zOpen (pExp u (k Y1) 59) = 0 ∧ A1 + 1 ≤ zAt (pExp u (k Y1) 59)) ∨ ((xB r1 (fun y => xB (f y) (xS tp tn 59))).1 = false ∧ FF (pExp u (k Y1) 59) (xB r1 (fun y => xB (f y) (xS tp tn 59))).2) := by
  rcases R1 with ⟨a1, a2, a3, a4, a5⟩ | ⟨a1, a2⟩
  · rw [show xB r1 (fun y => xB (f y) (xS tp tn 59)) = xB (f r1.2) (xS tp tn 59) from by rw [xB, if_pos a1]]
    rcases hf _ a2 a3 a4 with ⟨b1, b2, b3, b4, b5⟩ | ⟨b1, b2⟩
    · rw [show xB (f r1.2) (xS tp tn 59) = xS tp tn 59 (f r1.2).2 from by rw [xB, if_pos b1]]
      rcases S_res (c := 59) (P := 0) hL b2 (by decide) (by omega) with ⟨c1, c2, c3, c4, c5⟩ | ⟨c1, c2⟩
      · exact Or.inl ⟨c1, c2, a2.2.2.1.1, b2.2.2.1.1, c3, by omega, by omega⟩
      · exact Or.inr ⟨c1, c2⟩
    · rw [show xB (f r1.2) (xS tp tn 59) = (false, (f r1.2).2) from by rw [xB, if_neg (by rw [b1]; decide)]]
      exact Or.inr ⟨rfl, ff_keep (k := fun y => pExp u y 59) b2 (kp_exp u 59)⟩
  · rw [show xB r1 (fun y => xB (f y) (xS tp tn 59)) = (false, r1.2) from by rw [xB, if_neg (by rw [a1]; decide)]]
    exact Or.inr ⟨rfl, ff_keep (k := fun y => pExp u (k y) 59) a2 (kp_comp (f := k) (g := fun y => pExp u y 59) hk (kp_exp u 59))⟩
theorem kp_ruI (u : TK) : keeps (rRuI u) := fun z hz => by
  unfold rRuI
  rw [fz_accB hz, if_neg (by decide), fz_accZ hz]
  exact ⟨rfl, rfl⟩
def rRuG (u : TK) (g : Nat) (z : PZ) : PZ := if pAccB u z 13 = true then rCond u g (pAccZ u z 13) else pAccZ u z 13
theorem rRuI_g (u : TK) (z : PZ) : rRuG u 8 z = rRuI u z := by rw [rRuG, rRuI]
theorem kp_ruG (u : TK) (g : Nat) : keeps (rRuG u g) := fun z hz => by
  unfold rRuG
  rw [fz_accB hz, if_neg (by decide), fz_accZ hz]
  exact ⟨rfl, rfl⟩
theorem rule_same {tp : Nat → Int32} {tn : Nat} {l0 : Int64} {tr : Nat} {tv : Nat → Int64} {rz : RW} {u : TK} {nm : Nat → Int64} {z : PZ} {x : XZ} (hL : Lx tp tn l0 u) (hN : NmR tr tv nm) (h : RRz tp tn l0 tr tv rz z (xO0 x)) (ho : zOpen z = 0) (hs : txSize z.2 ≤ zAt z) (hr : rz.2.2.2.2 < 20) (hw : xIsW x 1 = true ∨ xIsW x 2 = true) : ((xRule tp tn nm tr x).1 = true ∧ RRz tp tn l0 tr tv (rzA rz (xIsW x 1) (xOg x 2) (xOg (xRu1 tp tn nm tr (xIsW x 1) x).2 2) (xOg (xRu2 tp tn nm tr (xIsW x 1) (xRu1 tp tn nm tr (xIsW x 1) x).2).2 2)) (rRuD u z) (xRule tp tn nm tr x).2 ∧ txSize (rRuD u z).2 ≤ zAt (rRuD u z) ∧ zOpen (rRuD u z) = 0 ∧ zAt z < zAt (rRuD u z)) ∨ ((xRule tp tn nm tr x).1 = false ∧ FF (rRuD u z) (xRule tp tn nm tr x).2) := by
  have a6 := rr_at h
  have er : txRules z.2 = rz.2.2.2.2 := by rw [← h.2.2.2.1]
  have e1 : rRu1 u z = z := by unfold rRu1; rw [if_neg (by omega)]
  have s1 : pSees u z 11 = xIsW x 1 := sees_W (c := 1) hL h (by decide)
  have s2 : pSees u z 12 = xIsW x 2 := sees_W (c := 2) hL h (by decide)
  have es : txSize z.2 = xOg x 2 := h.2.2.1.1
  have szR : ∀ (y : PZ) (b : Bool) (i j : Nat), txSize (zAddR y b i j).2 = txSize y.2 := fun y b i j => by
    show txSize (txRule y.2 b i j) = txSize y.2
    unfold txRule; split <;> rfl
  obtain ⟨G, hG⟩ : ∃ G : Nat, G = 8 := ⟨8, rfl⟩
  have eB : rRuB u z = zAddR (pExp u (rCond u G (pExp u z 11)) 59) true (txSize z.2) (txSize z.2) := by rw [rRuB, hG]
  have eC : rRuC u z = zAddR (pExp u (rRuG u G (rSum u G (pExp u z 12))) 59) false (txSize z.2) (txSize (rSum u G (pExp u z 12)).2) := by rw [rRuC, hG, ← rRuI_g]
  rw [rRuD, e1, s1, eB, eC]
  clear eB eC
  unfold xRule
  by_cases h1 : xIsW x 1 = true
  · rw [h1, if_pos rfl]
    have R1 : Res tp tn l0 tr tv rz 1 0 (zAt z + 1) (xRu1 tp tn nm tr true x) (pExp u z 11) := by
      have e : xRu1 tp tn nm tr true x = xB (xP tp tn (xO0 x)) (fun y => (true, y)) := by
        unfold xRu1
        rfl
      rw [e]
      have R0 := P_res (P := 1) hL (RL_wk h (Nat.le_succ _)) (s1.trans h1) (by decide) (by decide) (by omega)
      rw [ho] at R0
      refine Res_b (k := fun y => y) R0 (kp_id (fun _ _ => rfl)) (fun w q1 q2 q3 q4 => ?_)
      exact Or.inl ⟨rfl, q1, q2, q3, q4⟩
    have G := rule_gen (f := xRu2 tp tn nm tr true) (k := rCond u G) hL R1 (kp_cond u G) (fun w q1 q2 q3 => by
      have := cond_same (g := G) hL hN q1 (by decide) q2 (by omega) (by omega)
      rw [q3] at this
      unfold xRu2
      rw [if_pos rfl]
      exact this)
    rcases G with ⟨g1, g2, g3, g4, g5, g6, g7⟩ | ⟨g1, g2⟩
    · left
      have A := addR_same (b := true) (i := txSize z.2) (j := txSize z.2) g2 hr
      rw [sz_exp, g4] at A
      have e5 : xOg (xRu1 tp tn nm tr true x).2 2 = txSize z.2 := by rw [← g3, sz_exp]
      rw [e5, ← es]
      exact ⟨g1, A, by rw [szR]; exact g5, g6, by show zAt z < zAt (pExp u (rCond u G (pExp u z 11)) 59); omega⟩
    · right
      exact ⟨g1, ff_keep (k := fun y => zAddR y true (txSize z.2) (txSize z.2)) g2 (kp_addR _ _ _)⟩
  · have h2 : xIsW x 2 = true := by rcases hw with w | w; exact absurd w h1; exact w
    have h1' := Bool.eq_false_iff.2 h1
    rw [h1', if_neg (by decide)]
    have R1 : Res tp tn l0 tr tv rz 1 0 (zAt z + 1) (xRu1 tp tn nm tr false x) (rSum u G (pExp u z 12)) := by
      have e : xRu1 tp tn nm tr false x = xB (xP tp tn (xO0 x)) (fun y => xExp tp tn nm tr y) := by
        unfold xRu1
        rfl
      rw [e]
      have R0 := P_res (P := 1) hL (RL_wk h (Nat.le_succ _)) (s2.trans h2) (by decide) (by decide) (by omega)
      rw [ho] at R0
      refine Res_b (k := rSum u G) R0 (kp_sum u G) (fun w q1 q2 q3 q4 => ?_)
      have := exp_same (g := G) hL hN q1 (by decide) q2 (by omega) (by omega)
      rw [q3] at this
      exact Res_wk this q4
    have G := rule_gen (f := xRu2 tp tn nm tr false) (k := rRuG u G) hL R1 (kp_ruG u G) (fun w q1 q2 q3 => by
      have s3 : pSees u (rSum u G (pExp u z 12)) 13 = xIsW w 3 := sees_W (c := 3) hL q1 (by decide)
      generalize rSum u G (pExp u z 12) = y at q1 q2 q3 s3
      have e : xRu2 tp tn nm tr false w = if xIsW w 3 = true then xB (xP tp tn w) (xCond tp tn nm tr) else (true, w) := by
        unfold xRu2
        rfl
      rw [e]
      unfold rRuG
      by_cases h3 : xIsW w 3 = true
      · rw [if_pos h3]
        have hs3 := s3.trans h3
        have eB : pAccB u y 13 = decide (zFault (pExp u y 13) = 0) := by unfold pAccB; rw [if_pos hs3]
        have eZ : pAccZ u y 13 = pExp u y 13 := by unfold pAccZ; rw [if_pos hs3]
        rw [eB, eZ, show xP tp tn w = (xPassB w, xPass tp tn w) from rfl]
        rcases pass_same hL (RL_wk q1 (Nat.le_succ _)) hs3 (by decide) (by decide) with ⟨p1, p2, p3⟩ | ⟨p1, p2⟩
        · rw [xBt_ p1, p2, if_pos (decide_eq_true p3.1.1)]
          have e8 : zOpen (zNx y) = 0 := q3
          have := cond_same (g := G) (P := 1) hL hN p3 (by decide) (by show txSize y.2 + 1 ≤ zAt y + 1; omega) (by omega) (by omega)
          rw [e8] at this
          exact Res_wk this (by show zAt y ≤ zAt y + 1; omega)
        · rw [xBf_ p1, if_neg (by rw [decide_eq_false p2.1]; decide)]
          exact Or.inr ⟨rfl, p2⟩
      · rw [if_neg h3]
        have hs3 := s3.trans (Bool.eq_false_iff.2 h3)
        have eB : pAccB u y 13 = false := by unfold pAccB; rw [hs3, if_neg (by decide)]
        have eZ : pAccZ u y 13 = y := by unfold pAccZ; rw [hs3, if_neg (by decide)]
        rw [eB, if_neg (by decide), eZ]
        exact Or.inl ⟨rfl, q1, q2, q3, Nat.le_refl _⟩)
    rcases G with ⟨g1, g2, g3, g4, g5, g6, g7⟩ | ⟨g1, g2⟩
    · left
      have A := addR_same (b := false) (i := txSize z.2) (j := txSize (rSum u G (pExp u z 12)).2) g2 hr
      rw [sz_exp, g4, g3] at A
      rw [g3, ← es]
      exact ⟨g1, A, by rw [szR]; exact g5, g6, by show zAt z < zAt (pExp u (rRuG u G (rSum u G (pExp u z 12))) 59); omega⟩
    · right
      exact ⟨g1, ff_keep (k := fun y => zAddR y false (txSize z.2) (txSize (rSum u G (pExp u z 12)).2)) g2 (kp_addR _ _ _)⟩
theorem fz_ru {u : TK} {z : PZ} (h : flt z) : ∀ m, pRu u m z = z
  | 0 => rfl
  | m + 1 => by
    unfold pRu
    rw [if_neg (fun q => by rcases q with q | q <;> (rw [fz_sees h] at q; cases q))]
theorem fz_en {u : TK} {z : PZ} (h : flt z) : pEn1 u z = z := by
  unfold pEn1
  rw [fz_sees h, if_neg (by decide), fz_fail h]
theorem rs_same {tp : Nat → Int32} {tn : Nat} {l0 : Int64} {tr : Nat} {tv nm : Nat → Int64} {u : TK} (hL : Lx tp tn l0 u) (hN : NmR tr tv nm) : ∀ M m q rz z x, RRz tp tn l0 tr tv rz z (xO0 x) → zOpen z = 0 → txSize z.2 ≤ zAt z → QR rz q → m + rz.2.2.2.2 = 21 → 602 ≤ M + xTk x → ((xRs tp tn nm tr M q x).1 = true ∧ (∃ rz', RRz tp tn l0 tr tv rz' (pEn1 u (pRu u m z)) (xO0 (xRs tp tn nm tr M q x).2.1) ∧ QR rz' (xRs tp tn nm tr M q x).2.2 ∧ txSize (pEn1 u (pRu u m z)).2 ≤ zAt (pEn1 u (pRu u m z)))) ∨ ((xRs tp tn nm tr M q x).1 = false ∧ FF (pEn1 u (pRu u m z)) (xRs tp tn nm tr M q x).2.1) := by
  intro M
  induction M with
  | zero =>
    intro m q rz z x h ho hs hq hm hM
    have := rr_at h
    have this2 : xTk x = zAt z + 1 := nx_tk (x := xO0 x) h
    omega
  | succ M ih =>
    intro m q rz z x h ho hs hq hm hM
    have a6 := rr_at h
    have hx : xTk x = zAt z + 1 := nx_tk (x := xO0 x) h
    have h20 := hq.2.1
    obtain ⟨m, rfl⟩ : ∃ k, m = k + 1 := ⟨m - 1, by omega⟩
    have s0 : pSees u z 0 = decide (xKd x = 0) := (sees_0 hL h).1
    have s1 : pSees u z 11 = xIsW x 1 := sees_W (c := 1) hL h (by decide)
    have s2 : pSees u z 12 = xIsW x 2 := sees_W (c := 2) hL h (by decide)
    unfold xRs pRu
    by_cases hw : xIsW x 1 = true ∨ xIsW x 2 = true
    · have hk : ¬ xKd x = 0 := fun e => by
        rcases hw with w | w
        · have := (of_decide_eq_true w).1
          rw [e] at this
          exact absurd this (by decide)
        · have := (of_decide_eq_true w).1
          rw [e] at this
          exact absurd this (by decide)
      rw [if_neg hk, if_neg (fun w => by rcases hw with y | y; rw [y] at w; exact absurd w.1 (by decide); rw [y] at w; exact absurd w.2 (by decide)), if_pos (show pSees u z 11 = true ∨ pSees u z 12 = true by rw [s1, s2]; exact hw)]
      by_cases e20 : q.1 2 = 20
      · rw [if_pos e20]
        right
        refine ⟨rfl, ?_⟩
        have er : txRules z.2 = 20 := by rw [← e20, ← hq.1, ← h.2.2.2.1]
        have f1 : FF (rRu1 u z) (xStop x 2) := by
          unfold rRu1
          rw [if_pos er]
          exact ff_stop hL h (by decide)
        have f2 : FF (rRuD u z) (xStop x 2) := by
          unfold rRuD
          rw [fz_sees f1.1, if_neg (by decide)]
          rw [rRuC, fz_exp f1.1, fz_sum f1.1]
          refine ff_keep (k := fun y => zAddR y false (txSize (rRu1 u z).2) (txSize (rRu1 u z).2)) ?_ (kp_addR _ _ _)
          exact ff_keep (k := fun y => pExp u y 59) (ff_keep (k := rRuI u) f1 (kp_ruI u)) (kp_exp u 59)
        show FF (pEn1 u (pRu u m (rRuD u z))) (xStop x 2)
        rw [fz_ru f2.1, fz_en f2.1]
        exact f2
      · rw [if_neg e20]
        have lt : rz.2.2.2.2 < 20 := by have := hq.1; omega
        rcases rule_same hL hN h ho hs lt hw with ⟨g1, g2, g3, g4, g5⟩ | ⟨g1, g2⟩
        · rw [if_pos g1]
          have hO : xO0 (xRule tp tn nm tr x).2 = (xRule tp tn nm tr x).2 := by
            have e : xOp (xRule tp tn nm tr x).2 = 0 := by rw [← g2.2.1.1, g4]
            show ((xRule tp tn nm tr x).2.1, (xRule tp tn nm tr x).2.2.1, 0, (xRule tp tn nm tr x).2.2.2.2) = _
            rw [← e]
          have hx2 := nx_tk g2
          have eq : xRz tp tn nm tr q x = qA q (xIsW x 1) (xOg x 2) (xOg (xRu1 tp tn nm tr (xIsW x 1) x).2 2) (xOg (xRu2 tp tn nm tr (xIsW x 1) (xRu1 tp tn nm tr (xIsW x 1) x).2).2 2) := rfl
          rw [eq]
          exact ih m _ _ _ _ (by rw [hO]; exact g2) g4 g3 (QR_add hq lt _ _ _ _) (by show m + (rz.2.2.2.2 + 1) = 21; omega) (by omega)
        · rw [if_neg (by rw [g1]; decide)]
          right
          refine ⟨rfl, ?_⟩
          show FF (pEn1 u (pRu u m (rRuD u z))) (xRule tp tn nm tr x).2
          rw [fz_ru g2.1, fz_en g2.1]
          exact g2
    · have n1 : xIsW x 1 = false := Bool.eq_false_iff.2 (fun w => hw (Or.inl w))
      have n2 : xIsW x 2 = false := Bool.eq_false_iff.2 (fun w => hw (Or.inr w))
      rw [if_neg (show ¬ (pSees u z 11 = true ∨ pSees u z 12 = true) by rw [s1, s2]; exact hw)]
      unfold pEn1
      by_cases hk : xKd x = 0
      · rw [if_pos hk, s0, decide_eq_true hk, if_pos rfl]
        exact Or.inl ⟨rfl, rz, h, hq, hs⟩
      · rw [if_neg hk, if_pos ⟨n1, n2⟩, s0, decide_eq_false hk, if_neg (by decide)]
        exact Or.inr ⟨rfl, ff_stop hL h (by decide)⟩
/-! the whole text -/
theorem xPass_o (tp : Nat → Int32) (tn : Nat) (x : XZ) : xPass tp tn (xO0 x) = xO0 (xPass tp tn x) := rfl
theorem xS_o (tp : Nat → Int32) (tn : Nat) (c : Int32) (x : XZ) : xS tp tn c (xO0 x) = ((xS tp tn c x).1, xO0 (xS tp tn c x).2) := by
  have e : xIsS (xO0 x) c = xIsS x c := rfl
  unfold xS
  rw [e]
  by_cases h : xIsS x c = true
  · rw [if_pos h, if_pos h, if_pos h, if_pos h]; rfl
  · rw [if_neg h, if_neg h, if_neg h, if_neg h]; rfl
theorem xTrs_o (tp : Nat → Int32) (tn : Nat) : ∀ M tr nm x, xTrs tp tn M tr nm (xO0 x) = ((xTrs tp tn M tr nm x).1, xO0 (xTrs tp tn M tr nm x).2.1, (xTrs tp tn M tr nm x).2.2)
  | 0, _, _, _ => rfl
  | M + 1, tr, nm, x => by
    have e0 : xIsW (xO0 x) 0 = xIsW x 0 := rfl
    unfold xTrs
    rw [e0]
    by_cases h0 : xIsW x 0 = true
    · rw [if_pos h0, if_pos h0]
      unfold xTr1
      by_cases h8 : tr = 8
      · rw [if_pos h8, if_pos h8]; rfl
      · have e1 : xPassB (xO0 x) = xPassB x := rfl
        rw [if_neg h8, if_neg h8, e1]
        by_cases hp : xPassB x = true
        · rw [if_pos hp, if_pos hp, xPass_o]
          generalize xPass tp tn x = y
          have e2 : xKd (xO0 y) = xKd y := rfl
          have e3 : xLe (xO0 y) = xLe y := rfl
          unfold xTr2
          rw [e2, e3]
          by_cases hk : xKd y = 1
          · rw [if_pos hk, if_pos hk]
            have key : ∀ w, xTr3 tp tn (xTrs tp tn M) tr (vp_updL nm tr (xLe y)) (xO0 w) = ((xTr3 tp tn (xTrs tp tn M) tr (vp_updL nm tr (xLe y)) w).1, xO0 (xTr3 tp tn (xTrs tp tn M) tr (vp_updL nm tr (xLe y)) w).2.1, (xTr3 tp tn (xTrs tp tn M) tr (vp_updL nm tr (xLe y)) w).2.2) := fun w => by
              have e4 : xPassB (xO0 w) = xPassB w := rfl
              unfold xTr3
              rw [e4]
              by_cases hw : xPassB w = true
              · rw [if_pos hw, if_pos hw, xPass_o, xS_o]
                dsimp only
                by_cases hs : (xS tp tn 59 (xPass tp tn w)).1 = true
                · rw [if_pos hs, if_pos hs, xTrs_o tp tn M]
                · rw [if_neg hs, if_neg hs]
              · rw [if_neg hw, if_neg hw]; rfl
            by_cases hm : mTrait nm (xLe y) tr 0 = none
            · rw [if_pos hm, if_pos hm]; exact key y
            · rw [if_neg hm, if_neg hm]; exact key (xFlt y 3)
          · rw [if_neg hk, if_neg hk]; rfl
        · rw [if_neg hp, if_neg hp]; rfl
    · rw [if_neg h0, if_neg h0]
theorem Lx_of {s : TP} {tp : Nat → Int32} {tn : Nat} (h : TpR s tp tn) (l0 : Int64) (t : TK) : Lx tp tn l0 (tkScan s 601 0 0 t) := by
  have sc := fun d hd hg => scan_at h 601 0 0 l0 t (Nat.zero_le _) d hd hg
  refine ⟨fun d hd hg => ?_, h.2.1⟩
  obtain ⟨c1, c2, c3, c4, c5⟩ := sc d hd hg
  rw [Nat.zero_add] at c1
  refine ⟨c1, c2, fun e he => ?_, c4⟩
  have step : ∀ e, e < d → (xTs tp tn 0 l0 e).2.1 < (xTs tp tn 0 l0 (e + 1)).2.1 := fun e he => by
    obtain ⟨_, _, _, _, d5⟩ := sc e (by omega) (fun i hi => hg i (by omega))
    obtain ⟨p1, p2⟩ := d5 (hg e he)
    obtain ⟨q1, _, q3, _⟩ := tok_one (i := 0) (t := t) (le := (xTs tp tn 0 l0 e).2.2.2.2) h p2
    rw [q1] at q3
    exact Nat.lt_of_lt_of_le p1 q3
  have all : ∀ k, e + k ≤ d → 0 < k → (xTs tp tn 0 l0 e).2.1 < (xTs tp tn 0 l0 (e + k)).2.1 := fun k => by
    induction k with
    | zero => intro _ h0; omega
    | succ k ih =>
      intro hk _
      have s1 := step (e + k) (by omega)
      by_cases z : k = 0
      · subst z; exact s1
      · exact Nat.lt_trans (ih (by omega) (by omega)) s1
  have := all (d - e) (by omega) (by omega)
  rw [show e + (d - e) = d by omega] at this
  exact this
def txRW (s : TX) : RW := (s.2.1, s.2.2.1, s.2.2.2.1, s.2.2.2.2.1, txRules s)
theorem parse_same {s : TP} {tp : Nat → Int32} {tn : Nat} (h : TpR s tp tn) (t : TK) (z : PZ) (x : XZ) (q : RZ) (nm : Nat → Int64) : ((xRd tp tn nm q x).1 = true ∧ zFault (pParse (tkScan s 601 0 0 t) z) = xFk (xRd tp tn nm q x).2.1 ∧ zFaultP (pParse (tkScan s 601 0 0 t) z) = xFp (xRd tp tn nm q x).2.1 ∧ CodeR (pParse (tkScan s 601 0 0 t) z).2 (xRd tp tn nm q x).2.1 ∧ QR (txRW (pParse (tkScan s 601 0 0 t) z).2) (xRd tp tn nm q x).2.2 ∧ txSize (pParse (tkScan s 601 0 0 t) z).2 ≤ 600) ∨ ((xRd tp tn nm q x).1 = false ∧ flt (pParse (tkScan s 601 0 0 t) z) ∧ zFault (pParse (tkScan s 601 0 0 t) z) = xFk (xRd tp tn nm q x).2.1 ∧ zFaultP (pParse (tkScan s 601 0 0 t) z) = xFp (xRd tp tn nm q x).2.1) := by
  have hL := Lx_of h (xLe x) t
  generalize tkScan s 601 0 0 t = u at hL
  have h0 : RRz tp tn (xLe x) 0 (txTrait z.2) (z.2.2.1, z.2.2.2.1, z.2.2.2.2.1, z.2.2.2.2.2.1, 0) (pZ0 z) (xO0 (xZ0 tp tn x)) := by
    refine ⟨⟨rfl, Nat.zero_le _, rfl, rfl, fun e he => absurd he (Nat.not_lt_zero _)⟩, ⟨rfl, rfl, rfl, fun w => absurd rfl w⟩, ⟨?_, fun _ i hi => absurd hi (Nat.not_lt_zero _)⟩, rfl, rfl, rfl⟩
    show 0 = va_up (xOg x) 2 0 2
    rw [up_at]
  have hN0 : NmR 0 (txTrait z.2) nm := ⟨Nat.zero_le _, fun k hk => absurd hk (Nat.not_lt_zero _)⟩
  have T := trs_same hL 602 9 0 (txTrait z.2) nm (pZ0 z) (xO0 (xZ0 tp tn x)) h0 hN0 rfl (by show 602 ≤ 602 + 1; omega) (Nat.le_refl _)
  rw [xTrs_o] at T
  unfold xRd xText pParse
  generalize pTr u 9 (pZ0 z) = y1 at T
  generalize xTrs tp tn 602 0 nm (xZ0 tp tn x) = r1 at T
  rcases T with ⟨t1, ⟨tv, t2, t3⟩, t4, t5, t6, t7⟩ | ⟨t1, t2⟩
  · have t1 : r1.1 = true := t1
    rw [if_pos t1]
    have t2 : RRz tp tn (xLe x) r1.2.2.1 tv (z.2.2.1, z.2.2.2.1, z.2.2.2.2.1, z.2.2.2.2.2.1, 0) y1 (xO0 r1.2.1) := t2
    have t3 : NmR r1.2.2.1 tv r1.2.2.2 := t3
    have t4 : txSize y1.2 = 0 := t4
    have t5 : zOpen y1 = 0 := t5
    have hq : QR (z.2.2.1, z.2.2.2.1, z.2.2.2.2.1, z.2.2.2.2.2.1, 0) (xQ0 q) := ⟨by show 0 = va_up q.1 2 0 2; rw [up_at], by show 0 ≤ 20; decide, fun r hr => absurd hr (Nat.not_lt_zero _)⟩
    have hxk : xTk r1.2.1 = zAt y1 + 1 := nx_tk (x := xO0 r1.2.1) t2
    have R := rs_same hL t3 602 21 (xQ0 q) _ y1 r1.2.1 t2 t5 (by omega) hq rfl (by omega)
    generalize pEn1 u (pRu u 21 y1) = y2 at R
    generalize xRs tp tn r1.2.2.2 r1.2.2.1 602 (xQ0 q) r1.2.1 = r2 at R
    rcases R with ⟨a1, rz, a2, a3, a4⟩ | ⟨a1, a2⟩
    · left
      have e0 : zFault y2 = 0 := a2.1.1
      have eP : pEn2 y2 = ((zAt y2, zOpen y2, zLate y2, zLate y2, zLateP y2, zLateP y2), y2.2) := by unfold pEn2; rw [if_pos e0]
      rw [eP]
      have er : txRW y2.2 = rz := a2.2.2.2.1
      have hsz : txSize y2.2 ≤ 600 := Nat.le_trans a4 a2.1.2.1
      exact ⟨a1, a2.2.1.2.1, a2.2.1.2.2.1, a2.2.2.1, by show QR (txRW y2.2) r2.2.2; rw [er]; exact a3, hsz⟩
    · right
      have eP : pEn2 y2 = y2 := by unfold pEn2; rw [if_neg a2.1]
      rw [eP]
      exact ⟨a1, a2.1, a2.2.1, a2.2.2⟩
  · have t1 : r1.1 = false := t1
    rw [if_neg (by rw [t1]; decide)]
    right
    have t2 : FF y1 r1.2.1 := t2
    have eP : pEn2 y1 = y1 := by unfold pEn2; rw [if_neg t2.1]
    rw [fz_ru t2.1, fz_en t2.1, eP]
    exact ⟨rfl, t2.1, t2.2.1, t2.2.2⟩
