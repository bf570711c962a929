/-! the parsers: how a state of the class and one of the reference stand to each other -/
def Lx (tp : Nat → Int32) (tn : Nat) (l0 : Int64) (u : TK) : Prop := (∀ d, d < 601 → (∀ e, e < d → gdT (xTs tp tn 0 l0 e)) → TokR tp (u.1 d) (u.2.1 d) (u.2.2 d) (xTs tp tn 0 l0 d) ∧ nrm (xTs tp tn 0 l0 d) ∈ VL ∧ (∀ e, e < d → (xTs tp tn 0 l0 e).2.1 < (xTs tp tn 0 l0 d).2.1) ∧ (xTs tp tn 0 l0 d).2.1 ≤ tn) ∧ tn ≤ 3000
def NmR (tr : Nat) (tv nm : Nat → Int64) : Prop := tr ≤ 8 ∧ ∀ k, k < tr → tv k = nm k
/-- the class's word for a step of the reference -/
def ren (o : Int32) : Int32 := if o = 6 then 3 else if o = 13 then 4 else if o = 3 then 5 else if o = 4 then 6 else if o = 5 then 7 else if o = 7 then 8 else if o = 8 then 9 else if o = 9 then 10 else if o = 10 then 11 else if o = 11 then 12 else if o = 12 then 13 else o
def cR (c o n : Int32) : Prop := c = txEnc (ren o) n ∧ o ∈ ([0, 1, 2, 3, 4, 5, 6, 7, 8, 9, 10, 11, 12, 13] : List Int32) ∧ ∃ a, a < 10000 ∧ n = nI a ∧ (o = 1 ∨ o = 2 → a < 8)
def CodeR (s : TX) (x : XZ) : Prop := txSize s = xOg x 2 ∧ (xFk x = 0 → ∀ i, i < txSize s → cR (s.1 i) (xOr x (2600 + i)) (xNu x (2600 + i)))
abbrev RW : Type := (Nat → Bool) × (Nat → Nat) × (Nat → Nat) × (Nat → Nat) × Nat
def stat (tr : Nat) (tv : Nat → Int64) (rz : RW) (s : TX) : Prop := (s.2.1, s.2.2.1, s.2.2.2.1, s.2.2.2.2.1, txRules s) = rz ∧ txTrait s = tv ∧ txTraits s = tr
def RLz (tp : Nat → Int32) (tn : Nat) (l0 : Int64) (tr : Nat) (tv : Nat → Int64) (rz : RW) (L : Nat) (z : PZ) (x : XZ) : Prop :=
  (zFault z = 0 ∧ zAt z ≤ 600 ∧ xTk x = zAt z + 1 ∧ x.1.1 = xTs tp tn 0 l0 (zAt z) ∧ ∀ e, e < zAt z → gdT (xTs tp tn 0 l0 e)) ∧
  (zOpen z = xOp x ∧ zLate z = xFk x ∧ zLateP z = xFp x ∧ (xFk x ≠ 0 → ∃ e, e < L ∧ xFp x = nI (xTs tp tn 0 l0 e).2.1)) ∧
  CodeR z.2 x ∧ stat tr tv rz z.2
def RRz (tp : Nat → Int32) (tn : Nat) (l0 : Int64) (tr : Nat) (tv : Nat → Int64) (rz : RW) (z : PZ) (x : XZ) : Prop := RLz tp tn l0 tr tv rz (zAt z) z x
def FF (z : PZ) (x : XZ) : Prop := flt z ∧ zFault z = xFk x ∧ zFaultP z = xFp x
def Res (tp : Nat → Int32) (tn : Nat) (l0 : Int64) (tr : Nat) (tv : Nat → Int64) (rz : RW) (P O A : Nat) (r : Bool × XZ) (y : PZ) : Prop := (r.1 = true ∧ RRz tp tn l0 tr tv rz y r.2 ∧ txSize y.2 + P ≤ zAt y ∧ zOpen y = O ∧ A ≤ zAt y) ∨ (r.1 = false ∧ FF y r.2)
def zNx (z : PZ) : PZ := ((zAt z + 1, z.1.2), z.2)
theorem RL_wk {tp : Nat → Int32} {tn : Nat} {l0 : Int64} {tr : Nat} {tv : Nat → Int64} {rz : RW} {L M : Nat} {z : PZ} {x : XZ} (h : RLz tp tn l0 tr tv rz L z x) (hl : L ≤ M) : RLz tp tn l0 tr tv rz M z x := ⟨h.1, ⟨h.2.1.1, h.2.1.2.1, h.2.1.2.2.1, fun e => by
  obtain ⟨i, h1, h2⟩ := h.2.1.2.2.2 e
  exact ⟨i, by omega, h2⟩⟩, h.2.2⟩
theorem rl_tok {tp : Nat → Int32} {tn : Nat} {l0 : Int64} {tr : Nat} {tv : Nat → Int64} {rz : RW} {u : TK} {L : Nat} {z : PZ} {x : XZ} (hL : Lx tp tn l0 u) (h : RLz tp tn l0 tr tv rz L z x) : TokR tp (u.1 (zAt z)) (u.2.1 (zAt z)) (u.2.2 (zAt z)) x.1.1 ∧ nrm x.1.1 ∈ VL ∧ (∀ e, e < zAt z → (xTs tp tn 0 l0 e).2.1 < xBg x) ∧ xBg x ≤ tn := by
  have := hL.1 (zAt z) (by have := h.1.2.1; omega) h.1.2.2.2.2
  rw [← h.1.2.2.2.1] at this
  exact this
theorem sees_k {tp : Nat → Int32} {tn : Nat} {l0 : Int64} {tr : Nat} {tv : Nat → Int64} {rz : RW} {u : TK} {L : Nat} {z : PZ} {x : XZ} (hL : Lx tp tn l0 u) (h : RLz tp tn l0 tr tv rz L z x) (c : Int32) : pSees u z c = decide (kdP (nrm x.1.1) = c) := by
  have e := (rl_tok hL h).1.1
  unfold pSees
  rw [e]
  by_cases hc : kdP (nrm x.1.1) = c
  · rw [decide_eq_true hc, decide_eq_true ⟨h.1.1, hc⟩]
  · rw [decide_eq_false hc, decide_eq_false (fun z => hc z.2)]
theorem isS_n (x : XZ) (c : Int32) : xIsS x c = decide (nrm x.1.1 = (3, c)) := by
  unfold xIsS
  by_cases h : x.1.1.1 = 3
  · rw [show nrm x.1.1 = (x.1.1.1, x.1.1.2.2.2.1) from if_pos (Or.inl h)]
    by_cases hc : x.1.1.2.2.2.1 = c
    · rw [decide_eq_true ⟨h, hc⟩, decide_eq_true (by rw [h, hc])]
    · rw [decide_eq_false (fun z => hc z.2), decide_eq_false (fun z => hc (Prod.mk.inj z).2)]
  · rw [decide_eq_false (fun z => h z.1), decide_eq_false (fun z => h (by rw [← nrm_1, z]))]
theorem isW_n (x : XZ) (c : Int32) : xIsW x c = decide (nrm x.1.1 = (4, c)) := by
  unfold xIsW
  by_cases h : x.1.1.1 = 4
  · rw [show nrm x.1.1 = (x.1.1.1, x.1.1.2.2.2.1) from if_pos (Or.inr h)]
    by_cases hc : x.1.1.2.2.2.1 = c
    · rw [decide_eq_true ⟨h, hc⟩, decide_eq_true (by rw [h, hc])]
    · rw [decide_eq_false (fun z => hc z.2), decide_eq_false (fun z => hc (Prod.mk.inj z).2)]
  · rw [decide_eq_false (fun z => h z.1), decide_eq_false (fun z => h (by rw [← nrm_1, z]))]
def SL : List Int32 := [59, 46, 40, 41, 91, 93, 43, 45, 42, 60]
theorem kd_S : ∀ c ∈ SL, ∀ p ∈ VL, decide (kdP p = c) = decide (p = (3, c)) := by decide +kernel
theorem kd_W : ∀ c ∈ ([0, 1, 2, 3, 4, 5, 6, 7, 8] : List Int32), ∀ p ∈ VL, decide (kdP p = 10 + c) = decide (p = (4, c)) := by decide +kernel
theorem kd_k : ∀ p ∈ VL, decide (kdP p = 0) = decide (p.1 = 0) ∧ decide (kdP p = 2) = decide (p.1 = 1) ∧ decide (kdP p = 3) = decide (p.1 = 2) := by decide +kernel
theorem sees_S {tp : Nat → Int32} {tn : Nat} {l0 : Int64} {tr : Nat} {tv : Nat → Int64} {rz : RW} {u : TK} {L : Nat} {z : PZ} {x : XZ} (hL : Lx tp tn l0 u) (h : RLz tp tn l0 tr tv rz L z x) {c : Int32} (hc : c ∈ SL) : pSees u z c = xIsS x c := by
  rw [sees_k hL h, isS_n, kd_S c hc _ (rl_tok hL h).2.1]
theorem sees_W {tp : Nat → Int32} {tn : Nat} {l0 : Int64} {tr : Nat} {tv : Nat → Int64} {rz : RW} {u : TK} {L : Nat} {z : PZ} {x : XZ} (hL : Lx tp tn l0 u) (h : RLz tp tn l0 tr tv rz L z x) {c : Int32} (hc : c ∈ ([0, 1, 2, 3, 4, 5, 6, 7, 8] : List Int32)) : pSees u z (10 + c) = xIsW x c := by
  rw [sees_k hL h, isW_n, kd_W c hc _ (rl_tok hL h).2.1]
theorem sees_0 {tp : Nat → Int32} {tn : Nat} {l0 : Int64} {tr : Nat} {tv : Nat → Int64} {rz : RW} {u : TK} {L : Nat} {z : PZ} {x : XZ} (hL : Lx tp tn l0 u) (h : RLz tp tn l0 tr tv rz L z x) : pSees u z 0 = decide (xKd x = 0) ∧ pSees u z 2 = decide (xKd x = 1) ∧ pSees u z 3 = decide (xKd x = 2) := by
  have := kd_k _ (rl_tok hL h).2.1
  rw [nrm_1] at this
  rw [sees_k hL h, sees_k hL h, sees_k hL h]
  exact this
/-- a token that is named may be passed -/
theorem gd_sees {tp : Nat → Int32} {tn : Nat} {l0 : Int64} {tr : Nat} {tv : Nat → Int64} {rz : RW} {u : TK} {L : Nat} {z : PZ} {x : XZ} {c : Int32} (hL : Lx tp tn l0 u) (h : RLz tp tn l0 tr tv rz L z x) (hs : pSees u z c = true) (h0 : c ≠ 0) (h1 : c ≠ 1) : gdT x.1.1 := by
  rw [sees_k hL h] at hs
  have hs := of_decide_eq_true hs
  have hb := kd_bad (rl_tok hL h).2.1
  rw [hs, nrm_1] at hb
  have hn : ¬ (x.1.1.1 = 0 ∨ x.1.1.1 = 5) := fun e => by
    rcases hb.2 e with y | y
    · exact h0 y
    · exact h1 y
  exact ⟨fun e => hn (Or.inl e), fun e => hn (Or.inr e)⟩
theorem ff_stop {tp : Nat → Int32} {tn : Nat} {l0 : Int64} {tr : Nat} {tv : Nat → Int64} {rz : RW} {u : TK} {L : Nat} {z : PZ} {x : XZ} (hL : Lx tp tn l0 u) (h : RLz tp tn l0 tr tv rz L z x) {n : Int32} (hn : n ≠ 0) : FF (pFail u z n) (xStop x n) := by
  have e := (rl_tok hL h).1.2.1
  unfold pFail
  rw [if_pos h.1.1]
  refine ⟨hn, rfl, ?_⟩
  show nI (u.2.1 (zAt z)) = nI (xBg x)
  rw [e]
theorem ff_keep {z : PZ} {x : XZ} {k : PZ → PZ} (h : FF z x) (hk : keeps k) : FF (k z) x := by
  obtain ⟨a1, a2⟩ := hk z h.1
  exact ⟨by show zFault (k z) ≠ 0; rw [a1]; exact h.1, a1.trans h.2.1, a2.trans h.2.2⟩
theorem pass_same {tp : Nat → Int32} {tn : Nat} {l0 : Int64} {tr : Nat} {tv : Nat → Int64} {rz : RW} {u : TK} {z : PZ} {x : XZ} {c : Int32} (hL : Lx tp tn l0 u) (h : RLz tp tn l0 tr tv rz (zAt z + 1) z x) (hs : pSees u z c = true) (h0 : c ≠ 0) (h1 : c ≠ 1) : (xPassB x = true ∧ pExp u z c = zNx z ∧ RRz tp tn l0 tr tv rz (zNx z) (xPass tp tn x)) ∨ (xPassB x = false ∧ FF (pExp u z c) (xPass tp tn x)) := by
  have hg := gd_sees hL h hs h0 h1
  obtain ⟨⟨a1, a2, a3, a4, a5⟩, ⟨b1, b2, b3, b4⟩, c1, c2⟩ := h
  unfold pExp
  rw [if_pos hs]
  by_cases hz : 600 ≤ zAt z
  · right
    rw [if_pos hz]
    have hx : ¬ xTk x ≤ 600 := by rw [a3]; omega
    refine ⟨decide_eq_false hx, ?_⟩
    have e : xPass tp tn x = xStop x 2 := by
      unfold xPass
      rw [if_neg hx, if_neg hx]; rfl
    rw [e]
    exact ff_stop hL ⟨⟨a1, a2, a3, a4, a5⟩, ⟨b1, b2, b3, b4⟩, c1, c2⟩ (by decide)
  · left
    rw [if_neg hz]
    have hx : xTk x ≤ 600 := by rw [a3]; omega
    refine ⟨decide_eq_true hx, rfl, ?_⟩
    have e : xPass tp tn x = ((xTok tp tn (xEn x) (xLe x), xTk x + 1), x.2) := by
      unfold xPass
      rw [if_pos hx, if_pos hx]
    rw [e]
    refine ⟨⟨a1, ?_, ?_, ?_, fun e he => ?_⟩, ⟨b1, b2, b3, b4⟩, c1, c2⟩
    · show zAt z + 1 ≤ 600; omega
    · show xTk x + 1 = zAt z + 1 + 1; rw [a3]
    · show xTok tp tn x.1.1.2.2.1 x.1.1.2.2.2.2 = xTs tp tn 0 l0 (zAt z + 1)
      rw [a4]; rfl
    · have he : e < zAt z + 1 := he
      by_cases ez : e = zAt z
      · rw [ez, ← a4]; exact hg
      · exact a5 e (by omega)
theorem P_res {tp : Nat → Int32} {tn : Nat} {l0 : Int64} {tr : Nat} {tv : Nat → Int64} {rz : RW} {u : TK} {z : PZ} {x : XZ} {c : Int32} {P : Nat} (hL : Lx tp tn l0 u) (h : RLz tp tn l0 tr tv rz (zAt z + 1) z x) (hs : pSees u z c = true) (h0 : c ≠ 0) (h1 : c ≠ 1) (hP : txSize z.2 + P ≤ zAt z + 1) : Res tp tn l0 tr tv rz P (zOpen z) (zAt z + 1) (xP tp tn x) (pExp u z c) := by
  rcases pass_same hL h hs h0 h1 with ⟨a, b, d⟩ | ⟨a, b⟩
  · left
    rw [b]
    exact ⟨a, d, hP, rfl, Nat.le_refl _⟩
  · right
    exact ⟨a, b⟩
theorem S_res {tp : Nat → Int32} {tn : Nat} {l0 : Int64} {tr : Nat} {tv : Nat → Int64} {rz : RW} {u : TK} {z : PZ} {x : XZ} {c : Int32} {P : Nat} (hL : Lx tp tn l0 u) (h : RLz tp tn l0 tr tv rz (zAt z) z x) (hc : c ∈ SL) (hP : txSize z.2 + P ≤ zAt z + 1) : Res tp tn l0 tr tv rz P (zOpen z) (zAt z + 1) (xS tp tn c x) (pExp u z c) := by
  have hs := sees_S hL h hc
  by_cases hi : xIsS x c = true
  · have e : xS tp tn c x = xP tp tn x := by
      unfold xS
      rw [if_pos hi, if_pos hi]; rfl
    rw [e]
    rw [hi] at hs
    have h01 : ∀ c ∈ SL, c ≠ 0 ∧ c ≠ 1 := by decide
    exact P_res hL (RL_wk h (Nat.le_succ _)) hs (h01 c hc).1 (h01 c hc).2 hP
  · have e : xS tp tn c x = (false, xStop x 1) := by
      unfold xS
      rw [if_neg hi, if_neg hi]; rfl
    rw [e]
    right
    refine ⟨rfl, ?_⟩
    unfold pExp
    rw [hs, if_neg hi]
    exact ff_stop hL h (by decide)
theorem Res_wk {tp : Nat → Int32} {tn : Nat} {l0 : Int64} {tr : Nat} {tv : Nat → Int64} {rz : RW} {P O A B : Nat} {r : Bool × XZ} {y : PZ} (h : Res tp tn l0 tr tv rz P O A r y) (hb : B ≤ A) : Res tp tn l0 tr tv rz P O B r y := by
  rcases h with ⟨a1, a2, a3, a4, a5⟩ | h
  · exact Or.inl ⟨a1, a2, a3, a4, by omega⟩
  · exact Or.inr h
theorem Res_b {tp : Nat → Int32} {tn : Nat} {l0 : Int64} {tr : Nat} {tv : Nat → Int64} {rz : RW} {P O A P' O' A' : Nat} {r : Bool × XZ} {y : PZ} {f : XZ → Bool × XZ} {k : PZ → PZ} (hr : Res tp tn l0 tr tv rz P O A r y) (hk : keeps k) (hf : ∀ w, RRz tp tn l0 tr tv rz y w → txSize y.2 + P ≤ zAt y → zOpen y = O → A ≤ zAt y → Res tp tn l0 tr tv rz P' O' A' (f w) (k y)) : Res tp tn l0 tr tv rz P' O' A' (xB r f) (k y) := by
  unfold xB
  rcases hr with ⟨a1, a2, a3, a4, a5⟩ | ⟨a1, a2⟩
  · rw [if_pos a1]; exact hf _ a2 a3 a4 a5
  · rw [if_neg (by rw [a1]; decide)]
    exact Or.inr ⟨rfl, ff_keep a2 hk⟩
theorem em_same {tp : Nat → Int32} {tn : Nat} {l0 : Int64} {tr : Nat} {tv : Nat → Int64} {rz : RW} {L : Nat} {z : PZ} {x : XZ} {st ar o n : Int32} (h : RLz tp tn l0 tr tv rz L z x) (hs : txSize z.2 < 600) (hc : xFk x = 0 → cR (txEnc st ar) o n) : RLz tp tn l0 tr tv rz L (zStep z st ar) (xEmit x o n) := by
  obtain ⟨a, b, ⟨c1, c2⟩, d⟩ := h
  have e : zStep z st ar = (z.1, (upd z.2.1 (txSize z.2) (txEnc st ar), z.2.2.1, z.2.2.2.1, z.2.2.2.2.1, z.2.2.2.2.2.1, z.2.2.2.2.2.2.1, txSize z.2 + 1, z.2.2.2.2.2.2.2.2)) := by
    unfold zStep txStep
    rw [if_neg (by omega)]
  rw [e]
  refine ⟨a, b, ⟨?_, fun hf i hi => ?_⟩, d⟩
  · show txSize z.2 + 1 = va_up (xOg x) 2 (xOg x 2 + 1) 2
    unfold va_up
    rw [if_pos rfl, c1]
  · have hi : i < txSize z.2 + 1 := hi
    show cR (upd z.2.1 (txSize z.2) (txEnc st ar) i) (upd (xOr x) (2600 + xOg x 2) o (2600 + i)) (upd (xNu x) (2600 + xOg x 2) n (2600 + i))
    rw [← c1]
    by_cases ez : i = txSize z.2
    · rw [ez, upd_at, upd_at, upd_at]; exact hc hf
    · rw [upd_ne ez, upd_ne (by omega), upd_ne (by omega)]
      exact c2 hf i (by omega)
theorem sz_step {z : PZ} {st ar : Int32} (hs : txSize z.2 < 600) : txSize (zStep z st ar).2 = txSize z.2 + 1 := by
  unfold zStep txStep
  rw [if_neg (by omega)]
theorem cR_op {o : Int32} (ho : o ∈ ([3, 4, 5, 6, 7, 8, 9, 10, 11, 12, 13] : List Int32)) : cR (txEnc (ren o) 0) o 0 := ⟨rfl, by revert o; decide, 0, by decide, rfl, fun _ => by decide⟩
theorem op_same {tp : Nat → Int32} {tn : Nat} {l0 : Int64} {tr : Nat} {tv : Nat → Int64} {rz : RW} {L : Nat} {z : PZ} {x : XZ} {o : Int32} (h : RLz tp tn l0 tr tv rz L z x) (hs : txSize z.2 < 600) (ho : o ∈ ([3, 4, 5, 6, 7, 8, 9, 10, 11, 12, 13] : List Int32)) : RLz tp tn l0 tr tv rz L (zStep z (ren o) 0) (xEmit x o 0) := em_same h hs (fun _ => cR_op ho)
/-! units -/
theorem named_same {s : TX} {nm : Nat → Int64} {v : Int64} : ∀ m k, (∀ j, k ≤ j → j < k + m → txTrait s j = nm j) → txFind s v m k = mTrait nm v m k
  | 0, _, _ => rfl
  | m + 1, k, h => by
    unfold txFind mTrait
    rw [h k (Nat.le_refl k) (by omega), named_same m (k + 1) (fun j h1 h2 => h j (by omega) (by omega))]
theorem kp_exp (u : TK) (k : Int32) : keeps (fun z => pExp u z k) := kp_id (fun _ h => fz_exp h)
theorem un3_same {tp : Nat → Int32} {tn : Nat} {l0 : Int64} {tr : Nat} {tv : Nat → Int64} {rz : RW} {u : TK} {nm : Nat → Int64} {z : PZ} {x : XZ} {o : Int32} {P : Nat} (hL : Lx tp tn l0 u) (hN : NmR tr tv nm) (h : RRz tp tn l0 tr tv rz z x) (ho : o = 1 ∨ o = 2) (hs : txSize z.2 < 600) (hP : txSize z.2 + 1 + P ≤ zAt z + 1) : Res tp tn l0 tr tv rz P (zOpen z) (zAt z + 1) (xUn3 tp tn nm tr o x) (pExp u (if pSees u z 2 = true then zStep (if txNamed z.2 (u.2.2 (zAt z)) = none then pFailL u z 4 else z) o (eo (txNamed z.2 (u.2.2 (zAt z)))) else z) 2) := by
  have s2 := (sees_0 hL h).2.1
  unfold xUn3
  by_cases hk : xKd x = 1
  · rw [s2, decide_eq_true hk, if_pos rfl, if_pos hk]
    obtain ⟨⟨tk1, tk2, tk3, tk4⟩, tv1, tv2, tv3⟩ := rl_tok hL h
    have ev : u.2.2 (zAt z) = xLe x := tk3 hk
    have en : txNamed z.2 (u.2.2 (zAt z)) = mTrait nm (xLe x) tr 0 := by
      unfold txNamed
      rw [h.2.2.2.2.2, ev]
      exact named_same tr 0 (fun j _ hj => by rw [h.2.2.2.2.1]; exact hN.2 j (by omega))
    rw [en]
    have key : ∀ (z' : PZ) (x' : XZ), RLz tp tn l0 tr tv rz (zAt z' + 1) z' x' → zAt z' = zAt z → zOpen z' = zOpen z → z'.2 = z.2 → (xFk x' = 0 → cR (txEnc o (eo (mTrait nm (xLe x) tr 0))) o (nI ((mTrait nm (xLe x) tr 0).getD 0))) → Res tp tn l0 tr tv rz P (zOpen z) (zAt z + 1) (xP tp tn (xEmit x' o (nI ((mTrait nm (xLe x) tr 0).getD 0)))) (pExp u (zStep z' o (eo (mTrait nm (xLe x) tr 0))) 2) := fun z' x' h' ea eo_ e2 hc => by
      have hs' : txSize z'.2 < 600 := by rw [e2]; exact hs
      have h1 := em_same (st := o) (ar := eo (mTrait nm (xLe x) tr 0)) h' hs' hc
      have s2' := (sees_0 hL h1).2.1
      have hk' : xKd (xEmit x' o (nI ((mTrait nm (xLe x) tr 0).getD 0))) = 1 := by
        show x'.1.1.1 = 1
        rw [h'.1.2.2.2.1, ea, ← h.1.2.2.2.1]; exact hk
      have := P_res (c := 2) (P := P) hL h1 (by rw [s2', decide_eq_true hk']) (by decide) (by decide) (by rw [sz_step hs', e2]; show _ ≤ zAt z' + 1; omega)
      have ee : zOpen (zStep z' o (eo (mTrait nm (xLe x) tr 0))) = zOpen z := eo_
      have e3 : zAt (zStep z' o (eo (mTrait nm (xLe x) tr 0))) = zAt z := ea
      rw [ee, e3] at this
      exact this
    cases em : mTrait nm (xLe x) tr 0 with
    | none =>
      rw [em] at key
      rw [if_pos rfl, if_pos rfl]
      refine key (pFailL u z 4) (xFlt x 4) ?_ (at_failL u z 4) ?_ ?_ ?_
      · obtain ⟨a, ⟨b1, b2, b3, b4⟩, c, d⟩ := h
        have eF : xFlt x 4 = (x.1, (if xFk x = 0 then ((4 : Int32), nI (xBg x)) else x.2.1), x.2.2) := by
          unfold xFlt xFt
          by_cases h0 : xFk x = 0
          · rw [if_pos h0, if_pos h0]
          · rw [if_neg h0, if_neg h0]
            obtain ⟨e, e1, e2⟩ := b4 h0
            have lt := tv2 e e1
            have tnb := hL.2
            rw [e2, if_neg (nI_nlt (by omega) (by omega)), if_neg (fun q => by have := (nI_eq (by omega) (by omega)).1 q; omega), ← e2]
        have eZ : pFailL u z 4 = ((zAt z, zOpen z, zFault z, (if zLate z = 0 then 4 else zLate z), (if zLate z = 0 then nI (u.2.1 (zAt z)) else zLateP z), zFaultP z), z.2) := by
          unfold pFailL
          by_cases h0 : zLate z = 0
          · rw [if_pos h0, if_pos h0, if_pos h0]
          · rw [if_neg h0, if_neg h0, if_neg h0]
        rw [eF, eZ]
        refine ⟨a, ⟨b1, ?_, ?_, fun _ => ?_⟩, ⟨c.1, fun hf => ?_⟩, d⟩
        · show (if zLate z = 0 then (4 : Int32) else zLate z) = (if xFk x = 0 then ((4 : Int32), nI (xBg x)) else x.2.1).1
          rw [b2]
          by_cases h0 : xFk x = 0
          · rw [if_pos h0, if_pos h0]
          · rw [if_neg h0, if_neg h0]
        · show (if zLate z = 0 then nI (u.2.1 (zAt z)) else zLateP z) = (if xFk x = 0 then ((4 : Int32), nI (xBg x)) else x.2.1).2
          rw [b2, tk2, b3]
          by_cases h0 : xFk x = 0
          · rw [if_pos h0, if_pos h0]
          · rw [if_neg h0, if_neg h0]
        · show ∃ e, e < zAt z + 1 ∧ (if xFk x = 0 then ((4 : Int32), nI (xBg x)) else x.2.1).2 = nI (xTs tp tn 0 l0 e).2.1
          by_cases h0 : xFk x = 0
          · rw [if_pos h0]
            exact ⟨zAt z, by omega, by rw [← a.2.2.2.1]⟩
          · rw [if_neg h0]
            obtain ⟨e, e1, e2⟩ := b4 h0
            exact ⟨e, by omega, e2⟩
        · exfalso
          have hf : (if xFk x = 0 then ((4 : Int32), nI (xBg x)) else x.2.1).1 = 0 := hf
          by_cases h0 : xFk x = 0
          · rw [if_pos h0] at hf; exact absurd (show (4 : Int32) = 0 from hf) (by decide)
          · rw [if_neg h0] at hf; exact h0 hf
      · unfold pFailL; split <;> rfl
      · unfold pFailL; split <;> rfl
      · intro hf
        exfalso
        have hx : xFk (xFlt x 4) ≠ 0 := by
          show (xFt (xFk x) (xFp x) 4 (nI (xBg x))).1 ≠ 0
          unfold xFt
          by_cases h0 : xFk x = 0
          · rw [if_pos h0]; show (4 : Int32) ≠ 0; decide
          · rw [if_neg h0]
            split
            · show (4 : Int32) ≠ 0; decide
            · split
              · split
                · show (4 : Int32) ≠ 0; decide
                · exact h0
              · exact h0
        exact hx hf
    | some k =>
      rw [em] at key
      rw [if_neg (fun q => by cases q), if_neg (fun q => by cases q)]
      refine key z x (RL_wk h (Nat.le_succ _)) rfl rfl rfl (fun _ => ?_)
      have := mTrait_lt tr 0 k em
      have := hN.1
      refine ⟨?_, ?_, k, by omega, rfl, fun _ => by omega⟩
      · show txEnc o (nI k) = txEnc (ren o) (nI k)
        rcases ho with e | e <;> (subst e; rfl)
      · rcases ho with e | e <;> (subst e; decide)
  · rw [s2, decide_eq_false hk, if_neg hk, if_neg (show ¬ (false = true) by decide)]
    right
    refine ⟨rfl, ?_⟩
    unfold pExp
    rw [s2, decide_eq_false hk, if_neg (by decide)]
    exact ff_stop hL h (by decide)
theorem kp_un3 (u : TK) (st : Int32) : keeps (fun z2 => pExp u (if pSees u z2 2 = true then zStep (if txNamed z2.2 (u.2.2 (zAt z2)) = none then pFailL u z2 4 else z2) st (eo (txNamed z2.2 (u.2.2 (zAt z2)))) else z2) 2) := fun z hz => by
  show zFault (pExp u (if pSees u z 2 = true then _ else z) 2) = _ ∧ zFaultP (pExp u (if pSees u z 2 = true then _ else z) 2) = _
  rw [fz_sees hz, if_neg (by decide), fz_exp hz]
  exact ⟨rfl, rfl⟩
theorem un_same {tp : Nat → Int32} {tn : Nat} {l0 : Int64} {tr : Nat} {tv : Nat → Int64} {rz : RW} {u : TK} {nm : Nat → Int64} {z : PZ} {x : XZ} {o c : Int32} {P : Nat} (hL : Lx tp tn l0 u) (hN : NmR tr tv nm) (h : RRz tp tn l0 tr tv rz z x) (ho : o = 1 ∨ o = 2) (hs : pSees u z c = true) (h0 : c ≠ 0) (h1 : c ≠ 1) (hP : txSize z.2 + P ≤ zAt z) (hP1 : 1 ≤ P) : Res tp tn l0 tr tv rz P (zOpen z) (zAt z + 1) (xUn tp tn nm tr o x) (rTrait u z o) := by
  unfold xUn rTrait
  dsimp only
  have ec : u.1 (zAt z) = c := (of_decide_eq_true hs).2
  rw [ec]
  refine Res_b (k := fun y => pExp u (if pSees u (pExp u y 46) 2 = true then zStep (if txNamed (pExp u y 46).2 (u.2.2 (zAt (pExp u y 46))) = none then pFailL u (pExp u y 46) 4 else (pExp u y 46)) o (eo (txNamed (pExp u y 46).2 (u.2.2 (zAt (pExp u y 46))))) else (pExp u y 46)) 2) (P_res (P := P + 1) hL (RL_wk h (Nat.le_succ _)) hs h0 h1 (by omega)) (kp_comp (kp_exp u 46) (kp_un3 u o)) (fun w hw hp ho_ ha_ => ?_)
  refine Res_b (k := fun y => pExp u (if pSees u y 2 = true then zStep (if txNamed y.2 (u.2.2 (zAt y)) = none then pFailL u y 4 else y) o (eo (txNamed y.2 (u.2.2 (zAt y)))) else y) 2) (S_res (P := P + 1) hL hw (by decide) (by omega)) (kp_un3 u o) (fun w2 hw2 hp2 ho2 ha2 => ?_)
  have := un3_same (P := P) hL hN hw2 ho (by have := hw2.1.2.1; omega) (by omega)
  rw [ho2, ho_] at this
  exact Res_wk this (by omega)
theorem unit_same {tp : Nat → Int32} {tn : Nat} {l0 : Int64} {tr : Nat} {tv : Nat → Int64} {rz : RW} {u : TK} {nm : Nat → Int64} {z : PZ} {x : XZ} {f : PZ → PZ} {P : Nat} (hL : Lx tp tn l0 u) (hN : NmR tr tv nm) (h : RRz tp tn l0 tr tv rz z x) (hS : xIsS x 40 = false) (hP : txSize z.2 + P ≤ zAt z) (hP1 : 1 ≤ P) : Res tp tn l0 tr tv rz P (zOpen z) (zAt z + 1) (xUnit tp tn nm tr x) (rUnitF u f z) := by
  have a2 := h.1.2.1
  have s3 := (sees_0 hL h).2.2
  have s7 : pSees u z 17 = xIsW x 7 := sees_W (c := 7) hL h (by decide)
  have s8 : pSees u z 18 = xIsW x 8 := sees_W (c := 8) hL h (by decide)
  have s40 : pSees u z 40 = xIsS x 40 := sees_S hL h (by decide)
  unfold xUnit rUnitF
  by_cases h2 : xKd x = 2
  · rw [if_pos h2, s3, decide_eq_true h2, if_pos rfl]
    obtain ⟨⟨tk1, tk2, tk3, tk4⟩, _⟩ := rl_tok hL h
    obtain ⟨n1, w, w1, w2⟩ := tk4 h2
    have h1 := em_same (st := 0) (ar := Int64.toInt32 (u.2.2 (zAt z))) (o := 0) (n := xNum tp (xEn x - xBg x) (xBg x) 0) h (by omega) (fun _ => ⟨by rw [n1]; rfl, by decide, w, w1, w2, fun q => by rcases q with q | q <;> exact absurd q (by decide)⟩)
    have hs : pSees u (zStep z 0 (Int64.toInt32 (u.2.2 (zAt z)))) 3 = true := by
      rw [(sees_0 hL h1).2.2]; exact decide_eq_true h2
    exact P_res (P := P) hL (RL_wk h1 (Nat.le_succ _)) hs (by decide) (by decide) (by rw [sz_step (by omega)]; show _ ≤ zAt z + 1; omega)
  · rw [if_neg h2, s3, decide_eq_false h2, if_neg (show ¬ (false = true) by decide), s7]
    by_cases h7 : xIsW x 7 = true
    · rw [if_pos h7, if_pos h7]
      exact un_same hL hN h (Or.inl rfl) (s7.trans h7) (by decide) (by decide) hP hP1
    · rw [if_neg h7, if_neg h7, s8]
      by_cases h8 : xIsW x 8 = true
      · rw [if_pos h8, if_pos h8]
        exact un_same hL hN h (Or.inr rfl) (s8.trans h8) (by decide) (by decide) hP hP1
      · rw [if_neg h8, if_neg h8]
        have eB : pOpB u z 40 = false := by unfold pOpB; rw [s40, hS, if_neg (by decide)]
        have eZ : pOpZ u z 40 = z := by unfold pOpZ; rw [s40, hS, if_neg (by decide)]
        rw [eB, if_neg (by decide), eZ]
        right
        exact ⟨rfl, ff_stop hL h (by decide)⟩
