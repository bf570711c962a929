
/-! the reference's parser: what it holds while it reads -/
abbrev XZ : Type := (LX × Nat) × (Int32 × Int32) × Nat × (Nat → Int32) × (Nat → Int32) × (Nat → Nat)
abbrev xKd (z : XZ) : Int32 := z.1.1.1
abbrev xBg (z : XZ) : Nat := z.1.1.2.1
abbrev xEn (z : XZ) : Nat := z.1.1.2.2.1
abbrev xMk (z : XZ) : Int32 := z.1.1.2.2.2.1
abbrev xLe (z : XZ) : Int64 := z.1.1.2.2.2.2
abbrev xTk (z : XZ) : Nat := z.1.2
abbrev xFk (z : XZ) : Int32 := z.2.1.1
abbrev xFp (z : XZ) : Int32 := z.2.1.2
abbrev xOp (z : XZ) : Nat := z.2.2.1
abbrev xOr (z : XZ) : Nat → Int32 := z.2.2.2.1
abbrev xNu (z : XZ) : Nat → Int32 := z.2.2.2.2.1
abbrev xOg (z : XZ) : Nat → Nat := z.2.2.2.2.2
def xStop (z : XZ) (n : Int32) : XZ := (z.1, (n, nI (xBg z)), z.2.2)
def xFlt (z : XZ) (n : Int32) : XZ := (z.1, xFt (xFk z) (xFp z) n (nI (xBg z)), z.2.2)
def xPassB (z : XZ) : Bool := decide (xTk z ≤ 600)
def xPass (tp : Nat → Int32) (tn : Nat) (z : XZ) : XZ := ((if xTk z ≤ 600 then (xTok tp tn (xEn z) (xLe z), xTk z + 1) else z.1), (if xTk z ≤ 600 then z.2.1 else (2, nI (xBg z))), z.2.2)
def xP (tp : Nat → Int32) (tn : Nat) (z : XZ) : Bool × XZ := (xPassB z, xPass tp tn z)
def xIsS (z : XZ) (c : Int32) : Bool := decide (xKd z = 3 ∧ xMk z = c)
def xIsW (z : XZ) (c : Int32) : Bool := decide (xKd z = 4 ∧ xMk z = c)
def xS (tp : Nat → Int32) (tn : Nat) (c : Int32) (z : XZ) : Bool × XZ := ((if xIsS z c = true then xPassB z else false), ((if xIsS z c = true then xPass tp tn z else xStop z 1).1, (if xIsS z c = true then xPass tp tn z else xStop z 1).2.1, z.2.2))
def xEmit (z : XZ) (o n : Int32) : XZ := (z.1, z.2.1, z.2.2.1, upd (xOr z) (2600 + xOg z 2) o, upd (xNu z) (2600 + xOg z 2) n, va_up (xOg z) 2 (xOg z 2 + 1))
def xUp (z : XZ) : XZ := (z.1, z.2.1, xOp z + 1, z.2.2.2)
def xDn (z : XZ) : XZ := (z.1, z.2.1, xOp z - 1, z.2.2.2)
def xB (r : Bool × XZ) (f : XZ → Bool × XZ) : Bool × XZ := if r.1 = true then f r.2 else (false, r.2)
def mTrait (nm : Nat → Int64) (v : Int64) : Nat → Nat → Option Nat
  | 0, _ => none
  | m + 1, k => if nm k = v then some k else mTrait nm v m (k + 1)
theorem mTrait_lt {nm : Nat → Int64} {v : Int64} : ∀ (m k r : Nat), mTrait nm v m k = some r → r < k + m
  | 0, k, r, h => by cases h
  | m + 1, k, r, h => by
    unfold mTrait at h
    split at h
    · cases h; omega
    · have := mTrait_lt m (k + 1) r h; omega
def xNum (tp : Nat → Int32) : Nat → Nat → Int32 → Int32
  | 0, _, v => v
  | m + 1, k, v => xNum tp m (k + 1) (10 * v + tp k - 48)
def xUn3 (tp : Nat → Int32) (tn : Nat) (nm : Nat → Int64) (tr : Nat) (o : Int32) (z : XZ) : Bool × XZ := if xKd z = 1 then xP tp tn (xEmit (if mTrait nm (xLe z) tr 0 = none then xFlt z 4 else z) o (nI ((mTrait nm (xLe z) tr 0).getD 0))) else (false, xStop z 1)
def xUn (tp : Nat → Int32) (tn : Nat) (nm : Nat → Int64) (tr : Nat) (o : Int32) (z : XZ) : Bool × XZ := xB (xP tp tn z) (fun z => xB (xS tp tn 46 z) (xUn3 tp tn nm tr o))
def xUnit (tp : Nat → Int32) (tn : Nat) (nm : Nat → Int64) (tr : Nat) (z : XZ) : Bool × XZ := if xKd z = 2 then xP tp tn (xEmit z 0 (xNum tp (xEn z - xBg z) (xBg z) 0)) else if xIsW z 7 = true then xUn tp tn nm tr 1 z else if xIsW z 8 = true then xUn tp tn nm tr 2 z else (false, xStop z 1)
/-! what holds all along -/
def LOk (tn : Nat) (x : LX) : Prop := x.2.2.1 ≤ tn + 1 ∧ x.2.1 ≤ tn + 1 ∧ (x.1 = 2 → x.2.2.1 ≤ tn ∧ x.2.1 ≤ x.2.2.1)
def XOk (tn : Nat) (z : XZ) : Prop := LOk tn z.1.1 ∧ xTk z ≤ 601
theorem xTok_ok {tp : Nat → Int32} {tn en : Nat} {le : Int64} (h : en ≤ tn + 1) : LOk tn (xTok tp tn en le) := by
  have hk := xBl_le tp (tn - en) en
  unfold xTok xTk2
  split
  · exact ⟨by dsimp only; omega, by dsimp only; omega, fun e => absurd e (show ¬ (0 : Int32) = 2 by decide)⟩
  · split
    · have he := xNm_le tp tn (tn - (xBl tp (tn - en) en + 1)) (xBl tp (tn - en) en + 1)
      unfold xTkL
      split
      · refine ⟨by dsimp only; omega, by dsimp only; omega, fun e => ?_⟩
        dsimp only at e
        split at e <;> exact absurd e (by decide)
      · exact ⟨by dsimp only; omega, by dsimp only; omega, fun e => absurd e (show ¬ (5 : Int32) = 2 by decide)⟩
    · split
      · have he := xNd_le tp tn (tn - (xBl tp (tn - en) en + 1)) (xBl tp (tn - en) en + 1)
        unfold xTkD
        exact ⟨by dsimp only; omega, by dsimp only; omega, fun _ => ⟨by dsimp only; omega, by dsimp only; omega⟩⟩
      · unfold xTkS xSgn
        have q : ∀ (c : Int32) (q : Bool), (if q = true ∧ c = 61 then ((3 : Int32), 2, (256 : Int32)) else if q = true ∧ c = 33 then (3, 2, 257) else if q = true ∧ c = 60 then (3, 2, 258) else if c = 59 ∨ c = 46 ∨ c = 40 ∨ c = 41 ∨ c = 91 ∨ c = 93 ∨ c = 43 ∨ c = 45 ∨ c = 42 ∨ c = 60 then (3, 1, c) else (5, 1, c)).2.1 ≤ 2 ∧ (if q = true ∧ c = 61 then ((3 : Int32), 2, (256 : Int32)) else if q = true ∧ c = 33 then (3, 2, 257) else if q = true ∧ c = 60 then (3, 2, 258) else if c = 59 ∨ c = 46 ∨ c = 40 ∨ c = 41 ∨ c = 91 ∨ c = 93 ∨ c = 43 ∨ c = 45 ∨ c = 42 ∨ c = 60 then (3, 1, c) else (5, 1, c)).1 ≠ 2 := by
          intro c q
          split
          · exact ⟨by decide, by decide⟩
          · split
            · exact ⟨by decide, by decide⟩
            · split
              · exact ⟨by decide, by decide⟩
              · split
                · exact ⟨show (1 : Nat) ≤ 2 by decide, fun e => absurd e (show ¬ (3 : Int32) = 2 by decide)⟩
                · exact ⟨show (1 : Nat) ≤ 2 by decide, fun e => absurd e (show ¬ (5 : Int32) = 2 by decide)⟩
        have q1 := q (mSeen tp tn (xBl tp (tn - en) en)) (decide (mSeen tp tn (xBl tp (tn - en) en + 1) = 61))
        exact ⟨by dsimp only; omega, by dsimp only; omega, fun e => absurd e q1.2⟩
theorem xPass_ok {tp : Nat → Int32} {tn : Nat} {z : XZ} (h : XOk tn z) : XOk tn (xPass tp tn z) := by
  unfold XOk xPass
  dsimp only
  split
  · rename_i hh
    exact ⟨xTok_ok h.1.1, Nat.succ_le_succ hh⟩
  · exact h
theorem xPass_tk {tp : Nat → Int32} {tn : Nat} {z : XZ} (h : xPassB z = true) : xTk (xPass tp tn z) = xTk z + 1 := by
  have h := of_decide_eq_true h
  unfold xPass; dsimp only [xTk]; rw [if_pos h]
theorem xPass_tk' {tp : Nat → Int32} {tn : Nat} {z : XZ} : xTk z ≤ xTk (xPass tp tn z) := by
  unfold xPass; dsimp only [xTk]; split
  · exact Nat.le_succ _
  · exact Nat.le_refl _
theorem xEmit_og {z : XZ} {o n : Int32} : xOg (xEmit z o n) 2 = xOg z 2 + 1 := by
  show va_up (xOg z) 2 (xOg z 2 + 1) 2 = _
  exact va_up_self _ _ _
theorem xS_ok {tp : Nat → Int32} {tn : Nat} {z : XZ} {c : Int32} (h : XOk tn z) : XOk tn (xS tp tn c z).2 := by
  unfold XOk xS
  dsimp only
  split
  · exact xPass_ok h
  · exact h
theorem xS_tk {tp : Nat → Int32} {tn : Nat} {z : XZ} {c : Int32} (h : (xS tp tn c z).1 = true) : xTk (xS tp tn c z).2 = xTk z + 1 := by
  unfold xS at h ⊢
  dsimp only at h ⊢
  split at h
  · rename_i hs
    dsimp only [xTk]
    rw [if_pos hs]
    exact xPass_tk h
  · cases h
/-- after a unit went well: a token more was read, at most one step written -/
theorem xUnit_ok {tp : Nat → Int32} {tn : Nat} {nm : Nat → Int64} {tr : Nat} {z : XZ} (h : XOk tn z) : XOk tn (xUnit tp tn nm tr z).2 ∧ ((xUnit tp tn nm tr z).1 = true → xTk z + 1 ≤ xTk (xUnit tp tn nm tr z).2 ∧ xOg (xUnit tp tn nm tr z).2 2 = xOg z 2 + 1 ∧ xOp (xUnit tp tn nm tr z).2 = xOp z) := by
  have un : ∀ o, XOk tn (xUn tp tn nm tr o z).2 ∧ ((xUn tp tn nm tr o z).1 = true → xTk z + 1 ≤ xTk (xUn tp tn nm tr o z).2 ∧ xOg (xUn tp tn nm tr o z).2 2 = xOg z 2 + 1 ∧ xOp (xUn tp tn nm tr o z).2 = xOp z) := by
    intro o
    unfold xUn xB
    dsimp only
    split
    · rename_i h1
      have k1 : XOk tn (xP tp tn z).2 := xPass_ok h
      have t1 : xTk (xP tp tn z).2 = xTk z + 1 := xPass_tk h1
      split
      · rename_i h2
        have k2 := xS_ok (tp := tp) (c := 46) k1
        have t2 := xS_tk h2
        unfold xUn3
        split
        · have k3 : XOk tn (if mTrait nm (xLe (xS tp tn 46 (xP tp tn z).2).2) tr 0 = none then xFlt (xS tp tn 46 (xP tp tn z).2).2 4 else (xS tp tn 46 (xP tp tn z).2).2) := by split <;> exact k2
          have e3 : xTk (if mTrait nm (xLe (xS tp tn 46 (xP tp tn z).2).2) tr 0 = none then xFlt (xS tp tn 46 (xP tp tn z).2).2 4 else (xS tp tn 46 (xP tp tn z).2).2) = xTk (xS tp tn 46 (xP tp tn z).2).2 ∧ xOg (if mTrait nm (xLe (xS tp tn 46 (xP tp tn z).2).2) tr 0 = none then xFlt (xS tp tn 46 (xP tp tn z).2).2 4 else (xS tp tn 46 (xP tp tn z).2).2) = xOg z ∧ xOp (if mTrait nm (xLe (xS tp tn 46 (xP tp tn z).2).2) tr 0 = none then xFlt (xS tp tn 46 (xP tp tn z).2).2 4 else (xS tp tn 46 (xP tp tn z).2).2) = xOp z := by split <;> exact ⟨rfl, rfl, rfl⟩
          refine ⟨xPass_ok k3, fun h3 => ⟨?_, ?_, ?_⟩⟩
          · have := xPass_tk (tp := tp) (tn := tn) h3
            show _ ≤ xTk (xPass tp tn _)
            rw [this]
            show _ ≤ xTk (if mTrait nm (xLe (xS tp tn 46 (xP tp tn z).2).2) tr 0 = none then xFlt (xS tp tn 46 (xP tp tn z).2).2 4 else (xS tp tn 46 (xP tp tn z).2).2) + 1
            rw [e3.1, t2, t1]; omega
          · exact Eq.trans (xEmit_og (z := if mTrait nm (xLe (xS tp tn 46 (xP tp tn z).2).2) tr 0 = none then xFlt (xS tp tn 46 (xP tp tn z).2).2 4 else (xS tp tn 46 (xP tp tn z).2).2) (o := o)) (congrArg (fun f => f 2 + 1) e3.2.1)
          · exact e3.2.2
        · exact ⟨k2, fun e => by cases e⟩
      · exact ⟨xS_ok (tp := tp) (c := 46) k1, fun e => by cases e⟩
    · exact ⟨xPass_ok h, fun e => by cases e⟩
  unfold xUnit
  split
  · refine ⟨xPass_ok (z := xEmit z 0 _) h, fun h3 => ⟨?_, xEmit_og, rfl⟩⟩
    have := xPass_tk (tp := tp) (tn := tn) h3
    show _ ≤ xTk (xPass tp tn _)
    rw [this]; exact Nat.le_refl _
  · split
    · exact un 1
    · split
      · exact un 2
      · exact ⟨h, fun e => by cases e⟩
/-! stacks in rows -/
def stk (wt : Nat → Int32) : Nat → List Int32 → Prop
  | n, [] => n = 0
  | n, c :: L => ∃ k, n = k + 1 ∧ wt k = c ∧ stk wt k L
theorem stk_len {wt : Nat → Int32} : ∀ {L : List Int32} {n : Nat}, stk wt n L → n = L.length
  | [], _, h => h
  | c :: L, n, ⟨k, e, _, h⟩ => by rw [e, stk_len h]; rfl
theorem stk_up {wt : Nat → Int32} {i : Nat} {v : Int32} : ∀ {L : List Int32} {n : Nat}, n ≤ i → stk wt n L → stk (upd wt i v) n L
  | [], _, _, h => h
  | c :: L, n, hn, ⟨k, e, hc, h⟩ => ⟨k, e, by rw [← hc]; unfold upd; rw [if_neg (by omega)], stk_up (by omega) h⟩
theorem stk_push {wt : Nat → Int32} {n : Nat} {L : List Int32} {v : Int32} (h : stk wt n L) : stk (upd wt n v) (n + 1) (v :: L) := ⟨n, rfl, by unfold upd; rw [if_pos rfl], stk_up (Nat.le_refl n) h⟩
def hdB : List Int32 → Int32 → Bool
  | [], _ => false
  | d :: _, c => decide (d = c)
abbrev LV : Type := Option Int32 × Bool
def lvE (l : LV) : List Int32 := (if l.2 = true then [42] else []) ++ l.1.toList
def lvOk (l : LV) : Prop := l.1 = none ∨ l.1 = some 43 ∨ l.1 = some 45 ∨ l.1 = some 110
def encR : List LV → List Int32
  | [] => []
  | l :: r => 40 :: (lvE l ++ encR r)
def lvsOk : List LV → Prop
  | [] => True
  | l :: r => lvOk l ∧ lvsOk r
theorem lvE_len (l : LV) : (lvE l).length ≤ 2 := by
  obtain ⟨s, p⟩ := l
  cases s <;> cases p <;> simp [lvE]
theorem encR_len : ∀ r : List LV, (encR r).length ≤ 3 * r.length
  | [] => Nat.le_refl _
  | l :: r => by
    have := lvE_len l; have := encR_len r
    simp only [encR, List.length_cons, List.length_append]; omega
def xOpc (c : Int32) : Int32 := if c = 43 then 3 else if c = 45 then 4 else if c = 42 then 5 else 6
def xSet (z : XZ) (c : Int32) : XZ := xEmit z (xOpc c) 0
def xSt1 (z : XZ) (l : LV) : XZ := if l.2 = true then xSet z 42 else z
def xSetL (z : XZ) (l : LV) : XZ := match l.1 with
  | none => xSt1 z l
  | some c => xSet (xSt1 z l) c
/-! the machine of expression(): k = 0 behind a unit, 1 ahead of one, 2 ahead of one where '-' may stand -/
def xM0 (tp : Nat → Int32) (tn : Nat) (rec : Nat → LV → List LV → XZ → Bool × XZ) (l : LV) (r : List LV) (z : XZ) : Bool × XZ :=
  match r with
  | [] => if xIsS z 42 = true then xB (xP tp tn (xSt1 z l)) (fun y => rec 1 (l.1, true) [] y) else if xIsS z 43 = true then xB (xP tp tn (xSetL z l)) (fun y => rec 1 (some 43, false) [] y) else if xIsS z 45 = true then xB (xP tp tn (xSetL z l)) (fun y => rec 1 (some 45, false) [] y) else (true, xSetL z l)
  | l' :: r' => if xIsS z 41 = true then xB (xP tp tn (xDn (xSetL z l))) (fun y => rec 0 l' r' y) else if xIsS z 42 = true then xB (xP tp tn (xSt1 z l)) (fun y => rec 1 (l.1, true) (l' :: r') y) else if xIsS z 43 = true then xB (xP tp tn (xSetL z l)) (fun y => rec 1 (some 43, false) (l' :: r') y) else if xIsS z 45 = true then xB (xP tp tn (xSetL z l)) (fun y => rec 1 (some 45, false) (l' :: r') y) else (false, xStop z 1)
def xM1 (tp : Nat → Int32) (tn : Nat) (nm : Nat → Int64) (tr : Nat) (rec : Nat → LV → List LV → XZ → Bool × XZ) (l : LV) (r : List LV) (z : XZ) : Bool × XZ := if xIsS z 40 = true then (if xOp z = 8 then (false, xStop z 2) else xB (xP tp tn (xUp z)) (fun y => rec 2 (none, false) (l :: r) y)) else xB (xUnit tp tn nm tr z) (fun y => rec 0 l r y)
def xM2 (tp : Nat → Int32) (tn : Nat) (nm : Nat → Int64) (tr : Nat) (rec : Nat → LV → List LV → XZ → Bool × XZ) (l : LV) (r : List LV) (z : XZ) : Bool × XZ := if xIsS z 45 = true then xB (xP tp tn z) (fun y => rec 1 (some 110, false) r y) else xM1 tp tn nm tr rec l r z
def xM (tp : Nat → Int32) (tn : Nat) (nm : Nat → Int64) (tr : Nat) : Nat → Nat → LV → List LV → XZ → Bool × XZ
  | 0, _, _, _, z => (false, z)
  | m + 1, 0, l, r, z => xM0 tp tn (xM tp tn nm tr m) l r z
  | m + 1, 1, l, r, z => xM1 tp tn nm tr (xM tp tn nm tr m) l r z
  | m + 1, _ + 2, l, r, z => xM2 tp tn nm tr (xM tp tn nm tr m) l r z
def xExp (tp : Nat → Int32) (tn : Nat) (nm : Nat → Int64) (tr : Nat) (z : XZ) : Bool × XZ := xM tp tn nm tr 602 2 (none, false) [] z

set_option maxHeartbeats 1000000 in
set_option maxRecDepth 100000 in
theorem wk_X11_pass {X : Cx} (hX : Ok X cX11_pass 1 RX11 3) (mo : Nat) (a : Nat → Nat) (tn tr fm fn mv cq cm : Nat) (ck te yn rc : Int32) (hp ir ke : Bool) (wn jn : Nat) (tp : Nat → Int32) (z : XZ) (ht : tn ≤ 3000) (hz : XOk tn z) (hR : Rt X (some FieldType.boolean) (fun r es' => r = some (.int (b2 (xPassB z))) ∧ es' = [ob 11 (.ref (a 0) :: .int (nI tn) :: .int (xFk (xPass tp tn z)) :: .int (xFp (xPass tp tn z)) :: .ref (a 4) :: .ref (a 5) :: .ref (a 6) :: .ref (a 7) :: .ref (a 8) :: .ref (a 9) :: .ref (a 10) :: .ref (a 11) :: .ref (a 12) :: .ref (a 13) :: .int (nI tr) :: .int (nI fm) :: .int ck :: .int te :: .int (nI fn) :: .ref (a 19) :: .ref (a 20) :: .ref (a 21) :: .ref (a 22) :: .ref (a 23) :: .ref (a 24) :: .ref (a 25) :: .ref (a 26) :: .ref (a 27) :: .int (b2 hp) :: .int yn :: .int (b2 ir) :: .ref (a 31) :: .int rc :: .ref (a 33) :: .int (nI mv) :: .int (xKd (xPass tp tn z)) :: .int (nI (xBg (xPass tp tn z))) :: .int (nI (xEn (xPass tp tn z))) :: .int (xMk (xPass tp tn z)) :: .long (xLe (xPass tp tn z)) :: .int (nI (xTk (xPass tp tn z))) :: .int (nI (xOp (xPass tp tn z))) :: .ref (a 42) :: .int (nI wn) :: .ref (a 44) :: .int (nI jn) :: .ref (a 46) :: .ref (a 47) :: .ref (a 48) :: .ref (a 49) :: .ref (a 50) :: .ref (a 51) :: .int (b2 ke) :: .ref (a 53) :: .ref (a 54) :: .ref (a 55) :: .int (nI cq) :: .int (nI cm) :: []), aB (CxD X) 3000 tp, aI (CxD X) 3900 (xOr (xPass tp tn z)), aI (CxD X) 3900 (xNu (xPass tp tn z)), aI (CxD X) 3 (nf (xOg (xPass tp tn z)))]) [mo, a 0, a 4, a 5, a 6]) : Aw X [mo, a 0, a 4, a 5, a 6] [ob 11 (.ref (a 0) :: .int (nI tn) :: .int (xFk z) :: .int (xFp z) :: .ref (a 4) :: .ref (a 5) :: .ref (a 6) :: .ref (a 7) :: .ref (a 8) :: .ref (a 9) :: .ref (a 10) :: .ref (a 11) :: .ref (a 12) :: .ref (a 13) :: .int (nI tr) :: .int (nI fm) :: .int ck :: .int te :: .int (nI fn) :: .ref (a 19) :: .ref (a 20) :: .ref (a 21) :: .ref (a 22) :: .ref (a 23) :: .ref (a 24) :: .ref (a 25) :: .ref (a 26) :: .ref (a 27) :: .int (b2 hp) :: .int yn :: .int (b2 ir) :: .ref (a 31) :: .int rc :: .ref (a 33) :: .int (nI mv) :: .int (xKd z) :: .int (nI (xBg z)) :: .int (nI (xEn z)) :: .int (xMk z) :: .long (xLe z) :: .int (nI (xTk z)) :: .int (nI (xOp z)) :: .ref (a 42) :: .int (nI wn) :: .ref (a 44) :: .int (nI jn) :: .ref (a 46) :: .ref (a 47) :: .ref (a 48) :: .ref (a 49) :: .ref (a 50) :: .ref (a 51) :: .int (b2 ke) :: .ref (a 53) :: .ref (a 54) :: .ref (a 55) :: .int (nI cq) :: .int (nI cm) :: []), aB (CxD X) 3000 tp, aI (CxD X) 3900 (xOr z), aI (CxD X) 3900 (xNu z), aI (CxD X) 3 (nf (xOg z))] 0 [(0, .ref mo)] [] := by
  have hz2 := hz.2
  refine r_aload_n (n := 1) hX dX11_pass_0 rfl rfl 0 rfl ?_
  refine r_get (n := 4) hX 0 rfl rfl rfl 40 (by decide) lay_X11 fl_X11_176 rfl dX11_pass_1 rfl ?_
  refine r_sipush (n := 7) hX 600 dX11_pass_4 rfl rfl ?_
  refine r_icmp_le_n (tgt := 20) (n := 10) hX (xTk z) 600 (by omega) (by omega) dX11_pass_7 (by decide) rfl (fun c7 => ?_) (fun c7 => ?_)
  · skip
    refine r_aload_n (n := 21) hX dX11_pass_20 rfl rfl 0 rfl ?_
    refine r_dup (n := 22) hX dX11_pass_21 rfl rfl ?_
    refine r_get (n := 25) hX 0 rfl rfl rfl 40 (by decide) lay_X11 fl_X11_176 rfl dX11_pass_22 rfl ?_
    refine r_iconst (n := 26) hX 1 dX11_pass_25 rfl rfl ?_
    refine r_iadd (n := 27) hX dX11_pass_26 rfl ?_
    refine Aw.topi (nI ((xTk z) + 1)) (nI_add _ _) ?_
    refine r_put (n := 30) hX 0 rfl rfl rfl 40 [ob 11 (.ref (a 0) :: .int (nI tn) :: .int (xFk z) :: .int (xFp z) :: .ref (a 4) :: .ref (a 5) :: .ref (a 6) :: .ref (a 7) :: .ref (a 8) :: .ref (a 9) :: .ref (a 10) :: .ref (a 11) :: .ref (a 12) :: .ref (a 13) :: .int (nI tr) :: .int (nI fm) :: .int ck :: .int te :: .int (nI fn) :: .ref (a 19) :: .ref (a 20) :: .ref (a 21) :: .ref (a 22) :: .ref (a 23) :: .ref (a 24) :: .ref (a 25) :: .ref (a 26) :: .ref (a 27) :: .int (b2 hp) :: .int yn :: .int (b2 ir) :: .ref (a 31) :: .int rc :: .ref (a 33) :: .int (nI mv) :: .int (xKd z) :: .int (nI (xBg z)) :: .int (nI (xEn z)) :: .int (xMk z) :: .long (xLe z) :: .int (nI ((xTk z) + 1)) :: .int (nI (xOp z)) :: .ref (a 42) :: .int (nI wn) :: .ref (a 44) :: .int (nI jn) :: .ref (a 46) :: .ref (a 47) :: .ref (a 48) :: .ref (a 49) :: .ref (a 50) :: .ref (a 51) :: .int (b2 ke) :: .ref (a 53) :: .ref (a 54) :: .ref (a 55) :: .int (nI cq) :: .int (nI cm) :: []), aB (CxD X) 3000 tp, aI (CxD X) 3900 (xOr z), aI (CxD X) 3900 (xNu z), aI (CxD X) 3 (nf (xOg z))] (by decide) lay_X11 tyX11 tyX11_ok nmX11 fl_X11_176 rfl rfl rfl (Nat.le_of_ble_eq_true rfl) rfl dX11_pass_27 rfl ?_
    refine r_aload_n (n := 31) hX dX11_pass_30 rfl rfl 0 rfl ?_
    refine r_callV (n := 34) (av := []) hX (ct_X11_token (CxL X) (CxD X) mo a tn tr fm fn mv (xBg z) (xEn z) ((xTk z) + 1) (xOp z) wn jn cq cm (xFk z) (xFp z) ck te yn rc (xKd z) (xMk z) (xLe z) hp ir ke tp ht (Nat.le_trans hz.1.1 (Nat.succ_le_succ ht))) ml_X11_183 cv_X11_token rfl (by decide) [0, 1] rfl rfl (by decide) 0 rfl rfl rfl rfl rfl (Nat.le_of_ble_eq_true rfl) dX11_pass_31 rfl (fun r_ es_ h_ l_ => ?_)
    obtain ⟨rfl, rfl⟩ := h_
    show Aw X [mo, a 0, a 4, a 5, a 6] [ob 11 (.ref (a 0) :: .int (nI tn) :: .int (xFk z) :: .int (xFp z) :: .ref (a 4) :: .ref (a 5) :: .ref (a 6) :: .ref (a 7) :: .ref (a 8) :: .ref (a 9) :: .ref (a 10) :: .ref (a 11) :: .ref (a 12) :: .ref (a 13) :: .int (nI tr) :: .int (nI fm) :: .int ck :: .int te :: .int (nI fn) :: .ref (a 19) :: .ref (a 20) :: .ref (a 21) :: .ref (a 22) :: .ref (a 23) :: .ref (a 24) :: .ref (a 25) :: .ref (a 26) :: .ref (a 27) :: .int (b2 hp) :: .int yn :: .int (b2 ir) :: .ref (a 31) :: .int rc :: .ref (a 33) :: .int (nI mv) :: .int ((xTok tp tn (xEn z) (xLe z)).1) :: .int (nI ((xTok tp tn (xEn z) (xLe z)).2.1)) :: .int (nI ((xTok tp tn (xEn z) (xLe z)).2.2.1)) :: .int ((xTok tp tn (xEn z) (xLe z)).2.2.2.1) :: .long ((xTok tp tn (xEn z) (xLe z)).2.2.2.2) :: .int (nI ((xTk z) + 1)) :: .int (nI (xOp z)) :: .ref (a 42) :: .int (nI wn) :: .ref (a 44) :: .int (nI jn) :: .ref (a 46) :: .ref (a 47) :: .ref (a 48) :: .ref (a 49) :: .ref (a 50) :: .ref (a 51) :: .int (b2 ke) :: .ref (a 53) :: .ref (a 54) :: .ref (a 55) :: .int (nI cq) :: .int (nI cm) :: []), aB (CxD X) 3000 tp, aI (CxD X) 3900 (xOr z), aI (CxD X) 3900 (xNu z), aI (CxD X) 3 (nf (xOg z))] 34 [(0, .ref mo)] []
    refine r_iconst (n := 35) hX 1 dX11_pass_34 rfl rfl ?_
    exact r_zreturn hX hR rfl dX11_pass_35 (by have c7 : xTk z ≤ 600 := c7; have e : xPass tp tn z = ((xTok tp tn (xEn z) (xLe z), xTk z + 1), z.2.1, z.2.2) := (by unfold xPass; rw [if_pos c7, if_pos c7]); rw [xPassB, decide_eq_true c7, e]; exact ⟨rfl, rfl⟩)
  · skip
    refine r_aload_n (n := 11) hX dX11_pass_10 rfl rfl 0 rfl ?_
    refine r_iconst (n := 12) hX 2 dX11_pass_11 rfl rfl ?_
    refine r_aload_n (n := 13) hX dX11_pass_12 rfl rfl 0 rfl ?_
    refine r_get (n := 16) hX 0 rfl rfl rfl 36 (by decide) lay_X11 fl_X11_149 rfl dX11_pass_13 rfl ?_
    refine r_callV (n := 19) (av := [.int 2, .int (nI (xBg z))]) hX (ct_X11_stop (CxL X) (CxD X) mo a tn tr fm fn mv (xBg z) (xEn z) (xTk z) (xOp z) wn jn cq cm (xFk z) (xFp z) ck te yn rc (xKd z) (xMk z) (xLe z) hp ir ke 2 (nI (xBg z))) ml_X11_179 cv_X11_stop rfl (by decide) [0] rfl rfl (by decide) 0 rfl rfl rfl rfl rfl (Nat.le_of_ble_eq_true rfl) dX11_pass_16 rfl (fun r_ es_ h_ l_ => ?_)
    obtain ⟨rfl, rfl⟩ := h_
    show Aw X [mo, a 0, a 4, a 5, a 6] [ob 11 (.ref (a 0) :: .int (nI tn) :: .int 2 :: .int (nI (xBg z)) :: .ref (a 4) :: .ref (a 5) :: .ref (a 6) :: .ref (a 7) :: .ref (a 8) :: .ref (a 9) :: .ref (a 10) :: .ref (a 11) :: .ref (a 12) :: .ref (a 13) :: .int (nI tr) :: .int (nI fm) :: .int ck :: .int te :: .int (nI fn) :: .ref (a 19) :: .ref (a 20) :: .ref (a 21) :: .ref (a 22) :: .ref (a 23) :: .ref (a 24) :: .ref (a 25) :: .ref (a 26) :: .ref (a 27) :: .int (b2 hp) :: .int yn :: .int (b2 ir) :: .ref (a 31) :: .int rc :: .ref (a 33) :: .int (nI mv) :: .int (xKd z) :: .int (nI (xBg z)) :: .int (nI (xEn z)) :: .int (xMk z) :: .long (xLe z) :: .int (nI (xTk z)) :: .int (nI (xOp z)) :: .ref (a 42) :: .int (nI wn) :: .ref (a 44) :: .int (nI jn) :: .ref (a 46) :: .ref (a 47) :: .ref (a 48) :: .ref (a 49) :: .ref (a 50) :: .ref (a 51) :: .int (b2 ke) :: .ref (a 53) :: .ref (a 54) :: .ref (a 55) :: .int (nI cq) :: .int (nI cm) :: []), aB (CxD X) 3000 tp, aI (CxD X) 3900 (xOr z), aI (CxD X) 3900 (xNu z), aI (CxD X) 3 (nf (xOg z))] 19 [(0, .ref mo)] [.int (b2 false)]
    exact r_zreturn hX hR rfl dX11_pass_19 (by have c7 : ¬ xTk z ≤ 600 := Nat.not_le.mpr c7; have e : xPass tp tn z = (z.1, (2, nI (xBg z)), z.2.2) := (by unfold xPass; rw [if_neg c7, if_neg c7]); rw [xPassB, decide_eq_false c7, e]; exact ⟨rfl, rfl⟩)
theorem ct_X11_pass (l : Launch) (D : va_G) (mo : Nat) (a : Nat → Nat) (tn tr fm fn mv cq cm : Nat) (ck te yn rc : Int32) (hp ir ke : Bool) (wn jn : Nat) (tp : Nat → Int32) (z : XZ) (ht : tn ≤ 3000) (hz : XOk tn z) : Ct l D m_X11_pass 3 [.ref mo] [mo, a 0, a 4, a 5, a 6] [ob 11 (.ref (a 0) :: .int (nI tn) :: .int (xFk z) :: .int (xFp z) :: .ref (a 4) :: .ref (a 5) :: .ref (a 6) :: .ref (a 7) :: .ref (a 8) :: .ref (a 9) :: .ref (a 10) :: .ref (a 11) :: .ref (a 12) :: .ref (a 13) :: .int (nI tr) :: .int (nI fm) :: .int ck :: .int te :: .int (nI fn) :: .ref (a 19) :: .ref (a 20) :: .ref (a 21) :: .ref (a 22) :: .ref (a 23) :: .ref (a 24) :: .ref (a 25) :: .ref (a 26) :: .ref (a 27) :: .int (b2 hp) :: .int yn :: .int (b2 ir) :: .ref (a 31) :: .int rc :: .ref (a 33) :: .int (nI mv) :: .int (xKd z) :: .int (nI (xBg z)) :: .int (nI (xEn z)) :: .int (xMk z) :: .long (xLe z) :: .int (nI (xTk z)) :: .int (nI (xOp z)) :: .ref (a 42) :: .int (nI wn) :: .ref (a 44) :: .int (nI jn) :: .ref (a 46) :: .ref (a 47) :: .ref (a 48) :: .ref (a 49) :: .ref (a 50) :: .ref (a 51) :: .int (b2 ke) :: .ref (a 53) :: .ref (a 54) :: .ref (a 55) :: .int (nI cq) :: .int (nI cm) :: []), aB D 3000 tp, aI D 3900 (xOr z), aI D 3900 (xNu z), aI D 3 (nf (xOg z))] (fun r es' => r = some (.int (b2 (xPassB z))) ∧ es' = [ob 11 (.ref (a 0) :: .int (nI tn) :: .int (xFk (xPass tp tn z)) :: .int (xFp (xPass tp tn z)) :: .ref (a 4) :: .ref (a 5) :: .ref (a 6) :: .ref (a 7) :: .ref (a 8) :: .ref (a 9) :: .ref (a 10) :: .ref (a 11) :: .ref (a 12) :: .ref (a 13) :: .int (nI tr) :: .int (nI fm) :: .int ck :: .int te :: .int (nI fn) :: .ref (a 19) :: .ref (a 20) :: .ref (a 21) :: .ref (a 22) :: .ref (a 23) :: .ref (a 24) :: .ref (a 25) :: .ref (a 26) :: .ref (a 27) :: .int (b2 hp) :: .int yn :: .int (b2 ir) :: .ref (a 31) :: .int rc :: .ref (a 33) :: .int (nI mv) :: .int (xKd (xPass tp tn z)) :: .int (nI (xBg (xPass tp tn z))) :: .int (nI (xEn (xPass tp tn z))) :: .int (xMk (xPass tp tn z)) :: .long (xLe (xPass tp tn z)) :: .int (nI (xTk (xPass tp tn z))) :: .int (nI (xOp (xPass tp tn z))) :: .ref (a 42) :: .int (nI wn) :: .ref (a 44) :: .int (nI jn) :: .ref (a 46) :: .ref (a 47) :: .ref (a 48) :: .ref (a 49) :: .ref (a 50) :: .ref (a 51) :: .int (b2 ke) :: .ref (a 53) :: .ref (a 54) :: .ref (a 55) :: .int (nI cq) :: .int (nI cm) :: []), aB D 3000 tp, aI D 3900 (xOr (xPass tp tn z)), aI D 3900 (xNu (xPass tp tn z)), aI D 3 (nf (xOg (xPass tp tn z)))]) :=
  Ct.ofA (own := RX11) (by decide) rfl (Nat.le_of_ble_eq_true rfl) rfl (fun X hl hD hX hR => by subst hl; subst hD; exact wk_X11_pass hX mo a tn tr fm fn mv cq cm ck te yn rc hp ir ke wn jn tp z ht hz hR)
set_option maxHeartbeats 1000000 in
set_option maxRecDepth 100000 in
theorem wk_X11_isSign {X : Cx} (hX : Ok X cX11_isSign 2 RX11 0) (mo : Nat) (a : Nat → Nat) (tn tr fm fn mv bg en tk op wn jn cq cm : Nat) (fk fp ck te yn rc kd mk : Int32) (le : Int64) (hp ir ke : Bool) (c : Int32)  (hR : Rt X (some FieldType.boolean) (fun r es' => r = some (.int (b2 (decide (kd = 3 ∧ mk = c)))) ∧ es' = [ob 11 (.ref (a 0) :: .int (nI tn) :: .int fk :: .int fp :: .ref (a 4) :: .ref (a 5) :: .ref (a 6) :: .ref (a 7) :: .ref (a 8) :: .ref (a 9) :: .ref (a 10) :: .ref (a 11) :: .ref (a 12) :: .ref (a 13) :: .int (nI tr) :: .int (nI fm) :: .int ck :: .int te :: .int (nI fn) :: .ref (a 19) :: .ref (a 20) :: .ref (a 21) :: .ref (a 22) :: .ref (a 23) :: .ref (a 24) :: .ref (a 25) :: .ref (a 26) :: .ref (a 27) :: .int (b2 hp) :: .int yn :: .int (b2 ir) :: .ref (a 31) :: .int rc :: .ref (a 33) :: .int (nI mv) :: .int kd :: .int (nI bg) :: .int (nI en) :: .int mk :: .long le :: .int (nI tk) :: .int (nI op) :: .ref (a 42) :: .int (nI wn) :: .ref (a 44) :: .int (nI jn) :: .ref (a 46) :: .ref (a 47) :: .ref (a 48) :: .ref (a 49) :: .ref (a 50) :: .ref (a 51) :: .int (b2 ke) :: .ref (a 53) :: .ref (a 54) :: .ref (a 55) :: .int (nI cq) :: .int (nI cm) :: [])]) [mo]) : Aw X [mo] [ob 11 (.ref (a 0) :: .int (nI tn) :: .int fk :: .int fp :: .ref (a 4) :: .ref (a 5) :: .ref (a 6) :: .ref (a 7) :: .ref (a 8) :: .ref (a 9) :: .ref (a 10) :: .ref (a 11) :: .ref (a 12) :: .ref (a 13) :: .int (nI tr) :: .int (nI fm) :: .int ck :: .int te :: .int (nI fn) :: .ref (a 19) :: .ref (a 20) :: .ref (a 21) :: .ref (a 22) :: .ref (a 23) :: .ref (a 24) :: .ref (a 25) :: .ref (a 26) :: .ref (a 27) :: .int (b2 hp) :: .int yn :: .int (b2 ir) :: .ref (a 31) :: .int rc :: .ref (a 33) :: .int (nI mv) :: .int kd :: .int (nI bg) :: .int (nI en) :: .int mk :: .long le :: .int (nI tk) :: .int (nI op) :: .ref (a 42) :: .int (nI wn) :: .ref (a 44) :: .int (nI jn) :: .ref (a 46) :: .ref (a 47) :: .ref (a 48) :: .ref (a 49) :: .ref (a 50) :: .ref (a 51) :: .int (b2 ke) :: .ref (a 53) :: .ref (a 54) :: .ref (a 55) :: .int (nI cq) :: .int (nI cm) :: [])] 0 [(0, .ref mo), (1, .int c)] [] := by
  refine r_aload_n (n := 1) hX dX11_isSign_0 rfl rfl 0 rfl ?_
  refine r_get (n := 4) hX 0 rfl rfl rfl 35 (by decide) lay_X11 fl_X11_155 rfl dX11_isSign_1 rfl ?_
  refine r_iconst (n := 5) hX 3 dX11_isSign_4 rfl rfl ?_
  refine r_icmp_ne (tgt := 20) (n := 8) hX dX11_isSign_5 (by decide) rfl (fun c5 => ?_) (fun c5 => ?_)
  · skip
    refine r_iconst (n := 21) hX 0 dX11_isSign_20 rfl rfl ?_
    exact r_zreturn hX hR rfl dX11_isSign_21 ⟨by first | (rw [decide_eq_true ⟨c5, c13⟩]; rfl) | (rw [decide_eq_false (fun e => c13 e.2)]; rfl) | (rw [decide_eq_false (fun e => c5 e.1)]; rfl), rfl⟩
  · skip
    refine r_aload_n (n := 9) hX dX11_isSign_8 rfl rfl 0 rfl ?_
    refine r_get (n := 12) hX 0 rfl rfl rfl 38 (by decide) lay_X11 fl_X11_152 rfl dX11_isSign_9 rfl ?_
    refine r_iload_n (n := 13) hX dX11_isSign_12 rfl rfl 1 rfl ?_
    refine r_icmp_ne (tgt := 20) (n := 16) hX dX11_isSign_13 (by decide) rfl (fun c13 => ?_) (fun c13 => ?_)
    · skip
      refine r_iconst (n := 21) hX 0 dX11_isSign_20 rfl rfl ?_
      exact r_zreturn hX hR rfl dX11_isSign_21 ⟨by first | (rw [decide_eq_true ⟨c5, c13⟩]; rfl) | (rw [decide_eq_false (fun e => c13 e.2)]; rfl) | (rw [decide_eq_false (fun e => c5 e.1)]; rfl), rfl⟩
    · skip
      refine r_iconst (n := 17) hX 1 dX11_isSign_16 rfl rfl ?_
      refine r_goto (tgt := 21) hX dX11_isSign_17 (by decide) ?_
      exact r_zreturn hX hR rfl dX11_isSign_21 ⟨by first | (rw [decide_eq_true ⟨c5, c13⟩]; rfl) | (rw [decide_eq_false (fun e => c13 e.2)]; rfl) | (rw [decide_eq_false (fun e => c5 e.1)]; rfl), rfl⟩
theorem ct_X11_isSign (l : Launch) (D : va_G) (mo : Nat) (a : Nat → Nat) (tn tr fm fn mv bg en tk op wn jn cq cm : Nat) (fk fp ck te yn rc kd mk : Int32) (le : Int64) (hp ir ke : Bool) (c : Int32)  : Ct l D m_X11_isSign 0 [.ref mo, .int c] [mo] [ob 11 (.ref (a 0) :: .int (nI tn) :: .int fk :: .int fp :: .ref (a 4) :: .ref (a 5) :: .ref (a 6) :: .ref (a 7) :: .ref (a 8) :: .ref (a 9) :: .ref (a 10) :: .ref (a 11) :: .ref (a 12) :: .ref (a 13) :: .int (nI tr) :: .int (nI fm) :: .int ck :: .int te :: .int (nI fn) :: .ref (a 19) :: .ref (a 20) :: .ref (a 21) :: .ref (a 22) :: .ref (a 23) :: .ref (a 24) :: .ref (a 25) :: .ref (a 26) :: .ref (a 27) :: .int (b2 hp) :: .int yn :: .int (b2 ir) :: .ref (a 31) :: .int rc :: .ref (a 33) :: .int (nI mv) :: .int kd :: .int (nI bg) :: .int (nI en) :: .int mk :: .long le :: .int (nI tk) :: .int (nI op) :: .ref (a 42) :: .int (nI wn) :: .ref (a 44) :: .int (nI jn) :: .ref (a 46) :: .ref (a 47) :: .ref (a 48) :: .ref (a 49) :: .ref (a 50) :: .ref (a 51) :: .int (b2 ke) :: .ref (a 53) :: .ref (a 54) :: .ref (a 55) :: .int (nI cq) :: .int (nI cm) :: [])] (fun r es' => r = some (.int (b2 (decide (kd = 3 ∧ mk = c)))) ∧ es' = [ob 11 (.ref (a 0) :: .int (nI tn) :: .int fk :: .int fp :: .ref (a 4) :: .ref (a 5) :: .ref (a 6) :: .ref (a 7) :: .ref (a 8) :: .ref (a 9) :: .ref (a 10) :: .ref (a 11) :: .ref (a 12) :: .ref (a 13) :: .int (nI tr) :: .int (nI fm) :: .int ck :: .int te :: .int (nI fn) :: .ref (a 19) :: .ref (a 20) :: .ref (a 21) :: .ref (a 22) :: .ref (a 23) :: .ref (a 24) :: .ref (a 25) :: .ref (a 26) :: .ref (a 27) :: .int (b2 hp) :: .int yn :: .int (b2 ir) :: .ref (a 31) :: .int rc :: .ref (a 33) :: .int (nI mv) :: .int kd :: .int (nI bg) :: .int (nI en) :: .int mk :: .long le :: .int (nI tk) :: .int (nI op) :: .ref (a 42) :: .int (nI wn) :: .ref (a 44) :: .int (nI jn) :: .ref (a 46) :: .ref (a 47) :: .ref (a 48) :: .ref (a 49) :: .ref (a 50) :: .ref (a 51) :: .int (b2 ke) :: .ref (a 53) :: .ref (a 54) :: .ref (a 55) :: .int (nI cq) :: .int (nI cm) :: [])]) :=
  Ct.ofA (own := RX11) (by decide) rfl (Nat.le_of_ble_eq_true rfl) rfl (fun X hl hD hX hR => by subst hl; subst hD; exact wk_X11_isSign hX mo a tn tr fm fn mv bg en tk op wn jn cq cm fk fp ck te yn rc kd mk le hp ir ke c hR)
set_option maxHeartbeats 1000000 in
set_option maxRecDepth 100000 in
theorem wk_X11_isWord {X : Cx} (hX : Ok X cX11_isWord 2 RX11 0) (mo : Nat) (a : Nat → Nat) (tn tr fm fn mv bg en tk op wn jn cq cm : Nat) (fk fp ck te yn rc kd mk : Int32) (le : Int64) (hp ir ke : Bool) (c : Int32)  (hR : Rt X (some FieldType.boolean) (fun r es' => r = some (.int (b2 (decide (kd = 4 ∧ mk = c)))) ∧ es' = [ob 11 (.ref (a 0) :: .int (nI tn) :: .int fk :: .int fp :: .ref (a 4) :: .ref (a 5) :: .ref (a 6) :: .ref (a 7) :: .ref (a 8) :: .ref (a 9) :: .ref (a 10) :: .ref (a 11) :: .ref (a 12) :: .ref (a 13) :: .int (nI tr) :: .int (nI fm) :: .int ck :: .int te :: .int (nI fn) :: .ref (a 19) :: .ref (a 20) :: .ref (a 21) :: .ref (a 22) :: .ref (a 23) :: .ref (a 24) :: .ref (a 25) :: .ref (a 26) :: .ref (a 27) :: .int (b2 hp) :: .int yn :: .int (b2 ir) :: .ref (a 31) :: .int rc :: .ref (a 33) :: .int (nI mv) :: .int kd :: .int (nI bg) :: .int (nI en) :: .int mk :: .long le :: .int (nI tk) :: .int (nI op) :: .ref (a 42) :: .int (nI wn) :: .ref (a 44) :: .int (nI jn) :: .ref (a 46) :: .ref (a 47) :: .ref (a 48) :: .ref (a 49) :: .ref (a 50) :: .ref (a 51) :: .int (b2 ke) :: .ref (a 53) :: .ref (a 54) :: .ref (a 55) :: .int (nI cq) :: .int (nI cm) :: [])]) [mo]) : Aw X [mo] [ob 11 (.ref (a 0) :: .int (nI tn) :: .int fk :: .int fp :: .ref (a 4) :: .ref (a 5) :: .ref (a 6) :: .ref (a 7) :: .ref (a 8) :: .ref (a 9) :: .ref (a 10) :: .ref (a 11) :: .ref (a 12) :: .ref (a 13) :: .int (nI tr) :: .int (nI fm) :: .int ck :: .int te :: .int (nI fn) :: .ref (a 19) :: .ref (a 20) :: .ref (a 21) :: .ref (a 22) :: .ref (a 23) :: .ref (a 24) :: .ref (a 25) :: .ref (a 26) :: .ref (a 27) :: .int (b2 hp) :: .int yn :: .int (b2 ir) :: .ref (a 31) :: .int rc :: .ref (a 33) :: .int (nI mv) :: .int kd :: .int (nI bg) :: .int (nI en) :: .int mk :: .long le :: .int (nI tk) :: .int (nI op) :: .ref (a 42) :: .int (nI wn) :: .ref (a 44) :: .int (nI jn) :: .ref (a 46) :: .ref (a 47) :: .ref (a 48) :: .ref (a 49) :: .ref (a 50) :: .ref (a 51) :: .int (b2 ke) :: .ref (a 53) :: .ref (a 54) :: .ref (a 55) :: .int (nI cq) :: .int (nI cm) :: [])] 0 [(0, .ref mo), (1, .int c)] [] := by
  refine r_aload_n (n := 1) hX dX11_isWord_0 rfl rfl 0 rfl ?_
  refine r_get (n := 4) hX 0 rfl rfl rfl 35 (by decide) lay_X11 fl_X11_155 rfl dX11_isWord_1 rfl ?_
  refine r_iconst (n := 5) hX 4 dX11_isWord_4 rfl rfl ?_
  refine r_icmp_ne (tgt := 20) (n := 8) hX dX11_isWord_5 (by decide) rfl (fun c5 => ?_) (fun c5 => ?_)
  · skip
    refine r_iconst (n := 21) hX 0 dX11_isWord_20 rfl rfl ?_
    exact r_zreturn hX hR rfl dX11_isWord_21 ⟨by first | (rw [decide_eq_true ⟨c5, c13⟩]; rfl) | (rw [decide_eq_false (fun e => c13 e.2)]; rfl) | (rw [decide_eq_false (fun e => c5 e.1)]; rfl), rfl⟩
  · skip
    refine r_aload_n (n := 9) hX dX11_isWord_8 rfl rfl 0 rfl ?_
    refine r_get (n := 12) hX 0 rfl rfl rfl 38 (by decide) lay_X11 fl_X11_152 rfl dX11_isWord_9 rfl ?_
    refine r_iload_n (n := 13) hX dX11_isWord_12 rfl rfl 1 rfl ?_
    refine r_icmp_ne (tgt := 20) (n := 16) hX dX11_isWord_13 (by decide) rfl (fun c13 => ?_) (fun c13 => ?_)
    · skip
      refine r_iconst (n := 21) hX 0 dX11_isWord_20 rfl rfl ?_
      exact r_zreturn hX hR rfl dX11_isWord_21 ⟨by first | (rw [decide_eq_true ⟨c5, c13⟩]; rfl) | (rw [decide_eq_false (fun e => c13 e.2)]; rfl) | (rw [decide_eq_false (fun e => c5 e.1)]; rfl), rfl⟩
    · skip
      refine r_iconst (n := 17) hX 1 dX11_isWord_16 rfl rfl ?_
      refine r_goto (tgt := 21) hX dX11_isWord_17 (by decide) ?_
      exact r_zreturn hX hR rfl dX11_isWord_21 ⟨by first | (rw [decide_eq_true ⟨c5, c13⟩]; rfl) | (rw [decide_eq_false (fun e => c13 e.2)]; rfl) | (rw [decide_eq_false (fun e => c5 e.1)]; rfl), rfl⟩
theorem ct_X11_isWord (l : Launch) (D : va_G) (mo : Nat) (a : Nat → Nat) (tn tr fm fn mv bg en tk op wn jn cq cm : Nat) (fk fp ck te yn rc kd mk : Int32) (le : Int64) (hp ir ke : Bool) (c : Int32)  : Ct l D m_X11_isWord 0 [.ref mo, .int c] [mo] [ob 11 (.ref (a 0) :: .int (nI tn) :: .int fk :: .int fp :: .ref (a 4) :: .ref (a 5) :: .ref (a 6) :: .ref (a 7) :: .ref (a 8) :: .ref (a 9) :: .ref (a 10) :: .ref (a 11) :: .ref (a 12) :: .ref (a 13) :: .int (nI tr) :: .int (nI fm) :: .int ck :: .int te :: .int (nI fn) :: .ref (a 19) :: .ref (a 20) :: .ref (a 21) :: .ref (a 22) :: .ref (a 23) :: .ref (a 24) :: .ref (a 25) :: .ref (a 26) :: .ref (a 27) :: .int (b2 hp) :: .int yn :: .int (b2 ir) :: .ref (a 31) :: .int rc :: .ref (a 33) :: .int (nI mv) :: .int kd :: .int (nI bg) :: .int (nI en) :: .int mk :: .long le :: .int (nI tk) :: .int (nI op) :: .ref (a 42) :: .int (nI wn) :: .ref (a 44) :: .int (nI jn) :: .ref (a 46) :: .ref (a 47) :: .ref (a 48) :: .ref (a 49) :: .ref (a 50) :: .ref (a 51) :: .int (b2 ke) :: .ref (a 53) :: .ref (a 54) :: .ref (a 55) :: .int (nI cq) :: .int (nI cm) :: [])] (fun r es' => r = some (.int (b2 (decide (kd = 4 ∧ mk = c)))) ∧ es' = [ob 11 (.ref (a 0) :: .int (nI tn) :: .int fk :: .int fp :: .ref (a 4) :: .ref (a 5) :: .ref (a 6) :: .ref (a 7) :: .ref (a 8) :: .ref (a 9) :: .ref (a 10) :: .ref (a 11) :: .ref (a 12) :: .ref (a 13) :: .int (nI tr) :: .int (nI fm) :: .int ck :: .int te :: .int (nI fn) :: .ref (a 19) :: .ref (a 20) :: .ref (a 21) :: .ref (a 22) :: .ref (a 23) :: .ref (a 24) :: .ref (a 25) :: .ref (a 26) :: .ref (a 27) :: .int (b2 hp) :: .int yn :: .int (b2 ir) :: .ref (a 31) :: .int rc :: .ref (a 33) :: .int (nI mv) :: .int kd :: .int (nI bg) :: .int (nI en) :: .int mk :: .long le :: .int (nI tk) :: .int (nI op) :: .ref (a 42) :: .int (nI wn) :: .ref (a 44) :: .int (nI jn) :: .ref (a 46) :: .ref (a 47) :: .ref (a 48) :: .ref (a 49) :: .ref (a 50) :: .ref (a 51) :: .int (b2 ke) :: .ref (a 53) :: .ref (a 54) :: .ref (a 55) :: .int (nI cq) :: .int (nI cm) :: [])]) :=
  Ct.ofA (own := RX11) (by decide) rfl (Nat.le_of_ble_eq_true rfl) rfl (fun X hl hD hX hR => by subst hl; subst hD; exact wk_X11_isWord hX mo a tn tr fm fn mv bg en tk op wn jn cq cm fk fp ck te yn rc kd mk le hp ir ke c hR)
set_option maxHeartbeats 1000000 in
set_option maxRecDepth 100000 in
theorem wk_X11_sign {X : Cx} (hX : Ok X cX11_sign 2 RX11 4) (mo : Nat) (a : Nat → Nat) (tn tr fm fn mv cq cm : Nat) (ck te yn rc : Int32) (hp ir ke : Bool) (wn jn : Nat) (tp : Nat → Int32) (z : XZ) (c : Int32) (ht : tn ≤ 3000) (hz : XOk tn z) (hR : Rt X (some FieldType.boolean) (fun r es' => r = some (.int (b2 (xS tp tn c z).1)) ∧ es' = [ob 11 (.ref (a 0) :: .int (nI tn) :: .int (xFk ((xS tp tn c z).2)) :: .int (xFp ((xS tp tn c z).2)) :: .ref (a 4) :: .ref (a 5) :: .ref (a 6) :: .ref (a 7) :: .ref (a 8) :: .ref (a 9) :: .ref (a 10) :: .ref (a 11) :: .ref (a 12) :: .ref (a 13) :: .int (nI tr) :: .int (nI fm) :: .int ck :: .int te :: .int (nI fn) :: .ref (a 19) :: .ref (a 20) :: .ref (a 21) :: .ref (a 22) :: .ref (a 23) :: .ref (a 24) :: .ref (a 25) :: .ref (a 26) :: .ref (a 27) :: .int (b2 hp) :: .int yn :: .int (b2 ir) :: .ref (a 31) :: .int rc :: .ref (a 33) :: .int (nI mv) :: .int (xKd ((xS tp tn c z).2)) :: .int (nI (xBg ((xS tp tn c z).2))) :: .int (nI (xEn ((xS tp tn c z).2))) :: .int (xMk ((xS tp tn c z).2)) :: .long (xLe ((xS tp tn c z).2)) :: .int (nI (xTk ((xS tp tn c z).2))) :: .int (nI (xOp ((xS tp tn c z).2))) :: .ref (a 42) :: .int (nI wn) :: .ref (a 44) :: .int (nI jn) :: .ref (a 46) :: .ref (a 47) :: .ref (a 48) :: .ref (a 49) :: .ref (a 50) :: .ref (a 51) :: .int (b2 ke) :: .ref (a 53) :: .ref (a 54) :: .ref (a 55) :: .int (nI cq) :: .int (nI cm) :: []), aB (CxD X) 3000 tp, aI (CxD X) 3900 (xOr ((xS tp tn c z).2)), aI (CxD X) 3900 (xNu ((xS tp tn c z).2)), aI (CxD X) 3 (nf (xOg ((xS tp tn c z).2)))]) [mo, a 0, a 4, a 5, a 6]) : Aw X [mo, a 0, a 4, a 5, a 6] [ob 11 (.ref (a 0) :: .int (nI tn) :: .int (xFk z) :: .int (xFp z) :: .ref (a 4) :: .ref (a 5) :: .ref (a 6) :: .ref (a 7) :: .ref (a 8) :: .ref (a 9) :: .ref (a 10) :: .ref (a 11) :: .ref (a 12) :: .ref (a 13) :: .int (nI tr) :: .int (nI fm) :: .int ck :: .int te :: .int (nI fn) :: .ref (a 19) :: .ref (a 20) :: .ref (a 21) :: .ref (a 22) :: .ref (a 23) :: .ref (a 24) :: .ref (a 25) :: .ref (a 26) :: .ref (a 27) :: .int (b2 hp) :: .int yn :: .int (b2 ir) :: .ref (a 31) :: .int rc :: .ref (a 33) :: .int (nI mv) :: .int (xKd z) :: .int (nI (xBg z)) :: .int (nI (xEn z)) :: .int (xMk z) :: .long (xLe z) :: .int (nI (xTk z)) :: .int (nI (xOp z)) :: .ref (a 42) :: .int (nI wn) :: .ref (a 44) :: .int (nI jn) :: .ref (a 46) :: .ref (a 47) :: .ref (a 48) :: .ref (a 49) :: .ref (a 50) :: .ref (a 51) :: .int (b2 ke) :: .ref (a 53) :: .ref (a 54) :: .ref (a 55) :: .int (nI cq) :: .int (nI cm) :: []), aB (CxD X) 3000 tp, aI (CxD X) 3900 (xOr z), aI (CxD X) 3900 (xNu z), aI (CxD X) 3 (nf (xOg z))] 0 [(0, .ref mo), (1, .int c)] [] := by
  refine r_aload_n (n := 1) hX dX11_sign_0 rfl rfl 0 rfl ?_
  refine r_iload_n (n := 2) hX dX11_sign_1 rfl rfl 1 rfl ?_
  refine r_callV (n := 5) (av := [.int c]) hX (ct_X11_isSign (CxL X) (CxD X) mo a tn tr fm fn mv (xBg z) (xEn z) (xTk z) (xOp z) wn jn cq cm (xFk z) (xFp z) ck te yn rc (xKd z) (xMk z) (xLe z) hp ir ke c) ml_X11_186 cv_X11_isSign rfl (by decide) [0] rfl rfl (by decide) 0 rfl rfl rfl rfl rfl (Nat.le_of_ble_eq_true rfl) dX11_sign_2 rfl (fun r_ es_ h_ l_ => ?_)
  obtain ⟨rfl, rfl⟩ := h_
  show Aw X [mo, a 0, a 4, a 5, a 6] [ob 11 (.ref (a 0) :: .int (nI tn) :: .int (xFk z) :: .int (xFp z) :: .ref (a 4) :: .ref (a 5) :: .ref (a 6) :: .ref (a 7) :: .ref (a 8) :: .ref (a 9) :: .ref (a 10) :: .ref (a 11) :: .ref (a 12) :: .ref (a 13) :: .int (nI tr) :: .int (nI fm) :: .int ck :: .int te :: .int (nI fn) :: .ref (a 19) :: .ref (a 20) :: .ref (a 21) :: .ref (a 22) :: .ref (a 23) :: .ref (a 24) :: .ref (a 25) :: .ref (a 26) :: .ref (a 27) :: .int (b2 hp) :: .int yn :: .int (b2 ir) :: .ref (a 31) :: .int rc :: .ref (a 33) :: .int (nI mv) :: .int (xKd z) :: .int (nI (xBg z)) :: .int (nI (xEn z)) :: .int (xMk z) :: .long (xLe z) :: .int (nI (xTk z)) :: .int (nI (xOp z)) :: .ref (a 42) :: .int (nI wn) :: .ref (a 44) :: .int (nI jn) :: .ref (a 46) :: .ref (a 47) :: .ref (a 48) :: .ref (a 49) :: .ref (a 50) :: .ref (a 51) :: .int (b2 ke) :: .ref (a 53) :: .ref (a 54) :: .ref (a 55) :: .int (nI cq) :: .int (nI cm) :: []), aB (CxD X) 3000 tp, aI (CxD X) 3900 (xOr z), aI (CxD X) 3900 (xNu z), aI (CxD X) 3 (nf (xOg z))] 5 [(0, .ref mo), (1, .int c)] [.int (b2 (xIsS z c))]
  refine r_if_eq_b (tgt := 15) (n := 8) hX dX11_sign_5 (by decide) rfl (fun c5 => ?_) (fun c5 => ?_)
  · skip
    refine r_aload_n (n := 16) hX dX11_sign_15 rfl rfl 0 rfl ?_
    refine r_iconst (n := 17) hX 1 dX11_sign_16 rfl rfl ?_
    refine r_aload_n (n := 18) hX dX11_sign_17 rfl rfl 0 rfl ?_
    refine r_get (n := 21) hX 0 rfl rfl rfl 36 (by decide) lay_X11 fl_X11_149 rfl dX11_sign_18 rfl ?_
    refine r_callV (n := 24) (av := [.int 1, .int (nI (xBg z))]) hX (ct_X11_stop (CxL X) (CxD X) mo a tn tr fm fn mv (xBg z) (xEn z) (xTk z) (xOp z) wn jn cq cm (xFk z) (xFp z) ck te yn rc (xKd z) (xMk z) (xLe z) hp ir ke 1 (nI (xBg z))) ml_X11_179 cv_X11_stop rfl (by decide) [0] rfl rfl (by decide) 0 rfl rfl rfl rfl rfl (Nat.le_of_ble_eq_true rfl) dX11_sign_21 rfl (fun r_ es_ h_ l_ => ?_)
    obtain ⟨rfl, rfl⟩ := h_
    show Aw X [mo, a 0, a 4, a 5, a 6] [ob 11 (.ref (a 0) :: .int (nI tn) :: .int (xFk (xStop z 1)) :: .int (xFp (xStop z 1)) :: .ref (a 4) :: .ref (a 5) :: .ref (a 6) :: .ref (a 7) :: .ref (a 8) :: .ref (a 9) :: .ref (a 10) :: .ref (a 11) :: .ref (a 12) :: .ref (a 13) :: .int (nI tr) :: .int (nI fm) :: .int ck :: .int te :: .int (nI fn) :: .ref (a 19) :: .ref (a 20) :: .ref (a 21) :: .ref (a 22) :: .ref (a 23) :: .ref (a 24) :: .ref (a 25) :: .ref (a 26) :: .ref (a 27) :: .int (b2 hp) :: .int yn :: .int (b2 ir) :: .ref (a 31) :: .int rc :: .ref (a 33) :: .int (nI mv) :: .int (xKd (xStop z 1)) :: .int (nI (xBg (xStop z 1))) :: .int (nI (xEn (xStop z 1))) :: .int (xMk (xStop z 1)) :: .long (xLe (xStop z 1)) :: .int (nI (xTk (xStop z 1))) :: .int (nI (xOp (xStop z 1))) :: .ref (a 42) :: .int (nI wn) :: .ref (a 44) :: .int (nI jn) :: .ref (a 46) :: .ref (a 47) :: .ref (a 48) :: .ref (a 49) :: .ref (a 50) :: .ref (a 51) :: .int (b2 ke) :: .ref (a 53) :: .ref (a 54) :: .ref (a 55) :: .int (nI cq) :: .int (nI cm) :: []), aB (CxD X) 3000 tp, aI (CxD X) 3900 (xOr (xStop z 1)), aI (CxD X) 3900 (xNu (xStop z 1)), aI (CxD X) 3 (nf (xOg (xStop z 1)))] 24 [(0, .ref mo), (1, .int c)] [.int (b2 false)]
    exact r_zreturn hX hR rfl dX11_sign_24 (by first | (have e : xS tp tn c z = (xPassB z, xPass tp tn z) := (by unfold xS; rw [if_pos c5, if_pos c5]; rfl); rw [e]; exact ⟨rfl, rfl⟩) | (have e : xS tp tn c z = (false, xStop z 1) := (by have c5 : ¬ xIsS z c = true := (by rw [c5]; decide); unfold xS; rw [if_neg c5, if_neg c5]; rfl); rw [e]; exact ⟨rfl, rfl⟩))
  · skip
    refine r_aload_n (n := 9) hX dX11_sign_8 rfl rfl 0 rfl ?_
    refine r_callV (n := 12) (av := []) hX (ct_X11_pass (CxL X) (CxD X) mo a tn tr fm fn mv cq cm ck te yn rc hp ir ke wn jn tp z ht hz) ml_X11_189 cv_X11_pass rfl (by decide) [0, 1, 2, 3, 4] rfl rfl (by decide) 0 rfl rfl rfl rfl rfl (Nat.le_of_ble_eq_true rfl) dX11_sign_9 rfl (fun r_ es_ h_ l_ => ?_)
    obtain ⟨rfl, rfl⟩ := h_
    show Aw X [mo, a 0, a 4, a 5, a 6] [ob 11 (.ref (a 0) :: .int (nI tn) :: .int (xFk (xPass tp tn z)) :: .int (xFp (xPass tp tn z)) :: .ref (a 4) :: .ref (a 5) :: .ref (a 6) :: .ref (a 7) :: .ref (a 8) :: .ref (a 9) :: .ref (a 10) :: .ref (a 11) :: .ref (a 12) :: .ref (a 13) :: .int (nI tr) :: .int (nI fm) :: .int ck :: .int te :: .int (nI fn) :: .ref (a 19) :: .ref (a 20) :: .ref (a 21) :: .ref (a 22) :: .ref (a 23) :: .ref (a 24) :: .ref (a 25) :: .ref (a 26) :: .ref (a 27) :: .int (b2 hp) :: .int yn :: .int (b2 ir) :: .ref (a 31) :: .int rc :: .ref (a 33) :: .int (nI mv) :: .int (xKd (xPass tp tn z)) :: .int (nI (xBg (xPass tp tn z))) :: .int (nI (xEn (xPass tp tn z))) :: .int (xMk (xPass tp tn z)) :: .long (xLe (xPass tp tn z)) :: .int (nI (xTk (xPass tp tn z))) :: .int (nI (xOp (xPass tp tn z))) :: .ref (a 42) :: .int (nI wn) :: .ref (a 44) :: .int (nI jn) :: .ref (a 46) :: .ref (a 47) :: .ref (a 48) :: .ref (a 49) :: .ref (a 50) :: .ref (a 51) :: .int (b2 ke) :: .ref (a 53) :: .ref (a 54) :: .ref (a 55) :: .int (nI cq) :: .int (nI cm) :: []), aB (CxD X) 3000 tp, aI (CxD X) 3900 (xOr (xPass tp tn z)), aI (CxD X) 3900 (xNu (xPass tp tn z)), aI (CxD X) 3 (nf (xOg (xPass tp tn z)))] 12 [(0, .ref mo), (1, .int c)] [.int (b2 (xPassB z))]
    refine r_goto (tgt := 24) hX dX11_sign_12 (by decide) ?_
    exact r_zreturn hX hR (narb _) dX11_sign_24 (by first | (have e : xS tp tn c z = (xPassB z, xPass tp tn z) := (by unfold xS; rw [if_pos c5, if_pos c5]; rfl); rw [e]; exact ⟨rfl, rfl⟩) | (have e : xS tp tn c z = (false, xStop z 1) := (by have c5 : ¬ xIsS z c = true := (by rw [c5]; decide); unfold xS; rw [if_neg c5, if_neg c5]; rfl); rw [e]; exact ⟨rfl, rfl⟩))
theorem ct_X11_sign (l : Launch) (D : va_G) (mo : Nat) (a : Nat → Nat) (tn tr fm fn mv cq cm : Nat) (ck te yn rc : Int32) (hp ir ke : Bool) (wn jn : Nat) (tp : Nat → Int32) (z : XZ) (c : Int32) (ht : tn ≤ 3000) (hz : XOk tn z) : Ct l D m_X11_sign 4 [.ref mo, .int c] [mo, a 0, a 4, a 5, a 6] [ob 11 (.ref (a 0) :: .int (nI tn) :: .int (xFk z) :: .int (xFp z) :: .ref (a 4) :: .ref (a 5) :: .ref (a 6) :: .ref (a 7) :: .ref (a 8) :: .ref (a 9) :: .ref (a 10) :: .ref (a 11) :: .ref (a 12) :: .ref (a 13) :: .int (nI tr) :: .int (nI fm) :: .int ck :: .int te :: .int (nI fn) :: .ref (a 19) :: .ref (a 20) :: .ref (a 21) :: .ref (a 22) :: .ref (a 23) :: .ref (a 24) :: .ref (a 25) :: .ref (a 26) :: .ref (a 27) :: .int (b2 hp) :: .int yn :: .int (b2 ir) :: .ref (a 31) :: .int rc :: .ref (a 33) :: .int (nI mv) :: .int (xKd z) :: .int (nI (xBg z)) :: .int (nI (xEn z)) :: .int (xMk z) :: .long (xLe z) :: .int (nI (xTk z)) :: .int (nI (xOp z)) :: .ref (a 42) :: .int (nI wn) :: .ref (a 44) :: .int (nI jn) :: .ref (a 46) :: .ref (a 47) :: .ref (a 48) :: .ref (a 49) :: .ref (a 50) :: .ref (a 51) :: .int (b2 ke) :: .ref (a 53) :: .ref (a 54) :: .ref (a 55) :: .int (nI cq) :: .int (nI cm) :: []), aB D 3000 tp, aI D 3900 (xOr z), aI D 3900 (xNu z), aI D 3 (nf (xOg z))] (fun r es' => r = some (.int (b2 (xS tp tn c z).1)) ∧ es' = [ob 11 (.ref (a 0) :: .int (nI tn) :: .int (xFk ((xS tp tn c z).2)) :: .int (xFp ((xS tp tn c z).2)) :: .ref (a 4) :: .ref (a 5) :: .ref (a 6) :: .ref (a 7) :: .ref (a 8) :: .ref (a 9) :: .ref (a 10) :: .ref (a 11) :: .ref (a 12) :: .ref (a 13) :: .int (nI tr) :: .int (nI fm) :: .int ck :: .int te :: .int (nI fn) :: .ref (a 19) :: .ref (a 20) :: .ref (a 21) :: .ref (a 22) :: .ref (a 23) :: .ref (a 24) :: .ref (a 25) :: .ref (a 26) :: .ref (a 27) :: .int (b2 hp) :: .int yn :: .int (b2 ir) :: .ref (a 31) :: .int rc :: .ref (a 33) :: .int (nI mv) :: .int (xKd ((xS tp tn c z).2)) :: .int (nI (xBg ((xS tp tn c z).2))) :: .int (nI (xEn ((xS tp tn c z).2))) :: .int (xMk ((xS tp tn c z).2)) :: .long (xLe ((xS tp tn c z).2)) :: .int (nI (xTk ((xS tp tn c z).2))) :: .int (nI (xOp ((xS tp tn c z).2))) :: .ref (a 42) :: .int (nI wn) :: .ref (a 44) :: .int (nI jn) :: .ref (a 46) :: .ref (a 47) :: .ref (a 48) :: .ref (a 49) :: .ref (a 50) :: .ref (a 51) :: .int (b2 ke) :: .ref (a 53) :: .ref (a 54) :: .ref (a 55) :: .int (nI cq) :: .int (nI cm) :: []), aB D 3000 tp, aI D 3900 (xOr ((xS tp tn c z).2)), aI D 3900 (xNu ((xS tp tn c z).2)), aI D 3 (nf (xOg ((xS tp tn c z).2)))]) :=
  Ct.ofA (own := RX11) (by decide) rfl (Nat.le_of_ble_eq_true rfl) rfl (fun X hl hD hX hR => by subst hl; subst hD; exact wk_X11_sign hX mo a tn tr fm fn mv cq cm ck te yn rc hp ir ke wn jn tp z c ht hz hR)
set_option maxHeartbeats 1000000 in
set_option maxRecDepth 100000 in
theorem wk_X11_emit {X : Cx} (hX : Ok X cX11_emit 3 RX11 0) (mo : Nat) (a : Nat → Nat) (tn tr fm fn mv cq cm : Nat) (ck te yn rc : Int32) (hp ir ke : Bool) (wn jn : Nat) (z : XZ) (o n : Int32) (hg : xOg z 2 < 1300) (hR : Rt X (none) (fun r es' => r = none ∧ es' = [ob 11 (.ref (a 0) :: .int (nI tn) :: .int (xFk (xEmit z o n)) :: .int (xFp (xEmit z o n)) :: .ref (a 4) :: .ref (a 5) :: .ref (a 6) :: .ref (a 7) :: .ref (a 8) :: .ref (a 9) :: .ref (a 10) :: .ref (a 11) :: .ref (a 12) :: .ref (a 13) :: .int (nI tr) :: .int (nI fm) :: .int ck :: .int te :: .int (nI fn) :: .ref (a 19) :: .ref (a 20) :: .ref (a 21) :: .ref (a 22) :: .ref (a 23) :: .ref (a 24) :: .ref (a 25) :: .ref (a 26) :: .ref (a 27) :: .int (b2 hp) :: .int yn :: .int (b2 ir) :: .ref (a 31) :: .int rc :: .ref (a 33) :: .int (nI mv) :: .int (xKd (xEmit z o n)) :: .int (nI (xBg (xEmit z o n))) :: .int (nI (xEn (xEmit z o n))) :: .int (xMk (xEmit z o n)) :: .long (xLe (xEmit z o n)) :: .int (nI (xTk (xEmit z o n))) :: .int (nI (xOp (xEmit z o n))) :: .ref (a 42) :: .int (nI wn) :: .ref (a 44) :: .int (nI jn) :: .ref (a 46) :: .ref (a 47) :: .ref (a 48) :: .ref (a 49) :: .ref (a 50) :: .ref (a 51) :: .int (b2 ke) :: .ref (a 53) :: .ref (a 54) :: .ref (a 55) :: .int (nI cq) :: .int (nI cm) :: []), aI (CxD X) 3900 (xOr (xEmit z o n)), aI (CxD X) 3900 (xNu (xEmit z o n)), aI (CxD X) 3 (nf (xOg (xEmit z o n)))]) [mo, a 4, a 5, a 6]) : Aw X [mo, a 4, a 5, a 6] [ob 11 (.ref (a 0) :: .int (nI tn) :: .int (xFk z) :: .int (xFp z) :: .ref (a 4) :: .ref (a 5) :: .ref (a 6) :: .ref (a 7) :: .ref (a 8) :: .ref (a 9) :: .ref (a 10) :: .ref (a 11) :: .ref (a 12) :: .ref (a 13) :: .int (nI tr) :: .int (nI fm) :: .int ck :: .int te :: .int (nI fn) :: .ref (a 19) :: .ref (a 20) :: .ref (a 21) :: .ref (a 22) :: .ref (a 23) :: .ref (a 24) :: .ref (a 25) :: .ref (a 26) :: .ref (a 27) :: .int (b2 hp) :: .int yn :: .int (b2 ir) :: .ref (a 31) :: .int rc :: .ref (a 33) :: .int (nI mv) :: .int (xKd z) :: .int (nI (xBg z)) :: .int (nI (xEn z)) :: .int (xMk z) :: .long (xLe z) :: .int (nI (xTk z)) :: .int (nI (xOp z)) :: .ref (a 42) :: .int (nI wn) :: .ref (a 44) :: .int (nI jn) :: .ref (a 46) :: .ref (a 47) :: .ref (a 48) :: .ref (a 49) :: .ref (a 50) :: .ref (a 51) :: .int (b2 ke) :: .ref (a 53) :: .ref (a 54) :: .ref (a 55) :: .int (nI cq) :: .int (nI cm) :: []), aI (CxD X) 3900 (xOr z), aI (CxD X) 3900 (xNu z), aI (CxD X) 3 (nf (xOg z))] 0 [(0, .ref mo), (1, .int o), (2, .int n)] [] := by
  refine r_aload_n (n := 1) hX dX11_emit_0 rfl rfl 0 rfl ?_
  refine r_get (n := 4) hX 0 rfl rfl rfl 4 (by decide) lay_X11 fl_X11_17 rfl dX11_emit_1 rfl ?_
  refine r_sipush (n := 7) hX 2600 dX11_emit_4 rfl rfl ?_
  refine r_aload_n (n := 8) hX dX11_emit_7 rfl rfl 0 rfl ?_
  refine r_get (n := 11) hX 0 rfl rfl rfl 6 (by decide) lay_X11 fl_X11_24 rfl dX11_emit_8 rfl ?_
  refine r_iconst (n := 12) hX 2 dX11_emit_11 rfl rfl ?_
  refine r_ialdNn (n := 13) (i := 2) hX 3 rfl rfl (by omega) (by decide) dX11_emit_12 rfl ?_
  refine r_iadd (n := 14) hX dX11_emit_13 rfl ?_
  refine Aw.topi (nI (2600 + ((xOg z) 2))) (nI_add _ _) ?_
  refine r_iload_n (n := 15) hX dX11_emit_14 rfl rfl 1 rfl ?_
  refine r_iastn (n := 16) (i := (2600 + ((xOg z) 2))) hX 1 rfl rfl [ob 11 (.ref (a 0) :: .int (nI tn) :: .int (xFk z) :: .int (xFp z) :: .ref (a 4) :: .ref (a 5) :: .ref (a 6) :: .ref (a 7) :: .ref (a 8) :: .ref (a 9) :: .ref (a 10) :: .ref (a 11) :: .ref (a 12) :: .ref (a 13) :: .int (nI tr) :: .int (nI fm) :: .int ck :: .int te :: .int (nI fn) :: .ref (a 19) :: .ref (a 20) :: .ref (a 21) :: .ref (a 22) :: .ref (a 23) :: .ref (a 24) :: .ref (a 25) :: .ref (a 26) :: .ref (a 27) :: .int (b2 hp) :: .int yn :: .int (b2 ir) :: .ref (a 31) :: .int rc :: .ref (a 33) :: .int (nI mv) :: .int (xKd z) :: .int (nI (xBg z)) :: .int (nI (xEn z)) :: .int (xMk z) :: .long (xLe z) :: .int (nI (xTk z)) :: .int (nI (xOp z)) :: .ref (a 42) :: .int (nI wn) :: .ref (a 44) :: .int (nI jn) :: .ref (a 46) :: .ref (a 47) :: .ref (a 48) :: .ref (a 49) :: .ref (a 50) :: .ref (a 51) :: .int (b2 ke) :: .ref (a 53) :: .ref (a 54) :: .ref (a 55) :: .int (nI cq) :: .int (nI cm) :: []), aI (CxD X) 3900 (upd (xOr z) (2600 + ((xOg z) 2)) o), aI (CxD X) 3900 (xNu z), aI (CxD X) 3 (nf (xOg z))] (by omega) (by decide) rfl dX11_emit_15 rfl ?_
  refine r_aload_n (n := 17) hX dX11_emit_16 rfl rfl 0 rfl ?_
  refine r_get (n := 20) hX 0 rfl rfl rfl 5 (by decide) lay_X11 fl_X11_21 rfl dX11_emit_17 rfl ?_
  refine r_sipush (n := 23) hX 2600 dX11_emit_20 rfl rfl ?_
  refine r_aload_n (n := 24) hX dX11_emit_23 rfl rfl 0 rfl ?_
  refine r_get (n := 27) hX 0 rfl rfl rfl 6 (by decide) lay_X11 fl_X11_24 rfl dX11_emit_24 rfl ?_
  refine r_iconst (n := 28) hX 2 dX11_emit_27 rfl rfl ?_
  refine r_ialdNn (n := 29) (i := 2) hX 3 rfl rfl (by omega) (by decide) dX11_emit_28 rfl ?_
  refine r_iadd (n := 30) hX dX11_emit_29 rfl ?_
  refine Aw.topi (nI (2600 + ((xOg z) 2))) (nI_add _ _) ?_
  refine r_iload_n (n := 31) hX dX11_emit_30 rfl rfl 2 rfl ?_
  refine r_iastn (n := 32) (i := (2600 + ((xOg z) 2))) hX 2 rfl rfl [ob 11 (.ref (a 0) :: .int (nI tn) :: .int (xFk z) :: .int (xFp z) :: .ref (a 4) :: .ref (a 5) :: .ref (a 6) :: .ref (a 7) :: .ref (a 8) :: .ref (a 9) :: .ref (a 10) :: .ref (a 11) :: .ref (a 12) :: .ref (a 13) :: .int (nI tr) :: .int (nI fm) :: .int ck :: .int te :: .int (nI fn) :: .ref (a 19) :: .ref (a 20) :: .ref (a 21) :: .ref (a 22) :: .ref (a 23) :: .ref (a 24) :: .ref (a 25) :: .ref (a 26) :: .ref (a 27) :: .int (b2 hp) :: .int yn :: .int (b2 ir) :: .ref (a 31) :: .int rc :: .ref (a 33) :: .int (nI mv) :: .int (xKd z) :: .int (nI (xBg z)) :: .int (nI (xEn z)) :: .int (xMk z) :: .long (xLe z) :: .int (nI (xTk z)) :: .int (nI (xOp z)) :: .ref (a 42) :: .int (nI wn) :: .ref (a 44) :: .int (nI jn) :: .ref (a 46) :: .ref (a 47) :: .ref (a 48) :: .ref (a 49) :: .ref (a 50) :: .ref (a 51) :: .int (b2 ke) :: .ref (a 53) :: .ref (a 54) :: .ref (a 55) :: .int (nI cq) :: .int (nI cm) :: []), aI (CxD X) 3900 (upd (xOr z) (2600 + ((xOg z) 2)) o), aI (CxD X) 3900 (upd (xNu z) (2600 + ((xOg z) 2)) n), aI (CxD X) 3 (nf (xOg z))] (by omega) (by decide) rfl dX11_emit_31 rfl ?_
  refine r_aload_n (n := 33) hX dX11_emit_32 rfl rfl 0 rfl ?_
  refine r_get (n := 36) hX 0 rfl rfl rfl 6 (by decide) lay_X11 fl_X11_24 rfl dX11_emit_33 rfl ?_
  refine r_iconst (n := 37) hX 2 dX11_emit_36 rfl rfl ?_
  refine r_dup2 (n := 38) hX dX11_emit_37 rfl rfl rfl ?_
  refine r_ialdNn (n := 39) (i := 2) hX 3 rfl rfl (by omega) (by decide) dX11_emit_38 rfl ?_
  refine r_iconst (n := 40) hX 1 dX11_emit_39 rfl rfl ?_
  refine r_iadd (n := 41) hX dX11_emit_40 rfl ?_
  refine Aw.topi (nI (((xOg z) 2) + 1)) (nI_add _ _) ?_
  refine r_iastNn (n := 42) (i := 2) hX 3 rfl rfl (((xOg z) 2) + 1) [ob 11 (.ref (a 0) :: .int (nI tn) :: .int (xFk z) :: .int (xFp z) :: .ref (a 4) :: .ref (a 5) :: .ref (a 6) :: .ref (a 7) :: .ref (a 8) :: .ref (a 9) :: .ref (a 10) :: .ref (a 11) :: .ref (a 12) :: .ref (a 13) :: .int (nI tr) :: .int (nI fm) :: .int ck :: .int te :: .int (nI fn) :: .ref (a 19) :: .ref (a 20) :: .ref (a 21) :: .ref (a 22) :: .ref (a 23) :: .ref (a 24) :: .ref (a 25) :: .ref (a 26) :: .ref (a 27) :: .int (b2 hp) :: .int yn :: .int (b2 ir) :: .ref (a 31) :: .int rc :: .ref (a 33) :: .int (nI mv) :: .int (xKd z) :: .int (nI (xBg z)) :: .int (nI (xEn z)) :: .int (xMk z) :: .long (xLe z) :: .int (nI (xTk z)) :: .int (nI (xOp z)) :: .ref (a 42) :: .int (nI wn) :: .ref (a 44) :: .int (nI jn) :: .ref (a 46) :: .ref (a 47) :: .ref (a 48) :: .ref (a 49) :: .ref (a 50) :: .ref (a 51) :: .int (b2 ke) :: .ref (a 53) :: .ref (a 54) :: .ref (a 55) :: .int (nI cq) :: .int (nI cm) :: []), aI (CxD X) 3900 (upd (xOr z) (2600 + ((xOg z) 2)) o), aI (CxD X) 3900 (upd (xNu z) (2600 + ((xOg z) 2)) n), aI (CxD X) 3 (nf (va_up (xOg z) 2 (((xOg z) 2) + 1)))] (by omega) (by decide) rfl dX11_emit_41 rfl ?_
  exact r_return hX hR dX11_emit_42 ⟨rfl, rfl⟩
theorem ct_X11_emit (l : Launch) (D : va_G) (mo : Nat) (a : Nat → Nat) (tn tr fm fn mv cq cm : Nat) (ck te yn rc : Int32) (hp ir ke : Bool) (wn jn : Nat) (z : XZ) (o n : Int32) (hg : xOg z 2 < 1300) : Ct l D m_X11_emit 0 [.ref mo, .int o, .int n] [mo, a 4, a 5, a 6] [ob 11 (.ref (a 0) :: .int (nI tn) :: .int (xFk z) :: .int (xFp z) :: .ref (a 4) :: .ref (a 5) :: .ref (a 6) :: .ref (a 7) :: .ref (a 8) :: .ref (a 9) :: .ref (a 10) :: .ref (a 11) :: .ref (a 12) :: .ref (a 13) :: .int (nI tr) :: .int (nI fm) :: .int ck :: .int te :: .int (nI fn) :: .ref (a 19) :: .ref (a 20) :: .ref (a 21) :: .ref (a 22) :: .ref (a 23) :: .ref (a 24) :: .ref (a 25) :: .ref (a 26) :: .ref (a 27) :: .int (b2 hp) :: .int yn :: .int (b2 ir) :: .ref (a 31) :: .int rc :: .ref (a 33) :: .int (nI mv) :: .int (xKd z) :: .int (nI (xBg z)) :: .int (nI (xEn z)) :: .int (xMk z) :: .long (xLe z) :: .int (nI (xTk z)) :: .int (nI (xOp z)) :: .ref (a 42) :: .int (nI wn) :: .ref (a 44) :: .int (nI jn) :: .ref (a 46) :: .ref (a 47) :: .ref (a 48) :: .ref (a 49) :: .ref (a 50) :: .ref (a 51) :: .int (b2 ke) :: .ref (a 53) :: .ref (a 54) :: .ref (a 55) :: .int (nI cq) :: .int (nI cm) :: []), aI D 3900 (xOr z), aI D 3900 (xNu z), aI D 3 (nf (xOg z))] (fun r es' => r = none ∧ es' = [ob 11 (.ref (a 0) :: .int (nI tn) :: .int (xFk (xEmit z o n)) :: .int (xFp (xEmit z o n)) :: .ref (a 4) :: .ref (a 5) :: .ref (a 6) :: .ref (a 7) :: .ref (a 8) :: .ref (a 9) :: .ref (a 10) :: .ref (a 11) :: .ref (a 12) :: .ref (a 13) :: .int (nI tr) :: .int (nI fm) :: .int ck :: .int te :: .int (nI fn) :: .ref (a 19) :: .ref (a 20) :: .ref (a 21) :: .ref (a 22) :: .ref (a 23) :: .ref (a 24) :: .ref (a 25) :: .ref (a 26) :: .ref (a 27) :: .int (b2 hp) :: .int yn :: .int (b2 ir) :: .ref (a 31) :: .int rc :: .ref (a 33) :: .int (nI mv) :: .int (xKd (xEmit z o n)) :: .int (nI (xBg (xEmit z o n))) :: .int (nI (xEn (xEmit z o n))) :: .int (xMk (xEmit z o n)) :: .long (xLe (xEmit z o n)) :: .int (nI (xTk (xEmit z o n))) :: .int (nI (xOp (xEmit z o n))) :: .ref (a 42) :: .int (nI wn) :: .ref (a 44) :: .int (nI jn) :: .ref (a 46) :: .ref (a 47) :: .ref (a 48) :: .ref (a 49) :: .ref (a 50) :: .ref (a 51) :: .int (b2 ke) :: .ref (a 53) :: .ref (a 54) :: .ref (a 55) :: .int (nI cq) :: .int (nI cm) :: []), aI D 3900 (xOr (xEmit z o n)), aI D 3900 (xNu (xEmit z o n)), aI D 3 (nf (xOg (xEmit z o n)))]) :=
  Ct.ofA (own := RX11) (by decide) rfl (Nat.le_of_ble_eq_true rfl) rfl (fun X hl hD hX hR => by subst hl; subst hD; exact wk_X11_emit hX mo a tn tr fm fn mv cq cm ck te yn rc hp ir ke wn jn z o n hg hR)
set_option maxHeartbeats 1000000 in
set_option maxRecDepth 100000 in
theorem lp_X11_trait {X : Cx} (hX : Ok X cX11_trait 4 RX11 0) (mo : Nat) (a : Nat → Nat) (tn tr fm fn mv bg en tk op wn jn cq cm : Nat) (fk fp ck te yn rc kd mk : Int32) (le : Int64) (hp ir ke : Bool) (nm : Nat → Int64) (v : Int64) (ht : tr ≤ 8) (hR : Rt X (some FieldType.int) (fun r es' => r = some (.int (eo (mTrait nm v tr 0))) ∧ es' = [ob 11 (.ref (a 0) :: .int (nI tn) :: .int fk :: .int fp :: .ref (a 4) :: .ref (a 5) :: .ref (a 6) :: .ref (a 7) :: .ref (a 8) :: .ref (a 9) :: .ref (a 10) :: .ref (a 11) :: .ref (a 12) :: .ref (a 13) :: .int (nI tr) :: .int (nI fm) :: .int ck :: .int te :: .int (nI fn) :: .ref (a 19) :: .ref (a 20) :: .ref (a 21) :: .ref (a 22) :: .ref (a 23) :: .ref (a 24) :: .ref (a 25) :: .ref (a 26) :: .ref (a 27) :: .int (b2 hp) :: .int yn :: .int (b2 ir) :: .ref (a 31) :: .int rc :: .ref (a 33) :: .int (nI mv) :: .int kd :: .int (nI bg) :: .int (nI en) :: .int mk :: .long le :: .int (nI tk) :: .int (nI op) :: .ref (a 42) :: .int (nI wn) :: .ref (a 44) :: .int (nI jn) :: .ref (a 46) :: .ref (a 47) :: .ref (a 48) :: .ref (a 49) :: .ref (a 50) :: .ref (a 51) :: .int (b2 ke) :: .ref (a 53) :: .ref (a 54) :: .ref (a 55) :: .int (nI cq) :: .int (nI cm) :: []), aJ (CxD X) 8 nm]) [mo, a 13]) : ∀ (m k : Nat), k + m = tr → mTrait nm v m k = mTrait nm v tr 0 → Aw X [mo, a 13] [ob 11 (.ref (a 0) :: .int (nI tn) :: .int fk :: .int fp :: .ref (a 4) :: .ref (a 5) :: .ref (a 6) :: .ref (a 7) :: .ref (a 8) :: .ref (a 9) :: .ref (a 10) :: .ref (a 11) :: .ref (a 12) :: .ref (a 13) :: .int (nI tr) :: .int (nI fm) :: .int ck :: .int te :: .int (nI fn) :: .ref (a 19) :: .ref (a 20) :: .ref (a 21) :: .ref (a 22) :: .ref (a 23) :: .ref (a 24) :: .ref (a 25) :: .ref (a 26) :: .ref (a 27) :: .int (b2 hp) :: .int yn :: .int (b2 ir) :: .ref (a 31) :: .int rc :: .ref (a 33) :: .int (nI mv) :: .int kd :: .int (nI bg) :: .int (nI en) :: .int mk :: .long le :: .int (nI tk) :: .int (nI op) :: .ref (a 42) :: .int (nI wn) :: .ref (a 44) :: .int (nI jn) :: .ref (a 46) :: .ref (a 47) :: .ref (a 48) :: .ref (a 49) :: .ref (a 50) :: .ref (a 51) :: .int (b2 ke) :: .ref (a 53) :: .ref (a 54) :: .ref (a 55) :: .int (nI cq) :: .int (nI cm) :: []), aJ (CxD X) 8 nm] 2 [(0, .ref mo), (1, .long v), (3, .int (nI k))] [] := by
  intro m
  induction m with
  | zero =>
    intro k hk he
    refine r_iload_n (n := 3) hX dX11_trait_2 rfl rfl 2 rfl ?_
    refine r_aload_n (n := 4) hX dX11_trait_3 rfl rfl 0 rfl ?_
    refine r_get (n := 7) hX 0 rfl rfl rfl 14 (by decide) lay_X11 fl_X11_193 rfl dX11_trait_4 rfl ?_
    refine r_icmp_ge_n (tgt := 29) (n := 10) hX k tr (by omega) (by omega) dX11_trait_7 (by decide) rfl (fun c7 => ?_) (fun c7 => absurd c7 (by omega))
    refine r_iconst (n := 30) hX (-1) dX11_trait_29 rfl rfl ?_
    exact r_ireturn hX hR dX11_trait_30 ⟨by rw [← he]; rfl, rfl⟩
  | succ m ih =>
    intro k hk he
    refine r_iload_n (n := 3) hX dX11_trait_2 rfl rfl 2 rfl ?_
    refine r_aload_n (n := 4) hX dX11_trait_3 rfl rfl 0 rfl ?_
    refine r_get (n := 7) hX 0 rfl rfl rfl 14 (by decide) lay_X11 fl_X11_193 rfl dX11_trait_4 rfl ?_
    refine r_icmp_ge_n (tgt := 29) (n := 10) hX k tr (by omega) (by omega) dX11_trait_7 (by decide) rfl (fun c7 => absurd c7 (by omega)) (fun c7 => ?_)
    refine r_aload_n (n := 11) hX dX11_trait_10 rfl rfl 0 rfl ?_
    refine r_get (n := 14) hX 0 rfl rfl rfl 13 (by decide) lay_X11 fl_X11_46 rfl dX11_trait_11 rfl ?_
    refine r_iload_n (n := 15) hX dX11_trait_14 rfl rfl 2 rfl ?_
    refine r_laldn (n := 16) (i := k) hX 1 rfl rfl (by omega) (by decide) dX11_trait_15 rfl ?_
    refine r_lload_n (n := 17) hX dX11_trait_16 rfl rfl 1 rfl ?_
    refine r_lif_ne (tgt := 23) (n := 21) hX dX11_trait_17 rfl dX11_trait_18 (by decide) rfl (fun c17 => ?_) (fun c17 => ?_)
    · skip
      refine r_iinc (n := 26) hX (nI (k + 1)) [(0, .ref mo), (1, .long v), (3, .int (nI (k + 1)))] dX11_trait_23 rfl 2 rfl (nI_add _ _) (by decide) rfl ?_
      refine r_goto (tgt := 2) hX dX11_trait_26 (by decide) ?_
      refine ih (k + 1) (by omega) ?_
      rw [← he]
      simp only [mTrait, c17, if_false]
    · skip
      refine r_iload_n (n := 22) hX dX11_trait_21 rfl rfl 2 rfl ?_
      exact r_ireturn hX hR dX11_trait_22 ⟨by rw [← he, mTrait, if_pos c17]; rfl, rfl⟩
set_option maxHeartbeats 1000000 in
set_option maxRecDepth 100000 in
theorem wk_X11_trait {X : Cx} (hX : Ok X cX11_trait 4 RX11 0) (mo : Nat) (a : Nat → Nat) (tn tr fm fn mv bg en tk op wn jn cq cm : Nat) (fk fp ck te yn rc kd mk : Int32) (le : Int64) (hp ir ke : Bool) (nm : Nat → Int64) (v : Int64) (ht : tr ≤ 8) (hR : Rt X (some FieldType.int) (fun r es' => r = some (.int (eo (mTrait nm v tr 0))) ∧ es' = [ob 11 (.ref (a 0) :: .int (nI tn) :: .int fk :: .int fp :: .ref (a 4) :: .ref (a 5) :: .ref (a 6) :: .ref (a 7) :: .ref (a 8) :: .ref (a 9) :: .ref (a 10) :: .ref (a 11) :: .ref (a 12) :: .ref (a 13) :: .int (nI tr) :: .int (nI fm) :: .int ck :: .int te :: .int (nI fn) :: .ref (a 19) :: .ref (a 20) :: .ref (a 21) :: .ref (a 22) :: .ref (a 23) :: .ref (a 24) :: .ref (a 25) :: .ref (a 26) :: .ref (a 27) :: .int (b2 hp) :: .int yn :: .int (b2 ir) :: .ref (a 31) :: .int rc :: .ref (a 33) :: .int (nI mv) :: .int kd :: .int (nI bg) :: .int (nI en) :: .int mk :: .long le :: .int (nI tk) :: .int (nI op) :: .ref (a 42) :: .int (nI wn) :: .ref (a 44) :: .int (nI jn) :: .ref (a 46) :: .ref (a 47) :: .ref (a 48) :: .ref (a 49) :: .ref (a 50) :: .ref (a 51) :: .int (b2 ke) :: .ref (a 53) :: .ref (a 54) :: .ref (a 55) :: .int (nI cq) :: .int (nI cm) :: []), aJ (CxD X) 8 nm]) [mo, a 13]) : Aw X [mo, a 13] [ob 11 (.ref (a 0) :: .int (nI tn) :: .int fk :: .int fp :: .ref (a 4) :: .ref (a 5) :: .ref (a 6) :: .ref (a 7) :: .ref (a 8) :: .ref (a 9) :: .ref (a 10) :: .ref (a 11) :: .ref (a 12) :: .ref (a 13) :: .int (nI tr) :: .int (nI fm) :: .int ck :: .int te :: .int (nI fn) :: .ref (a 19) :: .ref (a 20) :: .ref (a 21) :: .ref (a 22) :: .ref (a 23) :: .ref (a 24) :: .ref (a 25) :: .ref (a 26) :: .ref (a 27) :: .int (b2 hp) :: .int yn :: .int (b2 ir) :: .ref (a 31) :: .int rc :: .ref (a 33) :: .int (nI mv) :: .int kd :: .int (nI bg) :: .int (nI en) :: .int mk :: .long le :: .int (nI tk) :: .int (nI op) :: .ref (a 42) :: .int (nI wn) :: .ref (a 44) :: .int (nI jn) :: .ref (a 46) :: .ref (a 47) :: .ref (a 48) :: .ref (a 49) :: .ref (a 50) :: .ref (a 51) :: .int (b2 ke) :: .ref (a 53) :: .ref (a 54) :: .ref (a 55) :: .int (nI cq) :: .int (nI cm) :: []), aJ (CxD X) 8 nm] 0 [(0, .ref mo), (1, .long v)] [] := by
  refine r_iconst (n := 1) hX 0 dX11_trait_0 rfl rfl ?_
  refine r_istore_n (n := 2) hX [(0, .ref mo), (1, .long v), (3, .int 0)] dX11_trait_1 rfl rfl (by decide) rfl ?_
  exact lp_X11_trait hX mo a tn tr fm fn mv bg en tk op wn jn cq cm fk fp ck te yn rc kd mk le hp ir ke nm v ht hR tr 0 (by omega) rfl
theorem ct_X11_trait (l : Launch) (D : va_G) (mo : Nat) (a : Nat → Nat) (tn tr fm fn mv bg en tk op wn jn cq cm : Nat) (fk fp ck te yn rc kd mk : Int32) (le : Int64) (hp ir ke : Bool) (nm : Nat → Int64) (v : Int64) (ht : tr ≤ 8) : Ct l D m_X11_trait 0 [.ref mo, .long v] [mo, a 13] [ob 11 (.ref (a 0) :: .int (nI tn) :: .int fk :: .int fp :: .ref (a 4) :: .ref (a 5) :: .ref (a 6) :: .ref (a 7) :: .ref (a 8) :: .ref (a 9) :: .ref (a 10) :: .ref (a 11) :: .ref (a 12) :: .ref (a 13) :: .int (nI tr) :: .int (nI fm) :: .int ck :: .int te :: .int (nI fn) :: .ref (a 19) :: .ref (a 20) :: .ref (a 21) :: .ref (a 22) :: .ref (a 23) :: .ref (a 24) :: .ref (a 25) :: .ref (a 26) :: .ref (a 27) :: .int (b2 hp) :: .int yn :: .int (b2 ir) :: .ref (a 31) :: .int rc :: .ref (a 33) :: .int (nI mv) :: .int kd :: .int (nI bg) :: .int (nI en) :: .int mk :: .long le :: .int (nI tk) :: .int (nI op) :: .ref (a 42) :: .int (nI wn) :: .ref (a 44) :: .int (nI jn) :: .ref (a 46) :: .ref (a 47) :: .ref (a 48) :: .ref (a 49) :: .ref (a 50) :: .ref (a 51) :: .int (b2 ke) :: .ref (a 53) :: .ref (a 54) :: .ref (a 55) :: .int (nI cq) :: .int (nI cm) :: []), aJ D 8 nm] (fun r es' => r = some (.int (eo (mTrait nm v tr 0))) ∧ es' = [ob 11 (.ref (a 0) :: .int (nI tn) :: .int fk :: .int fp :: .ref (a 4) :: .ref (a 5) :: .ref (a 6) :: .ref (a 7) :: .ref (a 8) :: .ref (a 9) :: .ref (a 10) :: .ref (a 11) :: .ref (a 12) :: .ref (a 13) :: .int (nI tr) :: .int (nI fm) :: .int ck :: .int te :: .int (nI fn) :: .ref (a 19) :: .ref (a 20) :: .ref (a 21) :: .ref (a 22) :: .ref (a 23) :: .ref (a 24) :: .ref (a 25) :: .ref (a 26) :: .ref (a 27) :: .int (b2 hp) :: .int yn :: .int (b2 ir) :: .ref (a 31) :: .int rc :: .ref (a 33) :: .int (nI mv) :: .int kd :: .int (nI bg) :: .int (nI en) :: .int mk :: .long le :: .int (nI tk) :: .int (nI op) :: .ref (a 42) :: .int (nI wn) :: .ref (a 44) :: .int (nI jn) :: .ref (a 46) :: .ref (a 47) :: .ref (a 48) :: .ref (a 49) :: .ref (a 50) :: .ref (a 51) :: .int (b2 ke) :: .ref (a 53) :: .ref (a 54) :: .ref (a 55) :: .int (nI cq) :: .int (nI cm) :: []), aJ D 8 nm]) :=
  Ct.ofA (own := RX11) (by decide) rfl (Nat.le_of_ble_eq_true rfl) rfl (fun X hl hD hX hR => by subst hl; subst hD; exact wk_X11_trait hX mo a tn tr fm fn mv bg en tk op wn jn cq cm fk fp ck te yn rc kd mk le hp ir ke nm v ht hR)
