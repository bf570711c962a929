
/-! what an expression leaves -/
theorem xB_t {r : Bool × XZ} {f : XZ → Bool × XZ} {y : XZ} (h : xB r f = (true, y)) : r.1 = true ∧ f r.2 = (true, y) := by
  unfold xB at h
  split at h
  · rename_i q; exact ⟨q, h⟩
  · cases h
theorem lvE_len2 (l : LV) : (lvE l).length = (if l.2 = true then 1 else 0) + l.1.toList.length := by
  obtain ⟨s, p⟩ := l
  cases p <;> simp [lvE]; omega
theorem xM_ok {tp : Nat → Int32} {tn : Nat} {nm : Nat → Int64} {tr : Nat} : ∀ (m k : Nat) (l : LV) (r : List LV) (z y : XZ), xM tp tn nm tr m k l r z = (true, y) → XOk tn z → r.length ≤ xOp z → XOk tn y ∧ xTk z ≤ xTk y ∧ xOg y 2 + xTk z ≤ xOg z 2 + ((lvE l).length + (encR r).length) + xTk y ∧ xOp y + r.length = xOp z ∧ (k ≠ 0 → xTk z + 1 ≤ xTk y)
  | 0, k, l, r, z, y, h, _, _ => by cases h
  | m + 1, k, l, r, z, y, h, hz, hr => by
    have st1 := xSt1_st (z := z) (l := l)
    have stL := xSetL_st (z := z) (l := l)
    have hl2 := lvE_len2 l
    have tk1 : xTk (xSt1 z l) = xTk z := congrArg (·.2) st1.1
    have tkL : xTk (xSetL z l) = xTk z := congrArg (·.2) stL.1
    have op1 : xOp (xSt1 z l) = xOp z := st1.2.2.1
    have opL : xOp (xSetL z l) = xOp z := stL.2.2.1
    have ok1 : XOk tn (xSt1 z l) := ⟨by rw [st1.1]; exact hz.1, by rw [tk1]; exact hz.2⟩
    have okL : XOk tn (xSetL z l) := ⟨by rw [stL.1]; exact hz.1, by rw [tkL]; exact hz.2⟩
    have prod : ∀ r : List LV, r.length ≤ xOp z → xB (xP tp tn (xSt1 z l)) (fun y => xM tp tn nm tr m 1 (l.1, true) r y) = (true, y) → XOk tn y ∧ xTk z ≤ xTk y ∧ xOg y 2 + xTk z ≤ xOg z 2 + ((lvE l).length + (encR r).length) + xTk y ∧ xOp y + r.length = xOp z ∧ xTk z + 1 ≤ xTk y := by
      intro r hr h
      obtain ⟨hp, h⟩ := xB_t h
      have ht := xPass_tk (tp := tp) (tn := tn) hp
      obtain ⟨i1, i2, i3, i4, i5⟩ := xM_ok m 1 (l.1, true) r _ y h (xPass_ok ok1) (by show r.length ≤ xOp (xSt1 z l); omega)
      have i3 : xOg y 2 + xTk (xPass tp tn (xSt1 z l)) ≤ xOg (xSt1 z l) 2 + ((lvE (l.1, true)).length + (encR r).length) + xTk y := i3
      have i4 : xOp y + r.length = xOp (xSt1 z l) := i4
      have i2 : xTk (xPass tp tn (xSt1 z l)) ≤ xTk y := i2
      have e4 := st1.2.2.2
      have hl3 := lvE_len2 (l.1, true)
      simp only [if_true] at hl3
      exact ⟨i1, by omega, by omega, by omega, by omega⟩
    have sum : ∀ (c : Int32) (r : List LV), r.length ≤ xOp z → xB (xP tp tn (xSetL z l)) (fun y => xM tp tn nm tr m 1 (some c, false) r y) = (true, y) → XOk tn y ∧ xTk z ≤ xTk y ∧ xOg y 2 + xTk z ≤ xOg z 2 + ((lvE l).length + (encR r).length) + xTk y ∧ xOp y + r.length = xOp z ∧ xTk z + 1 ≤ xTk y := by
      intro c r hr h
      obtain ⟨hp, h⟩ := xB_t h
      have ht := xPass_tk (tp := tp) (tn := tn) hp
      obtain ⟨i1, i2, i3, i4, i5⟩ := xM_ok m 1 (some c, false) r _ y h (xPass_ok okL) (by show r.length ≤ xOp (xSetL z l); omega)
      have i3 : xOg y 2 + xTk (xPass tp tn (xSetL z l)) ≤ xOg (xSetL z l) 2 + (1 + (encR r).length) + xTk y := i3
      have i4 : xOp y + r.length = xOp (xSetL z l) := i4
      have i2 : xTk (xPass tp tn (xSetL z l)) ≤ xTk y := i2
      have e4 := stL.2.2.2
      exact ⟨i1, by omega, by omega, by omega, by omega⟩
    have m1 : xM1 tp tn nm tr (xM tp tn nm tr m) l r z = (true, y) → XOk tn y ∧ xTk z ≤ xTk y ∧ xOg y 2 + xTk z ≤ xOg z 2 + ((lvE l).length + (encR r).length) + xTk y ∧ xOp y + r.length = xOp z ∧ xTk z + 1 ≤ xTk y := by
      intro h
      unfold xM1 at h
      split at h
      · split at h
        · cases h
        · obtain ⟨hp, h⟩ := xB_t h
          have ht := xPass_tk (tp := tp) (tn := tn) hp
          have ht : xTk (xPass tp tn (xUp z)) = xTk z + 1 := ht
          obtain ⟨i1, i2, i3, i4, i5⟩ := xM_ok m 2 (none, false) (l :: r) _ y h (xPass_ok (z := xUp z) hz) (by show r.length + 1 ≤ xOp z + 1; omega)
          have i3 : xOg y 2 + xTk (xPass tp tn (xUp z)) ≤ xOg z 2 + (0 + (encR (l :: r)).length) + xTk y := i3
          have i4 : xOp y + (r.length + 1) = xOp z + 1 := i4
          have i2 : xTk (xPass tp tn (xUp z)) ≤ xTk y := i2
          simp only [encR, List.length_cons, List.length_append] at i3
          exact ⟨i1, by omega, by omega, by omega, by omega⟩
      · obtain ⟨hp, h⟩ := xB_t h
        obtain ⟨u1, u2⟩ := xUnit_ok (tp := tp) (nm := nm) (tr := tr) hz
        obtain ⟨u3, u4, u5⟩ := u2 hp
        obtain ⟨i1, i2, i3, i4, i5⟩ := xM_ok m 0 l r _ y h u1 (by rw [u5]; exact hr)
        exact ⟨i1, by omega, by omega, by omega, by omega⟩
    match k with
    | 0 =>
      have h : xM0 tp tn (xM tp tn nm tr m) l r z = (true, y) := h
      unfold xM0 at h
      cases r with
      | nil =>
        dsimp only at h
        split at h
        · obtain ⟨a1, a2, a3, a4, _⟩ := prod [] hr h; exact ⟨a1, a2, a3, a4, fun e => absurd rfl e⟩
        · split at h
          · obtain ⟨a1, a2, a3, a4, _⟩ := sum 43 [] hr h; exact ⟨a1, a2, a3, a4, fun e => absurd rfl e⟩
          · split at h
            · obtain ⟨a1, a2, a3, a4, _⟩ := sum 45 [] hr h; exact ⟨a1, a2, a3, a4, fun e => absurd rfl e⟩
            · injection h with _ h
              subst h
              have e4 := stL.2.2.2
              exact ⟨okL, by omega, by simp only [encR, List.length_nil]; omega, by simp only [List.length_nil]; omega, fun e => absurd rfl e⟩
      | cons l' r' =>
        dsimp only at h
        split at h
        · obtain ⟨hp, h⟩ := xB_t h
          have ht := xPass_tk (tp := tp) (tn := tn) hp
          have ht : xTk (xPass tp tn (xDn (xSetL z l))) = xTk (xSetL z l) + 1 := ht
          simp only [List.length_cons] at hr
          obtain ⟨i1, i2, i3, i4, i5⟩ := xM_ok m 0 l' r' _ y h (xPass_ok (z := xDn (xSetL z l)) okL) (by show r'.length ≤ xOp (xSetL z l) - 1; omega)
          have i3 : xOg y 2 + xTk (xPass tp tn (xDn (xSetL z l))) ≤ xOg (xSetL z l) 2 + ((lvE l').length + (encR r').length) + xTk y := i3
          have i4 : xOp y + r'.length = xOp (xSetL z l) - 1 := i4
          have i2 : xTk (xPass tp tn (xDn (xSetL z l))) ≤ xTk y := i2
          have e4 := stL.2.2.2
          simp only [encR, List.length_cons, List.length_append]
          exact ⟨i1, by omega, by omega, by omega, fun e => absurd rfl e⟩
        · split at h
          · obtain ⟨a1, a2, a3, a4, _⟩ := prod _ hr h; exact ⟨a1, a2, a3, a4, fun e => absurd rfl e⟩
          · split at h
            · obtain ⟨a1, a2, a3, a4, _⟩ := sum 43 _ hr h; exact ⟨a1, a2, a3, a4, fun e => absurd rfl e⟩
            · split at h
              · obtain ⟨a1, a2, a3, a4, _⟩ := sum 45 _ hr h; exact ⟨a1, a2, a3, a4, fun e => absurd rfl e⟩
              · cases h
    | 1 => obtain ⟨a1, a2, a3, a4, a5⟩ := m1 h; exact ⟨a1, a2, a3, a4, fun _ => a5⟩
    | _ + 2 =>
      have h : xM2 tp tn nm tr (xM tp tn nm tr m) l r z = (true, y) := h
      unfold xM2 at h
      split at h
      · obtain ⟨hp, h⟩ := xB_t h
        have ht := xPass_tk (tp := tp) (tn := tn) hp
        obtain ⟨i1, i2, i3, i4, i5⟩ := xM_ok m 1 (some 110, false) r _ y h (xPass_ok hz) hr
        have i3 : xOg y 2 + xTk (xPass tp tn z) ≤ xOg z 2 + (1 + (encR r).length) + xTk y := i3
        have i4 : xOp y + r.length = xOp z := i4
        have i2 : xTk (xPass tp tn z) ≤ xTk y := i2
        exact ⟨i1, by omega, by omega, by omega, fun _ => by omega⟩
      · obtain ⟨a1, a2, a3, a4, a5⟩ := m1 h; exact ⟨a1, a2, a3, a4, fun _ => a5⟩
theorem xExp_ok {tp : Nat → Int32} {tn : Nat} {nm : Nat → Int64} {tr : Nat} {z : XZ} (h : (xExp tp tn nm tr z).1 = true) (hz : XOk tn z) : XOk tn (xExp tp tn nm tr z).2 ∧ xTk z + 1 ≤ xTk (xExp tp tn nm tr z).2 ∧ xOg (xExp tp tn nm tr z).2 2 + xTk z ≤ xOg z 2 + xTk (xExp tp tn nm tr z).2 ∧ xOp (xExp tp tn nm tr z).2 = xOp z := by
  have e : xM tp tn nm tr 602 2 (none, false) [] z = (true, (xExp tp tn nm tr z).2) := by
    rw [← h]; rfl
  obtain ⟨i1, i2, i3, i4, i5⟩ := xM_ok 602 2 (none, false) [] z _ e hz (Nat.zero_le _)
  have i3 : xOg (xExp tp tn nm tr z).2 2 + xTk z ≤ xOg z 2 + (0 + 0) + xTk (xExp tp tn nm tr z).2 := i3
  exact ⟨i1, i5 (by decide), by omega, i4⟩
/-! relation -/
def xRo (z : XZ) : Option Int32 := if xKd z = 3 then (if xMk z = 256 then some 7 else if xMk z = 257 then some 8 else if xMk z = 258 then some 10 else if xMk z = 60 then some 9 else none) else none
def xRel3 (tp : Nat → Int32) (tn : Nat) (nm : Nat → Int64) (tr : Nat) (o : Int32) (y : XZ) : Bool × XZ := xB (xP tp tn y) (fun w => xB (xExp tp tn nm tr w) (fun u => (true, xEmit u o 0)))
def xRel2 (tp : Nat → Int32) (tn : Nat) (nm : Nat → Int64) (tr : Nat) (y : XZ) : Bool × XZ := match xRo y with
  | none => (false, xStop y 1)
  | some o => xRel3 tp tn nm tr o y
def xRel (tp : Nat → Int32) (tn : Nat) (nm : Nat → Int64) (tr : Nat) (z : XZ) : Bool × XZ := xB (xExp tp tn nm tr z) (xRel2 tp tn nm tr)
theorem xRel_ok {tp : Nat → Int32} {tn : Nat} {nm : Nat → Int64} {tr : Nat} {z y : XZ} (h : xRel tp tn nm tr z = (true, y)) (hz : XOk tn z) : XOk tn y ∧ xTk z + 1 ≤ xTk y ∧ xOg y 2 + xTk z ≤ xOg z 2 + xTk y ∧ xOp y = xOp z := by
  unfold xRel at h
  obtain ⟨h1, h⟩ := xB_t h
  obtain ⟨a1, a2, a3, a4⟩ := xExp_ok h1 hz
  unfold xRel2 at h
  split at h
  · cases h
  · unfold xRel3 at h
    obtain ⟨h2, h⟩ := xB_t h
    obtain ⟨h3, h⟩ := xB_t h
    have ht := xPass_tk (tp := tp) (tn := tn) h2
    have ht : xTk (xP tp tn (xExp tp tn nm tr z).2).2 = xTk (xExp tp tn nm tr z).2 + 1 := ht
    have hg : xOg (xP tp tn (xExp tp tn nm tr z).2).2 2 = xOg (xExp tp tn nm tr z).2 2 := rfl
    have ho : xOp (xP tp tn (xExp tp tn nm tr z).2).2 = xOp (xExp tp tn nm tr z).2 := rfl
    obtain ⟨b1, b2, b3, b4⟩ := xExp_ok h3 (xPass_ok a1)
    injection h with _ h
    subst h
    rw [xEmit_og]
    generalize xExp tp tn nm tr (xP tp tn (xExp tp tn nm tr z).2).2 = q at b1 b2 b3 b4
    refine ⟨b1, ?_, ?_, ?_⟩
    · show xTk z + 1 ≤ xTk q.2; omega
    · show xOg q.2 2 + 1 + xTk z ≤ xOg z 2 + xTk q.2; omega
    · show xOp q.2 = xOp z; omega

set_option maxHeartbeats 1000000 in
set_option maxRecDepth 100000 in
theorem wk_X11_relation {X : Cx} (hX : Ok X cX11_relation 2 RX11 7) (mo : Nat) (a : Nat → Nat) (tn tr fm fn mv cq cm : Nat) (ck te yn rc : Int32) (hp ir ke : Bool) (jn : Nat) (tp : Nat → Int32) (nm : Nat → Int64) (z : XZ) (wt : Nat → Int32) (wn : Nat) (ht : tn ≤ 3000) (htr : tr ≤ 8) (hz : XOk tn z) (ho : xOp z ≤ 8) (hg : xOg z 2 ≤ xTk z) (hR : Rt X (some FieldType.boolean) (fun r es' => r = some (.int (b2 (xRel tp tn nm tr z).1)) ∧ ∃ (wt : Nat → Int32) (wn : Nat), es' = [ob 11 (.ref (a 0) :: .int (nI tn) :: .int (xFk ((xRel tp tn nm tr z).2)) :: .int (xFp ((xRel tp tn nm tr z).2)) :: .ref (a 4) :: .ref (a 5) :: .ref (a 6) :: .ref (a 7) :: .ref (a 8) :: .ref (a 9) :: .ref (a 10) :: .ref (a 11) :: .ref (a 12) :: .ref (a 13) :: .int (nI tr) :: .int (nI fm) :: .int ck :: .int te :: .int (nI fn) :: .ref (a 19) :: .ref (a 20) :: .ref (a 21) :: .ref (a 22) :: .ref (a 23) :: .ref (a 24) :: .ref (a 25) :: .ref (a 26) :: .ref (a 27) :: .int (b2 hp) :: .int yn :: .int (b2 ir) :: .ref (a 31) :: .int rc :: .ref (a 33) :: .int (nI mv) :: .int (xKd ((xRel tp tn nm tr z).2)) :: .int (nI (xBg ((xRel tp tn nm tr z).2))) :: .int (nI (xEn ((xRel tp tn nm tr z).2))) :: .int (xMk ((xRel tp tn nm tr z).2)) :: .long (xLe ((xRel tp tn nm tr z).2)) :: .int (nI (xTk ((xRel tp tn nm tr z).2))) :: .int (nI (xOp ((xRel tp tn nm tr z).2))) :: .ref (a 42) :: .int (nI wn) :: .ref (a 44) :: .int (nI jn) :: .ref (a 46) :: .ref (a 47) :: .ref (a 48) :: .ref (a 49) :: .ref (a 50) :: .ref (a 51) :: .int (b2 ke) :: .ref (a 53) :: .ref (a 54) :: .ref (a 55) :: .int (nI cq) :: .int (nI cm) :: []), aB (CxD X) 3000 tp, aI (CxD X) 3900 (xOr ((xRel tp tn nm tr z).2)), aI (CxD X) 3900 (xNu ((xRel tp tn nm tr z).2)), aI (CxD X) 3 (nf (xOg ((xRel tp tn nm tr z).2))), aJ (CxD X) 8 nm, aI (CxD X) 40 wt]) [mo, a 0, a 4, a 5, a 6, a 13, a 42]) : Aw X [mo, a 0, a 4, a 5, a 6, a 13, a 42] [ob 11 (.ref (a 0) :: .int (nI tn) :: .int (xFk z) :: .int (xFp z) :: .ref (a 4) :: .ref (a 5) :: .ref (a 6) :: .ref (a 7) :: .ref (a 8) :: .ref (a 9) :: .ref (a 10) :: .ref (a 11) :: .ref (a 12) :: .ref (a 13) :: .int (nI tr) :: .int (nI fm) :: .int ck :: .int te :: .int (nI fn) :: .ref (a 19) :: .ref (a 20) :: .ref (a 21) :: .ref (a 22) :: .ref (a 23) :: .ref (a 24) :: .ref (a 25) :: .ref (a 26) :: .ref (a 27) :: .int (b2 hp) :: .int yn :: .int (b2 ir) :: .ref (a 31) :: .int rc :: .ref (a 33) :: .int (nI mv) :: .int (xKd z) :: .int (nI (xBg z)) :: .int (nI (xEn z)) :: .int (xMk z) :: .long (xLe z) :: .int (nI (xTk z)) :: .int (nI (xOp z)) :: .ref (a 42) :: .int (nI wn) :: .ref (a 44) :: .int (nI jn) :: .ref (a 46) :: .ref (a 47) :: .ref (a 48) :: .ref (a 49) :: .ref (a 50) :: .ref (a 51) :: .int (b2 ke) :: .ref (a 53) :: .ref (a 54) :: .ref (a 55) :: .int (nI cq) :: .int (nI cm) :: []), aB (CxD X) 3000 tp, aI (CxD X) 3900 (xOr z), aI (CxD X) 3900 (xNu z), aI (CxD X) 3 (nf (xOg z)), aJ (CxD X) 8 nm, aI (CxD X) 40 wt] 0 [(0, .ref mo)] [] := by
  refine r_aload_n (n := 1) hX dX11_relation_0 rfl rfl 0 rfl ?_
  refine r_callV (n := 4) (av := []) hX (ct_X11_expression (CxL X) (CxD X) mo a tn tr fm fn mv cq cm ck te yn rc hp ir ke jn tp nm z wt wn ht htr hz ho hg) ml_X11_230 cv_X11_expression rfl (by decide) [0, 1, 2, 3, 4, 5, 6] rfl rfl (by decide) 0 rfl rfl rfl rfl rfl (Nat.le_of_ble_eq_true rfl) dX11_relation_1 rfl (fun r_ es_ h_ l_ => ?_)
  obtain ⟨rfl, wt1, wn1, rfl⟩ := h_
  show Aw X [mo, a 0, a 4, a 5, a 6, a 13, a 42] [ob 11 (.ref (a 0) :: .int (nI tn) :: .int (xFk ((xExp tp tn nm tr z).2)) :: .int (xFp ((xExp tp tn nm tr z).2)) :: .ref (a 4) :: .ref (a 5) :: .ref (a 6) :: .ref (a 7) :: .ref (a 8) :: .ref (a 9) :: .ref (a 10) :: .ref (a 11) :: .ref (a 12) :: .ref (a 13) :: .int (nI tr) :: .int (nI fm) :: .int ck :: .int te :: .int (nI fn) :: .ref (a 19) :: .ref (a 20) :: .ref (a 21) :: .ref (a 22) :: .ref (a 23) :: .ref (a 24) :: .ref (a 25) :: .ref (a 26) :: .ref (a 27) :: .int (b2 hp) :: .int yn :: .int (b2 ir) :: .ref (a 31) :: .int rc :: .ref (a 33) :: .int (nI mv) :: .int (xKd ((xExp tp tn nm tr z).2)) :: .int (nI (xBg ((xExp tp tn nm tr z).2))) :: .int (nI (xEn ((xExp tp tn nm tr z).2))) :: .int (xMk ((xExp tp tn nm tr z).2)) :: .long (xLe ((xExp tp tn nm tr z).2)) :: .int (nI (xTk ((xExp tp tn nm tr z).2))) :: .int (nI (xOp ((xExp tp tn nm tr z).2))) :: .ref (a 42) :: .int (nI wn1) :: .ref (a 44) :: .int (nI jn) :: .ref (a 46) :: .ref (a 47) :: .ref (a 48) :: .ref (a 49) :: .ref (a 50) :: .ref (a 51) :: .int (b2 ke) :: .ref (a 53) :: .ref (a 54) :: .ref (a 55) :: .int (nI cq) :: .int (nI cm) :: []), aB (CxD X) 3000 tp, aI (CxD X) 3900 (xOr ((xExp tp tn nm tr z).2)), aI (CxD X) 3900 (xNu ((xExp tp tn nm tr z).2)), aI (CxD X) 3 (nf (xOg ((xExp tp tn nm tr z).2))), aJ (CxD X) 8 nm, aI (CxD X) 40 wt1] 4 [(0, .ref mo)] [.int (b2 ((xExp tp tn nm tr z).1))]
  refine r_if_ne_b (tgt := 9) (n := 7) hX dX11_relation_4 (by decide) rfl (fun c4 => ?_) (fun c4 => ?_)
  · skip
    have q1 := xExp_ok c4 hz
    generalize hy2 : (xExp tp tn nm tr z).2 = y at q1 ⊢
    have hy : xExp tp tn nm tr z = (true, y) := Prod.ext c4 hy2
    obtain ⟨q1, q2, q3, q4⟩ := q1
    refine r_aload_n (n := 10) hX dX11_relation_9 rfl rfl 0 rfl ?_
    refine r_get (n := 13) hX 0 rfl rfl rfl 35 (by decide) lay_X11 fl_X11_155 rfl dX11_relation_10 rfl ?_
    refine r_iconst (n := 14) hX 3 dX11_relation_13 rfl rfl ?_
    refine r_icmp_ne (tgt := 56) (n := 17) hX dX11_relation_14 (by decide) rfl (fun c14 => ?_) (fun c14 => ?_)
    · skip
      refine r_aload_n (n := 57) hX dX11_relation_56 rfl rfl 0 rfl ?_
      refine r_iconst (n := 58) hX 1 dX11_relation_57 rfl rfl ?_
      refine r_aload_n (n := 59) hX dX11_relation_58 rfl rfl 0 rfl ?_
      refine r_get (n := 62) hX 0 rfl rfl rfl 36 (by decide) lay_X11 fl_X11_149 rfl dX11_relation_59 rfl ?_
      refine r_callV (n := 65) (av := [.int 1, .int (nI (xBg y))]) hX (ct_X11_stop (CxL X) (CxD X) mo a tn tr fm fn mv (xBg y) (xEn y) (xTk y) (xOp y) wn1 jn cq cm (xFk y) (xFp y) ck te yn rc (xKd y) (xMk y) (xLe y) hp ir ke 1 (nI (xBg y))) ml_X11_179 cv_X11_stop rfl (by decide) [0] rfl rfl (by decide) 0 rfl rfl rfl rfl rfl (Nat.le_of_ble_eq_true rfl) dX11_relation_62 rfl (fun r_ es_ h_ l_ => ?_)
      obtain ⟨rfl, rfl⟩ := h_
      show Aw X [mo, a 0, a 4, a 5, a 6, a 13, a 42] [ob 11 (.ref (a 0) :: .int (nI tn) :: .int (xFk (xStop y 1)) :: .int (xFp (xStop y 1)) :: .ref (a 4) :: .ref (a 5) :: .ref (a 6) :: .ref (a 7) :: .ref (a 8) :: .ref (a 9) :: .ref (a 10) :: .ref (a 11) :: .ref (a 12) :: .ref (a 13) :: .int (nI tr) :: .int (nI fm) :: .int ck :: .int te :: .int (nI fn) :: .ref (a 19) :: .ref (a 20) :: .ref (a 21) :: .ref (a 22) :: .ref (a 23) :: .ref (a 24) :: .ref (a 25) :: .ref (a 26) :: .ref (a 27) :: .int (b2 hp) :: .int yn :: .int (b2 ir) :: .ref (a 31) :: .int rc :: .ref (a 33) :: .int (nI mv) :: .int (xKd (xStop y 1)) :: .int (nI (xBg (xStop y 1))) :: .int (nI (xEn (xStop y 1))) :: .int (xMk (xStop y 1)) :: .long (xLe (xStop y 1)) :: .int (nI (xTk (xStop y 1))) :: .int (nI (xOp (xStop y 1))) :: .ref (a 42) :: .int (nI wn1) :: .ref (a 44) :: .int (nI jn) :: .ref (a 46) :: .ref (a 47) :: .ref (a 48) :: .ref (a 49) :: .ref (a 50) :: .ref (a 51) :: .int (b2 ke) :: .ref (a 53) :: .ref (a 54) :: .ref (a 55) :: .int (nI cq) :: .int (nI cm) :: []), aB (CxD X) 3000 tp, aI (CxD X) 3900 (xOr (xStop y 1)), aI (CxD X) 3900 (xNu (xStop y 1)), aI (CxD X) 3 (nf (xOg (xStop y 1))), aJ (CxD X) 8 nm, aI (CxD X) 40 wt1] 65 [(0, .ref mo)] [.int (b2 false)]
      exact r_zreturn hX hR rfl dX11_relation_65 (by have e : xRel tp tn nm tr z = (false, (xStop y 1)) := (by rw [xRel, hy]; have hro : xRo y = none := (by rw [xRo, if_neg c14]); simp only [xB, xRel2, hro, if_true]); rw [e]; exact ⟨rfl, _, _, rfl⟩)
    · skip
      refine r_aload_n (n := 18) hX dX11_relation_17 rfl rfl 0 rfl ?_
      refine r_get (n := 21) hX 0 rfl rfl rfl 38 (by decide) lay_X11 fl_X11_152 rfl dX11_relation_18 rfl ?_
      refine r_sipush (n := 24) hX 256 dX11_relation_21 rfl rfl ?_
      refine r_icmp_eq (tgt := 66) (n := 27) hX dX11_relation_24 (by decide) rfl (fun c24 => ?_) (fun c24 => ?_)
      · skip
        refine r_aload_n (n := 67) hX dX11_relation_66 rfl rfl 0 rfl ?_
        refine r_get (n := 70) hX 0 rfl rfl rfl 38 (by decide) lay_X11 fl_X11_152 rfl dX11_relation_67 rfl ?_
        refine r_sipush (n := 73) hX 256 dX11_relation_70 rfl rfl ?_
        refine r_icmp_ne (tgt := 81) (n := 76) hX dX11_relation_73 (by decide) rfl (fun c73 => absurd c73 (fun e => e c24)) (fun c73 => ?_)
        refine r_bipush (n := 78) hX 7 dX11_relation_76 rfl rfl ?_
        refine r_goto (tgt := 113) hX dX11_relation_78 (by decide) ?_
        have hro : xRo y = some 7 := by rw [xRo, if_pos c14, if_pos c24]
        refine r_istore_n (n := 114) hX [(0, .ref mo), (1, .int 7)] dX11_relation_113 rfl rfl (by decide) rfl ?_
        refine r_aload_n (n := 115) hX dX11_relation_114 rfl rfl 0 rfl ?_
        refine r_callV (n := 118) (av := []) hX (ct_X11_pass (CxL X) (CxD X) mo a tn tr fm fn mv cq cm ck te yn rc hp ir ke wn1 jn tp y ht q1) ml_X11_189 cv_X11_pass rfl (by decide) [0, 1, 2, 3, 4] rfl rfl (by decide) 0 rfl rfl rfl rfl rfl (Nat.le_of_ble_eq_true rfl) dX11_relation_115 rfl (fun r_ es_ h_ l_ => ?_)
        obtain ⟨rfl, rfl⟩ := h_
        show Aw X [mo, a 0, a 4, a 5, a 6, a 13, a 42] [ob 11 (.ref (a 0) :: .int (nI tn) :: .int (xFk (xPass tp tn y)) :: .int (xFp (xPass tp tn y)) :: .ref (a 4) :: .ref (a 5) :: .ref (a 6) :: .ref (a 7) :: .ref (a 8) :: .ref (a 9) :: .ref (a 10) :: .ref (a 11) :: .ref (a 12) :: .ref (a 13) :: .int (nI tr) :: .int (nI fm) :: .int ck :: .int te :: .int (nI fn) :: .ref (a 19) :: .ref (a 20) :: .ref (a 21) :: .ref (a 22) :: .ref (a 23) :: .ref (a 24) :: .ref (a 25) :: .ref (a 26) :: .ref (a 27) :: .int (b2 hp) :: .int yn :: .int (b2 ir) :: .ref (a 31) :: .int rc :: .ref (a 33) :: .int (nI mv) :: .int (xKd (xPass tp tn y)) :: .int (nI (xBg (xPass tp tn y))) :: .int (nI (xEn (xPass tp tn y))) :: .int (xMk (xPass tp tn y)) :: .long (xLe (xPass tp tn y)) :: .int (nI (xTk (xPass tp tn y))) :: .int (nI (xOp (xPass tp tn y))) :: .ref (a 42) :: .int (nI wn1) :: .ref (a 44) :: .int (nI jn) :: .ref (a 46) :: .ref (a 47) :: .ref (a 48) :: .ref (a 49) :: .ref (a 50) :: .ref (a 51) :: .int (b2 ke) :: .ref (a 53) :: .ref (a 54) :: .ref (a 55) :: .int (nI cq) :: .int (nI cm) :: []), aB (CxD X) 3000 tp, aI (CxD X) 3900 (xOr (xPass tp tn y)), aI (CxD X) 3900 (xNu (xPass tp tn y)), aI (CxD X) 3 (nf (xOg (xPass tp tn y))), aJ (CxD X) 8 nm, aI (CxD X) 40 wt1] 118 [(0, .ref mo), (1, .int 7)] [.int (b2 (xPassB y))]
        refine r_if_eq_b (tgt := 128) (n := 121) hX dX11_relation_118 (by decide) rfl (fun c118 => ?_) (fun c118 => ?_)
        · skip
          refine r_iconst (n := 129) hX 0 dX11_relation_128 rfl rfl ?_
          exact r_zreturn hX hR rfl dX11_relation_129 (by have e : xRel tp tn nm tr z = (false, (xPass tp tn y)) := (by rw [xRel, hy]; simp only [xB, xRel2, hro, xRel3, xP, c118, if_true, if_false, Bool.false_eq_true]); rw [e]; exact ⟨rfl, _, _, rfl⟩)
        · skip
          skip
          refine r_aload_n (n := 122) hX dX11_relation_121 rfl rfl 0 rfl ?_
          refine r_callV (n := 125) (av := []) hX (ct_X11_expression (CxL X) (CxD X) mo a tn tr fm fn mv cq cm ck te yn rc hp ir ke jn tp nm (xPass tp tn y) wt1 wn1 ht htr (xPass_ok q1) (by show xOp y ≤ 8; omega) (by have h1 := xPass_tk (tp := tp) (tn := tn) c118; show xOg y 2 ≤ xTk (xPass tp tn y); omega)) ml_X11_230 cv_X11_expression rfl (by decide) [0, 1, 2, 3, 4, 5, 6] rfl rfl (by decide) 0 rfl rfl rfl rfl rfl (Nat.le_of_ble_eq_true rfl) dX11_relation_122 rfl (fun r_ es_ h_ l_ => ?_)
          obtain ⟨rfl, wt2, wn2, rfl⟩ := h_
          show Aw X [mo, a 0, a 4, a 5, a 6, a 13, a 42] [ob 11 (.ref (a 0) :: .int (nI tn) :: .int (xFk ((xExp tp tn nm tr (xPass tp tn y)).2)) :: .int (xFp ((xExp tp tn nm tr (xPass tp tn y)).2)) :: .ref (a 4) :: .ref (a 5) :: .ref (a 6) :: .ref (a 7) :: .ref (a 8) :: .ref (a 9) :: .ref (a 10) :: .ref (a 11) :: .ref (a 12) :: .ref (a 13) :: .int (nI tr) :: .int (nI fm) :: .int ck :: .int te :: .int (nI fn) :: .ref (a 19) :: .ref (a 20) :: .ref (a 21) :: .ref (a 22) :: .ref (a 23) :: .ref (a 24) :: .ref (a 25) :: .ref (a 26) :: .ref (a 27) :: .int (b2 hp) :: .int yn :: .int (b2 ir) :: .ref (a 31) :: .int rc :: .ref (a 33) :: .int (nI mv) :: .int (xKd ((xExp tp tn nm tr (xPass tp tn y)).2)) :: .int (nI (xBg ((xExp tp tn nm tr (xPass tp tn y)).2))) :: .int (nI (xEn ((xExp tp tn nm tr (xPass tp tn y)).2))) :: .int (xMk ((xExp tp tn nm tr (xPass tp tn y)).2)) :: .long (xLe ((xExp tp tn nm tr (xPass tp tn y)).2)) :: .int (nI (xTk ((xExp tp tn nm tr (xPass tp tn y)).2))) :: .int (nI (xOp ((xExp tp tn nm tr (xPass tp tn y)).2))) :: .ref (a 42) :: .int (nI wn2) :: .ref (a 44) :: .int (nI jn) :: .ref (a 46) :: .ref (a 47) :: .ref (a 48) :: .ref (a 49) :: .ref (a 50) :: .ref (a 51) :: .int (b2 ke) :: .ref (a 53) :: .ref (a 54) :: .ref (a 55) :: .int (nI cq) :: .int (nI cm) :: []), aB (CxD X) 3000 tp, aI (CxD X) 3900 (xOr ((xExp tp tn nm tr (xPass tp tn y)).2)), aI (CxD X) 3900 (xNu ((xExp tp tn nm tr (xPass tp tn y)).2)), aI (CxD X) 3 (nf (xOg ((xExp tp tn nm tr (xPass tp tn y)).2))), aJ (CxD X) 8 nm, aI (CxD X) 40 wt2] 125 [(0, .ref mo), (1, .int 7)] [.int (b2 ((xExp tp tn nm tr (xPass tp tn y)).1))]
          refine r_if_ne_b (tgt := 130) (n := 128) hX dX11_relation_125 (by decide) rfl (fun c125 => ?_) (fun c125 => ?_)
          · skip
            refine r_aload_n (n := 131) hX dX11_relation_130 rfl rfl 0 rfl ?_
            refine r_iload_n (n := 132) hX dX11_relation_131 rfl rfl 1 rfl ?_
            refine r_iconst (n := 133) hX 0 dX11_relation_132 rfl rfl ?_
            refine r_callV (n := 136) (av := [.int 7, .int 0]) hX (ct_X11_emit (CxL X) (CxD X) mo a tn tr fm fn mv cq cm ck te yn rc hp ir ke wn2 jn ((xExp tp tn nm tr (xPass tp tn y)).2) 7 0 (by have h0 := xExp_ok c125 (xPass_ok q1); have h1 := h0.2.2.1; have h2 := h0.1.2; have h3 : xOg (xPass tp tn y) 2 = xOg y 2 := rfl; have h4 := xPass_tk (tp := tp) (tn := tn) c118; omega)) ml_X11_202 cv_X11_emit rfl (by decide) [0, 2, 3, 4] rfl rfl (by decide) 0 rfl rfl rfl rfl rfl (Nat.le_of_ble_eq_true rfl) dX11_relation_133 rfl (fun r_ es_ h_ l_ => ?_)
            obtain ⟨rfl, rfl⟩ := h_
            show Aw X [mo, a 0, a 4, a 5, a 6, a 13, a 42] [ob 11 (.ref (a 0) :: .int (nI tn) :: .int (xFk (xEmit ((xExp tp tn nm tr (xPass tp tn y)).2) 7 0)) :: .int (xFp (xEmit ((xExp tp tn nm tr (xPass tp tn y)).2) 7 0)) :: .ref (a 4) :: .ref (a 5) :: .ref (a 6) :: .ref (a 7) :: .ref (a 8) :: .ref (a 9) :: .ref (a 10) :: .ref (a 11) :: .ref (a 12) :: .ref (a 13) :: .int (nI tr) :: .int (nI fm) :: .int ck :: .int te :: .int (nI fn) :: .ref (a 19) :: .ref (a 20) :: .ref (a 21) :: .ref (a 22) :: .ref (a 23) :: .ref (a 24) :: .ref (a 25) :: .ref (a 26) :: .ref (a 27) :: .int (b2 hp) :: .int yn :: .int (b2 ir) :: .ref (a 31) :: .int rc :: .ref (a 33) :: .int (nI mv) :: .int (xKd (xEmit ((xExp tp tn nm tr (xPass tp tn y)).2) 7 0)) :: .int (nI (xBg (xEmit ((xExp tp tn nm tr (xPass tp tn y)).2) 7 0))) :: .int (nI (xEn (xEmit ((xExp tp tn nm tr (xPass tp tn y)).2) 7 0))) :: .int (xMk (xEmit ((xExp tp tn nm tr (xPass tp tn y)).2) 7 0)) :: .long (xLe (xEmit ((xExp tp tn nm tr (xPass tp tn y)).2) 7 0)) :: .int (nI (xTk (xEmit ((xExp tp tn nm tr (xPass tp tn y)).2) 7 0))) :: .int (nI (xOp (xEmit ((xExp tp tn nm tr (xPass tp tn y)).2) 7 0))) :: .ref (a 42) :: .int (nI wn2) :: .ref (a 44) :: .int (nI jn) :: .ref (a 46) :: .ref (a 47) :: .ref (a 48) :: .ref (a 49) :: .ref (a 50) :: .ref (a 51) :: .int (b2 ke) :: .ref (a 53) :: .ref (a 54) :: .ref (a 55) :: .int (nI cq) :: .int (nI cm) :: []), aB (CxD X) 3000 tp, aI (CxD X) 3900 (xOr (xEmit ((xExp tp tn nm tr (xPass tp tn y)).2) 7 0)), aI (CxD X) 3900 (xNu (xEmit ((xExp tp tn nm tr (xPass tp tn y)).2) 7 0)), aI (CxD X) 3 (nf (xOg (xEmit ((xExp tp tn nm tr (xPass tp tn y)).2) 7 0))), aJ (CxD X) 8 nm, aI (CxD X) 40 wt2] 136 [(0, .ref mo), (1, .int 7)] []
            refine r_iconst (n := 137) hX 1 dX11_relation_136 rfl rfl ?_
            exact r_zreturn hX hR rfl dX11_relation_137 (by have e : xRel tp tn nm tr z = (true, (xEmit ((xExp tp tn nm tr (xPass tp tn y)).2) 7 0)) := (by rw [xRel, hy]; simp only [xB, xRel2, hro, xRel3, xP, c118, c125, if_true, if_false, Bool.false_eq_true]); rw [e]; exact ⟨rfl, _, _, rfl⟩)
          · skip
            refine r_iconst (n := 129) hX 0 dX11_relation_128 rfl rfl ?_
            exact r_zreturn hX hR rfl dX11_relation_129 (by have e : xRel tp tn nm tr z = (false, (xExp tp tn nm tr (xPass tp tn y)).2) := (by rw [xRel, hy]; simp only [xB, xRel2, hro, xRel3, xP, c118, c125, if_true, if_false, Bool.false_eq_true]); rw [e]; exact ⟨rfl, _, _, rfl⟩)
      · skip
        refine r_aload_n (n := 28) hX dX11_relation_27 rfl rfl 0 rfl ?_
        refine r_get (n := 31) hX 0 rfl rfl rfl 38 (by decide) lay_X11 fl_X11_152 rfl dX11_relation_28 rfl ?_
        refine r_sipush (n := 34) hX 257 dX11_relation_31 rfl rfl ?_
        refine r_icmp_eq (tgt := 66) (n := 37) hX dX11_relation_34 (by decide) rfl (fun c34 => ?_) (fun c34 => ?_)
        · skip
          refine r_aload_n (n := 67) hX dX11_relation_66 rfl rfl 0 rfl ?_
          refine r_get (n := 70) hX 0 rfl rfl rfl 38 (by decide) lay_X11 fl_X11_152 rfl dX11_relation_67 rfl ?_
          refine r_sipush (n := 73) hX 256 dX11_relation_70 rfl rfl ?_
          refine r_icmp_ne (tgt := 81) (n := 76) hX dX11_relation_73 (by decide) rfl (fun c73 => ?_) (fun c73 => absurd c73 c24)
          refine r_aload_n (n := 82) hX dX11_relation_81 rfl rfl 0 rfl ?_
          refine r_get (n := 85) hX 0 rfl rfl rfl 38 (by decide) lay_X11 fl_X11_152 rfl dX11_relation_82 rfl ?_
          refine r_sipush (n := 88) hX 257 dX11_relation_85 rfl rfl ?_
          refine r_icmp_ne (tgt := 96) (n := 91) hX dX11_relation_88 (by decide) rfl (fun c88 => absurd c88 (fun e => e c34)) (fun c88 => ?_)
          refine r_bipush (n := 93) hX 8 dX11_relation_91 rfl rfl ?_
          refine r_goto (tgt := 113) hX dX11_relation_93 (by decide) ?_
          have hro : xRo y = some 8 := by rw [xRo, if_pos c14, if_neg c24, if_pos c34]
          refine r_istore_n (n := 114) hX [(0, .ref mo), (1, .int 8)] dX11_relation_113 rfl rfl (by decide) rfl ?_
          refine r_aload_n (n := 115) hX dX11_relation_114 rfl rfl 0 rfl ?_
          refine r_callV (n := 118) (av := []) hX (ct_X11_pass (CxL X) (CxD X) mo a tn tr fm fn mv cq cm ck te yn rc hp ir ke wn1 jn tp y ht q1) ml_X11_189 cv_X11_pass rfl (by decide) [0, 1, 2, 3, 4] rfl rfl (by decide) 0 rfl rfl rfl rfl rfl (Nat.le_of_ble_eq_true rfl) dX11_relation_115 rfl (fun r_ es_ h_ l_ => ?_)
          obtain ⟨rfl, rfl⟩ := h_
          show Aw X [mo, a 0, a 4, a 5, a 6, a 13, a 42] [ob 11 (.ref (a 0) :: .int (nI tn) :: .int (xFk (xPass tp tn y)) :: .int (xFp (xPass tp tn y)) :: .ref (a 4) :: .ref (a 5) :: .ref (a 6) :: .ref (a 7) :: .ref (a 8) :: .ref (a 9) :: .ref (a 10) :: .ref (a 11) :: .ref (a 12) :: .ref (a 13) :: .int (nI tr) :: .int (nI fm) :: .int ck :: .int te :: .int (nI fn) :: .ref (a 19) :: .ref (a 20) :: .ref (a 21) :: .ref (a 22) :: .ref (a 23) :: .ref (a 24) :: .ref (a 25) :: .ref (a 26) :: .ref (a 27) :: .int (b2 hp) :: .int yn :: .int (b2 ir) :: .ref (a 31) :: .int rc :: .ref (a 33) :: .int (nI mv) :: .int (xKd (xPass tp tn y)) :: .int (nI (xBg (xPass tp tn y))) :: .int (nI (xEn (xPass tp tn y))) :: .int (xMk (xPass tp tn y)) :: .long (xLe (xPass tp tn y)) :: .int (nI (xTk (xPass tp tn y))) :: .int (nI (xOp (xPass tp tn y))) :: .ref (a 42) :: .int (nI wn1) :: .ref (a 44) :: .int (nI jn) :: .ref (a 46) :: .ref (a 47) :: .ref (a 48) :: .ref (a 49) :: .ref (a 50) :: .ref (a 51) :: .int (b2 ke) :: .ref (a 53) :: .ref (a 54) :: .ref (a 55) :: .int (nI cq) :: .int (nI cm) :: []), aB (CxD X) 3000 tp, aI (CxD X) 3900 (xOr (xPass tp tn y)), aI (CxD X) 3900 (xNu (xPass tp tn y)), aI (CxD X) 3 (nf (xOg (xPass tp tn y))), aJ (CxD X) 8 nm, aI (CxD X) 40 wt1] 118 [(0, .ref mo), (1, .int 8)] [.int (b2 (xPassB y))]
          refine r_if_eq_b (tgt := 128) (n := 121) hX dX11_relation_118 (by decide) rfl (fun c118 => ?_) (fun c118 => ?_)
          · skip
            refine r_iconst (n := 129) hX 0 dX11_relation_128 rfl rfl ?_
            exact r_zreturn hX hR rfl dX11_relation_129 (by have e : xRel tp tn nm tr z = (false, (xPass tp tn y)) := (by rw [xRel, hy]; simp only [xB, xRel2, hro, xRel3, xP, c118, if_true, if_false, Bool.false_eq_true]); rw [e]; exact ⟨rfl, _, _, rfl⟩)
          · skip
            skip
            refine r_aload_n (n := 122) hX dX11_relation_121 rfl rfl 0 rfl ?_
            refine r_callV (n := 125) (av := []) hX (ct_X11_expression (CxL X) (CxD X) mo a tn tr fm fn mv cq cm ck te yn rc hp ir ke jn tp nm (xPass tp tn y) wt1 wn1 ht htr (xPass_ok q1) (by show xOp y ≤ 8; omega) (by have h1 := xPass_tk (tp := tp) (tn := tn) c118; show xOg y 2 ≤ xTk (xPass tp tn y); omega)) ml_X11_230 cv_X11_expression rfl (by decide) [0, 1, 2, 3, 4, 5, 6] rfl rfl (by decide) 0 rfl rfl rfl rfl rfl (Nat.le_of_ble_eq_true rfl) dX11_relation_122 rfl (fun r_ es_ h_ l_ => ?_)
            obtain ⟨rfl, wt2, wn2, rfl⟩ := h_
            show Aw X [mo, a 0, a 4, a 5, a 6, a 13, a 42] [ob 11 (.ref (a 0) :: .int (nI tn) :: .int (xFk ((xExp tp tn nm tr (xPass tp tn y)).2)) :: .int (xFp ((xExp tp tn nm tr (xPass tp tn y)).2)) :: .ref (a 4) :: .ref (a 5) :: .ref (a 6) :: .ref (a 7) :: .ref (a 8) :: .ref (a 9) :: .ref (a 10) :: .ref (a 11) :: .ref (a 12) :: .ref (a 13) :: .int (nI tr) :: .int (nI fm) :: .int ck :: .int te :: .int (nI fn) :: .ref (a 19) :: .ref (a 20) :: .ref (a 21) :: .ref (a 22) :: .ref (a 23) :: .ref (a 24) :: .ref (a 25) :: .ref (a 26) :: .ref (a 27) :: .int (b2 hp) :: .int yn :: .int (b2 ir) :: .ref (a 31) :: .int rc :: .ref (a 33) :: .int (nI mv) :: .int (xKd ((xExp tp tn nm tr (xPass tp tn y)).2)) :: .int (nI (xBg ((xExp tp tn nm tr (xPass tp tn y)).2))) :: .int (nI (xEn ((xExp tp tn nm tr (xPass tp tn y)).2))) :: .int (xMk ((xExp tp tn nm tr (xPass tp tn y)).2)) :: .long (xLe ((xExp tp tn nm tr (xPass tp tn y)).2)) :: .int (nI (xTk ((xExp tp tn nm tr (xPass tp tn y)).2))) :: .int (nI (xOp ((xExp tp tn nm tr (xPass tp tn y)).2))) :: .ref (a 42) :: .int (nI wn2) :: .ref (a 44) :: .int (nI jn) :: .ref (a 46) :: .ref (a 47) :: .ref (a 48) :: .ref (a 49) :: .ref (a 50) :: .ref (a 51) :: .int (b2 ke) :: .ref (a 53) :: .ref (a 54) :: .ref (a 55) :: .int (nI cq) :: .int (nI cm) :: []), aB (CxD X) 3000 tp, aI (CxD X) 3900 (xOr ((xExp tp tn nm tr (xPass tp tn y)).2)), aI (CxD X) 3900 (xNu ((xExp tp tn nm tr (xPass tp tn y)).2)), aI (CxD X) 3 (nf (xOg ((xExp tp tn nm tr (xPass tp tn y)).2))), aJ (CxD X) 8 nm, aI (CxD X) 40 wt2] 125 [(0, .ref mo), (1, .int 8)] [.int (b2 ((xExp tp tn nm tr (xPass tp tn y)).1))]
            refine r_if_ne_b (tgt := 130) (n := 128) hX dX11_relation_125 (by decide) rfl (fun c125 => ?_) (fun c125 => ?_)
            · skip
              refine r_aload_n (n := 131) hX dX11_relation_130 rfl rfl 0 rfl ?_
              refine r_iload_n (n := 132) hX dX11_relation_131 rfl rfl 1 rfl ?_
              refine r_iconst (n := 133) hX 0 dX11_relation_132 rfl rfl ?_
              refine r_callV (n := 136) (av := [.int 8, .int 0]) hX (ct_X11_emit (CxL X) (CxD X) mo a tn tr fm fn mv cq cm ck te yn rc hp ir ke wn2 jn ((xExp tp tn nm tr (xPass tp tn y)).2) 8 0 (by have h0 := xExp_ok c125 (xPass_ok q1); have h1 := h0.2.2.1; have h2 := h0.1.2; have h3 : xOg (xPass tp tn y) 2 = xOg y 2 := rfl; have h4 := xPass_tk (tp := tp) (tn := tn) c118; omega)) ml_X11_202 cv_X11_emit rfl (by decide) [0, 2, 3, 4] rfl rfl (by decide) 0 rfl rfl rfl rfl rfl (Nat.le_of_ble_eq_true rfl) dX11_relation_133 rfl (fun r_ es_ h_ l_ => ?_)
              obtain ⟨rfl, rfl⟩ := h_
              show Aw X [mo, a 0, a 4, a 5, a 6, a 13, a 42] [ob 11 (.ref (a 0) :: .int (nI tn) :: .int (xFk (xEmit ((xExp tp tn nm tr (xPass tp tn y)).2) 8 0)) :: .int (xFp (xEmit ((xExp tp tn nm tr (xPass tp tn y)).2) 8 0)) :: .ref (a 4) :: .ref (a 5) :: .ref (a 6) :: .ref (a 7) :: .ref (a 8) :: .ref (a 9) :: .ref (a 10) :: .ref (a 11) :: .ref (a 12) :: .ref (a 13) :: .int (nI tr) :: .int (nI fm) :: .int ck :: .int te :: .int (nI fn) :: .ref (a 19) :: .ref (a 20) :: .ref (a 21) :: .ref (a 22) :: .ref (a 23) :: .ref (a 24) :: .ref (a 25) :: .ref (a 26) :: .ref (a 27) :: .int (b2 hp) :: .int yn :: .int (b2 ir) :: .ref (a 31) :: .int rc :: .ref (a 33) :: .int (nI mv) :: .int (xKd (xEmit ((xExp tp tn nm tr (xPass tp tn y)).2) 8 0)) :: .int (nI (xBg (xEmit ((xExp tp tn nm tr (xPass tp tn y)).2) 8 0))) :: .int (nI (xEn (xEmit ((xExp tp tn nm tr (xPass tp tn y)).2) 8 0))) :: .int (xMk (xEmit ((xExp tp tn nm tr (xPass tp tn y)).2) 8 0)) :: .long (xLe (xEmit ((xExp tp tn nm tr (xPass tp tn y)).2) 8 0)) :: .int (nI (xTk (xEmit ((xExp tp tn nm tr (xPass tp tn y)).2) 8 0))) :: .int (nI (xOp (xEmit ((xExp tp tn nm tr (xPass tp tn y)).2) 8 0))) :: .ref (a 42) :: .int (nI wn2) :: .ref (a 44) :: .int (nI jn) :: .ref (a 46) :: .ref (a 47) :: .ref (a 48) :: .ref (a 49) :: .ref (a 50) :: .ref (a 51) :: .int (b2 ke) :: .ref (a 53) :: .ref (a 54) :: .ref (a 55) :: .int (nI cq) :: .int (nI cm) :: []), aB (CxD X) 3000 tp, aI (CxD X) 3900 (xOr (xEmit ((xExp tp tn nm tr (xPass tp tn y)).2) 8 0)), aI (CxD X) 3900 (xNu (xEmit ((xExp tp tn nm tr (xPass tp tn y)).2) 8 0)), aI (CxD X) 3 (nf (xOg (xEmit ((xExp tp tn nm tr (xPass tp tn y)).2) 8 0))), aJ (CxD X) 8 nm, aI (CxD X) 40 wt2] 136 [(0, .ref mo), (1, .int 8)] []
              refine r_iconst (n := 137) hX 1 dX11_relation_136 rfl rfl ?_
              exact r_zreturn hX hR rfl dX11_relation_137 (by have e : xRel tp tn nm tr z = (true, (xEmit ((xExp tp tn nm tr (xPass tp tn y)).2) 8 0)) := (by rw [xRel, hy]; simp only [xB, xRel2, hro, xRel3, xP, c118, c125, if_true, if_false, Bool.false_eq_true]); rw [e]; exact ⟨rfl, _, _, rfl⟩)
            · skip
              refine r_iconst (n := 129) hX 0 dX11_relation_128 rfl rfl ?_
              exact r_zreturn hX hR rfl dX11_relation_129 (by have e : xRel tp tn nm tr z = (false, (xExp tp tn nm tr (xPass tp tn y)).2) := (by rw [xRel, hy]; simp only [xB, xRel2, hro, xRel3, xP, c118, c125, if_true, if_false, Bool.false_eq_true]); rw [e]; exact ⟨rfl, _, _, rfl⟩)
        · skip
          refine r_aload_n (n := 38) hX dX11_relation_37 rfl rfl 0 rfl ?_
          refine r_get (n := 41) hX 0 rfl rfl rfl 38 (by decide) lay_X11 fl_X11_152 rfl dX11_relation_38 rfl ?_
          refine r_sipush (n := 44) hX 258 dX11_relation_41 rfl rfl ?_
          refine r_icmp_eq (tgt := 66) (n := 47) hX dX11_relation_44 (by decide) rfl (fun c44 => ?_) (fun c44 => ?_)
          · skip
            refine r_aload_n (n := 67) hX dX11_relation_66 rfl rfl 0 rfl ?_
            refine r_get (n := 70) hX 0 rfl rfl rfl 38 (by decide) lay_X11 fl_X11_152 rfl dX11_relation_67 rfl ?_
            refine r_sipush (n := 73) hX 256 dX11_relation_70 rfl rfl ?_
            refine r_icmp_ne (tgt := 81) (n := 76) hX dX11_relation_73 (by decide) rfl (fun c73 => ?_) (fun c73 => absurd c73 c24)
            refine r_aload_n (n := 82) hX dX11_relation_81 rfl rfl 0 rfl ?_
            refine r_get (n := 85) hX 0 rfl rfl rfl 38 (by decide) lay_X11 fl_X11_152 rfl dX11_relation_82 rfl ?_
            refine r_sipush (n := 88) hX 257 dX11_relation_85 rfl rfl ?_
            refine r_icmp_ne (tgt := 96) (n := 91) hX dX11_relation_88 (by decide) rfl (fun c88 => ?_) (fun c88 => absurd c88 c34)
            refine r_aload_n (n := 97) hX dX11_relation_96 rfl rfl 0 rfl ?_
            refine r_get (n := 100) hX 0 rfl rfl rfl 38 (by decide) lay_X11 fl_X11_152 rfl dX11_relation_97 rfl ?_
            refine r_sipush (n := 103) hX 258 dX11_relation_100 rfl rfl ?_
            refine r_icmp_ne (tgt := 111) (n := 106) hX dX11_relation_103 (by decide) rfl (fun c103 => absurd c103 (fun e => e c44)) (fun c103 => ?_)
            refine r_bipush (n := 108) hX 10 dX11_relation_106 rfl rfl ?_
            refine r_goto (tgt := 113) hX dX11_relation_108 (by decide) ?_
            have hro : xRo y = some 10 := by rw [xRo, if_pos c14, if_neg c24, if_neg c34, if_pos c44]
            refine r_istore_n (n := 114) hX [(0, .ref mo), (1, .int 10)] dX11_relation_113 rfl rfl (by decide) rfl ?_
            refine r_aload_n (n := 115) hX dX11_relation_114 rfl rfl 0 rfl ?_
            refine r_callV (n := 118) (av := []) hX (ct_X11_pass (CxL X) (CxD X) mo a tn tr fm fn mv cq cm ck te yn rc hp ir ke wn1 jn tp y ht q1) ml_X11_189 cv_X11_pass rfl (by decide) [0, 1, 2, 3, 4] rfl rfl (by decide) 0 rfl rfl rfl rfl rfl (Nat.le_of_ble_eq_true rfl) dX11_relation_115 rfl (fun r_ es_ h_ l_ => ?_)
            obtain ⟨rfl, rfl⟩ := h_
            show Aw X [mo, a 0, a 4, a 5, a 6, a 13, a 42] [ob 11 (.ref (a 0) :: .int (nI tn) :: .int (xFk (xPass tp tn y)) :: .int (xFp (xPass tp tn y)) :: .ref (a 4) :: .ref (a 5) :: .ref (a 6) :: .ref (a 7) :: .ref (a 8) :: .ref (a 9) :: .ref (a 10) :: .ref (a 11) :: .ref (a 12) :: .ref (a 13) :: .int (nI tr) :: .int (nI fm) :: .int ck :: .int te :: .int (nI fn) :: .ref (a 19) :: .ref (a 20) :: .ref (a 21) :: .ref (a 22) :: .ref (a 23) :: .ref (a 24) :: .ref (a 25) :: .ref (a 26) :: .ref (a 27) :: .int (b2 hp) :: .int yn :: .int (b2 ir) :: .ref (a 31) :: .int rc :: .ref (a 33) :: .int (nI mv) :: .int (xKd (xPass tp tn y)) :: .int (nI (xBg (xPass tp tn y))) :: .int (nI (xEn (xPass tp tn y))) :: .int (xMk (xPass tp tn y)) :: .long (xLe (xPass tp tn y)) :: .int (nI (xTk (xPass tp tn y))) :: .int (nI (xOp (xPass tp tn y))) :: .ref (a 42) :: .int (nI wn1) :: .ref (a 44) :: .int (nI jn) :: .ref (a 46) :: .ref (a 47) :: .ref (a 48) :: .ref (a 49) :: .ref (a 50) :: .ref (a 51) :: .int (b2 ke) :: .ref (a 53) :: .ref (a 54) :: .ref (a 55) :: .int (nI cq) :: .int (nI cm) :: []), aB (CxD X) 3000 tp, aI (CxD X) 3900 (xOr (xPass tp tn y)), aI (CxD X) 3900 (xNu (xPass tp tn y)), aI (CxD X) 3 (nf (xOg (xPass tp tn y))), aJ (CxD X) 8 nm, aI (CxD X) 40 wt1] 118 [(0, .ref mo), (1, .int 10)] [.int (b2 (xPassB y))]
            refine r_if_eq_b (tgt := 128) (n := 121) hX dX11_relation_118 (by decide) rfl (fun c118 => ?_) (fun c118 => ?_)
            · skip
              refine r_iconst (n := 129) hX 0 dX11_relation_128 rfl rfl ?_
              exact r_zreturn hX hR rfl dX11_relation_129 (by have e : xRel tp tn nm tr z = (false, (xPass tp tn y)) := (by rw [xRel, hy]; simp only [xB, xRel2, hro, xRel3, xP, c118, if_true, if_false, Bool.false_eq_true]); rw [e]; exact ⟨rfl, _, _, rfl⟩)
            · skip
              skip
              refine r_aload_n (n := 122) hX dX11_relation_121 rfl rfl 0 rfl ?_
              refine r_callV (n := 125) (av := []) hX (ct_X11_expression (CxL X) (CxD X) mo a tn tr fm fn mv cq cm ck te yn rc hp ir ke jn tp nm (xPass tp tn y) wt1 wn1 ht htr (xPass_ok q1) (by show xOp y ≤ 8; omega) (by have h1 := xPass_tk (tp := tp) (tn := tn) c118; show xOg y 2 ≤ xTk (xPass tp tn y); omega)) ml_X11_230 cv_X11_expression rfl (by decide) [0, 1, 2, 3, 4, 5, 6] rfl rfl (by decide) 0 rfl rfl rfl rfl rfl (Nat.le_of_ble_eq_true rfl) dX11_relation_122 rfl (fun r_ es_ h_ l_ => ?_)
              obtain ⟨rfl, wt2, wn2, rfl⟩ := h_
              show Aw X [mo, a 0, a 4, a 5, a 6, a 13, a 42] [ob 11 (.ref (a 0) :: .int (nI tn) :: .int (xFk ((xExp tp tn nm tr (xPass tp tn y)).2)) :: .int (xFp ((xExp tp tn nm tr (xPass tp tn y)).2)) :: .ref (a 4) :: .ref (a 5) :: .ref (a 6) :: .ref (a 7) :: .ref (a 8) :: .ref (a 9) :: .ref (a 10) :: .ref (a 11) :: .ref (a 12) :: .ref (a 13) :: .int (nI tr) :: .int (nI fm) :: .int ck :: .int te :: .int (nI fn) :: .ref (a 19) :: .ref (a 20) :: .ref (a 21) :: .ref (a 22) :: .ref (a 23) :: .ref (a 24) :: .ref (a 25) :: .ref (a 26) :: .ref (a 27) :: .int (b2 hp) :: .int yn :: .int (b2 ir) :: .ref (a 31) :: .int rc :: .ref (a 33) :: .int (nI mv) :: .int (xKd ((xExp tp tn nm tr (xPass tp tn y)).2)) :: .int (nI (xBg ((xExp tp tn nm tr (xPass tp tn y)).2))) :: .int (nI (xEn ((xExp tp tn nm tr (xPass tp tn y)).2))) :: .int (xMk ((xExp tp tn nm tr (xPass tp tn y)).2)) :: .long (xLe ((xExp tp tn nm tr (xPass tp tn y)).2)) :: .int (nI (xTk ((xExp tp tn nm tr (xPass tp tn y)).2))) :: .int (nI (xOp ((xExp tp tn nm tr (xPass tp tn y)).2))) :: .ref (a 42) :: .int (nI wn2) :: .ref (a 44) :: .int (nI jn) :: .ref (a 46) :: .ref (a 47) :: .ref (a 48) :: .ref (a 49) :: .ref (a 50) :: .ref (a 51) :: .int (b2 ke) :: .ref (a 53) :: .ref (a 54) :: .ref (a 55) :: .int (nI cq) :: .int (nI cm) :: []), aB (CxD X) 3000 tp, aI (CxD X) 3900 (xOr ((xExp tp tn nm tr (xPass tp tn y)).2)), aI (CxD X) 3900 (xNu ((xExp tp tn nm tr (xPass tp tn y)).2)), aI (CxD X) 3 (nf (xOg ((xExp tp tn nm tr (xPass tp tn y)).2))), aJ (CxD X) 8 nm, aI (CxD X) 40 wt2] 125 [(0, .ref mo), (1, .int 10)] [.int (b2 ((xExp tp tn nm tr (xPass tp tn y)).1))]
              refine r_if_ne_b (tgt := 130) (n := 128) hX dX11_relation_125 (by decide) rfl (fun c125 => ?_) (fun c125 => ?_)
              · skip
                refine r_aload_n (n := 131) hX dX11_relation_130 rfl rfl 0 rfl ?_
                refine r_iload_n (n := 132) hX dX11_relation_131 rfl rfl 1 rfl ?_
                refine r_iconst (n := 133) hX 0 dX11_relation_132 rfl rfl ?_
                refine r_callV (n := 136) (av := [.int 10, .int 0]) hX (ct_X11_emit (CxL X) (CxD X) mo a tn tr fm fn mv cq cm ck te yn rc hp ir ke wn2 jn ((xExp tp tn nm tr (xPass tp tn y)).2) 10 0 (by have h0 := xExp_ok c125 (xPass_ok q1); have h1 := h0.2.2.1; have h2 := h0.1.2; have h3 : xOg (xPass tp tn y) 2 = xOg y 2 := rfl; have h4 := xPass_tk (tp := tp) (tn := tn) c118; omega)) ml_X11_202 cv_X11_emit rfl (by decide) [0, 2, 3, 4] rfl rfl (by decide) 0 rfl rfl rfl rfl rfl (Nat.le_of_ble_eq_true rfl) dX11_relation_133 rfl (fun r_ es_ h_ l_ => ?_)
                obtain ⟨rfl, rfl⟩ := h_
                show Aw X [mo, a 0, a 4, a 5, a 6, a 13, a 42] [ob 11 (.ref (a 0) :: .int (nI tn) :: .int (xFk (xEmit ((xExp tp tn nm tr (xPass tp tn y)).2) 10 0)) :: .int (xFp (xEmit ((xExp tp tn nm tr (xPass tp tn y)).2) 10 0)) :: .ref (a 4) :: .ref (a 5) :: .ref (a 6) :: .ref (a 7) :: .ref (a 8) :: .ref (a 9) :: .ref (a 10) :: .ref (a 11) :: .ref (a 12) :: .ref (a 13) :: .int (nI tr) :: .int (nI fm) :: .int ck :: .int te :: .int (nI fn) :: .ref (a 19) :: .ref (a 20) :: .ref (a 21) :: .ref (a 22) :: .ref (a 23) :: .ref (a 24) :: .ref (a 25) :: .ref (a 26) :: .ref (a 27) :: .int (b2 hp) :: .int yn :: .int (b2 ir) :: .ref (a 31) :: .int rc :: .ref (a 33) :: .int (nI mv) :: .int (xKd (xEmit ((xExp tp tn nm tr (xPass tp tn y)).2) 10 0)) :: .int (nI (xBg (xEmit ((xExp tp tn nm tr (xPass tp tn y)).2) 10 0))) :: .int (nI (xEn (xEmit ((xExp tp tn nm tr (xPass tp tn y)).2) 10 0))) :: .int (xMk (xEmit ((xExp tp tn nm tr (xPass tp tn y)).2) 10 0)) :: .long (xLe (xEmit ((xExp tp tn nm tr (xPass tp tn y)).2) 10 0)) :: .int (nI (xTk (xEmit ((xExp tp tn nm tr (xPass tp tn y)).2) 10 0))) :: .int (nI (xOp (xEmit ((xExp tp tn nm tr (xPass tp tn y)).2) 10 0))) :: .ref (a 42) :: .int (nI wn2) :: .ref (a 44) :: .int (nI jn) :: .ref (a 46) :: .ref (a 47) :: .ref (a 48) :: .ref (a 49) :: .ref (a 50) :: .ref (a 51) :: .int (b2 ke) :: .ref (a 53) :: .ref (a 54) :: .ref (a 55) :: .int (nI cq) :: .int (nI cm) :: []), aB (CxD X) 3000 tp, aI (CxD X) 3900 (xOr (xEmit ((xExp tp tn nm tr (xPass tp tn y)).2) 10 0)), aI (CxD X) 3900 (xNu (xEmit ((xExp tp tn nm tr (xPass tp tn y)).2) 10 0)), aI (CxD X) 3 (nf (xOg (xEmit ((xExp tp tn nm tr (xPass tp tn y)).2) 10 0))), aJ (CxD X) 8 nm, aI (CxD X) 40 wt2] 136 [(0, .ref mo), (1, .int 10)] []
                refine r_iconst (n := 137) hX 1 dX11_relation_136 rfl rfl ?_
                exact r_zreturn hX hR rfl dX11_relation_137 (by have e : xRel tp tn nm tr z = (true, (xEmit ((xExp tp tn nm tr (xPass tp tn y)).2) 10 0)) := (by rw [xRel, hy]; simp only [xB, xRel2, hro, xRel3, xP, c118, c125, if_true, if_false, Bool.false_eq_true]); rw [e]; exact ⟨rfl, _, _, rfl⟩)
              · skip
                refine r_iconst (n := 129) hX 0 dX11_relation_128 rfl rfl ?_
                exact r_zreturn hX hR rfl dX11_relation_129 (by have e : xRel tp tn nm tr z = (false, (xExp tp tn nm tr (xPass tp tn y)).2) := (by rw [xRel, hy]; simp only [xB, xRel2, hro, xRel3, xP, c118, c125, if_true, if_false, Bool.false_eq_true]); rw [e]; exact ⟨rfl, _, _, rfl⟩)
          · skip
            refine r_aload_n (n := 48) hX dX11_relation_47 rfl rfl 0 rfl ?_
            refine r_get (n := 51) hX 0 rfl rfl rfl 38 (by decide) lay_X11 fl_X11_152 rfl dX11_relation_48 rfl ?_
            refine r_bipush (n := 53) hX 60 dX11_relation_51 rfl rfl ?_
            refine r_icmp_eq (tgt := 66) (n := 56) hX dX11_relation_53 (by decide) rfl (fun c53 => ?_) (fun c53 => ?_)
            · skip
              refine r_aload_n (n := 67) hX dX11_relation_66 rfl rfl 0 rfl ?_
              refine r_get (n := 70) hX 0 rfl rfl rfl 38 (by decide) lay_X11 fl_X11_152 rfl dX11_relation_67 rfl ?_
              refine r_sipush (n := 73) hX 256 dX11_relation_70 rfl rfl ?_
              refine r_icmp_ne (tgt := 81) (n := 76) hX dX11_relation_73 (by decide) rfl (fun c73 => ?_) (fun c73 => absurd c73 c24)
              refine r_aload_n (n := 82) hX dX11_relation_81 rfl rfl 0 rfl ?_
              refine r_get (n := 85) hX 0 rfl rfl rfl 38 (by decide) lay_X11 fl_X11_152 rfl dX11_relation_82 rfl ?_
              refine r_sipush (n := 88) hX 257 dX11_relation_85 rfl rfl ?_
              refine r_icmp_ne (tgt := 96) (n := 91) hX dX11_relation_88 (by decide) rfl (fun c88 => ?_) (fun c88 => absurd c88 c34)
              refine r_aload_n (n := 97) hX dX11_relation_96 rfl rfl 0 rfl ?_
              refine r_get (n := 100) hX 0 rfl rfl rfl 38 (by decide) lay_X11 fl_X11_152 rfl dX11_relation_97 rfl ?_
              refine r_sipush (n := 103) hX 258 dX11_relation_100 rfl rfl ?_
              refine r_icmp_ne (tgt := 111) (n := 106) hX dX11_relation_103 (by decide) rfl (fun c103 => ?_) (fun c103 => absurd c103 c44)
              refine r_bipush (n := 113) hX 9 dX11_relation_111 rfl rfl ?_
              have hro : xRo y = some 9 := by rw [xRo, if_pos c14, if_neg c24, if_neg c34, if_neg c44, if_pos c53]
              refine r_istore_n (n := 114) hX [(0, .ref mo), (1, .int 9)] dX11_relation_113 rfl rfl (by decide) rfl ?_
              refine r_aload_n (n := 115) hX dX11_relation_114 rfl rfl 0 rfl ?_
              refine r_callV (n := 118) (av := []) hX (ct_X11_pass (CxL X) (CxD X) mo a tn tr fm fn mv cq cm ck te yn rc hp ir ke wn1 jn tp y ht q1) ml_X11_189 cv_X11_pass rfl (by decide) [0, 1, 2, 3, 4] rfl rfl (by decide) 0 rfl rfl rfl rfl rfl (Nat.le_of_ble_eq_true rfl) dX11_relation_115 rfl (fun r_ es_ h_ l_ => ?_)
              obtain ⟨rfl, rfl⟩ := h_
              show Aw X [mo, a 0, a 4, a 5, a 6, a 13, a 42] [ob 11 (.ref (a 0) :: .int (nI tn) :: .int (xFk (xPass tp tn y)) :: .int (xFp (xPass tp tn y)) :: .ref (a 4) :: .ref (a 5) :: .ref (a 6) :: .ref (a 7) :: .ref (a 8) :: .ref (a 9) :: .ref (a 10) :: .ref (a 11) :: .ref (a 12) :: .ref (a 13) :: .int (nI tr) :: .int (nI fm) :: .int ck :: .int te :: .int (nI fn) :: .ref (a 19) :: .ref (a 20) :: .ref (a 21) :: .ref (a 22) :: .ref (a 23) :: .ref (a 24) :: .ref (a 25) :: .ref (a 26) :: .ref (a 27) :: .int (b2 hp) :: .int yn :: .int (b2 ir) :: .ref (a 31) :: .int rc :: .ref (a 33) :: .int (nI mv) :: .int (xKd (xPass tp tn y)) :: .int (nI (xBg (xPass tp tn y))) :: .int (nI (xEn (xPass tp tn y))) :: .int (xMk (xPass tp tn y)) :: .long (xLe (xPass tp tn y)) :: .int (nI (xTk (xPass tp tn y))) :: .int (nI (xOp (xPass tp tn y))) :: .ref (a 42) :: .int (nI wn1) :: .ref (a 44) :: .int (nI jn) :: .ref (a 46) :: .ref (a 47) :: .ref (a 48) :: .ref (a 49) :: .ref (a 50) :: .ref (a 51) :: .int (b2 ke) :: .ref (a 53) :: .ref (a 54) :: .ref (a 55) :: .int (nI cq) :: .int (nI cm) :: []), aB (CxD X) 3000 tp, aI (CxD X) 3900 (xOr (xPass tp tn y)), aI (CxD X) 3900 (xNu (xPass tp tn y)), aI (CxD X) 3 (nf (xOg (xPass tp tn y))), aJ (CxD X) 8 nm, aI (CxD X) 40 wt1] 118 [(0, .ref mo), (1, .int 9)] [.int (b2 (xPassB y))]
              refine r_if_eq_b (tgt := 128) (n := 121) hX dX11_relation_118 (by decide) rfl (fun c118 => ?_) (fun c118 => ?_)
              · skip
                refine r_iconst (n := 129) hX 0 dX11_relation_128 rfl rfl ?_
                exact r_zreturn hX hR rfl dX11_relation_129 (by have e : xRel tp tn nm tr z = (false, (xPass tp tn y)) := (by rw [xRel, hy]; simp only [xB, xRel2, hro, xRel3, xP, c118, if_true, if_false, Bool.false_eq_true]); rw [e]; exact ⟨rfl, _, _, rfl⟩)
              · skip
                skip
                refine r_aload_n (n := 122) hX dX11_relation_121 rfl rfl 0 rfl ?_
                refine r_callV (n := 125) (av := []) hX (ct_X11_expression (CxL X) (CxD X) mo a tn tr fm fn mv cq cm ck te yn rc hp ir ke jn tp nm (xPass tp tn y) wt1 wn1 ht htr (xPass_ok q1) (by show xOp y ≤ 8; omega) (by have h1 := xPass_tk (tp := tp) (tn := tn) c118; show xOg y 2 ≤ xTk (xPass tp tn y); omega)) ml_X11_230 cv_X11_expression rfl (by decide) [0, 1, 2, 3, 4, 5, 6] rfl rfl (by decide) 0 rfl rfl rfl rfl rfl (Nat.le_of_ble_eq_true rfl) dX11_relation_122 rfl (fun r_ es_ h_ l_ => ?_)
                obtain ⟨rfl, wt2, wn2, rfl⟩ := h_
                show Aw X [mo, a 0, a 4, a 5, a 6, a 13, a 42] [ob 11 (.ref (a 0) :: .int (nI tn) :: .int (xFk ((xExp tp tn nm tr (xPass tp tn y)).2)) :: .int (xFp ((xExp tp tn nm tr (xPass tp tn y)).2)) :: .ref (a 4) :: .ref (a 5) :: .ref (a 6) :: .ref (a 7) :: .ref (a 8) :: .ref (a 9) :: .ref (a 10) :: .ref (a 11) :: .ref (a 12) :: .ref (a 13) :: .int (nI tr) :: .int (nI fm) :: .int ck :: .int te :: .int (nI fn) :: .ref (a 19) :: .ref (a 20) :: .ref (a 21) :: .ref (a 22) :: .ref (a 23) :: .ref (a 24) :: .ref (a 25) :: .ref (a 26) :: .ref (a 27) :: .int (b2 hp) :: .int yn :: .int (b2 ir) :: .ref (a 31) :: .int rc :: .ref (a 33) :: .int (nI mv) :: .int (xKd ((xExp tp tn nm tr (xPass tp tn y)).2)) :: .int (nI (xBg ((xExp tp tn nm tr (xPass tp tn y)).2))) :: .int (nI (xEn ((xExp tp tn nm tr (xPass tp tn y)).2))) :: .int (xMk ((xExp tp tn nm tr (xPass tp tn y)).2)) :: .long (xLe ((xExp tp tn nm tr (xPass tp tn y)).2)) :: .int (nI (xTk ((xExp tp tn nm tr (xPass tp tn y)).2))) :: .int (nI (xOp ((xExp tp tn nm tr (xPass tp tn y)).2))) :: .ref (a 42) :: .int (nI wn2) :: .ref (a 44) :: .int (nI jn) :: .ref (a 46) :: .ref (a 47) :: .ref (a 48) :: .ref (a 49) :: .ref (a 50) :: .ref (a 51) :: .int (b2 ke) :: .ref (a 53) :: .ref (a 54) :: .ref (a 55) :: .int (nI cq) :: .int (nI cm) :: []), aB (CxD X) 3000 tp, aI (CxD X) 3900 (xOr ((xExp tp tn nm tr (xPass tp tn y)).2)), aI (CxD X) 3900 (xNu ((xExp tp tn nm tr (xPass tp tn y)).2)), aI (CxD X) 3 (nf (xOg ((xExp tp tn nm tr (xPass tp tn y)).2))), aJ (CxD X) 8 nm, aI (CxD X) 40 wt2] 125 [(0, .ref mo), (1, .int 9)] [.int (b2 ((xExp tp tn nm tr (xPass tp tn y)).1))]
                refine r_if_ne_b (tgt := 130) (n := 128) hX dX11_relation_125 (by decide) rfl (fun c125 => ?_) (fun c125 => ?_)
                · skip
                  refine r_aload_n (n := 131) hX dX11_relation_130 rfl rfl 0 rfl ?_
                  refine r_iload_n (n := 132) hX dX11_relation_131 rfl rfl 1 rfl ?_
                  refine r_iconst (n := 133) hX 0 dX11_relation_132 rfl rfl ?_
                  refine r_callV (n := 136) (av := [.int 9, .int 0]) hX (ct_X11_emit (CxL X) (CxD X) mo a tn tr fm fn mv cq cm ck te yn rc hp ir ke wn2 jn ((xExp tp tn nm tr (xPass tp tn y)).2) 9 0 (by have h0 := xExp_ok c125 (xPass_ok q1); have h1 := h0.2.2.1; have h2 := h0.1.2; have h3 : xOg (xPass tp tn y) 2 = xOg y 2 := rfl; have h4 := xPass_tk (tp := tp) (tn := tn) c118; omega)) ml_X11_202 cv_X11_emit rfl (by decide) [0, 2, 3, 4] rfl rfl (by decide) 0 rfl rfl rfl rfl rfl (Nat.le_of_ble_eq_true rfl) dX11_relation_133 rfl (fun r_ es_ h_ l_ => ?_)
                  obtain ⟨rfl, rfl⟩ := h_
                  show Aw X [mo, a 0, a 4, a 5, a 6, a 13, a 42] [ob 11 (.ref (a 0) :: .int (nI tn) :: .int (xFk (xEmit ((xExp tp tn nm tr (xPass tp tn y)).2) 9 0)) :: .int (xFp (xEmit ((xExp tp tn nm tr (xPass tp tn y)).2) 9 0)) :: .ref (a 4) :: .ref (a 5) :: .ref (a 6) :: .ref (a 7) :: .ref (a 8) :: .ref (a 9) :: .ref (a 10) :: .ref (a 11) :: .ref (a 12) :: .ref (a 13) :: .int (nI tr) :: .int (nI fm) :: .int ck :: .int te :: .int (nI fn) :: .ref (a 19) :: .ref (a 20) :: .ref (a 21) :: .ref (a 22) :: .ref (a 23) :: .ref (a 24) :: .ref (a 25) :: .ref (a 26) :: .ref (a 27) :: .int (b2 hp) :: .int yn :: .int (b2 ir) :: .ref (a 31) :: .int rc :: .ref (a 33) :: .int (nI mv) :: .int (xKd (xEmit ((xExp tp tn nm tr (xPass tp tn y)).2) 9 0)) :: .int (nI (xBg (xEmit ((xExp tp tn nm tr (xPass tp tn y)).2) 9 0))) :: .int (nI (xEn (xEmit ((xExp tp tn nm tr (xPass tp tn y)).2) 9 0))) :: .int (xMk (xEmit ((xExp tp tn nm tr (xPass tp tn y)).2) 9 0)) :: .long (xLe (xEmit ((xExp tp tn nm tr (xPass tp tn y)).2) 9 0)) :: .int (nI (xTk (xEmit ((xExp tp tn nm tr (xPass tp tn y)).2) 9 0))) :: .int (nI (xOp (xEmit ((xExp tp tn nm tr (xPass tp tn y)).2) 9 0))) :: .ref (a 42) :: .int (nI wn2) :: .ref (a 44) :: .int (nI jn) :: .ref (a 46) :: .ref (a 47) :: .ref (a 48) :: .ref (a 49) :: .ref (a 50) :: .ref (a 51) :: .int (b2 ke) :: .ref (a 53) :: .ref (a 54) :: .ref (a 55) :: .int (nI cq) :: .int (nI cm) :: []), aB (CxD X) 3000 tp, aI (CxD X) 3900 (xOr (xEmit ((xExp tp tn nm tr (xPass tp tn y)).2) 9 0)), aI (CxD X) 3900 (xNu (xEmit ((xExp tp tn nm tr (xPass tp tn y)).2) 9 0)), aI (CxD X) 3 (nf (xOg (xEmit ((xExp tp tn nm tr (xPass tp tn y)).2) 9 0))), aJ (CxD X) 8 nm, aI (CxD X) 40 wt2] 136 [(0, .ref mo), (1, .int 9)] []
                  refine r_iconst (n := 137) hX 1 dX11_relation_136 rfl rfl ?_
                  exact r_zreturn hX hR rfl dX11_relation_137 (by have e : xRel tp tn nm tr z = (true, (xEmit ((xExp tp tn nm tr (xPass tp tn y)).2) 9 0)) := (by rw [xRel, hy]; simp only [xB, xRel2, hro, xRel3, xP, c118, c125, if_true, if_false, Bool.false_eq_true]); rw [e]; exact ⟨rfl, _, _, rfl⟩)
                · skip
                  refine r_iconst (n := 129) hX 0 dX11_relation_128 rfl rfl ?_
                  exact r_zreturn hX hR rfl dX11_relation_129 (by have e : xRel tp tn nm tr z = (false, (xExp tp tn nm tr (xPass tp tn y)).2) := (by rw [xRel, hy]; simp only [xB, xRel2, hro, xRel3, xP, c118, c125, if_true, if_false, Bool.false_eq_true]); rw [e]; exact ⟨rfl, _, _, rfl⟩)
            · skip
              refine r_aload_n (n := 57) hX dX11_relation_56 rfl rfl 0 rfl ?_
              refine r_iconst (n := 58) hX 1 dX11_relation_57 rfl rfl ?_
              refine r_aload_n (n := 59) hX dX11_relation_58 rfl rfl 0 rfl ?_
              refine r_get (n := 62) hX 0 rfl rfl rfl 36 (by decide) lay_X11 fl_X11_149 rfl dX11_relation_59 rfl ?_
              refine r_callV (n := 65) (av := [.int 1, .int (nI (xBg y))]) hX (ct_X11_stop (CxL X) (CxD X) mo a tn tr fm fn mv (xBg y) (xEn y) (xTk y) (xOp y) wn1 jn cq cm (xFk y) (xFp y) ck te yn rc (xKd y) (xMk y) (xLe y) hp ir ke 1 (nI (xBg y))) ml_X11_179 cv_X11_stop rfl (by decide) [0] rfl rfl (by decide) 0 rfl rfl rfl rfl rfl (Nat.le_of_ble_eq_true rfl) dX11_relation_62 rfl (fun r_ es_ h_ l_ => ?_)
              obtain ⟨rfl, rfl⟩ := h_
              show Aw X [mo, a 0, a 4, a 5, a 6, a 13, a 42] [ob 11 (.ref (a 0) :: .int (nI tn) :: .int (xFk (xStop y 1)) :: .int (xFp (xStop y 1)) :: .ref (a 4) :: .ref (a 5) :: .ref (a 6) :: .ref (a 7) :: .ref (a 8) :: .ref (a 9) :: .ref (a 10) :: .ref (a 11) :: .ref (a 12) :: .ref (a 13) :: .int (nI tr) :: .int (nI fm) :: .int ck :: .int te :: .int (nI fn) :: .ref (a 19) :: .ref (a 20) :: .ref (a 21) :: .ref (a 22) :: .ref (a 23) :: .ref (a 24) :: .ref (a 25) :: .ref (a 26) :: .ref (a 27) :: .int (b2 hp) :: .int yn :: .int (b2 ir) :: .ref (a 31) :: .int rc :: .ref (a 33) :: .int (nI mv) :: .int (xKd (xStop y 1)) :: .int (nI (xBg (xStop y 1))) :: .int (nI (xEn (xStop y 1))) :: .int (xMk (xStop y 1)) :: .long (xLe (xStop y 1)) :: .int (nI (xTk (xStop y 1))) :: .int (nI (xOp (xStop y 1))) :: .ref (a 42) :: .int (nI wn1) :: .ref (a 44) :: .int (nI jn) :: .ref (a 46) :: .ref (a 47) :: .ref (a 48) :: .ref (a 49) :: .ref (a 50) :: .ref (a 51) :: .int (b2 ke) :: .ref (a 53) :: .ref (a 54) :: .ref (a 55) :: .int (nI cq) :: .int (nI cm) :: []), aB (CxD X) 3000 tp, aI (CxD X) 3900 (xOr (xStop y 1)), aI (CxD X) 3900 (xNu (xStop y 1)), aI (CxD X) 3 (nf (xOg (xStop y 1))), aJ (CxD X) 8 nm, aI (CxD X) 40 wt1] 65 [(0, .ref mo)] [.int (b2 false)]
              exact r_zreturn hX hR rfl dX11_relation_65 (by have e : xRel tp tn nm tr z = (false, (xStop y 1)) := (by rw [xRel, hy]; have hro : xRo y = none := (by rw [xRo, if_pos c14, if_neg c24, if_neg c34, if_neg c44, if_neg c53]); simp only [xB, xRel2, hro, if_true]); rw [e]; exact ⟨rfl, _, _, rfl⟩)
  · skip
    refine r_iconst (n := 8) hX 0 dX11_relation_7 rfl rfl ?_
    exact r_zreturn hX hR rfl dX11_relation_8 (by have e : xRel tp tn nm tr z = (false, (xExp tp tn nm tr z).2) := (by rw [xRel, xB, if_neg (by rw [c4]; decide)]); rw [e]; exact ⟨rfl, _, _, rfl⟩)
theorem ct_X11_relation (l : Launch) (D : va_G) (mo : Nat) (a : Nat → Nat) (tn tr fm fn mv cq cm : Nat) (ck te yn rc : Int32) (hp ir ke : Bool) (jn : Nat) (tp : Nat → Int32) (nm : Nat → Int64) (z : XZ) (wt : Nat → Int32) (wn : Nat) (ht : tn ≤ 3000) (htr : tr ≤ 8) (hz : XOk tn z) (ho : xOp z ≤ 8) (hg : xOg z 2 ≤ xTk z) : Ct l D m_X11_relation 7 [.ref mo] [mo, a 0, a 4, a 5, a 6, a 13, a 42] [ob 11 (.ref (a 0) :: .int (nI tn) :: .int (xFk z) :: .int (xFp z) :: .ref (a 4) :: .ref (a 5) :: .ref (a 6) :: .ref (a 7) :: .ref (a 8) :: .ref (a 9) :: .ref (a 10) :: .ref (a 11) :: .ref (a 12) :: .ref (a 13) :: .int (nI tr) :: .int (nI fm) :: .int ck :: .int te :: .int (nI fn) :: .ref (a 19) :: .ref (a 20) :: .ref (a 21) :: .ref (a 22) :: .ref (a 23) :: .ref (a 24) :: .ref (a 25) :: .ref (a 26) :: .ref (a 27) :: .int (b2 hp) :: .int yn :: .int (b2 ir) :: .ref (a 31) :: .int rc :: .ref (a 33) :: .int (nI mv) :: .int (xKd z) :: .int (nI (xBg z)) :: .int (nI (xEn z)) :: .int (xMk z) :: .long (xLe z) :: .int (nI (xTk z)) :: .int (nI (xOp z)) :: .ref (a 42) :: .int (nI wn) :: .ref (a 44) :: .int (nI jn) :: .ref (a 46) :: .ref (a 47) :: .ref (a 48) :: .ref (a 49) :: .ref (a 50) :: .ref (a 51) :: .int (b2 ke) :: .ref (a 53) :: .ref (a 54) :: .ref (a 55) :: .int (nI cq) :: .int (nI cm) :: []), aB D 3000 tp, aI D 3900 (xOr z), aI D 3900 (xNu z), aI D 3 (nf (xOg z)), aJ D 8 nm, aI D 40 wt] (fun r es' => r = some (.int (b2 (xRel tp tn nm tr z).1)) ∧ ∃ (wt : Nat → Int32) (wn : Nat), es' = [ob 11 (.ref (a 0) :: .int (nI tn) :: .int (xFk ((xRel tp tn nm tr z).2)) :: .int (xFp ((xRel tp tn nm tr z).2)) :: .ref (a 4) :: .ref (a 5) :: .ref (a 6) :: .ref (a 7) :: .ref (a 8) :: .ref (a 9) :: .ref (a 10) :: .ref (a 11) :: .ref (a 12) :: .ref (a 13) :: .int (nI tr) :: .int (nI fm) :: .int ck :: .int te :: .int (nI fn) :: .ref (a 19) :: .ref (a 20) :: .ref (a 21) :: .ref (a 22) :: .ref (a 23) :: .ref (a 24) :: .ref (a 25) :: .ref (a 26) :: .ref (a 27) :: .int (b2 hp) :: .int yn :: .int (b2 ir) :: .ref (a 31) :: .int rc :: .ref (a 33) :: .int (nI mv) :: .int (xKd ((xRel tp tn nm tr z).2)) :: .int (nI (xBg ((xRel tp tn nm tr z).2))) :: .int (nI (xEn ((xRel tp tn nm tr z).2))) :: .int (xMk ((xRel tp tn nm tr z).2)) :: .long (xLe ((xRel tp tn nm tr z).2)) :: .int (nI (xTk ((xRel tp tn nm tr z).2))) :: .int (nI (xOp ((xRel tp tn nm tr z).2))) :: .ref (a 42) :: .int (nI wn) :: .ref (a 44) :: .int (nI jn) :: .ref (a 46) :: .ref (a 47) :: .ref (a 48) :: .ref (a 49) :: .ref (a 50) :: .ref (a 51) :: .int (b2 ke) :: .ref (a 53) :: .ref (a 54) :: .ref (a 55) :: .int (nI cq) :: .int (nI cm) :: []), aB D 3000 tp, aI D 3900 (xOr ((xRel tp tn nm tr z).2)), aI D 3900 (xNu ((xRel tp tn nm tr z).2)), aI D 3 (nf (xOg ((xRel tp tn nm tr z).2))), aJ D 8 nm, aI D 40 wt]) :=
  Ct.ofA (own := RX11) (by decide) rfl (Nat.le_of_ble_eq_true rfl) rfl (fun X hl hD hX hR => by subst hl; subst hD; exact wk_X11_relation hX mo a tn tr fm fn mv cq cm ck te yn rc hp ir ke jn tp nm z wt wn ht htr hz ho hg hR)

def xJ6 (z : XZ) : XZ := xEmit (xDn z) 13 0
def xJ5 (z : XZ) : XZ := xEmit z 11 0
def xJ4 (z : XZ) : XZ := xEmit z 12 0

set_option maxHeartbeats 1000000 in
set_option maxRecDepth 100000 in
theorem wk_judge6 {X : Cx} (hX : Ok X cX11_judge 2 RX11 1) (mo : Nat) (a : Nat → Nat) (tn tr fm fn mv cq cm : Nat) (ck te yn rc : Int32) (hp ir ke : Bool) (wn : Nat) (jt : Nat → Int32) (z : XZ) (k : Nat) (hk : k < 40) (hc : jt k = 6) (hg : xOg z 2 < 1300) (ho : 1 ≤ xOp z) (hR : Rt X (none) (fun r es' => r = none ∧ es' = [ob 11 (.ref (a 0) :: .int (nI tn) :: .int (xFk (xJ6 z)) :: .int (xFp (xJ6 z)) :: .ref (a 4) :: .ref (a 5) :: .ref (a 6) :: .ref (a 7) :: .ref (a 8) :: .ref (a 9) :: .ref (a 10) :: .ref (a 11) :: .ref (a 12) :: .ref (a 13) :: .int (nI tr) :: .int (nI fm) :: .int ck :: .int te :: .int (nI fn) :: .ref (a 19) :: .ref (a 20) :: .ref (a 21) :: .ref (a 22) :: .ref (a 23) :: .ref (a 24) :: .ref (a 25) :: .ref (a 26) :: .ref (a 27) :: .int (b2 hp) :: .int yn :: .int (b2 ir) :: .ref (a 31) :: .int rc :: .ref (a 33) :: .int (nI mv) :: .int (xKd (xJ6 z)) :: .int (nI (xBg (xJ6 z))) :: .int (nI (xEn (xJ6 z))) :: .int (xMk (xJ6 z)) :: .long (xLe (xJ6 z)) :: .int (nI (xTk (xJ6 z))) :: .int (nI (xOp (xJ6 z))) :: .ref (a 42) :: .int (nI wn) :: .ref (a 44) :: .int (nI k) :: .ref (a 46) :: .ref (a 47) :: .ref (a 48) :: .ref (a 49) :: .ref (a 50) :: .ref (a 51) :: .int (b2 ke) :: .ref (a 53) :: .ref (a 54) :: .ref (a 55) :: .int (nI cq) :: .int (nI cm) :: []), aI (CxD X) 3900 (xOr (xJ6 z)), aI (CxD X) 3900 (xNu (xJ6 z)), aI (CxD X) 3 (nf (xOg (xJ6 z))), aI (CxD X) 40 jt]) [mo, a 4, a 5, a 6, a 44]) : Aw X [mo, a 4, a 5, a 6, a 44] [ob 11 (.ref (a 0) :: .int (nI tn) :: .int (xFk z) :: .int (xFp z) :: .ref (a 4) :: .ref (a 5) :: .ref (a 6) :: .ref (a 7) :: .ref (a 8) :: .ref (a 9) :: .ref (a 10) :: .ref (a 11) :: .ref (a 12) :: .ref (a 13) :: .int (nI tr) :: .int (nI fm) :: .int ck :: .int te :: .int (nI fn) :: .ref (a 19) :: .ref (a 20) :: .ref (a 21) :: .ref (a 22) :: .ref (a 23) :: .ref (a 24) :: .ref (a 25) :: .ref (a 26) :: .ref (a 27) :: .int (b2 hp) :: .int yn :: .int (b2 ir) :: .ref (a 31) :: .int rc :: .ref (a 33) :: .int (nI mv) :: .int (xKd z) :: .int (nI (xBg z)) :: .int (nI (xEn z)) :: .int (xMk z) :: .long (xLe z) :: .int (nI (xTk z)) :: .int (nI (xOp z)) :: .ref (a 42) :: .int (nI wn) :: .ref (a 44) :: .int (nI (k + 1)) :: .ref (a 46) :: .ref (a 47) :: .ref (a 48) :: .ref (a 49) :: .ref (a 50) :: .ref (a 51) :: .int (b2 ke) :: .ref (a 53) :: .ref (a 54) :: .ref (a 55) :: .int (nI cq) :: .int (nI cm) :: []), aI (CxD X) 3900 (xOr z), aI (CxD X) 3900 (xNu z), aI (CxD X) 3 (nf (xOg z)), aI (CxD X) 40 jt] 0 [(0, .ref mo)] [] := by
  refine r_aload_n (n := 1) hX dX11_judge_0 rfl rfl 0 rfl ?_
  refine r_dup (n := 2) hX dX11_judge_1 rfl rfl ?_
  refine r_get (n := 5) hX 0 rfl rfl rfl 45 (by decide) lay_X11 fl_X11_199 rfl dX11_judge_2 rfl ?_
  refine r_iconst (n := 6) hX 1 dX11_judge_5 rfl rfl ?_
  refine r_isub (n := 7) hX dX11_judge_6 rfl ?_
  refine Aw.topi (nI k) (nI_pred _) ?_
  refine r_put (n := 10) hX 0 rfl rfl rfl 45 [ob 11 (.ref (a 0) :: .int (nI tn) :: .int (xFk z) :: .int (xFp z) :: .ref (a 4) :: .ref (a 5) :: .ref (a 6) :: .ref (a 7) :: .ref (a 8) :: .ref (a 9) :: .ref (a 10) :: .ref (a 11) :: .ref (a 12) :: .ref (a 13) :: .int (nI tr) :: .int (nI fm) :: .int ck :: .int te :: .int (nI fn) :: .ref (a 19) :: .ref (a 20) :: .ref (a 21) :: .ref (a 22) :: .ref (a 23) :: .ref (a 24) :: .ref (a 25) :: .ref (a 26) :: .ref (a 27) :: .int (b2 hp) :: .int yn :: .int (b2 ir) :: .ref (a 31) :: .int rc :: .ref (a 33) :: .int (nI mv) :: .int (xKd z) :: .int (nI (xBg z)) :: .int (nI (xEn z)) :: .int (xMk z) :: .long (xLe z) :: .int (nI (xTk z)) :: .int (nI (xOp z)) :: .ref (a 42) :: .int (nI wn) :: .ref (a 44) :: .int (nI k) :: .ref (a 46) :: .ref (a 47) :: .ref (a 48) :: .ref (a 49) :: .ref (a 50) :: .ref (a 51) :: .int (b2 ke) :: .ref (a 53) :: .ref (a 54) :: .ref (a 55) :: .int (nI cq) :: .int (nI cm) :: []), aI (CxD X) 3900 (xOr z), aI (CxD X) 3900 (xNu z), aI (CxD X) 3 (nf (xOg z)), aI (CxD X) 40 jt] (by decide) lay_X11 tyX11 tyX11_ok nmX11 fl_X11_199 rfl rfl rfl (Nat.le_of_ble_eq_true rfl) rfl dX11_judge_7 rfl ?_
  refine r_aload_n (n := 11) hX dX11_judge_10 rfl rfl 0 rfl ?_
  refine r_get (n := 14) hX 0 rfl rfl rfl 44 (by decide) lay_X11 fl_X11_86 rfl dX11_judge_11 rfl ?_
  refine r_aload_n (n := 15) hX dX11_judge_14 rfl rfl 0 rfl ?_
  refine r_get (n := 18) hX 0 rfl rfl rfl 45 (by decide) lay_X11 fl_X11_199 rfl dX11_judge_15 rfl ?_
  refine r_ialdn (n := 19) (i := k) hX 4 rfl rfl (by omega) (by decide) dX11_judge_18 rfl ?_
  refine Aw.topi 6 hc ?_
  refine r_istore_n (n := 20) hX [(0, .ref mo), (1, .int 6)] dX11_judge_19 rfl rfl (by decide) rfl ?_
  refine r_iload_n (n := 21) hX dX11_judge_20 rfl rfl 1 rfl ?_
  refine r_bipush (n := 23) hX 6 dX11_judge_21 rfl rfl ?_
  refine r_icmp_ne (tgt := 36) (n := 26) hX dX11_judge_23 (by decide) rfl (fun h => False.elim (by revert h; decide)) (fun _ => ?_)
  refine r_aload_n (n := 27) hX dX11_judge_26 rfl rfl 0 rfl ?_
  refine r_dup (n := 28) hX dX11_judge_27 rfl rfl ?_
  refine r_get (n := 31) hX 0 rfl rfl rfl 41 (by decide) lay_X11 fl_X11_218 rfl dX11_judge_28 rfl ?_
  refine r_iconst (n := 32) hX 1 dX11_judge_31 rfl rfl ?_
  refine r_isub (n := 33) hX dX11_judge_32 rfl ?_
  refine Aw.topi (nI (xOp z - 1)) (pk_sub (a := xOp z) (b := 1) ho) ?_
  refine r_put (n := 36) hX 0 rfl rfl rfl 41 [ob 11 (.ref (a 0) :: .int (nI tn) :: .int (xFk z) :: .int (xFp z) :: .ref (a 4) :: .ref (a 5) :: .ref (a 6) :: .ref (a 7) :: .ref (a 8) :: .ref (a 9) :: .ref (a 10) :: .ref (a 11) :: .ref (a 12) :: .ref (a 13) :: .int (nI tr) :: .int (nI fm) :: .int ck :: .int te :: .int (nI fn) :: .ref (a 19) :: .ref (a 20) :: .ref (a 21) :: .ref (a 22) :: .ref (a 23) :: .ref (a 24) :: .ref (a 25) :: .ref (a 26) :: .ref (a 27) :: .int (b2 hp) :: .int yn :: .int (b2 ir) :: .ref (a 31) :: .int rc :: .ref (a 33) :: .int (nI mv) :: .int (xKd z) :: .int (nI (xBg z)) :: .int (nI (xEn z)) :: .int (xMk z) :: .long (xLe z) :: .int (nI (xTk z)) :: .int (nI (xOp z - 1)) :: .ref (a 42) :: .int (nI wn) :: .ref (a 44) :: .int (nI k) :: .ref (a 46) :: .ref (a 47) :: .ref (a 48) :: .ref (a 49) :: .ref (a 50) :: .ref (a 51) :: .int (b2 ke) :: .ref (a 53) :: .ref (a 54) :: .ref (a 55) :: .int (nI cq) :: .int (nI cm) :: []), aI (CxD X) 3900 (xOr z), aI (CxD X) 3900 (xNu z), aI (CxD X) 3 (nf (xOg z)), aI (CxD X) 40 jt] (by decide) lay_X11 tyX11 tyX11_ok nmX11 fl_X11_218 rfl rfl rfl (Nat.le_of_ble_eq_true rfl) rfl dX11_judge_33 rfl ?_
  skip
  refine r_aload_n (n := 37) hX dX11_judge_36 rfl rfl 0 rfl ?_
  refine r_iload_n (n := 38) hX dX11_judge_37 rfl rfl 1 rfl ?_
  refine r_bipush (n := 40) hX 6 dX11_judge_38 rfl rfl ?_
  refine r_icmp_ne (tgt := 48) (n := 43) hX dX11_judge_40 (by decide) rfl (fun h => False.elim (by revert h; decide)) (fun _ => ?_)
  refine r_bipush (n := 45) hX 13 dX11_judge_43 rfl rfl ?_
  refine r_goto (tgt := 60) hX dX11_judge_45 (by decide) ?_
  refine r_iconst (n := 61) hX 0 dX11_judge_60 rfl rfl ?_
  refine r_callV (n := 64) (av := [.int 13, .int 0]) hX (ct_X11_emit (CxL X) (CxD X) mo a tn tr fm fn mv cq cm ck te yn rc hp ir ke wn k (xDn z) 13 0 hg) ml_X11_202 cv_X11_emit rfl (by decide) [0, 1, 2, 3] rfl rfl (by decide) 0 rfl rfl rfl rfl rfl (Nat.le_of_ble_eq_true rfl) dX11_judge_61 rfl (fun r_ es_ h_ l_ => ?_)
  obtain ⟨rfl, rfl⟩ := h_
  show Aw X [mo, a 4, a 5, a 6, a 44] [ob 11 (.ref (a 0) :: .int (nI tn) :: .int (xFk (xEmit (xDn z) 13 0)) :: .int (xFp (xEmit (xDn z) 13 0)) :: .ref (a 4) :: .ref (a 5) :: .ref (a 6) :: .ref (a 7) :: .ref (a 8) :: .ref (a 9) :: .ref (a 10) :: .ref (a 11) :: .ref (a 12) :: .ref (a 13) :: .int (nI tr) :: .int (nI fm) :: .int ck :: .int te :: .int (nI fn) :: .ref (a 19) :: .ref (a 20) :: .ref (a 21) :: .ref (a 22) :: .ref (a 23) :: .ref (a 24) :: .ref (a 25) :: .ref (a 26) :: .ref (a 27) :: .int (b2 hp) :: .int yn :: .int (b2 ir) :: .ref (a 31) :: .int rc :: .ref (a 33) :: .int (nI mv) :: .int (xKd (xEmit (xDn z) 13 0)) :: .int (nI (xBg (xEmit (xDn z) 13 0))) :: .int (nI (xEn (xEmit (xDn z) 13 0))) :: .int (xMk (xEmit (xDn z) 13 0)) :: .long (xLe (xEmit (xDn z) 13 0)) :: .int (nI (xTk (xEmit (xDn z) 13 0))) :: .int (nI (xOp (xEmit (xDn z) 13 0))) :: .ref (a 42) :: .int (nI wn) :: .ref (a 44) :: .int (nI k) :: .ref (a 46) :: .ref (a 47) :: .ref (a 48) :: .ref (a 49) :: .ref (a 50) :: .ref (a 51) :: .int (b2 ke) :: .ref (a 53) :: .ref (a 54) :: .ref (a 55) :: .int (nI cq) :: .int (nI cm) :: []), aI (CxD X) 3900 (xOr (xEmit (xDn z) 13 0)), aI (CxD X) 3900 (xNu (xEmit (xDn z) 13 0)), aI (CxD X) 3 (nf (xOg (xEmit (xDn z) 13 0))), aI (CxD X) 40 jt] 64 [(0, .ref mo), (1, .int 6)] []
  exact r_return hX hR dX11_judge_64 ⟨rfl, rfl⟩
theorem ct_judge6 (l : Launch) (D : va_G) (mo : Nat) (a : Nat → Nat) (tn tr fm fn mv cq cm : Nat) (ck te yn rc : Int32) (hp ir ke : Bool) (wn : Nat) (jt : Nat → Int32) (z : XZ) (k : Nat) (hk : k < 40) (hc : jt k = 6) (hg : xOg z 2 < 1300) (ho : 1 ≤ xOp z) : Ct l D m_X11_judge 1 [.ref mo] [mo, a 4, a 5, a 6, a 44] [ob 11 (.ref (a 0) :: .int (nI tn) :: .int (xFk z) :: .int (xFp z) :: .ref (a 4) :: .ref (a 5) :: .ref (a 6) :: .ref (a 7) :: .ref (a 8) :: .ref (a 9) :: .ref (a 10) :: .ref (a 11) :: .ref (a 12) :: .ref (a 13) :: .int (nI tr) :: .int (nI fm) :: .int ck :: .int te :: .int (nI fn) :: .ref (a 19) :: .ref (a 20) :: .ref (a 21) :: .ref (a 22) :: .ref (a 23) :: .ref (a 24) :: .ref (a 25) :: .ref (a 26) :: .ref (a 27) :: .int (b2 hp) :: .int yn :: .int (b2 ir) :: .ref (a 31) :: .int rc :: .ref (a 33) :: .int (nI mv) :: .int (xKd z) :: .int (nI (xBg z)) :: .int (nI (xEn z)) :: .int (xMk z) :: .long (xLe z) :: .int (nI (xTk z)) :: .int (nI (xOp z)) :: .ref (a 42) :: .int (nI wn) :: .ref (a 44) :: .int (nI (k + 1)) :: .ref (a 46) :: .ref (a 47) :: .ref (a 48) :: .ref (a 49) :: .ref (a 50) :: .ref (a 51) :: .int (b2 ke) :: .ref (a 53) :: .ref (a 54) :: .ref (a 55) :: .int (nI cq) :: .int (nI cm) :: []), aI D 3900 (xOr z), aI D 3900 (xNu z), aI D 3 (nf (xOg z)), aI D 40 jt] (fun r es' => r = none ∧ es' = [ob 11 (.ref (a 0) :: .int (nI tn) :: .int (xFk (xJ6 z)) :: .int (xFp (xJ6 z)) :: .ref (a 4) :: .ref (a 5) :: .ref (a 6) :: .ref (a 7) :: .ref (a 8) :: .ref (a 9) :: .ref (a 10) :: .ref (a 11) :: .ref (a 12) :: .ref (a 13) :: .int (nI tr) :: .int (nI fm) :: .int ck :: .int te :: .int (nI fn) :: .ref (a 19) :: .ref (a 20) :: .ref (a 21) :: .ref (a 22) :: .ref (a 23) :: .ref (a 24) :: .ref (a 25) :: .ref (a 26) :: .ref (a 27) :: .int (b2 hp) :: .int yn :: .int (b2 ir) :: .ref (a 31) :: .int rc :: .ref (a 33) :: .int (nI mv) :: .int (xKd (xJ6 z)) :: .int (nI (xBg (xJ6 z))) :: .int (nI (xEn (xJ6 z))) :: .int (xMk (xJ6 z)) :: .long (xLe (xJ6 z)) :: .int (nI (xTk (xJ6 z))) :: .int (nI (xOp (xJ6 z))) :: .ref (a 42) :: .int (nI wn) :: .ref (a 44) :: .int (nI k) :: .ref (a 46) :: .ref (a 47) :: .ref (a 48) :: .ref (a 49) :: .ref (a 50) :: .ref (a 51) :: .int (b2 ke) :: .ref (a 53) :: .ref (a 54) :: .ref (a 55) :: .int (nI cq) :: .int (nI cm) :: []), aI D 3900 (xOr (xJ6 z)), aI D 3900 (xNu (xJ6 z)), aI D 3 (nf (xOg (xJ6 z))), aI D 40 jt]) :=
  Ct.ofA (own := RX11) (by decide) rfl (Nat.le_of_ble_eq_true rfl) rfl (fun X hl hD hX hR => by subst hl; subst hD; exact wk_judge6 hX mo a tn tr fm fn mv cq cm ck te yn rc hp ir ke wn jt z k hk hc hg ho hR)
set_option maxHeartbeats 1000000 in
set_option maxRecDepth 100000 in
theorem wk_judge5 {X : Cx} (hX : Ok X cX11_judge 2 RX11 1) (mo : Nat) (a : Nat → Nat) (tn tr fm fn mv cq cm : Nat) (ck te yn rc : Int32) (hp ir ke : Bool) (wn : Nat) (jt : Nat → Int32) (z : XZ) (k : Nat) (hk : k < 40) (hc : jt k = 5) (hg : xOg z 2 < 1300) (hR : Rt X (none) (fun r es' => r = none ∧ es' = [ob 11 (.ref (a 0) :: .int (nI tn) :: .int (xFk (xJ5 z)) :: .int (xFp (xJ5 z)) :: .ref (a 4) :: .ref (a 5) :: .ref (a 6) :: .ref (a 7) :: .ref (a 8) :: .ref (a 9) :: .ref (a 10) :: .ref (a 11) :: .ref (a 12) :: .ref (a 13) :: .int (nI tr) :: .int (nI fm) :: .int ck :: .int te :: .int (nI fn) :: .ref (a 19) :: .ref (a 20) :: .ref (a 21) :: .ref (a 22) :: .ref (a 23) :: .ref (a 24) :: .ref (a 25) :: .ref (a 26) :: .ref (a 27) :: .int (b2 hp) :: .int yn :: .int (b2 ir) :: .ref (a 31) :: .int rc :: .ref (a 33) :: .int (nI mv) :: .int (xKd (xJ5 z)) :: .int (nI (xBg (xJ5 z))) :: .int (nI (xEn (xJ5 z))) :: .int (xMk (xJ5 z)) :: .long (xLe (xJ5 z)) :: .int (nI (xTk (xJ5 z))) :: .int (nI (xOp (xJ5 z))) :: .ref (a 42) :: .int (nI wn) :: .ref (a 44) :: .int (nI k) :: .ref (a 46) :: .ref (a 47) :: .ref (a 48) :: .ref (a 49) :: .ref (a 50) :: .ref (a 51) :: .int (b2 ke) :: .ref (a 53) :: .ref (a 54) :: .ref (a 55) :: .int (nI cq) :: .int (nI cm) :: []), aI (CxD X) 3900 (xOr (xJ5 z)), aI (CxD X) 3900 (xNu (xJ5 z)), aI (CxD X) 3 (nf (xOg (xJ5 z))), aI (CxD X) 40 jt]) [mo, a 4, a 5, a 6, a 44]) : Aw X [mo, a 4, a 5, a 6, a 44] [ob 11 (.ref (a 0) :: .int (nI tn) :: .int (xFk z) :: .int (xFp z) :: .ref (a 4) :: .ref (a 5) :: .ref (a 6) :: .ref (a 7) :: .ref (a 8) :: .ref (a 9) :: .ref (a 10) :: .ref (a 11) :: .ref (a 12) :: .ref (a 13) :: .int (nI tr) :: .int (nI fm) :: .int ck :: .int te :: .int (nI fn) :: .ref (a 19) :: .ref (a 20) :: .ref (a 21) :: .ref (a 22) :: .ref (a 23) :: .ref (a 24) :: .ref (a 25) :: .ref (a 26) :: .ref (a 27) :: .int (b2 hp) :: .int yn :: .int (b2 ir) :: .ref (a 31) :: .int rc :: .ref (a 33) :: .int (nI mv) :: .int (xKd z) :: .int (nI (xBg z)) :: .int (nI (xEn z)) :: .int (xMk z) :: .long (xLe z) :: .int (nI (xTk z)) :: .int (nI (xOp z)) :: .ref (a 42) :: .int (nI wn) :: .ref (a 44) :: .int (nI (k + 1)) :: .ref (a 46) :: .ref (a 47) :: .ref (a 48) :: .ref (a 49) :: .ref (a 50) :: .ref (a 51) :: .int (b2 ke) :: .ref (a 53) :: .ref (a 54) :: .ref (a 55) :: .int (nI cq) :: .int (nI cm) :: []), aI (CxD X) 3900 (xOr z), aI (CxD X) 3900 (xNu z), aI (CxD X) 3 (nf (xOg z)), aI (CxD X) 40 jt] 0 [(0, .ref mo)] [] := by
  refine r_aload_n (n := 1) hX dX11_judge_0 rfl rfl 0 rfl ?_
  refine r_dup (n := 2) hX dX11_judge_1 rfl rfl ?_
  refine r_get (n := 5) hX 0 rfl rfl rfl 45 (by decide) lay_X11 fl_X11_199 rfl dX11_judge_2 rfl ?_
  refine r_iconst (n := 6) hX 1 dX11_judge_5 rfl rfl ?_
  refine r_isub (n := 7) hX dX11_judge_6 rfl ?_
  refine Aw.topi (nI k) (nI_pred _) ?_
  refine r_put (n := 10) hX 0 rfl rfl rfl 45 [ob 11 (.ref (a 0) :: .int (nI tn) :: .int (xFk z) :: .int (xFp z) :: .ref (a 4) :: .ref (a 5) :: .ref (a 6) :: .ref (a 7) :: .ref (a 8) :: .ref (a 9) :: .ref (a 10) :: .ref (a 11) :: .ref (a 12) :: .ref (a 13) :: .int (nI tr) :: .int (nI fm) :: .int ck :: .int te :: .int (nI fn) :: .ref (a 19) :: .ref (a 20) :: .ref (a 21) :: .ref (a 22) :: .ref (a 23) :: .ref (a 24) :: .ref (a 25) :: .ref (a 26) :: .ref (a 27) :: .int (b2 hp) :: .int yn :: .int (b2 ir) :: .ref (a 31) :: .int rc :: .ref (a 33) :: .int (nI mv) :: .int (xKd z) :: .int (nI (xBg z)) :: .int (nI (xEn z)) :: .int (xMk z) :: .long (xLe z) :: .int (nI (xTk z)) :: .int (nI (xOp z)) :: .ref (a 42) :: .int (nI wn) :: .ref (a 44) :: .int (nI k) :: .ref (a 46) :: .ref (a 47) :: .ref (a 48) :: .ref (a 49) :: .ref (a 50) :: .ref (a 51) :: .int (b2 ke) :: .ref (a 53) :: .ref (a 54) :: .ref (a 55) :: .int (nI cq) :: .int (nI cm) :: []), aI (CxD X) 3900 (xOr z), aI (CxD X) 3900 (xNu z), aI (CxD X) 3 (nf (xOg z)), aI (CxD X) 40 jt] (by decide) lay_X11 tyX11 tyX11_ok nmX11 fl_X11_199 rfl rfl rfl (Nat.le_of_ble_eq_true rfl) rfl dX11_judge_7 rfl ?_
  refine r_aload_n (n := 11) hX dX11_judge_10 rfl rfl 0 rfl ?_
  refine r_get (n := 14) hX 0 rfl rfl rfl 44 (by decide) lay_X11 fl_X11_86 rfl dX11_judge_11 rfl ?_
  refine r_aload_n (n := 15) hX dX11_judge_14 rfl rfl 0 rfl ?_
  refine r_get (n := 18) hX 0 rfl rfl rfl 45 (by decide) lay_X11 fl_X11_199 rfl dX11_judge_15 rfl ?_
  refine r_ialdn (n := 19) (i := k) hX 4 rfl rfl (by omega) (by decide) dX11_judge_18 rfl ?_
  refine Aw.topi 5 hc ?_
  refine r_istore_n (n := 20) hX [(0, .ref mo), (1, .int 5)] dX11_judge_19 rfl rfl (by decide) rfl ?_
  refine r_iload_n (n := 21) hX dX11_judge_20 rfl rfl 1 rfl ?_
  refine r_bipush (n := 23) hX 6 dX11_judge_21 rfl rfl ?_
  refine r_icmp_ne (tgt := 36) (n := 26) hX dX11_judge_23 (by decide) rfl (fun _ => ?_) (fun h => False.elim (by revert h; decide))
  refine r_aload_n (n := 37) hX dX11_judge_36 rfl rfl 0 rfl ?_
  refine r_iload_n (n := 38) hX dX11_judge_37 rfl rfl 1 rfl ?_
  refine r_bipush (n := 40) hX 6 dX11_judge_38 rfl rfl ?_
  refine r_icmp_ne (tgt := 48) (n := 43) hX dX11_judge_40 (by decide) rfl (fun _ => ?_) (fun h => False.elim (by revert h; decide))
  refine r_iload_n (n := 49) hX dX11_judge_48 rfl rfl 1 rfl ?_
  refine r_iconst (n := 50) hX 5 dX11_judge_49 rfl rfl ?_
  refine r_icmp_ne (tgt := 58) (n := 53) hX dX11_judge_50 (by decide) rfl (fun h => False.elim (by revert h; decide)) (fun _ => ?_)
  refine r_bipush (n := 55) hX 11 dX11_judge_53 rfl rfl ?_
  refine r_goto (tgt := 60) hX dX11_judge_55 (by decide) ?_
  refine r_iconst (n := 61) hX 0 dX11_judge_60 rfl rfl ?_
  refine r_callV (n := 64) (av := [.int 11, .int 0]) hX (ct_X11_emit (CxL X) (CxD X) mo a tn tr fm fn mv cq cm ck te yn rc hp ir ke wn k z 11 0 hg) ml_X11_202 cv_X11_emit rfl (by decide) [0, 1, 2, 3] rfl rfl (by decide) 0 rfl rfl rfl rfl rfl (Nat.le_of_ble_eq_true rfl) dX11_judge_61 rfl (fun r_ es_ h_ l_ => ?_)
  obtain ⟨rfl, rfl⟩ := h_
  show Aw X [mo, a 4, a 5, a 6, a 44] [ob 11 (.ref (a 0) :: .int (nI tn) :: .int (xFk (xEmit z 11 0)) :: .int (xFp (xEmit z 11 0)) :: .ref (a 4) :: .ref (a 5) :: .ref (a 6) :: .ref (a 7) :: .ref (a 8) :: .ref (a 9) :: .ref (a 10) :: .ref (a 11) :: .ref (a 12) :: .ref (a 13) :: .int (nI tr) :: .int (nI fm) :: .int ck :: .int te :: .int (nI fn) :: .ref (a 19) :: .ref (a 20) :: .ref (a 21) :: .ref (a 22) :: .ref (a 23) :: .ref (a 24) :: .ref (a 25) :: .ref (a 26) :: .ref (a 27) :: .int (b2 hp) :: .int yn :: .int (b2 ir) :: .ref (a 31) :: .int rc :: .ref (a 33) :: .int (nI mv) :: .int (xKd (xEmit z 11 0)) :: .int (nI (xBg (xEmit z 11 0))) :: .int (nI (xEn (xEmit z 11 0))) :: .int (xMk (xEmit z 11 0)) :: .long (xLe (xEmit z 11 0)) :: .int (nI (xTk (xEmit z 11 0))) :: .int (nI (xOp (xEmit z 11 0))) :: .ref (a 42) :: .int (nI wn) :: .ref (a 44) :: .int (nI k) :: .ref (a 46) :: .ref (a 47) :: .ref (a 48) :: .ref (a 49) :: .ref (a 50) :: .ref (a 51) :: .int (b2 ke) :: .ref (a 53) :: .ref (a 54) :: .ref (a 55) :: .int (nI cq) :: .int (nI cm) :: []), aI (CxD X) 3900 (xOr (xEmit z 11 0)), aI (CxD X) 3900 (xNu (xEmit z 11 0)), aI (CxD X) 3 (nf (xOg (xEmit z 11 0))), aI (CxD X) 40 jt] 64 [(0, .ref mo), (1, .int 5)] []
  exact r_return hX hR dX11_judge_64 ⟨rfl, rfl⟩
theorem ct_judge5 (l : Launch) (D : va_G) (mo : Nat) (a : Nat → Nat) (tn tr fm fn mv cq cm : Nat) (ck te yn rc : Int32) (hp ir ke : Bool) (wn : Nat) (jt : Nat → Int32) (z : XZ) (k : Nat) (hk : k < 40) (hc : jt k = 5) (hg : xOg z 2 < 1300) : Ct l D m_X11_judge 1 [.ref mo] [mo, a 4, a 5, a 6, a 44] [ob 11 (.ref (a 0) :: .int (nI tn) :: .int (xFk z) :: .int (xFp z) :: .ref (a 4) :: .ref (a 5) :: .ref (a 6) :: .ref (a 7) :: .ref (a 8) :: .ref (a 9) :: .ref (a 10) :: .ref (a 11) :: .ref (a 12) :: .ref (a 13) :: .int (nI tr) :: .int (nI fm) :: .int ck :: .int te :: .int (nI fn) :: .ref (a 19) :: .ref (a 20) :: .ref (a 21) :: .ref (a 22) :: .ref (a 23) :: .ref (a 24) :: .ref (a 25) :: .ref (a 26) :: .ref (a 27) :: .int (b2 hp) :: .int yn :: .int (b2 ir) :: .ref (a 31) :: .int rc :: .ref (a 33) :: .int (nI mv) :: .int (xKd z) :: .int (nI (xBg z)) :: .int (nI (xEn z)) :: .int (xMk z) :: .long (xLe z) :: .int (nI (xTk z)) :: .int (nI (xOp z)) :: .ref (a 42) :: .int (nI wn) :: .ref (a 44) :: .int (nI (k + 1)) :: .ref (a 46) :: .ref (a 47) :: .ref (a 48) :: .ref (a 49) :: .ref (a 50) :: .ref (a 51) :: .int (b2 ke) :: .ref (a 53) :: .ref (a 54) :: .ref (a 55) :: .int (nI cq) :: .int (nI cm) :: []), aI D 3900 (xOr z), aI D 3900 (xNu z), aI D 3 (nf (xOg z)), aI D 40 jt] (fun r es' => r = none ∧ es' = [ob 11 (.ref (a 0) :: .int (nI tn) :: .int (xFk (xJ5 z)) :: .int (xFp (xJ5 z)) :: .ref (a 4) :: .ref (a 5) :: .ref (a 6) :: .ref (a 7) :: .ref (a 8) :: .ref (a 9) :: .ref (a 10) :: .ref (a 11) :: .ref (a 12) :: .ref (a 13) :: .int (nI tr) :: .int (nI fm) :: .int ck :: .int te :: .int (nI fn) :: .ref (a 19) :: .ref (a 20) :: .ref (a 21) :: .ref (a 22) :: .ref (a 23) :: .ref (a 24) :: .ref (a 25) :: .ref (a 26) :: .ref (a 27) :: .int (b2 hp) :: .int yn :: .int (b2 ir) :: .ref (a 31) :: .int rc :: .ref (a 33) :: .int (nI mv) :: .int (xKd (xJ5 z)) :: .int (nI (xBg (xJ5 z))) :: .int (nI (xEn (xJ5 z))) :: .int (xMk (xJ5 z)) :: .long (xLe (xJ5 z)) :: .int (nI (xTk (xJ5 z))) :: .int (nI (xOp (xJ5 z))) :: .ref (a 42) :: .int (nI wn) :: .ref (a 44) :: .int (nI k) :: .ref (a 46) :: .ref (a 47) :: .ref (a 48) :: .ref (a 49) :: .ref (a 50) :: .ref (a 51) :: .int (b2 ke) :: .ref (a 53) :: .ref (a 54) :: .ref (a 55) :: .int (nI cq) :: .int (nI cm) :: []), aI D 3900 (xOr (xJ5 z)), aI D 3900 (xNu (xJ5 z)), aI D 3 (nf (xOg (xJ5 z))), aI D 40 jt]) :=
  Ct.ofA (own := RX11) (by decide) rfl (Nat.le_of_ble_eq_true rfl) rfl (fun X hl hD hX hR => by subst hl; subst hD; exact wk_judge5 hX mo a tn tr fm fn mv cq cm ck te yn rc hp ir ke wn jt z k hk hc hg hR)
set_option maxHeartbeats 1000000 in
set_option maxRecDepth 100000 in
theorem wk_judge4 {X : Cx} (hX : Ok X cX11_judge 2 RX11 1) (mo : Nat) (a : Nat → Nat) (tn tr fm fn mv cq cm : Nat) (ck te yn rc : Int32) (hp ir ke : Bool) (wn : Nat) (jt : Nat → Int32) (z : XZ) (k : Nat) (hk : k < 40) (hc : jt k = 4) (hg : xOg z 2 < 1300) (hR : Rt X (none) (fun r es' => r = none ∧ es' = [ob 11 (.ref (a 0) :: .int (nI tn) :: .int (xFk (xJ4 z)) :: .int (xFp (xJ4 z)) :: .ref (a 4) :: .ref (a 5) :: .ref (a 6) :: .ref (a 7) :: .ref (a 8) :: .ref (a 9) :: .ref (a 10) :: .ref (a 11) :: .ref (a 12) :: .ref (a 13) :: .int (nI tr) :: .int (nI fm) :: .int ck :: .int te :: .int (nI fn) :: .ref (a 19) :: .ref (a 20) :: .ref (a 21) :: .ref (a 22) :: .ref (a 23) :: .ref (a 24) :: .ref (a 25) :: .ref (a 26) :: .ref (a 27) :: .int (b2 hp) :: .int yn :: .int (b2 ir) :: .ref (a 31) :: .int rc :: .ref (a 33) :: .int (nI mv) :: .int (xKd (xJ4 z)) :: .int (nI (xBg (xJ4 z))) :: .int (nI (xEn (xJ4 z))) :: .int (xMk (xJ4 z)) :: .long (xLe (xJ4 z)) :: .int (nI (xTk (xJ4 z))) :: .int (nI (xOp (xJ4 z))) :: .ref (a 42) :: .int (nI wn) :: .ref (a 44) :: .int (nI k) :: .ref (a 46) :: .ref (a 47) :: .ref (a 48) :: .ref (a 49) :: .ref (a 50) :: .ref (a 51) :: .int (b2 ke) :: .ref (a 53) :: .ref (a 54) :: .ref (a 55) :: .int (nI cq) :: .int (nI cm) :: []), aI (CxD X) 3900 (xOr (xJ4 z)), aI (CxD X) 3900 (xNu (xJ4 z)), aI (CxD X) 3 (nf (xOg (xJ4 z))), aI (CxD X) 40 jt]) [mo, a 4, a 5, a 6, a 44]) : Aw X [mo, a 4, a 5, a 6, a 44] [ob 11 (.ref (a 0) :: .int (nI tn) :: .int (xFk z) :: .int (xFp z) :: .ref (a 4) :: .ref (a 5) :: .ref (a 6) :: .ref (a 7) :: .ref (a 8) :: .ref (a 9) :: .ref (a 10) :: .ref (a 11) :: .ref (a 12) :: .ref (a 13) :: .int (nI tr) :: .int (nI fm) :: .int ck :: .int te :: .int (nI fn) :: .ref (a 19) :: .ref (a 20) :: .ref (a 21) :: .ref (a 22) :: .ref (a 23) :: .ref (a 24) :: .ref (a 25) :: .ref (a 26) :: .ref (a 27) :: .int (b2 hp) :: .int yn :: .int (b2 ir) :: .ref (a 31) :: .int rc :: .ref (a 33) :: .int (nI mv) :: .int (xKd z) :: .int (nI (xBg z)) :: .int (nI (xEn z)) :: .int (xMk z) :: .long (xLe z) :: .int (nI (xTk z)) :: .int (nI (xOp z)) :: .ref (a 42) :: .int (nI wn) :: .ref (a 44) :: .int (nI (k + 1)) :: .ref (a 46) :: .ref (a 47) :: .ref (a 48) :: .ref (a 49) :: .ref (a 50) :: .ref (a 51) :: .int (b2 ke) :: .ref (a 53) :: .ref (a 54) :: .ref (a 55) :: .int (nI cq) :: .int (nI cm) :: []), aI (CxD X) 3900 (xOr z), aI (CxD X) 3900 (xNu z), aI (CxD X) 3 (nf (xOg z)), aI (CxD X) 40 jt] 0 [(0, .ref mo)] [] := by
  refine r_aload_n (n := 1) hX dX11_judge_0 rfl rfl 0 rfl ?_
  refine r_dup (n := 2) hX dX11_judge_1 rfl rfl ?_
  refine r_get (n := 5) hX 0 rfl rfl rfl 45 (by decide) lay_X11 fl_X11_199 rfl dX11_judge_2 rfl ?_
  refine r_iconst (n := 6) hX 1 dX11_judge_5 rfl rfl ?_
  refine r_isub (n := 7) hX dX11_judge_6 rfl ?_
  refine Aw.topi (nI k) (nI_pred _) ?_
  refine r_put (n := 10) hX 0 rfl rfl rfl 45 [ob 11 (.ref (a 0) :: .int (nI tn) :: .int (xFk z) :: .int (xFp z) :: .ref (a 4) :: .ref (a 5) :: .ref (a 6) :: .ref (a 7) :: .ref (a 8) :: .ref (a 9) :: .ref (a 10) :: .ref (a 11) :: .ref (a 12) :: .ref (a 13) :: .int (nI tr) :: .int (nI fm) :: .int ck :: .int te :: .int (nI fn) :: .ref (a 19) :: .ref (a 20) :: .ref (a 21) :: .ref (a 22) :: .ref (a 23) :: .ref (a 24) :: .ref (a 25) :: .ref (a 26) :: .ref (a 27) :: .int (b2 hp) :: .int yn :: .int (b2 ir) :: .ref (a 31) :: .int rc :: .ref (a 33) :: .int (nI mv) :: .int (xKd z) :: .int (nI (xBg z)) :: .int (nI (xEn z)) :: .int (xMk z) :: .long (xLe z) :: .int (nI (xTk z)) :: .int (nI (xOp z)) :: .ref (a 42) :: .int (nI wn) :: .ref (a 44) :: .int (nI k) :: .ref (a 46) :: .ref (a 47) :: .ref (a 48) :: .ref (a 49) :: .ref (a 50) :: .ref (a 51) :: .int (b2 ke) :: .ref (a 53) :: .ref (a 54) :: .ref (a 55) :: .int (nI cq) :: .int (nI cm) :: []), aI (CxD X) 3900 (xOr z), aI (CxD X) 3900 (xNu z), aI (CxD X) 3 (nf (xOg z)), aI (CxD X) 40 jt] (by decide) lay_X11 tyX11 tyX11_ok nmX11 fl_X11_199 rfl rfl rfl (Nat.le_of_ble_eq_true rfl) rfl dX11_judge_7 rfl ?_
  refine r_aload_n (n := 11) hX dX11_judge_10 rfl rfl 0 rfl ?_
  refine r_get (n := 14) hX 0 rfl rfl rfl 44 (by decide) lay_X11 fl_X11_86 rfl dX11_judge_11 rfl ?_
  refine r_aload_n (n := 15) hX dX11_judge_14 rfl rfl 0 rfl ?_
  refine r_get (n := 18) hX 0 rfl rfl rfl 45 (by decide) lay_X11 fl_X11_199 rfl dX11_judge_15 rfl ?_
  refine r_ialdn (n := 19) (i := k) hX 4 rfl rfl (by omega) (by decide) dX11_judge_18 rfl ?_
  refine Aw.topi 4 hc ?_
  refine r_istore_n (n := 20) hX [(0, .ref mo), (1, .int 4)] dX11_judge_19 rfl rfl (by decide) rfl ?_
  refine r_iload_n (n := 21) hX dX11_judge_20 rfl rfl 1 rfl ?_
  refine r_bipush (n := 23) hX 6 dX11_judge_21 rfl rfl ?_
  refine r_icmp_ne (tgt := 36) (n := 26) hX dX11_judge_23 (by decide) rfl (fun _ => ?_) (fun h => False.elim (by revert h; decide))
  refine r_aload_n (n := 37) hX dX11_judge_36 rfl rfl 0 rfl ?_
  refine r_iload_n (n := 38) hX dX11_judge_37 rfl rfl 1 rfl ?_
  refine r_bipush (n := 40) hX 6 dX11_judge_38 rfl rfl ?_
  refine r_icmp_ne (tgt := 48) (n := 43) hX dX11_judge_40 (by decide) rfl (fun _ => ?_) (fun h => False.elim (by revert h; decide))
  refine r_iload_n (n := 49) hX dX11_judge_48 rfl rfl 1 rfl ?_
  refine r_iconst (n := 50) hX 5 dX11_judge_49 rfl rfl ?_
  refine r_icmp_ne (tgt := 58) (n := 53) hX dX11_judge_50 (by decide) rfl (fun _ => ?_) (fun h => False.elim (by revert h; decide))
  refine r_bipush (n := 60) hX 12 dX11_judge_58 rfl rfl ?_
  refine r_iconst (n := 61) hX 0 dX11_judge_60 rfl rfl ?_
  refine r_callV (n := 64) (av := [.int 12, .int 0]) hX (ct_X11_emit (CxL X) (CxD X) mo a tn tr fm fn mv cq cm ck te yn rc hp ir ke wn k z 12 0 hg) ml_X11_202 cv_X11_emit rfl (by decide) [0, 1, 2, 3] rfl rfl (by decide) 0 rfl rfl rfl rfl rfl (Nat.le_of_ble_eq_true rfl) dX11_judge_61 rfl (fun r_ es_ h_ l_ => ?_)
  obtain ⟨rfl, rfl⟩ := h_
  show Aw X [mo, a 4, a 5, a 6, a 44] [ob 11 (.ref (a 0) :: .int (nI tn) :: .int (xFk (xEmit z 12 0)) :: .int (xFp (xEmit z 12 0)) :: .ref (a 4) :: .ref (a 5) :: .ref (a 6) :: .ref (a 7) :: .ref (a 8) :: .ref (a 9) :: .ref (a 10) :: .ref (a 11) :: .ref (a 12) :: .ref (a 13) :: .int (nI tr) :: .int (nI fm) :: .int ck :: .int te :: .int (nI fn) :: .ref (a 19) :: .ref (a 20) :: .ref (a 21) :: .ref (a 22) :: .ref (a 23) :: .ref (a 24) :: .ref (a 25) :: .ref (a 26) :: .ref (a 27) :: .int (b2 hp) :: .int yn :: .int (b2 ir) :: .ref (a 31) :: .int rc :: .ref (a 33) :: .int (nI mv) :: .int (xKd (xEmit z 12 0)) :: .int (nI (xBg (xEmit z 12 0))) :: .int (nI (xEn (xEmit z 12 0))) :: .int (xMk (xEmit z 12 0)) :: .long (xLe (xEmit z 12 0)) :: .int (nI (xTk (xEmit z 12 0))) :: .int (nI (xOp (xEmit z 12 0))) :: .ref (a 42) :: .int (nI wn) :: .ref (a 44) :: .int (nI k) :: .ref (a 46) :: .ref (a 47) :: .ref (a 48) :: .ref (a 49) :: .ref (a 50) :: .ref (a 51) :: .int (b2 ke) :: .ref (a 53) :: .ref (a 54) :: .ref (a 55) :: .int (nI cq) :: .int (nI cm) :: []), aI (CxD X) 3900 (xOr (xEmit z 12 0)), aI (CxD X) 3900 (xNu (xEmit z 12 0)), aI (CxD X) 3 (nf (xOg (xEmit z 12 0))), aI (CxD X) 40 jt] 64 [(0, .ref mo), (1, .int 4)] []
  exact r_return hX hR dX11_judge_64 ⟨rfl, rfl⟩
theorem ct_judge4 (l : Launch) (D : va_G) (mo : Nat) (a : Nat → Nat) (tn tr fm fn mv cq cm : Nat) (ck te yn rc : Int32) (hp ir ke : Bool) (wn : Nat) (jt : Nat → Int32) (z : XZ) (k : Nat) (hk : k < 40) (hc : jt k = 4) (hg : xOg z 2 < 1300) : Ct l D m_X11_judge 1 [.ref mo] [mo, a 4, a 5, a 6, a 44] [ob 11 (.ref (a 0) :: .int (nI tn) :: .int (xFk z) :: .int (xFp z) :: .ref (a 4) :: .ref (a 5) :: .ref (a 6) :: .ref (a 7) :: .ref (a 8) :: .ref (a 9) :: .ref (a 10) :: .ref (a 11) :: .ref (a 12) :: .ref (a 13) :: .int (nI tr) :: .int (nI fm) :: .int ck :: .int te :: .int (nI fn) :: .ref (a 19) :: .ref (a 20) :: .ref (a 21) :: .ref (a 22) :: .ref (a 23) :: .ref (a 24) :: .ref (a 25) :: .ref (a 26) :: .ref (a 27) :: .int (b2 hp) :: .int yn :: .int (b2 ir) :: .ref (a 31) :: .int rc :: .ref (a 33) :: .int (nI mv) :: .int (xKd z) :: .int (nI (xBg z)) :: .int (nI (xEn z)) :: .int (xMk z) :: .long (xLe z) :: .int (nI (xTk z)) :: .int (nI (xOp z)) :: .ref (a 42) :: .int (nI wn) :: .ref (a 44) :: .int (nI (k + 1)) :: .ref (a 46) :: .ref (a 47) :: .ref (a 48) :: .ref (a 49) :: .ref (a 50) :: .ref (a 51) :: .int (b2 ke) :: .ref (a 53) :: .ref (a 54) :: .ref (a 55) :: .int (nI cq) :: .int (nI cm) :: []), aI D 3900 (xOr z), aI D 3900 (xNu z), aI D 3 (nf (xOg z)), aI D 40 jt] (fun r es' => r = none ∧ es' = [ob 11 (.ref (a 0) :: .int (nI tn) :: .int (xFk (xJ4 z)) :: .int (xFp (xJ4 z)) :: .ref (a 4) :: .ref (a 5) :: .ref (a 6) :: .ref (a 7) :: .ref (a 8) :: .ref (a 9) :: .ref (a 10) :: .ref (a 11) :: .ref (a 12) :: .ref (a 13) :: .int (nI tr) :: .int (nI fm) :: .int ck :: .int te :: .int (nI fn) :: .ref (a 19) :: .ref (a 20) :: .ref (a 21) :: .ref (a 22) :: .ref (a 23) :: .ref (a 24) :: .ref (a 25) :: .ref (a 26) :: .ref (a 27) :: .int (b2 hp) :: .int yn :: .int (b2 ir) :: .ref (a 31) :: .int rc :: .ref (a 33) :: .int (nI mv) :: .int (xKd (xJ4 z)) :: .int (nI (xBg (xJ4 z))) :: .int (nI (xEn (xJ4 z))) :: .int (xMk (xJ4 z)) :: .long (xLe (xJ4 z)) :: .int (nI (xTk (xJ4 z))) :: .int (nI (xOp (xJ4 z))) :: .ref (a 42) :: .int (nI wn) :: .ref (a 44) :: .int (nI k) :: .ref (a 46) :: .ref (a 47) :: .ref (a 48) :: .ref (a 49) :: .ref (a 50) :: .ref (a 51) :: .int (b2 ke) :: .ref (a 53) :: .ref (a 54) :: .ref (a 55) :: .int (nI cq) :: .int (nI cm) :: []), aI D 3900 (xOr (xJ4 z)), aI D 3900 (xNu (xJ4 z)), aI D 3 (nf (xOg (xJ4 z))), aI D 40 jt]) :=
  Ct.ofA (own := RX11) (by decide) rfl (Nat.le_of_ble_eq_true rfl) rfl (fun X hl hD hX hR => by subst hl; subst hD; exact wk_judge4 hX mo a tn tr fm fn mv cq cm ck te yn rc hp ir ke wn jt z k hk hc hg hR)
