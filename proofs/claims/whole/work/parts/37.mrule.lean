
/-! what a condition leaves -/
theorem xC_ok {tp : Nat → Int32} {tn : Nat} {nm : Nat → Int64} {tr : Nat} : ∀ (m k : Nat) (v : CV) (r : List CV) (z y : XZ), xC tp tn nm tr m k v r z = (true, y) → XOk tn z → (k = 0 → v.2.2 = 0) → XOk tn y ∧ xTk z ≤ xTk y ∧ xOg y 2 + xTk z ≤ xOg z 2 + (cvL v r).length + xTk y
  | 0, k, v, r, z, y, h, _, _ => by cases h
  | m + 1, k, v, r, z, y, h, hz, hk => by
    have st1 := xSc1_st (z := z) (q := v.2.1)
    have stL := xSetC_st (z := z) (o := v.1) (q := v.2.1)
    have tk1 : xTk (xSc1 z v.2.1) = xTk z := congrArg (·.2) st1.1
    have tkL : xTk (xSetC z v.1 v.2.1) = xTk z := congrArg (·.2) stL.1
    have ok1 : XOk tn (xSc1 z v.2.1) := ⟨by rw [st1.1]; exact hz.1, by rw [tk1]; exact hz.2⟩
    have okL : XOk tn (xSetC z v.1 v.2.1) := ⟨by rw [stL.1]; exact hz.1, by rw [tkL]; exact hz.2⟩
    have e1 := st1.2.2.2
    have eL := stL.2.2.2
    have hl : ∀ r : List CV, (cvL v r).length = v.2.2 + ((encC r).length + (if v.1 = true then 1 else 0) + (if v.2.1 = true then 1 else 0)) := by
      intro r
      rw [cvL, List.length_append, List.length_replicate, cvA_len]
    have andd : ∀ r : List CV, xB (xP tp tn (xSc1 z v.2.1)) (fun y => xC tp tn nm tr m 1 (v.1, true, 0) r y) = (true, y) → XOk tn y ∧ xTk z ≤ xTk y ∧ xOg y 2 + xTk z ≤ xOg z 2 + (cvL v r).length + xTk y := by
      intro r h
      obtain ⟨hp, h⟩ := xB_t h
      have ht := xPass_tk (tp := tp) (tn := tn) hp
      obtain ⟨i1, i2, i3⟩ := xC_ok m 1 (v.1, true, 0) r _ y h (xPass_ok ok1) (fun e => absurd e Nat.one_ne_zero)
      have i3 : xOg y 2 + xTk (xPass tp tn (xSc1 z v.2.1)) ≤ xOg (xSc1 z v.2.1) 2 + (cvA v.1 true (encC r)).length + xTk y := i3
      have i2 : xTk (xPass tp tn (xSc1 z v.2.1)) ≤ xTk y := i2
      rw [cvA_len] at i3
      simp only [if_true] at i3
      rw [hl]
      exact ⟨i1, by omega, by omega⟩
    have orr : ∀ r : List CV, xB (xP tp tn (xSetC z v.1 v.2.1)) (fun y => xC tp tn nm tr m 1 (true, false, 0) r y) = (true, y) → XOk tn y ∧ xTk z ≤ xTk y ∧ xOg y 2 + xTk z ≤ xOg z 2 + (cvL v r).length + xTk y := by
      intro r h
      obtain ⟨hp, h⟩ := xB_t h
      have ht := xPass_tk (tp := tp) (tn := tn) hp
      obtain ⟨i1, i2, i3⟩ := xC_ok m 1 (true, false, 0) r _ y h (xPass_ok okL) (fun e => absurd e Nat.one_ne_zero)
      have i3 : xOg y 2 + xTk (xPass tp tn (xSetC z v.1 v.2.1)) ≤ xOg (xSetC z v.1 v.2.1) 2 + ((encC r).length + 1) + xTk y := i3
      have i2 : xTk (xPass tp tn (xSetC z v.1 v.2.1)) ≤ xTk y := i2
      rw [hl]
      exact ⟨i1, by omega, by omega⟩
    match k with
    | 0 =>
      have h : xC0 tp tn (xC tp tn nm tr m) v r z = (true, y) := h
      unfold xC0 at h
      cases r with
      | nil =>
        dsimp only at h
        split at h
        · exact andd [] h
        · split at h
          · exact orr [] h
          · injection h with _ h
            subst h
            rw [hl]
            exact ⟨okL, by omega, by omega⟩
      | cons v' r' =>
        dsimp only at h
        split at h
        · obtain ⟨hp, h⟩ := xB_t h
          have ht := xPass_tk (tp := tp) (tn := tn) hp
          have ht : xTk (xPass tp tn (xDn (xSetC z v.1 v.2.1))) = xTk (xSetC z v.1 v.2.1) + 1 := ht
          obtain ⟨b1, b2, b3, b4⟩ := xNots_st v'.2.2 (xPass tp tn (xDn (xSetC z v.1 v.2.1)))
          have ok2 : XOk tn (xPass tp tn (xDn (xSetC z v.1 v.2.1))) := xPass_ok (z := xDn (xSetC z v.1 v.2.1)) okL
          have tk2 : xTk (xNots v'.2.2 (xPass tp tn (xDn (xSetC z v.1 v.2.1)))) = xTk (xPass tp tn (xDn (xSetC z v.1 v.2.1))) := congrArg (·.2) b1
          have og2 : xOg (xPass tp tn (xDn (xSetC z v.1 v.2.1))) 2 = xOg (xSetC z v.1 v.2.1) 2 := rfl
          obtain ⟨i1, i2, i3⟩ := xC_ok m 0 (v'.1, v'.2.1, 0) r' _ y h ⟨by rw [show (xP tp tn (xDn (xSetC z v.1 v.2.1))).2 = xPass tp tn (xDn (xSetC z v.1 v.2.1)) from rfl, b1]; exact ok2.1, by rw [show (xP tp tn (xDn (xSetC z v.1 v.2.1))).2 = xPass tp tn (xDn (xSetC z v.1 v.2.1)) from rfl, tk2]; exact ok2.2⟩ (fun _ => rfl)
          have i3 : xOg y 2 + xTk (xNots v'.2.2 (xPass tp tn (xDn (xSetC z v.1 v.2.1)))) ≤ xOg (xNots v'.2.2 (xPass tp tn (xDn (xSetC z v.1 v.2.1)))) 2 + (cvA v'.1 v'.2.1 (encC r')).length + xTk y := i3
          have i2 : xTk (xNots v'.2.2 (xPass tp tn (xDn (xSetC z v.1 v.2.1)))) ≤ xTk y := i2
          rw [hl]
          simp only [encC, List.length_cons, List.length_append, List.length_replicate]
          exact ⟨i1, by omega, by omega⟩
        · split at h
          · exact andd _ h
          · split at h
            · exact orr _ h
            · cases h
    | _ + 1 =>
      have h : xC1 tp tn nm tr (xC tp tn nm tr m) v r z = (true, y) := h
      unfold xC1 at h
      split at h
      · split at h
        · cases h
        · obtain ⟨hp, h⟩ := xB_t h
          have ht := xPass_tk (tp := tp) (tn := tn) hp
          have ht : xTk (xPass tp tn (xUp z)) = xTk z + 1 := ht
          obtain ⟨i1, i2, i3⟩ := xC_ok m 1 (v.1, v.2.1, v.2.2 + 1) r _ y h (xPass_ok (z := xUp z) hz) (fun e => absurd e Nat.one_ne_zero)
          have i3 : xOg y 2 + xTk (xPass tp tn (xUp z)) ≤ xOg z 2 + ((cvL v r).length + 1) + xTk y := i3
          have i2 : xTk (xPass tp tn (xUp z)) ≤ xTk y := i2
          exact ⟨i1, by omega, by omega⟩
      · split at h
        · split at h
          · cases h
          · obtain ⟨hp, h⟩ := xB_t h
            have ht := xPass_tk (tp := tp) (tn := tn) hp
            have ht : xTk (xPass tp tn (xUp z)) = xTk z + 1 := ht
            obtain ⟨i1, i2, i3⟩ := xC_ok m 1 (false, false, 0) (v :: r) _ y h (xPass_ok (z := xUp z) hz) (fun e => absurd e Nat.one_ne_zero)
            have i3 : xOg y 2 + xTk (xPass tp tn (xUp z)) ≤ xOg z 2 + ((cvL v r).length + 1) + xTk y := i3
            have i2 : xTk (xPass tp tn (xUp z)) ≤ xTk y := i2
            exact ⟨i1, by omega, by omega⟩
        · obtain ⟨hp, h⟩ := xB_t h
          have hy : xRel tp tn nm tr z = (true, (xRel tp tn nm tr z).2) := Prod.ext hp rfl
          obtain ⟨a1, a2, a3, a4⟩ := xRel_ok hy hz
          obtain ⟨b1, b2, b3, b4⟩ := xNots_st v.2.2 (xRel tp tn nm tr z).2
          have tk2 : xTk (xNots v.2.2 (xRel tp tn nm tr z).2) = xTk (xRel tp tn nm tr z).2 := congrArg (·.2) b1
          obtain ⟨i1, i2, i3⟩ := xC_ok m 0 (v.1, v.2.1, 0) r _ y h ⟨by rw [b1]; exact a1.1, by rw [tk2]; exact a1.2⟩ (fun _ => rfl)
          have i3 : xOg y 2 + xTk (xNots v.2.2 (xRel tp tn nm tr z).2) ≤ xOg (xNots v.2.2 (xRel tp tn nm tr z).2) 2 + (cvA v.1 v.2.1 (encC r)).length + xTk y := i3
          rw [cvA_len] at i3
          rw [hl]
          exact ⟨i1, by omega, by omega⟩
theorem xCond_ok {tp : Nat → Int32} {tn : Nat} {nm : Nat → Int64} {tr : Nat} {z : XZ} (h : (xCond tp tn nm tr z).1 = true) (hz : XOk tn z) : XOk tn (xCond tp tn nm tr z).2 ∧ xTk z ≤ xTk (xCond tp tn nm tr z).2 ∧ xOg (xCond tp tn nm tr z).2 2 + xTk z ≤ xOg z 2 + xTk (xCond tp tn nm tr z).2 := by
  have e : xC tp tn nm tr 602 1 (false, false, 0) [] z = (true, (xCond tp tn nm tr z).2) := by
    rw [← h]; rfl
  obtain ⟨i1, i2, i3⟩ := xC_ok 602 1 (false, false, 0) [] z _ e hz (fun e => absurd e Nat.one_ne_zero)
  have i3 : xOg (xCond tp tn nm tr z).2 2 + xTk z ≤ xOg z 2 + 0 + xTk (xCond tp tn nm tr z).2 := i3
  exact ⟨i1, i2, by omega⟩
/-! what lies outside the part that is written stays -/
def Fr (z y : XZ) : Prop := (∀ j, j < 2600 → xOr y j = xOr z j ∧ xNu y j = xNu z j) ∧ ∀ j, j < 2 → xOg y j = xOg z j
theorem Fr.rf {z : XZ} : Fr z z := ⟨fun _ _ => ⟨rfl, rfl⟩, fun _ _ => rfl⟩
theorem Fr.tr {x y z : XZ} (h : Fr x y) (k : Fr y z) : Fr x z := ⟨fun j hj => ⟨(k.1 j hj).1.trans (h.1 j hj).1, (k.1 j hj).2.trans (h.1 j hj).2⟩, fun j hj => (k.2 j hj).trans (h.2 j hj)⟩
theorem Fr.of {x y : XZ} (h : x.2.2.2 = y.2.2.2) : Fr x y := by
  unfold Fr xOr xNu xOg
  rw [h]
  exact ⟨fun _ _ => ⟨rfl, rfl⟩, fun _ _ => rfl⟩
theorem Fr.em {z : XZ} {o n : Int32} : Fr z (xEmit z o n) := by
  refine ⟨fun j hj => ⟨?_, ?_⟩, fun j hj => ?_⟩
  · show upd _ _ _ j = _; unfold upd; rw [if_neg (by omega)]
  · show upd _ _ _ j = _; unfold upd; rw [if_neg (by omega)]
  · show va_up _ 2 _ j = _; exact va_up_ne _ _ (by omega)
theorem Fr.xb {z : XZ} {r : Bool × XZ} {f : XZ → Bool × XZ} (h : Fr z r.2) (hf : ∀ y, Fr z y → Fr z (f y).2) : Fr z (xB r f).2 := by
  unfold xB
  split
  · exact hf _ h
  · exact h
theorem Fr.pass {tp : Nat → Int32} {tn : Nat} {z : XZ} : Fr z (xPass tp tn z) := Fr.of rfl
theorem Fr.set1 {z : XZ} {l : LV} : Fr z (xSt1 z l) := by unfold xSt1; split; exact Fr.em; exact Fr.rf
theorem Fr.setL {z : XZ} {l : LV} : Fr z (xSetL z l) := by unfold xSetL; split; exact Fr.set1; exact Fr.set1.tr Fr.em
theorem Fr.unit {tp : Nat → Int32} {tn : Nat} {nm : Nat → Int64} {tr : Nat} {z : XZ} : Fr z (xUnit tp tn nm tr z).2 := by
  have un : ∀ o, Fr z (xUn tp tn nm tr o z).2 := fun o => by
    unfold xUn
    refine Fr.xb Fr.pass (fun y hy => Fr.xb (hy.tr (Fr.of rfl)) (fun y hy => ?_))
    unfold xUn3
    split
    · refine hy.tr (Fr.tr (Fr.tr (y := if mTrait nm (xLe y) tr 0 = none then xFlt y 4 else y) ?_ Fr.em) Fr.pass)
      split
      · exact Fr.of rfl
      · exact Fr.rf
    · exact hy.tr (Fr.of rfl)
  unfold xUnit
  split
  · exact Fr.em.tr Fr.pass
  · split
    · exact un 1
    · split
      · exact un 2
      · exact Fr.of rfl
theorem xM_fr {tp : Nat → Int32} {tn : Nat} {nm : Nat → Int64} {tr : Nat} : ∀ (m k : Nat) (l : LV) (r : List LV) (z : XZ), Fr z (xM tp tn nm tr m k l r z).2
  | 0, _, _, _, _ => Fr.rf
  | m + 1, k, l, r, z => by
    have m1 : Fr z (xM1 tp tn nm tr (xM tp tn nm tr m) l r z).2 := by
      unfold xM1
      split
      · split
        · exact Fr.of rfl
        · exact Fr.xb (Fr.of rfl) (fun y hy => hy.tr (xM_fr m _ _ _ y))
      · exact Fr.xb Fr.unit (fun y hy => hy.tr (xM_fr m _ _ _ y))
    match k with
    | 0 =>
      show Fr z (xM0 tp tn (xM tp tn nm tr m) l r z).2
      unfold xM0
      cases r with
      | nil =>
        dsimp only
        split
        · exact Fr.xb (Fr.set1.tr Fr.pass) (fun y hy => hy.tr (xM_fr m _ _ _ y))
        · split
          · exact Fr.xb (Fr.setL.tr Fr.pass) (fun y hy => hy.tr (xM_fr m _ _ _ y))
          · split
            · exact Fr.xb (Fr.setL.tr Fr.pass) (fun y hy => hy.tr (xM_fr m _ _ _ y))
            · exact Fr.setL
      | cons l' r' =>
        dsimp only
        split
        · exact Fr.xb (Fr.setL.tr (Fr.of rfl)) (fun y hy => hy.tr (xM_fr m _ _ _ y))
        · split
          · exact Fr.xb (Fr.set1.tr Fr.pass) (fun y hy => hy.tr (xM_fr m _ _ _ y))
          · split
            · exact Fr.xb (Fr.setL.tr Fr.pass) (fun y hy => hy.tr (xM_fr m _ _ _ y))
            · split
              · exact Fr.xb (Fr.setL.tr Fr.pass) (fun y hy => hy.tr (xM_fr m _ _ _ y))
              · exact Fr.of rfl
    | 1 => exact m1
    | _ + 2 =>
      show Fr z (xM2 tp tn nm tr (xM tp tn nm tr m) l r z).2
      unfold xM2
      split
      · exact Fr.xb Fr.pass (fun y hy => hy.tr (xM_fr m _ _ _ y))
      · exact m1
theorem Fr.exp {tp : Nat → Int32} {tn : Nat} {nm : Nat → Int64} {tr : Nat} {z : XZ} : Fr z (xExp tp tn nm tr z).2 := xM_fr _ _ _ _ _
theorem Fr.rel {tp : Nat → Int32} {tn : Nat} {nm : Nat → Int64} {tr : Nat} {z : XZ} : Fr z (xRel tp tn nm tr z).2 := by
  unfold xRel
  refine Fr.xb Fr.exp (fun y hy => hy.tr ?_)
  unfold xRel2
  split
  · exact Fr.of rfl
  · unfold xRel3
    exact Fr.xb Fr.pass (fun w hw => Fr.xb (hw.tr Fr.exp) (fun u hu => hu.tr Fr.em))
theorem Fr.nots : ∀ (n : Nat) (z : XZ), Fr z (xNots n z)
  | 0, _ => Fr.rf
  | n + 1, z => by
    have h : Fr z (xJ6 z) := Fr.tr (y := xDn z) (Fr.of rfl) Fr.em
    exact h.tr (Fr.nots n (xJ6 z))
theorem Fr.sc1 {z : XZ} {q : Bool} : Fr z (xSc1 z q) := by unfold xSc1; split; exact Fr.em; exact Fr.rf
theorem Fr.setC {z : XZ} {o q : Bool} : Fr z (xSetC z o q) := by unfold xSetC; split; exact Fr.sc1.tr Fr.em; exact Fr.sc1
theorem xC_fr {tp : Nat → Int32} {tn : Nat} {nm : Nat → Int64} {tr : Nat} : ∀ (m k : Nat) (v : CV) (r : List CV) (z : XZ), Fr z (xC tp tn nm tr m k v r z).2
  | 0, _, _, _, _ => Fr.rf
  | m + 1, k, v, r, z => by
    match k with
    | 0 =>
      show Fr z (xC0 tp tn (xC tp tn nm tr m) v r z).2
      unfold xC0
      cases r with
      | nil =>
        dsimp only
        split
        · exact Fr.xb (Fr.sc1.tr Fr.pass) (fun y hy => hy.tr (xC_fr m _ _ _ y))
        · split
          · exact Fr.xb (Fr.setC.tr Fr.pass) (fun y hy => hy.tr (xC_fr m _ _ _ y))
          · exact Fr.setC
      | cons v' r' =>
        dsimp only
        split
        · exact Fr.xb (Fr.setC.tr (Fr.of rfl)) (fun y hy => hy.tr ((Fr.nots _ y).tr (xC_fr m _ _ _ _)))
        · split
          · exact Fr.xb (Fr.sc1.tr Fr.pass) (fun y hy => hy.tr (xC_fr m _ _ _ y))
          · split
            · exact Fr.xb (Fr.setC.tr Fr.pass) (fun y hy => hy.tr (xC_fr m _ _ _ y))
            · exact Fr.of rfl
    | _ + 1 =>
      show Fr z (xC1 tp tn nm tr (xC tp tn nm tr m) v r z).2
      unfold xC1
      split
      · split
        · exact Fr.of rfl
        · exact Fr.xb (Fr.of rfl) (fun y hy => hy.tr (xC_fr m _ _ _ y))
      · split
        · split
          · exact Fr.of rfl
          · exact Fr.xb (Fr.of rfl) (fun y hy => hy.tr (xC_fr m _ _ _ y))
        · exact Fr.xb Fr.rel (fun y hy => hy.tr ((Fr.nots _ y).tr (xC_fr m _ _ _ _)))
theorem Fr.cond {tp : Nat → Int32} {tn : Nat} {nm : Nat → Int64} {tr : Nat} {z : XZ} : Fr z (xCond tp tn nm tr z).2 := xC_fr _ _ _ _ _
/-! a rule -/
def xO0 (z : XZ) : XZ := (z.1, z.2.1, 0, z.2.2.2)
def xRu1 (tp : Nat → Int32) (tn : Nat) (nm : Nat → Int64) (tr : Nat) (bar : Bool) (z : XZ) : Bool × XZ := xB (xP tp tn (xO0 z)) (fun y => if bar = true then (true, y) else xExp tp tn nm tr y)
def xRu2 (tp : Nat → Int32) (tn : Nat) (nm : Nat → Int64) (tr : Nat) (bar : Bool) (y : XZ) : Bool × XZ := if bar = true then xCond tp tn nm tr y else if xIsW y 3 = true then xB (xP tp tn y) (xCond tp tn nm tr) else (true, y)
def xRule (tp : Nat → Int32) (tn : Nat) (nm : Nat → Int64) (tr : Nat) (z : XZ) : Bool × XZ := xB (xRu1 tp tn nm tr (xIsW z 1) z) (fun y => xB (xRu2 tp tn nm tr (xIsW z 1) y) (xS tp tn 59))
theorem Fr.rule {tp : Nat → Int32} {tn : Nat} {nm : Nat → Int64} {tr : Nat} {z : XZ} : Fr z (xRule tp tn nm tr z).2 := by
  unfold xRule
  refine Fr.xb ?_ (fun y hy => Fr.xb (hy.tr ?_) (fun w hw => hw.tr (Fr.of rfl)))
  · unfold xRu1
    refine Fr.xb (Fr.of rfl) (fun y hy => hy.tr ?_)
    split
    · exact Fr.rf
    · exact Fr.exp
  · unfold xRu2
    split
    · exact Fr.cond
    · split
      · exact Fr.xb Fr.pass (fun w hw => hw.tr Fr.cond)
      · exact Fr.rf
theorem xRu1_ok {tp : Nat → Int32} {tn : Nat} {nm : Nat → Int64} {tr : Nat} {bar : Bool} {z y : XZ} (h : xRu1 tp tn nm tr bar z = (true, y)) (hz : XOk tn z) : XOk tn y ∧ xTk z + 1 ≤ xTk y ∧ xOg y 2 + xTk z + 1 ≤ xOg z 2 + xTk y ∧ xOp y = 0 := by
  unfold xRu1 at h
  obtain ⟨hp, h⟩ := xB_t h
  have ht := xPass_tk (tp := tp) (tn := tn) hp
  have ht : xTk (xP tp tn (xO0 z)).2 = xTk z + 1 := ht
  have ok1 : XOk tn (xP tp tn (xO0 z)).2 := xPass_ok (z := xO0 z) hz
  split at h
  · injection h with _ h
    subst h
    refine ⟨ok1, by omega, ?_, rfl⟩
    show xOg z 2 + xTk z + 1 ≤ xOg z 2 + xTk (xP tp tn (xO0 z)).2; omega
  · have h1 : (xExp tp tn nm tr (xP tp tn (xO0 z)).2).1 = true := by rw [h]
    obtain ⟨a1, a2, a3, a4⟩ := xExp_ok h1 ok1
    have e : (xExp tp tn nm tr (xP tp tn (xO0 z)).2).2 = y := by rw [h]
    rw [e] at a1 a2 a3 a4
    have a3 : xOg y 2 + xTk (xP tp tn (xO0 z)).2 ≤ xOg z 2 + xTk y := a3
    exact ⟨a1, by omega, by omega, a4⟩
theorem xRu2_ok {tp : Nat → Int32} {tn : Nat} {nm : Nat → Int64} {tr : Nat} {bar : Bool} {z y : XZ} (h : xRu2 tp tn nm tr bar z = (true, y)) (hz : XOk tn z) : XOk tn y ∧ xTk z ≤ xTk y ∧ xOg y 2 + xTk z ≤ xOg z 2 + xTk y := by
  unfold xRu2 at h
  have cnd : ∀ w, XOk tn w → xCond tp tn nm tr w = (true, y) → XOk tn y ∧ xTk w ≤ xTk y ∧ xOg y 2 + xTk w ≤ xOg w 2 + xTk y := fun w hw h => by
    have h1 : (xCond tp tn nm tr w).1 = true := by rw [h]
    have a := xCond_ok h1 hw
    rw [h] at a
    exact a
  split at h
  · exact cnd z hz h
  · split at h
    · obtain ⟨hp, h⟩ := xB_t h
      have ht := xPass_tk (tp := tp) (tn := tn) hp
      have ht : xTk (xP tp tn z).2 = xTk z + 1 := ht
      obtain ⟨a1, a2, a3⟩ := cnd _ (xPass_ok hz) h
      have a3 : xOg y 2 + xTk (xP tp tn z).2 ≤ xOg z 2 + xTk y := a3
      exact ⟨a1, by omega, by omega⟩
    · injection h with _ h
      subst h
      exact ⟨hz, Nat.le_refl _, Nat.le_refl _⟩
theorem xRule_ok {tp : Nat → Int32} {tn : Nat} {nm : Nat → Int64} {tr : Nat} {z : XZ} (h : (xRule tp tn nm tr z).1 = true) (hz : XOk tn z) : XOk tn (xRule tp tn nm tr z).2 ∧ xTk z + 1 ≤ xTk (xRule tp tn nm tr z).2 ∧ xOg (xRule tp tn nm tr z).2 2 + xTk z ≤ xOg z 2 + xTk (xRule tp tn nm tr z).2 := by
  have e : xRule tp tn nm tr z = (true, (xRule tp tn nm tr z).2) := Prod.ext h rfl
  generalize (xRule tp tn nm tr z).2 = u at e
  unfold xRule at e
  obtain ⟨h1, e⟩ := xB_t e
  obtain ⟨h2, e⟩ := xB_t e
  have e1 : xRu1 tp tn nm tr (xIsW z 1) z = (true, (xRu1 tp tn nm tr (xIsW z 1) z).2) := Prod.ext h1 rfl
  obtain ⟨a1, a2, a3, a4⟩ := xRu1_ok e1 hz
  generalize (xRu1 tp tn nm tr (xIsW z 1) z).2 = y at *
  have e2 : xRu2 tp tn nm tr (xIsW z 1) y = (true, (xRu2 tp tn nm tr (xIsW z 1) y).2) := Prod.ext h2 rfl
  obtain ⟨b1, b2, b3⟩ := xRu2_ok e2 a1
  generalize (xRu2 tp tn nm tr (xIsW z 1) y).2 = w at *
  have h3 : (xS tp tn 59 w).1 = true := by rw [e]
  have c1 := xS_ok (tp := tp) (c := 59) b1
  have c2 := xS_tk h3
  have c3 : xOg (xS tp tn 59 w).2 2 = xOg w 2 := rfl
  rw [e] at c1 c2 c3
  have c2 : xTk u = xTk w + 1 := c2
  have c3 : xOg u 2 = xOg w 2 := c3
  exact ⟨c1, by omega, by omega⟩
abbrev RZ : Type := (Nat → Nat) × (Nat → Bool) × (Nat → Nat) × (Nat → Nat) × (Nat → Nat) × (Nat → Nat)
/-- rules behind another -/
def xRz (tp : Nat → Int32) (tn : Nat) (nm : Nat → Int64) (tr : Nat) (q : RZ) (z : XZ) : RZ := (va_up q.1 2 (q.1 2 + 1), updB q.2.1 (40 + q.1 2) (xIsW z 1), va_up q.2.2.1 (40 + q.1 2) (xOg z 2), va_up q.2.2.2.1 (40 + q.1 2) (xOg (xRu1 tp tn nm tr (xIsW z 1) z).2 2), va_up q.2.2.2.2.1 (40 + q.1 2) (xOg (xRu1 tp tn nm tr (xIsW z 1) z).2 2), va_up q.2.2.2.2.2 (40 + q.1 2) (xOg (xRu2 tp tn nm tr (xIsW z 1) (xRu1 tp tn nm tr (xIsW z 1) z).2).2 2))
def RFr (q p : RZ) : Prop := (∀ j, j < 2 → p.1 j = q.1 j) ∧ ∀ j, j < 40 → p.2.1 j = q.2.1 j ∧ p.2.2.1 j = q.2.2.1 j ∧ p.2.2.2.1 j = q.2.2.2.1 j ∧ p.2.2.2.2.1 j = q.2.2.2.2.1 j ∧ p.2.2.2.2.2 j = q.2.2.2.2.2 j
theorem RFr.rf {q : RZ} : RFr q q := ⟨fun _ _ => rfl, fun _ _ => ⟨rfl, rfl, rfl, rfl, rfl⟩⟩
theorem RFr.tr {x y z : RZ} (h : RFr x y) (k : RFr y z) : RFr x z := ⟨fun j hj => (k.1 j hj).trans (h.1 j hj), fun j hj => by
  obtain ⟨a1, a2, a3, a4, a5⟩ := h.2 j hj
  obtain ⟨b1, b2, b3, b4, b5⟩ := k.2 j hj
  exact ⟨b1.trans a1, b2.trans a2, b3.trans a3, b4.trans a4, b5.trans a5⟩⟩
theorem va_up_lt {σ : Type} {f : Nat → σ} {n j : Nat} {v : σ} (h : j < 40) : va_up f (40 + n) v j = f j := va_up_ne _ _ (by omega)
theorem updB_lt {f : Nat → Bool} {n j : Nat} {v : Bool} (h : j < 40) : updB f (40 + n) v j = f j := by unfold updB; rw [if_neg (by omega)]
theorem RFr.rz {tp : Nat → Int32} {tn : Nat} {nm : Nat → Int64} {tr : Nat} {q : RZ} {z : XZ} : RFr q (xRz tp tn nm tr q z) := ⟨fun j hj => va_up_ne _ _ (by omega), fun j hj => ⟨updB_lt hj, va_up_lt hj, va_up_lt hj, va_up_lt hj, va_up_lt hj⟩⟩

set_option maxHeartbeats 1000000 in
set_option maxRecDepth 100000 in
theorem wk_X11_rule {X : Cx} (hX : Ok X cX11_rule 3 RX11 9) (mo : Nat) (a : Nat → Nat) (tn tr fm fn mv cq cm : Nat) (ck te yn rc : Int32) (hp ir ke : Bool) (tp : Nat → Int32) (nm : Nat → Int64) (z : XZ) (wt : Nat → Int32) (wn : Nat) (jt : Nat → Int32) (jn : Nat) (q : RZ) (ht : tn ≤ 3000) (htr : tr ≤ 8) (hz : XOk tn z) (hg : xOg z 2 ≤ xTk z) (hr : q.1 2 < 20) (hR : Rt X (some FieldType.boolean) (fun r es' => r = some (.int (b2 (xRule tp tn nm tr z).1)) ∧ ∃ (wt : Nat → Int32) (wn : Nat) (jt : Nat → Int32) (jn : Nat) (p : RZ), es' = [ob 11 (.ref (a 0) :: .int (nI tn) :: .int (xFk ((xRule tp tn nm tr z).2)) :: .int (xFp ((xRule tp tn nm tr z).2)) :: .ref (a 4) :: .ref (a 5) :: .ref (a 6) :: .ref (a 7) :: .ref (a 8) :: .ref (a 9) :: .ref (a 10) :: .ref (a 11) :: .ref (a 12) :: .ref (a 13) :: .int (nI tr) :: .int (nI fm) :: .int ck :: .int te :: .int (nI fn) :: .ref (a 19) :: .ref (a 20) :: .ref (a 21) :: .ref (a 22) :: .ref (a 23) :: .ref (a 24) :: .ref (a 25) :: .ref (a 26) :: .ref (a 27) :: .int (b2 hp) :: .int yn :: .int (b2 ir) :: .ref (a 31) :: .int rc :: .ref (a 33) :: .int (nI mv) :: .int (xKd ((xRule tp tn nm tr z).2)) :: .int (nI (xBg ((xRule tp tn nm tr z).2))) :: .int (nI (xEn ((xRule tp tn nm tr z).2))) :: .int (xMk ((xRule tp tn nm tr z).2)) :: .long (xLe ((xRule tp tn nm tr z).2)) :: .int (nI (xTk ((xRule tp tn nm tr z).2))) :: .int (nI (xOp ((xRule tp tn nm tr z).2))) :: .ref (a 42) :: .int (nI wn) :: .ref (a 44) :: .int (nI jn) :: .ref (a 46) :: .ref (a 47) :: .ref (a 48) :: .ref (a 49) :: .ref (a 50) :: .ref (a 51) :: .int (b2 ke) :: .ref (a 53) :: .ref (a 54) :: .ref (a 55) :: .int (nI cq) :: .int (nI cm) :: []), aB (CxD X) 3000 tp, aI (CxD X) 3900 (xOr ((xRule tp tn nm tr z).2)), aI (CxD X) 3900 (xNu ((xRule tp tn nm tr z).2)), aI (CxD X) 3 (nf (xOg ((xRule tp tn nm tr z).2))), aJ (CxD X) 8 nm, aI (CxD X) 40 wt, aI (CxD X) 40 jt, aI (CxD X) 3 (nf p.1), aZ (CxD X) 60 (zf p.2.1), aI (CxD X) 60 (nf p.2.2.1), aI (CxD X) 60 (nf p.2.2.2.1), aI (CxD X) 60 (nf p.2.2.2.2.1), aI (CxD X) 60 (nf p.2.2.2.2.2)] ∧ RFr q p ∧ ((xRule tp tn nm tr z).1 = true → p = xRz tp tn nm tr q z)) [mo, a 0, a 4, a 5, a 6, a 13, a 42, a 44, a 7, a 8, a 9, a 10, a 11, a 12]) : Aw X [mo, a 0, a 4, a 5, a 6, a 13, a 42, a 44, a 7, a 8, a 9, a 10, a 11, a 12] [ob 11 (.ref (a 0) :: .int (nI tn) :: .int (xFk z) :: .int (xFp z) :: .ref (a 4) :: .ref (a 5) :: .ref (a 6) :: .ref (a 7) :: .ref (a 8) :: .ref (a 9) :: .ref (a 10) :: .ref (a 11) :: .ref (a 12) :: .ref (a 13) :: .int (nI tr) :: .int (nI fm) :: .int ck :: .int te :: .int (nI fn) :: .ref (a 19) :: .ref (a 20) :: .ref (a 21) :: .ref (a 22) :: .ref (a 23) :: .ref (a 24) :: .ref (a 25) :: .ref (a 26) :: .ref (a 27) :: .int (b2 hp) :: .int yn :: .int (b2 ir) :: .ref (a 31) :: .int rc :: .ref (a 33) :: .int (nI mv) :: .int (xKd z) :: .int (nI (xBg z)) :: .int (nI (xEn z)) :: .int (xMk z) :: .long (xLe z) :: .int (nI (xTk z)) :: .int (nI (xOp z)) :: .ref (a 42) :: .int (nI wn) :: .ref (a 44) :: .int (nI jn) :: .ref (a 46) :: .ref (a 47) :: .ref (a 48) :: .ref (a 49) :: .ref (a 50) :: .ref (a 51) :: .int (b2 ke) :: .ref (a 53) :: .ref (a 54) :: .ref (a 55) :: .int (nI cq) :: .int (nI cm) :: []), aB (CxD X) 3000 tp, aI (CxD X) 3900 (xOr z), aI (CxD X) 3900 (xNu z), aI (CxD X) 3 (nf (xOg z)), aJ (CxD X) 8 nm, aI (CxD X) 40 wt, aI (CxD X) 40 jt, aI (CxD X) 3 (nf q.1), aZ (CxD X) 60 (zf q.2.1), aI (CxD X) 60 (nf q.2.2.1), aI (CxD X) 60 (nf q.2.2.2.1), aI (CxD X) 60 (nf q.2.2.2.2.1), aI (CxD X) 60 (nf q.2.2.2.2.2)] 0 [(0, .ref mo)] [] := by
  refine r_bipush (n := 2) hX 40 dX11_rule_0 rfl rfl ?_
  refine r_aload_n (n := 3) hX dX11_rule_2 rfl rfl 0 rfl ?_
  refine r_get (n := 6) hX 0 rfl rfl rfl 7 (by decide) lay_X11 fl_X11_27 rfl dX11_rule_3 rfl ?_
  refine r_iconst (n := 7) hX 2 dX11_rule_6 rfl rfl ?_
  refine r_ialdNn (n := 8) (i := 2) hX 8 rfl rfl (by omega) (by decide) dX11_rule_7 rfl ?_
  refine r_iadd (n := 9) hX dX11_rule_8 rfl ?_
  refine Aw.topi (nI (40 + (q.1 2))) (nI_add _ _) ?_
  refine r_istore_n (n := 10) hX [(0, .ref mo), (1, .int (nI (40 + (q.1 2))))] dX11_rule_9 rfl rfl (by decide) rfl ?_
  refine r_aload_n (n := 11) hX dX11_rule_10 rfl rfl 0 rfl ?_
  refine r_get (n := 14) hX 0 rfl rfl rfl 8 (by decide) lay_X11 fl_X11_30 rfl dX11_rule_11 rfl ?_
  refine r_iload_n (n := 15) hX dX11_rule_14 rfl rfl 1 rfl ?_
  refine r_aload_n (n := 16) hX dX11_rule_15 rfl rfl 0 rfl ?_
  refine r_iconst (n := 17) hX 1 dX11_rule_16 rfl rfl ?_
  refine r_callV (n := 20) (av := [.int 1]) hX (ct_X11_isWord (CxL X) (CxD X) mo a tn tr fm fn mv (xBg z) (xEn z) (xTk z) (xOp z) wn jn cq cm (xFk z) (xFp z) ck te yn rc (xKd z) (xMk z) (xLe z) hp ir ke 1) ml_X11_206 cv_X11_isWord rfl (by decide) [0] rfl rfl (by decide) 0 rfl rfl rfl rfl rfl (Nat.le_of_ble_eq_true rfl) dX11_rule_17 rfl (fun r_ es_ h_ l_ => ?_)
  obtain ⟨rfl, rfl⟩ := h_
  show Aw X [mo, a 0, a 4, a 5, a 6, a 13, a 42, a 44, a 7, a 8, a 9, a 10, a 11, a 12] [ob 11 (.ref (a 0) :: .int (nI tn) :: .int (xFk z) :: .int (xFp z) :: .ref (a 4) :: .ref (a 5) :: .ref (a 6) :: .ref (a 7) :: .ref (a 8) :: .ref (a 9) :: .ref (a 10) :: .ref (a 11) :: .ref (a 12) :: .ref (a 13) :: .int (nI tr) :: .int (nI fm) :: .int ck :: .int te :: .int (nI fn) :: .ref (a 19) :: .ref (a 20) :: .ref (a 21) :: .ref (a 22) :: .ref (a 23) :: .ref (a 24) :: .ref (a 25) :: .ref (a 26) :: .ref (a 27) :: .int (b2 hp) :: .int yn :: .int (b2 ir) :: .ref (a 31) :: .int rc :: .ref (a 33) :: .int (nI mv) :: .int (xKd z) :: .int (nI (xBg z)) :: .int (nI (xEn z)) :: .int (xMk z) :: .long (xLe z) :: .int (nI (xTk z)) :: .int (nI (xOp z)) :: .ref (a 42) :: .int (nI wn) :: .ref (a 44) :: .int (nI jn) :: .ref (a 46) :: .ref (a 47) :: .ref (a 48) :: .ref (a 49) :: .ref (a 50) :: .ref (a 51) :: .int (b2 ke) :: .ref (a 53) :: .ref (a 54) :: .ref (a 55) :: .int (nI cq) :: .int (nI cm) :: []), aB (CxD X) 3000 tp, aI (CxD X) 3900 (xOr z), aI (CxD X) 3900 (xNu z), aI (CxD X) 3 (nf (xOg z)), aJ (CxD X) 8 nm, aI (CxD X) 40 wt, aI (CxD X) 40 jt, aI (CxD X) 3 (nf q.1), aZ (CxD X) 60 (zf q.2.1), aI (CxD X) 60 (nf q.2.2.1), aI (CxD X) 60 (nf q.2.2.2.1), aI (CxD X) 60 (nf q.2.2.2.2.1), aI (CxD X) 60 (nf q.2.2.2.2.2)] 20 [(0, .ref mo), (1, .int (nI (40 + (q.1 2))))] [.int (b2 (xIsW z 1)), .int (nI (40 + (q.1 2))), .ref (a 8)]
  refine r_zastbn (n := 21) (i := (40 + (q.1 2))) hX 9 rfl rfl (xIsW z 1) [ob 11 (.ref (a 0) :: .int (nI tn) :: .int (xFk z) :: .int (xFp z) :: .ref (a 4) :: .ref (a 5) :: .ref (a 6) :: .ref (a 7) :: .ref (a 8) :: .ref (a 9) :: .ref (a 10) :: .ref (a 11) :: .ref (a 12) :: .ref (a 13) :: .int (nI tr) :: .int (nI fm) :: .int ck :: .int te :: .int (nI fn) :: .ref (a 19) :: .ref (a 20) :: .ref (a 21) :: .ref (a 22) :: .ref (a 23) :: .ref (a 24) :: .ref (a 25) :: .ref (a 26) :: .ref (a 27) :: .int (b2 hp) :: .int yn :: .int (b2 ir) :: .ref (a 31) :: .int rc :: .ref (a 33) :: .int (nI mv) :: .int (xKd z) :: .int (nI (xBg z)) :: .int (nI (xEn z)) :: .int (xMk z) :: .long (xLe z) :: .int (nI (xTk z)) :: .int (nI (xOp z)) :: .ref (a 42) :: .int (nI wn) :: .ref (a 44) :: .int (nI jn) :: .ref (a 46) :: .ref (a 47) :: .ref (a 48) :: .ref (a 49) :: .ref (a 50) :: .ref (a 51) :: .int (b2 ke) :: .ref (a 53) :: .ref (a 54) :: .ref (a 55) :: .int (nI cq) :: .int (nI cm) :: []), aB (CxD X) 3000 tp, aI (CxD X) 3900 (xOr z), aI (CxD X) 3900 (xNu z), aI (CxD X) 3 (nf (xOg z)), aJ (CxD X) 8 nm, aI (CxD X) 40 wt, aI (CxD X) 40 jt, aI (CxD X) 3 (nf q.1), aZ (CxD X) 60 (zf (updB q.2.1 (40 + (q.1 2)) (xIsW z 1))), aI (CxD X) 60 (nf q.2.2.1), aI (CxD X) 60 (nf q.2.2.2.1), aI (CxD X) 60 (nf q.2.2.2.2.1), aI (CxD X) 60 (nf q.2.2.2.2.2)] (by omega) (by decide) rfl dX11_rule_20 rfl ?_
  refine r_aload_n (n := 22) hX dX11_rule_21 rfl rfl 0 rfl ?_
  refine r_iconst (n := 23) hX 0 dX11_rule_22 rfl rfl ?_
  refine r_put (n := 26) hX 0 rfl rfl rfl 41 [ob 11 (.ref (a 0) :: .int (nI tn) :: .int (xFk z) :: .int (xFp z) :: .ref (a 4) :: .ref (a 5) :: .ref (a 6) :: .ref (a 7) :: .ref (a 8) :: .ref (a 9) :: .ref (a 10) :: .ref (a 11) :: .ref (a 12) :: .ref (a 13) :: .int (nI tr) :: .int (nI fm) :: .int ck :: .int te :: .int (nI fn) :: .ref (a 19) :: .ref (a 20) :: .ref (a 21) :: .ref (a 22) :: .ref (a 23) :: .ref (a 24) :: .ref (a 25) :: .ref (a 26) :: .ref (a 27) :: .int (b2 hp) :: .int yn :: .int (b2 ir) :: .ref (a 31) :: .int rc :: .ref (a 33) :: .int (nI mv) :: .int (xKd z) :: .int (nI (xBg z)) :: .int (nI (xEn z)) :: .int (xMk z) :: .long (xLe z) :: .int (nI (xTk z)) :: .int 0 :: .ref (a 42) :: .int (nI wn) :: .ref (a 44) :: .int (nI jn) :: .ref (a 46) :: .ref (a 47) :: .ref (a 48) :: .ref (a 49) :: .ref (a 50) :: .ref (a 51) :: .int (b2 ke) :: .ref (a 53) :: .ref (a 54) :: .ref (a 55) :: .int (nI cq) :: .int (nI cm) :: []), aB (CxD X) 3000 tp, aI (CxD X) 3900 (xOr z), aI (CxD X) 3900 (xNu z), aI (CxD X) 3 (nf (xOg z)), aJ (CxD X) 8 nm, aI (CxD X) 40 wt, aI (CxD X) 40 jt, aI (CxD X) 3 (nf q.1), aZ (CxD X) 60 (zf (updB q.2.1 (40 + (q.1 2)) (xIsW z 1))), aI (CxD X) 60 (nf q.2.2.1), aI (CxD X) 60 (nf q.2.2.2.1), aI (CxD X) 60 (nf q.2.2.2.2.1), aI (CxD X) 60 (nf q.2.2.2.2.2)] (by decide) lay_X11 tyX11 tyX11_ok nmX11 fl_X11_218 rfl rfl rfl (Nat.le_of_ble_eq_true rfl) rfl dX11_rule_23 rfl ?_
  skip
  refine r_aload_n (n := 27) hX dX11_rule_26 rfl rfl 0 rfl ?_
  refine r_get (n := 30) hX 0 rfl rfl rfl 9 (by decide) lay_X11 fl_X11_34 rfl dX11_rule_27 rfl ?_
  refine r_iload_n (n := 31) hX dX11_rule_30 rfl rfl 1 rfl ?_
  refine r_aload_n (n := 32) hX dX11_rule_31 rfl rfl 0 rfl ?_
  refine r_get (n := 35) hX 0 rfl rfl rfl 6 (by decide) lay_X11 fl_X11_24 rfl dX11_rule_32 rfl ?_
  refine r_iconst (n := 36) hX 2 dX11_rule_35 rfl rfl ?_
  refine r_ialdNn (n := 37) (i := 2) hX 4 rfl rfl (by omega) (by decide) dX11_rule_36 rfl ?_
  refine r_iastNn (n := 38) (i := (40 + (q.1 2))) hX 10 rfl rfl ((xOg z) 2) [ob 11 (.ref (a 0) :: .int (nI tn) :: .int (xFk z) :: .int (xFp z) :: .ref (a 4) :: .ref (a 5) :: .ref (a 6) :: .ref (a 7) :: .ref (a 8) :: .ref (a 9) :: .ref (a 10) :: .ref (a 11) :: .ref (a 12) :: .ref (a 13) :: .int (nI tr) :: .int (nI fm) :: .int ck :: .int te :: .int (nI fn) :: .ref (a 19) :: .ref (a 20) :: .ref (a 21) :: .ref (a 22) :: .ref (a 23) :: .ref (a 24) :: .ref (a 25) :: .ref (a 26) :: .ref (a 27) :: .int (b2 hp) :: .int yn :: .int (b2 ir) :: .ref (a 31) :: .int rc :: .ref (a 33) :: .int (nI mv) :: .int (xKd z) :: .int (nI (xBg z)) :: .int (nI (xEn z)) :: .int (xMk z) :: .long (xLe z) :: .int (nI (xTk z)) :: .int 0 :: .ref (a 42) :: .int (nI wn) :: .ref (a 44) :: .int (nI jn) :: .ref (a 46) :: .ref (a 47) :: .ref (a 48) :: .ref (a 49) :: .ref (a 50) :: .ref (a 51) :: .int (b2 ke) :: .ref (a 53) :: .ref (a 54) :: .ref (a 55) :: .int (nI cq) :: .int (nI cm) :: []), aB (CxD X) 3000 tp, aI (CxD X) 3900 (xOr z), aI (CxD X) 3900 (xNu z), aI (CxD X) 3 (nf (xOg z)), aJ (CxD X) 8 nm, aI (CxD X) 40 wt, aI (CxD X) 40 jt, aI (CxD X) 3 (nf q.1), aZ (CxD X) 60 (zf (updB q.2.1 (40 + (q.1 2)) (xIsW z 1))), aI (CxD X) 60 (nf (va_up q.2.2.1 (40 + (q.1 2)) ((xOg z) 2))), aI (CxD X) 60 (nf q.2.2.2.1), aI (CxD X) 60 (nf q.2.2.2.2.1), aI (CxD X) 60 (nf q.2.2.2.2.2)] (by omega) (by decide) rfl dX11_rule_37 rfl ?_
  refine r_aload_n (n := 39) hX dX11_rule_38 rfl rfl 0 rfl ?_
  refine r_callV (n := 42) (av := []) hX (ct_X11_pass (CxL X) (CxD X) mo a tn tr fm fn mv cq cm ck te yn rc hp ir ke wn jn tp (xO0 z) ht hz) ml_X11_189 cv_X11_pass rfl (by decide) [0, 1, 2, 3, 4] rfl rfl (by decide) 0 rfl rfl rfl rfl rfl (Nat.le_of_ble_eq_true rfl) dX11_rule_39 rfl (fun r_ es_ h_ l_ => ?_)
  obtain ⟨rfl, rfl⟩ := h_
  show Aw X [mo, a 0, a 4, a 5, a 6, a 13, a 42, a 44, a 7, a 8, a 9, a 10, a 11, a 12] [ob 11 (.ref (a 0) :: .int (nI tn) :: .int (xFk (xPass tp tn (xO0 z))) :: .int (xFp (xPass tp tn (xO0 z))) :: .ref (a 4) :: .ref (a 5) :: .ref (a 6) :: .ref (a 7) :: .ref (a 8) :: .ref (a 9) :: .ref (a 10) :: .ref (a 11) :: .ref (a 12) :: .ref (a 13) :: .int (nI tr) :: .int (nI fm) :: .int ck :: .int te :: .int (nI fn) :: .ref (a 19) :: .ref (a 20) :: .ref (a 21) :: .ref (a 22) :: .ref (a 23) :: .ref (a 24) :: .ref (a 25) :: .ref (a 26) :: .ref (a 27) :: .int (b2 hp) :: .int yn :: .int (b2 ir) :: .ref (a 31) :: .int rc :: .ref (a 33) :: .int (nI mv) :: .int (xKd (xPass tp tn (xO0 z))) :: .int (nI (xBg (xPass tp tn (xO0 z)))) :: .int (nI (xEn (xPass tp tn (xO0 z)))) :: .int (xMk (xPass tp tn (xO0 z))) :: .long (xLe (xPass tp tn (xO0 z))) :: .int (nI (xTk (xPass tp tn (xO0 z)))) :: .int (nI (xOp (xPass tp tn (xO0 z)))) :: .ref (a 42) :: .int (nI wn) :: .ref (a 44) :: .int (nI jn) :: .ref (a 46) :: .ref (a 47) :: .ref (a 48) :: .ref (a 49) :: .ref (a 50) :: .ref (a 51) :: .int (b2 ke) :: .ref (a 53) :: .ref (a 54) :: .ref (a 55) :: .int (nI cq) :: .int (nI cm) :: []), aB (CxD X) 3000 tp, aI (CxD X) 3900 (xOr (xPass tp tn (xO0 z))), aI (CxD X) 3900 (xNu (xPass tp tn (xO0 z))), aI (CxD X) 3 (nf (xOg (xPass tp tn (xO0 z)))), aJ (CxD X) 8 nm, aI (CxD X) 40 wt, aI (CxD X) 40 jt, aI (CxD X) 3 (nf q.1), aZ (CxD X) 60 (zf (updB q.2.1 (40 + (q.1 2)) (xIsW z 1))), aI (CxD X) 60 (nf (va_up q.2.2.1 (40 + (q.1 2)) ((xOg z) 2))), aI (CxD X) 60 (nf q.2.2.2.1), aI (CxD X) 60 (nf q.2.2.2.2.1), aI (CxD X) 60 (nf q.2.2.2.2.2)] 42 [(0, .ref mo), (1, .int (nI (40 + (q.1 2))))] [.int (b2 (xPassB (xO0 z)))]
  refine r_if_eq_b (tgt := 61) (n := 45) hX dX11_rule_42 (by decide) rfl (fun c42 => ?_) (fun c42 => ?_)
  · skip
    refine r_iconst (n := 62) hX 0 dX11_rule_61 rfl rfl ?_
    exact r_zreturn hX hR rfl dX11_rule_62 (by have e : xRule tp tn nm tr z = (false, (xPass tp tn (xO0 z))) := (by simp only [xRule, xRu1, xB, xP, c42, if_false, Bool.false_eq_true]); rw [e]; exact ⟨rfl, _, _, _, _, (q.1, updB q.2.1 (40 + (q.1 2)) (xIsW z 1), va_up q.2.2.1 (40 + (q.1 2)) ((xOg z) 2), q.2.2.2.1, q.2.2.2.2.1, q.2.2.2.2.2), rfl, ⟨fun j hj => rfl, fun j hj => ⟨updB_lt hj, va_up_lt hj, rfl, rfl, rfl⟩⟩, fun h => absurd h Bool.false_ne_true⟩)
  · skip
    refine r_aload_n (n := 46) hX dX11_rule_45 rfl rfl 0 rfl ?_
    refine r_get (n := 49) hX 0 rfl rfl rfl 8 (by decide) lay_X11 fl_X11_30 rfl dX11_rule_46 rfl ?_
    refine r_iload_n (n := 50) hX dX11_rule_49 rfl rfl 1 rfl ?_
    refine r_zaldbn (n := 51) (i := (40 + (q.1 2))) hX 9 rfl rfl (by omega) (by decide) dX11_rule_50 rfl ?_
    refine Aw.topi (b2 (xIsW z 1)) (by rw [show updB q.2.1 (40 + q.1 2) (xIsW z 1) (40 + q.1 2) = xIsW z 1 from if_pos rfl]) ?_
    refine r_if_ne_b (tgt := 63) (n := 54) hX dX11_rule_51 (by decide) rfl (fun c51 => ?_) (fun c51 => ?_)
    · skip
      have h1 : xRu1 tp tn nm tr (xIsW z 1) z = (true, (xPass tp tn (xO0 z))) := (by simp only [xRu1, xB, xP, c42, c51, if_true])
      have hy := xRu1_ok h1 hz
      generalize (xPass tp tn (xO0 z)) = y at h1 hy ⊢
      refine r_aload_n (n := 64) hX dX11_rule_63 rfl rfl 0 rfl ?_
      refine r_get (n := 67) hX 0 rfl rfl rfl 10 (by decide) lay_X11 fl_X11_37 rfl dX11_rule_64 rfl ?_
      refine r_iload_n (n := 68) hX dX11_rule_67 rfl rfl 1 rfl ?_
      refine r_aload_n (n := 69) hX dX11_rule_68 rfl rfl 0 rfl ?_
      refine r_get (n := 72) hX 0 rfl rfl rfl 6 (by decide) lay_X11 fl_X11_24 rfl dX11_rule_69 rfl ?_
      refine r_iconst (n := 73) hX 2 dX11_rule_72 rfl rfl ?_
      refine r_ialdNn (n := 74) (i := 2) hX 4 rfl rfl (by omega) (by decide) dX11_rule_73 rfl ?_
      refine r_iastNn (n := 75) (i := (40 + (q.1 2))) hX 11 rfl rfl ((xOg y) 2) [ob 11 (.ref (a 0) :: .int (nI tn) :: .int (xFk y) :: .int (xFp y) :: .ref (a 4) :: .ref (a 5) :: .ref (a 6) :: .ref (a 7) :: .ref (a 8) :: .ref (a 9) :: .ref (a 10) :: .ref (a 11) :: .ref (a 12) :: .ref (a 13) :: .int (nI tr) :: .int (nI fm) :: .int ck :: .int te :: .int (nI fn) :: .ref (a 19) :: .ref (a 20) :: .ref (a 21) :: .ref (a 22) :: .ref (a 23) :: .ref (a 24) :: .ref (a 25) :: .ref (a 26) :: .ref (a 27) :: .int (b2 hp) :: .int yn :: .int (b2 ir) :: .ref (a 31) :: .int rc :: .ref (a 33) :: .int (nI mv) :: .int (xKd y) :: .int (nI (xBg y)) :: .int (nI (xEn y)) :: .int (xMk y) :: .long (xLe y) :: .int (nI (xTk y)) :: .int (nI (xOp y)) :: .ref (a 42) :: .int (nI wn) :: .ref (a 44) :: .int (nI jn) :: .ref (a 46) :: .ref (a 47) :: .ref (a 48) :: .ref (a 49) :: .ref (a 50) :: .ref (a 51) :: .int (b2 ke) :: .ref (a 53) :: .ref (a 54) :: .ref (a 55) :: .int (nI cq) :: .int (nI cm) :: []), aB (CxD X) 3000 tp, aI (CxD X) 3900 (xOr y), aI (CxD X) 3900 (xNu y), aI (CxD X) 3 (nf (xOg y)), aJ (CxD X) 8 nm, aI (CxD X) 40 wt, aI (CxD X) 40 jt, aI (CxD X) 3 (nf q.1), aZ (CxD X) 60 (zf (updB q.2.1 (40 + (q.1 2)) (xIsW z 1))), aI (CxD X) 60 (nf (va_up q.2.2.1 (40 + (q.1 2)) ((xOg z) 2))), aI (CxD X) 60 (nf (va_up q.2.2.2.1 (40 + (q.1 2)) ((xOg y) 2))), aI (CxD X) 60 (nf q.2.2.2.2.1), aI (CxD X) 60 (nf q.2.2.2.2.2)] (by omega) (by decide) rfl dX11_rule_74 rfl ?_
      refine r_aload_n (n := 76) hX dX11_rule_75 rfl rfl 0 rfl ?_
      refine r_get (n := 79) hX 0 rfl rfl rfl 11 (by decide) lay_X11 fl_X11_40 rfl dX11_rule_76 rfl ?_
      refine r_iload_n (n := 80) hX dX11_rule_79 rfl rfl 1 rfl ?_
      refine r_aload_n (n := 81) hX dX11_rule_80 rfl rfl 0 rfl ?_
      refine r_get (n := 84) hX 0 rfl rfl rfl 6 (by decide) lay_X11 fl_X11_24 rfl dX11_rule_81 rfl ?_
      refine r_iconst (n := 85) hX 2 dX11_rule_84 rfl rfl ?_
      refine r_ialdNn (n := 86) (i := 2) hX 4 rfl rfl (by omega) (by decide) dX11_rule_85 rfl ?_
      refine r_iastNn (n := 87) (i := (40 + (q.1 2))) hX 12 rfl rfl ((xOg y) 2) [ob 11 (.ref (a 0) :: .int (nI tn) :: .int (xFk y) :: .int (xFp y) :: .ref (a 4) :: .ref (a 5) :: .ref (a 6) :: .ref (a 7) :: .ref (a 8) :: .ref (a 9) :: .ref (a 10) :: .ref (a 11) :: .ref (a 12) :: .ref (a 13) :: .int (nI tr) :: .int (nI fm) :: .int ck :: .int te :: .int (nI fn) :: .ref (a 19) :: .ref (a 20) :: .ref (a 21) :: .ref (a 22) :: .ref (a 23) :: .ref (a 24) :: .ref (a 25) :: .ref (a 26) :: .ref (a 27) :: .int (b2 hp) :: .int yn :: .int (b2 ir) :: .ref (a 31) :: .int rc :: .ref (a 33) :: .int (nI mv) :: .int (xKd y) :: .int (nI (xBg y)) :: .int (nI (xEn y)) :: .int (xMk y) :: .long (xLe y) :: .int (nI (xTk y)) :: .int (nI (xOp y)) :: .ref (a 42) :: .int (nI wn) :: .ref (a 44) :: .int (nI jn) :: .ref (a 46) :: .ref (a 47) :: .ref (a 48) :: .ref (a 49) :: .ref (a 50) :: .ref (a 51) :: .int (b2 ke) :: .ref (a 53) :: .ref (a 54) :: .ref (a 55) :: .int (nI cq) :: .int (nI cm) :: []), aB (CxD X) 3000 tp, aI (CxD X) 3900 (xOr y), aI (CxD X) 3900 (xNu y), aI (CxD X) 3 (nf (xOg y)), aJ (CxD X) 8 nm, aI (CxD X) 40 wt, aI (CxD X) 40 jt, aI (CxD X) 3 (nf q.1), aZ (CxD X) 60 (zf (updB q.2.1 (40 + (q.1 2)) (xIsW z 1))), aI (CxD X) 60 (nf (va_up q.2.2.1 (40 + (q.1 2)) ((xOg z) 2))), aI (CxD X) 60 (nf (va_up q.2.2.2.1 (40 + (q.1 2)) ((xOg y) 2))), aI (CxD X) 60 (nf (va_up q.2.2.2.2.1 (40 + (q.1 2)) ((xOg y) 2))), aI (CxD X) 60 (nf q.2.2.2.2.2)] (by omega) (by decide) rfl dX11_rule_86 rfl ?_
      refine r_aload_n (n := 88) hX dX11_rule_87 rfl rfl 0 rfl ?_
      refine r_get (n := 91) hX 0 rfl rfl rfl 8 (by decide) lay_X11 fl_X11_30 rfl dX11_rule_88 rfl ?_
      refine r_iload_n (n := 92) hX dX11_rule_91 rfl rfl 1 rfl ?_
      refine r_zaldbn (n := 93) (i := (40 + (q.1 2))) hX 9 rfl rfl (by omega) (by decide) dX11_rule_92 rfl ?_
      refine Aw.topi (b2 (xIsW z 1)) (by rw [show updB q.2.1 (40 + q.1 2) (xIsW z 1) (40 + q.1 2) = xIsW z 1 from if_pos rfl]) ?_
      refine r_if_ne_b (tgt := 104) (n := 96) hX dX11_rule_93 (by decide) rfl (fun c93 => ?_) (fun c93 => absurd c93 (by rw [c51]; decide))
      refine r_iconst (n := 105) hX 1 dX11_rule_104 rfl rfl ?_
      refine r_goto (tgt := 109) hX dX11_rule_105 (by decide) ?_
      refine r_istore_n (n := 110) hX [(0, .ref mo), (1, .int (nI (40 + (q.1 2)))), (2, .int 1)] dX11_rule_109 rfl rfl (by decide) rfl ?_
      refine r_iload_n (n := 111) hX dX11_rule_110 rfl rfl 2 rfl ?_
      refine r_if_eq (tgt := 132) (n := 114) hX dX11_rule_111 (by decide) rfl (fun h => False.elim (by revert h; decide)) (fun _ => ?_)
      refine r_aload_n (n := 115) hX dX11_rule_114 rfl rfl 0 rfl ?_
      refine r_get (n := 118) hX 0 rfl rfl rfl 8 (by decide) lay_X11 fl_X11_30 rfl dX11_rule_115 rfl ?_
      refine r_iload_n (n := 119) hX dX11_rule_118 rfl rfl 1 rfl ?_
      refine r_zaldbn (n := 120) (i := (40 + (q.1 2))) hX 9 rfl rfl (by omega) (by decide) dX11_rule_119 rfl ?_
      refine Aw.topi (b2 (xIsW z 1)) (by rw [show updB q.2.1 (40 + q.1 2) (xIsW z 1) (40 + q.1 2) = xIsW z 1 from if_pos rfl]) ?_
      refine r_if_ne_b (tgt := 132) (n := 123) hX dX11_rule_120 (by decide) rfl (fun c120 => ?_) (fun c120 => absurd c120 (by rw [c51]; decide))
      refine r_iload_n (n := 133) hX dX11_rule_132 rfl rfl 2 rfl ?_
      refine r_if_eq (tgt := 145) (n := 136) hX dX11_rule_133 (by decide) rfl (fun h => False.elim (by revert h; decide)) (fun _ => ?_)
      skip
      refine r_aload_n (n := 137) hX dX11_rule_136 rfl rfl 0 rfl ?_
      refine r_callV (n := 140) (av := []) hX (ct_X11_condition (CxL X) (CxD X) mo a tn tr fm fn mv cq cm ck te yn rc hp ir ke tp nm y wt wn jt jn ht htr hy.1 (by have := hy.2.2.2; omega) (by have := hy.2.1; have := hy.2.2.1; omega)) ml_X11_248 cv_X11_condition rfl (by decide) [0, 1, 2, 3, 4, 5, 6, 7] rfl rfl (by decide) 0 rfl rfl rfl rfl rfl (Nat.le_of_ble_eq_true rfl) dX11_rule_137 rfl (fun r_ es_ h_ l_ => ?_)
      obtain ⟨rfl, wt1, wn1, jt1, jn1, rfl⟩ := h_
      show Aw X [mo, a 0, a 4, a 5, a 6, a 13, a 42, a 44, a 7, a 8, a 9, a 10, a 11, a 12] [ob 11 (.ref (a 0) :: .int (nI tn) :: .int (xFk ((xCond tp tn nm tr y).2)) :: .int (xFp ((xCond tp tn nm tr y).2)) :: .ref (a 4) :: .ref (a 5) :: .ref (a 6) :: .ref (a 7) :: .ref (a 8) :: .ref (a 9) :: .ref (a 10) :: .ref (a 11) :: .ref (a 12) :: .ref (a 13) :: .int (nI tr) :: .int (nI fm) :: .int ck :: .int te :: .int (nI fn) :: .ref (a 19) :: .ref (a 20) :: .ref (a 21) :: .ref (a 22) :: .ref (a 23) :: .ref (a 24) :: .ref (a 25) :: .ref (a 26) :: .ref (a 27) :: .int (b2 hp) :: .int yn :: .int (b2 ir) :: .ref (a 31) :: .int rc :: .ref (a 33) :: .int (nI mv) :: .int (xKd ((xCond tp tn nm tr y).2)) :: .int (nI (xBg ((xCond tp tn nm tr y).2))) :: .int (nI (xEn ((xCond tp tn nm tr y).2))) :: .int (xMk ((xCond tp tn nm tr y).2)) :: .long (xLe ((xCond tp tn nm tr y).2)) :: .int (nI (xTk ((xCond tp tn nm tr y).2))) :: .int (nI (xOp ((xCond tp tn nm tr y).2))) :: .ref (a 42) :: .int (nI wn1) :: .ref (a 44) :: .int (nI jn1) :: .ref (a 46) :: .ref (a 47) :: .ref (a 48) :: .ref (a 49) :: .ref (a 50) :: .ref (a 51) :: .int (b2 ke) :: .ref (a 53) :: .ref (a 54) :: .ref (a 55) :: .int (nI cq) :: .int (nI cm) :: []), aB (CxD X) 3000 tp, aI (CxD X) 3900 (xOr ((xCond tp tn nm tr y).2)), aI (CxD X) 3900 (xNu ((xCond tp tn nm tr y).2)), aI (CxD X) 3 (nf (xOg ((xCond tp tn nm tr y).2))), aJ (CxD X) 8 nm, aI (CxD X) 40 wt1, aI (CxD X) 40 jt1, aI (CxD X) 3 (nf q.1), aZ (CxD X) 60 (zf (updB q.2.1 (40 + (q.1 2)) (xIsW z 1))), aI (CxD X) 60 (nf (va_up q.2.2.1 (40 + (q.1 2)) ((xOg z) 2))), aI (CxD X) 60 (nf (va_up q.2.2.2.1 (40 + (q.1 2)) ((xOg y) 2))), aI (CxD X) 60 (nf (va_up q.2.2.2.2.1 (40 + (q.1 2)) ((xOg y) 2))), aI (CxD X) 60 (nf q.2.2.2.2.2)] 140 [(0, .ref mo), (1, .int (nI (40 + (q.1 2)))), (2, .int 1)] [.int (b2 ((xCond tp tn nm tr y).1))]
      refine r_if_ne_b (tgt := 145) (n := 143) hX dX11_rule_140 (by decide) rfl (fun c140 => ?_) (fun c140 => ?_)
      · skip
        have h2 : xRu2 tp tn nm tr (xIsW z 1) y = (true, (xCond tp tn nm tr y).2) := (by simp only [xRu2, c51, if_true]; exact Prod.ext c140 rfl)
        have hw := xRu2_ok h2 hy.1
        generalize (xCond tp tn nm tr y).2 = w at h2 hw ⊢
        refine r_aload_n (n := 146) hX dX11_rule_145 rfl rfl 0 rfl ?_
        refine r_get (n := 149) hX 0 rfl rfl rfl 12 (by decide) lay_X11 fl_X11_43 rfl dX11_rule_146 rfl ?_
        refine r_iload_n (n := 150) hX dX11_rule_149 rfl rfl 1 rfl ?_
        refine r_aload_n (n := 151) hX dX11_rule_150 rfl rfl 0 rfl ?_
        refine r_get (n := 154) hX 0 rfl rfl rfl 6 (by decide) lay_X11 fl_X11_24 rfl dX11_rule_151 rfl ?_
        refine r_iconst (n := 155) hX 2 dX11_rule_154 rfl rfl ?_
        refine r_ialdNn (n := 156) (i := 2) hX 4 rfl rfl (by omega) (by decide) dX11_rule_155 rfl ?_
        refine r_iastNn (n := 157) (i := (40 + (q.1 2))) hX 13 rfl rfl ((xOg w) 2) [ob 11 (.ref (a 0) :: .int (nI tn) :: .int (xFk w) :: .int (xFp w) :: .ref (a 4) :: .ref (a 5) :: .ref (a 6) :: .ref (a 7) :: .ref (a 8) :: .ref (a 9) :: .ref (a 10) :: .ref (a 11) :: .ref (a 12) :: .ref (a 13) :: .int (nI tr) :: .int (nI fm) :: .int ck :: .int te :: .int (nI fn) :: .ref (a 19) :: .ref (a 20) :: .ref (a 21) :: .ref (a 22) :: .ref (a 23) :: .ref (a 24) :: .ref (a 25) :: .ref (a 26) :: .ref (a 27) :: .int (b2 hp) :: .int yn :: .int (b2 ir) :: .ref (a 31) :: .int rc :: .ref (a 33) :: .int (nI mv) :: .int (xKd w) :: .int (nI (xBg w)) :: .int (nI (xEn w)) :: .int (xMk w) :: .long (xLe w) :: .int (nI (xTk w)) :: .int (nI (xOp w)) :: .ref (a 42) :: .int (nI wn1) :: .ref (a 44) :: .int (nI jn1) :: .ref (a 46) :: .ref (a 47) :: .ref (a 48) :: .ref (a 49) :: .ref (a 50) :: .ref (a 51) :: .int (b2 ke) :: .ref (a 53) :: .ref (a 54) :: .ref (a 55) :: .int (nI cq) :: .int (nI cm) :: []), aB (CxD X) 3000 tp, aI (CxD X) 3900 (xOr w), aI (CxD X) 3900 (xNu w), aI (CxD X) 3 (nf (xOg w)), aJ (CxD X) 8 nm, aI (CxD X) 40 wt1, aI (CxD X) 40 jt1, aI (CxD X) 3 (nf q.1), aZ (CxD X) 60 (zf (updB q.2.1 (40 + (q.1 2)) (xIsW z 1))), aI (CxD X) 60 (nf (va_up q.2.2.1 (40 + (q.1 2)) ((xOg z) 2))), aI (CxD X) 60 (nf (va_up q.2.2.2.1 (40 + (q.1 2)) ((xOg y) 2))), aI (CxD X) 60 (nf (va_up q.2.2.2.2.1 (40 + (q.1 2)) ((xOg y) 2))), aI (CxD X) 60 (nf (va_up q.2.2.2.2.2 (40 + (q.1 2)) ((xOg w) 2)))] (by omega) (by decide) rfl dX11_rule_156 rfl ?_
        refine r_aload_n (n := 158) hX dX11_rule_157 rfl rfl 0 rfl ?_
        refine r_bipush (n := 160) hX 59 dX11_rule_158 rfl rfl ?_
        refine r_callV (n := 163) (av := [.int 59]) hX (ct_X11_sign (CxL X) (CxD X) mo a tn tr fm fn mv cq cm ck te yn rc hp ir ke wn1 jn1 tp w 59 ht hw.1) ml_X11_209 cv_X11_sign rfl (by decide) [0, 1, 2, 3, 4] rfl rfl (by decide) 0 rfl rfl rfl rfl rfl (Nat.le_of_ble_eq_true rfl) dX11_rule_160 rfl (fun r_ es_ h_ l_ => ?_)
        obtain ⟨rfl, rfl⟩ := h_
        show Aw X [mo, a 0, a 4, a 5, a 6, a 13, a 42, a 44, a 7, a 8, a 9, a 10, a 11, a 12] [ob 11 (.ref (a 0) :: .int (nI tn) :: .int (xFk ((xS tp tn 59 w).2)) :: .int (xFp ((xS tp tn 59 w).2)) :: .ref (a 4) :: .ref (a 5) :: .ref (a 6) :: .ref (a 7) :: .ref (a 8) :: .ref (a 9) :: .ref (a 10) :: .ref (a 11) :: .ref (a 12) :: .ref (a 13) :: .int (nI tr) :: .int (nI fm) :: .int ck :: .int te :: .int (nI fn) :: .ref (a 19) :: .ref (a 20) :: .ref (a 21) :: .ref (a 22) :: .ref (a 23) :: .ref (a 24) :: .ref (a 25) :: .ref (a 26) :: .ref (a 27) :: .int (b2 hp) :: .int yn :: .int (b2 ir) :: .ref (a 31) :: .int rc :: .ref (a 33) :: .int (nI mv) :: .int (xKd ((xS tp tn 59 w).2)) :: .int (nI (xBg ((xS tp tn 59 w).2))) :: .int (nI (xEn ((xS tp tn 59 w).2))) :: .int (xMk ((xS tp tn 59 w).2)) :: .long (xLe ((xS tp tn 59 w).2)) :: .int (nI (xTk ((xS tp tn 59 w).2))) :: .int (nI (xOp ((xS tp tn 59 w).2))) :: .ref (a 42) :: .int (nI wn1) :: .ref (a 44) :: .int (nI jn1) :: .ref (a 46) :: .ref (a 47) :: .ref (a 48) :: .ref (a 49) :: .ref (a 50) :: .ref (a 51) :: .int (b2 ke) :: .ref (a 53) :: .ref (a 54) :: .ref (a 55) :: .int (nI cq) :: .int (nI cm) :: []), aB (CxD X) 3000 tp, aI (CxD X) 3900 (xOr ((xS tp tn 59 w).2)), aI (CxD X) 3900 (xNu ((xS tp tn 59 w).2)), aI (CxD X) 3 (nf (xOg ((xS tp tn 59 w).2))), aJ (CxD X) 8 nm, aI (CxD X) 40 wt1, aI (CxD X) 40 jt1, aI (CxD X) 3 (nf q.1), aZ (CxD X) 60 (zf (updB q.2.1 (40 + (q.1 2)) (xIsW z 1))), aI (CxD X) 60 (nf (va_up q.2.2.1 (40 + (q.1 2)) ((xOg z) 2))), aI (CxD X) 60 (nf (va_up q.2.2.2.1 (40 + (q.1 2)) ((xOg y) 2))), aI (CxD X) 60 (nf (va_up q.2.2.2.2.1 (40 + (q.1 2)) ((xOg y) 2))), aI (CxD X) 60 (nf (va_up q.2.2.2.2.2 (40 + (q.1 2)) ((xOg w) 2)))] 163 [(0, .ref mo), (1, .int (nI (40 + (q.1 2)))), (2, .int 1)] [.int (b2 ((xS tp tn 59 w).1))]
        refine r_if_ne_b (tgt := 168) (n := 166) hX dX11_rule_163 (by decide) rfl (fun c163 => ?_) (fun c163 => ?_)
        · skip
          refine r_aload_n (n := 169) hX dX11_rule_168 rfl rfl 0 rfl ?_
          refine r_get (n := 172) hX 0 rfl rfl rfl 7 (by decide) lay_X11 fl_X11_27 rfl dX11_rule_169 rfl ?_
          refine r_iconst (n := 173) hX 2 dX11_rule_172 rfl rfl ?_
          refine r_dup2 (n := 174) hX dX11_rule_173 rfl rfl rfl ?_
          refine r_ialdNn (n := 175) (i := 2) hX 8 rfl rfl (by omega) (by decide) dX11_rule_174 rfl ?_
          refine r_iconst (n := 176) hX 1 dX11_rule_175 rfl rfl ?_
          refine r_iadd (n := 177) hX dX11_rule_176 rfl ?_
          refine Aw.topi (nI ((q.1 2) + 1)) (nI_add _ _) ?_
          refine r_iastNn (n := 178) (i := 2) hX 8 rfl rfl ((q.1 2) + 1) [ob 11 (.ref (a 0) :: .int (nI tn) :: .int (xFk ((xS tp tn 59 w).2)) :: .int (xFp ((xS tp tn 59 w).2)) :: .ref (a 4) :: .ref (a 5) :: .ref (a 6) :: .ref (a 7) :: .ref (a 8) :: .ref (a 9) :: .ref (a 10) :: .ref (a 11) :: .ref (a 12) :: .ref (a 13) :: .int (nI tr) :: .int (nI fm) :: .int ck :: .int te :: .int (nI fn) :: .ref (a 19) :: .ref (a 20) :: .ref (a 21) :: .ref (a 22) :: .ref (a 23) :: .ref (a 24) :: .ref (a 25) :: .ref (a 26) :: .ref (a 27) :: .int (b2 hp) :: .int yn :: .int (b2 ir) :: .ref (a 31) :: .int rc :: .ref (a 33) :: .int (nI mv) :: .int (xKd ((xS tp tn 59 w).2)) :: .int (nI (xBg ((xS tp tn 59 w).2))) :: .int (nI (xEn ((xS tp tn 59 w).2))) :: .int (xMk ((xS tp tn 59 w).2)) :: .long (xLe ((xS tp tn 59 w).2)) :: .int (nI (xTk ((xS tp tn 59 w).2))) :: .int (nI (xOp ((xS tp tn 59 w).2))) :: .ref (a 42) :: .int (nI wn1) :: .ref (a 44) :: .int (nI jn1) :: .ref (a 46) :: .ref (a 47) :: .ref (a 48) :: .ref (a 49) :: .ref (a 50) :: .ref (a 51) :: .int (b2 ke) :: .ref (a 53) :: .ref (a 54) :: .ref (a 55) :: .int (nI cq) :: .int (nI cm) :: []), aB (CxD X) 3000 tp, aI (CxD X) 3900 (xOr ((xS tp tn 59 w).2)), aI (CxD X) 3900 (xNu ((xS tp tn 59 w).2)), aI (CxD X) 3 (nf (xOg ((xS tp tn 59 w).2))), aJ (CxD X) 8 nm, aI (CxD X) 40 wt1, aI (CxD X) 40 jt1, aI (CxD X) 3 (nf (va_up q.1 2 ((q.1 2) + 1))), aZ (CxD X) 60 (zf (updB q.2.1 (40 + (q.1 2)) (xIsW z 1))), aI (CxD X) 60 (nf (va_up q.2.2.1 (40 + (q.1 2)) ((xOg z) 2))), aI (CxD X) 60 (nf (va_up q.2.2.2.1 (40 + (q.1 2)) ((xOg y) 2))), aI (CxD X) 60 (nf (va_up q.2.2.2.2.1 (40 + (q.1 2)) ((xOg y) 2))), aI (CxD X) 60 (nf (va_up q.2.2.2.2.2 (40 + (q.1 2)) ((xOg w) 2)))] (by omega) (by decide) rfl dX11_rule_177 rfl ?_
          refine r_iconst (n := 179) hX 1 dX11_rule_178 rfl rfl ?_
          exact r_zreturn hX hR rfl dX11_rule_179 (by have e : xRule tp tn nm tr z = (true, (xS tp tn 59 w).2) := (by rw [xRule, h1]; simp only [xB, if_true]; rw [h2]; simp only [if_true]; exact Prod.ext c163 rfl); have ez : xRz tp tn nm tr q z = (va_up q.1 2 (q.1 2 + 1), updB q.2.1 (40 + q.1 2) (xIsW z 1), va_up q.2.2.1 (40 + q.1 2) (xOg z 2), va_up q.2.2.2.1 (40 + q.1 2) (xOg y 2), va_up q.2.2.2.2.1 (40 + q.1 2) (xOg y 2), va_up q.2.2.2.2.2 (40 + q.1 2) (xOg w 2)) := (by rw [xRz, h1]; dsimp only; rw [h2]); rw [e]; exact ⟨rfl, _, _, _, _, xRz tp tn nm tr q z, by rw [ez], RFr.rz, fun _ => rfl⟩)
        · skip
          refine r_iconst (n := 167) hX 0 dX11_rule_166 rfl rfl ?_
          exact r_zreturn hX hR rfl dX11_rule_167 (by have e : xRule tp tn nm tr z = (false, (xS tp tn 59 w).2) := (by rw [xRule, h1]; simp only [xB, if_true]; rw [h2]; simp only [if_true]; exact Prod.ext c163 rfl); rw [e]; exact ⟨rfl, _, _, _, _, (q.1, updB q.2.1 (40 + (q.1 2)) (xIsW z 1), va_up q.2.2.1 (40 + (q.1 2)) ((xOg z) 2), va_up q.2.2.2.1 (40 + (q.1 2)) ((xOg y) 2), va_up q.2.2.2.2.1 (40 + (q.1 2)) ((xOg y) 2), va_up q.2.2.2.2.2 (40 + (q.1 2)) ((xOg w) 2)), rfl, ⟨fun j hj => rfl, fun j hj => ⟨updB_lt hj, va_up_lt hj, va_up_lt hj, va_up_lt hj, va_up_lt hj⟩⟩, fun h => absurd h Bool.false_ne_true⟩)
      · skip
        refine r_iconst (n := 144) hX 0 dX11_rule_143 rfl rfl ?_
        exact r_zreturn hX hR rfl dX11_rule_144 (by have e : xRule tp tn nm tr z = (false, (xCond tp tn nm tr y).2) := (by rw [xRule, h1]; simp only [xB, xRu2, c51, c140, if_true, if_false, Bool.false_eq_true]); rw [e]; exact ⟨rfl, _, _, _, _, (q.1, updB q.2.1 (40 + (q.1 2)) (xIsW z 1), va_up q.2.2.1 (40 + (q.1 2)) ((xOg z) 2), va_up q.2.2.2.1 (40 + (q.1 2)) ((xOg y) 2), va_up q.2.2.2.2.1 (40 + (q.1 2)) ((xOg y) 2), q.2.2.2.2.2), rfl, ⟨fun j hj => rfl, fun j hj => ⟨updB_lt hj, va_up_lt hj, va_up_lt hj, va_up_lt hj, rfl⟩⟩, fun h => absurd h Bool.false_ne_true⟩)
    · skip
      skip
      refine r_aload_n (n := 55) hX dX11_rule_54 rfl rfl 0 rfl ?_
      refine r_callV (n := 58) (av := []) hX (ct_X11_expression (CxL X) (CxD X) mo a tn tr fm fn mv cq cm ck te yn rc hp ir ke jn tp nm (xPass tp tn (xO0 z)) wt wn ht htr (xPass_ok (z := xO0 z) hz) (Nat.zero_le 8) (by rw [xPass_tk (tp := tp) (tn := tn) c42]; show xOg z 2 ≤ xTk z + 1; omega)) ml_X11_230 cv_X11_expression rfl (by decide) [0, 1, 2, 3, 4, 5, 6] rfl rfl (by decide) 0 rfl rfl rfl rfl rfl (Nat.le_of_ble_eq_true rfl) dX11_rule_55 rfl (fun r_ es_ h_ l_ => ?_)
      obtain ⟨rfl, wt1, wn1, rfl⟩ := h_
      show Aw X [mo, a 0, a 4, a 5, a 6, a 13, a 42, a 44, a 7, a 8, a 9, a 10, a 11, a 12] [ob 11 (.ref (a 0) :: .int (nI tn) :: .int (xFk ((xExp tp tn nm tr (xPass tp tn (xO0 z))).2)) :: .int (xFp ((xExp tp tn nm tr (xPass tp tn (xO0 z))).2)) :: .ref (a 4) :: .ref (a 5) :: .ref (a 6) :: .ref (a 7) :: .ref (a 8) :: .ref (a 9) :: .ref (a 10) :: .ref (a 11) :: .ref (a 12) :: .ref (a 13) :: .int (nI tr) :: .int (nI fm) :: .int ck :: .int te :: .int (nI fn) :: .ref (a 19) :: .ref (a 20) :: .ref (a 21) :: .ref (a 22) :: .ref (a 23) :: .ref (a 24) :: .ref (a 25) :: .ref (a 26) :: .ref (a 27) :: .int (b2 hp) :: .int yn :: .int (b2 ir) :: .ref (a 31) :: .int rc :: .ref (a 33) :: .int (nI mv) :: .int (xKd ((xExp tp tn nm tr (xPass tp tn (xO0 z))).2)) :: .int (nI (xBg ((xExp tp tn nm tr (xPass tp tn (xO0 z))).2))) :: .int (nI (xEn ((xExp tp tn nm tr (xPass tp tn (xO0 z))).2))) :: .int (xMk ((xExp tp tn nm tr (xPass tp tn (xO0 z))).2)) :: .long (xLe ((xExp tp tn nm tr (xPass tp tn (xO0 z))).2)) :: .int (nI (xTk ((xExp tp tn nm tr (xPass tp tn (xO0 z))).2))) :: .int (nI (xOp ((xExp tp tn nm tr (xPass tp tn (xO0 z))).2))) :: .ref (a 42) :: .int (nI wn1) :: .ref (a 44) :: .int (nI jn) :: .ref (a 46) :: .ref (a 47) :: .ref (a 48) :: .ref (a 49) :: .ref (a 50) :: .ref (a 51) :: .int (b2 ke) :: .ref (a 53) :: .ref (a 54) :: .ref (a 55) :: .int (nI cq) :: .int (nI cm) :: []), aB (CxD X) 3000 tp, aI (CxD X) 3900 (xOr ((xExp tp tn nm tr (xPass tp tn (xO0 z))).2)), aI (CxD X) 3900 (xNu ((xExp tp tn nm tr (xPass tp tn (xO0 z))).2)), aI (CxD X) 3 (nf (xOg ((xExp tp tn nm tr (xPass tp tn (xO0 z))).2))), aJ (CxD X) 8 nm, aI (CxD X) 40 wt1, aI (CxD X) 40 jt, aI (CxD X) 3 (nf q.1), aZ (CxD X) 60 (zf (updB q.2.1 (40 + (q.1 2)) (xIsW z 1))), aI (CxD X) 60 (nf (va_up q.2.2.1 (40 + (q.1 2)) ((xOg z) 2))), aI (CxD X) 60 (nf q.2.2.2.1), aI (CxD X) 60 (nf q.2.2.2.2.1), aI (CxD X) 60 (nf q.2.2.2.2.2)] 58 [(0, .ref mo), (1, .int (nI (40 + (q.1 2))))] [.int (b2 ((xExp tp tn nm tr (xPass tp tn (xO0 z))).1))]
      refine r_if_ne_b (tgt := 63) (n := 61) hX dX11_rule_58 (by decide) rfl (fun c58 => ?_) (fun c58 => ?_)
      · skip
        have h1 : xRu1 tp tn nm tr (xIsW z 1) z = (true, (xExp tp tn nm tr (xPass tp tn (xO0 z))).2) := (by simp only [xRu1, xB, xP, c42, c51, if_true, if_false, Bool.false_eq_true]; exact Prod.ext c58 rfl)
        have hy := xRu1_ok h1 hz
        generalize (xExp tp tn nm tr (xPass tp tn (xO0 z))).2 = y at h1 hy ⊢
        refine r_aload_n (n := 64) hX dX11_rule_63 rfl rfl 0 rfl ?_
        refine r_get (n := 67) hX 0 rfl rfl rfl 10 (by decide) lay_X11 fl_X11_37 rfl dX11_rule_64 rfl ?_
        refine r_iload_n (n := 68) hX dX11_rule_67 rfl rfl 1 rfl ?_
        refine r_aload_n (n := 69) hX dX11_rule_68 rfl rfl 0 rfl ?_
        refine r_get (n := 72) hX 0 rfl rfl rfl 6 (by decide) lay_X11 fl_X11_24 rfl dX11_rule_69 rfl ?_
        refine r_iconst (n := 73) hX 2 dX11_rule_72 rfl rfl ?_
        refine r_ialdNn (n := 74) (i := 2) hX 4 rfl rfl (by omega) (by decide) dX11_rule_73 rfl ?_
        refine r_iastNn (n := 75) (i := (40 + (q.1 2))) hX 11 rfl rfl ((xOg y) 2) [ob 11 (.ref (a 0) :: .int (nI tn) :: .int (xFk y) :: .int (xFp y) :: .ref (a 4) :: .ref (a 5) :: .ref (a 6) :: .ref (a 7) :: .ref (a 8) :: .ref (a 9) :: .ref (a 10) :: .ref (a 11) :: .ref (a 12) :: .ref (a 13) :: .int (nI tr) :: .int (nI fm) :: .int ck :: .int te :: .int (nI fn) :: .ref (a 19) :: .ref (a 20) :: .ref (a 21) :: .ref (a 22) :: .ref (a 23) :: .ref (a 24) :: .ref (a 25) :: .ref (a 26) :: .ref (a 27) :: .int (b2 hp) :: .int yn :: .int (b2 ir) :: .ref (a 31) :: .int rc :: .ref (a 33) :: .int (nI mv) :: .int (xKd y) :: .int (nI (xBg y)) :: .int (nI (xEn y)) :: .int (xMk y) :: .long (xLe y) :: .int (nI (xTk y)) :: .int (nI (xOp y)) :: .ref (a 42) :: .int (nI wn1) :: .ref (a 44) :: .int (nI jn) :: .ref (a 46) :: .ref (a 47) :: .ref (a 48) :: .ref (a 49) :: .ref (a 50) :: .ref (a 51) :: .int (b2 ke) :: .ref (a 53) :: .ref (a 54) :: .ref (a 55) :: .int (nI cq) :: .int (nI cm) :: []), aB (CxD X) 3000 tp, aI (CxD X) 3900 (xOr y), aI (CxD X) 3900 (xNu y), aI (CxD X) 3 (nf (xOg y)), aJ (CxD X) 8 nm, aI (CxD X) 40 wt1, aI (CxD X) 40 jt, aI (CxD X) 3 (nf q.1), aZ (CxD X) 60 (zf (updB q.2.1 (40 + (q.1 2)) (xIsW z 1))), aI (CxD X) 60 (nf (va_up q.2.2.1 (40 + (q.1 2)) ((xOg z) 2))), aI (CxD X) 60 (nf (va_up q.2.2.2.1 (40 + (q.1 2)) ((xOg y) 2))), aI (CxD X) 60 (nf q.2.2.2.2.1), aI (CxD X) 60 (nf q.2.2.2.2.2)] (by omega) (by decide) rfl dX11_rule_74 rfl ?_
        refine r_aload_n (n := 76) hX dX11_rule_75 rfl rfl 0 rfl ?_
        refine r_get (n := 79) hX 0 rfl rfl rfl 11 (by decide) lay_X11 fl_X11_40 rfl dX11_rule_76 rfl ?_
        refine r_iload_n (n := 80) hX dX11_rule_79 rfl rfl 1 rfl ?_
        refine r_aload_n (n := 81) hX dX11_rule_80 rfl rfl 0 rfl ?_
        refine r_get (n := 84) hX 0 rfl rfl rfl 6 (by decide) lay_X11 fl_X11_24 rfl dX11_rule_81 rfl ?_
        refine r_iconst (n := 85) hX 2 dX11_rule_84 rfl rfl ?_
        refine r_ialdNn (n := 86) (i := 2) hX 4 rfl rfl (by omega) (by decide) dX11_rule_85 rfl ?_
        refine r_iastNn (n := 87) (i := (40 + (q.1 2))) hX 12 rfl rfl ((xOg y) 2) [ob 11 (.ref (a 0) :: .int (nI tn) :: .int (xFk y) :: .int (xFp y) :: .ref (a 4) :: .ref (a 5) :: .ref (a 6) :: .ref (a 7) :: .ref (a 8) :: .ref (a 9) :: .ref (a 10) :: .ref (a 11) :: .ref (a 12) :: .ref (a 13) :: .int (nI tr) :: .int (nI fm) :: .int ck :: .int te :: .int (nI fn) :: .ref (a 19) :: .ref (a 20) :: .ref (a 21) :: .ref (a 22) :: .ref (a 23) :: .ref (a 24) :: .ref (a 25) :: .ref (a 26) :: .ref (a 27) :: .int (b2 hp) :: .int yn :: .int (b2 ir) :: .ref (a 31) :: .int rc :: .ref (a 33) :: .int (nI mv) :: .int (xKd y) :: .int (nI (xBg y)) :: .int (nI (xEn y)) :: .int (xMk y) :: .long (xLe y) :: .int (nI (xTk y)) :: .int (nI (xOp y)) :: .ref (a 42) :: .int (nI wn1) :: .ref (a 44) :: .int (nI jn) :: .ref (a 46) :: .ref (a 47) :: .ref (a 48) :: .ref (a 49) :: .ref (a 50) :: .ref (a 51) :: .int (b2 ke) :: .ref (a 53) :: .ref (a 54) :: .ref (a 55) :: .int (nI cq) :: .int (nI cm) :: []), aB (CxD X) 3000 tp, aI (CxD X) 3900 (xOr y), aI (CxD X) 3900 (xNu y), aI (CxD X) 3 (nf (xOg y)), aJ (CxD X) 8 nm, aI (CxD X) 40 wt1, aI (CxD X) 40 jt, aI (CxD X) 3 (nf q.1), aZ (CxD X) 60 (zf (updB q.2.1 (40 + (q.1 2)) (xIsW z 1))), aI (CxD X) 60 (nf (va_up q.2.2.1 (40 + (q.1 2)) ((xOg z) 2))), aI (CxD X) 60 (nf (va_up q.2.2.2.1 (40 + (q.1 2)) ((xOg y) 2))), aI (CxD X) 60 (nf (va_up q.2.2.2.2.1 (40 + (q.1 2)) ((xOg y) 2))), aI (CxD X) 60 (nf q.2.2.2.2.2)] (by omega) (by decide) rfl dX11_rule_86 rfl ?_
        refine r_aload_n (n := 88) hX dX11_rule_87 rfl rfl 0 rfl ?_
        refine r_get (n := 91) hX 0 rfl rfl rfl 8 (by decide) lay_X11 fl_X11_30 rfl dX11_rule_88 rfl ?_
        refine r_iload_n (n := 92) hX dX11_rule_91 rfl rfl 1 rfl ?_
        refine r_zaldbn (n := 93) (i := (40 + (q.1 2))) hX 9 rfl rfl (by omega) (by decide) dX11_rule_92 rfl ?_
        refine Aw.topi (b2 (xIsW z 1)) (by rw [show updB q.2.1 (40 + q.1 2) (xIsW z 1) (40 + q.1 2) = xIsW z 1 from if_pos rfl]) ?_
        refine r_if_ne_b (tgt := 104) (n := 96) hX dX11_rule_93 (by decide) rfl (fun c93 => absurd c93 (by rw [c51]; decide)) (fun c93 => ?_)
        refine r_aload_n (n := 97) hX dX11_rule_96 rfl rfl 0 rfl ?_
        refine r_iconst (n := 98) hX 3 dX11_rule_97 rfl rfl ?_
        refine r_callV (n := 101) (av := [.int 3]) hX (ct_X11_isWord (CxL X) (CxD X) mo a tn tr fm fn mv (xBg y) (xEn y) (xTk y) (xOp y) wn1 jn cq cm (xFk y) (xFp y) ck te yn rc (xKd y) (xMk y) (xLe y) hp ir ke 3) ml_X11_206 cv_X11_isWord rfl (by decide) [0] rfl rfl (by decide) 0 rfl rfl rfl rfl rfl (Nat.le_of_ble_eq_true rfl) dX11_rule_98 rfl (fun r_ es_ h_ l_ => ?_)
        obtain ⟨rfl, rfl⟩ := h_
        show Aw X [mo, a 0, a 4, a 5, a 6, a 13, a 42, a 44, a 7, a 8, a 9, a 10, a 11, a 12] [ob 11 (.ref (a 0) :: .int (nI tn) :: .int (xFk y) :: .int (xFp y) :: .ref (a 4) :: .ref (a 5) :: .ref (a 6) :: .ref (a 7) :: .ref (a 8) :: .ref (a 9) :: .ref (a 10) :: .ref (a 11) :: .ref (a 12) :: .ref (a 13) :: .int (nI tr) :: .int (nI fm) :: .int ck :: .int te :: .int (nI fn) :: .ref (a 19) :: .ref (a 20) :: .ref (a 21) :: .ref (a 22) :: .ref (a 23) :: .ref (a 24) :: .ref (a 25) :: .ref (a 26) :: .ref (a 27) :: .int (b2 hp) :: .int yn :: .int (b2 ir) :: .ref (a 31) :: .int rc :: .ref (a 33) :: .int (nI mv) :: .int (xKd y) :: .int (nI (xBg y)) :: .int (nI (xEn y)) :: .int (xMk y) :: .long (xLe y) :: .int (nI (xTk y)) :: .int (nI (xOp y)) :: .ref (a 42) :: .int (nI wn1) :: .ref (a 44) :: .int (nI jn) :: .ref (a 46) :: .ref (a 47) :: .ref (a 48) :: .ref (a 49) :: .ref (a 50) :: .ref (a 51) :: .int (b2 ke) :: .ref (a 53) :: .ref (a 54) :: .ref (a 55) :: .int (nI cq) :: .int (nI cm) :: []), aB (CxD X) 3000 tp, aI (CxD X) 3900 (xOr y), aI (CxD X) 3900 (xNu y), aI (CxD X) 3 (nf (xOg y)), aJ (CxD X) 8 nm, aI (CxD X) 40 wt1, aI (CxD X) 40 jt, aI (CxD X) 3 (nf q.1), aZ (CxD X) 60 (zf (updB q.2.1 (40 + (q.1 2)) (xIsW z 1))), aI (CxD X) 60 (nf (va_up q.2.2.1 (40 + (q.1 2)) ((xOg z) 2))), aI (CxD X) 60 (nf (va_up q.2.2.2.1 (40 + (q.1 2)) ((xOg y) 2))), aI (CxD X) 60 (nf (va_up q.2.2.2.2.1 (40 + (q.1 2)) ((xOg y) 2))), aI (CxD X) 60 (nf q.2.2.2.2.2)] 101 [(0, .ref mo), (1, .int (nI (40 + (q.1 2))))] [.int (b2 (xIsW y 3))]
        refine r_if_eq_b (tgt := 108) (n := 104) hX dX11_rule_101 (by decide) rfl (fun c101 => ?_) (fun c101 => ?_)
        · skip
          refine r_iconst (n := 109) hX 0 dX11_rule_108 rfl rfl ?_
          refine r_istore_n (n := 110) hX [(0, .ref mo), (1, .int (nI (40 + (q.1 2)))), (2, .int 0)] dX11_rule_109 rfl rfl (by decide) rfl ?_
          refine r_iload_n (n := 111) hX dX11_rule_110 rfl rfl 2 rfl ?_
          refine r_if_eq (tgt := 132) (n := 114) hX dX11_rule_111 (by decide) rfl (fun _ => ?_) (fun h => False.elim (by revert h; decide))
          refine r_iload_n (n := 133) hX dX11_rule_132 rfl rfl 2 rfl ?_
          refine r_if_eq (tgt := 145) (n := 136) hX dX11_rule_133 (by decide) rfl (fun _ => ?_) (fun h => False.elim (by revert h; decide))
          have h2 : xRu2 tp tn nm tr (xIsW z 1) y = (true, y) := (by simp only [xRu2, c51, c101, if_false, Bool.false_eq_true])
          have hw := xRu2_ok h2 hy.1
          refine r_aload_n (n := 146) hX dX11_rule_145 rfl rfl 0 rfl ?_
          refine r_get (n := 149) hX 0 rfl rfl rfl 12 (by decide) lay_X11 fl_X11_43 rfl dX11_rule_146 rfl ?_
          refine r_iload_n (n := 150) hX dX11_rule_149 rfl rfl 1 rfl ?_
          refine r_aload_n (n := 151) hX dX11_rule_150 rfl rfl 0 rfl ?_
          refine r_get (n := 154) hX 0 rfl rfl rfl 6 (by decide) lay_X11 fl_X11_24 rfl dX11_rule_151 rfl ?_
          refine r_iconst (n := 155) hX 2 dX11_rule_154 rfl rfl ?_
          refine r_ialdNn (n := 156) (i := 2) hX 4 rfl rfl (by omega) (by decide) dX11_rule_155 rfl ?_
          refine r_iastNn (n := 157) (i := (40 + (q.1 2))) hX 13 rfl rfl ((xOg y) 2) [ob 11 (.ref (a 0) :: .int (nI tn) :: .int (xFk y) :: .int (xFp y) :: .ref (a 4) :: .ref (a 5) :: .ref (a 6) :: .ref (a 7) :: .ref (a 8) :: .ref (a 9) :: .ref (a 10) :: .ref (a 11) :: .ref (a 12) :: .ref (a 13) :: .int (nI tr) :: .int (nI fm) :: .int ck :: .int te :: .int (nI fn) :: .ref (a 19) :: .ref (a 20) :: .ref (a 21) :: .ref (a 22) :: .ref (a 23) :: .ref (a 24) :: .ref (a 25) :: .ref (a 26) :: .ref (a 27) :: .int (b2 hp) :: .int yn :: .int (b2 ir) :: .ref (a 31) :: .int rc :: .ref (a 33) :: .int (nI mv) :: .int (xKd y) :: .int (nI (xBg y)) :: .int (nI (xEn y)) :: .int (xMk y) :: .long (xLe y) :: .int (nI (xTk y)) :: .int (nI (xOp y)) :: .ref (a 42) :: .int (nI wn1) :: .ref (a 44) :: .int (nI jn) :: .ref (a 46) :: .ref (a 47) :: .ref (a 48) :: .ref (a 49) :: .ref (a 50) :: .ref (a 51) :: .int (b2 ke) :: .ref (a 53) :: .ref (a 54) :: .ref (a 55) :: .int (nI cq) :: .int (nI cm) :: []), aB (CxD X) 3000 tp, aI (CxD X) 3900 (xOr y), aI (CxD X) 3900 (xNu y), aI (CxD X) 3 (nf (xOg y)), aJ (CxD X) 8 nm, aI (CxD X) 40 wt1, aI (CxD X) 40 jt, aI (CxD X) 3 (nf q.1), aZ (CxD X) 60 (zf (updB q.2.1 (40 + (q.1 2)) (xIsW z 1))), aI (CxD X) 60 (nf (va_up q.2.2.1 (40 + (q.1 2)) ((xOg z) 2))), aI (CxD X) 60 (nf (va_up q.2.2.2.1 (40 + (q.1 2)) ((xOg y) 2))), aI (CxD X) 60 (nf (va_up q.2.2.2.2.1 (40 + (q.1 2)) ((xOg y) 2))), aI (CxD X) 60 (nf (va_up q.2.2.2.2.2 (40 + (q.1 2)) ((xOg y) 2)))] (by omega) (by decide) rfl dX11_rule_156 rfl ?_
          refine r_aload_n (n := 158) hX dX11_rule_157 rfl rfl 0 rfl ?_
          refine r_bipush (n := 160) hX 59 dX11_rule_158 rfl rfl ?_
          refine r_callV (n := 163) (av := [.int 59]) hX (ct_X11_sign (CxL X) (CxD X) mo a tn tr fm fn mv cq cm ck te yn rc hp ir ke wn1 jn tp y 59 ht hw.1) ml_X11_209 cv_X11_sign rfl (by decide) [0, 1, 2, 3, 4] rfl rfl (by decide) 0 rfl rfl rfl rfl rfl (Nat.le_of_ble_eq_true rfl) dX11_rule_160 rfl (fun r_ es_ h_ l_ => ?_)
          obtain ⟨rfl, rfl⟩ := h_
          show Aw X [mo, a 0, a 4, a 5, a 6, a 13, a 42, a 44, a 7, a 8, a 9, a 10, a 11, a 12] [ob 11 (.ref (a 0) :: .int (nI tn) :: .int (xFk ((xS tp tn 59 y).2)) :: .int (xFp ((xS tp tn 59 y).2)) :: .ref (a 4) :: .ref (a 5) :: .ref (a 6) :: .ref (a 7) :: .ref (a 8) :: .ref (a 9) :: .ref (a 10) :: .ref (a 11) :: .ref (a 12) :: .ref (a 13) :: .int (nI tr) :: .int (nI fm) :: .int ck :: .int te :: .int (nI fn) :: .ref (a 19) :: .ref (a 20) :: .ref (a 21) :: .ref (a 22) :: .ref (a 23) :: .ref (a 24) :: .ref (a 25) :: .ref (a 26) :: .ref (a 27) :: .int (b2 hp) :: .int yn :: .int (b2 ir) :: .ref (a 31) :: .int rc :: .ref (a 33) :: .int (nI mv) :: .int (xKd ((xS tp tn 59 y).2)) :: .int (nI (xBg ((xS tp tn 59 y).2))) :: .int (nI (xEn ((xS tp tn 59 y).2))) :: .int (xMk ((xS tp tn 59 y).2)) :: .long (xLe ((xS tp tn 59 y).2)) :: .int (nI (xTk ((xS tp tn 59 y).2))) :: .int (nI (xOp ((xS tp tn 59 y).2))) :: .ref (a 42) :: .int (nI wn1) :: .ref (a 44) :: .int (nI jn) :: .ref (a 46) :: .ref (a 47) :: .ref (a 48) :: .ref (a 49) :: .ref (a 50) :: .ref (a 51) :: .int (b2 ke) :: .ref (a 53) :: .ref (a 54) :: .ref (a 55) :: .int (nI cq) :: .int (nI cm) :: []), aB (CxD X) 3000 tp, aI (CxD X) 3900 (xOr ((xS tp tn 59 y).2)), aI (CxD X) 3900 (xNu ((xS tp tn 59 y).2)), aI (CxD X) 3 (nf (xOg ((xS tp tn 59 y).2))), aJ (CxD X) 8 nm, aI (CxD X) 40 wt1, aI (CxD X) 40 jt, aI (CxD X) 3 (nf q.1), aZ (CxD X) 60 (zf (updB q.2.1 (40 + (q.1 2)) (xIsW z 1))), aI (CxD X) 60 (nf (va_up q.2.2.1 (40 + (q.1 2)) ((xOg z) 2))), aI (CxD X) 60 (nf (va_up q.2.2.2.1 (40 + (q.1 2)) ((xOg y) 2))), aI (CxD X) 60 (nf (va_up q.2.2.2.2.1 (40 + (q.1 2)) ((xOg y) 2))), aI (CxD X) 60 (nf (va_up q.2.2.2.2.2 (40 + (q.1 2)) ((xOg y) 2)))] 163 [(0, .ref mo), (1, .int (nI (40 + (q.1 2)))), (2, .int 0)] [.int (b2 ((xS tp tn 59 y).1))]
          refine r_if_ne_b (tgt := 168) (n := 166) hX dX11_rule_163 (by decide) rfl (fun c163 => ?_) (fun c163 => ?_)
          · skip
            refine r_aload_n (n := 169) hX dX11_rule_168 rfl rfl 0 rfl ?_
            refine r_get (n := 172) hX 0 rfl rfl rfl 7 (by decide) lay_X11 fl_X11_27 rfl dX11_rule_169 rfl ?_
            refine r_iconst (n := 173) hX 2 dX11_rule_172 rfl rfl ?_
            refine r_dup2 (n := 174) hX dX11_rule_173 rfl rfl rfl ?_
            refine r_ialdNn (n := 175) (i := 2) hX 8 rfl rfl (by omega) (by decide) dX11_rule_174 rfl ?_
            refine r_iconst (n := 176) hX 1 dX11_rule_175 rfl rfl ?_
            refine r_iadd (n := 177) hX dX11_rule_176 rfl ?_
            refine Aw.topi (nI ((q.1 2) + 1)) (nI_add _ _) ?_
            refine r_iastNn (n := 178) (i := 2) hX 8 rfl rfl ((q.1 2) + 1) [ob 11 (.ref (a 0) :: .int (nI tn) :: .int (xFk ((xS tp tn 59 y).2)) :: .int (xFp ((xS tp tn 59 y).2)) :: .ref (a 4) :: .ref (a 5) :: .ref (a 6) :: .ref (a 7) :: .ref (a 8) :: .ref (a 9) :: .ref (a 10) :: .ref (a 11) :: .ref (a 12) :: .ref (a 13) :: .int (nI tr) :: .int (nI fm) :: .int ck :: .int te :: .int (nI fn) :: .ref (a 19) :: .ref (a 20) :: .ref (a 21) :: .ref (a 22) :: .ref (a 23) :: .ref (a 24) :: .ref (a 25) :: .ref (a 26) :: .ref (a 27) :: .int (b2 hp) :: .int yn :: .int (b2 ir) :: .ref (a 31) :: .int rc :: .ref (a 33) :: .int (nI mv) :: .int (xKd ((xS tp tn 59 y).2)) :: .int (nI (xBg ((xS tp tn 59 y).2))) :: .int (nI (xEn ((xS tp tn 59 y).2))) :: .int (xMk ((xS tp tn 59 y).2)) :: .long (xLe ((xS tp tn 59 y).2)) :: .int (nI (xTk ((xS tp tn 59 y).2))) :: .int (nI (xOp ((xS tp tn 59 y).2))) :: .ref (a 42) :: .int (nI wn1) :: .ref (a 44) :: .int (nI jn) :: .ref (a 46) :: .ref (a 47) :: .ref (a 48) :: .ref (a 49) :: .ref (a 50) :: .ref (a 51) :: .int (b2 ke) :: .ref (a 53) :: .ref (a 54) :: .ref (a 55) :: .int (nI cq) :: .int (nI cm) :: []), aB (CxD X) 3000 tp, aI (CxD X) 3900 (xOr ((xS tp tn 59 y).2)), aI (CxD X) 3900 (xNu ((xS tp tn 59 y).2)), aI (CxD X) 3 (nf (xOg ((xS tp tn 59 y).2))), aJ (CxD X) 8 nm, aI (CxD X) 40 wt1, aI (CxD X) 40 jt, aI (CxD X) 3 (nf (va_up q.1 2 ((q.1 2) + 1))), aZ (CxD X) 60 (zf (updB q.2.1 (40 + (q.1 2)) (xIsW z 1))), aI (CxD X) 60 (nf (va_up q.2.2.1 (40 + (q.1 2)) ((xOg z) 2))), aI (CxD X) 60 (nf (va_up q.2.2.2.1 (40 + (q.1 2)) ((xOg y) 2))), aI (CxD X) 60 (nf (va_up q.2.2.2.2.1 (40 + (q.1 2)) ((xOg y) 2))), aI (CxD X) 60 (nf (va_up q.2.2.2.2.2 (40 + (q.1 2)) ((xOg y) 2)))] (by omega) (by decide) rfl dX11_rule_177 rfl ?_
            refine r_iconst (n := 179) hX 1 dX11_rule_178 rfl rfl ?_
            exact r_zreturn hX hR rfl dX11_rule_179 (by have e : xRule tp tn nm tr z = (true, (xS tp tn 59 y).2) := (by rw [xRule, h1]; simp only [xB, if_true]; rw [h2]; simp only [if_true]; exact Prod.ext c163 rfl); have ez : xRz tp tn nm tr q z = (va_up q.1 2 (q.1 2 + 1), updB q.2.1 (40 + q.1 2) (xIsW z 1), va_up q.2.2.1 (40 + q.1 2) (xOg z 2), va_up q.2.2.2.1 (40 + q.1 2) (xOg y 2), va_up q.2.2.2.2.1 (40 + q.1 2) (xOg y 2), va_up q.2.2.2.2.2 (40 + q.1 2) (xOg y 2)) := (by rw [xRz, h1]; dsimp only; rw [h2]); rw [e]; exact ⟨rfl, _, _, _, _, xRz tp tn nm tr q z, by rw [ez], RFr.rz, fun _ => rfl⟩)
          · skip
            refine r_iconst (n := 167) hX 0 dX11_rule_166 rfl rfl ?_
            exact r_zreturn hX hR rfl dX11_rule_167 (by have e : xRule tp tn nm tr z = (false, (xS tp tn 59 y).2) := (by rw [xRule, h1]; simp only [xB, if_true]; rw [h2]; simp only [if_true]; exact Prod.ext c163 rfl); rw [e]; exact ⟨rfl, _, _, _, _, (q.1, updB q.2.1 (40 + (q.1 2)) (xIsW z 1), va_up q.2.2.1 (40 + (q.1 2)) ((xOg z) 2), va_up q.2.2.2.1 (40 + (q.1 2)) ((xOg y) 2), va_up q.2.2.2.2.1 (40 + (q.1 2)) ((xOg y) 2), va_up q.2.2.2.2.2 (40 + (q.1 2)) ((xOg y) 2)), rfl, ⟨fun j hj => rfl, fun j hj => ⟨updB_lt hj, va_up_lt hj, va_up_lt hj, va_up_lt hj, va_up_lt hj⟩⟩, fun h => absurd h Bool.false_ne_true⟩)
        · skip
          refine r_iconst (n := 105) hX 1 dX11_rule_104 rfl rfl ?_
          refine r_goto (tgt := 109) hX dX11_rule_105 (by decide) ?_
          refine r_istore_n (n := 110) hX [(0, .ref mo), (1, .int (nI (40 + (q.1 2)))), (2, .int 1)] dX11_rule_109 rfl rfl (by decide) rfl ?_
          refine r_iload_n (n := 111) hX dX11_rule_110 rfl rfl 2 rfl ?_
          refine r_if_eq (tgt := 132) (n := 114) hX dX11_rule_111 (by decide) rfl (fun h => False.elim (by revert h; decide)) (fun _ => ?_)
          refine r_aload_n (n := 115) hX dX11_rule_114 rfl rfl 0 rfl ?_
          refine r_get (n := 118) hX 0 rfl rfl rfl 8 (by decide) lay_X11 fl_X11_30 rfl dX11_rule_115 rfl ?_
          refine r_iload_n (n := 119) hX dX11_rule_118 rfl rfl 1 rfl ?_
          refine r_zaldbn (n := 120) (i := (40 + (q.1 2))) hX 9 rfl rfl (by omega) (by decide) dX11_rule_119 rfl ?_
          refine Aw.topi (b2 (xIsW z 1)) (by rw [show updB q.2.1 (40 + q.1 2) (xIsW z 1) (40 + q.1 2) = xIsW z 1 from if_pos rfl]) ?_
          refine r_if_ne_b (tgt := 132) (n := 123) hX dX11_rule_120 (by decide) rfl (fun c120 => absurd c120 (by rw [c51]; decide)) (fun c120 => ?_)
          refine r_aload_n (n := 124) hX dX11_rule_123 rfl rfl 0 rfl ?_
          refine r_callV (n := 127) (av := []) hX (ct_X11_pass (CxL X) (CxD X) mo a tn tr fm fn mv cq cm ck te yn rc hp ir ke wn1 jn tp y ht hy.1) ml_X11_189 cv_X11_pass rfl (by decide) [0, 1, 2, 3, 4] rfl rfl (by decide) 0 rfl rfl rfl rfl rfl (Nat.le_of_ble_eq_true rfl) dX11_rule_124 rfl (fun r_ es_ h_ l_ => ?_)
          obtain ⟨rfl, rfl⟩ := h_
          show Aw X [mo, a 0, a 4, a 5, a 6, a 13, a 42, a 44, a 7, a 8, a 9, a 10, a 11, a 12] [ob 11 (.ref (a 0) :: .int (nI tn) :: .int (xFk (xPass tp tn y)) :: .int (xFp (xPass tp tn y)) :: .ref (a 4) :: .ref (a 5) :: .ref (a 6) :: .ref (a 7) :: .ref (a 8) :: .ref (a 9) :: .ref (a 10) :: .ref (a 11) :: .ref (a 12) :: .ref (a 13) :: .int (nI tr) :: .int (nI fm) :: .int ck :: .int te :: .int (nI fn) :: .ref (a 19) :: .ref (a 20) :: .ref (a 21) :: .ref (a 22) :: .ref (a 23) :: .ref (a 24) :: .ref (a 25) :: .ref (a 26) :: .ref (a 27) :: .int (b2 hp) :: .int yn :: .int (b2 ir) :: .ref (a 31) :: .int rc :: .ref (a 33) :: .int (nI mv) :: .int (xKd (xPass tp tn y)) :: .int (nI (xBg (xPass tp tn y))) :: .int (nI (xEn (xPass tp tn y))) :: .int (xMk (xPass tp tn y)) :: .long (xLe (xPass tp tn y)) :: .int (nI (xTk (xPass tp tn y))) :: .int (nI (xOp (xPass tp tn y))) :: .ref (a 42) :: .int (nI wn1) :: .ref (a 44) :: .int (nI jn) :: .ref (a 46) :: .ref (a 47) :: .ref (a 48) :: .ref (a 49) :: .ref (a 50) :: .ref (a 51) :: .int (b2 ke) :: .ref (a 53) :: .ref (a 54) :: .ref (a 55) :: .int (nI cq) :: .int (nI cm) :: []), aB (CxD X) 3000 tp, aI (CxD X) 3900 (xOr (xPass tp tn y)), aI (CxD X) 3900 (xNu (xPass tp tn y)), aI (CxD X) 3 (nf (xOg (xPass tp tn y))), aJ (CxD X) 8 nm, aI (CxD X) 40 wt1, aI (CxD X) 40 jt, aI (CxD X) 3 (nf q.1), aZ (CxD X) 60 (zf (updB q.2.1 (40 + (q.1 2)) (xIsW z 1))), aI (CxD X) 60 (nf (va_up q.2.2.1 (40 + (q.1 2)) ((xOg z) 2))), aI (CxD X) 60 (nf (va_up q.2.2.2.1 (40 + (q.1 2)) ((xOg y) 2))), aI (CxD X) 60 (nf (va_up q.2.2.2.2.1 (40 + (q.1 2)) ((xOg y) 2))), aI (CxD X) 60 (nf q.2.2.2.2.2)] 127 [(0, .ref mo), (1, .int (nI (40 + (q.1 2)))), (2, .int 1)] [.int (b2 (xPassB y))]
          refine r_if_ne_b (tgt := 132) (n := 130) hX dX11_rule_127 (by decide) rfl (fun c127 => ?_) (fun c127 => ?_)
          · skip
            refine r_iload_n (n := 133) hX dX11_rule_132 rfl rfl 2 rfl ?_
            refine r_if_eq (tgt := 145) (n := 136) hX dX11_rule_133 (by decide) rfl (fun h => False.elim (by revert h; decide)) (fun _ => ?_)
            skip
            refine r_aload_n (n := 137) hX dX11_rule_136 rfl rfl 0 rfl ?_
            refine r_callV (n := 140) (av := []) hX (ct_X11_condition (CxL X) (CxD X) mo a tn tr fm fn mv cq cm ck te yn rc hp ir ke tp nm (xPass tp tn y) wt1 wn1 jt jn ht htr (xPass_ok hy.1) (by show xOp y ≤ 8; have := hy.2.2.2; omega) (by rw [xPass_tk (tp := tp) (tn := tn) c127]; show xOg y 2 ≤ xTk y + 1; have := hy.2.1; have := hy.2.2.1; omega)) ml_X11_248 cv_X11_condition rfl (by decide) [0, 1, 2, 3, 4, 5, 6, 7] rfl rfl (by decide) 0 rfl rfl rfl rfl rfl (Nat.le_of_ble_eq_true rfl) dX11_rule_137 rfl (fun r_ es_ h_ l_ => ?_)
            obtain ⟨rfl, wt2, wn2, jt2, jn2, rfl⟩ := h_
            show Aw X [mo, a 0, a 4, a 5, a 6, a 13, a 42, a 44, a 7, a 8, a 9, a 10, a 11, a 12] [ob 11 (.ref (a 0) :: .int (nI tn) :: .int (xFk ((xCond tp tn nm tr (xPass tp tn y)).2)) :: .int (xFp ((xCond tp tn nm tr (xPass tp tn y)).2)) :: .ref (a 4) :: .ref (a 5) :: .ref (a 6) :: .ref (a 7) :: .ref (a 8) :: .ref (a 9) :: .ref (a 10) :: .ref (a 11) :: .ref (a 12) :: .ref (a 13) :: .int (nI tr) :: .int (nI fm) :: .int ck :: .int te :: .int (nI fn) :: .ref (a 19) :: .ref (a 20) :: .ref (a 21) :: .ref (a 22) :: .ref (a 23) :: .ref (a 24) :: .ref (a 25) :: .ref (a 26) :: .ref (a 27) :: .int (b2 hp) :: .int yn :: .int (b2 ir) :: .ref (a 31) :: .int rc :: .ref (a 33) :: .int (nI mv) :: .int (xKd ((xCond tp tn nm tr (xPass tp tn y)).2)) :: .int (nI (xBg ((xCond tp tn nm tr (xPass tp tn y)).2))) :: .int (nI (xEn ((xCond tp tn nm tr (xPass tp tn y)).2))) :: .int (xMk ((xCond tp tn nm tr (xPass tp tn y)).2)) :: .long (xLe ((xCond tp tn nm tr (xPass tp tn y)).2)) :: .int (nI (xTk ((xCond tp tn nm tr (xPass tp tn y)).2))) :: .int (nI (xOp ((xCond tp tn nm tr (xPass tp tn y)).2))) :: .ref (a 42) :: .int (nI wn2) :: .ref (a 44) :: .int (nI jn2) :: .ref (a 46) :: .ref (a 47) :: .ref (a 48) :: .ref (a 49) :: .ref (a 50) :: .ref (a 51) :: .int (b2 ke) :: .ref (a 53) :: .ref (a 54) :: .ref (a 55) :: .int (nI cq) :: .int (nI cm) :: []), aB (CxD X) 3000 tp, aI (CxD X) 3900 (xOr ((xCond tp tn nm tr (xPass tp tn y)).2)), aI (CxD X) 3900 (xNu ((xCond tp tn nm tr (xPass tp tn y)).2)), aI (CxD X) 3 (nf (xOg ((xCond tp tn nm tr (xPass tp tn y)).2))), aJ (CxD X) 8 nm, aI (CxD X) 40 wt2, aI (CxD X) 40 jt2, aI (CxD X) 3 (nf q.1), aZ (CxD X) 60 (zf (updB q.2.1 (40 + (q.1 2)) (xIsW z 1))), aI (CxD X) 60 (nf (va_up q.2.2.1 (40 + (q.1 2)) ((xOg z) 2))), aI (CxD X) 60 (nf (va_up q.2.2.2.1 (40 + (q.1 2)) ((xOg y) 2))), aI (CxD X) 60 (nf (va_up q.2.2.2.2.1 (40 + (q.1 2)) ((xOg y) 2))), aI (CxD X) 60 (nf q.2.2.2.2.2)] 140 [(0, .ref mo), (1, .int (nI (40 + (q.1 2)))), (2, .int 1)] [.int (b2 ((xCond tp tn nm tr (xPass tp tn y)).1))]
            refine r_if_ne_b (tgt := 145) (n := 143) hX dX11_rule_140 (by decide) rfl (fun c140 => ?_) (fun c140 => ?_)
            · skip
              have h2 : xRu2 tp tn nm tr (xIsW z 1) y = (true, (xCond tp tn nm tr (xPass tp tn y)).2) := (by simp only [xRu2, xB, xP, c51, c101, c127, if_true, if_false, Bool.false_eq_true]; exact Prod.ext c140 rfl)
              have hw := xRu2_ok h2 hy.1
              generalize (xCond tp tn nm tr (xPass tp tn y)).2 = w at h2 hw ⊢
              refine r_aload_n (n := 146) hX dX11_rule_145 rfl rfl 0 rfl ?_
              refine r_get (n := 149) hX 0 rfl rfl rfl 12 (by decide) lay_X11 fl_X11_43 rfl dX11_rule_146 rfl ?_
              refine r_iload_n (n := 150) hX dX11_rule_149 rfl rfl 1 rfl ?_
              refine r_aload_n (n := 151) hX dX11_rule_150 rfl rfl 0 rfl ?_
              refine r_get (n := 154) hX 0 rfl rfl rfl 6 (by decide) lay_X11 fl_X11_24 rfl dX11_rule_151 rfl ?_
              refine r_iconst (n := 155) hX 2 dX11_rule_154 rfl rfl ?_
              refine r_ialdNn (n := 156) (i := 2) hX 4 rfl rfl (by omega) (by decide) dX11_rule_155 rfl ?_
              refine r_iastNn (n := 157) (i := (40 + (q.1 2))) hX 13 rfl rfl ((xOg w) 2) [ob 11 (.ref (a 0) :: .int (nI tn) :: .int (xFk w) :: .int (xFp w) :: .ref (a 4) :: .ref (a 5) :: .ref (a 6) :: .ref (a 7) :: .ref (a 8) :: .ref (a 9) :: .ref (a 10) :: .ref (a 11) :: .ref (a 12) :: .ref (a 13) :: .int (nI tr) :: .int (nI fm) :: .int ck :: .int te :: .int (nI fn) :: .ref (a 19) :: .ref (a 20) :: .ref (a 21) :: .ref (a 22) :: .ref (a 23) :: .ref (a 24) :: .ref (a 25) :: .ref (a 26) :: .ref (a 27) :: .int (b2 hp) :: .int yn :: .int (b2 ir) :: .ref (a 31) :: .int rc :: .ref (a 33) :: .int (nI mv) :: .int (xKd w) :: .int (nI (xBg w)) :: .int (nI (xEn w)) :: .int (xMk w) :: .long (xLe w) :: .int (nI (xTk w)) :: .int (nI (xOp w)) :: .ref (a 42) :: .int (nI wn2) :: .ref (a 44) :: .int (nI jn2) :: .ref (a 46) :: .ref (a 47) :: .ref (a 48) :: .ref (a 49) :: .ref (a 50) :: .ref (a 51) :: .int (b2 ke) :: .ref (a 53) :: .ref (a 54) :: .ref (a 55) :: .int (nI cq) :: .int (nI cm) :: []), aB (CxD X) 3000 tp, aI (CxD X) 3900 (xOr w), aI (CxD X) 3900 (xNu w), aI (CxD X) 3 (nf (xOg w)), aJ (CxD X) 8 nm, aI (CxD X) 40 wt2, aI (CxD X) 40 jt2, aI (CxD X) 3 (nf q.1), aZ (CxD X) 60 (zf (updB q.2.1 (40 + (q.1 2)) (xIsW z 1))), aI (CxD X) 60 (nf (va_up q.2.2.1 (40 + (q.1 2)) ((xOg z) 2))), aI (CxD X) 60 (nf (va_up q.2.2.2.1 (40 + (q.1 2)) ((xOg y) 2))), aI (CxD X) 60 (nf (va_up q.2.2.2.2.1 (40 + (q.1 2)) ((xOg y) 2))), aI (CxD X) 60 (nf (va_up q.2.2.2.2.2 (40 + (q.1 2)) ((xOg w) 2)))] (by omega) (by decide) rfl dX11_rule_156 rfl ?_
              refine r_aload_n (n := 158) hX dX11_rule_157 rfl rfl 0 rfl ?_
              refine r_bipush (n := 160) hX 59 dX11_rule_158 rfl rfl ?_
              refine r_callV (n := 163) (av := [.int 59]) hX (ct_X11_sign (CxL X) (CxD X) mo a tn tr fm fn mv cq cm ck te yn rc hp ir ke wn2 jn2 tp w 59 ht hw.1) ml_X11_209 cv_X11_sign rfl (by decide) [0, 1, 2, 3, 4] rfl rfl (by decide) 0 rfl rfl rfl rfl rfl (Nat.le_of_ble_eq_true rfl) dX11_rule_160 rfl (fun r_ es_ h_ l_ => ?_)
              obtain ⟨rfl, rfl⟩ := h_
              show Aw X [mo, a 0, a 4, a 5, a 6, a 13, a 42, a 44, a 7, a 8, a 9, a 10, a 11, a 12] [ob 11 (.ref (a 0) :: .int (nI tn) :: .int (xFk ((xS tp tn 59 w).2)) :: .int (xFp ((xS tp tn 59 w).2)) :: .ref (a 4) :: .ref (a 5) :: .ref (a 6) :: .ref (a 7) :: .ref (a 8) :: .ref (a 9) :: .ref (a 10) :: .ref (a 11) :: .ref (a 12) :: .ref (a 13) :: .int (nI tr) :: .int (nI fm) :: .int ck :: .int te :: .int (nI fn) :: .ref (a 19) :: .ref (a 20) :: .ref (a 21) :: .ref (a 22) :: .ref (a 23) :: .ref (a 24) :: .ref (a 25) :: .ref (a 26) :: .ref (a 27) :: .int (b2 hp) :: .int yn :: .int (b2 ir) :: .ref (a 31) :: .int rc :: .ref (a 33) :: .int (nI mv) :: .int (xKd ((xS tp tn 59 w).2)) :: .int (nI (xBg ((xS tp tn 59 w).2))) :: .int (nI (xEn ((xS tp tn 59 w).2))) :: .int (xMk ((xS tp tn 59 w).2)) :: .long (xLe ((xS tp tn 59 w).2)) :: .int (nI (xTk ((xS tp tn 59 w).2))) :: .int (nI (xOp ((xS tp tn 59 w).2))) :: .ref (a 42) :: .int (nI wn2) :: .ref (a 44) :: .int (nI jn2) :: .ref (a 46) :: .ref (a 47) :: .ref (a 48) :: .ref (a 49) :: .ref (a 50) :: .ref (a 51) :: .int (b2 ke) :: .ref (a 53) :: .ref (a 54) :: .ref (a 55) :: .int (nI cq) :: .int (nI cm) :: []), aB (CxD X) 3000 tp, aI (CxD X) 3900 (xOr ((xS tp tn 59 w).2)), aI (CxD X) 3900 (xNu ((xS tp tn 59 w).2)), aI (CxD X) 3 (nf (xOg ((xS tp tn 59 w).2))), aJ (CxD X) 8 nm, aI (CxD X) 40 wt2, aI (CxD X) 40 jt2, aI (CxD X) 3 (nf q.1), aZ (CxD X) 60 (zf (updB q.2.1 (40 + (q.1 2)) (xIsW z 1))), aI (CxD X) 60 (nf (va_up q.2.2.1 (40 + (q.1 2)) ((xOg z) 2))), aI (CxD X) 60 (nf (va_up q.2.2.2.1 (40 + (q.1 2)) ((xOg y) 2))), aI (CxD X) 60 (nf (va_up q.2.2.2.2.1 (40 + (q.1 2)) ((xOg y) 2))), aI (CxD X) 60 (nf (va_up q.2.2.2.2.2 (40 + (q.1 2)) ((xOg w) 2)))] 163 [(0, .ref mo), (1, .int (nI (40 + (q.1 2)))), (2, .int 1)] [.int (b2 ((xS tp tn 59 w).1))]
              refine r_if_ne_b (tgt := 168) (n := 166) hX dX11_rule_163 (by decide) rfl (fun c163 => ?_) (fun c163 => ?_)
              · skip
                refine r_aload_n (n := 169) hX dX11_rule_168 rfl rfl 0 rfl ?_
                refine r_get (n := 172) hX 0 rfl rfl rfl 7 (by decide) lay_X11 fl_X11_27 rfl dX11_rule_169 rfl ?_
                refine r_iconst (n := 173) hX 2 dX11_rule_172 rfl rfl ?_
                refine r_dup2 (n := 174) hX dX11_rule_173 rfl rfl rfl ?_
                refine r_ialdNn (n := 175) (i := 2) hX 8 rfl rfl (by omega) (by decide) dX11_rule_174 rfl ?_
                refine r_iconst (n := 176) hX 1 dX11_rule_175 rfl rfl ?_
                refine r_iadd (n := 177) hX dX11_rule_176 rfl ?_
                refine Aw.topi (nI ((q.1 2) + 1)) (nI_add _ _) ?_
                refine r_iastNn (n := 178) (i := 2) hX 8 rfl rfl ((q.1 2) + 1) [ob 11 (.ref (a 0) :: .int (nI tn) :: .int (xFk ((xS tp tn 59 w).2)) :: .int (xFp ((xS tp tn 59 w).2)) :: .ref (a 4) :: .ref (a 5) :: .ref (a 6) :: .ref (a 7) :: .ref (a 8) :: .ref (a 9) :: .ref (a 10) :: .ref (a 11) :: .ref (a 12) :: .ref (a 13) :: .int (nI tr) :: .int (nI fm) :: .int ck :: .int te :: .int (nI fn) :: .ref (a 19) :: .ref (a 20) :: .ref (a 21) :: .ref (a 22) :: .ref (a 23) :: .ref (a 24) :: .ref (a 25) :: .ref (a 26) :: .ref (a 27) :: .int (b2 hp) :: .int yn :: .int (b2 ir) :: .ref (a 31) :: .int rc :: .ref (a 33) :: .int (nI mv) :: .int (xKd ((xS tp tn 59 w).2)) :: .int (nI (xBg ((xS tp tn 59 w).2))) :: .int (nI (xEn ((xS tp tn 59 w).2))) :: .int (xMk ((xS tp tn 59 w).2)) :: .long (xLe ((xS tp tn 59 w).2)) :: .int (nI (xTk ((xS tp tn 59 w).2))) :: .int (nI (xOp ((xS tp tn 59 w).2))) :: .ref (a 42) :: .int (nI wn2) :: .ref (a 44) :: .int (nI jn2) :: .ref (a 46) :: .ref (a 47) :: .ref (a 48) :: .ref (a 49) :: .ref (a 50) :: .ref (a 51) :: .int (b2 ke) :: .ref (a 53) :: .ref (a 54) :: .ref (a 55) :: .int (nI cq) :: .int (nI cm) :: []), aB (CxD X) 3000 tp, aI (CxD X) 3900 (xOr ((xS tp tn 59 w).2)), aI (CxD X) 3900 (xNu ((xS tp tn 59 w).2)), aI (CxD X) 3 (nf (xOg ((xS tp tn 59 w).2))), aJ (CxD X) 8 nm, aI (CxD X) 40 wt2, aI (CxD X) 40 jt2, aI (CxD X) 3 (nf (va_up q.1 2 ((q.1 2) + 1))), aZ (CxD X) 60 (zf (updB q.2.1 (40 + (q.1 2)) (xIsW z 1))), aI (CxD X) 60 (nf (va_up q.2.2.1 (40 + (q.1 2)) ((xOg z) 2))), aI (CxD X) 60 (nf (va_up q.2.2.2.1 (40 + (q.1 2)) ((xOg y) 2))), aI (CxD X) 60 (nf (va_up q.2.2.2.2.1 (40 + (q.1 2)) ((xOg y) 2))), aI (CxD X) 60 (nf (va_up q.2.2.2.2.2 (40 + (q.1 2)) ((xOg w) 2)))] (by omega) (by decide) rfl dX11_rule_177 rfl ?_
                refine r_iconst (n := 179) hX 1 dX11_rule_178 rfl rfl ?_
                exact r_zreturn hX hR rfl dX11_rule_179 (by have e : xRule tp tn nm tr z = (true, (xS tp tn 59 w).2) := (by rw [xRule, h1]; simp only [xB, if_true]; rw [h2]; simp only [if_true]; exact Prod.ext c163 rfl); have ez : xRz tp tn nm tr q z = (va_up q.1 2 (q.1 2 + 1), updB q.2.1 (40 + q.1 2) (xIsW z 1), va_up q.2.2.1 (40 + q.1 2) (xOg z 2), va_up q.2.2.2.1 (40 + q.1 2) (xOg y 2), va_up q.2.2.2.2.1 (40 + q.1 2) (xOg y 2), va_up q.2.2.2.2.2 (40 + q.1 2) (xOg w 2)) := (by rw [xRz, h1]; dsimp only; rw [h2]); rw [e]; exact ⟨rfl, _, _, _, _, xRz tp tn nm tr q z, by rw [ez], RFr.rz, fun _ => rfl⟩)
              · skip
                refine r_iconst (n := 167) hX 0 dX11_rule_166 rfl rfl ?_
                exact r_zreturn hX hR rfl dX11_rule_167 (by have e : xRule tp tn nm tr z = (false, (xS tp tn 59 w).2) := (by rw [xRule, h1]; simp only [xB, if_true]; rw [h2]; simp only [if_true]; exact Prod.ext c163 rfl); rw [e]; exact ⟨rfl, _, _, _, _, (q.1, updB q.2.1 (40 + (q.1 2)) (xIsW z 1), va_up q.2.2.1 (40 + (q.1 2)) ((xOg z) 2), va_up q.2.2.2.1 (40 + (q.1 2)) ((xOg y) 2), va_up q.2.2.2.2.1 (40 + (q.1 2)) ((xOg y) 2), va_up q.2.2.2.2.2 (40 + (q.1 2)) ((xOg w) 2)), rfl, ⟨fun j hj => rfl, fun j hj => ⟨updB_lt hj, va_up_lt hj, va_up_lt hj, va_up_lt hj, va_up_lt hj⟩⟩, fun h => absurd h Bool.false_ne_true⟩)
            · skip
              refine r_iconst (n := 144) hX 0 dX11_rule_143 rfl rfl ?_
              exact r_zreturn hX hR rfl dX11_rule_144 (by have e : xRule tp tn nm tr z = (false, (xCond tp tn nm tr (xPass tp tn y)).2) := (by rw [xRule, h1]; simp only [xB, xRu2, xP, c51, c101, c127, c140, if_true, if_false, Bool.false_eq_true]); rw [e]; exact ⟨rfl, _, _, _, _, (q.1, updB q.2.1 (40 + (q.1 2)) (xIsW z 1), va_up q.2.2.1 (40 + (q.1 2)) ((xOg z) 2), va_up q.2.2.2.1 (40 + (q.1 2)) ((xOg y) 2), va_up q.2.2.2.2.1 (40 + (q.1 2)) ((xOg y) 2), q.2.2.2.2.2), rfl, ⟨fun j hj => rfl, fun j hj => ⟨updB_lt hj, va_up_lt hj, va_up_lt hj, va_up_lt hj, rfl⟩⟩, fun h => absurd h Bool.false_ne_true⟩)
          · skip
            refine r_iconst (n := 131) hX 0 dX11_rule_130 rfl rfl ?_
            exact r_zreturn hX hR rfl dX11_rule_131 (by have e : xRule tp tn nm tr z = (false, (xPass tp tn y)) := (by rw [xRule, h1]; simp only [xB, xRu2, xP, c51, c101, c127, if_true, if_false, Bool.false_eq_true]); rw [e]; exact ⟨rfl, _, _, _, _, (q.1, updB q.2.1 (40 + (q.1 2)) (xIsW z 1), va_up q.2.2.1 (40 + (q.1 2)) ((xOg z) 2), va_up q.2.2.2.1 (40 + (q.1 2)) ((xOg y) 2), va_up q.2.2.2.2.1 (40 + (q.1 2)) ((xOg y) 2), q.2.2.2.2.2), rfl, ⟨fun j hj => rfl, fun j hj => ⟨updB_lt hj, va_up_lt hj, va_up_lt hj, va_up_lt hj, rfl⟩⟩, fun h => absurd h Bool.false_ne_true⟩)
      · skip
        refine r_iconst (n := 62) hX 0 dX11_rule_61 rfl rfl ?_
        exact r_zreturn hX hR rfl dX11_rule_62 (by have e : xRule tp tn nm tr z = (false, (xExp tp tn nm tr (xPass tp tn (xO0 z))).2) := (by unfold xRule; rw [show xRu1 tp tn nm tr (xIsW z 1) z = xExp tp tn nm tr (xPass tp tn (xO0 z)) by simp only [xRu1, xB, xP, c42, c51, if_true, if_false, Bool.false_eq_true]]; simp only [xB, c58, if_false, Bool.false_eq_true]); rw [e]; exact ⟨rfl, _, _, _, _, (q.1, updB q.2.1 (40 + (q.1 2)) (xIsW z 1), va_up q.2.2.1 (40 + (q.1 2)) ((xOg z) 2), q.2.2.2.1, q.2.2.2.2.1, q.2.2.2.2.2), rfl, ⟨fun j hj => rfl, fun j hj => ⟨updB_lt hj, va_up_lt hj, rfl, rfl, rfl⟩⟩, fun h => absurd h Bool.false_ne_true⟩)
theorem ct_X11_rule (l : Launch) (D : va_G) (mo : Nat) (a : Nat → Nat) (tn tr fm fn mv cq cm : Nat) (ck te yn rc : Int32) (hp ir ke : Bool) (tp : Nat → Int32) (nm : Nat → Int64) (z : XZ) (wt : Nat → Int32) (wn : Nat) (jt : Nat → Int32) (jn : Nat) (q : RZ) (ht : tn ≤ 3000) (htr : tr ≤ 8) (hz : XOk tn z) (hg : xOg z 2 ≤ xTk z) (hr : q.1 2 < 20) : Ct l D m_X11_rule 9 [.ref mo] [mo, a 0, a 4, a 5, a 6, a 13, a 42, a 44, a 7, a 8, a 9, a 10, a 11, a 12] [ob 11 (.ref (a 0) :: .int (nI tn) :: .int (xFk z) :: .int (xFp z) :: .ref (a 4) :: .ref (a 5) :: .ref (a 6) :: .ref (a 7) :: .ref (a 8) :: .ref (a 9) :: .ref (a 10) :: .ref (a 11) :: .ref (a 12) :: .ref (a 13) :: .int (nI tr) :: .int (nI fm) :: .int ck :: .int te :: .int (nI fn) :: .ref (a 19) :: .ref (a 20) :: .ref (a 21) :: .ref (a 22) :: .ref (a 23) :: .ref (a 24) :: .ref (a 25) :: .ref (a 26) :: .ref (a 27) :: .int (b2 hp) :: .int yn :: .int (b2 ir) :: .ref (a 31) :: .int rc :: .ref (a 33) :: .int (nI mv) :: .int (xKd z) :: .int (nI (xBg z)) :: .int (nI (xEn z)) :: .int (xMk z) :: .long (xLe z) :: .int (nI (xTk z)) :: .int (nI (xOp z)) :: .ref (a 42) :: .int (nI wn) :: .ref (a 44) :: .int (nI jn) :: .ref (a 46) :: .ref (a 47) :: .ref (a 48) :: .ref (a 49) :: .ref (a 50) :: .ref (a 51) :: .int (b2 ke) :: .ref (a 53) :: .ref (a 54) :: .ref (a 55) :: .int (nI cq) :: .int (nI cm) :: []), aB D 3000 tp, aI D 3900 (xOr z), aI D 3900 (xNu z), aI D 3 (nf (xOg z)), aJ D 8 nm, aI D 40 wt, aI D 40 jt, aI D 3 (nf q.1), aZ D 60 (zf q.2.1), aI D 60 (nf q.2.2.1), aI D 60 (nf q.2.2.2.1), aI D 60 (nf q.2.2.2.2.1), aI D 60 (nf q.2.2.2.2.2)] (fun r es' => r = some (.int (b2 (xRule tp tn nm tr z).1)) ∧ ∃ (wt : Nat → Int32) (wn : Nat) (jt : Nat → Int32) (jn : Nat) (p : RZ), es' = [ob 11 (.ref (a 0) :: .int (nI tn) :: .int (xFk ((xRule tp tn nm tr z).2)) :: .int (xFp ((xRule tp tn nm tr z).2)) :: .ref (a 4) :: .ref (a 5) :: .ref (a 6) :: .ref (a 7) :: .ref (a 8) :: .ref (a 9) :: .ref (a 10) :: .ref (a 11) :: .ref (a 12) :: .ref (a 13) :: .int (nI tr) :: .int (nI fm) :: .int ck :: .int te :: .int (nI fn) :: .ref (a 19) :: .ref (a 20) :: .ref (a 21) :: .ref (a 22) :: .ref (a 23) :: .ref (a 24) :: .ref (a 25) :: .ref (a 26) :: .ref (a 27) :: .int (b2 hp) :: .int yn :: .int (b2 ir) :: .ref (a 31) :: .int rc :: .ref (a 33) :: .int (nI mv) :: .int (xKd ((xRule tp tn nm tr z).2)) :: .int (nI (xBg ((xRule tp tn nm tr z).2))) :: .int (nI (xEn ((xRule tp tn nm tr z).2))) :: .int (xMk ((xRule tp tn nm tr z).2)) :: .long (xLe ((xRule tp tn nm tr z).2)) :: .int (nI (xTk ((xRule tp tn nm tr z).2))) :: .int (nI (xOp ((xRule tp tn nm tr z).2))) :: .ref (a 42) :: .int (nI wn) :: .ref (a 44) :: .int (nI jn) :: .ref (a 46) :: .ref (a 47) :: .ref (a 48) :: .ref (a 49) :: .ref (a 50) :: .ref (a 51) :: .int (b2 ke) :: .ref (a 53) :: .ref (a 54) :: .ref (a 55) :: .int (nI cq) :: .int (nI cm) :: []), aB D 3000 tp, aI D 3900 (xOr ((xRule tp tn nm tr z).2)), aI D 3900 (xNu ((xRule tp tn nm tr z).2)), aI D 3 (nf (xOg ((xRule tp tn nm tr z).2))), aJ D 8 nm, aI D 40 wt, aI D 40 jt, aI D 3 (nf p.1), aZ D 60 (zf p.2.1), aI D 60 (nf p.2.2.1), aI D 60 (nf p.2.2.2.1), aI D 60 (nf p.2.2.2.2.1), aI D 60 (nf p.2.2.2.2.2)] ∧ RFr q p ∧ ((xRule tp tn nm tr z).1 = true → p = xRz tp tn nm tr q z)) :=
  Ct.ofA (own := RX11) (by decide) rfl (Nat.le_of_ble_eq_true rfl) rfl (fun X hl hD hX hR => by subst hl; subst hD; exact wk_X11_rule hX mo a tn tr fm fn mv cq cm ck te yn rc hp ir ke tp nm z wt wn jt jn q ht htr hz hg hr hR)
