
theorem XInv.mode0 {tp : Nat → Int32} {tn : Nat} {nm : Nat → Int64} {tr : Nat} {l : LV} {r : List LV} {z : XZ} {wt : Nat → Int32} {wn : Nat} (h : XInv tn l r z wt wn) (hu : (xUnit tp tn nm tr z).1 = true) : XInv tn l r (xUnit tp tn nm tr z).2 wt wn ∧ xTk z + 1 ≤ xTk (xUnit tp tn nm tr z).2 := by
  obtain ⟨hok, hS, hl, hls, hro, ho8, hgt⟩ := h
  obtain ⟨k1, k2⟩ := xUnit_ok (tp := tp) (nm := nm) (tr := tr) hok
  obtain ⟨k3, k4, k5⟩ := k2 hu
  exact ⟨⟨k1, hS, hl, hls, by rw [k5]; exact hro, by rw [k5]; exact ho8, by rw [k4]; omega⟩, k3⟩
theorem XInv.open_ {tp : Nat → Int32} {tn : Nat} {l : LV} {r : List LV} {z : XZ} {wt : Nat → Int32} {wn : Nat} (h : XInv tn l r z wt wn) (ho : ¬ xOp z = 8) (hp : xPassB (xUp z) = true) : XInv tn (none, false) (l :: r) (xPass tp tn (xUp z)) (upd wt wn 40) (wn + 1) ∧ xTk (xPass tp tn (xUp z)) = xTk z + 1 := by
  obtain ⟨hok, hS, hl, hls, hro, ho8, hgt⟩ := h
  have ht := xPass_tk (tp := tp) (tn := tn) hp
  refine ⟨⟨xPass_ok (z := xUp z) hok, stk_push hS, Or.inl rfl, ⟨hl, hls⟩, ?_, ?_, ?_⟩, ht⟩
  · show r.length + 1 ≤ xOp z + 1; omega
  · show xOp z + 1 ≤ 8; omega
  · rw [ht]; show xOg z 2 + (wn + 1) ≤ xTk z + 1; omega
theorem XInv.neg_ {tp : Nat → Int32} {tn : Nat} {r : List LV} {z : XZ} {wt : Nat → Int32} {wn : Nat} (h : XInv tn (none, false) r z wt wn) (hp : xPassB z = true) : XInv tn (some 110, false) r (xPass tp tn z) (upd wt wn 110) (wn + 1) ∧ xTk (xPass tp tn z) = xTk z + 1 := by
  obtain ⟨hok, hS, hl, hls, hro, ho8, hgt⟩ := h
  have ht := xPass_tk (tp := tp) (tn := tn) hp
  refine ⟨⟨xPass_ok hok, stk_push hS, Or.inr (Or.inr (Or.inr rfl)), hls, hro, ho8, ?_⟩, ht⟩
  rw [ht]; show xOg z 2 + (wn + 1) ≤ xTk z + 1; omega
theorem XInv.close_ {tp : Nat → Int32} {tn : Nat} {l l' : LV} {r' : List LV} {z : XZ} {wt : Nat → Int32} {wn k : Nat} (h : XInv tn l (l' :: r') z wt wn) (hk : stk wt k (lvE l' ++ encR r')) (hkw : k + 1 + (lvE l).length ≤ wn) (hp : xPassB (xDn (xSetL z l)) = true) : XInv tn l' r' (xPass tp tn (xDn (xSetL z l))) wt k ∧ xTk (xPass tp tn (xDn (xSetL z l))) = xTk z + 1 := by
  obtain ⟨hok, hS, hl, hls, hro, ho8, hgt⟩ := h
  obtain ⟨e1, e2, e3, e4⟩ := xSetL_st (z := z) (l := l)
  have ht := xPass_tk (tp := tp) (tn := tn) hp
  have ht2 : xTk (xDn (xSetL z l)) = xTk z := congrArg (·.2) e1
  rw [ht2] at ht
  refine ⟨⟨xPass_ok ⟨?_, ?_⟩, hk, hls.1, hls.2, ?_, ?_, ?_⟩, ht⟩
  · show LOk tn (xSetL z l).1.1; rw [e1]; exact hok.1
  · rw [ht2]; exact hok.2
  · show r'.length ≤ xOp (xSetL z l) - 1
    have : xOp (xSetL z l) = xOp z := e3
    rw [this]; simp only [List.length_cons] at hro; omega
  · show xOp (xSetL z l) - 1 ≤ 8
    have : xOp (xSetL z l) = xOp z := e3
    omega
  · rw [ht]; show xOg (xSetL z l) 2 + k ≤ xTk z + 1
    rw [e4]; omega
theorem XInv.sum_ {tp : Nat → Int32} {tn : Nat} {l : LV} {r : List LV} {z : XZ} {wt : Nat → Int32} {wn k : Nat} {c : Int32} (h : XInv tn l r z wt wn) (hk : stk wt k (encR r)) (hc : c = 43 ∨ c = 45) (hp : xPassB (xSetL z l) = true) : XInv tn (some c, false) r (xPass tp tn (xSetL z l)) (upd wt k c) (k + 1) ∧ xTk (xPass tp tn (xSetL z l)) = xTk z + 1 := by
  obtain ⟨hok, hS, hl, hls, hro, ho8, hgt⟩ := h
  obtain ⟨e1, e2, e3, e4⟩ := xSetL_st (z := z) (l := l)
  have ht := xPass_tk (tp := tp) (tn := tn) hp
  have ht2 : xTk (xSetL z l) = xTk z := congrArg (·.2) e1
  rw [ht2] at ht
  have e3' : xOp (xSetL z l) = xOp z := e3
  have hl1 := stk_len hS
  have hl2 := stk_len hk
  rw [List.length_append] at hl1
  refine ⟨⟨xPass_ok ⟨?_, ?_⟩, stk_push hk, ?_, hls, ?_, ?_, ?_⟩, ht⟩
  · rw [e1]; exact hok.1
  · rw [ht2]; exact hok.2
  · rcases hc with rfl | rfl
    · exact Or.inr (Or.inl rfl)
    · exact Or.inr (Or.inr (Or.inl rfl))
  · show r.length ≤ xOp (xSetL z l); rw [e3']; exact hro
  · show xOp (xSetL z l) ≤ 8; rw [e3']; exact ho8
  · rw [ht]; show xOg (xSetL z l) 2 + (k + 1) ≤ xTk z + 1
    rw [e4]; omega
theorem XInv.prod_ {tp : Nat → Int32} {tn : Nat} {l : LV} {r : List LV} {z : XZ} {wt : Nat → Int32} {wn k : Nat} (h : XInv tn l r z wt wn) (hk : stk wt k (l.1.toList ++ encR r)) (hp : xPassB (xSt1 z l) = true) : XInv tn (l.1, true) r (xPass tp tn (xSt1 z l)) (upd wt k 42) (k + 1) ∧ xTk (xPass tp tn (xSt1 z l)) = xTk z + 1 := by
  obtain ⟨hok, hS, hl, hls, hro, ho8, hgt⟩ := h
  obtain ⟨e1, e2, e3, e4⟩ := xSt1_st (z := z) (l := l)
  have ht := xPass_tk (tp := tp) (tn := tn) hp
  have ht2 : xTk (xSt1 z l) = xTk z := congrArg (·.2) e1
  rw [ht2] at ht
  have e3' : xOp (xSt1 z l) = xOp z := e3
  have hl1 := stk_len hS
  have hl2 := stk_len hk
  rw [List.length_append] at hl1 hl2
  have hl3 : (lvE l).length = (if l.2 = true then 1 else 0) + l.1.toList.length := by
    obtain ⟨s, p⟩ := l
    cases p <;> simp [lvE]; omega
  refine ⟨⟨xPass_ok ⟨?_, ?_⟩, stk_push hk, hl, hls, ?_, ?_, ?_⟩, ht⟩
  · rw [e1]; exact hok.1
  · rw [ht2]; exact hok.2
  · show r.length ≤ xOp (xSt1 z l); rw [e3']; exact hro
  · show xOp (xSt1 z l) ≤ 8; rw [e3']; exact ho8
  · rw [ht]; show xOg (xSt1 z l) 2 + (k + 1) ≤ xTk z + 1
    rw [e4]; omega

set_option maxHeartbeats 1000000 in
set_option maxRecDepth 100000 in
theorem q66 {X : Cx} (hX : Ok X cX11_expression 6 RX11 6) (mo : Nat) (a : Nat → Nat) (tn tr fm fn mv cq cm : Nat) (ck te yn rc : Int32) (hp ir ke : Bool) (jn : Nat) (tp : Nat → Int32) (nm : Nat → Int64) (ht : tn ≤ 3000) (htr : tr ≤ 8) (R : Bool × XZ) (m : Nat) (ih0 : ∀ (l : LV) (r : List LV) (z : XZ) (wt : Nat → Int32) (wn : Nat), XInv tn l r z wt wn → 602 ≤ xTk z + m → xM tp tn nm tr m 0 l r z = R → Aw X [mo, a 0, a 4, a 5, a 6, a 13, a 42] [ob 11 (.ref (a 0) :: .int (nI tn) :: .int (xFk z) :: .int (xFp z) :: .ref (a 4) :: .ref (a 5) :: .ref (a 6) :: .ref (a 7) :: .ref (a 8) :: .ref (a 9) :: .ref (a 10) :: .ref (a 11) :: .ref (a 12) :: .ref (a 13) :: .int (nI tr) :: .int (nI fm) :: .int ck :: .int te :: .int (nI fn) :: .ref (a 19) :: .ref (a 20) :: .ref (a 21) :: .ref (a 22) :: .ref (a 23) :: .ref (a 24) :: .ref (a 25) :: .ref (a 26) :: .ref (a 27) :: .int (b2 hp) :: .int yn :: .int (b2 ir) :: .ref (a 31) :: .int rc :: .ref (a 33) :: .int (nI mv) :: .int (xKd z) :: .int (nI (xBg z)) :: .int (nI (xEn z)) :: .int (xMk z) :: .long (xLe z) :: .int (nI (xTk z)) :: .int (nI (xOp z)) :: .ref (a 42) :: .int (nI wn) :: .ref (a 44) :: .int (nI jn) :: .ref (a 46) :: .ref (a 47) :: .ref (a 48) :: .ref (a 49) :: .ref (a 50) :: .ref (a 51) :: .int (b2 ke) :: .ref (a 53) :: .ref (a 54) :: .ref (a 55) :: .int (nI cq) :: .int (nI cm) :: []), aB (CxD X) 3000 tp, aI (CxD X) 3900 (xOr z), aI (CxD X) 3900 (xNu z), aI (CxD X) 3 (nf (xOg z)), aJ (CxD X) 8 nm, aI (CxD X) 40 wt] 154 [(0, .ref mo), (1, .int (nI r.length)), (2, .int 0)] []) (ih2 : ∀ (l : LV) (r : List LV) (z : XZ) (wt : Nat → Int32) (wn : Nat), XInv tn l r z wt wn → 602 ≤ xTk z + m → l = (none, false) → xM tp tn nm tr m 2 l r z = R → Aw X [mo, a 0, a 4, a 5, a 6, a 13, a 42] [ob 11 (.ref (a 0) :: .int (nI tn) :: .int (xFk z) :: .int (xFp z) :: .ref (a 4) :: .ref (a 5) :: .ref (a 6) :: .ref (a 7) :: .ref (a 8) :: .ref (a 9) :: .ref (a 10) :: .ref (a 11) :: .ref (a 12) :: .ref (a 13) :: .int (nI tr) :: .int (nI fm) :: .int ck :: .int te :: .int (nI fn) :: .ref (a 19) :: .ref (a 20) :: .ref (a 21) :: .ref (a 22) :: .ref (a 23) :: .ref (a 24) :: .ref (a 25) :: .ref (a 26) :: .ref (a 27) :: .int (b2 hp) :: .int yn :: .int (b2 ir) :: .ref (a 31) :: .int rc :: .ref (a 33) :: .int (nI mv) :: .int (xKd z) :: .int (nI (xBg z)) :: .int (nI (xEn z)) :: .int (xMk z) :: .long (xLe z) :: .int (nI (xTk z)) :: .int (nI (xOp z)) :: .ref (a 42) :: .int (nI wn) :: .ref (a 44) :: .int (nI jn) :: .ref (a 46) :: .ref (a 47) :: .ref (a 48) :: .ref (a 49) :: .ref (a 50) :: .ref (a 51) :: .int (b2 ke) :: .ref (a 53) :: .ref (a 54) :: .ref (a 55) :: .int (nI cq) :: .int (nI cm) :: []), aB (CxD X) 3000 tp, aI (CxD X) 3900 (xOr z), aI (CxD X) 3900 (xNu z), aI (CxD X) 3 (nf (xOg z)), aJ (CxD X) 8 nm, aI (CxD X) 40 wt] 18 [(0, .ref mo), (1, .int (nI r.length)), (2, .int 1), (4, .int 1)] []) (l : LV) (r : List LV) (z : XZ) (wt : Nat → Int32) (wn : Nat) (hi : XInv tn l r z wt wn) (hm : 602 ≤ xTk z + (m + 1)) (hf : xM1 tp tn nm tr (xM tp tn nm tr m) l r z = R) (hR : Rt X (some FieldType.boolean) (fun r es' => r = some (.int (b2 R.1)) ∧ ∃ (wt : Nat → Int32) (wn : Nat), es' = [ob 11 (.ref (a 0) :: .int (nI tn) :: .int (xFk R.2) :: .int (xFp R.2) :: .ref (a 4) :: .ref (a 5) :: .ref (a 6) :: .ref (a 7) :: .ref (a 8) :: .ref (a 9) :: .ref (a 10) :: .ref (a 11) :: .ref (a 12) :: .ref (a 13) :: .int (nI tr) :: .int (nI fm) :: .int ck :: .int te :: .int (nI fn) :: .ref (a 19) :: .ref (a 20) :: .ref (a 21) :: .ref (a 22) :: .ref (a 23) :: .ref (a 24) :: .ref (a 25) :: .ref (a 26) :: .ref (a 27) :: .int (b2 hp) :: .int yn :: .int (b2 ir) :: .ref (a 31) :: .int rc :: .ref (a 33) :: .int (nI mv) :: .int (xKd R.2) :: .int (nI (xBg R.2)) :: .int (nI (xEn R.2)) :: .int (xMk R.2) :: .long (xLe R.2) :: .int (nI (xTk R.2)) :: .int (nI (xOp R.2)) :: .ref (a 42) :: .int (nI wn) :: .ref (a 44) :: .int (nI jn) :: .ref (a 46) :: .ref (a 47) :: .ref (a 48) :: .ref (a 49) :: .ref (a 50) :: .ref (a 51) :: .int (b2 ke) :: .ref (a 53) :: .ref (a 54) :: .ref (a 55) :: .int (nI cq) :: .int (nI cm) :: []), aB (CxD X) 3000 tp, aI (CxD X) 3900 (xOr R.2), aI (CxD X) 3900 (xNu R.2), aI (CxD X) 3 (nf (xOg R.2)), aJ (CxD X) 8 nm, aI (CxD X) 40 wt]) [mo, a 0, a 4, a 5, a 6, a 13, a 42]) : Aw X [mo, a 0, a 4, a 5, a 6, a 13, a 42] [ob 11 (.ref (a 0) :: .int (nI tn) :: .int (xFk z) :: .int (xFp z) :: .ref (a 4) :: .ref (a 5) :: .ref (a 6) :: .ref (a 7) :: .ref (a 8) :: .ref (a 9) :: .ref (a 10) :: .ref (a 11) :: .ref (a 12) :: .ref (a 13) :: .int (nI tr) :: .int (nI fm) :: .int ck :: .int te :: .int (nI fn) :: .ref (a 19) :: .ref (a 20) :: .ref (a 21) :: .ref (a 22) :: .ref (a 23) :: .ref (a 24) :: .ref (a 25) :: .ref (a 26) :: .ref (a 27) :: .int (b2 hp) :: .int yn :: .int (b2 ir) :: .ref (a 31) :: .int rc :: .ref (a 33) :: .int (nI mv) :: .int (xKd z) :: .int (nI (xBg z)) :: .int (nI (xEn z)) :: .int (xMk z) :: .long (xLe z) :: .int (nI (xTk z)) :: .int (nI (xOp z)) :: .ref (a 42) :: .int (nI wn) :: .ref (a 44) :: .int (nI jn) :: .ref (a 46) :: .ref (a 47) :: .ref (a 48) :: .ref (a 49) :: .ref (a 50) :: .ref (a 51) :: .int (b2 ke) :: .ref (a 53) :: .ref (a 54) :: .ref (a 55) :: .int (nI cq) :: .int (nI cm) :: []), aB (CxD X) 3000 tp, aI (CxD X) 3900 (xOr z), aI (CxD X) 3900 (xNu z), aI (CxD X) 3 (nf (xOg z)), aJ (CxD X) 8 nm, aI (CxD X) 40 wt] 66 [(0, .ref mo), (1, .int (nI r.length))] [] := by
  have hw := hi.wn
  have hog := hi.og
  have hi0 := hi
  obtain ⟨hok, hS, hl, hls, hro, ho8, hgt⟩ := hi
  have ht1 := hok.2
  refine r_iconst (n := 67) hX 0 dX11_expression_66 rfl rfl ?_
  refine r_istore_n (n := 68) hX [(0, .ref mo), (1, .int (nI r.length)), (2, .int 0)] dX11_expression_67 rfl rfl (by decide) rfl ?_
  refine r_aload_n (n := 69) hX dX11_expression_68 rfl rfl 0 rfl ?_
  refine r_bipush (n := 71) hX 40 dX11_expression_69 rfl rfl ?_
  refine r_callV (n := 74) (av := [.int 40]) hX (ct_X11_isSign (CxL X) (CxD X) mo a tn tr fm fn mv (xBg z) (xEn z) (xTk z) (xOp z) wn jn cq cm (xFk z) (xFp z) ck te yn rc (xKd z) (xMk z) (xLe z) hp ir ke 40) ml_X11_186 cv_X11_isSign rfl (by decide) [0] rfl rfl (by decide) 0 rfl rfl rfl rfl rfl (Nat.le_of_ble_eq_true rfl) dX11_expression_71 rfl (fun r_ es_ h_ l_ => ?_)
  obtain ⟨rfl, rfl⟩ := h_
  show Aw X [mo, a 0, a 4, a 5, a 6, a 13, a 42] [ob 11 (.ref (a 0) :: .int (nI tn) :: .int (xFk z) :: .int (xFp z) :: .ref (a 4) :: .ref (a 5) :: .ref (a 6) :: .ref (a 7) :: .ref (a 8) :: .ref (a 9) :: .ref (a 10) :: .ref (a 11) :: .ref (a 12) :: .ref (a 13) :: .int (nI tr) :: .int (nI fm) :: .int ck :: .int te :: .int (nI fn) :: .ref (a 19) :: .ref (a 20) :: .ref (a 21) :: .ref (a 22) :: .ref (a 23) :: .ref (a 24) :: .ref (a 25) :: .ref (a 26) :: .ref (a 27) :: .int (b2 hp) :: .int yn :: .int (b2 ir) :: .ref (a 31) :: .int rc :: .ref (a 33) :: .int (nI mv) :: .int (xKd z) :: .int (nI (xBg z)) :: .int (nI (xEn z)) :: .int (xMk z) :: .long (xLe z) :: .int (nI (xTk z)) :: .int (nI (xOp z)) :: .ref (a 42) :: .int (nI wn) :: .ref (a 44) :: .int (nI jn) :: .ref (a 46) :: .ref (a 47) :: .ref (a 48) :: .ref (a 49) :: .ref (a 50) :: .ref (a 51) :: .int (b2 ke) :: .ref (a 53) :: .ref (a 54) :: .ref (a 55) :: .int (nI cq) :: .int (nI cm) :: []), aB (CxD X) 3000 tp, aI (CxD X) 3900 (xOr z), aI (CxD X) 3900 (xNu z), aI (CxD X) 3 (nf (xOg z)), aJ (CxD X) 8 nm, aI (CxD X) 40 wt] 74 [(0, .ref mo), (1, .int (nI r.length)), (2, .int 0)] [.int (b2 (xIsS z 40))]
  refine r_istore (n := 76) hX [(0, .ref mo), (1, .int (nI r.length)), (2, .int 0), (4, .int (b2 (xIsS z 40)))] dX11_expression_74 rfl (by decide) rfl ?_
  refine r_iload (n := 78) hX dX11_expression_76 rfl 3 rfl ?_
  refine r_if_eq_b (tgt := 18) (n := 81) hX dX11_expression_78 (by decide) rfl (fun c78 => ?_) (fun c78 => ?_)
  · skip
    refine r_iload (n := 20) hX dX11_expression_18 rfl 3 rfl ?_
    refine r_if_eq_b (tgt := 145) (n := 23) hX dX11_expression_20 (by decide) rfl (fun c20 => ?_) (fun c20 => absurd c20 (by rw [c78]; decide))
    refine r_aload_n (n := 146) hX dX11_expression_145 rfl rfl 0 rfl ?_
    refine r_callV (n := 149) (av := []) hX (ct_X11_unit (CxL X) (CxD X) mo a tn tr fm fn mv cq cm ck te yn rc hp ir ke wn jn tp nm z ht hok htr (by omega)) ml_X11_221 cv_X11_unit rfl (by decide) [0, 1, 2, 3, 4, 5] rfl rfl (by decide) 0 rfl rfl rfl rfl rfl (Nat.le_of_ble_eq_true rfl) dX11_expression_146 rfl (fun r_ es_ h_ l_ => ?_)
    obtain ⟨rfl, rfl⟩ := h_
    show Aw X [mo, a 0, a 4, a 5, a 6, a 13, a 42] [ob 11 (.ref (a 0) :: .int (nI tn) :: .int (xFk ((xUnit tp tn nm tr z).2)) :: .int (xFp ((xUnit tp tn nm tr z).2)) :: .ref (a 4) :: .ref (a 5) :: .ref (a 6) :: .ref (a 7) :: .ref (a 8) :: .ref (a 9) :: .ref (a 10) :: .ref (a 11) :: .ref (a 12) :: .ref (a 13) :: .int (nI tr) :: .int (nI fm) :: .int ck :: .int te :: .int (nI fn) :: .ref (a 19) :: .ref (a 20) :: .ref (a 21) :: .ref (a 22) :: .ref (a 23) :: .ref (a 24) :: .ref (a 25) :: .ref (a 26) :: .ref (a 27) :: .int (b2 hp) :: .int yn :: .int (b2 ir) :: .ref (a 31) :: .int rc :: .ref (a 33) :: .int (nI mv) :: .int (xKd ((xUnit tp tn nm tr z).2)) :: .int (nI (xBg ((xUnit tp tn nm tr z).2))) :: .int (nI (xEn ((xUnit tp tn nm tr z).2))) :: .int (xMk ((xUnit tp tn nm tr z).2)) :: .long (xLe ((xUnit tp tn nm tr z).2)) :: .int (nI (xTk ((xUnit tp tn nm tr z).2))) :: .int (nI (xOp ((xUnit tp tn nm tr z).2))) :: .ref (a 42) :: .int (nI wn) :: .ref (a 44) :: .int (nI jn) :: .ref (a 46) :: .ref (a 47) :: .ref (a 48) :: .ref (a 49) :: .ref (a 50) :: .ref (a 51) :: .int (b2 ke) :: .ref (a 53) :: .ref (a 54) :: .ref (a 55) :: .int (nI cq) :: .int (nI cm) :: []), aB (CxD X) 3000 tp, aI (CxD X) 3900 (xOr ((xUnit tp tn nm tr z).2)), aI (CxD X) 3900 (xNu ((xUnit tp tn nm tr z).2)), aI (CxD X) 3 (nf (xOg ((xUnit tp tn nm tr z).2))), aJ (CxD X) 8 nm, aI (CxD X) 40 wt] 149 [(0, .ref mo), (1, .int (nI r.length)), (2, .int 0), (4, .int (b2 (xIsS z 40)))] [.int (b2 ((xUnit tp tn nm tr z).1))]
    refine r_if_ne_b (tgt := 154) (n := 152) hX dX11_expression_149 (by decide) rfl (fun c149 => ?_) (fun c149 => ?_)
    · skip
      refine Aw.loc (lv' := [(0, .ref mo), (1, .int (nI r.length)), (2, .int 0)]) [0, 1, 2] rfl ?_
      have q := hi0.mode0 c149
      exact ih0 l r _ wt wn q.1 (by omega) (by rw [← hf]; simp only [xM0, xM1, xM2, xB, xP, c78, c149, if_true, if_false, Bool.false_eq_true])
    · skip
      refine r_iconst (n := 153) hX 0 dX11_expression_152 rfl rfl ?_
      exact r_zreturn hX hR rfl dX11_expression_153 (by have e : R = (false, (xUnit tp tn nm tr z).2) := (by rw [← hf]; simp only [xM0, xM1, xM2, xB, xP, c78, c149, if_true, if_false, Bool.false_eq_true]); rw [e]; exact ⟨rfl, _, _, rfl⟩)
  · skip
    refine r_aload_n (n := 82) hX dX11_expression_81 rfl rfl 0 rfl ?_
    refine r_get (n := 85) hX 0 rfl rfl rfl 41 (by decide) lay_X11 fl_X11_218 rfl dX11_expression_82 rfl ?_
    refine r_bipush (n := 87) hX 8 dX11_expression_85 rfl rfl ?_
    refine r_icmp_ne_n (tgt := 100) (n := 90) hX (xOp z) 8 (by omega) (by omega) dX11_expression_87 (by decide) rfl (fun c87 => ?_) (fun c87 => ?_)
    · skip
      refine r_aload_n (n := 101) hX dX11_expression_100 rfl rfl 0 rfl ?_
      refine r_dup (n := 102) hX dX11_expression_101 rfl rfl ?_
      refine r_get (n := 105) hX 0 rfl rfl rfl 41 (by decide) lay_X11 fl_X11_218 rfl dX11_expression_102 rfl ?_
      refine r_iconst (n := 106) hX 1 dX11_expression_105 rfl rfl ?_
      refine r_iadd (n := 107) hX dX11_expression_106 rfl ?_
      refine Aw.topi (nI ((xOp z) + 1)) (nI_add _ _) ?_
      refine r_put (n := 110) hX 0 rfl rfl rfl 41 [ob 11 (.ref (a 0) :: .int (nI tn) :: .int (xFk z) :: .int (xFp z) :: .ref (a 4) :: .ref (a 5) :: .ref (a 6) :: .ref (a 7) :: .ref (a 8) :: .ref (a 9) :: .ref (a 10) :: .ref (a 11) :: .ref (a 12) :: .ref (a 13) :: .int (nI tr) :: .int (nI fm) :: .int ck :: .int te :: .int (nI fn) :: .ref (a 19) :: .ref (a 20) :: .ref (a 21) :: .ref (a 22) :: .ref (a 23) :: .ref (a 24) :: .ref (a 25) :: .ref (a 26) :: .ref (a 27) :: .int (b2 hp) :: .int yn :: .int (b2 ir) :: .ref (a 31) :: .int rc :: .ref (a 33) :: .int (nI mv) :: .int (xKd z) :: .int (nI (xBg z)) :: .int (nI (xEn z)) :: .int (xMk z) :: .long (xLe z) :: .int (nI (xTk z)) :: .int (nI ((xOp z) + 1)) :: .ref (a 42) :: .int (nI wn) :: .ref (a 44) :: .int (nI jn) :: .ref (a 46) :: .ref (a 47) :: .ref (a 48) :: .ref (a 49) :: .ref (a 50) :: .ref (a 51) :: .int (b2 ke) :: .ref (a 53) :: .ref (a 54) :: .ref (a 55) :: .int (nI cq) :: .int (nI cm) :: []), aB (CxD X) 3000 tp, aI (CxD X) 3900 (xOr z), aI (CxD X) 3900 (xNu z), aI (CxD X) 3 (nf (xOg z)), aJ (CxD X) 8 nm, aI (CxD X) 40 wt] (by decide) lay_X11 tyX11 tyX11_ok nmX11 fl_X11_218 rfl rfl rfl (Nat.le_of_ble_eq_true rfl) rfl dX11_expression_107 rfl ?_
      refine r_iinc (n := 113) hX (nI (r.length + 1)) [(0, .ref mo), (1, .int (nI (r.length + 1))), (2, .int 0), (4, .int (b2 (xIsS z 40)))] dX11_expression_110 rfl 1 rfl (nI_add _ _) (by decide) rfl ?_
      refine r_aload_n (n := 114) hX dX11_expression_113 rfl rfl 0 rfl ?_
      refine r_get (n := 117) hX 0 rfl rfl rfl 42 (by decide) lay_X11 fl_X11_83 rfl dX11_expression_114 rfl ?_
      refine r_aload_n (n := 118) hX dX11_expression_117 rfl rfl 0 rfl ?_
      refine r_get (n := 121) hX 0 rfl rfl rfl 43 (by decide) lay_X11 fl_X11_196 rfl dX11_expression_118 rfl ?_
      refine r_bipush (n := 123) hX 40 dX11_expression_121 rfl rfl ?_
      refine r_iastn (n := 124) (i := wn) hX 6 rfl rfl [ob 11 (.ref (a 0) :: .int (nI tn) :: .int (xFk z) :: .int (xFp z) :: .ref (a 4) :: .ref (a 5) :: .ref (a 6) :: .ref (a 7) :: .ref (a 8) :: .ref (a 9) :: .ref (a 10) :: .ref (a 11) :: .ref (a 12) :: .ref (a 13) :: .int (nI tr) :: .int (nI fm) :: .int ck :: .int te :: .int (nI fn) :: .ref (a 19) :: .ref (a 20) :: .ref (a 21) :: .ref (a 22) :: .ref (a 23) :: .ref (a 24) :: .ref (a 25) :: .ref (a 26) :: .ref (a 27) :: .int (b2 hp) :: .int yn :: .int (b2 ir) :: .ref (a 31) :: .int rc :: .ref (a 33) :: .int (nI mv) :: .int (xKd z) :: .int (nI (xBg z)) :: .int (nI (xEn z)) :: .int (xMk z) :: .long (xLe z) :: .int (nI (xTk z)) :: .int (nI ((xOp z) + 1)) :: .ref (a 42) :: .int (nI wn) :: .ref (a 44) :: .int (nI jn) :: .ref (a 46) :: .ref (a 47) :: .ref (a 48) :: .ref (a 49) :: .ref (a 50) :: .ref (a 51) :: .int (b2 ke) :: .ref (a 53) :: .ref (a 54) :: .ref (a 55) :: .int (nI cq) :: .int (nI cm) :: []), aB (CxD X) 3000 tp, aI (CxD X) 3900 (xOr z), aI (CxD X) 3900 (xNu z), aI (CxD X) 3 (nf (xOg z)), aJ (CxD X) 8 nm, aI (CxD X) 40 (upd wt wn 40)] (by omega) (by decide) rfl dX11_expression_123 rfl ?_
      refine r_aload_n (n := 125) hX dX11_expression_124 rfl rfl 0 rfl ?_
      refine r_dup (n := 126) hX dX11_expression_125 rfl rfl ?_
      refine r_get (n := 129) hX 0 rfl rfl rfl 43 (by decide) lay_X11 fl_X11_196 rfl dX11_expression_126 rfl ?_
      refine r_iconst (n := 130) hX 1 dX11_expression_129 rfl rfl ?_
      refine r_iadd (n := 131) hX dX11_expression_130 rfl ?_
      refine Aw.topi (nI (wn + 1)) (nI_add _ _) ?_
      refine r_put (n := 134) hX 0 rfl rfl rfl 43 [ob 11 (.ref (a 0) :: .int (nI tn) :: .int (xFk z) :: .int (xFp z) :: .ref (a 4) :: .ref (a 5) :: .ref (a 6) :: .ref (a 7) :: .ref (a 8) :: .ref (a 9) :: .ref (a 10) :: .ref (a 11) :: .ref (a 12) :: .ref (a 13) :: .int (nI tr) :: .int (nI fm) :: .int ck :: .int te :: .int (nI fn) :: .ref (a 19) :: .ref (a 20) :: .ref (a 21) :: .ref (a 22) :: .ref (a 23) :: .ref (a 24) :: .ref (a 25) :: .ref (a 26) :: .ref (a 27) :: .int (b2 hp) :: .int yn :: .int (b2 ir) :: .ref (a 31) :: .int rc :: .ref (a 33) :: .int (nI mv) :: .int (xKd z) :: .int (nI (xBg z)) :: .int (nI (xEn z)) :: .int (xMk z) :: .long (xLe z) :: .int (nI (xTk z)) :: .int (nI ((xOp z) + 1)) :: .ref (a 42) :: .int (nI (wn + 1)) :: .ref (a 44) :: .int (nI jn) :: .ref (a 46) :: .ref (a 47) :: .ref (a 48) :: .ref (a 49) :: .ref (a 50) :: .ref (a 51) :: .int (b2 ke) :: .ref (a 53) :: .ref (a 54) :: .ref (a 55) :: .int (nI cq) :: .int (nI cm) :: []), aB (CxD X) 3000 tp, aI (CxD X) 3900 (xOr z), aI (CxD X) 3900 (xNu z), aI (CxD X) 3 (nf (xOg z)), aJ (CxD X) 8 nm, aI (CxD X) 40 (upd wt wn 40)] (by decide) lay_X11 tyX11 tyX11_ok nmX11 fl_X11_196 rfl rfl rfl (Nat.le_of_ble_eq_true rfl) rfl dX11_expression_131 rfl ?_
      refine r_iconst (n := 135) hX 1 dX11_expression_134 rfl rfl ?_
      refine r_istore_n (n := 136) hX [(0, .ref mo), (1, .int (nI (r.length + 1))), (2, .int 1), (4, .int (b2 (xIsS z 40)))] dX11_expression_135 rfl rfl (by decide) rfl ?_
      skip
      refine r_aload_n (n := 137) hX dX11_expression_136 rfl rfl 0 rfl ?_
      refine r_callV (n := 140) (av := []) hX (ct_X11_pass (CxL X) (CxD X) mo a tn tr fm fn mv cq cm ck te yn rc hp ir ke (wn + 1) jn tp (xUp z) ht hok) ml_X11_189 cv_X11_pass rfl (by decide) [0, 1, 2, 3, 4] rfl rfl (by decide) 0 rfl rfl rfl rfl rfl (Nat.le_of_ble_eq_true rfl) dX11_expression_137 rfl (fun r_ es_ h_ l_ => ?_)
      obtain ⟨rfl, rfl⟩ := h_
      show Aw X [mo, a 0, a 4, a 5, a 6, a 13, a 42] [ob 11 (.ref (a 0) :: .int (nI tn) :: .int (xFk (xPass tp tn (xUp z))) :: .int (xFp (xPass tp tn (xUp z))) :: .ref (a 4) :: .ref (a 5) :: .ref (a 6) :: .ref (a 7) :: .ref (a 8) :: .ref (a 9) :: .ref (a 10) :: .ref (a 11) :: .ref (a 12) :: .ref (a 13) :: .int (nI tr) :: .int (nI fm) :: .int ck :: .int te :: .int (nI fn) :: .ref (a 19) :: .ref (a 20) :: .ref (a 21) :: .ref (a 22) :: .ref (a 23) :: .ref (a 24) :: .ref (a 25) :: .ref (a 26) :: .ref (a 27) :: .int (b2 hp) :: .int yn :: .int (b2 ir) :: .ref (a 31) :: .int rc :: .ref (a 33) :: .int (nI mv) :: .int (xKd (xPass tp tn (xUp z))) :: .int (nI (xBg (xPass tp tn (xUp z)))) :: .int (nI (xEn (xPass tp tn (xUp z)))) :: .int (xMk (xPass tp tn (xUp z))) :: .long (xLe (xPass tp tn (xUp z))) :: .int (nI (xTk (xPass tp tn (xUp z)))) :: .int (nI (xOp (xPass tp tn (xUp z)))) :: .ref (a 42) :: .int (nI (wn + 1)) :: .ref (a 44) :: .int (nI jn) :: .ref (a 46) :: .ref (a 47) :: .ref (a 48) :: .ref (a 49) :: .ref (a 50) :: .ref (a 51) :: .int (b2 ke) :: .ref (a 53) :: .ref (a 54) :: .ref (a 55) :: .int (nI cq) :: .int (nI cm) :: []), aB (CxD X) 3000 tp, aI (CxD X) 3900 (xOr (xPass tp tn (xUp z))), aI (CxD X) 3900 (xNu (xPass tp tn (xUp z))), aI (CxD X) 3 (nf (xOg (xPass tp tn (xUp z)))), aJ (CxD X) 8 nm, aI (CxD X) 40 (upd wt wn 40)] 140 [(0, .ref mo), (1, .int (nI (r.length + 1))), (2, .int 1), (4, .int (b2 (xIsS z 40)))] [.int (b2 (xPassB (xUp z)))]
      refine r_if_ne_b (tgt := 18) (n := 143) hX dX11_expression_140 (by decide) rfl (fun c140 => ?_) (fun c140 => ?_)
      · skip
        refine Aw.eqs (lv' := [(0, .ref mo), (1, .int (nI (r.length + 1))), (2, .int 1), (4, .int 1)]) rfl (by rw [c78]; rfl) rfl ?_
        have q := hi0.open_ (tp := tp) c87 c140
        exact ih2 (none, false) (l :: r) _ _ _ q.1 (by omega) rfl (by rw [← hf]; simp only [xM0, xM1, xM2, xB, xP, c78, c87, c140, if_true, if_false, Bool.false_eq_true])
      · skip
        refine r_iconst (n := 144) hX 0 dX11_expression_143 rfl rfl ?_
        exact r_zreturn hX hR rfl dX11_expression_144 (by have e : R = (false, (xPass tp tn (xUp z))) := (by rw [← hf]; simp only [xM0, xM1, xM2, xB, xP, c78, c87, c140, if_true, if_false, Bool.false_eq_true]); rw [e]; exact ⟨rfl, _, _, rfl⟩)
    · skip
      refine r_aload_n (n := 91) hX dX11_expression_90 rfl rfl 0 rfl ?_
      refine r_iconst (n := 92) hX 2 dX11_expression_91 rfl rfl ?_
      refine r_aload_n (n := 93) hX dX11_expression_92 rfl rfl 0 rfl ?_
      refine r_get (n := 96) hX 0 rfl rfl rfl 36 (by decide) lay_X11 fl_X11_149 rfl dX11_expression_93 rfl ?_
      refine r_callV (n := 99) (av := [.int 2, .int (nI (xBg z))]) hX (ct_X11_stop (CxL X) (CxD X) mo a tn tr fm fn mv (xBg z) (xEn z) (xTk z) (xOp z) wn jn cq cm (xFk z) (xFp z) ck te yn rc (xKd z) (xMk z) (xLe z) hp ir ke 2 (nI (xBg z))) ml_X11_179 cv_X11_stop rfl (by decide) [0] rfl rfl (by decide) 0 rfl rfl rfl rfl rfl (Nat.le_of_ble_eq_true rfl) dX11_expression_96 rfl (fun r_ es_ h_ l_ => ?_)
      obtain ⟨rfl, rfl⟩ := h_
      show Aw X [mo, a 0, a 4, a 5, a 6, a 13, a 42] [ob 11 (.ref (a 0) :: .int (nI tn) :: .int (xFk (xStop z 2)) :: .int (xFp (xStop z 2)) :: .ref (a 4) :: .ref (a 5) :: .ref (a 6) :: .ref (a 7) :: .ref (a 8) :: .ref (a 9) :: .ref (a 10) :: .ref (a 11) :: .ref (a 12) :: .ref (a 13) :: .int (nI tr) :: .int (nI fm) :: .int ck :: .int te :: .int (nI fn) :: .ref (a 19) :: .ref (a 20) :: .ref (a 21) :: .ref (a 22) :: .ref (a 23) :: .ref (a 24) :: .ref (a 25) :: .ref (a 26) :: .ref (a 27) :: .int (b2 hp) :: .int yn :: .int (b2 ir) :: .ref (a 31) :: .int rc :: .ref (a 33) :: .int (nI mv) :: .int (xKd (xStop z 2)) :: .int (nI (xBg (xStop z 2))) :: .int (nI (xEn (xStop z 2))) :: .int (xMk (xStop z 2)) :: .long (xLe (xStop z 2)) :: .int (nI (xTk (xStop z 2))) :: .int (nI (xOp (xStop z 2))) :: .ref (a 42) :: .int (nI wn) :: .ref (a 44) :: .int (nI jn) :: .ref (a 46) :: .ref (a 47) :: .ref (a 48) :: .ref (a 49) :: .ref (a 50) :: .ref (a 51) :: .int (b2 ke) :: .ref (a 53) :: .ref (a 54) :: .ref (a 55) :: .int (nI cq) :: .int (nI cm) :: []), aB (CxD X) 3000 tp, aI (CxD X) 3900 (xOr (xStop z 2)), aI (CxD X) 3900 (xNu (xStop z 2)), aI (CxD X) 3 (nf (xOg (xStop z 2))), aJ (CxD X) 8 nm, aI (CxD X) 40 wt] 99 [(0, .ref mo), (1, .int (nI r.length)), (2, .int 0), (4, .int (b2 (xIsS z 40)))] [.int (b2 false)]
      exact r_zreturn hX hR rfl dX11_expression_99 (by have e : R = (false, (xStop z 2)) := (by rw [← hf]; simp only [xM0, xM1, xM2, xB, xP, c78, c87, if_true, if_false, Bool.false_eq_true]); rw [e]; exact ⟨rfl, _, _, rfl⟩)
set_option maxHeartbeats 1000000 in
set_option maxRecDepth 100000 in
theorem q18 {X : Cx} (hX : Ok X cX11_expression 6 RX11 6) (mo : Nat) (a : Nat → Nat) (tn tr fm fn mv cq cm : Nat) (ck te yn rc : Int32) (hp ir ke : Bool) (jn : Nat) (tp : Nat → Int32) (nm : Nat → Int64) (ht : tn ≤ 3000) (htr : tr ≤ 8) (R : Bool × XZ) (m : Nat) (ih0 : ∀ (l : LV) (r : List LV) (z : XZ) (wt : Nat → Int32) (wn : Nat), XInv tn l r z wt wn → 602 ≤ xTk z + m → xM tp tn nm tr m 0 l r z = R → Aw X [mo, a 0, a 4, a 5, a 6, a 13, a 42] [ob 11 (.ref (a 0) :: .int (nI tn) :: .int (xFk z) :: .int (xFp z) :: .ref (a 4) :: .ref (a 5) :: .ref (a 6) :: .ref (a 7) :: .ref (a 8) :: .ref (a 9) :: .ref (a 10) :: .ref (a 11) :: .ref (a 12) :: .ref (a 13) :: .int (nI tr) :: .int (nI fm) :: .int ck :: .int te :: .int (nI fn) :: .ref (a 19) :: .ref (a 20) :: .ref (a 21) :: .ref (a 22) :: .ref (a 23) :: .ref (a 24) :: .ref (a 25) :: .ref (a 26) :: .ref (a 27) :: .int (b2 hp) :: .int yn :: .int (b2 ir) :: .ref (a 31) :: .int rc :: .ref (a 33) :: .int (nI mv) :: .int (xKd z) :: .int (nI (xBg z)) :: .int (nI (xEn z)) :: .int (xMk z) :: .long (xLe z) :: .int (nI (xTk z)) :: .int (nI (xOp z)) :: .ref (a 42) :: .int (nI wn) :: .ref (a 44) :: .int (nI jn) :: .ref (a 46) :: .ref (a 47) :: .ref (a 48) :: .ref (a 49) :: .ref (a 50) :: .ref (a 51) :: .int (b2 ke) :: .ref (a 53) :: .ref (a 54) :: .ref (a 55) :: .int (nI cq) :: .int (nI cm) :: []), aB (CxD X) 3000 tp, aI (CxD X) 3900 (xOr z), aI (CxD X) 3900 (xNu z), aI (CxD X) 3 (nf (xOg z)), aJ (CxD X) 8 nm, aI (CxD X) 40 wt] 154 [(0, .ref mo), (1, .int (nI r.length)), (2, .int 0)] []) (ih1 : ∀ (l : LV) (r : List LV) (z : XZ) (wt : Nat → Int32) (wn : Nat), XInv tn l r z wt wn → 602 ≤ xTk z + m → xM tp tn nm tr m 1 l r z = R → Aw X [mo, a 0, a 4, a 5, a 6, a 13, a 42] [ob 11 (.ref (a 0) :: .int (nI tn) :: .int (xFk z) :: .int (xFp z) :: .ref (a 4) :: .ref (a 5) :: .ref (a 6) :: .ref (a 7) :: .ref (a 8) :: .ref (a 9) :: .ref (a 10) :: .ref (a 11) :: .ref (a 12) :: .ref (a 13) :: .int (nI tr) :: .int (nI fm) :: .int ck :: .int te :: .int (nI fn) :: .ref (a 19) :: .ref (a 20) :: .ref (a 21) :: .ref (a 22) :: .ref (a 23) :: .ref (a 24) :: .ref (a 25) :: .ref (a 26) :: .ref (a 27) :: .int (b2 hp) :: .int yn :: .int (b2 ir) :: .ref (a 31) :: .int rc :: .ref (a 33) :: .int (nI mv) :: .int (xKd z) :: .int (nI (xBg z)) :: .int (nI (xEn z)) :: .int (xMk z) :: .long (xLe z) :: .int (nI (xTk z)) :: .int (nI (xOp z)) :: .ref (a 42) :: .int (nI wn) :: .ref (a 44) :: .int (nI jn) :: .ref (a 46) :: .ref (a 47) :: .ref (a 48) :: .ref (a 49) :: .ref (a 50) :: .ref (a 51) :: .int (b2 ke) :: .ref (a 53) :: .ref (a 54) :: .ref (a 55) :: .int (nI cq) :: .int (nI cm) :: []), aB (CxD X) 3000 tp, aI (CxD X) 3900 (xOr z), aI (CxD X) 3900 (xNu z), aI (CxD X) 3 (nf (xOg z)), aJ (CxD X) 8 nm, aI (CxD X) 40 wt] 66 [(0, .ref mo), (1, .int (nI r.length))] []) (ih2 : ∀ (l : LV) (r : List LV) (z : XZ) (wt : Nat → Int32) (wn : Nat), XInv tn l r z wt wn → 602 ≤ xTk z + m → l = (none, false) → xM tp tn nm tr m 2 l r z = R → Aw X [mo, a 0, a 4, a 5, a 6, a 13, a 42] [ob 11 (.ref (a 0) :: .int (nI tn) :: .int (xFk z) :: .int (xFp z) :: .ref (a 4) :: .ref (a 5) :: .ref (a 6) :: .ref (a 7) :: .ref (a 8) :: .ref (a 9) :: .ref (a 10) :: .ref (a 11) :: .ref (a 12) :: .ref (a 13) :: .int (nI tr) :: .int (nI fm) :: .int ck :: .int te :: .int (nI fn) :: .ref (a 19) :: .ref (a 20) :: .ref (a 21) :: .ref (a 22) :: .ref (a 23) :: .ref (a 24) :: .ref (a 25) :: .ref (a 26) :: .ref (a 27) :: .int (b2 hp) :: .int yn :: .int (b2 ir) :: .ref (a 31) :: .int rc :: .ref (a 33) :: .int (nI mv) :: .int (xKd z) :: .int (nI (xBg z)) :: .int (nI (xEn z)) :: .int (xMk z) :: .long (xLe z) :: .int (nI (xTk z)) :: .int (nI (xOp z)) :: .ref (a 42) :: .int (nI wn) :: .ref (a 44) :: .int (nI jn) :: .ref (a 46) :: .ref (a 47) :: .ref (a 48) :: .ref (a 49) :: .ref (a 50) :: .ref (a 51) :: .int (b2 ke) :: .ref (a 53) :: .ref (a 54) :: .ref (a 55) :: .int (nI cq) :: .int (nI cm) :: []), aB (CxD X) 3000 tp, aI (CxD X) 3900 (xOr z), aI (CxD X) 3900 (xNu z), aI (CxD X) 3 (nf (xOg z)), aJ (CxD X) 8 nm, aI (CxD X) 40 wt] 18 [(0, .ref mo), (1, .int (nI r.length)), (2, .int 1), (4, .int 1)] []) (l : LV) (r : List LV) (z : XZ) (wt : Nat → Int32) (wn : Nat) (hi : XInv tn l r z wt wn) (hm : 602 ≤ xTk z + (m + 1)) (hl0 : l = (none, false)) (hf : xM2 tp tn nm tr (xM tp tn nm tr m) l r z = R) (hR : Rt X (some FieldType.boolean) (fun r es' => r = some (.int (b2 R.1)) ∧ ∃ (wt : Nat → Int32) (wn : Nat), es' = [ob 11 (.ref (a 0) :: .int (nI tn) :: .int (xFk R.2) :: .int (xFp R.2) :: .ref (a 4) :: .ref (a 5) :: .ref (a 6) :: .ref (a 7) :: .ref (a 8) :: .ref (a 9) :: .ref (a 10) :: .ref (a 11) :: .ref (a 12) :: .ref (a 13) :: .int (nI tr) :: .int (nI fm) :: .int ck :: .int te :: .int (nI fn) :: .ref (a 19) :: .ref (a 20) :: .ref (a 21) :: .ref (a 22) :: .ref (a 23) :: .ref (a 24) :: .ref (a 25) :: .ref (a 26) :: .ref (a 27) :: .int (b2 hp) :: .int yn :: .int (b2 ir) :: .ref (a 31) :: .int rc :: .ref (a 33) :: .int (nI mv) :: .int (xKd R.2) :: .int (nI (xBg R.2)) :: .int (nI (xEn R.2)) :: .int (xMk R.2) :: .long (xLe R.2) :: .int (nI (xTk R.2)) :: .int (nI (xOp R.2)) :: .ref (a 42) :: .int (nI wn) :: .ref (a 44) :: .int (nI jn) :: .ref (a 46) :: .ref (a 47) :: .ref (a 48) :: .ref (a 49) :: .ref (a 50) :: .ref (a 51) :: .int (b2 ke) :: .ref (a 53) :: .ref (a 54) :: .ref (a 55) :: .int (nI cq) :: .int (nI cm) :: []), aB (CxD X) 3000 tp, aI (CxD X) 3900 (xOr R.2), aI (CxD X) 3900 (xNu R.2), aI (CxD X) 3 (nf (xOg R.2)), aJ (CxD X) 8 nm, aI (CxD X) 40 wt]) [mo, a 0, a 4, a 5, a 6, a 13, a 42]) : Aw X [mo, a 0, a 4, a 5, a 6, a 13, a 42] [ob 11 (.ref (a 0) :: .int (nI tn) :: .int (xFk z) :: .int (xFp z) :: .ref (a 4) :: .ref (a 5) :: .ref (a 6) :: .ref (a 7) :: .ref (a 8) :: .ref (a 9) :: .ref (a 10) :: .ref (a 11) :: .ref (a 12) :: .ref (a 13) :: .int (nI tr) :: .int (nI fm) :: .int ck :: .int te :: .int (nI fn) :: .ref (a 19) :: .ref (a 20) :: .ref (a 21) :: .ref (a 22) :: .ref (a 23) :: .ref (a 24) :: .ref (a 25) :: .ref (a 26) :: .ref (a 27) :: .int (b2 hp) :: .int yn :: .int (b2 ir) :: .ref (a 31) :: .int rc :: .ref (a 33) :: .int (nI mv) :: .int (xKd z) :: .int (nI (xBg z)) :: .int (nI (xEn z)) :: .int (xMk z) :: .long (xLe z) :: .int (nI (xTk z)) :: .int (nI (xOp z)) :: .ref (a 42) :: .int (nI wn) :: .ref (a 44) :: .int (nI jn) :: .ref (a 46) :: .ref (a 47) :: .ref (a 48) :: .ref (a 49) :: .ref (a 50) :: .ref (a 51) :: .int (b2 ke) :: .ref (a 53) :: .ref (a 54) :: .ref (a 55) :: .int (nI cq) :: .int (nI cm) :: []), aB (CxD X) 3000 tp, aI (CxD X) 3900 (xOr z), aI (CxD X) 3900 (xNu z), aI (CxD X) 3 (nf (xOg z)), aJ (CxD X) 8 nm, aI (CxD X) 40 wt] 18 [(0, .ref mo), (1, .int (nI r.length)), (2, .int 1), (4, .int 1)] [] := by
  subst hl0
  have hw := hi.wn
  have hog := hi.og
  have hi0 := hi
  obtain ⟨hok, hS, hl, hls, hro, ho8, hgt⟩ := hi
  have ht1 := hok.2
  refine r_iload (n := 20) hX dX11_expression_18 rfl 3 rfl ?_
  refine r_if_eq (tgt := 145) (n := 23) hX dX11_expression_20 (by decide) rfl (fun h => False.elim (by revert h; decide)) (fun _ => ?_)
  refine r_iload_n (n := 24) hX dX11_expression_23 rfl rfl 2 rfl ?_
  refine r_if_eq (tgt := 66) (n := 27) hX dX11_expression_24 (by decide) rfl (fun h => False.elim (by revert h; decide)) (fun _ => ?_)
  refine r_aload_n (n := 28) hX dX11_expression_27 rfl rfl 0 rfl ?_
  refine r_bipush (n := 30) hX 45 dX11_expression_28 rfl rfl ?_
  refine r_callV (n := 33) (av := [.int 45]) hX (ct_X11_isSign (CxL X) (CxD X) mo a tn tr fm fn mv (xBg z) (xEn z) (xTk z) (xOp z) wn jn cq cm (xFk z) (xFp z) ck te yn rc (xKd z) (xMk z) (xLe z) hp ir ke 45) ml_X11_186 cv_X11_isSign rfl (by decide) [0] rfl rfl (by decide) 0 rfl rfl rfl rfl rfl (Nat.le_of_ble_eq_true rfl) dX11_expression_30 rfl (fun r_ es_ h_ l_ => ?_)
  obtain ⟨rfl, rfl⟩ := h_
  show Aw X [mo, a 0, a 4, a 5, a 6, a 13, a 42] [ob 11 (.ref (a 0) :: .int (nI tn) :: .int (xFk z) :: .int (xFp z) :: .ref (a 4) :: .ref (a 5) :: .ref (a 6) :: .ref (a 7) :: .ref (a 8) :: .ref (a 9) :: .ref (a 10) :: .ref (a 11) :: .ref (a 12) :: .ref (a 13) :: .int (nI tr) :: .int (nI fm) :: .int ck :: .int te :: .int (nI fn) :: .ref (a 19) :: .ref (a 20) :: .ref (a 21) :: .ref (a 22) :: .ref (a 23) :: .ref (a 24) :: .ref (a 25) :: .ref (a 26) :: .ref (a 27) :: .int (b2 hp) :: .int yn :: .int (b2 ir) :: .ref (a 31) :: .int rc :: .ref (a 33) :: .int (nI mv) :: .int (xKd z) :: .int (nI (xBg z)) :: .int (nI (xEn z)) :: .int (xMk z) :: .long (xLe z) :: .int (nI (xTk z)) :: .int (nI (xOp z)) :: .ref (a 42) :: .int (nI wn) :: .ref (a 44) :: .int (nI jn) :: .ref (a 46) :: .ref (a 47) :: .ref (a 48) :: .ref (a 49) :: .ref (a 50) :: .ref (a 51) :: .int (b2 ke) :: .ref (a 53) :: .ref (a 54) :: .ref (a 55) :: .int (nI cq) :: .int (nI cm) :: []), aB (CxD X) 3000 tp, aI (CxD X) 3900 (xOr z), aI (CxD X) 3900 (xNu z), aI (CxD X) 3 (nf (xOg z)), aJ (CxD X) 8 nm, aI (CxD X) 40 wt] 33 [(0, .ref mo), (1, .int (nI r.length)), (2, .int 1), (4, .int 1)] [.int (b2 (xIsS z 45))]
  refine r_if_eq_b (tgt := 66) (n := 36) hX dX11_expression_33 (by decide) rfl (fun c33 => ?_) (fun c33 => ?_)
  · skip
    refine Aw.loc (lv' := [(0, .ref mo), (1, .int (nI r.length))]) [0, 1] rfl ?_
    exact q66 hX mo a tn tr fm fn mv cq cm ck te yn rc hp ir ke jn tp nm ht htr R m ih0 ih2 (none, false) r z wt wn hi0 hm (by rw [← hf]; simp only [xM2, c33, if_false, Bool.false_eq_true]) hR
  · skip
    refine r_aload_n (n := 37) hX dX11_expression_36 rfl rfl 0 rfl ?_
    refine r_get (n := 40) hX 0 rfl rfl rfl 42 (by decide) lay_X11 fl_X11_83 rfl dX11_expression_37 rfl ?_
    refine r_aload_n (n := 41) hX dX11_expression_40 rfl rfl 0 rfl ?_
    refine r_get (n := 44) hX 0 rfl rfl rfl 43 (by decide) lay_X11 fl_X11_196 rfl dX11_expression_41 rfl ?_
    refine r_bipush (n := 46) hX 110 dX11_expression_44 rfl rfl ?_
    refine r_iastn (n := 47) (i := wn) hX 6 rfl rfl [ob 11 (.ref (a 0) :: .int (nI tn) :: .int (xFk z) :: .int (xFp z) :: .ref (a 4) :: .ref (a 5) :: .ref (a 6) :: .ref (a 7) :: .ref (a 8) :: .ref (a 9) :: .ref (a 10) :: .ref (a 11) :: .ref (a 12) :: .ref (a 13) :: .int (nI tr) :: .int (nI fm) :: .int ck :: .int te :: .int (nI fn) :: .ref (a 19) :: .ref (a 20) :: .ref (a 21) :: .ref (a 22) :: .ref (a 23) :: .ref (a 24) :: .ref (a 25) :: .ref (a 26) :: .ref (a 27) :: .int (b2 hp) :: .int yn :: .int (b2 ir) :: .ref (a 31) :: .int rc :: .ref (a 33) :: .int (nI mv) :: .int (xKd z) :: .int (nI (xBg z)) :: .int (nI (xEn z)) :: .int (xMk z) :: .long (xLe z) :: .int (nI (xTk z)) :: .int (nI (xOp z)) :: .ref (a 42) :: .int (nI wn) :: .ref (a 44) :: .int (nI jn) :: .ref (a 46) :: .ref (a 47) :: .ref (a 48) :: .ref (a 49) :: .ref (a 50) :: .ref (a 51) :: .int (b2 ke) :: .ref (a 53) :: .ref (a 54) :: .ref (a 55) :: .int (nI cq) :: .int (nI cm) :: []), aB (CxD X) 3000 tp, aI (CxD X) 3900 (xOr z), aI (CxD X) 3900 (xNu z), aI (CxD X) 3 (nf (xOg z)), aJ (CxD X) 8 nm, aI (CxD X) 40 (upd wt wn 110)] (by omega) (by decide) rfl dX11_expression_46 rfl ?_
    refine r_aload_n (n := 48) hX dX11_expression_47 rfl rfl 0 rfl ?_
    refine r_dup (n := 49) hX dX11_expression_48 rfl rfl ?_
    refine r_get (n := 52) hX 0 rfl rfl rfl 43 (by decide) lay_X11 fl_X11_196 rfl dX11_expression_49 rfl ?_
    refine r_iconst (n := 53) hX 1 dX11_expression_52 rfl rfl ?_
    refine r_iadd (n := 54) hX dX11_expression_53 rfl ?_
    refine Aw.topi (nI (wn + 1)) (nI_add _ _) ?_
    refine r_put (n := 57) hX 0 rfl rfl rfl 43 [ob 11 (.ref (a 0) :: .int (nI tn) :: .int (xFk z) :: .int (xFp z) :: .ref (a 4) :: .ref (a 5) :: .ref (a 6) :: .ref (a 7) :: .ref (a 8) :: .ref (a 9) :: .ref (a 10) :: .ref (a 11) :: .ref (a 12) :: .ref (a 13) :: .int (nI tr) :: .int (nI fm) :: .int ck :: .int te :: .int (nI fn) :: .ref (a 19) :: .ref (a 20) :: .ref (a 21) :: .ref (a 22) :: .ref (a 23) :: .ref (a 24) :: .ref (a 25) :: .ref (a 26) :: .ref (a 27) :: .int (b2 hp) :: .int yn :: .int (b2 ir) :: .ref (a 31) :: .int rc :: .ref (a 33) :: .int (nI mv) :: .int (xKd z) :: .int (nI (xBg z)) :: .int (nI (xEn z)) :: .int (xMk z) :: .long (xLe z) :: .int (nI (xTk z)) :: .int (nI (xOp z)) :: .ref (a 42) :: .int (nI (wn + 1)) :: .ref (a 44) :: .int (nI jn) :: .ref (a 46) :: .ref (a 47) :: .ref (a 48) :: .ref (a 49) :: .ref (a 50) :: .ref (a 51) :: .int (b2 ke) :: .ref (a 53) :: .ref (a 54) :: .ref (a 55) :: .int (nI cq) :: .int (nI cm) :: []), aB (CxD X) 3000 tp, aI (CxD X) 3900 (xOr z), aI (CxD X) 3900 (xNu z), aI (CxD X) 3 (nf (xOg z)), aJ (CxD X) 8 nm, aI (CxD X) 40 (upd wt wn 110)] (by decide) lay_X11 tyX11 tyX11_ok nmX11 fl_X11_196 rfl rfl rfl (Nat.le_of_ble_eq_true rfl) rfl dX11_expression_54 rfl ?_
    refine r_aload_n (n := 58) hX dX11_expression_57 rfl rfl 0 rfl ?_
    refine r_callV (n := 61) (av := []) hX (ct_X11_pass (CxL X) (CxD X) mo a tn tr fm fn mv cq cm ck te yn rc hp ir ke (wn + 1) jn tp z ht hok) ml_X11_189 cv_X11_pass rfl (by decide) [0, 1, 2, 3, 4] rfl rfl (by decide) 0 rfl rfl rfl rfl rfl (Nat.le_of_ble_eq_true rfl) dX11_expression_58 rfl (fun r_ es_ h_ l_ => ?_)
    obtain ⟨rfl, rfl⟩ := h_
    show Aw X [mo, a 0, a 4, a 5, a 6, a 13, a 42] [ob 11 (.ref (a 0) :: .int (nI tn) :: .int (xFk (xPass tp tn z)) :: .int (xFp (xPass tp tn z)) :: .ref (a 4) :: .ref (a 5) :: .ref (a 6) :: .ref (a 7) :: .ref (a 8) :: .ref (a 9) :: .ref (a 10) :: .ref (a 11) :: .ref (a 12) :: .ref (a 13) :: .int (nI tr) :: .int (nI fm) :: .int ck :: .int te :: .int (nI fn) :: .ref (a 19) :: .ref (a 20) :: .ref (a 21) :: .ref (a 22) :: .ref (a 23) :: .ref (a 24) :: .ref (a 25) :: .ref (a 26) :: .ref (a 27) :: .int (b2 hp) :: .int yn :: .int (b2 ir) :: .ref (a 31) :: .int rc :: .ref (a 33) :: .int (nI mv) :: .int (xKd (xPass tp tn z)) :: .int (nI (xBg (xPass tp tn z))) :: .int (nI (xEn (xPass tp tn z))) :: .int (xMk (xPass tp tn z)) :: .long (xLe (xPass tp tn z)) :: .int (nI (xTk (xPass tp tn z))) :: .int (nI (xOp (xPass tp tn z))) :: .ref (a 42) :: .int (nI (wn + 1)) :: .ref (a 44) :: .int (nI jn) :: .ref (a 46) :: .ref (a 47) :: .ref (a 48) :: .ref (a 49) :: .ref (a 50) :: .ref (a 51) :: .int (b2 ke) :: .ref (a 53) :: .ref (a 54) :: .ref (a 55) :: .int (nI cq) :: .int (nI cm) :: []), aB (CxD X) 3000 tp, aI (CxD X) 3900 (xOr (xPass tp tn z)), aI (CxD X) 3900 (xNu (xPass tp tn z)), aI (CxD X) 3 (nf (xOg (xPass tp tn z))), aJ (CxD X) 8 nm, aI (CxD X) 40 (upd wt wn 110)] 61 [(0, .ref mo), (1, .int (nI r.length)), (2, .int 1), (4, .int 1)] [.int (b2 (xPassB z))]
    refine r_if_ne_b (tgt := 66) (n := 64) hX dX11_expression_61 (by decide) rfl (fun c61 => ?_) (fun c61 => ?_)
    · skip
      refine Aw.loc (lv' := [(0, .ref mo), (1, .int (nI r.length))]) [0, 1] rfl ?_
      have q := hi0.neg_ (tp := tp) c61
      exact ih1 (some 110, false) r _ _ _ q.1 (by omega) (by rw [← hf]; simp only [xM0, xM1, xM2, xB, xP, c33, c61, if_true, if_false, Bool.false_eq_true])
    · skip
      refine r_iconst (n := 65) hX 0 dX11_expression_64 rfl rfl ?_
      exact r_zreturn hX hR rfl dX11_expression_65 (by have e : R = (false, (xPass tp tn z)) := (by rw [← hf]; simp only [xM0, xM1, xM2, xB, xP, c33, c61, if_true, if_false, Bool.false_eq_true]); rw [e]; exact ⟨rfl, _, _, rfl⟩)
