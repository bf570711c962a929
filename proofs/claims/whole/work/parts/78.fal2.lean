/-- falling out is the same on both sides -/
theorem fall_same {x : TX} {t : MR} (ht : TxR x t 0) {v nw k : Nat → Int32} {g : LG} {h : HS} {ql : PL} {w : MT} {my0 : MY} {ai ch hm : Nat → Option Nat} {io : Nat → Bool} {mn : Nat → Nat} {y : YR} {p : Nat} (hv : VR v nw) (hg : dbOk g) (hn : hFs h ≤ 12) (hq : PlIn ql) (hh : HmR y.1 hm (hFs h)) (hio : ∀ j, j < 12 → y.2.1 j = io j) (hfn : ∀ j, j < 12 → y.2.1 j = true → y.1 j = none) (hp : p < hFs h) (hai : obd ai) :
    (yrChange (yrDrop y p) (hFd h v k ql w g x y p).2.2.2.1).2.2.2.1 = (foldF (mMo (cpyO ai (mAs (updB io p true) hm) (hFs h)) (mSearch (foldF (mOu (updB io p true) (hFs h)) (hFs h) 0 (mWgh t nw g.1 h.2.2.2.2.1 0 (hFs h) my0).1) true (cpyO ai (mAs (updB io p true) hm) (hFs h)) (mWgh t nw g.1 h.2.2.2.2.1 0 (hFs h) my0).2.1 (mWgh t nw g.1 h.2.2.2.2.1 0 (hFs h) my0).2.2 (hFs h) ch).2.2) (hFs h) 0 (hm, mn, 0)).2.2 ∧
    (yrChange (yrDrop y p) (hFd h v k ql w g x y p).2.2.2.1).2.2.2.1 ≤ 12 ∧
    (∀ i, i < (yrChange (yrDrop y p) (hFd h v k ql w g x y p).2.2.2.1).2.2.2.1 → (yrChange (yrDrop y p) (hFd h v k ql w g x y p).2.2.2.1).2.2.1 i = (foldF (mMo (cpyO ai (mAs (updB io p true) hm) (hFs h)) (mSearch (foldF (mOu (updB io p true) (hFs h)) (hFs h) 0 (mWgh t nw g.1 h.2.2.2.2.1 0 (hFs h) my0).1) true (cpyO ai (mAs (updB io p true) hm) (hFs h)) (mWgh t nw g.1 h.2.2.2.2.1 0 (hFs h) my0).2.1 (mWgh t nw g.1 h.2.2.2.2.1 0 (hFs h) my0).2.2 (hFs h) ch).2.2) (hFs h) 0 (hm, mn, 0)).2.1 i) ∧
    HmR (yrChange (yrDrop y p) (hFd h v k ql w g x y p).2.2.2.1).1 (foldF (mMo (cpyO ai (mAs (updB io p true) hm) (hFs h)) (mSearch (foldF (mOu (updB io p true) (hFs h)) (hFs h) 0 (mWgh t nw g.1 h.2.2.2.2.1 0 (hFs h) my0).1) true (cpyO ai (mAs (updB io p true) hm) (hFs h)) (mWgh t nw g.1 h.2.2.2.2.1 0 (hFs h) my0).2.1 (mWgh t nw g.1 h.2.2.2.2.1 0 (hFs h) my0).2.2 (hFs h) ch).2.2) (hFs h) 0 (hm, mn, 0)).1 (hFs h) ∧
    (∀ j, j < 12 → (yrDrop y p).2.1 j = updB io p true j) ∧ (∀ j, j < 12 → (yrDrop y p).2.1 j = true → (yrChange (yrDrop y p) (hFd h v k ql w g x y p).2.2.2.1).1 j = none) := by
  obtain ⟨h1, h2, h3, h4, h5⟩ := hh
  obtain ⟨a0, a1⟩ := hPl_at (k := k) (ql := ql) ht hv hg hn
  have hdr : obd (yrDrop y p).1 := yrDrop_obd h4
  have hin : PlIn (hFq h v k ql g x y p) := plRemember_in (hPl_in hq) hdr
  have cst : ∀ i j, i < hFs h → j < hFs h → (hFq h v k ql g x y p).1 (i * 12 + j) = cstO t nw h.2.2.2.2.1 0 i j := fun i j hi hj => (a1 i hi).1 j hj
  have eio : ∀ j, j < 12 → (yrDrop y p).2.1 j = updB io p true j := fun j hj => by
    show updB y.2.1 p true j = updB io p true j
    by_cases e : j = p
    · rw [e, uB_at, uB_at]
    · rw [uB_ne e, uB_ne e]; exact hio j hj
  have out : ∀ j, j < 12 → (hFq h v k ql g x y p).2.2.2.2.2.1 j = updB io p true j := fun j hj => by
    show cpyB (hPl h v k ql g x).2.2.2.2.2.1 (yrDrop y p).2.1 12 j = _
    unfold cpyB; rw [if_pos hj]; exact eio j hj
  have bef : ∀ j, j < 12 → (hFq h v k ql g x y p).2.2.2.2.2.2 j = va_up y.1 p none j := fun j hj => by
    show cpyO (hPl h v k ql g x).2.2.2.2.2.2 (yrDrop y p).1 12 j = _
    unfold cpyO; rw [if_pos hj]; rfl
  have eai : ∀ j, j < hFs h → cpyO ai (mAs (updB io p true) hm) (hFs h) j = va_up y.1 p none j := fun j hj => by
    unfold cpyO mAs
    rw [if_pos hj]
    by_cases e : j = p
    · rw [e, uB_at, up_at, if_pos rfl]
    · rw [uB_ne e, up_ne e]
      by_cases ej : io j = true
      · rw [if_pos ej]
        exact (hfn j (by omega) (by rw [hio j (by omega)]; exact ej)).symm
      · rw [if_neg ej]; exact (h1 j (by omega)).symm
  have go : ∀ i j, i < hFs h → j < hFs h → (plGo (hFq h v k ql g x y p) i j = true ↔ updB io p true i = false ∧ mWhy t nw h.2.2.2.2.1 i j 0 = 0) := fun i j hi hj => by
    unfold plGo plBe
    rw [out i (by omega)]
    by_cases eo : updB io p true i = true
    · rw [if_pos eo, eo]
      exact ⟨(fun z => by cases z), (fun z => by cases z.1)⟩
    · rw [if_neg eo, if_neg (show ¬ (hFq h v k ql g x y p).2.2.2.2.1 ≤ j from fun z => absurd z (Nat.not_le.2 hj)), cst i j hi hj]
      unfold cstO
      by_cases e : mWhy t nw h.2.2.2.2.1 i j 0 = 0
      · rw [if_pos e, if_neg (fun z => by cases z)]
        exact ⟨fun _ => ⟨Bool.eq_false_iff.2 eo, e⟩, fun _ => rfl⟩
      · rw [if_neg e, if_pos rfl]
        exact ⟨(fun z => by cases z), fun z => absurd z.2 e⟩
  have self : ∀ i, plGo (hFq h v k ql g x y p) i i = false := fun i => by
    by_cases hi : i < hFs h
    · cases e : plGo (hFq h v k ql g x y p) i i with
      | false => rfl
      | true =>
        have := ((go i i hi hi).1 e).2
        rw [why_self] at this
        exact absurd this (by decide)
    · unfold plGo plBe
      split
      · rfl
      · rw [if_pos (show (hFq h v k ql g x y p).2.2.2.2.1 ≤ i from Nat.not_lt.1 hi)]
  have M := plan_same2 (s := hFq h v k ql g x y p) (q := w) (my := foldF (mOu (updB io p true) (hFs h)) (hFs h) 0 (mWgh t nw g.1 h.2.2.2.2.1 0 (hFs h) my0).1) (ke := true) (ai := cpyO ai (mAs (updB io p true) hm) (hFs h)) (tr := (mWgh t nw g.1 h.2.2.2.2.1 0 (hFs h) my0).2.1) (gv := (mWgh t nw g.1 h.2.2.2.2.1 0 (hFs h) my0).2.2) (ch := ch) hn hin.1 self (fun i j hi hj => by
    have hi : i < hFs h := hi
    have hj : j < hFs h := hj
    rw [ou_at hn (hFs h) 0 _ (by omega) i j hi hj]
    by_cases eo : updB io p true i = true
    · rw [if_pos ⟨by omega, eo⟩, if_neg (fun z => by rw [((go i j hi hj).1 z).1] at eo; cases eo)]
    · rw [if_neg (fun z => eo z.2), ((wgh_at hn my0) i hi).1 j hj]
      unfold mMay
      by_cases e : mWhy t nw h.2.2.2.2.1 i j 0 = 0
      · rw [if_pos e, if_pos ((go i j hi hj).2 ⟨Bool.eq_false_iff.2 eo, e⟩)]
        show _ = ((hFq h v k ql g x y p).1 (i * 12 + j)).getD 0
        rw [cst i j hi hj]
        unfold cstO
        rw [if_pos e]; rfl
      · rw [if_neg e, if_neg (fun z => e ((go i j hi hj).1 z).2)]) (fun i hi => by
    have hi : i < hFs h := hi
    rw [bef i (by omega), if_pos rfl, eai i hi]) (fun i hi => by
    have hi : i < hFs h := hi
    rw [((wgh_at hn my0) i hi).2.1]; exact (a1 i hi).2.1) (fun i hi => by
    have hi : i < hFs h := hi
    rw [((wgh_at hn my0) i hi).2.2]; exact (a1 i hi).2.2) hin.2.1.2
  have M1 : plN (hFq h v k ql g x y p) = hFs h := rfl
  rw [M1] at M
  generalize mSearch (foldF (mOu (updB io p true) (hFs h)) (hFs h) 0 (mWgh t nw g.1 h.2.2.2.2.1 0 (hFs h) my0).1) true (cpyO ai (mAs (updB io p true) hm) (hFs h)) (mWgh t nw g.1 h.2.2.2.2.1 0 (hFs h) my0).2.1 (mWgh t nw g.1 h.2.2.2.2.1 0 (hFs h) my0).2.2 (hFs h) ch = S at M
  obtain ⟨m1, m2, _, _, m5⟩ := M
  have eC : (hFd h v k ql w g x y p).2.2.2.1 = plHome (hFq h v k ql g x y p) (plQ2 (hFq h v k ql g x y p) w).2.1 := rfl
  rw [eC]
  generalize plHome (hFq h v k ql g x y p) (plQ2 (hFq h v k ql g x y p) w).2.1 = c at m1 m2 m5
  have m5 : Clo (hFs h) (plGo (hFq h v k ql g x y p)) (hFq h v k ql g x y p).2.1 (hFq h v k ql g x y p).2.2.1 c := m5
  generalize cpyO ai (mAs (updB io p true) hm) (hFs h) = B at eai
  have lt : ∀ i r, c i = some r → i < hFs h ∧ r < hFs h := fun i r e => by
    have hi : i < hFs h := by
      apply Classical.byContradiction
      intro z
      rw [m2 i (by omega)] at e
      cases e
    exact ⟨hi, (m5.1 i r hi e).1⟩
  -- the two folds
  have sp : foldF (yrStep c) 12 0 ((yrDrop y p).1, (yrDrop y p).2.2.1, 0) = foldF (yrStep c) (12 - hFs h) (hFs h) (foldF (yrStep S.2.2) (hFs h) 0 ((yrDrop y p).1, (yrDrop y p).2.2.1, 0)) := by
    have e12 : 12 = hFs h + (12 - hFs h) := by omega
    conv => lhs; rw [e12]
    rw [fold_split, Nat.zero_add, fold_congr (hFs h) 0 _ (fun i s _ i2 => by
      show yrStep c i s = yrStep S.2.2 i s
      unfold yrStep
      rw [m1 i (by omega)])]
  have D : ∀ i, (yrDrop y p).1 i = va_up y.1 p none i := fun _ => rfl
  obtain ⟨b1, b2, b3, b4, b5, b6⟩ := mov_at (b := B) (c := S.2.2) (hFs h) 0 ((yrDrop y p).1, (yrDrop y p).2.2.1, 0) (hm, mn, 0) (fun i _ i2 => by
    show va_up y.1 p none i = B i
    rw [eai i (by omega)]) rfl (fun i hi => absurd hi (Nat.not_lt_zero _))
  obtain ⟨c1, c2, c3⟩ := fo_more (c := c) (12 - hFs h) (hFs h) (foldF (yrStep S.2.2) (hFs h) 0 ((yrDrop y p).1, (yrDrop y p).2.2.1, 0)) (fun i i1 i2 => by
    rw [(b4 i (Or.inr (by omega))).1]
    show va_up y.1 p none i = none
    rw [up_ne (by omega)]
    cases e : y.1 i with
    | none => rfl
    | some r => have := (h2 i r e).1; omega)
  have eY : yrChange (yrDrop y p) c = ((foldF (yrStep c) 12 0 ((yrDrop y p).1, (yrDrop y p).2.2.1, 0)).1, (yrDrop y p).2.1, (foldF (yrStep c) 12 0 ((yrDrop y p).1, (yrDrop y p).2.2.1, 0)).2.1, (foldF (yrStep c) 12 0 ((yrDrop y p).1, (yrDrop y p).2.2.1, 0)).2.2, (yrDrop y p).2.2.2.2) := rfl
  rw [sp] at eY
  have home : ∀ i, i < 12 → (yrChange (yrDrop y p) c).1 i = c i := fun i hi => by
    rw [eY]
    show (foldF (yrStep c) (12 - hFs h) (hFs h) (foldF (yrStep S.2.2) (hFs h) 0 ((yrDrop y p).1, (yrDrop y p).2.2.1, 0))).1 i = c i
    by_cases z : i < hFs h
    · rw [c3 i (Or.inl z), (b3 i (Nat.zero_le _) (by omega)).1, m1 i z]
    · exact c2 i (by omega) (by omega)
  have high : ∀ i, 12 ≤ i → (yrChange (yrDrop y p) c).1 i = none := fun i hi => by
    rw [eY]
    show (foldF (yrStep c) (12 - hFs h) (hFs h) (foldF (yrStep S.2.2) (hFs h) 0 ((yrDrop y p).1, (yrDrop y p).2.2.1, 0))).1 i = none
    rw [c3 i (Or.inr (by omega)), (b4 i (Or.inr (by omega))).1]
    show va_up y.1 p none i = none
    rw [up_ne (by omega)]
    cases e : y.1 i with
    | none => rfl
    | some r => have := (h2 i r e).1; omega
  have some_ : ∀ i r, (yrChange (yrDrop y p) c).1 i = some r → c i = some r := fun i r e => by
    by_cases z : i < 12
    · rw [home i z] at e; exact e
    · rw [high i (by omega)] at e; cases e
  refine ⟨?_, ?_, ?_, ⟨fun j hj => ?_, fun i r e => lt i r (some_ i r e), fun i j r e1 e2 => ?_, fun i r e => ?_, fun i r e => ?_⟩, eio, fun j hj e => ?_⟩
  · rw [eY]
    show (foldF (yrStep c) (12 - hFs h) (hFs h) (foldF (yrStep S.2.2) (hFs h) 0 ((yrDrop y p).1, (yrDrop y p).2.2.1, 0))).2.2 = _
    rw [c1]; exact b1
  · rw [eY]
    show (foldF (yrStep c) (12 - hFs h) (hFs h) (foldF (yrStep S.2.2) (hFs h) 0 ((yrDrop y p).1, (yrDrop y p).2.2.1, 0))).2.2 ≤ 12
    rw [c1]
    have b5 : (foldF (yrStep S.2.2) (hFs h) 0 ((yrDrop y p).1, (yrDrop y p).2.2.1, 0)).2.2 ≤ 0 + hFs h := b5
    omega
  · rw [eY]
    show ∀ i, i < (foldF (yrStep c) (12 - hFs h) (hFs h) (foldF (yrStep S.2.2) (hFs h) 0 ((yrDrop y p).1, (yrDrop y p).2.2.1, 0))).2.2 → (foldF (yrStep c) (12 - hFs h) (hFs h) (foldF (yrStep S.2.2) (hFs h) 0 ((yrDrop y p).1, (yrDrop y p).2.2.1, 0))).2.1 i = _
    rw [c1]
    exact b2
  · rw [home j hj]
    by_cases z : j < hFs h
    · rw [(b3 j (Nat.zero_le _) (by omega)).2, m1 j z]
    · rw [(b4 j (Or.inr (by omega))).2, m2 j (by omega)]
      show none = hm j
      rw [← h1 j hj]
      cases e : y.1 j with
      | none => rfl
      | some r => have := (h2 j r e).1; omega
  · have d1 := some_ i r e1
    have d2 := some_ j r e2
    exact m5.2.1 i j r (lt i r d1).1 (lt j r d2).1 d1 d2
  · have := (lt i r (some_ i r e)).2
    omega
  · by_cases z : i < hFs h
    · rw [(b3 i (Nat.zero_le _) (by omega)).2, ← m1 i z] at e
      have := (lt i r e).2
      omega
    · rw [(b4 i (Or.inr (by omega))).2] at e
      exact h5 i r e
  · rw [home j hj]
    cases ec : c j with
    | none => rfl
    | some r =>
      obtain ⟨l1, l2⟩ := lt j r ec
      have := (m5.1 j r l1 ec).2
      have := ((go j r l1 l2).1 this).1
      rw [eio j hj, this] at e
      cases e
