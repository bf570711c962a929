/-! the lexers: the class's rows of tokens are the reference's tokens, one after another -/
def byOk (b : Int32) : Prop := -128 ≤ b.toInt ∧ b.toInt ≤ 127
theorem by_all {P : Int32 → Prop} (h : ∀ i : Fin 256, P (Int32.ofInt ((i.val : Int) - 128))) {b : Int32} (hb : byOk b) : P b := by
  have hl := hb.1
  have hu := hb.2
  have h1 : P (Int32.ofInt ((((b.toInt + 128).toNat : Nat) : Int) - 128)) := h ⟨(b.toInt + 128).toNat, by omega⟩
  have e : Int32.ofInt ((((b.toInt + 128).toNat : Nat) : Int) - 128) = b := by
    rw [show (((b.toInt + 128).toNat : Nat) : Int) - 128 = b.toInt by omega]
    exact Int32.ofInt_toInt b
  rw [e] at h1
  exact h1
theorem by_bl {b : Int32} (hb : byOk b) : isBl (b &&& 255) = isBl b := by_all (P := fun b => isBl (b &&& 255) = isBl b) (by decide +kernel) hb
theorem by_le {b : Int32} (hb : byOk b) : isLe (b &&& 255) = isLe b := by_all (P := fun b => isLe (b &&& 255) = isLe b) (by decide +kernel) hb
theorem by_di {b : Int32} (hb : byOk b) : isDi (b &&& 255) = isDi b := by_all (P := fun b => isDi (b &&& 255) = isDi b) (by decide +kernel) hb
theorem by_61 {b : Int32} (hb : byOk b) : decide (b &&& 255 = 61) = decide (b = 61) := by_all (P := fun b => decide (b &&& 255 = 61) = decide (b = 61)) (by decide +kernel) hb
theorem by_m1 {b : Int32} (hb : byOk b) : b &&& 255 ≠ -1 := by_all (P := fun b => b &&& 255 ≠ -1) (by decide +kernel) hb
theorem by_id {b : Int32} (hb : byOk b) (h : isLe b = true ∨ isDi b = true) : b &&& 255 = b := by_all (P := fun b => isLe b = true ∨ isDi b = true → b &&& 255 = b) (by decide +kernel) hb h
/-! what a token is -/
abbrev nrm (x : LX) : Int32 × Int32 := if x.1 = 3 ∨ x.1 = 4 then (x.1, x.2.2.2.1) else (x.1, 0)
def VL : List (Int32 × Int32) := [(0, 0), (1, 0), (2, 0), (5, 0), (3, 59), (3, 46), (3, 40), (3, 41), (3, 91), (3, 93), (3, 43), (3, 45), (3, 42), (3, 60), (3, 256), (3, 257), (3, 258), (4, 0), (4, 1), (4, 2), (4, 3), (4, 4), (4, 5), (4, 6), (4, 7), (4, 8)]
def kdP (p : Int32 × Int32) : Int32 := if p.1 = 0 then 0 else if p.1 = 1 then 2 else if p.1 = 2 then 3 else if p.1 = 4 then 10 + p.2 else if p.1 = 3 then (if p.2 = 256 then 4 else if p.2 = 257 then 5 else if p.2 = 258 then 6 else p.2) else 1
def TokR (tp : Nat → Int32) (k : Int32) (pl : Nat) (pk : Int64) (x : LX) : Prop := k = kdP (nrm x) ∧ pl = x.2.1 ∧ (x.1 = 1 → pk = x.2.2.2.2) ∧ (x.1 = 2 → Int64.toInt32 pk = xNum tp (x.2.2.1 - x.2.1) x.2.1 0 ∧ ∃ w, w < 10000 ∧ xNum tp (x.2.2.1 - x.2.1) x.2.1 0 = nI w)
def gdT (x : LX) : Prop := x.1 ≠ 0 ∧ x.1 ≠ 5
def TpR (s : TP) (tp : Nat → Int32) (tn : Nat) : Prop := s.2 = tn ∧ tn ≤ 3000 ∧ ∀ k, k < tn → s.1 k = tp k ∧ byOk (tp k)
theorem tpB_lt {s : TP} {tp : Nat → Int32} {tn a : Nat} (h : TpR s tp tn) (ha : a < tn) : tpB s a = tp a &&& 255 := by
  obtain ⟨h1, h2, h3⟩ := h
  show tpByteAt s (nI a) = _
  unfold tpByteAt
  rw [if_neg (fun z => by
    rcases z with z | z | z
    · exact nI_pos (by omega) z
    · rw [h1] at z; exact nI_ge ha (by omega) z
    · exact nI_ge (a := a) (b := 3000) (by omega) (by decide) z), nI_clamp (by omega), (h3 a ha).1]
theorem tpB_ge {s : TP} {tp : Nat → Int32} {tn a : Nat} (h : TpR s tp tn) (ha : tn ≤ a) (hb : a < 2 ^ 31) : tpB s a = -1 := by
  obtain ⟨h1, h2, h3⟩ := h
  show tpByteAt s (nI a) = _
  unfold tpByteAt
  rw [if_pos (Or.inr (Or.inl (by rw [h1]; exact nI_le ha hb)))]
theorem seen_lt {tp : Nat → Int32} {tn a : Nat} (ha : a < tn) : mSeen tp tn a = tp a := by unfold mSeen; rw [if_pos ha]
theorem seen_ge {tp : Nat → Int32} {tn a : Nat} (ha : tn ≤ a) : mSeen tp tn a = 0 := by unfold mSeen; rw [if_neg (by omega)]
theorem bl_same {s : TP} {tp : Nat → Int32} {tn : Nat} (h : TpR s tp tn) : ∀ m a, a + m = tn → tkBB s m a = xBl tp m a
  | 0, _, _ => rfl
  | m + 1, a, e => by
    unfold tkBB xBl
    rw [tpB_lt h (by omega), by_bl (h.2.2 a (by omega)).2, bl_same h m (a + 1) (by omega)]
theorem xBl_ge (tp : Nat → Int32) : ∀ m a, a ≤ xBl tp m a ∧ xBl tp m a ≤ a + m
  | 0, a => ⟨Nat.le_refl a, Nat.le_refl a⟩
  | m + 1, a => by
    unfold xBl
    split
    · have := xBl_ge tp m (a + 1); omega
    · omega
theorem xNm_ge (tp : Nat → Int32) (tn : Nat) : ∀ m a, a ≤ xNm tp tn m a ∧ xNm tp tn m a ≤ a + m
  | 0, a => ⟨Nat.le_refl a, Nat.le_refl a⟩
  | m + 1, a => by
    have := xNm_ge tp tn m (a + 1)
    unfold xNm
    split
    · omega
    · split <;> omega
theorem xNd_ge (tp : Nat → Int32) (tn : Nat) : ∀ m a, a ≤ xNd tp tn m a ∧ xNd tp tn m a ≤ a + m
  | 0, a => ⟨Nat.le_refl a, Nat.le_refl a⟩
  | m + 1, a => by
    have := xNd_ge tp tn m (a + 1)
    unfold xNd
    split <;> omega
theorem nm_same {s : TP} {tp : Nat → Int32} {tn : Nat} (h : TpR s tp tn) : ∀ m a p, a + m = tn → tkNm s m a p = (xNm tp tn m a, xLt tp (xNm tp tn m a - a) a p)
  | 0, a, p, _ => by
    show (a, p) = (a, xLt tp (a - a) a p)
    rw [Nat.sub_self]; rfl
  | m + 1, a, p, e => by
    have ha : a < tn := by omega
    have hb := (h.2.2 a ha).2
    unfold tkNm xNm
    rw [tpB_lt h ha, by_le hb, by_di hb, seen_lt ha]
    have go : isLe (tp a) = true ∨ isDi (tp a) = true → tkNm s m (a + 1) ((p <<< (Int32.toInt64 8 &&& 63)) ||| Int32.toInt64 (tp a &&& 255)) = (xNm tp tn m (a + 1), xLt tp (xNm tp tn m (a + 1) - a) a p) := fun hc => by
      rw [nm_same h m (a + 1) _ (by omega), by_id hb hc]
      have := (xNm_ge tp tn m (a + 1)).1
      rw [show xNm tp tn m (a + 1) - a = (xNm tp tn m (a + 1) - (a + 1)) + 1 by omega]
      rfl
    by_cases h1 : isLe (tp a) = true
    · rw [if_pos (Or.inl h1), if_pos h1]; exact go (Or.inl h1)
    · by_cases h2 : isDi (tp a) = true
      · rw [if_pos (Or.inr h2), if_neg h1, if_pos h2]; exact go (Or.inr h2)
      · rw [if_neg (fun z => by rcases z with z | z; exact h1 z; exact h2 z), if_neg h1, if_neg h2, Nat.sub_self]; rfl
theorem num32 (p : Int64) (d : Int32) : Int64.toInt32 (p * 10 + Int32.toInt64 (d - 48)) = 10 * Int64.toInt32 p + d - 48 := by
  rw [Int64.toInt32_add, Int64.toInt32_mul, Int32.toInt32_toInt64, show Int64.toInt32 10 = 10 by decide, Int32.mul_comm, Int32.sub_eq_add_neg, Int32.sub_eq_add_neg, Int32.add_assoc]
theorem nd_same {s : TP} {tp : Nat → Int32} {tn : Nat} (h : TpR s tp tn) : ∀ m a p, a + m = tn → (tkNu s m a p).1 = xNd tp tn m a ∧ Int64.toInt32 (tkNu s m a p).2 = xNum tp (xNd tp tn m a - a) a (Int64.toInt32 p)
  | 0, a, p, _ => by
    refine ⟨rfl, ?_⟩
    show Int64.toInt32 p = xNum tp (a - a) a _
    rw [Nat.sub_self]; rfl
  | m + 1, a, p, e => by
    have ha : a < tn := by omega
    have hb := (h.2.2 a ha).2
    unfold tkNu xNd
    rw [tpB_lt h ha, by_di hb, seen_lt ha]
    by_cases h2 : isDi (tp a) = true
    · rw [if_pos h2, if_pos h2]
      obtain ⟨i1, i2⟩ := nd_same h m (a + 1) (p * 10 + Int32.toInt64 ((tp a &&& 255) - 48)) (by omega)
      refine ⟨i1, ?_⟩
      rw [i2, by_id hb (Or.inr h2), num32]
      have := (xNd_ge tp tn m (a + 1)).1
      rw [show xNd tp tn m (a + 1) - a = (xNd tp tn m (a + 1) - (a + 1)) + 1 by omega]
      rfl
    · rw [if_neg h2, if_neg h2]
      refine ⟨rfl, ?_⟩
      rw [Nat.sub_self]; rfl
theorem xNd_di {tp : Nat → Int32} {tn : Nat} : ∀ m a j, a + m ≤ tn → a ≤ j → j < xNd tp tn m a → isDi (tp j) = true
  | 0, a, j, _, h1, h2 => by have h2 : j < a := h2; omega
  | m + 1, a, j, h0, h1, h2 => by
    unfold xNd at h2
    rw [seen_lt (by omega)] at h2
    split at h2
    · rename_i hd
      by_cases e : j = a
      · rw [e]; exact hd
      · exact xNd_di m (a + 1) j (by omega) (by omega) h2
    · omega
theorem di_d {b : Int32} (hb : byOk b) (h : isDi b = true) : ∃ d : Fin 10, b = nI (48 + d.val) := by_all (P := fun b => isDi b = true → ∃ d : Fin 10, b = nI (48 + d.val)) (by decide +kernel) hb h
theorem num_bd {tp : Nat → Int32} : ∀ m k v, (∀ j, k ≤ j → j < k + m → byOk (tp j) ∧ isDi (tp j) = true) → ∃ w, w < (v + 1) * 10 ^ m ∧ xNum tp m k (nI v) = nI w
  | 0, k, v, _ => ⟨v, by rw [Nat.pow_zero]; omega, rfl⟩
  | m + 1, k, v, h => by
    obtain ⟨d, hd⟩ := di_d (h k (Nat.le_refl k) (by omega)).1 (h k (Nat.le_refl k) (by omega)).2
    have e : 10 * nI v + tp k - 48 = nI (10 * v + d.val) := by
      rw [hd, show (10 : Int32) = nI 10 from rfl, show nI 10 * nI v = nI (10 * v) from (Int32.ofNat_mul 10 v).symm, nI_add, show 10 * v + (48 + d.val) = 10 * v + d.val + 48 by omega]
      have := pk_sub (a := 10 * v + d.val + 48) (b := 48) (by omega)
      rw [show 10 * v + d.val + 48 - 48 = 10 * v + d.val by omega] at this
      exact this
    obtain ⟨w, w1, w2⟩ := num_bd m (k + 1) (10 * v + d.val) (fun j h1 h2 => h j (by omega) (by omega))
    refine ⟨w, ?_, ?_⟩
    · have h1 : 10 * v + d.val + 1 ≤ (v + 1) * 10 := by have := d.isLt; omega
      have h2 := Nat.mul_le_mul_right (10 ^ m) h1
      rw [Nat.pow_succ, Nat.mul_comm (10 ^ m) 10, ← Nat.mul_assoc]
      exact Nat.lt_of_lt_of_le w1 h2
    · show xNum tp m (k + 1) (10 * nI v + tp k - 48) = nI w
      rw [e, w2]
theorem by_sg {b : Int32} (hb : byOk b) (q : Bool) : (isLe b = false → isDi b = false → tkSign (b &&& 255) q = kdP (nrm ((xSgn b q).1, 0, 0, (xSgn b q).2.2, 0)) ∧ nrm ((xSgn b q).1, 0, 0, (xSgn b q).2.2, 0) ∈ VL ∧ ((xSgn b q).2.1 = if tkSign (b &&& 255) q = 4 ∨ tkSign (b &&& 255) q = 5 ∨ tkSign (b &&& 255) q = 6 then 2 else 1) ∧ ((xSgn b q).2.1 = 2 → q = true)) := by
  cases q with
  | true => exact by_all (P := fun b => (isLe b = false → isDi b = false → tkSign (b &&& 255) true = kdP (nrm ((xSgn b true).1, 0, 0, (xSgn b true).2.2, 0)) ∧ nrm ((xSgn b true).1, 0, 0, (xSgn b true).2.2, 0) ∈ VL ∧ ((xSgn b true).2.1 = if tkSign (b &&& 255) true = 4 ∨ tkSign (b &&& 255) true = 5 ∨ tkSign (b &&& 255) true = 6 then 2 else 1) ∧ ((xSgn b true).2.1 = 2 → true = true))) (by decide +kernel) hb
  | false => exact by_all (P := fun b => (isLe b = false → isDi b = false → tkSign (b &&& 255) false = kdP (nrm ((xSgn b false).1, 0, 0, (xSgn b false).2.2, 0)) ∧ nrm ((xSgn b false).1, 0, 0, (xSgn b false).2.2, 0) ∈ VL ∧ ((xSgn b false).2.1 = if tkSign (b &&& 255) false = 4 ∨ tkSign (b &&& 255) false = 5 ∨ tkSign (b &&& 255) false = 6 then 2 else 1) ∧ ((xSgn b false).2.1 = 2 → false = true))) (by decide +kernel) hb
theorem sg_12 (b : Int32) (q : Bool) : (xSgn b q).2.1 = 1 ∨ (xSgn b q).2.1 = 2 := by
  unfold xSgn
  split
  · exact Or.inr rfl
  · split
    · exact Or.inr rfl
    · split
      · exact Or.inr rfl
      · split
        · exact Or.inl rfl
        · exact Or.inl rfl
theorem sg_35 (b : Int32) (q : Bool) : (xSgn b q).1 = 3 ∨ (xSgn b q).1 = 5 := by
  unfold xSgn
  split
  · exact Or.inl rfl
  · split
    · exact Or.inl rfl
    · split
      · exact Or.inl rfl
      · split
        · exact Or.inl rfl
        · exact Or.inr rfl
/-- words -/
theorem word_same (v : Int64) : nI (tkWord v 9 0) = (if mWord v < 0 then 2 else 10 + mWord v) ∧ (¬ mWord v < 0 → (4, mWord v) ∈ VL) := by
  have e : tkWord v 9 0 = if (500135192948 : Int64) = v then 10 else if (6447474 : Int64) = v then 11 else if (1668248436 : Int64) = v then 12 else if (26982 : Int64) = v then 13 else if (28530 : Int64) = v then 14 else if (6385252 : Int64) = v then 15 else if (7237492 : Int64) = v then 16 else if (112 : Int64) = v then 17 else if (104 : Int64) = v then 18 else 2 := rfl
  rw [e]
  unfold mWord
  by_cases h0 : v = 500135192948
  · subst h0; decide
  rw [if_neg (fun z => h0 z.symm), if_neg h0]
  by_cases h1 : v = 6447474
  · subst h1; decide
  rw [if_neg (fun z => h1 z.symm), if_neg h1]
  by_cases h2 : v = 1668248436
  · subst h2; decide
  rw [if_neg (fun z => h2 z.symm), if_neg h2]
  by_cases h3 : v = 26982
  · subst h3; decide
  rw [if_neg (fun z => h3 z.symm), if_neg h3]
  by_cases h4 : v = 28530
  · subst h4; decide
  rw [if_neg (fun z => h4 z.symm), if_neg h4]
  by_cases h5 : v = 6385252
  · subst h5; decide
  rw [if_neg (fun z => h5 z.symm), if_neg h5]
  by_cases h6 : v = 7237492
  · subst h6; decide
  rw [if_neg (fun z => h6 z.symm), if_neg h6]
  by_cases h7 : v = 112
  · subst h7; decide
  rw [if_neg (fun z => h7 z.symm), if_neg h7]
  by_cases h8 : v = 104
  · subst h8; decide
  rw [if_neg (fun z => h8 z.symm), if_neg h8]
  decide
/-- one token: where it stands, what it is, and the class's row -/
def OneR (s : TP) (tp : Nat → Int32) (tn a i : Nat) (t : TK) (x : LX) : Prop :=
  x.2.1 = a ∧ nrm x ∈ VL ∧ (gdT x → a < x.2.2.1 ∧ x.2.2.1 ≤ tn ∧ (tkOne s a i t).1 = x.2.2.1) ∧ (tkOne s a i t).2.2.1 = t.2.1 ∧ (∀ j, j ≠ i → (tkOne s a i t).2.1 j = t.1 j ∧ (tkOne s a i t).2.2.2 j = t.2.2 j) ∧ (tkOne s a i t).2.1 i = kdP (nrm x) ∧ (x.1 = 1 → (tkOne s a i t).2.2.2 i = x.2.2.2.2) ∧ (x.1 = 2 → Int64.toInt32 ((tkOne s a i t).2.2.2 i) = xNum tp (x.2.2.1 - x.2.1) x.2.1 0 ∧ ∃ w, w < 10000 ∧ xNum tp (x.2.2.1 - x.2.1) x.2.1 0 = nI w)
theorem upd_at (f : Nat → Int32) (k : Nat) (v : Int32) : upd f k v k = v := by unfold upd; rw [if_pos rfl]
theorem upd_ne {f : Nat → Int32} {k j : Nat} {v : Int32} (h : j ≠ k) : upd f k v j = f j := by unfold upd; rw [if_neg h]
theorem updL_at (f : Nat → Int64) (k : Nat) (v : Int64) : vp_updL f k v k = v := by unfold vp_updL; rw [if_pos rfl]
theorem updL_ne {f : Nat → Int64} {k j : Nat} {v : Int64} (h : j ≠ k) : vp_updL f k v j = f j := by unfold vp_updL; rw [if_neg h]
theorem one_same {s : TP} {tp : Nat → Int32} {tn a i : Nat} {t : TK} {le : Int64} (h : TpR s tp tn) (ha : a ≤ tn) : OneR s tp tn a i t (xTk2 tp tn a le) := by
  by_cases h0 : tn ≤ a
  · have ex : xTk2 tp tn a le = (0, a, a, mSeen tp tn a, le) := by unfold xTk2; rw [if_pos h0]
    have eo : tkOne s a i t = (a, upd t.1 i 0, t.2) := by
      unfold tkOne
      rw [if_pos (tpB_ge h h0 (by have := h.2.1; omega))]
    unfold OneR
    rw [ex, eo]
    exact ⟨rfl, by show ((0, 0) : Int32 × Int32) ∈ VL; decide, fun z => absurd rfl z.1, rfl, fun j hj => ⟨upd_ne hj, rfl⟩, upd_at _ _ _, (fun z => absurd (show (0 : Int32) = 1 from z) (by decide)), (fun z => absurd (show (0 : Int32) = 2 from z) (by decide))⟩
  · have ha : a < tn := by omega
    have hb := (h.2.2 a ha).2
    have e1 := tpB_lt h ha
    have n1 : ¬ tpB s a = -1 := by rw [e1]; exact by_m1 hb
    by_cases h1 : isLe (tp a) = true
    · have hE : xNm tp tn (tn - (a + 1)) (a + 1) = xNm tp tn (tn - a) a := by
        rw [show tn - a = (tn - (a + 1)) + 1 by omega]
        conv => rhs; unfold xNm
        rw [seen_lt ha, if_pos h1]
      have ge := xNm_ge tp tn (tn - (a + 1)) (a + 1)
      have ex : xTk2 tp tn a le = xTkL tp a (xNm tp tn (tn - a) a) := by
        unfold xTk2
        rw [if_neg h0, seen_lt ha, if_pos h1, hE]
      rw [hE] at ge
      have eo : tkOne s a i t = tkName s a i t := by
        unfold tkOne
        rw [if_neg n1, e1, by_le hb, if_pos h1]
      have en := nm_same h (tn - a) a 0 (by omega)
      rw [← h.1] at en
      have eo2 : tkOne s a i t = (xNm tp tn (tn - a) a, upd t.1 i (if xNm tp tn (tn - a) a - a ≤ 8 then nI (tkWord (xLt tp (xNm tp tn (tn - a) a - a) a 0) 9 0) else 1), t.2.1, vp_updL t.2.2 i (xLt tp (xNm tp tn (tn - a) a - a) a 0)) := by
        rw [eo]; unfold tkName; rw [en, h.1]
      unfold OneR
      rw [ex, eo2]
      generalize xNm tp tn (tn - a) a = E at ge
      unfold xTkL
      by_cases h8 : E - a ≤ 8
      · rw [if_pos h8, if_pos h8]
        obtain ⟨w1, w2⟩ := word_same (xLt tp (E - a) a 0)
        generalize xLt tp (E - a) a 0 = V at w1 w2
        rw [w1]
        by_cases hw : mWord V < 0
        · rw [if_pos hw, if_pos hw]
          exact ⟨rfl, by show ((1, 0) : Int32 × Int32) ∈ VL; decide, fun _ => ⟨by show a < E; omega, by show E ≤ tn; omega, rfl⟩, rfl, fun j hj => ⟨upd_ne hj, updL_ne hj⟩, upd_at _ _ _, fun _ => updL_at _ _ _, (fun z => absurd (show (1 : Int32) = 2 from z) (by decide))⟩
        · rw [if_neg hw, if_neg hw]
          exact ⟨rfl, by show ((4, mWord V) : Int32 × Int32) ∈ VL; exact w2 hw, fun _ => ⟨by show a < E; omega, by show E ≤ tn; omega, rfl⟩, rfl, fun j hj => ⟨upd_ne hj, updL_ne hj⟩, by show upd t.1 i (10 + mWord V) i = _; rw [upd_at]; rfl, (fun z => absurd (show (4 : Int32) = 1 from z) (by decide)), (fun z => absurd (show (4 : Int32) = 2 from z) (by decide))⟩
      · rw [if_neg h8, if_neg h8]
        exact ⟨rfl, by show ((5, 0) : Int32 × Int32) ∈ VL; decide, fun z => absurd rfl z.2, rfl, fun j hj => ⟨upd_ne hj, updL_ne hj⟩, upd_at _ _ _, (fun z => absurd (show (5 : Int32) = 1 from z) (by decide)), (fun z => absurd (show (5 : Int32) = 2 from z) (by decide))⟩
    · by_cases h2 : isDi (tp a) = true
      · have hE : xNd tp tn (tn - (a + 1)) (a + 1) = xNd tp tn (tn - a) a := by
          rw [show tn - a = (tn - (a + 1)) + 1 by omega]
          conv => rhs; unfold xNd
          rw [seen_lt ha, if_pos h2]
        have ge := xNd_ge tp tn (tn - (a + 1)) (a + 1)
        have ex : xTk2 tp tn a le = xTkD a (xNd tp tn (tn - a) a) (tp a) le := by
          unfold xTk2
          rw [if_neg h0, seen_lt ha, if_neg h1, if_pos h2, hE]
        rw [hE] at ge
        have eo : tkOne s a i t = tkNumb s a i t := by
          unfold tkOne
          rw [if_neg n1, e1, by_le hb, if_neg h1, by_di hb, if_pos h2]
        obtain ⟨d1, d2⟩ := nd_same h (tn - a) a 0 (by omega)
        have d3 : xNd tp tn (tn - a) a - a ≤ 4 → ∃ w, w < 10000 ∧ xNum tp (xNd tp tn (tn - a) a - a) a 0 = nI w := fun h4 => by
          obtain ⟨w, w1, w2⟩ := num_bd (tp := tp) (xNd tp tn (tn - a) a - a) a 0 (fun j j1 j2 => by
            have := (xNd_ge tp tn (tn - a) a).2
            exact ⟨(h.2.2 j (by omega)).2, xNd_di (tn := tn) (tn - a) a j (by omega) j1 (by omega)⟩)
          refine ⟨w, ?_, w2⟩
          have : (0 + 1) * 10 ^ (xNd tp tn (tn - a) a - a) ≤ (0 + 1) * 10 ^ 4 := Nat.mul_le_mul_left _ (Nat.pow_le_pow_right (by decide) h4)
          have h5 : (0 + 1) * 10 ^ 4 = 10000 := by decide
          omega
        rw [← h.1] at d1 d2
        have eo2 : tkOne s a i t = ((tkNu s (s.2 - a) a 0).1, upd t.1 i (if (tkNu s (s.2 - a) a 0).1 - a ≤ 4 then 3 else 1), t.2.1, vp_updL t.2.2 i (tkNu s (s.2 - a) a 0).2) := by
          rw [eo]; rfl
        unfold OneR
        rw [ex, eo2]
        generalize tkNu s (s.2 - a) a 0 = W at d1 d2
        rw [d1, h.1]
        rw [h.1] at d2
        generalize xNd tp tn (tn - a) a = E at ge d2 d3
        unfold xTkD
        by_cases h4 : E - a ≤ 4
        · rw [if_pos h4, if_pos h4]
          exact ⟨rfl, by show ((2, 0) : Int32 × Int32) ∈ VL; decide, fun _ => ⟨by show a < E; omega, by show E ≤ tn; omega, rfl⟩, rfl, fun j hj => ⟨upd_ne hj, updL_ne hj⟩, upd_at _ _ _, (fun z => absurd (show (2 : Int32) = 1 from z) (by decide)), fun _ => by show Int64.toInt32 (vp_updL t.2.2 i W.2 i) = _ ∧ _; rw [updL_at]; exact ⟨d2, d3 h4⟩⟩
        · rw [if_neg h4, if_neg h4]
          exact ⟨rfl, by show ((5, 0) : Int32 × Int32) ∈ VL; decide, fun z => absurd rfl z.2, rfl, fun j hj => ⟨upd_ne hj, updL_ne hj⟩, upd_at _ _ _, (fun z => absurd (show (5 : Int32) = 1 from z) (by decide)), (fun z => absurd (show (5 : Int32) = 2 from z) (by decide))⟩
      · have eq : tkEqN s a = decide (mSeen tp tn (a + 1) = 61) := by
          unfold tkEqN
          by_cases hq : a + 1 < tn
          · rw [tpB_lt h hq, seen_lt hq, by_61 (h.2.2 (a + 1) hq).2]
          · rw [tpB_ge h (by omega) (by have := h.2.1; omega), seen_ge (by omega)]; decide
        have q1 : decide (mSeen tp tn (a + 1) = 61) = true → a + 1 < tn := fun z => by
          by_cases hq : a + 1 < tn
          · exact hq
          · rw [seen_ge (by omega)] at z; exact absurd z (by decide)
        have ex : xTk2 tp tn a le = xTkS a (tp a) (decide (mSeen tp tn (a + 1) = 61)) le := by
          unfold xTk2
          rw [if_neg h0, seen_lt ha, if_neg h1, if_neg h2]
        have eo : tkOne s a i t = ((if tkSign (tpB s a) (tkEqN s a) = 4 ∨ tkSign (tpB s a) (tkEqN s a) = 5 ∨ tkSign (tpB s a) (tkEqN s a) = 6 then a + 2 else a + 1), upd t.1 i (tkSign (tpB s a) (tkEqN s a)), t.2) := by
          unfold tkOne
          rw [if_neg n1, e1, by_le hb, if_neg h1, by_di hb, if_neg h2]
        rw [e1, eq] at eo
        unfold OneR
        rw [ex, eo]
        generalize decide (mSeen tp tn (a + 1) = 61) = Q at q1
        obtain ⟨g1, g2, g3, g4⟩ := by_sg hb Q (Bool.eq_false_iff.2 h1) (Bool.eq_false_iff.2 h2)
        have g5 := sg_12 (tp a) Q
        have g6 := sg_35 (tp a) Q
        unfold xTkS
        refine ⟨rfl, g2, fun _ => ⟨?_, ?_, ?_⟩, rfl, fun j hj => ⟨upd_ne hj, rfl⟩, ?_, ?_, ?_⟩
        · show a < a + (xSgn (tp a) Q).2.1; omega
        · show a + (xSgn (tp a) Q).2.1 ≤ tn
          rcases g5 with g5 | g5
          · omega
          · have := q1 (g4 g5); omega
        · show (if tkSign (tp a &&& 255) Q = 4 ∨ tkSign (tp a &&& 255) Q = 5 ∨ tkSign (tp a &&& 255) Q = 6 then a + 2 else a + 1) = a + (xSgn (tp a) Q).2.1
          rw [g3]
          split <;> rfl
        · show upd t.1 i (tkSign (tp a &&& 255) Q) i = _
          rw [upd_at]; exact g1
        · intro z
          have z : (xSgn (tp a) Q).1 = 1 := z
          rcases g6 with g6 | g6 <;> (rw [g6] at z; exact absurd z (by decide))
        · intro z
          have z : (xSgn (tp a) Q).1 = 2 := z
          rcases g6 with g6 | g6 <;> (rw [g6] at z; exact absurd z (by decide))
/-- the reference's tokens -/
def xTs (tp : Nat → Int32) (tn a : Nat) (le : Int64) : Nat → LX
  | 0 => xTok tp tn a le
  | i + 1 => xTok tp tn (xTs tp tn a le i).2.2.1 (xTs tp tn a le i).2.2.2.2
theorem xTs_sh (tp : Nat → Int32) (tn a : Nat) (le : Int64) : ∀ d, xTs tp tn a le (d + 1) = xTs tp tn (xTok tp tn a le).2.2.1 (xTok tp tn a le).2.2.2.2 d
  | 0 => rfl
  | d + 1 => by
    show xTok tp tn (xTs tp tn a le (d + 1)).2.2.1 (xTs tp tn a le (d + 1)).2.2.2.2 = _
    rw [xTs_sh tp tn a le d]; rfl
theorem scan_lo (s : TP) : ∀ m i a t j, j < i → (tkScan s m i a t).1 j = t.1 j ∧ (tkScan s m i a t).2.1 j = t.2.1 j ∧ (tkScan s m i a t).2.2 j = t.2.2 j := by
  intro m
  induction m with
  | zero => intro i a t j hj; exact ⟨rfl, rfl, rfl⟩
  | succ m ih =>
    intro i a t j hj
    have ne : j ≠ i := by omega
    have one : ∀ (t' : TK), (tkOne s (tkBlk s a) i t').2.1 j = t'.1 j ∧ (tkOne s (tkBlk s a) i t').2.2.1 j = t'.2.1 j ∧ (tkOne s (tkBlk s a) i t').2.2.2 j = t'.2.2 j := fun t' => by
      unfold tkOne
      split
      · exact ⟨upd_ne ne, rfl, rfl⟩
      · split
        · exact ⟨upd_ne ne, rfl, updL_ne ne⟩
        · split
          · exact ⟨upd_ne ne, rfl, updL_ne ne⟩
          · exact ⟨upd_ne ne, rfl, rfl⟩
    have o := one (t.1, va_up t.2.1 i (tkBlk s a), t.2.2)
    have o2 : va_up t.2.1 i (tkBlk s a) j = t.2.1 j := by unfold va_up; rw [if_neg ne]
    unfold tkScan
    split
    · exact ⟨o.1, o.2.1.trans o2, o.2.2⟩
    · have := ih (i + 1) (tkOne s (tkBlk s a) i (t.1, va_up t.2.1 i (tkBlk s a), t.2.2)).1 (tkOne s (tkBlk s a) i (t.1, va_up t.2.1 i (tkBlk s a), t.2.2)).2 j (by omega)
      exact ⟨this.1.trans o.1, this.2.1.trans (o.2.1.trans o2), this.2.2.trans o.2.2⟩
theorem kd_bad {p : Int32 × Int32} (h : p ∈ VL) : kdP p = 0 ∨ kdP p = 1 ↔ p.1 = 0 ∨ p.1 = 5 := by
  revert p; decide
theorem nrm_1 (x : LX) : (nrm x).1 = x.1 := by
  show (if x.1 = 3 ∨ x.1 = 4 then (x.1, x.2.2.2.1) else (x.1, 0)).1 = x.1
  split <;> rfl
theorem tok_one {s : TP} {tp : Nat → Int32} {tn a i : Nat} {t : TK} {le : Int64} (h : TpR s tp tn) (ha : a ≤ tn) : tkBlk s a = (xTok tp tn a le).2.1 ∧ OneR s tp tn (tkBlk s a) i t (xTok tp tn a le) ∧ a ≤ tkBlk s a ∧ tkBlk s a ≤ tn := by
  have e : tkBlk s a = xBl tp (tn - a) a := by
    unfold tkBlk
    rw [h.1]
    exact bl_same h (tn - a) a (by omega)
  have g := xBl_ge tp (tn - a) a
  have o : OneR s tp tn (tkBlk s a) i t (xTok tp tn a le) := by
    rw [e]
    exact one_same h (by omega)
  exact ⟨o.1.symm, o, by omega, by omega⟩
theorem scan_at {s : TP} {tp : Nat → Int32} {tn : Nat} (h : TpR s tp tn) : ∀ m i a le t, a ≤ tn → ∀ d, d < m → (∀ e, e < d → gdT (xTs tp tn a le e)) → TokR tp ((tkScan s m i a t).1 (i + d)) ((tkScan s m i a t).2.1 (i + d)) ((tkScan s m i a t).2.2 (i + d)) (xTs tp tn a le d) ∧ nrm (xTs tp tn a le d) ∈ VL ∧ a ≤ (xTs tp tn a le d).2.1 ∧ (xTs tp tn a le d).2.1 ≤ tn ∧ (gdT (xTs tp tn a le d) → (xTs tp tn a le d).2.1 < (xTs tp tn a le d).2.2.1 ∧ (xTs tp tn a le d).2.2.1 ≤ tn) := by
  intro m
  induction m with
  | zero => intro i a le t ha d hd; omega
  | succ m ih =>
    intro i a le t ha d hd hg
    obtain ⟨k1, k2, k3, k4⟩ := tok_one (i := i) (t := (t.1, va_up t.2.1 i (tkBlk s a), t.2.2)) (le := le) h ha
    obtain ⟨o1, o2, o3, o4, o5, o6, o7, o8⟩ := k2
    have pl : va_up t.2.1 i (tkBlk s a) i = tkBlk s a := by unfold va_up; rw [if_pos rfl]
    have hb := kd_bad o2
    rw [← o6, nrm_1] at hb
    unfold tkScan
    cases d with
    | zero =>
      have row : ∀ T : TK, T.1 i = (tkOne s (tkBlk s a) i (t.1, va_up t.2.1 i (tkBlk s a), t.2.2)).2.1 i → T.2.1 i = (tkOne s (tkBlk s a) i (t.1, va_up t.2.1 i (tkBlk s a), t.2.2)).2.2.1 i → T.2.2 i = (tkOne s (tkBlk s a) i (t.1, va_up t.2.1 i (tkBlk s a), t.2.2)).2.2.2 i → TokR tp (T.1 (i + 0)) (T.2.1 (i + 0)) (T.2.2 (i + 0)) (xTs tp tn a le 0) ∧ nrm (xTs tp tn a le 0) ∈ VL ∧ a ≤ (xTs tp tn a le 0).2.1 ∧ (xTs tp tn a le 0).2.1 ≤ tn ∧ (gdT (xTs tp tn a le 0) → (xTs tp tn a le 0).2.1 < (xTs tp tn a le 0).2.2.1 ∧ (xTs tp tn a le 0).2.2.1 ≤ tn) := fun T t1 t2 t3 => by
        refine ⟨⟨t1.trans o6, t2.trans ?_, fun z => t3.trans (o7 z), fun z => ?_⟩, o2, ?_, ?_, fun z => ?_⟩
        · rw [o4]; show va_up t.2.1 i (tkBlk s a) i = _; rw [pl, k1]; rfl
        · show Int64.toInt32 (T.2.2 i) = _ ∧ _
          rw [t3]; exact o8 z
        · show a ≤ (xTok tp tn a le).2.1; omega
        · show (xTok tp tn a le).2.1 ≤ tn; omega
        · have := o3 z
          exact ⟨by rw [show (xTs tp tn a le 0).2.1 = tkBlk s a from o1]; exact this.1, this.2.1⟩
      split
      · exact row _ rfl rfl rfl
      · have lo := scan_lo s m (i + 1) (tkOne s (tkBlk s a) i (t.1, va_up t.2.1 i (tkBlk s a), t.2.2)).1 (tkOne s (tkBlk s a) i (t.1, va_up t.2.1 i (tkBlk s a), t.2.2)).2 i (by omega)
        exact row _ lo.1 lo.2.1 lo.2.2
    | succ d =>
      have g0 : gdT (xTok tp tn a le) := hg 0 (by omega)
      obtain ⟨p1, p2, p3⟩ := o3 g0
      rw [if_neg (fun z => by rcases hb.1 z with y | y; exact g0.1 y; exact g0.2 y), p3, xTs_sh, show i + (d + 1) = i + 1 + d by omega]
      obtain ⟨q1, q2, q3, q4, q5⟩ := ih (i + 1) (xTok tp tn a le).2.2.1 (xTok tp tn a le).2.2.2.2 (tkOne s (tkBlk s a) i (t.1, va_up t.2.1 i (tkBlk s a), t.2.2)).2 p2 d (by omega) (fun e he => by
        have := hg (e + 1) (by omega)
        rw [xTs_sh] at this
        exact this)
      exact ⟨q1, q2, by omega, q4, q5⟩
