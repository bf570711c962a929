/-! bytes of the tape; rows of a text -/
theorem t8_eq {y z : Int32} (h : y.toBitVec.toNat % 256 = z.toBitVec.toNat % 256) : y.toInt8 = z.toInt8 := by
  apply Int8.toBitVec_inj.1
  rw [Int32.toBitVec_toInt8, Int32.toBitVec_toInt8]
  apply BitVec.eq_of_toNat_eq
  rw [BitVec.signExtend_eq_setWidth_of_le y.toBitVec (by decide), BitVec.signExtend_eq_setWidth_of_le z.toBitVec (by decide), BitVec.toNat_setWidth, BitVec.toNat_setWidth]
  exact h
theorem shr_mod {x : Int32} {s : Int32} {k : Nat} (hs : (s.toBitVec.smod 32).toNat = k) (h : k = 24 ∨ k = 16 ∨ k = 8 ∨ k = 0) : (x >>> s).toBitVec.toNat % 256 = x.toBitVec.toNat / 2 ^ k % 256 := by
  have e := pk_shr x s k hs
  have e1 : (x >>> s).toInt = (x >>> s).toBitVec.toInt := rfl
  have e2 : x.toInt = x.toBitVec.toInt := rfl
  rw [e1, e2, Int.shiftRight_eq_div_pow, BitVec.toInt_eq_toNat_cond, BitVec.toInt_eq_toNat_cond] at e
  generalize (x >>> s).toBitVec.toNat = A at e
  have hx : x.toBitVec.toNat < 2 ^ 32 := x.toBitVec.isLt
  generalize x.toBitVec.toNat = B at e hx
  rcases h with h | h | h | h
  · subst h
    have e : (if 2 * A < 4294967296 then (A : Int) else (A : Int) - 4294967296) = (if 2 * B < 4294967296 then (B : Int) else (B : Int) - 4294967296) / 16777216 := e
    show A % 256 = B / 16777216 % 256
    split at e <;> split at e <;> omega
  · subst h
    have e : (if 2 * A < 4294967296 then (A : Int) else (A : Int) - 4294967296) = (if 2 * B < 4294967296 then (B : Int) else (B : Int) - 4294967296) / 65536 := e
    show A % 256 = B / 65536 % 256
    split at e <;> split at e <;> omega
  · subst h
    have e : (if 2 * A < 4294967296 then (A : Int) else (A : Int) - 4294967296) = (if 2 * B < 4294967296 then (B : Int) else (B : Int) - 4294967296) / 256 := e
    show A % 256 = B / 256 % 256
    split at e <;> split at e <;> omega
  · subst h
    have e : (if 2 * A < 4294967296 then (A : Int) else (A : Int) - 4294967296) = (if 2 * B < 4294967296 then (B : Int) else (B : Int) - 4294967296) / 1 := e
    show A % 256 = B / 1 % 256
    split at e <;> split at e <;> omega
theorem byte_same (x : Int32) : tbyte x 24 = mbyte x (nI (8 * 3)) ∧ tbyte x 16 = mbyte x (nI (8 * 2)) ∧ tbyte x 8 = mbyte x (nI (8 * 1)) ∧ tbyte x 0 = mbyte x (nI (8 * 0)) := by
  have key : ∀ (s t : Int32) (k : Nat), ((s &&& 31).toBitVec.smod 32).toNat = k → ((t.toUInt32 &&& Int32.toUInt32 31).toBitVec % 32).toNat = k → (k = 24 ∨ k = 16 ∨ k = 8 ∨ k = 0) → tbyte x s = mbyte x t := fun s t k h1 h2 h3 => by
    unfold tbyte mbyte
    have := t8_eq (y := x >>> (s &&& 31)) (z := (x.toUInt32 >>> (t.toUInt32 &&& Int32.toUInt32 31)).toInt32) (by
      rw [shr_mod h1 h3, pk_ushr x t k h2])
    rw [this]
  exact ⟨key 24 (nI (8 * 3)) 24 (by decide) (by decide) (Or.inl rfl), key 16 (nI (8 * 2)) 16 (by decide) (by decide) (Or.inr (Or.inl rfl)), key 8 (nI (8 * 1)) 8 (by decide) (by decide) (Or.inr (Or.inr (Or.inl rfl))), key 0 (nI (8 * 0)) 0 (by decide) (by decide) (Or.inr (Or.inr (Or.inr rfl)))⟩
theorem byte_ok (x s : Int32) : byOk (tbyte x s) := by
  unfold tbyte
  rw [pk_vb]
  unfold byOk
  rw [Int8.toInt_toInt32]
  generalize (x >>> (s &&& 31)).toInt8 = w
  have h1 := Int8.le_toInt w
  have h2 := Int8.toInt_lt w
  exact ⟨by have : (-2 : Int) ^ 7 = -128 := by decide
            omega, by have : (2 : Int) ^ 7 = 128 := by decide
                      omega⟩
theorem row_same {s : TP} {tp : Nat → Int32} {tn : Nat} (h : TpR s tp tn) (h4 : tn + 4 ≤ 3000) (x : Int32) : TpR (tpAppend s x) (mRow (tp, tn) x).1 (mRow (tp, tn) x).2 ∧ (mRow (tp, tn) x).2 = tn + 4 := by
  obtain ⟨h1, h2, h3⟩ := h
  obtain ⟨b1, b2, b3, b4⟩ := byte_same x
  refine ⟨⟨?_, ?_, fun k hk => ?_⟩, rfl⟩
  · show s.2 + 4 = tn + 1 + 1 + 1 + 1; omega
  · show tn + 1 + 1 + 1 + 1 ≤ 3000; omega
  · have hk : k < tn + 1 + 1 + 1 + 1 := hk
    show upd (upd (upd (upd s.1 s.2 (tbyte x 24)) (s.2 + 1) (tbyte x 16)) (s.2 + 2) (tbyte x 8)) (s.2 + 3) (tbyte x 0) k = upd (upd (upd (upd tp tn (mbyte x (nI (8 * 3)))) (tn + 1) (mbyte x (nI (8 * 2)))) (tn + 1 + 1) (mbyte x (nI (8 * 1)))) (tn + 1 + 1 + 1) (mbyte x (nI (8 * 0))) k ∧ byOk (upd (upd (upd (upd tp tn (mbyte x (nI (8 * 3)))) (tn + 1) (mbyte x (nI (8 * 2)))) (tn + 1 + 1) (mbyte x (nI (8 * 1)))) (tn + 1 + 1 + 1) (mbyte x (nI (8 * 0))) k)
    rw [← b1, ← b2, ← b3, ← b4, h1]
    by_cases e3 : k = tn + 3
    · rw [e3, upd_at, show tn + 1 + 1 + 1 = tn + 3 by omega, upd_at]; exact ⟨rfl, byte_ok x 0⟩
    · rw [upd_ne e3, upd_ne (show k ≠ tn + 1 + 1 + 1 by omega)]
      by_cases e2 : k = tn + 2
      · rw [e2, upd_at, show tn + 1 + 1 = tn + 2 by omega, upd_at]; exact ⟨rfl, byte_ok x 8⟩
      · rw [upd_ne e2, upd_ne (show k ≠ tn + 1 + 1 by omega)]
        by_cases e1 : k = tn + 1
        · rw [e1, upd_at, upd_at]; exact ⟨rfl, byte_ok x 16⟩
        · rw [upd_ne e1, upd_ne e1]
          by_cases e0 : k = tn
          · rw [e0, upd_at, upd_at]; exact ⟨rfl, byte_ok x 24⟩
          · rw [upd_ne e0, upd_ne e0]
            exact h3 k (by omega)
theorem feed_same {s : TP} {tp : Nat → Int32} {tn : Nat} (h : TpR s tp tn) (h20 : tn + 20 ≤ 3000) (a b c d e : Int32) : TpR (hFeed s a b c d e) (mFeed (tp, tn) a b c d e).1 (mFeed (tp, tn) a b c d e).2 ∧ (mFeed (tp, tn) a b c d e).2 = tn + 20 := by
  obtain ⟨a1, a2⟩ := row_same h (by omega) a
  obtain ⟨b1, b2⟩ := row_same a1 (by omega) b
  obtain ⟨c1, c2⟩ := row_same b1 (by omega) c
  obtain ⟨d1, d2⟩ := row_same c1 (by omega) d
  obtain ⟨e1, e2⟩ := row_same d1 (by omega) e
  exact ⟨e1, by show (mRow (mRow (mRow (mRow (mRow (tp, tn) a) b) c) d) e).2 = tn + 20; rw [e2, d2, c2, b2, a2]⟩
theorem TpR.back {s : TP} {tp : Nat → Int32} {tn n : Nat} (h : TpR s tp tn) : TpR (s.1, tn - n) tp (tn - n) := ⟨rfl, by have := h.2.1; omega, fun k hk => h.2.2 k (by omega)⟩
/-! rows of rules -/
def rwk (f : PZ → PZ) : Prop := ∀ z, txRW (f z).2 = txRW z.2
theorem rw_c {f g : PZ → PZ} (hf : rwk f) (hg : rwk g) : rwk (fun z => g (f z)) := fun z => (hg (f z)).trans (hf z)
theorem rw_exp (u : TK) (z : PZ) (k : Int32) : txRW (pExp u z k).2 = txRW z.2 := by rw [sz_exp]
theorem rw_fail (u : TK) (z : PZ) (n : Int32) : txRW (pFail u z n).2 = txRW z.2 := by unfold pFail; split <;> rfl
theorem rw_failL (u : TK) (z : PZ) (n : Int32) : txRW (pFailL u z n).2 = txRW z.2 := by unfold pFailL; split <;> rfl
theorem rw_step (z : PZ) (st ar : Int32) : txRW (zStep z st ar).2 = txRW z.2 := by
  show txRW (txStep z.2 st ar) = txRW z.2
  unfold txStep; split <;> rfl
theorem rw_accZ (u : TK) (z : PZ) (k : Int32) : txRW (pAccZ u z k).2 = txRW z.2 := by
  unfold pAccZ; split
  · exact rw_exp u z k
  · rfl
theorem rw_opZ (u : TK) (z : PZ) (k : Int32) : txRW (pOpZ u z k).2 = txRW z.2 := by
  unfold pOpZ; split
  · split
    · exact rw_fail u z 2
    · exact rw_exp u (zUp z) k
  · rfl
theorem rw_loop {u : TK} {k st : Int32} {f : PZ → PZ} (hf : rwk f) : ∀ m, rwk (rLoop u k st f m)
  | 0 => fun _ => rfl
  | m + 1 => fun z => by
    unfold rLoop
    split
    · rw [rw_loop hf m, rw_step, hf, rw_accZ]
    · exact rw_accZ u z k
theorem rw_sums {u : TK} {f : PZ → PZ} (hf : rwk f) : ∀ m, rwk (rSums u f m)
  | 0 => fun _ => rfl
  | m + 1 => fun z => by
    unfold rSums
    split
    · rw [rw_sums hf m, rw_step, hf, rw_exp]
    · split
      · rw [rw_sums hf m, rw_step, hf, rw_exp]
      · rfl
theorem rw_trait (u : TK) (z : PZ) (st : Int32) : txRW (rTrait u z st).2 = txRW z.2 := by
  unfold rTrait
  dsimp only
  rw [rw_exp]
  have e : txRW (pExp u (pExp u z (u.1 (zAt z))) 46).2 = txRW z.2 := by rw [rw_exp, rw_exp]
  generalize pExp u (pExp u z (u.1 (zAt z))) 46 = y at e
  rw [← e]
  split
  · rw [rw_step]
    split
    · exact rw_failL u y 4
    · rfl
  · rfl
theorem rw_unitF {u : TK} {f : PZ → PZ} (hf : rwk f) : rwk (rUnitF u f) := fun z => by
  unfold rUnitF
  split
  · rw [rw_exp, rw_step]
  · split
    · exact rw_trait u z 1
    · split
      · exact rw_trait u z 2
      · split
        · show txRW (pExp u (f (pOpZ u z 40)) 41).2 = _
          rw [rw_exp, hf, rw_opZ]
        · rw [rw_fail, rw_opZ]
theorem rw_partF {u : TK} {f : PZ → PZ} (hf : rwk f) : rwk (rPartF u f) := fun z => by
  rw [rPartF, rw_loop hf 600, hf]
theorem rw_sumF {u : TK} {f : PZ → PZ} (hf : rwk f) : rwk (rSumF u f) := fun z => by
  rw [rSumF, rw_sums hf 600]
  split
  · rw [rw_step, hf, rw_accZ]
  · rw [hf, rw_accZ]
theorem rw_idz : rwk id := fun _ => rfl
theorem rw_sum (u : TK) : ∀ g, rwk (rSum u g)
  | 0 => rw_sumF (rw_partF (rw_unitF rw_idz))
  | g + 1 => rw_sumF (rw_partF (rw_unitF (rw_sum u g)))
theorem rw_rel (u : TK) (g : Nat) : rwk (rRel u g) := fun z => by
  rw [rRel_k, relK, rw_step, rw_sum u g, rw_exp]
  have e : txRW (rSum u g z).2 = txRW z.2 := rw_sum u g z
  split
  · rw [rw_fail, e]
  · exact e
theorem rw_litF {u : TK} {g : Nat} {f c : PZ → PZ} (hf : rwk f) (hc : rwk c) : rwk (rLitF u g f c) := fun z => by
  rw [rLitF]
  split
  · show txRW (zStep (f (pOpZ u z 16)) 4 0).2 = _
    rw [rw_step, hf, rw_opZ]
  · split
    · show txRW (pExp u (c (pOpZ u (pOpZ u z 16) 91)) 93).2 = _
      rw [rw_exp, hc, rw_opZ, rw_opZ]
    · rw [rw_rel u g, rw_opZ, rw_opZ]
theorem rw_allF {u : TK} {f : PZ → PZ} (hf : rwk f) : rwk (rAllF u f) := fun z => by rw [rAllF, rw_loop hf 600, hf]
theorem rw_condF {u : TK} {f : PZ → PZ} (hf : rwk f) : rwk (rCondF u f) := fun z => by rw [rCondF, rw_loop hf 600, hf]
theorem rw_lit (u : TK) : ∀ g, rwk (rLit u g)
  | 0 => fun z => by rw [rLit]; exact rw_litF rw_idz rw_idz z
  | g + 1 => fun z => by rw [rLit]; exact rw_litF (rw_lit u g) (rw_condF (rw_allF (rw_lit u g))) z
theorem rw_cond (u : TK) (g : Nat) : rwk (rCond u g) := fun z => by rw [rCond, rAll]; exact rw_condF (rw_allF (rw_lit u g)) z
/-- rows stay within the code's row -/
def Rw6 (r : RW) : Prop := ∀ k, r.2.1 k ≤ 600 ∧ r.2.2.1 k ≤ 600 ∧ r.2.2.2.1 k ≤ 600
theorem Rw6_add {z : PZ} {b : Bool} {i j : Nat} (h : Rw6 (txRW z.2)) (hi : i ≤ 600) (hj : j ≤ 600) (hs : txSize z.2 ≤ 600) : Rw6 (txRW (zAddR z b i j).2) := by
  show Rw6 (txRW (txRule z.2 b i j))
  unfold txRule
  split
  · exact h
  · intro k
    show va_up z.2.2.2.1 (txRules z.2) i k ≤ 600 ∧ va_up z.2.2.2.2.1 (txRules z.2) j k ≤ 600 ∧ va_up z.2.2.2.2.2.1 (txRules z.2) (txSize z.2) k ≤ 600
    by_cases e : k = txRules z.2
    · rw [e, up_at, up_at, up_at]; exact ⟨hi, hj, hs⟩
    · rw [up_ne e, up_ne e, up_ne e]; exact h k
theorem Rw6_ru {u : TK} {z : PZ} (h : Rw6 (txRW z.2)) (hz : zOk z) : Rw6 (txRW (rRuD u z).2) := by
  obtain ⟨G, hG⟩ : ∃ G : Nat, G = 8 := ⟨8, rfl⟩
  have eB : ∀ z, rRuB u z = zAddR (pExp u (rCond u G (pExp u z 11)) 59) true (txSize z.2) (txSize z.2) := fun z => by rw [rRuB, hG]
  have eC : ∀ z, rRuC u z = zAddR (pExp u (rRuG u G (rSum u G (pExp u z 12))) 59) false (txSize z.2) (txSize (rSum u G (pExp u z 12)).2) := fun z => by rw [rRuC, hG, ← rRuI_g]
  have z1 : zOk (rRu1 u z) := rRu1_ok hz
  have r1 : Rw6 (txRW (rRu1 u z).2) := by
    unfold rRu1
    split
    · rw [rw_fail]; exact h
    · exact h
  rw [rRuD, eB, eC]
  clear eB eC
  generalize rRu1 u z = y at z1 r1
  split
  · have o1 : zOk (pExp u (rCond u G (pExp u y 11)) 59) := pExp_pr.1 ((rCond_pr G _).1 (pExp_pr.1 z1))
    refine Rw6_add ?_ z1.2.2.1 z1.2.2.1 o1.2.2.1
    rw [rw_exp, rw_cond u G, rw_exp]; exact r1
  · have o0 : zOk (rSum u G (pExp u y 12)) := (rSum_pr G _).1 (pExp_pr.1 z1)
    have e0 : txRW (rSum u G (pExp u y 12)).2 = txRW y.2 := by rw [rw_sum u G, rw_exp]
    generalize rSum u G (pExp u y 12) = w at o0 e0
    have o2 : zOk (rRuG u G w) := by
      unfold rRuG
      split
      · exact (rCond_pr G _).1 (pAccZ_pr.1 o0)
      · exact pAccZ_pr.1 o0
    have e2 : txRW (rRuG u G w).2 = txRW w.2 := by
      unfold rRuG
      split
      · rw [rw_cond u G, rw_accZ]
      · exact rw_accZ u w 13
    have o3 : zOk (pExp u (rRuG u G w) 59) := pExp_pr.1 o2
    refine Rw6_add ?_ z1.2.2.1 o0.2.2.1 o3.2.2.1
    rw [rw_exp, e2, e0]; exact r1
theorem Rw6_pRu {u : TK} : ∀ m z, Rw6 (txRW z.2) → zOk z → Rw6 (txRW (pRu u m z).2) ∧ zOk (pRu u m z) := by
  intro m
  induction m with
  | zero => intro z h hz; exact ⟨h, hz⟩
  | succ m ih =>
    intro z h hz
    unfold pRu
    split
    · exact ih _ (Rw6_ru h hz) (rRuD_ok hz)
    · exact ⟨h, hz⟩
theorem tr_zok {u : TK} : ∀ m z, zOk z → zOk (pTr u m z) := by
  intro m
  induction m with
  | zero => intro z h; exact h
  | succ m ih =>
    intro z h
    unfold pTr
    split
    · exact ih _ (rTrD_ok h)
    · exact h
theorem parse_rows {u : TK} {z : PZ} (h : Rw6 (txRW z.2)) : Rw6 (txRW (pParse u z).2) ∧ txRules (pParse u z).2 ≤ 20 ∧ txSize (pParse u z).2 ≤ 600 := by
  unfold pParse
  have d := (dat_tr u 9 (pZ0 z)).1
  have o := tr_zok (u := u) 9 (pZ0 z) (pZ0_ok z)
  have r0 : Rw6 (txRW (pTr u 9 (pZ0 z)).2) := by
    have e : txRW (pTr u 9 (pZ0 z)).2 = txRW (pZ0 z).2 := congrArg (·.2.1) d
    rw [e]; exact h
  generalize pTr u 9 (pZ0 z) = y1 at o r0
  obtain ⟨a1, a2⟩ := Rw6_pRu (u := u) 21 y1 r0 o
  generalize pRu u 21 y1 = y2 at a1 a2
  have e1 : (pEn1 u y2).2 = y2.2 := by
    unfold pEn1
    split
    · rfl
    · unfold pFail; split <;> rfl
  have e2 : (pEn2 (pEn1 u y2)).2 = y2.2 := by
    rw [← e1]
    unfold pEn2
    split <;> rfl
  rw [e2]
  exact ⟨a1, a2.2.2.2.1, a2.2.2.1⟩
theorem txOk_of {s : TX} (h : Rw6 (txRW s)) (hr : txRules s ≤ 20) : txOk s := ⟨hr, fun r => h r⟩
/-! copying a text that was read into its slot -/
theorem copy_TxR {s : TX} {y : XZ} {q : RZ} {sl : Nat} (hsl : sl ≤ 1) (hc : CodeR s y) (h0 : xFk y = 0) (hq : QR (txRW s) q) (hw : TxW s) : TxR s (xOr (xCpZ sl y), xNu (xCpZ sl y), (xCpQ sl q).1, (xCpQ sl q).2.1, (xCpQ sl q).2.2.1, (xCpQ sl q).2.2.2.1, (xCpQ sl q).2.2.2.2.1, (xCpQ sl q).2.2.2.2.2) sl := by
  have hs : txSize s = xOg y 2 := hc.1
  have h6 := hw.2.1
  have hr : txRules s = q.1 2 := hq.1
  have h20 := hw.1
  have cp : ∀ {α : Type} (f : Nat → α) (i : Nat), i < q.1 2 → cpS f (sl * 20) 40 (q.1 2) (sl * 20 + i) = f (40 + i) := fun f i hi => by
    unfold cpS
    rw [if_pos (by omega), show 40 + (sl * 20 + i - sl * 20) = 40 + i by omega]
  refine ⟨?_, hw, fun r hr' => ?_, fun i hi => ?_⟩
  · show txRules s = va_up q.1 sl (q.1 2) sl
    rw [up_at, hr]
  · have hr' : r < q.1 2 := by omega
    obtain ⟨a1, a2, a3, a4, a5⟩ := hq.2.2 r (by show r < txRules s; omega)
    show s.2.1 r = cpS q.2.1 (sl * 20) 40 (q.1 2) (sl * 20 + r) ∧ s.2.2.1 r = cpS q.2.2.1 (sl * 20) 40 (q.1 2) (sl * 20 + r) ∧ s.2.2.2.1 r = cpS q.2.2.2.1 (sl * 20) 40 (q.1 2) (sl * 20 + r) ∧ s.2.2.2.1 r = cpS q.2.2.2.2.1 (sl * 20) 40 (q.1 2) (sl * 20 + r) ∧ s.2.2.2.2.1 r = cpS q.2.2.2.2.2 (sl * 20) 40 (q.1 2) (sl * 20 + r)
    rw [cp _ r hr', cp _ r hr', cp _ r hr', cp _ r hr', cp _ r hr']
    exact ⟨a1, a2, a3, a4, a5⟩
  · have cz : ∀ (f : Nat → Int32), cpS f (sl * 1300) 2600 (xOg y 2) (sl * 1300 + i) = f (2600 + i) := fun f => by
      unfold cpS
      rw [if_pos (by omega), show 2600 + (sl * 1300 + i - sl * 1300) = 2600 + i by omega]
    show cR (s.1 i) (cpS (xOr y) (sl * 1300) 2600 (xOg y 2) (sl * 1300 + i)) (cpS (xNu y) (sl * 1300) 2600 (xOg y 2) (sl * 1300 + i))
    rw [cz, cz]
    exact hc.2 h0 i hi
/-- the other slot stays -/
theorem keep_TxR {s : TX} {t t' : MR} {sl : Nat} (h : TxR s t sl) (hsl : sl ≤ 1) (hr : rRg t' sl = rRg t sl) (h2 : ∀ j, sl * 20 ≤ j → j < sl * 20 + 20 → rIb t' j = rIb t j ∧ rEf t' j = rEf t j ∧ rEt t' j = rEt t j ∧ rCf t' j = rCf t j ∧ rCt t' j = rCt t j) (h3 : ∀ j, sl * 1300 ≤ j → j < sl * 1300 + 600 → rOd t' j = rOd t j ∧ rNu t' j = rNu t j) : TxR s t' sl := by
  obtain ⟨a1, a2, a3, a4⟩ := h
  have h20 := a2.1
  have h6 := a2.2.1
  refine ⟨by rw [hr]; exact a1, a2, fun r hr' => ?_, fun i hi => ?_⟩
  · obtain ⟨b1, b2, b3, b4, b5⟩ := h2 (sl * 20 + r) (by omega) (by omega)
    rw [b1, b2, b3, b4, b5]
    exact a3 r hr'
  · obtain ⟨b1, b2⟩ := h3 (sl * 1300 + i) (by omega) (by omega)
    rw [b1, b2]
    exact a4 i hi
