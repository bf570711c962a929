/-! read -/
/-- the parser's text and a slot's change places -/
def bsw (lo : Nat) (b : Nat → Nat) : Nat → Nat := fun i => if i < 12 then b i else if i < 19 then b (i + (lo - 12)) else if i < lo then b i else if i < lo + 7 then b (i - (lo - 12)) else b i
theorem xTrs_keep (tp : Nat → Int32) (tn : Nat) : ∀ M tr nm x, (xTrs tp tn M tr nm x).2.1.2.2 = x.2.2 := by
  intro M
  induction M with
  | zero => intro tr nm x; rfl
  | succ M ih =>
    intro tr nm x
    unfold xTrs
    split
    · unfold xTr1
      split
      · rfl
      · split
        · have e0 : (xPass tp tn x).2.2 = x.2.2 := rfl
          generalize xPass tp tn x = y at e0
          unfold xTr2
          split
          · have key : ∀ w : XZ, w.2.2 = x.2.2 → (xTr3 tp tn (xTrs tp tn M) tr (vp_updL nm tr (xLe y)) w).2.1.2.2 = x.2.2 := fun w hw => by
              unfold xTr3
              split
              · split
                · rw [ih]; exact hw
                · exact hw
              · exact hw
            apply key
            split
            · exact e0
            · exact e0
          · exact e0
        · rfl
    · rfl
theorem xRs_rfr {tp : Nat → Int32} {tn : Nat} {nm : Nat → Int64} {tr : Nat} : ∀ (m : Nat) (q : RZ) (z : XZ), RFr q (xRs tp tn nm tr m q z).2.2 := by
  intro m
  induction m with
  | zero => intro q z; exact RFr.rf
  | succ m ih =>
    intro q z
    unfold xRs
    split
    · exact RFr.rf
    · split
      · exact RFr.rf
      · split
        · exact RFr.rf
        · split
          · exact RFr.rz.tr (ih _ _)
          · exact RFr.rf
theorem xRd_frm {tp : Nat → Int32} {tn : Nat} {nm : Nat → Int64} {q : RZ} {x : XZ} : Fr x (xRd tp tn nm q x).2.1 ∧ RFr (xQ0 q) (xRd tp tn nm q x).2.2 := by
  have f0 : Fr x (xZ0 tp tn x) := ⟨fun _ _ => ⟨rfl, rfl⟩, fun j hj => by show va_up (xOg x) 2 0 j = xOg x j; rw [up_ne (by omega)]⟩
  have f1 : Fr x (xTrs tp tn 602 0 nm (xZ0 tp tn x)).2.1 := f0.tr (Fr.of (by rw [xTrs_keep]))
  unfold xRd xText
  split
  · exact ⟨f1.tr (xRs_fr _ _ _), xRs_rfr _ _ _⟩
  · exact ⟨f1, RFr.rf⟩
theorem xQ0_at {q : RZ} {sl : Nat} (h : sl ≤ 1) : (xQ0 q).1 sl = q.1 sl := by show va_up q.1 2 0 sl = q.1 sl; rw [up_ne (by omega)]
/-- a text that was not read anew stays -/
theorem bad_TxR {s : TX} {t : MR} {sl : Nat} (h : TxR s t sl) (hsl : sl ≤ 1) {x y : XZ} {p : RZ} (e1 : xOr x = rOd t) (e2 : xNu x = rNu t) (hF : Fr x y) (hR : RFr (xQ0 (rRg t, rIb t, rEf t, rEt t, rCf t, rCt t)) p) : TxR s (xOr y, xNu y, p.1, p.2.1, p.2.2.1, p.2.2.2.1, p.2.2.2.2.1, p.2.2.2.2.2) sl := by
  refine keep_TxR h hsl ?_ (fun j j1 j2 => hR.2 j (by omega)) (fun j j1 j2 => ?_)
  · show p.1 sl = rRg t sl
    rw [hR.1 sl (by omega)]
    exact xQ0_at hsl
  · have := hF.1 j (by omega)
    rw [e1, e2] at this
    exact this
theorem cp_out {α : Type} {f : Nat → α} {d s n j : Nat} (h : j < d ∨ d + n ≤ j) : cpS f d s n j = f j := by
  unfold cpS
  rw [if_neg (by omega)]
theorem ok_TxR {s : TX} {t : MR} {sl o : Nat} (h : TxR s t o) (hsl : sl ≤ 1) (ho : o ≤ 1) (hne : o ≠ sl) {x y : XZ} {p : RZ} (e1 : xOr x = rOd t) (e2 : xNu x = rNu t) (hF : Fr x y) (hR : RFr (xQ0 (rRg t, rIb t, rEf t, rEt t, rCf t, rCt t)) p) (h6 : xOg y 2 ≤ 600) (h20 : p.1 2 ≤ 20) : TxR s (xOr (xCpZ sl y), xNu (xCpZ sl y), (xCpQ sl p).1, (xCpQ sl p).2.1, (xCpQ sl p).2.2.1, (xCpQ sl p).2.2.2.1, (xCpQ sl p).2.2.2.2.1, (xCpQ sl p).2.2.2.2.2) o := by
  refine keep_TxR (bad_TxR h ho e1 e2 hF hR) ho ?_ (fun j j1 j2 => ?_) (fun j j1 j2 => ?_)
  · show va_up p.1 sl (p.1 2) o = p.1 o
    rw [up_ne hne]
  · have out : j < sl * 20 ∨ sl * 20 + p.1 2 ≤ j := by omega
    show cpS p.2.1 (sl * 20) 40 (p.1 2) j = p.2.1 j ∧ cpS p.2.2.1 (sl * 20) 40 (p.1 2) j = p.2.2.1 j ∧ cpS p.2.2.2.1 (sl * 20) 40 (p.1 2) j = p.2.2.2.1 j ∧ cpS p.2.2.2.2.1 (sl * 20) 40 (p.1 2) j = p.2.2.2.2.1 j ∧ cpS p.2.2.2.2.2 (sl * 20) 40 (p.1 2) j = p.2.2.2.2.2 j
    rw [cp_out out, cp_out out, cp_out out, cp_out out, cp_out out]
    exact ⟨rfl, rfl, rfl, rfl, rfl⟩
  · have out : j < sl * 1300 ∨ sl * 1300 + xOg y 2 ≤ j := by omega
    show cpS (xOr y) (sl * 1300) 2600 (xOg y 2) j = xOr y j ∧ cpS (xNu y) (sl * 1300) 2600 (xOg y 2) j = xNu y j
    rw [cp_out out, cp_out out]
    exact ⟨rfl, rfl⟩
set_option maxHeartbeats 4000000 in
set_option maxRecDepth 100000 in
theorem law_read {X : Cx} {b : Nat → Nat} {mo : Nat} {a : Nat → Nat} {sc Ln i N : Nat} {xs : Nat → Int32} (hX : Ok X cL_law 4 RL 36) (hsc : Sc X sc Ln xs) (hL : Ln ≤ 3072) (hi : i + 6 ≤ Ln) (hN : N < 1000000) (kk : ∀ (b' : Nat → Nat) (h : HS) (fb : FB) (tp : TP) (z : PZ) (tk : TK) (jv : Nat → Int32) (jk : Nat → Int32) (pl : PL) (mt : MT) (yr : YR) (lg : LG) (ha : Nat → Option Nat) (x1 : TX) (x2 : TX) (tn : Nat) (fm : Nat) (fn : Nat) (mv : Nat) (fp : Int32) (ck : Int32) (te : Int32) (yn : Int32) (rc : Int32) (hp : Bool) (ir : Bool) (lgm : LG) (tr : Nat) (bg : Nat) (en : Nat) (tkk : Nat) (op : Nat) (wn : Nat) (jn : Nat) (cq : Nat) (cm : Nat) (fk : Int32) (kd : Int32) (mk : Int32) (le : Int64) (ke : Bool) (tpm : Nat → Int32) (t : MR) (og : Nat → Nat) (nm : Nat → Int64) (mf : MF) (hm : Nat → Option Nat) (io : Nat → Bool) (rh : Nat → Option Nat) (mn : Nat → Nat) (wt : Nat → Int32) (jt : Nat → Int32) (nw : Nat → Int32) (pil : Nat → Int32) (my : MY) (ai : Nat → Option Nat) (L : Nat → Nat) (tl : Nat → Option Nat) (ch : Nat → Option Nat), b' 0 = b 0 → SR (N + 1) h fb tp z tk jv jk pl mt yr lg ha x1 x2 tn fm fn mv fp ck te yn rc hp ir lgm tr bg en tkk op wn jn cq cm fk kd mk le ke tpm t og nm mf hm io rh mn wt jt nw pil my ai L tl ch → Aw X (KS b' mo a) (EW (CxD X) b' mo a h fb tp z tk jv jk pl mt yr lg ha x1 x2 tn fm fn mv fp ck te yn rc hp ir lgm tr bg en tkk op wn jn cq cm fk kd mk le ke tpm t og nm mf hm io rh mn wt jt nw pil my ai L tl ch) 735 [(0, .ref sc), (1, .ref (b 0)), (2, .ref mo), (3, .int (nI i))] []) (h : HS) (fb : FB) (tp : TP) (z : PZ) (tk : TK) (jv : Nat → Int32) (jk : Nat → Int32) (pl : PL) (mt : MT) (yr : YR) (lg : LG) (ha : Nat → Option Nat) (x1 : TX) (x2 : TX) (tn : Nat) (fm : Nat) (fn : Nat) (mv : Nat) (fp : Int32) (ck : Int32) (te : Int32) (yn : Int32) (rc : Int32) (hp : Bool) (ir : Bool) (lgm : LG) (tr : Nat) (bg : Nat) (en : Nat) (tkk : Nat) (op : Nat) (wn : Nat) (jn : Nat) (cq : Nat) (cm : Nat) (fk : Int32) (kd : Int32) (mk : Int32) (le : Int64) (ke : Bool) (tpm : Nat → Int32) (t : MR) (og : Nat → Nat) (nm : Nat → Int64) (mf : MF) (hm : Nat → Option Nat) (io : Nat → Bool) (rh : Nat → Option Nat) (mn : Nat → Nat) (wt : Nat → Int32) (jt : Nat → Int32) (nw : Nat → Int32) (pil : Nat → Int32) (my : MY) (ai : Nat → Option Nat) (L : Nat → Nat) (tl : Nat → Option Nat) (ch : Nat → Option Nat) (hR : SR N h fb tp z tk jv jk pl mt yr lg ha x1 x2 tn fm fn mv fp ck te yn rc hp ir lgm tr bg en tkk op wn jn cq cm fk kd mk le ke tpm t og nm mf hm io rh mn wt jt nw pil my ai L tl ch) : Aw X (KS b mo a) (EW (CxD X) b mo a h fb tp z tk jv jk pl mt yr lg ha x1 x2 tn fm fn mv fp ck te yn rc hp ir lgm tr bg en tkk op wn jn cq cm fk kd mk le ke tpm t og nm mf hm io rh mn wt jt nw pil my ai L tl ch) 218 [(0, .ref sc), (1, .ref (b 0)), (2, .ref mo), (3, .int (nI i))] [] := by
  obtain ⟨⟨rfl, rfl, rfl, rfl, rfl, rfl, rfl, rfl, rfl, rfl, rfl, rfl⟩, ⟨hTp, hFc, hT1, hT2⟩, ⟨hW1, hW2, hWz⟩, ⟨hPlI, hMt, hn⟩, ⟨hHa, hHm, hIo, hFn⟩, ⟨hMv, hMn⟩, hDb, ⟨oHa, oRh, hMy, oAi⟩, hLs, oTl, oCh, zHa, hBg⟩ := hR
  have ps := parse_same hTp tk z (((kd, bg, en, mk, le), tkk), (fk, zFaultP z), op, rOd t, rNu t, og) (rRg t, rIb t, rEf t, rEt t, rCf t, rCt t) nm
  have fr := xRd_frm (tp := tpm) (tn := tp.2) (nm := nm) (q := (rRg t, rIb t, rEf t, rEt t, rCf t, rCt t)) (x := (((kd, bg, en, mk, le), tkk), (fk, zFaultP z), op, rOd t, rNu t, og))
  have pr := parse_rows (u := (tkScan tp 601 0 0 tk)) hWz
  by_cases s0 : (xs (i + 1)) = nI 0
  · by_cases hf : zFault (pParse (tkScan tp 601 0 0 tk) z) = 0
    · have gd_ : (xRd tpm tp.2 nm (rRg t, rIb t, rEf t, rEt t, rCf t, rCt t) (((kd, bg, en, mk, le), tkk), (fk, zFaultP z), op, rOd t, rNu t, og)).1 = true ∧ xFk (xRd tpm tp.2 nm (rRg t, rIb t, rEf t, rEt t, rCf t, rCt t) (((kd, bg, en, mk, le), tkk), (fk, zFaultP z), op, rOd t, rNu t, og)).2.1 = 0 := by
        rcases ps with q | q
        · exact ⟨q.1, q.2.1.symm.trans hf⟩
        · exact absurd hf q.2.1
      have psA : zFaultP (pParse (tkScan tp 601 0 0 tk) z) = xFp (xRd tpm tp.2 nm (rRg t, rIb t, rEf t, rEt t, rCf t, rCt t) (((kd, bg, en, mk, le), tkk), (fk, zFaultP z), op, rOd t, rNu t, og)).2.1 ∧ CodeR (pParse (tkScan tp 601 0 0 tk) z).2 (xRd tpm tp.2 nm (rRg t, rIb t, rEf t, rEt t, rCf t, rCt t) (((kd, bg, en, mk, le), tkk), (fk, zFaultP z), op, rOd t, rNu t, og)).2.1 ∧ QR (txRW (pParse (tkScan tp 601 0 0 tk) z).2) (xRd tpm tp.2 nm (rRg t, rIb t, rEf t, rEt t, rCf t, rCt t) (((kd, bg, en, mk, le), tkk), (fk, zFaultP z), op, rOd t, rNu t, og)).2.2 := by
        rcases ps with q | q
        · exact ⟨q.2.2.1, q.2.2.2.1, q.2.2.2.2.1⟩
        · exact absurd hf q.2.1
      have pw := parse_w hf
      have h6 : xOg (xRd tpm tp.2 nm (rRg t, rIb t, rEf t, rEt t, rCf t, rCt t) (((kd, bg, en, mk, le), tkk), (fk, zFaultP z), op, rOd t, rNu t, og)).2.1 2 ≤ 600 := by rw [← psA.2.1.1]; exact pw.2.1
      have h20 : (xRd tpm tp.2 nm (rRg t, rIb t, rEf t, rEt t, rCf t, rCt t) (((kd, bg, en, mk, le), tkk), (fk, zFaultP z), op, rOd t, rNu t, og)).2.2.1 2 ≤ 20 := by rw [← psA.2.2.1]; exact psA.2.2.2.1
      have hC := (ct_read0ok (CxL X) (CxD X) (b 0) (b 1) (b 5) (b 7) (b 19) (b 22) (b 37) (b 41) (b 45) (b 46) (b 53) (b 8) (b 9) (b 10) (b 11) (b 12) (b 13) (b 14) (b 15) (b 16) (b 17) (b 18) (b 6) h tp tk z (nI 0) rfl hTp.2.1 hf)
      have hM := (ct_mReadOk (CxL X) (CxD X) mo a tp.2 tr (hFs h) fb.2.2.2 yr.2.2.2.1 cq cm h.2.2.2.1 h.2.2.2.2.1 h.2.2.2.2.2 h.2.1 yr.2.2.2.2 h.1 ke tpm nm (((kd, bg, en, mk, le), tkk), (fk, zFaultP z), op, rOd t, rNu t, og) wt wn jt jn (rRg t, rIb t, rEf t, rEt t, rCf t, rCt t) 0 hTp.2.1 (by decide) gd_)
      clear ps
      generalize pParse (tkScan tp 601 0 0 tk) z = W_ at hC pr hf psA pw
      generalize tkScan tp 601 0 0 tk = U_ at hC
      generalize xRd tpm tp.2 nm (rRg t, rIb t, rEf t, rEt t, rCf t, rCt t) (((kd, bg, en, mk, le), tkk), (fk, zFaultP z), op, rOd t, rNu t, og) = R_ at hM gd_ psA fr h6 h20
      generalize xRdT tpm tp.2 nm (((kd, bg, en, mk, le), tkk), (fk, zFaultP z), op, rOd t, rNu t, og) = RT_ at hM
      refine r_aload_n (n := 219) hX dL_law_218 rfl rfl 1 rfl ?_
      refine r_aload_n (n := 220) hX dL_law_219 rfl rfl 0 rfl ?_
      refine r_iload_n (n := 221) hX dL_law_220 rfl rfl 3 rfl ?_
      refine r_iconst (n := 222) hX 1 dL_law_221 rfl rfl ?_
      refine r_iadd (n := 223) hX dL_law_222 rfl ?_
      refine Aw.topi (nI (i + 1)) (nI_add _ _) ?_
      refine r_sld (n := 224) (i := i + 1) hX hsc (by omega) hL dL_law_223 rfl ?_
      refine Aw.topi (nI 0) s0 ?_
      refine r_callV (n := 227) (av := [.int (nI 0)]) hX hC ml_L_23 cv_X10_read rfl (by decide) [0, 7, 8, 9, 10, 11, 12, 13, 14, 15, 16, 17, 18, 5, 6] rfl rfl (by decide) 0 rfl rfl rfl rfl rfl (Nat.le_of_ble_eq_true rfl) dL_law_224 rfl (fun r_ es_ h_ l_ => ?_)
      obtain ⟨rfl, rfl⟩ := h_
      refine Aw.esq (pw_28 : putAt (EW (CxD X) b mo a h fb tp z tk jv jk pl mt yr lg ha x1 x2 tp.2 (hFs h) fb.2.2.2 yr.2.2.2.1 (zFaultP z) h.2.2.2.1 h.2.2.2.2.1 h.2.2.2.2.2 h.2.1 yr.2.2.2.2 h.1 lg tr bg en tkk op wn jn cq cm fk kd mk le ke tpm t og nm mf hm io rh mn wt jt nw pil my ai L tl ch) [0, 7, 8, 9, 10, 11, 12, 13, 14, 15, 16, 17, 18, 5, 6] _ = [ob 10 [.ref (b 1), .ref (b 5), .ref (b 7), .ref (b 19), .ref (b 22), .ref (b 37), .ref (b 41), .ref (b 45), .ref (b 12), .ref (b 53), .int (b2 h.1), .int h.2.1, .int (nI (hFs h)), .int h.2.2.2.1, .int h.2.2.2.2.1, .int h.2.2.2.2.2], ob 0 [.ref (b 2), .ref (b 3), .ref (b 4), .int (nI fb.2.2.2)], aI (CxD X) 400 fb.1, aI (CxD X) 400 fb.2.1, aI (CxD X) 400 fb.2.2.1, ob 6 [.ref (b 6), .int (nI (tp.1, 0).2)], aB (CxD X) 3000 (tp.1, 0).1, ob 4 [.ref (b 8), .ref (b 46), .int (nI (zAt (W_.1, x1))), .int (nI (zOpen (W_.1, x1))), .int (zFault (W_.1, x1)), .int (zLate (W_.1, x1)), .int (zLateP (W_.1, x1)), .int (zFaultP (W_.1, x1))], ob 8 [.ref (b 9), .ref (b 10), .ref (b 11)], aI (CxD X) 601 U_.1, aI (CxD X) 601 (nf U_.2.1), aJ (CxD X) 601 U_.2.2, ob 7 [.ref (b 13), .ref (b 14), .ref (b 15), .ref (b 16), .ref (b 17), .ref (b 18), .int (nI (txSize W_.2)), .int (nI (txRules W_.2)), .int (nI (txTraits W_.2))], aI (CxD X) 600 W_.2.1, aZ (CxD X) 20 (zf W_.2.2.1), aI (CxD X) 20 (nf W_.2.2.2.1), aI (CxD X) 20 (nf W_.2.2.2.2.1), aI (CxD X) 20 (nf W_.2.2.2.2.2.1), aJ (CxD X) 8 W_.2.2.2.2.2.2.1, ob 1 [.ref (b 20), .ref (b 21)], aI (CxD X) 312 jv, aI (CxD X) 64 jk, ob 5 [.ref (b 23), .ref (b 24), .ref (b 25), .ref (b 26), .int (nI pl.2.2.2.2.1), .ref (b 27), .ref (b 28), .ref (b 29)], aI (CxD X) 144 (opf pl.1), aZ (CxD X) 12 (zf pl.2.1), aZ (CxD X) 12 (zf pl.2.2.1), aI (CxD X) 12 (opf pl.2.2.2.1), aZ (CxD X) 12 (zf pl.2.2.2.2.2.1), aI (CxD X) 12 (opf pl.2.2.2.2.2.2), ob 3 [.ref (b 30), .ref (b 31), .ref (b 32), .ref (b 33), .ref (b 34), .ref (b 35), .ref (b 36)], aJ (CxD X) 144 mt.1, aI (CxD X) 13 (opf mt.2.1), aJ (CxD X) 12 mt.2.2.1, aJ (CxD X) 13 mt.2.2.2.1, aJ (CxD X) 13 mt.2.2.2.2.1, aI (CxD X) 13 (nf mt.2.2.2.2.2.1), aZ (CxD X) 13 (zf mt.2.2.2.2.2.2), ob 9 [.ref (b 38), .ref (b 39), .ref (b 40), .int (nI yr.2.2.2.1), .int (b2 yr.2.2.2.2)], aI (CxD X) 12 (opf yr.1), aZ (CxD X) 12 (zf yr.2.1), aI (CxD X) 12 (nf yr.2.2.1), ob 2 [.ref (b 42), .ref (b 43), .ref (b 44)], aI (CxD X) 12 lg.1, aI (CxD X) 12 lg.2.1, aI (CxD X) 12 lg.2.2, aI (CxD X) 12 (opf ha), ob 7 [.ref (b 47), .ref (b 48), .ref (b 49), .ref (b 50), .ref (b 51), .ref (b 52), .int (nI (txSize (W_.1, x1).2)), .int (nI (txRules (W_.1, x1).2)), .int (nI (txTraits (W_.1, x1).2))], aI (CxD X) 600 (W_.1, x1).2.1, aZ (CxD X) 20 (zf (W_.1, x1).2.2.1), aI (CxD X) 20 (nf (W_.1, x1).2.2.2.1), aI (CxD X) 20 (nf (W_.1, x1).2.2.2.2.1), aI (CxD X) 20 (nf (W_.1, x1).2.2.2.2.2.1), aJ (CxD X) 8 (W_.1, x1).2.2.2.2.2.2.1, ob 7 [.ref (b 54), .ref (b 55), .ref (b 56), .ref (b 57), .ref (b 58), .ref (b 59), .int (nI (txSize x2)), .int (nI (txRules x2)), .int (nI (txTraits x2))], aI (CxD X) 600 x2.1, aZ (CxD X) 20 (zf x2.2.1), aI (CxD X) 20 (nf x2.2.2.1), aI (CxD X) 20 (nf x2.2.2.2.1), aI (CxD X) 20 (nf x2.2.2.2.2.1), aJ (CxD X) 8 x2.2.2.2.2.2.1, ob 11 (.ref (a 0) :: .int (nI tp.2) :: .int fk :: .int (zFaultP z) :: .ref (a 4) :: .ref (a 5) :: .ref (a 6) :: .ref (a 7) :: .ref (a 8) :: .ref (a 9) :: .ref (a 10) :: .ref (a 11) :: .ref (a 12) :: .ref (a 13) :: .int (nI tr) :: .int (nI (hFs h)) :: .int h.2.2.2.1 :: .int h.2.2.2.2.1 :: .int (nI fb.2.2.2) :: .ref (a 19) :: .ref (a 20) :: .ref (a 21) :: .ref (a 22) :: .ref (a 23) :: .ref (a 24) :: .ref (a 25) :: .ref (a 26) :: .ref (a 27) :: .int (b2 yr.2.2.2.2) :: .int h.2.2.2.2.2 :: .int (b2 h.1) :: .ref (a 31) :: .int h.2.1 :: .ref (a 33) :: .int (nI yr.2.2.2.1) :: .int kd :: .int (nI bg) :: .int (nI en) :: .int mk :: .long le :: .int (nI tkk) :: .int (nI op) :: .ref (a 42) :: .int (nI wn) :: .ref (a 44) :: .int (nI jn) :: .ref (a 46) :: .ref (a 47) :: .ref (a 48) :: .ref (a 49) :: .ref (a 50) :: .ref (a 51) :: .int (b2 ke) :: .ref (a 53) :: .ref (a 54) :: .ref (a 55) :: .int (nI cq) :: .int (nI cm) :: []), aB (CxD X) 3000 tpm, aI (CxD X) 3900 (rOd t), aI (CxD X) 3900 (rNu t), aI (CxD X) 3 (nf og), aI (CxD X) 3 (nf (rRg t)), aZ (CxD X) 60 (zf (rIb t)), aI (CxD X) 60 (nf (rEf t)), aI (CxD X) 60 (nf (rEt t)), aI (CxD X) 60 (nf (rCf t)), aI (CxD X) 60 (nf (rCt t)), aJ (CxD X) 8 nm, aI (CxD X) 400 (nf mf.1), aI (CxD X) 400 (nf mf.2.1), aI (CxD X) 400 mf.2.2.1, aI (CxD X) 400 mf.2.2.2, aI (CxD X) 12 (opf hm), aZ (CxD X) 12 (zf io), aI (CxD X) 12 lg.1, aI (CxD X) 12 lg.2.1, aI (CxD X) 12 lg.2.2, aI (CxD X) 12 (opf rh), aI (CxD X) 12 (nf mn), aI (CxD X) 40 wt, aI (CxD X) 40 jt, aI (CxD X) 384 nw, aI (CxD X) 700 pil, aI (CxD X) 144 (nf my.1), aZ (CxD X) 12 (zf my.2.1), aZ (CxD X) 12 (zf my.2.2), aI (CxD X) 12 (opf ai), aI (CxD X) 53248 (nf L), aI (CxD X) 12 (opf tl), aI (CxD X) 12 (opf ch)]) ?_
      refine Aw.perm (ks' := KS (bsw 46 b) mo a) (es' := EW (CxD X) (bsw 46 b) mo a h fb (tp.1, 0) (W_.1, x1) U_ jv jk pl mt yr lg ha W_.2 x2 tp.2 (hFs h) fb.2.2.2 yr.2.2.2.1 (zFaultP z) h.2.2.2.1 h.2.2.2.2.1 h.2.2.2.2.2 h.2.1 yr.2.2.2.2 h.1 lg tr bg en tkk op wn jn cq cm fk kd mk le ke tpm t og nm mf hm io rh mn wt jt nw pil my ai L tl ch) [0, 1, 2, 3, 4, 5, 6, 7, 8, 9, 10, 11, 46, 47, 48, 49, 50, 51, 52, 19, 20, 21, 22, 23, 24, 25, 26, 27, 28, 29, 30, 31, 32, 33, 34, 35, 36, 37, 38, 39, 40, 41, 42, 43, 44, 45, 12, 13, 14, 15, 16, 17, 18, 53, 54, 55, 56, 57, 58, 59, 60, 61, 62, 63, 64, 65, 66, 67, 68, 69, 70, 71, 72, 73, 74, 75, 76, 77, 78, 79, 80, 81, 82, 83, 84, 85, 86, 87, 88, 89, 90, 91, 92, 93] rfl rfl (by decide) ?_
      show Aw X (KS (bsw 46 b) mo a) (EW (CxD X) (bsw 46 b) mo a h fb (tp.1, 0) (W_.1, x1) U_ jv jk pl mt yr lg ha W_.2 x2 tp.2 (hFs h) fb.2.2.2 yr.2.2.2.1 (zFaultP z) h.2.2.2.1 h.2.2.2.2.1 h.2.2.2.2.2 h.2.1 yr.2.2.2.2 h.1 lg tr bg en tkk op wn jn cq cm fk kd mk le ke tpm t og nm mf hm io rh mn wt jt nw pil my ai L tl ch) 227 [(0, .ref sc), (1, .ref (b 0)), (2, .ref mo), (3, .int (nI i))] [.int (zFault W_)]
      refine r_aload_n (n := 228) hX dL_law_227 rfl rfl 2 rfl ?_
      refine r_aload_n (n := 229) hX dL_law_228 rfl rfl 0 rfl ?_
      refine r_iload_n (n := 230) hX dL_law_229 rfl rfl 3 rfl ?_
      refine r_iconst (n := 231) hX 1 dL_law_230 rfl rfl ?_
      refine r_iadd (n := 232) hX dL_law_231 rfl ?_
      refine Aw.topi (nI (i + 1)) (nI_add _ _) ?_
      refine r_sld (n := 233) (i := i + 1) hX hsc (by omega) hL dL_law_232 rfl ?_
      refine Aw.topi (nI 0) s0 ?_
      refine r_callV (n := 236) (av := [.int (nI 0)]) hX hM ml_L_26 cv_X11_read rfl (by decide) [60, 61, 62, 63, 64, 71, 83, 84, 65, 66, 67, 68, 69, 70] rfl rfl (by decide) 60 rfl rfl rfl rfl rfl (Nat.le_of_ble_eq_true rfl) dL_law_233 rfl (fun r_ es_ h_ l_ => ?_)
      obtain ⟨rfl, wt_, wn_, jt_, jn_, rfl⟩ := h_
      refine Aw.esq (pw_29 : putAt (EW (CxD X) (bsw 46 b) mo a h fb (tp.1, 0) (W_.1, x1) U_ jv jk pl mt yr lg ha W_.2 x2 tp.2 (hFs h) fb.2.2.2 yr.2.2.2.1 (zFaultP z) h.2.2.2.1 h.2.2.2.2.1 h.2.2.2.2.2 h.2.1 yr.2.2.2.2 h.1 lg tr bg en tkk op wn jn cq cm fk kd mk le ke tpm t og nm mf hm io rh mn wt jt nw pil my ai L tl ch) [60, 61, 62, 63, 64, 71, 83, 84, 65, 66, 67, 68, 69, 70] _ = EW (CxD X) (bsw 46 b) mo a h fb (tp.1, 0) (W_.1, x1) U_ jv jk pl mt yr lg ha W_.2 x2 0 (hFs h) fb.2.2.2 yr.2.2.2.1 (xFp (xCpZ 0 R_.2.1)) h.2.2.2.1 h.2.2.2.2.1 h.2.2.2.2.2 h.2.1 yr.2.2.2.2 h.1 lg RT_.2.2.1 (xBg (xCpZ 0 R_.2.1)) (xEn (xCpZ 0 R_.2.1)) (xTk (xCpZ 0 R_.2.1)) (xOp (xCpZ 0 R_.2.1)) wn_ jn_ cq cm (xFk (xCpZ 0 R_.2.1)) (xKd (xCpZ 0 R_.2.1)) (xMk (xCpZ 0 R_.2.1)) (xLe (xCpZ 0 R_.2.1)) ke tpm (xOr (xCpZ 0 R_.2.1), xNu (xCpZ 0 R_.2.1), (xCpQ 0 R_.2.2).1, (xCpQ 0 R_.2.2).2.1, (xCpQ 0 R_.2.2).2.2.1, (xCpQ 0 R_.2.2).2.2.2.1, (xCpQ 0 R_.2.2).2.2.2.2.1, (xCpQ 0 R_.2.2).2.2.2.2.2) (xOg (xCpZ 0 R_.2.1)) RT_.2.2.2 mf hm io rh mn wt_ jt_ nw pil my ai L tl ch) ?_
      show Aw X (KS (bsw 46 b) mo a) (EW (CxD X) (bsw 46 b) mo a h fb (tp.1, 0) (W_.1, x1) U_ jv jk pl mt yr lg ha W_.2 x2 0 (hFs h) fb.2.2.2 yr.2.2.2.1 (xFp (xCpZ 0 R_.2.1)) h.2.2.2.1 h.2.2.2.2.1 h.2.2.2.2.2 h.2.1 yr.2.2.2.2 h.1 lg RT_.2.2.1 (xBg (xCpZ 0 R_.2.1)) (xEn (xCpZ 0 R_.2.1)) (xTk (xCpZ 0 R_.2.1)) (xOp (xCpZ 0 R_.2.1)) wn_ jn_ cq cm (xFk (xCpZ 0 R_.2.1)) (xKd (xCpZ 0 R_.2.1)) (xMk (xCpZ 0 R_.2.1)) (xLe (xCpZ 0 R_.2.1)) ke tpm (xOr (xCpZ 0 R_.2.1), xNu (xCpZ 0 R_.2.1), (xCpQ 0 R_.2.2).1, (xCpQ 0 R_.2.2).2.1, (xCpQ 0 R_.2.2).2.2.1, (xCpQ 0 R_.2.2).2.2.2.1, (xCpQ 0 R_.2.2).2.2.2.2.1, (xCpQ 0 R_.2.2).2.2.2.2.2) (xOg (xCpZ 0 R_.2.1)) RT_.2.2.2 mf hm io rh mn wt_ jt_ nw pil my ai L tl ch) 236 [(0, .ref sc), (1, .ref (b 0)), (2, .ref mo), (3, .int (nI i))] [.int (0), .int (zFault W_)]
      refine r_icmp_eq (tgt := 735) (n := 239) hX dL_law_236 (by decide) rfl (fun _ => ?_) (fun hne => absurd (hf) hne)
      exact kk (bsw 46 b) h fb (tp.1, 0) (W_.1, x1) U_ jv jk pl mt yr lg ha W_.2 x2 0 (hFs h) fb.2.2.2 yr.2.2.2.1 (xFp (xCpZ 0 R_.2.1)) h.2.2.2.1 h.2.2.2.2.1 h.2.2.2.2.2 h.2.1 yr.2.2.2.2 h.1 lg RT_.2.2.1 (xBg (xCpZ 0 R_.2.1)) (xEn (xCpZ 0 R_.2.1)) (xTk (xCpZ 0 R_.2.1)) (xOp (xCpZ 0 R_.2.1)) wn_ jn_ cq cm (xFk (xCpZ 0 R_.2.1)) (xKd (xCpZ 0 R_.2.1)) (xMk (xCpZ 0 R_.2.1)) (xLe (xCpZ 0 R_.2.1)) ke tpm (xOr (xCpZ 0 R_.2.1), xNu (xCpZ 0 R_.2.1), (xCpQ 0 R_.2.2).1, (xCpQ 0 R_.2.2).2.1, (xCpQ 0 R_.2.2).2.2.1, (xCpQ 0 R_.2.2).2.2.2.1, (xCpQ 0 R_.2.2).2.2.2.2.1, (xCpQ 0 R_.2.2).2.2.2.2.2) (xOg (xCpZ 0 R_.2.1)) RT_.2.2.2 mf hm io rh mn wt_ jt_ nw pil my ai L tl ch rfl ⟨⟨rfl, rfl, rfl, rfl, psA.1.symm, rfl, rfl, rfl, rfl, rfl, rfl, rfl⟩, ⟨⟨rfl, by show 0 ≤ 3000; decide, fun k hk => absurd hk (Nat.not_lt_zero _)⟩, hFc, (copy_TxR (by decide) psA.2.1 gd_.2 psA.2.2 pw), (ok_TxR hT2 (sl := 0) (o := 1) (by decide) (by decide) (by decide) rfl rfl fr.1 fr.2 h6 h20)⟩, ⟨pr.1, hW2, hW1⟩, ⟨hPlI, hMt, hn⟩, ⟨hHa, hHm, hIo, hFn⟩, ⟨hMv, hMn⟩, (hDb.more (Nat.le_succ _)), ⟨oHa, oRh, hMy, oAi⟩, hLs, oTl, oCh, zHa, hBg⟩
    · have bd_ : ¬ ((xRd tpm tp.2 nm (rRg t, rIb t, rEf t, rEt t, rCf t, rCt t) (((kd, bg, en, mk, le), tkk), (fk, zFaultP z), op, rOd t, rNu t, og)).1 = true ∧ xFk (xRd tpm tp.2 nm (rRg t, rIb t, rEf t, rEt t, rCf t, rCt t) (((kd, bg, en, mk, le), tkk), (fk, zFaultP z), op, rOd t, rNu t, og)).2.1 = 0) := fun q => by
        rcases ps with w | w
        · exact hf (w.2.1.trans q.2)
        · rw [w.1] at q; exact absurd q.1 (by decide)
      have psB : zFault (pParse (tkScan tp 601 0 0 tk) z) = xFk (xRd tpm tp.2 nm (rRg t, rIb t, rEf t, rEt t, rCf t, rCt t) (((kd, bg, en, mk, le), tkk), (fk, zFaultP z), op, rOd t, rNu t, og)).2.1 ∧ zFaultP (pParse (tkScan tp 601 0 0 tk) z) = xFp (xRd tpm tp.2 nm (rRg t, rIb t, rEf t, rEt t, rCf t, rCt t) (((kd, bg, en, mk, le), tkk), (fk, zFaultP z), op, rOd t, rNu t, og)).2.1 := by
        rcases ps with w | w
        · exact ⟨w.2.1, w.2.2.1⟩
        · exact ⟨w.2.2.1, w.2.2.2⟩
      have hC := (ct_read0no (CxL X) (CxD X) (b 0) (b 1) (b 5) (b 7) (b 19) (b 22) (b 37) (b 41) (b 45) (b 46) (b 53) (b 8) (b 9) (b 10) (b 11) (b 12) (b 13) (b 14) (b 15) (b 16) (b 17) (b 18) (b 6) h tp tk z (nI 0) rfl hTp.2.1 hf)
      have hM := (ct_mReadBad (CxL X) (CxD X) mo a tp.2 tr (hFs h) fb.2.2.2 yr.2.2.2.1 cq cm h.2.2.2.1 h.2.2.2.2.1 h.2.2.2.2.2 h.2.1 yr.2.2.2.2 h.1 ke tpm nm (((kd, bg, en, mk, le), tkk), (fk, zFaultP z), op, rOd t, rNu t, og) wt wn jt jn (rRg t, rIb t, rEf t, rEt t, rCf t, rCt t) 0 hTp.2.1 (by decide) bd_)
      clear ps
      generalize pParse (tkScan tp 601 0 0 tk) z = W_ at hC pr hf psB
      generalize tkScan tp 601 0 0 tk = U_ at hC
      generalize xRd tpm tp.2 nm (rRg t, rIb t, rEf t, rEt t, rCf t, rCt t) (((kd, bg, en, mk, le), tkk), (fk, zFaultP z), op, rOd t, rNu t, og) = R_ at hM bd_ psB fr
      generalize xRdT tpm tp.2 nm (((kd, bg, en, mk, le), tkk), (fk, zFaultP z), op, rOd t, rNu t, og) = RT_ at hM
      refine r_aload_n (n := 219) hX dL_law_218 rfl rfl 1 rfl ?_
      refine r_aload_n (n := 220) hX dL_law_219 rfl rfl 0 rfl ?_
      refine r_iload_n (n := 221) hX dL_law_220 rfl rfl 3 rfl ?_
      refine r_iconst (n := 222) hX 1 dL_law_221 rfl rfl ?_
      refine r_iadd (n := 223) hX dL_law_222 rfl ?_
      refine Aw.topi (nI (i + 1)) (nI_add _ _) ?_
      refine r_sld (n := 224) (i := i + 1) hX hsc (by omega) hL dL_law_223 rfl ?_
      refine Aw.topi (nI 0) s0 ?_
      refine r_callV (n := 227) (av := [.int (nI 0)]) hX hC ml_L_23 cv_X10_read rfl (by decide) [0, 7, 8, 9, 10, 11, 12, 13, 14, 15, 16, 17, 18, 5, 6] rfl rfl (by decide) 0 rfl rfl rfl rfl rfl (Nat.le_of_ble_eq_true rfl) dL_law_224 rfl (fun r_ es_ h_ l_ => ?_)
      obtain ⟨rfl, rfl⟩ := h_
      refine Aw.esq (pw_28 : putAt (EW (CxD X) b mo a h fb tp z tk jv jk pl mt yr lg ha x1 x2 tp.2 (hFs h) fb.2.2.2 yr.2.2.2.1 (zFaultP z) h.2.2.2.1 h.2.2.2.2.1 h.2.2.2.2.2 h.2.1 yr.2.2.2.2 h.1 lg tr bg en tkk op wn jn cq cm fk kd mk le ke tpm t og nm mf hm io rh mn wt jt nw pil my ai L tl ch) [0, 7, 8, 9, 10, 11, 12, 13, 14, 15, 16, 17, 18, 5, 6] _ = EW (CxD X) b mo a h fb (tp.1, 0) W_ U_ jv jk pl mt yr lg ha x1 x2 tp.2 (hFs h) fb.2.2.2 yr.2.2.2.1 (zFaultP z) h.2.2.2.1 h.2.2.2.2.1 h.2.2.2.2.2 h.2.1 yr.2.2.2.2 h.1 lg tr bg en tkk op wn jn cq cm fk kd mk le ke tpm t og nm mf hm io rh mn wt jt nw pil my ai L tl ch) ?_
      show Aw X (KS b mo a) (EW (CxD X) b mo a h fb (tp.1, 0) W_ U_ jv jk pl mt yr lg ha x1 x2 tp.2 (hFs h) fb.2.2.2 yr.2.2.2.1 (zFaultP z) h.2.2.2.1 h.2.2.2.2.1 h.2.2.2.2.2 h.2.1 yr.2.2.2.2 h.1 lg tr bg en tkk op wn jn cq cm fk kd mk le ke tpm t og nm mf hm io rh mn wt jt nw pil my ai L tl ch) 227 [(0, .ref sc), (1, .ref (b 0)), (2, .ref mo), (3, .int (nI i))] [.int (zFault W_)]
      refine r_aload_n (n := 228) hX dL_law_227 rfl rfl 2 rfl ?_
      refine r_aload_n (n := 229) hX dL_law_228 rfl rfl 0 rfl ?_
      refine r_iload_n (n := 230) hX dL_law_229 rfl rfl 3 rfl ?_
      refine r_iconst (n := 231) hX 1 dL_law_230 rfl rfl ?_
      refine r_iadd (n := 232) hX dL_law_231 rfl ?_
      refine Aw.topi (nI (i + 1)) (nI_add _ _) ?_
      refine r_sld (n := 233) (i := i + 1) hX hsc (by omega) hL dL_law_232 rfl ?_
      refine Aw.topi (nI 0) s0 ?_
      refine r_callV (n := 236) (av := [.int (nI 0)]) hX hM ml_L_26 cv_X11_read rfl (by decide) [60, 61, 62, 63, 64, 71, 83, 84, 65, 66, 67, 68, 69, 70] rfl rfl (by decide) 60 rfl rfl rfl rfl rfl (Nat.le_of_ble_eq_true rfl) dL_law_233 rfl (fun r_ es_ h_ l_ => ?_)
      obtain ⟨rfl, wt_, wn_, jt_, jn_, p_, rfl, hp_⟩ := h_
      refine Aw.esq (pw_29 : putAt (EW (CxD X) b mo a h fb (tp.1, 0) W_ U_ jv jk pl mt yr lg ha x1 x2 tp.2 (hFs h) fb.2.2.2 yr.2.2.2.1 (zFaultP z) h.2.2.2.1 h.2.2.2.2.1 h.2.2.2.2.2 h.2.1 yr.2.2.2.2 h.1 lg tr bg en tkk op wn jn cq cm fk kd mk le ke tpm t og nm mf hm io rh mn wt jt nw pil my ai L tl ch) [60, 61, 62, 63, 64, 71, 83, 84, 65, 66, 67, 68, 69, 70] _ = EW (CxD X) b mo a h fb (tp.1, 0) W_ U_ jv jk pl mt yr lg ha x1 x2 0 (hFs h) fb.2.2.2 yr.2.2.2.1 (xFp R_.2.1) h.2.2.2.1 h.2.2.2.2.1 h.2.2.2.2.2 h.2.1 yr.2.2.2.2 h.1 lg RT_.2.2.1 (xBg R_.2.1) (xEn R_.2.1) (xTk R_.2.1) (xOp R_.2.1) wn_ jn_ cq cm (xFk R_.2.1) (xKd R_.2.1) (xMk R_.2.1) (xLe R_.2.1) ke tpm (xOr R_.2.1, xNu R_.2.1, p_.1, p_.2.1, p_.2.2.1, p_.2.2.2.1, p_.2.2.2.2.1, p_.2.2.2.2.2) (xOg R_.2.1) RT_.2.2.2 mf hm io rh mn wt_ jt_ nw pil my ai L tl ch) ?_
      show Aw X (KS b mo a) (EW (CxD X) b mo a h fb (tp.1, 0) W_ U_ jv jk pl mt yr lg ha x1 x2 0 (hFs h) fb.2.2.2 yr.2.2.2.1 (xFp R_.2.1) h.2.2.2.1 h.2.2.2.2.1 h.2.2.2.2.2 h.2.1 yr.2.2.2.2 h.1 lg RT_.2.2.1 (xBg R_.2.1) (xEn R_.2.1) (xTk R_.2.1) (xOp R_.2.1) wn_ jn_ cq cm (xFk R_.2.1) (xKd R_.2.1) (xMk R_.2.1) (xLe R_.2.1) ke tpm (xOr R_.2.1, xNu R_.2.1, p_.1, p_.2.1, p_.2.2.1, p_.2.2.2.1, p_.2.2.2.2.1, p_.2.2.2.2.2) (xOg R_.2.1) RT_.2.2.2 mf hm io rh mn wt_ jt_ nw pil my ai L tl ch) 236 [(0, .ref sc), (1, .ref (b 0)), (2, .ref mo), (3, .int (nI i))] [.int (xFk R_.2.1), .int (zFault W_)]
      refine r_icmp_eq (tgt := 735) (n := 239) hX dL_law_236 (by decide) rfl (fun _ => ?_) (fun hne => absurd (psB.1) hne)
      exact kk b h fb (tp.1, 0) W_ U_ jv jk pl mt yr lg ha x1 x2 0 (hFs h) fb.2.2.2 yr.2.2.2.1 (xFp R_.2.1) h.2.2.2.1 h.2.2.2.2.1 h.2.2.2.2.2 h.2.1 yr.2.2.2.2 h.1 lg RT_.2.2.1 (xBg R_.2.1) (xEn R_.2.1) (xTk R_.2.1) (xOp R_.2.1) wn_ jn_ cq cm (xFk R_.2.1) (xKd R_.2.1) (xMk R_.2.1) (xLe R_.2.1) ke tpm (xOr R_.2.1, xNu R_.2.1, p_.1, p_.2.1, p_.2.2.1, p_.2.2.2.1, p_.2.2.2.2.1, p_.2.2.2.2.2) (xOg R_.2.1) RT_.2.2.2 mf hm io rh mn wt_ jt_ nw pil my ai L tl ch rfl ⟨⟨rfl, rfl, rfl, rfl, psB.2.symm, rfl, rfl, rfl, rfl, rfl, rfl, rfl⟩, ⟨⟨rfl, by show 0 ≤ 3000; decide, fun k hk => absurd hk (Nat.not_lt_zero _)⟩, hFc, (bad_TxR hT1 (by decide) rfl rfl fr.1 hp_), (bad_TxR hT2 (by decide) rfl rfl fr.1 hp_)⟩, ⟨hW1, hW2, pr.1⟩, ⟨hPlI, hMt, hn⟩, ⟨hHa, hHm, hIo, hFn⟩, ⟨hMv, hMn⟩, (hDb.more (Nat.le_succ _)), ⟨oHa, oRh, hMy, oAi⟩, hLs, oTl, oCh, zHa, hBg⟩
  · skip
    by_cases s1 : (xs (i + 1)) = nI 1
    · by_cases hf : zFault (pParse (tkScan tp 601 0 0 tk) z) = 0
      · have gd_ : (xRd tpm tp.2 nm (rRg t, rIb t, rEf t, rEt t, rCf t, rCt t) (((kd, bg, en, mk, le), tkk), (fk, zFaultP z), op, rOd t, rNu t, og)).1 = true ∧ xFk (xRd tpm tp.2 nm (rRg t, rIb t, rEf t, rEt t, rCf t, rCt t) (((kd, bg, en, mk, le), tkk), (fk, zFaultP z), op, rOd t, rNu t, og)).2.1 = 0 := by
          rcases ps with q | q
          · exact ⟨q.1, q.2.1.symm.trans hf⟩
          · exact absurd hf q.2.1
        have psA : zFaultP (pParse (tkScan tp 601 0 0 tk) z) = xFp (xRd tpm tp.2 nm (rRg t, rIb t, rEf t, rEt t, rCf t, rCt t) (((kd, bg, en, mk, le), tkk), (fk, zFaultP z), op, rOd t, rNu t, og)).2.1 ∧ CodeR (pParse (tkScan tp 601 0 0 tk) z).2 (xRd tpm tp.2 nm (rRg t, rIb t, rEf t, rEt t, rCf t, rCt t) (((kd, bg, en, mk, le), tkk), (fk, zFaultP z), op, rOd t, rNu t, og)).2.1 ∧ QR (txRW (pParse (tkScan tp 601 0 0 tk) z).2) (xRd tpm tp.2 nm (rRg t, rIb t, rEf t, rEt t, rCf t, rCt t) (((kd, bg, en, mk, le), tkk), (fk, zFaultP z), op, rOd t, rNu t, og)).2.2 := by
          rcases ps with q | q
          · exact ⟨q.2.2.1, q.2.2.2.1, q.2.2.2.2.1⟩
          · exact absurd hf q.2.1
        have pw := parse_w hf
        have h6 : xOg (xRd tpm tp.2 nm (rRg t, rIb t, rEf t, rEt t, rCf t, rCt t) (((kd, bg, en, mk, le), tkk), (fk, zFaultP z), op, rOd t, rNu t, og)).2.1 2 ≤ 600 := by rw [← psA.2.1.1]; exact pw.2.1
        have h20 : (xRd tpm tp.2 nm (rRg t, rIb t, rEf t, rEt t, rCf t, rCt t) (((kd, bg, en, mk, le), tkk), (fk, zFaultP z), op, rOd t, rNu t, og)).2.2.1 2 ≤ 20 := by rw [← psA.2.2.1]; exact psA.2.2.2.1
        have hC := (ct_read1ok (CxL X) (CxD X) (b 0) (b 1) (b 5) (b 7) (b 19) (b 22) (b 37) (b 41) (b 45) (b 46) (b 53) (b 8) (b 9) (b 10) (b 11) (b 12) (b 13) (b 14) (b 15) (b 16) (b 17) (b 18) (b 6) h tp tk z (nI 1) rfl hTp.2.1 hf)
        have hM := (ct_mReadOk (CxL X) (CxD X) mo a tp.2 tr (hFs h) fb.2.2.2 yr.2.2.2.1 cq cm h.2.2.2.1 h.2.2.2.2.1 h.2.2.2.2.2 h.2.1 yr.2.2.2.2 h.1 ke tpm nm (((kd, bg, en, mk, le), tkk), (fk, zFaultP z), op, rOd t, rNu t, og) wt wn jt jn (rRg t, rIb t, rEf t, rEt t, rCf t, rCt t) 1 hTp.2.1 (by decide) gd_)
        clear ps
        generalize pParse (tkScan tp 601 0 0 tk) z = W_ at hC pr hf psA pw
        generalize tkScan tp 601 0 0 tk = U_ at hC
        generalize xRd tpm tp.2 nm (rRg t, rIb t, rEf t, rEt t, rCf t, rCt t) (((kd, bg, en, mk, le), tkk), (fk, zFaultP z), op, rOd t, rNu t, og) = R_ at hM gd_ psA fr h6 h20
        generalize xRdT tpm tp.2 nm (((kd, bg, en, mk, le), tkk), (fk, zFaultP z), op, rOd t, rNu t, og) = RT_ at hM
        refine r_aload_n (n := 219) hX dL_law_218 rfl rfl 1 rfl ?_
        refine r_aload_n (n := 220) hX dL_law_219 rfl rfl 0 rfl ?_
        refine r_iload_n (n := 221) hX dL_law_220 rfl rfl 3 rfl ?_
        refine r_iconst (n := 222) hX 1 dL_law_221 rfl rfl ?_
        refine r_iadd (n := 223) hX dL_law_222 rfl ?_
        refine Aw.topi (nI (i + 1)) (nI_add _ _) ?_
        refine r_sld (n := 224) (i := i + 1) hX hsc (by omega) hL dL_law_223 rfl ?_
        refine Aw.topi (nI 1) s1 ?_
        refine r_callV (n := 227) (av := [.int (nI 1)]) hX hC ml_L_23 cv_X10_read rfl (by decide) [0, 7, 8, 9, 10, 11, 12, 13, 14, 15, 16, 17, 18, 5, 6] rfl rfl (by decide) 0 rfl rfl rfl rfl rfl (Nat.le_of_ble_eq_true rfl) dL_law_224 rfl (fun r_ es_ h_ l_ => ?_)
        obtain ⟨rfl, rfl⟩ := h_
        refine Aw.esq (pw_28 : putAt (EW (CxD X) b mo a h fb tp z tk jv jk pl mt yr lg ha x1 x2 tp.2 (hFs h) fb.2.2.2 yr.2.2.2.1 (zFaultP z) h.2.2.2.1 h.2.2.2.2.1 h.2.2.2.2.2 h.2.1 yr.2.2.2.2 h.1 lg tr bg en tkk op wn jn cq cm fk kd mk le ke tpm t og nm mf hm io rh mn wt jt nw pil my ai L tl ch) [0, 7, 8, 9, 10, 11, 12, 13, 14, 15, 16, 17, 18, 5, 6] _ = [ob 10 [.ref (b 1), .ref (b 5), .ref (b 7), .ref (b 19), .ref (b 22), .ref (b 37), .ref (b 41), .ref (b 45), .ref (b 46), .ref (b 12), .int (b2 h.1), .int h.2.1, .int (nI (hFs h)), .int h.2.2.2.1, .int h.2.2.2.2.1, .int h.2.2.2.2.2], ob 0 [.ref (b 2), .ref (b 3), .ref (b 4), .int (nI fb.2.2.2)], aI (CxD X) 400 fb.1, aI (CxD X) 400 fb.2.1, aI (CxD X) 400 fb.2.2.1, ob 6 [.ref (b 6), .int (nI (tp.1, 0).2)], aB (CxD X) 3000 (tp.1, 0).1, ob 4 [.ref (b 8), .ref (b 53), .int (nI (zAt (W_.1, x2))), .int (nI (zOpen (W_.1, x2))), .int (zFault (W_.1, x2)), .int (zLate (W_.1, x2)), .int (zLateP (W_.1, x2)), .int (zFaultP (W_.1, x2))], ob 8 [.ref (b 9), .ref (b 10), .ref (b 11)], aI (CxD X) 601 U_.1, aI (CxD X) 601 (nf U_.2.1), aJ (CxD X) 601 U_.2.2, ob 7 [.ref (b 13), .ref (b 14), .ref (b 15), .ref (b 16), .ref (b 17), .ref (b 18), .int (nI (txSize W_.2)), .int (nI (txRules W_.2)), .int (nI (txTraits W_.2))], aI (CxD X) 600 W_.2.1, aZ (CxD X) 20 (zf W_.2.2.1), aI (CxD X) 20 (nf W_.2.2.2.1), aI (CxD X) 20 (nf W_.2.2.2.2.1), aI (CxD X) 20 (nf W_.2.2.2.2.2.1), aJ (CxD X) 8 W_.2.2.2.2.2.2.1, ob 1 [.ref (b 20), .ref (b 21)], aI (CxD X) 312 jv, aI (CxD X) 64 jk, ob 5 [.ref (b 23), .ref (b 24), .ref (b 25), .ref (b 26), .int (nI pl.2.2.2.2.1), .ref (b 27), .ref (b 28), .ref (b 29)], aI (CxD X) 144 (opf pl.1), aZ (CxD X) 12 (zf pl.2.1), aZ (CxD X) 12 (zf pl.2.2.1), aI (CxD X) 12 (opf pl.2.2.2.1), aZ (CxD X) 12 (zf pl.2.2.2.2.2.1), aI (CxD X) 12 (opf pl.2.2.2.2.2.2), ob 3 [.ref (b 30), .ref (b 31), .ref (b 32), .ref (b 33), .ref (b 34), .ref (b 35), .ref (b 36)], aJ (CxD X) 144 mt.1, aI (CxD X) 13 (opf mt.2.1), aJ (CxD X) 12 mt.2.2.1, aJ (CxD X) 13 mt.2.2.2.1, aJ (CxD X) 13 mt.2.2.2.2.1, aI (CxD X) 13 (nf mt.2.2.2.2.2.1), aZ (CxD X) 13 (zf mt.2.2.2.2.2.2), ob 9 [.ref (b 38), .ref (b 39), .ref (b 40), .int (nI yr.2.2.2.1), .int (b2 yr.2.2.2.2)], aI (CxD X) 12 (opf yr.1), aZ (CxD X) 12 (zf yr.2.1), aI (CxD X) 12 (nf yr.2.2.1), ob 2 [.ref (b 42), .ref (b 43), .ref (b 44)], aI (CxD X) 12 lg.1, aI (CxD X) 12 lg.2.1, aI (CxD X) 12 lg.2.2, aI (CxD X) 12 (opf ha), ob 7 [.ref (b 47), .ref (b 48), .ref (b 49), .ref (b 50), .ref (b 51), .ref (b 52), .int (nI (txSize x1)), .int (nI (txRules x1)), .int (nI (txTraits x1))], aI (CxD X) 600 x1.1, aZ (CxD X) 20 (zf x1.2.1), aI (CxD X) 20 (nf x1.2.2.1), aI (CxD X) 20 (nf x1.2.2.2.1), aI (CxD X) 20 (nf x1.2.2.2.2.1), aJ (CxD X) 8 x1.2.2.2.2.2.1, ob 7 [.ref (b 54), .ref (b 55), .ref (b 56), .ref (b 57), .ref (b 58), .ref (b 59), .int (nI (txSize (W_.1, x2).2)), .int (nI (txRules (W_.1, x2).2)), .int (nI (txTraits (W_.1, x2).2))], aI (CxD X) 600 (W_.1, x2).2.1, aZ (CxD X) 20 (zf (W_.1, x2).2.2.1), aI (CxD X) 20 (nf (W_.1, x2).2.2.2.1), aI (CxD X) 20 (nf (W_.1, x2).2.2.2.2.1), aI (CxD X) 20 (nf (W_.1, x2).2.2.2.2.2.1), aJ (CxD X) 8 (W_.1, x2).2.2.2.2.2.2.1, ob 11 (.ref (a 0) :: .int (nI tp.2) :: .int fk :: .int (zFaultP z) :: .ref (a 4) :: .ref (a 5) :: .ref (a 6) :: .ref (a 7) :: .ref (a 8) :: .ref (a 9) :: .ref (a 10) :: .ref (a 11) :: .ref (a 12) :: .ref (a 13) :: .int (nI tr) :: .int (nI (hFs h)) :: .int h.2.2.2.1 :: .int h.2.2.2.2.1 :: .int (nI fb.2.2.2) :: .ref (a 19) :: .ref (a 20) :: .ref (a 21) :: .ref (a 22) :: .ref (a 23) :: .ref (a 24) :: .ref (a 25) :: .ref (a 26) :: .ref (a 27) :: .int (b2 yr.2.2.2.2) :: .int h.2.2.2.2.2 :: .int (b2 h.1) :: .ref (a 31) :: .int h.2.1 :: .ref (a 33) :: .int (nI yr.2.2.2.1) :: .int kd :: .int (nI bg) :: .int (nI en) :: .int mk :: .long le :: .int (nI tkk) :: .int (nI op) :: .ref (a 42) :: .int (nI wn) :: .ref (a 44) :: .int (nI jn) :: .ref (a 46) :: .ref (a 47) :: .ref (a 48) :: .ref (a 49) :: .ref (a 50) :: .ref (a 51) :: .int (b2 ke) :: .ref (a 53) :: .ref (a 54) :: .ref (a 55) :: .int (nI cq) :: .int (nI cm) :: []), aB (CxD X) 3000 tpm, aI (CxD X) 3900 (rOd t), aI (CxD X) 3900 (rNu t), aI (CxD X) 3 (nf og), aI (CxD X) 3 (nf (rRg t)), aZ (CxD X) 60 (zf (rIb t)), aI (CxD X) 60 (nf (rEf t)), aI (CxD X) 60 (nf (rEt t)), aI (CxD X) 60 (nf (rCf t)), aI (CxD X) 60 (nf (rCt t)), aJ (CxD X) 8 nm, aI (CxD X) 400 (nf mf.1), aI (CxD X) 400 (nf mf.2.1), aI (CxD X) 400 mf.2.2.1, aI (CxD X) 400 mf.2.2.2, aI (CxD X) 12 (opf hm), aZ (CxD X) 12 (zf io), aI (CxD X) 12 lg.1, aI (CxD X) 12 lg.2.1, aI (CxD X) 12 lg.2.2, aI (CxD X) 12 (opf rh), aI (CxD X) 12 (nf mn), aI (CxD X) 40 wt, aI (CxD X) 40 jt, aI (CxD X) 384 nw, aI (CxD X) 700 pil, aI (CxD X) 144 (nf my.1), aZ (CxD X) 12 (zf my.2.1), aZ (CxD X) 12 (zf my.2.2), aI (CxD X) 12 (opf ai), aI (CxD X) 53248 (nf L), aI (CxD X) 12 (opf tl), aI (CxD X) 12 (opf ch)]) ?_
        refine Aw.perm (ks' := KS (bsw 53 b) mo a) (es' := EW (CxD X) (bsw 53 b) mo a h fb (tp.1, 0) (W_.1, x2) U_ jv jk pl mt yr lg ha x1 W_.2 tp.2 (hFs h) fb.2.2.2 yr.2.2.2.1 (zFaultP z) h.2.2.2.1 h.2.2.2.2.1 h.2.2.2.2.2 h.2.1 yr.2.2.2.2 h.1 lg tr bg en tkk op wn jn cq cm fk kd mk le ke tpm t og nm mf hm io rh mn wt jt nw pil my ai L tl ch) [0, 1, 2, 3, 4, 5, 6, 7, 8, 9, 10, 11, 53, 54, 55, 56, 57, 58, 59, 19, 20, 21, 22, 23, 24, 25, 26, 27, 28, 29, 30, 31, 32, 33, 34, 35, 36, 37, 38, 39, 40, 41, 42, 43, 44, 45, 46, 47, 48, 49, 50, 51, 52, 12, 13, 14, 15, 16, 17, 18, 60, 61, 62, 63, 64, 65, 66, 67, 68, 69, 70, 71, 72, 73, 74, 75, 76, 77, 78, 79, 80, 81, 82, 83, 84, 85, 86, 87, 88, 89, 90, 91, 92, 93] rfl rfl (by decide) ?_
        show Aw X (KS (bsw 53 b) mo a) (EW (CxD X) (bsw 53 b) mo a h fb (tp.1, 0) (W_.1, x2) U_ jv jk pl mt yr lg ha x1 W_.2 tp.2 (hFs h) fb.2.2.2 yr.2.2.2.1 (zFaultP z) h.2.2.2.1 h.2.2.2.2.1 h.2.2.2.2.2 h.2.1 yr.2.2.2.2 h.1 lg tr bg en tkk op wn jn cq cm fk kd mk le ke tpm t og nm mf hm io rh mn wt jt nw pil my ai L tl ch) 227 [(0, .ref sc), (1, .ref (b 0)), (2, .ref mo), (3, .int (nI i))] [.int (zFault W_)]
        refine r_aload_n (n := 228) hX dL_law_227 rfl rfl 2 rfl ?_
        refine r_aload_n (n := 229) hX dL_law_228 rfl rfl 0 rfl ?_
        refine r_iload_n (n := 230) hX dL_law_229 rfl rfl 3 rfl ?_
        refine r_iconst (n := 231) hX 1 dL_law_230 rfl rfl ?_
        refine r_iadd (n := 232) hX dL_law_231 rfl ?_
        refine Aw.topi (nI (i + 1)) (nI_add _ _) ?_
        refine r_sld (n := 233) (i := i + 1) hX hsc (by omega) hL dL_law_232 rfl ?_
        refine Aw.topi (nI 1) s1 ?_
        refine r_callV (n := 236) (av := [.int (nI 1)]) hX hM ml_L_26 cv_X11_read rfl (by decide) [60, 61, 62, 63, 64, 71, 83, 84, 65, 66, 67, 68, 69, 70] rfl rfl (by decide) 60 rfl rfl rfl rfl rfl (Nat.le_of_ble_eq_true rfl) dL_law_233 rfl (fun r_ es_ h_ l_ => ?_)
        obtain ⟨rfl, wt_, wn_, jt_, jn_, rfl⟩ := h_
        refine Aw.esq (pw_29 : putAt (EW (CxD X) (bsw 53 b) mo a h fb (tp.1, 0) (W_.1, x2) U_ jv jk pl mt yr lg ha x1 W_.2 tp.2 (hFs h) fb.2.2.2 yr.2.2.2.1 (zFaultP z) h.2.2.2.1 h.2.2.2.2.1 h.2.2.2.2.2 h.2.1 yr.2.2.2.2 h.1 lg tr bg en tkk op wn jn cq cm fk kd mk le ke tpm t og nm mf hm io rh mn wt jt nw pil my ai L tl ch) [60, 61, 62, 63, 64, 71, 83, 84, 65, 66, 67, 68, 69, 70] _ = EW (CxD X) (bsw 53 b) mo a h fb (tp.1, 0) (W_.1, x2) U_ jv jk pl mt yr lg ha x1 W_.2 0 (hFs h) fb.2.2.2 yr.2.2.2.1 (xFp (xCpZ 1 R_.2.1)) h.2.2.2.1 h.2.2.2.2.1 h.2.2.2.2.2 h.2.1 yr.2.2.2.2 h.1 lg RT_.2.2.1 (xBg (xCpZ 1 R_.2.1)) (xEn (xCpZ 1 R_.2.1)) (xTk (xCpZ 1 R_.2.1)) (xOp (xCpZ 1 R_.2.1)) wn_ jn_ cq cm (xFk (xCpZ 1 R_.2.1)) (xKd (xCpZ 1 R_.2.1)) (xMk (xCpZ 1 R_.2.1)) (xLe (xCpZ 1 R_.2.1)) ke tpm (xOr (xCpZ 1 R_.2.1), xNu (xCpZ 1 R_.2.1), (xCpQ 1 R_.2.2).1, (xCpQ 1 R_.2.2).2.1, (xCpQ 1 R_.2.2).2.2.1, (xCpQ 1 R_.2.2).2.2.2.1, (xCpQ 1 R_.2.2).2.2.2.2.1, (xCpQ 1 R_.2.2).2.2.2.2.2) (xOg (xCpZ 1 R_.2.1)) RT_.2.2.2 mf hm io rh mn wt_ jt_ nw pil my ai L tl ch) ?_
        show Aw X (KS (bsw 53 b) mo a) (EW (CxD X) (bsw 53 b) mo a h fb (tp.1, 0) (W_.1, x2) U_ jv jk pl mt yr lg ha x1 W_.2 0 (hFs h) fb.2.2.2 yr.2.2.2.1 (xFp (xCpZ 1 R_.2.1)) h.2.2.2.1 h.2.2.2.2.1 h.2.2.2.2.2 h.2.1 yr.2.2.2.2 h.1 lg RT_.2.2.1 (xBg (xCpZ 1 R_.2.1)) (xEn (xCpZ 1 R_.2.1)) (xTk (xCpZ 1 R_.2.1)) (xOp (xCpZ 1 R_.2.1)) wn_ jn_ cq cm (xFk (xCpZ 1 R_.2.1)) (xKd (xCpZ 1 R_.2.1)) (xMk (xCpZ 1 R_.2.1)) (xLe (xCpZ 1 R_.2.1)) ke tpm (xOr (xCpZ 1 R_.2.1), xNu (xCpZ 1 R_.2.1), (xCpQ 1 R_.2.2).1, (xCpQ 1 R_.2.2).2.1, (xCpQ 1 R_.2.2).2.2.1, (xCpQ 1 R_.2.2).2.2.2.1, (xCpQ 1 R_.2.2).2.2.2.2.1, (xCpQ 1 R_.2.2).2.2.2.2.2) (xOg (xCpZ 1 R_.2.1)) RT_.2.2.2 mf hm io rh mn wt_ jt_ nw pil my ai L tl ch) 236 [(0, .ref sc), (1, .ref (b 0)), (2, .ref mo), (3, .int (nI i))] [.int (0), .int (zFault W_)]
        refine r_icmp_eq (tgt := 735) (n := 239) hX dL_law_236 (by decide) rfl (fun _ => ?_) (fun hne => absurd (hf) hne)
        exact kk (bsw 53 b) h fb (tp.1, 0) (W_.1, x2) U_ jv jk pl mt yr lg ha x1 W_.2 0 (hFs h) fb.2.2.2 yr.2.2.2.1 (xFp (xCpZ 1 R_.2.1)) h.2.2.2.1 h.2.2.2.2.1 h.2.2.2.2.2 h.2.1 yr.2.2.2.2 h.1 lg RT_.2.2.1 (xBg (xCpZ 1 R_.2.1)) (xEn (xCpZ 1 R_.2.1)) (xTk (xCpZ 1 R_.2.1)) (xOp (xCpZ 1 R_.2.1)) wn_ jn_ cq cm (xFk (xCpZ 1 R_.2.1)) (xKd (xCpZ 1 R_.2.1)) (xMk (xCpZ 1 R_.2.1)) (xLe (xCpZ 1 R_.2.1)) ke tpm (xOr (xCpZ 1 R_.2.1), xNu (xCpZ 1 R_.2.1), (xCpQ 1 R_.2.2).1, (xCpQ 1 R_.2.2).2.1, (xCpQ 1 R_.2.2).2.2.1, (xCpQ 1 R_.2.2).2.2.2.1, (xCpQ 1 R_.2.2).2.2.2.2.1, (xCpQ 1 R_.2.2).2.2.2.2.2) (xOg (xCpZ 1 R_.2.1)) RT_.2.2.2 mf hm io rh mn wt_ jt_ nw pil my ai L tl ch rfl ⟨⟨rfl, rfl, rfl, rfl, psA.1.symm, rfl, rfl, rfl, rfl, rfl, rfl, rfl⟩, ⟨⟨rfl, by show 0 ≤ 3000; decide, fun k hk => absurd hk (Nat.not_lt_zero _)⟩, hFc, (ok_TxR hT1 (sl := 1) (o := 0) (by decide) (by decide) (by decide) rfl rfl fr.1 fr.2 h6 h20), (copy_TxR (by decide) psA.2.1 gd_.2 psA.2.2 pw)⟩, ⟨hW1, pr.1, hW2⟩, ⟨hPlI, hMt, hn⟩, ⟨hHa, hHm, hIo, hFn⟩, ⟨hMv, hMn⟩, (hDb.more (Nat.le_succ _)), ⟨oHa, oRh, hMy, oAi⟩, hLs, oTl, oCh, zHa, hBg⟩
      · have bd_ : ¬ ((xRd tpm tp.2 nm (rRg t, rIb t, rEf t, rEt t, rCf t, rCt t) (((kd, bg, en, mk, le), tkk), (fk, zFaultP z), op, rOd t, rNu t, og)).1 = true ∧ xFk (xRd tpm tp.2 nm (rRg t, rIb t, rEf t, rEt t, rCf t, rCt t) (((kd, bg, en, mk, le), tkk), (fk, zFaultP z), op, rOd t, rNu t, og)).2.1 = 0) := fun q => by
          rcases ps with w | w
          · exact hf (w.2.1.trans q.2)
          · rw [w.1] at q; exact absurd q.1 (by decide)
        have psB : zFault (pParse (tkScan tp 601 0 0 tk) z) = xFk (xRd tpm tp.2 nm (rRg t, rIb t, rEf t, rEt t, rCf t, rCt t) (((kd, bg, en, mk, le), tkk), (fk, zFaultP z), op, rOd t, rNu t, og)).2.1 ∧ zFaultP (pParse (tkScan tp 601 0 0 tk) z) = xFp (xRd tpm tp.2 nm (rRg t, rIb t, rEf t, rEt t, rCf t, rCt t) (((kd, bg, en, mk, le), tkk), (fk, zFaultP z), op, rOd t, rNu t, og)).2.1 := by
          rcases ps with w | w
          · exact ⟨w.2.1, w.2.2.1⟩
          · exact ⟨w.2.2.1, w.2.2.2⟩
        have hC := (ct_read1no (CxL X) (CxD X) (b 0) (b 1) (b 5) (b 7) (b 19) (b 22) (b 37) (b 41) (b 45) (b 46) (b 53) (b 8) (b 9) (b 10) (b 11) (b 12) (b 13) (b 14) (b 15) (b 16) (b 17) (b 18) (b 6) h tp tk z (nI 1) rfl hTp.2.1 hf)
        have hM := (ct_mReadBad (CxL X) (CxD X) mo a tp.2 tr (hFs h) fb.2.2.2 yr.2.2.2.1 cq cm h.2.2.2.1 h.2.2.2.2.1 h.2.2.2.2.2 h.2.1 yr.2.2.2.2 h.1 ke tpm nm (((kd, bg, en, mk, le), tkk), (fk, zFaultP z), op, rOd t, rNu t, og) wt wn jt jn (rRg t, rIb t, rEf t, rEt t, rCf t, rCt t) 1 hTp.2.1 (by decide) bd_)
        clear ps
        generalize pParse (tkScan tp 601 0 0 tk) z = W_ at hC pr hf psB
        generalize tkScan tp 601 0 0 tk = U_ at hC
        generalize xRd tpm tp.2 nm (rRg t, rIb t, rEf t, rEt t, rCf t, rCt t) (((kd, bg, en, mk, le), tkk), (fk, zFaultP z), op, rOd t, rNu t, og) = R_ at hM bd_ psB fr
        generalize xRdT tpm tp.2 nm (((kd, bg, en, mk, le), tkk), (fk, zFaultP z), op, rOd t, rNu t, og) = RT_ at hM
        refine r_aload_n (n := 219) hX dL_law_218 rfl rfl 1 rfl ?_
        refine r_aload_n (n := 220) hX dL_law_219 rfl rfl 0 rfl ?_
        refine r_iload_n (n := 221) hX dL_law_220 rfl rfl 3 rfl ?_
        refine r_iconst (n := 222) hX 1 dL_law_221 rfl rfl ?_
        refine r_iadd (n := 223) hX dL_law_222 rfl ?_
        refine Aw.topi (nI (i + 1)) (nI_add _ _) ?_
        refine r_sld (n := 224) (i := i + 1) hX hsc (by omega) hL dL_law_223 rfl ?_
        refine Aw.topi (nI 1) s1 ?_
        refine r_callV (n := 227) (av := [.int (nI 1)]) hX hC ml_L_23 cv_X10_read rfl (by decide) [0, 7, 8, 9, 10, 11, 12, 13, 14, 15, 16, 17, 18, 5, 6] rfl rfl (by decide) 0 rfl rfl rfl rfl rfl (Nat.le_of_ble_eq_true rfl) dL_law_224 rfl (fun r_ es_ h_ l_ => ?_)
        obtain ⟨rfl, rfl⟩ := h_
        refine Aw.esq (pw_28 : putAt (EW (CxD X) b mo a h fb tp z tk jv jk pl mt yr lg ha x1 x2 tp.2 (hFs h) fb.2.2.2 yr.2.2.2.1 (zFaultP z) h.2.2.2.1 h.2.2.2.2.1 h.2.2.2.2.2 h.2.1 yr.2.2.2.2 h.1 lg tr bg en tkk op wn jn cq cm fk kd mk le ke tpm t og nm mf hm io rh mn wt jt nw pil my ai L tl ch) [0, 7, 8, 9, 10, 11, 12, 13, 14, 15, 16, 17, 18, 5, 6] _ = EW (CxD X) b mo a h fb (tp.1, 0) W_ U_ jv jk pl mt yr lg ha x1 x2 tp.2 (hFs h) fb.2.2.2 yr.2.2.2.1 (zFaultP z) h.2.2.2.1 h.2.2.2.2.1 h.2.2.2.2.2 h.2.1 yr.2.2.2.2 h.1 lg tr bg en tkk op wn jn cq cm fk kd mk le ke tpm t og nm mf hm io rh mn wt jt nw pil my ai L tl ch) ?_
        show Aw X (KS b mo a) (EW (CxD X) b mo a h fb (tp.1, 0) W_ U_ jv jk pl mt yr lg ha x1 x2 tp.2 (hFs h) fb.2.2.2 yr.2.2.2.1 (zFaultP z) h.2.2.2.1 h.2.2.2.2.1 h.2.2.2.2.2 h.2.1 yr.2.2.2.2 h.1 lg tr bg en tkk op wn jn cq cm fk kd mk le ke tpm t og nm mf hm io rh mn wt jt nw pil my ai L tl ch) 227 [(0, .ref sc), (1, .ref (b 0)), (2, .ref mo), (3, .int (nI i))] [.int (zFault W_)]
        refine r_aload_n (n := 228) hX dL_law_227 rfl rfl 2 rfl ?_
        refine r_aload_n (n := 229) hX dL_law_228 rfl rfl 0 rfl ?_
        refine r_iload_n (n := 230) hX dL_law_229 rfl rfl 3 rfl ?_
        refine r_iconst (n := 231) hX 1 dL_law_230 rfl rfl ?_
        refine r_iadd (n := 232) hX dL_law_231 rfl ?_
        refine Aw.topi (nI (i + 1)) (nI_add _ _) ?_
        refine r_sld (n := 233) (i := i + 1) hX hsc (by omega) hL dL_law_232 rfl ?_
        refine Aw.topi (nI 1) s1 ?_
        refine r_callV (n := 236) (av := [.int (nI 1)]) hX hM ml_L_26 cv_X11_read rfl (by decide) [60, 61, 62, 63, 64, 71, 83, 84, 65, 66, 67, 68, 69, 70] rfl rfl (by decide) 60 rfl rfl rfl rfl rfl (Nat.le_of_ble_eq_true rfl) dL_law_233 rfl (fun r_ es_ h_ l_ => ?_)
        obtain ⟨rfl, wt_, wn_, jt_, jn_, p_, rfl, hp_⟩ := h_
        refine Aw.esq (pw_29 : putAt (EW (CxD X) b mo a h fb (tp.1, 0) W_ U_ jv jk pl mt yr lg ha x1 x2 tp.2 (hFs h) fb.2.2.2 yr.2.2.2.1 (zFaultP z) h.2.2.2.1 h.2.2.2.2.1 h.2.2.2.2.2 h.2.1 yr.2.2.2.2 h.1 lg tr bg en tkk op wn jn cq cm fk kd mk le ke tpm t og nm mf hm io rh mn wt jt nw pil my ai L tl ch) [60, 61, 62, 63, 64, 71, 83, 84, 65, 66, 67, 68, 69, 70] _ = EW (CxD X) b mo a h fb (tp.1, 0) W_ U_ jv jk pl mt yr lg ha x1 x2 0 (hFs h) fb.2.2.2 yr.2.2.2.1 (xFp R_.2.1) h.2.2.2.1 h.2.2.2.2.1 h.2.2.2.2.2 h.2.1 yr.2.2.2.2 h.1 lg RT_.2.2.1 (xBg R_.2.1) (xEn R_.2.1) (xTk R_.2.1) (xOp R_.2.1) wn_ jn_ cq cm (xFk R_.2.1) (xKd R_.2.1) (xMk R_.2.1) (xLe R_.2.1) ke tpm (xOr R_.2.1, xNu R_.2.1, p_.1, p_.2.1, p_.2.2.1, p_.2.2.2.1, p_.2.2.2.2.1, p_.2.2.2.2.2) (xOg R_.2.1) RT_.2.2.2 mf hm io rh mn wt_ jt_ nw pil my ai L tl ch) ?_
        show Aw X (KS b mo a) (EW (CxD X) b mo a h fb (tp.1, 0) W_ U_ jv jk pl mt yr lg ha x1 x2 0 (hFs h) fb.2.2.2 yr.2.2.2.1 (xFp R_.2.1) h.2.2.2.1 h.2.2.2.2.1 h.2.2.2.2.2 h.2.1 yr.2.2.2.2 h.1 lg RT_.2.2.1 (xBg R_.2.1) (xEn R_.2.1) (xTk R_.2.1) (xOp R_.2.1) wn_ jn_ cq cm (xFk R_.2.1) (xKd R_.2.1) (xMk R_.2.1) (xLe R_.2.1) ke tpm (xOr R_.2.1, xNu R_.2.1, p_.1, p_.2.1, p_.2.2.1, p_.2.2.2.1, p_.2.2.2.2.1, p_.2.2.2.2.2) (xOg R_.2.1) RT_.2.2.2 mf hm io rh mn wt_ jt_ nw pil my ai L tl ch) 236 [(0, .ref sc), (1, .ref (b 0)), (2, .ref mo), (3, .int (nI i))] [.int (xFk R_.2.1), .int (zFault W_)]
        refine r_icmp_eq (tgt := 735) (n := 239) hX dL_law_236 (by decide) rfl (fun _ => ?_) (fun hne => absurd (psB.1) hne)
        exact kk b h fb (tp.1, 0) W_ U_ jv jk pl mt yr lg ha x1 x2 0 (hFs h) fb.2.2.2 yr.2.2.2.1 (xFp R_.2.1) h.2.2.2.1 h.2.2.2.2.1 h.2.2.2.2.2 h.2.1 yr.2.2.2.2 h.1 lg RT_.2.2.1 (xBg R_.2.1) (xEn R_.2.1) (xTk R_.2.1) (xOp R_.2.1) wn_ jn_ cq cm (xFk R_.2.1) (xKd R_.2.1) (xMk R_.2.1) (xLe R_.2.1) ke tpm (xOr R_.2.1, xNu R_.2.1, p_.1, p_.2.1, p_.2.2.1, p_.2.2.2.1, p_.2.2.2.2.1, p_.2.2.2.2.2) (xOg R_.2.1) RT_.2.2.2 mf hm io rh mn wt_ jt_ nw pil my ai L tl ch rfl ⟨⟨rfl, rfl, rfl, rfl, psB.2.symm, rfl, rfl, rfl, rfl, rfl, rfl, rfl⟩, ⟨⟨rfl, by show 0 ≤ 3000; decide, fun k hk => absurd hk (Nat.not_lt_zero _)⟩, hFc, (bad_TxR hT1 (by decide) rfl rfl fr.1 hp_), (bad_TxR hT2 (by decide) rfl rfl fr.1 hp_)⟩, ⟨hW1, hW2, pr.1⟩, ⟨hPlI, hMt, hn⟩, ⟨hHa, hHm, hIo, hFn⟩, ⟨hMv, hMn⟩, (hDb.more (Nat.le_succ _)), ⟨oHa, oRh, hMy, oAi⟩, hLs, oTl, oCh, zHa, hBg⟩
    · clear ps pr fr
      by_cases hw : (xs (i + 1)) < 0
      · skip
        refine r_aload_n (n := 219) hX dL_law_218 rfl rfl 1 rfl ?_
        refine r_aload_n (n := 220) hX dL_law_219 rfl rfl 0 rfl ?_
        refine r_iload_n (n := 221) hX dL_law_220 rfl rfl 3 rfl ?_
        refine r_iconst (n := 222) hX 1 dL_law_221 rfl rfl ?_
        refine r_iadd (n := 223) hX dL_law_222 rfl ?_
        refine Aw.topi (nI (i + 1)) (nI_add _ _) ?_
        refine r_sld (n := 224) (i := i + 1) hX hsc (by omega) hL dL_law_223 rfl ?_
        refine r_callV (n := 227) (av := [.int (xs (i + 1))]) hX (ct_readNN (CxL X) (CxD X) (b 0) (b 1) (b 5) (b 7) (b 19) (b 22) (b 37) (b 41) (b 45) (b 46) (b 53) h (xs (i + 1)) s0 s1) ml_L_23 cv_X10_read rfl (by decide) [0] rfl rfl (by decide) 0 rfl rfl rfl rfl rfl (Nat.le_of_ble_eq_true rfl) dL_law_224 rfl (fun r_ es_ h_ l_ => ?_)
        obtain ⟨rfl, rfl⟩ := h_
        refine Aw.esq (pw_2 : putAt (EW (CxD X) b mo a h fb tp z tk jv jk pl mt yr lg ha x1 x2 tp.2 (hFs h) fb.2.2.2 yr.2.2.2.1 (zFaultP z) h.2.2.2.1 h.2.2.2.2.1 h.2.2.2.2.2 h.2.1 yr.2.2.2.2 h.1 lg tr bg en tkk op wn jn cq cm fk kd mk le ke tpm t og nm mf hm io rh mn wt jt nw pil my ai L tl ch) [0] _ = EW (CxD X) b mo a h fb tp z tk jv jk pl mt yr lg ha x1 x2 tp.2 (hFs h) fb.2.2.2 yr.2.2.2.1 (zFaultP z) h.2.2.2.1 h.2.2.2.2.1 h.2.2.2.2.2 h.2.1 yr.2.2.2.2 h.1 lg tr bg en tkk op wn jn cq cm fk kd mk le ke tpm t og nm mf hm io rh mn wt jt nw pil my ai L tl ch) ?_
        show Aw X (KS b mo a) (EW (CxD X) b mo a h fb tp z tk jv jk pl mt yr lg ha x1 x2 tp.2 (hFs h) fb.2.2.2 yr.2.2.2.1 (zFaultP z) h.2.2.2.1 h.2.2.2.2.1 h.2.2.2.2.2 h.2.1 yr.2.2.2.2 h.1 lg tr bg en tkk op wn jn cq cm fk kd mk le ke tpm t og nm mf hm io rh mn wt jt nw pil my ai L tl ch) 227 [(0, .ref sc), (1, .ref (b 0)), (2, .ref mo), (3, .int (nI i))] [.int (-1)]
        refine r_aload_n (n := 228) hX dL_law_227 rfl rfl 2 rfl ?_
        refine r_aload_n (n := 229) hX dL_law_228 rfl rfl 0 rfl ?_
        refine r_iload_n (n := 230) hX dL_law_229 rfl rfl 3 rfl ?_
        refine r_iconst (n := 231) hX 1 dL_law_230 rfl rfl ?_
        refine r_iadd (n := 232) hX dL_law_231 rfl ?_
        refine Aw.topi (nI (i + 1)) (nI_add _ _) ?_
        refine r_sld (n := 233) (i := i + 1) hX hsc (by omega) hL dL_law_232 rfl ?_
        refine r_callV (n := 236) (av := [.int (xs (i + 1))]) hX (ct_mReadNeg (CxL X) (CxD X) mo a tp.2 tr (hFs h) fb.2.2.2 yr.2.2.2.1 bg en tkk op wn jn cq cm fk (zFaultP z) h.2.2.2.1 h.2.2.2.2.1 h.2.2.2.2.2 h.2.1 kd mk le yr.2.2.2.2 h.1 ke (xs (i + 1)) hw) ml_L_26 cv_X11_read rfl (by decide) [60] rfl rfl (by decide) 60 rfl rfl rfl rfl rfl (Nat.le_of_ble_eq_true rfl) dL_law_233 rfl (fun r_ es_ h_ l_ => ?_)
        obtain ⟨rfl, rfl⟩ := h_
        refine Aw.esq (pw_3 : putAt (EW (CxD X) b mo a h fb tp z tk jv jk pl mt yr lg ha x1 x2 tp.2 (hFs h) fb.2.2.2 yr.2.2.2.1 (zFaultP z) h.2.2.2.1 h.2.2.2.2.1 h.2.2.2.2.2 h.2.1 yr.2.2.2.2 h.1 lg tr bg en tkk op wn jn cq cm fk kd mk le ke tpm t og nm mf hm io rh mn wt jt nw pil my ai L tl ch) [60] _ = EW (CxD X) b mo a h fb tp z tk jv jk pl mt yr lg ha x1 x2 tp.2 (hFs h) fb.2.2.2 yr.2.2.2.1 (zFaultP z) h.2.2.2.1 h.2.2.2.2.1 h.2.2.2.2.2 h.2.1 yr.2.2.2.2 h.1 lg tr bg en tkk op wn jn cq cm fk kd mk le ke tpm t og nm mf hm io rh mn wt jt nw pil my ai L tl ch) ?_
        show Aw X (KS b mo a) (EW (CxD X) b mo a h fb tp z tk jv jk pl mt yr lg ha x1 x2 tp.2 (hFs h) fb.2.2.2 yr.2.2.2.1 (zFaultP z) h.2.2.2.1 h.2.2.2.2.1 h.2.2.2.2.2 h.2.1 yr.2.2.2.2 h.1 lg tr bg en tkk op wn jn cq cm fk kd mk le ke tpm t og nm mf hm io rh mn wt jt nw pil my ai L tl ch) 236 [(0, .ref sc), (1, .ref (b 0)), (2, .ref mo), (3, .int (nI i))] [.int (-1), .int (-1)]
        refine r_icmp_eq (tgt := 735) (n := 239) hX dL_law_236 (by decide) rfl (fun _ => ?_) (fun hne => absurd (rfl) hne)
        exact kk b h fb tp z tk jv jk pl mt yr lg ha x1 x2 tp.2 (hFs h) fb.2.2.2 yr.2.2.2.1 (zFaultP z) h.2.2.2.1 h.2.2.2.2.1 h.2.2.2.2.2 h.2.1 yr.2.2.2.2 h.1 lg tr bg en tkk op wn jn cq cm fk kd mk le ke tpm t og nm mf hm io rh mn wt jt nw pil my ai L tl ch rfl ⟨⟨rfl, rfl, rfl, rfl, rfl, rfl, rfl, rfl, rfl, rfl, rfl, rfl⟩, ⟨hTp, hFc, hT1, hT2⟩, ⟨hW1, hW2, hWz⟩, ⟨hPlI, hMt, hn⟩, ⟨hHa, hHm, hIo, hFn⟩, ⟨hMv, hMn⟩, (hDb.more (Nat.le_succ _)), ⟨oHa, oRh, hMy, oAi⟩, hLs, oTl, oCh, zHa, hBg⟩
      · have so : ¬ (xs (i + 1)) ≤ 1 := by
          rcases sl_out s0 s1 with q | q
          · exact absurd q hw
          · exact Int32.not_le.2 q
        refine r_aload_n (n := 219) hX dL_law_218 rfl rfl 1 rfl ?_
        refine r_aload_n (n := 220) hX dL_law_219 rfl rfl 0 rfl ?_
        refine r_iload_n (n := 221) hX dL_law_220 rfl rfl 3 rfl ?_
        refine r_iconst (n := 222) hX 1 dL_law_221 rfl rfl ?_
        refine r_iadd (n := 223) hX dL_law_222 rfl ?_
        refine Aw.topi (nI (i + 1)) (nI_add _ _) ?_
        refine r_sld (n := 224) (i := i + 1) hX hsc (by omega) hL dL_law_223 rfl ?_
        refine r_callV (n := 227) (av := [.int (xs (i + 1))]) hX (ct_readNN (CxL X) (CxD X) (b 0) (b 1) (b 5) (b 7) (b 19) (b 22) (b 37) (b 41) (b 45) (b 46) (b 53) h (xs (i + 1)) s0 s1) ml_L_23 cv_X10_read rfl (by decide) [0] rfl rfl (by decide) 0 rfl rfl rfl rfl rfl (Nat.le_of_ble_eq_true rfl) dL_law_224 rfl (fun r_ es_ h_ l_ => ?_)
        obtain ⟨rfl, rfl⟩ := h_
        refine Aw.esq (pw_2 : putAt (EW (CxD X) b mo a h fb tp z tk jv jk pl mt yr lg ha x1 x2 tp.2 (hFs h) fb.2.2.2 yr.2.2.2.1 (zFaultP z) h.2.2.2.1 h.2.2.2.2.1 h.2.2.2.2.2 h.2.1 yr.2.2.2.2 h.1 lg tr bg en tkk op wn jn cq cm fk kd mk le ke tpm t og nm mf hm io rh mn wt jt nw pil my ai L tl ch) [0] _ = EW (CxD X) b mo a h fb tp z tk jv jk pl mt yr lg ha x1 x2 tp.2 (hFs h) fb.2.2.2 yr.2.2.2.1 (zFaultP z) h.2.2.2.1 h.2.2.2.2.1 h.2.2.2.2.2 h.2.1 yr.2.2.2.2 h.1 lg tr bg en tkk op wn jn cq cm fk kd mk le ke tpm t og nm mf hm io rh mn wt jt nw pil my ai L tl ch) ?_
        show Aw X (KS b mo a) (EW (CxD X) b mo a h fb tp z tk jv jk pl mt yr lg ha x1 x2 tp.2 (hFs h) fb.2.2.2 yr.2.2.2.1 (zFaultP z) h.2.2.2.1 h.2.2.2.2.1 h.2.2.2.2.2 h.2.1 yr.2.2.2.2 h.1 lg tr bg en tkk op wn jn cq cm fk kd mk le ke tpm t og nm mf hm io rh mn wt jt nw pil my ai L tl ch) 227 [(0, .ref sc), (1, .ref (b 0)), (2, .ref mo), (3, .int (nI i))] [.int (-1)]
        refine r_aload_n (n := 228) hX dL_law_227 rfl rfl 2 rfl ?_
        refine r_aload_n (n := 229) hX dL_law_228 rfl rfl 0 rfl ?_
        refine r_iload_n (n := 230) hX dL_law_229 rfl rfl 3 rfl ?_
        refine r_iconst (n := 231) hX 1 dL_law_230 rfl rfl ?_
        refine r_iadd (n := 232) hX dL_law_231 rfl ?_
        refine Aw.topi (nI (i + 1)) (nI_add _ _) ?_
        refine r_sld (n := 233) (i := i + 1) hX hsc (by omega) hL dL_law_232 rfl ?_
        refine r_callV (n := 236) (av := [.int (xs (i + 1))]) hX (ct_mReadBig (CxL X) (CxD X) mo a tp.2 tr (hFs h) fb.2.2.2 yr.2.2.2.1 bg en tkk op wn jn cq cm fk (zFaultP z) h.2.2.2.1 h.2.2.2.2.1 h.2.2.2.2.2 h.2.1 kd mk le yr.2.2.2.2 h.1 ke (xs (i + 1)) hw so) ml_L_26 cv_X11_read rfl (by decide) [60] rfl rfl (by decide) 60 rfl rfl rfl rfl rfl (Nat.le_of_ble_eq_true rfl) dL_law_233 rfl (fun r_ es_ h_ l_ => ?_)
        obtain ⟨rfl, rfl⟩ := h_
        refine Aw.esq (pw_3 : putAt (EW (CxD X) b mo a h fb tp z tk jv jk pl mt yr lg ha x1 x2 tp.2 (hFs h) fb.2.2.2 yr.2.2.2.1 (zFaultP z) h.2.2.2.1 h.2.2.2.2.1 h.2.2.2.2.2 h.2.1 yr.2.2.2.2 h.1 lg tr bg en tkk op wn jn cq cm fk kd mk le ke tpm t og nm mf hm io rh mn wt jt nw pil my ai L tl ch) [60] _ = EW (CxD X) b mo a h fb tp z tk jv jk pl mt yr lg ha x1 x2 tp.2 (hFs h) fb.2.2.2 yr.2.2.2.1 (zFaultP z) h.2.2.2.1 h.2.2.2.2.1 h.2.2.2.2.2 h.2.1 yr.2.2.2.2 h.1 lg tr bg en tkk op wn jn cq cm fk kd mk le ke tpm t og nm mf hm io rh mn wt jt nw pil my ai L tl ch) ?_
        show Aw X (KS b mo a) (EW (CxD X) b mo a h fb tp z tk jv jk pl mt yr lg ha x1 x2 tp.2 (hFs h) fb.2.2.2 yr.2.2.2.1 (zFaultP z) h.2.2.2.1 h.2.2.2.2.1 h.2.2.2.2.2 h.2.1 yr.2.2.2.2 h.1 lg tr bg en tkk op wn jn cq cm fk kd mk le ke tpm t og nm mf hm io rh mn wt jt nw pil my ai L tl ch) 236 [(0, .ref sc), (1, .ref (b 0)), (2, .ref mo), (3, .int (nI i))] [.int (-1), .int (-1)]
        refine r_icmp_eq (tgt := 735) (n := 239) hX dL_law_236 (by decide) rfl (fun _ => ?_) (fun hne => absurd (rfl) hne)
        exact kk b h fb tp z tk jv jk pl mt yr lg ha x1 x2 tp.2 (hFs h) fb.2.2.2 yr.2.2.2.1 (zFaultP z) h.2.2.2.1 h.2.2.2.2.1 h.2.2.2.2.2 h.2.1 yr.2.2.2.2 h.1 lg tr bg en tkk op wn jn cq cm fk kd mk le ke tpm t og nm mf hm io rh mn wt jt nw pil my ai L tl ch rfl ⟨⟨rfl, rfl, rfl, rfl, rfl, rfl, rfl, rfl, rfl, rfl, rfl, rfl⟩, ⟨hTp, hFc, hT1, hT2⟩, ⟨hW1, hW2, hWz⟩, ⟨hPlI, hMt, hn⟩, ⟨hHa, hHm, hIo, hFn⟩, ⟨hMv, hMn⟩, (hDb.more (Nat.le_succ _)), ⟨oHa, oRh, hMy, oAi⟩, hLs, oTl, oCh, zHa, hBg⟩
