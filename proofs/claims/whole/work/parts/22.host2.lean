/-! null in a local -/
theorem r_aloadN {X : Cx} {cc : ByteArray} {nL d : Nat} {own : String} (hX : Ok X cc nL own d) {ks : List Nat} {es : List va_E} {pc n : Nat} {lv : List (Nat × Value)} {rest : List Value} {i : Nat} (hd : decode cc pc = .ok (.aload i, 2)) (hn : pc + 2 = n) (q : Nat) (hq : lv[q]? = some (i, .null)) (k : Aw X ks es n lv (.null :: rest)) : Aw X ks es pc lv rest := by
  subst hn
  obtain ⟨p, l, e, R, s, m, args, below, meth, c, D, A, nL', Q, kc, kn⟩ := X
  obtain ⟨hx, hb, hml, rfl, hown, hts, hK, hA, hlk, hfr, hlo, hWd, hkc, hkn⟩ := hX
  intro H locs ls hl hP hD hS hv
  exact lv_aloadN hx hb hd (lv_at hv q hq) (k H locs ls hl hP hD hS hv)
theorem r_aload_nN {X : Cx} {cc : ByteArray} {nL d : Nat} {own : String} (hX : Ok X cc nL own d) {ks : List Nat} {es : List va_E} {pc n : Nat} {lv : List (Nat × Value)} {rest : List Value} {j : Fin 4} {i : Nat} (hd : decode cc pc = .ok (.aload_n j, 1)) (hn : pc + 1 = n) (hi : (j : Nat) = i) (q : Nat) (hq : lv[q]? = some (i, .null)) (k : Aw X ks es n lv (.null :: rest)) : Aw X ks es pc lv rest := by
  subst hn
  obtain ⟨p, l, e, R, s, m, args, below, meth, c, D, A, nL', Q, kc, kn⟩ := X
  obtain ⟨hx, hb, hml, rfl, hown, hts, hK, hA, hlk, hfr, hlo, hWd, hkc, hkn⟩ := hX
  intro H locs ls hl hP hD hS hv
  exact lv_aload_nN hx hb hd hi (lv_at hv q hq) (k H locs ls hl hP hD hS hv)
theorem r_astoreN {X : Cx} {cc : ByteArray} {nL d : Nat} {own : String} (hX : Ok X cc nL own d) {ks : List Nat} {es : List va_E} {pc n : Nat} {lv : List (Nat × Value)} {rest : List Value} {i : Nat} (lv' : List (Nat × Value)) (hd : decode cc pc = .ok (.astore i, 2)) (hn : pc + 2 = n) (hi : i < nL) (he : ls1 lv i .null = lv') (k : Aw X ks es n lv' rest) : Aw X ks es pc lv (.null :: rest) := by
  subst hn
  obtain ⟨p, l, e, R, s, m, args, below, meth, c, D, A, nL', Q, kc, kn⟩ := X
  obtain ⟨hx, hb, hml, rfl, hown, hts, hK, hA, hlk, hfr, hlo, hWd, hkc, hkn⟩ := hX
  intro H locs ls hl hP hD hS hv
  subst he
  exact lv_astoreN hx hb hd hv hi rfl (fun ls2' hv2 => k H locs ls2' hl hP hD hS (lv_mono hv2 (fun q hq => lins_mem hq)))
theorem r_astore_nN {X : Cx} {cc : ByteArray} {nL d : Nat} {own : String} (hX : Ok X cc nL own d) {ks : List Nat} {es : List va_E} {pc n : Nat} {lv : List (Nat × Value)} {rest : List Value} {j : Fin 4} {i : Nat} (lv' : List (Nat × Value)) (hd : decode cc pc = .ok (.astore_n j, 1)) (hn : pc + 1 = n) (hj : (j : Nat) = i) (hi : i < nL) (he : ls1 lv i .null = lv') (k : Aw X ks es n lv' rest) : Aw X ks es pc lv (.null :: rest) := by
  subst hn
  obtain ⟨p, l, e, R, s, m, args, below, meth, c, D, A, nL', Q, kc, kn⟩ := X
  obtain ⟨hx, hb, hml, rfl, hown, hts, hK, hA, hlk, hfr, hlo, hWd, hkc, hkn⟩ := hX
  intro H locs ls hl hP hD hS hv
  subst he
  exact lv_astore_nN hx hb hd hj hv hi rfl (fun ls2' hv2 => k H locs ls2' hl hP hD hS (lv_mono hv2 (fun q hq => lins_mem hq)))
set_option maxHeartbeats 1000000 in
set_option maxRecDepth 100000 in
theorem wk_X10_moved {X : Cx} (hX : Ok X cX10_moved 2 RX10 0) (hy fb tp pa ju pl yr lg ha t1 t2 : Nat) (y0 y1 y2 : Nat) (h : HS) (y : YR) (i : Nat) (hi : i < 2 ^ 31) (hm : y.2.2.2.1 ≤ 12) (hR : Rt X (some FieldType.int) (fun r es' => r = some (.int (if i < y.2.2.2.1 ∧ i < 12 then nI (y.2.2.1 i) else -1)) ∧ es' = [ob 10 [.ref fb, .ref tp, .ref pa, .ref ju, .ref pl, .ref yr, .ref lg, .ref ha, .ref t1, .ref t2, .int (b2 h.1), .int h.2.1, .int (nI (hFs h)), .int h.2.2.2.1, .int h.2.2.2.2.1, .int h.2.2.2.2.2], ob 9 [.ref y0, .ref y1, .ref y2, .int (nI y.2.2.2.1), .int (b2 y.2.2.2.2)], aI (CxD X) 12 (opf y.1), aZ (CxD X) 12 (zf y.2.1), aI (CxD X) 12 (nf y.2.2.1)]) [hy, yr, y0, y1, y2]) : Aw X [hy, yr, y0, y1, y2] [ob 10 [.ref fb, .ref tp, .ref pa, .ref ju, .ref pl, .ref yr, .ref lg, .ref ha, .ref t1, .ref t2, .int (b2 h.1), .int h.2.1, .int (nI (hFs h)), .int h.2.2.2.1, .int h.2.2.2.2.1, .int h.2.2.2.2.2], ob 9 [.ref y0, .ref y1, .ref y2, .int (nI y.2.2.2.1), .int (b2 y.2.2.2.2)], aI (CxD X) 12 (opf y.1), aZ (CxD X) 12 (zf y.2.1), aI (CxD X) 12 (nf y.2.2.1)] 0 [(0, .ref hy), (1, .int (nI i))] [] := by
  refine r_iload_n (n := 1) hX dX10_moved_0 rfl rfl 1 rfl ?_
  refine r_iflt_n (n := 4) (tgt := 21) hX (by omega) dX10_moved_1 rfl (by decide) ?_
  refine r_iload_n (n := 5) hX dX10_moved_4 rfl rfl 1 rfl ?_
  refine r_aload_n (n := 6) hX dX10_moved_5 rfl rfl 0 rfl ?_
  refine r_get (n := 9) hX 0 rfl rfl rfl 5 (by decide) lay_X10 fl_X10_47 rfl dX10_moved_6 rfl ?_
  refine r_get (n := 12) hX 1 rfl rfl rfl 3 (by decide) lay_X9 fl_X10_197 rfl dX10_moved_9 rfl ?_
  refine r_icmp_ge_n (tgt := 21) (n := 15) hX i y.2.2.2.1 (by omega) (by omega) dX10_moved_12 (by decide) rfl (fun c12 => ?_) (fun c12 => ?_)
  · skip
    refine r_iconst (n := 22) hX (-1) dX10_moved_21 rfl rfl ?_
    refine r_goto (tgt := 34) hX dX10_moved_22 (by decide) ?_
    exact r_ireturn hX hR dX10_moved_34 ⟨by rw [if_neg (fun e => absurd e.1 (Nat.not_lt.mpr c12))], rfl⟩
  · skip
    refine r_iload_n (n := 16) hX dX10_moved_15 rfl rfl 1 rfl ?_
    refine r_bipush (n := 18) hX 12 dX10_moved_16 rfl rfl ?_
    refine r_icmp_lt_n (tgt := 25) (n := 21) hX i 12 (by omega) (by omega) dX10_moved_18 (by decide) rfl (fun c18 => ?_) (fun c18 => ?_)
    · skip
      refine r_aload_n (n := 26) hX dX10_moved_25 rfl rfl 0 rfl ?_
      refine r_get (n := 29) hX 0 rfl rfl rfl 5 (by decide) lay_X10 fl_X10_47 rfl dX10_moved_26 rfl ?_
      refine r_get (n := 32) hX 1 rfl rfl rfl 2 (by decide) lay_X9 fl_X10_200 rfl dX10_moved_29 rfl ?_
      refine r_iload_n (n := 33) hX dX10_moved_32 rfl rfl 1 rfl ?_
      refine r_ialdNn (n := 34) (i := i) hX 4 rfl rfl (by omega) (by decide) dX10_moved_33 rfl ?_
      exact r_ireturn hX hR dX10_moved_34 ⟨by rw [if_pos ⟨c12, c18⟩], rfl⟩
    · skip
      refine r_iconst (n := 22) hX (-1) dX10_moved_21 rfl rfl ?_
      refine r_goto (tgt := 34) hX dX10_moved_22 (by decide) ?_
      exact r_ireturn hX hR dX10_moved_34 ⟨by rw [if_neg (fun e => absurd e.2 (Nat.not_lt.mpr c18))], rfl⟩
theorem ct_X10_moved (l : Launch) (D : va_G) (hy fb tp pa ju pl yr lg ha t1 t2 : Nat) (y0 y1 y2 : Nat) (h : HS) (y : YR) (i : Nat) (hi : i < 2 ^ 31) (hm : y.2.2.2.1 ≤ 12) : Ct l D m_X10_moved 0 [.ref hy, .int (nI i)] [hy, yr, y0, y1, y2] [ob 10 [.ref fb, .ref tp, .ref pa, .ref ju, .ref pl, .ref yr, .ref lg, .ref ha, .ref t1, .ref t2, .int (b2 h.1), .int h.2.1, .int (nI (hFs h)), .int h.2.2.2.1, .int h.2.2.2.2.1, .int h.2.2.2.2.2], ob 9 [.ref y0, .ref y1, .ref y2, .int (nI y.2.2.2.1), .int (b2 y.2.2.2.2)], aI D 12 (opf y.1), aZ D 12 (zf y.2.1), aI D 12 (nf y.2.2.1)] (fun r es' => r = some (.int (if i < y.2.2.2.1 ∧ i < 12 then nI (y.2.2.1 i) else -1)) ∧ es' = [ob 10 [.ref fb, .ref tp, .ref pa, .ref ju, .ref pl, .ref yr, .ref lg, .ref ha, .ref t1, .ref t2, .int (b2 h.1), .int h.2.1, .int (nI (hFs h)), .int h.2.2.2.1, .int h.2.2.2.2.1, .int h.2.2.2.2.2], ob 9 [.ref y0, .ref y1, .ref y2, .int (nI y.2.2.2.1), .int (b2 y.2.2.2.2)], aI D 12 (opf y.1), aZ D 12 (zf y.2.1), aI D 12 (nf y.2.2.1)]) :=
  Ct.ofA (own := RX10) (by decide) rfl (Nat.le_of_ble_eq_true rfl) rfl (fun X hl hD hX hR => by subst hl; subst hD; exact wk_X10_moved hX hy fb tp pa ju pl yr lg ha t1 t2 y0 y1 y2 h y i hi hm hR)
set_option maxHeartbeats 1000000 in
set_option maxRecDepth 100000 in
theorem wk_movedN {X : Cx} (hX : Ok X cX10_moved 2 RX10 0) (hy fb tp pa ju pl yr lg ha t1 t2 : Nat) (h : HS) (w : Int32) (hw : w < 0) (hR : Rt X (some FieldType.int) (fun r es' => r = some (.int (-1)) ∧ es' = [ob 10 [.ref fb, .ref tp, .ref pa, .ref ju, .ref pl, .ref yr, .ref lg, .ref ha, .ref t1, .ref t2, .int (b2 h.1), .int h.2.1, .int (nI (hFs h)), .int h.2.2.2.1, .int h.2.2.2.2.1, .int h.2.2.2.2.2]]) [hy]) : Aw X [hy] [ob 10 [.ref fb, .ref tp, .ref pa, .ref ju, .ref pl, .ref yr, .ref lg, .ref ha, .ref t1, .ref t2, .int (b2 h.1), .int h.2.1, .int (nI (hFs h)), .int h.2.2.2.1, .int h.2.2.2.2.1, .int h.2.2.2.2.2]] 0 [(0, .ref hy), (1, .int w)] [] := by
  refine r_iload_n (n := 1) hX dX10_moved_0 rfl rfl 1 rfl ?_
  refine r_if_lt (tgt := 21) (n := 4) hX dX10_moved_1 (by decide) rfl (fun c1 => ?_) (fun c1 => absurd c1 (fun e => e hw))
  refine r_iconst (n := 22) hX (-1) dX10_moved_21 rfl rfl ?_
  refine r_goto (tgt := 34) hX dX10_moved_22 (by decide) ?_
  exact r_ireturn hX hR dX10_moved_34 ⟨rfl, rfl⟩
theorem ct_movedN (l : Launch) (D : va_G) (hy fb tp pa ju pl yr lg ha t1 t2 : Nat) (h : HS) (w : Int32) (hw : w < 0) : Ct l D m_X10_moved 0 [.ref hy, .int w] [hy] [ob 10 [.ref fb, .ref tp, .ref pa, .ref ju, .ref pl, .ref yr, .ref lg, .ref ha, .ref t1, .ref t2, .int (b2 h.1), .int h.2.1, .int (nI (hFs h)), .int h.2.2.2.1, .int h.2.2.2.2.1, .int h.2.2.2.2.2]] (fun r es' => r = some (.int (-1)) ∧ es' = [ob 10 [.ref fb, .ref tp, .ref pa, .ref ju, .ref pl, .ref yr, .ref lg, .ref ha, .ref t1, .ref t2, .int (b2 h.1), .int h.2.1, .int (nI (hFs h)), .int h.2.2.2.1, .int h.2.2.2.2.1, .int h.2.2.2.2.2]]) :=
  Ct.ofA (own := RX10) (by decide) rfl (Nat.le_of_ble_eq_true rfl) rfl (fun X hl hD hX hR => by subst hl; subst hD; exact wk_movedN hX hy fb tp pa ju pl yr lg ha t1 t2 h w hw hR)
def hOf (y : YR) (l : LG) (f : Nat) (w : Int32) : Int32 := if w = 0 then eo (y.1 f) else if w = 1 then eo (gIn y.1 f 12 0) else if w = 2 then b2 (y.2.1 f) else if w = 3 then l.1 f else if w = 4 then l.2.1 f else if w = 5 then l.2.2 f else -1
set_option maxHeartbeats 1000000 in
set_option maxRecDepth 100000 in
theorem wk_X10_of {X : Cx} (hX : Ok X cX10_of 3 RX10 2) (hy fb tp pa ju pl yr lg ha t1 t2 : Nat) (y0 y1 y2 l0 l1 l2 : Nat) (h : HS) (y : YR) (g : LG) (f : Nat) (w : Int32) (hn : hFs h ≤ 12) (hf : f < hFs h) (hy1 : obd y.1) (hR : Rt X (some FieldType.int) (fun r es' => r = some (.int (hOf y g f w)) ∧ es' = [ob 10 [.ref fb, .ref tp, .ref pa, .ref ju, .ref pl, .ref yr, .ref lg, .ref ha, .ref t1, .ref t2, .int (b2 h.1), .int h.2.1, .int (nI (hFs h)), .int h.2.2.2.1, .int h.2.2.2.2.1, .int h.2.2.2.2.2], ob 9 [.ref y0, .ref y1, .ref y2, .int (nI y.2.2.2.1), .int (b2 y.2.2.2.2)], aI (CxD X) 12 (opf y.1), aZ (CxD X) 12 (zf y.2.1), aI (CxD X) 12 (nf y.2.2.1), ob 2 [.ref l0, .ref l1, .ref l2], aI (CxD X) 12 g.1, aI (CxD X) 12 g.2.1, aI (CxD X) 12 g.2.2]) [hy, yr, y0, y1, y2, lg, l0, l1, l2]) : Aw X [hy, yr, y0, y1, y2, lg, l0, l1, l2] [ob 10 [.ref fb, .ref tp, .ref pa, .ref ju, .ref pl, .ref yr, .ref lg, .ref ha, .ref t1, .ref t2, .int (b2 h.1), .int h.2.1, .int (nI (hFs h)), .int h.2.2.2.1, .int h.2.2.2.2.1, .int h.2.2.2.2.2], ob 9 [.ref y0, .ref y1, .ref y2, .int (nI y.2.2.2.1), .int (b2 y.2.2.2.2)], aI (CxD X) 12 (opf y.1), aZ (CxD X) 12 (zf y.2.1), aI (CxD X) 12 (nf y.2.2.1), ob 2 [.ref l0, .ref l1, .ref l2], aI (CxD X) 12 g.1, aI (CxD X) 12 g.2.1, aI (CxD X) 12 g.2.2] 0 [(0, .ref hy), (1, .int (nI f)), (2, .int w)] [] := by
  refine r_aload_n (n := 1) hX dX10_of_0 rfl rfl 0 rfl ?_
  refine r_iload_n (n := 2) hX dX10_of_1 rfl rfl 1 rfl ?_
  refine r_callV (n := 5) (av := [.int (nI f)]) hX (ct_X10_isFamily (CxL X) (CxD X) hy fb tp pa ju pl yr lg ha t1 t2 h (nI f)) ml_X10_123 cv_X10_isFamily rfl (by decide) [0] rfl rfl (by decide) 0 rfl rfl rfl rfl rfl (Nat.le_of_ble_eq_true rfl) dX10_of_2 rfl (fun r_ es_ h_ l_ => ?_)
  obtain ⟨rfl, rfl⟩ := h_
  show Aw X [hy, yr, y0, y1, y2, lg, l0, l1, l2] [ob 10 [.ref fb, .ref tp, .ref pa, .ref ju, .ref pl, .ref yr, .ref lg, .ref ha, .ref t1, .ref t2, .int (b2 h.1), .int h.2.1, .int (nI (hFs h)), .int h.2.2.2.1, .int h.2.2.2.2.1, .int h.2.2.2.2.2], ob 9 [.ref y0, .ref y1, .ref y2, .int (nI y.2.2.2.1), .int (b2 y.2.2.2.2)], aI (CxD X) 12 (opf y.1), aZ (CxD X) 12 (zf y.2.1), aI (CxD X) 12 (nf y.2.2.1), ob 2 [.ref l0, .ref l1, .ref l2], aI (CxD X) 12 g.1, aI (CxD X) 12 g.2.1, aI (CxD X) 12 g.2.2] 5 [(0, .ref hy), (1, .int (nI f)), (2, .int w)] [.int (b2 (hFam (hFs h) (nI f)))]
  refine r_if_ne_b (tgt := 10) (n := 8) hX dX10_of_5 (by decide) rfl (fun c5 => ?_) (fun c5 => absurd c5 (by rw [hFam_of hn hf]; decide))
  refine r_iload_n (n := 11) hX dX10_of_10 rfl rfl 2 rfl ?_
  by_cases k11_0 : w = 0
  · refine Aw.topi 0 k11_0 ?_
    refine r_tabIn (tgt := 48) (off := 37) hX dX10_of_11 (by decide) (by decide) (by decide) (by decide) ?_
    refine r_aload_n (n := 49) hX dX10_of_48 rfl rfl 0 rfl ?_
    refine r_get (n := 52) hX 0 rfl rfl rfl 5 (by decide) lay_X10 fl_X10_47 rfl dX10_of_49 rfl ?_
    refine r_get (n := 55) hX 1 rfl rfl rfl 0 (by decide) lay_X9 fl_X10_186 rfl dX10_of_52 rfl ?_
    refine r_iload_n (n := 56) hX dX10_of_55 rfl rfl 1 rfl ?_
    refine r_ialdOn (n := 57) (i := f) hX 2 rfl rfl (by omega) (by decide) dX10_of_56 rfl ?_
    exact r_ireturn hX hR dX10_of_57 ⟨by unfold hOf; rw [if_pos k11_0], rfl⟩
  · skip
    by_cases k11_1 : w = 1
    · refine Aw.topi 1 k11_1 ?_
      refine r_tabIn (tgt := 58) (off := 47) hX dX10_of_11 (by decide) (by decide) (by decide) (by decide) ?_
      refine r_aload_n (n := 59) hX dX10_of_58 rfl rfl 0 rfl ?_
      refine r_get (n := 62) hX 0 rfl rfl rfl 5 (by decide) lay_X10 fl_X10_47 rfl dX10_of_59 rfl ?_
      refine r_iload_n (n := 63) hX dX10_of_62 rfl rfl 1 rfl ?_
      refine r_callV (n := 66) (av := [.int (nI f)]) hX (ct_X9_guestOf (CxL X) (CxD X) yr y0 y1 y2 y f hy1 (by omega)) ml_X10_203 cv_X9_guestOf rfl (by decide) [1, 2, 3, 4] rfl rfl (by decide) 1 rfl rfl rfl rfl rfl (Nat.le_of_ble_eq_true rfl) dX10_of_63 rfl (fun r_ es_ h_ l_ => ?_)
      obtain ⟨rfl, rfl⟩ := h_
      show Aw X [hy, yr, y0, y1, y2, lg, l0, l1, l2] [ob 10 [.ref fb, .ref tp, .ref pa, .ref ju, .ref pl, .ref yr, .ref lg, .ref ha, .ref t1, .ref t2, .int (b2 h.1), .int h.2.1, .int (nI (hFs h)), .int h.2.2.2.1, .int h.2.2.2.2.1, .int h.2.2.2.2.2], ob 9 [.ref y0, .ref y1, .ref y2, .int (nI y.2.2.2.1), .int (b2 y.2.2.2.2)], aI (CxD X) 12 (opf y.1), aZ (CxD X) 12 (zf y.2.1), aI (CxD X) 12 (nf y.2.2.1), ob 2 [.ref l0, .ref l1, .ref l2], aI (CxD X) 12 g.1, aI (CxD X) 12 g.2.1, aI (CxD X) 12 g.2.2] 66 [(0, .ref hy), (1, .int (nI f)), (2, .int w)] [.int (eo (gIn y.1 f 12 0))]
      exact r_ireturn hX hR dX10_of_66 ⟨by unfold hOf; rw [if_neg k11_0]; rw [if_pos k11_1], rfl⟩
    · skip
      by_cases k11_2 : w = 2
      · refine Aw.topi 2 k11_2 ?_
        refine r_tabIn (tgt := 67) (off := 56) hX dX10_of_11 (by decide) (by decide) (by decide) (by decide) ?_
        refine r_aload_n (n := 68) hX dX10_of_67 rfl rfl 0 rfl ?_
        refine r_get (n := 71) hX 0 rfl rfl rfl 5 (by decide) lay_X10 fl_X10_47 rfl dX10_of_68 rfl ?_
        refine r_get (n := 74) hX 1 rfl rfl rfl 1 (by decide) lay_X9 fl_X10_220 rfl dX10_of_71 rfl ?_
        refine r_iload_n (n := 75) hX dX10_of_74 rfl rfl 1 rfl ?_
        refine r_zaldbn (n := 76) (i := f) hX 3 rfl rfl (by omega) (by decide) dX10_of_75 rfl ?_
        refine r_if_eq_b (tgt := 83) (n := 79) hX dX10_of_76 (by decide) rfl (fun c76 => ?_) (fun c76 => ?_)
        · skip
          refine r_iconst (n := 84) hX 0 dX10_of_83 rfl rfl ?_
          exact r_ireturn hX hR dX10_of_84 ⟨by unfold hOf; rw [if_neg k11_0]; rw [if_neg k11_1]; rw [if_pos k11_2]; rw [c76]; rfl, rfl⟩
        · skip
          refine r_iconst (n := 80) hX 1 dX10_of_79 rfl rfl ?_
          refine r_goto (tgt := 84) hX dX10_of_80 (by decide) ?_
          exact r_ireturn hX hR dX10_of_84 ⟨by unfold hOf; rw [if_neg k11_0]; rw [if_neg k11_1]; rw [if_pos k11_2]; rw [c76]; rfl, rfl⟩
      · skip
        by_cases k11_3 : w = 3
        · refine Aw.topi 3 k11_3 ?_
          refine r_tabIn (tgt := 85) (off := 74) hX dX10_of_11 (by decide) (by decide) (by decide) (by decide) ?_
          refine r_aload_n (n := 86) hX dX10_of_85 rfl rfl 0 rfl ?_
          refine r_get (n := 89) hX 0 rfl rfl rfl 6 (by decide) lay_X10 fl_X10_54 rfl dX10_of_86 rfl ?_
          refine r_get (n := 92) hX 5 rfl rfl rfl 0 (by decide) lay_X2 fl_X10_224 rfl dX10_of_89 rfl ?_
          refine r_iload_n (n := 93) hX dX10_of_92 rfl rfl 1 rfl ?_
          refine r_ialdn (n := 94) (i := f) hX 6 rfl rfl (by omega) (by decide) dX10_of_93 rfl ?_
          exact r_ireturn hX hR dX10_of_94 ⟨by unfold hOf; rw [if_neg k11_0]; rw [if_neg k11_1]; rw [if_neg k11_2]; rw [if_pos k11_3], rfl⟩
        · skip
          by_cases k11_4 : w = 4
          · refine Aw.topi 4 k11_4 ?_
            refine r_tabIn (tgt := 95) (off := 84) hX dX10_of_11 (by decide) (by decide) (by decide) (by decide) ?_
            refine r_aload_n (n := 96) hX dX10_of_95 rfl rfl 0 rfl ?_
            refine r_get (n := 99) hX 0 rfl rfl rfl 6 (by decide) lay_X10 fl_X10_54 rfl dX10_of_96 rfl ?_
            refine r_get (n := 102) hX 5 rfl rfl rfl 1 (by decide) lay_X2 fl_X10_227 rfl dX10_of_99 rfl ?_
            refine r_iload_n (n := 103) hX dX10_of_102 rfl rfl 1 rfl ?_
            refine r_ialdn (n := 104) (i := f) hX 7 rfl rfl (by omega) (by decide) dX10_of_103 rfl ?_
            exact r_ireturn hX hR dX10_of_104 ⟨by unfold hOf; rw [if_neg k11_0]; rw [if_neg k11_1]; rw [if_neg k11_2]; rw [if_neg k11_3]; rw [if_pos k11_4], rfl⟩
          · skip
            by_cases k11_5 : w = 5
            · refine Aw.topi 5 k11_5 ?_
              refine r_tabIn (tgt := 105) (off := 94) hX dX10_of_11 (by decide) (by decide) (by decide) (by decide) ?_
              refine r_aload_n (n := 106) hX dX10_of_105 rfl rfl 0 rfl ?_
              refine r_get (n := 109) hX 0 rfl rfl rfl 6 (by decide) lay_X10 fl_X10_54 rfl dX10_of_106 rfl ?_
              refine r_get (n := 112) hX 5 rfl rfl rfl 2 (by decide) lay_X2 fl_X10_230 rfl dX10_of_109 rfl ?_
              refine r_iload_n (n := 113) hX dX10_of_112 rfl rfl 1 rfl ?_
              refine r_ialdn (n := 114) (i := f) hX 8 rfl rfl (by omega) (by decide) dX10_of_113 rfl ?_
              exact r_ireturn hX hR dX10_of_114 ⟨by unfold hOf; rw [if_neg k11_0]; rw [if_neg k11_1]; rw [if_neg k11_2]; rw [if_neg k11_3]; rw [if_neg k11_4]; rw [if_pos k11_5], rfl⟩
            · skip
              refine r_tabOut (tgt := 115) hX dX10_of_11 (by have h0 := ne_toInt k11_0 (a := 0) (by decide); have h1 := ne_toInt k11_1 (a := 1) (by decide); have h2 := ne_toInt k11_2 (a := 2) (by decide); have h3 := ne_toInt k11_3 (a := 3) (by decide); have h4 := ne_toInt k11_4 (a := 4) (by decide); have h5 := ne_toInt k11_5 (a := 5) (by decide); omega) (by decide) ?_
              refine r_iconst (n := 116) hX (-1) dX10_of_115 rfl rfl ?_
              exact r_ireturn hX hR dX10_of_116 ⟨by unfold hOf; rw [if_neg k11_0]; rw [if_neg k11_1]; rw [if_neg k11_2]; rw [if_neg k11_3]; rw [if_neg k11_4]; rw [if_neg k11_5], rfl⟩
theorem ct_X10_of (l : Launch) (D : va_G) (hy fb tp pa ju pl yr lg ha t1 t2 : Nat) (y0 y1 y2 l0 l1 l2 : Nat) (h : HS) (y : YR) (g : LG) (f : Nat) (w : Int32) (hn : hFs h ≤ 12) (hf : f < hFs h) (hy1 : obd y.1) : Ct l D m_X10_of 2 [.ref hy, .int (nI f), .int w] [hy, yr, y0, y1, y2, lg, l0, l1, l2] [ob 10 [.ref fb, .ref tp, .ref pa, .ref ju, .ref pl, .ref yr, .ref lg, .ref ha, .ref t1, .ref t2, .int (b2 h.1), .int h.2.1, .int (nI (hFs h)), .int h.2.2.2.1, .int h.2.2.2.2.1, .int h.2.2.2.2.2], ob 9 [.ref y0, .ref y1, .ref y2, .int (nI y.2.2.2.1), .int (b2 y.2.2.2.2)], aI D 12 (opf y.1), aZ D 12 (zf y.2.1), aI D 12 (nf y.2.2.1), ob 2 [.ref l0, .ref l1, .ref l2], aI D 12 g.1, aI D 12 g.2.1, aI D 12 g.2.2] (fun r es' => r = some (.int (hOf y g f w)) ∧ es' = [ob 10 [.ref fb, .ref tp, .ref pa, .ref ju, .ref pl, .ref yr, .ref lg, .ref ha, .ref t1, .ref t2, .int (b2 h.1), .int h.2.1, .int (nI (hFs h)), .int h.2.2.2.1, .int h.2.2.2.2.1, .int h.2.2.2.2.2], ob 9 [.ref y0, .ref y1, .ref y2, .int (nI y.2.2.2.1), .int (b2 y.2.2.2.2)], aI D 12 (opf y.1), aZ D 12 (zf y.2.1), aI D 12 (nf y.2.2.1), ob 2 [.ref l0, .ref l1, .ref l2], aI D 12 g.1, aI D 12 g.2.1, aI D 12 g.2.2]) :=
  Ct.ofA (own := RX10) (by decide) rfl (Nat.le_of_ble_eq_true rfl) rfl (fun X hl hD hX hR => by subst hl; subst hD; exact wk_X10_of hX hy fb tp pa ju pl yr lg ha t1 t2 y0 y1 y2 l0 l1 l2 h y g f w hn hf hy1 hR)
set_option maxHeartbeats 1000000 in
set_option maxRecDepth 100000 in
theorem wk_ofN {X : Cx} (hX : Ok X cX10_of 3 RX10 2) (hy fb tp pa ju pl yr lg ha t1 t2 : Nat) (h : HS) (f w : Int32) (hb : hFam (hFs h) f = false) (hR : Rt X (some FieldType.int) (fun r es' => r = some (.int (-1)) ∧ es' = [ob 10 [.ref fb, .ref tp, .ref pa, .ref ju, .ref pl, .ref yr, .ref lg, .ref ha, .ref t1, .ref t2, .int (b2 h.1), .int h.2.1, .int (nI (hFs h)), .int h.2.2.2.1, .int h.2.2.2.2.1, .int h.2.2.2.2.2]]) [hy]) : Aw X [hy] [ob 10 [.ref fb, .ref tp, .ref pa, .ref ju, .ref pl, .ref yr, .ref lg, .ref ha, .ref t1, .ref t2, .int (b2 h.1), .int h.2.1, .int (nI (hFs h)), .int h.2.2.2.1, .int h.2.2.2.2.1, .int h.2.2.2.2.2]] 0 [(0, .ref hy), (1, .int f), (2, .int w)] [] := by
  refine r_aload_n (n := 1) hX dX10_of_0 rfl rfl 0 rfl ?_
  refine r_iload_n (n := 2) hX dX10_of_1 rfl rfl 1 rfl ?_
  refine r_callV (n := 5) (av := [.int f]) hX (ct_X10_isFamily (CxL X) (CxD X) hy fb tp pa ju pl yr lg ha t1 t2 h f) ml_X10_123 cv_X10_isFamily rfl (by decide) [0] rfl rfl (by decide) 0 rfl rfl rfl rfl rfl (Nat.le_of_ble_eq_true rfl) dX10_of_2 rfl (fun r_ es_ h_ l_ => ?_)
  obtain ⟨rfl, rfl⟩ := h_
  show Aw X [hy] [ob 10 [.ref fb, .ref tp, .ref pa, .ref ju, .ref pl, .ref yr, .ref lg, .ref ha, .ref t1, .ref t2, .int (b2 h.1), .int h.2.1, .int (nI (hFs h)), .int h.2.2.2.1, .int h.2.2.2.2.1, .int h.2.2.2.2.2]] 5 [(0, .ref hy), (1, .int f), (2, .int w)] [.int (b2 (hFam (hFs h) f))]
  refine r_if_ne_b (tgt := 10) (n := 8) hX dX10_of_5 (by decide) rfl (fun c5 => absurd c5 (by rw [hb]; decide)) (fun c5 => ?_)
  refine r_iconst (n := 9) hX (-1) dX10_of_8 rfl rfl ?_
  exact r_ireturn hX hR dX10_of_9 ⟨rfl, rfl⟩
theorem ct_ofN (l : Launch) (D : va_G) (hy fb tp pa ju pl yr lg ha t1 t2 : Nat) (h : HS) (f w : Int32) (hb : hFam (hFs h) f = false) : Ct l D m_X10_of 2 [.ref hy, .int f, .int w] [hy] [ob 10 [.ref fb, .ref tp, .ref pa, .ref ju, .ref pl, .ref yr, .ref lg, .ref ha, .ref t1, .ref t2, .int (b2 h.1), .int h.2.1, .int (nI (hFs h)), .int h.2.2.2.1, .int h.2.2.2.2.1, .int h.2.2.2.2.2]] (fun r es' => r = some (.int (-1)) ∧ es' = [ob 10 [.ref fb, .ref tp, .ref pa, .ref ju, .ref pl, .ref yr, .ref lg, .ref ha, .ref t1, .ref t2, .int (b2 h.1), .int h.2.1, .int (nI (hFs h)), .int h.2.2.2.1, .int h.2.2.2.2.1, .int h.2.2.2.2.2]]) :=
  Ct.ofA (own := RX10) (by decide) rfl (Nat.le_of_ble_eq_true rfl) rfl (fun X hl hD hX hR => by subst hl; subst hD; exact wk_ofN hX hy fb tp pa ju pl yr lg ha t1 t2 h f w hb hR)
def hCount (h : HS) (nf : Nat) (y : YR) (r1 r2 : Nat) (tl : Nat) (w : Int32) : Int32 := if w = 0 then nI (hFs h) else if w = 1 then nI nf else if w = 2 then h.2.2.2.1 else if w = 3 then h.2.2.2.2.1 else if w = 4 then h.2.2.2.2.2 else if w = 5 then nI (gcount y.1 12) else if w = 6 then nI r1 else if w = 7 then nI r2 else if w = 8 then nI tl else -1
set_option maxHeartbeats 1000000 in
set_option maxRecDepth 100000 in
theorem wk_X10_count {X : Cx} (hX : Ok X cX10_count 2 RX10 1) (hy fb tp pa ju pl yr lg ha t1 t2 : Nat) (f0 f1 f2 y0 y1 y2 tb a0 a1 a2 a3 a4 a5 b0 b1 b2_ b3 b4 b5 : Nat) (h : HS) (s : FB) (y : YR) (p q : TX) (t : TP) (w : Int32) (hy1 : obd y.1) (hR : Rt X (some FieldType.int) (fun r es' => r = some (.int (hCount h s.2.2.2 y (txRules p) (txRules q) t.2 w)) ∧ es' = [ob 10 [.ref fb, .ref tp, .ref pa, .ref ju, .ref pl, .ref yr, .ref lg, .ref ha, .ref t1, .ref t2, .int (b2 h.1), .int h.2.1, .int (nI (hFs h)), .int h.2.2.2.1, .int h.2.2.2.2.1, .int h.2.2.2.2.2], ob 0 [.ref f0, .ref f1, .ref f2, .int (nI s.2.2.2)], ob 9 [.ref y0, .ref y1, .ref y2, .int (nI y.2.2.2.1), .int (b2 y.2.2.2.2)], aI (CxD X) 12 (opf y.1), ob 7 [.ref a0, .ref a1, .ref a2, .ref a3, .ref a4, .ref a5, .int (nI (txSize p)), .int (nI (txRules p)), .int (nI (txTraits p))], ob 7 [.ref b0, .ref b1, .ref b2_, .ref b3, .ref b4, .ref b5, .int (nI (txSize q)), .int (nI (txRules q)), .int (nI (txTraits q))], ob 6 [.ref tb, .int (nI t.2)]]) [hy, fb, yr, y0, t1, t2, tp]) : Aw X [hy, fb, yr, y0, t1, t2, tp] [ob 10 [.ref fb, .ref tp, .ref pa, .ref ju, .ref pl, .ref yr, .ref lg, .ref ha, .ref t1, .ref t2, .int (b2 h.1), .int h.2.1, .int (nI (hFs h)), .int h.2.2.2.1, .int h.2.2.2.2.1, .int h.2.2.2.2.2], ob 0 [.ref f0, .ref f1, .ref f2, .int (nI s.2.2.2)], ob 9 [.ref y0, .ref y1, .ref y2, .int (nI y.2.2.2.1), .int (b2 y.2.2.2.2)], aI (CxD X) 12 (opf y.1), ob 7 [.ref a0, .ref a1, .ref a2, .ref a3, .ref a4, .ref a5, .int (nI (txSize p)), .int (nI (txRules p)), .int (nI (txTraits p))], ob 7 [.ref b0, .ref b1, .ref b2_, .ref b3, .ref b4, .ref b5, .int (nI (txSize q)), .int (nI (txRules q)), .int (nI (txTraits q))], ob 6 [.ref tb, .int (nI t.2)]] 0 [(0, .ref hy), (1, .int w)] [] := by
  refine r_iload_n (n := 1) hX dX10_count_0 rfl rfl 1 rfl ?_
  by_cases k1_0 : w = 0
  · refine Aw.topi 0 k1_0 ?_
    refine r_tabIn (tgt := 52) (off := 51) hX dX10_count_1 (by decide) (by decide) (by decide) (by decide) ?_
    refine r_aload_n (n := 53) hX dX10_count_52 rfl rfl 0 rfl ?_
    refine r_get (n := 56) hX 0 rfl rfl rfl 12 (by decide) lay_X10 fl_X10_80 rfl dX10_count_53 rfl ?_
    exact r_ireturn hX hR dX10_count_56 ⟨by unfold hCount; rw [if_pos k1_0], rfl⟩
  · skip
    by_cases k1_1 : w = 1
    · refine Aw.topi 1 k1_1 ?_
      refine r_tabIn (tgt := 57) (off := 56) hX dX10_count_1 (by decide) (by decide) (by decide) (by decide) ?_
      refine r_aload_n (n := 58) hX dX10_count_57 rfl rfl 0 rfl ?_
      refine r_get (n := 61) hX 0 rfl rfl rfl 0 (by decide) lay_X10 fl_X10_10 rfl dX10_count_58 rfl ?_
      refine r_get (n := 64) hX 1 rfl rfl rfl 3 (by decide) lay_X0 fl_X10_233 rfl dX10_count_61 rfl ?_
      exact r_ireturn hX hR dX10_count_64 ⟨by unfold hCount; rw [if_neg k1_0]; rw [if_pos k1_1], rfl⟩
    · skip
      by_cases k1_2 : w = 2
      · refine Aw.topi 2 k1_2 ?_
        refine r_tabIn (tgt := 65) (off := 64) hX dX10_count_1 (by decide) (by decide) (by decide) (by decide) ?_
        refine r_aload_n (n := 66) hX dX10_count_65 rfl rfl 0 rfl ?_
        refine r_get (n := 69) hX 0 rfl rfl rfl 13 (by decide) lay_X10 fl_X10_83 rfl dX10_count_66 rfl ?_
        exact r_ireturn hX hR dX10_count_69 ⟨by unfold hCount; rw [if_neg k1_0]; rw [if_neg k1_1]; rw [if_pos k1_2], rfl⟩
      · skip
        by_cases k1_3 : w = 3
        · refine Aw.topi 3 k1_3 ?_
          refine r_tabIn (tgt := 70) (off := 69) hX dX10_count_1 (by decide) (by decide) (by decide) (by decide) ?_
          refine r_aload_n (n := 71) hX dX10_count_70 rfl rfl 0 rfl ?_
          refine r_get (n := 74) hX 0 rfl rfl rfl 14 (by decide) lay_X10 fl_X10_86 rfl dX10_count_71 rfl ?_
          exact r_ireturn hX hR dX10_count_74 ⟨by unfold hCount; rw [if_neg k1_0]; rw [if_neg k1_1]; rw [if_neg k1_2]; rw [if_pos k1_3], rfl⟩
        · skip
          by_cases k1_4 : w = 4
          · refine Aw.topi 4 k1_4 ?_
            refine r_tabIn (tgt := 75) (off := 74) hX dX10_count_1 (by decide) (by decide) (by decide) (by decide) ?_
            refine r_aload_n (n := 76) hX dX10_count_75 rfl rfl 0 rfl ?_
            refine r_get (n := 79) hX 0 rfl rfl rfl 15 (by decide) lay_X10 fl_X10_89 rfl dX10_count_76 rfl ?_
            exact r_ireturn hX hR dX10_count_79 ⟨by unfold hCount; rw [if_neg k1_0]; rw [if_neg k1_1]; rw [if_neg k1_2]; rw [if_neg k1_3]; rw [if_pos k1_4], rfl⟩
          · skip
            by_cases k1_5 : w = 5
            · refine Aw.topi 5 k1_5 ?_
              refine r_tabIn (tgt := 80) (off := 79) hX dX10_count_1 (by decide) (by decide) (by decide) (by decide) ?_
              refine r_aload_n (n := 81) hX dX10_count_80 rfl rfl 0 rfl ?_
              refine r_get (n := 84) hX 0 rfl rfl rfl 5 (by decide) lay_X10 fl_X10_47 rfl dX10_count_81 rfl ?_
              refine r_get (n := 87) hX 2 rfl rfl rfl 0 (by decide) lay_X9 fl_X10_186 rfl dX10_count_84 rfl ?_
              refine r_callS (n := 90) (av := [.ref y0]) hX (ct_X10_goingIn (CxL X) (CxD X) y0 y.1 hy1) ml_X10_171 cs_X10_goingIn rfl (by decide) [3] rfl rfl (by decide) rfl (Nat.le_of_ble_eq_true rfl) dX10_count_87 rfl (fun r_ es_ h_ l_ => ?_)
              obtain ⟨rfl, rfl⟩ := h_
              show Aw X [hy, fb, yr, y0, t1, t2, tp] [ob 10 [.ref fb, .ref tp, .ref pa, .ref ju, .ref pl, .ref yr, .ref lg, .ref ha, .ref t1, .ref t2, .int (b2 h.1), .int h.2.1, .int (nI (hFs h)), .int h.2.2.2.1, .int h.2.2.2.2.1, .int h.2.2.2.2.2], ob 0 [.ref f0, .ref f1, .ref f2, .int (nI s.2.2.2)], ob 9 [.ref y0, .ref y1, .ref y2, .int (nI y.2.2.2.1), .int (b2 y.2.2.2.2)], aI (CxD X) 12 (opf y.1), ob 7 [.ref a0, .ref a1, .ref a2, .ref a3, .ref a4, .ref a5, .int (nI (txSize p)), .int (nI (txRules p)), .int (nI (txTraits p))], ob 7 [.ref b0, .ref b1, .ref b2_, .ref b3, .ref b4, .ref b5, .int (nI (txSize q)), .int (nI (txRules q)), .int (nI (txTraits q))], ob 6 [.ref tb, .int (nI t.2)]] 90 [(0, .ref hy), (1, .int w)] [.int (nI (gcount y.1 12))]
              exact r_ireturn hX hR dX10_count_90 ⟨by unfold hCount; rw [if_neg k1_0]; rw [if_neg k1_1]; rw [if_neg k1_2]; rw [if_neg k1_3]; rw [if_neg k1_4]; rw [if_pos k1_5], rfl⟩
            · skip
              by_cases k1_6 : w = 6
              · refine Aw.topi 6 k1_6 ?_
                refine r_tabIn (tgt := 91) (off := 90) hX dX10_count_1 (by decide) (by decide) (by decide) (by decide) ?_
                refine r_aload_n (n := 92) hX dX10_count_91 rfl rfl 0 rfl ?_
                refine r_get (n := 95) hX 0 rfl rfl rfl 8 (by decide) lay_X10 fl_X10_65 rfl dX10_count_92 rfl ?_
                refine r_get (n := 98) hX 4 rfl rfl rfl 7 (by decide) lay_X7 fl_X10_236 rfl dX10_count_95 rfl ?_
                exact r_ireturn hX hR dX10_count_98 ⟨by unfold hCount; rw [if_neg k1_0]; rw [if_neg k1_1]; rw [if_neg k1_2]; rw [if_neg k1_3]; rw [if_neg k1_4]; rw [if_neg k1_5]; rw [if_pos k1_6], rfl⟩
              · skip
                by_cases k1_7 : w = 7
                · refine Aw.topi 7 k1_7 ?_
                  refine r_tabIn (tgt := 99) (off := 98) hX dX10_count_1 (by decide) (by decide) (by decide) (by decide) ?_
                  refine r_aload_n (n := 100) hX dX10_count_99 rfl rfl 0 rfl ?_
                  refine r_get (n := 103) hX 0 rfl rfl rfl 9 (by decide) lay_X10 fl_X10_69 rfl dX10_count_100 rfl ?_
                  refine r_get (n := 106) hX 5 rfl rfl rfl 7 (by decide) lay_X7 fl_X10_236 rfl dX10_count_103 rfl ?_
                  exact r_ireturn hX hR dX10_count_106 ⟨by unfold hCount; rw [if_neg k1_0]; rw [if_neg k1_1]; rw [if_neg k1_2]; rw [if_neg k1_3]; rw [if_neg k1_4]; rw [if_neg k1_5]; rw [if_neg k1_6]; rw [if_pos k1_7], rfl⟩
                · skip
                  by_cases k1_8 : w = 8
                  · refine Aw.topi 8 k1_8 ?_
                    refine r_tabIn (tgt := 107) (off := 106) hX dX10_count_1 (by decide) (by decide) (by decide) (by decide) ?_
                    refine r_aload_n (n := 108) hX dX10_count_107 rfl rfl 0 rfl ?_
                    refine r_get (n := 111) hX 0 rfl rfl rfl 1 (by decide) lay_X10 fl_X10_19 rfl dX10_count_108 rfl ?_
                    refine r_get (n := 114) hX 6 rfl rfl rfl 1 (by decide) lay_X6 fl_X10_92 rfl dX10_count_111 rfl ?_
                    exact r_ireturn hX hR dX10_count_114 ⟨by unfold hCount; rw [if_neg k1_0]; rw [if_neg k1_1]; rw [if_neg k1_2]; rw [if_neg k1_3]; rw [if_neg k1_4]; rw [if_neg k1_5]; rw [if_neg k1_6]; rw [if_neg k1_7]; rw [if_pos k1_8], rfl⟩
                  · skip
                    refine r_tabOut (tgt := 115) hX dX10_count_1 (by have h0 := ne_toInt k1_0 (a := 0) (by decide); have h1 := ne_toInt k1_1 (a := 1) (by decide); have h2 := ne_toInt k1_2 (a := 2) (by decide); have h3 := ne_toInt k1_3 (a := 3) (by decide); have h4 := ne_toInt k1_4 (a := 4) (by decide); have h5 := ne_toInt k1_5 (a := 5) (by decide); have h6 := ne_toInt k1_6 (a := 6) (by decide); have h7 := ne_toInt k1_7 (a := 7) (by decide); have h8 := ne_toInt k1_8 (a := 8) (by decide); omega) (by decide) ?_
                    refine r_iconst (n := 116) hX (-1) dX10_count_115 rfl rfl ?_
                    exact r_ireturn hX hR dX10_count_116 ⟨by unfold hCount; rw [if_neg k1_0]; rw [if_neg k1_1]; rw [if_neg k1_2]; rw [if_neg k1_3]; rw [if_neg k1_4]; rw [if_neg k1_5]; rw [if_neg k1_6]; rw [if_neg k1_7]; rw [if_neg k1_8], rfl⟩
theorem ct_X10_count (l : Launch) (D : va_G) (hy fb tp pa ju pl yr lg ha t1 t2 : Nat) (f0 f1 f2 y0 y1 y2 tb a0 a1 a2 a3 a4 a5 b0 b1 b2_ b3 b4 b5 : Nat) (h : HS) (s : FB) (y : YR) (p q : TX) (t : TP) (w : Int32) (hy1 : obd y.1) : Ct l D m_X10_count 1 [.ref hy, .int w] [hy, fb, yr, y0, t1, t2, tp] [ob 10 [.ref fb, .ref tp, .ref pa, .ref ju, .ref pl, .ref yr, .ref lg, .ref ha, .ref t1, .ref t2, .int (b2 h.1), .int h.2.1, .int (nI (hFs h)), .int h.2.2.2.1, .int h.2.2.2.2.1, .int h.2.2.2.2.2], ob 0 [.ref f0, .ref f1, .ref f2, .int (nI s.2.2.2)], ob 9 [.ref y0, .ref y1, .ref y2, .int (nI y.2.2.2.1), .int (b2 y.2.2.2.2)], aI D 12 (opf y.1), ob 7 [.ref a0, .ref a1, .ref a2, .ref a3, .ref a4, .ref a5, .int (nI (txSize p)), .int (nI (txRules p)), .int (nI (txTraits p))], ob 7 [.ref b0, .ref b1, .ref b2_, .ref b3, .ref b4, .ref b5, .int (nI (txSize q)), .int (nI (txRules q)), .int (nI (txTraits q))], ob 6 [.ref tb, .int (nI t.2)]] (fun r es' => r = some (.int (hCount h s.2.2.2 y (txRules p) (txRules q) t.2 w)) ∧ es' = [ob 10 [.ref fb, .ref tp, .ref pa, .ref ju, .ref pl, .ref yr, .ref lg, .ref ha, .ref t1, .ref t2, .int (b2 h.1), .int h.2.1, .int (nI (hFs h)), .int h.2.2.2.1, .int h.2.2.2.2.1, .int h.2.2.2.2.2], ob 0 [.ref f0, .ref f1, .ref f2, .int (nI s.2.2.2)], ob 9 [.ref y0, .ref y1, .ref y2, .int (nI y.2.2.2.1), .int (b2 y.2.2.2.2)], aI D 12 (opf y.1), ob 7 [.ref a0, .ref a1, .ref a2, .ref a3, .ref a4, .ref a5, .int (nI (txSize p)), .int (nI (txRules p)), .int (nI (txTraits p))], ob 7 [.ref b0, .ref b1, .ref b2_, .ref b3, .ref b4, .ref b5, .int (nI (txSize q)), .int (nI (txRules q)), .int (nI (txTraits q))], ob 6 [.ref tb, .int (nI t.2)]]) :=
  Ct.ofA (own := RX10) (by decide) rfl (Nat.le_of_ble_eq_true rfl) rfl (fun X hl hD hX hR => by subst hl; subst hD; exact wk_X10_count hX hy fb tp pa ju pl yr lg ha t1 t2 f0 f1 f2 y0 y1 y2 tb a0 a1 a2 a3 a4 a5 b0 b1 b2_ b3 b4 b5 h s y p q t w hy1 hR)

def hLink (u : Nat → Option Nat) (n p : Nat) : Nat → Nat → Option Nat
  | 0, x => some x
  | m + 1, x => match u x with
    | none => none
    | some q => if q < n then (if q = p then none else hLink u n p m q) else none

set_option maxHeartbeats 1000000 in
set_option maxRecDepth 100000 in
theorem lp_X10_link {X : Cx} (hX : Ok X cX10_link 5 RX10 1) (hy fb tp pa ju pl yr lg ha t1 t2 : Nat) (y0 y1 y2 : Nat) (h : HS) (y : YR) (p i : Nat) (hn : hFs h ≤ 12) (hp : p < hFs h) (hy1 : obd y.1) (hi : i < 12) (hR : Rt X (some FieldType.int) (fun r es' => r = some (.int (eo (hLink y.1 (hFs h) p i p))) ∧ es' = [ob 10 [.ref fb, .ref tp, .ref pa, .ref ju, .ref pl, .ref yr, .ref lg, .ref ha, .ref t1, .ref t2, .int (b2 h.1), .int h.2.1, .int (nI (hFs h)), .int h.2.2.2.1, .int h.2.2.2.2.1, .int h.2.2.2.2.2], ob 9 [.ref y0, .ref y1, .ref y2, .int (nI y.2.2.2.1), .int (b2 y.2.2.2.2)], aI (CxD X) 12 (opf y.1), aZ (CxD X) 12 (zf y.2.1), aI (CxD X) 12 (nf y.2.2.1)]) [hy, yr, y0, y1, y2]) : ∀ (m t x : Nat), t + m = i → x < 12 → hLink y.1 (hFs h) p m x = hLink y.1 (hFs h) p i p → Aw X [hy, yr, y0, y1, y2] [ob 10 [.ref fb, .ref tp, .ref pa, .ref ju, .ref pl, .ref yr, .ref lg, .ref ha, .ref t1, .ref t2, .int (b2 h.1), .int h.2.1, .int (nI (hFs h)), .int h.2.2.2.1, .int h.2.2.2.2.1, .int h.2.2.2.2.2], ob 9 [.ref y0, .ref y1, .ref y2, .int (nI y.2.2.2.1), .int (b2 y.2.2.2.2)], aI (CxD X) 12 (opf y.1), aZ (CxD X) 12 (zf y.2.1), aI (CxD X) 12 (nf y.2.2.1)] 25 [(0, .ref hy), (1, .int (nI p)), (2, .int (nI i)), (3, .int (nI x)), (4, .int (nI t))] [] := by
  intro m
  induction m with
  | zero =>
    intro t x ht hx he
    refine r_iload (n := 27) hX dX10_link_25 rfl 4 rfl ?_
    refine r_iload_n (n := 28) hX dX10_link_27 rfl rfl 2 rfl ?_
    refine r_icmp_ge_n (tgt := 62) (n := 31) hX t i (by omega) (by omega) dX10_link_28 (by decide) rfl (fun c28 => ?_) (fun c28 => absurd c28 (by omega))
    refine r_iload_n (n := 63) hX dX10_link_62 rfl rfl 3 rfl ?_
    exact r_ireturn hX hR dX10_link_63 ⟨by rw [← he]; rfl, rfl⟩
  | succ m ih =>
    intro t x ht hx he
    cases hq : y.1 x with
    | none =>
      refine r_iload (n := 27) hX dX10_link_25 rfl 4 rfl ?_
      refine r_iload_n (n := 28) hX dX10_link_27 rfl rfl 2 rfl ?_
      refine r_icmp_ge_n (tgt := 62) (n := 31) hX t i (by omega) (by omega) dX10_link_28 (by decide) rfl (fun c28 => absurd c28 (by omega)) (fun c28 => ?_)
      refine r_aload_n (n := 32) hX dX10_link_31 rfl rfl 0 rfl ?_
      refine r_get (n := 35) hX 0 rfl rfl rfl 5 (by decide) lay_X10 fl_X10_47 rfl dX10_link_32 rfl ?_
      refine r_get (n := 38) hX 1 rfl rfl rfl 0 (by decide) lay_X9 fl_X10_186 rfl dX10_link_35 rfl ?_
      refine r_iload_n (n := 39) hX dX10_link_38 rfl rfl 3 rfl ?_
      refine r_ialdOn (n := 40) (i := x) hX 2 rfl rfl (by omega) (by decide) dX10_link_39 rfl ?_
      refine Aw.topi (-1) (by rw [hq]; rfl) ?_
      refine r_istore_n (n := 41) hX [(0, .ref hy), (1, .int (nI p)), (2, .int (nI i)), (3, .int (-1)), (4, .int (nI t))] dX10_link_40 rfl rfl (by decide) rfl ?_
      refine r_aload_n (n := 42) hX dX10_link_41 rfl rfl 0 rfl ?_
      refine r_iload_n (n := 43) hX dX10_link_42 rfl rfl 3 rfl ?_
      refine r_callV (n := 46) (av := [.int (-1)]) hX (ct_X10_isFamily (CxL X) (CxD X) hy fb tp pa ju pl yr lg ha t1 t2 h (-1)) ml_X10_123 cv_X10_isFamily rfl (by decide) [0] rfl rfl (by decide) 0 rfl rfl rfl rfl rfl (Nat.le_of_ble_eq_true rfl) dX10_link_43 rfl (fun r_ es_ h_ l_ => ?_)
      obtain ⟨rfl, rfl⟩ := h_
      show Aw X [hy, yr, y0, y1, y2] [ob 10 [.ref fb, .ref tp, .ref pa, .ref ju, .ref pl, .ref yr, .ref lg, .ref ha, .ref t1, .ref t2, .int (b2 h.1), .int h.2.1, .int (nI (hFs h)), .int h.2.2.2.1, .int h.2.2.2.2.1, .int h.2.2.2.2.2], ob 9 [.ref y0, .ref y1, .ref y2, .int (nI y.2.2.2.1), .int (b2 y.2.2.2.2)], aI (CxD X) 12 (opf y.1), aZ (CxD X) 12 (zf y.2.1), aI (CxD X) 12 (nf y.2.2.1)] 46 [(0, .ref hy), (1, .int (nI p)), (2, .int (nI i)), (3, .int (-1)), (4, .int (nI t))] [.int (b2 (hFam (hFs h) (-1)))]
      refine r_if_eq_b (tgt := 54) (n := 49) hX dX10_link_46 (by decide) rfl (fun c46 => ?_) (fun c46 => absurd c46 (by have : hFam (hFs h) (-1) = false := (by unfold hFam; rw [if_pos (by decide)]); rw [this]; decide))
      refine r_iconst (n := 55) hX (-1) dX10_link_54 rfl rfl ?_
      exact r_ireturn hX hR dX10_link_55 ⟨by rw [← he, hLink, hq]; rfl, rfl⟩
    | some q =>
      have hq12 := hy1 x q hq
      refine r_iload (n := 27) hX dX10_link_25 rfl 4 rfl ?_
      refine r_iload_n (n := 28) hX dX10_link_27 rfl rfl 2 rfl ?_
      refine r_icmp_ge_n (tgt := 62) (n := 31) hX t i (by omega) (by omega) dX10_link_28 (by decide) rfl (fun c28 => absurd c28 (by omega)) (fun c28 => ?_)
      refine r_aload_n (n := 32) hX dX10_link_31 rfl rfl 0 rfl ?_
      refine r_get (n := 35) hX 0 rfl rfl rfl 5 (by decide) lay_X10 fl_X10_47 rfl dX10_link_32 rfl ?_
      refine r_get (n := 38) hX 1 rfl rfl rfl 0 (by decide) lay_X9 fl_X10_186 rfl dX10_link_35 rfl ?_
      refine r_iload_n (n := 39) hX dX10_link_38 rfl rfl 3 rfl ?_
      refine r_ialdOn (n := 40) (i := x) hX 2 rfl rfl (by omega) (by decide) dX10_link_39 rfl ?_
      refine Aw.topi (nI q) (by rw [hq]; rfl) ?_
      refine r_istore_n (n := 41) hX [(0, .ref hy), (1, .int (nI p)), (2, .int (nI i)), (3, .int (nI q)), (4, .int (nI t))] dX10_link_40 rfl rfl (by decide) rfl ?_
      refine r_aload_n (n := 42) hX dX10_link_41 rfl rfl 0 rfl ?_
      refine r_iload_n (n := 43) hX dX10_link_42 rfl rfl 3 rfl ?_
      refine r_callV (n := 46) (av := [.int (nI q)]) hX (ct_X10_isFamily (CxL X) (CxD X) hy fb tp pa ju pl yr lg ha t1 t2 h (nI q)) ml_X10_123 cv_X10_isFamily rfl (by decide) [0] rfl rfl (by decide) 0 rfl rfl rfl rfl rfl (Nat.le_of_ble_eq_true rfl) dX10_link_43 rfl (fun r_ es_ h_ l_ => ?_)
      obtain ⟨rfl, rfl⟩ := h_
      show Aw X [hy, yr, y0, y1, y2] [ob 10 [.ref fb, .ref tp, .ref pa, .ref ju, .ref pl, .ref yr, .ref lg, .ref ha, .ref t1, .ref t2, .int (b2 h.1), .int h.2.1, .int (nI (hFs h)), .int h.2.2.2.1, .int h.2.2.2.2.1, .int h.2.2.2.2.2], ob 9 [.ref y0, .ref y1, .ref y2, .int (nI y.2.2.2.1), .int (b2 y.2.2.2.2)], aI (CxD X) 12 (opf y.1), aZ (CxD X) 12 (zf y.2.1), aI (CxD X) 12 (nf y.2.2.1)] 46 [(0, .ref hy), (1, .int (nI p)), (2, .int (nI i)), (3, .int (nI q)), (4, .int (nI t))] [.int (b2 (hFam (hFs h) (nI q)))]
      refine r_if_eq_b (tgt := 54) (n := 49) hX dX10_link_46 (by decide) rfl (fun c46 => ?_) (fun c46 => ?_)
      · have hqn : ¬ q < hFs h := fun e => by rw [hFam_of hn e] at c46; cases c46
        refine r_iconst (n := 55) hX (-1) dX10_link_54 rfl rfl ?_
        exact r_ireturn hX hR dX10_link_55 ⟨by rw [← he, hLink, hq]; show _ = some (Value.int (eo (if q < hFs h then (if q = p then none else hLink y.1 (hFs h) p m q) else none))); rw [if_neg hqn]; rfl, rfl⟩
      · have hqn2 : q < hFs h := (by obtain ⟨q2, hq2, e2⟩ := hFam_nI hn c46; rw [(nI_eq (by omega) (by omega)).mp e2]; exact hq2)
        refine r_iload_n (n := 50) hX dX10_link_49 rfl rfl 3 rfl ?_
        refine r_iload_n (n := 51) hX dX10_link_50 rfl rfl 1 rfl ?_
        refine r_icmp_ne_n (tgt := 56) (n := 54) hX q p (by omega) (by omega) dX10_link_51 (by decide) rfl (fun c51 => ?_) (fun c51 => ?_)
        · skip
          refine r_iinc (n := 59) hX (nI (t + 1)) [(0, .ref hy), (1, .int (nI p)), (2, .int (nI i)), (3, .int (nI q)), (4, .int (nI (t + 1)))] dX10_link_56 rfl 4 rfl (nI_add _ _) (by decide) rfl ?_
          refine r_goto (tgt := 25) hX dX10_link_59 (by decide) ?_
          exact ih (t + 1) q (by omega) (by omega) (by rw [← he, hLink, hq]; show _ = (if q < hFs h then (if q = p then none else hLink y.1 (hFs h) p m q) else none); rw [if_pos hqn2, if_neg c51])
        · skip
          refine r_iconst (n := 55) hX (-1) dX10_link_54 rfl rfl ?_
          exact r_ireturn hX hR dX10_link_55 ⟨by rw [← he, hLink, hq]; show _ = some (Value.int (eo (if q < hFs h then (if q = p then none else hLink y.1 (hFs h) p m q) else none))); rw [if_pos hqn2, if_pos c51]; rfl, rfl⟩
set_option maxHeartbeats 1000000 in
set_option maxRecDepth 100000 in
theorem wk_X10_link {X : Cx} (hX : Ok X cX10_link 5 RX10 1) (hy fb tp pa ju pl yr lg ha t1 t2 : Nat) (y0 y1 y2 : Nat) (h : HS) (y : YR) (p i : Nat) (hn : hFs h ≤ 12) (hp : p < hFs h) (hy1 : obd y.1) (hi : i < 12) (hR : Rt X (some FieldType.int) (fun r es' => r = some (.int (eo (hLink y.1 (hFs h) p i p))) ∧ es' = [ob 10 [.ref fb, .ref tp, .ref pa, .ref ju, .ref pl, .ref yr, .ref lg, .ref ha, .ref t1, .ref t2, .int (b2 h.1), .int h.2.1, .int (nI (hFs h)), .int h.2.2.2.1, .int h.2.2.2.2.1, .int h.2.2.2.2.2], ob 9 [.ref y0, .ref y1, .ref y2, .int (nI y.2.2.2.1), .int (b2 y.2.2.2.2)], aI (CxD X) 12 (opf y.1), aZ (CxD X) 12 (zf y.2.1), aI (CxD X) 12 (nf y.2.2.1)]) [hy, yr, y0, y1, y2]) : Aw X [hy, yr, y0, y1, y2] [ob 10 [.ref fb, .ref tp, .ref pa, .ref ju, .ref pl, .ref yr, .ref lg, .ref ha, .ref t1, .ref t2, .int (b2 h.1), .int h.2.1, .int (nI (hFs h)), .int h.2.2.2.1, .int h.2.2.2.2.1, .int h.2.2.2.2.2], ob 9 [.ref y0, .ref y1, .ref y2, .int (nI y.2.2.2.1), .int (b2 y.2.2.2.2)], aI (CxD X) 12 (opf y.1), aZ (CxD X) 12 (zf y.2.1), aI (CxD X) 12 (nf y.2.2.1)] 0 [(0, .ref hy), (1, .int (nI p)), (2, .int (nI i))] [] := by
  refine r_aload_n (n := 1) hX dX10_link_0 rfl rfl 0 rfl ?_
  refine r_iload_n (n := 2) hX dX10_link_1 rfl rfl 1 rfl ?_
  refine r_callV (n := 5) (av := [.int (nI p)]) hX (ct_X10_isFamily (CxL X) (CxD X) hy fb tp pa ju pl yr lg ha t1 t2 h (nI p)) ml_X10_123 cv_X10_isFamily rfl (by decide) [0] rfl rfl (by decide) 0 rfl rfl rfl rfl rfl (Nat.le_of_ble_eq_true rfl) dX10_link_2 rfl (fun r_ es_ h_ l_ => ?_)
  obtain ⟨rfl, rfl⟩ := h_
  show Aw X [hy, yr, y0, y1, y2] [ob 10 [.ref fb, .ref tp, .ref pa, .ref ju, .ref pl, .ref yr, .ref lg, .ref ha, .ref t1, .ref t2, .int (b2 h.1), .int h.2.1, .int (nI (hFs h)), .int h.2.2.2.1, .int h.2.2.2.2.1, .int h.2.2.2.2.2], ob 9 [.ref y0, .ref y1, .ref y2, .int (nI y.2.2.2.1), .int (b2 y.2.2.2.2)], aI (CxD X) 12 (opf y.1), aZ (CxD X) 12 (zf y.2.1), aI (CxD X) 12 (nf y.2.2.1)] 5 [(0, .ref hy), (1, .int (nI p)), (2, .int (nI i))] [.int (b2 (hFam (hFs h) (nI p)))]
  refine r_if_eq_b (tgt := 18) (n := 8) hX dX10_link_5 (by decide) rfl (fun c5 => absurd c5 (by rw [hFam_of hn hp]; decide)) (fun c5 => ?_)
  refine r_iload_n (n := 9) hX dX10_link_8 rfl rfl 2 rfl ?_
  refine r_iflt_n (n := 12) (tgt := 18) hX (by omega) dX10_link_9 rfl (by decide) ?_
  refine r_iload_n (n := 13) hX dX10_link_12 rfl rfl 2 rfl ?_
  refine r_bipush (n := 15) hX 12 dX10_link_13 rfl rfl ?_
  refine r_icmp_lt_n (tgt := 20) (n := 18) hX i 12 (by omega) (by omega) dX10_link_15 (by decide) rfl (fun c15 => ?_) (fun c15 => absurd c15 (by omega))
  refine r_iload_n (n := 21) hX dX10_link_20 rfl rfl 1 rfl ?_
  refine r_istore_n (n := 22) hX [(0, .ref hy), (1, .int (nI p)), (2, .int (nI i)), (3, .int (nI p))] dX10_link_21 rfl rfl (by decide) rfl ?_
  refine r_iconst (n := 23) hX 0 dX10_link_22 rfl rfl ?_
  refine r_istore (n := 25) hX [(0, .ref hy), (1, .int (nI p)), (2, .int (nI i)), (3, .int (nI p)), (4, .int 0)] dX10_link_23 rfl (by decide) rfl ?_
  exact lp_X10_link hX hy fb tp pa ju pl yr lg ha t1 t2 y0 y1 y2 h y p i hn hp hy1 hi hR i 0 p (by omega) (by omega) rfl
theorem ct_X10_link (l : Launch) (D : va_G) (hy fb tp pa ju pl yr lg ha t1 t2 : Nat) (y0 y1 y2 : Nat) (h : HS) (y : YR) (p i : Nat) (hn : hFs h ≤ 12) (hp : p < hFs h) (hy1 : obd y.1) (hi : i < 12) : Ct l D m_X10_link 1 [.ref hy, .int (nI p), .int (nI i)] [hy, yr, y0, y1, y2] [ob 10 [.ref fb, .ref tp, .ref pa, .ref ju, .ref pl, .ref yr, .ref lg, .ref ha, .ref t1, .ref t2, .int (b2 h.1), .int h.2.1, .int (nI (hFs h)), .int h.2.2.2.1, .int h.2.2.2.2.1, .int h.2.2.2.2.2], ob 9 [.ref y0, .ref y1, .ref y2, .int (nI y.2.2.2.1), .int (b2 y.2.2.2.2)], aI D 12 (opf y.1), aZ D 12 (zf y.2.1), aI D 12 (nf y.2.2.1)] (fun r es' => r = some (.int (eo (hLink y.1 (hFs h) p i p))) ∧ es' = [ob 10 [.ref fb, .ref tp, .ref pa, .ref ju, .ref pl, .ref yr, .ref lg, .ref ha, .ref t1, .ref t2, .int (b2 h.1), .int h.2.1, .int (nI (hFs h)), .int h.2.2.2.1, .int h.2.2.2.2.1, .int h.2.2.2.2.2], ob 9 [.ref y0, .ref y1, .ref y2, .int (nI y.2.2.2.1), .int (b2 y.2.2.2.2)], aI D 12 (opf y.1), aZ D 12 (zf y.2.1), aI D 12 (nf y.2.2.1)]) :=
  Ct.ofA (own := RX10) (by decide) rfl (Nat.le_of_ble_eq_true rfl) rfl (fun X hl hD hX hR => by subst hl; subst hD; exact wk_X10_link hX hy fb tp pa ju pl yr lg ha t1 t2 y0 y1 y2 h y p i hn hp hy1 hi hR)
set_option maxHeartbeats 1000000 in
set_option maxRecDepth 100000 in
theorem wk_linkN {X : Cx} (hX : Ok X cX10_link 5 RX10 1) (hy fb tp pa ju pl yr lg ha t1 t2 : Nat) (h : HS) (f w : Int32) (hb : hFam (hFs h) f = false ∨ w < 0 ∨ 12 ≤ w) (hR : Rt X (some FieldType.int) (fun r es' => r = some (.int (-1)) ∧ es' = [ob 10 [.ref fb, .ref tp, .ref pa, .ref ju, .ref pl, .ref yr, .ref lg, .ref ha, .ref t1, .ref t2, .int (b2 h.1), .int h.2.1, .int (nI (hFs h)), .int h.2.2.2.1, .int h.2.2.2.2.1, .int h.2.2.2.2.2]]) [hy]) : Aw X [hy] [ob 10 [.ref fb, .ref tp, .ref pa, .ref ju, .ref pl, .ref yr, .ref lg, .ref ha, .ref t1, .ref t2, .int (b2 h.1), .int h.2.1, .int (nI (hFs h)), .int h.2.2.2.1, .int h.2.2.2.2.1, .int h.2.2.2.2.2]] 0 [(0, .ref hy), (1, .int f), (2, .int w)] [] := by
  refine r_aload_n (n := 1) hX dX10_link_0 rfl rfl 0 rfl ?_
  refine r_iload_n (n := 2) hX dX10_link_1 rfl rfl 1 rfl ?_
  refine r_callV (n := 5) (av := [.int f]) hX (ct_X10_isFamily (CxL X) (CxD X) hy fb tp pa ju pl yr lg ha t1 t2 h f) ml_X10_123 cv_X10_isFamily rfl (by decide) [0] rfl rfl (by decide) 0 rfl rfl rfl rfl rfl (Nat.le_of_ble_eq_true rfl) dX10_link_2 rfl (fun r_ es_ h_ l_ => ?_)
  obtain ⟨rfl, rfl⟩ := h_
  show Aw X [hy] [ob 10 [.ref fb, .ref tp, .ref pa, .ref ju, .ref pl, .ref yr, .ref lg, .ref ha, .ref t1, .ref t2, .int (b2 h.1), .int h.2.1, .int (nI (hFs h)), .int h.2.2.2.1, .int h.2.2.2.2.1, .int h.2.2.2.2.2]] 5 [(0, .ref hy), (1, .int f), (2, .int w)] [.int (b2 (hFam (hFs h) f))]
  refine r_if_eq_b (tgt := 18) (n := 8) hX dX10_link_5 (by decide) rfl (fun c5 => ?_) (fun c5 => ?_)
  · skip
    refine r_iconst (n := 19) hX (-1) dX10_link_18 rfl rfl ?_
    exact r_ireturn hX hR dX10_link_19 ⟨rfl, rfl⟩
  · skip
    refine r_iload_n (n := 9) hX dX10_link_8 rfl rfl 2 rfl ?_
    refine r_if_lt (tgt := 18) (n := 12) hX dX10_link_9 (by decide) rfl (fun c9 => ?_) (fun c9 => ?_)
    · skip
      refine r_iconst (n := 19) hX (-1) dX10_link_18 rfl rfl ?_
      exact r_ireturn hX hR dX10_link_19 ⟨rfl, rfl⟩
    · skip
      refine r_iload_n (n := 13) hX dX10_link_12 rfl rfl 2 rfl ?_
      refine r_bipush (n := 15) hX 12 dX10_link_13 rfl rfl ?_
      refine r_icmp_lt (tgt := 20) (n := 18) hX dX10_link_15 (by decide) rfl (fun c15 => absurd c15 (fun e => hb.elim (fun q => by rw [q] at c5; cases c5) (fun q => q.elim c9 (fun q => absurd e (Int32.not_lt.mpr q))))) (fun c15 => ?_)
      refine r_iconst (n := 19) hX (-1) dX10_link_18 rfl rfl ?_
      exact r_ireturn hX hR dX10_link_19 ⟨rfl, rfl⟩
theorem ct_linkN (l : Launch) (D : va_G) (hy fb tp pa ju pl yr lg ha t1 t2 : Nat) (h : HS) (f w : Int32) (hb : hFam (hFs h) f = false ∨ w < 0 ∨ 12 ≤ w) : Ct l D m_X10_link 1 [.ref hy, .int f, .int w] [hy] [ob 10 [.ref fb, .ref tp, .ref pa, .ref ju, .ref pl, .ref yr, .ref lg, .ref ha, .ref t1, .ref t2, .int (b2 h.1), .int h.2.1, .int (nI (hFs h)), .int h.2.2.2.1, .int h.2.2.2.2.1, .int h.2.2.2.2.2]] (fun r es' => r = some (.int (-1)) ∧ es' = [ob 10 [.ref fb, .ref tp, .ref pa, .ref ju, .ref pl, .ref yr, .ref lg, .ref ha, .ref t1, .ref t2, .int (b2 h.1), .int h.2.1, .int (nI (hFs h)), .int h.2.2.2.1, .int h.2.2.2.2.1, .int h.2.2.2.2.2]]) :=
  Ct.ofA (own := RX10) (by decide) rfl (Nat.le_of_ble_eq_true rfl) rfl (fun X hl hD hX hR => by subst hl; subst hD; exact wk_linkN hX hy fb tp pa ju pl yr lg ha t1 t2 h f w hb hR)
set_option maxHeartbeats 1000000 in
set_option maxRecDepth 100000 in
theorem wk_why0 {X : Cx} (hX : Ok X cX10_why 6 RX10 5) (hy fb tp pa ju pl yr lg ha t1 t2 : Nat) (f0 f1 f2 j0 j1 x0 x1 x2 x3 x4 x5 : Nat) (h : HS) (s : FB) (x : TX) (v k : Nat → Int32) (sl dd : Int32) (p q : Nat) (hn : hFs h ≤ 12) (hs : sl = 0) (hd : hDay dd = true) (hp : p < hFs h) (hq : q < hFs h) (hs4 : s.2.2.2 ≤ 400) (ht : txOk x) (hR : Rt X (some FieldType.int) (fun r es' => r = some (.int (nI (jWhy x (fbFill s dd s.2.2.2 0 (zfill v 312)) h.2.2.2.2.1 p q k).1)) ∧ es' = [ob 10 [.ref fb, .ref tp, .ref pa, .ref ju, .ref pl, .ref yr, .ref lg, .ref ha, .ref t1, .ref t2, .int (b2 h.1), .int h.2.1, .int (nI (hFs h)), .int h.2.2.2.1, .int h.2.2.2.2.1, .int h.2.2.2.2.2], ob 0 [.ref f0, .ref f1, .ref f2, .int (nI s.2.2.2)], aI (CxD X) 400 s.1, aI (CxD X) 400 s.2.1, aI (CxD X) 400 s.2.2.1, ob 1 [.ref j0, .ref j1], aI (CxD X) 312 (fbFill s dd s.2.2.2 0 (zfill v 312)), aI (CxD X) 64 ((jWhy x (fbFill s dd s.2.2.2 0 (zfill v 312)) h.2.2.2.2.1 p q k).2), ob 7 [.ref x0, .ref x1, .ref x2, .ref x3, .ref x4, .ref x5, .int (nI (txSize x)), .int (nI (txRules x)), .int (nI (txTraits x))], aI (CxD X) 600 x.1, aZ (CxD X) 20 (zf x.2.1), aI (CxD X) 20 (nf x.2.2.1), aI (CxD X) 20 (nf x.2.2.2.1), aI (CxD X) 20 (nf x.2.2.2.2.1), aJ (CxD X) 8 x.2.2.2.2.2.1]) [hy, fb, f0, f1, f2, ju, j0, j1, t1, x0, x1, x2, x3, x4, x5]) : Aw X [hy, fb, f0, f1, f2, ju, j0, j1, t1, x0, x1, x2, x3, x4, x5] [ob 10 [.ref fb, .ref tp, .ref pa, .ref ju, .ref pl, .ref yr, .ref lg, .ref ha, .ref t1, .ref t2, .int (b2 h.1), .int h.2.1, .int (nI (hFs h)), .int h.2.2.2.1, .int h.2.2.2.2.1, .int h.2.2.2.2.2], ob 0 [.ref f0, .ref f1, .ref f2, .int (nI s.2.2.2)], aI (CxD X) 400 s.1, aI (CxD X) 400 s.2.1, aI (CxD X) 400 s.2.2.1, ob 1 [.ref j0, .ref j1], aI (CxD X) 312 v, aI (CxD X) 64 k, ob 7 [.ref x0, .ref x1, .ref x2, .ref x3, .ref x4, .ref x5, .int (nI (txSize x)), .int (nI (txRules x)), .int (nI (txTraits x))], aI (CxD X) 600 x.1, aZ (CxD X) 20 (zf x.2.1), aI (CxD X) 20 (nf x.2.2.1), aI (CxD X) 20 (nf x.2.2.2.1), aI (CxD X) 20 (nf x.2.2.2.2.1), aJ (CxD X) 8 x.2.2.2.2.2.1] 0 [(0, .ref hy), (1, .int sl), (2, .int dd), (3, .int (nI p)), (4, .int (nI q))] [] := by
  refine r_aload_n (n := 1) hX dX10_why_0 rfl rfl 0 rfl ?_
  refine r_iload_n (n := 2) hX dX10_why_1 rfl rfl 1 rfl ?_
  refine r_callV (n := 5) (av := [.int sl]) hX (ct_textOf0 (CxL X) (CxD X) hy fb tp pa ju pl yr lg ha t1 t2 h sl hs) ml_X10_99 cv_X10_textOf rfl (by decide) [0] rfl rfl (by decide) 0 rfl rfl rfl rfl rfl (Nat.le_of_ble_eq_true rfl) dX10_why_2 rfl (fun r_ es_ h_ l_ => ?_)
  obtain ⟨rfl, rfl⟩ := h_
  show Aw X [hy, fb, f0, f1, f2, ju, j0, j1, t1, x0, x1, x2, x3, x4, x5] [ob 10 [.ref fb, .ref tp, .ref pa, .ref ju, .ref pl, .ref yr, .ref lg, .ref ha, .ref t1, .ref t2, .int (b2 h.1), .int h.2.1, .int (nI (hFs h)), .int h.2.2.2.1, .int h.2.2.2.2.1, .int h.2.2.2.2.2], ob 0 [.ref f0, .ref f1, .ref f2, .int (nI s.2.2.2)], aI (CxD X) 400 s.1, aI (CxD X) 400 s.2.1, aI (CxD X) 400 s.2.2.1, ob 1 [.ref j0, .ref j1], aI (CxD X) 312 v, aI (CxD X) 64 k, ob 7 [.ref x0, .ref x1, .ref x2, .ref x3, .ref x4, .ref x5, .int (nI (txSize x)), .int (nI (txRules x)), .int (nI (txTraits x))], aI (CxD X) 600 x.1, aZ (CxD X) 20 (zf x.2.1), aI (CxD X) 20 (nf x.2.2.1), aI (CxD X) 20 (nf x.2.2.2.1), aI (CxD X) 20 (nf x.2.2.2.2.1), aJ (CxD X) 8 x.2.2.2.2.2.1] 5 [(0, .ref hy), (1, .int sl), (2, .int dd), (3, .int (nI p)), (4, .int (nI q))] [.ref t1]
  refine r_astore (n := 7) hX [(0, .ref hy), (1, .int sl), (2, .int dd), (3, .int (nI p)), (4, .int (nI q)), (5, .ref t1)] dX10_why_5 rfl (by decide) rfl ?_
  refine r_aload (n := 9) hX dX10_why_7 rfl 5 rfl ?_
  refine r_ifnull (n := 12) hX dX10_why_9 rfl ?_
  refine r_iload_n (n := 13) hX dX10_why_12 rfl rfl 2 rfl ?_
  refine r_callS (n := 16) (av := [.int dd]) hX (ct_X10_isDay (CxL X) (CxD X) dd) ml_X10_115 cs_X10_isDay rfl (by decide) [] rfl rfl (by decide) rfl (Nat.le_of_ble_eq_true rfl) dX10_why_13 rfl (fun r_ es_ h_ l_ => ?_)
  obtain ⟨rfl, rfl⟩ := h_
  show Aw X [hy, fb, f0, f1, f2, ju, j0, j1, t1, x0, x1, x2, x3, x4, x5] [ob 10 [.ref fb, .ref tp, .ref pa, .ref ju, .ref pl, .ref yr, .ref lg, .ref ha, .ref t1, .ref t2, .int (b2 h.1), .int h.2.1, .int (nI (hFs h)), .int h.2.2.2.1, .int h.2.2.2.2.1, .int h.2.2.2.2.2], ob 0 [.ref f0, .ref f1, .ref f2, .int (nI s.2.2.2)], aI (CxD X) 400 s.1, aI (CxD X) 400 s.2.1, aI (CxD X) 400 s.2.2.1, ob 1 [.ref j0, .ref j1], aI (CxD X) 312 v, aI (CxD X) 64 k, ob 7 [.ref x0, .ref x1, .ref x2, .ref x3, .ref x4, .ref x5, .int (nI (txSize x)), .int (nI (txRules x)), .int (nI (txTraits x))], aI (CxD X) 600 x.1, aZ (CxD X) 20 (zf x.2.1), aI (CxD X) 20 (nf x.2.2.1), aI (CxD X) 20 (nf x.2.2.2.1), aI (CxD X) 20 (nf x.2.2.2.2.1), aJ (CxD X) 8 x.2.2.2.2.2.1] 16 [(0, .ref hy), (1, .int sl), (2, .int dd), (3, .int (nI p)), (4, .int (nI q)), (5, .ref t1)] [.int (b2 (hDay dd))]
  refine r_if_eq_b (tgt := 36) (n := 19) hX dX10_why_16 (by decide) rfl (fun c16 => absurd c16 (by rw [hd]; decide)) (fun c16 => ?_)
  refine r_aload_n (n := 20) hX dX10_why_19 rfl rfl 0 rfl ?_
  refine r_iload_n (n := 21) hX dX10_why_20 rfl rfl 3 rfl ?_
  refine r_callV (n := 24) (av := [.int (nI p)]) hX (ct_X10_isFamily (CxL X) (CxD X) hy fb tp pa ju pl yr lg ha t1 t2 h (nI p)) ml_X10_123 cv_X10_isFamily rfl (by decide) [0] rfl rfl (by decide) 0 rfl rfl rfl rfl rfl (Nat.le_of_ble_eq_true rfl) dX10_why_21 rfl (fun r_ es_ h_ l_ => ?_)
  obtain ⟨rfl, rfl⟩ := h_
  show Aw X [hy, fb, f0, f1, f2, ju, j0, j1, t1, x0, x1, x2, x3, x4, x5] [ob 10 [.ref fb, .ref tp, .ref pa, .ref ju, .ref pl, .ref yr, .ref lg, .ref ha, .ref t1, .ref t2, .int (b2 h.1), .int h.2.1, .int (nI (hFs h)), .int h.2.2.2.1, .int h.2.2.2.2.1, .int h.2.2.2.2.2], ob 0 [.ref f0, .ref f1, .ref f2, .int (nI s.2.2.2)], aI (CxD X) 400 s.1, aI (CxD X) 400 s.2.1, aI (CxD X) 400 s.2.2.1, ob 1 [.ref j0, .ref j1], aI (CxD X) 312 v, aI (CxD X) 64 k, ob 7 [.ref x0, .ref x1, .ref x2, .ref x3, .ref x4, .ref x5, .int (nI (txSize x)), .int (nI (txRules x)), .int (nI (txTraits x))], aI (CxD X) 600 x.1, aZ (CxD X) 20 (zf x.2.1), aI (CxD X) 20 (nf x.2.2.1), aI (CxD X) 20 (nf x.2.2.2.1), aI (CxD X) 20 (nf x.2.2.2.2.1), aJ (CxD X) 8 x.2.2.2.2.2.1] 24 [(0, .ref hy), (1, .int sl), (2, .int dd), (3, .int (nI p)), (4, .int (nI q)), (5, .ref t1)] [.int (b2 (hFam (hFs h) (nI p)))]
  refine r_if_eq_b (tgt := 36) (n := 27) hX dX10_why_24 (by decide) rfl (fun c24 => absurd c24 (by rw [hFam_of hn hp]; decide)) (fun c24 => ?_)
  refine r_aload_n (n := 28) hX dX10_why_27 rfl rfl 0 rfl ?_
  refine r_iload (n := 30) hX dX10_why_28 rfl 4 rfl ?_
  refine r_callV (n := 33) (av := [.int (nI q)]) hX (ct_X10_isFamily (CxL X) (CxD X) hy fb tp pa ju pl yr lg ha t1 t2 h (nI q)) ml_X10_123 cv_X10_isFamily rfl (by decide) [0] rfl rfl (by decide) 0 rfl rfl rfl rfl rfl (Nat.le_of_ble_eq_true rfl) dX10_why_30 rfl (fun r_ es_ h_ l_ => ?_)
  obtain ⟨rfl, rfl⟩ := h_
  show Aw X [hy, fb, f0, f1, f2, ju, j0, j1, t1, x0, x1, x2, x3, x4, x5] [ob 10 [.ref fb, .ref tp, .ref pa, .ref ju, .ref pl, .ref yr, .ref lg, .ref ha, .ref t1, .ref t2, .int (b2 h.1), .int h.2.1, .int (nI (hFs h)), .int h.2.2.2.1, .int h.2.2.2.2.1, .int h.2.2.2.2.2], ob 0 [.ref f0, .ref f1, .ref f2, .int (nI s.2.2.2)], aI (CxD X) 400 s.1, aI (CxD X) 400 s.2.1, aI (CxD X) 400 s.2.2.1, ob 1 [.ref j0, .ref j1], aI (CxD X) 312 v, aI (CxD X) 64 k, ob 7 [.ref x0, .ref x1, .ref x2, .ref x3, .ref x4, .ref x5, .int (nI (txSize x)), .int (nI (txRules x)), .int (nI (txTraits x))], aI (CxD X) 600 x.1, aZ (CxD X) 20 (zf x.2.1), aI (CxD X) 20 (nf x.2.2.1), aI (CxD X) 20 (nf x.2.2.2.1), aI (CxD X) 20 (nf x.2.2.2.2.1), aJ (CxD X) 8 x.2.2.2.2.2.1] 33 [(0, .ref hy), (1, .int sl), (2, .int dd), (3, .int (nI p)), (4, .int (nI q)), (5, .ref t1)] [.int (b2 (hFam (hFs h) (nI q)))]
  refine r_if_ne_b (tgt := 38) (n := 36) hX dX10_why_33 (by decide) rfl (fun c33 => ?_) (fun c33 => absurd c33 (by rw [hFam_of hn hq]; decide))
  refine r_aload_n (n := 39) hX dX10_why_38 rfl rfl 0 rfl ?_
  refine r_get (n := 42) hX 0 rfl rfl rfl 0 (by decide) lay_X10 fl_X10_10 rfl dX10_why_39 rfl ?_
  refine r_aload_n (n := 43) hX dX10_why_42 rfl rfl 0 rfl ?_
  refine r_get (n := 46) hX 0 rfl rfl rfl 3 (by decide) lay_X10 fl_X10_33 rfl dX10_why_43 rfl ?_
  refine r_get (n := 49) hX 5 rfl rfl rfl 0 (by decide) lay_X1 fl_X10_140 rfl dX10_why_46 rfl ?_
  refine r_iload_n (n := 50) hX dX10_why_49 rfl rfl 2 rfl ?_
  refine r_callV (n := 53) (av := [.ref j0, .int dd]) hX (ct_X0_fill (CxL X) (CxD X) fb f0 f1 f2 j0 s v dd hs4) ml_X10_143 cv_X0_fill rfl (by decide) [1, 2, 3, 4, 6] rfl rfl (by decide) 1 rfl rfl rfl rfl rfl (Nat.le_of_ble_eq_true rfl) dX10_why_50 rfl (fun r_ es_ h_ l_ => ?_)
  obtain ⟨rfl, rfl⟩ := h_
  show Aw X [hy, fb, f0, f1, f2, ju, j0, j1, t1, x0, x1, x2, x3, x4, x5] [ob 10 [.ref fb, .ref tp, .ref pa, .ref ju, .ref pl, .ref yr, .ref lg, .ref ha, .ref t1, .ref t2, .int (b2 h.1), .int h.2.1, .int (nI (hFs h)), .int h.2.2.2.1, .int h.2.2.2.2.1, .int h.2.2.2.2.2], ob 0 [.ref f0, .ref f1, .ref f2, .int (nI s.2.2.2)], aI (CxD X) 400 s.1, aI (CxD X) 400 s.2.1, aI (CxD X) 400 s.2.2.1, ob 1 [.ref j0, .ref j1], aI (CxD X) 312 (fbFill s dd s.2.2.2 0 (zfill v 312)), aI (CxD X) 64 k, ob 7 [.ref x0, .ref x1, .ref x2, .ref x3, .ref x4, .ref x5, .int (nI (txSize x)), .int (nI (txRules x)), .int (nI (txTraits x))], aI (CxD X) 600 x.1, aZ (CxD X) 20 (zf x.2.1), aI (CxD X) 20 (nf x.2.2.1), aI (CxD X) 20 (nf x.2.2.2.1), aI (CxD X) 20 (nf x.2.2.2.2.1), aJ (CxD X) 8 x.2.2.2.2.2.1] 53 [(0, .ref hy), (1, .int sl), (2, .int dd), (3, .int (nI p)), (4, .int (nI q)), (5, .ref t1)] []
  generalize hv : fbFill s dd s.2.2.2 0 (zfill v 312) = vv
  refine r_aload_n (n := 54) hX dX10_why_53 rfl rfl 0 rfl ?_
  refine r_get (n := 57) hX 0 rfl rfl rfl 3 (by decide) lay_X10 fl_X10_33 rfl dX10_why_54 rfl ?_
  refine r_aload (n := 59) hX dX10_why_57 rfl 5 rfl ?_
  refine r_aload_n (n := 60) hX dX10_why_59 rfl rfl 0 rfl ?_
  refine r_get (n := 63) hX 0 rfl rfl rfl 14 (by decide) lay_X10 fl_X10_86 rfl dX10_why_60 rfl ?_
  refine r_iload_n (n := 64) hX dX10_why_63 rfl rfl 3 rfl ?_
  refine r_iload (n := 66) hX dX10_why_64 rfl 4 rfl ?_
  refine r_callV (n := 69) (av := [.ref t1, .int h.2.2.2.2.1, .int (nI p), .int (nI q)]) hX (ct_X1_reason (CxL X) (CxD X) ju j0 j1 t1 x0 x1 x2 x3 x4 x5 x vv k h.2.2.2.2.1 p q ht (by omega) (by omega)) ml_X10_147 cv_X1_reason rfl (by decide) [5, 6, 7, 8, 9, 10, 11, 12, 13, 14] rfl rfl (by decide) 5 rfl rfl rfl rfl rfl (Nat.le_of_ble_eq_true rfl) dX10_why_66 rfl (fun r_ es_ h_ l_ => ?_)
  obtain ⟨rfl, rfl⟩ := h_
  show Aw X [hy, fb, f0, f1, f2, ju, j0, j1, t1, x0, x1, x2, x3, x4, x5] [ob 10 [.ref fb, .ref tp, .ref pa, .ref ju, .ref pl, .ref yr, .ref lg, .ref ha, .ref t1, .ref t2, .int (b2 h.1), .int h.2.1, .int (nI (hFs h)), .int h.2.2.2.1, .int h.2.2.2.2.1, .int h.2.2.2.2.2], ob 0 [.ref f0, .ref f1, .ref f2, .int (nI s.2.2.2)], aI (CxD X) 400 s.1, aI (CxD X) 400 s.2.1, aI (CxD X) 400 s.2.2.1, ob 1 [.ref j0, .ref j1], aI (CxD X) 312 vv, aI (CxD X) 64 ((jWhy x vv h.2.2.2.2.1 p q k).2), ob 7 [.ref x0, .ref x1, .ref x2, .ref x3, .ref x4, .ref x5, .int (nI (txSize x)), .int (nI (txRules x)), .int (nI (txTraits x))], aI (CxD X) 600 x.1, aZ (CxD X) 20 (zf x.2.1), aI (CxD X) 20 (nf x.2.2.1), aI (CxD X) 20 (nf x.2.2.2.1), aI (CxD X) 20 (nf x.2.2.2.2.1), aJ (CxD X) 8 x.2.2.2.2.2.1] 69 [(0, .ref hy), (1, .int sl), (2, .int dd), (3, .int (nI p)), (4, .int (nI q)), (5, .ref t1)] [.int (nI ((jWhy x vv h.2.2.2.2.1 p q k).1))]
  exact r_ireturn hX hR dX10_why_69 (by rw [hv]; exact ⟨rfl, rfl⟩)
theorem ct_why0 (l : Launch) (D : va_G) (hy fb tp pa ju pl yr lg ha t1 t2 : Nat) (f0 f1 f2 j0 j1 x0 x1 x2 x3 x4 x5 : Nat) (h : HS) (s : FB) (x : TX) (v k : Nat → Int32) (sl dd : Int32) (p q : Nat) (hn : hFs h ≤ 12) (hs : sl = 0) (hd : hDay dd = true) (hp : p < hFs h) (hq : q < hFs h) (hs4 : s.2.2.2 ≤ 400) (ht : txOk x) : Ct l D m_X10_why 5 [.ref hy, .int sl, .int dd, .int (nI p), .int (nI q)] [hy, fb, f0, f1, f2, ju, j0, j1, t1, x0, x1, x2, x3, x4, x5] [ob 10 [.ref fb, .ref tp, .ref pa, .ref ju, .ref pl, .ref yr, .ref lg, .ref ha, .ref t1, .ref t2, .int (b2 h.1), .int h.2.1, .int (nI (hFs h)), .int h.2.2.2.1, .int h.2.2.2.2.1, .int h.2.2.2.2.2], ob 0 [.ref f0, .ref f1, .ref f2, .int (nI s.2.2.2)], aI D 400 s.1, aI D 400 s.2.1, aI D 400 s.2.2.1, ob 1 [.ref j0, .ref j1], aI D 312 v, aI D 64 k, ob 7 [.ref x0, .ref x1, .ref x2, .ref x3, .ref x4, .ref x5, .int (nI (txSize x)), .int (nI (txRules x)), .int (nI (txTraits x))], aI D 600 x.1, aZ D 20 (zf x.2.1), aI D 20 (nf x.2.2.1), aI D 20 (nf x.2.2.2.1), aI D 20 (nf x.2.2.2.2.1), aJ D 8 x.2.2.2.2.2.1] (fun r es' => r = some (.int (nI (jWhy x (fbFill s dd s.2.2.2 0 (zfill v 312)) h.2.2.2.2.1 p q k).1)) ∧ es' = [ob 10 [.ref fb, .ref tp, .ref pa, .ref ju, .ref pl, .ref yr, .ref lg, .ref ha, .ref t1, .ref t2, .int (b2 h.1), .int h.2.1, .int (nI (hFs h)), .int h.2.2.2.1, .int h.2.2.2.2.1, .int h.2.2.2.2.2], ob 0 [.ref f0, .ref f1, .ref f2, .int (nI s.2.2.2)], aI D 400 s.1, aI D 400 s.2.1, aI D 400 s.2.2.1, ob 1 [.ref j0, .ref j1], aI D 312 (fbFill s dd s.2.2.2 0 (zfill v 312)), aI D 64 ((jWhy x (fbFill s dd s.2.2.2 0 (zfill v 312)) h.2.2.2.2.1 p q k).2), ob 7 [.ref x0, .ref x1, .ref x2, .ref x3, .ref x4, .ref x5, .int (nI (txSize x)), .int (nI (txRules x)), .int (nI (txTraits x))], aI D 600 x.1, aZ D 20 (zf x.2.1), aI D 20 (nf x.2.2.1), aI D 20 (nf x.2.2.2.1), aI D 20 (nf x.2.2.2.2.1), aJ D 8 x.2.2.2.2.2.1]) :=
  Ct.ofA (own := RX10) (by decide) rfl (Nat.le_of_ble_eq_true rfl) rfl (fun X hl hD hX hR => by subst hl; subst hD; exact wk_why0 hX hy fb tp pa ju pl yr lg ha t1 t2 f0 f1 f2 j0 j1 x0 x1 x2 x3 x4 x5 h s x v k sl dd p q hn hs hd hp hq hs4 ht hR)
set_option maxHeartbeats 1000000 in
set_option maxRecDepth 100000 in
theorem wk_cost0 {X : Cx} (hX : Ok X cX10_cost 6 RX10 6) (hy fb tp pa ju pl yr lg ha t1 t2 : Nat) (f0 f1 f2 j0 j1 x0 x1 x2 x3 x4 x5 : Nat) (h : HS) (s : FB) (x : TX) (v k : Nat → Int32) (sl dd : Int32) (p q : Nat) (hn : hFs h ≤ 12) (hs : sl = 0) (hd : hDay dd = true) (hp : p < hFs h) (hq : q < hFs h) (hs4 : s.2.2.2 ≤ 400) (ht : txOk x) (hR : Rt X (some FieldType.int) (fun r es' => r = some (.int (eo (jCost x (fbFill s dd s.2.2.2 0 (zfill v 312)) h.2.2.2.2.1 p q k))) ∧ es' = [ob 10 [.ref fb, .ref tp, .ref pa, .ref ju, .ref pl, .ref yr, .ref lg, .ref ha, .ref t1, .ref t2, .int (b2 h.1), .int h.2.1, .int (nI (hFs h)), .int h.2.2.2.1, .int h.2.2.2.2.1, .int h.2.2.2.2.2], ob 0 [.ref f0, .ref f1, .ref f2, .int (nI s.2.2.2)], aI (CxD X) 400 s.1, aI (CxD X) 400 s.2.1, aI (CxD X) 400 s.2.2.1, ob 1 [.ref j0, .ref j1], aI (CxD X) 312 (fbFill s dd s.2.2.2 0 (zfill v 312)), aI (CxD X) 64 (jCostK x (fbFill s dd s.2.2.2 0 (zfill v 312)) h.2.2.2.2.1 p q k), ob 7 [.ref x0, .ref x1, .ref x2, .ref x3, .ref x4, .ref x5, .int (nI (txSize x)), .int (nI (txRules x)), .int (nI (txTraits x))], aI (CxD X) 600 x.1, aZ (CxD X) 20 (zf x.2.1), aI (CxD X) 20 (nf x.2.2.1), aI (CxD X) 20 (nf x.2.2.2.1), aI (CxD X) 20 (nf x.2.2.2.2.1), aJ (CxD X) 8 x.2.2.2.2.2.1]) [hy, fb, f0, f1, f2, ju, j0, j1, t1, x0, x1, x2, x3, x4, x5]) : Aw X [hy, fb, f0, f1, f2, ju, j0, j1, t1, x0, x1, x2, x3, x4, x5] [ob 10 [.ref fb, .ref tp, .ref pa, .ref ju, .ref pl, .ref yr, .ref lg, .ref ha, .ref t1, .ref t2, .int (b2 h.1), .int h.2.1, .int (nI (hFs h)), .int h.2.2.2.1, .int h.2.2.2.2.1, .int h.2.2.2.2.2], ob 0 [.ref f0, .ref f1, .ref f2, .int (nI s.2.2.2)], aI (CxD X) 400 s.1, aI (CxD X) 400 s.2.1, aI (CxD X) 400 s.2.2.1, ob 1 [.ref j0, .ref j1], aI (CxD X) 312 v, aI (CxD X) 64 k, ob 7 [.ref x0, .ref x1, .ref x2, .ref x3, .ref x4, .ref x5, .int (nI (txSize x)), .int (nI (txRules x)), .int (nI (txTraits x))], aI (CxD X) 600 x.1, aZ (CxD X) 20 (zf x.2.1), aI (CxD X) 20 (nf x.2.2.1), aI (CxD X) 20 (nf x.2.2.2.1), aI (CxD X) 20 (nf x.2.2.2.2.1), aJ (CxD X) 8 x.2.2.2.2.2.1] 0 [(0, .ref hy), (1, .int sl), (2, .int dd), (3, .int (nI p)), (4, .int (nI q))] [] := by
  refine r_aload_n (n := 1) hX dX10_cost_0 rfl rfl 0 rfl ?_
  refine r_iload_n (n := 2) hX dX10_cost_1 rfl rfl 1 rfl ?_
  refine r_callV (n := 5) (av := [.int sl]) hX (ct_textOf0 (CxL X) (CxD X) hy fb tp pa ju pl yr lg ha t1 t2 h sl hs) ml_X10_99 cv_X10_textOf rfl (by decide) [0] rfl rfl (by decide) 0 rfl rfl rfl rfl rfl (Nat.le_of_ble_eq_true rfl) dX10_cost_2 rfl (fun r_ es_ h_ l_ => ?_)
  obtain ⟨rfl, rfl⟩ := h_
  show Aw X [hy, fb, f0, f1, f2, ju, j0, j1, t1, x0, x1, x2, x3, x4, x5] [ob 10 [.ref fb, .ref tp, .ref pa, .ref ju, .ref pl, .ref yr, .ref lg, .ref ha, .ref t1, .ref t2, .int (b2 h.1), .int h.2.1, .int (nI (hFs h)), .int h.2.2.2.1, .int h.2.2.2.2.1, .int h.2.2.2.2.2], ob 0 [.ref f0, .ref f1, .ref f2, .int (nI s.2.2.2)], aI (CxD X) 400 s.1, aI (CxD X) 400 s.2.1, aI (CxD X) 400 s.2.2.1, ob 1 [.ref j0, .ref j1], aI (CxD X) 312 v, aI (CxD X) 64 k, ob 7 [.ref x0, .ref x1, .ref x2, .ref x3, .ref x4, .ref x5, .int (nI (txSize x)), .int (nI (txRules x)), .int (nI (txTraits x))], aI (CxD X) 600 x.1, aZ (CxD X) 20 (zf x.2.1), aI (CxD X) 20 (nf x.2.2.1), aI (CxD X) 20 (nf x.2.2.2.1), aI (CxD X) 20 (nf x.2.2.2.2.1), aJ (CxD X) 8 x.2.2.2.2.2.1] 5 [(0, .ref hy), (1, .int sl), (2, .int dd), (3, .int (nI p)), (4, .int (nI q))] [.ref t1]
  refine r_astore (n := 7) hX [(0, .ref hy), (1, .int sl), (2, .int dd), (3, .int (nI p)), (4, .int (nI q)), (5, .ref t1)] dX10_cost_5 rfl (by decide) rfl ?_
  refine r_aload (n := 9) hX dX10_cost_7 rfl 5 rfl ?_
  refine r_ifnull (n := 12) hX dX10_cost_9 rfl ?_
  refine r_iload_n (n := 13) hX dX10_cost_12 rfl rfl 2 rfl ?_
  refine r_callS (n := 16) (av := [.int dd]) hX (ct_X10_isDay (CxL X) (CxD X) dd) ml_X10_115 cs_X10_isDay rfl (by decide) [] rfl rfl (by decide) rfl (Nat.le_of_ble_eq_true rfl) dX10_cost_13 rfl (fun r_ es_ h_ l_ => ?_)
  obtain ⟨rfl, rfl⟩ := h_
  show Aw X [hy, fb, f0, f1, f2, ju, j0, j1, t1, x0, x1, x2, x3, x4, x5] [ob 10 [.ref fb, .ref tp, .ref pa, .ref ju, .ref pl, .ref yr, .ref lg, .ref ha, .ref t1, .ref t2, .int (b2 h.1), .int h.2.1, .int (nI (hFs h)), .int h.2.2.2.1, .int h.2.2.2.2.1, .int h.2.2.2.2.2], ob 0 [.ref f0, .ref f1, .ref f2, .int (nI s.2.2.2)], aI (CxD X) 400 s.1, aI (CxD X) 400 s.2.1, aI (CxD X) 400 s.2.2.1, ob 1 [.ref j0, .ref j1], aI (CxD X) 312 v, aI (CxD X) 64 k, ob 7 [.ref x0, .ref x1, .ref x2, .ref x3, .ref x4, .ref x5, .int (nI (txSize x)), .int (nI (txRules x)), .int (nI (txTraits x))], aI (CxD X) 600 x.1, aZ (CxD X) 20 (zf x.2.1), aI (CxD X) 20 (nf x.2.2.1), aI (CxD X) 20 (nf x.2.2.2.1), aI (CxD X) 20 (nf x.2.2.2.2.1), aJ (CxD X) 8 x.2.2.2.2.2.1] 16 [(0, .ref hy), (1, .int sl), (2, .int dd), (3, .int (nI p)), (4, .int (nI q)), (5, .ref t1)] [.int (b2 (hDay dd))]
  refine r_if_eq_b (tgt := 36) (n := 19) hX dX10_cost_16 (by decide) rfl (fun c16 => absurd c16 (by rw [hd]; decide)) (fun c16 => ?_)
  refine r_aload_n (n := 20) hX dX10_cost_19 rfl rfl 0 rfl ?_
  refine r_iload_n (n := 21) hX dX10_cost_20 rfl rfl 3 rfl ?_
  refine r_callV (n := 24) (av := [.int (nI p)]) hX (ct_X10_isFamily (CxL X) (CxD X) hy fb tp pa ju pl yr lg ha t1 t2 h (nI p)) ml_X10_123 cv_X10_isFamily rfl (by decide) [0] rfl rfl (by decide) 0 rfl rfl rfl rfl rfl (Nat.le_of_ble_eq_true rfl) dX10_cost_21 rfl (fun r_ es_ h_ l_ => ?_)
  obtain ⟨rfl, rfl⟩ := h_
  show Aw X [hy, fb, f0, f1, f2, ju, j0, j1, t1, x0, x1, x2, x3, x4, x5] [ob 10 [.ref fb, .ref tp, .ref pa, .ref ju, .ref pl, .ref yr, .ref lg, .ref ha, .ref t1, .ref t2, .int (b2 h.1), .int h.2.1, .int (nI (hFs h)), .int h.2.2.2.1, .int h.2.2.2.2.1, .int h.2.2.2.2.2], ob 0 [.ref f0, .ref f1, .ref f2, .int (nI s.2.2.2)], aI (CxD X) 400 s.1, aI (CxD X) 400 s.2.1, aI (CxD X) 400 s.2.2.1, ob 1 [.ref j0, .ref j1], aI (CxD X) 312 v, aI (CxD X) 64 k, ob 7 [.ref x0, .ref x1, .ref x2, .ref x3, .ref x4, .ref x5, .int (nI (txSize x)), .int (nI (txRules x)), .int (nI (txTraits x))], aI (CxD X) 600 x.1, aZ (CxD X) 20 (zf x.2.1), aI (CxD X) 20 (nf x.2.2.1), aI (CxD X) 20 (nf x.2.2.2.1), aI (CxD X) 20 (nf x.2.2.2.2.1), aJ (CxD X) 8 x.2.2.2.2.2.1] 24 [(0, .ref hy), (1, .int sl), (2, .int dd), (3, .int (nI p)), (4, .int (nI q)), (5, .ref t1)] [.int (b2 (hFam (hFs h) (nI p)))]
  refine r_if_eq_b (tgt := 36) (n := 27) hX dX10_cost_24 (by decide) rfl (fun c24 => absurd c24 (by rw [hFam_of hn hp]; decide)) (fun c24 => ?_)
  refine r_aload_n (n := 28) hX dX10_cost_27 rfl rfl 0 rfl ?_
  refine r_iload (n := 30) hX dX10_cost_28 rfl 4 rfl ?_
  refine r_callV (n := 33) (av := [.int (nI q)]) hX (ct_X10_isFamily (CxL X) (CxD X) hy fb tp pa ju pl yr lg ha t1 t2 h (nI q)) ml_X10_123 cv_X10_isFamily rfl (by decide) [0] rfl rfl (by decide) 0 rfl rfl rfl rfl rfl (Nat.le_of_ble_eq_true rfl) dX10_cost_30 rfl (fun r_ es_ h_ l_ => ?_)
  obtain ⟨rfl, rfl⟩ := h_
  show Aw X [hy, fb, f0, f1, f2, ju, j0, j1, t1, x0, x1, x2, x3, x4, x5] [ob 10 [.ref fb, .ref tp, .ref pa, .ref ju, .ref pl, .ref yr, .ref lg, .ref ha, .ref t1, .ref t2, .int (b2 h.1), .int h.2.1, .int (nI (hFs h)), .int h.2.2.2.1, .int h.2.2.2.2.1, .int h.2.2.2.2.2], ob 0 [.ref f0, .ref f1, .ref f2, .int (nI s.2.2.2)], aI (CxD X) 400 s.1, aI (CxD X) 400 s.2.1, aI (CxD X) 400 s.2.2.1, ob 1 [.ref j0, .ref j1], aI (CxD X) 312 v, aI (CxD X) 64 k, ob 7 [.ref x0, .ref x1, .ref x2, .ref x3, .ref x4, .ref x5, .int (nI (txSize x)), .int (nI (txRules x)), .int (nI (txTraits x))], aI (CxD X) 600 x.1, aZ (CxD X) 20 (zf x.2.1), aI (CxD X) 20 (nf x.2.2.1), aI (CxD X) 20 (nf x.2.2.2.1), aI (CxD X) 20 (nf x.2.2.2.2.1), aJ (CxD X) 8 x.2.2.2.2.2.1] 33 [(0, .ref hy), (1, .int sl), (2, .int dd), (3, .int (nI p)), (4, .int (nI q)), (5, .ref t1)] [.int (b2 (hFam (hFs h) (nI q)))]
  refine r_if_ne_b (tgt := 38) (n := 36) hX dX10_cost_33 (by decide) rfl (fun c33 => ?_) (fun c33 => absurd c33 (by rw [hFam_of hn hq]; decide))
  refine r_aload_n (n := 39) hX dX10_cost_38 rfl rfl 0 rfl ?_
  refine r_get (n := 42) hX 0 rfl rfl rfl 0 (by decide) lay_X10 fl_X10_10 rfl dX10_cost_39 rfl ?_
  refine r_aload_n (n := 43) hX dX10_cost_42 rfl rfl 0 rfl ?_
  refine r_get (n := 46) hX 0 rfl rfl rfl 3 (by decide) lay_X10 fl_X10_33 rfl dX10_cost_43 rfl ?_
  refine r_get (n := 49) hX 5 rfl rfl rfl 0 (by decide) lay_X1 fl_X10_140 rfl dX10_cost_46 rfl ?_
  refine r_iload_n (n := 50) hX dX10_cost_49 rfl rfl 2 rfl ?_
  refine r_callV (n := 53) (av := [.ref j0, .int dd]) hX (ct_X0_fill (CxL X) (CxD X) fb f0 f1 f2 j0 s v dd hs4) ml_X10_143 cv_X0_fill rfl (by decide) [1, 2, 3, 4, 6] rfl rfl (by decide) 1 rfl rfl rfl rfl rfl (Nat.le_of_ble_eq_true rfl) dX10_cost_50 rfl (fun r_ es_ h_ l_ => ?_)
  obtain ⟨rfl, rfl⟩ := h_
  show Aw X [hy, fb, f0, f1, f2, ju, j0, j1, t1, x0, x1, x2, x3, x4, x5] [ob 10 [.ref fb, .ref tp, .ref pa, .ref ju, .ref pl, .ref yr, .ref lg, .ref ha, .ref t1, .ref t2, .int (b2 h.1), .int h.2.1, .int (nI (hFs h)), .int h.2.2.2.1, .int h.2.2.2.2.1, .int h.2.2.2.2.2], ob 0 [.ref f0, .ref f1, .ref f2, .int (nI s.2.2.2)], aI (CxD X) 400 s.1, aI (CxD X) 400 s.2.1, aI (CxD X) 400 s.2.2.1, ob 1 [.ref j0, .ref j1], aI (CxD X) 312 (fbFill s dd s.2.2.2 0 (zfill v 312)), aI (CxD X) 64 k, ob 7 [.ref x0, .ref x1, .ref x2, .ref x3, .ref x4, .ref x5, .int (nI (txSize x)), .int (nI (txRules x)), .int (nI (txTraits x))], aI (CxD X) 600 x.1, aZ (CxD X) 20 (zf x.2.1), aI (CxD X) 20 (nf x.2.2.1), aI (CxD X) 20 (nf x.2.2.2.1), aI (CxD X) 20 (nf x.2.2.2.2.1), aJ (CxD X) 8 x.2.2.2.2.2.1] 53 [(0, .ref hy), (1, .int sl), (2, .int dd), (3, .int (nI p)), (4, .int (nI q)), (5, .ref t1)] []
  generalize hv : fbFill s dd s.2.2.2 0 (zfill v 312) = vv
  refine r_aload_n (n := 54) hX dX10_cost_53 rfl rfl 0 rfl ?_
  refine r_get (n := 57) hX 0 rfl rfl rfl 3 (by decide) lay_X10 fl_X10_33 rfl dX10_cost_54 rfl ?_
  refine r_aload (n := 59) hX dX10_cost_57 rfl 5 rfl ?_
  refine r_aload_n (n := 60) hX dX10_cost_59 rfl rfl 0 rfl ?_
  refine r_get (n := 63) hX 0 rfl rfl rfl 14 (by decide) lay_X10 fl_X10_86 rfl dX10_cost_60 rfl ?_
  refine r_iload_n (n := 64) hX dX10_cost_63 rfl rfl 3 rfl ?_
  refine r_iload (n := 66) hX dX10_cost_64 rfl 4 rfl ?_
  refine r_callV (n := 69) (av := [.ref t1, .int h.2.2.2.2.1, .int (nI p), .int (nI q)]) hX (ct_X1_costOrNone (CxL X) (CxD X) ju j0 j1 t1 x0 x1 x2 x3 x4 x5 x vv k h.2.2.2.2.1 p q ht (by omega) (by omega)) ml_X10_151 cv_X1_costOrNone rfl (by decide) [5, 6, 7, 8, 9, 10, 11, 12, 13, 14] rfl rfl (by decide) 5 rfl rfl rfl rfl rfl (Nat.le_of_ble_eq_true rfl) dX10_cost_66 rfl (fun r_ es_ h_ l_ => ?_)
  obtain ⟨rfl, rfl⟩ := h_
  show Aw X [hy, fb, f0, f1, f2, ju, j0, j1, t1, x0, x1, x2, x3, x4, x5] [ob 10 [.ref fb, .ref tp, .ref pa, .ref ju, .ref pl, .ref yr, .ref lg, .ref ha, .ref t1, .ref t2, .int (b2 h.1), .int h.2.1, .int (nI (hFs h)), .int h.2.2.2.1, .int h.2.2.2.2.1, .int h.2.2.2.2.2], ob 0 [.ref f0, .ref f1, .ref f2, .int (nI s.2.2.2)], aI (CxD X) 400 s.1, aI (CxD X) 400 s.2.1, aI (CxD X) 400 s.2.2.1, ob 1 [.ref j0, .ref j1], aI (CxD X) 312 vv, aI (CxD X) 64 (jCostK x vv h.2.2.2.2.1 p q k), ob 7 [.ref x0, .ref x1, .ref x2, .ref x3, .ref x4, .ref x5, .int (nI (txSize x)), .int (nI (txRules x)), .int (nI (txTraits x))], aI (CxD X) 600 x.1, aZ (CxD X) 20 (zf x.2.1), aI (CxD X) 20 (nf x.2.2.1), aI (CxD X) 20 (nf x.2.2.2.1), aI (CxD X) 20 (nf x.2.2.2.2.1), aJ (CxD X) 8 x.2.2.2.2.2.1] 69 [(0, .ref hy), (1, .int sl), (2, .int dd), (3, .int (nI p)), (4, .int (nI q)), (5, .ref t1)] [.int (eo (jCost x vv h.2.2.2.2.1 p q k))]
  exact r_ireturn hX hR dX10_cost_69 (by rw [hv]; exact ⟨rfl, rfl⟩)
theorem ct_cost0 (l : Launch) (D : va_G) (hy fb tp pa ju pl yr lg ha t1 t2 : Nat) (f0 f1 f2 j0 j1 x0 x1 x2 x3 x4 x5 : Nat) (h : HS) (s : FB) (x : TX) (v k : Nat → Int32) (sl dd : Int32) (p q : Nat) (hn : hFs h ≤ 12) (hs : sl = 0) (hd : hDay dd = true) (hp : p < hFs h) (hq : q < hFs h) (hs4 : s.2.2.2 ≤ 400) (ht : txOk x) : Ct l D m_X10_cost 6 [.ref hy, .int sl, .int dd, .int (nI p), .int (nI q)] [hy, fb, f0, f1, f2, ju, j0, j1, t1, x0, x1, x2, x3, x4, x5] [ob 10 [.ref fb, .ref tp, .ref pa, .ref ju, .ref pl, .ref yr, .ref lg, .ref ha, .ref t1, .ref t2, .int (b2 h.1), .int h.2.1, .int (nI (hFs h)), .int h.2.2.2.1, .int h.2.2.2.2.1, .int h.2.2.2.2.2], ob 0 [.ref f0, .ref f1, .ref f2, .int (nI s.2.2.2)], aI D 400 s.1, aI D 400 s.2.1, aI D 400 s.2.2.1, ob 1 [.ref j0, .ref j1], aI D 312 v, aI D 64 k, ob 7 [.ref x0, .ref x1, .ref x2, .ref x3, .ref x4, .ref x5, .int (nI (txSize x)), .int (nI (txRules x)), .int (nI (txTraits x))], aI D 600 x.1, aZ D 20 (zf x.2.1), aI D 20 (nf x.2.2.1), aI D 20 (nf x.2.2.2.1), aI D 20 (nf x.2.2.2.2.1), aJ D 8 x.2.2.2.2.2.1] (fun r es' => r = some (.int (eo (jCost x (fbFill s dd s.2.2.2 0 (zfill v 312)) h.2.2.2.2.1 p q k))) ∧ es' = [ob 10 [.ref fb, .ref tp, .ref pa, .ref ju, .ref pl, .ref yr, .ref lg, .ref ha, .ref t1, .ref t2, .int (b2 h.1), .int h.2.1, .int (nI (hFs h)), .int h.2.2.2.1, .int h.2.2.2.2.1, .int h.2.2.2.2.2], ob 0 [.ref f0, .ref f1, .ref f2, .int (nI s.2.2.2)], aI D 400 s.1, aI D 400 s.2.1, aI D 400 s.2.2.1, ob 1 [.ref j0, .ref j1], aI D 312 (fbFill s dd s.2.2.2 0 (zfill v 312)), aI D 64 (jCostK x (fbFill s dd s.2.2.2 0 (zfill v 312)) h.2.2.2.2.1 p q k), ob 7 [.ref x0, .ref x1, .ref x2, .ref x3, .ref x4, .ref x5, .int (nI (txSize x)), .int (nI (txRules x)), .int (nI (txTraits x))], aI D 600 x.1, aZ D 20 (zf x.2.1), aI D 20 (nf x.2.2.1), aI D 20 (nf x.2.2.2.1), aI D 20 (nf x.2.2.2.2.1), aJ D 8 x.2.2.2.2.2.1]) :=
  Ct.ofA (own := RX10) (by decide) rfl (Nat.le_of_ble_eq_true rfl) rfl (fun X hl hD hX hR => by subst hl; subst hD; exact wk_cost0 hX hy fb tp pa ju pl yr lg ha t1 t2 f0 f1 f2 j0 j1 x0 x1 x2 x3 x4 x5 h s x v k sl dd p q hn hs hd hp hq hs4 ht hR)
set_option maxHeartbeats 1000000 in
set_option maxRecDepth 100000 in
theorem wk_why0N {X : Cx} (hX : Ok X cX10_why 6 RX10 5) (hy fb tp pa ju pl yr lg ha t1 t2 : Nat) (h : HS) (sl dd p q : Int32) (hs : sl = 0) (hb : hDay dd = false ∨ hFam (hFs h) p = false ∨ hFam (hFs h) q = false) (hR : Rt X (some FieldType.int) (fun r es' => r = some (.int (-1)) ∧ es' = [ob 10 [.ref fb, .ref tp, .ref pa, .ref ju, .ref pl, .ref yr, .ref lg, .ref ha, .ref t1, .ref t2, .int (b2 h.1), .int h.2.1, .int (nI (hFs h)), .int h.2.2.2.1, .int h.2.2.2.2.1, .int h.2.2.2.2.2]]) [hy]) : Aw X [hy] [ob 10 [.ref fb, .ref tp, .ref pa, .ref ju, .ref pl, .ref yr, .ref lg, .ref ha, .ref t1, .ref t2, .int (b2 h.1), .int h.2.1, .int (nI (hFs h)), .int h.2.2.2.1, .int h.2.2.2.2.1, .int h.2.2.2.2.2]] 0 [(0, .ref hy), (1, .int sl), (2, .int dd), (3, .int p), (4, .int q)] [] := by
  refine r_aload_n (n := 1) hX dX10_why_0 rfl rfl 0 rfl ?_
  refine r_iload_n (n := 2) hX dX10_why_1 rfl rfl 1 rfl ?_
  refine r_callV (n := 5) (av := [.int sl]) hX (ct_textOf0 (CxL X) (CxD X) hy fb tp pa ju pl yr lg ha t1 t2 h sl hs) ml_X10_99 cv_X10_textOf rfl (by decide) [0] rfl rfl (by decide) 0 rfl rfl rfl rfl rfl (Nat.le_of_ble_eq_true rfl) dX10_why_2 rfl (fun r_ es_ h_ l_ => ?_)
  obtain ⟨rfl, rfl⟩ := h_
  show Aw X [hy] [ob 10 [.ref fb, .ref tp, .ref pa, .ref ju, .ref pl, .ref yr, .ref lg, .ref ha, .ref t1, .ref t2, .int (b2 h.1), .int h.2.1, .int (nI (hFs h)), .int h.2.2.2.1, .int h.2.2.2.2.1, .int h.2.2.2.2.2]] 5 [(0, .ref hy), (1, .int sl), (2, .int dd), (3, .int p), (4, .int q)] [.ref t1]
  refine r_astore (n := 7) hX [(0, .ref hy), (1, .int sl), (2, .int dd), (3, .int p), (4, .int q), (5, .ref t1)] dX10_why_5 rfl (by decide) rfl ?_
  refine r_aload (n := 9) hX dX10_why_7 rfl 5 rfl ?_
  refine r_ifnull (n := 12) hX dX10_why_9 rfl ?_
  refine r_iload_n (n := 13) hX dX10_why_12 rfl rfl 2 rfl ?_
  refine r_callS (n := 16) (av := [.int dd]) hX (ct_X10_isDay (CxL X) (CxD X) dd) ml_X10_115 cs_X10_isDay rfl (by decide) [] rfl rfl (by decide) rfl (Nat.le_of_ble_eq_true rfl) dX10_why_13 rfl (fun r_ es_ h_ l_ => ?_)
  obtain ⟨rfl, rfl⟩ := h_
  show Aw X [hy] [ob 10 [.ref fb, .ref tp, .ref pa, .ref ju, .ref pl, .ref yr, .ref lg, .ref ha, .ref t1, .ref t2, .int (b2 h.1), .int h.2.1, .int (nI (hFs h)), .int h.2.2.2.1, .int h.2.2.2.2.1, .int h.2.2.2.2.2]] 16 [(0, .ref hy), (1, .int sl), (2, .int dd), (3, .int p), (4, .int q), (5, .ref t1)] [.int (b2 (hDay dd))]
  refine r_if_eq_b (tgt := 36) (n := 19) hX dX10_why_16 (by decide) rfl (fun c16 => ?_) (fun c16 => ?_)
  · skip
    refine r_iconst (n := 37) hX (-1) dX10_why_36 rfl rfl ?_
    exact r_ireturn hX hR dX10_why_37 ⟨rfl, rfl⟩
  · skip
    refine r_aload_n (n := 20) hX dX10_why_19 rfl rfl 0 rfl ?_
    refine r_iload_n (n := 21) hX dX10_why_20 rfl rfl 3 rfl ?_
    refine r_callV (n := 24) (av := [.int p]) hX (ct_X10_isFamily (CxL X) (CxD X) hy fb tp pa ju pl yr lg ha t1 t2 h p) ml_X10_123 cv_X10_isFamily rfl (by decide) [0] rfl rfl (by decide) 0 rfl rfl rfl rfl rfl (Nat.le_of_ble_eq_true rfl) dX10_why_21 rfl (fun r_ es_ h_ l_ => ?_)
    obtain ⟨rfl, rfl⟩ := h_
    show Aw X [hy] [ob 10 [.ref fb, .ref tp, .ref pa, .ref ju, .ref pl, .ref yr, .ref lg, .ref ha, .ref t1, .ref t2, .int (b2 h.1), .int h.2.1, .int (nI (hFs h)), .int h.2.2.2.1, .int h.2.2.2.2.1, .int h.2.2.2.2.2]] 24 [(0, .ref hy), (1, .int sl), (2, .int dd), (3, .int p), (4, .int q), (5, .ref t1)] [.int (b2 (hFam (hFs h) p))]
    refine r_if_eq_b (tgt := 36) (n := 27) hX dX10_why_24 (by decide) rfl (fun c24 => ?_) (fun c24 => ?_)
    · skip
      refine r_iconst (n := 37) hX (-1) dX10_why_36 rfl rfl ?_
      exact r_ireturn hX hR dX10_why_37 ⟨rfl, rfl⟩
    · skip
      refine r_aload_n (n := 28) hX dX10_why_27 rfl rfl 0 rfl ?_
      refine r_iload (n := 30) hX dX10_why_28 rfl 4 rfl ?_
      refine r_callV (n := 33) (av := [.int q]) hX (ct_X10_isFamily (CxL X) (CxD X) hy fb tp pa ju pl yr lg ha t1 t2 h q) ml_X10_123 cv_X10_isFamily rfl (by decide) [0] rfl rfl (by decide) 0 rfl rfl rfl rfl rfl (Nat.le_of_ble_eq_true rfl) dX10_why_30 rfl (fun r_ es_ h_ l_ => ?_)
      obtain ⟨rfl, rfl⟩ := h_
      show Aw X [hy] [ob 10 [.ref fb, .ref tp, .ref pa, .ref ju, .ref pl, .ref yr, .ref lg, .ref ha, .ref t1, .ref t2, .int (b2 h.1), .int h.2.1, .int (nI (hFs h)), .int h.2.2.2.1, .int h.2.2.2.2.1, .int h.2.2.2.2.2]] 33 [(0, .ref hy), (1, .int sl), (2, .int dd), (3, .int p), (4, .int q), (5, .ref t1)] [.int (b2 (hFam (hFs h) q))]
      refine r_if_ne_b (tgt := 38) (n := 36) hX dX10_why_33 (by decide) rfl (fun c33 => absurd c33 (fun e => hb.elim (fun z => by rw [z] at c16; cases c16) (fun z => z.elim (fun z => by rw [z] at c24; cases c24) (fun z => by rw [z] at e; cases e)))) (fun c33 => ?_)
      refine r_iconst (n := 37) hX (-1) dX10_why_36 rfl rfl ?_
      exact r_ireturn hX hR dX10_why_37 ⟨rfl, rfl⟩
theorem ct_why0N (l : Launch) (D : va_G) (hy fb tp pa ju pl yr lg ha t1 t2 : Nat) (h : HS) (sl dd p q : Int32) (hs : sl = 0) (hb : hDay dd = false ∨ hFam (hFs h) p = false ∨ hFam (hFs h) q = false) : Ct l D m_X10_why 5 [.ref hy, .int sl, .int dd, .int p, .int q] [hy] [ob 10 [.ref fb, .ref tp, .ref pa, .ref ju, .ref pl, .ref yr, .ref lg, .ref ha, .ref t1, .ref t2, .int (b2 h.1), .int h.2.1, .int (nI (hFs h)), .int h.2.2.2.1, .int h.2.2.2.2.1, .int h.2.2.2.2.2]] (fun r es' => r = some (.int (-1)) ∧ es' = [ob 10 [.ref fb, .ref tp, .ref pa, .ref ju, .ref pl, .ref yr, .ref lg, .ref ha, .ref t1, .ref t2, .int (b2 h.1), .int h.2.1, .int (nI (hFs h)), .int h.2.2.2.1, .int h.2.2.2.2.1, .int h.2.2.2.2.2]]) :=
  Ct.ofA (own := RX10) (by decide) rfl (Nat.le_of_ble_eq_true rfl) rfl (fun X hl hD hX hR => by subst hl; subst hD; exact wk_why0N hX hy fb tp pa ju pl yr lg ha t1 t2 h sl dd p q hs hb hR)
set_option maxHeartbeats 1000000 in
set_option maxRecDepth 100000 in
theorem wk_cost0N {X : Cx} (hX : Ok X cX10_cost 6 RX10 6) (hy fb tp pa ju pl yr lg ha t1 t2 : Nat) (h : HS) (sl dd p q : Int32) (hs : sl = 0) (hb : hDay dd = false ∨ hFam (hFs h) p = false ∨ hFam (hFs h) q = false) (hR : Rt X (some FieldType.int) (fun r es' => r = some (.int (-1)) ∧ es' = [ob 10 [.ref fb, .ref tp, .ref pa, .ref ju, .ref pl, .ref yr, .ref lg, .ref ha, .ref t1, .ref t2, .int (b2 h.1), .int h.2.1, .int (nI (hFs h)), .int h.2.2.2.1, .int h.2.2.2.2.1, .int h.2.2.2.2.2]]) [hy]) : Aw X [hy] [ob 10 [.ref fb, .ref tp, .ref pa, .ref ju, .ref pl, .ref yr, .ref lg, .ref ha, .ref t1, .ref t2, .int (b2 h.1), .int h.2.1, .int (nI (hFs h)), .int h.2.2.2.1, .int h.2.2.2.2.1, .int h.2.2.2.2.2]] 0 [(0, .ref hy), (1, .int sl), (2, .int dd), (3, .int p), (4, .int q)] [] := by
  refine r_aload_n (n := 1) hX dX10_cost_0 rfl rfl 0 rfl ?_
  refine r_iload_n (n := 2) hX dX10_cost_1 rfl rfl 1 rfl ?_
  refine r_callV (n := 5) (av := [.int sl]) hX (ct_textOf0 (CxL X) (CxD X) hy fb tp pa ju pl yr lg ha t1 t2 h sl hs) ml_X10_99 cv_X10_textOf rfl (by decide) [0] rfl rfl (by decide) 0 rfl rfl rfl rfl rfl (Nat.le_of_ble_eq_true rfl) dX10_cost_2 rfl (fun r_ es_ h_ l_ => ?_)
  obtain ⟨rfl, rfl⟩ := h_
  show Aw X [hy] [ob 10 [.ref fb, .ref tp, .ref pa, .ref ju, .ref pl, .ref yr, .ref lg, .ref ha, .ref t1, .ref t2, .int (b2 h.1), .int h.2.1, .int (nI (hFs h)), .int h.2.2.2.1, .int h.2.2.2.2.1, .int h.2.2.2.2.2]] 5 [(0, .ref hy), (1, .int sl), (2, .int dd), (3, .int p), (4, .int q)] [.ref t1]
  refine r_astore (n := 7) hX [(0, .ref hy), (1, .int sl), (2, .int dd), (3, .int p), (4, .int q), (5, .ref t1)] dX10_cost_5 rfl (by decide) rfl ?_
  refine r_aload (n := 9) hX dX10_cost_7 rfl 5 rfl ?_
  refine r_ifnull (n := 12) hX dX10_cost_9 rfl ?_
  refine r_iload_n (n := 13) hX dX10_cost_12 rfl rfl 2 rfl ?_
  refine r_callS (n := 16) (av := [.int dd]) hX (ct_X10_isDay (CxL X) (CxD X) dd) ml_X10_115 cs_X10_isDay rfl (by decide) [] rfl rfl (by decide) rfl (Nat.le_of_ble_eq_true rfl) dX10_cost_13 rfl (fun r_ es_ h_ l_ => ?_)
  obtain ⟨rfl, rfl⟩ := h_
  show Aw X [hy] [ob 10 [.ref fb, .ref tp, .ref pa, .ref ju, .ref pl, .ref yr, .ref lg, .ref ha, .ref t1, .ref t2, .int (b2 h.1), .int h.2.1, .int (nI (hFs h)), .int h.2.2.2.1, .int h.2.2.2.2.1, .int h.2.2.2.2.2]] 16 [(0, .ref hy), (1, .int sl), (2, .int dd), (3, .int p), (4, .int q), (5, .ref t1)] [.int (b2 (hDay dd))]
  refine r_if_eq_b (tgt := 36) (n := 19) hX dX10_cost_16 (by decide) rfl (fun c16 => ?_) (fun c16 => ?_)
  · skip
    refine r_iconst (n := 37) hX (-1) dX10_cost_36 rfl rfl ?_
    exact r_ireturn hX hR dX10_cost_37 ⟨rfl, rfl⟩
  · skip
    refine r_aload_n (n := 20) hX dX10_cost_19 rfl rfl 0 rfl ?_
    refine r_iload_n (n := 21) hX dX10_cost_20 rfl rfl 3 rfl ?_
    refine r_callV (n := 24) (av := [.int p]) hX (ct_X10_isFamily (CxL X) (CxD X) hy fb tp pa ju pl yr lg ha t1 t2 h p) ml_X10_123 cv_X10_isFamily rfl (by decide) [0] rfl rfl (by decide) 0 rfl rfl rfl rfl rfl (Nat.le_of_ble_eq_true rfl) dX10_cost_21 rfl (fun r_ es_ h_ l_ => ?_)
    obtain ⟨rfl, rfl⟩ := h_
    show Aw X [hy] [ob 10 [.ref fb, .ref tp, .ref pa, .ref ju, .ref pl, .ref yr, .ref lg, .ref ha, .ref t1, .ref t2, .int (b2 h.1), .int h.2.1, .int (nI (hFs h)), .int h.2.2.2.1, .int h.2.2.2.2.1, .int h.2.2.2.2.2]] 24 [(0, .ref hy), (1, .int sl), (2, .int dd), (3, .int p), (4, .int q), (5, .ref t1)] [.int (b2 (hFam (hFs h) p))]
    refine r_if_eq_b (tgt := 36) (n := 27) hX dX10_cost_24 (by decide) rfl (fun c24 => ?_) (fun c24 => ?_)
    · skip
      refine r_iconst (n := 37) hX (-1) dX10_cost_36 rfl rfl ?_
      exact r_ireturn hX hR dX10_cost_37 ⟨rfl, rfl⟩
    · skip
      refine r_aload_n (n := 28) hX dX10_cost_27 rfl rfl 0 rfl ?_
      refine r_iload (n := 30) hX dX10_cost_28 rfl 4 rfl ?_
      refine r_callV (n := 33) (av := [.int q]) hX (ct_X10_isFamily (CxL X) (CxD X) hy fb tp pa ju pl yr lg ha t1 t2 h q) ml_X10_123 cv_X10_isFamily rfl (by decide) [0] rfl rfl (by decide) 0 rfl rfl rfl rfl rfl (Nat.le_of_ble_eq_true rfl) dX10_cost_30 rfl (fun r_ es_ h_ l_ => ?_)
      obtain ⟨rfl, rfl⟩ := h_
      show Aw X [hy] [ob 10 [.ref fb, .ref tp, .ref pa, .ref ju, .ref pl, .ref yr, .ref lg, .ref ha, .ref t1, .ref t2, .int (b2 h.1), .int h.2.1, .int (nI (hFs h)), .int h.2.2.2.1, .int h.2.2.2.2.1, .int h.2.2.2.2.2]] 33 [(0, .ref hy), (1, .int sl), (2, .int dd), (3, .int p), (4, .int q), (5, .ref t1)] [.int (b2 (hFam (hFs h) q))]
      refine r_if_ne_b (tgt := 38) (n := 36) hX dX10_cost_33 (by decide) rfl (fun c33 => absurd c33 (fun e => hb.elim (fun z => by rw [z] at c16; cases c16) (fun z => z.elim (fun z => by rw [z] at c24; cases c24) (fun z => by rw [z] at e; cases e)))) (fun c33 => ?_)
      refine r_iconst (n := 37) hX (-1) dX10_cost_36 rfl rfl ?_
      exact r_ireturn hX hR dX10_cost_37 ⟨rfl, rfl⟩
theorem ct_cost0N (l : Launch) (D : va_G) (hy fb tp pa ju pl yr lg ha t1 t2 : Nat) (h : HS) (sl dd p q : Int32) (hs : sl = 0) (hb : hDay dd = false ∨ hFam (hFs h) p = false ∨ hFam (hFs h) q = false) : Ct l D m_X10_cost 6 [.ref hy, .int sl, .int dd, .int p, .int q] [hy] [ob 10 [.ref fb, .ref tp, .ref pa, .ref ju, .ref pl, .ref yr, .ref lg, .ref ha, .ref t1, .ref t2, .int (b2 h.1), .int h.2.1, .int (nI (hFs h)), .int h.2.2.2.1, .int h.2.2.2.2.1, .int h.2.2.2.2.2]] (fun r es' => r = some (.int (-1)) ∧ es' = [ob 10 [.ref fb, .ref tp, .ref pa, .ref ju, .ref pl, .ref yr, .ref lg, .ref ha, .ref t1, .ref t2, .int (b2 h.1), .int h.2.1, .int (nI (hFs h)), .int h.2.2.2.1, .int h.2.2.2.2.1, .int h.2.2.2.2.2]]) :=
  Ct.ofA (own := RX10) (by decide) rfl (Nat.le_of_ble_eq_true rfl) rfl (fun X hl hD hX hR => by subst hl; subst hD; exact wk_cost0N hX hy fb tp pa ju pl yr lg ha t1 t2 h sl dd p q hs hb hR)
set_option maxHeartbeats 1000000 in
set_option maxRecDepth 100000 in
theorem wk_why1 {X : Cx} (hX : Ok X cX10_why 6 RX10 5) (hy fb tp pa ju pl yr lg ha t1 t2 : Nat) (f0 f1 f2 j0 j1 x0 x1 x2 x3 x4 x5 : Nat) (h : HS) (s : FB) (x : TX) (v k : Nat → Int32) (sl dd : Int32) (p q : Nat) (hn : hFs h ≤ 12) (hs : sl = 1) (hd : hDay dd = true) (hp : p < hFs h) (hq : q < hFs h) (hs4 : s.2.2.2 ≤ 400) (ht : txOk x) (hR : Rt X (some FieldType.int) (fun r es' => r = some (.int (nI (jWhy x (fbFill s dd s.2.2.2 0 (zfill v 312)) h.2.2.2.2.1 p q k).1)) ∧ es' = [ob 10 [.ref fb, .ref tp, .ref pa, .ref ju, .ref pl, .ref yr, .ref lg, .ref ha, .ref t1, .ref t2, .int (b2 h.1), .int h.2.1, .int (nI (hFs h)), .int h.2.2.2.1, .int h.2.2.2.2.1, .int h.2.2.2.2.2], ob 0 [.ref f0, .ref f1, .ref f2, .int (nI s.2.2.2)], aI (CxD X) 400 s.1, aI (CxD X) 400 s.2.1, aI (CxD X) 400 s.2.2.1, ob 1 [.ref j0, .ref j1], aI (CxD X) 312 (fbFill s dd s.2.2.2 0 (zfill v 312)), aI (CxD X) 64 ((jWhy x (fbFill s dd s.2.2.2 0 (zfill v 312)) h.2.2.2.2.1 p q k).2), ob 7 [.ref x0, .ref x1, .ref x2, .ref x3, .ref x4, .ref x5, .int (nI (txSize x)), .int (nI (txRules x)), .int (nI (txTraits x))], aI (CxD X) 600 x.1, aZ (CxD X) 20 (zf x.2.1), aI (CxD X) 20 (nf x.2.2.1), aI (CxD X) 20 (nf x.2.2.2.1), aI (CxD X) 20 (nf x.2.2.2.2.1), aJ (CxD X) 8 x.2.2.2.2.2.1]) [hy, fb, f0, f1, f2, ju, j0, j1, t2, x0, x1, x2, x3, x4, x5]) : Aw X [hy, fb, f0, f1, f2, ju, j0, j1, t2, x0, x1, x2, x3, x4, x5] [ob 10 [.ref fb, .ref tp, .ref pa, .ref ju, .ref pl, .ref yr, .ref lg, .ref ha, .ref t1, .ref t2, .int (b2 h.1), .int h.2.1, .int (nI (hFs h)), .int h.2.2.2.1, .int h.2.2.2.2.1, .int h.2.2.2.2.2], ob 0 [.ref f0, .ref f1, .ref f2, .int (nI s.2.2.2)], aI (CxD X) 400 s.1, aI (CxD X) 400 s.2.1, aI (CxD X) 400 s.2.2.1, ob 1 [.ref j0, .ref j1], aI (CxD X) 312 v, aI (CxD X) 64 k, ob 7 [.ref x0, .ref x1, .ref x2, .ref x3, .ref x4, .ref x5, .int (nI (txSize x)), .int (nI (txRules x)), .int (nI (txTraits x))], aI (CxD X) 600 x.1, aZ (CxD X) 20 (zf x.2.1), aI (CxD X) 20 (nf x.2.2.1), aI (CxD X) 20 (nf x.2.2.2.1), aI (CxD X) 20 (nf x.2.2.2.2.1), aJ (CxD X) 8 x.2.2.2.2.2.1] 0 [(0, .ref hy), (1, .int sl), (2, .int dd), (3, .int (nI p)), (4, .int (nI q))] [] := by
  refine r_aload_n (n := 1) hX dX10_why_0 rfl rfl 0 rfl ?_
  refine r_iload_n (n := 2) hX dX10_why_1 rfl rfl 1 rfl ?_
  refine r_callV (n := 5) (av := [.int sl]) hX (ct_textOf1 (CxL X) (CxD X) hy fb tp pa ju pl yr lg ha t1 t2 h sl hs) ml_X10_99 cv_X10_textOf rfl (by decide) [0] rfl rfl (by decide) 0 rfl rfl rfl rfl rfl (Nat.le_of_ble_eq_true rfl) dX10_why_2 rfl (fun r_ es_ h_ l_ => ?_)
  obtain ⟨rfl, rfl⟩ := h_
  show Aw X [hy, fb, f0, f1, f2, ju, j0, j1, t2, x0, x1, x2, x3, x4, x5] [ob 10 [.ref fb, .ref tp, .ref pa, .ref ju, .ref pl, .ref yr, .ref lg, .ref ha, .ref t1, .ref t2, .int (b2 h.1), .int h.2.1, .int (nI (hFs h)), .int h.2.2.2.1, .int h.2.2.2.2.1, .int h.2.2.2.2.2], ob 0 [.ref f0, .ref f1, .ref f2, .int (nI s.2.2.2)], aI (CxD X) 400 s.1, aI (CxD X) 400 s.2.1, aI (CxD X) 400 s.2.2.1, ob 1 [.ref j0, .ref j1], aI (CxD X) 312 v, aI (CxD X) 64 k, ob 7 [.ref x0, .ref x1, .ref x2, .ref x3, .ref x4, .ref x5, .int (nI (txSize x)), .int (nI (txRules x)), .int (nI (txTraits x))], aI (CxD X) 600 x.1, aZ (CxD X) 20 (zf x.2.1), aI (CxD X) 20 (nf x.2.2.1), aI (CxD X) 20 (nf x.2.2.2.1), aI (CxD X) 20 (nf x.2.2.2.2.1), aJ (CxD X) 8 x.2.2.2.2.2.1] 5 [(0, .ref hy), (1, .int sl), (2, .int dd), (3, .int (nI p)), (4, .int (nI q))] [.ref t2]
  refine r_astore (n := 7) hX [(0, .ref hy), (1, .int sl), (2, .int dd), (3, .int (nI p)), (4, .int (nI q)), (5, .ref t2)] dX10_why_5 rfl (by decide) rfl ?_
  refine r_aload (n := 9) hX dX10_why_7 rfl 5 rfl ?_
  refine r_ifnull (n := 12) hX dX10_why_9 rfl ?_
  refine r_iload_n (n := 13) hX dX10_why_12 rfl rfl 2 rfl ?_
  refine r_callS (n := 16) (av := [.int dd]) hX (ct_X10_isDay (CxL X) (CxD X) dd) ml_X10_115 cs_X10_isDay rfl (by decide) [] rfl rfl (by decide) rfl (Nat.le_of_ble_eq_true rfl) dX10_why_13 rfl (fun r_ es_ h_ l_ => ?_)
  obtain ⟨rfl, rfl⟩ := h_
  show Aw X [hy, fb, f0, f1, f2, ju, j0, j1, t2, x0, x1, x2, x3, x4, x5] [ob 10 [.ref fb, .ref tp, .ref pa, .ref ju, .ref pl, .ref yr, .ref lg, .ref ha, .ref t1, .ref t2, .int (b2 h.1), .int h.2.1, .int (nI (hFs h)), .int h.2.2.2.1, .int h.2.2.2.2.1, .int h.2.2.2.2.2], ob 0 [.ref f0, .ref f1, .ref f2, .int (nI s.2.2.2)], aI (CxD X) 400 s.1, aI (CxD X) 400 s.2.1, aI (CxD X) 400 s.2.2.1, ob 1 [.ref j0, .ref j1], aI (CxD X) 312 v, aI (CxD X) 64 k, ob 7 [.ref x0, .ref x1, .ref x2, .ref x3, .ref x4, .ref x5, .int (nI (txSize x)), .int (nI (txRules x)), .int (nI (txTraits x))], aI (CxD X) 600 x.1, aZ (CxD X) 20 (zf x.2.1), aI (CxD X) 20 (nf x.2.2.1), aI (CxD X) 20 (nf x.2.2.2.1), aI (CxD X) 20 (nf x.2.2.2.2.1), aJ (CxD X) 8 x.2.2.2.2.2.1] 16 [(0, .ref hy), (1, .int sl), (2, .int dd), (3, .int (nI p)), (4, .int (nI q)), (5, .ref t2)] [.int (b2 (hDay dd))]
  refine r_if_eq_b (tgt := 36) (n := 19) hX dX10_why_16 (by decide) rfl (fun c16 => absurd c16 (by rw [hd]; decide)) (fun c16 => ?_)
  refine r_aload_n (n := 20) hX dX10_why_19 rfl rfl 0 rfl ?_
  refine r_iload_n (n := 21) hX dX10_why_20 rfl rfl 3 rfl ?_
  refine r_callV (n := 24) (av := [.int (nI p)]) hX (ct_X10_isFamily (CxL X) (CxD X) hy fb tp pa ju pl yr lg ha t1 t2 h (nI p)) ml_X10_123 cv_X10_isFamily rfl (by decide) [0] rfl rfl (by decide) 0 rfl rfl rfl rfl rfl (Nat.le_of_ble_eq_true rfl) dX10_why_21 rfl (fun r_ es_ h_ l_ => ?_)
  obtain ⟨rfl, rfl⟩ := h_
  show Aw X [hy, fb, f0, f1, f2, ju, j0, j1, t2, x0, x1, x2, x3, x4, x5] [ob 10 [.ref fb, .ref tp, .ref pa, .ref ju, .ref pl, .ref yr, .ref lg, .ref ha, .ref t1, .ref t2, .int (b2 h.1), .int h.2.1, .int (nI (hFs h)), .int h.2.2.2.1, .int h.2.2.2.2.1, .int h.2.2.2.2.2], ob 0 [.ref f0, .ref f1, .ref f2, .int (nI s.2.2.2)], aI (CxD X) 400 s.1, aI (CxD X) 400 s.2.1, aI (CxD X) 400 s.2.2.1, ob 1 [.ref j0, .ref j1], aI (CxD X) 312 v, aI (CxD X) 64 k, ob 7 [.ref x0, .ref x1, .ref x2, .ref x3, .ref x4, .ref x5, .int (nI (txSize x)), .int (nI (txRules x)), .int (nI (txTraits x))], aI (CxD X) 600 x.1, aZ (CxD X) 20 (zf x.2.1), aI (CxD X) 20 (nf x.2.2.1), aI (CxD X) 20 (nf x.2.2.2.1), aI (CxD X) 20 (nf x.2.2.2.2.1), aJ (CxD X) 8 x.2.2.2.2.2.1] 24 [(0, .ref hy), (1, .int sl), (2, .int dd), (3, .int (nI p)), (4, .int (nI q)), (5, .ref t2)] [.int (b2 (hFam (hFs h) (nI p)))]
  refine r_if_eq_b (tgt := 36) (n := 27) hX dX10_why_24 (by decide) rfl (fun c24 => absurd c24 (by rw [hFam_of hn hp]; decide)) (fun c24 => ?_)
  refine r_aload_n (n := 28) hX dX10_why_27 rfl rfl 0 rfl ?_
  refine r_iload (n := 30) hX dX10_why_28 rfl 4 rfl ?_
  refine r_callV (n := 33) (av := [.int (nI q)]) hX (ct_X10_isFamily (CxL X) (CxD X) hy fb tp pa ju pl yr lg ha t1 t2 h (nI q)) ml_X10_123 cv_X10_isFamily rfl (by decide) [0] rfl rfl (by decide) 0 rfl rfl rfl rfl rfl (Nat.le_of_ble_eq_true rfl) dX10_why_30 rfl (fun r_ es_ h_ l_ => ?_)
  obtain ⟨rfl, rfl⟩ := h_
  show Aw X [hy, fb, f0, f1, f2, ju, j0, j1, t2, x0, x1, x2, x3, x4, x5] [ob 10 [.ref fb, .ref tp, .ref pa, .ref ju, .ref pl, .ref yr, .ref lg, .ref ha, .ref t1, .ref t2, .int (b2 h.1), .int h.2.1, .int (nI (hFs h)), .int h.2.2.2.1, .int h.2.2.2.2.1, .int h.2.2.2.2.2], ob 0 [.ref f0, .ref f1, .ref f2, .int (nI s.2.2.2)], aI (CxD X) 400 s.1, aI (CxD X) 400 s.2.1, aI (CxD X) 400 s.2.2.1, ob 1 [.ref j0, .ref j1], aI (CxD X) 312 v, aI (CxD X) 64 k, ob 7 [.ref x0, .ref x1, .ref x2, .ref x3, .ref x4, .ref x5, .int (nI (txSize x)), .int (nI (txRules x)), .int (nI (txTraits x))], aI (CxD X) 600 x.1, aZ (CxD X) 20 (zf x.2.1), aI (CxD X) 20 (nf x.2.2.1), aI (CxD X) 20 (nf x.2.2.2.1), aI (CxD X) 20 (nf x.2.2.2.2.1), aJ (CxD X) 8 x.2.2.2.2.2.1] 33 [(0, .ref hy), (1, .int sl), (2, .int dd), (3, .int (nI p)), (4, .int (nI q)), (5, .ref t2)] [.int (b2 (hFam (hFs h) (nI q)))]
  refine r_if_ne_b (tgt := 38) (n := 36) hX dX10_why_33 (by decide) rfl (fun c33 => ?_) (fun c33 => absurd c33 (by rw [hFam_of hn hq]; decide))
  refine r_aload_n (n := 39) hX dX10_why_38 rfl rfl 0 rfl ?_
  refine r_get (n := 42) hX 0 rfl rfl rfl 0 (by decide) lay_X10 fl_X10_10 rfl dX10_why_39 rfl ?_
  refine r_aload_n (n := 43) hX dX10_why_42 rfl rfl 0 rfl ?_
  refine r_get (n := 46) hX 0 rfl rfl rfl 3 (by decide) lay_X10 fl_X10_33 rfl dX10_why_43 rfl ?_
  refine r_get (n := 49) hX 5 rfl rfl rfl 0 (by decide) lay_X1 fl_X10_140 rfl dX10_why_46 rfl ?_
  refine r_iload_n (n := 50) hX dX10_why_49 rfl rfl 2 rfl ?_
  refine r_callV (n := 53) (av := [.ref j0, .int dd]) hX (ct_X0_fill (CxL X) (CxD X) fb f0 f1 f2 j0 s v dd hs4) ml_X10_143 cv_X0_fill rfl (by decide) [1, 2, 3, 4, 6] rfl rfl (by decide) 1 rfl rfl rfl rfl rfl (Nat.le_of_ble_eq_true rfl) dX10_why_50 rfl (fun r_ es_ h_ l_ => ?_)
  obtain ⟨rfl, rfl⟩ := h_
  show Aw X [hy, fb, f0, f1, f2, ju, j0, j1, t2, x0, x1, x2, x3, x4, x5] [ob 10 [.ref fb, .ref tp, .ref pa, .ref ju, .ref pl, .ref yr, .ref lg, .ref ha, .ref t1, .ref t2, .int (b2 h.1), .int h.2.1, .int (nI (hFs h)), .int h.2.2.2.1, .int h.2.2.2.2.1, .int h.2.2.2.2.2], ob 0 [.ref f0, .ref f1, .ref f2, .int (nI s.2.2.2)], aI (CxD X) 400 s.1, aI (CxD X) 400 s.2.1, aI (CxD X) 400 s.2.2.1, ob 1 [.ref j0, .ref j1], aI (CxD X) 312 (fbFill s dd s.2.2.2 0 (zfill v 312)), aI (CxD X) 64 k, ob 7 [.ref x0, .ref x1, .ref x2, .ref x3, .ref x4, .ref x5, .int (nI (txSize x)), .int (nI (txRules x)), .int (nI (txTraits x))], aI (CxD X) 600 x.1, aZ (CxD X) 20 (zf x.2.1), aI (CxD X) 20 (nf x.2.2.1), aI (CxD X) 20 (nf x.2.2.2.1), aI (CxD X) 20 (nf x.2.2.2.2.1), aJ (CxD X) 8 x.2.2.2.2.2.1] 53 [(0, .ref hy), (1, .int sl), (2, .int dd), (3, .int (nI p)), (4, .int (nI q)), (5, .ref t2)] []
  generalize hv : fbFill s dd s.2.2.2 0 (zfill v 312) = vv
  refine r_aload_n (n := 54) hX dX10_why_53 rfl rfl 0 rfl ?_
  refine r_get (n := 57) hX 0 rfl rfl rfl 3 (by decide) lay_X10 fl_X10_33 rfl dX10_why_54 rfl ?_
  refine r_aload (n := 59) hX dX10_why_57 rfl 5 rfl ?_
  refine r_aload_n (n := 60) hX dX10_why_59 rfl rfl 0 rfl ?_
  refine r_get (n := 63) hX 0 rfl rfl rfl 14 (by decide) lay_X10 fl_X10_86 rfl dX10_why_60 rfl ?_
  refine r_iload_n (n := 64) hX dX10_why_63 rfl rfl 3 rfl ?_
  refine r_iload (n := 66) hX dX10_why_64 rfl 4 rfl ?_
  refine r_callV (n := 69) (av := [.ref t2, .int h.2.2.2.2.1, .int (nI p), .int (nI q)]) hX (ct_X1_reason (CxL X) (CxD X) ju j0 j1 t2 x0 x1 x2 x3 x4 x5 x vv k h.2.2.2.2.1 p q ht (by omega) (by omega)) ml_X10_147 cv_X1_reason rfl (by decide) [5, 6, 7, 8, 9, 10, 11, 12, 13, 14] rfl rfl (by decide) 5 rfl rfl rfl rfl rfl (Nat.le_of_ble_eq_true rfl) dX10_why_66 rfl (fun r_ es_ h_ l_ => ?_)
  obtain ⟨rfl, rfl⟩ := h_
  show Aw X [hy, fb, f0, f1, f2, ju, j0, j1, t2, x0, x1, x2, x3, x4, x5] [ob 10 [.ref fb, .ref tp, .ref pa, .ref ju, .ref pl, .ref yr, .ref lg, .ref ha, .ref t1, .ref t2, .int (b2 h.1), .int h.2.1, .int (nI (hFs h)), .int h.2.2.2.1, .int h.2.2.2.2.1, .int h.2.2.2.2.2], ob 0 [.ref f0, .ref f1, .ref f2, .int (nI s.2.2.2)], aI (CxD X) 400 s.1, aI (CxD X) 400 s.2.1, aI (CxD X) 400 s.2.2.1, ob 1 [.ref j0, .ref j1], aI (CxD X) 312 vv, aI (CxD X) 64 ((jWhy x vv h.2.2.2.2.1 p q k).2), ob 7 [.ref x0, .ref x1, .ref x2, .ref x3, .ref x4, .ref x5, .int (nI (txSize x)), .int (nI (txRules x)), .int (nI (txTraits x))], aI (CxD X) 600 x.1, aZ (CxD X) 20 (zf x.2.1), aI (CxD X) 20 (nf x.2.2.1), aI (CxD X) 20 (nf x.2.2.2.1), aI (CxD X) 20 (nf x.2.2.2.2.1), aJ (CxD X) 8 x.2.2.2.2.2.1] 69 [(0, .ref hy), (1, .int sl), (2, .int dd), (3, .int (nI p)), (4, .int (nI q)), (5, .ref t2)] [.int (nI ((jWhy x vv h.2.2.2.2.1 p q k).1))]
  exact r_ireturn hX hR dX10_why_69 (by rw [hv]; exact ⟨rfl, rfl⟩)
theorem ct_why1 (l : Launch) (D : va_G) (hy fb tp pa ju pl yr lg ha t1 t2 : Nat) (f0 f1 f2 j0 j1 x0 x1 x2 x3 x4 x5 : Nat) (h : HS) (s : FB) (x : TX) (v k : Nat → Int32) (sl dd : Int32) (p q : Nat) (hn : hFs h ≤ 12) (hs : sl = 1) (hd : hDay dd = true) (hp : p < hFs h) (hq : q < hFs h) (hs4 : s.2.2.2 ≤ 400) (ht : txOk x) : Ct l D m_X10_why 5 [.ref hy, .int sl, .int dd, .int (nI p), .int (nI q)] [hy, fb, f0, f1, f2, ju, j0, j1, t2, x0, x1, x2, x3, x4, x5] [ob 10 [.ref fb, .ref tp, .ref pa, .ref ju, .ref pl, .ref yr, .ref lg, .ref ha, .ref t1, .ref t2, .int (b2 h.1), .int h.2.1, .int (nI (hFs h)), .int h.2.2.2.1, .int h.2.2.2.2.1, .int h.2.2.2.2.2], ob 0 [.ref f0, .ref f1, .ref f2, .int (nI s.2.2.2)], aI D 400 s.1, aI D 400 s.2.1, aI D 400 s.2.2.1, ob 1 [.ref j0, .ref j1], aI D 312 v, aI D 64 k, ob 7 [.ref x0, .ref x1, .ref x2, .ref x3, .ref x4, .ref x5, .int (nI (txSize x)), .int (nI (txRules x)), .int (nI (txTraits x))], aI D 600 x.1, aZ D 20 (zf x.2.1), aI D 20 (nf x.2.2.1), aI D 20 (nf x.2.2.2.1), aI D 20 (nf x.2.2.2.2.1), aJ D 8 x.2.2.2.2.2.1] (fun r es' => r = some (.int (nI (jWhy x (fbFill s dd s.2.2.2 0 (zfill v 312)) h.2.2.2.2.1 p q k).1)) ∧ es' = [ob 10 [.ref fb, .ref tp, .ref pa, .ref ju, .ref pl, .ref yr, .ref lg, .ref ha, .ref t1, .ref t2, .int (b2 h.1), .int h.2.1, .int (nI (hFs h)), .int h.2.2.2.1, .int h.2.2.2.2.1, .int h.2.2.2.2.2], ob 0 [.ref f0, .ref f1, .ref f2, .int (nI s.2.2.2)], aI D 400 s.1, aI D 400 s.2.1, aI D 400 s.2.2.1, ob 1 [.ref j0, .ref j1], aI D 312 (fbFill s dd s.2.2.2 0 (zfill v 312)), aI D 64 ((jWhy x (fbFill s dd s.2.2.2 0 (zfill v 312)) h.2.2.2.2.1 p q k).2), ob 7 [.ref x0, .ref x1, .ref x2, .ref x3, .ref x4, .ref x5, .int (nI (txSize x)), .int (nI (txRules x)), .int (nI (txTraits x))], aI D 600 x.1, aZ D 20 (zf x.2.1), aI D 20 (nf x.2.2.1), aI D 20 (nf x.2.2.2.1), aI D 20 (nf x.2.2.2.2.1), aJ D 8 x.2.2.2.2.2.1]) :=
  Ct.ofA (own := RX10) (by decide) rfl (Nat.le_of_ble_eq_true rfl) rfl (fun X hl hD hX hR => by subst hl; subst hD; exact wk_why1 hX hy fb tp pa ju pl yr lg ha t1 t2 f0 f1 f2 j0 j1 x0 x1 x2 x3 x4 x5 h s x v k sl dd p q hn hs hd hp hq hs4 ht hR)
set_option maxHeartbeats 1000000 in
set_option maxRecDepth 100000 in
theorem wk_cost1 {X : Cx} (hX : Ok X cX10_cost 6 RX10 6) (hy fb tp pa ju pl yr lg ha t1 t2 : Nat) (f0 f1 f2 j0 j1 x0 x1 x2 x3 x4 x5 : Nat) (h : HS) (s : FB) (x : TX) (v k : Nat → Int32) (sl dd : Int32) (p q : Nat) (hn : hFs h ≤ 12) (hs : sl = 1) (hd : hDay dd = true) (hp : p < hFs h) (hq : q < hFs h) (hs4 : s.2.2.2 ≤ 400) (ht : txOk x) (hR : Rt X (some FieldType.int) (fun r es' => r = some (.int (eo (jCost x (fbFill s dd s.2.2.2 0 (zfill v 312)) h.2.2.2.2.1 p q k))) ∧ es' = [ob 10 [.ref fb, .ref tp, .ref pa, .ref ju, .ref pl, .ref yr, .ref lg, .ref ha, .ref t1, .ref t2, .int (b2 h.1), .int h.2.1, .int (nI (hFs h)), .int h.2.2.2.1, .int h.2.2.2.2.1, .int h.2.2.2.2.2], ob 0 [.ref f0, .ref f1, .ref f2, .int (nI s.2.2.2)], aI (CxD X) 400 s.1, aI (CxD X) 400 s.2.1, aI (CxD X) 400 s.2.2.1, ob 1 [.ref j0, .ref j1], aI (CxD X) 312 (fbFill s dd s.2.2.2 0 (zfill v 312)), aI (CxD X) 64 (jCostK x (fbFill s dd s.2.2.2 0 (zfill v 312)) h.2.2.2.2.1 p q k), ob 7 [.ref x0, .ref x1, .ref x2, .ref x3, .ref x4, .ref x5, .int (nI (txSize x)), .int (nI (txRules x)), .int (nI (txTraits x))], aI (CxD X) 600 x.1, aZ (CxD X) 20 (zf x.2.1), aI (CxD X) 20 (nf x.2.2.1), aI (CxD X) 20 (nf x.2.2.2.1), aI (CxD X) 20 (nf x.2.2.2.2.1), aJ (CxD X) 8 x.2.2.2.2.2.1]) [hy, fb, f0, f1, f2, ju, j0, j1, t2, x0, x1, x2, x3, x4, x5]) : Aw X [hy, fb, f0, f1, f2, ju, j0, j1, t2, x0, x1, x2, x3, x4, x5] [ob 10 [.ref fb, .ref tp, .ref pa, .ref ju, .ref pl, .ref yr, .ref lg, .ref ha, .ref t1, .ref t2, .int (b2 h.1), .int h.2.1, .int (nI (hFs h)), .int h.2.2.2.1, .int h.2.2.2.2.1, .int h.2.2.2.2.2], ob 0 [.ref f0, .ref f1, .ref f2, .int (nI s.2.2.2)], aI (CxD X) 400 s.1, aI (CxD X) 400 s.2.1, aI (CxD X) 400 s.2.2.1, ob 1 [.ref j0, .ref j1], aI (CxD X) 312 v, aI (CxD X) 64 k, ob 7 [.ref x0, .ref x1, .ref x2, .ref x3, .ref x4, .ref x5, .int (nI (txSize x)), .int (nI (txRules x)), .int (nI (txTraits x))], aI (CxD X) 600 x.1, aZ (CxD X) 20 (zf x.2.1), aI (CxD X) 20 (nf x.2.2.1), aI (CxD X) 20 (nf x.2.2.2.1), aI (CxD X) 20 (nf x.2.2.2.2.1), aJ (CxD X) 8 x.2.2.2.2.2.1] 0 [(0, .ref hy), (1, .int sl), (2, .int dd), (3, .int (nI p)), (4, .int (nI q))] [] := by
  refine r_aload_n (n := 1) hX dX10_cost_0 rfl rfl 0 rfl ?_
  refine r_iload_n (n := 2) hX dX10_cost_1 rfl rfl 1 rfl ?_
  refine r_callV (n := 5) (av := [.int sl]) hX (ct_textOf1 (CxL X) (CxD X) hy fb tp pa ju pl yr lg ha t1 t2 h sl hs) ml_X10_99 cv_X10_textOf rfl (by decide) [0] rfl rfl (by decide) 0 rfl rfl rfl rfl rfl (Nat.le_of_ble_eq_true rfl) dX10_cost_2 rfl (fun r_ es_ h_ l_ => ?_)
  obtain ⟨rfl, rfl⟩ := h_
  show Aw X [hy, fb, f0, f1, f2, ju, j0, j1, t2, x0, x1, x2, x3, x4, x5] [ob 10 [.ref fb, .ref tp, .ref pa, .ref ju, .ref pl, .ref yr, .ref lg, .ref ha, .ref t1, .ref t2, .int (b2 h.1), .int h.2.1, .int (nI (hFs h)), .int h.2.2.2.1, .int h.2.2.2.2.1, .int h.2.2.2.2.2], ob 0 [.ref f0, .ref f1, .ref f2, .int (nI s.2.2.2)], aI (CxD X) 400 s.1, aI (CxD X) 400 s.2.1, aI (CxD X) 400 s.2.2.1, ob 1 [.ref j0, .ref j1], aI (CxD X) 312 v, aI (CxD X) 64 k, ob 7 [.ref x0, .ref x1, .ref x2, .ref x3, .ref x4, .ref x5, .int (nI (txSize x)), .int (nI (txRules x)), .int (nI (txTraits x))], aI (CxD X) 600 x.1, aZ (CxD X) 20 (zf x.2.1), aI (CxD X) 20 (nf x.2.2.1), aI (CxD X) 20 (nf x.2.2.2.1), aI (CxD X) 20 (nf x.2.2.2.2.1), aJ (CxD X) 8 x.2.2.2.2.2.1] 5 [(0, .ref hy), (1, .int sl), (2, .int dd), (3, .int (nI p)), (4, .int (nI q))] [.ref t2]
  refine r_astore (n := 7) hX [(0, .ref hy), (1, .int sl), (2, .int dd), (3, .int (nI p)), (4, .int (nI q)), (5, .ref t2)] dX10_cost_5 rfl (by decide) rfl ?_
  refine r_aload (n := 9) hX dX10_cost_7 rfl 5 rfl ?_
  refine r_ifnull (n := 12) hX dX10_cost_9 rfl ?_
  refine r_iload_n (n := 13) hX dX10_cost_12 rfl rfl 2 rfl ?_
  refine r_callS (n := 16) (av := [.int dd]) hX (ct_X10_isDay (CxL X) (CxD X) dd) ml_X10_115 cs_X10_isDay rfl (by decide) [] rfl rfl (by decide) rfl (Nat.le_of_ble_eq_true rfl) dX10_cost_13 rfl (fun r_ es_ h_ l_ => ?_)
  obtain ⟨rfl, rfl⟩ := h_
  show Aw X [hy, fb, f0, f1, f2, ju, j0, j1, t2, x0, x1, x2, x3, x4, x5] [ob 10 [.ref fb, .ref tp, .ref pa, .ref ju, .ref pl, .ref yr, .ref lg, .ref ha, .ref t1, .ref t2, .int (b2 h.1), .int h.2.1, .int (nI (hFs h)), .int h.2.2.2.1, .int h.2.2.2.2.1, .int h.2.2.2.2.2], ob 0 [.ref f0, .ref f1, .ref f2, .int (nI s.2.2.2)], aI (CxD X) 400 s.1, aI (CxD X) 400 s.2.1, aI (CxD X) 400 s.2.2.1, ob 1 [.ref j0, .ref j1], aI (CxD X) 312 v, aI (CxD X) 64 k, ob 7 [.ref x0, .ref x1, .ref x2, .ref x3, .ref x4, .ref x5, .int (nI (txSize x)), .int (nI (txRules x)), .int (nI (txTraits x))], aI (CxD X) 600 x.1, aZ (CxD X) 20 (zf x.2.1), aI (CxD X) 20 (nf x.2.2.1), aI (CxD X) 20 (nf x.2.2.2.1), aI (CxD X) 20 (nf x.2.2.2.2.1), aJ (CxD X) 8 x.2.2.2.2.2.1] 16 [(0, .ref hy), (1, .int sl), (2, .int dd), (3, .int (nI p)), (4, .int (nI q)), (5, .ref t2)] [.int (b2 (hDay dd))]
  refine r_if_eq_b (tgt := 36) (n := 19) hX dX10_cost_16 (by decide) rfl (fun c16 => absurd c16 (by rw [hd]; decide)) (fun c16 => ?_)
  refine r_aload_n (n := 20) hX dX10_cost_19 rfl rfl 0 rfl ?_
  refine r_iload_n (n := 21) hX dX10_cost_20 rfl rfl 3 rfl ?_
  refine r_callV (n := 24) (av := [.int (nI p)]) hX (ct_X10_isFamily (CxL X) (CxD X) hy fb tp pa ju pl yr lg ha t1 t2 h (nI p)) ml_X10_123 cv_X10_isFamily rfl (by decide) [0] rfl rfl (by decide) 0 rfl rfl rfl rfl rfl (Nat.le_of_ble_eq_true rfl) dX10_cost_21 rfl (fun r_ es_ h_ l_ => ?_)
  obtain ⟨rfl, rfl⟩ := h_
  show Aw X [hy, fb, f0, f1, f2, ju, j0, j1, t2, x0, x1, x2, x3, x4, x5] [ob 10 [.ref fb, .ref tp, .ref pa, .ref ju, .ref pl, .ref yr, .ref lg, .ref ha, .ref t1, .ref t2, .int (b2 h.1), .int h.2.1, .int (nI (hFs h)), .int h.2.2.2.1, .int h.2.2.2.2.1, .int h.2.2.2.2.2], ob 0 [.ref f0, .ref f1, .ref f2, .int (nI s.2.2.2)], aI (CxD X) 400 s.1, aI (CxD X) 400 s.2.1, aI (CxD X) 400 s.2.2.1, ob 1 [.ref j0, .ref j1], aI (CxD X) 312 v, aI (CxD X) 64 k, ob 7 [.ref x0, .ref x1, .ref x2, .ref x3, .ref x4, .ref x5, .int (nI (txSize x)), .int (nI (txRules x)), .int (nI (txTraits x))], aI (CxD X) 600 x.1, aZ (CxD X) 20 (zf x.2.1), aI (CxD X) 20 (nf x.2.2.1), aI (CxD X) 20 (nf x.2.2.2.1), aI (CxD X) 20 (nf x.2.2.2.2.1), aJ (CxD X) 8 x.2.2.2.2.2.1] 24 [(0, .ref hy), (1, .int sl), (2, .int dd), (3, .int (nI p)), (4, .int (nI q)), (5, .ref t2)] [.int (b2 (hFam (hFs h) (nI p)))]
  refine r_if_eq_b (tgt := 36) (n := 27) hX dX10_cost_24 (by decide) rfl (fun c24 => absurd c24 (by rw [hFam_of hn hp]; decide)) (fun c24 => ?_)
  refine r_aload_n (n := 28) hX dX10_cost_27 rfl rfl 0 rfl ?_
  refine r_iload (n := 30) hX dX10_cost_28 rfl 4 rfl ?_
  refine r_callV (n := 33) (av := [.int (nI q)]) hX (ct_X10_isFamily (CxL X) (CxD X) hy fb tp pa ju pl yr lg ha t1 t2 h (nI q)) ml_X10_123 cv_X10_isFamily rfl (by decide) [0] rfl rfl (by decide) 0 rfl rfl rfl rfl rfl (Nat.le_of_ble_eq_true rfl) dX10_cost_30 rfl (fun r_ es_ h_ l_ => ?_)
  obtain ⟨rfl, rfl⟩ := h_
  show Aw X [hy, fb, f0, f1, f2, ju, j0, j1, t2, x0, x1, x2, x3, x4, x5] [ob 10 [.ref fb, .ref tp, .ref pa, .ref ju, .ref pl, .ref yr, .ref lg, .ref ha, .ref t1, .ref t2, .int (b2 h.1), .int h.2.1, .int (nI (hFs h)), .int h.2.2.2.1, .int h.2.2.2.2.1, .int h.2.2.2.2.2], ob 0 [.ref f0, .ref f1, .ref f2, .int (nI s.2.2.2)], aI (CxD X) 400 s.1, aI (CxD X) 400 s.2.1, aI (CxD X) 400 s.2.2.1, ob 1 [.ref j0, .ref j1], aI (CxD X) 312 v, aI (CxD X) 64 k, ob 7 [.ref x0, .ref x1, .ref x2, .ref x3, .ref x4, .ref x5, .int (nI (txSize x)), .int (nI (txRules x)), .int (nI (txTraits x))], aI (CxD X) 600 x.1, aZ (CxD X) 20 (zf x.2.1), aI (CxD X) 20 (nf x.2.2.1), aI (CxD X) 20 (nf x.2.2.2.1), aI (CxD X) 20 (nf x.2.2.2.2.1), aJ (CxD X) 8 x.2.2.2.2.2.1] 33 [(0, .ref hy), (1, .int sl), (2, .int dd), (3, .int (nI p)), (4, .int (nI q)), (5, .ref t2)] [.int (b2 (hFam (hFs h) (nI q)))]
  refine r_if_ne_b (tgt := 38) (n := 36) hX dX10_cost_33 (by decide) rfl (fun c33 => ?_) (fun c33 => absurd c33 (by rw [hFam_of hn hq]; decide))
  refine r_aload_n (n := 39) hX dX10_cost_38 rfl rfl 0 rfl ?_
  refine r_get (n := 42) hX 0 rfl rfl rfl 0 (by decide) lay_X10 fl_X10_10 rfl dX10_cost_39 rfl ?_
  refine r_aload_n (n := 43) hX dX10_cost_42 rfl rfl 0 rfl ?_
  refine r_get (n := 46) hX 0 rfl rfl rfl 3 (by decide) lay_X10 fl_X10_33 rfl dX10_cost_43 rfl ?_
  refine r_get (n := 49) hX 5 rfl rfl rfl 0 (by decide) lay_X1 fl_X10_140 rfl dX10_cost_46 rfl ?_
  refine r_iload_n (n := 50) hX dX10_cost_49 rfl rfl 2 rfl ?_
  refine r_callV (n := 53) (av := [.ref j0, .int dd]) hX (ct_X0_fill (CxL X) (CxD X) fb f0 f1 f2 j0 s v dd hs4) ml_X10_143 cv_X0_fill rfl (by decide) [1, 2, 3, 4, 6] rfl rfl (by decide) 1 rfl rfl rfl rfl rfl (Nat.le_of_ble_eq_true rfl) dX10_cost_50 rfl (fun r_ es_ h_ l_ => ?_)
  obtain ⟨rfl, rfl⟩ := h_
  show Aw X [hy, fb, f0, f1, f2, ju, j0, j1, t2, x0, x1, x2, x3, x4, x5] [ob 10 [.ref fb, .ref tp, .ref pa, .ref ju, .ref pl, .ref yr, .ref lg, .ref ha, .ref t1, .ref t2, .int (b2 h.1), .int h.2.1, .int (nI (hFs h)), .int h.2.2.2.1, .int h.2.2.2.2.1, .int h.2.2.2.2.2], ob 0 [.ref f0, .ref f1, .ref f2, .int (nI s.2.2.2)], aI (CxD X) 400 s.1, aI (CxD X) 400 s.2.1, aI (CxD X) 400 s.2.2.1, ob 1 [.ref j0, .ref j1], aI (CxD X) 312 (fbFill s dd s.2.2.2 0 (zfill v 312)), aI (CxD X) 64 k, ob 7 [.ref x0, .ref x1, .ref x2, .ref x3, .ref x4, .ref x5, .int (nI (txSize x)), .int (nI (txRules x)), .int (nI (txTraits x))], aI (CxD X) 600 x.1, aZ (CxD X) 20 (zf x.2.1), aI (CxD X) 20 (nf x.2.2.1), aI (CxD X) 20 (nf x.2.2.2.1), aI (CxD X) 20 (nf x.2.2.2.2.1), aJ (CxD X) 8 x.2.2.2.2.2.1] 53 [(0, .ref hy), (1, .int sl), (2, .int dd), (3, .int (nI p)), (4, .int (nI q)), (5, .ref t2)] []
  generalize hv : fbFill s dd s.2.2.2 0 (zfill v 312) = vv
  refine r_aload_n (n := 54) hX dX10_cost_53 rfl rfl 0 rfl ?_
  refine r_get (n := 57) hX 0 rfl rfl rfl 3 (by decide) lay_X10 fl_X10_33 rfl dX10_cost_54 rfl ?_
  refine r_aload (n := 59) hX dX10_cost_57 rfl 5 rfl ?_
  refine r_aload_n (n := 60) hX dX10_cost_59 rfl rfl 0 rfl ?_
  refine r_get (n := 63) hX 0 rfl rfl rfl 14 (by decide) lay_X10 fl_X10_86 rfl dX10_cost_60 rfl ?_
  refine r_iload_n (n := 64) hX dX10_cost_63 rfl rfl 3 rfl ?_
  refine r_iload (n := 66) hX dX10_cost_64 rfl 4 rfl ?_
  refine r_callV (n := 69) (av := [.ref t2, .int h.2.2.2.2.1, .int (nI p), .int (nI q)]) hX (ct_X1_costOrNone (CxL X) (CxD X) ju j0 j1 t2 x0 x1 x2 x3 x4 x5 x vv k h.2.2.2.2.1 p q ht (by omega) (by omega)) ml_X10_151 cv_X1_costOrNone rfl (by decide) [5, 6, 7, 8, 9, 10, 11, 12, 13, 14] rfl rfl (by decide) 5 rfl rfl rfl rfl rfl (Nat.le_of_ble_eq_true rfl) dX10_cost_66 rfl (fun r_ es_ h_ l_ => ?_)
  obtain ⟨rfl, rfl⟩ := h_
  show Aw X [hy, fb, f0, f1, f2, ju, j0, j1, t2, x0, x1, x2, x3, x4, x5] [ob 10 [.ref fb, .ref tp, .ref pa, .ref ju, .ref pl, .ref yr, .ref lg, .ref ha, .ref t1, .ref t2, .int (b2 h.1), .int h.2.1, .int (nI (hFs h)), .int h.2.2.2.1, .int h.2.2.2.2.1, .int h.2.2.2.2.2], ob 0 [.ref f0, .ref f1, .ref f2, .int (nI s.2.2.2)], aI (CxD X) 400 s.1, aI (CxD X) 400 s.2.1, aI (CxD X) 400 s.2.2.1, ob 1 [.ref j0, .ref j1], aI (CxD X) 312 vv, aI (CxD X) 64 (jCostK x vv h.2.2.2.2.1 p q k), ob 7 [.ref x0, .ref x1, .ref x2, .ref x3, .ref x4, .ref x5, .int (nI (txSize x)), .int (nI (txRules x)), .int (nI (txTraits x))], aI (CxD X) 600 x.1, aZ (CxD X) 20 (zf x.2.1), aI (CxD X) 20 (nf x.2.2.1), aI (CxD X) 20 (nf x.2.2.2.1), aI (CxD X) 20 (nf x.2.2.2.2.1), aJ (CxD X) 8 x.2.2.2.2.2.1] 69 [(0, .ref hy), (1, .int sl), (2, .int dd), (3, .int (nI p)), (4, .int (nI q)), (5, .ref t2)] [.int (eo (jCost x vv h.2.2.2.2.1 p q k))]
  exact r_ireturn hX hR dX10_cost_69 (by rw [hv]; exact ⟨rfl, rfl⟩)
theorem ct_cost1 (l : Launch) (D : va_G) (hy fb tp pa ju pl yr lg ha t1 t2 : Nat) (f0 f1 f2 j0 j1 x0 x1 x2 x3 x4 x5 : Nat) (h : HS) (s : FB) (x : TX) (v k : Nat → Int32) (sl dd : Int32) (p q : Nat) (hn : hFs h ≤ 12) (hs : sl = 1) (hd : hDay dd = true) (hp : p < hFs h) (hq : q < hFs h) (hs4 : s.2.2.2 ≤ 400) (ht : txOk x) : Ct l D m_X10_cost 6 [.ref hy, .int sl, .int dd, .int (nI p), .int (nI q)] [hy, fb, f0, f1, f2, ju, j0, j1, t2, x0, x1, x2, x3, x4, x5] [ob 10 [.ref fb, .ref tp, .ref pa, .ref ju, .ref pl, .ref yr, .ref lg, .ref ha, .ref t1, .ref t2, .int (b2 h.1), .int h.2.1, .int (nI (hFs h)), .int h.2.2.2.1, .int h.2.2.2.2.1, .int h.2.2.2.2.2], ob 0 [.ref f0, .ref f1, .ref f2, .int (nI s.2.2.2)], aI D 400 s.1, aI D 400 s.2.1, aI D 400 s.2.2.1, ob 1 [.ref j0, .ref j1], aI D 312 v, aI D 64 k, ob 7 [.ref x0, .ref x1, .ref x2, .ref x3, .ref x4, .ref x5, .int (nI (txSize x)), .int (nI (txRules x)), .int (nI (txTraits x))], aI D 600 x.1, aZ D 20 (zf x.2.1), aI D 20 (nf x.2.2.1), aI D 20 (nf x.2.2.2.1), aI D 20 (nf x.2.2.2.2.1), aJ D 8 x.2.2.2.2.2.1] (fun r es' => r = some (.int (eo (jCost x (fbFill s dd s.2.2.2 0 (zfill v 312)) h.2.2.2.2.1 p q k))) ∧ es' = [ob 10 [.ref fb, .ref tp, .ref pa, .ref ju, .ref pl, .ref yr, .ref lg, .ref ha, .ref t1, .ref t2, .int (b2 h.1), .int h.2.1, .int (nI (hFs h)), .int h.2.2.2.1, .int h.2.2.2.2.1, .int h.2.2.2.2.2], ob 0 [.ref f0, .ref f1, .ref f2, .int (nI s.2.2.2)], aI D 400 s.1, aI D 400 s.2.1, aI D 400 s.2.2.1, ob 1 [.ref j0, .ref j1], aI D 312 (fbFill s dd s.2.2.2 0 (zfill v 312)), aI D 64 (jCostK x (fbFill s dd s.2.2.2 0 (zfill v 312)) h.2.2.2.2.1 p q k), ob 7 [.ref x0, .ref x1, .ref x2, .ref x3, .ref x4, .ref x5, .int (nI (txSize x)), .int (nI (txRules x)), .int (nI (txTraits x))], aI D 600 x.1, aZ D 20 (zf x.2.1), aI D 20 (nf x.2.2.1), aI D 20 (nf x.2.2.2.1), aI D 20 (nf x.2.2.2.2.1), aJ D 8 x.2.2.2.2.2.1]) :=
  Ct.ofA (own := RX10) (by decide) rfl (Nat.le_of_ble_eq_true rfl) rfl (fun X hl hD hX hR => by subst hl; subst hD; exact wk_cost1 hX hy fb tp pa ju pl yr lg ha t1 t2 f0 f1 f2 j0 j1 x0 x1 x2 x3 x4 x5 h s x v k sl dd p q hn hs hd hp hq hs4 ht hR)
set_option maxHeartbeats 1000000 in
set_option maxRecDepth 100000 in
theorem wk_why1N {X : Cx} (hX : Ok X cX10_why 6 RX10 5) (hy fb tp pa ju pl yr lg ha t1 t2 : Nat) (h : HS) (sl dd p q : Int32) (hs : sl = 1) (hb : hDay dd = false ∨ hFam (hFs h) p = false ∨ hFam (hFs h) q = false) (hR : Rt X (some FieldType.int) (fun r es' => r = some (.int (-1)) ∧ es' = [ob 10 [.ref fb, .ref tp, .ref pa, .ref ju, .ref pl, .ref yr, .ref lg, .ref ha, .ref t1, .ref t2, .int (b2 h.1), .int h.2.1, .int (nI (hFs h)), .int h.2.2.2.1, .int h.2.2.2.2.1, .int h.2.2.2.2.2]]) [hy]) : Aw X [hy] [ob 10 [.ref fb, .ref tp, .ref pa, .ref ju, .ref pl, .ref yr, .ref lg, .ref ha, .ref t1, .ref t2, .int (b2 h.1), .int h.2.1, .int (nI (hFs h)), .int h.2.2.2.1, .int h.2.2.2.2.1, .int h.2.2.2.2.2]] 0 [(0, .ref hy), (1, .int sl), (2, .int dd), (3, .int p), (4, .int q)] [] := by
  refine r_aload_n (n := 1) hX dX10_why_0 rfl rfl 0 rfl ?_
  refine r_iload_n (n := 2) hX dX10_why_1 rfl rfl 1 rfl ?_
  refine r_callV (n := 5) (av := [.int sl]) hX (ct_textOf1 (CxL X) (CxD X) hy fb tp pa ju pl yr lg ha t1 t2 h sl hs) ml_X10_99 cv_X10_textOf rfl (by decide) [0] rfl rfl (by decide) 0 rfl rfl rfl rfl rfl (Nat.le_of_ble_eq_true rfl) dX10_why_2 rfl (fun r_ es_ h_ l_ => ?_)
  obtain ⟨rfl, rfl⟩ := h_
  show Aw X [hy] [ob 10 [.ref fb, .ref tp, .ref pa, .ref ju, .ref pl, .ref yr, .ref lg, .ref ha, .ref t1, .ref t2, .int (b2 h.1), .int h.2.1, .int (nI (hFs h)), .int h.2.2.2.1, .int h.2.2.2.2.1, .int h.2.2.2.2.2]] 5 [(0, .ref hy), (1, .int sl), (2, .int dd), (3, .int p), (4, .int q)] [.ref t2]
  refine r_astore (n := 7) hX [(0, .ref hy), (1, .int sl), (2, .int dd), (3, .int p), (4, .int q), (5, .ref t2)] dX10_why_5 rfl (by decide) rfl ?_
  refine r_aload (n := 9) hX dX10_why_7 rfl 5 rfl ?_
  refine r_ifnull (n := 12) hX dX10_why_9 rfl ?_
  refine r_iload_n (n := 13) hX dX10_why_12 rfl rfl 2 rfl ?_
  refine r_callS (n := 16) (av := [.int dd]) hX (ct_X10_isDay (CxL X) (CxD X) dd) ml_X10_115 cs_X10_isDay rfl (by decide) [] rfl rfl (by decide) rfl (Nat.le_of_ble_eq_true rfl) dX10_why_13 rfl (fun r_ es_ h_ l_ => ?_)
  obtain ⟨rfl, rfl⟩ := h_
  show Aw X [hy] [ob 10 [.ref fb, .ref tp, .ref pa, .ref ju, .ref pl, .ref yr, .ref lg, .ref ha, .ref t1, .ref t2, .int (b2 h.1), .int h.2.1, .int (nI (hFs h)), .int h.2.2.2.1, .int h.2.2.2.2.1, .int h.2.2.2.2.2]] 16 [(0, .ref hy), (1, .int sl), (2, .int dd), (3, .int p), (4, .int q), (5, .ref t2)] [.int (b2 (hDay dd))]
  refine r_if_eq_b (tgt := 36) (n := 19) hX dX10_why_16 (by decide) rfl (fun c16 => ?_) (fun c16 => ?_)
  · skip
    refine r_iconst (n := 37) hX (-1) dX10_why_36 rfl rfl ?_
    exact r_ireturn hX hR dX10_why_37 ⟨rfl, rfl⟩
  · skip
    refine r_aload_n (n := 20) hX dX10_why_19 rfl rfl 0 rfl ?_
    refine r_iload_n (n := 21) hX dX10_why_20 rfl rfl 3 rfl ?_
    refine r_callV (n := 24) (av := [.int p]) hX (ct_X10_isFamily (CxL X) (CxD X) hy fb tp pa ju pl yr lg ha t1 t2 h p) ml_X10_123 cv_X10_isFamily rfl (by decide) [0] rfl rfl (by decide) 0 rfl rfl rfl rfl rfl (Nat.le_of_ble_eq_true rfl) dX10_why_21 rfl (fun r_ es_ h_ l_ => ?_)
    obtain ⟨rfl, rfl⟩ := h_
    show Aw X [hy] [ob 10 [.ref fb, .ref tp, .ref pa, .ref ju, .ref pl, .ref yr, .ref lg, .ref ha, .ref t1, .ref t2, .int (b2 h.1), .int h.2.1, .int (nI (hFs h)), .int h.2.2.2.1, .int h.2.2.2.2.1, .int h.2.2.2.2.2]] 24 [(0, .ref hy), (1, .int sl), (2, .int dd), (3, .int p), (4, .int q), (5, .ref t2)] [.int (b2 (hFam (hFs h) p))]
    refine r_if_eq_b (tgt := 36) (n := 27) hX dX10_why_24 (by decide) rfl (fun c24 => ?_) (fun c24 => ?_)
    · skip
      refine r_iconst (n := 37) hX (-1) dX10_why_36 rfl rfl ?_
      exact r_ireturn hX hR dX10_why_37 ⟨rfl, rfl⟩
    · skip
      refine r_aload_n (n := 28) hX dX10_why_27 rfl rfl 0 rfl ?_
      refine r_iload (n := 30) hX dX10_why_28 rfl 4 rfl ?_
      refine r_callV (n := 33) (av := [.int q]) hX (ct_X10_isFamily (CxL X) (CxD X) hy fb tp pa ju pl yr lg ha t1 t2 h q) ml_X10_123 cv_X10_isFamily rfl (by decide) [0] rfl rfl (by decide) 0 rfl rfl rfl rfl rfl (Nat.le_of_ble_eq_true rfl) dX10_why_30 rfl (fun r_ es_ h_ l_ => ?_)
      obtain ⟨rfl, rfl⟩ := h_
      show Aw X [hy] [ob 10 [.ref fb, .ref tp, .ref pa, .ref ju, .ref pl, .ref yr, .ref lg, .ref ha, .ref t1, .ref t2, .int (b2 h.1), .int h.2.1, .int (nI (hFs h)), .int h.2.2.2.1, .int h.2.2.2.2.1, .int h.2.2.2.2.2]] 33 [(0, .ref hy), (1, .int sl), (2, .int dd), (3, .int p), (4, .int q), (5, .ref t2)] [.int (b2 (hFam (hFs h) q))]
      refine r_if_ne_b (tgt := 38) (n := 36) hX dX10_why_33 (by decide) rfl (fun c33 => absurd c33 (fun e => hb.elim (fun z => by rw [z] at c16; cases c16) (fun z => z.elim (fun z => by rw [z] at c24; cases c24) (fun z => by rw [z] at e; cases e)))) (fun c33 => ?_)
      refine r_iconst (n := 37) hX (-1) dX10_why_36 rfl rfl ?_
      exact r_ireturn hX hR dX10_why_37 ⟨rfl, rfl⟩
theorem ct_why1N (l : Launch) (D : va_G) (hy fb tp pa ju pl yr lg ha t1 t2 : Nat) (h : HS) (sl dd p q : Int32) (hs : sl = 1) (hb : hDay dd = false ∨ hFam (hFs h) p = false ∨ hFam (hFs h) q = false) : Ct l D m_X10_why 5 [.ref hy, .int sl, .int dd, .int p, .int q] [hy] [ob 10 [.ref fb, .ref tp, .ref pa, .ref ju, .ref pl, .ref yr, .ref lg, .ref ha, .ref t1, .ref t2, .int (b2 h.1), .int h.2.1, .int (nI (hFs h)), .int h.2.2.2.1, .int h.2.2.2.2.1, .int h.2.2.2.2.2]] (fun r es' => r = some (.int (-1)) ∧ es' = [ob 10 [.ref fb, .ref tp, .ref pa, .ref ju, .ref pl, .ref yr, .ref lg, .ref ha, .ref t1, .ref t2, .int (b2 h.1), .int h.2.1, .int (nI (hFs h)), .int h.2.2.2.1, .int h.2.2.2.2.1, .int h.2.2.2.2.2]]) :=
  Ct.ofA (own := RX10) (by decide) rfl (Nat.le_of_ble_eq_true rfl) rfl (fun X hl hD hX hR => by subst hl; subst hD; exact wk_why1N hX hy fb tp pa ju pl yr lg ha t1 t2 h sl dd p q hs hb hR)
set_option maxHeartbeats 1000000 in
set_option maxRecDepth 100000 in
theorem wk_cost1N {X : Cx} (hX : Ok X cX10_cost 6 RX10 6) (hy fb tp pa ju pl yr lg ha t1 t2 : Nat) (h : HS) (sl dd p q : Int32) (hs : sl = 1) (hb : hDay dd = false ∨ hFam (hFs h) p = false ∨ hFam (hFs h) q = false) (hR : Rt X (some FieldType.int) (fun r es' => r = some (.int (-1)) ∧ es' = [ob 10 [.ref fb, .ref tp, .ref pa, .ref ju, .ref pl, .ref yr, .ref lg, .ref ha, .ref t1, .ref t2, .int (b2 h.1), .int h.2.1, .int (nI (hFs h)), .int h.2.2.2.1, .int h.2.2.2.2.1, .int h.2.2.2.2.2]]) [hy]) : Aw X [hy] [ob 10 [.ref fb, .ref tp, .ref pa, .ref ju, .ref pl, .ref yr, .ref lg, .ref ha, .ref t1, .ref t2, .int (b2 h.1), .int h.2.1, .int (nI (hFs h)), .int h.2.2.2.1, .int h.2.2.2.2.1, .int h.2.2.2.2.2]] 0 [(0, .ref hy), (1, .int sl), (2, .int dd), (3, .int p), (4, .int q)] [] := by
  refine r_aload_n (n := 1) hX dX10_cost_0 rfl rfl 0 rfl ?_
  refine r_iload_n (n := 2) hX dX10_cost_1 rfl rfl 1 rfl ?_
  refine r_callV (n := 5) (av := [.int sl]) hX (ct_textOf1 (CxL X) (CxD X) hy fb tp pa ju pl yr lg ha t1 t2 h sl hs) ml_X10_99 cv_X10_textOf rfl (by decide) [0] rfl rfl (by decide) 0 rfl rfl rfl rfl rfl (Nat.le_of_ble_eq_true rfl) dX10_cost_2 rfl (fun r_ es_ h_ l_ => ?_)
  obtain ⟨rfl, rfl⟩ := h_
  show Aw X [hy] [ob 10 [.ref fb, .ref tp, .ref pa, .ref ju, .ref pl, .ref yr, .ref lg, .ref ha, .ref t1, .ref t2, .int (b2 h.1), .int h.2.1, .int (nI (hFs h)), .int h.2.2.2.1, .int h.2.2.2.2.1, .int h.2.2.2.2.2]] 5 [(0, .ref hy), (1, .int sl), (2, .int dd), (3, .int p), (4, .int q)] [.ref t2]
  refine r_astore (n := 7) hX [(0, .ref hy), (1, .int sl), (2, .int dd), (3, .int p), (4, .int q), (5, .ref t2)] dX10_cost_5 rfl (by decide) rfl ?_
  refine r_aload (n := 9) hX dX10_cost_7 rfl 5 rfl ?_
  refine r_ifnull (n := 12) hX dX10_cost_9 rfl ?_
  refine r_iload_n (n := 13) hX dX10_cost_12 rfl rfl 2 rfl ?_
  refine r_callS (n := 16) (av := [.int dd]) hX (ct_X10_isDay (CxL X) (CxD X) dd) ml_X10_115 cs_X10_isDay rfl (by decide) [] rfl rfl (by decide) rfl (Nat.le_of_ble_eq_true rfl) dX10_cost_13 rfl (fun r_ es_ h_ l_ => ?_)
  obtain ⟨rfl, rfl⟩ := h_
  show Aw X [hy] [ob 10 [.ref fb, .ref tp, .ref pa, .ref ju, .ref pl, .ref yr, .ref lg, .ref ha, .ref t1, .ref t2, .int (b2 h.1), .int h.2.1, .int (nI (hFs h)), .int h.2.2.2.1, .int h.2.2.2.2.1, .int h.2.2.2.2.2]] 16 [(0, .ref hy), (1, .int sl), (2, .int dd), (3, .int p), (4, .int q), (5, .ref t2)] [.int (b2 (hDay dd))]
  refine r_if_eq_b (tgt := 36) (n := 19) hX dX10_cost_16 (by decide) rfl (fun c16 => ?_) (fun c16 => ?_)
  · skip
    refine r_iconst (n := 37) hX (-1) dX10_cost_36 rfl rfl ?_
    exact r_ireturn hX hR dX10_cost_37 ⟨rfl, rfl⟩
  · skip
    refine r_aload_n (n := 20) hX dX10_cost_19 rfl rfl 0 rfl ?_
    refine r_iload_n (n := 21) hX dX10_cost_20 rfl rfl 3 rfl ?_
    refine r_callV (n := 24) (av := [.int p]) hX (ct_X10_isFamily (CxL X) (CxD X) hy fb tp pa ju pl yr lg ha t1 t2 h p) ml_X10_123 cv_X10_isFamily rfl (by decide) [0] rfl rfl (by decide) 0 rfl rfl rfl rfl rfl (Nat.le_of_ble_eq_true rfl) dX10_cost_21 rfl (fun r_ es_ h_ l_ => ?_)
    obtain ⟨rfl, rfl⟩ := h_
    show Aw X [hy] [ob 10 [.ref fb, .ref tp, .ref pa, .ref ju, .ref pl, .ref yr, .ref lg, .ref ha, .ref t1, .ref t2, .int (b2 h.1), .int h.2.1, .int (nI (hFs h)), .int h.2.2.2.1, .int h.2.2.2.2.1, .int h.2.2.2.2.2]] 24 [(0, .ref hy), (1, .int sl), (2, .int dd), (3, .int p), (4, .int q), (5, .ref t2)] [.int (b2 (hFam (hFs h) p))]
    refine r_if_eq_b (tgt := 36) (n := 27) hX dX10_cost_24 (by decide) rfl (fun c24 => ?_) (fun c24 => ?_)
    · skip
      refine r_iconst (n := 37) hX (-1) dX10_cost_36 rfl rfl ?_
      exact r_ireturn hX hR dX10_cost_37 ⟨rfl, rfl⟩
    · skip
      refine r_aload_n (n := 28) hX dX10_cost_27 rfl rfl 0 rfl ?_
      refine r_iload (n := 30) hX dX10_cost_28 rfl 4 rfl ?_
      refine r_callV (n := 33) (av := [.int q]) hX (ct_X10_isFamily (CxL X) (CxD X) hy fb tp pa ju pl yr lg ha t1 t2 h q) ml_X10_123 cv_X10_isFamily rfl (by decide) [0] rfl rfl (by decide) 0 rfl rfl rfl rfl rfl (Nat.le_of_ble_eq_true rfl) dX10_cost_30 rfl (fun r_ es_ h_ l_ => ?_)
      obtain ⟨rfl, rfl⟩ := h_
      show Aw X [hy] [ob 10 [.ref fb, .ref tp, .ref pa, .ref ju, .ref pl, .ref yr, .ref lg, .ref ha, .ref t1, .ref t2, .int (b2 h.1), .int h.2.1, .int (nI (hFs h)), .int h.2.2.2.1, .int h.2.2.2.2.1, .int h.2.2.2.2.2]] 33 [(0, .ref hy), (1, .int sl), (2, .int dd), (3, .int p), (4, .int q), (5, .ref t2)] [.int (b2 (hFam (hFs h) q))]
      refine r_if_ne_b (tgt := 38) (n := 36) hX dX10_cost_33 (by decide) rfl (fun c33 => absurd c33 (fun e => hb.elim (fun z => by rw [z] at c16; cases c16) (fun z => z.elim (fun z => by rw [z] at c24; cases c24) (fun z => by rw [z] at e; cases e)))) (fun c33 => ?_)
      refine r_iconst (n := 37) hX (-1) dX10_cost_36 rfl rfl ?_
      exact r_ireturn hX hR dX10_cost_37 ⟨rfl, rfl⟩
theorem ct_cost1N (l : Launch) (D : va_G) (hy fb tp pa ju pl yr lg ha t1 t2 : Nat) (h : HS) (sl dd p q : Int32) (hs : sl = 1) (hb : hDay dd = false ∨ hFam (hFs h) p = false ∨ hFam (hFs h) q = false) : Ct l D m_X10_cost 6 [.ref hy, .int sl, .int dd, .int p, .int q] [hy] [ob 10 [.ref fb, .ref tp, .ref pa, .ref ju, .ref pl, .ref yr, .ref lg, .ref ha, .ref t1, .ref t2, .int (b2 h.1), .int h.2.1, .int (nI (hFs h)), .int h.2.2.2.1, .int h.2.2.2.2.1, .int h.2.2.2.2.2]] (fun r es' => r = some (.int (-1)) ∧ es' = [ob 10 [.ref fb, .ref tp, .ref pa, .ref ju, .ref pl, .ref yr, .ref lg, .ref ha, .ref t1, .ref t2, .int (b2 h.1), .int h.2.1, .int (nI (hFs h)), .int h.2.2.2.1, .int h.2.2.2.2.1, .int h.2.2.2.2.2]]) :=
  Ct.ofA (own := RX10) (by decide) rfl (Nat.le_of_ble_eq_true rfl) rfl (fun X hl hD hX hR => by subst hl; subst hD; exact wk_cost1N hX hy fb tp pa ju pl yr lg ha t1 t2 h sl dd p q hs hb hR)
set_option maxHeartbeats 1000000 in
set_option maxRecDepth 100000 in
theorem wk_whyNN {X : Cx} (hX : Ok X cX10_why 6 RX10 5) (hy fb tp pa ju pl yr lg ha t1 t2 : Nat) (h : HS) (sl dd p q : Int32) (hs : ¬ sl = 0) (hs1 : ¬ sl = 1) (hR : Rt X (some FieldType.int) (fun r es' => r = some (.int (-1)) ∧ es' = [ob 10 [.ref fb, .ref tp, .ref pa, .ref ju, .ref pl, .ref yr, .ref lg, .ref ha, .ref t1, .ref t2, .int (b2 h.1), .int h.2.1, .int (nI (hFs h)), .int h.2.2.2.1, .int h.2.2.2.2.1, .int h.2.2.2.2.2]]) [hy]) : Aw X [hy] [ob 10 [.ref fb, .ref tp, .ref pa, .ref ju, .ref pl, .ref yr, .ref lg, .ref ha, .ref t1, .ref t2, .int (b2 h.1), .int h.2.1, .int (nI (hFs h)), .int h.2.2.2.1, .int h.2.2.2.2.1, .int h.2.2.2.2.2]] 0 [(0, .ref hy), (1, .int sl), (2, .int dd), (3, .int p), (4, .int q)] [] := by
  refine r_aload_n (n := 1) hX dX10_why_0 rfl rfl 0 rfl ?_
  refine r_iload_n (n := 2) hX dX10_why_1 rfl rfl 1 rfl ?_
  refine r_callV (n := 5) (av := [.int sl]) hX (ct_textOfN (CxL X) (CxD X) hy fb tp pa ju pl yr lg ha t1 t2 h sl hs hs1) ml_X10_99 cv_X10_textOf rfl (by decide) [0] rfl rfl (by decide) 0 rfl rfl rfl rfl rfl (Nat.le_of_ble_eq_true rfl) dX10_why_2 rfl (fun r_ es_ h_ l_ => ?_)
  obtain ⟨rfl, rfl⟩ := h_
  show Aw X [hy] [ob 10 [.ref fb, .ref tp, .ref pa, .ref ju, .ref pl, .ref yr, .ref lg, .ref ha, .ref t1, .ref t2, .int (b2 h.1), .int h.2.1, .int (nI (hFs h)), .int h.2.2.2.1, .int h.2.2.2.2.1, .int h.2.2.2.2.2]] 5 [(0, .ref hy), (1, .int sl), (2, .int dd), (3, .int p), (4, .int q)] [.null]
  refine r_astoreN (n := 7) hX [(0, .ref hy), (1, .int sl), (2, .int dd), (3, .int p), (4, .int q), (5, .null)] dX10_why_5 rfl (by decide) rfl ?_
  refine r_aloadN (n := 9) hX dX10_why_7 rfl 5 rfl ?_
  refine r_ifnullN (tgt := 36) hX dX10_why_9 (by decide) ?_
  refine r_iconst (n := 37) hX (-1) dX10_why_36 rfl rfl ?_
  exact r_ireturn hX hR dX10_why_37 ⟨rfl, rfl⟩
theorem ct_whyNN (l : Launch) (D : va_G) (hy fb tp pa ju pl yr lg ha t1 t2 : Nat) (h : HS) (sl dd p q : Int32) (hs : ¬ sl = 0) (hs1 : ¬ sl = 1) : Ct l D m_X10_why 5 [.ref hy, .int sl, .int dd, .int p, .int q] [hy] [ob 10 [.ref fb, .ref tp, .ref pa, .ref ju, .ref pl, .ref yr, .ref lg, .ref ha, .ref t1, .ref t2, .int (b2 h.1), .int h.2.1, .int (nI (hFs h)), .int h.2.2.2.1, .int h.2.2.2.2.1, .int h.2.2.2.2.2]] (fun r es' => r = some (.int (-1)) ∧ es' = [ob 10 [.ref fb, .ref tp, .ref pa, .ref ju, .ref pl, .ref yr, .ref lg, .ref ha, .ref t1, .ref t2, .int (b2 h.1), .int h.2.1, .int (nI (hFs h)), .int h.2.2.2.1, .int h.2.2.2.2.1, .int h.2.2.2.2.2]]) :=
  Ct.ofA (own := RX10) (by decide) rfl (Nat.le_of_ble_eq_true rfl) rfl (fun X hl hD hX hR => by subst hl; subst hD; exact wk_whyNN hX hy fb tp pa ju pl yr lg ha t1 t2 h sl dd p q hs hs1 hR)
set_option maxHeartbeats 1000000 in
set_option maxRecDepth 100000 in
theorem wk_costNN {X : Cx} (hX : Ok X cX10_cost 6 RX10 6) (hy fb tp pa ju pl yr lg ha t1 t2 : Nat) (h : HS) (sl dd p q : Int32) (hs : ¬ sl = 0) (hs1 : ¬ sl = 1) (hR : Rt X (some FieldType.int) (fun r es' => r = some (.int (-1)) ∧ es' = [ob 10 [.ref fb, .ref tp, .ref pa, .ref ju, .ref pl, .ref yr, .ref lg, .ref ha, .ref t1, .ref t2, .int (b2 h.1), .int h.2.1, .int (nI (hFs h)), .int h.2.2.2.1, .int h.2.2.2.2.1, .int h.2.2.2.2.2]]) [hy]) : Aw X [hy] [ob 10 [.ref fb, .ref tp, .ref pa, .ref ju, .ref pl, .ref yr, .ref lg, .ref ha, .ref t1, .ref t2, .int (b2 h.1), .int h.2.1, .int (nI (hFs h)), .int h.2.2.2.1, .int h.2.2.2.2.1, .int h.2.2.2.2.2]] 0 [(0, .ref hy), (1, .int sl), (2, .int dd), (3, .int p), (4, .int q)] [] := by
  refine r_aload_n (n := 1) hX dX10_cost_0 rfl rfl 0 rfl ?_
  refine r_iload_n (n := 2) hX dX10_cost_1 rfl rfl 1 rfl ?_
  refine r_callV (n := 5) (av := [.int sl]) hX (ct_textOfN (CxL X) (CxD X) hy fb tp pa ju pl yr lg ha t1 t2 h sl hs hs1) ml_X10_99 cv_X10_textOf rfl (by decide) [0] rfl rfl (by decide) 0 rfl rfl rfl rfl rfl (Nat.le_of_ble_eq_true rfl) dX10_cost_2 rfl (fun r_ es_ h_ l_ => ?_)
  obtain ⟨rfl, rfl⟩ := h_
  show Aw X [hy] [ob 10 [.ref fb, .ref tp, .ref pa, .ref ju, .ref pl, .ref yr, .ref lg, .ref ha, .ref t1, .ref t2, .int (b2 h.1), .int h.2.1, .int (nI (hFs h)), .int h.2.2.2.1, .int h.2.2.2.2.1, .int h.2.2.2.2.2]] 5 [(0, .ref hy), (1, .int sl), (2, .int dd), (3, .int p), (4, .int q)] [.null]
  refine r_astoreN (n := 7) hX [(0, .ref hy), (1, .int sl), (2, .int dd), (3, .int p), (4, .int q), (5, .null)] dX10_cost_5 rfl (by decide) rfl ?_
  refine r_aloadN (n := 9) hX dX10_cost_7 rfl 5 rfl ?_
  refine r_ifnullN (tgt := 36) hX dX10_cost_9 (by decide) ?_
  refine r_iconst (n := 37) hX (-1) dX10_cost_36 rfl rfl ?_
  exact r_ireturn hX hR dX10_cost_37 ⟨rfl, rfl⟩
theorem ct_costNN (l : Launch) (D : va_G) (hy fb tp pa ju pl yr lg ha t1 t2 : Nat) (h : HS) (sl dd p q : Int32) (hs : ¬ sl = 0) (hs1 : ¬ sl = 1) : Ct l D m_X10_cost 6 [.ref hy, .int sl, .int dd, .int p, .int q] [hy] [ob 10 [.ref fb, .ref tp, .ref pa, .ref ju, .ref pl, .ref yr, .ref lg, .ref ha, .ref t1, .ref t2, .int (b2 h.1), .int h.2.1, .int (nI (hFs h)), .int h.2.2.2.1, .int h.2.2.2.2.1, .int h.2.2.2.2.2]] (fun r es' => r = some (.int (-1)) ∧ es' = [ob 10 [.ref fb, .ref tp, .ref pa, .ref ju, .ref pl, .ref yr, .ref lg, .ref ha, .ref t1, .ref t2, .int (b2 h.1), .int h.2.1, .int (nI (hFs h)), .int h.2.2.2.1, .int h.2.2.2.2.1, .int h.2.2.2.2.2]]) :=
  Ct.ofA (own := RX10) (by decide) rfl (Nat.le_of_ble_eq_true rfl) rfl (fun X hl hD hX hR => by subst hl; subst hD; exact wk_costNN hX hy fb tp pa ju pl yr lg ha t1 t2 h sl dd p q hs hs1 hR)
