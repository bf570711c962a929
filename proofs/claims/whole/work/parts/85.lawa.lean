/-! the calls -/
set_option maxHeartbeats 4000000 in
set_option maxRecDepth 100000 in
theorem law_feed {X : Cx} {b : Nat → Nat} {mo : Nat} {a : Nat → Nat} {sc Ln i N : Nat} {xs : Nat → Int32} (hX : Ok X cL_law 4 RL 36) (hsc : Sc X sc Ln xs) (hL : Ln ≤ 3072) (hi : i + 6 ≤ Ln) (hN : N < 1000000) (kk : ∀ (b' : Nat → Nat) (h : HS) (fb : FB) (tp : TP) (z : PZ) (tk : TK) (jv : Nat → Int32) (jk : Nat → Int32) (pl : PL) (mt : MT) (yr : YR) (lg : LG) (ha : Nat → Option Nat) (x1 : TX) (x2 : TX) (tn : Nat) (fm : Nat) (fn : Nat) (mv : Nat) (fp : Int32) (ck : Int32) (te : Int32) (yn : Int32) (rc : Int32) (hp : Bool) (ir : Bool) (lgm : LG) (tr : Nat) (bg : Nat) (en : Nat) (tkk : Nat) (op : Nat) (wn : Nat) (jn : Nat) (cq : Nat) (cm : Nat) (fk : Int32) (kd : Int32) (mk : Int32) (le : Int64) (ke : Bool) (tpm : Nat → Int32) (t : MR) (og : Nat → Nat) (nm : Nat → Int64) (mf : MF) (hm : Nat → Option Nat) (io : Nat → Bool) (rh : Nat → Option Nat) (mn : Nat → Nat) (wt : Nat → Int32) (jt : Nat → Int32) (nw : Nat → Int32) (pil : Nat → Int32) (my : MY) (ai : Nat → Option Nat) (L : Nat → Nat) (tl : Nat → Option Nat) (ch : Nat → Option Nat), b' 0 = b 0 → SR (N + 1) h fb tp z tk jv jk pl mt yr lg ha x1 x2 tn fm fn mv fp ck te yn rc hp ir lgm tr bg en tkk op wn jn cq cm fk kd mk le ke tpm t og nm mf hm io rh mn wt jt nw pil my ai L tl ch → Aw X (KS b' mo a) (EW (CxD X) b' mo a h fb tp z tk jv jk pl mt yr lg ha x1 x2 tn fm fn mv fp ck te yn rc hp ir lgm tr bg en tkk op wn jn cq cm fk kd mk le ke tpm t og nm mf hm io rh mn wt jt nw pil my ai L tl ch) 735 [(0, .ref sc), (1, .ref (b 0)), (2, .ref mo), (3, .int (nI i))] []) (h : HS) (fb : FB) (tp : TP) (z : PZ) (tk : TK) (jv : Nat → Int32) (jk : Nat → Int32) (pl : PL) (mt : MT) (yr : YR) (lg : LG) (ha : Nat → Option Nat) (x1 : TX) (x2 : TX) (tn : Nat) (fm : Nat) (fn : Nat) (mv : Nat) (fp : Int32) (ck : Int32) (te : Int32) (yn : Int32) (rc : Int32) (hp : Bool) (ir : Bool) (lgm : LG) (tr : Nat) (bg : Nat) (en : Nat) (tkk : Nat) (op : Nat) (wn : Nat) (jn : Nat) (cq : Nat) (cm : Nat) (fk : Int32) (kd : Int32) (mk : Int32) (le : Int64) (ke : Bool) (tpm : Nat → Int32) (t : MR) (og : Nat → Nat) (nm : Nat → Int64) (mf : MF) (hm : Nat → Option Nat) (io : Nat → Bool) (rh : Nat → Option Nat) (mn : Nat → Nat) (wt : Nat → Int32) (jt : Nat → Int32) (nw : Nat → Int32) (pil : Nat → Int32) (my : MY) (ai : Nat → Option Nat) (L : Nat → Nat) (tl : Nat → Option Nat) (ch : Nat → Option Nat) (hR : SR N h fb tp z tk jv jk pl mt yr lg ha x1 x2 tn fm fn mv fp ck te yn rc hp ir lgm tr bg en tkk op wn jn cq cm fk kd mk le ke tpm t og nm mf hm io rh mn wt jt nw pil my ai L tl ch) : Aw X (KS b mo a) (EW (CxD X) b mo a h fb tp z tk jv jk pl mt yr lg ha x1 x2 tn fm fn mv fp ck te yn rc hp ir lgm tr bg en tkk op wn jn cq cm fk kd mk le ke tpm t og nm mf hm io rh mn wt jt nw pil my ai L tl ch) 132 [(0, .ref sc), (1, .ref (b 0)), (2, .ref mo), (3, .int (nI i))] [] := by
  obtain ⟨⟨rfl, rfl, rfl, rfl, rfl, rfl, rfl, rfl, rfl, rfl, rfl, rfl⟩, ⟨hTp, hFc, hT1, hT2⟩, ⟨hW1, hW2, hWz⟩, ⟨hPlI, hMt, hn⟩, ⟨hHa, hHm, hIo, hFn⟩, ⟨hMv, hMn⟩, hDb, ⟨oHa, oRh, hMy, oAi⟩, hLs, oTl, oCh, zHa, hBg⟩ := hR
  obtain ⟨f1, f2, f3⟩ := feed_eq hTp (xs (i + 1)) (xs (i + 2)) (xs (i + 3)) (xs (i + 4)) (xs (i + 5))
  refine r_aload_n (n := 133) hX dL_law_132 rfl rfl 1 rfl ?_
  refine r_aload_n (n := 134) hX dL_law_133 rfl rfl 0 rfl ?_
  refine r_iload_n (n := 135) hX dL_law_134 rfl rfl 3 rfl ?_
  refine r_iconst (n := 136) hX 1 dL_law_135 rfl rfl ?_
  refine r_iadd (n := 137) hX dL_law_136 rfl ?_
  refine Aw.topi (nI (i + 1)) (nI_add _ _) ?_
  refine r_sld (n := 138) (i := i + 1) hX hsc (by omega) hL dL_law_137 rfl ?_
  refine r_aload_n (n := 139) hX dL_law_138 rfl rfl 0 rfl ?_
  refine r_iload_n (n := 140) hX dL_law_139 rfl rfl 3 rfl ?_
  refine r_iconst (n := 141) hX 2 dL_law_140 rfl rfl ?_
  refine r_iadd (n := 142) hX dL_law_141 rfl ?_
  refine Aw.topi (nI (i + 2)) (nI_add _ _) ?_
  refine r_sld (n := 143) (i := i + 2) hX hsc (by omega) hL dL_law_142 rfl ?_
  refine r_aload_n (n := 144) hX dL_law_143 rfl rfl 0 rfl ?_
  refine r_iload_n (n := 145) hX dL_law_144 rfl rfl 3 rfl ?_
  refine r_iconst (n := 146) hX 3 dL_law_145 rfl rfl ?_
  refine r_iadd (n := 147) hX dL_law_146 rfl ?_
  refine Aw.topi (nI (i + 3)) (nI_add _ _) ?_
  refine r_sld (n := 148) (i := i + 3) hX hsc (by omega) hL dL_law_147 rfl ?_
  refine r_aload_n (n := 149) hX dL_law_148 rfl rfl 0 rfl ?_
  refine r_iload_n (n := 150) hX dL_law_149 rfl rfl 3 rfl ?_
  refine r_iconst (n := 151) hX 4 dL_law_150 rfl rfl ?_
  refine r_iadd (n := 152) hX dL_law_151 rfl ?_
  refine Aw.topi (nI (i + 4)) (nI_add _ _) ?_
  refine r_sld (n := 153) (i := i + 4) hX hsc (by omega) hL dL_law_152 rfl ?_
  refine r_aload_n (n := 154) hX dL_law_153 rfl rfl 0 rfl ?_
  refine r_iload_n (n := 155) hX dL_law_154 rfl rfl 3 rfl ?_
  refine r_iconst (n := 156) hX 5 dL_law_155 rfl rfl ?_
  refine r_iadd (n := 157) hX dL_law_156 rfl ?_
  refine Aw.topi (nI (i + 5)) (nI_add _ _) ?_
  refine r_sld (n := 158) (i := i + 5) hX hsc (by omega) hL dL_law_157 rfl ?_
  refine r_callV (n := 161) (av := [.int (xs (i + 1)), .int (xs (i + 2)), .int (xs (i + 3)), .int (xs (i + 4)), .int (xs (i + 5))]) hX (ct_X10_feed (CxL X) (CxD X) (b 0) (b 1) (b 5) (b 7) (b 19) (b 22) (b 37) (b 41) (b 45) (b 46) (b 53) (b 6) h tp (xs (i + 1)) (xs (i + 2)) (xs (i + 3)) (xs (i + 4)) (xs (i + 5)) hTp.2.1) ml_L_13 cv_X10_feed rfl (by decide) [0, 5, 6] rfl rfl (by decide) 0 rfl rfl rfl rfl rfl (Nat.le_of_ble_eq_true rfl) dL_law_158 rfl (fun r_ es_ h_ l_ => ?_)
  obtain ⟨rfl, rfl⟩ := h_
  refine Aw.esq (pw_0 : putAt (EW (CxD X) b mo a h fb tp z tk jv jk pl mt yr lg ha x1 x2 tp.2 (hFs h) fb.2.2.2 yr.2.2.2.1 (zFaultP z) h.2.2.2.1 h.2.2.2.2.1 h.2.2.2.2.2 h.2.1 yr.2.2.2.2 h.1 lg tr bg en tkk op wn jn cq cm fk kd mk le ke tpm t og nm mf hm io rh mn wt jt nw pil my ai L tl ch) [0, 5, 6] _ = EW (CxD X) b mo a h fb (if tp.2 + 20 ≤ 3000 then hFeed tp (xs (i + 1)) (xs (i + 2)) (xs (i + 3)) (xs (i + 4)) (xs (i + 5)) else tp) z tk jv jk pl mt yr lg ha x1 x2 tp.2 (hFs h) fb.2.2.2 yr.2.2.2.1 (zFaultP z) h.2.2.2.1 h.2.2.2.2.1 h.2.2.2.2.2 h.2.1 yr.2.2.2.2 h.1 lg tr bg en tkk op wn jn cq cm fk kd mk le ke tpm t og nm mf hm io rh mn wt jt nw pil my ai L tl ch) ?_
  show Aw X (KS b mo a) (EW (CxD X) b mo a h fb (if tp.2 + 20 ≤ 3000 then hFeed tp (xs (i + 1)) (xs (i + 2)) (xs (i + 3)) (xs (i + 4)) (xs (i + 5)) else tp) z tk jv jk pl mt yr lg ha x1 x2 tp.2 (hFs h) fb.2.2.2 yr.2.2.2.1 (zFaultP z) h.2.2.2.1 h.2.2.2.2.1 h.2.2.2.2.2 h.2.1 yr.2.2.2.2 h.1 lg tr bg en tkk op wn jn cq cm fk kd mk le ke tpm t og nm mf hm io rh mn wt jt nw pil my ai L tl ch) 161 [(0, .ref sc), (1, .ref (b 0)), (2, .ref mo), (3, .int (nI i))] [.int (if tp.2 + 20 ≤ 3000 then nI (hFeed tp (xs (i + 1)) (xs (i + 2)) (xs (i + 3)) (xs (i + 4)) (xs (i + 5))).2 else -1)]
  refine r_aload_n (n := 162) hX dL_law_161 rfl rfl 2 rfl ?_
  refine r_aload_n (n := 163) hX dL_law_162 rfl rfl 0 rfl ?_
  refine r_iload_n (n := 164) hX dL_law_163 rfl rfl 3 rfl ?_
  refine r_iconst (n := 165) hX 1 dL_law_164 rfl rfl ?_
  refine r_iadd (n := 166) hX dL_law_165 rfl ?_
  refine Aw.topi (nI (i + 1)) (nI_add _ _) ?_
  refine r_sld (n := 167) (i := i + 1) hX hsc (by omega) hL dL_law_166 rfl ?_
  refine r_aload_n (n := 168) hX dL_law_167 rfl rfl 0 rfl ?_
  refine r_iload_n (n := 169) hX dL_law_168 rfl rfl 3 rfl ?_
  refine r_iconst (n := 170) hX 2 dL_law_169 rfl rfl ?_
  refine r_iadd (n := 171) hX dL_law_170 rfl ?_
  refine Aw.topi (nI (i + 2)) (nI_add _ _) ?_
  refine r_sld (n := 172) (i := i + 2) hX hsc (by omega) hL dL_law_171 rfl ?_
  refine r_aload_n (n := 173) hX dL_law_172 rfl rfl 0 rfl ?_
  refine r_iload_n (n := 174) hX dL_law_173 rfl rfl 3 rfl ?_
  refine r_iconst (n := 175) hX 3 dL_law_174 rfl rfl ?_
  refine r_iadd (n := 176) hX dL_law_175 rfl ?_
  refine Aw.topi (nI (i + 3)) (nI_add _ _) ?_
  refine r_sld (n := 177) (i := i + 3) hX hsc (by omega) hL dL_law_176 rfl ?_
  refine r_aload_n (n := 178) hX dL_law_177 rfl rfl 0 rfl ?_
  refine r_iload_n (n := 179) hX dL_law_178 rfl rfl 3 rfl ?_
  refine r_iconst (n := 180) hX 4 dL_law_179 rfl rfl ?_
  refine r_iadd (n := 181) hX dL_law_180 rfl ?_
  refine Aw.topi (nI (i + 4)) (nI_add _ _) ?_
  refine r_sld (n := 182) (i := i + 4) hX hsc (by omega) hL dL_law_181 rfl ?_
  refine r_aload_n (n := 183) hX dL_law_182 rfl rfl 0 rfl ?_
  refine r_iload_n (n := 184) hX dL_law_183 rfl rfl 3 rfl ?_
  refine r_iconst (n := 185) hX 5 dL_law_184 rfl rfl ?_
  refine r_iadd (n := 186) hX dL_law_185 rfl ?_
  refine Aw.topi (nI (i + 5)) (nI_add _ _) ?_
  refine r_sld (n := 187) (i := i + 5) hX hsc (by omega) hL dL_law_186 rfl ?_
  refine r_callV (n := 190) (av := [.int (xs (i + 1)), .int (xs (i + 2)), .int (xs (i + 3)), .int (xs (i + 4)), .int (xs (i + 5))]) hX (ct_X11_feed (CxL X) (CxD X) mo a tr (hFs h) fb.2.2.2 yr.2.2.2.1 bg en tkk op wn jn cq cm fk (zFaultP z) h.2.2.2.1 h.2.2.2.2.1 h.2.2.2.2.2 h.2.1 kd mk le yr.2.2.2.2 h.1 ke (tpm, tp.2) (xs (i + 1)) (xs (i + 2)) (xs (i + 3)) (xs (i + 4)) (xs (i + 5)) hTp.2.1) ml_L_17 cv_X11_feed rfl (by decide) [60, 61] rfl rfl (by decide) 60 rfl rfl rfl rfl rfl (Nat.le_of_ble_eq_true rfl) dL_law_187 rfl (fun r_ es_ h_ l_ => ?_)
  obtain ⟨rfl, rfl⟩ := h_
  refine Aw.esq (pw_1 : putAt (EW (CxD X) b mo a h fb (if tp.2 + 20 ≤ 3000 then hFeed tp (xs (i + 1)) (xs (i + 2)) (xs (i + 3)) (xs (i + 4)) (xs (i + 5)) else tp) z tk jv jk pl mt yr lg ha x1 x2 tp.2 (hFs h) fb.2.2.2 yr.2.2.2.1 (zFaultP z) h.2.2.2.1 h.2.2.2.2.1 h.2.2.2.2.2 h.2.1 yr.2.2.2.2 h.1 lg tr bg en tkk op wn jn cq cm fk kd mk le ke tpm t og nm mf hm io rh mn wt jt nw pil my ai L tl ch) [60, 61] _ = EW (CxD X) b mo a h fb (if tp.2 + 20 ≤ 3000 then hFeed tp (xs (i + 1)) (xs (i + 2)) (xs (i + 3)) (xs (i + 4)) (xs (i + 5)) else tp) z tk jv jk pl mt yr lg ha x1 x2 (if (tpm, tp.2).2 + 20 ≤ 3000 then mFeed (tpm, tp.2) (xs (i + 1)) (xs (i + 2)) (xs (i + 3)) (xs (i + 4)) (xs (i + 5)) else (tpm, tp.2)).2 (hFs h) fb.2.2.2 yr.2.2.2.1 (zFaultP z) h.2.2.2.1 h.2.2.2.2.1 h.2.2.2.2.2 h.2.1 yr.2.2.2.2 h.1 lg tr bg en tkk op wn jn cq cm fk kd mk le ke (if (tpm, tp.2).2 + 20 ≤ 3000 then mFeed (tpm, tp.2) (xs (i + 1)) (xs (i + 2)) (xs (i + 3)) (xs (i + 4)) (xs (i + 5)) else (tpm, tp.2)).1 t og nm mf hm io rh mn wt jt nw pil my ai L tl ch) ?_
  show Aw X (KS b mo a) (EW (CxD X) b mo a h fb (if tp.2 + 20 ≤ 3000 then hFeed tp (xs (i + 1)) (xs (i + 2)) (xs (i + 3)) (xs (i + 4)) (xs (i + 5)) else tp) z tk jv jk pl mt yr lg ha x1 x2 (if (tpm, tp.2).2 + 20 ≤ 3000 then mFeed (tpm, tp.2) (xs (i + 1)) (xs (i + 2)) (xs (i + 3)) (xs (i + 4)) (xs (i + 5)) else (tpm, tp.2)).2 (hFs h) fb.2.2.2 yr.2.2.2.1 (zFaultP z) h.2.2.2.1 h.2.2.2.2.1 h.2.2.2.2.2 h.2.1 yr.2.2.2.2 h.1 lg tr bg en tkk op wn jn cq cm fk kd mk le ke (if (tpm, tp.2).2 + 20 ≤ 3000 then mFeed (tpm, tp.2) (xs (i + 1)) (xs (i + 2)) (xs (i + 3)) (xs (i + 4)) (xs (i + 5)) else (tpm, tp.2)).1 t og nm mf hm io rh mn wt jt nw pil my ai L tl ch) 190 [(0, .ref sc), (1, .ref (b 0)), (2, .ref mo), (3, .int (nI i))] [.int (if (tpm, tp.2).2 + 20 ≤ 3000 then nI (mFeed (tpm, tp.2) (xs (i + 1)) (xs (i + 2)) (xs (i + 3)) (xs (i + 4)) (xs (i + 5))).2 else -1), .int (if tp.2 + 20 ≤ 3000 then nI (hFeed tp (xs (i + 1)) (xs (i + 2)) (xs (i + 3)) (xs (i + 4)) (xs (i + 5))).2 else -1)]
  refine r_icmp_eq (tgt := 735) (n := 193) hX dL_law_190 (by decide) rfl (fun _ => ?_) (fun hne => absurd (f1) hne)
  exact kk b h fb (if tp.2 + 20 ≤ 3000 then hFeed tp (xs (i + 1)) (xs (i + 2)) (xs (i + 3)) (xs (i + 4)) (xs (i + 5)) else tp) z tk jv jk pl mt yr lg ha x1 x2 (if (tpm, tp.2).2 + 20 ≤ 3000 then mFeed (tpm, tp.2) (xs (i + 1)) (xs (i + 2)) (xs (i + 3)) (xs (i + 4)) (xs (i + 5)) else (tpm, tp.2)).2 (hFs h) fb.2.2.2 yr.2.2.2.1 (zFaultP z) h.2.2.2.1 h.2.2.2.2.1 h.2.2.2.2.2 h.2.1 yr.2.2.2.2 h.1 lg tr bg en tkk op wn jn cq cm fk kd mk le ke (if (tpm, tp.2).2 + 20 ≤ 3000 then mFeed (tpm, tp.2) (xs (i + 1)) (xs (i + 2)) (xs (i + 3)) (xs (i + 4)) (xs (i + 5)) else (tpm, tp.2)).1 t og nm mf hm io rh mn wt jt nw pil my ai L tl ch rfl ⟨⟨f2, rfl, rfl, rfl, rfl, rfl, rfl, rfl, rfl, rfl, rfl, rfl⟩, ⟨f3, hFc, hT1, hT2⟩, ⟨hW1, hW2, hWz⟩, ⟨hPlI, hMt, hn⟩, ⟨hHa, hHm, hIo, hFn⟩, ⟨hMv, hMn⟩, (hDb.more (Nat.le_succ _)), ⟨oHa, oRh, hMy, oAi⟩, hLs, oTl, oCh, zHa, hBg⟩
set_option maxHeartbeats 4000000 in
set_option maxRecDepth 100000 in
theorem law_back {X : Cx} {b : Nat → Nat} {mo : Nat} {a : Nat → Nat} {sc Ln i N : Nat} {xs : Nat → Int32} (hX : Ok X cL_law 4 RL 36) (hsc : Sc X sc Ln xs) (hL : Ln ≤ 3072) (hi : i + 6 ≤ Ln) (hN : N < 1000000) (kk : ∀ (b' : Nat → Nat) (h : HS) (fb : FB) (tp : TP) (z : PZ) (tk : TK) (jv : Nat → Int32) (jk : Nat → Int32) (pl : PL) (mt : MT) (yr : YR) (lg : LG) (ha : Nat → Option Nat) (x1 : TX) (x2 : TX) (tn : Nat) (fm : Nat) (fn : Nat) (mv : Nat) (fp : Int32) (ck : Int32) (te : Int32) (yn : Int32) (rc : Int32) (hp : Bool) (ir : Bool) (lgm : LG) (tr : Nat) (bg : Nat) (en : Nat) (tkk : Nat) (op : Nat) (wn : Nat) (jn : Nat) (cq : Nat) (cm : Nat) (fk : Int32) (kd : Int32) (mk : Int32) (le : Int64) (ke : Bool) (tpm : Nat → Int32) (t : MR) (og : Nat → Nat) (nm : Nat → Int64) (mf : MF) (hm : Nat → Option Nat) (io : Nat → Bool) (rh : Nat → Option Nat) (mn : Nat → Nat) (wt : Nat → Int32) (jt : Nat → Int32) (nw : Nat → Int32) (pil : Nat → Int32) (my : MY) (ai : Nat → Option Nat) (L : Nat → Nat) (tl : Nat → Option Nat) (ch : Nat → Option Nat), b' 0 = b 0 → SR (N + 1) h fb tp z tk jv jk pl mt yr lg ha x1 x2 tn fm fn mv fp ck te yn rc hp ir lgm tr bg en tkk op wn jn cq cm fk kd mk le ke tpm t og nm mf hm io rh mn wt jt nw pil my ai L tl ch → Aw X (KS b' mo a) (EW (CxD X) b' mo a h fb tp z tk jv jk pl mt yr lg ha x1 x2 tn fm fn mv fp ck te yn rc hp ir lgm tr bg en tkk op wn jn cq cm fk kd mk le ke tpm t og nm mf hm io rh mn wt jt nw pil my ai L tl ch) 735 [(0, .ref sc), (1, .ref (b 0)), (2, .ref mo), (3, .int (nI i))] []) (h : HS) (fb : FB) (tp : TP) (z : PZ) (tk : TK) (jv : Nat → Int32) (jk : Nat → Int32) (pl : PL) (mt : MT) (yr : YR) (lg : LG) (ha : Nat → Option Nat) (x1 : TX) (x2 : TX) (tn : Nat) (fm : Nat) (fn : Nat) (mv : Nat) (fp : Int32) (ck : Int32) (te : Int32) (yn : Int32) (rc : Int32) (hp : Bool) (ir : Bool) (lgm : LG) (tr : Nat) (bg : Nat) (en : Nat) (tkk : Nat) (op : Nat) (wn : Nat) (jn : Nat) (cq : Nat) (cm : Nat) (fk : Int32) (kd : Int32) (mk : Int32) (le : Int64) (ke : Bool) (tpm : Nat → Int32) (t : MR) (og : Nat → Nat) (nm : Nat → Int64) (mf : MF) (hm : Nat → Option Nat) (io : Nat → Bool) (rh : Nat → Option Nat) (mn : Nat → Nat) (wt : Nat → Int32) (jt : Nat → Int32) (nw : Nat → Int32) (pil : Nat → Int32) (my : MY) (ai : Nat → Option Nat) (L : Nat → Nat) (tl : Nat → Option Nat) (ch : Nat → Option Nat) (hR : SR N h fb tp z tk jv jk pl mt yr lg ha x1 x2 tn fm fn mv fp ck te yn rc hp ir lgm tr bg en tkk op wn jn cq cm fk kd mk le ke tpm t og nm mf hm io rh mn wt jt nw pil my ai L tl ch) : Aw X (KS b mo a) (EW (CxD X) b mo a h fb tp z tk jv jk pl mt yr lg ha x1 x2 tn fm fn mv fp ck te yn rc hp ir lgm tr bg en tkk op wn jn cq cm fk kd mk le ke tpm t og nm mf hm io rh mn wt jt nw pil my ai L tl ch) 195 [(0, .ref sc), (1, .ref (b 0)), (2, .ref mo), (3, .int (nI i))] [] := by
  obtain ⟨⟨rfl, rfl, rfl, rfl, rfl, rfl, rfl, rfl, rfl, rfl, rfl, rfl⟩, ⟨hTp, hFc, hT1, hT2⟩, ⟨hW1, hW2, hWz⟩, ⟨hPlI, hMt, hn⟩, ⟨hHa, hHm, hIo, hFn⟩, ⟨hMv, hMn⟩, hDb, ⟨oHa, oRh, hMy, oAi⟩, hLs, oTl, oCh, zHa, hBg⟩ := hR
  rcases ix_cases (xs (i + 1)) with hw | ⟨n, hn1, hw⟩
  · skip
    refine r_aload_n (n := 196) hX dL_law_195 rfl rfl 1 rfl ?_
    refine r_aload_n (n := 197) hX dL_law_196 rfl rfl 0 rfl ?_
    refine r_iload_n (n := 198) hX dL_law_197 rfl rfl 3 rfl ?_
    refine r_iconst (n := 199) hX 1 dL_law_198 rfl rfl ?_
    refine r_iadd (n := 200) hX dL_law_199 rfl ?_
    refine Aw.topi (nI (i + 1)) (nI_add _ _) ?_
    refine r_sld (n := 201) (i := i + 1) hX hsc (by omega) hL dL_law_200 rfl ?_
    refine r_callV (n := 204) (av := [.int (xs (i + 1))]) hX (ct_backNeg (CxL X) (CxD X) (b 0) (b 1) (b 5) (b 7) (b 19) (b 22) (b 37) (b 41) (b 45) (b 46) (b 53) h (xs (i + 1)) hw) ml_L_18 cv_X10_back rfl (by decide) [0] rfl rfl (by decide) 0 rfl rfl rfl rfl rfl (Nat.le_of_ble_eq_true rfl) dL_law_201 rfl (fun r_ es_ h_ l_ => ?_)
    obtain ⟨rfl, rfl⟩ := h_
    refine Aw.esq (pw_2 : putAt (EW (CxD X) b mo a h fb tp z tk jv jk pl mt yr lg ha x1 x2 tp.2 (hFs h) fb.2.2.2 yr.2.2.2.1 (zFaultP z) h.2.2.2.1 h.2.2.2.2.1 h.2.2.2.2.2 h.2.1 yr.2.2.2.2 h.1 lg tr bg en tkk op wn jn cq cm fk kd mk le ke tpm t og nm mf hm io rh mn wt jt nw pil my ai L tl ch) [0] _ = EW (CxD X) b mo a h fb tp z tk jv jk pl mt yr lg ha x1 x2 tp.2 (hFs h) fb.2.2.2 yr.2.2.2.1 (zFaultP z) h.2.2.2.1 h.2.2.2.2.1 h.2.2.2.2.2 h.2.1 yr.2.2.2.2 h.1 lg tr bg en tkk op wn jn cq cm fk kd mk le ke tpm t og nm mf hm io rh mn wt jt nw pil my ai L tl ch) ?_
    show Aw X (KS b mo a) (EW (CxD X) b mo a h fb tp z tk jv jk pl mt yr lg ha x1 x2 tp.2 (hFs h) fb.2.2.2 yr.2.2.2.1 (zFaultP z) h.2.2.2.1 h.2.2.2.2.1 h.2.2.2.2.2 h.2.1 yr.2.2.2.2 h.1 lg tr bg en tkk op wn jn cq cm fk kd mk le ke tpm t og nm mf hm io rh mn wt jt nw pil my ai L tl ch) 204 [(0, .ref sc), (1, .ref (b 0)), (2, .ref mo), (3, .int (nI i))] [.int (-1)]
    refine r_aload_n (n := 205) hX dL_law_204 rfl rfl 2 rfl ?_
    refine r_aload_n (n := 206) hX dL_law_205 rfl rfl 0 rfl ?_
    refine r_iload_n (n := 207) hX dL_law_206 rfl rfl 3 rfl ?_
    refine r_iconst (n := 208) hX 1 dL_law_207 rfl rfl ?_
    refine r_iadd (n := 209) hX dL_law_208 rfl ?_
    refine Aw.topi (nI (i + 1)) (nI_add _ _) ?_
    refine r_sld (n := 210) (i := i + 1) hX hsc (by omega) hL dL_law_209 rfl ?_
    refine r_callV (n := 213) (av := [.int (xs (i + 1))]) hX (ct_mBackNeg (CxL X) (CxD X) mo a tp.2 tr (hFs h) fb.2.2.2 yr.2.2.2.1 bg en tkk op wn jn cq cm fk (zFaultP z) h.2.2.2.1 h.2.2.2.2.1 h.2.2.2.2.2 h.2.1 kd mk le yr.2.2.2.2 h.1 ke (xs (i + 1)) hw) ml_L_22 cv_X11_back rfl (by decide) [60] rfl rfl (by decide) 60 rfl rfl rfl rfl rfl (Nat.le_of_ble_eq_true rfl) dL_law_210 rfl (fun r_ es_ h_ l_ => ?_)
    obtain ⟨rfl, rfl⟩ := h_
    refine Aw.esq (pw_3 : putAt (EW (CxD X) b mo a h fb tp z tk jv jk pl mt yr lg ha x1 x2 tp.2 (hFs h) fb.2.2.2 yr.2.2.2.1 (zFaultP z) h.2.2.2.1 h.2.2.2.2.1 h.2.2.2.2.2 h.2.1 yr.2.2.2.2 h.1 lg tr bg en tkk op wn jn cq cm fk kd mk le ke tpm t og nm mf hm io rh mn wt jt nw pil my ai L tl ch) [60] _ = EW (CxD X) b mo a h fb tp z tk jv jk pl mt yr lg ha x1 x2 tp.2 (hFs h) fb.2.2.2 yr.2.2.2.1 (zFaultP z) h.2.2.2.1 h.2.2.2.2.1 h.2.2.2.2.2 h.2.1 yr.2.2.2.2 h.1 lg tr bg en tkk op wn jn cq cm fk kd mk le ke tpm t og nm mf hm io rh mn wt jt nw pil my ai L tl ch) ?_
    show Aw X (KS b mo a) (EW (CxD X) b mo a h fb tp z tk jv jk pl mt yr lg ha x1 x2 tp.2 (hFs h) fb.2.2.2 yr.2.2.2.1 (zFaultP z) h.2.2.2.1 h.2.2.2.2.1 h.2.2.2.2.2 h.2.1 yr.2.2.2.2 h.1 lg tr bg en tkk op wn jn cq cm fk kd mk le ke tpm t og nm mf hm io rh mn wt jt nw pil my ai L tl ch) 213 [(0, .ref sc), (1, .ref (b 0)), (2, .ref mo), (3, .int (nI i))] [.int (-1), .int (-1)]
    refine r_icmp_eq (tgt := 735) (n := 216) hX dL_law_213 (by decide) rfl (fun _ => ?_) (fun hne => absurd (rfl) hne)
    exact kk b h fb tp z tk jv jk pl mt yr lg ha x1 x2 tp.2 (hFs h) fb.2.2.2 yr.2.2.2.1 (zFaultP z) h.2.2.2.1 h.2.2.2.2.1 h.2.2.2.2.2 h.2.1 yr.2.2.2.2 h.1 lg tr bg en tkk op wn jn cq cm fk kd mk le ke tpm t og nm mf hm io rh mn wt jt nw pil my ai L tl ch rfl ⟨⟨rfl, rfl, rfl, rfl, rfl, rfl, rfl, rfl, rfl, rfl, rfl, rfl⟩, ⟨hTp, hFc, hT1, hT2⟩, ⟨hW1, hW2, hWz⟩, ⟨hPlI, hMt, hn⟩, ⟨hHa, hHm, hIo, hFn⟩, ⟨hMv, hMn⟩, (hDb.more (Nat.le_succ _)), ⟨oHa, oRh, hMy, oAi⟩, hLs, oTl, oCh, zHa, hBg⟩
  · skip
    refine r_aload_n (n := 196) hX dL_law_195 rfl rfl 1 rfl ?_
    refine r_aload_n (n := 197) hX dL_law_196 rfl rfl 0 rfl ?_
    refine r_iload_n (n := 198) hX dL_law_197 rfl rfl 3 rfl ?_
    refine r_iconst (n := 199) hX 1 dL_law_198 rfl rfl ?_
    refine r_iadd (n := 200) hX dL_law_199 rfl ?_
    refine Aw.topi (nI (i + 1)) (nI_add _ _) ?_
    refine r_sld (n := 201) (i := i + 1) hX hsc (by omega) hL dL_law_200 rfl ?_
    refine Aw.topi (nI n) hw ?_
    refine r_callV (n := 204) (av := [.int (nI n)]) hX (ct_X10_back (CxL X) (CxD X) (b 0) (b 1) (b 5) (b 7) (b 19) (b 22) (b 37) (b 41) (b 45) (b 46) (b 53) (b 6) h tp n hTp.2.1 hn1) ml_L_18 cv_X10_back rfl (by decide) [0, 5, 6] rfl rfl (by decide) 0 rfl rfl rfl rfl rfl (Nat.le_of_ble_eq_true rfl) dL_law_201 rfl (fun r_ es_ h_ l_ => ?_)
    obtain ⟨rfl, rfl⟩ := h_
    refine Aw.esq (pw_0 : putAt (EW (CxD X) b mo a h fb tp z tk jv jk pl mt yr lg ha x1 x2 tp.2 (hFs h) fb.2.2.2 yr.2.2.2.1 (zFaultP z) h.2.2.2.1 h.2.2.2.2.1 h.2.2.2.2.2 h.2.1 yr.2.2.2.2 h.1 lg tr bg en tkk op wn jn cq cm fk kd mk le ke tpm t og nm mf hm io rh mn wt jt nw pil my ai L tl ch) [0, 5, 6] _ = EW (CxD X) b mo a h fb (tp.1, if n ≤ tp.2 then tp.2 - n else tp.2) z tk jv jk pl mt yr lg ha x1 x2 tp.2 (hFs h) fb.2.2.2 yr.2.2.2.1 (zFaultP z) h.2.2.2.1 h.2.2.2.2.1 h.2.2.2.2.2 h.2.1 yr.2.2.2.2 h.1 lg tr bg en tkk op wn jn cq cm fk kd mk le ke tpm t og nm mf hm io rh mn wt jt nw pil my ai L tl ch) ?_
    show Aw X (KS b mo a) (EW (CxD X) b mo a h fb (tp.1, if n ≤ tp.2 then tp.2 - n else tp.2) z tk jv jk pl mt yr lg ha x1 x2 tp.2 (hFs h) fb.2.2.2 yr.2.2.2.1 (zFaultP z) h.2.2.2.1 h.2.2.2.2.1 h.2.2.2.2.2 h.2.1 yr.2.2.2.2 h.1 lg tr bg en tkk op wn jn cq cm fk kd mk le ke tpm t og nm mf hm io rh mn wt jt nw pil my ai L tl ch) 204 [(0, .ref sc), (1, .ref (b 0)), (2, .ref mo), (3, .int (nI i))] [.int (if n ≤ tp.2 then nI (tp.2 - n) else -1)]
    refine r_aload_n (n := 205) hX dL_law_204 rfl rfl 2 rfl ?_
    refine r_aload_n (n := 206) hX dL_law_205 rfl rfl 0 rfl ?_
    refine r_iload_n (n := 207) hX dL_law_206 rfl rfl 3 rfl ?_
    refine r_iconst (n := 208) hX 1 dL_law_207 rfl rfl ?_
    refine r_iadd (n := 209) hX dL_law_208 rfl ?_
    refine Aw.topi (nI (i + 1)) (nI_add _ _) ?_
    refine r_sld (n := 210) (i := i + 1) hX hsc (by omega) hL dL_law_209 rfl ?_
    refine Aw.topi (nI n) hw ?_
    refine r_callV (n := 213) (av := [.int (nI n)]) hX (ct_X11_back (CxL X) (CxD X) mo a tp.2 tr (hFs h) fb.2.2.2 yr.2.2.2.1 bg en tkk op wn jn cq cm fk (zFaultP z) h.2.2.2.1 h.2.2.2.2.1 h.2.2.2.2.2 h.2.1 kd mk le yr.2.2.2.2 h.1 ke n hTp.2.1 hn1) ml_L_22 cv_X11_back rfl (by decide) [60] rfl rfl (by decide) 60 rfl rfl rfl rfl rfl (Nat.le_of_ble_eq_true rfl) dL_law_210 rfl (fun r_ es_ h_ l_ => ?_)
    obtain ⟨rfl, rfl⟩ := h_
    refine Aw.esq (pw_3 : putAt (EW (CxD X) b mo a h fb (tp.1, if n ≤ tp.2 then tp.2 - n else tp.2) z tk jv jk pl mt yr lg ha x1 x2 tp.2 (hFs h) fb.2.2.2 yr.2.2.2.1 (zFaultP z) h.2.2.2.1 h.2.2.2.2.1 h.2.2.2.2.2 h.2.1 yr.2.2.2.2 h.1 lg tr bg en tkk op wn jn cq cm fk kd mk le ke tpm t og nm mf hm io rh mn wt jt nw pil my ai L tl ch) [60] _ = EW (CxD X) b mo a h fb (tp.1, if n ≤ tp.2 then tp.2 - n else tp.2) z tk jv jk pl mt yr lg ha x1 x2 (if n ≤ tp.2 then tp.2 - n else tp.2) (hFs h) fb.2.2.2 yr.2.2.2.1 (zFaultP z) h.2.2.2.1 h.2.2.2.2.1 h.2.2.2.2.2 h.2.1 yr.2.2.2.2 h.1 lg tr bg en tkk op wn jn cq cm fk kd mk le ke tpm t og nm mf hm io rh mn wt jt nw pil my ai L tl ch) ?_
    show Aw X (KS b mo a) (EW (CxD X) b mo a h fb (tp.1, if n ≤ tp.2 then tp.2 - n else tp.2) z tk jv jk pl mt yr lg ha x1 x2 (if n ≤ tp.2 then tp.2 - n else tp.2) (hFs h) fb.2.2.2 yr.2.2.2.1 (zFaultP z) h.2.2.2.1 h.2.2.2.2.1 h.2.2.2.2.2 h.2.1 yr.2.2.2.2 h.1 lg tr bg en tkk op wn jn cq cm fk kd mk le ke tpm t og nm mf hm io rh mn wt jt nw pil my ai L tl ch) 213 [(0, .ref sc), (1, .ref (b 0)), (2, .ref mo), (3, .int (nI i))] [.int (if n ≤ tp.2 then nI (tp.2 - n) else -1), .int (if n ≤ tp.2 then nI (tp.2 - n) else -1)]
    refine r_icmp_eq (tgt := 735) (n := 216) hX dL_law_213 (by decide) rfl (fun _ => ?_) (fun hne => absurd (rfl) hne)
    exact kk b h fb (tp.1, if n ≤ tp.2 then tp.2 - n else tp.2) z tk jv jk pl mt yr lg ha x1 x2 (if n ≤ tp.2 then tp.2 - n else tp.2) (hFs h) fb.2.2.2 yr.2.2.2.1 (zFaultP z) h.2.2.2.1 h.2.2.2.2.1 h.2.2.2.2.2 h.2.1 yr.2.2.2.2 h.1 lg tr bg en tkk op wn jn cq cm fk kd mk le ke tpm t og nm mf hm io rh mn wt jt nw pil my ai L tl ch rfl ⟨⟨rfl, rfl, rfl, rfl, rfl, rfl, rfl, rfl, rfl, rfl, rfl, rfl⟩, ⟨(back_tp hTp n), hFc, hT1, hT2⟩, ⟨hW1, hW2, hWz⟩, ⟨hPlI, hMt, hn⟩, ⟨hHa, hHm, hIo, hFn⟩, ⟨hMv, hMn⟩, (hDb.more (Nat.le_succ _)), ⟨oHa, oRh, hMy, oAi⟩, hLs, oTl, oCh, zHa, hBg⟩
set_option maxHeartbeats 4000000 in
set_option maxRecDepth 100000 in
theorem law_place {X : Cx} {b : Nat → Nat} {mo : Nat} {a : Nat → Nat} {sc Ln i N : Nat} {xs : Nat → Int32} (hX : Ok X cL_law 4 RL 36) (hsc : Sc X sc Ln xs) (hL : Ln ≤ 3072) (hi : i + 6 ≤ Ln) (hN : N < 1000000) (kk : ∀ (b' : Nat → Nat) (h : HS) (fb : FB) (tp : TP) (z : PZ) (tk : TK) (jv : Nat → Int32) (jk : Nat → Int32) (pl : PL) (mt : MT) (yr : YR) (lg : LG) (ha : Nat → Option Nat) (x1 : TX) (x2 : TX) (tn : Nat) (fm : Nat) (fn : Nat) (mv : Nat) (fp : Int32) (ck : Int32) (te : Int32) (yn : Int32) (rc : Int32) (hp : Bool) (ir : Bool) (lgm : LG) (tr : Nat) (bg : Nat) (en : Nat) (tkk : Nat) (op : Nat) (wn : Nat) (jn : Nat) (cq : Nat) (cm : Nat) (fk : Int32) (kd : Int32) (mk : Int32) (le : Int64) (ke : Bool) (tpm : Nat → Int32) (t : MR) (og : Nat → Nat) (nm : Nat → Int64) (mf : MF) (hm : Nat → Option Nat) (io : Nat → Bool) (rh : Nat → Option Nat) (mn : Nat → Nat) (wt : Nat → Int32) (jt : Nat → Int32) (nw : Nat → Int32) (pil : Nat → Int32) (my : MY) (ai : Nat → Option Nat) (L : Nat → Nat) (tl : Nat → Option Nat) (ch : Nat → Option Nat), b' 0 = b 0 → SR (N + 1) h fb tp z tk jv jk pl mt yr lg ha x1 x2 tn fm fn mv fp ck te yn rc hp ir lgm tr bg en tkk op wn jn cq cm fk kd mk le ke tpm t og nm mf hm io rh mn wt jt nw pil my ai L tl ch → Aw X (KS b' mo a) (EW (CxD X) b' mo a h fb tp z tk jv jk pl mt yr lg ha x1 x2 tn fm fn mv fp ck te yn rc hp ir lgm tr bg en tkk op wn jn cq cm fk kd mk le ke tpm t og nm mf hm io rh mn wt jt nw pil my ai L tl ch) 735 [(0, .ref sc), (1, .ref (b 0)), (2, .ref mo), (3, .int (nI i))] []) (h : HS) (fb : FB) (tp : TP) (z : PZ) (tk : TK) (jv : Nat → Int32) (jk : Nat → Int32) (pl : PL) (mt : MT) (yr : YR) (lg : LG) (ha : Nat → Option Nat) (x1 : TX) (x2 : TX) (tn : Nat) (fm : Nat) (fn : Nat) (mv : Nat) (fp : Int32) (ck : Int32) (te : Int32) (yn : Int32) (rc : Int32) (hp : Bool) (ir : Bool) (lgm : LG) (tr : Nat) (bg : Nat) (en : Nat) (tkk : Nat) (op : Nat) (wn : Nat) (jn : Nat) (cq : Nat) (cm : Nat) (fk : Int32) (kd : Int32) (mk : Int32) (le : Int64) (ke : Bool) (tpm : Nat → Int32) (t : MR) (og : Nat → Nat) (nm : Nat → Int64) (mf : MF) (hm : Nat → Option Nat) (io : Nat → Bool) (rh : Nat → Option Nat) (mn : Nat → Nat) (wt : Nat → Int32) (jt : Nat → Int32) (nw : Nat → Int32) (pil : Nat → Int32) (my : MY) (ai : Nat → Option Nat) (L : Nat → Nat) (tl : Nat → Option Nat) (ch : Nat → Option Nat) (hR : SR N h fb tp z tk jv jk pl mt yr lg ha x1 x2 tn fm fn mv fp ck te yn rc hp ir lgm tr bg en tkk op wn jn cq cm fk kd mk le ke tpm t og nm mf hm io rh mn wt jt nw pil my ai L tl ch) : Aw X (KS b mo a) (EW (CxD X) b mo a h fb tp z tk jv jk pl mt yr lg ha x1 x2 tn fm fn mv fp ck te yn rc hp ir lgm tr bg en tkk op wn jn cq cm fk kd mk le ke tpm t og nm mf hm io rh mn wt jt nw pil my ai L tl ch) 241 [(0, .ref sc), (1, .ref (b 0)), (2, .ref mo), (3, .int (nI i))] [] := by
  obtain ⟨⟨rfl, rfl, rfl, rfl, rfl, rfl, rfl, rfl, rfl, rfl, rfl, rfl⟩, ⟨hTp, hFc, hT1, hT2⟩, ⟨hW1, hW2, hWz⟩, ⟨hPlI, hMt, hn⟩, ⟨hHa, hHm, hIo, hFn⟩, ⟨hMv, hMn⟩, hDb, ⟨oHa, oRh, hMy, oAi⟩, hLs, oTl, oCh, zHa, hBg⟩ := hR
  refine r_aload_n (n := 242) hX dL_law_241 rfl rfl 1 rfl ?_
  refine r_callV (n := 245) (av := []) hX (ct_X10_place (CxL X) (CxD X) (b 0) (b 1) (b 5) (b 7) (b 19) (b 22) (b 37) (b 41) (b 45) (b 46) (b 53) (b 8) (b 12) h z) ml_L_27 cv_X10_place rfl (by decide) [0, 7] rfl rfl (by decide) 0 rfl rfl rfl rfl rfl (Nat.le_of_ble_eq_true rfl) dL_law_242 rfl (fun r_ es_ h_ l_ => ?_)
  obtain ⟨rfl, rfl⟩ := h_
  refine Aw.esq (pw_4 : putAt (EW (CxD X) b mo a h fb tp z tk jv jk pl mt yr lg ha x1 x2 tp.2 (hFs h) fb.2.2.2 yr.2.2.2.1 (zFaultP z) h.2.2.2.1 h.2.2.2.2.1 h.2.2.2.2.2 h.2.1 yr.2.2.2.2 h.1 lg tr bg en tkk op wn jn cq cm fk kd mk le ke tpm t og nm mf hm io rh mn wt jt nw pil my ai L tl ch) [0, 7] _ = EW (CxD X) b mo a h fb tp z tk jv jk pl mt yr lg ha x1 x2 tp.2 (hFs h) fb.2.2.2 yr.2.2.2.1 (zFaultP z) h.2.2.2.1 h.2.2.2.2.1 h.2.2.2.2.2 h.2.1 yr.2.2.2.2 h.1 lg tr bg en tkk op wn jn cq cm fk kd mk le ke tpm t og nm mf hm io rh mn wt jt nw pil my ai L tl ch) ?_
  show Aw X (KS b mo a) (EW (CxD X) b mo a h fb tp z tk jv jk pl mt yr lg ha x1 x2 tp.2 (hFs h) fb.2.2.2 yr.2.2.2.1 (zFaultP z) h.2.2.2.1 h.2.2.2.2.1 h.2.2.2.2.2 h.2.1 yr.2.2.2.2 h.1 lg tr bg en tkk op wn jn cq cm fk kd mk le ke tpm t og nm mf hm io rh mn wt jt nw pil my ai L tl ch) 245 [(0, .ref sc), (1, .ref (b 0)), (2, .ref mo), (3, .int (nI i))] [.int (zFaultP z)]
  refine r_aload_n (n := 246) hX dL_law_245 rfl rfl 2 rfl ?_
  refine r_callV (n := 249) (av := []) hX (ct_X11_place (CxL X) (CxD X) mo a tp.2 tr (hFs h) fb.2.2.2 yr.2.2.2.1 bg en tkk op wn jn cq cm fk (zFaultP z) h.2.2.2.1 h.2.2.2.2.1 h.2.2.2.2.2 h.2.1 kd mk le yr.2.2.2.2 h.1 ke) ml_L_31 cv_X11_place rfl (by decide) [60] rfl rfl (by decide) 60 rfl rfl rfl rfl rfl (Nat.le_of_ble_eq_true rfl) dL_law_246 rfl (fun r_ es_ h_ l_ => ?_)
  obtain ⟨rfl, rfl⟩ := h_
  refine Aw.esq (pw_3 : putAt (EW (CxD X) b mo a h fb tp z tk jv jk pl mt yr lg ha x1 x2 tp.2 (hFs h) fb.2.2.2 yr.2.2.2.1 (zFaultP z) h.2.2.2.1 h.2.2.2.2.1 h.2.2.2.2.2 h.2.1 yr.2.2.2.2 h.1 lg tr bg en tkk op wn jn cq cm fk kd mk le ke tpm t og nm mf hm io rh mn wt jt nw pil my ai L tl ch) [60] _ = EW (CxD X) b mo a h fb tp z tk jv jk pl mt yr lg ha x1 x2 tp.2 (hFs h) fb.2.2.2 yr.2.2.2.1 (zFaultP z) h.2.2.2.1 h.2.2.2.2.1 h.2.2.2.2.2 h.2.1 yr.2.2.2.2 h.1 lg tr bg en tkk op wn jn cq cm fk kd mk le ke tpm t og nm mf hm io rh mn wt jt nw pil my ai L tl ch) ?_
  show Aw X (KS b mo a) (EW (CxD X) b mo a h fb tp z tk jv jk pl mt yr lg ha x1 x2 tp.2 (hFs h) fb.2.2.2 yr.2.2.2.1 (zFaultP z) h.2.2.2.1 h.2.2.2.2.1 h.2.2.2.2.2 h.2.1 yr.2.2.2.2 h.1 lg tr bg en tkk op wn jn cq cm fk kd mk le ke tpm t og nm mf hm io rh mn wt jt nw pil my ai L tl ch) 249 [(0, .ref sc), (1, .ref (b 0)), (2, .ref mo), (3, .int (nI i))] [.int (zFaultP z), .int (zFaultP z)]
  refine r_icmp_eq (tgt := 735) (n := 252) hX dL_law_249 (by decide) rfl (fun _ => ?_) (fun hne => absurd (rfl) hne)
  exact kk b h fb tp z tk jv jk pl mt yr lg ha x1 x2 tp.2 (hFs h) fb.2.2.2 yr.2.2.2.1 (zFaultP z) h.2.2.2.1 h.2.2.2.2.1 h.2.2.2.2.2 h.2.1 yr.2.2.2.2 h.1 lg tr bg en tkk op wn jn cq cm fk kd mk le ke tpm t og nm mf hm io rh mn wt jt nw pil my ai L tl ch rfl ⟨⟨rfl, rfl, rfl, rfl, rfl, rfl, rfl, rfl, rfl, rfl, rfl, rfl⟩, ⟨hTp, hFc, hT1, hT2⟩, ⟨hW1, hW2, hWz⟩, ⟨hPlI, hMt, hn⟩, ⟨hHa, hHm, hIo, hFn⟩, ⟨hMv, hMn⟩, (hDb.more (Nat.le_succ _)), ⟨oHa, oRh, hMy, oAi⟩, hLs, oTl, oCh, zHa, hBg⟩
set_option maxHeartbeats 4000000 in
set_option maxRecDepth 100000 in
theorem law_family {X : Cx} {b : Nat → Nat} {mo : Nat} {a : Nat → Nat} {sc Ln i N : Nat} {xs : Nat → Int32} (hX : Ok X cL_law 4 RL 36) (hsc : Sc X sc Ln xs) (hL : Ln ≤ 3072) (hi : i + 6 ≤ Ln) (hN : N < 1000000) (kk : ∀ (b' : Nat → Nat) (h : HS) (fb : FB) (tp : TP) (z : PZ) (tk : TK) (jv : Nat → Int32) (jk : Nat → Int32) (pl : PL) (mt : MT) (yr : YR) (lg : LG) (ha : Nat → Option Nat) (x1 : TX) (x2 : TX) (tn : Nat) (fm : Nat) (fn : Nat) (mv : Nat) (fp : Int32) (ck : Int32) (te : Int32) (yn : Int32) (rc : Int32) (hp : Bool) (ir : Bool) (lgm : LG) (tr : Nat) (bg : Nat) (en : Nat) (tkk : Nat) (op : Nat) (wn : Nat) (jn : Nat) (cq : Nat) (cm : Nat) (fk : Int32) (kd : Int32) (mk : Int32) (le : Int64) (ke : Bool) (tpm : Nat → Int32) (t : MR) (og : Nat → Nat) (nm : Nat → Int64) (mf : MF) (hm : Nat → Option Nat) (io : Nat → Bool) (rh : Nat → Option Nat) (mn : Nat → Nat) (wt : Nat → Int32) (jt : Nat → Int32) (nw : Nat → Int32) (pil : Nat → Int32) (my : MY) (ai : Nat → Option Nat) (L : Nat → Nat) (tl : Nat → Option Nat) (ch : Nat → Option Nat), b' 0 = b 0 → SR (N + 1) h fb tp z tk jv jk pl mt yr lg ha x1 x2 tn fm fn mv fp ck te yn rc hp ir lgm tr bg en tkk op wn jn cq cm fk kd mk le ke tpm t og nm mf hm io rh mn wt jt nw pil my ai L tl ch → Aw X (KS b' mo a) (EW (CxD X) b' mo a h fb tp z tk jv jk pl mt yr lg ha x1 x2 tn fm fn mv fp ck te yn rc hp ir lgm tr bg en tkk op wn jn cq cm fk kd mk le ke tpm t og nm mf hm io rh mn wt jt nw pil my ai L tl ch) 735 [(0, .ref sc), (1, .ref (b 0)), (2, .ref mo), (3, .int (nI i))] []) (h : HS) (fb : FB) (tp : TP) (z : PZ) (tk : TK) (jv : Nat → Int32) (jk : Nat → Int32) (pl : PL) (mt : MT) (yr : YR) (lg : LG) (ha : Nat → Option Nat) (x1 : TX) (x2 : TX) (tn : Nat) (fm : Nat) (fn : Nat) (mv : Nat) (fp : Int32) (ck : Int32) (te : Int32) (yn : Int32) (rc : Int32) (hp : Bool) (ir : Bool) (lgm : LG) (tr : Nat) (bg : Nat) (en : Nat) (tkk : Nat) (op : Nat) (wn : Nat) (jn : Nat) (cq : Nat) (cm : Nat) (fk : Int32) (kd : Int32) (mk : Int32) (le : Int64) (ke : Bool) (tpm : Nat → Int32) (t : MR) (og : Nat → Nat) (nm : Nat → Int64) (mf : MF) (hm : Nat → Option Nat) (io : Nat → Bool) (rh : Nat → Option Nat) (mn : Nat → Nat) (wt : Nat → Int32) (jt : Nat → Int32) (nw : Nat → Int32) (pil : Nat → Int32) (my : MY) (ai : Nat → Option Nat) (L : Nat → Nat) (tl : Nat → Option Nat) (ch : Nat → Option Nat) (hR : SR N h fb tp z tk jv jk pl mt yr lg ha x1 x2 tn fm fn mv fp ck te yn rc hp ir lgm tr bg en tkk op wn jn cq cm fk kd mk le ke tpm t og nm mf hm io rh mn wt jt nw pil my ai L tl ch) : Aw X (KS b mo a) (EW (CxD X) b mo a h fb tp z tk jv jk pl mt yr lg ha x1 x2 tn fm fn mv fp ck te yn rc hp ir lgm tr bg en tkk op wn jn cq cm fk kd mk le ke tpm t og nm mf hm io rh mn wt jt nw pil my ai L tl ch) 254 [(0, .ref sc), (1, .ref (b 0)), (2, .ref mo), (3, .int (nI i))] [] := by
  obtain ⟨⟨rfl, rfl, rfl, rfl, rfl, rfl, rfl, rfl, rfl, rfl, rfl, rfl⟩, ⟨hTp, hFc, hT1, hT2⟩, ⟨hW1, hW2, hWz⟩, ⟨hPlI, hMt, hn⟩, ⟨hHa, hHm, hIo, hFn⟩, ⟨hMv, hMn⟩, hDb, ⟨oHa, oRh, hMy, oAi⟩, hLs, oTl, oCh, zHa, hBg⟩ := hR
  refine r_aload_n (n := 255) hX dL_law_254 rfl rfl 1 rfl ?_
  refine r_callV (n := 258) (av := []) hX (ct_X10_family (CxL X) (CxD X) (b 0) (b 1) (b 5) (b 7) (b 19) (b 22) (b 37) (b 41) (b 45) (b 46) (b 53) h hn) ml_L_32 cv_X10_family rfl (by decide) [0] rfl rfl (by decide) 0 rfl rfl rfl rfl rfl (Nat.le_of_ble_eq_true rfl) dL_law_255 rfl (fun r_ es_ h_ l_ => ?_)
  obtain ⟨rfl, rfl⟩ := h_
  refine Aw.esq (pw_2 : putAt (EW (CxD X) b mo a h fb tp z tk jv jk pl mt yr lg ha x1 x2 tp.2 (hFs h) fb.2.2.2 yr.2.2.2.1 (zFaultP z) h.2.2.2.1 h.2.2.2.2.1 h.2.2.2.2.2 h.2.1 yr.2.2.2.2 h.1 lg tr bg en tkk op wn jn cq cm fk kd mk le ke tpm t og nm mf hm io rh mn wt jt nw pil my ai L tl ch) [0] _ = EW (CxD X) b mo a (h.1, h.2.1, (if hFs h < 12 then hFs h + 1 else hFs h), h.2.2.2) fb tp z tk jv jk pl mt yr lg ha x1 x2 tp.2 (hFs h) fb.2.2.2 yr.2.2.2.1 (zFaultP z) h.2.2.2.1 h.2.2.2.2.1 h.2.2.2.2.2 h.2.1 yr.2.2.2.2 h.1 lg tr bg en tkk op wn jn cq cm fk kd mk le ke tpm t og nm mf hm io rh mn wt jt nw pil my ai L tl ch) ?_
  show Aw X (KS b mo a) (EW (CxD X) b mo a (h.1, h.2.1, (if hFs h < 12 then hFs h + 1 else hFs h), h.2.2.2) fb tp z tk jv jk pl mt yr lg ha x1 x2 tp.2 (hFs h) fb.2.2.2 yr.2.2.2.1 (zFaultP z) h.2.2.2.1 h.2.2.2.2.1 h.2.2.2.2.2 h.2.1 yr.2.2.2.2 h.1 lg tr bg en tkk op wn jn cq cm fk kd mk le ke tpm t og nm mf hm io rh mn wt jt nw pil my ai L tl ch) 258 [(0, .ref sc), (1, .ref (b 0)), (2, .ref mo), (3, .int (nI i))] [.int (if hFs h < 12 then nI (hFs h) else -1)]
  refine r_aload_n (n := 259) hX dL_law_258 rfl rfl 2 rfl ?_
  refine r_callV (n := 262) (av := []) hX (ct_X11_family (CxL X) (CxD X) mo a tp.2 tr (hFs h) fb.2.2.2 yr.2.2.2.1 bg en tkk op wn jn cq cm fk (zFaultP z) h.2.2.2.1 h.2.2.2.2.1 h.2.2.2.2.2 h.2.1 kd mk le yr.2.2.2.2 h.1 ke hn) ml_L_35 cv_X11_family rfl (by decide) [60] rfl rfl (by decide) 60 rfl rfl rfl rfl rfl (Nat.le_of_ble_eq_true rfl) dL_law_259 rfl (fun r_ es_ h_ l_ => ?_)
  obtain ⟨rfl, rfl⟩ := h_
  refine Aw.esq (pw_3 : putAt (EW (CxD X) b mo a (h.1, h.2.1, (if hFs h < 12 then hFs h + 1 else hFs h), h.2.2.2) fb tp z tk jv jk pl mt yr lg ha x1 x2 tp.2 (hFs h) fb.2.2.2 yr.2.2.2.1 (zFaultP z) h.2.2.2.1 h.2.2.2.2.1 h.2.2.2.2.2 h.2.1 yr.2.2.2.2 h.1 lg tr bg en tkk op wn jn cq cm fk kd mk le ke tpm t og nm mf hm io rh mn wt jt nw pil my ai L tl ch) [60] _ = EW (CxD X) b mo a (h.1, h.2.1, (if hFs h < 12 then hFs h + 1 else hFs h), h.2.2.2) fb tp z tk jv jk pl mt yr lg ha x1 x2 tp.2 (if hFs h < 12 then hFs h + 1 else hFs h) fb.2.2.2 yr.2.2.2.1 (zFaultP z) h.2.2.2.1 h.2.2.2.2.1 h.2.2.2.2.2 h.2.1 yr.2.2.2.2 h.1 lg tr bg en tkk op wn jn cq cm fk kd mk le ke tpm t og nm mf hm io rh mn wt jt nw pil my ai L tl ch) ?_
  show Aw X (KS b mo a) (EW (CxD X) b mo a (h.1, h.2.1, (if hFs h < 12 then hFs h + 1 else hFs h), h.2.2.2) fb tp z tk jv jk pl mt yr lg ha x1 x2 tp.2 (if hFs h < 12 then hFs h + 1 else hFs h) fb.2.2.2 yr.2.2.2.1 (zFaultP z) h.2.2.2.1 h.2.2.2.2.1 h.2.2.2.2.2 h.2.1 yr.2.2.2.2 h.1 lg tr bg en tkk op wn jn cq cm fk kd mk le ke tpm t og nm mf hm io rh mn wt jt nw pil my ai L tl ch) 262 [(0, .ref sc), (1, .ref (b 0)), (2, .ref mo), (3, .int (nI i))] [.int (if hFs h < 12 then nI (hFs h) else -1), .int (if hFs h < 12 then nI (hFs h) else -1)]
  refine r_icmp_eq (tgt := 735) (n := 265) hX dL_law_262 (by decide) rfl (fun _ => ?_) (fun hne => absurd (rfl) hne)
  exact kk b (h.1, h.2.1, (if hFs h < 12 then hFs h + 1 else hFs h), h.2.2.2) fb tp z tk jv jk pl mt yr lg ha x1 x2 tp.2 (if hFs h < 12 then hFs h + 1 else hFs h) fb.2.2.2 yr.2.2.2.1 (zFaultP z) h.2.2.2.1 h.2.2.2.2.1 h.2.2.2.2.2 h.2.1 yr.2.2.2.2 h.1 lg tr bg en tkk op wn jn cq cm fk kd mk le ke tpm t og nm mf hm io rh mn wt jt nw pil my ai L tl ch rfl ⟨⟨rfl, rfl, rfl, rfl, rfl, rfl, rfl, rfl, rfl, rfl, rfl, rfl⟩, ⟨hTp, hFc, hT1, hT2⟩, ⟨hW1, hW2, hWz⟩, ⟨hPlI, hMt, (fam_12 hn)⟩, ⟨(fun q => (hHa q).fam), hHm.fam, hIo, hFn⟩, ⟨hMv, hMn⟩, (hDb.more (Nat.le_succ _)), ⟨oHa, oRh, hMy, oAi⟩, hLs, oTl, oCh, zHa, hBg⟩
set_option maxHeartbeats 4000000 in
set_option maxRecDepth 100000 in
theorem law_clock {X : Cx} {b : Nat → Nat} {mo : Nat} {a : Nat → Nat} {sc Ln i N : Nat} {xs : Nat → Int32} (hX : Ok X cL_law 4 RL 36) (hsc : Sc X sc Ln xs) (hL : Ln ≤ 3072) (hi : i + 6 ≤ Ln) (hN : N < 1000000) (kk : ∀ (b' : Nat → Nat) (h : HS) (fb : FB) (tp : TP) (z : PZ) (tk : TK) (jv : Nat → Int32) (jk : Nat → Int32) (pl : PL) (mt : MT) (yr : YR) (lg : LG) (ha : Nat → Option Nat) (x1 : TX) (x2 : TX) (tn : Nat) (fm : Nat) (fn : Nat) (mv : Nat) (fp : Int32) (ck : Int32) (te : Int32) (yn : Int32) (rc : Int32) (hp : Bool) (ir : Bool) (lgm : LG) (tr : Nat) (bg : Nat) (en : Nat) (tkk : Nat) (op : Nat) (wn : Nat) (jn : Nat) (cq : Nat) (cm : Nat) (fk : Int32) (kd : Int32) (mk : Int32) (le : Int64) (ke : Bool) (tpm : Nat → Int32) (t : MR) (og : Nat → Nat) (nm : Nat → Int64) (mf : MF) (hm : Nat → Option Nat) (io : Nat → Bool) (rh : Nat → Option Nat) (mn : Nat → Nat) (wt : Nat → Int32) (jt : Nat → Int32) (nw : Nat → Int32) (pil : Nat → Int32) (my : MY) (ai : Nat → Option Nat) (L : Nat → Nat) (tl : Nat → Option Nat) (ch : Nat → Option Nat), b' 0 = b 0 → SR (N + 1) h fb tp z tk jv jk pl mt yr lg ha x1 x2 tn fm fn mv fp ck te yn rc hp ir lgm tr bg en tkk op wn jn cq cm fk kd mk le ke tpm t og nm mf hm io rh mn wt jt nw pil my ai L tl ch → Aw X (KS b' mo a) (EW (CxD X) b' mo a h fb tp z tk jv jk pl mt yr lg ha x1 x2 tn fm fn mv fp ck te yn rc hp ir lgm tr bg en tkk op wn jn cq cm fk kd mk le ke tpm t og nm mf hm io rh mn wt jt nw pil my ai L tl ch) 735 [(0, .ref sc), (1, .ref (b 0)), (2, .ref mo), (3, .int (nI i))] []) (h : HS) (fb : FB) (tp : TP) (z : PZ) (tk : TK) (jv : Nat → Int32) (jk : Nat → Int32) (pl : PL) (mt : MT) (yr : YR) (lg : LG) (ha : Nat → Option Nat) (x1 : TX) (x2 : TX) (tn : Nat) (fm : Nat) (fn : Nat) (mv : Nat) (fp : Int32) (ck : Int32) (te : Int32) (yn : Int32) (rc : Int32) (hp : Bool) (ir : Bool) (lgm : LG) (tr : Nat) (bg : Nat) (en : Nat) (tkk : Nat) (op : Nat) (wn : Nat) (jn : Nat) (cq : Nat) (cm : Nat) (fk : Int32) (kd : Int32) (mk : Int32) (le : Int64) (ke : Bool) (tpm : Nat → Int32) (t : MR) (og : Nat → Nat) (nm : Nat → Int64) (mf : MF) (hm : Nat → Option Nat) (io : Nat → Bool) (rh : Nat → Option Nat) (mn : Nat → Nat) (wt : Nat → Int32) (jt : Nat → Int32) (nw : Nat → Int32) (pil : Nat → Int32) (my : MY) (ai : Nat → Option Nat) (L : Nat → Nat) (tl : Nat → Option Nat) (ch : Nat → Option Nat) (hR : SR N h fb tp z tk jv jk pl mt yr lg ha x1 x2 tn fm fn mv fp ck te yn rc hp ir lgm tr bg en tkk op wn jn cq cm fk kd mk le ke tpm t og nm mf hm io rh mn wt jt nw pil my ai L tl ch) : Aw X (KS b mo a) (EW (CxD X) b mo a h fb tp z tk jv jk pl mt yr lg ha x1 x2 tn fm fn mv fp ck te yn rc hp ir lgm tr bg en tkk op wn jn cq cm fk kd mk le ke tpm t og nm mf hm io rh mn wt jt nw pil my ai L tl ch) 267 [(0, .ref sc), (1, .ref (b 0)), (2, .ref mo), (3, .int (nI i))] [] := by
  obtain ⟨⟨rfl, rfl, rfl, rfl, rfl, rfl, rfl, rfl, rfl, rfl, rfl, rfl⟩, ⟨hTp, hFc, hT1, hT2⟩, ⟨hW1, hW2, hWz⟩, ⟨hPlI, hMt, hn⟩, ⟨hHa, hHm, hIo, hFn⟩, ⟨hMv, hMn⟩, hDb, ⟨oHa, oRh, hMy, oAi⟩, hLs, oTl, oCh, zHa, hBg⟩ := hR
  refine r_aload_n (n := 268) hX dL_law_267 rfl rfl 1 rfl ?_
  refine r_aload_n (n := 269) hX dL_law_268 rfl rfl 0 rfl ?_
  refine r_iload_n (n := 270) hX dL_law_269 rfl rfl 3 rfl ?_
  refine r_iconst (n := 271) hX 1 dL_law_270 rfl rfl ?_
  refine r_iadd (n := 272) hX dL_law_271 rfl ?_
  refine Aw.topi (nI (i + 1)) (nI_add _ _) ?_
  refine r_sld (n := 273) (i := i + 1) hX hsc (by omega) hL dL_law_272 rfl ?_
  refine r_callV (n := 276) (av := [.int (xs (i + 1))]) hX (ct_X10_clock (CxL X) (CxD X) (b 0) (b 1) (b 5) (b 7) (b 19) (b 22) (b 37) (b 41) (b 45) (b 46) (b 53) h (xs (i + 1))) ml_L_36 cv_X10_clock rfl (by decide) [0] rfl rfl (by decide) 0 rfl rfl rfl rfl rfl (Nat.le_of_ble_eq_true rfl) dL_law_273 rfl (fun r_ es_ h_ l_ => ?_)
  obtain ⟨rfl, rfl⟩ := h_
  refine Aw.esq (pw_2 : putAt (EW (CxD X) b mo a h fb tp z tk jv jk pl mt yr lg ha x1 x2 tp.2 (hFs h) fb.2.2.2 yr.2.2.2.1 (zFaultP z) h.2.2.2.1 h.2.2.2.2.1 h.2.2.2.2.2 h.2.1 yr.2.2.2.2 h.1 lg tr bg en tkk op wn jn cq cm fk kd mk le ke tpm t og nm mf hm io rh mn wt jt nw pil my ai L tl ch) [0] _ = EW (CxD X) b mo a (h.1, h.2.1, hFs h, (if hClk h.2.2.2.1 (xs (i + 1)) = true then (xs (i + 1)) else h.2.2.2.1), h.2.2.2.2) fb tp z tk jv jk pl mt yr lg ha x1 x2 tp.2 (hFs h) fb.2.2.2 yr.2.2.2.1 (zFaultP z) h.2.2.2.1 h.2.2.2.2.1 h.2.2.2.2.2 h.2.1 yr.2.2.2.2 h.1 lg tr bg en tkk op wn jn cq cm fk kd mk le ke tpm t og nm mf hm io rh mn wt jt nw pil my ai L tl ch) ?_
  show Aw X (KS b mo a) (EW (CxD X) b mo a (h.1, h.2.1, hFs h, (if hClk h.2.2.2.1 (xs (i + 1)) = true then (xs (i + 1)) else h.2.2.2.1), h.2.2.2.2) fb tp z tk jv jk pl mt yr lg ha x1 x2 tp.2 (hFs h) fb.2.2.2 yr.2.2.2.1 (zFaultP z) h.2.2.2.1 h.2.2.2.2.1 h.2.2.2.2.2 h.2.1 yr.2.2.2.2 h.1 lg tr bg en tkk op wn jn cq cm fk kd mk le ke tpm t og nm mf hm io rh mn wt jt nw pil my ai L tl ch) 276 [(0, .ref sc), (1, .ref (b 0)), (2, .ref mo), (3, .int (nI i))] [.int (b2 (hClk h.2.2.2.1 (xs (i + 1))))]
  refine r_aload_n (n := 277) hX dL_law_276 rfl rfl 2 rfl ?_
  refine r_aload_n (n := 278) hX dL_law_277 rfl rfl 0 rfl ?_
  refine r_iload_n (n := 279) hX dL_law_278 rfl rfl 3 rfl ?_
  refine r_iconst (n := 280) hX 1 dL_law_279 rfl rfl ?_
  refine r_iadd (n := 281) hX dL_law_280 rfl ?_
  refine Aw.topi (nI (i + 1)) (nI_add _ _) ?_
  refine r_sld (n := 282) (i := i + 1) hX hsc (by omega) hL dL_law_281 rfl ?_
  refine r_callV (n := 285) (av := [.int (xs (i + 1))]) hX (ct_X11_clock (CxL X) (CxD X) mo a tp.2 tr (hFs h) fb.2.2.2 yr.2.2.2.1 bg en tkk op wn jn cq cm fk (zFaultP z) h.2.2.2.1 h.2.2.2.2.1 h.2.2.2.2.2 h.2.1 kd mk le yr.2.2.2.2 h.1 ke (xs (i + 1))) ml_L_40 cv_X11_clock rfl (by decide) [60] rfl rfl (by decide) 60 rfl rfl rfl rfl rfl (Nat.le_of_ble_eq_true rfl) dL_law_282 rfl (fun r_ es_ h_ l_ => ?_)
  obtain ⟨rfl, rfl⟩ := h_
  refine Aw.esq (pw_3 : putAt (EW (CxD X) b mo a (h.1, h.2.1, hFs h, (if hClk h.2.2.2.1 (xs (i + 1)) = true then (xs (i + 1)) else h.2.2.2.1), h.2.2.2.2) fb tp z tk jv jk pl mt yr lg ha x1 x2 tp.2 (hFs h) fb.2.2.2 yr.2.2.2.1 (zFaultP z) h.2.2.2.1 h.2.2.2.2.1 h.2.2.2.2.2 h.2.1 yr.2.2.2.2 h.1 lg tr bg en tkk op wn jn cq cm fk kd mk le ke tpm t og nm mf hm io rh mn wt jt nw pil my ai L tl ch) [60] _ = EW (CxD X) b mo a (h.1, h.2.1, hFs h, (if hClk h.2.2.2.1 (xs (i + 1)) = true then (xs (i + 1)) else h.2.2.2.1), h.2.2.2.2) fb tp z tk jv jk pl mt yr lg ha x1 x2 tp.2 (hFs h) fb.2.2.2 yr.2.2.2.1 (zFaultP z) (if hClk h.2.2.2.1 (xs (i + 1)) = true then (xs (i + 1)) else h.2.2.2.1) h.2.2.2.2.1 h.2.2.2.2.2 h.2.1 yr.2.2.2.2 h.1 lg tr bg en tkk op wn jn cq cm fk kd mk le ke tpm t og nm mf hm io rh mn wt jt nw pil my ai L tl ch) ?_
  show Aw X (KS b mo a) (EW (CxD X) b mo a (h.1, h.2.1, hFs h, (if hClk h.2.2.2.1 (xs (i + 1)) = true then (xs (i + 1)) else h.2.2.2.1), h.2.2.2.2) fb tp z tk jv jk pl mt yr lg ha x1 x2 tp.2 (hFs h) fb.2.2.2 yr.2.2.2.1 (zFaultP z) (if hClk h.2.2.2.1 (xs (i + 1)) = true then (xs (i + 1)) else h.2.2.2.1) h.2.2.2.2.1 h.2.2.2.2.2 h.2.1 yr.2.2.2.2 h.1 lg tr bg en tkk op wn jn cq cm fk kd mk le ke tpm t og nm mf hm io rh mn wt jt nw pil my ai L tl ch) 285 [(0, .ref sc), (1, .ref (b 0)), (2, .ref mo), (3, .int (nI i))] [.int (b2 (hClk h.2.2.2.1 (xs (i + 1)))), .int (b2 (hClk h.2.2.2.1 (xs (i + 1))))]
  refine r_icmp_eq (tgt := 735) (n := 288) hX dL_law_285 (by decide) rfl (fun _ => ?_) (fun hne => absurd (rfl) hne)
  exact kk b (h.1, h.2.1, hFs h, (if hClk h.2.2.2.1 (xs (i + 1)) = true then (xs (i + 1)) else h.2.2.2.1), h.2.2.2.2) fb tp z tk jv jk pl mt yr lg ha x1 x2 tp.2 (hFs h) fb.2.2.2 yr.2.2.2.1 (zFaultP z) (if hClk h.2.2.2.1 (xs (i + 1)) = true then (xs (i + 1)) else h.2.2.2.1) h.2.2.2.2.1 h.2.2.2.2.2 h.2.1 yr.2.2.2.2 h.1 lg tr bg en tkk op wn jn cq cm fk kd mk le ke tpm t og nm mf hm io rh mn wt jt nw pil my ai L tl ch rfl ⟨⟨rfl, rfl, rfl, rfl, rfl, rfl, rfl, rfl, rfl, rfl, rfl, rfl⟩, ⟨hTp, (clk_Fc hFc), hT1, hT2⟩, ⟨hW1, hW2, hWz⟩, ⟨hPlI, hMt, hn⟩, ⟨hHa, hHm, hIo, hFn⟩, ⟨hMv, hMn⟩, (hDb.more (Nat.le_succ _)), ⟨oHa, oRh, hMy, oAi⟩, hLs, oTl, oCh, zHa, hBg⟩
set_option maxHeartbeats 4000000 in
set_option maxRecDepth 100000 in
theorem law_term {X : Cx} {b : Nat → Nat} {mo : Nat} {a : Nat → Nat} {sc Ln i N : Nat} {xs : Nat → Int32} (hX : Ok X cL_law 4 RL 36) (hsc : Sc X sc Ln xs) (hL : Ln ≤ 3072) (hi : i + 6 ≤ Ln) (hN : N < 1000000) (kk : ∀ (b' : Nat → Nat) (h : HS) (fb : FB) (tp : TP) (z : PZ) (tk : TK) (jv : Nat → Int32) (jk : Nat → Int32) (pl : PL) (mt : MT) (yr : YR) (lg : LG) (ha : Nat → Option Nat) (x1 : TX) (x2 : TX) (tn : Nat) (fm : Nat) (fn : Nat) (mv : Nat) (fp : Int32) (ck : Int32) (te : Int32) (yn : Int32) (rc : Int32) (hp : Bool) (ir : Bool) (lgm : LG) (tr : Nat) (bg : Nat) (en : Nat) (tkk : Nat) (op : Nat) (wn : Nat) (jn : Nat) (cq : Nat) (cm : Nat) (fk : Int32) (kd : Int32) (mk : Int32) (le : Int64) (ke : Bool) (tpm : Nat → Int32) (t : MR) (og : Nat → Nat) (nm : Nat → Int64) (mf : MF) (hm : Nat → Option Nat) (io : Nat → Bool) (rh : Nat → Option Nat) (mn : Nat → Nat) (wt : Nat → Int32) (jt : Nat → Int32) (nw : Nat → Int32) (pil : Nat → Int32) (my : MY) (ai : Nat → Option Nat) (L : Nat → Nat) (tl : Nat → Option Nat) (ch : Nat → Option Nat), b' 0 = b 0 → SR (N + 1) h fb tp z tk jv jk pl mt yr lg ha x1 x2 tn fm fn mv fp ck te yn rc hp ir lgm tr bg en tkk op wn jn cq cm fk kd mk le ke tpm t og nm mf hm io rh mn wt jt nw pil my ai L tl ch → Aw X (KS b' mo a) (EW (CxD X) b' mo a h fb tp z tk jv jk pl mt yr lg ha x1 x2 tn fm fn mv fp ck te yn rc hp ir lgm tr bg en tkk op wn jn cq cm fk kd mk le ke tpm t og nm mf hm io rh mn wt jt nw pil my ai L tl ch) 735 [(0, .ref sc), (1, .ref (b 0)), (2, .ref mo), (3, .int (nI i))] []) (h : HS) (fb : FB) (tp : TP) (z : PZ) (tk : TK) (jv : Nat → Int32) (jk : Nat → Int32) (pl : PL) (mt : MT) (yr : YR) (lg : LG) (ha : Nat → Option Nat) (x1 : TX) (x2 : TX) (tn : Nat) (fm : Nat) (fn : Nat) (mv : Nat) (fp : Int32) (ck : Int32) (te : Int32) (yn : Int32) (rc : Int32) (hp : Bool) (ir : Bool) (lgm : LG) (tr : Nat) (bg : Nat) (en : Nat) (tkk : Nat) (op : Nat) (wn : Nat) (jn : Nat) (cq : Nat) (cm : Nat) (fk : Int32) (kd : Int32) (mk : Int32) (le : Int64) (ke : Bool) (tpm : Nat → Int32) (t : MR) (og : Nat → Nat) (nm : Nat → Int64) (mf : MF) (hm : Nat → Option Nat) (io : Nat → Bool) (rh : Nat → Option Nat) (mn : Nat → Nat) (wt : Nat → Int32) (jt : Nat → Int32) (nw : Nat → Int32) (pil : Nat → Int32) (my : MY) (ai : Nat → Option Nat) (L : Nat → Nat) (tl : Nat → Option Nat) (ch : Nat → Option Nat) (hR : SR N h fb tp z tk jv jk pl mt yr lg ha x1 x2 tn fm fn mv fp ck te yn rc hp ir lgm tr bg en tkk op wn jn cq cm fk kd mk le ke tpm t og nm mf hm io rh mn wt jt nw pil my ai L tl ch) : Aw X (KS b mo a) (EW (CxD X) b mo a h fb tp z tk jv jk pl mt yr lg ha x1 x2 tn fm fn mv fp ck te yn rc hp ir lgm tr bg en tkk op wn jn cq cm fk kd mk le ke tpm t og nm mf hm io rh mn wt jt nw pil my ai L tl ch) 290 [(0, .ref sc), (1, .ref (b 0)), (2, .ref mo), (3, .int (nI i))] [] := by
  obtain ⟨⟨rfl, rfl, rfl, rfl, rfl, rfl, rfl, rfl, rfl, rfl, rfl, rfl⟩, ⟨hTp, hFc, hT1, hT2⟩, ⟨hW1, hW2, hWz⟩, ⟨hPlI, hMt, hn⟩, ⟨hHa, hHm, hIo, hFn⟩, ⟨hMv, hMn⟩, hDb, ⟨oHa, oRh, hMy, oAi⟩, hLs, oTl, oCh, zHa, hBg⟩ := hR
  refine r_aload_n (n := 291) hX dL_law_290 rfl rfl 1 rfl ?_
  refine r_aload_n (n := 292) hX dL_law_291 rfl rfl 0 rfl ?_
  refine r_iload_n (n := 293) hX dL_law_292 rfl rfl 3 rfl ?_
  refine r_iconst (n := 294) hX 1 dL_law_293 rfl rfl ?_
  refine r_iadd (n := 295) hX dL_law_294 rfl ?_
  refine Aw.topi (nI (i + 1)) (nI_add _ _) ?_
  refine r_sld (n := 296) (i := i + 1) hX hsc (by omega) hL dL_law_295 rfl ?_
  refine r_callV (n := 299) (av := [.int (xs (i + 1))]) hX (ct_X10_term (CxL X) (CxD X) (b 0) (b 1) (b 5) (b 7) (b 19) (b 22) (b 37) (b 41) (b 45) (b 46) (b 53) h (xs (i + 1))) ml_L_41 cv_X10_term rfl (by decide) [0] rfl rfl (by decide) 0 rfl rfl rfl rfl rfl (Nat.le_of_ble_eq_true rfl) dL_law_296 rfl (fun r_ es_ h_ l_ => ?_)
  obtain ⟨rfl, rfl⟩ := h_
  refine Aw.esq (pw_2 : putAt (EW (CxD X) b mo a h fb tp z tk jv jk pl mt yr lg ha x1 x2 tp.2 (hFs h) fb.2.2.2 yr.2.2.2.1 (zFaultP z) h.2.2.2.1 h.2.2.2.2.1 h.2.2.2.2.2 h.2.1 yr.2.2.2.2 h.1 lg tr bg en tkk op wn jn cq cm fk kd mk le ke tpm t og nm mf hm io rh mn wt jt nw pil my ai L tl ch) [0] _ = EW (CxD X) b mo a (h.1, h.2.1, hFs h, h.2.2.2.1, (if hDay (xs (i + 1)) = true then (xs (i + 1)) else h.2.2.2.2.1), h.2.2.2.2.2) fb tp z tk jv jk pl mt yr lg ha x1 x2 tp.2 (hFs h) fb.2.2.2 yr.2.2.2.1 (zFaultP z) h.2.2.2.1 h.2.2.2.2.1 h.2.2.2.2.2 h.2.1 yr.2.2.2.2 h.1 lg tr bg en tkk op wn jn cq cm fk kd mk le ke tpm t og nm mf hm io rh mn wt jt nw pil my ai L tl ch) ?_
  show Aw X (KS b mo a) (EW (CxD X) b mo a (h.1, h.2.1, hFs h, h.2.2.2.1, (if hDay (xs (i + 1)) = true then (xs (i + 1)) else h.2.2.2.2.1), h.2.2.2.2.2) fb tp z tk jv jk pl mt yr lg ha x1 x2 tp.2 (hFs h) fb.2.2.2 yr.2.2.2.1 (zFaultP z) h.2.2.2.1 h.2.2.2.2.1 h.2.2.2.2.2 h.2.1 yr.2.2.2.2 h.1 lg tr bg en tkk op wn jn cq cm fk kd mk le ke tpm t og nm mf hm io rh mn wt jt nw pil my ai L tl ch) 299 [(0, .ref sc), (1, .ref (b 0)), (2, .ref mo), (3, .int (nI i))] [.int (b2 (hDay (xs (i + 1))))]
  refine r_aload_n (n := 300) hX dL_law_299 rfl rfl 2 rfl ?_
  refine r_aload_n (n := 301) hX dL_law_300 rfl rfl 0 rfl ?_
  refine r_iload_n (n := 302) hX dL_law_301 rfl rfl 3 rfl ?_
  refine r_iconst (n := 303) hX 1 dL_law_302 rfl rfl ?_
  refine r_iadd (n := 304) hX dL_law_303 rfl ?_
  refine Aw.topi (nI (i + 1)) (nI_add _ _) ?_
  refine r_sld (n := 305) (i := i + 1) hX hsc (by omega) hL dL_law_304 rfl ?_
  refine r_callV (n := 308) (av := [.int (xs (i + 1))]) hX (ct_X11_term (CxL X) (CxD X) mo a tp.2 tr (hFs h) fb.2.2.2 yr.2.2.2.1 bg en tkk op wn jn cq cm fk (zFaultP z) h.2.2.2.1 h.2.2.2.2.1 h.2.2.2.2.2 h.2.1 kd mk le yr.2.2.2.2 h.1 ke (xs (i + 1))) ml_L_44 cv_X11_term rfl (by decide) [60] rfl rfl (by decide) 60 rfl rfl rfl rfl rfl (Nat.le_of_ble_eq_true rfl) dL_law_305 rfl (fun r_ es_ h_ l_ => ?_)
  obtain ⟨rfl, rfl⟩ := h_
  refine Aw.esq (pw_3 : putAt (EW (CxD X) b mo a (h.1, h.2.1, hFs h, h.2.2.2.1, (if hDay (xs (i + 1)) = true then (xs (i + 1)) else h.2.2.2.2.1), h.2.2.2.2.2) fb tp z tk jv jk pl mt yr lg ha x1 x2 tp.2 (hFs h) fb.2.2.2 yr.2.2.2.1 (zFaultP z) h.2.2.2.1 h.2.2.2.2.1 h.2.2.2.2.2 h.2.1 yr.2.2.2.2 h.1 lg tr bg en tkk op wn jn cq cm fk kd mk le ke tpm t og nm mf hm io rh mn wt jt nw pil my ai L tl ch) [60] _ = EW (CxD X) b mo a (h.1, h.2.1, hFs h, h.2.2.2.1, (if hDay (xs (i + 1)) = true then (xs (i + 1)) else h.2.2.2.2.1), h.2.2.2.2.2) fb tp z tk jv jk pl mt yr lg ha x1 x2 tp.2 (hFs h) fb.2.2.2 yr.2.2.2.1 (zFaultP z) h.2.2.2.1 (if hDay (xs (i + 1)) = true then (xs (i + 1)) else h.2.2.2.2.1) h.2.2.2.2.2 h.2.1 yr.2.2.2.2 h.1 lg tr bg en tkk op wn jn cq cm fk kd mk le ke tpm t og nm mf hm io rh mn wt jt nw pil my ai L tl ch) ?_
  show Aw X (KS b mo a) (EW (CxD X) b mo a (h.1, h.2.1, hFs h, h.2.2.2.1, (if hDay (xs (i + 1)) = true then (xs (i + 1)) else h.2.2.2.2.1), h.2.2.2.2.2) fb tp z tk jv jk pl mt yr lg ha x1 x2 tp.2 (hFs h) fb.2.2.2 yr.2.2.2.1 (zFaultP z) h.2.2.2.1 (if hDay (xs (i + 1)) = true then (xs (i + 1)) else h.2.2.2.2.1) h.2.2.2.2.2 h.2.1 yr.2.2.2.2 h.1 lg tr bg en tkk op wn jn cq cm fk kd mk le ke tpm t og nm mf hm io rh mn wt jt nw pil my ai L tl ch) 308 [(0, .ref sc), (1, .ref (b 0)), (2, .ref mo), (3, .int (nI i))] [.int (b2 (hDay (xs (i + 1)))), .int (b2 (hDay (xs (i + 1))))]
  refine r_icmp_eq (tgt := 735) (n := 311) hX dL_law_308 (by decide) rfl (fun _ => ?_) (fun hne => absurd (rfl) hne)
  exact kk b (h.1, h.2.1, hFs h, h.2.2.2.1, (if hDay (xs (i + 1)) = true then (xs (i + 1)) else h.2.2.2.2.1), h.2.2.2.2.2) fb tp z tk jv jk pl mt yr lg ha x1 x2 tp.2 (hFs h) fb.2.2.2 yr.2.2.2.1 (zFaultP z) h.2.2.2.1 (if hDay (xs (i + 1)) = true then (xs (i + 1)) else h.2.2.2.2.1) h.2.2.2.2.2 h.2.1 yr.2.2.2.2 h.1 lg tr bg en tkk op wn jn cq cm fk kd mk le ke tpm t og nm mf hm io rh mn wt jt nw pil my ai L tl ch rfl ⟨⟨rfl, rfl, rfl, rfl, rfl, rfl, rfl, rfl, rfl, rfl, rfl, rfl⟩, ⟨hTp, hFc, hT1, hT2⟩, ⟨hW1, hW2, hWz⟩, ⟨hPlI, hMt, hn⟩, ⟨hHa, hHm, hIo, hFn⟩, ⟨hMv, hMn⟩, (hDb.more (Nat.le_succ _)), ⟨oHa, oRh, hMy, oAi⟩, hLs, oTl, oCh, zHa, hBg⟩
set_option maxHeartbeats 4000000 in
set_option maxRecDepth 100000 in
theorem law_tell {X : Cx} {b : Nat → Nat} {mo : Nat} {a : Nat → Nat} {sc Ln i N : Nat} {xs : Nat → Int32} (hX : Ok X cL_law 4 RL 36) (hsc : Sc X sc Ln xs) (hL : Ln ≤ 3072) (hi : i + 6 ≤ Ln) (hN : N < 1000000) (kk : ∀ (b' : Nat → Nat) (h : HS) (fb : FB) (tp : TP) (z : PZ) (tk : TK) (jv : Nat → Int32) (jk : Nat → Int32) (pl : PL) (mt : MT) (yr : YR) (lg : LG) (ha : Nat → Option Nat) (x1 : TX) (x2 : TX) (tn : Nat) (fm : Nat) (fn : Nat) (mv : Nat) (fp : Int32) (ck : Int32) (te : Int32) (yn : Int32) (rc : Int32) (hp : Bool) (ir : Bool) (lgm : LG) (tr : Nat) (bg : Nat) (en : Nat) (tkk : Nat) (op : Nat) (wn : Nat) (jn : Nat) (cq : Nat) (cm : Nat) (fk : Int32) (kd : Int32) (mk : Int32) (le : Int64) (ke : Bool) (tpm : Nat → Int32) (t : MR) (og : Nat → Nat) (nm : Nat → Int64) (mf : MF) (hm : Nat → Option Nat) (io : Nat → Bool) (rh : Nat → Option Nat) (mn : Nat → Nat) (wt : Nat → Int32) (jt : Nat → Int32) (nw : Nat → Int32) (pil : Nat → Int32) (my : MY) (ai : Nat → Option Nat) (L : Nat → Nat) (tl : Nat → Option Nat) (ch : Nat → Option Nat), b' 0 = b 0 → SR (N + 1) h fb tp z tk jv jk pl mt yr lg ha x1 x2 tn fm fn mv fp ck te yn rc hp ir lgm tr bg en tkk op wn jn cq cm fk kd mk le ke tpm t og nm mf hm io rh mn wt jt nw pil my ai L tl ch → Aw X (KS b' mo a) (EW (CxD X) b' mo a h fb tp z tk jv jk pl mt yr lg ha x1 x2 tn fm fn mv fp ck te yn rc hp ir lgm tr bg en tkk op wn jn cq cm fk kd mk le ke tpm t og nm mf hm io rh mn wt jt nw pil my ai L tl ch) 735 [(0, .ref sc), (1, .ref (b 0)), (2, .ref mo), (3, .int (nI i))] []) (h : HS) (fb : FB) (tp : TP) (z : PZ) (tk : TK) (jv : Nat → Int32) (jk : Nat → Int32) (pl : PL) (mt : MT) (yr : YR) (lg : LG) (ha : Nat → Option Nat) (x1 : TX) (x2 : TX) (tn : Nat) (fm : Nat) (fn : Nat) (mv : Nat) (fp : Int32) (ck : Int32) (te : Int32) (yn : Int32) (rc : Int32) (hp : Bool) (ir : Bool) (lgm : LG) (tr : Nat) (bg : Nat) (en : Nat) (tkk : Nat) (op : Nat) (wn : Nat) (jn : Nat) (cq : Nat) (cm : Nat) (fk : Int32) (kd : Int32) (mk : Int32) (le : Int64) (ke : Bool) (tpm : Nat → Int32) (t : MR) (og : Nat → Nat) (nm : Nat → Int64) (mf : MF) (hm : Nat → Option Nat) (io : Nat → Bool) (rh : Nat → Option Nat) (mn : Nat → Nat) (wt : Nat → Int32) (jt : Nat → Int32) (nw : Nat → Int32) (pil : Nat → Int32) (my : MY) (ai : Nat → Option Nat) (L : Nat → Nat) (tl : Nat → Option Nat) (ch : Nat → Option Nat) (hR : SR N h fb tp z tk jv jk pl mt yr lg ha x1 x2 tn fm fn mv fp ck te yn rc hp ir lgm tr bg en tkk op wn jn cq cm fk kd mk le ke tpm t og nm mf hm io rh mn wt jt nw pil my ai L tl ch) : Aw X (KS b mo a) (EW (CxD X) b mo a h fb tp z tk jv jk pl mt yr lg ha x1 x2 tn fm fn mv fp ck te yn rc hp ir lgm tr bg en tkk op wn jn cq cm fk kd mk le ke tpm t og nm mf hm io rh mn wt jt nw pil my ai L tl ch) 313 [(0, .ref sc), (1, .ref (b 0)), (2, .ref mo), (3, .int (nI i))] [] := by
  obtain ⟨⟨rfl, rfl, rfl, rfl, rfl, rfl, rfl, rfl, rfl, rfl, rfl, rfl⟩, ⟨hTp, hFc, hT1, hT2⟩, ⟨hW1, hW2, hWz⟩, ⟨hPlI, hMt, hn⟩, ⟨hHa, hHm, hIo, hFn⟩, ⟨hMv, hMn⟩, hDb, ⟨oHa, oRh, hMy, oAi⟩, hLs, oTl, oCh, zHa, hBg⟩ := hR
  rcases ix_cases (xs (i + 2)) with hw | ⟨j, hj, hw⟩
  · skip
    refine r_aload_n (n := 314) hX dL_law_313 rfl rfl 1 rfl ?_
    refine r_aload_n (n := 315) hX dL_law_314 rfl rfl 0 rfl ?_
    refine r_iload_n (n := 316) hX dL_law_315 rfl rfl 3 rfl ?_
    refine r_iconst (n := 317) hX 1 dL_law_316 rfl rfl ?_
    refine r_iadd (n := 318) hX dL_law_317 rfl ?_
    refine Aw.topi (nI (i + 1)) (nI_add _ _) ?_
    refine r_sld (n := 319) (i := i + 1) hX hsc (by omega) hL dL_law_318 rfl ?_
    refine r_aload_n (n := 320) hX dL_law_319 rfl rfl 0 rfl ?_
    refine r_iload_n (n := 321) hX dL_law_320 rfl rfl 3 rfl ?_
    refine r_iconst (n := 322) hX 2 dL_law_321 rfl rfl ?_
    refine r_iadd (n := 323) hX dL_law_322 rfl ?_
    refine Aw.topi (nI (i + 2)) (nI_add _ _) ?_
    refine r_sld (n := 324) (i := i + 2) hX hsc (by omega) hL dL_law_323 rfl ?_
    refine r_aload_n (n := 325) hX dL_law_324 rfl rfl 0 rfl ?_
    refine r_iload_n (n := 326) hX dL_law_325 rfl rfl 3 rfl ?_
    refine r_iconst (n := 327) hX 3 dL_law_326 rfl rfl ?_
    refine r_iadd (n := 328) hX dL_law_327 rfl ?_
    refine Aw.topi (nI (i + 3)) (nI_add _ _) ?_
    refine r_sld (n := 329) (i := i + 3) hX hsc (by omega) hL dL_law_328 rfl ?_
    refine r_callV (n := 332) (av := [.int (xs (i + 1)), .int (xs (i + 2)), .int (xs (i + 3))]) hX (ct_X10_tell_neg (CxL X) (CxD X) (b 0) (b 1) (b 5) (b 7) (b 19) (b 22) (b 37) (b 41) (b 45) (b 46) (b 53) h (xs (i + 1)) (xs (i + 2)) (xs (i + 3)) hn hw) ml_L_45 cv_X10_tell rfl (by decide) [0] rfl rfl (by decide) 0 rfl rfl rfl rfl rfl (Nat.le_of_ble_eq_true rfl) dL_law_329 rfl (fun r_ es_ h_ l_ => ?_)
    obtain ⟨rfl, rfl⟩ := h_
    refine Aw.esq (pw_2 : putAt (EW (CxD X) b mo a h fb tp z tk jv jk pl mt yr lg ha x1 x2 tp.2 (hFs h) fb.2.2.2 yr.2.2.2.1 (zFaultP z) h.2.2.2.1 h.2.2.2.2.1 h.2.2.2.2.2 h.2.1 yr.2.2.2.2 h.1 lg tr bg en tkk op wn jn cq cm fk kd mk le ke tpm t og nm mf hm io rh mn wt jt nw pil my ai L tl ch) [0] _ = EW (CxD X) b mo a h fb tp z tk jv jk pl mt yr lg ha x1 x2 tp.2 (hFs h) fb.2.2.2 yr.2.2.2.1 (zFaultP z) h.2.2.2.1 h.2.2.2.2.1 h.2.2.2.2.2 h.2.1 yr.2.2.2.2 h.1 lg tr bg en tkk op wn jn cq cm fk kd mk le ke tpm t og nm mf hm io rh mn wt jt nw pil my ai L tl ch) ?_
    show Aw X (KS b mo a) (EW (CxD X) b mo a h fb tp z tk jv jk pl mt yr lg ha x1 x2 tp.2 (hFs h) fb.2.2.2 yr.2.2.2.1 (zFaultP z) h.2.2.2.1 h.2.2.2.2.1 h.2.2.2.2.2 h.2.1 yr.2.2.2.2 h.1 lg tr bg en tkk op wn jn cq cm fk kd mk le ke tpm t og nm mf hm io rh mn wt jt nw pil my ai L tl ch) 332 [(0, .ref sc), (1, .ref (b 0)), (2, .ref mo), (3, .int (nI i))] [.int (-1)]
    refine r_aload_n (n := 333) hX dL_law_332 rfl rfl 2 rfl ?_
    refine r_aload_n (n := 334) hX dL_law_333 rfl rfl 0 rfl ?_
    refine r_iload_n (n := 335) hX dL_law_334 rfl rfl 3 rfl ?_
    refine r_iconst (n := 336) hX 1 dL_law_335 rfl rfl ?_
    refine r_iadd (n := 337) hX dL_law_336 rfl ?_
    refine Aw.topi (nI (i + 1)) (nI_add _ _) ?_
    refine r_sld (n := 338) (i := i + 1) hX hsc (by omega) hL dL_law_337 rfl ?_
    refine r_aload_n (n := 339) hX dL_law_338 rfl rfl 0 rfl ?_
    refine r_iload_n (n := 340) hX dL_law_339 rfl rfl 3 rfl ?_
    refine r_iconst (n := 341) hX 2 dL_law_340 rfl rfl ?_
    refine r_iadd (n := 342) hX dL_law_341 rfl ?_
    refine Aw.topi (nI (i + 2)) (nI_add _ _) ?_
    refine r_sld (n := 343) (i := i + 2) hX hsc (by omega) hL dL_law_342 rfl ?_
    refine r_aload_n (n := 344) hX dL_law_343 rfl rfl 0 rfl ?_
    refine r_iload_n (n := 345) hX dL_law_344 rfl rfl 3 rfl ?_
    refine r_iconst (n := 346) hX 3 dL_law_345 rfl rfl ?_
    refine r_iadd (n := 347) hX dL_law_346 rfl ?_
    refine Aw.topi (nI (i + 3)) (nI_add _ _) ?_
    refine r_sld (n := 348) (i := i + 3) hX hsc (by omega) hL dL_law_347 rfl ?_
    refine r_callV (n := 351) (av := [.int (xs (i + 1)), .int (xs (i + 2)), .int (xs (i + 3))]) hX (ct_m_tellNeg (CxL X) (CxD X) mo a tp.2 tr (hFs h) fb.2.2.2 yr.2.2.2.1 bg en tkk op wn jn cq cm fk (zFaultP z) h.2.2.2.1 h.2.2.2.2.1 h.2.2.2.2.2 h.2.1 kd mk le yr.2.2.2.2 h.1 ke (xs (i + 1)) (xs (i + 2)) (xs (i + 3)) hw hFc.2.1) ml_L_49 cv_X11_tell rfl (by decide) [60] rfl rfl (by decide) 60 rfl rfl rfl rfl rfl (Nat.le_of_ble_eq_true rfl) dL_law_348 rfl (fun r_ es_ h_ l_ => ?_)
    obtain ⟨rfl, rfl⟩ := h_
    refine Aw.esq (pw_3 : putAt (EW (CxD X) b mo a h fb tp z tk jv jk pl mt yr lg ha x1 x2 tp.2 (hFs h) fb.2.2.2 yr.2.2.2.1 (zFaultP z) h.2.2.2.1 h.2.2.2.2.1 h.2.2.2.2.2 h.2.1 yr.2.2.2.2 h.1 lg tr bg en tkk op wn jn cq cm fk kd mk le ke tpm t og nm mf hm io rh mn wt jt nw pil my ai L tl ch) [60] _ = EW (CxD X) b mo a h fb tp z tk jv jk pl mt yr lg ha x1 x2 tp.2 (hFs h) fb.2.2.2 yr.2.2.2.1 (zFaultP z) h.2.2.2.1 h.2.2.2.2.1 h.2.2.2.2.2 h.2.1 yr.2.2.2.2 h.1 lg tr bg en tkk op wn jn cq cm fk kd mk le ke tpm t og nm mf hm io rh mn wt jt nw pil my ai L tl ch) ?_
    show Aw X (KS b mo a) (EW (CxD X) b mo a h fb tp z tk jv jk pl mt yr lg ha x1 x2 tp.2 (hFs h) fb.2.2.2 yr.2.2.2.1 (zFaultP z) h.2.2.2.1 h.2.2.2.2.1 h.2.2.2.2.2 h.2.1 yr.2.2.2.2 h.1 lg tr bg en tkk op wn jn cq cm fk kd mk le ke tpm t og nm mf hm io rh mn wt jt nw pil my ai L tl ch) 351 [(0, .ref sc), (1, .ref (b 0)), (2, .ref mo), (3, .int (nI i))] [.int (-1), .int (-1)]
    refine r_icmp_eq (tgt := 735) (n := 354) hX dL_law_351 (by decide) rfl (fun _ => ?_) (fun hne => absurd (rfl) hne)
    exact kk b h fb tp z tk jv jk pl mt yr lg ha x1 x2 tp.2 (hFs h) fb.2.2.2 yr.2.2.2.1 (zFaultP z) h.2.2.2.1 h.2.2.2.2.1 h.2.2.2.2.2 h.2.1 yr.2.2.2.2 h.1 lg tr bg en tkk op wn jn cq cm fk kd mk le ke tpm t og nm mf hm io rh mn wt jt nw pil my ai L tl ch rfl ⟨⟨rfl, rfl, rfl, rfl, rfl, rfl, rfl, rfl, rfl, rfl, rfl, rfl⟩, ⟨hTp, hFc, hT1, hT2⟩, ⟨hW1, hW2, hWz⟩, ⟨hPlI, hMt, hn⟩, ⟨hHa, hHm, hIo, hFn⟩, ⟨hMv, hMn⟩, (hDb.more (Nat.le_succ _)), ⟨oHa, oRh, hMy, oAi⟩, hLs, oTl, oCh, zHa, hBg⟩
  · by_cases hb : hFam (hFs h) (xs (i + 1)) = false ∨ hCol (hFs h) j = none
    · skip
      refine r_aload_n (n := 314) hX dL_law_313 rfl rfl 1 rfl ?_
      refine r_aload_n (n := 315) hX dL_law_314 rfl rfl 0 rfl ?_
      refine r_iload_n (n := 316) hX dL_law_315 rfl rfl 3 rfl ?_
      refine r_iconst (n := 317) hX 1 dL_law_316 rfl rfl ?_
      refine r_iadd (n := 318) hX dL_law_317 rfl ?_
      refine Aw.topi (nI (i + 1)) (nI_add _ _) ?_
      refine r_sld (n := 319) (i := i + 1) hX hsc (by omega) hL dL_law_318 rfl ?_
      refine r_aload_n (n := 320) hX dL_law_319 rfl rfl 0 rfl ?_
      refine r_iload_n (n := 321) hX dL_law_320 rfl rfl 3 rfl ?_
      refine r_iconst (n := 322) hX 2 dL_law_321 rfl rfl ?_
      refine r_iadd (n := 323) hX dL_law_322 rfl ?_
      refine Aw.topi (nI (i + 2)) (nI_add _ _) ?_
      refine r_sld (n := 324) (i := i + 2) hX hsc (by omega) hL dL_law_323 rfl ?_
      refine Aw.topi (nI j) hw ?_
      refine r_aload_n (n := 325) hX dL_law_324 rfl rfl 0 rfl ?_
      refine r_iload_n (n := 326) hX dL_law_325 rfl rfl 3 rfl ?_
      refine r_iconst (n := 327) hX 3 dL_law_326 rfl rfl ?_
      refine r_iadd (n := 328) hX dL_law_327 rfl ?_
      refine Aw.topi (nI (i + 3)) (nI_add _ _) ?_
      refine r_sld (n := 329) (i := i + 3) hX hsc (by omega) hL dL_law_328 rfl ?_
      refine r_callV (n := 332) (av := [.int (xs (i + 1)), .int (nI j), .int (xs (i + 3))]) hX (ct_X10_tell_bad (CxL X) (CxD X) (b 0) (b 1) (b 5) (b 7) (b 19) (b 22) (b 37) (b 41) (b 45) (b 46) (b 53) h (xs (i + 1)) (xs (i + 3)) j hn hj hb) ml_L_45 cv_X10_tell rfl (by decide) [0] rfl rfl (by decide) 0 rfl rfl rfl rfl rfl (Nat.le_of_ble_eq_true rfl) dL_law_329 rfl (fun r_ es_ h_ l_ => ?_)
      obtain ⟨rfl, rfl⟩ := h_
      refine Aw.esq (pw_2 : putAt (EW (CxD X) b mo a h fb tp z tk jv jk pl mt yr lg ha x1 x2 tp.2 (hFs h) fb.2.2.2 yr.2.2.2.1 (zFaultP z) h.2.2.2.1 h.2.2.2.2.1 h.2.2.2.2.2 h.2.1 yr.2.2.2.2 h.1 lg tr bg en tkk op wn jn cq cm fk kd mk le ke tpm t og nm mf hm io rh mn wt jt nw pil my ai L tl ch) [0] _ = EW (CxD X) b mo a h fb tp z tk jv jk pl mt yr lg ha x1 x2 tp.2 (hFs h) fb.2.2.2 yr.2.2.2.1 (zFaultP z) h.2.2.2.1 h.2.2.2.2.1 h.2.2.2.2.2 h.2.1 yr.2.2.2.2 h.1 lg tr bg en tkk op wn jn cq cm fk kd mk le ke tpm t og nm mf hm io rh mn wt jt nw pil my ai L tl ch) ?_
      show Aw X (KS b mo a) (EW (CxD X) b mo a h fb tp z tk jv jk pl mt yr lg ha x1 x2 tp.2 (hFs h) fb.2.2.2 yr.2.2.2.1 (zFaultP z) h.2.2.2.1 h.2.2.2.2.1 h.2.2.2.2.2 h.2.1 yr.2.2.2.2 h.1 lg tr bg en tkk op wn jn cq cm fk kd mk le ke tpm t og nm mf hm io rh mn wt jt nw pil my ai L tl ch) 332 [(0, .ref sc), (1, .ref (b 0)), (2, .ref mo), (3, .int (nI i))] [.int (-1)]
      refine r_aload_n (n := 333) hX dL_law_332 rfl rfl 2 rfl ?_
      refine r_aload_n (n := 334) hX dL_law_333 rfl rfl 0 rfl ?_
      refine r_iload_n (n := 335) hX dL_law_334 rfl rfl 3 rfl ?_
      refine r_iconst (n := 336) hX 1 dL_law_335 rfl rfl ?_
      refine r_iadd (n := 337) hX dL_law_336 rfl ?_
      refine Aw.topi (nI (i + 1)) (nI_add _ _) ?_
      refine r_sld (n := 338) (i := i + 1) hX hsc (by omega) hL dL_law_337 rfl ?_
      refine r_aload_n (n := 339) hX dL_law_338 rfl rfl 0 rfl ?_
      refine r_iload_n (n := 340) hX dL_law_339 rfl rfl 3 rfl ?_
      refine r_iconst (n := 341) hX 2 dL_law_340 rfl rfl ?_
      refine r_iadd (n := 342) hX dL_law_341 rfl ?_
      refine Aw.topi (nI (i + 2)) (nI_add _ _) ?_
      refine r_sld (n := 343) (i := i + 2) hX hsc (by omega) hL dL_law_342 rfl ?_
      refine Aw.topi (nI j) hw ?_
      refine r_aload_n (n := 344) hX dL_law_343 rfl rfl 0 rfl ?_
      refine r_iload_n (n := 345) hX dL_law_344 rfl rfl 3 rfl ?_
      refine r_iconst (n := 346) hX 3 dL_law_345 rfl rfl ?_
      refine r_iadd (n := 347) hX dL_law_346 rfl ?_
      refine Aw.topi (nI (i + 3)) (nI_add _ _) ?_
      refine r_sld (n := 348) (i := i + 3) hX hsc (by omega) hL dL_law_347 rfl ?_
      refine r_callV (n := 351) (av := [.int (xs (i + 1)), .int (nI j), .int (xs (i + 3))]) hX (ct_m_tellBad (CxL X) (CxD X) mo a tp.2 tr (hFs h) fb.2.2.2 yr.2.2.2.1 bg en tkk op wn jn cq cm fk (zFaultP z) h.2.2.2.1 h.2.2.2.2.1 h.2.2.2.2.2 h.2.1 kd mk le yr.2.2.2.2 h.1 ke (xs (i + 1)) (xs (i + 3)) j hn hFc.2.1 hj (fun q => by rcases hb with z | z; rw [fam_same hn] at z; rw [z] at q; exact absurd q.2.1 (by decide); rw [z] at q; exact absurd q.2.2.1 (by decide))) ml_L_49 cv_X11_tell rfl (by decide) [60] rfl rfl (by decide) 60 rfl rfl rfl rfl rfl (Nat.le_of_ble_eq_true rfl) dL_law_348 rfl (fun r_ es_ h_ l_ => ?_)
      obtain ⟨rfl, rfl⟩ := h_
      refine Aw.esq (pw_3 : putAt (EW (CxD X) b mo a h fb tp z tk jv jk pl mt yr lg ha x1 x2 tp.2 (hFs h) fb.2.2.2 yr.2.2.2.1 (zFaultP z) h.2.2.2.1 h.2.2.2.2.1 h.2.2.2.2.2 h.2.1 yr.2.2.2.2 h.1 lg tr bg en tkk op wn jn cq cm fk kd mk le ke tpm t og nm mf hm io rh mn wt jt nw pil my ai L tl ch) [60] _ = EW (CxD X) b mo a h fb tp z tk jv jk pl mt yr lg ha x1 x2 tp.2 (hFs h) fb.2.2.2 yr.2.2.2.1 (zFaultP z) h.2.2.2.1 h.2.2.2.2.1 h.2.2.2.2.2 h.2.1 yr.2.2.2.2 h.1 lg tr bg en tkk op wn jn cq cm fk kd mk le ke tpm t og nm mf hm io rh mn wt jt nw pil my ai L tl ch) ?_
      show Aw X (KS b mo a) (EW (CxD X) b mo a h fb tp z tk jv jk pl mt yr lg ha x1 x2 tp.2 (hFs h) fb.2.2.2 yr.2.2.2.1 (zFaultP z) h.2.2.2.1 h.2.2.2.2.1 h.2.2.2.2.2 h.2.1 yr.2.2.2.2 h.1 lg tr bg en tkk op wn jn cq cm fk kd mk le ke tpm t og nm mf hm io rh mn wt jt nw pil my ai L tl ch) 351 [(0, .ref sc), (1, .ref (b 0)), (2, .ref mo), (3, .int (nI i))] [.int (-1), .int (-1)]
      refine r_icmp_eq (tgt := 735) (n := 354) hX dL_law_351 (by decide) rfl (fun _ => ?_) (fun hne => absurd (rfl) hne)
      exact kk b h fb tp z tk jv jk pl mt yr lg ha x1 x2 tp.2 (hFs h) fb.2.2.2 yr.2.2.2.1 (zFaultP z) h.2.2.2.1 h.2.2.2.2.1 h.2.2.2.2.2 h.2.1 yr.2.2.2.2 h.1 lg tr bg en tkk op wn jn cq cm fk kd mk le ke tpm t og nm mf hm io rh mn wt jt nw pil my ai L tl ch rfl ⟨⟨rfl, rfl, rfl, rfl, rfl, rfl, rfl, rfl, rfl, rfl, rfl, rfl⟩, ⟨hTp, hFc, hT1, hT2⟩, ⟨hW1, hW2, hWz⟩, ⟨hPlI, hMt, hn⟩, ⟨hHa, hHm, hIo, hFn⟩, ⟨hMv, hMn⟩, (hDb.more (Nat.le_succ _)), ⟨oHa, oRh, hMy, oAi⟩, hLs, oTl, oCh, zHa, hBg⟩
    · rcases fam_ix hn (xs (i + 1)) with hz | ⟨f, hf, hfw⟩
      · exact absurd (Or.inl hz) hb
      · cases hc : hCol (hFs h) j with
        | none => exact absurd (Or.inr hc) hb
        | some c =>
          by_cases hv : fb.2.2.2 < 400 ∧ mFits j (xs (i + 3)) = true
          · obtain ⟨t1_, t2_, t3_⟩ := tell_day hFc hn hf hc hv.1 hv.2
            refine r_aload_n (n := 314) hX dL_law_313 rfl rfl 1 rfl ?_
            refine r_aload_n (n := 315) hX dL_law_314 rfl rfl 0 rfl ?_
            refine r_iload_n (n := 316) hX dL_law_315 rfl rfl 3 rfl ?_
            refine r_iconst (n := 317) hX 1 dL_law_316 rfl rfl ?_
            refine r_iadd (n := 318) hX dL_law_317 rfl ?_
            refine Aw.topi (nI (i + 1)) (nI_add _ _) ?_
            refine r_sld (n := 319) (i := i + 1) hX hsc (by omega) hL dL_law_318 rfl ?_
            refine Aw.topi (nI f) hfw ?_
            refine r_aload_n (n := 320) hX dL_law_319 rfl rfl 0 rfl ?_
            refine r_iload_n (n := 321) hX dL_law_320 rfl rfl 3 rfl ?_
            refine r_iconst (n := 322) hX 2 dL_law_321 rfl rfl ?_
            refine r_iadd (n := 323) hX dL_law_322 rfl ?_
            refine Aw.topi (nI (i + 2)) (nI_add _ _) ?_
            refine r_sld (n := 324) (i := i + 2) hX hsc (by omega) hL dL_law_323 rfl ?_
            refine Aw.topi (nI j) hw ?_
            refine r_aload_n (n := 325) hX dL_law_324 rfl rfl 0 rfl ?_
            refine r_iload_n (n := 326) hX dL_law_325 rfl rfl 3 rfl ?_
            refine r_iconst (n := 327) hX 3 dL_law_326 rfl rfl ?_
            refine r_iadd (n := 328) hX dL_law_327 rfl ?_
            refine Aw.topi (nI (i + 3)) (nI_add _ _) ?_
            refine r_sld (n := 329) (i := i + 3) hX hsc (by omega) hL dL_law_328 rfl ?_
            refine r_callV (n := 332) (av := [.int (nI f), .int (nI j), .int (xs (i + 3))]) hX (ct_X10_tell (CxL X) (CxD X) (b 0) (b 1) (b 5) (b 7) (b 19) (b 22) (b 37) (b 41) (b 45) (b 46) (b 53) (b 2) (b 3) (b 4) h fb f j c (xs (i + 3)) hn hj hc hf hFc.2.1) ml_L_45 cv_X10_tell rfl (by decide) [0, 1, 2, 3, 4] rfl rfl (by decide) 0 rfl rfl rfl rfl rfl (Nat.le_of_ble_eq_true rfl) dL_law_329 rfl (fun r_ es_ h_ l_ => ?_)
            obtain ⟨rfl, rfl⟩ := h_
            refine Aw.esq (pw_5 : putAt (EW (CxD X) b mo a h fb tp z tk jv jk pl mt yr lg ha x1 x2 tp.2 (hFs h) fb.2.2.2 yr.2.2.2.1 (zFaultP z) h.2.2.2.1 h.2.2.2.2.1 h.2.2.2.2.2 h.2.1 yr.2.2.2.2 h.1 lg tr bg en tkk op wn jn cq cm fk kd mk le ke tpm t og nm mf hm io rh mn wt jt nw pil my ai L tl ch) [0, 1, 2, 3, 4] _ = EW (CxD X) b mo a h (hTell fb f c (xs (i + 3)) h.2.2.2.1).2 tp z tk jv jk pl mt yr lg ha x1 x2 tp.2 (hFs h) fb.2.2.2 yr.2.2.2.1 (zFaultP z) h.2.2.2.1 h.2.2.2.2.1 h.2.2.2.2.2 h.2.1 yr.2.2.2.2 h.1 lg tr bg en tkk op wn jn cq cm fk kd mk le ke tpm t og nm mf hm io rh mn wt jt nw pil my ai L tl ch) ?_
            show Aw X (KS b mo a) (EW (CxD X) b mo a h (hTell fb f c (xs (i + 3)) h.2.2.2.1).2 tp z tk jv jk pl mt yr lg ha x1 x2 tp.2 (hFs h) fb.2.2.2 yr.2.2.2.1 (zFaultP z) h.2.2.2.1 h.2.2.2.2.1 h.2.2.2.2.2 h.2.1 yr.2.2.2.2 h.1 lg tr bg en tkk op wn jn cq cm fk kd mk le ke tpm t og nm mf hm io rh mn wt jt nw pil my ai L tl ch) 332 [(0, .ref sc), (1, .ref (b 0)), (2, .ref mo), (3, .int (nI i))] [.int ((hTell fb f c (xs (i + 3)) h.2.2.2.1).1)]
            refine r_aload_n (n := 333) hX dL_law_332 rfl rfl 2 rfl ?_
            refine r_aload_n (n := 334) hX dL_law_333 rfl rfl 0 rfl ?_
            refine r_iload_n (n := 335) hX dL_law_334 rfl rfl 3 rfl ?_
            refine r_iconst (n := 336) hX 1 dL_law_335 rfl rfl ?_
            refine r_iadd (n := 337) hX dL_law_336 rfl ?_
            refine Aw.topi (nI (i + 1)) (nI_add _ _) ?_
            refine r_sld (n := 338) (i := i + 1) hX hsc (by omega) hL dL_law_337 rfl ?_
            refine Aw.topi (nI f) hfw ?_
            refine r_aload_n (n := 339) hX dL_law_338 rfl rfl 0 rfl ?_
            refine r_iload_n (n := 340) hX dL_law_339 rfl rfl 3 rfl ?_
            refine r_iconst (n := 341) hX 2 dL_law_340 rfl rfl ?_
            refine r_iadd (n := 342) hX dL_law_341 rfl ?_
            refine Aw.topi (nI (i + 2)) (nI_add _ _) ?_
            refine r_sld (n := 343) (i := i + 2) hX hsc (by omega) hL dL_law_342 rfl ?_
            refine Aw.topi (nI j) hw ?_
            refine r_aload_n (n := 344) hX dL_law_343 rfl rfl 0 rfl ?_
            refine r_iload_n (n := 345) hX dL_law_344 rfl rfl 3 rfl ?_
            refine r_iconst (n := 346) hX 3 dL_law_345 rfl rfl ?_
            refine r_iadd (n := 347) hX dL_law_346 rfl ?_
            refine Aw.topi (nI (i + 3)) (nI_add _ _) ?_
            refine r_sld (n := 348) (i := i + 3) hX hsc (by omega) hL dL_law_347 rfl ?_
            refine r_callV (n := 351) (av := [.int (nI f), .int (nI j), .int (xs (i + 3))]) hX (ct_m_tellOk (CxL X) (CxD X) mo a tp.2 tr (hFs h) fb.2.2.2 yr.2.2.2.1 bg en tkk op wn jn cq cm fk (zFaultP z) h.2.2.2.1 h.2.2.2.2.1 h.2.2.2.2.2 h.2.1 kd mk le yr.2.2.2.2 h.1 ke mf f j (xs (i + 3)) hn hv.1 hj hf (by rw [hc]; rfl) hv.2) ml_L_49 cv_X11_tell rfl (by decide) [60, 72, 73, 74, 75] rfl rfl (by decide) 60 rfl rfl rfl rfl rfl (Nat.le_of_ble_eq_true rfl) dL_law_348 rfl (fun r_ es_ h_ l_ => ?_)
            obtain ⟨rfl, rfl⟩ := h_
            refine Aw.esq (pw_6 : putAt (EW (CxD X) b mo a h (hTell fb f c (xs (i + 3)) h.2.2.2.1).2 tp z tk jv jk pl mt yr lg ha x1 x2 tp.2 (hFs h) fb.2.2.2 yr.2.2.2.1 (zFaultP z) h.2.2.2.1 h.2.2.2.2.1 h.2.2.2.2.2 h.2.1 yr.2.2.2.2 h.1 lg tr bg en tkk op wn jn cq cm fk kd mk le ke tpm t og nm mf hm io rh mn wt jt nw pil my ai L tl ch) [60, 72, 73, 74, 75] _ = EW (CxD X) b mo a h (hTell fb f c (xs (i + 3)) h.2.2.2.1).2 tp z tk jv jk pl mt yr lg ha x1 x2 tp.2 (hFs h) (fb.2.2.2 + 1) yr.2.2.2.1 (zFaultP z) h.2.2.2.1 h.2.2.2.2.1 h.2.2.2.2.2 h.2.1 yr.2.2.2.2 h.1 lg tr bg en tkk op wn jn cq cm fk kd mk le ke tpm t og nm (mAdd mf fb.2.2.2 f j (xs (i + 3)) h.2.2.2.1) hm io rh mn wt jt nw pil my ai L tl ch) ?_
            show Aw X (KS b mo a) (EW (CxD X) b mo a h (hTell fb f c (xs (i + 3)) h.2.2.2.1).2 tp z tk jv jk pl mt yr lg ha x1 x2 tp.2 (hFs h) (fb.2.2.2 + 1) yr.2.2.2.1 (zFaultP z) h.2.2.2.1 h.2.2.2.2.1 h.2.2.2.2.2 h.2.1 yr.2.2.2.2 h.1 lg tr bg en tkk op wn jn cq cm fk kd mk le ke tpm t og nm (mAdd mf fb.2.2.2 f j (xs (i + 3)) h.2.2.2.1) hm io rh mn wt jt nw pil my ai L tl ch) 351 [(0, .ref sc), (1, .ref (b 0)), (2, .ref mo), (3, .int (nI i))] [.int (nI fb.2.2.2), .int ((hTell fb f c (xs (i + 3)) h.2.2.2.1).1)]
            refine r_icmp_eq (tgt := 735) (n := 354) hX dL_law_351 (by decide) rfl (fun _ => ?_) (fun hne => absurd (t1_) hne)
            exact kk b h (hTell fb f c (xs (i + 3)) h.2.2.2.1).2 tp z tk jv jk pl mt yr lg ha x1 x2 tp.2 (hFs h) (fb.2.2.2 + 1) yr.2.2.2.1 (zFaultP z) h.2.2.2.1 h.2.2.2.2.1 h.2.2.2.2.2 h.2.1 yr.2.2.2.2 h.1 lg tr bg en tkk op wn jn cq cm fk kd mk le ke tpm t og nm (mAdd mf fb.2.2.2 f j (xs (i + 3)) h.2.2.2.1) hm io rh mn wt jt nw pil my ai L tl ch rfl ⟨⟨rfl, rfl, t2_, rfl, rfl, rfl, rfl, rfl, rfl, rfl, rfl, rfl⟩, ⟨hTp, t3_, hT1, hT2⟩, ⟨hW1, hW2, hWz⟩, ⟨hPlI, hMt, hn⟩, ⟨hHa, hHm, hIo, hFn⟩, ⟨hMv, hMn⟩, (hDb.more (Nat.le_succ _)), ⟨oHa, oRh, hMy, oAi⟩, hLs, oTl, oCh, zHa, hBg⟩
          · have t1_ := tell_not (x := f) (ck := h.2.2.2.1) hn hc hv
            refine r_aload_n (n := 314) hX dL_law_313 rfl rfl 1 rfl ?_
            refine r_aload_n (n := 315) hX dL_law_314 rfl rfl 0 rfl ?_
            refine r_iload_n (n := 316) hX dL_law_315 rfl rfl 3 rfl ?_
            refine r_iconst (n := 317) hX 1 dL_law_316 rfl rfl ?_
            refine r_iadd (n := 318) hX dL_law_317 rfl ?_
            refine Aw.topi (nI (i + 1)) (nI_add _ _) ?_
            refine r_sld (n := 319) (i := i + 1) hX hsc (by omega) hL dL_law_318 rfl ?_
            refine Aw.topi (nI f) hfw ?_
            refine r_aload_n (n := 320) hX dL_law_319 rfl rfl 0 rfl ?_
            refine r_iload_n (n := 321) hX dL_law_320 rfl rfl 3 rfl ?_
            refine r_iconst (n := 322) hX 2 dL_law_321 rfl rfl ?_
            refine r_iadd (n := 323) hX dL_law_322 rfl ?_
            refine Aw.topi (nI (i + 2)) (nI_add _ _) ?_
            refine r_sld (n := 324) (i := i + 2) hX hsc (by omega) hL dL_law_323 rfl ?_
            refine Aw.topi (nI j) hw ?_
            refine r_aload_n (n := 325) hX dL_law_324 rfl rfl 0 rfl ?_
            refine r_iload_n (n := 326) hX dL_law_325 rfl rfl 3 rfl ?_
            refine r_iconst (n := 327) hX 3 dL_law_326 rfl rfl ?_
            refine r_iadd (n := 328) hX dL_law_327 rfl ?_
            refine Aw.topi (nI (i + 3)) (nI_add _ _) ?_
            refine r_sld (n := 329) (i := i + 3) hX hsc (by omega) hL dL_law_328 rfl ?_
            refine r_callV (n := 332) (av := [.int (nI f), .int (nI j), .int (xs (i + 3))]) hX (ct_X10_tell (CxL X) (CxD X) (b 0) (b 1) (b 5) (b 7) (b 19) (b 22) (b 37) (b 41) (b 45) (b 46) (b 53) (b 2) (b 3) (b 4) h fb f j c (xs (i + 3)) hn hj hc hf hFc.2.1) ml_L_45 cv_X10_tell rfl (by decide) [0, 1, 2, 3, 4] rfl rfl (by decide) 0 rfl rfl rfl rfl rfl (Nat.le_of_ble_eq_true rfl) dL_law_329 rfl (fun r_ es_ h_ l_ => ?_)
            obtain ⟨rfl, rfl⟩ := h_
            refine Aw.esq (pw_5 : putAt (EW (CxD X) b mo a h fb tp z tk jv jk pl mt yr lg ha x1 x2 tp.2 (hFs h) fb.2.2.2 yr.2.2.2.1 (zFaultP z) h.2.2.2.1 h.2.2.2.2.1 h.2.2.2.2.2 h.2.1 yr.2.2.2.2 h.1 lg tr bg en tkk op wn jn cq cm fk kd mk le ke tpm t og nm mf hm io rh mn wt jt nw pil my ai L tl ch) [0, 1, 2, 3, 4] _ = EW (CxD X) b mo a h (hTell fb f c (xs (i + 3)) h.2.2.2.1).2 tp z tk jv jk pl mt yr lg ha x1 x2 tp.2 (hFs h) fb.2.2.2 yr.2.2.2.1 (zFaultP z) h.2.2.2.1 h.2.2.2.2.1 h.2.2.2.2.2 h.2.1 yr.2.2.2.2 h.1 lg tr bg en tkk op wn jn cq cm fk kd mk le ke tpm t og nm mf hm io rh mn wt jt nw pil my ai L tl ch) ?_
            show Aw X (KS b mo a) (EW (CxD X) b mo a h (hTell fb f c (xs (i + 3)) h.2.2.2.1).2 tp z tk jv jk pl mt yr lg ha x1 x2 tp.2 (hFs h) fb.2.2.2 yr.2.2.2.1 (zFaultP z) h.2.2.2.1 h.2.2.2.2.1 h.2.2.2.2.2 h.2.1 yr.2.2.2.2 h.1 lg tr bg en tkk op wn jn cq cm fk kd mk le ke tpm t og nm mf hm io rh mn wt jt nw pil my ai L tl ch) 332 [(0, .ref sc), (1, .ref (b 0)), (2, .ref mo), (3, .int (nI i))] [.int ((hTell fb f c (xs (i + 3)) h.2.2.2.1).1)]
            refine r_aload_n (n := 333) hX dL_law_332 rfl rfl 2 rfl ?_
            refine r_aload_n (n := 334) hX dL_law_333 rfl rfl 0 rfl ?_
            refine r_iload_n (n := 335) hX dL_law_334 rfl rfl 3 rfl ?_
            refine r_iconst (n := 336) hX 1 dL_law_335 rfl rfl ?_
            refine r_iadd (n := 337) hX dL_law_336 rfl ?_
            refine Aw.topi (nI (i + 1)) (nI_add _ _) ?_
            refine r_sld (n := 338) (i := i + 1) hX hsc (by omega) hL dL_law_337 rfl ?_
            refine Aw.topi (nI f) hfw ?_
            refine r_aload_n (n := 339) hX dL_law_338 rfl rfl 0 rfl ?_
            refine r_iload_n (n := 340) hX dL_law_339 rfl rfl 3 rfl ?_
            refine r_iconst (n := 341) hX 2 dL_law_340 rfl rfl ?_
            refine r_iadd (n := 342) hX dL_law_341 rfl ?_
            refine Aw.topi (nI (i + 2)) (nI_add _ _) ?_
            refine r_sld (n := 343) (i := i + 2) hX hsc (by omega) hL dL_law_342 rfl ?_
            refine Aw.topi (nI j) hw ?_
            refine r_aload_n (n := 344) hX dL_law_343 rfl rfl 0 rfl ?_
            refine r_iload_n (n := 345) hX dL_law_344 rfl rfl 3 rfl ?_
            refine r_iconst (n := 346) hX 3 dL_law_345 rfl rfl ?_
            refine r_iadd (n := 347) hX dL_law_346 rfl ?_
            refine Aw.topi (nI (i + 3)) (nI_add _ _) ?_
            refine r_sld (n := 348) (i := i + 3) hX hsc (by omega) hL dL_law_347 rfl ?_
            refine r_callV (n := 351) (av := [.int (nI f), .int (nI j), .int (xs (i + 3))]) hX (ct_m_tellBad (CxL X) (CxD X) mo a tp.2 tr (hFs h) fb.2.2.2 yr.2.2.2.1 bg en tkk op wn jn cq cm fk (zFaultP z) h.2.2.2.1 h.2.2.2.2.1 h.2.2.2.2.2 h.2.1 kd mk le yr.2.2.2.2 h.1 ke (nI f) (xs (i + 3)) j hn hFc.2.1 hj (fun q => hv ⟨q.1, q.2.2.2⟩)) ml_L_49 cv_X11_tell rfl (by decide) [60] rfl rfl (by decide) 60 rfl rfl rfl rfl rfl (Nat.le_of_ble_eq_true rfl) dL_law_348 rfl (fun r_ es_ h_ l_ => ?_)
            obtain ⟨rfl, rfl⟩ := h_
            refine Aw.esq (pw_3 : putAt (EW (CxD X) b mo a h (hTell fb f c (xs (i + 3)) h.2.2.2.1).2 tp z tk jv jk pl mt yr lg ha x1 x2 tp.2 (hFs h) fb.2.2.2 yr.2.2.2.1 (zFaultP z) h.2.2.2.1 h.2.2.2.2.1 h.2.2.2.2.2 h.2.1 yr.2.2.2.2 h.1 lg tr bg en tkk op wn jn cq cm fk kd mk le ke tpm t og nm mf hm io rh mn wt jt nw pil my ai L tl ch) [60] _ = EW (CxD X) b mo a h (hTell fb f c (xs (i + 3)) h.2.2.2.1).2 tp z tk jv jk pl mt yr lg ha x1 x2 tp.2 (hFs h) fb.2.2.2 yr.2.2.2.1 (zFaultP z) h.2.2.2.1 h.2.2.2.2.1 h.2.2.2.2.2 h.2.1 yr.2.2.2.2 h.1 lg tr bg en tkk op wn jn cq cm fk kd mk le ke tpm t og nm mf hm io rh mn wt jt nw pil my ai L tl ch) ?_
            show Aw X (KS b mo a) (EW (CxD X) b mo a h (hTell fb f c (xs (i + 3)) h.2.2.2.1).2 tp z tk jv jk pl mt yr lg ha x1 x2 tp.2 (hFs h) fb.2.2.2 yr.2.2.2.1 (zFaultP z) h.2.2.2.1 h.2.2.2.2.1 h.2.2.2.2.2 h.2.1 yr.2.2.2.2 h.1 lg tr bg en tkk op wn jn cq cm fk kd mk le ke tpm t og nm mf hm io rh mn wt jt nw pil my ai L tl ch) 351 [(0, .ref sc), (1, .ref (b 0)), (2, .ref mo), (3, .int (nI i))] [.int (-1), .int ((hTell fb f c (xs (i + 3)) h.2.2.2.1).1)]
            refine r_icmp_eq (tgt := 735) (n := 354) hX dL_law_351 (by decide) rfl (fun _ => ?_) (fun hne => absurd (by rw [t1_]) hne)
            exact kk b h (hTell fb f c (xs (i + 3)) h.2.2.2.1).2 tp z tk jv jk pl mt yr lg ha x1 x2 tp.2 (hFs h) fb.2.2.2 yr.2.2.2.1 (zFaultP z) h.2.2.2.1 h.2.2.2.2.1 h.2.2.2.2.2 h.2.1 yr.2.2.2.2 h.1 lg tr bg en tkk op wn jn cq cm fk kd mk le ke tpm t og nm mf hm io rh mn wt jt nw pil my ai L tl ch rfl ⟨⟨rfl, rfl, (by rw [t1_]), rfl, rfl, rfl, rfl, rfl, rfl, rfl, rfl, rfl⟩, ⟨hTp, (by rw [t1_]; exact hFc), hT1, hT2⟩, ⟨hW1, hW2, hWz⟩, ⟨hPlI, hMt, hn⟩, ⟨hHa, hHm, hIo, hFn⟩, ⟨hMv, hMn⟩, (hDb.more (Nat.le_succ _)), ⟨oHa, oRh, hMy, oAi⟩, hLs, oTl, oCh, zHa, hBg⟩
set_option maxHeartbeats 4000000 in
set_option maxRecDepth 100000 in
theorem law_known {X : Cx} {b : Nat → Nat} {mo : Nat} {a : Nat → Nat} {sc Ln i N : Nat} {xs : Nat → Int32} (hX : Ok X cL_law 4 RL 36) (hsc : Sc X sc Ln xs) (hL : Ln ≤ 3072) (hi : i + 6 ≤ Ln) (hN : N < 1000000) (kk : ∀ (b' : Nat → Nat) (h : HS) (fb : FB) (tp : TP) (z : PZ) (tk : TK) (jv : Nat → Int32) (jk : Nat → Int32) (pl : PL) (mt : MT) (yr : YR) (lg : LG) (ha : Nat → Option Nat) (x1 : TX) (x2 : TX) (tn : Nat) (fm : Nat) (fn : Nat) (mv : Nat) (fp : Int32) (ck : Int32) (te : Int32) (yn : Int32) (rc : Int32) (hp : Bool) (ir : Bool) (lgm : LG) (tr : Nat) (bg : Nat) (en : Nat) (tkk : Nat) (op : Nat) (wn : Nat) (jn : Nat) (cq : Nat) (cm : Nat) (fk : Int32) (kd : Int32) (mk : Int32) (le : Int64) (ke : Bool) (tpm : Nat → Int32) (t : MR) (og : Nat → Nat) (nm : Nat → Int64) (mf : MF) (hm : Nat → Option Nat) (io : Nat → Bool) (rh : Nat → Option Nat) (mn : Nat → Nat) (wt : Nat → Int32) (jt : Nat → Int32) (nw : Nat → Int32) (pil : Nat → Int32) (my : MY) (ai : Nat → Option Nat) (L : Nat → Nat) (tl : Nat → Option Nat) (ch : Nat → Option Nat), b' 0 = b 0 → SR (N + 1) h fb tp z tk jv jk pl mt yr lg ha x1 x2 tn fm fn mv fp ck te yn rc hp ir lgm tr bg en tkk op wn jn cq cm fk kd mk le ke tpm t og nm mf hm io rh mn wt jt nw pil my ai L tl ch → Aw X (KS b' mo a) (EW (CxD X) b' mo a h fb tp z tk jv jk pl mt yr lg ha x1 x2 tn fm fn mv fp ck te yn rc hp ir lgm tr bg en tkk op wn jn cq cm fk kd mk le ke tpm t og nm mf hm io rh mn wt jt nw pil my ai L tl ch) 735 [(0, .ref sc), (1, .ref (b 0)), (2, .ref mo), (3, .int (nI i))] []) (h : HS) (fb : FB) (tp : TP) (z : PZ) (tk : TK) (jv : Nat → Int32) (jk : Nat → Int32) (pl : PL) (mt : MT) (yr : YR) (lg : LG) (ha : Nat → Option Nat) (x1 : TX) (x2 : TX) (tn : Nat) (fm : Nat) (fn : Nat) (mv : Nat) (fp : Int32) (ck : Int32) (te : Int32) (yn : Int32) (rc : Int32) (hp : Bool) (ir : Bool) (lgm : LG) (tr : Nat) (bg : Nat) (en : Nat) (tkk : Nat) (op : Nat) (wn : Nat) (jn : Nat) (cq : Nat) (cm : Nat) (fk : Int32) (kd : Int32) (mk : Int32) (le : Int64) (ke : Bool) (tpm : Nat → Int32) (t : MR) (og : Nat → Nat) (nm : Nat → Int64) (mf : MF) (hm : Nat → Option Nat) (io : Nat → Bool) (rh : Nat → Option Nat) (mn : Nat → Nat) (wt : Nat → Int32) (jt : Nat → Int32) (nw : Nat → Int32) (pil : Nat → Int32) (my : MY) (ai : Nat → Option Nat) (L : Nat → Nat) (tl : Nat → Option Nat) (ch : Nat → Option Nat) (hR : SR N h fb tp z tk jv jk pl mt yr lg ha x1 x2 tn fm fn mv fp ck te yn rc hp ir lgm tr bg en tkk op wn jn cq cm fk kd mk le ke tpm t og nm mf hm io rh mn wt jt nw pil my ai L tl ch) : Aw X (KS b mo a) (EW (CxD X) b mo a h fb tp z tk jv jk pl mt yr lg ha x1 x2 tn fm fn mv fp ck te yn rc hp ir lgm tr bg en tkk op wn jn cq cm fk kd mk le ke tpm t og nm mf hm io rh mn wt jt nw pil my ai L tl ch) 356 [(0, .ref sc), (1, .ref (b 0)), (2, .ref mo), (3, .int (nI i))] [] := by
  obtain ⟨⟨rfl, rfl, rfl, rfl, rfl, rfl, rfl, rfl, rfl, rfl, rfl, rfl⟩, ⟨hTp, hFc, hT1, hT2⟩, ⟨hW1, hW2, hWz⟩, ⟨hPlI, hMt, hn⟩, ⟨hHa, hHm, hIo, hFn⟩, ⟨hMv, hMn⟩, hDb, ⟨oHa, oRh, hMy, oAi⟩, hLs, oTl, oCh, zHa, hBg⟩ := hR
  rcases ix_cases (xs (i + 2)) with hw | ⟨j, hj, hw⟩
  · skip
    refine r_aload_n (n := 357) hX dL_law_356 rfl rfl 1 rfl ?_
    refine r_aload_n (n := 358) hX dL_law_357 rfl rfl 0 rfl ?_
    refine r_iload_n (n := 359) hX dL_law_358 rfl rfl 3 rfl ?_
    refine r_iconst (n := 360) hX 1 dL_law_359 rfl rfl ?_
    refine r_iadd (n := 361) hX dL_law_360 rfl ?_
    refine Aw.topi (nI (i + 1)) (nI_add _ _) ?_
    refine r_sld (n := 362) (i := i + 1) hX hsc (by omega) hL dL_law_361 rfl ?_
    refine r_aload_n (n := 363) hX dL_law_362 rfl rfl 0 rfl ?_
    refine r_iload_n (n := 364) hX dL_law_363 rfl rfl 3 rfl ?_
    refine r_iconst (n := 365) hX 2 dL_law_364 rfl rfl ?_
    refine r_iadd (n := 366) hX dL_law_365 rfl ?_
    refine Aw.topi (nI (i + 2)) (nI_add _ _) ?_
    refine r_sld (n := 367) (i := i + 2) hX hsc (by omega) hL dL_law_366 rfl ?_
    refine r_aload_n (n := 368) hX dL_law_367 rfl rfl 0 rfl ?_
    refine r_iload_n (n := 369) hX dL_law_368 rfl rfl 3 rfl ?_
    refine r_iconst (n := 370) hX 3 dL_law_369 rfl rfl ?_
    refine r_iadd (n := 371) hX dL_law_370 rfl ?_
    refine Aw.topi (nI (i + 3)) (nI_add _ _) ?_
    refine r_sld (n := 372) (i := i + 3) hX hsc (by omega) hL dL_law_371 rfl ?_
    refine r_callV (n := 375) (av := [.int (xs (i + 1)), .int (xs (i + 2)), .int (xs (i + 3))]) hX (ct_X10_known_neg (CxL X) (CxD X) (b 0) (b 1) (b 5) (b 7) (b 19) (b 22) (b 37) (b 41) (b 45) (b 46) (b 53) h (xs (i + 1)) (xs (i + 2)) (xs (i + 3)) hn hw) ml_L_50 cv_X10_known rfl (by decide) [0] rfl rfl (by decide) 0 rfl rfl rfl rfl rfl (Nat.le_of_ble_eq_true rfl) dL_law_372 rfl (fun r_ es_ h_ l_ => ?_)
    obtain ⟨rfl, rfl⟩ := h_
    refine Aw.esq (pw_2 : putAt (EW (CxD X) b mo a h fb tp z tk jv jk pl mt yr lg ha x1 x2 tp.2 (hFs h) fb.2.2.2 yr.2.2.2.1 (zFaultP z) h.2.2.2.1 h.2.2.2.2.1 h.2.2.2.2.2 h.2.1 yr.2.2.2.2 h.1 lg tr bg en tkk op wn jn cq cm fk kd mk le ke tpm t og nm mf hm io rh mn wt jt nw pil my ai L tl ch) [0] _ = EW (CxD X) b mo a h fb tp z tk jv jk pl mt yr lg ha x1 x2 tp.2 (hFs h) fb.2.2.2 yr.2.2.2.1 (zFaultP z) h.2.2.2.1 h.2.2.2.2.1 h.2.2.2.2.2 h.2.1 yr.2.2.2.2 h.1 lg tr bg en tkk op wn jn cq cm fk kd mk le ke tpm t og nm mf hm io rh mn wt jt nw pil my ai L tl ch) ?_
    show Aw X (KS b mo a) (EW (CxD X) b mo a h fb tp z tk jv jk pl mt yr lg ha x1 x2 tp.2 (hFs h) fb.2.2.2 yr.2.2.2.1 (zFaultP z) h.2.2.2.1 h.2.2.2.2.1 h.2.2.2.2.2 h.2.1 yr.2.2.2.2 h.1 lg tr bg en tkk op wn jn cq cm fk kd mk le ke tpm t og nm mf hm io rh mn wt jt nw pil my ai L tl ch) 375 [(0, .ref sc), (1, .ref (b 0)), (2, .ref mo), (3, .int (nI i))] [.int (0)]
    refine r_aload_n (n := 376) hX dL_law_375 rfl rfl 2 rfl ?_
    refine r_aload_n (n := 377) hX dL_law_376 rfl rfl 0 rfl ?_
    refine r_iload_n (n := 378) hX dL_law_377 rfl rfl 3 rfl ?_
    refine r_iconst (n := 379) hX 1 dL_law_378 rfl rfl ?_
    refine r_iadd (n := 380) hX dL_law_379 rfl ?_
    refine Aw.topi (nI (i + 1)) (nI_add _ _) ?_
    refine r_sld (n := 381) (i := i + 1) hX hsc (by omega) hL dL_law_380 rfl ?_
    refine r_aload_n (n := 382) hX dL_law_381 rfl rfl 0 rfl ?_
    refine r_iload_n (n := 383) hX dL_law_382 rfl rfl 3 rfl ?_
    refine r_iconst (n := 384) hX 2 dL_law_383 rfl rfl ?_
    refine r_iadd (n := 385) hX dL_law_384 rfl ?_
    refine Aw.topi (nI (i + 2)) (nI_add _ _) ?_
    refine r_sld (n := 386) (i := i + 2) hX hsc (by omega) hL dL_law_385 rfl ?_
    refine r_aload_n (n := 387) hX dL_law_386 rfl rfl 0 rfl ?_
    refine r_iload_n (n := 388) hX dL_law_387 rfl rfl 3 rfl ?_
    refine r_iconst (n := 389) hX 3 dL_law_388 rfl rfl ?_
    refine r_iadd (n := 390) hX dL_law_389 rfl ?_
    refine Aw.topi (nI (i + 3)) (nI_add _ _) ?_
    refine r_sld (n := 391) (i := i + 3) hX hsc (by omega) hL dL_law_390 rfl ?_
    refine r_callV (n := 394) (av := [.int (xs (i + 1)), .int (xs (i + 2)), .int (xs (i + 3))]) hX (ct_m_knownNeg (CxL X) (CxD X) mo a tp.2 tr (hFs h) fb.2.2.2 yr.2.2.2.1 bg en tkk op wn jn cq cm fk (zFaultP z) h.2.2.2.1 h.2.2.2.2.1 h.2.2.2.2.2 h.2.1 kd mk le yr.2.2.2.2 h.1 ke (xs (i + 1)) (xs (i + 2)) (xs (i + 3)) hw hFc.2.1) ml_L_53 cv_X11_known rfl (by decide) [60] rfl rfl (by decide) 60 rfl rfl rfl rfl rfl (Nat.le_of_ble_eq_true rfl) dL_law_391 rfl (fun r_ es_ h_ l_ => ?_)
    obtain ⟨rfl, rfl⟩ := h_
    refine Aw.esq (pw_3 : putAt (EW (CxD X) b mo a h fb tp z tk jv jk pl mt yr lg ha x1 x2 tp.2 (hFs h) fb.2.2.2 yr.2.2.2.1 (zFaultP z) h.2.2.2.1 h.2.2.2.2.1 h.2.2.2.2.2 h.2.1 yr.2.2.2.2 h.1 lg tr bg en tkk op wn jn cq cm fk kd mk le ke tpm t og nm mf hm io rh mn wt jt nw pil my ai L tl ch) [60] _ = EW (CxD X) b mo a h fb tp z tk jv jk pl mt yr lg ha x1 x2 tp.2 (hFs h) fb.2.2.2 yr.2.2.2.1 (zFaultP z) h.2.2.2.1 h.2.2.2.2.1 h.2.2.2.2.2 h.2.1 yr.2.2.2.2 h.1 lg tr bg en tkk op wn jn cq cm fk kd mk le ke tpm t og nm mf hm io rh mn wt jt nw pil my ai L tl ch) ?_
    show Aw X (KS b mo a) (EW (CxD X) b mo a h fb tp z tk jv jk pl mt yr lg ha x1 x2 tp.2 (hFs h) fb.2.2.2 yr.2.2.2.1 (zFaultP z) h.2.2.2.1 h.2.2.2.2.1 h.2.2.2.2.2 h.2.1 yr.2.2.2.2 h.1 lg tr bg en tkk op wn jn cq cm fk kd mk le ke tpm t og nm mf hm io rh mn wt jt nw pil my ai L tl ch) 394 [(0, .ref sc), (1, .ref (b 0)), (2, .ref mo), (3, .int (nI i))] [.int (0), .int (0)]
    refine r_icmp_eq (tgt := 735) (n := 397) hX dL_law_394 (by decide) rfl (fun _ => ?_) (fun hne => absurd (rfl) hne)
    exact kk b h fb tp z tk jv jk pl mt yr lg ha x1 x2 tp.2 (hFs h) fb.2.2.2 yr.2.2.2.1 (zFaultP z) h.2.2.2.1 h.2.2.2.2.1 h.2.2.2.2.2 h.2.1 yr.2.2.2.2 h.1 lg tr bg en tkk op wn jn cq cm fk kd mk le ke tpm t og nm mf hm io rh mn wt jt nw pil my ai L tl ch rfl ⟨⟨rfl, rfl, rfl, rfl, rfl, rfl, rfl, rfl, rfl, rfl, rfl, rfl⟩, ⟨hTp, hFc, hT1, hT2⟩, ⟨hW1, hW2, hWz⟩, ⟨hPlI, hMt, hn⟩, ⟨hHa, hHm, hIo, hFn⟩, ⟨hMv, hMn⟩, (hDb.more (Nat.le_succ _)), ⟨oHa, oRh, hMy, oAi⟩, hLs, oTl, oCh, zHa, hBg⟩
  · by_cases hb : hFam (hFs h) (xs (i + 1)) = false ∨ hCol (hFs h) j = none
    · skip
      refine r_aload_n (n := 357) hX dL_law_356 rfl rfl 1 rfl ?_
      refine r_aload_n (n := 358) hX dL_law_357 rfl rfl 0 rfl ?_
      refine r_iload_n (n := 359) hX dL_law_358 rfl rfl 3 rfl ?_
      refine r_iconst (n := 360) hX 1 dL_law_359 rfl rfl ?_
      refine r_iadd (n := 361) hX dL_law_360 rfl ?_
      refine Aw.topi (nI (i + 1)) (nI_add _ _) ?_
      refine r_sld (n := 362) (i := i + 1) hX hsc (by omega) hL dL_law_361 rfl ?_
      refine r_aload_n (n := 363) hX dL_law_362 rfl rfl 0 rfl ?_
      refine r_iload_n (n := 364) hX dL_law_363 rfl rfl 3 rfl ?_
      refine r_iconst (n := 365) hX 2 dL_law_364 rfl rfl ?_
      refine r_iadd (n := 366) hX dL_law_365 rfl ?_
      refine Aw.topi (nI (i + 2)) (nI_add _ _) ?_
      refine r_sld (n := 367) (i := i + 2) hX hsc (by omega) hL dL_law_366 rfl ?_
      refine Aw.topi (nI j) hw ?_
      refine r_aload_n (n := 368) hX dL_law_367 rfl rfl 0 rfl ?_
      refine r_iload_n (n := 369) hX dL_law_368 rfl rfl 3 rfl ?_
      refine r_iconst (n := 370) hX 3 dL_law_369 rfl rfl ?_
      refine r_iadd (n := 371) hX dL_law_370 rfl ?_
      refine Aw.topi (nI (i + 3)) (nI_add _ _) ?_
      refine r_sld (n := 372) (i := i + 3) hX hsc (by omega) hL dL_law_371 rfl ?_
      refine r_callV (n := 375) (av := [.int (xs (i + 1)), .int (nI j), .int (xs (i + 3))]) hX (ct_X10_known_bad (CxL X) (CxD X) (b 0) (b 1) (b 5) (b 7) (b 19) (b 22) (b 37) (b 41) (b 45) (b 46) (b 53) h (xs (i + 1)) (xs (i + 3)) j hn hj hb) ml_L_50 cv_X10_known rfl (by decide) [0] rfl rfl (by decide) 0 rfl rfl rfl rfl rfl (Nat.le_of_ble_eq_true rfl) dL_law_372 rfl (fun r_ es_ h_ l_ => ?_)
      obtain ⟨rfl, rfl⟩ := h_
      refine Aw.esq (pw_2 : putAt (EW (CxD X) b mo a h fb tp z tk jv jk pl mt yr lg ha x1 x2 tp.2 (hFs h) fb.2.2.2 yr.2.2.2.1 (zFaultP z) h.2.2.2.1 h.2.2.2.2.1 h.2.2.2.2.2 h.2.1 yr.2.2.2.2 h.1 lg tr bg en tkk op wn jn cq cm fk kd mk le ke tpm t og nm mf hm io rh mn wt jt nw pil my ai L tl ch) [0] _ = EW (CxD X) b mo a h fb tp z tk jv jk pl mt yr lg ha x1 x2 tp.2 (hFs h) fb.2.2.2 yr.2.2.2.1 (zFaultP z) h.2.2.2.1 h.2.2.2.2.1 h.2.2.2.2.2 h.2.1 yr.2.2.2.2 h.1 lg tr bg en tkk op wn jn cq cm fk kd mk le ke tpm t og nm mf hm io rh mn wt jt nw pil my ai L tl ch) ?_
      show Aw X (KS b mo a) (EW (CxD X) b mo a h fb tp z tk jv jk pl mt yr lg ha x1 x2 tp.2 (hFs h) fb.2.2.2 yr.2.2.2.1 (zFaultP z) h.2.2.2.1 h.2.2.2.2.1 h.2.2.2.2.2 h.2.1 yr.2.2.2.2 h.1 lg tr bg en tkk op wn jn cq cm fk kd mk le ke tpm t og nm mf hm io rh mn wt jt nw pil my ai L tl ch) 375 [(0, .ref sc), (1, .ref (b 0)), (2, .ref mo), (3, .int (nI i))] [.int (0)]
      refine r_aload_n (n := 376) hX dL_law_375 rfl rfl 2 rfl ?_
      refine r_aload_n (n := 377) hX dL_law_376 rfl rfl 0 rfl ?_
      refine r_iload_n (n := 378) hX dL_law_377 rfl rfl 3 rfl ?_
      refine r_iconst (n := 379) hX 1 dL_law_378 rfl rfl ?_
      refine r_iadd (n := 380) hX dL_law_379 rfl ?_
      refine Aw.topi (nI (i + 1)) (nI_add _ _) ?_
      refine r_sld (n := 381) (i := i + 1) hX hsc (by omega) hL dL_law_380 rfl ?_
      refine r_aload_n (n := 382) hX dL_law_381 rfl rfl 0 rfl ?_
      refine r_iload_n (n := 383) hX dL_law_382 rfl rfl 3 rfl ?_
      refine r_iconst (n := 384) hX 2 dL_law_383 rfl rfl ?_
      refine r_iadd (n := 385) hX dL_law_384 rfl ?_
      refine Aw.topi (nI (i + 2)) (nI_add _ _) ?_
      refine r_sld (n := 386) (i := i + 2) hX hsc (by omega) hL dL_law_385 rfl ?_
      refine Aw.topi (nI j) hw ?_
      refine r_aload_n (n := 387) hX dL_law_386 rfl rfl 0 rfl ?_
      refine r_iload_n (n := 388) hX dL_law_387 rfl rfl 3 rfl ?_
      refine r_iconst (n := 389) hX 3 dL_law_388 rfl rfl ?_
      refine r_iadd (n := 390) hX dL_law_389 rfl ?_
      refine Aw.topi (nI (i + 3)) (nI_add _ _) ?_
      refine r_sld (n := 391) (i := i + 3) hX hsc (by omega) hL dL_law_390 rfl ?_
      refine r_callV (n := 394) (av := [.int (xs (i + 1)), .int (nI j), .int (xs (i + 3))]) hX (ct_m_knownBad (CxL X) (CxD X) mo a tp.2 tr (hFs h) fb.2.2.2 yr.2.2.2.1 bg en tkk op wn jn cq cm fk (zFaultP z) h.2.2.2.1 h.2.2.2.2.1 h.2.2.2.2.2 h.2.1 kd mk le yr.2.2.2.2 h.1 ke (xs (i + 1)) (xs (i + 3)) j hn hj (fun q => by rcases hb with z | z; rw [fam_same hn] at z; rw [z] at q; exact absurd q.1 (by decide); rw [z] at q; exact absurd q.2.1 (by decide))) ml_L_53 cv_X11_known rfl (by decide) [60] rfl rfl (by decide) 60 rfl rfl rfl rfl rfl (Nat.le_of_ble_eq_true rfl) dL_law_391 rfl (fun r_ es_ h_ l_ => ?_)
      obtain ⟨rfl, rfl⟩ := h_
      refine Aw.esq (pw_3 : putAt (EW (CxD X) b mo a h fb tp z tk jv jk pl mt yr lg ha x1 x2 tp.2 (hFs h) fb.2.2.2 yr.2.2.2.1 (zFaultP z) h.2.2.2.1 h.2.2.2.2.1 h.2.2.2.2.2 h.2.1 yr.2.2.2.2 h.1 lg tr bg en tkk op wn jn cq cm fk kd mk le ke tpm t og nm mf hm io rh mn wt jt nw pil my ai L tl ch) [60] _ = EW (CxD X) b mo a h fb tp z tk jv jk pl mt yr lg ha x1 x2 tp.2 (hFs h) fb.2.2.2 yr.2.2.2.1 (zFaultP z) h.2.2.2.1 h.2.2.2.2.1 h.2.2.2.2.2 h.2.1 yr.2.2.2.2 h.1 lg tr bg en tkk op wn jn cq cm fk kd mk le ke tpm t og nm mf hm io rh mn wt jt nw pil my ai L tl ch) ?_
      show Aw X (KS b mo a) (EW (CxD X) b mo a h fb tp z tk jv jk pl mt yr lg ha x1 x2 tp.2 (hFs h) fb.2.2.2 yr.2.2.2.1 (zFaultP z) h.2.2.2.1 h.2.2.2.2.1 h.2.2.2.2.2 h.2.1 yr.2.2.2.2 h.1 lg tr bg en tkk op wn jn cq cm fk kd mk le ke tpm t og nm mf hm io rh mn wt jt nw pil my ai L tl ch) 394 [(0, .ref sc), (1, .ref (b 0)), (2, .ref mo), (3, .int (nI i))] [.int (0), .int (0)]
      refine r_icmp_eq (tgt := 735) (n := 397) hX dL_law_394 (by decide) rfl (fun _ => ?_) (fun hne => absurd (rfl) hne)
      exact kk b h fb tp z tk jv jk pl mt yr lg ha x1 x2 tp.2 (hFs h) fb.2.2.2 yr.2.2.2.1 (zFaultP z) h.2.2.2.1 h.2.2.2.2.1 h.2.2.2.2.2 h.2.1 yr.2.2.2.2 h.1 lg tr bg en tkk op wn jn cq cm fk kd mk le ke tpm t og nm mf hm io rh mn wt jt nw pil my ai L tl ch rfl ⟨⟨rfl, rfl, rfl, rfl, rfl, rfl, rfl, rfl, rfl, rfl, rfl, rfl⟩, ⟨hTp, hFc, hT1, hT2⟩, ⟨hW1, hW2, hWz⟩, ⟨hPlI, hMt, hn⟩, ⟨hHa, hHm, hIo, hFn⟩, ⟨hMv, hMn⟩, (hDb.more (Nat.le_succ _)), ⟨oHa, oRh, hMy, oAi⟩, hLs, oTl, oCh, zHa, hBg⟩
    · rcases fam_ix hn (xs (i + 1)) with hz | ⟨f, hf, hfw⟩
      · exact absurd (Or.inl hz) hb
      · cases hc : hCol (hFs h) j with
        | none => exact absurd (Or.inr hc) hb
        | some c =>
          by_cases hv : hDay (xs (i + 3)) = true
          · skip
            refine r_aload_n (n := 357) hX dL_law_356 rfl rfl 1 rfl ?_
            refine r_aload_n (n := 358) hX dL_law_357 rfl rfl 0 rfl ?_
            refine r_iload_n (n := 359) hX dL_law_358 rfl rfl 3 rfl ?_
            refine r_iconst (n := 360) hX 1 dL_law_359 rfl rfl ?_
            refine r_iadd (n := 361) hX dL_law_360 rfl ?_
            refine Aw.topi (nI (i + 1)) (nI_add _ _) ?_
            refine r_sld (n := 362) (i := i + 1) hX hsc (by omega) hL dL_law_361 rfl ?_
            refine Aw.topi (nI f) hfw ?_
            refine r_aload_n (n := 363) hX dL_law_362 rfl rfl 0 rfl ?_
            refine r_iload_n (n := 364) hX dL_law_363 rfl rfl 3 rfl ?_
            refine r_iconst (n := 365) hX 2 dL_law_364 rfl rfl ?_
            refine r_iadd (n := 366) hX dL_law_365 rfl ?_
            refine Aw.topi (nI (i + 2)) (nI_add _ _) ?_
            refine r_sld (n := 367) (i := i + 2) hX hsc (by omega) hL dL_law_366 rfl ?_
            refine Aw.topi (nI j) hw ?_
            refine r_aload_n (n := 368) hX dL_law_367 rfl rfl 0 rfl ?_
            refine r_iload_n (n := 369) hX dL_law_368 rfl rfl 3 rfl ?_
            refine r_iconst (n := 370) hX 3 dL_law_369 rfl rfl ?_
            refine r_iadd (n := 371) hX dL_law_370 rfl ?_
            refine Aw.topi (nI (i + 3)) (nI_add _ _) ?_
            refine r_sld (n := 372) (i := i + 3) hX hsc (by omega) hL dL_law_371 rfl ?_
            refine r_callV (n := 375) (av := [.int (nI f), .int (nI j), .int (xs (i + 3))]) hX (ct_X10_known (CxL X) (CxD X) (b 0) (b 1) (b 5) (b 7) (b 19) (b 22) (b 37) (b 41) (b 45) (b 46) (b 53) (b 2) (b 3) (b 4) h fb f j c (xs (i + 3)) hn hj hc hf hFc.2.1) ml_L_50 cv_X10_known rfl (by decide) [0, 1, 2, 3, 4] rfl rfl (by decide) 0 rfl rfl rfl rfl rfl (Nat.le_of_ble_eq_true rfl) dL_law_372 rfl (fun r_ es_ h_ l_ => ?_)
            obtain ⟨rfl, rfl⟩ := h_
            refine Aw.esq (pw_5 : putAt (EW (CxD X) b mo a h fb tp z tk jv jk pl mt yr lg ha x1 x2 tp.2 (hFs h) fb.2.2.2 yr.2.2.2.1 (zFaultP z) h.2.2.2.1 h.2.2.2.2.1 h.2.2.2.2.2 h.2.1 yr.2.2.2.2 h.1 lg tr bg en tkk op wn jn cq cm fk kd mk le ke tpm t og nm mf hm io rh mn wt jt nw pil my ai L tl ch) [0, 1, 2, 3, 4] _ = EW (CxD X) b mo a h fb tp z tk jv jk pl mt yr lg ha x1 x2 tp.2 (hFs h) fb.2.2.2 yr.2.2.2.1 (zFaultP z) h.2.2.2.1 h.2.2.2.2.1 h.2.2.2.2.2 h.2.1 yr.2.2.2.2 h.1 lg tr bg en tkk op wn jn cq cm fk kd mk le ke tpm t og nm mf hm io rh mn wt jt nw pil my ai L tl ch) ?_
            show Aw X (KS b mo a) (EW (CxD X) b mo a h fb tp z tk jv jk pl mt yr lg ha x1 x2 tp.2 (hFs h) fb.2.2.2 yr.2.2.2.1 (zFaultP z) h.2.2.2.1 h.2.2.2.2.1 h.2.2.2.2.2 h.2.1 yr.2.2.2.2 h.1 lg tr bg en tkk op wn jn cq cm fk kd mk le ke tpm t og nm mf hm io rh mn wt jt nw pil my ai L tl ch) 375 [(0, .ref sc), (1, .ref (b 0)), (2, .ref mo), (3, .int (nI i))] [.int (if hDay (xs (i + 3)) = true then fbLatest fb (nI (f * 26 + c)) (xs (i + 3)) fb.2.2.2 else 0)]
            refine r_aload_n (n := 376) hX dL_law_375 rfl rfl 2 rfl ?_
            refine r_aload_n (n := 377) hX dL_law_376 rfl rfl 0 rfl ?_
            refine r_iload_n (n := 378) hX dL_law_377 rfl rfl 3 rfl ?_
            refine r_iconst (n := 379) hX 1 dL_law_378 rfl rfl ?_
            refine r_iadd (n := 380) hX dL_law_379 rfl ?_
            refine Aw.topi (nI (i + 1)) (nI_add _ _) ?_
            refine r_sld (n := 381) (i := i + 1) hX hsc (by omega) hL dL_law_380 rfl ?_
            refine Aw.topi (nI f) hfw ?_
            refine r_aload_n (n := 382) hX dL_law_381 rfl rfl 0 rfl ?_
            refine r_iload_n (n := 383) hX dL_law_382 rfl rfl 3 rfl ?_
            refine r_iconst (n := 384) hX 2 dL_law_383 rfl rfl ?_
            refine r_iadd (n := 385) hX dL_law_384 rfl ?_
            refine Aw.topi (nI (i + 2)) (nI_add _ _) ?_
            refine r_sld (n := 386) (i := i + 2) hX hsc (by omega) hL dL_law_385 rfl ?_
            refine Aw.topi (nI j) hw ?_
            refine r_aload_n (n := 387) hX dL_law_386 rfl rfl 0 rfl ?_
            refine r_iload_n (n := 388) hX dL_law_387 rfl rfl 3 rfl ?_
            refine r_iconst (n := 389) hX 3 dL_law_388 rfl rfl ?_
            refine r_iadd (n := 390) hX dL_law_389 rfl ?_
            refine Aw.topi (nI (i + 3)) (nI_add _ _) ?_
            refine r_sld (n := 391) (i := i + 3) hX hsc (by omega) hL dL_law_390 rfl ?_
            refine r_callV (n := 394) (av := [.int (nI f), .int (nI j), .int (xs (i + 3))]) hX (ct_m_knownOk (CxL X) (CxD X) mo a tp.2 tr (hFs h) fb.2.2.2 yr.2.2.2.1 bg en tkk op wn jn cq cm fk (zFaultP z) h.2.2.2.1 h.2.2.2.2.1 h.2.2.2.2.2 h.2.1 kd mk le yr.2.2.2.2 h.1 ke mf f j (xs (i + 3)) hn hFc.ok hj hf (by rw [hc]; rfl) hv) ml_L_53 cv_X11_known rfl (by decide) [60, 72, 73, 74, 75] rfl rfl (by decide) 60 rfl rfl rfl rfl rfl (Nat.le_of_ble_eq_true rfl) dL_law_391 rfl (fun r_ es_ h_ l_ => ?_)
            obtain ⟨rfl, rfl⟩ := h_
            refine Aw.esq (pw_6 : putAt (EW (CxD X) b mo a h fb tp z tk jv jk pl mt yr lg ha x1 x2 tp.2 (hFs h) fb.2.2.2 yr.2.2.2.1 (zFaultP z) h.2.2.2.1 h.2.2.2.2.1 h.2.2.2.2.2 h.2.1 yr.2.2.2.2 h.1 lg tr bg en tkk op wn jn cq cm fk kd mk le ke tpm t og nm mf hm io rh mn wt jt nw pil my ai L tl ch) [60, 72, 73, 74, 75] _ = EW (CxD X) b mo a h fb tp z tk jv jk pl mt yr lg ha x1 x2 tp.2 (hFs h) fb.2.2.2 yr.2.2.2.1 (zFaultP z) h.2.2.2.1 h.2.2.2.2.1 h.2.2.2.2.2 h.2.1 yr.2.2.2.2 h.1 lg tr bg en tkk op wn jn cq cm fk kd mk le ke tpm t og nm mf hm io rh mn wt jt nw pil my ai L tl ch) ?_
            show Aw X (KS b mo a) (EW (CxD X) b mo a h fb tp z tk jv jk pl mt yr lg ha x1 x2 tp.2 (hFs h) fb.2.2.2 yr.2.2.2.1 (zFaultP z) h.2.2.2.1 h.2.2.2.2.1 h.2.2.2.2.2 h.2.1 yr.2.2.2.2 h.1 lg tr bg en tkk op wn jn cq cm fk kd mk le ke tpm t og nm mf hm io rh mn wt jt nw pil my ai L tl ch) 394 [(0, .ref sc), (1, .ref (b 0)), (2, .ref mo), (3, .int (nI i))] [.int (mLat mf f j (xs (i + 3)) fb.2.2.2), .int (if hDay (xs (i + 3)) = true then fbLatest fb (nI (f * 26 + c)) (xs (i + 3)) fb.2.2.2 else 0)]
            refine r_icmp_eq (tgt := 735) (n := 397) hX dL_law_394 (by decide) rfl (fun _ => ?_) (fun hne => absurd (by rw [if_pos hv]; exact lat_same (x := f) hFc (by omega) (col_in hn hc).2.2 (xs (i + 3)) fb.2.2.2 (Nat.le_refl _)) hne)
            exact kk b h fb tp z tk jv jk pl mt yr lg ha x1 x2 tp.2 (hFs h) fb.2.2.2 yr.2.2.2.1 (zFaultP z) h.2.2.2.1 h.2.2.2.2.1 h.2.2.2.2.2 h.2.1 yr.2.2.2.2 h.1 lg tr bg en tkk op wn jn cq cm fk kd mk le ke tpm t og nm mf hm io rh mn wt jt nw pil my ai L tl ch rfl ⟨⟨rfl, rfl, rfl, rfl, rfl, rfl, rfl, rfl, rfl, rfl, rfl, rfl⟩, ⟨hTp, hFc, hT1, hT2⟩, ⟨hW1, hW2, hWz⟩, ⟨hPlI, hMt, hn⟩, ⟨hHa, hHm, hIo, hFn⟩, ⟨hMv, hMn⟩, (hDb.more (Nat.le_succ _)), ⟨oHa, oRh, hMy, oAi⟩, hLs, oTl, oCh, zHa, hBg⟩
          · skip
            refine r_aload_n (n := 357) hX dL_law_356 rfl rfl 1 rfl ?_
            refine r_aload_n (n := 358) hX dL_law_357 rfl rfl 0 rfl ?_
            refine r_iload_n (n := 359) hX dL_law_358 rfl rfl 3 rfl ?_
            refine r_iconst (n := 360) hX 1 dL_law_359 rfl rfl ?_
            refine r_iadd (n := 361) hX dL_law_360 rfl ?_
            refine Aw.topi (nI (i + 1)) (nI_add _ _) ?_
            refine r_sld (n := 362) (i := i + 1) hX hsc (by omega) hL dL_law_361 rfl ?_
            refine Aw.topi (nI f) hfw ?_
            refine r_aload_n (n := 363) hX dL_law_362 rfl rfl 0 rfl ?_
            refine r_iload_n (n := 364) hX dL_law_363 rfl rfl 3 rfl ?_
            refine r_iconst (n := 365) hX 2 dL_law_364 rfl rfl ?_
            refine r_iadd (n := 366) hX dL_law_365 rfl ?_
            refine Aw.topi (nI (i + 2)) (nI_add _ _) ?_
            refine r_sld (n := 367) (i := i + 2) hX hsc (by omega) hL dL_law_366 rfl ?_
            refine Aw.topi (nI j) hw ?_
            refine r_aload_n (n := 368) hX dL_law_367 rfl rfl 0 rfl ?_
            refine r_iload_n (n := 369) hX dL_law_368 rfl rfl 3 rfl ?_
            refine r_iconst (n := 370) hX 3 dL_law_369 rfl rfl ?_
            refine r_iadd (n := 371) hX dL_law_370 rfl ?_
            refine Aw.topi (nI (i + 3)) (nI_add _ _) ?_
            refine r_sld (n := 372) (i := i + 3) hX hsc (by omega) hL dL_law_371 rfl ?_
            refine r_callV (n := 375) (av := [.int (nI f), .int (nI j), .int (xs (i + 3))]) hX (ct_X10_known (CxL X) (CxD X) (b 0) (b 1) (b 5) (b 7) (b 19) (b 22) (b 37) (b 41) (b 45) (b 46) (b 53) (b 2) (b 3) (b 4) h fb f j c (xs (i + 3)) hn hj hc hf hFc.2.1) ml_L_50 cv_X10_known rfl (by decide) [0, 1, 2, 3, 4] rfl rfl (by decide) 0 rfl rfl rfl rfl rfl (Nat.le_of_ble_eq_true rfl) dL_law_372 rfl (fun r_ es_ h_ l_ => ?_)
            obtain ⟨rfl, rfl⟩ := h_
            refine Aw.esq (pw_5 : putAt (EW (CxD X) b mo a h fb tp z tk jv jk pl mt yr lg ha x1 x2 tp.2 (hFs h) fb.2.2.2 yr.2.2.2.1 (zFaultP z) h.2.2.2.1 h.2.2.2.2.1 h.2.2.2.2.2 h.2.1 yr.2.2.2.2 h.1 lg tr bg en tkk op wn jn cq cm fk kd mk le ke tpm t og nm mf hm io rh mn wt jt nw pil my ai L tl ch) [0, 1, 2, 3, 4] _ = EW (CxD X) b mo a h fb tp z tk jv jk pl mt yr lg ha x1 x2 tp.2 (hFs h) fb.2.2.2 yr.2.2.2.1 (zFaultP z) h.2.2.2.1 h.2.2.2.2.1 h.2.2.2.2.2 h.2.1 yr.2.2.2.2 h.1 lg tr bg en tkk op wn jn cq cm fk kd mk le ke tpm t og nm mf hm io rh mn wt jt nw pil my ai L tl ch) ?_
            show Aw X (KS b mo a) (EW (CxD X) b mo a h fb tp z tk jv jk pl mt yr lg ha x1 x2 tp.2 (hFs h) fb.2.2.2 yr.2.2.2.1 (zFaultP z) h.2.2.2.1 h.2.2.2.2.1 h.2.2.2.2.2 h.2.1 yr.2.2.2.2 h.1 lg tr bg en tkk op wn jn cq cm fk kd mk le ke tpm t og nm mf hm io rh mn wt jt nw pil my ai L tl ch) 375 [(0, .ref sc), (1, .ref (b 0)), (2, .ref mo), (3, .int (nI i))] [.int (if hDay (xs (i + 3)) = true then fbLatest fb (nI (f * 26 + c)) (xs (i + 3)) fb.2.2.2 else 0)]
            refine r_aload_n (n := 376) hX dL_law_375 rfl rfl 2 rfl ?_
            refine r_aload_n (n := 377) hX dL_law_376 rfl rfl 0 rfl ?_
            refine r_iload_n (n := 378) hX dL_law_377 rfl rfl 3 rfl ?_
            refine r_iconst (n := 379) hX 1 dL_law_378 rfl rfl ?_
            refine r_iadd (n := 380) hX dL_law_379 rfl ?_
            refine Aw.topi (nI (i + 1)) (nI_add _ _) ?_
            refine r_sld (n := 381) (i := i + 1) hX hsc (by omega) hL dL_law_380 rfl ?_
            refine Aw.topi (nI f) hfw ?_
            refine r_aload_n (n := 382) hX dL_law_381 rfl rfl 0 rfl ?_
            refine r_iload_n (n := 383) hX dL_law_382 rfl rfl 3 rfl ?_
            refine r_iconst (n := 384) hX 2 dL_law_383 rfl rfl ?_
            refine r_iadd (n := 385) hX dL_law_384 rfl ?_
            refine Aw.topi (nI (i + 2)) (nI_add _ _) ?_
            refine r_sld (n := 386) (i := i + 2) hX hsc (by omega) hL dL_law_385 rfl ?_
            refine Aw.topi (nI j) hw ?_
            refine r_aload_n (n := 387) hX dL_law_386 rfl rfl 0 rfl ?_
            refine r_iload_n (n := 388) hX dL_law_387 rfl rfl 3 rfl ?_
            refine r_iconst (n := 389) hX 3 dL_law_388 rfl rfl ?_
            refine r_iadd (n := 390) hX dL_law_389 rfl ?_
            refine Aw.topi (nI (i + 3)) (nI_add _ _) ?_
            refine r_sld (n := 391) (i := i + 3) hX hsc (by omega) hL dL_law_390 rfl ?_
            refine r_callV (n := 394) (av := [.int (nI f), .int (nI j), .int (xs (i + 3))]) hX (ct_m_knownBad (CxL X) (CxD X) mo a tp.2 tr (hFs h) fb.2.2.2 yr.2.2.2.1 bg en tkk op wn jn cq cm fk (zFaultP z) h.2.2.2.1 h.2.2.2.2.1 h.2.2.2.2.2 h.2.1 kd mk le yr.2.2.2.2 h.1 ke (nI f) (xs (i + 3)) j hn hj (fun q => hv q.2.2)) ml_L_53 cv_X11_known rfl (by decide) [60] rfl rfl (by decide) 60 rfl rfl rfl rfl rfl (Nat.le_of_ble_eq_true rfl) dL_law_391 rfl (fun r_ es_ h_ l_ => ?_)
            obtain ⟨rfl, rfl⟩ := h_
            refine Aw.esq (pw_3 : putAt (EW (CxD X) b mo a h fb tp z tk jv jk pl mt yr lg ha x1 x2 tp.2 (hFs h) fb.2.2.2 yr.2.2.2.1 (zFaultP z) h.2.2.2.1 h.2.2.2.2.1 h.2.2.2.2.2 h.2.1 yr.2.2.2.2 h.1 lg tr bg en tkk op wn jn cq cm fk kd mk le ke tpm t og nm mf hm io rh mn wt jt nw pil my ai L tl ch) [60] _ = EW (CxD X) b mo a h fb tp z tk jv jk pl mt yr lg ha x1 x2 tp.2 (hFs h) fb.2.2.2 yr.2.2.2.1 (zFaultP z) h.2.2.2.1 h.2.2.2.2.1 h.2.2.2.2.2 h.2.1 yr.2.2.2.2 h.1 lg tr bg en tkk op wn jn cq cm fk kd mk le ke tpm t og nm mf hm io rh mn wt jt nw pil my ai L tl ch) ?_
            show Aw X (KS b mo a) (EW (CxD X) b mo a h fb tp z tk jv jk pl mt yr lg ha x1 x2 tp.2 (hFs h) fb.2.2.2 yr.2.2.2.1 (zFaultP z) h.2.2.2.1 h.2.2.2.2.1 h.2.2.2.2.2 h.2.1 yr.2.2.2.2 h.1 lg tr bg en tkk op wn jn cq cm fk kd mk le ke tpm t og nm mf hm io rh mn wt jt nw pil my ai L tl ch) 394 [(0, .ref sc), (1, .ref (b 0)), (2, .ref mo), (3, .int (nI i))] [.int (0), .int (if hDay (xs (i + 3)) = true then fbLatest fb (nI (f * 26 + c)) (xs (i + 3)) fb.2.2.2 else 0)]
            refine r_icmp_eq (tgt := 735) (n := 397) hX dL_law_394 (by decide) rfl (fun _ => ?_) (fun hne => absurd (by rw [if_neg hv]) hne)
            exact kk b h fb tp z tk jv jk pl mt yr lg ha x1 x2 tp.2 (hFs h) fb.2.2.2 yr.2.2.2.1 (zFaultP z) h.2.2.2.1 h.2.2.2.2.1 h.2.2.2.2.2 h.2.1 yr.2.2.2.2 h.1 lg tr bg en tkk op wn jn cq cm fk kd mk le ke tpm t og nm mf hm io rh mn wt jt nw pil my ai L tl ch rfl ⟨⟨rfl, rfl, rfl, rfl, rfl, rfl, rfl, rfl, rfl, rfl, rfl, rfl⟩, ⟨hTp, hFc, hT1, hT2⟩, ⟨hW1, hW2, hWz⟩, ⟨hPlI, hMt, hn⟩, ⟨hHa, hHm, hIo, hFn⟩, ⟨hMv, hMn⟩, (hDb.more (Nat.le_succ _)), ⟨oHa, oRh, hMy, oAi⟩, hLs, oTl, oCh, zHa, hBg⟩
set_option maxHeartbeats 4000000 in
set_option maxRecDepth 100000 in
theorem law_goes {X : Cx} {b : Nat → Nat} {mo : Nat} {a : Nat → Nat} {sc Ln i N : Nat} {xs : Nat → Int32} (hX : Ok X cL_law 4 RL 36) (hsc : Sc X sc Ln xs) (hL : Ln ≤ 3072) (hi : i + 6 ≤ Ln) (hN : N < 1000000) (kk : ∀ (b' : Nat → Nat) (h : HS) (fb : FB) (tp : TP) (z : PZ) (tk : TK) (jv : Nat → Int32) (jk : Nat → Int32) (pl : PL) (mt : MT) (yr : YR) (lg : LG) (ha : Nat → Option Nat) (x1 : TX) (x2 : TX) (tn : Nat) (fm : Nat) (fn : Nat) (mv : Nat) (fp : Int32) (ck : Int32) (te : Int32) (yn : Int32) (rc : Int32) (hp : Bool) (ir : Bool) (lgm : LG) (tr : Nat) (bg : Nat) (en : Nat) (tkk : Nat) (op : Nat) (wn : Nat) (jn : Nat) (cq : Nat) (cm : Nat) (fk : Int32) (kd : Int32) (mk : Int32) (le : Int64) (ke : Bool) (tpm : Nat → Int32) (t : MR) (og : Nat → Nat) (nm : Nat → Int64) (mf : MF) (hm : Nat → Option Nat) (io : Nat → Bool) (rh : Nat → Option Nat) (mn : Nat → Nat) (wt : Nat → Int32) (jt : Nat → Int32) (nw : Nat → Int32) (pil : Nat → Int32) (my : MY) (ai : Nat → Option Nat) (L : Nat → Nat) (tl : Nat → Option Nat) (ch : Nat → Option Nat), b' 0 = b 0 → SR (N + 1) h fb tp z tk jv jk pl mt yr lg ha x1 x2 tn fm fn mv fp ck te yn rc hp ir lgm tr bg en tkk op wn jn cq cm fk kd mk le ke tpm t og nm mf hm io rh mn wt jt nw pil my ai L tl ch → Aw X (KS b' mo a) (EW (CxD X) b' mo a h fb tp z tk jv jk pl mt yr lg ha x1 x2 tn fm fn mv fp ck te yn rc hp ir lgm tr bg en tkk op wn jn cq cm fk kd mk le ke tpm t og nm mf hm io rh mn wt jt nw pil my ai L tl ch) 735 [(0, .ref sc), (1, .ref (b 0)), (2, .ref mo), (3, .int (nI i))] []) (h : HS) (fb : FB) (tp : TP) (z : PZ) (tk : TK) (jv : Nat → Int32) (jk : Nat → Int32) (pl : PL) (mt : MT) (yr : YR) (lg : LG) (ha : Nat → Option Nat) (x1 : TX) (x2 : TX) (tn : Nat) (fm : Nat) (fn : Nat) (mv : Nat) (fp : Int32) (ck : Int32) (te : Int32) (yn : Int32) (rc : Int32) (hp : Bool) (ir : Bool) (lgm : LG) (tr : Nat) (bg : Nat) (en : Nat) (tkk : Nat) (op : Nat) (wn : Nat) (jn : Nat) (cq : Nat) (cm : Nat) (fk : Int32) (kd : Int32) (mk : Int32) (le : Int64) (ke : Bool) (tpm : Nat → Int32) (t : MR) (og : Nat → Nat) (nm : Nat → Int64) (mf : MF) (hm : Nat → Option Nat) (io : Nat → Bool) (rh : Nat → Option Nat) (mn : Nat → Nat) (wt : Nat → Int32) (jt : Nat → Int32) (nw : Nat → Int32) (pil : Nat → Int32) (my : MY) (ai : Nat → Option Nat) (L : Nat → Nat) (tl : Nat → Option Nat) (ch : Nat → Option Nat) (hR : SR N h fb tp z tk jv jk pl mt yr lg ha x1 x2 tn fm fn mv fp ck te yn rc hp ir lgm tr bg en tkk op wn jn cq cm fk kd mk le ke tpm t og nm mf hm io rh mn wt jt nw pil my ai L tl ch) : Aw X (KS b mo a) (EW (CxD X) b mo a h fb tp z tk jv jk pl mt yr lg ha x1 x2 tn fm fn mv fp ck te yn rc hp ir lgm tr bg en tkk op wn jn cq cm fk kd mk le ke tpm t og nm mf hm io rh mn wt jt nw pil my ai L tl ch) 538 [(0, .ref sc), (1, .ref (b 0)), (2, .ref mo), (3, .int (nI i))] [] := by
  obtain ⟨⟨rfl, rfl, rfl, rfl, rfl, rfl, rfl, rfl, rfl, rfl, rfl, rfl⟩, ⟨hTp, hFc, hT1, hT2⟩, ⟨hW1, hW2, hWz⟩, ⟨hPlI, hMt, hn⟩, ⟨hHa, hHm, hIo, hFn⟩, ⟨hMv, hMn⟩, hDb, ⟨oHa, oRh, hMy, oAi⟩, hLs, oTl, oCh, zHa, hBg⟩ := hR
  by_cases hb : h.1 = false ∨ hFam (hFs h) (xs (i + 1)) = false
  · skip
    refine r_aload_n (n := 539) hX dL_law_538 rfl rfl 1 rfl ?_
    refine r_aload_n (n := 540) hX dL_law_539 rfl rfl 0 rfl ?_
    refine r_iload_n (n := 541) hX dL_law_540 rfl rfl 3 rfl ?_
    refine r_iconst (n := 542) hX 1 dL_law_541 rfl rfl ?_
    refine r_iadd (n := 543) hX dL_law_542 rfl ?_
    refine Aw.topi (nI (i + 1)) (nI_add _ _) ?_
    refine r_sld (n := 544) (i := i + 1) hX hsc (by omega) hL dL_law_543 rfl ?_
    refine r_callV (n := 547) (av := [.int (xs (i + 1))]) hX (ct_goesN (CxL X) (CxD X) (b 0) (b 1) (b 5) (b 7) (b 19) (b 22) (b 37) (b 41) (b 45) (b 46) (b 53) h (xs (i + 1)) hb) ml_L_68 cv_X10_goes rfl (by decide) [0] rfl rfl (by decide) 0 rfl rfl rfl rfl rfl (Nat.le_of_ble_eq_true rfl) dL_law_544 rfl (fun r_ es_ h_ l_ => ?_)
    obtain ⟨rfl, rfl⟩ := h_
    refine Aw.esq (pw_2 : putAt (EW (CxD X) b mo a h fb tp z tk jv jk pl mt yr lg ha x1 x2 tp.2 (hFs h) fb.2.2.2 yr.2.2.2.1 (zFaultP z) h.2.2.2.1 h.2.2.2.2.1 h.2.2.2.2.2 h.2.1 yr.2.2.2.2 h.1 lg tr bg en tkk op wn jn cq cm fk kd mk le ke tpm t og nm mf hm io rh mn wt jt nw pil my ai L tl ch) [0] _ = EW (CxD X) b mo a h fb tp z tk jv jk pl mt yr lg ha x1 x2 tp.2 (hFs h) fb.2.2.2 yr.2.2.2.1 (zFaultP z) h.2.2.2.1 h.2.2.2.2.1 h.2.2.2.2.2 h.2.1 yr.2.2.2.2 h.1 lg tr bg en tkk op wn jn cq cm fk kd mk le ke tpm t og nm mf hm io rh mn wt jt nw pil my ai L tl ch) ?_
    show Aw X (KS b mo a) (EW (CxD X) b mo a h fb tp z tk jv jk pl mt yr lg ha x1 x2 tp.2 (hFs h) fb.2.2.2 yr.2.2.2.1 (zFaultP z) h.2.2.2.1 h.2.2.2.2.1 h.2.2.2.2.2 h.2.1 yr.2.2.2.2 h.1 lg tr bg en tkk op wn jn cq cm fk kd mk le ke tpm t og nm mf hm io rh mn wt jt nw pil my ai L tl ch) 547 [(0, .ref sc), (1, .ref (b 0)), (2, .ref mo), (3, .int (nI i))] [.int (-1)]
    refine r_aload_n (n := 548) hX dL_law_547 rfl rfl 2 rfl ?_
    refine r_aload_n (n := 549) hX dL_law_548 rfl rfl 0 rfl ?_
    refine r_iload_n (n := 550) hX dL_law_549 rfl rfl 3 rfl ?_
    refine r_iconst (n := 551) hX 1 dL_law_550 rfl rfl ?_
    refine r_iadd (n := 552) hX dL_law_551 rfl ?_
    refine Aw.topi (nI (i + 1)) (nI_add _ _) ?_
    refine r_sld (n := 553) (i := i + 1) hX hsc (by omega) hL dL_law_552 rfl ?_
    refine r_callV (n := 556) (av := [.int (xs (i + 1))]) hX (ct_m_goesN (CxL X) (CxD X) mo a tp.2 tr (hFs h) fb.2.2.2 yr.2.2.2.1 bg en tkk op wn jn cq cm fk (zFaultP z) h.2.2.2.1 h.2.2.2.2.1 h.2.2.2.2.2 h.2.1 kd mk le yr.2.2.2.2 h.1 ke (xs (i + 1)) (by rw [← fam_same hn]; exact hb)) ml_L_71 cv_X11_goes rfl (by decide) [60] rfl rfl (by decide) 60 rfl rfl rfl rfl rfl (Nat.le_of_ble_eq_true rfl) dL_law_553 rfl (fun r_ es_ h_ l_ => ?_)
    obtain ⟨rfl, rfl⟩ := h_
    refine Aw.esq (pw_3 : putAt (EW (CxD X) b mo a h fb tp z tk jv jk pl mt yr lg ha x1 x2 tp.2 (hFs h) fb.2.2.2 yr.2.2.2.1 (zFaultP z) h.2.2.2.1 h.2.2.2.2.1 h.2.2.2.2.2 h.2.1 yr.2.2.2.2 h.1 lg tr bg en tkk op wn jn cq cm fk kd mk le ke tpm t og nm mf hm io rh mn wt jt nw pil my ai L tl ch) [60] _ = EW (CxD X) b mo a h fb tp z tk jv jk pl mt yr lg ha x1 x2 tp.2 (hFs h) fb.2.2.2 yr.2.2.2.1 (zFaultP z) h.2.2.2.1 h.2.2.2.2.1 h.2.2.2.2.2 h.2.1 yr.2.2.2.2 h.1 lg tr bg en tkk op wn jn cq cm fk kd mk le ke tpm t og nm mf hm io rh mn wt jt nw pil my ai L tl ch) ?_
    show Aw X (KS b mo a) (EW (CxD X) b mo a h fb tp z tk jv jk pl mt yr lg ha x1 x2 tp.2 (hFs h) fb.2.2.2 yr.2.2.2.1 (zFaultP z) h.2.2.2.1 h.2.2.2.2.1 h.2.2.2.2.2 h.2.1 yr.2.2.2.2 h.1 lg tr bg en tkk op wn jn cq cm fk kd mk le ke tpm t og nm mf hm io rh mn wt jt nw pil my ai L tl ch) 556 [(0, .ref sc), (1, .ref (b 0)), (2, .ref mo), (3, .int (nI i))] [.int (-1), .int (-1)]
    refine r_icmp_eq (tgt := 735) (n := 559) hX dL_law_556 (by decide) rfl (fun _ => ?_) (fun hne => absurd (rfl) hne)
    exact kk b h fb tp z tk jv jk pl mt yr lg ha x1 x2 tp.2 (hFs h) fb.2.2.2 yr.2.2.2.1 (zFaultP z) h.2.2.2.1 h.2.2.2.2.1 h.2.2.2.2.2 h.2.1 yr.2.2.2.2 h.1 lg tr bg en tkk op wn jn cq cm fk kd mk le ke tpm t og nm mf hm io rh mn wt jt nw pil my ai L tl ch rfl ⟨⟨rfl, rfl, rfl, rfl, rfl, rfl, rfl, rfl, rfl, rfl, rfl, rfl⟩, ⟨hTp, hFc, hT1, hT2⟩, ⟨hW1, hW2, hWz⟩, ⟨hPlI, hMt, hn⟩, ⟨hHa, hHm, hIo, hFn⟩, ⟨hMv, hMn⟩, (hDb.more (Nat.le_succ _)), ⟨oHa, oRh, hMy, oAi⟩, hLs, oTl, oCh, zHa, hBg⟩
  · rcases fam_ix hn (xs (i + 1)) with hz | ⟨f, hf, hfw⟩
    · exact absurd (Or.inr hz) hb
    · have ht : h.1 = true := by
          cases q : h.1 with
          | true => rfl
          | false => exact absurd (Or.inl q) hb
      refine r_aload_n (n := 539) hX dL_law_538 rfl rfl 1 rfl ?_
      refine r_aload_n (n := 540) hX dL_law_539 rfl rfl 0 rfl ?_
      refine r_iload_n (n := 541) hX dL_law_540 rfl rfl 3 rfl ?_
      refine r_iconst (n := 542) hX 1 dL_law_541 rfl rfl ?_
      refine r_iadd (n := 543) hX dL_law_542 rfl ?_
      refine Aw.topi (nI (i + 1)) (nI_add _ _) ?_
      refine r_sld (n := 544) (i := i + 1) hX hsc (by omega) hL dL_law_543 rfl ?_
      refine Aw.topi (nI f) hfw ?_
      refine r_callV (n := 547) (av := [.int (nI f)]) hX (ct_X10_goes (CxL X) (CxD X) (b 0) (b 1) (b 5) (b 7) (b 19) (b 22) (b 37) (b 41) (b 45) (b 46) (b 53) h ha f hn ht hf) ml_L_68 cv_X10_goes rfl (by decide) [0, 45] rfl rfl (by decide) 0 rfl rfl rfl rfl rfl (Nat.le_of_ble_eq_true rfl) dL_law_544 rfl (fun r_ es_ h_ l_ => ?_)
      obtain ⟨rfl, rfl⟩ := h_
      refine Aw.esq (pw_7 : putAt (EW (CxD X) b mo a h fb tp z tk jv jk pl mt yr lg ha x1 x2 tp.2 (hFs h) fb.2.2.2 yr.2.2.2.1 (zFaultP z) h.2.2.2.1 h.2.2.2.2.1 h.2.2.2.2.2 h.2.1 yr.2.2.2.2 h.1 lg tr bg en tkk op wn jn cq cm fk kd mk le ke tpm t og nm mf hm io rh mn wt jt nw pil my ai L tl ch) [0, 45] _ = EW (CxD X) b mo a h fb tp z tk jv jk pl mt yr lg ha x1 x2 tp.2 (hFs h) fb.2.2.2 yr.2.2.2.1 (zFaultP z) h.2.2.2.1 h.2.2.2.2.1 h.2.2.2.2.2 h.2.1 yr.2.2.2.2 h.1 lg tr bg en tkk op wn jn cq cm fk kd mk le ke tpm t og nm mf hm io rh mn wt jt nw pil my ai L tl ch) ?_
      show Aw X (KS b mo a) (EW (CxD X) b mo a h fb tp z tk jv jk pl mt yr lg ha x1 x2 tp.2 (hFs h) fb.2.2.2 yr.2.2.2.1 (zFaultP z) h.2.2.2.1 h.2.2.2.2.1 h.2.2.2.2.2 h.2.1 yr.2.2.2.2 h.1 lg tr bg en tkk op wn jn cq cm fk kd mk le ke tpm t og nm mf hm io rh mn wt jt nw pil my ai L tl ch) 547 [(0, .ref sc), (1, .ref (b 0)), (2, .ref mo), (3, .int (nI i))] [.int (eo (ha f))]
      refine r_aload_n (n := 548) hX dL_law_547 rfl rfl 2 rfl ?_
      refine r_aload_n (n := 549) hX dL_law_548 rfl rfl 0 rfl ?_
      refine r_iload_n (n := 550) hX dL_law_549 rfl rfl 3 rfl ?_
      refine r_iconst (n := 551) hX 1 dL_law_550 rfl rfl ?_
      refine r_iadd (n := 552) hX dL_law_551 rfl ?_
      refine Aw.topi (nI (i + 1)) (nI_add _ _) ?_
      refine r_sld (n := 553) (i := i + 1) hX hsc (by omega) hL dL_law_552 rfl ?_
      refine Aw.topi (nI f) hfw ?_
      refine r_callV (n := 556) (av := [.int (nI f)]) hX (ct_m_goes (CxL X) (CxD X) mo a tp.2 tr (hFs h) fb.2.2.2 yr.2.2.2.1 bg en tkk op wn jn cq cm fk (zFaultP z) h.2.2.2.1 h.2.2.2.2.1 h.2.2.2.2.2 h.2.1 kd mk le yr.2.2.2.2 h.1 ke rh f hn ht hf) ml_L_71 cv_X11_goes rfl (by decide) [60, 81] rfl rfl (by decide) 60 rfl rfl rfl rfl rfl (Nat.le_of_ble_eq_true rfl) dL_law_553 rfl (fun r_ es_ h_ l_ => ?_)
      obtain ⟨rfl, rfl⟩ := h_
      refine Aw.esq (pw_8 : putAt (EW (CxD X) b mo a h fb tp z tk jv jk pl mt yr lg ha x1 x2 tp.2 (hFs h) fb.2.2.2 yr.2.2.2.1 (zFaultP z) h.2.2.2.1 h.2.2.2.2.1 h.2.2.2.2.2 h.2.1 yr.2.2.2.2 h.1 lg tr bg en tkk op wn jn cq cm fk kd mk le ke tpm t og nm mf hm io rh mn wt jt nw pil my ai L tl ch) [60, 81] _ = EW (CxD X) b mo a h fb tp z tk jv jk pl mt yr lg ha x1 x2 tp.2 (hFs h) fb.2.2.2 yr.2.2.2.1 (zFaultP z) h.2.2.2.1 h.2.2.2.2.1 h.2.2.2.2.2 h.2.1 yr.2.2.2.2 h.1 lg tr bg en tkk op wn jn cq cm fk kd mk le ke tpm t og nm mf hm io rh mn wt jt nw pil my ai L tl ch) ?_
      show Aw X (KS b mo a) (EW (CxD X) b mo a h fb tp z tk jv jk pl mt yr lg ha x1 x2 tp.2 (hFs h) fb.2.2.2 yr.2.2.2.1 (zFaultP z) h.2.2.2.1 h.2.2.2.2.1 h.2.2.2.2.2 h.2.1 yr.2.2.2.2 h.1 lg tr bg en tkk op wn jn cq cm fk kd mk le ke tpm t og nm mf hm io rh mn wt jt nw pil my ai L tl ch) 556 [(0, .ref sc), (1, .ref (b 0)), (2, .ref mo), (3, .int (nI i))] [.int (eo (rh f)), .int (eo (ha f))]
      refine r_icmp_eq (tgt := 735) (n := 559) hX dL_law_556 (by decide) rfl (fun _ => ?_) (fun hne => absurd (by rw [(hHa ht).1 f (by omega)]) hne)
      exact kk b h fb tp z tk jv jk pl mt yr lg ha x1 x2 tp.2 (hFs h) fb.2.2.2 yr.2.2.2.1 (zFaultP z) h.2.2.2.1 h.2.2.2.2.1 h.2.2.2.2.2 h.2.1 yr.2.2.2.2 h.1 lg tr bg en tkk op wn jn cq cm fk kd mk le ke tpm t og nm mf hm io rh mn wt jt nw pil my ai L tl ch rfl ⟨⟨rfl, rfl, rfl, rfl, rfl, rfl, rfl, rfl, rfl, rfl, rfl, rfl⟩, ⟨hTp, hFc, hT1, hT2⟩, ⟨hW1, hW2, hWz⟩, ⟨hPlI, hMt, hn⟩, ⟨hHa, hHm, hIo, hFn⟩, ⟨hMv, hMn⟩, (hDb.more (Nat.le_succ _)), ⟨oHa, oRh, hMy, oAi⟩, hLs, oTl, oCh, zHa, hBg⟩
set_option maxHeartbeats 4000000 in
set_option maxRecDepth 100000 in
theorem law_costs {X : Cx} {b : Nat → Nat} {mo : Nat} {a : Nat → Nat} {sc Ln i N : Nat} {xs : Nat → Int32} (hX : Ok X cL_law 4 RL 36) (hsc : Sc X sc Ln xs) (hL : Ln ≤ 3072) (hi : i + 6 ≤ Ln) (hN : N < 1000000) (kk : ∀ (b' : Nat → Nat) (h : HS) (fb : FB) (tp : TP) (z : PZ) (tk : TK) (jv : Nat → Int32) (jk : Nat → Int32) (pl : PL) (mt : MT) (yr : YR) (lg : LG) (ha : Nat → Option Nat) (x1 : TX) (x2 : TX) (tn : Nat) (fm : Nat) (fn : Nat) (mv : Nat) (fp : Int32) (ck : Int32) (te : Int32) (yn : Int32) (rc : Int32) (hp : Bool) (ir : Bool) (lgm : LG) (tr : Nat) (bg : Nat) (en : Nat) (tkk : Nat) (op : Nat) (wn : Nat) (jn : Nat) (cq : Nat) (cm : Nat) (fk : Int32) (kd : Int32) (mk : Int32) (le : Int64) (ke : Bool) (tpm : Nat → Int32) (t : MR) (og : Nat → Nat) (nm : Nat → Int64) (mf : MF) (hm : Nat → Option Nat) (io : Nat → Bool) (rh : Nat → Option Nat) (mn : Nat → Nat) (wt : Nat → Int32) (jt : Nat → Int32) (nw : Nat → Int32) (pil : Nat → Int32) (my : MY) (ai : Nat → Option Nat) (L : Nat → Nat) (tl : Nat → Option Nat) (ch : Nat → Option Nat), b' 0 = b 0 → SR (N + 1) h fb tp z tk jv jk pl mt yr lg ha x1 x2 tn fm fn mv fp ck te yn rc hp ir lgm tr bg en tkk op wn jn cq cm fk kd mk le ke tpm t og nm mf hm io rh mn wt jt nw pil my ai L tl ch → Aw X (KS b' mo a) (EW (CxD X) b' mo a h fb tp z tk jv jk pl mt yr lg ha x1 x2 tn fm fn mv fp ck te yn rc hp ir lgm tr bg en tkk op wn jn cq cm fk kd mk le ke tpm t og nm mf hm io rh mn wt jt nw pil my ai L tl ch) 735 [(0, .ref sc), (1, .ref (b 0)), (2, .ref mo), (3, .int (nI i))] []) (h : HS) (fb : FB) (tp : TP) (z : PZ) (tk : TK) (jv : Nat → Int32) (jk : Nat → Int32) (pl : PL) (mt : MT) (yr : YR) (lg : LG) (ha : Nat → Option Nat) (x1 : TX) (x2 : TX) (tn : Nat) (fm : Nat) (fn : Nat) (mv : Nat) (fp : Int32) (ck : Int32) (te : Int32) (yn : Int32) (rc : Int32) (hp : Bool) (ir : Bool) (lgm : LG) (tr : Nat) (bg : Nat) (en : Nat) (tkk : Nat) (op : Nat) (wn : Nat) (jn : Nat) (cq : Nat) (cm : Nat) (fk : Int32) (kd : Int32) (mk : Int32) (le : Int64) (ke : Bool) (tpm : Nat → Int32) (t : MR) (og : Nat → Nat) (nm : Nat → Int64) (mf : MF) (hm : Nat → Option Nat) (io : Nat → Bool) (rh : Nat → Option Nat) (mn : Nat → Nat) (wt : Nat → Int32) (jt : Nat → Int32) (nw : Nat → Int32) (pil : Nat → Int32) (my : MY) (ai : Nat → Option Nat) (L : Nat → Nat) (tl : Nat → Option Nat) (ch : Nat → Option Nat) (hR : SR N h fb tp z tk jv jk pl mt yr lg ha x1 x2 tn fm fn mv fp ck te yn rc hp ir lgm tr bg en tkk op wn jn cq cm fk kd mk le ke tpm t og nm mf hm io rh mn wt jt nw pil my ai L tl ch) : Aw X (KS b mo a) (EW (CxD X) b mo a h fb tp z tk jv jk pl mt yr lg ha x1 x2 tn fm fn mv fp ck te yn rc hp ir lgm tr bg en tkk op wn jn cq cm fk kd mk le ke tpm t og nm mf hm io rh mn wt jt nw pil my ai L tl ch) 561 [(0, .ref sc), (1, .ref (b 0)), (2, .ref mo), (3, .int (nI i))] [] := by
  obtain ⟨⟨rfl, rfl, rfl, rfl, rfl, rfl, rfl, rfl, rfl, rfl, rfl, rfl⟩, ⟨hTp, hFc, hT1, hT2⟩, ⟨hW1, hW2, hWz⟩, ⟨hPlI, hMt, hn⟩, ⟨hHa, hHm, hIo, hFn⟩, ⟨hMv, hMn⟩, hDb, ⟨oHa, oRh, hMy, oAi⟩, hLs, oTl, oCh, zHa, hBg⟩ := hR
  refine r_aload_n (n := 562) hX dL_law_561 rfl rfl 1 rfl ?_
  refine r_callV (n := 565) (av := []) hX (ct_X10_costs (CxL X) (CxD X) (b 0) (b 1) (b 5) (b 7) (b 19) (b 22) (b 37) (b 41) (b 45) (b 46) (b 53) h) ml_L_72 cv_X10_costs rfl (by decide) [0] rfl rfl (by decide) 0 rfl rfl rfl rfl rfl (Nat.le_of_ble_eq_true rfl) dL_law_562 rfl (fun r_ es_ h_ l_ => ?_)
  obtain ⟨rfl, rfl⟩ := h_
  refine Aw.esq (pw_2 : putAt (EW (CxD X) b mo a h fb tp z tk jv jk pl mt yr lg ha x1 x2 tp.2 (hFs h) fb.2.2.2 yr.2.2.2.1 (zFaultP z) h.2.2.2.1 h.2.2.2.2.1 h.2.2.2.2.2 h.2.1 yr.2.2.2.2 h.1 lg tr bg en tkk op wn jn cq cm fk kd mk le ke tpm t og nm mf hm io rh mn wt jt nw pil my ai L tl ch) [0] _ = EW (CxD X) b mo a h fb tp z tk jv jk pl mt yr lg ha x1 x2 tp.2 (hFs h) fb.2.2.2 yr.2.2.2.1 (zFaultP z) h.2.2.2.1 h.2.2.2.2.1 h.2.2.2.2.2 h.2.1 yr.2.2.2.2 h.1 lg tr bg en tkk op wn jn cq cm fk kd mk le ke tpm t og nm mf hm io rh mn wt jt nw pil my ai L tl ch) ?_
  show Aw X (KS b mo a) (EW (CxD X) b mo a h fb tp z tk jv jk pl mt yr lg ha x1 x2 tp.2 (hFs h) fb.2.2.2 yr.2.2.2.1 (zFaultP z) h.2.2.2.1 h.2.2.2.2.1 h.2.2.2.2.2 h.2.1 yr.2.2.2.2 h.1 lg tr bg en tkk op wn jn cq cm fk kd mk le ke tpm t og nm mf hm io rh mn wt jt nw pil my ai L tl ch) 565 [(0, .ref sc), (1, .ref (b 0)), (2, .ref mo), (3, .int (nI i))] [.int (if h.1 = true then h.2.1 else -1)]
  refine r_aload_n (n := 566) hX dL_law_565 rfl rfl 2 rfl ?_
  refine r_callV (n := 569) (av := []) hX (ct_X11_costs (CxL X) (CxD X) mo a tp.2 tr (hFs h) fb.2.2.2 yr.2.2.2.1 bg en tkk op wn jn cq cm fk (zFaultP z) h.2.2.2.1 h.2.2.2.2.1 h.2.2.2.2.2 h.2.1 kd mk le yr.2.2.2.2 h.1 ke) ml_L_75 cv_X11_costs rfl (by decide) [60] rfl rfl (by decide) 60 rfl rfl rfl rfl rfl (Nat.le_of_ble_eq_true rfl) dL_law_566 rfl (fun r_ es_ h_ l_ => ?_)
  obtain ⟨rfl, rfl⟩ := h_
  refine Aw.esq (pw_3 : putAt (EW (CxD X) b mo a h fb tp z tk jv jk pl mt yr lg ha x1 x2 tp.2 (hFs h) fb.2.2.2 yr.2.2.2.1 (zFaultP z) h.2.2.2.1 h.2.2.2.2.1 h.2.2.2.2.2 h.2.1 yr.2.2.2.2 h.1 lg tr bg en tkk op wn jn cq cm fk kd mk le ke tpm t og nm mf hm io rh mn wt jt nw pil my ai L tl ch) [60] _ = EW (CxD X) b mo a h fb tp z tk jv jk pl mt yr lg ha x1 x2 tp.2 (hFs h) fb.2.2.2 yr.2.2.2.1 (zFaultP z) h.2.2.2.1 h.2.2.2.2.1 h.2.2.2.2.2 h.2.1 yr.2.2.2.2 h.1 lg tr bg en tkk op wn jn cq cm fk kd mk le ke tpm t og nm mf hm io rh mn wt jt nw pil my ai L tl ch) ?_
  show Aw X (KS b mo a) (EW (CxD X) b mo a h fb tp z tk jv jk pl mt yr lg ha x1 x2 tp.2 (hFs h) fb.2.2.2 yr.2.2.2.1 (zFaultP z) h.2.2.2.1 h.2.2.2.2.1 h.2.2.2.2.2 h.2.1 yr.2.2.2.2 h.1 lg tr bg en tkk op wn jn cq cm fk kd mk le ke tpm t og nm mf hm io rh mn wt jt nw pil my ai L tl ch) 569 [(0, .ref sc), (1, .ref (b 0)), (2, .ref mo), (3, .int (nI i))] [.int (if h.1 = true then h.2.1 else -1), .int (if h.1 = true then h.2.1 else -1)]
  refine r_icmp_eq (tgt := 735) (n := 572) hX dL_law_569 (by decide) rfl (fun _ => ?_) (fun hne => absurd (rfl) hne)
  exact kk b h fb tp z tk jv jk pl mt yr lg ha x1 x2 tp.2 (hFs h) fb.2.2.2 yr.2.2.2.1 (zFaultP z) h.2.2.2.1 h.2.2.2.2.1 h.2.2.2.2.2 h.2.1 yr.2.2.2.2 h.1 lg tr bg en tkk op wn jn cq cm fk kd mk le ke tpm t og nm mf hm io rh mn wt jt nw pil my ai L tl ch rfl ⟨⟨rfl, rfl, rfl, rfl, rfl, rfl, rfl, rfl, rfl, rfl, rfl, rfl⟩, ⟨hTp, hFc, hT1, hT2⟩, ⟨hW1, hW2, hWz⟩, ⟨hPlI, hMt, hn⟩, ⟨hHa, hHm, hIo, hFn⟩, ⟨hMv, hMn⟩, (hDb.more (Nat.le_succ _)), ⟨oHa, oRh, hMy, oAi⟩, hLs, oTl, oCh, zHa, hBg⟩
set_option maxHeartbeats 4000000 in
set_option maxRecDepth 100000 in
theorem law_moved {X : Cx} {b : Nat → Nat} {mo : Nat} {a : Nat → Nat} {sc Ln i N : Nat} {xs : Nat → Int32} (hX : Ok X cL_law 4 RL 36) (hsc : Sc X sc Ln xs) (hL : Ln ≤ 3072) (hi : i + 6 ≤ Ln) (hN : N < 1000000) (kk : ∀ (b' : Nat → Nat) (h : HS) (fb : FB) (tp : TP) (z : PZ) (tk : TK) (jv : Nat → Int32) (jk : Nat → Int32) (pl : PL) (mt : MT) (yr : YR) (lg : LG) (ha : Nat → Option Nat) (x1 : TX) (x2 : TX) (tn : Nat) (fm : Nat) (fn : Nat) (mv : Nat) (fp : Int32) (ck : Int32) (te : Int32) (yn : Int32) (rc : Int32) (hp : Bool) (ir : Bool) (lgm : LG) (tr : Nat) (bg : Nat) (en : Nat) (tkk : Nat) (op : Nat) (wn : Nat) (jn : Nat) (cq : Nat) (cm : Nat) (fk : Int32) (kd : Int32) (mk : Int32) (le : Int64) (ke : Bool) (tpm : Nat → Int32) (t : MR) (og : Nat → Nat) (nm : Nat → Int64) (mf : MF) (hm : Nat → Option Nat) (io : Nat → Bool) (rh : Nat → Option Nat) (mn : Nat → Nat) (wt : Nat → Int32) (jt : Nat → Int32) (nw : Nat → Int32) (pil : Nat → Int32) (my : MY) (ai : Nat → Option Nat) (L : Nat → Nat) (tl : Nat → Option Nat) (ch : Nat → Option Nat), b' 0 = b 0 → SR (N + 1) h fb tp z tk jv jk pl mt yr lg ha x1 x2 tn fm fn mv fp ck te yn rc hp ir lgm tr bg en tkk op wn jn cq cm fk kd mk le ke tpm t og nm mf hm io rh mn wt jt nw pil my ai L tl ch → Aw X (KS b' mo a) (EW (CxD X) b' mo a h fb tp z tk jv jk pl mt yr lg ha x1 x2 tn fm fn mv fp ck te yn rc hp ir lgm tr bg en tkk op wn jn cq cm fk kd mk le ke tpm t og nm mf hm io rh mn wt jt nw pil my ai L tl ch) 735 [(0, .ref sc), (1, .ref (b 0)), (2, .ref mo), (3, .int (nI i))] []) (h : HS) (fb : FB) (tp : TP) (z : PZ) (tk : TK) (jv : Nat → Int32) (jk : Nat → Int32) (pl : PL) (mt : MT) (yr : YR) (lg : LG) (ha : Nat → Option Nat) (x1 : TX) (x2 : TX) (tn : Nat) (fm : Nat) (fn : Nat) (mv : Nat) (fp : Int32) (ck : Int32) (te : Int32) (yn : Int32) (rc : Int32) (hp : Bool) (ir : Bool) (lgm : LG) (tr : Nat) (bg : Nat) (en : Nat) (tkk : Nat) (op : Nat) (wn : Nat) (jn : Nat) (cq : Nat) (cm : Nat) (fk : Int32) (kd : Int32) (mk : Int32) (le : Int64) (ke : Bool) (tpm : Nat → Int32) (t : MR) (og : Nat → Nat) (nm : Nat → Int64) (mf : MF) (hm : Nat → Option Nat) (io : Nat → Bool) (rh : Nat → Option Nat) (mn : Nat → Nat) (wt : Nat → Int32) (jt : Nat → Int32) (nw : Nat → Int32) (pil : Nat → Int32) (my : MY) (ai : Nat → Option Nat) (L : Nat → Nat) (tl : Nat → Option Nat) (ch : Nat → Option Nat) (hR : SR N h fb tp z tk jv jk pl mt yr lg ha x1 x2 tn fm fn mv fp ck te yn rc hp ir lgm tr bg en tkk op wn jn cq cm fk kd mk le ke tpm t og nm mf hm io rh mn wt jt nw pil my ai L tl ch) : Aw X (KS b mo a) (EW (CxD X) b mo a h fb tp z tk jv jk pl mt yr lg ha x1 x2 tn fm fn mv fp ck te yn rc hp ir lgm tr bg en tkk op wn jn cq cm fk kd mk le ke tpm t og nm mf hm io rh mn wt jt nw pil my ai L tl ch) 610 [(0, .ref sc), (1, .ref (b 0)), (2, .ref mo), (3, .int (nI i))] [] := by
  obtain ⟨⟨rfl, rfl, rfl, rfl, rfl, rfl, rfl, rfl, rfl, rfl, rfl, rfl⟩, ⟨hTp, hFc, hT1, hT2⟩, ⟨hW1, hW2, hWz⟩, ⟨hPlI, hMt, hn⟩, ⟨hHa, hHm, hIo, hFn⟩, ⟨hMv, hMn⟩, hDb, ⟨oHa, oRh, hMy, oAi⟩, hLs, oTl, oCh, zHa, hBg⟩ := hR
  rcases ix_cases (xs (i + 1)) with hw | ⟨n, hn1, hw⟩
  · skip
    refine r_aload_n (n := 611) hX dL_law_610 rfl rfl 1 rfl ?_
    refine r_aload_n (n := 612) hX dL_law_611 rfl rfl 0 rfl ?_
    refine r_iload_n (n := 613) hX dL_law_612 rfl rfl 3 rfl ?_
    refine r_iconst (n := 614) hX 1 dL_law_613 rfl rfl ?_
    refine r_iadd (n := 615) hX dL_law_614 rfl ?_
    refine Aw.topi (nI (i + 1)) (nI_add _ _) ?_
    refine r_sld (n := 616) (i := i + 1) hX hsc (by omega) hL dL_law_615 rfl ?_
    refine r_callV (n := 619) (av := [.int (xs (i + 1))]) hX (ct_movedN (CxL X) (CxD X) (b 0) (b 1) (b 5) (b 7) (b 19) (b 22) (b 37) (b 41) (b 45) (b 46) (b 53) h (xs (i + 1)) hw) ml_L_84 cv_X10_moved rfl (by decide) [0] rfl rfl (by decide) 0 rfl rfl rfl rfl rfl (Nat.le_of_ble_eq_true rfl) dL_law_616 rfl (fun r_ es_ h_ l_ => ?_)
    obtain ⟨rfl, rfl⟩ := h_
    refine Aw.esq (pw_2 : putAt (EW (CxD X) b mo a h fb tp z tk jv jk pl mt yr lg ha x1 x2 tp.2 (hFs h) fb.2.2.2 yr.2.2.2.1 (zFaultP z) h.2.2.2.1 h.2.2.2.2.1 h.2.2.2.2.2 h.2.1 yr.2.2.2.2 h.1 lg tr bg en tkk op wn jn cq cm fk kd mk le ke tpm t og nm mf hm io rh mn wt jt nw pil my ai L tl ch) [0] _ = EW (CxD X) b mo a h fb tp z tk jv jk pl mt yr lg ha x1 x2 tp.2 (hFs h) fb.2.2.2 yr.2.2.2.1 (zFaultP z) h.2.2.2.1 h.2.2.2.2.1 h.2.2.2.2.2 h.2.1 yr.2.2.2.2 h.1 lg tr bg en tkk op wn jn cq cm fk kd mk le ke tpm t og nm mf hm io rh mn wt jt nw pil my ai L tl ch) ?_
    show Aw X (KS b mo a) (EW (CxD X) b mo a h fb tp z tk jv jk pl mt yr lg ha x1 x2 tp.2 (hFs h) fb.2.2.2 yr.2.2.2.1 (zFaultP z) h.2.2.2.1 h.2.2.2.2.1 h.2.2.2.2.2 h.2.1 yr.2.2.2.2 h.1 lg tr bg en tkk op wn jn cq cm fk kd mk le ke tpm t og nm mf hm io rh mn wt jt nw pil my ai L tl ch) 619 [(0, .ref sc), (1, .ref (b 0)), (2, .ref mo), (3, .int (nI i))] [.int (-1)]
    refine r_aload_n (n := 620) hX dL_law_619 rfl rfl 2 rfl ?_
    refine r_aload_n (n := 621) hX dL_law_620 rfl rfl 0 rfl ?_
    refine r_iload_n (n := 622) hX dL_law_621 rfl rfl 3 rfl ?_
    refine r_iconst (n := 623) hX 1 dL_law_622 rfl rfl ?_
    refine r_iadd (n := 624) hX dL_law_623 rfl ?_
    refine Aw.topi (nI (i + 1)) (nI_add _ _) ?_
    refine r_sld (n := 625) (i := i + 1) hX hsc (by omega) hL dL_law_624 rfl ?_
    refine r_callV (n := 628) (av := [.int (xs (i + 1))]) hX (ct_m_movedN (CxL X) (CxD X) mo a tp.2 tr (hFs h) fb.2.2.2 yr.2.2.2.1 bg en tkk op wn jn cq cm fk (zFaultP z) h.2.2.2.1 h.2.2.2.2.1 h.2.2.2.2.2 h.2.1 kd mk le yr.2.2.2.2 h.1 ke (xs (i + 1)) (Or.inl hw)) ml_L_87 cv_X11_moved rfl (by decide) [60] rfl rfl (by decide) 60 rfl rfl rfl rfl rfl (Nat.le_of_ble_eq_true rfl) dL_law_625 rfl (fun r_ es_ h_ l_ => ?_)
    obtain ⟨rfl, rfl⟩ := h_
    refine Aw.esq (pw_3 : putAt (EW (CxD X) b mo a h fb tp z tk jv jk pl mt yr lg ha x1 x2 tp.2 (hFs h) fb.2.2.2 yr.2.2.2.1 (zFaultP z) h.2.2.2.1 h.2.2.2.2.1 h.2.2.2.2.2 h.2.1 yr.2.2.2.2 h.1 lg tr bg en tkk op wn jn cq cm fk kd mk le ke tpm t og nm mf hm io rh mn wt jt nw pil my ai L tl ch) [60] _ = EW (CxD X) b mo a h fb tp z tk jv jk pl mt yr lg ha x1 x2 tp.2 (hFs h) fb.2.2.2 yr.2.2.2.1 (zFaultP z) h.2.2.2.1 h.2.2.2.2.1 h.2.2.2.2.2 h.2.1 yr.2.2.2.2 h.1 lg tr bg en tkk op wn jn cq cm fk kd mk le ke tpm t og nm mf hm io rh mn wt jt nw pil my ai L tl ch) ?_
    show Aw X (KS b mo a) (EW (CxD X) b mo a h fb tp z tk jv jk pl mt yr lg ha x1 x2 tp.2 (hFs h) fb.2.2.2 yr.2.2.2.1 (zFaultP z) h.2.2.2.1 h.2.2.2.2.1 h.2.2.2.2.2 h.2.1 yr.2.2.2.2 h.1 lg tr bg en tkk op wn jn cq cm fk kd mk le ke tpm t og nm mf hm io rh mn wt jt nw pil my ai L tl ch) 628 [(0, .ref sc), (1, .ref (b 0)), (2, .ref mo), (3, .int (nI i))] [.int (-1), .int (-1)]
    refine r_icmp_eq (tgt := 735) (n := 631) hX dL_law_628 (by decide) rfl (fun _ => ?_) (fun hne => absurd (rfl) hne)
    exact kk b h fb tp z tk jv jk pl mt yr lg ha x1 x2 tp.2 (hFs h) fb.2.2.2 yr.2.2.2.1 (zFaultP z) h.2.2.2.1 h.2.2.2.2.1 h.2.2.2.2.2 h.2.1 yr.2.2.2.2 h.1 lg tr bg en tkk op wn jn cq cm fk kd mk le ke tpm t og nm mf hm io rh mn wt jt nw pil my ai L tl ch rfl ⟨⟨rfl, rfl, rfl, rfl, rfl, rfl, rfl, rfl, rfl, rfl, rfl, rfl⟩, ⟨hTp, hFc, hT1, hT2⟩, ⟨hW1, hW2, hWz⟩, ⟨hPlI, hMt, hn⟩, ⟨hHa, hHm, hIo, hFn⟩, ⟨hMv, hMn⟩, (hDb.more (Nat.le_succ _)), ⟨oHa, oRh, hMy, oAi⟩, hLs, oTl, oCh, zHa, hBg⟩
  · by_cases hl : n < yr.2.2.2.1
    · skip
      refine r_aload_n (n := 611) hX dL_law_610 rfl rfl 1 rfl ?_
      refine r_aload_n (n := 612) hX dL_law_611 rfl rfl 0 rfl ?_
      refine r_iload_n (n := 613) hX dL_law_612 rfl rfl 3 rfl ?_
      refine r_iconst (n := 614) hX 1 dL_law_613 rfl rfl ?_
      refine r_iadd (n := 615) hX dL_law_614 rfl ?_
      refine Aw.topi (nI (i + 1)) (nI_add _ _) ?_
      refine r_sld (n := 616) (i := i + 1) hX hsc (by omega) hL dL_law_615 rfl ?_
      refine Aw.topi (nI n) hw ?_
      refine r_callV (n := 619) (av := [.int (nI n)]) hX (ct_X10_moved (CxL X) (CxD X) (b 0) (b 1) (b 5) (b 7) (b 19) (b 22) (b 37) (b 41) (b 45) (b 46) (b 53) (b 38) (b 39) (b 40) h yr n hn1 hMv) ml_L_84 cv_X10_moved rfl (by decide) [0, 37, 38, 39, 40] rfl rfl (by decide) 0 rfl rfl rfl rfl rfl (Nat.le_of_ble_eq_true rfl) dL_law_616 rfl (fun r_ es_ h_ l_ => ?_)
      obtain ⟨rfl, rfl⟩ := h_
      refine Aw.esq (pw_9 : putAt (EW (CxD X) b mo a h fb tp z tk jv jk pl mt yr lg ha x1 x2 tp.2 (hFs h) fb.2.2.2 yr.2.2.2.1 (zFaultP z) h.2.2.2.1 h.2.2.2.2.1 h.2.2.2.2.2 h.2.1 yr.2.2.2.2 h.1 lg tr bg en tkk op wn jn cq cm fk kd mk le ke tpm t og nm mf hm io rh mn wt jt nw pil my ai L tl ch) [0, 37, 38, 39, 40] _ = EW (CxD X) b mo a h fb tp z tk jv jk pl mt yr lg ha x1 x2 tp.2 (hFs h) fb.2.2.2 yr.2.2.2.1 (zFaultP z) h.2.2.2.1 h.2.2.2.2.1 h.2.2.2.2.2 h.2.1 yr.2.2.2.2 h.1 lg tr bg en tkk op wn jn cq cm fk kd mk le ke tpm t og nm mf hm io rh mn wt jt nw pil my ai L tl ch) ?_
      show Aw X (KS b mo a) (EW (CxD X) b mo a h fb tp z tk jv jk pl mt yr lg ha x1 x2 tp.2 (hFs h) fb.2.2.2 yr.2.2.2.1 (zFaultP z) h.2.2.2.1 h.2.2.2.2.1 h.2.2.2.2.2 h.2.1 yr.2.2.2.2 h.1 lg tr bg en tkk op wn jn cq cm fk kd mk le ke tpm t og nm mf hm io rh mn wt jt nw pil my ai L tl ch) 619 [(0, .ref sc), (1, .ref (b 0)), (2, .ref mo), (3, .int (nI i))] [.int (if n < yr.2.2.2.1 ∧ n < 12 then nI (yr.2.2.1 n) else -1)]
      refine r_aload_n (n := 620) hX dL_law_619 rfl rfl 2 rfl ?_
      refine r_aload_n (n := 621) hX dL_law_620 rfl rfl 0 rfl ?_
      refine r_iload_n (n := 622) hX dL_law_621 rfl rfl 3 rfl ?_
      refine r_iconst (n := 623) hX 1 dL_law_622 rfl rfl ?_
      refine r_iadd (n := 624) hX dL_law_623 rfl ?_
      refine Aw.topi (nI (i + 1)) (nI_add _ _) ?_
      refine r_sld (n := 625) (i := i + 1) hX hsc (by omega) hL dL_law_624 rfl ?_
      refine Aw.topi (nI n) hw ?_
      refine r_callV (n := 628) (av := [.int (nI n)]) hX (ct_m_moved (CxL X) (CxD X) mo a tp.2 tr (hFs h) fb.2.2.2 yr.2.2.2.1 bg en tkk op wn jn cq cm fk (zFaultP z) h.2.2.2.1 h.2.2.2.2.1 h.2.2.2.2.2 h.2.1 kd mk le yr.2.2.2.2 h.1 ke mn n hMv hl) ml_L_87 cv_X11_moved rfl (by decide) [60, 82] rfl rfl (by decide) 60 rfl rfl rfl rfl rfl (Nat.le_of_ble_eq_true rfl) dL_law_625 rfl (fun r_ es_ h_ l_ => ?_)
      obtain ⟨rfl, rfl⟩ := h_
      refine Aw.esq (pw_10 : putAt (EW (CxD X) b mo a h fb tp z tk jv jk pl mt yr lg ha x1 x2 tp.2 (hFs h) fb.2.2.2 yr.2.2.2.1 (zFaultP z) h.2.2.2.1 h.2.2.2.2.1 h.2.2.2.2.2 h.2.1 yr.2.2.2.2 h.1 lg tr bg en tkk op wn jn cq cm fk kd mk le ke tpm t og nm mf hm io rh mn wt jt nw pil my ai L tl ch) [60, 82] _ = EW (CxD X) b mo a h fb tp z tk jv jk pl mt yr lg ha x1 x2 tp.2 (hFs h) fb.2.2.2 yr.2.2.2.1 (zFaultP z) h.2.2.2.1 h.2.2.2.2.1 h.2.2.2.2.2 h.2.1 yr.2.2.2.2 h.1 lg tr bg en tkk op wn jn cq cm fk kd mk le ke tpm t og nm mf hm io rh mn wt jt nw pil my ai L tl ch) ?_
      show Aw X (KS b mo a) (EW (CxD X) b mo a h fb tp z tk jv jk pl mt yr lg ha x1 x2 tp.2 (hFs h) fb.2.2.2 yr.2.2.2.1 (zFaultP z) h.2.2.2.1 h.2.2.2.2.1 h.2.2.2.2.2 h.2.1 yr.2.2.2.2 h.1 lg tr bg en tkk op wn jn cq cm fk kd mk le ke tpm t og nm mf hm io rh mn wt jt nw pil my ai L tl ch) 628 [(0, .ref sc), (1, .ref (b 0)), (2, .ref mo), (3, .int (nI i))] [.int (nI (mn n)), .int (if n < yr.2.2.2.1 ∧ n < 12 then nI (yr.2.2.1 n) else -1)]
      refine r_icmp_eq (tgt := 735) (n := 631) hX dL_law_628 (by decide) rfl (fun _ => ?_) (fun hne => absurd (by rw [if_pos ⟨hl, by omega⟩, hMn n hl]) hne)
      exact kk b h fb tp z tk jv jk pl mt yr lg ha x1 x2 tp.2 (hFs h) fb.2.2.2 yr.2.2.2.1 (zFaultP z) h.2.2.2.1 h.2.2.2.2.1 h.2.2.2.2.2 h.2.1 yr.2.2.2.2 h.1 lg tr bg en tkk op wn jn cq cm fk kd mk le ke tpm t og nm mf hm io rh mn wt jt nw pil my ai L tl ch rfl ⟨⟨rfl, rfl, rfl, rfl, rfl, rfl, rfl, rfl, rfl, rfl, rfl, rfl⟩, ⟨hTp, hFc, hT1, hT2⟩, ⟨hW1, hW2, hWz⟩, ⟨hPlI, hMt, hn⟩, ⟨hHa, hHm, hIo, hFn⟩, ⟨hMv, hMn⟩, (hDb.more (Nat.le_succ _)), ⟨oHa, oRh, hMy, oAi⟩, hLs, oTl, oCh, zHa, hBg⟩
    · skip
      refine r_aload_n (n := 611) hX dL_law_610 rfl rfl 1 rfl ?_
      refine r_aload_n (n := 612) hX dL_law_611 rfl rfl 0 rfl ?_
      refine r_iload_n (n := 613) hX dL_law_612 rfl rfl 3 rfl ?_
      refine r_iconst (n := 614) hX 1 dL_law_613 rfl rfl ?_
      refine r_iadd (n := 615) hX dL_law_614 rfl ?_
      refine Aw.topi (nI (i + 1)) (nI_add _ _) ?_
      refine r_sld (n := 616) (i := i + 1) hX hsc (by omega) hL dL_law_615 rfl ?_
      refine Aw.topi (nI n) hw ?_
      refine r_callV (n := 619) (av := [.int (nI n)]) hX (ct_X10_moved (CxL X) (CxD X) (b 0) (b 1) (b 5) (b 7) (b 19) (b 22) (b 37) (b 41) (b 45) (b 46) (b 53) (b 38) (b 39) (b 40) h yr n hn1 hMv) ml_L_84 cv_X10_moved rfl (by decide) [0, 37, 38, 39, 40] rfl rfl (by decide) 0 rfl rfl rfl rfl rfl (Nat.le_of_ble_eq_true rfl) dL_law_616 rfl (fun r_ es_ h_ l_ => ?_)
      obtain ⟨rfl, rfl⟩ := h_
      refine Aw.esq (pw_9 : putAt (EW (CxD X) b mo a h fb tp z tk jv jk pl mt yr lg ha x1 x2 tp.2 (hFs h) fb.2.2.2 yr.2.2.2.1 (zFaultP z) h.2.2.2.1 h.2.2.2.2.1 h.2.2.2.2.2 h.2.1 yr.2.2.2.2 h.1 lg tr bg en tkk op wn jn cq cm fk kd mk le ke tpm t og nm mf hm io rh mn wt jt nw pil my ai L tl ch) [0, 37, 38, 39, 40] _ = EW (CxD X) b mo a h fb tp z tk jv jk pl mt yr lg ha x1 x2 tp.2 (hFs h) fb.2.2.2 yr.2.2.2.1 (zFaultP z) h.2.2.2.1 h.2.2.2.2.1 h.2.2.2.2.2 h.2.1 yr.2.2.2.2 h.1 lg tr bg en tkk op wn jn cq cm fk kd mk le ke tpm t og nm mf hm io rh mn wt jt nw pil my ai L tl ch) ?_
      show Aw X (KS b mo a) (EW (CxD X) b mo a h fb tp z tk jv jk pl mt yr lg ha x1 x2 tp.2 (hFs h) fb.2.2.2 yr.2.2.2.1 (zFaultP z) h.2.2.2.1 h.2.2.2.2.1 h.2.2.2.2.2 h.2.1 yr.2.2.2.2 h.1 lg tr bg en tkk op wn jn cq cm fk kd mk le ke tpm t og nm mf hm io rh mn wt jt nw pil my ai L tl ch) 619 [(0, .ref sc), (1, .ref (b 0)), (2, .ref mo), (3, .int (nI i))] [.int (if n < yr.2.2.2.1 ∧ n < 12 then nI (yr.2.2.1 n) else -1)]
      refine r_aload_n (n := 620) hX dL_law_619 rfl rfl 2 rfl ?_
      refine r_aload_n (n := 621) hX dL_law_620 rfl rfl 0 rfl ?_
      refine r_iload_n (n := 622) hX dL_law_621 rfl rfl 3 rfl ?_
      refine r_iconst (n := 623) hX 1 dL_law_622 rfl rfl ?_
      refine r_iadd (n := 624) hX dL_law_623 rfl ?_
      refine Aw.topi (nI (i + 1)) (nI_add _ _) ?_
      refine r_sld (n := 625) (i := i + 1) hX hsc (by omega) hL dL_law_624 rfl ?_
      refine Aw.topi (nI n) hw ?_
      refine r_callV (n := 628) (av := [.int (nI n)]) hX (ct_m_movedN (CxL X) (CxD X) mo a tp.2 tr (hFs h) fb.2.2.2 yr.2.2.2.1 bg en tkk op wn jn cq cm fk (zFaultP z) h.2.2.2.1 h.2.2.2.2.1 h.2.2.2.2.2 h.2.1 kd mk le yr.2.2.2.2 h.1 ke (nI n) (Or.inr (nI_le (by omega) hn1))) ml_L_87 cv_X11_moved rfl (by decide) [60] rfl rfl (by decide) 60 rfl rfl rfl rfl rfl (Nat.le_of_ble_eq_true rfl) dL_law_625 rfl (fun r_ es_ h_ l_ => ?_)
      obtain ⟨rfl, rfl⟩ := h_
      refine Aw.esq (pw_3 : putAt (EW (CxD X) b mo a h fb tp z tk jv jk pl mt yr lg ha x1 x2 tp.2 (hFs h) fb.2.2.2 yr.2.2.2.1 (zFaultP z) h.2.2.2.1 h.2.2.2.2.1 h.2.2.2.2.2 h.2.1 yr.2.2.2.2 h.1 lg tr bg en tkk op wn jn cq cm fk kd mk le ke tpm t og nm mf hm io rh mn wt jt nw pil my ai L tl ch) [60] _ = EW (CxD X) b mo a h fb tp z tk jv jk pl mt yr lg ha x1 x2 tp.2 (hFs h) fb.2.2.2 yr.2.2.2.1 (zFaultP z) h.2.2.2.1 h.2.2.2.2.1 h.2.2.2.2.2 h.2.1 yr.2.2.2.2 h.1 lg tr bg en tkk op wn jn cq cm fk kd mk le ke tpm t og nm mf hm io rh mn wt jt nw pil my ai L tl ch) ?_
      show Aw X (KS b mo a) (EW (CxD X) b mo a h fb tp z tk jv jk pl mt yr lg ha x1 x2 tp.2 (hFs h) fb.2.2.2 yr.2.2.2.1 (zFaultP z) h.2.2.2.1 h.2.2.2.2.1 h.2.2.2.2.2 h.2.1 yr.2.2.2.2 h.1 lg tr bg en tkk op wn jn cq cm fk kd mk le ke tpm t og nm mf hm io rh mn wt jt nw pil my ai L tl ch) 628 [(0, .ref sc), (1, .ref (b 0)), (2, .ref mo), (3, .int (nI i))] [.int (-1), .int (if n < yr.2.2.2.1 ∧ n < 12 then nI (yr.2.2.1 n) else -1)]
      refine r_icmp_eq (tgt := 735) (n := 631) hX dL_law_628 (by decide) rfl (fun _ => ?_) (fun hne => absurd (by rw [if_neg (fun q => hl q.1)]) hne)
      exact kk b h fb tp z tk jv jk pl mt yr lg ha x1 x2 tp.2 (hFs h) fb.2.2.2 yr.2.2.2.1 (zFaultP z) h.2.2.2.1 h.2.2.2.2.1 h.2.2.2.2.2 h.2.1 yr.2.2.2.2 h.1 lg tr bg en tkk op wn jn cq cm fk kd mk le ke tpm t og nm mf hm io rh mn wt jt nw pil my ai L tl ch rfl ⟨⟨rfl, rfl, rfl, rfl, rfl, rfl, rfl, rfl, rfl, rfl, rfl, rfl⟩, ⟨hTp, hFc, hT1, hT2⟩, ⟨hW1, hW2, hWz⟩, ⟨hPlI, hMt, hn⟩, ⟨hHa, hHm, hIo, hFn⟩, ⟨hMv, hMn⟩, (hDb.more (Nat.le_succ _)), ⟨oHa, oRh, hMy, oAi⟩, hLs, oTl, oCh, zHa, hBg⟩
set_option maxHeartbeats 4000000 in
set_option maxRecDepth 100000 in
theorem law_link {X : Cx} {b : Nat → Nat} {mo : Nat} {a : Nat → Nat} {sc Ln i N : Nat} {xs : Nat → Int32} (hX : Ok X cL_law 4 RL 36) (hsc : Sc X sc Ln xs) (hL : Ln ≤ 3072) (hi : i + 6 ≤ Ln) (hN : N < 1000000) (kk : ∀ (b' : Nat → Nat) (h : HS) (fb : FB) (tp : TP) (z : PZ) (tk : TK) (jv : Nat → Int32) (jk : Nat → Int32) (pl : PL) (mt : MT) (yr : YR) (lg : LG) (ha : Nat → Option Nat) (x1 : TX) (x2 : TX) (tn : Nat) (fm : Nat) (fn : Nat) (mv : Nat) (fp : Int32) (ck : Int32) (te : Int32) (yn : Int32) (rc : Int32) (hp : Bool) (ir : Bool) (lgm : LG) (tr : Nat) (bg : Nat) (en : Nat) (tkk : Nat) (op : Nat) (wn : Nat) (jn : Nat) (cq : Nat) (cm : Nat) (fk : Int32) (kd : Int32) (mk : Int32) (le : Int64) (ke : Bool) (tpm : Nat → Int32) (t : MR) (og : Nat → Nat) (nm : Nat → Int64) (mf : MF) (hm : Nat → Option Nat) (io : Nat → Bool) (rh : Nat → Option Nat) (mn : Nat → Nat) (wt : Nat → Int32) (jt : Nat → Int32) (nw : Nat → Int32) (pil : Nat → Int32) (my : MY) (ai : Nat → Option Nat) (L : Nat → Nat) (tl : Nat → Option Nat) (ch : Nat → Option Nat), b' 0 = b 0 → SR (N + 1) h fb tp z tk jv jk pl mt yr lg ha x1 x2 tn fm fn mv fp ck te yn rc hp ir lgm tr bg en tkk op wn jn cq cm fk kd mk le ke tpm t og nm mf hm io rh mn wt jt nw pil my ai L tl ch → Aw X (KS b' mo a) (EW (CxD X) b' mo a h fb tp z tk jv jk pl mt yr lg ha x1 x2 tn fm fn mv fp ck te yn rc hp ir lgm tr bg en tkk op wn jn cq cm fk kd mk le ke tpm t og nm mf hm io rh mn wt jt nw pil my ai L tl ch) 735 [(0, .ref sc), (1, .ref (b 0)), (2, .ref mo), (3, .int (nI i))] []) (h : HS) (fb : FB) (tp : TP) (z : PZ) (tk : TK) (jv : Nat → Int32) (jk : Nat → Int32) (pl : PL) (mt : MT) (yr : YR) (lg : LG) (ha : Nat → Option Nat) (x1 : TX) (x2 : TX) (tn : Nat) (fm : Nat) (fn : Nat) (mv : Nat) (fp : Int32) (ck : Int32) (te : Int32) (yn : Int32) (rc : Int32) (hp : Bool) (ir : Bool) (lgm : LG) (tr : Nat) (bg : Nat) (en : Nat) (tkk : Nat) (op : Nat) (wn : Nat) (jn : Nat) (cq : Nat) (cm : Nat) (fk : Int32) (kd : Int32) (mk : Int32) (le : Int64) (ke : Bool) (tpm : Nat → Int32) (t : MR) (og : Nat → Nat) (nm : Nat → Int64) (mf : MF) (hm : Nat → Option Nat) (io : Nat → Bool) (rh : Nat → Option Nat) (mn : Nat → Nat) (wt : Nat → Int32) (jt : Nat → Int32) (nw : Nat → Int32) (pil : Nat → Int32) (my : MY) (ai : Nat → Option Nat) (L : Nat → Nat) (tl : Nat → Option Nat) (ch : Nat → Option Nat) (hR : SR N h fb tp z tk jv jk pl mt yr lg ha x1 x2 tn fm fn mv fp ck te yn rc hp ir lgm tr bg en tkk op wn jn cq cm fk kd mk le ke tpm t og nm mf hm io rh mn wt jt nw pil my ai L tl ch) : Aw X (KS b mo a) (EW (CxD X) b mo a h fb tp z tk jv jk pl mt yr lg ha x1 x2 tn fm fn mv fp ck te yn rc hp ir lgm tr bg en tkk op wn jn cq cm fk kd mk le ke tpm t og nm mf hm io rh mn wt jt nw pil my ai L tl ch) 646 [(0, .ref sc), (1, .ref (b 0)), (2, .ref mo), (3, .int (nI i))] [] := by
  obtain ⟨⟨rfl, rfl, rfl, rfl, rfl, rfl, rfl, rfl, rfl, rfl, rfl, rfl⟩, ⟨hTp, hFc, hT1, hT2⟩, ⟨hW1, hW2, hWz⟩, ⟨hPlI, hMt, hn⟩, ⟨hHa, hHm, hIo, hFn⟩, ⟨hMv, hMn⟩, hDb, ⟨oHa, oRh, hMy, oAi⟩, hLs, oTl, oCh, zHa, hBg⟩ := hR
  by_cases hb : hFam (hFs h) (xs (i + 1)) = false ∨ (xs (i + 2)) < 0
  · skip
    refine r_aload_n (n := 647) hX dL_law_646 rfl rfl 1 rfl ?_
    refine r_aload_n (n := 648) hX dL_law_647 rfl rfl 0 rfl ?_
    refine r_iload_n (n := 649) hX dL_law_648 rfl rfl 3 rfl ?_
    refine r_iconst (n := 650) hX 1 dL_law_649 rfl rfl ?_
    refine r_iadd (n := 651) hX dL_law_650 rfl ?_
    refine Aw.topi (nI (i + 1)) (nI_add _ _) ?_
    refine r_sld (n := 652) (i := i + 1) hX hsc (by omega) hL dL_law_651 rfl ?_
    refine r_aload_n (n := 653) hX dL_law_652 rfl rfl 0 rfl ?_
    refine r_iload_n (n := 654) hX dL_law_653 rfl rfl 3 rfl ?_
    refine r_iconst (n := 655) hX 2 dL_law_654 rfl rfl ?_
    refine r_iadd (n := 656) hX dL_law_655 rfl ?_
    refine Aw.topi (nI (i + 2)) (nI_add _ _) ?_
    refine r_sld (n := 657) (i := i + 2) hX hsc (by omega) hL dL_law_656 rfl ?_
    refine r_callV (n := 660) (av := [.int (xs (i + 1)), .int (xs (i + 2))]) hX (ct_linkN (CxL X) (CxD X) (b 0) (b 1) (b 5) (b 7) (b 19) (b 22) (b 37) (b 41) (b 45) (b 46) (b 53) h (xs (i + 1)) (xs (i + 2)) (by rcases hb with q | q; exact Or.inl q; exact Or.inr (Or.inl q))) ml_L_92 cv_X10_link rfl (by decide) [0] rfl rfl (by decide) 0 rfl rfl rfl rfl rfl (Nat.le_of_ble_eq_true rfl) dL_law_657 rfl (fun r_ es_ h_ l_ => ?_)
    obtain ⟨rfl, rfl⟩ := h_
    refine Aw.esq (pw_2 : putAt (EW (CxD X) b mo a h fb tp z tk jv jk pl mt yr lg ha x1 x2 tp.2 (hFs h) fb.2.2.2 yr.2.2.2.1 (zFaultP z) h.2.2.2.1 h.2.2.2.2.1 h.2.2.2.2.2 h.2.1 yr.2.2.2.2 h.1 lg tr bg en tkk op wn jn cq cm fk kd mk le ke tpm t og nm mf hm io rh mn wt jt nw pil my ai L tl ch) [0] _ = EW (CxD X) b mo a h fb tp z tk jv jk pl mt yr lg ha x1 x2 tp.2 (hFs h) fb.2.2.2 yr.2.2.2.1 (zFaultP z) h.2.2.2.1 h.2.2.2.2.1 h.2.2.2.2.2 h.2.1 yr.2.2.2.2 h.1 lg tr bg en tkk op wn jn cq cm fk kd mk le ke tpm t og nm mf hm io rh mn wt jt nw pil my ai L tl ch) ?_
    show Aw X (KS b mo a) (EW (CxD X) b mo a h fb tp z tk jv jk pl mt yr lg ha x1 x2 tp.2 (hFs h) fb.2.2.2 yr.2.2.2.1 (zFaultP z) h.2.2.2.1 h.2.2.2.2.1 h.2.2.2.2.2 h.2.1 yr.2.2.2.2 h.1 lg tr bg en tkk op wn jn cq cm fk kd mk le ke tpm t og nm mf hm io rh mn wt jt nw pil my ai L tl ch) 660 [(0, .ref sc), (1, .ref (b 0)), (2, .ref mo), (3, .int (nI i))] [.int (-1)]
    refine r_aload_n (n := 661) hX dL_law_660 rfl rfl 2 rfl ?_
    refine r_aload_n (n := 662) hX dL_law_661 rfl rfl 0 rfl ?_
    refine r_iload_n (n := 663) hX dL_law_662 rfl rfl 3 rfl ?_
    refine r_iconst (n := 664) hX 1 dL_law_663 rfl rfl ?_
    refine r_iadd (n := 665) hX dL_law_664 rfl ?_
    refine Aw.topi (nI (i + 1)) (nI_add _ _) ?_
    refine r_sld (n := 666) (i := i + 1) hX hsc (by omega) hL dL_law_665 rfl ?_
    refine r_aload_n (n := 667) hX dL_law_666 rfl rfl 0 rfl ?_
    refine r_iload_n (n := 668) hX dL_law_667 rfl rfl 3 rfl ?_
    refine r_iconst (n := 669) hX 2 dL_law_668 rfl rfl ?_
    refine r_iadd (n := 670) hX dL_law_669 rfl ?_
    refine Aw.topi (nI (i + 2)) (nI_add _ _) ?_
    refine r_sld (n := 671) (i := i + 2) hX hsc (by omega) hL dL_law_670 rfl ?_
    refine r_callV (n := 674) (av := [.int (xs (i + 1)), .int (xs (i + 2))]) hX (ct_m_linkN (CxL X) (CxD X) mo a tp.2 tr (hFs h) fb.2.2.2 yr.2.2.2.1 bg en tkk op wn jn cq cm fk (zFaultP z) h.2.2.2.1 h.2.2.2.2.1 h.2.2.2.2.2 h.2.1 kd mk le yr.2.2.2.2 h.1 ke (xs (i + 1)) (xs (i + 2)) (by rw [← fam_same hn]; exact hb)) ml_L_95 cv_X11_link rfl (by decide) [60] rfl rfl (by decide) 60 rfl rfl rfl rfl rfl (Nat.le_of_ble_eq_true rfl) dL_law_671 rfl (fun r_ es_ h_ l_ => ?_)
    obtain ⟨rfl, rfl⟩ := h_
    refine Aw.esq (pw_3 : putAt (EW (CxD X) b mo a h fb tp z tk jv jk pl mt yr lg ha x1 x2 tp.2 (hFs h) fb.2.2.2 yr.2.2.2.1 (zFaultP z) h.2.2.2.1 h.2.2.2.2.1 h.2.2.2.2.2 h.2.1 yr.2.2.2.2 h.1 lg tr bg en tkk op wn jn cq cm fk kd mk le ke tpm t og nm mf hm io rh mn wt jt nw pil my ai L tl ch) [60] _ = EW (CxD X) b mo a h fb tp z tk jv jk pl mt yr lg ha x1 x2 tp.2 (hFs h) fb.2.2.2 yr.2.2.2.1 (zFaultP z) h.2.2.2.1 h.2.2.2.2.1 h.2.2.2.2.2 h.2.1 yr.2.2.2.2 h.1 lg tr bg en tkk op wn jn cq cm fk kd mk le ke tpm t og nm mf hm io rh mn wt jt nw pil my ai L tl ch) ?_
    show Aw X (KS b mo a) (EW (CxD X) b mo a h fb tp z tk jv jk pl mt yr lg ha x1 x2 tp.2 (hFs h) fb.2.2.2 yr.2.2.2.1 (zFaultP z) h.2.2.2.1 h.2.2.2.2.1 h.2.2.2.2.2 h.2.1 yr.2.2.2.2 h.1 lg tr bg en tkk op wn jn cq cm fk kd mk le ke tpm t og nm mf hm io rh mn wt jt nw pil my ai L tl ch) 674 [(0, .ref sc), (1, .ref (b 0)), (2, .ref mo), (3, .int (nI i))] [.int (-1), .int (-1)]
    refine r_icmp_eq (tgt := 735) (n := 677) hX dL_law_674 (by decide) rfl (fun _ => ?_) (fun hne => absurd (rfl) hne)
    exact kk b h fb tp z tk jv jk pl mt yr lg ha x1 x2 tp.2 (hFs h) fb.2.2.2 yr.2.2.2.1 (zFaultP z) h.2.2.2.1 h.2.2.2.2.1 h.2.2.2.2.2 h.2.1 yr.2.2.2.2 h.1 lg tr bg en tkk op wn jn cq cm fk kd mk le ke tpm t og nm mf hm io rh mn wt jt nw pil my ai L tl ch rfl ⟨⟨rfl, rfl, rfl, rfl, rfl, rfl, rfl, rfl, rfl, rfl, rfl, rfl⟩, ⟨hTp, hFc, hT1, hT2⟩, ⟨hW1, hW2, hWz⟩, ⟨hPlI, hMt, hn⟩, ⟨hHa, hHm, hIo, hFn⟩, ⟨hMv, hMn⟩, (hDb.more (Nat.le_succ _)), ⟨oHa, oRh, hMy, oAi⟩, hLs, oTl, oCh, zHa, hBg⟩
  · rcases fam_ix hn (xs (i + 1)) with hz | ⟨f, hf, hfw⟩
    · exact absurd (Or.inl hz) hb
    · rcases ix_cases (xs (i + 2)) with hw | ⟨n, hn1, hw⟩
      · exact absurd (Or.inr hw) hb
      · by_cases h12 : n < 12
        · skip
          refine r_aload_n (n := 647) hX dL_law_646 rfl rfl 1 rfl ?_
          refine r_aload_n (n := 648) hX dL_law_647 rfl rfl 0 rfl ?_
          refine r_iload_n (n := 649) hX dL_law_648 rfl rfl 3 rfl ?_
          refine r_iconst (n := 650) hX 1 dL_law_649 rfl rfl ?_
          refine r_iadd (n := 651) hX dL_law_650 rfl ?_
          refine Aw.topi (nI (i + 1)) (nI_add _ _) ?_
          refine r_sld (n := 652) (i := i + 1) hX hsc (by omega) hL dL_law_651 rfl ?_
          refine Aw.topi (nI f) hfw ?_
          refine r_aload_n (n := 653) hX dL_law_652 rfl rfl 0 rfl ?_
          refine r_iload_n (n := 654) hX dL_law_653 rfl rfl 3 rfl ?_
          refine r_iconst (n := 655) hX 2 dL_law_654 rfl rfl ?_
          refine r_iadd (n := 656) hX dL_law_655 rfl ?_
          refine Aw.topi (nI (i + 2)) (nI_add _ _) ?_
          refine r_sld (n := 657) (i := i + 2) hX hsc (by omega) hL dL_law_656 rfl ?_
          refine Aw.topi (nI n) hw ?_
          refine r_callV (n := 660) (av := [.int (nI f), .int (nI n)]) hX (ct_X10_link (CxL X) (CxD X) (b 0) (b 1) (b 5) (b 7) (b 19) (b 22) (b 37) (b 41) (b 45) (b 46) (b 53) (b 38) (b 39) (b 40) h yr f n hn hf hHm.2.2.2.1 h12) ml_L_92 cv_X10_link rfl (by decide) [0, 37, 38, 39, 40] rfl rfl (by decide) 0 rfl rfl rfl rfl rfl (Nat.le_of_ble_eq_true rfl) dL_law_657 rfl (fun r_ es_ h_ l_ => ?_)
          obtain ⟨rfl, rfl⟩ := h_
          refine Aw.esq (pw_9 : putAt (EW (CxD X) b mo a h fb tp z tk jv jk pl mt yr lg ha x1 x2 tp.2 (hFs h) fb.2.2.2 yr.2.2.2.1 (zFaultP z) h.2.2.2.1 h.2.2.2.2.1 h.2.2.2.2.2 h.2.1 yr.2.2.2.2 h.1 lg tr bg en tkk op wn jn cq cm fk kd mk le ke tpm t og nm mf hm io rh mn wt jt nw pil my ai L tl ch) [0, 37, 38, 39, 40] _ = EW (CxD X) b mo a h fb tp z tk jv jk pl mt yr lg ha x1 x2 tp.2 (hFs h) fb.2.2.2 yr.2.2.2.1 (zFaultP z) h.2.2.2.1 h.2.2.2.2.1 h.2.2.2.2.2 h.2.1 yr.2.2.2.2 h.1 lg tr bg en tkk op wn jn cq cm fk kd mk le ke tpm t og nm mf hm io rh mn wt jt nw pil my ai L tl ch) ?_
          show Aw X (KS b mo a) (EW (CxD X) b mo a h fb tp z tk jv jk pl mt yr lg ha x1 x2 tp.2 (hFs h) fb.2.2.2 yr.2.2.2.1 (zFaultP z) h.2.2.2.1 h.2.2.2.2.1 h.2.2.2.2.2 h.2.1 yr.2.2.2.2 h.1 lg tr bg en tkk op wn jn cq cm fk kd mk le ke tpm t og nm mf hm io rh mn wt jt nw pil my ai L tl ch) 660 [(0, .ref sc), (1, .ref (b 0)), (2, .ref mo), (3, .int (nI i))] [.int (eo (hLink yr.1 (hFs h) f n f))]
          refine r_aload_n (n := 661) hX dL_law_660 rfl rfl 2 rfl ?_
          refine r_aload_n (n := 662) hX dL_law_661 rfl rfl 0 rfl ?_
          refine r_iload_n (n := 663) hX dL_law_662 rfl rfl 3 rfl ?_
          refine r_iconst (n := 664) hX 1 dL_law_663 rfl rfl ?_
          refine r_iadd (n := 665) hX dL_law_664 rfl ?_
          refine Aw.topi (nI (i + 1)) (nI_add _ _) ?_
          refine r_sld (n := 666) (i := i + 1) hX hsc (by omega) hL dL_law_665 rfl ?_
          refine Aw.topi (nI f) hfw ?_
          refine r_aload_n (n := 667) hX dL_law_666 rfl rfl 0 rfl ?_
          refine r_iload_n (n := 668) hX dL_law_667 rfl rfl 3 rfl ?_
          refine r_iconst (n := 669) hX 2 dL_law_668 rfl rfl ?_
          refine r_iadd (n := 670) hX dL_law_669 rfl ?_
          refine Aw.topi (nI (i + 2)) (nI_add _ _) ?_
          refine r_sld (n := 671) (i := i + 2) hX hsc (by omega) hL dL_law_670 rfl ?_
          refine Aw.topi (nI n) hw ?_
          refine r_callV (n := 674) (av := [.int (nI f), .int (nI n)]) hX (ct_m_link (CxL X) (CxD X) mo a tp.2 tr (hFs h) fb.2.2.2 yr.2.2.2.1 bg en tkk op wn jn cq cm fk (zFaultP z) h.2.2.2.1 h.2.2.2.2.1 h.2.2.2.2.2 h.2.1 kd mk le yr.2.2.2.2 h.1 ke hm f n hn hHm.2.2.2.2 hf hn1) ml_L_95 cv_X11_link rfl (by decide) [60, 76] rfl rfl (by decide) 60 rfl rfl rfl rfl rfl (Nat.le_of_ble_eq_true rfl) dL_law_671 rfl (fun r_ es_ h_ l_ => ?_)
          obtain ⟨rfl, rfl⟩ := h_
          refine Aw.esq (pw_11 : putAt (EW (CxD X) b mo a h fb tp z tk jv jk pl mt yr lg ha x1 x2 tp.2 (hFs h) fb.2.2.2 yr.2.2.2.1 (zFaultP z) h.2.2.2.1 h.2.2.2.2.1 h.2.2.2.2.2 h.2.1 yr.2.2.2.2 h.1 lg tr bg en tkk op wn jn cq cm fk kd mk le ke tpm t og nm mf hm io rh mn wt jt nw pil my ai L tl ch) [60, 76] _ = EW (CxD X) b mo a h fb tp z tk jv jk pl mt yr lg ha x1 x2 tp.2 (hFs h) fb.2.2.2 yr.2.2.2.1 (zFaultP z) h.2.2.2.1 h.2.2.2.2.1 h.2.2.2.2.2 h.2.1 yr.2.2.2.2 h.1 lg tr bg en tkk op wn jn cq cm fk kd mk le ke tpm t og nm mf hm io rh mn wt jt nw pil my ai L tl ch) ?_
          show Aw X (KS b mo a) (EW (CxD X) b mo a h fb tp z tk jv jk pl mt yr lg ha x1 x2 tp.2 (hFs h) fb.2.2.2 yr.2.2.2.1 (zFaultP z) h.2.2.2.1 h.2.2.2.2.1 h.2.2.2.2.2 h.2.1 yr.2.2.2.2 h.1 lg tr bg en tkk op wn jn cq cm fk kd mk le ke tpm t og nm mf hm io rh mn wt jt nw pil my ai L tl ch) 674 [(0, .ref sc), (1, .ref (b 0)), (2, .ref mo), (3, .int (nI i))] [.int (eo (mLnk hm f n (some f))), .int (eo (hLink yr.1 (hFs h) f n f))]
          refine r_icmp_eq (tgt := 735) (n := 677) hX dL_law_674 (by decide) rfl (fun _ => ?_) (fun hne => absurd (by rw [link_at hHm hn n f hf]) hne)
          exact kk b h fb tp z tk jv jk pl mt yr lg ha x1 x2 tp.2 (hFs h) fb.2.2.2 yr.2.2.2.1 (zFaultP z) h.2.2.2.1 h.2.2.2.2.1 h.2.2.2.2.2 h.2.1 yr.2.2.2.2 h.1 lg tr bg en tkk op wn jn cq cm fk kd mk le ke tpm t og nm mf hm io rh mn wt jt nw pil my ai L tl ch rfl ⟨⟨rfl, rfl, rfl, rfl, rfl, rfl, rfl, rfl, rfl, rfl, rfl, rfl⟩, ⟨hTp, hFc, hT1, hT2⟩, ⟨hW1, hW2, hWz⟩, ⟨hPlI, hMt, hn⟩, ⟨hHa, hHm, hIo, hFn⟩, ⟨hMv, hMn⟩, (hDb.more (Nat.le_succ _)), ⟨oHa, oRh, hMy, oAi⟩, hLs, oTl, oCh, zHa, hBg⟩
        · skip
          refine r_aload_n (n := 647) hX dL_law_646 rfl rfl 1 rfl ?_
          refine r_aload_n (n := 648) hX dL_law_647 rfl rfl 0 rfl ?_
          refine r_iload_n (n := 649) hX dL_law_648 rfl rfl 3 rfl ?_
          refine r_iconst (n := 650) hX 1 dL_law_649 rfl rfl ?_
          refine r_iadd (n := 651) hX dL_law_650 rfl ?_
          refine Aw.topi (nI (i + 1)) (nI_add _ _) ?_
          refine r_sld (n := 652) (i := i + 1) hX hsc (by omega) hL dL_law_651 rfl ?_
          refine Aw.topi (nI f) hfw ?_
          refine r_aload_n (n := 653) hX dL_law_652 rfl rfl 0 rfl ?_
          refine r_iload_n (n := 654) hX dL_law_653 rfl rfl 3 rfl ?_
          refine r_iconst (n := 655) hX 2 dL_law_654 rfl rfl ?_
          refine r_iadd (n := 656) hX dL_law_655 rfl ?_
          refine Aw.topi (nI (i + 2)) (nI_add _ _) ?_
          refine r_sld (n := 657) (i := i + 2) hX hsc (by omega) hL dL_law_656 rfl ?_
          refine Aw.topi (nI n) hw ?_
          refine r_callV (n := 660) (av := [.int (nI f), .int (nI n)]) hX (ct_linkN (CxL X) (CxD X) (b 0) (b 1) (b 5) (b 7) (b 19) (b 22) (b 37) (b 41) (b 45) (b 46) (b 53) h (nI f) (nI n) (Or.inr (Or.inr (nI_le (a := 12) (by omega) hn1)))) ml_L_92 cv_X10_link rfl (by decide) [0] rfl rfl (by decide) 0 rfl rfl rfl rfl rfl (Nat.le_of_ble_eq_true rfl) dL_law_657 rfl (fun r_ es_ h_ l_ => ?_)
          obtain ⟨rfl, rfl⟩ := h_
          refine Aw.esq (pw_2 : putAt (EW (CxD X) b mo a h fb tp z tk jv jk pl mt yr lg ha x1 x2 tp.2 (hFs h) fb.2.2.2 yr.2.2.2.1 (zFaultP z) h.2.2.2.1 h.2.2.2.2.1 h.2.2.2.2.2 h.2.1 yr.2.2.2.2 h.1 lg tr bg en tkk op wn jn cq cm fk kd mk le ke tpm t og nm mf hm io rh mn wt jt nw pil my ai L tl ch) [0] _ = EW (CxD X) b mo a h fb tp z tk jv jk pl mt yr lg ha x1 x2 tp.2 (hFs h) fb.2.2.2 yr.2.2.2.1 (zFaultP z) h.2.2.2.1 h.2.2.2.2.1 h.2.2.2.2.2 h.2.1 yr.2.2.2.2 h.1 lg tr bg en tkk op wn jn cq cm fk kd mk le ke tpm t og nm mf hm io rh mn wt jt nw pil my ai L tl ch) ?_
          show Aw X (KS b mo a) (EW (CxD X) b mo a h fb tp z tk jv jk pl mt yr lg ha x1 x2 tp.2 (hFs h) fb.2.2.2 yr.2.2.2.1 (zFaultP z) h.2.2.2.1 h.2.2.2.2.1 h.2.2.2.2.2 h.2.1 yr.2.2.2.2 h.1 lg tr bg en tkk op wn jn cq cm fk kd mk le ke tpm t og nm mf hm io rh mn wt jt nw pil my ai L tl ch) 660 [(0, .ref sc), (1, .ref (b 0)), (2, .ref mo), (3, .int (nI i))] [.int (-1)]
          refine r_aload_n (n := 661) hX dL_law_660 rfl rfl 2 rfl ?_
          refine r_aload_n (n := 662) hX dL_law_661 rfl rfl 0 rfl ?_
          refine r_iload_n (n := 663) hX dL_law_662 rfl rfl 3 rfl ?_
          refine r_iconst (n := 664) hX 1 dL_law_663 rfl rfl ?_
          refine r_iadd (n := 665) hX dL_law_664 rfl ?_
          refine Aw.topi (nI (i + 1)) (nI_add _ _) ?_
          refine r_sld (n := 666) (i := i + 1) hX hsc (by omega) hL dL_law_665 rfl ?_
          refine Aw.topi (nI f) hfw ?_
          refine r_aload_n (n := 667) hX dL_law_666 rfl rfl 0 rfl ?_
          refine r_iload_n (n := 668) hX dL_law_667 rfl rfl 3 rfl ?_
          refine r_iconst (n := 669) hX 2 dL_law_668 rfl rfl ?_
          refine r_iadd (n := 670) hX dL_law_669 rfl ?_
          refine Aw.topi (nI (i + 2)) (nI_add _ _) ?_
          refine r_sld (n := 671) (i := i + 2) hX hsc (by omega) hL dL_law_670 rfl ?_
          refine Aw.topi (nI n) hw ?_
          refine r_callV (n := 674) (av := [.int (nI f), .int (nI n)]) hX (ct_m_link (CxL X) (CxD X) mo a tp.2 tr (hFs h) fb.2.2.2 yr.2.2.2.1 bg en tkk op wn jn cq cm fk (zFaultP z) h.2.2.2.1 h.2.2.2.2.1 h.2.2.2.2.2 h.2.1 kd mk le yr.2.2.2.2 h.1 ke hm f n hn hHm.2.2.2.2 hf hn1) ml_L_95 cv_X11_link rfl (by decide) [60, 76] rfl rfl (by decide) 60 rfl rfl rfl rfl rfl (Nat.le_of_ble_eq_true rfl) dL_law_671 rfl (fun r_ es_ h_ l_ => ?_)
          obtain ⟨rfl, rfl⟩ := h_
          refine Aw.esq (pw_11 : putAt (EW (CxD X) b mo a h fb tp z tk jv jk pl mt yr lg ha x1 x2 tp.2 (hFs h) fb.2.2.2 yr.2.2.2.1 (zFaultP z) h.2.2.2.1 h.2.2.2.2.1 h.2.2.2.2.2 h.2.1 yr.2.2.2.2 h.1 lg tr bg en tkk op wn jn cq cm fk kd mk le ke tpm t og nm mf hm io rh mn wt jt nw pil my ai L tl ch) [60, 76] _ = EW (CxD X) b mo a h fb tp z tk jv jk pl mt yr lg ha x1 x2 tp.2 (hFs h) fb.2.2.2 yr.2.2.2.1 (zFaultP z) h.2.2.2.1 h.2.2.2.2.1 h.2.2.2.2.2 h.2.1 yr.2.2.2.2 h.1 lg tr bg en tkk op wn jn cq cm fk kd mk le ke tpm t og nm mf hm io rh mn wt jt nw pil my ai L tl ch) ?_
          show Aw X (KS b mo a) (EW (CxD X) b mo a h fb tp z tk jv jk pl mt yr lg ha x1 x2 tp.2 (hFs h) fb.2.2.2 yr.2.2.2.1 (zFaultP z) h.2.2.2.1 h.2.2.2.2.1 h.2.2.2.2.2 h.2.1 yr.2.2.2.2 h.1 lg tr bg en tkk op wn jn cq cm fk kd mk le ke tpm t og nm mf hm io rh mn wt jt nw pil my ai L tl ch) 674 [(0, .ref sc), (1, .ref (b 0)), (2, .ref mo), (3, .int (nI i))] [.int (eo (mLnk hm f n (some f))), .int (-1)]
          refine r_icmp_eq (tgt := 735) (n := 677) hX dL_law_674 (by decide) rfl (fun _ => ?_) (fun hne => absurd (by rw [link_end hHm hn hf n (by omega)]; rfl) hne)
          exact kk b h fb tp z tk jv jk pl mt yr lg ha x1 x2 tp.2 (hFs h) fb.2.2.2 yr.2.2.2.1 (zFaultP z) h.2.2.2.1 h.2.2.2.2.1 h.2.2.2.2.2 h.2.1 yr.2.2.2.2 h.1 lg tr bg en tkk op wn jn cq cm fk kd mk le ke tpm t og nm mf hm io rh mn wt jt nw pil my ai L tl ch rfl ⟨⟨rfl, rfl, rfl, rfl, rfl, rfl, rfl, rfl, rfl, rfl, rfl, rfl⟩, ⟨hTp, hFc, hT1, hT2⟩, ⟨hW1, hW2, hWz⟩, ⟨hPlI, hMt, hn⟩, ⟨hHa, hHm, hIo, hFn⟩, ⟨hMv, hMn⟩, (hDb.more (Nat.le_succ _)), ⟨oHa, oRh, hMy, oAi⟩, hLs, oTl, oCh, zHa, hBg⟩
set_option maxHeartbeats 4000000 in
set_option maxRecDepth 100000 in
theorem law_of {X : Cx} {b : Nat → Nat} {mo : Nat} {a : Nat → Nat} {sc Ln i N : Nat} {xs : Nat → Int32} (hX : Ok X cL_law 4 RL 36) (hsc : Sc X sc Ln xs) (hL : Ln ≤ 3072) (hi : i + 6 ≤ Ln) (hN : N < 1000000) (kk : ∀ (b' : Nat → Nat) (h : HS) (fb : FB) (tp : TP) (z : PZ) (tk : TK) (jv : Nat → Int32) (jk : Nat → Int32) (pl : PL) (mt : MT) (yr : YR) (lg : LG) (ha : Nat → Option Nat) (x1 : TX) (x2 : TX) (tn : Nat) (fm : Nat) (fn : Nat) (mv : Nat) (fp : Int32) (ck : Int32) (te : Int32) (yn : Int32) (rc : Int32) (hp : Bool) (ir : Bool) (lgm : LG) (tr : Nat) (bg : Nat) (en : Nat) (tkk : Nat) (op : Nat) (wn : Nat) (jn : Nat) (cq : Nat) (cm : Nat) (fk : Int32) (kd : Int32) (mk : Int32) (le : Int64) (ke : Bool) (tpm : Nat → Int32) (t : MR) (og : Nat → Nat) (nm : Nat → Int64) (mf : MF) (hm : Nat → Option Nat) (io : Nat → Bool) (rh : Nat → Option Nat) (mn : Nat → Nat) (wt : Nat → Int32) (jt : Nat → Int32) (nw : Nat → Int32) (pil : Nat → Int32) (my : MY) (ai : Nat → Option Nat) (L : Nat → Nat) (tl : Nat → Option Nat) (ch : Nat → Option Nat), b' 0 = b 0 → SR (N + 1) h fb tp z tk jv jk pl mt yr lg ha x1 x2 tn fm fn mv fp ck te yn rc hp ir lgm tr bg en tkk op wn jn cq cm fk kd mk le ke tpm t og nm mf hm io rh mn wt jt nw pil my ai L tl ch → Aw X (KS b' mo a) (EW (CxD X) b' mo a h fb tp z tk jv jk pl mt yr lg ha x1 x2 tn fm fn mv fp ck te yn rc hp ir lgm tr bg en tkk op wn jn cq cm fk kd mk le ke tpm t og nm mf hm io rh mn wt jt nw pil my ai L tl ch) 735 [(0, .ref sc), (1, .ref (b 0)), (2, .ref mo), (3, .int (nI i))] []) (h : HS) (fb : FB) (tp : TP) (z : PZ) (tk : TK) (jv : Nat → Int32) (jk : Nat → Int32) (pl : PL) (mt : MT) (yr : YR) (lg : LG) (ha : Nat → Option Nat) (x1 : TX) (x2 : TX) (tn : Nat) (fm : Nat) (fn : Nat) (mv : Nat) (fp : Int32) (ck : Int32) (te : Int32) (yn : Int32) (rc : Int32) (hp : Bool) (ir : Bool) (lgm : LG) (tr : Nat) (bg : Nat) (en : Nat) (tkk : Nat) (op : Nat) (wn : Nat) (jn : Nat) (cq : Nat) (cm : Nat) (fk : Int32) (kd : Int32) (mk : Int32) (le : Int64) (ke : Bool) (tpm : Nat → Int32) (t : MR) (og : Nat → Nat) (nm : Nat → Int64) (mf : MF) (hm : Nat → Option Nat) (io : Nat → Bool) (rh : Nat → Option Nat) (mn : Nat → Nat) (wt : Nat → Int32) (jt : Nat → Int32) (nw : Nat → Int32) (pil : Nat → Int32) (my : MY) (ai : Nat → Option Nat) (L : Nat → Nat) (tl : Nat → Option Nat) (ch : Nat → Option Nat) (hR : SR N h fb tp z tk jv jk pl mt yr lg ha x1 x2 tn fm fn mv fp ck te yn rc hp ir lgm tr bg en tkk op wn jn cq cm fk kd mk le ke tpm t og nm mf hm io rh mn wt jt nw pil my ai L tl ch) : Aw X (KS b mo a) (EW (CxD X) b mo a h fb tp z tk jv jk pl mt yr lg ha x1 x2 tn fm fn mv fp ck te yn rc hp ir lgm tr bg en tkk op wn jn cq cm fk kd mk le ke tpm t og nm mf hm io rh mn wt jt nw pil my ai L tl ch) 679 [(0, .ref sc), (1, .ref (b 0)), (2, .ref mo), (3, .int (nI i))] [] := by
  obtain ⟨⟨rfl, rfl, rfl, rfl, rfl, rfl, rfl, rfl, rfl, rfl, rfl, rfl⟩, ⟨hTp, hFc, hT1, hT2⟩, ⟨hW1, hW2, hWz⟩, ⟨hPlI, hMt, hn⟩, ⟨hHa, hHm, hIo, hFn⟩, ⟨hMv, hMn⟩, hDb, ⟨oHa, oRh, hMy, oAi⟩, hLs, oTl, oCh, zHa, hBg⟩ := hR
  rcases fam_ix hn (xs (i + 1)) with hz | ⟨f, hf, hfw⟩
  · skip
    refine r_aload_n (n := 680) hX dL_law_679 rfl rfl 1 rfl ?_
    refine r_aload_n (n := 681) hX dL_law_680 rfl rfl 0 rfl ?_
    refine r_iload_n (n := 682) hX dL_law_681 rfl rfl 3 rfl ?_
    refine r_iconst (n := 683) hX 1 dL_law_682 rfl rfl ?_
    refine r_iadd (n := 684) hX dL_law_683 rfl ?_
    refine Aw.topi (nI (i + 1)) (nI_add _ _) ?_
    refine r_sld (n := 685) (i := i + 1) hX hsc (by omega) hL dL_law_684 rfl ?_
    refine r_aload_n (n := 686) hX dL_law_685 rfl rfl 0 rfl ?_
    refine r_iload_n (n := 687) hX dL_law_686 rfl rfl 3 rfl ?_
    refine r_iconst (n := 688) hX 2 dL_law_687 rfl rfl ?_
    refine r_iadd (n := 689) hX dL_law_688 rfl ?_
    refine Aw.topi (nI (i + 2)) (nI_add _ _) ?_
    refine r_sld (n := 690) (i := i + 2) hX hsc (by omega) hL dL_law_689 rfl ?_
    refine r_callV (n := 693) (av := [.int (xs (i + 1)), .int (xs (i + 2))]) hX (ct_ofN (CxL X) (CxD X) (b 0) (b 1) (b 5) (b 7) (b 19) (b 22) (b 37) (b 41) (b 45) (b 46) (b 53) h (xs (i + 1)) (xs (i + 2)) hz) ml_L_96 cv_X10_of rfl (by decide) [0] rfl rfl (by decide) 0 rfl rfl rfl rfl rfl (Nat.le_of_ble_eq_true rfl) dL_law_690 rfl (fun r_ es_ h_ l_ => ?_)
    obtain ⟨rfl, rfl⟩ := h_
    refine Aw.esq (pw_2 : putAt (EW (CxD X) b mo a h fb tp z tk jv jk pl mt yr lg ha x1 x2 tp.2 (hFs h) fb.2.2.2 yr.2.2.2.1 (zFaultP z) h.2.2.2.1 h.2.2.2.2.1 h.2.2.2.2.2 h.2.1 yr.2.2.2.2 h.1 lg tr bg en tkk op wn jn cq cm fk kd mk le ke tpm t og nm mf hm io rh mn wt jt nw pil my ai L tl ch) [0] _ = EW (CxD X) b mo a h fb tp z tk jv jk pl mt yr lg ha x1 x2 tp.2 (hFs h) fb.2.2.2 yr.2.2.2.1 (zFaultP z) h.2.2.2.1 h.2.2.2.2.1 h.2.2.2.2.2 h.2.1 yr.2.2.2.2 h.1 lg tr bg en tkk op wn jn cq cm fk kd mk le ke tpm t og nm mf hm io rh mn wt jt nw pil my ai L tl ch) ?_
    show Aw X (KS b mo a) (EW (CxD X) b mo a h fb tp z tk jv jk pl mt yr lg ha x1 x2 tp.2 (hFs h) fb.2.2.2 yr.2.2.2.1 (zFaultP z) h.2.2.2.1 h.2.2.2.2.1 h.2.2.2.2.2 h.2.1 yr.2.2.2.2 h.1 lg tr bg en tkk op wn jn cq cm fk kd mk le ke tpm t og nm mf hm io rh mn wt jt nw pil my ai L tl ch) 693 [(0, .ref sc), (1, .ref (b 0)), (2, .ref mo), (3, .int (nI i))] [.int (-1)]
    refine r_aload_n (n := 694) hX dL_law_693 rfl rfl 2 rfl ?_
    refine r_aload_n (n := 695) hX dL_law_694 rfl rfl 0 rfl ?_
    refine r_iload_n (n := 696) hX dL_law_695 rfl rfl 3 rfl ?_
    refine r_iconst (n := 697) hX 1 dL_law_696 rfl rfl ?_
    refine r_iadd (n := 698) hX dL_law_697 rfl ?_
    refine Aw.topi (nI (i + 1)) (nI_add _ _) ?_
    refine r_sld (n := 699) (i := i + 1) hX hsc (by omega) hL dL_law_698 rfl ?_
    refine r_aload_n (n := 700) hX dL_law_699 rfl rfl 0 rfl ?_
    refine r_iload_n (n := 701) hX dL_law_700 rfl rfl 3 rfl ?_
    refine r_iconst (n := 702) hX 2 dL_law_701 rfl rfl ?_
    refine r_iadd (n := 703) hX dL_law_702 rfl ?_
    refine Aw.topi (nI (i + 2)) (nI_add _ _) ?_
    refine r_sld (n := 704) (i := i + 2) hX hsc (by omega) hL dL_law_703 rfl ?_
    refine r_callV (n := 707) (av := [.int (xs (i + 1)), .int (xs (i + 2))]) hX (ct_m_ofN (CxL X) (CxD X) mo a tp.2 tr (hFs h) fb.2.2.2 yr.2.2.2.1 bg en tkk op wn jn cq cm fk (zFaultP z) h.2.2.2.1 h.2.2.2.2.1 h.2.2.2.2.2 h.2.1 kd mk le yr.2.2.2.2 h.1 ke (xs (i + 1)) (xs (i + 2)) (by rw [← fam_same hn]; exact hz)) ml_L_99 cv_X11_of rfl (by decide) [60] rfl rfl (by decide) 60 rfl rfl rfl rfl rfl (Nat.le_of_ble_eq_true rfl) dL_law_704 rfl (fun r_ es_ h_ l_ => ?_)
    obtain ⟨rfl, rfl⟩ := h_
    refine Aw.esq (pw_3 : putAt (EW (CxD X) b mo a h fb tp z tk jv jk pl mt yr lg ha x1 x2 tp.2 (hFs h) fb.2.2.2 yr.2.2.2.1 (zFaultP z) h.2.2.2.1 h.2.2.2.2.1 h.2.2.2.2.2 h.2.1 yr.2.2.2.2 h.1 lg tr bg en tkk op wn jn cq cm fk kd mk le ke tpm t og nm mf hm io rh mn wt jt nw pil my ai L tl ch) [60] _ = EW (CxD X) b mo a h fb tp z tk jv jk pl mt yr lg ha x1 x2 tp.2 (hFs h) fb.2.2.2 yr.2.2.2.1 (zFaultP z) h.2.2.2.1 h.2.2.2.2.1 h.2.2.2.2.2 h.2.1 yr.2.2.2.2 h.1 lg tr bg en tkk op wn jn cq cm fk kd mk le ke tpm t og nm mf hm io rh mn wt jt nw pil my ai L tl ch) ?_
    show Aw X (KS b mo a) (EW (CxD X) b mo a h fb tp z tk jv jk pl mt yr lg ha x1 x2 tp.2 (hFs h) fb.2.2.2 yr.2.2.2.1 (zFaultP z) h.2.2.2.1 h.2.2.2.2.1 h.2.2.2.2.2 h.2.1 yr.2.2.2.2 h.1 lg tr bg en tkk op wn jn cq cm fk kd mk le ke tpm t og nm mf hm io rh mn wt jt nw pil my ai L tl ch) 707 [(0, .ref sc), (1, .ref (b 0)), (2, .ref mo), (3, .int (nI i))] [.int (-1), .int (-1)]
    refine r_icmp_eq (tgt := 735) (n := 710) hX dL_law_707 (by decide) rfl (fun _ => ?_) (fun hne => absurd (rfl) hne)
    exact kk b h fb tp z tk jv jk pl mt yr lg ha x1 x2 tp.2 (hFs h) fb.2.2.2 yr.2.2.2.1 (zFaultP z) h.2.2.2.1 h.2.2.2.2.1 h.2.2.2.2.2 h.2.1 yr.2.2.2.2 h.1 lg tr bg en tkk op wn jn cq cm fk kd mk le ke tpm t og nm mf hm io rh mn wt jt nw pil my ai L tl ch rfl ⟨⟨rfl, rfl, rfl, rfl, rfl, rfl, rfl, rfl, rfl, rfl, rfl, rfl⟩, ⟨hTp, hFc, hT1, hT2⟩, ⟨hW1, hW2, hWz⟩, ⟨hPlI, hMt, hn⟩, ⟨hHa, hHm, hIo, hFn⟩, ⟨hMv, hMn⟩, (hDb.more (Nat.le_succ _)), ⟨oHa, oRh, hMy, oAi⟩, hLs, oTl, oCh, zHa, hBg⟩
  · skip
    refine r_aload_n (n := 680) hX dL_law_679 rfl rfl 1 rfl ?_
    refine r_aload_n (n := 681) hX dL_law_680 rfl rfl 0 rfl ?_
    refine r_iload_n (n := 682) hX dL_law_681 rfl rfl 3 rfl ?_
    refine r_iconst (n := 683) hX 1 dL_law_682 rfl rfl ?_
    refine r_iadd (n := 684) hX dL_law_683 rfl ?_
    refine Aw.topi (nI (i + 1)) (nI_add _ _) ?_
    refine r_sld (n := 685) (i := i + 1) hX hsc (by omega) hL dL_law_684 rfl ?_
    refine Aw.topi (nI f) hfw ?_
    refine r_aload_n (n := 686) hX dL_law_685 rfl rfl 0 rfl ?_
    refine r_iload_n (n := 687) hX dL_law_686 rfl rfl 3 rfl ?_
    refine r_iconst (n := 688) hX 2 dL_law_687 rfl rfl ?_
    refine r_iadd (n := 689) hX dL_law_688 rfl ?_
    refine Aw.topi (nI (i + 2)) (nI_add _ _) ?_
    refine r_sld (n := 690) (i := i + 2) hX hsc (by omega) hL dL_law_689 rfl ?_
    refine r_callV (n := 693) (av := [.int (nI f), .int (xs (i + 2))]) hX (ct_X10_of (CxL X) (CxD X) (b 0) (b 1) (b 5) (b 7) (b 19) (b 22) (b 37) (b 41) (b 45) (b 46) (b 53) (b 38) (b 39) (b 40) (b 42) (b 43) (b 44) h yr lg f (xs (i + 2)) hn hf hHm.2.2.2.1) ml_L_96 cv_X10_of rfl (by decide) [0, 37, 38, 39, 40, 41, 42, 43, 44] rfl rfl (by decide) 0 rfl rfl rfl rfl rfl (Nat.le_of_ble_eq_true rfl) dL_law_690 rfl (fun r_ es_ h_ l_ => ?_)
    obtain ⟨rfl, rfl⟩ := h_
    refine Aw.esq (pw_12 : putAt (EW (CxD X) b mo a h fb tp z tk jv jk pl mt yr lg ha x1 x2 tp.2 (hFs h) fb.2.2.2 yr.2.2.2.1 (zFaultP z) h.2.2.2.1 h.2.2.2.2.1 h.2.2.2.2.2 h.2.1 yr.2.2.2.2 h.1 lg tr bg en tkk op wn jn cq cm fk kd mk le ke tpm t og nm mf hm io rh mn wt jt nw pil my ai L tl ch) [0, 37, 38, 39, 40, 41, 42, 43, 44] _ = EW (CxD X) b mo a h fb tp z tk jv jk pl mt yr lg ha x1 x2 tp.2 (hFs h) fb.2.2.2 yr.2.2.2.1 (zFaultP z) h.2.2.2.1 h.2.2.2.2.1 h.2.2.2.2.2 h.2.1 yr.2.2.2.2 h.1 lg tr bg en tkk op wn jn cq cm fk kd mk le ke tpm t og nm mf hm io rh mn wt jt nw pil my ai L tl ch) ?_
    show Aw X (KS b mo a) (EW (CxD X) b mo a h fb tp z tk jv jk pl mt yr lg ha x1 x2 tp.2 (hFs h) fb.2.2.2 yr.2.2.2.1 (zFaultP z) h.2.2.2.1 h.2.2.2.2.1 h.2.2.2.2.2 h.2.1 yr.2.2.2.2 h.1 lg tr bg en tkk op wn jn cq cm fk kd mk le ke tpm t og nm mf hm io rh mn wt jt nw pil my ai L tl ch) 693 [(0, .ref sc), (1, .ref (b 0)), (2, .ref mo), (3, .int (nI i))] [.int (hOf yr lg f (xs (i + 2)))]
    refine r_aload_n (n := 694) hX dL_law_693 rfl rfl 2 rfl ?_
    refine r_aload_n (n := 695) hX dL_law_694 rfl rfl 0 rfl ?_
    refine r_iload_n (n := 696) hX dL_law_695 rfl rfl 3 rfl ?_
    refine r_iconst (n := 697) hX 1 dL_law_696 rfl rfl ?_
    refine r_iadd (n := 698) hX dL_law_697 rfl ?_
    refine Aw.topi (nI (i + 1)) (nI_add _ _) ?_
    refine r_sld (n := 699) (i := i + 1) hX hsc (by omega) hL dL_law_698 rfl ?_
    refine Aw.topi (nI f) hfw ?_
    refine r_aload_n (n := 700) hX dL_law_699 rfl rfl 0 rfl ?_
    refine r_iload_n (n := 701) hX dL_law_700 rfl rfl 3 rfl ?_
    refine r_iconst (n := 702) hX 2 dL_law_701 rfl rfl ?_
    refine r_iadd (n := 703) hX dL_law_702 rfl ?_
    refine Aw.topi (nI (i + 2)) (nI_add _ _) ?_
    refine r_sld (n := 704) (i := i + 2) hX hsc (by omega) hL dL_law_703 rfl ?_
    refine r_callV (n := 707) (av := [.int (nI f), .int (xs (i + 2))]) hX (ct_m_of (CxL X) (CxD X) mo a tp.2 tr (hFs h) fb.2.2.2 yr.2.2.2.1 bg en tkk op wn jn cq cm fk (zFaultP z) h.2.2.2.1 h.2.2.2.2.1 h.2.2.2.2.2 h.2.1 kd mk le yr.2.2.2.2 h.1 ke hm io lg f (xs (i + 2)) hn hHm.2.2.2.2 hf) ml_L_99 cv_X11_of rfl (by decide) [60, 76, 77, 78, 79, 80] rfl rfl (by decide) 60 rfl rfl rfl rfl rfl (Nat.le_of_ble_eq_true rfl) dL_law_704 rfl (fun r_ es_ h_ l_ => ?_)
    obtain ⟨rfl, rfl⟩ := h_
    refine Aw.esq (pw_13 : putAt (EW (CxD X) b mo a h fb tp z tk jv jk pl mt yr lg ha x1 x2 tp.2 (hFs h) fb.2.2.2 yr.2.2.2.1 (zFaultP z) h.2.2.2.1 h.2.2.2.2.1 h.2.2.2.2.2 h.2.1 yr.2.2.2.2 h.1 lg tr bg en tkk op wn jn cq cm fk kd mk le ke tpm t og nm mf hm io rh mn wt jt nw pil my ai L tl ch) [60, 76, 77, 78, 79, 80] _ = EW (CxD X) b mo a h fb tp z tk jv jk pl mt yr lg ha x1 x2 tp.2 (hFs h) fb.2.2.2 yr.2.2.2.1 (zFaultP z) h.2.2.2.1 h.2.2.2.2.1 h.2.2.2.2.2 h.2.1 yr.2.2.2.2 h.1 lg tr bg en tkk op wn jn cq cm fk kd mk le ke tpm t og nm mf hm io rh mn wt jt nw pil my ai L tl ch) ?_
    show Aw X (KS b mo a) (EW (CxD X) b mo a h fb tp z tk jv jk pl mt yr lg ha x1 x2 tp.2 (hFs h) fb.2.2.2 yr.2.2.2.1 (zFaultP z) h.2.2.2.1 h.2.2.2.2.1 h.2.2.2.2.2 h.2.1 yr.2.2.2.2 h.1 lg tr bg en tkk op wn jn cq cm fk kd mk le ke tpm t og nm mf hm io rh mn wt jt nw pil my ai L tl ch) 707 [(0, .ref sc), (1, .ref (b 0)), (2, .ref mo), (3, .int (nI i))] [.int (mOf hm io lg (hFs h) f (xs (i + 2))), .int (hOf yr lg f (xs (i + 2)))]
    refine r_icmp_eq (tgt := 735) (n := 710) hX dL_law_707 (by decide) rfl (fun _ => ?_) (fun hne => absurd (of_same (y2 := yr.2.2) hHm hn hf hIo lg (xs (i + 2))) hne)
    exact kk b h fb tp z tk jv jk pl mt yr lg ha x1 x2 tp.2 (hFs h) fb.2.2.2 yr.2.2.2.1 (zFaultP z) h.2.2.2.1 h.2.2.2.2.1 h.2.2.2.2.2 h.2.1 yr.2.2.2.2 h.1 lg tr bg en tkk op wn jn cq cm fk kd mk le ke tpm t og nm mf hm io rh mn wt jt nw pil my ai L tl ch rfl ⟨⟨rfl, rfl, rfl, rfl, rfl, rfl, rfl, rfl, rfl, rfl, rfl, rfl⟩, ⟨hTp, hFc, hT1, hT2⟩, ⟨hW1, hW2, hWz⟩, ⟨hPlI, hMt, hn⟩, ⟨hHa, hHm, hIo, hFn⟩, ⟨hMv, hMn⟩, (hDb.more (Nat.le_succ _)), ⟨oHa, oRh, hMy, oAi⟩, hLs, oTl, oCh, zHa, hBg⟩
set_option maxHeartbeats 4000000 in
set_option maxRecDepth 100000 in
theorem law_count {X : Cx} {b : Nat → Nat} {mo : Nat} {a : Nat → Nat} {sc Ln i N : Nat} {xs : Nat → Int32} (hX : Ok X cL_law 4 RL 36) (hsc : Sc X sc Ln xs) (hL : Ln ≤ 3072) (hi : i + 6 ≤ Ln) (hN : N < 1000000) (kk : ∀ (b' : Nat → Nat) (h : HS) (fb : FB) (tp : TP) (z : PZ) (tk : TK) (jv : Nat → Int32) (jk : Nat → Int32) (pl : PL) (mt : MT) (yr : YR) (lg : LG) (ha : Nat → Option Nat) (x1 : TX) (x2 : TX) (tn : Nat) (fm : Nat) (fn : Nat) (mv : Nat) (fp : Int32) (ck : Int32) (te : Int32) (yn : Int32) (rc : Int32) (hp : Bool) (ir : Bool) (lgm : LG) (tr : Nat) (bg : Nat) (en : Nat) (tkk : Nat) (op : Nat) (wn : Nat) (jn : Nat) (cq : Nat) (cm : Nat) (fk : Int32) (kd : Int32) (mk : Int32) (le : Int64) (ke : Bool) (tpm : Nat → Int32) (t : MR) (og : Nat → Nat) (nm : Nat → Int64) (mf : MF) (hm : Nat → Option Nat) (io : Nat → Bool) (rh : Nat → Option Nat) (mn : Nat → Nat) (wt : Nat → Int32) (jt : Nat → Int32) (nw : Nat → Int32) (pil : Nat → Int32) (my : MY) (ai : Nat → Option Nat) (L : Nat → Nat) (tl : Nat → Option Nat) (ch : Nat → Option Nat), b' 0 = b 0 → SR (N + 1) h fb tp z tk jv jk pl mt yr lg ha x1 x2 tn fm fn mv fp ck te yn rc hp ir lgm tr bg en tkk op wn jn cq cm fk kd mk le ke tpm t og nm mf hm io rh mn wt jt nw pil my ai L tl ch → Aw X (KS b' mo a) (EW (CxD X) b' mo a h fb tp z tk jv jk pl mt yr lg ha x1 x2 tn fm fn mv fp ck te yn rc hp ir lgm tr bg en tkk op wn jn cq cm fk kd mk le ke tpm t og nm mf hm io rh mn wt jt nw pil my ai L tl ch) 735 [(0, .ref sc), (1, .ref (b 0)), (2, .ref mo), (3, .int (nI i))] []) (h : HS) (fb : FB) (tp : TP) (z : PZ) (tk : TK) (jv : Nat → Int32) (jk : Nat → Int32) (pl : PL) (mt : MT) (yr : YR) (lg : LG) (ha : Nat → Option Nat) (x1 : TX) (x2 : TX) (tn : Nat) (fm : Nat) (fn : Nat) (mv : Nat) (fp : Int32) (ck : Int32) (te : Int32) (yn : Int32) (rc : Int32) (hp : Bool) (ir : Bool) (lgm : LG) (tr : Nat) (bg : Nat) (en : Nat) (tkk : Nat) (op : Nat) (wn : Nat) (jn : Nat) (cq : Nat) (cm : Nat) (fk : Int32) (kd : Int32) (mk : Int32) (le : Int64) (ke : Bool) (tpm : Nat → Int32) (t : MR) (og : Nat → Nat) (nm : Nat → Int64) (mf : MF) (hm : Nat → Option Nat) (io : Nat → Bool) (rh : Nat → Option Nat) (mn : Nat → Nat) (wt : Nat → Int32) (jt : Nat → Int32) (nw : Nat → Int32) (pil : Nat → Int32) (my : MY) (ai : Nat → Option Nat) (L : Nat → Nat) (tl : Nat → Option Nat) (ch : Nat → Option Nat) (hR : SR N h fb tp z tk jv jk pl mt yr lg ha x1 x2 tn fm fn mv fp ck te yn rc hp ir lgm tr bg en tkk op wn jn cq cm fk kd mk le ke tpm t og nm mf hm io rh mn wt jt nw pil my ai L tl ch) : Aw X (KS b mo a) (EW (CxD X) b mo a h fb tp z tk jv jk pl mt yr lg ha x1 x2 tn fm fn mv fp ck te yn rc hp ir lgm tr bg en tkk op wn jn cq cm fk kd mk le ke tpm t og nm mf hm io rh mn wt jt nw pil my ai L tl ch) 712 [(0, .ref sc), (1, .ref (b 0)), (2, .ref mo), (3, .int (nI i))] [] := by
  obtain ⟨⟨rfl, rfl, rfl, rfl, rfl, rfl, rfl, rfl, rfl, rfl, rfl, rfl⟩, ⟨hTp, hFc, hT1, hT2⟩, ⟨hW1, hW2, hWz⟩, ⟨hPlI, hMt, hn⟩, ⟨hHa, hHm, hIo, hFn⟩, ⟨hMv, hMn⟩, hDb, ⟨oHa, oRh, hMy, oAi⟩, hLs, oTl, oCh, zHa, hBg⟩ := hR
  refine r_aload_n (n := 713) hX dL_law_712 rfl rfl 1 rfl ?_
  refine r_aload_n (n := 714) hX dL_law_713 rfl rfl 0 rfl ?_
  refine r_iload_n (n := 715) hX dL_law_714 rfl rfl 3 rfl ?_
  refine r_iconst (n := 716) hX 1 dL_law_715 rfl rfl ?_
  refine r_iadd (n := 717) hX dL_law_716 rfl ?_
  refine Aw.topi (nI (i + 1)) (nI_add _ _) ?_
  refine r_sld (n := 718) (i := i + 1) hX hsc (by omega) hL dL_law_717 rfl ?_
  refine r_callV (n := 721) (av := [.int (xs (i + 1))]) hX (ct_X10_count (CxL X) (CxD X) (b 0) (b 1) (b 5) (b 7) (b 19) (b 22) (b 37) (b 41) (b 45) (b 46) (b 53) (b 2) (b 3) (b 4) (b 38) (b 39) (b 40) (b 6) (b 47) (b 48) (b 49) (b 50) (b 51) (b 52) (b 54) (b 55) (b 56) (b 57) (b 58) (b 59) h fb yr x1 x2 tp (xs (i + 1)) hHm.2.2.2.1) ml_L_100 cv_X10_count rfl (by decide) [0, 1, 37, 38, 46, 53, 5] rfl rfl (by decide) 0 rfl rfl rfl rfl rfl (Nat.le_of_ble_eq_true rfl) dL_law_718 rfl (fun r_ es_ h_ l_ => ?_)
  obtain ⟨rfl, rfl⟩ := h_
  refine Aw.esq (pw_14 : putAt (EW (CxD X) b mo a h fb tp z tk jv jk pl mt yr lg ha x1 x2 tp.2 (hFs h) fb.2.2.2 yr.2.2.2.1 (zFaultP z) h.2.2.2.1 h.2.2.2.2.1 h.2.2.2.2.2 h.2.1 yr.2.2.2.2 h.1 lg tr bg en tkk op wn jn cq cm fk kd mk le ke tpm t og nm mf hm io rh mn wt jt nw pil my ai L tl ch) [0, 1, 37, 38, 46, 53, 5] _ = EW (CxD X) b mo a h fb tp z tk jv jk pl mt yr lg ha x1 x2 tp.2 (hFs h) fb.2.2.2 yr.2.2.2.1 (zFaultP z) h.2.2.2.1 h.2.2.2.2.1 h.2.2.2.2.2 h.2.1 yr.2.2.2.2 h.1 lg tr bg en tkk op wn jn cq cm fk kd mk le ke tpm t og nm mf hm io rh mn wt jt nw pil my ai L tl ch) ?_
  show Aw X (KS b mo a) (EW (CxD X) b mo a h fb tp z tk jv jk pl mt yr lg ha x1 x2 tp.2 (hFs h) fb.2.2.2 yr.2.2.2.1 (zFaultP z) h.2.2.2.1 h.2.2.2.2.1 h.2.2.2.2.2 h.2.1 yr.2.2.2.2 h.1 lg tr bg en tkk op wn jn cq cm fk kd mk le ke tpm t og nm mf hm io rh mn wt jt nw pil my ai L tl ch) 721 [(0, .ref sc), (1, .ref (b 0)), (2, .ref mo), (3, .int (nI i))] [.int (hCount h fb.2.2.2 yr (txRules x1) (txRules x2) tp.2 (xs (i + 1)))]
  refine r_aload_n (n := 722) hX dL_law_721 rfl rfl 2 rfl ?_
  refine r_aload_n (n := 723) hX dL_law_722 rfl rfl 0 rfl ?_
  refine r_iload_n (n := 724) hX dL_law_723 rfl rfl 3 rfl ?_
  refine r_iconst (n := 725) hX 1 dL_law_724 rfl rfl ?_
  refine r_iadd (n := 726) hX dL_law_725 rfl ?_
  refine Aw.topi (nI (i + 1)) (nI_add _ _) ?_
  refine r_sld (n := 727) (i := i + 1) hX hsc (by omega) hL dL_law_726 rfl ?_
  refine r_callV (n := 730) (av := [.int (xs (i + 1))]) hX (ct_X11_count (CxL X) (CxD X) mo a tp.2 tr (hFs h) fb.2.2.2 yr.2.2.2.1 bg en tkk op wn jn cq cm fk (zFaultP z) h.2.2.2.1 h.2.2.2.2.1 h.2.2.2.2.2 h.2.1 kd mk le yr.2.2.2.2 h.1 ke hm (rRg t) (xs (i + 1)) hn hHm.2.2.2.2) ml_L_103 cv_X11_count rfl (by decide) [60, 76, 65] rfl rfl (by decide) 60 rfl rfl rfl rfl rfl (Nat.le_of_ble_eq_true rfl) dL_law_727 rfl (fun r_ es_ h_ l_ => ?_)
  obtain ⟨rfl, rfl⟩ := h_
  refine Aw.esq (pw_15 : putAt (EW (CxD X) b mo a h fb tp z tk jv jk pl mt yr lg ha x1 x2 tp.2 (hFs h) fb.2.2.2 yr.2.2.2.1 (zFaultP z) h.2.2.2.1 h.2.2.2.2.1 h.2.2.2.2.2 h.2.1 yr.2.2.2.2 h.1 lg tr bg en tkk op wn jn cq cm fk kd mk le ke tpm t og nm mf hm io rh mn wt jt nw pil my ai L tl ch) [60, 76, 65] _ = EW (CxD X) b mo a h fb tp z tk jv jk pl mt yr lg ha x1 x2 tp.2 (hFs h) fb.2.2.2 yr.2.2.2.1 (zFaultP z) h.2.2.2.1 h.2.2.2.2.1 h.2.2.2.2.2 h.2.1 yr.2.2.2.2 h.1 lg tr bg en tkk op wn jn cq cm fk kd mk le ke tpm t og nm mf hm io rh mn wt jt nw pil my ai L tl ch) ?_
  show Aw X (KS b mo a) (EW (CxD X) b mo a h fb tp z tk jv jk pl mt yr lg ha x1 x2 tp.2 (hFs h) fb.2.2.2 yr.2.2.2.1 (zFaultP z) h.2.2.2.1 h.2.2.2.2.1 h.2.2.2.2.2 h.2.1 yr.2.2.2.2 h.1 lg tr bg en tkk op wn jn cq cm fk kd mk le ke tpm t og nm mf hm io rh mn wt jt nw pil my ai L tl ch) 730 [(0, .ref sc), (1, .ref (b 0)), (2, .ref mo), (3, .int (nI i))] [.int (mCnt (hFs h) fb.2.2.2 tp.2 h.2.2.2.1 h.2.2.2.2.1 h.2.2.2.2.2 hm (rRg t) (xs (i + 1))), .int (hCount h fb.2.2.2 yr (txRules x1) (txRules x2) tp.2 (xs (i + 1)))]
  refine r_icmp_eq (tgt := 735) (n := 733) hX dL_law_730 (by decide) rfl (fun _ => ?_) (fun hne => absurd (by unfold hCount mCnt; rw [hHm.gct hn, hT1.1, hT2.1]) hne)
  exact kk b h fb tp z tk jv jk pl mt yr lg ha x1 x2 tp.2 (hFs h) fb.2.2.2 yr.2.2.2.1 (zFaultP z) h.2.2.2.1 h.2.2.2.2.1 h.2.2.2.2.2 h.2.1 yr.2.2.2.2 h.1 lg tr bg en tkk op wn jn cq cm fk kd mk le ke tpm t og nm mf hm io rh mn wt jt nw pil my ai L tl ch rfl ⟨⟨rfl, rfl, rfl, rfl, rfl, rfl, rfl, rfl, rfl, rfl, rfl, rfl⟩, ⟨hTp, hFc, hT1, hT2⟩, ⟨hW1, hW2, hWz⟩, ⟨hPlI, hMt, hn⟩, ⟨hHa, hHm, hIo, hFn⟩, ⟨hMv, hMn⟩, (hDb.more (Nat.le_succ _)), ⟨oHa, oRh, hMy, oAi⟩, hLs, oTl, oCh, zHa, hBg⟩
