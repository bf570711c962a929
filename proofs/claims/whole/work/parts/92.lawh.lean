/-! the law: its switch, its loop -/
theorem SR.more {N : Nat} {h : HS} {fb : FB} {tp : TP} {z : PZ} {tk : TK} {jv : Nat → Int32} {jk : Nat → Int32} {pl : PL} {mt : MT} {yr : YR} {lg : LG} {ha : Nat → Option Nat} {x1 : TX} {x2 : TX} {tn : Nat} {fm : Nat} {fn : Nat} {mv : Nat} {fp : Int32} {ck : Int32} {te : Int32} {yn : Int32} {rc : Int32} {hp : Bool} {ir : Bool} {lgm : LG} {tr : Nat} {bg : Nat} {en : Nat} {tkk : Nat} {op : Nat} {wn : Nat} {jn : Nat} {cq : Nat} {cm : Nat} {fk : Int32} {kd : Int32} {mk : Int32} {le : Int64} {ke : Bool} {tpm : Nat → Int32} {t : MR} {og : Nat → Nat} {nm : Nat → Int64} {mf : MF} {hm : Nat → Option Nat} {io : Nat → Bool} {rh : Nat → Option Nat} {mn : Nat → Nat} {wt : Nat → Int32} {jt : Nat → Int32} {nw : Nat → Int32} {pil : Nat → Int32} {my : MY} {ai : Nat → Option Nat} {L : Nat → Nat} {tl : Nat → Option Nat} {ch : Nat → Option Nat} (H : SR N h fb tp z tk jv jk pl mt yr lg ha x1 x2 tn fm fn mv fp ck te yn rc hp ir lgm tr bg en tkk op wn jn cq cm fk kd mk le ke tpm t og nm mf hm io rh mn wt jt nw pil my ai L tl ch) : SR (N + 1) h fb tp z tk jv jk pl mt yr lg ha x1 x2 tn fm fn mv fp ck te yn rc hp ir lgm tr bg en tkk op wn jn cq cm fk kd mk le ke tpm t og nm mf hm io rh mn wt jt nw pil my ai L tl ch := ⟨H.1, H.2.1, H.2.2.1, H.2.2.2.1, H.2.2.2.2.1, H.2.2.2.2.2.1, H.2.2.2.2.2.2.1.more (Nat.le_succ _), H.2.2.2.2.2.2.2⟩
theorem nI_tin {j : Nat} (h : j < 32) : (nI j).toInt = (j : Int) := nI_toInt (by omega)
theorem law_switch {X : Cx} {b : Nat → Nat} {mo : Nat} {a : Nat → Nat} {sc Ln i N : Nat} {xs : Nat → Int32} (hX : Ok X cL_law 4 RL 36) (hsc : Sc X sc Ln xs) (hL : Ln ≤ 3072) (hi : i + 6 ≤ Ln) (hN : N < 1000000) (kk : ∀ (b' : Nat → Nat) (h : HS) (fb : FB) (tp : TP) (z : PZ) (tk : TK) (jv : Nat → Int32) (jk : Nat → Int32) (pl : PL) (mt : MT) (yr : YR) (lg : LG) (ha : Nat → Option Nat) (x1 : TX) (x2 : TX) (tn : Nat) (fm : Nat) (fn : Nat) (mv : Nat) (fp : Int32) (ck : Int32) (te : Int32) (yn : Int32) (rc : Int32) (hp : Bool) (ir : Bool) (lgm : LG) (tr : Nat) (bg : Nat) (en : Nat) (tkk : Nat) (op : Nat) (wn : Nat) (jn : Nat) (cq : Nat) (cm : Nat) (fk : Int32) (kd : Int32) (mk : Int32) (le : Int64) (ke : Bool) (tpm : Nat → Int32) (t : MR) (og : Nat → Nat) (nm : Nat → Int64) (mf : MF) (hm : Nat → Option Nat) (io : Nat → Bool) (rh : Nat → Option Nat) (mn : Nat → Nat) (wt : Nat → Int32) (jt : Nat → Int32) (nw : Nat → Int32) (pil : Nat → Int32) (my : MY) (ai : Nat → Option Nat) (L : Nat → Nat) (tl : Nat → Option Nat) (ch : Nat → Option Nat), b' 0 = b 0 → SR (N + 1) h fb tp z tk jv jk pl mt yr lg ha x1 x2 tn fm fn mv fp ck te yn rc hp ir lgm tr bg en tkk op wn jn cq cm fk kd mk le ke tpm t og nm mf hm io rh mn wt jt nw pil my ai L tl ch → Aw X (KS b' mo a) (EW (CxD X) b' mo a h fb tp z tk jv jk pl mt yr lg ha x1 x2 tn fm fn mv fp ck te yn rc hp ir lgm tr bg en tkk op wn jn cq cm fk kd mk le ke tpm t og nm mf hm io rh mn wt jt nw pil my ai L tl ch) 735 [(0, .ref sc), (1, .ref (b 0)), (2, .ref mo), (3, .int (nI i))] []) (h : HS) (fb : FB) (tp : TP) (z : PZ) (tk : TK) (jv : Nat → Int32) (jk : Nat → Int32) (pl : PL) (mt : MT) (yr : YR) (lg : LG) (ha : Nat → Option Nat) (x1 : TX) (x2 : TX) (tn : Nat) (fm : Nat) (fn : Nat) (mv : Nat) (fp : Int32) (ck : Int32) (te : Int32) (yn : Int32) (rc : Int32) (hp : Bool) (ir : Bool) (lgm : LG) (tr : Nat) (bg : Nat) (en : Nat) (tkk : Nat) (op : Nat) (wn : Nat) (jn : Nat) (cq : Nat) (cm : Nat) (fk : Int32) (kd : Int32) (mk : Int32) (le : Int64) (ke : Bool) (tpm : Nat → Int32) (t : MR) (og : Nat → Nat) (nm : Nat → Int64) (mf : MF) (hm : Nat → Option Nat) (io : Nat → Bool) (rh : Nat → Option Nat) (mn : Nat → Nat) (wt : Nat → Int32) (jt : Nat → Int32) (nw : Nat → Int32) (pil : Nat → Int32) (my : MY) (ai : Nat → Option Nat) (L : Nat → Nat) (tl : Nat → Option Nat) (ch : Nat → Option Nat) (hR : SR N h fb tp z tk jv jk pl mt yr lg ha x1 x2 tn fm fn mv fp ck te yn rc hp ir lgm tr bg en tkk op wn jn cq cm fk kd mk le ke tpm t og nm mf hm io rh mn wt jt nw pil my ai L tl ch) : Aw X (KS b mo a) (EW (CxD X) b mo a h fb tp z tk jv jk pl mt yr lg ha x1 x2 tn fm fn mv fp ck te yn rc hp ir lgm tr bg en tkk op wn jn cq cm fk kd mk le ke tpm t og nm mf hm io rh mn wt jt nw pil my ai L tl ch) 27 [(0, .ref sc), (1, .ref (b 0)), (2, .ref mo), (3, .int (nI i))] [] := by
  refine r_aload_n (n := 28) hX dL_law_27 rfl rfl 0 rfl ?_
  refine r_iload_n (n := 29) hX dL_law_28 rfl rfl 3 rfl ?_
  refine r_sld (n := 30) (i := i) hX hsc (by omega) hL dL_law_29 rfl ?_
  refine r_bipush (n := 32) hX 31 dL_law_30 rfl rfl ?_
  refine r_iand (n := 33) hX dL_law_32 rfl ?_
  obtain ⟨j, hj, e⟩ := pk_andE (xs i) (m := 31) 5 (by decide)
  refine Aw.topi (nI j) e ?_
  clear e
  by_cases hc0 : j = 0
  · subst hc0
    refine r_tabIn (tgt := 132) (off := 99) hX dL_law_33 (by decide) (by decide) (by decide) (by decide) ?_
    exact law_feed hX hsc hL hi hN kk h fb tp z tk jv jk pl mt yr lg ha x1 x2 tn fm fn mv fp ck te yn rc hp ir lgm tr bg en tkk op wn jn cq cm fk kd mk le ke tpm t og nm mf hm io rh mn wt jt nw pil my ai L tl ch hR
  by_cases hc1 : j = 1
  · subst hc1
    refine r_tabIn (tgt := 195) (off := 162) hX dL_law_33 (by decide) (by decide) (by decide) (by decide) ?_
    exact law_back hX hsc hL hi hN kk h fb tp z tk jv jk pl mt yr lg ha x1 x2 tn fm fn mv fp ck te yn rc hp ir lgm tr bg en tkk op wn jn cq cm fk kd mk le ke tpm t og nm mf hm io rh mn wt jt nw pil my ai L tl ch hR
  by_cases hc2 : j = 2
  · subst hc2
    refine r_tabIn (tgt := 218) (off := 185) hX dL_law_33 (by decide) (by decide) (by decide) (by decide) ?_
    exact law_read hX hsc hL hi hN kk h fb tp z tk jv jk pl mt yr lg ha x1 x2 tn fm fn mv fp ck te yn rc hp ir lgm tr bg en tkk op wn jn cq cm fk kd mk le ke tpm t og nm mf hm io rh mn wt jt nw pil my ai L tl ch hR
  by_cases hc3 : j = 3
  · subst hc3
    refine r_tabIn (tgt := 241) (off := 208) hX dL_law_33 (by decide) (by decide) (by decide) (by decide) ?_
    exact law_place hX hsc hL hi hN kk h fb tp z tk jv jk pl mt yr lg ha x1 x2 tn fm fn mv fp ck te yn rc hp ir lgm tr bg en tkk op wn jn cq cm fk kd mk le ke tpm t og nm mf hm io rh mn wt jt nw pil my ai L tl ch hR
  by_cases hc4 : j = 4
  · subst hc4
    refine r_tabIn (tgt := 254) (off := 221) hX dL_law_33 (by decide) (by decide) (by decide) (by decide) ?_
    exact law_family hX hsc hL hi hN kk h fb tp z tk jv jk pl mt yr lg ha x1 x2 tn fm fn mv fp ck te yn rc hp ir lgm tr bg en tkk op wn jn cq cm fk kd mk le ke tpm t og nm mf hm io rh mn wt jt nw pil my ai L tl ch hR
  by_cases hc5 : j = 5
  · subst hc5
    refine r_tabIn (tgt := 267) (off := 234) hX dL_law_33 (by decide) (by decide) (by decide) (by decide) ?_
    exact law_clock hX hsc hL hi hN kk h fb tp z tk jv jk pl mt yr lg ha x1 x2 tn fm fn mv fp ck te yn rc hp ir lgm tr bg en tkk op wn jn cq cm fk kd mk le ke tpm t og nm mf hm io rh mn wt jt nw pil my ai L tl ch hR
  by_cases hc6 : j = 6
  · subst hc6
    refine r_tabIn (tgt := 290) (off := 257) hX dL_law_33 (by decide) (by decide) (by decide) (by decide) ?_
    exact law_term hX hsc hL hi hN kk h fb tp z tk jv jk pl mt yr lg ha x1 x2 tn fm fn mv fp ck te yn rc hp ir lgm tr bg en tkk op wn jn cq cm fk kd mk le ke tpm t og nm mf hm io rh mn wt jt nw pil my ai L tl ch hR
  by_cases hc7 : j = 7
  · subst hc7
    refine r_tabIn (tgt := 313) (off := 280) hX dL_law_33 (by decide) (by decide) (by decide) (by decide) ?_
    exact law_tell hX hsc hL hi hN kk h fb tp z tk jv jk pl mt yr lg ha x1 x2 tn fm fn mv fp ck te yn rc hp ir lgm tr bg en tkk op wn jn cq cm fk kd mk le ke tpm t og nm mf hm io rh mn wt jt nw pil my ai L tl ch hR
  by_cases hc8 : j = 8
  · subst hc8
    refine r_tabIn (tgt := 356) (off := 323) hX dL_law_33 (by decide) (by decide) (by decide) (by decide) ?_
    exact law_known hX hsc hL hi hN kk h fb tp z tk jv jk pl mt yr lg ha x1 x2 tn fm fn mv fp ck te yn rc hp ir lgm tr bg en tkk op wn jn cq cm fk kd mk le ke tpm t og nm mf hm io rh mn wt jt nw pil my ai L tl ch hR
  by_cases hc9 : j = 9
  · subst hc9
    refine r_tabIn (tgt := 399) (off := 366) hX dL_law_33 (by decide) (by decide) (by decide) (by decide) ?_
    exact law_why hX hsc hL hi hN kk h fb tp z tk jv jk pl mt yr lg ha x1 x2 tn fm fn mv fp ck te yn rc hp ir lgm tr bg en tkk op wn jn cq cm fk kd mk le ke tpm t og nm mf hm io rh mn wt jt nw pil my ai L tl ch hR
  by_cases hc10 : j = 10
  · subst hc10
    refine r_tabIn (tgt := 452) (off := 419) hX dL_law_33 (by decide) (by decide) (by decide) (by decide) ?_
    exact law_cost hX hsc hL hi hN kk h fb tp z tk jv jk pl mt yr lg ha x1 x2 tn fm fn mv fp ck te yn rc hp ir lgm tr bg en tkk op wn jn cq cm fk kd mk le ke tpm t og nm mf hm io rh mn wt jt nw pil my ai L tl ch hR
  by_cases hc11 : j = 11
  · subst hc11
    refine r_tabIn (tgt := 505) (off := 472) hX dL_law_33 (by decide) (by decide) (by decide) (by decide) ?_
    exact law_round hX hsc hL hi hN kk h fb tp z tk jv jk pl mt yr lg ha x1 x2 tn fm fn mv fp ck te yn rc hp ir lgm tr bg en tkk op wn jn cq cm fk kd mk le ke tpm t og nm mf hm io rh mn wt jt nw pil my ai L tl ch hR
  by_cases hc12 : j = 12
  · subst hc12
    refine r_tabIn (tgt := 538) (off := 505) hX dL_law_33 (by decide) (by decide) (by decide) (by decide) ?_
    exact law_goes hX hsc hL hi hN kk h fb tp z tk jv jk pl mt yr lg ha x1 x2 tn fm fn mv fp ck te yn rc hp ir lgm tr bg en tkk op wn jn cq cm fk kd mk le ke tpm t og nm mf hm io rh mn wt jt nw pil my ai L tl ch hR
  by_cases hc13 : j = 13
  · subst hc13
    refine r_tabIn (tgt := 561) (off := 528) hX dL_law_33 (by decide) (by decide) (by decide) (by decide) ?_
    exact law_costs hX hsc hL hi hN kk h fb tp z tk jv jk pl mt yr lg ha x1 x2 tn fm fn mv fp ck te yn rc hp ir lgm tr bg en tkk op wn jn cq cm fk kd mk le ke tpm t og nm mf hm io rh mn wt jt nw pil my ai L tl ch hR
  by_cases hc14 : j = 14
  · subst hc14
    refine r_tabIn (tgt := 574) (off := 541) hX dL_law_33 (by decide) (by decide) (by decide) (by decide) ?_
    exact law_take hX hsc hL hi hN kk h fb tp z tk jv jk pl mt yr lg ha x1 x2 tn fm fn mv fp ck te yn rc hp ir lgm tr bg en tkk op wn jn cq cm fk kd mk le ke tpm t og nm mf hm io rh mn wt jt nw pil my ai L tl ch hR
  by_cases hc15 : j = 15
  · subst hc15
    refine r_tabIn (tgt := 587) (off := 554) hX dL_law_33 (by decide) (by decide) (by decide) (by decide) ?_
    exact law_fall hX hsc hL hi hN kk h fb tp z tk jv jk pl mt yr lg ha x1 x2 tn fm fn mv fp ck te yn rc hp ir lgm tr bg en tkk op wn jn cq cm fk kd mk le ke tpm t og nm mf hm io rh mn wt jt nw pil my ai L tl ch hR
  by_cases hc16 : j = 16
  · subst hc16
    refine r_tabIn (tgt := 610) (off := 577) hX dL_law_33 (by decide) (by decide) (by decide) (by decide) ?_
    exact law_moved hX hsc hL hi hN kk h fb tp z tk jv jk pl mt yr lg ha x1 x2 tn fm fn mv fp ck te yn rc hp ir lgm tr bg en tkk op wn jn cq cm fk kd mk le ke tpm t og nm mf hm io rh mn wt jt nw pil my ai L tl ch hR
  by_cases hc17 : j = 17
  · subst hc17
    refine r_tabIn (tgt := 633) (off := 600) hX dL_law_33 (by decide) (by decide) (by decide) (by decide) ?_
    exact law_close hX hsc hL hi hN kk h fb tp z tk jv jk pl mt yr lg ha x1 x2 tn fm fn mv fp ck te yn rc hp ir lgm tr bg en tkk op wn jn cq cm fk kd mk le ke tpm t og nm mf hm io rh mn wt jt nw pil my ai L tl ch hR
  by_cases hc18 : j = 18
  · subst hc18
    refine r_tabIn (tgt := 646) (off := 613) hX dL_law_33 (by decide) (by decide) (by decide) (by decide) ?_
    exact law_link hX hsc hL hi hN kk h fb tp z tk jv jk pl mt yr lg ha x1 x2 tn fm fn mv fp ck te yn rc hp ir lgm tr bg en tkk op wn jn cq cm fk kd mk le ke tpm t og nm mf hm io rh mn wt jt nw pil my ai L tl ch hR
  by_cases hc19 : j = 19
  · subst hc19
    refine r_tabIn (tgt := 679) (off := 646) hX dL_law_33 (by decide) (by decide) (by decide) (by decide) ?_
    exact law_of hX hsc hL hi hN kk h fb tp z tk jv jk pl mt yr lg ha x1 x2 tn fm fn mv fp ck te yn rc hp ir lgm tr bg en tkk op wn jn cq cm fk kd mk le ke tpm t og nm mf hm io rh mn wt jt nw pil my ai L tl ch hR
  by_cases hc20 : j = 20
  · subst hc20
    refine r_tabIn (tgt := 712) (off := 679) hX dL_law_33 (by decide) (by decide) (by decide) (by decide) ?_
    exact law_count hX hsc hL hi hN kk h fb tp z tk jv jk pl mt yr lg ha x1 x2 tn fm fn mv fp ck te yn rc hp ir lgm tr bg en tkk op wn jn cq cm fk kd mk le ke tpm t og nm mf hm io rh mn wt jt nw pil my ai L tl ch hR
  refine r_tabOut (tgt := 735) hX dL_law_33 (Or.inr (by rw [nI_tin (by omega)]; omega)) (by decide) ?_
  exact kk b h fb tp z tk jv jk pl mt yr lg ha x1 x2 tn fm fn mv fp ck te yn rc hp ir lgm tr bg en tkk op wn jn cq cm fk kd mk le ke tpm t og nm mf hm io rh mn wt jt nw pil my ai L tl ch rfl hR.more
theorem law_loop {X : Cx} {mo : Nat} {a : Nat → Nat} {sc Ln : Nat} {xs : Nat → Int32} (hX : Ok X cL_law 4 RL 36) (hw : Lw X) (hsc : Sc X sc Ln xs) (hL : Ln ≤ 3072) : ∀ (n i N : Nat), Ln < i + 6 * n → i ≤ Ln → N ≤ i → ∀ (b : Nat → Nat) (h : HS) (fb : FB) (tp : TP) (z : PZ) (tk : TK) (jv : Nat → Int32) (jk : Nat → Int32) (pl : PL) (mt : MT) (yr : YR) (lg : LG) (ha : Nat → Option Nat) (x1 : TX) (x2 : TX) (tn : Nat) (fm : Nat) (fn : Nat) (mv : Nat) (fp : Int32) (ck : Int32) (te : Int32) (yn : Int32) (rc : Int32) (hp : Bool) (ir : Bool) (lgm : LG) (tr : Nat) (bg : Nat) (en : Nat) (tkk : Nat) (op : Nat) (wn : Nat) (jn : Nat) (cq : Nat) (cm : Nat) (fk : Int32) (kd : Int32) (mk : Int32) (le : Int64) (ke : Bool) (tpm : Nat → Int32) (t : MR) (og : Nat → Nat) (nm : Nat → Int64) (mf : MF) (hm : Nat → Option Nat) (io : Nat → Bool) (rh : Nat → Option Nat) (mn : Nat → Nat) (wt : Nat → Int32) (jt : Nat → Int32) (nw : Nat → Int32) (pil : Nat → Int32) (my : MY) (ai : Nat → Option Nat) (L : Nat → Nat) (tl : Nat → Option Nat) (ch : Nat → Option Nat), SR N h fb tp z tk jv jk pl mt yr lg ha x1 x2 tn fm fn mv fp ck te yn rc hp ir lgm tr bg en tkk op wn jn cq cm fk kd mk le ke tpm t og nm mf hm io rh mn wt jt nw pil my ai L tl ch → Aw X (KS b mo a) (EW (CxD X) b mo a h fb tp z tk jv jk pl mt yr lg ha x1 x2 tn fm fn mv fp ck te yn rc hp ir lgm tr bg en tkk op wn jn cq cm fk kd mk le ke tpm t og nm mf hm io rh mn wt jt nw pil my ai L tl ch) 18 [(0, .ref sc), (1, .ref (b 0)), (2, .ref mo), (3, .int (nI i))] [] := by
  intro n
  induction n with
  | zero => intro i N h1 h2; omega
  | succ n ih =>
    intro i N h1 h2 h3 b h fb tp z tk jv jk pl mt yr lg ha x1 x2 tn fm fn mv fp ck te yn rc hp ir lgm tr bg en tkk op wn jn cq cm fk kd mk le ke tpm t og nm mf hm io rh mn wt jt nw pil my ai L tl ch hR
    refine r_iload_n (n := 19) hX dL_law_18 rfl rfl 3 rfl ?_
    refine r_aload_n (n := 20) hX dL_law_19 rfl rfl 0 rfl ?_
    refine r_slen (n := 21) hX hsc dL_law_20 rfl ?_
    refine r_bipush (n := 23) hX (nI 6) dL_law_21 rfl rfl ?_
    refine r_isub (n := 24) hX dL_law_23 rfl ?_
    have e6 : (nI Ln - nI 6).toInt = (Ln : Int) - ((6 : Nat) : Int) := nI_subI (by omega) (by decide)
    have ei : (nI i).toInt = (i : Int) := nI_toInt (by omega)
    refine r_icmp_gt (tgt := 741) (n := 27) hX dL_law_24 (by decide) rfl (fun _ => ?_) (fun hq => ?_)
    · refine r_iconst (n := 742) hX 1 dL_law_741 rfl rfl ?_
      exact r_lawret hX hw
    · rw [Int32.lt_iff_toInt_lt, e6, ei] at hq
      refine law_switch hX hsc hL (by omega) (by omega) ?_ h fb tp z tk jv jk pl mt yr lg ha x1 x2 tn fm fn mv fp ck te yn rc hp ir lgm tr bg en tkk op wn jn cq cm fk kd mk le ke tpm t og nm mf hm io rh mn wt jt nw pil my ai L tl ch hR
      intro b' h fb tp z tk jv jk pl mt yr lg ha x1 x2 tn fm fn mv fp ck te yn rc hp ir lgm tr bg en tkk op wn jn cq cm fk kd mk le ke tpm t og nm mf hm io rh mn wt jt nw pil my ai L tl ch eb hR'
      rw [← eb]
      refine r_iinc (n := 738) hX (nI (i + 6)) [(0, .ref sc), (1, .ref (b' 0)), (2, .ref mo), (3, .int (nI (i + 6)))] dL_law_735 rfl 3 rfl (nI_add _ _) (by decide) rfl ?_
      refine r_goto (tgt := 18) hX dL_law_738 (by decide) ?_
      exact ih (i + 6) (N + 1) (by omega) (by omega) (by omega) b' h fb tp z tk jv jk pl mt yr lg ha x1 x2 tn fm fn mv fp ck te yn rc hp ir lgm tr bg en tkk op wn jn cq cm fk kd mk le ke tpm t og nm mf hm io rh mn wt jt nw pil my ai L tl ch hR'
