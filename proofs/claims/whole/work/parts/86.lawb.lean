/-! why, cost -/
set_option maxHeartbeats 4000000 in
set_option maxRecDepth 100000 in
theorem law_why {X : Cx} {b : Nat → Nat} {mo : Nat} {a : Nat → Nat} {sc Ln i N : Nat} {xs : Nat → Int32} (hX : Ok X cL_law 4 RL 36) (hsc : Sc X sc Ln xs) (hL : Ln ≤ 3072) (hi : i + 6 ≤ Ln) (hN : N < 1000000) (kk : ∀ (b' : Nat → Nat) (h : HS) (fb : FB) (tp : TP) (z : PZ) (tk : TK) (jv : Nat → Int32) (jk : Nat → Int32) (pl : PL) (mt : MT) (yr : YR) (lg : LG) (ha : Nat → Option Nat) (x1 : TX) (x2 : TX) (tn : Nat) (fm : Nat) (fn : Nat) (mv : Nat) (fp : Int32) (ck : Int32) (te : Int32) (yn : Int32) (rc : Int32) (hp : Bool) (ir : Bool) (lgm : LG) (tr : Nat) (bg : Nat) (en : Nat) (tkk : Nat) (op : Nat) (wn : Nat) (jn : Nat) (cq : Nat) (cm : Nat) (fk : Int32) (kd : Int32) (mk : Int32) (le : Int64) (ke : Bool) (tpm : Nat → Int32) (t : MR) (og : Nat → Nat) (nm : Nat → Int64) (mf : MF) (hm : Nat → Option Nat) (io : Nat → Bool) (rh : Nat → Option Nat) (mn : Nat → Nat) (wt : Nat → Int32) (jt : Nat → Int32) (nw : Nat → Int32) (pil : Nat → Int32) (my : MY) (ai : Nat → Option Nat) (L : Nat → Nat) (tl : Nat → Option Nat) (ch : Nat → Option Nat), b' 0 = b 0 → SR (N + 1) h fb tp z tk jv jk pl mt yr lg ha x1 x2 tn fm fn mv fp ck te yn rc hp ir lgm tr bg en tkk op wn jn cq cm fk kd mk le ke tpm t og nm mf hm io rh mn wt jt nw pil my ai L tl ch → Aw X (KS b' mo a) (EW (CxD X) b' mo a h fb tp z tk jv jk pl mt yr lg ha x1 x2 tn fm fn mv fp ck te yn rc hp ir lgm tr bg en tkk op wn jn cq cm fk kd mk le ke tpm t og nm mf hm io rh mn wt jt nw pil my ai L tl ch) 735 [(0, .ref sc), (1, .ref (b 0)), (2, .ref mo), (3, .int (nI i))] []) (h : HS) (fb : FB) (tp : TP) (z : PZ) (tk : TK) (jv : Nat → Int32) (jk : Nat → Int32) (pl : PL) (mt : MT) (yr : YR) (lg : LG) (ha : Nat → Option Nat) (x1 : TX) (x2 : TX) (tn : Nat) (fm : Nat) (fn : Nat) (mv : Nat) (fp : Int32) (ck : Int32) (te : Int32) (yn : Int32) (rc : Int32) (hp : Bool) (ir : Bool) (lgm : LG) (tr : Nat) (bg : Nat) (en : Nat) (tkk : Nat) (op : Nat) (wn : Nat) (jn : Nat) (cq : Nat) (cm : Nat) (fk : Int32) (kd : Int32) (mk : Int32) (le : Int64) (ke : Bool) (tpm : Nat → Int32) (t : MR) (og : Nat → Nat) (nm : Nat → Int64) (mf : MF) (hm : Nat → Option Nat) (io : Nat → Bool) (rh : Nat → Option Nat) (mn : Nat → Nat) (wt : Nat → Int32) (jt : Nat → Int32) (nw : Nat → Int32) (pil : Nat → Int32) (my : MY) (ai : Nat → Option Nat) (L : Nat → Nat) (tl : Nat → Option Nat) (ch : Nat → Option Nat) (hR : SR N h fb tp z tk jv jk pl mt yr lg ha x1 x2 tn fm fn mv fp ck te yn rc hp ir lgm tr bg en tkk op wn jn cq cm fk kd mk le ke tpm t og nm mf hm io rh mn wt jt nw pil my ai L tl ch) : Aw X (KS b mo a) (EW (CxD X) b mo a h fb tp z tk jv jk pl mt yr lg ha x1 x2 tn fm fn mv fp ck te yn rc hp ir lgm tr bg en tkk op wn jn cq cm fk kd mk le ke tpm t og nm mf hm io rh mn wt jt nw pil my ai L tl ch) 399 [(0, .ref sc), (1, .ref (b 0)), (2, .ref mo), (3, .int (nI i))] [] := by
  obtain ⟨⟨rfl, rfl, rfl, rfl, rfl, rfl, rfl, rfl, rfl, rfl, rfl, rfl⟩, ⟨hTp, hFc, hT1, hT2⟩, ⟨hW1, hW2, hWz⟩, ⟨hPlI, hMt, hn⟩, ⟨hHa, hHm, hIo, hFn⟩, ⟨hMv, hMn⟩, hDb, ⟨oHa, oRh, hMy, oAi⟩, hLs, oTl, oCh, zHa, hBg⟩ := hR
  by_cases s0 : (xs (i + 1)) = nI 0
  · by_cases hb : hDay (xs (i + 2)) = false ∨ hFam (hFs h) (xs (i + 3)) = false ∨ hFam (hFs h) (xs (i + 4)) = false
    · skip
      refine r_aload_n (n := 400) hX dL_law_399 rfl rfl 1 rfl ?_
      refine r_aload_n (n := 401) hX dL_law_400 rfl rfl 0 rfl ?_
      refine r_iload_n (n := 402) hX dL_law_401 rfl rfl 3 rfl ?_
      refine r_iconst (n := 403) hX 1 dL_law_402 rfl rfl ?_
      refine r_iadd (n := 404) hX dL_law_403 rfl ?_
      refine Aw.topi (nI (i + 1)) (nI_add _ _) ?_
      refine r_sld (n := 405) (i := i + 1) hX hsc (by omega) hL dL_law_404 rfl ?_
      refine Aw.topi (nI 0) s0 ?_
      refine r_aload_n (n := 406) hX dL_law_405 rfl rfl 0 rfl ?_
      refine r_iload_n (n := 407) hX dL_law_406 rfl rfl 3 rfl ?_
      refine r_iconst (n := 408) hX 2 dL_law_407 rfl rfl ?_
      refine r_iadd (n := 409) hX dL_law_408 rfl ?_
      refine Aw.topi (nI (i + 2)) (nI_add _ _) ?_
      refine r_sld (n := 410) (i := i + 2) hX hsc (by omega) hL dL_law_409 rfl ?_
      refine r_aload_n (n := 411) hX dL_law_410 rfl rfl 0 rfl ?_
      refine r_iload_n (n := 412) hX dL_law_411 rfl rfl 3 rfl ?_
      refine r_iconst (n := 413) hX 3 dL_law_412 rfl rfl ?_
      refine r_iadd (n := 414) hX dL_law_413 rfl ?_
      refine Aw.topi (nI (i + 3)) (nI_add _ _) ?_
      refine r_sld (n := 415) (i := i + 3) hX hsc (by omega) hL dL_law_414 rfl ?_
      refine r_aload_n (n := 416) hX dL_law_415 rfl rfl 0 rfl ?_
      refine r_iload_n (n := 417) hX dL_law_416 rfl rfl 3 rfl ?_
      refine r_iconst (n := 418) hX 4 dL_law_417 rfl rfl ?_
      refine r_iadd (n := 419) hX dL_law_418 rfl ?_
      refine Aw.topi (nI (i + 4)) (nI_add _ _) ?_
      refine r_sld (n := 420) (i := i + 4) hX hsc (by omega) hL dL_law_419 rfl ?_
      refine r_callV (n := 423) (av := [.int (nI 0), .int (xs (i + 2)), .int (xs (i + 3)), .int (xs (i + 4))]) hX (ct_why0N (CxL X) (CxD X) (b 0) (b 1) (b 5) (b 7) (b 19) (b 22) (b 37) (b 41) (b 45) (b 46) (b 53) h (nI 0) (xs (i + 2)) (xs (i + 3)) (xs (i + 4)) rfl hb) ml_L_54 cv_X10_why rfl (by decide) [0] rfl rfl (by decide) 0 rfl rfl rfl rfl rfl (Nat.le_of_ble_eq_true rfl) dL_law_420 rfl (fun r_ es_ h_ l_ => ?_)
      obtain ⟨rfl, rfl⟩ := h_
      refine Aw.esq (pw_2 : putAt (EW (CxD X) b mo a h fb tp z tk jv jk pl mt yr lg ha x1 x2 tp.2 (hFs h) fb.2.2.2 yr.2.2.2.1 (zFaultP z) h.2.2.2.1 h.2.2.2.2.1 h.2.2.2.2.2 h.2.1 yr.2.2.2.2 h.1 lg tr bg en tkk op wn jn cq cm fk kd mk le ke tpm t og nm mf hm io rh mn wt jt nw pil my ai L tl ch) [0] _ = EW (CxD X) b mo a h fb tp z tk jv jk pl mt yr lg ha x1 x2 tp.2 (hFs h) fb.2.2.2 yr.2.2.2.1 (zFaultP z) h.2.2.2.1 h.2.2.2.2.1 h.2.2.2.2.2 h.2.1 yr.2.2.2.2 h.1 lg tr bg en tkk op wn jn cq cm fk kd mk le ke tpm t og nm mf hm io rh mn wt jt nw pil my ai L tl ch) ?_
      show Aw X (KS b mo a) (EW (CxD X) b mo a h fb tp z tk jv jk pl mt yr lg ha x1 x2 tp.2 (hFs h) fb.2.2.2 yr.2.2.2.1 (zFaultP z) h.2.2.2.1 h.2.2.2.2.1 h.2.2.2.2.2 h.2.1 yr.2.2.2.2 h.1 lg tr bg en tkk op wn jn cq cm fk kd mk le ke tpm t og nm mf hm io rh mn wt jt nw pil my ai L tl ch) 423 [(0, .ref sc), (1, .ref (b 0)), (2, .ref mo), (3, .int (nI i))] [.int (-1)]
      refine r_aload_n (n := 424) hX dL_law_423 rfl rfl 2 rfl ?_
      refine r_aload_n (n := 425) hX dL_law_424 rfl rfl 0 rfl ?_
      refine r_iload_n (n := 426) hX dL_law_425 rfl rfl 3 rfl ?_
      refine r_iconst (n := 427) hX 1 dL_law_426 rfl rfl ?_
      refine r_iadd (n := 428) hX dL_law_427 rfl ?_
      refine Aw.topi (nI (i + 1)) (nI_add _ _) ?_
      refine r_sld (n := 429) (i := i + 1) hX hsc (by omega) hL dL_law_428 rfl ?_
      refine Aw.topi (nI 0) s0 ?_
      refine r_aload_n (n := 430) hX dL_law_429 rfl rfl 0 rfl ?_
      refine r_iload_n (n := 431) hX dL_law_430 rfl rfl 3 rfl ?_
      refine r_iconst (n := 432) hX 2 dL_law_431 rfl rfl ?_
      refine r_iadd (n := 433) hX dL_law_432 rfl ?_
      refine Aw.topi (nI (i + 2)) (nI_add _ _) ?_
      refine r_sld (n := 434) (i := i + 2) hX hsc (by omega) hL dL_law_433 rfl ?_
      refine r_aload_n (n := 435) hX dL_law_434 rfl rfl 0 rfl ?_
      refine r_iload_n (n := 436) hX dL_law_435 rfl rfl 3 rfl ?_
      refine r_iconst (n := 437) hX 3 dL_law_436 rfl rfl ?_
      refine r_iadd (n := 438) hX dL_law_437 rfl ?_
      refine Aw.topi (nI (i + 3)) (nI_add _ _) ?_
      refine r_sld (n := 439) (i := i + 3) hX hsc (by omega) hL dL_law_438 rfl ?_
      refine r_aload_n (n := 440) hX dL_law_439 rfl rfl 0 rfl ?_
      refine r_iload_n (n := 441) hX dL_law_440 rfl rfl 3 rfl ?_
      refine r_iconst (n := 442) hX 4 dL_law_441 rfl rfl ?_
      refine r_iadd (n := 443) hX dL_law_442 rfl ?_
      refine Aw.topi (nI (i + 4)) (nI_add _ _) ?_
      refine r_sld (n := 444) (i := i + 4) hX hsc (by omega) hL dL_law_443 rfl ?_
      refine r_callV (n := 447) (av := [.int (nI 0), .int (xs (i + 2)), .int (xs (i + 3)), .int (xs (i + 4))]) hX (ct_m_whyBad (CxL X) (CxD X) mo a tp.2 tr (hFs h) fb.2.2.2 yr.2.2.2.1 bg en tkk op wn jn cq cm fk (zFaultP z) h.2.2.2.1 h.2.2.2.2.1 h.2.2.2.2.2 h.2.1 kd mk le yr.2.2.2.2 h.1 ke (nI 0) (xs (i + 2)) (xs (i + 3)) (xs (i + 4)) (ask_no hn hb)) ml_L_58 cv_X11_why rfl (by decide) [60] rfl rfl (by decide) 60 rfl rfl rfl rfl rfl (Nat.le_of_ble_eq_true rfl) dL_law_444 rfl (fun r_ es_ h_ l_ => ?_)
      obtain ⟨rfl, rfl⟩ := h_
      refine Aw.esq (pw_3 : putAt (EW (CxD X) b mo a h fb tp z tk jv jk pl mt yr lg ha x1 x2 tp.2 (hFs h) fb.2.2.2 yr.2.2.2.1 (zFaultP z) h.2.2.2.1 h.2.2.2.2.1 h.2.2.2.2.2 h.2.1 yr.2.2.2.2 h.1 lg tr bg en tkk op wn jn cq cm fk kd mk le ke tpm t og nm mf hm io rh mn wt jt nw pil my ai L tl ch) [60] _ = EW (CxD X) b mo a h fb tp z tk jv jk pl mt yr lg ha x1 x2 tp.2 (hFs h) fb.2.2.2 yr.2.2.2.1 (zFaultP z) h.2.2.2.1 h.2.2.2.2.1 h.2.2.2.2.2 h.2.1 yr.2.2.2.2 h.1 lg tr bg en tkk op wn jn cq cm fk kd mk le ke tpm t og nm mf hm io rh mn wt jt nw pil my ai L tl ch) ?_
      show Aw X (KS b mo a) (EW (CxD X) b mo a h fb tp z tk jv jk pl mt yr lg ha x1 x2 tp.2 (hFs h) fb.2.2.2 yr.2.2.2.1 (zFaultP z) h.2.2.2.1 h.2.2.2.2.1 h.2.2.2.2.2 h.2.1 yr.2.2.2.2 h.1 lg tr bg en tkk op wn jn cq cm fk kd mk le ke tpm t og nm mf hm io rh mn wt jt nw pil my ai L tl ch) 447 [(0, .ref sc), (1, .ref (b 0)), (2, .ref mo), (3, .int (nI i))] [.int (-1), .int (-1)]
      refine r_icmp_eq (tgt := 735) (n := 450) hX dL_law_447 (by decide) rfl (fun _ => ?_) (fun hne => absurd (rfl) hne)
      exact kk b h fb tp z tk jv jk pl mt yr lg ha x1 x2 tp.2 (hFs h) fb.2.2.2 yr.2.2.2.1 (zFaultP z) h.2.2.2.1 h.2.2.2.2.1 h.2.2.2.2.2 h.2.1 yr.2.2.2.2 h.1 lg tr bg en tkk op wn jn cq cm fk kd mk le ke tpm t og nm mf hm io rh mn wt jt nw pil my ai L tl ch rfl ⟨⟨rfl, rfl, rfl, rfl, rfl, rfl, rfl, rfl, rfl, rfl, rfl, rfl⟩, ⟨hTp, hFc, hT1, hT2⟩, ⟨hW1, hW2, hWz⟩, ⟨hPlI, hMt, hn⟩, ⟨hHa, hHm, hIo, hFn⟩, ⟨hMv, hMn⟩, (hDb.more (Nat.le_succ _)), ⟨oHa, oRh, hMy, oAi⟩, hLs, oTl, oCh, zHa, hBg⟩
    · rcases fam_ix hn (xs (i + 3)) with hz | ⟨p, hp_, hpw⟩
      · exact absurd (Or.inr (Or.inl hz)) hb
      · rcases fam_ix hn (xs (i + 4)) with hz | ⟨q, hq_, hqw⟩
        · exact absurd (Or.inr (Or.inr hz)) hb
        · have hd : hDay (xs (i + 2)) = true := by
            cases e : hDay (xs (i + 2)) with
            | true => rfl
            | false => exact absurd (Or.inl e) hb
          refine r_aload_n (n := 400) hX dL_law_399 rfl rfl 1 rfl ?_
          refine r_aload_n (n := 401) hX dL_law_400 rfl rfl 0 rfl ?_
          refine r_iload_n (n := 402) hX dL_law_401 rfl rfl 3 rfl ?_
          refine r_iconst (n := 403) hX 1 dL_law_402 rfl rfl ?_
          refine r_iadd (n := 404) hX dL_law_403 rfl ?_
          refine Aw.topi (nI (i + 1)) (nI_add _ _) ?_
          refine r_sld (n := 405) (i := i + 1) hX hsc (by omega) hL dL_law_404 rfl ?_
          refine Aw.topi (nI 0) s0 ?_
          refine r_aload_n (n := 406) hX dL_law_405 rfl rfl 0 rfl ?_
          refine r_iload_n (n := 407) hX dL_law_406 rfl rfl 3 rfl ?_
          refine r_iconst (n := 408) hX 2 dL_law_407 rfl rfl ?_
          refine r_iadd (n := 409) hX dL_law_408 rfl ?_
          refine Aw.topi (nI (i + 2)) (nI_add _ _) ?_
          refine r_sld (n := 410) (i := i + 2) hX hsc (by omega) hL dL_law_409 rfl ?_
          refine r_aload_n (n := 411) hX dL_law_410 rfl rfl 0 rfl ?_
          refine r_iload_n (n := 412) hX dL_law_411 rfl rfl 3 rfl ?_
          refine r_iconst (n := 413) hX 3 dL_law_412 rfl rfl ?_
          refine r_iadd (n := 414) hX dL_law_413 rfl ?_
          refine Aw.topi (nI (i + 3)) (nI_add _ _) ?_
          refine r_sld (n := 415) (i := i + 3) hX hsc (by omega) hL dL_law_414 rfl ?_
          refine Aw.topi (nI p) hpw ?_
          refine r_aload_n (n := 416) hX dL_law_415 rfl rfl 0 rfl ?_
          refine r_iload_n (n := 417) hX dL_law_416 rfl rfl 3 rfl ?_
          refine r_iconst (n := 418) hX 4 dL_law_417 rfl rfl ?_
          refine r_iadd (n := 419) hX dL_law_418 rfl ?_
          refine Aw.topi (nI (i + 4)) (nI_add _ _) ?_
          refine r_sld (n := 420) (i := i + 4) hX hsc (by omega) hL dL_law_419 rfl ?_
          refine Aw.topi (nI q) hqw ?_
          refine r_callV (n := 423) (av := [.int (nI 0), .int (xs (i + 2)), .int (nI p), .int (nI q)]) hX (ct_why0 (CxL X) (CxD X) (b 0) (b 1) (b 5) (b 7) (b 19) (b 22) (b 37) (b 41) (b 45) (b 46) (b 53) (b 2) (b 3) (b 4) (b 20) (b 21) (b 47) (b 48) (b 49) (b 50) (b 51) (b 52) h fb x1 jv jk (nI 0) (xs (i + 2)) p q hn rfl hd hp_ hq_ hFc.2.1 (txOk_of hW1 hT1.2.1.1)) ml_L_54 cv_X10_why rfl (by decide) [0, 1, 2, 3, 4, 19, 20, 21, 46, 47, 48, 49, 50, 51, 52] rfl rfl (by decide) 0 rfl rfl rfl rfl rfl (Nat.le_of_ble_eq_true rfl) dL_law_420 rfl (fun r_ es_ h_ l_ => ?_)
          obtain ⟨rfl, rfl⟩ := h_
          refine Aw.esq (pw_16 : putAt (EW (CxD X) b mo a h fb tp z tk jv jk pl mt yr lg ha x1 x2 tp.2 (hFs h) fb.2.2.2 yr.2.2.2.1 (zFaultP z) h.2.2.2.1 h.2.2.2.2.1 h.2.2.2.2.2 h.2.1 yr.2.2.2.2 h.1 lg tr bg en tkk op wn jn cq cm fk kd mk le ke tpm t og nm mf hm io rh mn wt jt nw pil my ai L tl ch) [0, 1, 2, 3, 4, 19, 20, 21, 46, 47, 48, 49, 50, 51, 52] _ = EW (CxD X) b mo a h fb tp z tk (hV fb jv (xs (i + 2))) ((jWhy x1 (hV fb jv (xs (i + 2))) h.2.2.2.2.1 p q jk).2) pl mt yr lg ha x1 x2 tp.2 (hFs h) fb.2.2.2 yr.2.2.2.1 (zFaultP z) h.2.2.2.1 h.2.2.2.2.1 h.2.2.2.2.2 h.2.1 yr.2.2.2.2 h.1 lg tr bg en tkk op wn jn cq cm fk kd mk le ke tpm t og nm mf hm io rh mn wt jt nw pil my ai L tl ch) ?_
          show Aw X (KS b mo a) (EW (CxD X) b mo a h fb tp z tk (hV fb jv (xs (i + 2))) ((jWhy x1 (hV fb jv (xs (i + 2))) h.2.2.2.2.1 p q jk).2) pl mt yr lg ha x1 x2 tp.2 (hFs h) fb.2.2.2 yr.2.2.2.1 (zFaultP z) h.2.2.2.1 h.2.2.2.2.1 h.2.2.2.2.2 h.2.1 yr.2.2.2.2 h.1 lg tr bg en tkk op wn jn cq cm fk kd mk le ke tpm t og nm mf hm io rh mn wt jt nw pil my ai L tl ch) 423 [(0, .ref sc), (1, .ref (b 0)), (2, .ref mo), (3, .int (nI i))] [.int (nI (jWhy x1 (hV fb jv (xs (i + 2))) h.2.2.2.2.1 p q jk).1)]
          refine r_aload_n (n := 424) hX dL_law_423 rfl rfl 2 rfl ?_
          refine r_aload_n (n := 425) hX dL_law_424 rfl rfl 0 rfl ?_
          refine r_iload_n (n := 426) hX dL_law_425 rfl rfl 3 rfl ?_
          refine r_iconst (n := 427) hX 1 dL_law_426 rfl rfl ?_
          refine r_iadd (n := 428) hX dL_law_427 rfl ?_
          refine Aw.topi (nI (i + 1)) (nI_add _ _) ?_
          refine r_sld (n := 429) (i := i + 1) hX hsc (by omega) hL dL_law_428 rfl ?_
          refine Aw.topi (nI 0) s0 ?_
          refine r_aload_n (n := 430) hX dL_law_429 rfl rfl 0 rfl ?_
          refine r_iload_n (n := 431) hX dL_law_430 rfl rfl 3 rfl ?_
          refine r_iconst (n := 432) hX 2 dL_law_431 rfl rfl ?_
          refine r_iadd (n := 433) hX dL_law_432 rfl ?_
          refine Aw.topi (nI (i + 2)) (nI_add _ _) ?_
          refine r_sld (n := 434) (i := i + 2) hX hsc (by omega) hL dL_law_433 rfl ?_
          refine r_aload_n (n := 435) hX dL_law_434 rfl rfl 0 rfl ?_
          refine r_iload_n (n := 436) hX dL_law_435 rfl rfl 3 rfl ?_
          refine r_iconst (n := 437) hX 3 dL_law_436 rfl rfl ?_
          refine r_iadd (n := 438) hX dL_law_437 rfl ?_
          refine Aw.topi (nI (i + 3)) (nI_add _ _) ?_
          refine r_sld (n := 439) (i := i + 3) hX hsc (by omega) hL dL_law_438 rfl ?_
          refine Aw.topi (nI p) hpw ?_
          refine r_aload_n (n := 440) hX dL_law_439 rfl rfl 0 rfl ?_
          refine r_iload_n (n := 441) hX dL_law_440 rfl rfl 3 rfl ?_
          refine r_iconst (n := 442) hX 4 dL_law_441 rfl rfl ?_
          refine r_iadd (n := 443) hX dL_law_442 rfl ?_
          refine Aw.topi (nI (i + 4)) (nI_add _ _) ?_
          refine r_sld (n := 444) (i := i + 4) hX hsc (by omega) hL dL_law_443 rfl ?_
          refine Aw.topi (nI q) hqw ?_
          refine r_callV (n := 447) (av := [.int (nI 0), .int (xs (i + 2)), .int (nI p), .int (nI q)]) hX (ct_m_why (CxL X) (CxD X) mo a tp.2 tr (hFs h) fb.2.2.2 yr.2.2.2.1 bg en tkk op wn jn cq cm fk (zFaultP z) h.2.2.2.1 h.2.2.2.2.1 h.2.2.2.2.2 h.2.1 kd mk le yr.2.2.2.2 h.1 ke t mf nw pil 0 p q (xs (i + 2)) hn hFc.ok (by decide) (mtx_of hT1) hd hp_ hq_) ml_L_58 cv_X11_why rfl (by decide) [60, 62, 63, 65, 66, 67, 68, 69, 70, 85, 86, 72, 73, 74, 75] rfl rfl (by decide) 60 rfl rfl rfl rfl rfl (Nat.le_of_ble_eq_true rfl) dL_law_444 rfl (fun r_ es_ h_ l_ => ?_)
          obtain ⟨rfl, pl_, rfl⟩ := h_
          refine Aw.esq (pw_17 : putAt (EW (CxD X) b mo a h fb tp z tk (hV fb jv (xs (i + 2))) ((jWhy x1 (hV fb jv (xs (i + 2))) h.2.2.2.2.1 p q jk).2) pl mt yr lg ha x1 x2 tp.2 (hFs h) fb.2.2.2 yr.2.2.2.1 (zFaultP z) h.2.2.2.1 h.2.2.2.2.1 h.2.2.2.2.2 h.2.1 yr.2.2.2.2 h.1 lg tr bg en tkk op wn jn cq cm fk kd mk le ke tpm t og nm mf hm io rh mn wt jt nw pil my ai L tl ch) [60, 62, 63, 65, 66, 67, 68, 69, 70, 85, 86, 72, 73, 74, 75] _ = EW (CxD X) b mo a h fb tp z tk (hV fb jv (xs (i + 2))) ((jWhy x1 (hV fb jv (xs (i + 2))) h.2.2.2.2.1 p q jk).2) pl mt yr lg ha x1 x2 tp.2 (hFs h) fb.2.2.2 yr.2.2.2.1 (zFaultP z) h.2.2.2.1 h.2.2.2.2.1 h.2.2.2.2.2 h.2.1 yr.2.2.2.2 h.1 lg tr bg en tkk op wn jn cq cm fk kd mk le ke tpm t og nm mf hm io rh mn wt jt (mLearn mf fb.2.2.2 (xs (i + 2)) nw) pl_ my ai L tl ch) ?_
          show Aw X (KS b mo a) (EW (CxD X) b mo a h fb tp z tk (hV fb jv (xs (i + 2))) ((jWhy x1 (hV fb jv (xs (i + 2))) h.2.2.2.2.1 p q jk).2) pl mt yr lg ha x1 x2 tp.2 (hFs h) fb.2.2.2 yr.2.2.2.1 (zFaultP z) h.2.2.2.1 h.2.2.2.2.1 h.2.2.2.2.2 h.2.1 yr.2.2.2.2 h.1 lg tr bg en tkk op wn jn cq cm fk kd mk le ke tpm t og nm mf hm io rh mn wt jt (mLearn mf fb.2.2.2 (xs (i + 2)) nw) pl_ my ai L tl ch) 447 [(0, .ref sc), (1, .ref (b 0)), (2, .ref mo), (3, .int (nI i))] [.int (nI (mWhy t (mLearn mf fb.2.2.2 (xs (i + 2)) nw) h.2.2.2.2.1 p q 0)), .int (nI (jWhy x1 (hV fb jv (xs (i + 2))) h.2.2.2.2.1 p q jk).1)]
          refine r_icmp_eq (tgt := 735) (n := 450) hX dL_law_447 (by decide) rfl (fun _ => ?_) (fun hne => absurd (by rw [why_same hT1 (view_same hFc (xs (i + 2)) jv nw) (by omega) (by omega)]) hne)
          exact kk b h fb tp z tk (hV fb jv (xs (i + 2))) ((jWhy x1 (hV fb jv (xs (i + 2))) h.2.2.2.2.1 p q jk).2) pl mt yr lg ha x1 x2 tp.2 (hFs h) fb.2.2.2 yr.2.2.2.1 (zFaultP z) h.2.2.2.1 h.2.2.2.2.1 h.2.2.2.2.2 h.2.1 yr.2.2.2.2 h.1 lg tr bg en tkk op wn jn cq cm fk kd mk le ke tpm t og nm mf hm io rh mn wt jt (mLearn mf fb.2.2.2 (xs (i + 2)) nw) pl_ my ai L tl ch rfl ⟨⟨rfl, rfl, rfl, rfl, rfl, rfl, rfl, rfl, rfl, rfl, rfl, rfl⟩, ⟨hTp, hFc, hT1, hT2⟩, ⟨hW1, hW2, hWz⟩, ⟨hPlI, hMt, hn⟩, ⟨hHa, hHm, hIo, hFn⟩, ⟨hMv, hMn⟩, (hDb.more (Nat.le_succ _)), ⟨oHa, oRh, hMy, oAi⟩, hLs, oTl, oCh, zHa, hBg⟩
  · skip
    by_cases s1 : (xs (i + 1)) = nI 1
    · by_cases hb : hDay (xs (i + 2)) = false ∨ hFam (hFs h) (xs (i + 3)) = false ∨ hFam (hFs h) (xs (i + 4)) = false
      · skip
        refine r_aload_n (n := 400) hX dL_law_399 rfl rfl 1 rfl ?_
        refine r_aload_n (n := 401) hX dL_law_400 rfl rfl 0 rfl ?_
        refine r_iload_n (n := 402) hX dL_law_401 rfl rfl 3 rfl ?_
        refine r_iconst (n := 403) hX 1 dL_law_402 rfl rfl ?_
        refine r_iadd (n := 404) hX dL_law_403 rfl ?_
        refine Aw.topi (nI (i + 1)) (nI_add _ _) ?_
        refine r_sld (n := 405) (i := i + 1) hX hsc (by omega) hL dL_law_404 rfl ?_
        refine Aw.topi (nI 1) s1 ?_
        refine r_aload_n (n := 406) hX dL_law_405 rfl rfl 0 rfl ?_
        refine r_iload_n (n := 407) hX dL_law_406 rfl rfl 3 rfl ?_
        refine r_iconst (n := 408) hX 2 dL_law_407 rfl rfl ?_
        refine r_iadd (n := 409) hX dL_law_408 rfl ?_
        refine Aw.topi (nI (i + 2)) (nI_add _ _) ?_
        refine r_sld (n := 410) (i := i + 2) hX hsc (by omega) hL dL_law_409 rfl ?_
        refine r_aload_n (n := 411) hX dL_law_410 rfl rfl 0 rfl ?_
        refine r_iload_n (n := 412) hX dL_law_411 rfl rfl 3 rfl ?_
        refine r_iconst (n := 413) hX 3 dL_law_412 rfl rfl ?_
        refine r_iadd (n := 414) hX dL_law_413 rfl ?_
        refine Aw.topi (nI (i + 3)) (nI_add _ _) ?_
        refine r_sld (n := 415) (i := i + 3) hX hsc (by omega) hL dL_law_414 rfl ?_
        refine r_aload_n (n := 416) hX dL_law_415 rfl rfl 0 rfl ?_
        refine r_iload_n (n := 417) hX dL_law_416 rfl rfl 3 rfl ?_
        refine r_iconst (n := 418) hX 4 dL_law_417 rfl rfl ?_
        refine r_iadd (n := 419) hX dL_law_418 rfl ?_
        refine Aw.topi (nI (i + 4)) (nI_add _ _) ?_
        refine r_sld (n := 420) (i := i + 4) hX hsc (by omega) hL dL_law_419 rfl ?_
        refine r_callV (n := 423) (av := [.int (nI 1), .int (xs (i + 2)), .int (xs (i + 3)), .int (xs (i + 4))]) hX (ct_why1N (CxL X) (CxD X) (b 0) (b 1) (b 5) (b 7) (b 19) (b 22) (b 37) (b 41) (b 45) (b 46) (b 53) h (nI 1) (xs (i + 2)) (xs (i + 3)) (xs (i + 4)) rfl hb) ml_L_54 cv_X10_why rfl (by decide) [0] rfl rfl (by decide) 0 rfl rfl rfl rfl rfl (Nat.le_of_ble_eq_true rfl) dL_law_420 rfl (fun r_ es_ h_ l_ => ?_)
        obtain ⟨rfl, rfl⟩ := h_
        refine Aw.esq (pw_2 : putAt (EW (CxD X) b mo a h fb tp z tk jv jk pl mt yr lg ha x1 x2 tp.2 (hFs h) fb.2.2.2 yr.2.2.2.1 (zFaultP z) h.2.2.2.1 h.2.2.2.2.1 h.2.2.2.2.2 h.2.1 yr.2.2.2.2 h.1 lg tr bg en tkk op wn jn cq cm fk kd mk le ke tpm t og nm mf hm io rh mn wt jt nw pil my ai L tl ch) [0] _ = EW (CxD X) b mo a h fb tp z tk jv jk pl mt yr lg ha x1 x2 tp.2 (hFs h) fb.2.2.2 yr.2.2.2.1 (zFaultP z) h.2.2.2.1 h.2.2.2.2.1 h.2.2.2.2.2 h.2.1 yr.2.2.2.2 h.1 lg tr bg en tkk op wn jn cq cm fk kd mk le ke tpm t og nm mf hm io rh mn wt jt nw pil my ai L tl ch) ?_
        show Aw X (KS b mo a) (EW (CxD X) b mo a h fb tp z tk jv jk pl mt yr lg ha x1 x2 tp.2 (hFs h) fb.2.2.2 yr.2.2.2.1 (zFaultP z) h.2.2.2.1 h.2.2.2.2.1 h.2.2.2.2.2 h.2.1 yr.2.2.2.2 h.1 lg tr bg en tkk op wn jn cq cm fk kd mk le ke tpm t og nm mf hm io rh mn wt jt nw pil my ai L tl ch) 423 [(0, .ref sc), (1, .ref (b 0)), (2, .ref mo), (3, .int (nI i))] [.int (-1)]
        refine r_aload_n (n := 424) hX dL_law_423 rfl rfl 2 rfl ?_
        refine r_aload_n (n := 425) hX dL_law_424 rfl rfl 0 rfl ?_
        refine r_iload_n (n := 426) hX dL_law_425 rfl rfl 3 rfl ?_
        refine r_iconst (n := 427) hX 1 dL_law_426 rfl rfl ?_
        refine r_iadd (n := 428) hX dL_law_427 rfl ?_
        refine Aw.topi (nI (i + 1)) (nI_add _ _) ?_
        refine r_sld (n := 429) (i := i + 1) hX hsc (by omega) hL dL_law_428 rfl ?_
        refine Aw.topi (nI 1) s1 ?_
        refine r_aload_n (n := 430) hX dL_law_429 rfl rfl 0 rfl ?_
        refine r_iload_n (n := 431) hX dL_law_430 rfl rfl 3 rfl ?_
        refine r_iconst (n := 432) hX 2 dL_law_431 rfl rfl ?_
        refine r_iadd (n := 433) hX dL_law_432 rfl ?_
        refine Aw.topi (nI (i + 2)) (nI_add _ _) ?_
        refine r_sld (n := 434) (i := i + 2) hX hsc (by omega) hL dL_law_433 rfl ?_
        refine r_aload_n (n := 435) hX dL_law_434 rfl rfl 0 rfl ?_
        refine r_iload_n (n := 436) hX dL_law_435 rfl rfl 3 rfl ?_
        refine r_iconst (n := 437) hX 3 dL_law_436 rfl rfl ?_
        refine r_iadd (n := 438) hX dL_law_437 rfl ?_
        refine Aw.topi (nI (i + 3)) (nI_add _ _) ?_
        refine r_sld (n := 439) (i := i + 3) hX hsc (by omega) hL dL_law_438 rfl ?_
        refine r_aload_n (n := 440) hX dL_law_439 rfl rfl 0 rfl ?_
        refine r_iload_n (n := 441) hX dL_law_440 rfl rfl 3 rfl ?_
        refine r_iconst (n := 442) hX 4 dL_law_441 rfl rfl ?_
        refine r_iadd (n := 443) hX dL_law_442 rfl ?_
        refine Aw.topi (nI (i + 4)) (nI_add _ _) ?_
        refine r_sld (n := 444) (i := i + 4) hX hsc (by omega) hL dL_law_443 rfl ?_
        refine r_callV (n := 447) (av := [.int (nI 1), .int (xs (i + 2)), .int (xs (i + 3)), .int (xs (i + 4))]) hX (ct_m_whyBad (CxL X) (CxD X) mo a tp.2 tr (hFs h) fb.2.2.2 yr.2.2.2.1 bg en tkk op wn jn cq cm fk (zFaultP z) h.2.2.2.1 h.2.2.2.2.1 h.2.2.2.2.2 h.2.1 kd mk le yr.2.2.2.2 h.1 ke (nI 1) (xs (i + 2)) (xs (i + 3)) (xs (i + 4)) (ask_no hn hb)) ml_L_58 cv_X11_why rfl (by decide) [60] rfl rfl (by decide) 60 rfl rfl rfl rfl rfl (Nat.le_of_ble_eq_true rfl) dL_law_444 rfl (fun r_ es_ h_ l_ => ?_)
        obtain ⟨rfl, rfl⟩ := h_
        refine Aw.esq (pw_3 : putAt (EW (CxD X) b mo a h fb tp z tk jv jk pl mt yr lg ha x1 x2 tp.2 (hFs h) fb.2.2.2 yr.2.2.2.1 (zFaultP z) h.2.2.2.1 h.2.2.2.2.1 h.2.2.2.2.2 h.2.1 yr.2.2.2.2 h.1 lg tr bg en tkk op wn jn cq cm fk kd mk le ke tpm t og nm mf hm io rh mn wt jt nw pil my ai L tl ch) [60] _ = EW (CxD X) b mo a h fb tp z tk jv jk pl mt yr lg ha x1 x2 tp.2 (hFs h) fb.2.2.2 yr.2.2.2.1 (zFaultP z) h.2.2.2.1 h.2.2.2.2.1 h.2.2.2.2.2 h.2.1 yr.2.2.2.2 h.1 lg tr bg en tkk op wn jn cq cm fk kd mk le ke tpm t og nm mf hm io rh mn wt jt nw pil my ai L tl ch) ?_
        show Aw X (KS b mo a) (EW (CxD X) b mo a h fb tp z tk jv jk pl mt yr lg ha x1 x2 tp.2 (hFs h) fb.2.2.2 yr.2.2.2.1 (zFaultP z) h.2.2.2.1 h.2.2.2.2.1 h.2.2.2.2.2 h.2.1 yr.2.2.2.2 h.1 lg tr bg en tkk op wn jn cq cm fk kd mk le ke tpm t og nm mf hm io rh mn wt jt nw pil my ai L tl ch) 447 [(0, .ref sc), (1, .ref (b 0)), (2, .ref mo), (3, .int (nI i))] [.int (-1), .int (-1)]
        refine r_icmp_eq (tgt := 735) (n := 450) hX dL_law_447 (by decide) rfl (fun _ => ?_) (fun hne => absurd (rfl) hne)
        exact kk b h fb tp z tk jv jk pl mt yr lg ha x1 x2 tp.2 (hFs h) fb.2.2.2 yr.2.2.2.1 (zFaultP z) h.2.2.2.1 h.2.2.2.2.1 h.2.2.2.2.2 h.2.1 yr.2.2.2.2 h.1 lg tr bg en tkk op wn jn cq cm fk kd mk le ke tpm t og nm mf hm io rh mn wt jt nw pil my ai L tl ch rfl ⟨⟨rfl, rfl, rfl, rfl, rfl, rfl, rfl, rfl, rfl, rfl, rfl, rfl⟩, ⟨hTp, hFc, hT1, hT2⟩, ⟨hW1, hW2, hWz⟩, ⟨hPlI, hMt, hn⟩, ⟨hHa, hHm, hIo, hFn⟩, ⟨hMv, hMn⟩, (hDb.more (Nat.le_succ _)), ⟨oHa, oRh, hMy, oAi⟩, hLs, oTl, oCh, zHa, hBg⟩
      · rcases fam_ix hn (xs (i + 3)) with hz | ⟨p, hp_, hpw⟩
        · exact absurd (Or.inr (Or.inl hz)) hb
        · rcases fam_ix hn (xs (i + 4)) with hz | ⟨q, hq_, hqw⟩
          · exact absurd (Or.inr (Or.inr hz)) hb
          · have hd : hDay (xs (i + 2)) = true := by
              cases e : hDay (xs (i + 2)) with
              | true => rfl
              | false => exact absurd (Or.inl e) hb
            refine r_aload_n (n := 400) hX dL_law_399 rfl rfl 1 rfl ?_
            refine r_aload_n (n := 401) hX dL_law_400 rfl rfl 0 rfl ?_
            refine r_iload_n (n := 402) hX dL_law_401 rfl rfl 3 rfl ?_
            refine r_iconst (n := 403) hX 1 dL_law_402 rfl rfl ?_
            refine r_iadd (n := 404) hX dL_law_403 rfl ?_
            refine Aw.topi (nI (i + 1)) (nI_add _ _) ?_
            refine r_sld (n := 405) (i := i + 1) hX hsc (by omega) hL dL_law_404 rfl ?_
            refine Aw.topi (nI 1) s1 ?_
            refine r_aload_n (n := 406) hX dL_law_405 rfl rfl 0 rfl ?_
            refine r_iload_n (n := 407) hX dL_law_406 rfl rfl 3 rfl ?_
            refine r_iconst (n := 408) hX 2 dL_law_407 rfl rfl ?_
            refine r_iadd (n := 409) hX dL_law_408 rfl ?_
            refine Aw.topi (nI (i + 2)) (nI_add _ _) ?_
            refine r_sld (n := 410) (i := i + 2) hX hsc (by omega) hL dL_law_409 rfl ?_
            refine r_aload_n (n := 411) hX dL_law_410 rfl rfl 0 rfl ?_
            refine r_iload_n (n := 412) hX dL_law_411 rfl rfl 3 rfl ?_
            refine r_iconst (n := 413) hX 3 dL_law_412 rfl rfl ?_
            refine r_iadd (n := 414) hX dL_law_413 rfl ?_
            refine Aw.topi (nI (i + 3)) (nI_add _ _) ?_
            refine r_sld (n := 415) (i := i + 3) hX hsc (by omega) hL dL_law_414 rfl ?_
            refine Aw.topi (nI p) hpw ?_
            refine r_aload_n (n := 416) hX dL_law_415 rfl rfl 0 rfl ?_
            refine r_iload_n (n := 417) hX dL_law_416 rfl rfl 3 rfl ?_
            refine r_iconst (n := 418) hX 4 dL_law_417 rfl rfl ?_
            refine r_iadd (n := 419) hX dL_law_418 rfl ?_
            refine Aw.topi (nI (i + 4)) (nI_add _ _) ?_
            refine r_sld (n := 420) (i := i + 4) hX hsc (by omega) hL dL_law_419 rfl ?_
            refine Aw.topi (nI q) hqw ?_
            refine r_callV (n := 423) (av := [.int (nI 1), .int (xs (i + 2)), .int (nI p), .int (nI q)]) hX (ct_why1 (CxL X) (CxD X) (b 0) (b 1) (b 5) (b 7) (b 19) (b 22) (b 37) (b 41) (b 45) (b 46) (b 53) (b 2) (b 3) (b 4) (b 20) (b 21) (b 54) (b 55) (b 56) (b 57) (b 58) (b 59) h fb x2 jv jk (nI 1) (xs (i + 2)) p q hn rfl hd hp_ hq_ hFc.2.1 (txOk_of hW2 hT2.2.1.1)) ml_L_54 cv_X10_why rfl (by decide) [0, 1, 2, 3, 4, 19, 20, 21, 53, 54, 55, 56, 57, 58, 59] rfl rfl (by decide) 0 rfl rfl rfl rfl rfl (Nat.le_of_ble_eq_true rfl) dL_law_420 rfl (fun r_ es_ h_ l_ => ?_)
            obtain ⟨rfl, rfl⟩ := h_
            refine Aw.esq (pw_18 : putAt (EW (CxD X) b mo a h fb tp z tk jv jk pl mt yr lg ha x1 x2 tp.2 (hFs h) fb.2.2.2 yr.2.2.2.1 (zFaultP z) h.2.2.2.1 h.2.2.2.2.1 h.2.2.2.2.2 h.2.1 yr.2.2.2.2 h.1 lg tr bg en tkk op wn jn cq cm fk kd mk le ke tpm t og nm mf hm io rh mn wt jt nw pil my ai L tl ch) [0, 1, 2, 3, 4, 19, 20, 21, 53, 54, 55, 56, 57, 58, 59] _ = EW (CxD X) b mo a h fb tp z tk (hV fb jv (xs (i + 2))) ((jWhy x2 (hV fb jv (xs (i + 2))) h.2.2.2.2.1 p q jk).2) pl mt yr lg ha x1 x2 tp.2 (hFs h) fb.2.2.2 yr.2.2.2.1 (zFaultP z) h.2.2.2.1 h.2.2.2.2.1 h.2.2.2.2.2 h.2.1 yr.2.2.2.2 h.1 lg tr bg en tkk op wn jn cq cm fk kd mk le ke tpm t og nm mf hm io rh mn wt jt nw pil my ai L tl ch) ?_
            show Aw X (KS b mo a) (EW (CxD X) b mo a h fb tp z tk (hV fb jv (xs (i + 2))) ((jWhy x2 (hV fb jv (xs (i + 2))) h.2.2.2.2.1 p q jk).2) pl mt yr lg ha x1 x2 tp.2 (hFs h) fb.2.2.2 yr.2.2.2.1 (zFaultP z) h.2.2.2.1 h.2.2.2.2.1 h.2.2.2.2.2 h.2.1 yr.2.2.2.2 h.1 lg tr bg en tkk op wn jn cq cm fk kd mk le ke tpm t og nm mf hm io rh mn wt jt nw pil my ai L tl ch) 423 [(0, .ref sc), (1, .ref (b 0)), (2, .ref mo), (3, .int (nI i))] [.int (nI (jWhy x2 (hV fb jv (xs (i + 2))) h.2.2.2.2.1 p q jk).1)]
            refine r_aload_n (n := 424) hX dL_law_423 rfl rfl 2 rfl ?_
            refine r_aload_n (n := 425) hX dL_law_424 rfl rfl 0 rfl ?_
            refine r_iload_n (n := 426) hX dL_law_425 rfl rfl 3 rfl ?_
            refine r_iconst (n := 427) hX 1 dL_law_426 rfl rfl ?_
            refine r_iadd (n := 428) hX dL_law_427 rfl ?_
            refine Aw.topi (nI (i + 1)) (nI_add _ _) ?_
            refine r_sld (n := 429) (i := i + 1) hX hsc (by omega) hL dL_law_428 rfl ?_
            refine Aw.topi (nI 1) s1 ?_
            refine r_aload_n (n := 430) hX dL_law_429 rfl rfl 0 rfl ?_
            refine r_iload_n (n := 431) hX dL_law_430 rfl rfl 3 rfl ?_
            refine r_iconst (n := 432) hX 2 dL_law_431 rfl rfl ?_
            refine r_iadd (n := 433) hX dL_law_432 rfl ?_
            refine Aw.topi (nI (i + 2)) (nI_add _ _) ?_
            refine r_sld (n := 434) (i := i + 2) hX hsc (by omega) hL dL_law_433 rfl ?_
            refine r_aload_n (n := 435) hX dL_law_434 rfl rfl 0 rfl ?_
            refine r_iload_n (n := 436) hX dL_law_435 rfl rfl 3 rfl ?_
            refine r_iconst (n := 437) hX 3 dL_law_436 rfl rfl ?_
            refine r_iadd (n := 438) hX dL_law_437 rfl ?_
            refine Aw.topi (nI (i + 3)) (nI_add _ _) ?_
            refine r_sld (n := 439) (i := i + 3) hX hsc (by omega) hL dL_law_438 rfl ?_
            refine Aw.topi (nI p) hpw ?_
            refine r_aload_n (n := 440) hX dL_law_439 rfl rfl 0 rfl ?_
            refine r_iload_n (n := 441) hX dL_law_440 rfl rfl 3 rfl ?_
            refine r_iconst (n := 442) hX 4 dL_law_441 rfl rfl ?_
            refine r_iadd (n := 443) hX dL_law_442 rfl ?_
            refine Aw.topi (nI (i + 4)) (nI_add _ _) ?_
            refine r_sld (n := 444) (i := i + 4) hX hsc (by omega) hL dL_law_443 rfl ?_
            refine Aw.topi (nI q) hqw ?_
            refine r_callV (n := 447) (av := [.int (nI 1), .int (xs (i + 2)), .int (nI p), .int (nI q)]) hX (ct_m_why (CxL X) (CxD X) mo a tp.2 tr (hFs h) fb.2.2.2 yr.2.2.2.1 bg en tkk op wn jn cq cm fk (zFaultP z) h.2.2.2.1 h.2.2.2.2.1 h.2.2.2.2.2 h.2.1 kd mk le yr.2.2.2.2 h.1 ke t mf nw pil 1 p q (xs (i + 2)) hn hFc.ok (by decide) (mtx_of hT2) hd hp_ hq_) ml_L_58 cv_X11_why rfl (by decide) [60, 62, 63, 65, 66, 67, 68, 69, 70, 85, 86, 72, 73, 74, 75] rfl rfl (by decide) 60 rfl rfl rfl rfl rfl (Nat.le_of_ble_eq_true rfl) dL_law_444 rfl (fun r_ es_ h_ l_ => ?_)
            obtain ⟨rfl, pl_, rfl⟩ := h_
            refine Aw.esq (pw_17 : putAt (EW (CxD X) b mo a h fb tp z tk (hV fb jv (xs (i + 2))) ((jWhy x2 (hV fb jv (xs (i + 2))) h.2.2.2.2.1 p q jk).2) pl mt yr lg ha x1 x2 tp.2 (hFs h) fb.2.2.2 yr.2.2.2.1 (zFaultP z) h.2.2.2.1 h.2.2.2.2.1 h.2.2.2.2.2 h.2.1 yr.2.2.2.2 h.1 lg tr bg en tkk op wn jn cq cm fk kd mk le ke tpm t og nm mf hm io rh mn wt jt nw pil my ai L tl ch) [60, 62, 63, 65, 66, 67, 68, 69, 70, 85, 86, 72, 73, 74, 75] _ = EW (CxD X) b mo a h fb tp z tk (hV fb jv (xs (i + 2))) ((jWhy x2 (hV fb jv (xs (i + 2))) h.2.2.2.2.1 p q jk).2) pl mt yr lg ha x1 x2 tp.2 (hFs h) fb.2.2.2 yr.2.2.2.1 (zFaultP z) h.2.2.2.1 h.2.2.2.2.1 h.2.2.2.2.2 h.2.1 yr.2.2.2.2 h.1 lg tr bg en tkk op wn jn cq cm fk kd mk le ke tpm t og nm mf hm io rh mn wt jt (mLearn mf fb.2.2.2 (xs (i + 2)) nw) pl_ my ai L tl ch) ?_
            show Aw X (KS b mo a) (EW (CxD X) b mo a h fb tp z tk (hV fb jv (xs (i + 2))) ((jWhy x2 (hV fb jv (xs (i + 2))) h.2.2.2.2.1 p q jk).2) pl mt yr lg ha x1 x2 tp.2 (hFs h) fb.2.2.2 yr.2.2.2.1 (zFaultP z) h.2.2.2.1 h.2.2.2.2.1 h.2.2.2.2.2 h.2.1 yr.2.2.2.2 h.1 lg tr bg en tkk op wn jn cq cm fk kd mk le ke tpm t og nm mf hm io rh mn wt jt (mLearn mf fb.2.2.2 (xs (i + 2)) nw) pl_ my ai L tl ch) 447 [(0, .ref sc), (1, .ref (b 0)), (2, .ref mo), (3, .int (nI i))] [.int (nI (mWhy t (mLearn mf fb.2.2.2 (xs (i + 2)) nw) h.2.2.2.2.1 p q 1)), .int (nI (jWhy x2 (hV fb jv (xs (i + 2))) h.2.2.2.2.1 p q jk).1)]
            refine r_icmp_eq (tgt := 735) (n := 450) hX dL_law_447 (by decide) rfl (fun _ => ?_) (fun hne => absurd (by rw [why_same hT2 (view_same hFc (xs (i + 2)) jv nw) (by omega) (by omega)]) hne)
            exact kk b h fb tp z tk (hV fb jv (xs (i + 2))) ((jWhy x2 (hV fb jv (xs (i + 2))) h.2.2.2.2.1 p q jk).2) pl mt yr lg ha x1 x2 tp.2 (hFs h) fb.2.2.2 yr.2.2.2.1 (zFaultP z) h.2.2.2.1 h.2.2.2.2.1 h.2.2.2.2.2 h.2.1 yr.2.2.2.2 h.1 lg tr bg en tkk op wn jn cq cm fk kd mk le ke tpm t og nm mf hm io rh mn wt jt (mLearn mf fb.2.2.2 (xs (i + 2)) nw) pl_ my ai L tl ch rfl ⟨⟨rfl, rfl, rfl, rfl, rfl, rfl, rfl, rfl, rfl, rfl, rfl, rfl⟩, ⟨hTp, hFc, hT1, hT2⟩, ⟨hW1, hW2, hWz⟩, ⟨hPlI, hMt, hn⟩, ⟨hHa, hHm, hIo, hFn⟩, ⟨hMv, hMn⟩, (hDb.more (Nat.le_succ _)), ⟨oHa, oRh, hMy, oAi⟩, hLs, oTl, oCh, zHa, hBg⟩
    · have so := sl_out s0 s1
      refine r_aload_n (n := 400) hX dL_law_399 rfl rfl 1 rfl ?_
      refine r_aload_n (n := 401) hX dL_law_400 rfl rfl 0 rfl ?_
      refine r_iload_n (n := 402) hX dL_law_401 rfl rfl 3 rfl ?_
      refine r_iconst (n := 403) hX 1 dL_law_402 rfl rfl ?_
      refine r_iadd (n := 404) hX dL_law_403 rfl ?_
      refine Aw.topi (nI (i + 1)) (nI_add _ _) ?_
      refine r_sld (n := 405) (i := i + 1) hX hsc (by omega) hL dL_law_404 rfl ?_
      refine r_aload_n (n := 406) hX dL_law_405 rfl rfl 0 rfl ?_
      refine r_iload_n (n := 407) hX dL_law_406 rfl rfl 3 rfl ?_
      refine r_iconst (n := 408) hX 2 dL_law_407 rfl rfl ?_
      refine r_iadd (n := 409) hX dL_law_408 rfl ?_
      refine Aw.topi (nI (i + 2)) (nI_add _ _) ?_
      refine r_sld (n := 410) (i := i + 2) hX hsc (by omega) hL dL_law_409 rfl ?_
      refine r_aload_n (n := 411) hX dL_law_410 rfl rfl 0 rfl ?_
      refine r_iload_n (n := 412) hX dL_law_411 rfl rfl 3 rfl ?_
      refine r_iconst (n := 413) hX 3 dL_law_412 rfl rfl ?_
      refine r_iadd (n := 414) hX dL_law_413 rfl ?_
      refine Aw.topi (nI (i + 3)) (nI_add _ _) ?_
      refine r_sld (n := 415) (i := i + 3) hX hsc (by omega) hL dL_law_414 rfl ?_
      refine r_aload_n (n := 416) hX dL_law_415 rfl rfl 0 rfl ?_
      refine r_iload_n (n := 417) hX dL_law_416 rfl rfl 3 rfl ?_
      refine r_iconst (n := 418) hX 4 dL_law_417 rfl rfl ?_
      refine r_iadd (n := 419) hX dL_law_418 rfl ?_
      refine Aw.topi (nI (i + 4)) (nI_add _ _) ?_
      refine r_sld (n := 420) (i := i + 4) hX hsc (by omega) hL dL_law_419 rfl ?_
      refine r_callV (n := 423) (av := [.int (xs (i + 1)), .int (xs (i + 2)), .int (xs (i + 3)), .int (xs (i + 4))]) hX (ct_whyNN (CxL X) (CxD X) (b 0) (b 1) (b 5) (b 7) (b 19) (b 22) (b 37) (b 41) (b 45) (b 46) (b 53) h (xs (i + 1)) (xs (i + 2)) (xs (i + 3)) (xs (i + 4)) s0 s1) ml_L_54 cv_X10_why rfl (by decide) [0] rfl rfl (by decide) 0 rfl rfl rfl rfl rfl (Nat.le_of_ble_eq_true rfl) dL_law_420 rfl (fun r_ es_ h_ l_ => ?_)
      obtain ⟨rfl, rfl⟩ := h_
      refine Aw.esq (pw_2 : putAt (EW (CxD X) b mo a h fb tp z tk jv jk pl mt yr lg ha x1 x2 tp.2 (hFs h) fb.2.2.2 yr.2.2.2.1 (zFaultP z) h.2.2.2.1 h.2.2.2.2.1 h.2.2.2.2.2 h.2.1 yr.2.2.2.2 h.1 lg tr bg en tkk op wn jn cq cm fk kd mk le ke tpm t og nm mf hm io rh mn wt jt nw pil my ai L tl ch) [0] _ = EW (CxD X) b mo a h fb tp z tk jv jk pl mt yr lg ha x1 x2 tp.2 (hFs h) fb.2.2.2 yr.2.2.2.1 (zFaultP z) h.2.2.2.1 h.2.2.2.2.1 h.2.2.2.2.2 h.2.1 yr.2.2.2.2 h.1 lg tr bg en tkk op wn jn cq cm fk kd mk le ke tpm t og nm mf hm io rh mn wt jt nw pil my ai L tl ch) ?_
      show Aw X (KS b mo a) (EW (CxD X) b mo a h fb tp z tk jv jk pl mt yr lg ha x1 x2 tp.2 (hFs h) fb.2.2.2 yr.2.2.2.1 (zFaultP z) h.2.2.2.1 h.2.2.2.2.1 h.2.2.2.2.2 h.2.1 yr.2.2.2.2 h.1 lg tr bg en tkk op wn jn cq cm fk kd mk le ke tpm t og nm mf hm io rh mn wt jt nw pil my ai L tl ch) 423 [(0, .ref sc), (1, .ref (b 0)), (2, .ref mo), (3, .int (nI i))] [.int (-1)]
      refine r_aload_n (n := 424) hX dL_law_423 rfl rfl 2 rfl ?_
      refine r_aload_n (n := 425) hX dL_law_424 rfl rfl 0 rfl ?_
      refine r_iload_n (n := 426) hX dL_law_425 rfl rfl 3 rfl ?_
      refine r_iconst (n := 427) hX 1 dL_law_426 rfl rfl ?_
      refine r_iadd (n := 428) hX dL_law_427 rfl ?_
      refine Aw.topi (nI (i + 1)) (nI_add _ _) ?_
      refine r_sld (n := 429) (i := i + 1) hX hsc (by omega) hL dL_law_428 rfl ?_
      refine r_aload_n (n := 430) hX dL_law_429 rfl rfl 0 rfl ?_
      refine r_iload_n (n := 431) hX dL_law_430 rfl rfl 3 rfl ?_
      refine r_iconst (n := 432) hX 2 dL_law_431 rfl rfl ?_
      refine r_iadd (n := 433) hX dL_law_432 rfl ?_
      refine Aw.topi (nI (i + 2)) (nI_add _ _) ?_
      refine r_sld (n := 434) (i := i + 2) hX hsc (by omega) hL dL_law_433 rfl ?_
      refine r_aload_n (n := 435) hX dL_law_434 rfl rfl 0 rfl ?_
      refine r_iload_n (n := 436) hX dL_law_435 rfl rfl 3 rfl ?_
      refine r_iconst (n := 437) hX 3 dL_law_436 rfl rfl ?_
      refine r_iadd (n := 438) hX dL_law_437 rfl ?_
      refine Aw.topi (nI (i + 3)) (nI_add _ _) ?_
      refine r_sld (n := 439) (i := i + 3) hX hsc (by omega) hL dL_law_438 rfl ?_
      refine r_aload_n (n := 440) hX dL_law_439 rfl rfl 0 rfl ?_
      refine r_iload_n (n := 441) hX dL_law_440 rfl rfl 3 rfl ?_
      refine r_iconst (n := 442) hX 4 dL_law_441 rfl rfl ?_
      refine r_iadd (n := 443) hX dL_law_442 rfl ?_
      refine Aw.topi (nI (i + 4)) (nI_add _ _) ?_
      refine r_sld (n := 444) (i := i + 4) hX hsc (by omega) hL dL_law_443 rfl ?_
      refine r_callV (n := 447) (av := [.int (xs (i + 1)), .int (xs (i + 2)), .int (xs (i + 3)), .int (xs (i + 4))]) hX (ct_m_whyBad (CxL X) (CxD X) mo a tp.2 tr (hFs h) fb.2.2.2 yr.2.2.2.1 bg en tkk op wn jn cq cm fk (zFaultP z) h.2.2.2.1 h.2.2.2.2.1 h.2.2.2.2.2 h.2.1 kd mk le yr.2.2.2.2 h.1 ke (xs (i + 1)) (xs (i + 2)) (xs (i + 3)) (xs (i + 4)) (ask_nn so)) ml_L_58 cv_X11_why rfl (by decide) [60] rfl rfl (by decide) 60 rfl rfl rfl rfl rfl (Nat.le_of_ble_eq_true rfl) dL_law_444 rfl (fun r_ es_ h_ l_ => ?_)
      obtain ⟨rfl, rfl⟩ := h_
      refine Aw.esq (pw_3 : putAt (EW (CxD X) b mo a h fb tp z tk jv jk pl mt yr lg ha x1 x2 tp.2 (hFs h) fb.2.2.2 yr.2.2.2.1 (zFaultP z) h.2.2.2.1 h.2.2.2.2.1 h.2.2.2.2.2 h.2.1 yr.2.2.2.2 h.1 lg tr bg en tkk op wn jn cq cm fk kd mk le ke tpm t og nm mf hm io rh mn wt jt nw pil my ai L tl ch) [60] _ = EW (CxD X) b mo a h fb tp z tk jv jk pl mt yr lg ha x1 x2 tp.2 (hFs h) fb.2.2.2 yr.2.2.2.1 (zFaultP z) h.2.2.2.1 h.2.2.2.2.1 h.2.2.2.2.2 h.2.1 yr.2.2.2.2 h.1 lg tr bg en tkk op wn jn cq cm fk kd mk le ke tpm t og nm mf hm io rh mn wt jt nw pil my ai L tl ch) ?_
      show Aw X (KS b mo a) (EW (CxD X) b mo a h fb tp z tk jv jk pl mt yr lg ha x1 x2 tp.2 (hFs h) fb.2.2.2 yr.2.2.2.1 (zFaultP z) h.2.2.2.1 h.2.2.2.2.1 h.2.2.2.2.2 h.2.1 yr.2.2.2.2 h.1 lg tr bg en tkk op wn jn cq cm fk kd mk le ke tpm t og nm mf hm io rh mn wt jt nw pil my ai L tl ch) 447 [(0, .ref sc), (1, .ref (b 0)), (2, .ref mo), (3, .int (nI i))] [.int (-1), .int (-1)]
      refine r_icmp_eq (tgt := 735) (n := 450) hX dL_law_447 (by decide) rfl (fun _ => ?_) (fun hne => absurd (rfl) hne)
      exact kk b h fb tp z tk jv jk pl mt yr lg ha x1 x2 tp.2 (hFs h) fb.2.2.2 yr.2.2.2.1 (zFaultP z) h.2.2.2.1 h.2.2.2.2.1 h.2.2.2.2.2 h.2.1 yr.2.2.2.2 h.1 lg tr bg en tkk op wn jn cq cm fk kd mk le ke tpm t og nm mf hm io rh mn wt jt nw pil my ai L tl ch rfl ⟨⟨rfl, rfl, rfl, rfl, rfl, rfl, rfl, rfl, rfl, rfl, rfl, rfl⟩, ⟨hTp, hFc, hT1, hT2⟩, ⟨hW1, hW2, hWz⟩, ⟨hPlI, hMt, hn⟩, ⟨hHa, hHm, hIo, hFn⟩, ⟨hMv, hMn⟩, (hDb.more (Nat.le_succ _)), ⟨oHa, oRh, hMy, oAi⟩, hLs, oTl, oCh, zHa, hBg⟩
set_option maxHeartbeats 4000000 in
set_option maxRecDepth 100000 in
theorem law_cost {X : Cx} {b : Nat → Nat} {mo : Nat} {a : Nat → Nat} {sc Ln i N : Nat} {xs : Nat → Int32} (hX : Ok X cL_law 4 RL 36) (hsc : Sc X sc Ln xs) (hL : Ln ≤ 3072) (hi : i + 6 ≤ Ln) (hN : N < 1000000) (kk : ∀ (b' : Nat → Nat) (h : HS) (fb : FB) (tp : TP) (z : PZ) (tk : TK) (jv : Nat → Int32) (jk : Nat → Int32) (pl : PL) (mt : MT) (yr : YR) (lg : LG) (ha : Nat → Option Nat) (x1 : TX) (x2 : TX) (tn : Nat) (fm : Nat) (fn : Nat) (mv : Nat) (fp : Int32) (ck : Int32) (te : Int32) (yn : Int32) (rc : Int32) (hp : Bool) (ir : Bool) (lgm : LG) (tr : Nat) (bg : Nat) (en : Nat) (tkk : Nat) (op : Nat) (wn : Nat) (jn : Nat) (cq : Nat) (cm : Nat) (fk : Int32) (kd : Int32) (mk : Int32) (le : Int64) (ke : Bool) (tpm : Nat → Int32) (t : MR) (og : Nat → Nat) (nm : Nat → Int64) (mf : MF) (hm : Nat → Option Nat) (io : Nat → Bool) (rh : Nat → Option Nat) (mn : Nat → Nat) (wt : Nat → Int32) (jt : Nat → Int32) (nw : Nat → Int32) (pil : Nat → Int32) (my : MY) (ai : Nat → Option Nat) (L : Nat → Nat) (tl : Nat → Option Nat) (ch : Nat → Option Nat), b' 0 = b 0 → SR (N + 1) h fb tp z tk jv jk pl mt yr lg ha x1 x2 tn fm fn mv fp ck te yn rc hp ir lgm tr bg en tkk op wn jn cq cm fk kd mk le ke tpm t og nm mf hm io rh mn wt jt nw pil my ai L tl ch → Aw X (KS b' mo a) (EW (CxD X) b' mo a h fb tp z tk jv jk pl mt yr lg ha x1 x2 tn fm fn mv fp ck te yn rc hp ir lgm tr bg en tkk op wn jn cq cm fk kd mk le ke tpm t og nm mf hm io rh mn wt jt nw pil my ai L tl ch) 735 [(0, .ref sc), (1, .ref (b 0)), (2, .ref mo), (3, .int (nI i))] []) (h : HS) (fb : FB) (tp : TP) (z : PZ) (tk : TK) (jv : Nat → Int32) (jk : Nat → Int32) (pl : PL) (mt : MT) (yr : YR) (lg : LG) (ha : Nat → Option Nat) (x1 : TX) (x2 : TX) (tn : Nat) (fm : Nat) (fn : Nat) (mv : Nat) (fp : Int32) (ck : Int32) (te : Int32) (yn : Int32) (rc : Int32) (hp : Bool) (ir : Bool) (lgm : LG) (tr : Nat) (bg : Nat) (en : Nat) (tkk : Nat) (op : Nat) (wn : Nat) (jn : Nat) (cq : Nat) (cm : Nat) (fk : Int32) (kd : Int32) (mk : Int32) (le : Int64) (ke : Bool) (tpm : Nat → Int32) (t : MR) (og : Nat → Nat) (nm : Nat → Int64) (mf : MF) (hm : Nat → Option Nat) (io : Nat → Bool) (rh : Nat → Option Nat) (mn : Nat → Nat) (wt : Nat → Int32) (jt : Nat → Int32) (nw : Nat → Int32) (pil : Nat → Int32) (my : MY) (ai : Nat → Option Nat) (L : Nat → Nat) (tl : Nat → Option Nat) (ch : Nat → Option Nat) (hR : SR N h fb tp z tk jv jk pl mt yr lg ha x1 x2 tn fm fn mv fp ck te yn rc hp ir lgm tr bg en tkk op wn jn cq cm fk kd mk le ke tpm t og nm mf hm io rh mn wt jt nw pil my ai L tl ch) : Aw X (KS b mo a) (EW (CxD X) b mo a h fb tp z tk jv jk pl mt yr lg ha x1 x2 tn fm fn mv fp ck te yn rc hp ir lgm tr bg en tkk op wn jn cq cm fk kd mk le ke tpm t og nm mf hm io rh mn wt jt nw pil my ai L tl ch) 452 [(0, .ref sc), (1, .ref (b 0)), (2, .ref mo), (3, .int (nI i))] [] := by
  obtain ⟨⟨rfl, rfl, rfl, rfl, rfl, rfl, rfl, rfl, rfl, rfl, rfl, rfl⟩, ⟨hTp, hFc, hT1, hT2⟩, ⟨hW1, hW2, hWz⟩, ⟨hPlI, hMt, hn⟩, ⟨hHa, hHm, hIo, hFn⟩, ⟨hMv, hMn⟩, hDb, ⟨oHa, oRh, hMy, oAi⟩, hLs, oTl, oCh, zHa, hBg⟩ := hR
  by_cases s0 : (xs (i + 1)) = nI 0
  · by_cases hb : hDay (xs (i + 2)) = false ∨ hFam (hFs h) (xs (i + 3)) = false ∨ hFam (hFs h) (xs (i + 4)) = false
    · skip
      refine r_aload_n (n := 453) hX dL_law_452 rfl rfl 1 rfl ?_
      refine r_aload_n (n := 454) hX dL_law_453 rfl rfl 0 rfl ?_
      refine r_iload_n (n := 455) hX dL_law_454 rfl rfl 3 rfl ?_
      refine r_iconst (n := 456) hX 1 dL_law_455 rfl rfl ?_
      refine r_iadd (n := 457) hX dL_law_456 rfl ?_
      refine Aw.topi (nI (i + 1)) (nI_add _ _) ?_
      refine r_sld (n := 458) (i := i + 1) hX hsc (by omega) hL dL_law_457 rfl ?_
      refine Aw.topi (nI 0) s0 ?_
      refine r_aload_n (n := 459) hX dL_law_458 rfl rfl 0 rfl ?_
      refine r_iload_n (n := 460) hX dL_law_459 rfl rfl 3 rfl ?_
      refine r_iconst (n := 461) hX 2 dL_law_460 rfl rfl ?_
      refine r_iadd (n := 462) hX dL_law_461 rfl ?_
      refine Aw.topi (nI (i + 2)) (nI_add _ _) ?_
      refine r_sld (n := 463) (i := i + 2) hX hsc (by omega) hL dL_law_462 rfl ?_
      refine r_aload_n (n := 464) hX dL_law_463 rfl rfl 0 rfl ?_
      refine r_iload_n (n := 465) hX dL_law_464 rfl rfl 3 rfl ?_
      refine r_iconst (n := 466) hX 3 dL_law_465 rfl rfl ?_
      refine r_iadd (n := 467) hX dL_law_466 rfl ?_
      refine Aw.topi (nI (i + 3)) (nI_add _ _) ?_
      refine r_sld (n := 468) (i := i + 3) hX hsc (by omega) hL dL_law_467 rfl ?_
      refine r_aload_n (n := 469) hX dL_law_468 rfl rfl 0 rfl ?_
      refine r_iload_n (n := 470) hX dL_law_469 rfl rfl 3 rfl ?_
      refine r_iconst (n := 471) hX 4 dL_law_470 rfl rfl ?_
      refine r_iadd (n := 472) hX dL_law_471 rfl ?_
      refine Aw.topi (nI (i + 4)) (nI_add _ _) ?_
      refine r_sld (n := 473) (i := i + 4) hX hsc (by omega) hL dL_law_472 rfl ?_
      refine r_callV (n := 476) (av := [.int (nI 0), .int (xs (i + 2)), .int (xs (i + 3)), .int (xs (i + 4))]) hX (ct_cost0N (CxL X) (CxD X) (b 0) (b 1) (b 5) (b 7) (b 19) (b 22) (b 37) (b 41) (b 45) (b 46) (b 53) h (nI 0) (xs (i + 2)) (xs (i + 3)) (xs (i + 4)) rfl hb) ml_L_59 cv_X10_cost rfl (by decide) [0] rfl rfl (by decide) 0 rfl rfl rfl rfl rfl (Nat.le_of_ble_eq_true rfl) dL_law_473 rfl (fun r_ es_ h_ l_ => ?_)
      obtain ⟨rfl, rfl⟩ := h_
      refine Aw.esq (pw_2 : putAt (EW (CxD X) b mo a h fb tp z tk jv jk pl mt yr lg ha x1 x2 tp.2 (hFs h) fb.2.2.2 yr.2.2.2.1 (zFaultP z) h.2.2.2.1 h.2.2.2.2.1 h.2.2.2.2.2 h.2.1 yr.2.2.2.2 h.1 lg tr bg en tkk op wn jn cq cm fk kd mk le ke tpm t og nm mf hm io rh mn wt jt nw pil my ai L tl ch) [0] _ = EW (CxD X) b mo a h fb tp z tk jv jk pl mt yr lg ha x1 x2 tp.2 (hFs h) fb.2.2.2 yr.2.2.2.1 (zFaultP z) h.2.2.2.1 h.2.2.2.2.1 h.2.2.2.2.2 h.2.1 yr.2.2.2.2 h.1 lg tr bg en tkk op wn jn cq cm fk kd mk le ke tpm t og nm mf hm io rh mn wt jt nw pil my ai L tl ch) ?_
      show Aw X (KS b mo a) (EW (CxD X) b mo a h fb tp z tk jv jk pl mt yr lg ha x1 x2 tp.2 (hFs h) fb.2.2.2 yr.2.2.2.1 (zFaultP z) h.2.2.2.1 h.2.2.2.2.1 h.2.2.2.2.2 h.2.1 yr.2.2.2.2 h.1 lg tr bg en tkk op wn jn cq cm fk kd mk le ke tpm t og nm mf hm io rh mn wt jt nw pil my ai L tl ch) 476 [(0, .ref sc), (1, .ref (b 0)), (2, .ref mo), (3, .int (nI i))] [.int (-1)]
      refine r_aload_n (n := 477) hX dL_law_476 rfl rfl 2 rfl ?_
      refine r_aload_n (n := 478) hX dL_law_477 rfl rfl 0 rfl ?_
      refine r_iload_n (n := 479) hX dL_law_478 rfl rfl 3 rfl ?_
      refine r_iconst (n := 480) hX 1 dL_law_479 rfl rfl ?_
      refine r_iadd (n := 481) hX dL_law_480 rfl ?_
      refine Aw.topi (nI (i + 1)) (nI_add _ _) ?_
      refine r_sld (n := 482) (i := i + 1) hX hsc (by omega) hL dL_law_481 rfl ?_
      refine Aw.topi (nI 0) s0 ?_
      refine r_aload_n (n := 483) hX dL_law_482 rfl rfl 0 rfl ?_
      refine r_iload_n (n := 484) hX dL_law_483 rfl rfl 3 rfl ?_
      refine r_iconst (n := 485) hX 2 dL_law_484 rfl rfl ?_
      refine r_iadd (n := 486) hX dL_law_485 rfl ?_
      refine Aw.topi (nI (i + 2)) (nI_add _ _) ?_
      refine r_sld (n := 487) (i := i + 2) hX hsc (by omega) hL dL_law_486 rfl ?_
      refine r_aload_n (n := 488) hX dL_law_487 rfl rfl 0 rfl ?_
      refine r_iload_n (n := 489) hX dL_law_488 rfl rfl 3 rfl ?_
      refine r_iconst (n := 490) hX 3 dL_law_489 rfl rfl ?_
      refine r_iadd (n := 491) hX dL_law_490 rfl ?_
      refine Aw.topi (nI (i + 3)) (nI_add _ _) ?_
      refine r_sld (n := 492) (i := i + 3) hX hsc (by omega) hL dL_law_491 rfl ?_
      refine r_aload_n (n := 493) hX dL_law_492 rfl rfl 0 rfl ?_
      refine r_iload_n (n := 494) hX dL_law_493 rfl rfl 3 rfl ?_
      refine r_iconst (n := 495) hX 4 dL_law_494 rfl rfl ?_
      refine r_iadd (n := 496) hX dL_law_495 rfl ?_
      refine Aw.topi (nI (i + 4)) (nI_add _ _) ?_
      refine r_sld (n := 497) (i := i + 4) hX hsc (by omega) hL dL_law_496 rfl ?_
      refine r_callV (n := 500) (av := [.int (nI 0), .int (xs (i + 2)), .int (xs (i + 3)), .int (xs (i + 4))]) hX (ct_m_costBad (CxL X) (CxD X) mo a tp.2 tr (hFs h) fb.2.2.2 yr.2.2.2.1 bg en tkk op wn jn cq cm fk (zFaultP z) h.2.2.2.1 h.2.2.2.2.1 h.2.2.2.2.2 h.2.1 kd mk le yr.2.2.2.2 h.1 ke (nI 0) (xs (i + 2)) (xs (i + 3)) (xs (i + 4)) (ask_no hn hb)) ml_L_62 cv_X11_cost rfl (by decide) [60] rfl rfl (by decide) 60 rfl rfl rfl rfl rfl (Nat.le_of_ble_eq_true rfl) dL_law_497 rfl (fun r_ es_ h_ l_ => ?_)
      obtain ⟨rfl, rfl⟩ := h_
      refine Aw.esq (pw_3 : putAt (EW (CxD X) b mo a h fb tp z tk jv jk pl mt yr lg ha x1 x2 tp.2 (hFs h) fb.2.2.2 yr.2.2.2.1 (zFaultP z) h.2.2.2.1 h.2.2.2.2.1 h.2.2.2.2.2 h.2.1 yr.2.2.2.2 h.1 lg tr bg en tkk op wn jn cq cm fk kd mk le ke tpm t og nm mf hm io rh mn wt jt nw pil my ai L tl ch) [60] _ = EW (CxD X) b mo a h fb tp z tk jv jk pl mt yr lg ha x1 x2 tp.2 (hFs h) fb.2.2.2 yr.2.2.2.1 (zFaultP z) h.2.2.2.1 h.2.2.2.2.1 h.2.2.2.2.2 h.2.1 yr.2.2.2.2 h.1 lg tr bg en tkk op wn jn cq cm fk kd mk le ke tpm t og nm mf hm io rh mn wt jt nw pil my ai L tl ch) ?_
      show Aw X (KS b mo a) (EW (CxD X) b mo a h fb tp z tk jv jk pl mt yr lg ha x1 x2 tp.2 (hFs h) fb.2.2.2 yr.2.2.2.1 (zFaultP z) h.2.2.2.1 h.2.2.2.2.1 h.2.2.2.2.2 h.2.1 yr.2.2.2.2 h.1 lg tr bg en tkk op wn jn cq cm fk kd mk le ke tpm t og nm mf hm io rh mn wt jt nw pil my ai L tl ch) 500 [(0, .ref sc), (1, .ref (b 0)), (2, .ref mo), (3, .int (nI i))] [.int (-1), .int (-1)]
      refine r_icmp_eq (tgt := 735) (n := 503) hX dL_law_500 (by decide) rfl (fun _ => ?_) (fun hne => absurd (rfl) hne)
      exact kk b h fb tp z tk jv jk pl mt yr lg ha x1 x2 tp.2 (hFs h) fb.2.2.2 yr.2.2.2.1 (zFaultP z) h.2.2.2.1 h.2.2.2.2.1 h.2.2.2.2.2 h.2.1 yr.2.2.2.2 h.1 lg tr bg en tkk op wn jn cq cm fk kd mk le ke tpm t og nm mf hm io rh mn wt jt nw pil my ai L tl ch rfl ⟨⟨rfl, rfl, rfl, rfl, rfl, rfl, rfl, rfl, rfl, rfl, rfl, rfl⟩, ⟨hTp, hFc, hT1, hT2⟩, ⟨hW1, hW2, hWz⟩, ⟨hPlI, hMt, hn⟩, ⟨hHa, hHm, hIo, hFn⟩, ⟨hMv, hMn⟩, (hDb.more (Nat.le_succ _)), ⟨oHa, oRh, hMy, oAi⟩, hLs, oTl, oCh, zHa, hBg⟩
    · rcases fam_ix hn (xs (i + 3)) with hz | ⟨p, hp_, hpw⟩
      · exact absurd (Or.inr (Or.inl hz)) hb
      · rcases fam_ix hn (xs (i + 4)) with hz | ⟨q, hq_, hqw⟩
        · exact absurd (Or.inr (Or.inr hz)) hb
        · have hd : hDay (xs (i + 2)) = true := by
            cases e : hDay (xs (i + 2)) with
            | true => rfl
            | false => exact absurd (Or.inl e) hb
          refine r_aload_n (n := 453) hX dL_law_452 rfl rfl 1 rfl ?_
          refine r_aload_n (n := 454) hX dL_law_453 rfl rfl 0 rfl ?_
          refine r_iload_n (n := 455) hX dL_law_454 rfl rfl 3 rfl ?_
          refine r_iconst (n := 456) hX 1 dL_law_455 rfl rfl ?_
          refine r_iadd (n := 457) hX dL_law_456 rfl ?_
          refine Aw.topi (nI (i + 1)) (nI_add _ _) ?_
          refine r_sld (n := 458) (i := i + 1) hX hsc (by omega) hL dL_law_457 rfl ?_
          refine Aw.topi (nI 0) s0 ?_
          refine r_aload_n (n := 459) hX dL_law_458 rfl rfl 0 rfl ?_
          refine r_iload_n (n := 460) hX dL_law_459 rfl rfl 3 rfl ?_
          refine r_iconst (n := 461) hX 2 dL_law_460 rfl rfl ?_
          refine r_iadd (n := 462) hX dL_law_461 rfl ?_
          refine Aw.topi (nI (i + 2)) (nI_add _ _) ?_
          refine r_sld (n := 463) (i := i + 2) hX hsc (by omega) hL dL_law_462 rfl ?_
          refine r_aload_n (n := 464) hX dL_law_463 rfl rfl 0 rfl ?_
          refine r_iload_n (n := 465) hX dL_law_464 rfl rfl 3 rfl ?_
          refine r_iconst (n := 466) hX 3 dL_law_465 rfl rfl ?_
          refine r_iadd (n := 467) hX dL_law_466 rfl ?_
          refine Aw.topi (nI (i + 3)) (nI_add _ _) ?_
          refine r_sld (n := 468) (i := i + 3) hX hsc (by omega) hL dL_law_467 rfl ?_
          refine Aw.topi (nI p) hpw ?_
          refine r_aload_n (n := 469) hX dL_law_468 rfl rfl 0 rfl ?_
          refine r_iload_n (n := 470) hX dL_law_469 rfl rfl 3 rfl ?_
          refine r_iconst (n := 471) hX 4 dL_law_470 rfl rfl ?_
          refine r_iadd (n := 472) hX dL_law_471 rfl ?_
          refine Aw.topi (nI (i + 4)) (nI_add _ _) ?_
          refine r_sld (n := 473) (i := i + 4) hX hsc (by omega) hL dL_law_472 rfl ?_
          refine Aw.topi (nI q) hqw ?_
          refine r_callV (n := 476) (av := [.int (nI 0), .int (xs (i + 2)), .int (nI p), .int (nI q)]) hX (ct_cost0 (CxL X) (CxD X) (b 0) (b 1) (b 5) (b 7) (b 19) (b 22) (b 37) (b 41) (b 45) (b 46) (b 53) (b 2) (b 3) (b 4) (b 20) (b 21) (b 47) (b 48) (b 49) (b 50) (b 51) (b 52) h fb x1 jv jk (nI 0) (xs (i + 2)) p q hn rfl hd hp_ hq_ hFc.2.1 (txOk_of hW1 hT1.2.1.1)) ml_L_59 cv_X10_cost rfl (by decide) [0, 1, 2, 3, 4, 19, 20, 21, 46, 47, 48, 49, 50, 51, 52] rfl rfl (by decide) 0 rfl rfl rfl rfl rfl (Nat.le_of_ble_eq_true rfl) dL_law_473 rfl (fun r_ es_ h_ l_ => ?_)
          obtain ⟨rfl, rfl⟩ := h_
          refine Aw.esq (pw_16 : putAt (EW (CxD X) b mo a h fb tp z tk jv jk pl mt yr lg ha x1 x2 tp.2 (hFs h) fb.2.2.2 yr.2.2.2.1 (zFaultP z) h.2.2.2.1 h.2.2.2.2.1 h.2.2.2.2.2 h.2.1 yr.2.2.2.2 h.1 lg tr bg en tkk op wn jn cq cm fk kd mk le ke tpm t og nm mf hm io rh mn wt jt nw pil my ai L tl ch) [0, 1, 2, 3, 4, 19, 20, 21, 46, 47, 48, 49, 50, 51, 52] _ = EW (CxD X) b mo a h fb tp z tk (hV fb jv (xs (i + 2))) (jCostK x1 (hV fb jv (xs (i + 2))) h.2.2.2.2.1 p q jk) pl mt yr lg ha x1 x2 tp.2 (hFs h) fb.2.2.2 yr.2.2.2.1 (zFaultP z) h.2.2.2.1 h.2.2.2.2.1 h.2.2.2.2.2 h.2.1 yr.2.2.2.2 h.1 lg tr bg en tkk op wn jn cq cm fk kd mk le ke tpm t og nm mf hm io rh mn wt jt nw pil my ai L tl ch) ?_
          show Aw X (KS b mo a) (EW (CxD X) b mo a h fb tp z tk (hV fb jv (xs (i + 2))) (jCostK x1 (hV fb jv (xs (i + 2))) h.2.2.2.2.1 p q jk) pl mt yr lg ha x1 x2 tp.2 (hFs h) fb.2.2.2 yr.2.2.2.1 (zFaultP z) h.2.2.2.1 h.2.2.2.2.1 h.2.2.2.2.2 h.2.1 yr.2.2.2.2 h.1 lg tr bg en tkk op wn jn cq cm fk kd mk le ke tpm t og nm mf hm io rh mn wt jt nw pil my ai L tl ch) 476 [(0, .ref sc), (1, .ref (b 0)), (2, .ref mo), (3, .int (nI i))] [.int (eo (jCost x1 (hV fb jv (xs (i + 2))) h.2.2.2.2.1 p q jk))]
          refine r_aload_n (n := 477) hX dL_law_476 rfl rfl 2 rfl ?_
          refine r_aload_n (n := 478) hX dL_law_477 rfl rfl 0 rfl ?_
          refine r_iload_n (n := 479) hX dL_law_478 rfl rfl 3 rfl ?_
          refine r_iconst (n := 480) hX 1 dL_law_479 rfl rfl ?_
          refine r_iadd (n := 481) hX dL_law_480 rfl ?_
          refine Aw.topi (nI (i + 1)) (nI_add _ _) ?_
          refine r_sld (n := 482) (i := i + 1) hX hsc (by omega) hL dL_law_481 rfl ?_
          refine Aw.topi (nI 0) s0 ?_
          refine r_aload_n (n := 483) hX dL_law_482 rfl rfl 0 rfl ?_
          refine r_iload_n (n := 484) hX dL_law_483 rfl rfl 3 rfl ?_
          refine r_iconst (n := 485) hX 2 dL_law_484 rfl rfl ?_
          refine r_iadd (n := 486) hX dL_law_485 rfl ?_
          refine Aw.topi (nI (i + 2)) (nI_add _ _) ?_
          refine r_sld (n := 487) (i := i + 2) hX hsc (by omega) hL dL_law_486 rfl ?_
          refine r_aload_n (n := 488) hX dL_law_487 rfl rfl 0 rfl ?_
          refine r_iload_n (n := 489) hX dL_law_488 rfl rfl 3 rfl ?_
          refine r_iconst (n := 490) hX 3 dL_law_489 rfl rfl ?_
          refine r_iadd (n := 491) hX dL_law_490 rfl ?_
          refine Aw.topi (nI (i + 3)) (nI_add _ _) ?_
          refine r_sld (n := 492) (i := i + 3) hX hsc (by omega) hL dL_law_491 rfl ?_
          refine Aw.topi (nI p) hpw ?_
          refine r_aload_n (n := 493) hX dL_law_492 rfl rfl 0 rfl ?_
          refine r_iload_n (n := 494) hX dL_law_493 rfl rfl 3 rfl ?_
          refine r_iconst (n := 495) hX 4 dL_law_494 rfl rfl ?_
          refine r_iadd (n := 496) hX dL_law_495 rfl ?_
          refine Aw.topi (nI (i + 4)) (nI_add _ _) ?_
          refine r_sld (n := 497) (i := i + 4) hX hsc (by omega) hL dL_law_496 rfl ?_
          refine Aw.topi (nI q) hqw ?_
          refine r_callV (n := 500) (av := [.int (nI 0), .int (xs (i + 2)), .int (nI p), .int (nI q)]) hX (ct_m_cost (CxL X) (CxD X) mo a tp.2 tr (hFs h) fb.2.2.2 yr.2.2.2.1 bg en tkk op wn jn cq cm fk (zFaultP z) h.2.2.2.1 h.2.2.2.2.1 h.2.2.2.2.2 h.2.1 kd mk le yr.2.2.2.2 h.1 ke t mf nw pil 0 p q (xs (i + 2)) hn hFc.ok (by decide) (mtx_of hT1) hd hp_ hq_) ml_L_62 cv_X11_cost rfl (by decide) [60, 62, 63, 65, 66, 67, 68, 69, 70, 85, 86, 72, 73, 74, 75] rfl rfl (by decide) 60 rfl rfl rfl rfl rfl (Nat.le_of_ble_eq_true rfl) dL_law_497 rfl (fun r_ es_ h_ l_ => ?_)
          obtain ⟨rfl, pl_, rfl⟩ := h_
          refine Aw.esq (pw_17 : putAt (EW (CxD X) b mo a h fb tp z tk (hV fb jv (xs (i + 2))) (jCostK x1 (hV fb jv (xs (i + 2))) h.2.2.2.2.1 p q jk) pl mt yr lg ha x1 x2 tp.2 (hFs h) fb.2.2.2 yr.2.2.2.1 (zFaultP z) h.2.2.2.1 h.2.2.2.2.1 h.2.2.2.2.2 h.2.1 yr.2.2.2.2 h.1 lg tr bg en tkk op wn jn cq cm fk kd mk le ke tpm t og nm mf hm io rh mn wt jt nw pil my ai L tl ch) [60, 62, 63, 65, 66, 67, 68, 69, 70, 85, 86, 72, 73, 74, 75] _ = EW (CxD X) b mo a h fb tp z tk (hV fb jv (xs (i + 2))) (jCostK x1 (hV fb jv (xs (i + 2))) h.2.2.2.2.1 p q jk) pl mt yr lg ha x1 x2 tp.2 (hFs h) fb.2.2.2 yr.2.2.2.1 (zFaultP z) h.2.2.2.1 h.2.2.2.2.1 h.2.2.2.2.2 h.2.1 yr.2.2.2.2 h.1 lg tr bg en tkk op wn jn cq cm fk kd mk le ke tpm t og nm mf hm io rh mn wt jt (mLearn mf fb.2.2.2 (xs (i + 2)) nw) pl_ my ai L tl ch) ?_
          show Aw X (KS b mo a) (EW (CxD X) b mo a h fb tp z tk (hV fb jv (xs (i + 2))) (jCostK x1 (hV fb jv (xs (i + 2))) h.2.2.2.2.1 p q jk) pl mt yr lg ha x1 x2 tp.2 (hFs h) fb.2.2.2 yr.2.2.2.1 (zFaultP z) h.2.2.2.1 h.2.2.2.2.1 h.2.2.2.2.2 h.2.1 yr.2.2.2.2 h.1 lg tr bg en tkk op wn jn cq cm fk kd mk le ke tpm t og nm mf hm io rh mn wt jt (mLearn mf fb.2.2.2 (xs (i + 2)) nw) pl_ my ai L tl ch) 500 [(0, .ref sc), (1, .ref (b 0)), (2, .ref mo), (3, .int (nI i))] [.int (if mWhy t (mLearn mf fb.2.2.2 (xs (i + 2)) nw) h.2.2.2.2.1 p q 0 = 0 then nI (mPrice t (mLearn mf fb.2.2.2 (xs (i + 2)) nw) p q 0) else -1), .int (eo (jCost x1 (hV fb jv (xs (i + 2))) h.2.2.2.2.1 p q jk))]
          refine r_icmp_eq (tgt := 735) (n := 503) hX dL_law_500 (by decide) rfl (fun _ => ?_) (fun hne => absurd (by rw [cost_same hT1 (view_same hFc (xs (i + 2)) jv nw) (by omega) (by omega)]; split <;> rfl) hne)
          exact kk b h fb tp z tk (hV fb jv (xs (i + 2))) (jCostK x1 (hV fb jv (xs (i + 2))) h.2.2.2.2.1 p q jk) pl mt yr lg ha x1 x2 tp.2 (hFs h) fb.2.2.2 yr.2.2.2.1 (zFaultP z) h.2.2.2.1 h.2.2.2.2.1 h.2.2.2.2.2 h.2.1 yr.2.2.2.2 h.1 lg tr bg en tkk op wn jn cq cm fk kd mk le ke tpm t og nm mf hm io rh mn wt jt (mLearn mf fb.2.2.2 (xs (i + 2)) nw) pl_ my ai L tl ch rfl ⟨⟨rfl, rfl, rfl, rfl, rfl, rfl, rfl, rfl, rfl, rfl, rfl, rfl⟩, ⟨hTp, hFc, hT1, hT2⟩, ⟨hW1, hW2, hWz⟩, ⟨hPlI, hMt, hn⟩, ⟨hHa, hHm, hIo, hFn⟩, ⟨hMv, hMn⟩, (hDb.more (Nat.le_succ _)), ⟨oHa, oRh, hMy, oAi⟩, hLs, oTl, oCh, zHa, hBg⟩
  · skip
    by_cases s1 : (xs (i + 1)) = nI 1
    · by_cases hb : hDay (xs (i + 2)) = false ∨ hFam (hFs h) (xs (i + 3)) = false ∨ hFam (hFs h) (xs (i + 4)) = false
      · skip
        refine r_aload_n (n := 453) hX dL_law_452 rfl rfl 1 rfl ?_
        refine r_aload_n (n := 454) hX dL_law_453 rfl rfl 0 rfl ?_
        refine r_iload_n (n := 455) hX dL_law_454 rfl rfl 3 rfl ?_
        refine r_iconst (n := 456) hX 1 dL_law_455 rfl rfl ?_
        refine r_iadd (n := 457) hX dL_law_456 rfl ?_
        refine Aw.topi (nI (i + 1)) (nI_add _ _) ?_
        refine r_sld (n := 458) (i := i + 1) hX hsc (by omega) hL dL_law_457 rfl ?_
        refine Aw.topi (nI 1) s1 ?_
        refine r_aload_n (n := 459) hX dL_law_458 rfl rfl 0 rfl ?_
        refine r_iload_n (n := 460) hX dL_law_459 rfl rfl 3 rfl ?_
        refine r_iconst (n := 461) hX 2 dL_law_460 rfl rfl ?_
        refine r_iadd (n := 462) hX dL_law_461 rfl ?_
        refine Aw.topi (nI (i + 2)) (nI_add _ _) ?_
        refine r_sld (n := 463) (i := i + 2) hX hsc (by omega) hL dL_law_462 rfl ?_
        refine r_aload_n (n := 464) hX dL_law_463 rfl rfl 0 rfl ?_
        refine r_iload_n (n := 465) hX dL_law_464 rfl rfl 3 rfl ?_
        refine r_iconst (n := 466) hX 3 dL_law_465 rfl rfl ?_
        refine r_iadd (n := 467) hX dL_law_466 rfl ?_
        refine Aw.topi (nI (i + 3)) (nI_add _ _) ?_
        refine r_sld (n := 468) (i := i + 3) hX hsc (by omega) hL dL_law_467 rfl ?_
        refine r_aload_n (n := 469) hX dL_law_468 rfl rfl 0 rfl ?_
        refine r_iload_n (n := 470) hX dL_law_469 rfl rfl 3 rfl ?_
        refine r_iconst (n := 471) hX 4 dL_law_470 rfl rfl ?_
        refine r_iadd (n := 472) hX dL_law_471 rfl ?_
        refine Aw.topi (nI (i + 4)) (nI_add _ _) ?_
        refine r_sld (n := 473) (i := i + 4) hX hsc (by omega) hL dL_law_472 rfl ?_
        refine r_callV (n := 476) (av := [.int (nI 1), .int (xs (i + 2)), .int (xs (i + 3)), .int (xs (i + 4))]) hX (ct_cost1N (CxL X) (CxD X) (b 0) (b 1) (b 5) (b 7) (b 19) (b 22) (b 37) (b 41) (b 45) (b 46) (b 53) h (nI 1) (xs (i + 2)) (xs (i + 3)) (xs (i + 4)) rfl hb) ml_L_59 cv_X10_cost rfl (by decide) [0] rfl rfl (by decide) 0 rfl rfl rfl rfl rfl (Nat.le_of_ble_eq_true rfl) dL_law_473 rfl (fun r_ es_ h_ l_ => ?_)
        obtain ⟨rfl, rfl⟩ := h_
        refine Aw.esq (pw_2 : putAt (EW (CxD X) b mo a h fb tp z tk jv jk pl mt yr lg ha x1 x2 tp.2 (hFs h) fb.2.2.2 yr.2.2.2.1 (zFaultP z) h.2.2.2.1 h.2.2.2.2.1 h.2.2.2.2.2 h.2.1 yr.2.2.2.2 h.1 lg tr bg en tkk op wn jn cq cm fk kd mk le ke tpm t og nm mf hm io rh mn wt jt nw pil my ai L tl ch) [0] _ = EW (CxD X) b mo a h fb tp z tk jv jk pl mt yr lg ha x1 x2 tp.2 (hFs h) fb.2.2.2 yr.2.2.2.1 (zFaultP z) h.2.2.2.1 h.2.2.2.2.1 h.2.2.2.2.2 h.2.1 yr.2.2.2.2 h.1 lg tr bg en tkk op wn jn cq cm fk kd mk le ke tpm t og nm mf hm io rh mn wt jt nw pil my ai L tl ch) ?_
        show Aw X (KS b mo a) (EW (CxD X) b mo a h fb tp z tk jv jk pl mt yr lg ha x1 x2 tp.2 (hFs h) fb.2.2.2 yr.2.2.2.1 (zFaultP z) h.2.2.2.1 h.2.2.2.2.1 h.2.2.2.2.2 h.2.1 yr.2.2.2.2 h.1 lg tr bg en tkk op wn jn cq cm fk kd mk le ke tpm t og nm mf hm io rh mn wt jt nw pil my ai L tl ch) 476 [(0, .ref sc), (1, .ref (b 0)), (2, .ref mo), (3, .int (nI i))] [.int (-1)]
        refine r_aload_n (n := 477) hX dL_law_476 rfl rfl 2 rfl ?_
        refine r_aload_n (n := 478) hX dL_law_477 rfl rfl 0 rfl ?_
        refine r_iload_n (n := 479) hX dL_law_478 rfl rfl 3 rfl ?_
        refine r_iconst (n := 480) hX 1 dL_law_479 rfl rfl ?_
        refine r_iadd (n := 481) hX dL_law_480 rfl ?_
        refine Aw.topi (nI (i + 1)) (nI_add _ _) ?_
        refine r_sld (n := 482) (i := i + 1) hX hsc (by omega) hL dL_law_481 rfl ?_
        refine Aw.topi (nI 1) s1 ?_
        refine r_aload_n (n := 483) hX dL_law_482 rfl rfl 0 rfl ?_
        refine r_iload_n (n := 484) hX dL_law_483 rfl rfl 3 rfl ?_
        refine r_iconst (n := 485) hX 2 dL_law_484 rfl rfl ?_
        refine r_iadd (n := 486) hX dL_law_485 rfl ?_
        refine Aw.topi (nI (i + 2)) (nI_add _ _) ?_
        refine r_sld (n := 487) (i := i + 2) hX hsc (by omega) hL dL_law_486 rfl ?_
        refine r_aload_n (n := 488) hX dL_law_487 rfl rfl 0 rfl ?_
        refine r_iload_n (n := 489) hX dL_law_488 rfl rfl 3 rfl ?_
        refine r_iconst (n := 490) hX 3 dL_law_489 rfl rfl ?_
        refine r_iadd (n := 491) hX dL_law_490 rfl ?_
        refine Aw.topi (nI (i + 3)) (nI_add _ _) ?_
        refine r_sld (n := 492) (i := i + 3) hX hsc (by omega) hL dL_law_491 rfl ?_
        refine r_aload_n (n := 493) hX dL_law_492 rfl rfl 0 rfl ?_
        refine r_iload_n (n := 494) hX dL_law_493 rfl rfl 3 rfl ?_
        refine r_iconst (n := 495) hX 4 dL_law_494 rfl rfl ?_
        refine r_iadd (n := 496) hX dL_law_495 rfl ?_
        refine Aw.topi (nI (i + 4)) (nI_add _ _) ?_
        refine r_sld (n := 497) (i := i + 4) hX hsc (by omega) hL dL_law_496 rfl ?_
        refine r_callV (n := 500) (av := [.int (nI 1), .int (xs (i + 2)), .int (xs (i + 3)), .int (xs (i + 4))]) hX (ct_m_costBad (CxL X) (CxD X) mo a tp.2 tr (hFs h) fb.2.2.2 yr.2.2.2.1 bg en tkk op wn jn cq cm fk (zFaultP z) h.2.2.2.1 h.2.2.2.2.1 h.2.2.2.2.2 h.2.1 kd mk le yr.2.2.2.2 h.1 ke (nI 1) (xs (i + 2)) (xs (i + 3)) (xs (i + 4)) (ask_no hn hb)) ml_L_62 cv_X11_cost rfl (by decide) [60] rfl rfl (by decide) 60 rfl rfl rfl rfl rfl (Nat.le_of_ble_eq_true rfl) dL_law_497 rfl (fun r_ es_ h_ l_ => ?_)
        obtain ⟨rfl, rfl⟩ := h_
        refine Aw.esq (pw_3 : putAt (EW (CxD X) b mo a h fb tp z tk jv jk pl mt yr lg ha x1 x2 tp.2 (hFs h) fb.2.2.2 yr.2.2.2.1 (zFaultP z) h.2.2.2.1 h.2.2.2.2.1 h.2.2.2.2.2 h.2.1 yr.2.2.2.2 h.1 lg tr bg en tkk op wn jn cq cm fk kd mk le ke tpm t og nm mf hm io rh mn wt jt nw pil my ai L tl ch) [60] _ = EW (CxD X) b mo a h fb tp z tk jv jk pl mt yr lg ha x1 x2 tp.2 (hFs h) fb.2.2.2 yr.2.2.2.1 (zFaultP z) h.2.2.2.1 h.2.2.2.2.1 h.2.2.2.2.2 h.2.1 yr.2.2.2.2 h.1 lg tr bg en tkk op wn jn cq cm fk kd mk le ke tpm t og nm mf hm io rh mn wt jt nw pil my ai L tl ch) ?_
        show Aw X (KS b mo a) (EW (CxD X) b mo a h fb tp z tk jv jk pl mt yr lg ha x1 x2 tp.2 (hFs h) fb.2.2.2 yr.2.2.2.1 (zFaultP z) h.2.2.2.1 h.2.2.2.2.1 h.2.2.2.2.2 h.2.1 yr.2.2.2.2 h.1 lg tr bg en tkk op wn jn cq cm fk kd mk le ke tpm t og nm mf hm io rh mn wt jt nw pil my ai L tl ch) 500 [(0, .ref sc), (1, .ref (b 0)), (2, .ref mo), (3, .int (nI i))] [.int (-1), .int (-1)]
        refine r_icmp_eq (tgt := 735) (n := 503) hX dL_law_500 (by decide) rfl (fun _ => ?_) (fun hne => absurd (rfl) hne)
        exact kk b h fb tp z tk jv jk pl mt yr lg ha x1 x2 tp.2 (hFs h) fb.2.2.2 yr.2.2.2.1 (zFaultP z) h.2.2.2.1 h.2.2.2.2.1 h.2.2.2.2.2 h.2.1 yr.2.2.2.2 h.1 lg tr bg en tkk op wn jn cq cm fk kd mk le ke tpm t og nm mf hm io rh mn wt jt nw pil my ai L tl ch rfl ⟨⟨rfl, rfl, rfl, rfl, rfl, rfl, rfl, rfl, rfl, rfl, rfl, rfl⟩, ⟨hTp, hFc, hT1, hT2⟩, ⟨hW1, hW2, hWz⟩, ⟨hPlI, hMt, hn⟩, ⟨hHa, hHm, hIo, hFn⟩, ⟨hMv, hMn⟩, (hDb.more (Nat.le_succ _)), ⟨oHa, oRh, hMy, oAi⟩, hLs, oTl, oCh, zHa, hBg⟩
      · rcases fam_ix hn (xs (i + 3)) with hz | ⟨p, hp_, hpw⟩
        · exact absurd (Or.inr (Or.inl hz)) hb
        · rcases fam_ix hn (xs (i + 4)) with hz | ⟨q, hq_, hqw⟩
          · exact absurd (Or.inr (Or.inr hz)) hb
          · have hd : hDay (xs (i + 2)) = true := by
              cases e : hDay (xs (i + 2)) with
              | true => rfl
              | false => exact absurd (Or.inl e) hb
            refine r_aload_n (n := 453) hX dL_law_452 rfl rfl 1 rfl ?_
            refine r_aload_n (n := 454) hX dL_law_453 rfl rfl 0 rfl ?_
            refine r_iload_n (n := 455) hX dL_law_454 rfl rfl 3 rfl ?_
            refine r_iconst (n := 456) hX 1 dL_law_455 rfl rfl ?_
            refine r_iadd (n := 457) hX dL_law_456 rfl ?_
            refine Aw.topi (nI (i + 1)) (nI_add _ _) ?_
            refine r_sld (n := 458) (i := i + 1) hX hsc (by omega) hL dL_law_457 rfl ?_
            refine Aw.topi (nI 1) s1 ?_
            refine r_aload_n (n := 459) hX dL_law_458 rfl rfl 0 rfl ?_
            refine r_iload_n (n := 460) hX dL_law_459 rfl rfl 3 rfl ?_
            refine r_iconst (n := 461) hX 2 dL_law_460 rfl rfl ?_
            refine r_iadd (n := 462) hX dL_law_461 rfl ?_
            refine Aw.topi (nI (i + 2)) (nI_add _ _) ?_
            refine r_sld (n := 463) (i := i + 2) hX hsc (by omega) hL dL_law_462 rfl ?_
            refine r_aload_n (n := 464) hX dL_law_463 rfl rfl 0 rfl ?_
            refine r_iload_n (n := 465) hX dL_law_464 rfl rfl 3 rfl ?_
            refine r_iconst (n := 466) hX 3 dL_law_465 rfl rfl ?_
            refine r_iadd (n := 467) hX dL_law_466 rfl ?_
            refine Aw.topi (nI (i + 3)) (nI_add _ _) ?_
            refine r_sld (n := 468) (i := i + 3) hX hsc (by omega) hL dL_law_467 rfl ?_
            refine Aw.topi (nI p) hpw ?_
            refine r_aload_n (n := 469) hX dL_law_468 rfl rfl 0 rfl ?_
            refine r_iload_n (n := 470) hX dL_law_469 rfl rfl 3 rfl ?_
            refine r_iconst (n := 471) hX 4 dL_law_470 rfl rfl ?_
            refine r_iadd (n := 472) hX dL_law_471 rfl ?_
            refine Aw.topi (nI (i + 4)) (nI_add _ _) ?_
            refine r_sld (n := 473) (i := i + 4) hX hsc (by omega) hL dL_law_472 rfl ?_
            refine Aw.topi (nI q) hqw ?_
            refine r_callV (n := 476) (av := [.int (nI 1), .int (xs (i + 2)), .int (nI p), .int (nI q)]) hX (ct_cost1 (CxL X) (CxD X) (b 0) (b 1) (b 5) (b 7) (b 19) (b 22) (b 37) (b 41) (b 45) (b 46) (b 53) (b 2) (b 3) (b 4) (b 20) (b 21) (b 54) (b 55) (b 56) (b 57) (b 58) (b 59) h fb x2 jv jk (nI 1) (xs (i + 2)) p q hn rfl hd hp_ hq_ hFc.2.1 (txOk_of hW2 hT2.2.1.1)) ml_L_59 cv_X10_cost rfl (by decide) [0, 1, 2, 3, 4, 19, 20, 21, 53, 54, 55, 56, 57, 58, 59] rfl rfl (by decide) 0 rfl rfl rfl rfl rfl (Nat.le_of_ble_eq_true rfl) dL_law_473 rfl (fun r_ es_ h_ l_ => ?_)
            obtain ⟨rfl, rfl⟩ := h_
            refine Aw.esq (pw_18 : putAt (EW (CxD X) b mo a h fb tp z tk jv jk pl mt yr lg ha x1 x2 tp.2 (hFs h) fb.2.2.2 yr.2.2.2.1 (zFaultP z) h.2.2.2.1 h.2.2.2.2.1 h.2.2.2.2.2 h.2.1 yr.2.2.2.2 h.1 lg tr bg en tkk op wn jn cq cm fk kd mk le ke tpm t og nm mf hm io rh mn wt jt nw pil my ai L tl ch) [0, 1, 2, 3, 4, 19, 20, 21, 53, 54, 55, 56, 57, 58, 59] _ = EW (CxD X) b mo a h fb tp z tk (hV fb jv (xs (i + 2))) (jCostK x2 (hV fb jv (xs (i + 2))) h.2.2.2.2.1 p q jk) pl mt yr lg ha x1 x2 tp.2 (hFs h) fb.2.2.2 yr.2.2.2.1 (zFaultP z) h.2.2.2.1 h.2.2.2.2.1 h.2.2.2.2.2 h.2.1 yr.2.2.2.2 h.1 lg tr bg en tkk op wn jn cq cm fk kd mk le ke tpm t og nm mf hm io rh mn wt jt nw pil my ai L tl ch) ?_
            show Aw X (KS b mo a) (EW (CxD X) b mo a h fb tp z tk (hV fb jv (xs (i + 2))) (jCostK x2 (hV fb jv (xs (i + 2))) h.2.2.2.2.1 p q jk) pl mt yr lg ha x1 x2 tp.2 (hFs h) fb.2.2.2 yr.2.2.2.1 (zFaultP z) h.2.2.2.1 h.2.2.2.2.1 h.2.2.2.2.2 h.2.1 yr.2.2.2.2 h.1 lg tr bg en tkk op wn jn cq cm fk kd mk le ke tpm t og nm mf hm io rh mn wt jt nw pil my ai L tl ch) 476 [(0, .ref sc), (1, .ref (b 0)), (2, .ref mo), (3, .int (nI i))] [.int (eo (jCost x2 (hV fb jv (xs (i + 2))) h.2.2.2.2.1 p q jk))]
            refine r_aload_n (n := 477) hX dL_law_476 rfl rfl 2 rfl ?_
            refine r_aload_n (n := 478) hX dL_law_477 rfl rfl 0 rfl ?_
            refine r_iload_n (n := 479) hX dL_law_478 rfl rfl 3 rfl ?_
            refine r_iconst (n := 480) hX 1 dL_law_479 rfl rfl ?_
            refine r_iadd (n := 481) hX dL_law_480 rfl ?_
            refine Aw.topi (nI (i + 1)) (nI_add _ _) ?_
            refine r_sld (n := 482) (i := i + 1) hX hsc (by omega) hL dL_law_481 rfl ?_
            refine Aw.topi (nI 1) s1 ?_
            refine r_aload_n (n := 483) hX dL_law_482 rfl rfl 0 rfl ?_
            refine r_iload_n (n := 484) hX dL_law_483 rfl rfl 3 rfl ?_
            refine r_iconst (n := 485) hX 2 dL_law_484 rfl rfl ?_
            refine r_iadd (n := 486) hX dL_law_485 rfl ?_
            refine Aw.topi (nI (i + 2)) (nI_add _ _) ?_
            refine r_sld (n := 487) (i := i + 2) hX hsc (by omega) hL dL_law_486 rfl ?_
            refine r_aload_n (n := 488) hX dL_law_487 rfl rfl 0 rfl ?_
            refine r_iload_n (n := 489) hX dL_law_488 rfl rfl 3 rfl ?_
            refine r_iconst (n := 490) hX 3 dL_law_489 rfl rfl ?_
            refine r_iadd (n := 491) hX dL_law_490 rfl ?_
            refine Aw.topi (nI (i + 3)) (nI_add _ _) ?_
            refine r_sld (n := 492) (i := i + 3) hX hsc (by omega) hL dL_law_491 rfl ?_
            refine Aw.topi (nI p) hpw ?_
            refine r_aload_n (n := 493) hX dL_law_492 rfl rfl 0 rfl ?_
            refine r_iload_n (n := 494) hX dL_law_493 rfl rfl 3 rfl ?_
            refine r_iconst (n := 495) hX 4 dL_law_494 rfl rfl ?_
            refine r_iadd (n := 496) hX dL_law_495 rfl ?_
            refine Aw.topi (nI (i + 4)) (nI_add _ _) ?_
            refine r_sld (n := 497) (i := i + 4) hX hsc (by omega) hL dL_law_496 rfl ?_
            refine Aw.topi (nI q) hqw ?_
            refine r_callV (n := 500) (av := [.int (nI 1), .int (xs (i + 2)), .int (nI p), .int (nI q)]) hX (ct_m_cost (CxL X) (CxD X) mo a tp.2 tr (hFs h) fb.2.2.2 yr.2.2.2.1 bg en tkk op wn jn cq cm fk (zFaultP z) h.2.2.2.1 h.2.2.2.2.1 h.2.2.2.2.2 h.2.1 kd mk le yr.2.2.2.2 h.1 ke t mf nw pil 1 p q (xs (i + 2)) hn hFc.ok (by decide) (mtx_of hT2) hd hp_ hq_) ml_L_62 cv_X11_cost rfl (by decide) [60, 62, 63, 65, 66, 67, 68, 69, 70, 85, 86, 72, 73, 74, 75] rfl rfl (by decide) 60 rfl rfl rfl rfl rfl (Nat.le_of_ble_eq_true rfl) dL_law_497 rfl (fun r_ es_ h_ l_ => ?_)
            obtain ⟨rfl, pl_, rfl⟩ := h_
            refine Aw.esq (pw_17 : putAt (EW (CxD X) b mo a h fb tp z tk (hV fb jv (xs (i + 2))) (jCostK x2 (hV fb jv (xs (i + 2))) h.2.2.2.2.1 p q jk) pl mt yr lg ha x1 x2 tp.2 (hFs h) fb.2.2.2 yr.2.2.2.1 (zFaultP z) h.2.2.2.1 h.2.2.2.2.1 h.2.2.2.2.2 h.2.1 yr.2.2.2.2 h.1 lg tr bg en tkk op wn jn cq cm fk kd mk le ke tpm t og nm mf hm io rh mn wt jt nw pil my ai L tl ch) [60, 62, 63, 65, 66, 67, 68, 69, 70, 85, 86, 72, 73, 74, 75] _ = EW (CxD X) b mo a h fb tp z tk (hV fb jv (xs (i + 2))) (jCostK x2 (hV fb jv (xs (i + 2))) h.2.2.2.2.1 p q jk) pl mt yr lg ha x1 x2 tp.2 (hFs h) fb.2.2.2 yr.2.2.2.1 (zFaultP z) h.2.2.2.1 h.2.2.2.2.1 h.2.2.2.2.2 h.2.1 yr.2.2.2.2 h.1 lg tr bg en tkk op wn jn cq cm fk kd mk le ke tpm t og nm mf hm io rh mn wt jt (mLearn mf fb.2.2.2 (xs (i + 2)) nw) pl_ my ai L tl ch) ?_
            show Aw X (KS b mo a) (EW (CxD X) b mo a h fb tp z tk (hV fb jv (xs (i + 2))) (jCostK x2 (hV fb jv (xs (i + 2))) h.2.2.2.2.1 p q jk) pl mt yr lg ha x1 x2 tp.2 (hFs h) fb.2.2.2 yr.2.2.2.1 (zFaultP z) h.2.2.2.1 h.2.2.2.2.1 h.2.2.2.2.2 h.2.1 yr.2.2.2.2 h.1 lg tr bg en tkk op wn jn cq cm fk kd mk le ke tpm t og nm mf hm io rh mn wt jt (mLearn mf fb.2.2.2 (xs (i + 2)) nw) pl_ my ai L tl ch) 500 [(0, .ref sc), (1, .ref (b 0)), (2, .ref mo), (3, .int (nI i))] [.int (if mWhy t (mLearn mf fb.2.2.2 (xs (i + 2)) nw) h.2.2.2.2.1 p q 1 = 0 then nI (mPrice t (mLearn mf fb.2.2.2 (xs (i + 2)) nw) p q 1) else -1), .int (eo (jCost x2 (hV fb jv (xs (i + 2))) h.2.2.2.2.1 p q jk))]
            refine r_icmp_eq (tgt := 735) (n := 503) hX dL_law_500 (by decide) rfl (fun _ => ?_) (fun hne => absurd (by rw [cost_same hT2 (view_same hFc (xs (i + 2)) jv nw) (by omega) (by omega)]; split <;> rfl) hne)
            exact kk b h fb tp z tk (hV fb jv (xs (i + 2))) (jCostK x2 (hV fb jv (xs (i + 2))) h.2.2.2.2.1 p q jk) pl mt yr lg ha x1 x2 tp.2 (hFs h) fb.2.2.2 yr.2.2.2.1 (zFaultP z) h.2.2.2.1 h.2.2.2.2.1 h.2.2.2.2.2 h.2.1 yr.2.2.2.2 h.1 lg tr bg en tkk op wn jn cq cm fk kd mk le ke tpm t og nm mf hm io rh mn wt jt (mLearn mf fb.2.2.2 (xs (i + 2)) nw) pl_ my ai L tl ch rfl ⟨⟨rfl, rfl, rfl, rfl, rfl, rfl, rfl, rfl, rfl, rfl, rfl, rfl⟩, ⟨hTp, hFc, hT1, hT2⟩, ⟨hW1, hW2, hWz⟩, ⟨hPlI, hMt, hn⟩, ⟨hHa, hHm, hIo, hFn⟩, ⟨hMv, hMn⟩, (hDb.more (Nat.le_succ _)), ⟨oHa, oRh, hMy, oAi⟩, hLs, oTl, oCh, zHa, hBg⟩
    · have so := sl_out s0 s1
      refine r_aload_n (n := 453) hX dL_law_452 rfl rfl 1 rfl ?_
      refine r_aload_n (n := 454) hX dL_law_453 rfl rfl 0 rfl ?_
      refine r_iload_n (n := 455) hX dL_law_454 rfl rfl 3 rfl ?_
      refine r_iconst (n := 456) hX 1 dL_law_455 rfl rfl ?_
      refine r_iadd (n := 457) hX dL_law_456 rfl ?_
      refine Aw.topi (nI (i + 1)) (nI_add _ _) ?_
      refine r_sld (n := 458) (i := i + 1) hX hsc (by omega) hL dL_law_457 rfl ?_
      refine r_aload_n (n := 459) hX dL_law_458 rfl rfl 0 rfl ?_
      refine r_iload_n (n := 460) hX dL_law_459 rfl rfl 3 rfl ?_
      refine r_iconst (n := 461) hX 2 dL_law_460 rfl rfl ?_
      refine r_iadd (n := 462) hX dL_law_461 rfl ?_
      refine Aw.topi (nI (i + 2)) (nI_add _ _) ?_
      refine r_sld (n := 463) (i := i + 2) hX hsc (by omega) hL dL_law_462 rfl ?_
      refine r_aload_n (n := 464) hX dL_law_463 rfl rfl 0 rfl ?_
      refine r_iload_n (n := 465) hX dL_law_464 rfl rfl 3 rfl ?_
      refine r_iconst (n := 466) hX 3 dL_law_465 rfl rfl ?_
      refine r_iadd (n := 467) hX dL_law_466 rfl ?_
      refine Aw.topi (nI (i + 3)) (nI_add _ _) ?_
      refine r_sld (n := 468) (i := i + 3) hX hsc (by omega) hL dL_law_467 rfl ?_
      refine r_aload_n (n := 469) hX dL_law_468 rfl rfl 0 rfl ?_
      refine r_iload_n (n := 470) hX dL_law_469 rfl rfl 3 rfl ?_
      refine r_iconst (n := 471) hX 4 dL_law_470 rfl rfl ?_
      refine r_iadd (n := 472) hX dL_law_471 rfl ?_
      refine Aw.topi (nI (i + 4)) (nI_add _ _) ?_
      refine r_sld (n := 473) (i := i + 4) hX hsc (by omega) hL dL_law_472 rfl ?_
      refine r_callV (n := 476) (av := [.int (xs (i + 1)), .int (xs (i + 2)), .int (xs (i + 3)), .int (xs (i + 4))]) hX (ct_costNN (CxL X) (CxD X) (b 0) (b 1) (b 5) (b 7) (b 19) (b 22) (b 37) (b 41) (b 45) (b 46) (b 53) h (xs (i + 1)) (xs (i + 2)) (xs (i + 3)) (xs (i + 4)) s0 s1) ml_L_59 cv_X10_cost rfl (by decide) [0] rfl rfl (by decide) 0 rfl rfl rfl rfl rfl (Nat.le_of_ble_eq_true rfl) dL_law_473 rfl (fun r_ es_ h_ l_ => ?_)
      obtain ⟨rfl, rfl⟩ := h_
      refine Aw.esq (pw_2 : putAt (EW (CxD X) b mo a h fb tp z tk jv jk pl mt yr lg ha x1 x2 tp.2 (hFs h) fb.2.2.2 yr.2.2.2.1 (zFaultP z) h.2.2.2.1 h.2.2.2.2.1 h.2.2.2.2.2 h.2.1 yr.2.2.2.2 h.1 lg tr bg en tkk op wn jn cq cm fk kd mk le ke tpm t og nm mf hm io rh mn wt jt nw pil my ai L tl ch) [0] _ = EW (CxD X) b mo a h fb tp z tk jv jk pl mt yr lg ha x1 x2 tp.2 (hFs h) fb.2.2.2 yr.2.2.2.1 (zFaultP z) h.2.2.2.1 h.2.2.2.2.1 h.2.2.2.2.2 h.2.1 yr.2.2.2.2 h.1 lg tr bg en tkk op wn jn cq cm fk kd mk le ke tpm t og nm mf hm io rh mn wt jt nw pil my ai L tl ch) ?_
      show Aw X (KS b mo a) (EW (CxD X) b mo a h fb tp z tk jv jk pl mt yr lg ha x1 x2 tp.2 (hFs h) fb.2.2.2 yr.2.2.2.1 (zFaultP z) h.2.2.2.1 h.2.2.2.2.1 h.2.2.2.2.2 h.2.1 yr.2.2.2.2 h.1 lg tr bg en tkk op wn jn cq cm fk kd mk le ke tpm t og nm mf hm io rh mn wt jt nw pil my ai L tl ch) 476 [(0, .ref sc), (1, .ref (b 0)), (2, .ref mo), (3, .int (nI i))] [.int (-1)]
      refine r_aload_n (n := 477) hX dL_law_476 rfl rfl 2 rfl ?_
      refine r_aload_n (n := 478) hX dL_law_477 rfl rfl 0 rfl ?_
      refine r_iload_n (n := 479) hX dL_law_478 rfl rfl 3 rfl ?_
      refine r_iconst (n := 480) hX 1 dL_law_479 rfl rfl ?_
      refine r_iadd (n := 481) hX dL_law_480 rfl ?_
      refine Aw.topi (nI (i + 1)) (nI_add _ _) ?_
      refine r_sld (n := 482) (i := i + 1) hX hsc (by omega) hL dL_law_481 rfl ?_
      refine r_aload_n (n := 483) hX dL_law_482 rfl rfl 0 rfl ?_
      refine r_iload_n (n := 484) hX dL_law_483 rfl rfl 3 rfl ?_
      refine r_iconst (n := 485) hX 2 dL_law_484 rfl rfl ?_
      refine r_iadd (n := 486) hX dL_law_485 rfl ?_
      refine Aw.topi (nI (i + 2)) (nI_add _ _) ?_
      refine r_sld (n := 487) (i := i + 2) hX hsc (by omega) hL dL_law_486 rfl ?_
      refine r_aload_n (n := 488) hX dL_law_487 rfl rfl 0 rfl ?_
      refine r_iload_n (n := 489) hX dL_law_488 rfl rfl 3 rfl ?_
      refine r_iconst (n := 490) hX 3 dL_law_489 rfl rfl ?_
      refine r_iadd (n := 491) hX dL_law_490 rfl ?_
      refine Aw.topi (nI (i + 3)) (nI_add _ _) ?_
      refine r_sld (n := 492) (i := i + 3) hX hsc (by omega) hL dL_law_491 rfl ?_
      refine r_aload_n (n := 493) hX dL_law_492 rfl rfl 0 rfl ?_
      refine r_iload_n (n := 494) hX dL_law_493 rfl rfl 3 rfl ?_
      refine r_iconst (n := 495) hX 4 dL_law_494 rfl rfl ?_
      refine r_iadd (n := 496) hX dL_law_495 rfl ?_
      refine Aw.topi (nI (i + 4)) (nI_add _ _) ?_
      refine r_sld (n := 497) (i := i + 4) hX hsc (by omega) hL dL_law_496 rfl ?_
      refine r_callV (n := 500) (av := [.int (xs (i + 1)), .int (xs (i + 2)), .int (xs (i + 3)), .int (xs (i + 4))]) hX (ct_m_costBad (CxL X) (CxD X) mo a tp.2 tr (hFs h) fb.2.2.2 yr.2.2.2.1 bg en tkk op wn jn cq cm fk (zFaultP z) h.2.2.2.1 h.2.2.2.2.1 h.2.2.2.2.2 h.2.1 kd mk le yr.2.2.2.2 h.1 ke (xs (i + 1)) (xs (i + 2)) (xs (i + 3)) (xs (i + 4)) (ask_nn so)) ml_L_62 cv_X11_cost rfl (by decide) [60] rfl rfl (by decide) 60 rfl rfl rfl rfl rfl (Nat.le_of_ble_eq_true rfl) dL_law_497 rfl (fun r_ es_ h_ l_ => ?_)
      obtain ⟨rfl, rfl⟩ := h_
      refine Aw.esq (pw_3 : putAt (EW (CxD X) b mo a h fb tp z tk jv jk pl mt yr lg ha x1 x2 tp.2 (hFs h) fb.2.2.2 yr.2.2.2.1 (zFaultP z) h.2.2.2.1 h.2.2.2.2.1 h.2.2.2.2.2 h.2.1 yr.2.2.2.2 h.1 lg tr bg en tkk op wn jn cq cm fk kd mk le ke tpm t og nm mf hm io rh mn wt jt nw pil my ai L tl ch) [60] _ = EW (CxD X) b mo a h fb tp z tk jv jk pl mt yr lg ha x1 x2 tp.2 (hFs h) fb.2.2.2 yr.2.2.2.1 (zFaultP z) h.2.2.2.1 h.2.2.2.2.1 h.2.2.2.2.2 h.2.1 yr.2.2.2.2 h.1 lg tr bg en tkk op wn jn cq cm fk kd mk le ke tpm t og nm mf hm io rh mn wt jt nw pil my ai L tl ch) ?_
      show Aw X (KS b mo a) (EW (CxD X) b mo a h fb tp z tk jv jk pl mt yr lg ha x1 x2 tp.2 (hFs h) fb.2.2.2 yr.2.2.2.1 (zFaultP z) h.2.2.2.1 h.2.2.2.2.1 h.2.2.2.2.2 h.2.1 yr.2.2.2.2 h.1 lg tr bg en tkk op wn jn cq cm fk kd mk le ke tpm t og nm mf hm io rh mn wt jt nw pil my ai L tl ch) 500 [(0, .ref sc), (1, .ref (b 0)), (2, .ref mo), (3, .int (nI i))] [.int (-1), .int (-1)]
      refine r_icmp_eq (tgt := 735) (n := 503) hX dL_law_500 (by decide) rfl (fun _ => ?_) (fun hne => absurd (rfl) hne)
      exact kk b h fb tp z tk jv jk pl mt yr lg ha x1 x2 tp.2 (hFs h) fb.2.2.2 yr.2.2.2.1 (zFaultP z) h.2.2.2.1 h.2.2.2.2.1 h.2.2.2.2.2 h.2.1 yr.2.2.2.2 h.1 lg tr bg en tkk op wn jn cq cm fk kd mk le ke tpm t og nm mf hm io rh mn wt jt nw pil my ai L tl ch rfl ⟨⟨rfl, rfl, rfl, rfl, rfl, rfl, rfl, rfl, rfl, rfl, rfl, rfl⟩, ⟨hTp, hFc, hT1, hT2⟩, ⟨hW1, hW2, hWz⟩, ⟨hPlI, hMt, hn⟩, ⟨hHa, hHm, hIo, hFn⟩, ⟨hMv, hMn⟩, (hDb.more (Nat.le_succ _)), ⟨oHa, oRh, hMy, oAi⟩, hLs, oTl, oCh, zHa, hBg⟩
