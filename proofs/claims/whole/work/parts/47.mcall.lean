
/-! the reference's calls over places -/
def mClo (my : Nat → Nat) (tr gv : Nat → Bool) (u : Nat → Option Nat) (n : Nat) : Nat → Nat → Bool
  | 0, _ => true
  | m + 1, p => match u p with
    | some h => if my (12 * p + h) = 100000000 then false else if gIn u p n 0 = none then (if tr p = true then mClo my tr gv u n m (p + 1) else false) else mClo my tr gv u n m (p + 1)
    | none => if gIn u p n 0 = none then mClo my tr gv u n m (p + 1) else if gv p = true then mClo my tr gv u n m (p + 1) else false
def mLnk (hm : Nat → Option Nat) (p : Nat) : Nat → Option Nat → Option Nat
  | 0, o => o
  | _ + 1, none => none
  | m + 1, some q => mLnk hm p m (if hm q = some p then none else hm q)
def mOf (hm : Nat → Option Nat) (io : Nat → Bool) (g : LG) (n f : Nat) (w : Int32) : Int32 := if w = 0 then eo (hm f) else if w = 1 then eo (gIn hm f n 0) else if w = 2 then b2 (io f) else if w = 3 then g.1 f else if w = 4 then g.2.1 f else if w = 5 then g.2.2 f else -1
def mSet (g : LG) (p : Nat) (lv cm : Bool) : LG := if lv = true then (if cm = true then g else (upd g.1 p (g.1 p + 1), g.2.1, g.2.2)) else if cm = true then (if g.1 p ≤ 0 then (g.1, upd g.2.1 p (g.2.1 p + 1), g.2.2) else (upd g.1 p (g.1 p - 1), g.2.1, g.2.2)) else g
def mPay (g : LG) (p h : Nat) (v : Int32) : LG := (g.1, g.2.1, upd (upd g.2.2 p (g.2.2 p - v)) h (upd g.2.2 p (g.2.2 p - v) h + v))
def mCls (hm : Nat → Option Nat) (s : MF) (fn : Nat) (ck : Int32) (n p : Nat) (g : LG) : LG := match hm p with
  | none => mSet g p false (gIn hm p n 0).isSome
  | some h => mPay (mSet g p true (gIn hm p n 0).isSome) p h (mLat s h 5 ck fn)

set_option maxHeartbeats 1000000 in
set_option maxRecDepth 100000 in
theorem wk_m_goesN {X : Cx} (hX : Ok X cX11_goes 2 RX11 1) (mo : Nat) (a : Nat → Nat) (tn tr fm fn mv bg en tk op wn jn cq cm : Nat) (fk fp ck te yn rc kd mk : Int32) (le : Int64) (hp ir ke : Bool) (f : Int32) (hb : ir = false ∨ mFam fm f = false) (hR : Rt X (some FieldType.int) (fun r es' => r = some (.int (-1)) ∧ es' = [ob 11 (.ref (a 0) :: .int (nI tn) :: .int fk :: .int fp :: .ref (a 4) :: .ref (a 5) :: .ref (a 6) :: .ref (a 7) :: .ref (a 8) :: .ref (a 9) :: .ref (a 10) :: .ref (a 11) :: .ref (a 12) :: .ref (a 13) :: .int (nI tr) :: .int (nI fm) :: .int ck :: .int te :: .int (nI fn) :: .ref (a 19) :: .ref (a 20) :: .ref (a 21) :: .ref (a 22) :: .ref (a 23) :: .ref (a 24) :: .ref (a 25) :: .ref (a 26) :: .ref (a 27) :: .int (b2 hp) :: .int yn :: .int (b2 ir) :: .ref (a 31) :: .int rc :: .ref (a 33) :: .int (nI mv) :: .int kd :: .int (nI bg) :: .int (nI en) :: .int mk :: .long le :: .int (nI tk) :: .int (nI op) :: .ref (a 42) :: .int (nI wn) :: .ref (a 44) :: .int (nI jn) :: .ref (a 46) :: .ref (a 47) :: .ref (a 48) :: .ref (a 49) :: .ref (a 50) :: .ref (a 51) :: .int (b2 ke) :: .ref (a 53) :: .ref (a 54) :: .ref (a 55) :: .int (nI cq) :: .int (nI cm) :: [])]) [mo]) : Aw X [mo] [ob 11 (.ref (a 0) :: .int (nI tn) :: .int fk :: .int fp :: .ref (a 4) :: .ref (a 5) :: .ref (a 6) :: .ref (a 7) :: .ref (a 8) :: .ref (a 9) :: .ref (a 10) :: .ref (a 11) :: .ref (a 12) :: .ref (a 13) :: .int (nI tr) :: .int (nI fm) :: .int ck :: .int te :: .int (nI fn) :: .ref (a 19) :: .ref (a 20) :: .ref (a 21) :: .ref (a 22) :: .ref (a 23) :: .ref (a 24) :: .ref (a 25) :: .ref (a 26) :: .ref (a 27) :: .int (b2 hp) :: .int yn :: .int (b2 ir) :: .ref (a 31) :: .int rc :: .ref (a 33) :: .int (nI mv) :: .int kd :: .int (nI bg) :: .int (nI en) :: .int mk :: .long le :: .int (nI tk) :: .int (nI op) :: .ref (a 42) :: .int (nI wn) :: .ref (a 44) :: .int (nI jn) :: .ref (a 46) :: .ref (a 47) :: .ref (a 48) :: .ref (a 49) :: .ref (a 50) :: .ref (a 51) :: .int (b2 ke) :: .ref (a 53) :: .ref (a 54) :: .ref (a 55) :: .int (nI cq) :: .int (nI cm) :: [])] 0 [(0, .ref mo), (1, .int f)] [] := by
  refine r_aload_n (n := 1) hX dX11_goes_0 rfl rfl 0 rfl ?_
  refine r_get (n := 4) hX 0 rfl rfl rfl 30 (by decide) lay_X11 fl_X11_355 rfl dX11_goes_1 rfl ?_
  refine r_if_eq_b (tgt := 24) (n := 7) hX dX11_goes_4 (by decide) rfl (fun c4 => ?_) (fun c4 => ?_)
  · skip
    refine r_iconst (n := 25) hX (-1) dX11_goes_24 rfl rfl ?_
    exact r_ireturn hX hR dX11_goes_25 ⟨rfl, rfl⟩
  · skip
    refine r_aload_n (n := 8) hX dX11_goes_7 rfl rfl 0 rfl ?_
    refine r_iload_n (n := 9) hX dX11_goes_8 rfl rfl 1 rfl ?_
    refine r_callV (n := 12) (av := [.int f]) hX (ct_X11_isFamily (CxL X) (CxD X) mo a tn tr fm fn mv bg en tk op wn jn cq cm fk fp ck te yn rc kd mk le hp ir ke f) ml_X11_264 cv_X11_isFamily rfl (by decide) [0] rfl rfl (by decide) 0 rfl rfl rfl rfl rfl (Nat.le_of_ble_eq_true rfl) dX11_goes_9 rfl (fun r_ es_ h_ l_ => ?_)
    obtain ⟨rfl, rfl⟩ := h_
    show Aw X [mo] [ob 11 (.ref (a 0) :: .int (nI tn) :: .int fk :: .int fp :: .ref (a 4) :: .ref (a 5) :: .ref (a 6) :: .ref (a 7) :: .ref (a 8) :: .ref (a 9) :: .ref (a 10) :: .ref (a 11) :: .ref (a 12) :: .ref (a 13) :: .int (nI tr) :: .int (nI fm) :: .int ck :: .int te :: .int (nI fn) :: .ref (a 19) :: .ref (a 20) :: .ref (a 21) :: .ref (a 22) :: .ref (a 23) :: .ref (a 24) :: .ref (a 25) :: .ref (a 26) :: .ref (a 27) :: .int (b2 hp) :: .int yn :: .int (b2 ir) :: .ref (a 31) :: .int rc :: .ref (a 33) :: .int (nI mv) :: .int kd :: .int (nI bg) :: .int (nI en) :: .int mk :: .long le :: .int (nI tk) :: .int (nI op) :: .ref (a 42) :: .int (nI wn) :: .ref (a 44) :: .int (nI jn) :: .ref (a 46) :: .ref (a 47) :: .ref (a 48) :: .ref (a 49) :: .ref (a 50) :: .ref (a 51) :: .int (b2 ke) :: .ref (a 53) :: .ref (a 54) :: .ref (a 55) :: .int (nI cq) :: .int (nI cm) :: [])] 12 [(0, .ref mo), (1, .int f)] [.int (b2 (mFam fm f))]
    refine r_if_eq_b (tgt := 24) (n := 15) hX dX11_goes_12 (by decide) rfl (fun c12 => ?_) (fun c12 => absurd c12 (fun e => hb.elim (fun q => by rw [q] at c4; cases c4) (fun q => by rw [q] at e; cases e)))
    refine r_iconst (n := 25) hX (-1) dX11_goes_24 rfl rfl ?_
    exact r_ireturn hX hR dX11_goes_25 ⟨rfl, rfl⟩
theorem ct_m_goesN (l : Launch) (D : va_G) (mo : Nat) (a : Nat → Nat) (tn tr fm fn mv bg en tk op wn jn cq cm : Nat) (fk fp ck te yn rc kd mk : Int32) (le : Int64) (hp ir ke : Bool) (f : Int32) (hb : ir = false ∨ mFam fm f = false) : Ct l D m_X11_goes 1 [.ref mo, .int f] [mo] [ob 11 (.ref (a 0) :: .int (nI tn) :: .int fk :: .int fp :: .ref (a 4) :: .ref (a 5) :: .ref (a 6) :: .ref (a 7) :: .ref (a 8) :: .ref (a 9) :: .ref (a 10) :: .ref (a 11) :: .ref (a 12) :: .ref (a 13) :: .int (nI tr) :: .int (nI fm) :: .int ck :: .int te :: .int (nI fn) :: .ref (a 19) :: .ref (a 20) :: .ref (a 21) :: .ref (a 22) :: .ref (a 23) :: .ref (a 24) :: .ref (a 25) :: .ref (a 26) :: .ref (a 27) :: .int (b2 hp) :: .int yn :: .int (b2 ir) :: .ref (a 31) :: .int rc :: .ref (a 33) :: .int (nI mv) :: .int kd :: .int (nI bg) :: .int (nI en) :: .int mk :: .long le :: .int (nI tk) :: .int (nI op) :: .ref (a 42) :: .int (nI wn) :: .ref (a 44) :: .int (nI jn) :: .ref (a 46) :: .ref (a 47) :: .ref (a 48) :: .ref (a 49) :: .ref (a 50) :: .ref (a 51) :: .int (b2 ke) :: .ref (a 53) :: .ref (a 54) :: .ref (a 55) :: .int (nI cq) :: .int (nI cm) :: [])] (fun r es' => r = some (.int (-1)) ∧ es' = [ob 11 (.ref (a 0) :: .int (nI tn) :: .int fk :: .int fp :: .ref (a 4) :: .ref (a 5) :: .ref (a 6) :: .ref (a 7) :: .ref (a 8) :: .ref (a 9) :: .ref (a 10) :: .ref (a 11) :: .ref (a 12) :: .ref (a 13) :: .int (nI tr) :: .int (nI fm) :: .int ck :: .int te :: .int (nI fn) :: .ref (a 19) :: .ref (a 20) :: .ref (a 21) :: .ref (a 22) :: .ref (a 23) :: .ref (a 24) :: .ref (a 25) :: .ref (a 26) :: .ref (a 27) :: .int (b2 hp) :: .int yn :: .int (b2 ir) :: .ref (a 31) :: .int rc :: .ref (a 33) :: .int (nI mv) :: .int kd :: .int (nI bg) :: .int (nI en) :: .int mk :: .long le :: .int (nI tk) :: .int (nI op) :: .ref (a 42) :: .int (nI wn) :: .ref (a 44) :: .int (nI jn) :: .ref (a 46) :: .ref (a 47) :: .ref (a 48) :: .ref (a 49) :: .ref (a 50) :: .ref (a 51) :: .int (b2 ke) :: .ref (a 53) :: .ref (a 54) :: .ref (a 55) :: .int (nI cq) :: .int (nI cm) :: [])]) :=
  Ct.ofA (own := RX11) (by decide) rfl (Nat.le_of_ble_eq_true rfl) rfl (fun X hl hD hX hR => by subst hl; subst hD; exact wk_m_goesN hX mo a tn tr fm fn mv bg en tk op wn jn cq cm fk fp ck te yn rc kd mk le hp ir ke f hb hR)
set_option maxHeartbeats 1000000 in
set_option maxRecDepth 100000 in
theorem wk_m_goes {X : Cx} (hX : Ok X cX11_goes 2 RX11 1) (mo : Nat) (a : Nat → Nat) (tn tr fm fn mv bg en tk op wn jn cq cm : Nat) (fk fp ck te yn rc kd mk : Int32) (le : Int64) (hp ir ke : Bool) (rh : Nat → Option Nat) (f : Nat) (hf : fm ≤ 12) (hh : ir = true) (hff : f < fm) (hR : Rt X (some FieldType.int) (fun r es' => r = some (.int (eo (rh f))) ∧ es' = [ob 11 (.ref (a 0) :: .int (nI tn) :: .int fk :: .int fp :: .ref (a 4) :: .ref (a 5) :: .ref (a 6) :: .ref (a 7) :: .ref (a 8) :: .ref (a 9) :: .ref (a 10) :: .ref (a 11) :: .ref (a 12) :: .ref (a 13) :: .int (nI tr) :: .int (nI fm) :: .int ck :: .int te :: .int (nI fn) :: .ref (a 19) :: .ref (a 20) :: .ref (a 21) :: .ref (a 22) :: .ref (a 23) :: .ref (a 24) :: .ref (a 25) :: .ref (a 26) :: .ref (a 27) :: .int (b2 hp) :: .int yn :: .int (b2 ir) :: .ref (a 31) :: .int rc :: .ref (a 33) :: .int (nI mv) :: .int kd :: .int (nI bg) :: .int (nI en) :: .int mk :: .long le :: .int (nI tk) :: .int (nI op) :: .ref (a 42) :: .int (nI wn) :: .ref (a 44) :: .int (nI jn) :: .ref (a 46) :: .ref (a 47) :: .ref (a 48) :: .ref (a 49) :: .ref (a 50) :: .ref (a 51) :: .int (b2 ke) :: .ref (a 53) :: .ref (a 54) :: .ref (a 55) :: .int (nI cq) :: .int (nI cm) :: []), aI (CxD X) 12 (opf rh)]) [mo, a 31]) : Aw X [mo, a 31] [ob 11 (.ref (a 0) :: .int (nI tn) :: .int fk :: .int fp :: .ref (a 4) :: .ref (a 5) :: .ref (a 6) :: .ref (a 7) :: .ref (a 8) :: .ref (a 9) :: .ref (a 10) :: .ref (a 11) :: .ref (a 12) :: .ref (a 13) :: .int (nI tr) :: .int (nI fm) :: .int ck :: .int te :: .int (nI fn) :: .ref (a 19) :: .ref (a 20) :: .ref (a 21) :: .ref (a 22) :: .ref (a 23) :: .ref (a 24) :: .ref (a 25) :: .ref (a 26) :: .ref (a 27) :: .int (b2 hp) :: .int yn :: .int (b2 ir) :: .ref (a 31) :: .int rc :: .ref (a 33) :: .int (nI mv) :: .int kd :: .int (nI bg) :: .int (nI en) :: .int mk :: .long le :: .int (nI tk) :: .int (nI op) :: .ref (a 42) :: .int (nI wn) :: .ref (a 44) :: .int (nI jn) :: .ref (a 46) :: .ref (a 47) :: .ref (a 48) :: .ref (a 49) :: .ref (a 50) :: .ref (a 51) :: .int (b2 ke) :: .ref (a 53) :: .ref (a 54) :: .ref (a 55) :: .int (nI cq) :: .int (nI cm) :: []), aI (CxD X) 12 (opf rh)] 0 [(0, .ref mo), (1, .int (nI f))] [] := by
  refine r_aload_n (n := 1) hX dX11_goes_0 rfl rfl 0 rfl ?_
  refine r_get (n := 4) hX 0 rfl rfl rfl 30 (by decide) lay_X11 fl_X11_355 rfl dX11_goes_1 rfl ?_
  refine r_if_eq_b (tgt := 24) (n := 7) hX dX11_goes_4 (by decide) rfl (fun c4 => absurd c4 (by rw [hh]; decide)) (fun c4 => ?_)
  refine r_aload_n (n := 8) hX dX11_goes_7 rfl rfl 0 rfl ?_
  refine r_iload_n (n := 9) hX dX11_goes_8 rfl rfl 1 rfl ?_
  refine r_callV (n := 12) (av := [.int (nI f)]) hX (ct_X11_isFamily (CxL X) (CxD X) mo a tn tr fm fn mv bg en tk op wn jn cq cm fk fp ck te yn rc kd mk le hp ir ke (nI f)) ml_X11_264 cv_X11_isFamily rfl (by decide) [0] rfl rfl (by decide) 0 rfl rfl rfl rfl rfl (Nat.le_of_ble_eq_true rfl) dX11_goes_9 rfl (fun r_ es_ h_ l_ => ?_)
  obtain ⟨rfl, rfl⟩ := h_
  show Aw X [mo, a 31] [ob 11 (.ref (a 0) :: .int (nI tn) :: .int fk :: .int fp :: .ref (a 4) :: .ref (a 5) :: .ref (a 6) :: .ref (a 7) :: .ref (a 8) :: .ref (a 9) :: .ref (a 10) :: .ref (a 11) :: .ref (a 12) :: .ref (a 13) :: .int (nI tr) :: .int (nI fm) :: .int ck :: .int te :: .int (nI fn) :: .ref (a 19) :: .ref (a 20) :: .ref (a 21) :: .ref (a 22) :: .ref (a 23) :: .ref (a 24) :: .ref (a 25) :: .ref (a 26) :: .ref (a 27) :: .int (b2 hp) :: .int yn :: .int (b2 ir) :: .ref (a 31) :: .int rc :: .ref (a 33) :: .int (nI mv) :: .int kd :: .int (nI bg) :: .int (nI en) :: .int mk :: .long le :: .int (nI tk) :: .int (nI op) :: .ref (a 42) :: .int (nI wn) :: .ref (a 44) :: .int (nI jn) :: .ref (a 46) :: .ref (a 47) :: .ref (a 48) :: .ref (a 49) :: .ref (a 50) :: .ref (a 51) :: .int (b2 ke) :: .ref (a 53) :: .ref (a 54) :: .ref (a 55) :: .int (nI cq) :: .int (nI cm) :: []), aI (CxD X) 12 (opf rh)] 12 [(0, .ref mo), (1, .int (nI f))] [.int (b2 (mFam fm (nI f)))]
  refine r_if_eq_b (tgt := 24) (n := 15) hX dX11_goes_12 (by decide) rfl (fun c12 => absurd c12 (by rw [mFam_n hf (by omega), decide_eq_true hff]; decide)) (fun c12 => ?_)
  refine r_aload_n (n := 16) hX dX11_goes_15 rfl rfl 0 rfl ?_
  refine r_get (n := 19) hX 0 rfl rfl rfl 31 (by decide) lay_X11 fl_X11_77 rfl dX11_goes_16 rfl ?_
  refine r_iload_n (n := 20) hX dX11_goes_19 rfl rfl 1 rfl ?_
  refine r_ialdOn (n := 21) (i := f) hX 1 rfl rfl (by omega) (by decide) dX11_goes_20 rfl ?_
  refine r_goto (tgt := 25) hX dX11_goes_21 (by decide) ?_
  exact r_ireturn hX hR dX11_goes_25 ⟨rfl, rfl⟩
theorem ct_m_goes (l : Launch) (D : va_G) (mo : Nat) (a : Nat → Nat) (tn tr fm fn mv bg en tk op wn jn cq cm : Nat) (fk fp ck te yn rc kd mk : Int32) (le : Int64) (hp ir ke : Bool) (rh : Nat → Option Nat) (f : Nat) (hf : fm ≤ 12) (hh : ir = true) (hff : f < fm) : Ct l D m_X11_goes 1 [.ref mo, .int (nI f)] [mo, a 31] [ob 11 (.ref (a 0) :: .int (nI tn) :: .int fk :: .int fp :: .ref (a 4) :: .ref (a 5) :: .ref (a 6) :: .ref (a 7) :: .ref (a 8) :: .ref (a 9) :: .ref (a 10) :: .ref (a 11) :: .ref (a 12) :: .ref (a 13) :: .int (nI tr) :: .int (nI fm) :: .int ck :: .int te :: .int (nI fn) :: .ref (a 19) :: .ref (a 20) :: .ref (a 21) :: .ref (a 22) :: .ref (a 23) :: .ref (a 24) :: .ref (a 25) :: .ref (a 26) :: .ref (a 27) :: .int (b2 hp) :: .int yn :: .int (b2 ir) :: .ref (a 31) :: .int rc :: .ref (a 33) :: .int (nI mv) :: .int kd :: .int (nI bg) :: .int (nI en) :: .int mk :: .long le :: .int (nI tk) :: .int (nI op) :: .ref (a 42) :: .int (nI wn) :: .ref (a 44) :: .int (nI jn) :: .ref (a 46) :: .ref (a 47) :: .ref (a 48) :: .ref (a 49) :: .ref (a 50) :: .ref (a 51) :: .int (b2 ke) :: .ref (a 53) :: .ref (a 54) :: .ref (a 55) :: .int (nI cq) :: .int (nI cm) :: []), aI D 12 (opf rh)] (fun r es' => r = some (.int (eo (rh f))) ∧ es' = [ob 11 (.ref (a 0) :: .int (nI tn) :: .int fk :: .int fp :: .ref (a 4) :: .ref (a 5) :: .ref (a 6) :: .ref (a 7) :: .ref (a 8) :: .ref (a 9) :: .ref (a 10) :: .ref (a 11) :: .ref (a 12) :: .ref (a 13) :: .int (nI tr) :: .int (nI fm) :: .int ck :: .int te :: .int (nI fn) :: .ref (a 19) :: .ref (a 20) :: .ref (a 21) :: .ref (a 22) :: .ref (a 23) :: .ref (a 24) :: .ref (a 25) :: .ref (a 26) :: .ref (a 27) :: .int (b2 hp) :: .int yn :: .int (b2 ir) :: .ref (a 31) :: .int rc :: .ref (a 33) :: .int (nI mv) :: .int kd :: .int (nI bg) :: .int (nI en) :: .int mk :: .long le :: .int (nI tk) :: .int (nI op) :: .ref (a 42) :: .int (nI wn) :: .ref (a 44) :: .int (nI jn) :: .ref (a 46) :: .ref (a 47) :: .ref (a 48) :: .ref (a 49) :: .ref (a 50) :: .ref (a 51) :: .int (b2 ke) :: .ref (a 53) :: .ref (a 54) :: .ref (a 55) :: .int (nI cq) :: .int (nI cm) :: []), aI D 12 (opf rh)]) :=
  Ct.ofA (own := RX11) (by decide) rfl (Nat.le_of_ble_eq_true rfl) rfl (fun X hl hD hX hR => by subst hl; subst hD; exact wk_m_goes hX mo a tn tr fm fn mv bg en tk op wn jn cq cm fk fp ck te yn rc kd mk le hp ir ke rh f hf hh hff hR)
set_option maxHeartbeats 1000000 in
set_option maxRecDepth 100000 in
theorem wk_X11_costs {X : Cx} (hX : Ok X cX11_costs 1 RX11 0) (mo : Nat) (a : Nat → Nat) (tn tr fm fn mv bg en tk op wn jn cq cm : Nat) (fk fp ck te yn rc kd mk : Int32) (le : Int64) (hp ir ke : Bool)  (hR : Rt X (some FieldType.int) (fun r es' => r = some (.int (if ir = true then rc else -1)) ∧ es' = [ob 11 (.ref (a 0) :: .int (nI tn) :: .int fk :: .int fp :: .ref (a 4) :: .ref (a 5) :: .ref (a 6) :: .ref (a 7) :: .ref (a 8) :: .ref (a 9) :: .ref (a 10) :: .ref (a 11) :: .ref (a 12) :: .ref (a 13) :: .int (nI tr) :: .int (nI fm) :: .int ck :: .int te :: .int (nI fn) :: .ref (a 19) :: .ref (a 20) :: .ref (a 21) :: .ref (a 22) :: .ref (a 23) :: .ref (a 24) :: .ref (a 25) :: .ref (a 26) :: .ref (a 27) :: .int (b2 hp) :: .int yn :: .int (b2 ir) :: .ref (a 31) :: .int rc :: .ref (a 33) :: .int (nI mv) :: .int kd :: .int (nI bg) :: .int (nI en) :: .int mk :: .long le :: .int (nI tk) :: .int (nI op) :: .ref (a 42) :: .int (nI wn) :: .ref (a 44) :: .int (nI jn) :: .ref (a 46) :: .ref (a 47) :: .ref (a 48) :: .ref (a 49) :: .ref (a 50) :: .ref (a 51) :: .int (b2 ke) :: .ref (a 53) :: .ref (a 54) :: .ref (a 55) :: .int (nI cq) :: .int (nI cm) :: [])]) [mo]) : Aw X [mo] [ob 11 (.ref (a 0) :: .int (nI tn) :: .int fk :: .int fp :: .ref (a 4) :: .ref (a 5) :: .ref (a 6) :: .ref (a 7) :: .ref (a 8) :: .ref (a 9) :: .ref (a 10) :: .ref (a 11) :: .ref (a 12) :: .ref (a 13) :: .int (nI tr) :: .int (nI fm) :: .int ck :: .int te :: .int (nI fn) :: .ref (a 19) :: .ref (a 20) :: .ref (a 21) :: .ref (a 22) :: .ref (a 23) :: .ref (a 24) :: .ref (a 25) :: .ref (a 26) :: .ref (a 27) :: .int (b2 hp) :: .int yn :: .int (b2 ir) :: .ref (a 31) :: .int rc :: .ref (a 33) :: .int (nI mv) :: .int kd :: .int (nI bg) :: .int (nI en) :: .int mk :: .long le :: .int (nI tk) :: .int (nI op) :: .ref (a 42) :: .int (nI wn) :: .ref (a 44) :: .int (nI jn) :: .ref (a 46) :: .ref (a 47) :: .ref (a 48) :: .ref (a 49) :: .ref (a 50) :: .ref (a 51) :: .int (b2 ke) :: .ref (a 53) :: .ref (a 54) :: .ref (a 55) :: .int (nI cq) :: .int (nI cm) :: [])] 0 [(0, .ref mo)] [] := by
  refine r_aload_n (n := 1) hX dX11_costs_0 rfl rfl 0 rfl ?_
  refine r_get (n := 4) hX 0 rfl rfl rfl 30 (by decide) lay_X11 fl_X11_355 rfl dX11_costs_1 rfl ?_
  refine r_if_eq_b (tgt := 14) (n := 7) hX dX11_costs_4 (by decide) rfl (fun c4 => ?_) (fun c4 => ?_)
  · skip
    refine r_iconst (n := 15) hX (-1) dX11_costs_14 rfl rfl ?_
    exact r_ireturn hX hR dX11_costs_15 ⟨by first | rw [if_pos c4] | rw [if_neg (by rw [c4]; decide)], rfl⟩
  · skip
    refine r_aload_n (n := 8) hX dX11_costs_7 rfl rfl 0 rfl ?_
    refine r_get (n := 11) hX 0 rfl rfl rfl 32 (by decide) lay_X11 fl_X11_352 rfl dX11_costs_8 rfl ?_
    refine r_goto (tgt := 15) hX dX11_costs_11 (by decide) ?_
    exact r_ireturn hX hR dX11_costs_15 ⟨by first | rw [if_pos c4] | rw [if_neg (by rw [c4]; decide)], rfl⟩
theorem ct_X11_costs (l : Launch) (D : va_G) (mo : Nat) (a : Nat → Nat) (tn tr fm fn mv bg en tk op wn jn cq cm : Nat) (fk fp ck te yn rc kd mk : Int32) (le : Int64) (hp ir ke : Bool)  : Ct l D m_X11_costs 0 [.ref mo] [mo] [ob 11 (.ref (a 0) :: .int (nI tn) :: .int fk :: .int fp :: .ref (a 4) :: .ref (a 5) :: .ref (a 6) :: .ref (a 7) :: .ref (a 8) :: .ref (a 9) :: .ref (a 10) :: .ref (a 11) :: .ref (a 12) :: .ref (a 13) :: .int (nI tr) :: .int (nI fm) :: .int ck :: .int te :: .int (nI fn) :: .ref (a 19) :: .ref (a 20) :: .ref (a 21) :: .ref (a 22) :: .ref (a 23) :: .ref (a 24) :: .ref (a 25) :: .ref (a 26) :: .ref (a 27) :: .int (b2 hp) :: .int yn :: .int (b2 ir) :: .ref (a 31) :: .int rc :: .ref (a 33) :: .int (nI mv) :: .int kd :: .int (nI bg) :: .int (nI en) :: .int mk :: .long le :: .int (nI tk) :: .int (nI op) :: .ref (a 42) :: .int (nI wn) :: .ref (a 44) :: .int (nI jn) :: .ref (a 46) :: .ref (a 47) :: .ref (a 48) :: .ref (a 49) :: .ref (a 50) :: .ref (a 51) :: .int (b2 ke) :: .ref (a 53) :: .ref (a 54) :: .ref (a 55) :: .int (nI cq) :: .int (nI cm) :: [])] (fun r es' => r = some (.int (if ir = true then rc else -1)) ∧ es' = [ob 11 (.ref (a 0) :: .int (nI tn) :: .int fk :: .int fp :: .ref (a 4) :: .ref (a 5) :: .ref (a 6) :: .ref (a 7) :: .ref (a 8) :: .ref (a 9) :: .ref (a 10) :: .ref (a 11) :: .ref (a 12) :: .ref (a 13) :: .int (nI tr) :: .int (nI fm) :: .int ck :: .int te :: .int (nI fn) :: .ref (a 19) :: .ref (a 20) :: .ref (a 21) :: .ref (a 22) :: .ref (a 23) :: .ref (a 24) :: .ref (a 25) :: .ref (a 26) :: .ref (a 27) :: .int (b2 hp) :: .int yn :: .int (b2 ir) :: .ref (a 31) :: .int rc :: .ref (a 33) :: .int (nI mv) :: .int kd :: .int (nI bg) :: .int (nI en) :: .int mk :: .long le :: .int (nI tk) :: .int (nI op) :: .ref (a 42) :: .int (nI wn) :: .ref (a 44) :: .int (nI jn) :: .ref (a 46) :: .ref (a 47) :: .ref (a 48) :: .ref (a 49) :: .ref (a 50) :: .ref (a 51) :: .int (b2 ke) :: .ref (a 53) :: .ref (a 54) :: .ref (a 55) :: .int (nI cq) :: .int (nI cm) :: [])]) :=
  Ct.ofA (own := RX11) (by decide) rfl (Nat.le_of_ble_eq_true rfl) rfl (fun X hl hD hX hR => by subst hl; subst hD; exact wk_X11_costs hX mo a tn tr fm fn mv bg en tk op wn jn cq cm fk fp ck te yn rc kd mk le hp ir ke hR)
set_option maxHeartbeats 1000000 in
set_option maxRecDepth 100000 in
theorem lp_guest {X : Cx} (hX : Ok X cX11_guest 4 RX11 0) (mo : Nat) (a : Nat → Nat) (tn tr fm fn mv bg en tk op wn jn cq cm : Nat) (fk fp ck te yn rc kd mk : Int32) (le : Int64) (hp ir ke : Bool) (ho : Nat) (u : Nat → Option Nat) (x : Nat) (hf : fm ≤ 12) (hu : obd u) (hx : x < 2 ^ 31) (hR : Rt X (some FieldType.int) (fun r es' => r = some (.int (eo (gIn u x fm 0))) ∧ es' = [ob 11 (.ref (a 0) :: .int (nI tn) :: .int fk :: .int fp :: .ref (a 4) :: .ref (a 5) :: .ref (a 6) :: .ref (a 7) :: .ref (a 8) :: .ref (a 9) :: .ref (a 10) :: .ref (a 11) :: .ref (a 12) :: .ref (a 13) :: .int (nI tr) :: .int (nI fm) :: .int ck :: .int te :: .int (nI fn) :: .ref (a 19) :: .ref (a 20) :: .ref (a 21) :: .ref (a 22) :: .ref (a 23) :: .ref (a 24) :: .ref (a 25) :: .ref (a 26) :: .ref (a 27) :: .int (b2 hp) :: .int yn :: .int (b2 ir) :: .ref (a 31) :: .int rc :: .ref (a 33) :: .int (nI mv) :: .int kd :: .int (nI bg) :: .int (nI en) :: .int mk :: .long le :: .int (nI tk) :: .int (nI op) :: .ref (a 42) :: .int (nI wn) :: .ref (a 44) :: .int (nI jn) :: .ref (a 46) :: .ref (a 47) :: .ref (a 48) :: .ref (a 49) :: .ref (a 50) :: .ref (a 51) :: .int (b2 ke) :: .ref (a 53) :: .ref (a 54) :: .ref (a 55) :: .int (nI cq) :: .int (nI cm) :: []), aI (CxD X) 12 (opf u)]) [mo, ho]) : ∀ (m j : Nat), j + m = fm → gIn u x m j = gIn u x fm 0 → Aw X [mo, ho] [ob 11 (.ref (a 0) :: .int (nI tn) :: .int fk :: .int fp :: .ref (a 4) :: .ref (a 5) :: .ref (a 6) :: .ref (a 7) :: .ref (a 8) :: .ref (a 9) :: .ref (a 10) :: .ref (a 11) :: .ref (a 12) :: .ref (a 13) :: .int (nI tr) :: .int (nI fm) :: .int ck :: .int te :: .int (nI fn) :: .ref (a 19) :: .ref (a 20) :: .ref (a 21) :: .ref (a 22) :: .ref (a 23) :: .ref (a 24) :: .ref (a 25) :: .ref (a 26) :: .ref (a 27) :: .int (b2 hp) :: .int yn :: .int (b2 ir) :: .ref (a 31) :: .int rc :: .ref (a 33) :: .int (nI mv) :: .int kd :: .int (nI bg) :: .int (nI en) :: .int mk :: .long le :: .int (nI tk) :: .int (nI op) :: .ref (a 42) :: .int (nI wn) :: .ref (a 44) :: .int (nI jn) :: .ref (a 46) :: .ref (a 47) :: .ref (a 48) :: .ref (a 49) :: .ref (a 50) :: .ref (a 51) :: .int (b2 ke) :: .ref (a 53) :: .ref (a 54) :: .ref (a 55) :: .int (nI cq) :: .int (nI cm) :: []), aI (CxD X) 12 (opf u)] 2 [(0, .ref mo), (1, .ref ho), (2, .int (nI x)), (3, .int (nI j))] [] := by
  intro m
  induction m with
  | zero =>
    intro j hj he
    refine r_iload_n (n := 3) hX dX11_guest_2 rfl rfl 3 rfl ?_
    refine r_aload_n (n := 4) hX dX11_guest_3 rfl rfl 0 rfl ?_
    refine r_get (n := 7) hX 0 rfl rfl rfl 15 (by decide) lay_X11 fl_X11_251 rfl dX11_guest_4 rfl ?_
    refine r_icmp_ge_n (tgt := 25) (n := 10) hX j fm (by omega) (by omega) dX11_guest_7 (by decide) rfl (fun c7 => ?_) (fun c7 => absurd c7 (by omega))
    refine r_iconst (n := 26) hX (-1) dX11_guest_25 rfl rfl ?_
    exact r_ireturn hX hR dX11_guest_26 ⟨by rw [← he]; rfl, rfl⟩
  | succ m ih =>
    intro j hj he
    refine r_iload_n (n := 3) hX dX11_guest_2 rfl rfl 3 rfl ?_
    refine r_aload_n (n := 4) hX dX11_guest_3 rfl rfl 0 rfl ?_
    refine r_get (n := 7) hX 0 rfl rfl rfl 15 (by decide) lay_X11 fl_X11_251 rfl dX11_guest_4 rfl ?_
    refine r_icmp_ge_n (tgt := 25) (n := 10) hX j fm (by omega) (by omega) dX11_guest_7 (by decide) rfl (fun c7 => absurd c7 (by omega)) (fun c7 => ?_)
    refine r_aload_n (n := 11) hX dX11_guest_10 rfl rfl 1 rfl ?_
    refine r_iload_n (n := 12) hX dX11_guest_11 rfl rfl 3 rfl ?_
    refine r_ialdOn (n := 13) (i := j) hX 1 rfl rfl (by omega) (by decide) dX11_guest_12 rfl ?_
    refine r_iload_n (n := 14) hX dX11_guest_13 rfl rfl 2 rfl ?_
    refine r_icmp_ne (tgt := 19) (n := 17) hX dX11_guest_14 (by decide) rfl (fun c14 => ?_) (fun c14 => ?_)
    · replace c14 : ¬ u j = some x := fun z => c14 ((eo_nI hu.b hx).mpr z)
      refine r_iinc (n := 22) hX (nI (j + 1)) [(0, .ref mo), (1, .ref ho), (2, .int (nI x)), (3, .int (nI (j + 1)))] dX11_guest_19 rfl 3 rfl (nI_add _ _) (by decide) rfl ?_
      refine r_goto (tgt := 2) hX dX11_guest_22 (by decide) ?_
      refine ih (j + 1) (by omega) ?_
      rw [← he]
      simp only [gIn, c14, if_false]
    · replace c14 := (eo_nI hu.b hx).mp c14
      refine r_iload_n (n := 18) hX dX11_guest_17 rfl rfl 3 rfl ?_
      exact r_ireturn hX hR dX11_guest_18 ⟨by rw [← he]; simp only [gIn, c14, if_true, eo], rfl⟩
set_option maxHeartbeats 1000000 in
set_option maxRecDepth 100000 in
theorem wk_X11_guest {X : Cx} (hX : Ok X cX11_guest 4 RX11 0) (mo : Nat) (a : Nat → Nat) (tn tr fm fn mv bg en tk op wn jn cq cm : Nat) (fk fp ck te yn rc kd mk : Int32) (le : Int64) (hp ir ke : Bool) (ho : Nat) (u : Nat → Option Nat) (x : Nat) (hf : fm ≤ 12) (hu : obd u) (hx : x < 2 ^ 31) (hR : Rt X (some FieldType.int) (fun r es' => r = some (.int (eo (gIn u x fm 0))) ∧ es' = [ob 11 (.ref (a 0) :: .int (nI tn) :: .int fk :: .int fp :: .ref (a 4) :: .ref (a 5) :: .ref (a 6) :: .ref (a 7) :: .ref (a 8) :: .ref (a 9) :: .ref (a 10) :: .ref (a 11) :: .ref (a 12) :: .ref (a 13) :: .int (nI tr) :: .int (nI fm) :: .int ck :: .int te :: .int (nI fn) :: .ref (a 19) :: .ref (a 20) :: .ref (a 21) :: .ref (a 22) :: .ref (a 23) :: .ref (a 24) :: .ref (a 25) :: .ref (a 26) :: .ref (a 27) :: .int (b2 hp) :: .int yn :: .int (b2 ir) :: .ref (a 31) :: .int rc :: .ref (a 33) :: .int (nI mv) :: .int kd :: .int (nI bg) :: .int (nI en) :: .int mk :: .long le :: .int (nI tk) :: .int (nI op) :: .ref (a 42) :: .int (nI wn) :: .ref (a 44) :: .int (nI jn) :: .ref (a 46) :: .ref (a 47) :: .ref (a 48) :: .ref (a 49) :: .ref (a 50) :: .ref (a 51) :: .int (b2 ke) :: .ref (a 53) :: .ref (a 54) :: .ref (a 55) :: .int (nI cq) :: .int (nI cm) :: []), aI (CxD X) 12 (opf u)]) [mo, ho]) : Aw X [mo, ho] [ob 11 (.ref (a 0) :: .int (nI tn) :: .int fk :: .int fp :: .ref (a 4) :: .ref (a 5) :: .ref (a 6) :: .ref (a 7) :: .ref (a 8) :: .ref (a 9) :: .ref (a 10) :: .ref (a 11) :: .ref (a 12) :: .ref (a 13) :: .int (nI tr) :: .int (nI fm) :: .int ck :: .int te :: .int (nI fn) :: .ref (a 19) :: .ref (a 20) :: .ref (a 21) :: .ref (a 22) :: .ref (a 23) :: .ref (a 24) :: .ref (a 25) :: .ref (a 26) :: .ref (a 27) :: .int (b2 hp) :: .int yn :: .int (b2 ir) :: .ref (a 31) :: .int rc :: .ref (a 33) :: .int (nI mv) :: .int kd :: .int (nI bg) :: .int (nI en) :: .int mk :: .long le :: .int (nI tk) :: .int (nI op) :: .ref (a 42) :: .int (nI wn) :: .ref (a 44) :: .int (nI jn) :: .ref (a 46) :: .ref (a 47) :: .ref (a 48) :: .ref (a 49) :: .ref (a 50) :: .ref (a 51) :: .int (b2 ke) :: .ref (a 53) :: .ref (a 54) :: .ref (a 55) :: .int (nI cq) :: .int (nI cm) :: []), aI (CxD X) 12 (opf u)] 0 [(0, .ref mo), (1, .ref ho), (2, .int (nI x))] [] := by
  refine r_iconst (n := 1) hX 0 dX11_guest_0 rfl rfl ?_
  refine r_istore_n (n := 2) hX [(0, .ref mo), (1, .ref ho), (2, .int (nI x)), (3, .int 0)] dX11_guest_1 rfl rfl (by decide) rfl ?_
  exact lp_guest hX mo a tn tr fm fn mv bg en tk op wn jn cq cm fk fp ck te yn rc kd mk le hp ir ke ho u x hf hu hx hR fm 0 (by omega) rfl
theorem ct_X11_guest (l : Launch) (D : va_G) (mo : Nat) (a : Nat → Nat) (tn tr fm fn mv bg en tk op wn jn cq cm : Nat) (fk fp ck te yn rc kd mk : Int32) (le : Int64) (hp ir ke : Bool) (ho : Nat) (u : Nat → Option Nat) (x : Nat) (hf : fm ≤ 12) (hu : obd u) (hx : x < 2 ^ 31) : Ct l D m_X11_guest 0 [.ref mo, .ref ho, .int (nI x)] [mo, ho] [ob 11 (.ref (a 0) :: .int (nI tn) :: .int fk :: .int fp :: .ref (a 4) :: .ref (a 5) :: .ref (a 6) :: .ref (a 7) :: .ref (a 8) :: .ref (a 9) :: .ref (a 10) :: .ref (a 11) :: .ref (a 12) :: .ref (a 13) :: .int (nI tr) :: .int (nI fm) :: .int ck :: .int te :: .int (nI fn) :: .ref (a 19) :: .ref (a 20) :: .ref (a 21) :: .ref (a 22) :: .ref (a 23) :: .ref (a 24) :: .ref (a 25) :: .ref (a 26) :: .ref (a 27) :: .int (b2 hp) :: .int yn :: .int (b2 ir) :: .ref (a 31) :: .int rc :: .ref (a 33) :: .int (nI mv) :: .int kd :: .int (nI bg) :: .int (nI en) :: .int mk :: .long le :: .int (nI tk) :: .int (nI op) :: .ref (a 42) :: .int (nI wn) :: .ref (a 44) :: .int (nI jn) :: .ref (a 46) :: .ref (a 47) :: .ref (a 48) :: .ref (a 49) :: .ref (a 50) :: .ref (a 51) :: .int (b2 ke) :: .ref (a 53) :: .ref (a 54) :: .ref (a 55) :: .int (nI cq) :: .int (nI cm) :: []), aI D 12 (opf u)] (fun r es' => r = some (.int (eo (gIn u x fm 0))) ∧ es' = [ob 11 (.ref (a 0) :: .int (nI tn) :: .int fk :: .int fp :: .ref (a 4) :: .ref (a 5) :: .ref (a 6) :: .ref (a 7) :: .ref (a 8) :: .ref (a 9) :: .ref (a 10) :: .ref (a 11) :: .ref (a 12) :: .ref (a 13) :: .int (nI tr) :: .int (nI fm) :: .int ck :: .int te :: .int (nI fn) :: .ref (a 19) :: .ref (a 20) :: .ref (a 21) :: .ref (a 22) :: .ref (a 23) :: .ref (a 24) :: .ref (a 25) :: .ref (a 26) :: .ref (a 27) :: .int (b2 hp) :: .int yn :: .int (b2 ir) :: .ref (a 31) :: .int rc :: .ref (a 33) :: .int (nI mv) :: .int kd :: .int (nI bg) :: .int (nI en) :: .int mk :: .long le :: .int (nI tk) :: .int (nI op) :: .ref (a 42) :: .int (nI wn) :: .ref (a 44) :: .int (nI jn) :: .ref (a 46) :: .ref (a 47) :: .ref (a 48) :: .ref (a 49) :: .ref (a 50) :: .ref (a 51) :: .int (b2 ke) :: .ref (a 53) :: .ref (a 54) :: .ref (a 55) :: .int (nI cq) :: .int (nI cm) :: []), aI D 12 (opf u)]) :=
  Ct.ofA (own := RX11) (by decide) rfl (Nat.le_of_ble_eq_true rfl) rfl (fun X hl hD hX hR => by subst hl; subst hD; exact wk_X11_guest hX mo a tn tr fm fn mv bg en tk op wn jn cq cm fk fp ck te yn rc kd mk le hp ir ke ho u x hf hu hx hR)
set_option maxHeartbeats 1000000 in
set_option maxRecDepth 100000 in
theorem lp_going {X : Cx} (hX : Ok X cX11_going 3 RX11 0) (mo : Nat) (a : Nat → Nat) (tn tr fm fn mv bg en tk op wn jn cq cm : Nat) (fk fp ck te yn rc kd mk : Int32) (le : Int64) (hp ir ke : Bool) (hm : Nat → Option Nat) (hf : fm ≤ 12) (hh_ : obd hm) (hR : Rt X (some FieldType.int) (fun r es' => r = some (.int (nI (gcount hm fm))) ∧ es' = [ob 11 (.ref (a 0) :: .int (nI tn) :: .int fk :: .int fp :: .ref (a 4) :: .ref (a 5) :: .ref (a 6) :: .ref (a 7) :: .ref (a 8) :: .ref (a 9) :: .ref (a 10) :: .ref (a 11) :: .ref (a 12) :: .ref (a 13) :: .int (nI tr) :: .int (nI fm) :: .int ck :: .int te :: .int (nI fn) :: .ref (a 19) :: .ref (a 20) :: .ref (a 21) :: .ref (a 22) :: .ref (a 23) :: .ref (a 24) :: .ref (a 25) :: .ref (a 26) :: .ref (a 27) :: .int (b2 hp) :: .int yn :: .int (b2 ir) :: .ref (a 31) :: .int rc :: .ref (a 33) :: .int (nI mv) :: .int kd :: .int (nI bg) :: .int (nI en) :: .int mk :: .long le :: .int (nI tk) :: .int (nI op) :: .ref (a 42) :: .int (nI wn) :: .ref (a 44) :: .int (nI jn) :: .ref (a 46) :: .ref (a 47) :: .ref (a 48) :: .ref (a 49) :: .ref (a 50) :: .ref (a 51) :: .int (b2 ke) :: .ref (a 53) :: .ref (a 54) :: .ref (a 55) :: .int (nI cq) :: .int (nI cm) :: []), aI (CxD X) 12 (opf hm)]) [mo, a 23]) : ∀ (m j : Nat), j + m = fm → Aw X [mo, a 23] [ob 11 (.ref (a 0) :: .int (nI tn) :: .int fk :: .int fp :: .ref (a 4) :: .ref (a 5) :: .ref (a 6) :: .ref (a 7) :: .ref (a 8) :: .ref (a 9) :: .ref (a 10) :: .ref (a 11) :: .ref (a 12) :: .ref (a 13) :: .int (nI tr) :: .int (nI fm) :: .int ck :: .int te :: .int (nI fn) :: .ref (a 19) :: .ref (a 20) :: .ref (a 21) :: .ref (a 22) :: .ref (a 23) :: .ref (a 24) :: .ref (a 25) :: .ref (a 26) :: .ref (a 27) :: .int (b2 hp) :: .int yn :: .int (b2 ir) :: .ref (a 31) :: .int rc :: .ref (a 33) :: .int (nI mv) :: .int kd :: .int (nI bg) :: .int (nI en) :: .int mk :: .long le :: .int (nI tk) :: .int (nI op) :: .ref (a 42) :: .int (nI wn) :: .ref (a 44) :: .int (nI jn) :: .ref (a 46) :: .ref (a 47) :: .ref (a 48) :: .ref (a 49) :: .ref (a 50) :: .ref (a 51) :: .int (b2 ke) :: .ref (a 53) :: .ref (a 54) :: .ref (a 55) :: .int (nI cq) :: .int (nI cm) :: []), aI (CxD X) 12 (opf hm)] 4 [(0, .ref mo), (1, .int (nI (gcount hm j))), (2, .int (nI j))] [] := by
  intro m
  induction m with
  | zero =>
    intro j hj
    refine r_iload_n (n := 5) hX dX11_going_4 rfl rfl 2 rfl ?_
    refine r_aload_n (n := 6) hX dX11_going_5 rfl rfl 0 rfl ?_
    refine r_get (n := 9) hX 0 rfl rfl rfl 15 (by decide) lay_X11 fl_X11_251 rfl dX11_going_6 rfl ?_
    refine r_icmp_ge_n (tgt := 35) (n := 12) hX j fm (by omega) (by omega) dX11_going_9 (by decide) rfl (fun c9 => ?_) (fun c9 => absurd c9 (by omega))
    refine r_iload_n (n := 36) hX dX11_going_35 rfl rfl 1 rfl ?_
    exact r_ireturn hX hR dX11_going_36 ⟨by rw [show j = fm by omega], rfl⟩
  | succ m ih =>
    intro j hj
    refine r_iload_n (n := 5) hX dX11_going_4 rfl rfl 2 rfl ?_
    refine r_aload_n (n := 6) hX dX11_going_5 rfl rfl 0 rfl ?_
    refine r_get (n := 9) hX 0 rfl rfl rfl 15 (by decide) lay_X11 fl_X11_251 rfl dX11_going_6 rfl ?_
    refine r_icmp_ge_n (tgt := 35) (n := 12) hX j fm (by omega) (by omega) dX11_going_9 (by decide) rfl (fun c9 => absurd c9 (by omega)) (fun c9 => ?_)
    refine r_aload_n (n := 13) hX dX11_going_12 rfl rfl 0 rfl ?_
    refine r_get (n := 16) hX 0 rfl rfl rfl 23 (by decide) lay_X11 fl_X11_62 rfl dX11_going_13 rfl ?_
    refine r_iload_n (n := 17) hX dX11_going_16 rfl rfl 2 rfl ?_
    refine r_ialdOn (n := 18) (i := j) hX 1 rfl rfl (by omega) (by decide) dX11_going_17 rfl ?_
    refine r_if_lt_o (tgt := 27) (n := 21) (x := hm j) hX hh_.b dX11_going_18 (by decide) rfl (fun c18 => ?_) (fun c18 => ?_)
    · skip
      refine r_iload_n (n := 28) hX dX11_going_27 rfl rfl 1 rfl ?_
      refine r_istore_n (n := 29) hX [(0, .ref mo), (1, .int (nI (gcount hm j))), (2, .int (nI j))] dX11_going_28 rfl rfl (by decide) rfl ?_
      refine r_iinc (n := 32) hX (nI (j + 1)) [(0, .ref mo), (1, .int (nI (gcount hm j))), (2, .int (nI (j + 1)))] dX11_going_29 rfl 2 rfl (nI_add _ _) (by decide) rfl ?_
      refine r_goto (tgt := 4) hX dX11_going_32 (by decide) ?_
      refine Aw.eqs (lv' := [(0, .ref mo), (1, .int (nI (gcount hm (j + 1)))), (2, .int (nI (j + 1)))]) rfl (by simp [gcount, *]) rfl (ih (j + 1) (by omega))
    · skip
      refine r_iload_n (n := 22) hX dX11_going_21 rfl rfl 1 rfl ?_
      refine r_iconst (n := 23) hX 1 dX11_going_22 rfl rfl ?_
      refine r_iadd (n := 24) hX dX11_going_23 rfl ?_
      refine Aw.topi (nI ((gcount hm j) + 1)) (nI_add _ _) ?_
      refine r_goto (tgt := 28) hX dX11_going_24 (by decide) ?_
      refine r_istore_n (n := 29) hX [(0, .ref mo), (1, .int (nI ((gcount hm j) + 1))), (2, .int (nI j))] dX11_going_28 rfl rfl (by decide) rfl ?_
      refine r_iinc (n := 32) hX (nI (j + 1)) [(0, .ref mo), (1, .int (nI ((gcount hm j) + 1))), (2, .int (nI (j + 1)))] dX11_going_29 rfl 2 rfl (nI_add _ _) (by decide) rfl ?_
      refine r_goto (tgt := 4) hX dX11_going_32 (by decide) ?_
      refine Aw.eqs (lv' := [(0, .ref mo), (1, .int (nI (gcount hm (j + 1)))), (2, .int (nI (j + 1)))]) rfl (by simp [gcount, *]) rfl (ih (j + 1) (by omega))
set_option maxHeartbeats 1000000 in
set_option maxRecDepth 100000 in
theorem wk_X11_going {X : Cx} (hX : Ok X cX11_going 3 RX11 0) (mo : Nat) (a : Nat → Nat) (tn tr fm fn mv bg en tk op wn jn cq cm : Nat) (fk fp ck te yn rc kd mk : Int32) (le : Int64) (hp ir ke : Bool) (hm : Nat → Option Nat) (hf : fm ≤ 12) (hh_ : obd hm) (hR : Rt X (some FieldType.int) (fun r es' => r = some (.int (nI (gcount hm fm))) ∧ es' = [ob 11 (.ref (a 0) :: .int (nI tn) :: .int fk :: .int fp :: .ref (a 4) :: .ref (a 5) :: .ref (a 6) :: .ref (a 7) :: .ref (a 8) :: .ref (a 9) :: .ref (a 10) :: .ref (a 11) :: .ref (a 12) :: .ref (a 13) :: .int (nI tr) :: .int (nI fm) :: .int ck :: .int te :: .int (nI fn) :: .ref (a 19) :: .ref (a 20) :: .ref (a 21) :: .ref (a 22) :: .ref (a 23) :: .ref (a 24) :: .ref (a 25) :: .ref (a 26) :: .ref (a 27) :: .int (b2 hp) :: .int yn :: .int (b2 ir) :: .ref (a 31) :: .int rc :: .ref (a 33) :: .int (nI mv) :: .int kd :: .int (nI bg) :: .int (nI en) :: .int mk :: .long le :: .int (nI tk) :: .int (nI op) :: .ref (a 42) :: .int (nI wn) :: .ref (a 44) :: .int (nI jn) :: .ref (a 46) :: .ref (a 47) :: .ref (a 48) :: .ref (a 49) :: .ref (a 50) :: .ref (a 51) :: .int (b2 ke) :: .ref (a 53) :: .ref (a 54) :: .ref (a 55) :: .int (nI cq) :: .int (nI cm) :: []), aI (CxD X) 12 (opf hm)]) [mo, a 23]) : Aw X [mo, a 23] [ob 11 (.ref (a 0) :: .int (nI tn) :: .int fk :: .int fp :: .ref (a 4) :: .ref (a 5) :: .ref (a 6) :: .ref (a 7) :: .ref (a 8) :: .ref (a 9) :: .ref (a 10) :: .ref (a 11) :: .ref (a 12) :: .ref (a 13) :: .int (nI tr) :: .int (nI fm) :: .int ck :: .int te :: .int (nI fn) :: .ref (a 19) :: .ref (a 20) :: .ref (a 21) :: .ref (a 22) :: .ref (a 23) :: .ref (a 24) :: .ref (a 25) :: .ref (a 26) :: .ref (a 27) :: .int (b2 hp) :: .int yn :: .int (b2 ir) :: .ref (a 31) :: .int rc :: .ref (a 33) :: .int (nI mv) :: .int kd :: .int (nI bg) :: .int (nI en) :: .int mk :: .long le :: .int (nI tk) :: .int (nI op) :: .ref (a 42) :: .int (nI wn) :: .ref (a 44) :: .int (nI jn) :: .ref (a 46) :: .ref (a 47) :: .ref (a 48) :: .ref (a 49) :: .ref (a 50) :: .ref (a 51) :: .int (b2 ke) :: .ref (a 53) :: .ref (a 54) :: .ref (a 55) :: .int (nI cq) :: .int (nI cm) :: []), aI (CxD X) 12 (opf hm)] 0 [(0, .ref mo)] [] := by
  refine r_iconst (n := 1) hX 0 dX11_going_0 rfl rfl ?_
  refine r_istore_n (n := 2) hX [(0, .ref mo), (1, .int 0)] dX11_going_1 rfl rfl (by decide) rfl ?_
  refine r_iconst (n := 3) hX 0 dX11_going_2 rfl rfl ?_
  refine r_istore_n (n := 4) hX [(0, .ref mo), (1, .int 0), (2, .int 0)] dX11_going_3 rfl rfl (by decide) rfl ?_
  exact lp_going hX mo a tn tr fm fn mv bg en tk op wn jn cq cm fk fp ck te yn rc kd mk le hp ir ke hm hf hh_ hR fm 0 (by omega)
theorem ct_X11_going (l : Launch) (D : va_G) (mo : Nat) (a : Nat → Nat) (tn tr fm fn mv bg en tk op wn jn cq cm : Nat) (fk fp ck te yn rc kd mk : Int32) (le : Int64) (hp ir ke : Bool) (hm : Nat → Option Nat) (hf : fm ≤ 12) (hh_ : obd hm) : Ct l D m_X11_going 0 [.ref mo] [mo, a 23] [ob 11 (.ref (a 0) :: .int (nI tn) :: .int fk :: .int fp :: .ref (a 4) :: .ref (a 5) :: .ref (a 6) :: .ref (a 7) :: .ref (a 8) :: .ref (a 9) :: .ref (a 10) :: .ref (a 11) :: .ref (a 12) :: .ref (a 13) :: .int (nI tr) :: .int (nI fm) :: .int ck :: .int te :: .int (nI fn) :: .ref (a 19) :: .ref (a 20) :: .ref (a 21) :: .ref (a 22) :: .ref (a 23) :: .ref (a 24) :: .ref (a 25) :: .ref (a 26) :: .ref (a 27) :: .int (b2 hp) :: .int yn :: .int (b2 ir) :: .ref (a 31) :: .int rc :: .ref (a 33) :: .int (nI mv) :: .int kd :: .int (nI bg) :: .int (nI en) :: .int mk :: .long le :: .int (nI tk) :: .int (nI op) :: .ref (a 42) :: .int (nI wn) :: .ref (a 44) :: .int (nI jn) :: .ref (a 46) :: .ref (a 47) :: .ref (a 48) :: .ref (a 49) :: .ref (a 50) :: .ref (a 51) :: .int (b2 ke) :: .ref (a 53) :: .ref (a 54) :: .ref (a 55) :: .int (nI cq) :: .int (nI cm) :: []), aI D 12 (opf hm)] (fun r es' => r = some (.int (nI (gcount hm fm))) ∧ es' = [ob 11 (.ref (a 0) :: .int (nI tn) :: .int fk :: .int fp :: .ref (a 4) :: .ref (a 5) :: .ref (a 6) :: .ref (a 7) :: .ref (a 8) :: .ref (a 9) :: .ref (a 10) :: .ref (a 11) :: .ref (a 12) :: .ref (a 13) :: .int (nI tr) :: .int (nI fm) :: .int ck :: .int te :: .int (nI fn) :: .ref (a 19) :: .ref (a 20) :: .ref (a 21) :: .ref (a 22) :: .ref (a 23) :: .ref (a 24) :: .ref (a 25) :: .ref (a 26) :: .ref (a 27) :: .int (b2 hp) :: .int yn :: .int (b2 ir) :: .ref (a 31) :: .int rc :: .ref (a 33) :: .int (nI mv) :: .int kd :: .int (nI bg) :: .int (nI en) :: .int mk :: .long le :: .int (nI tk) :: .int (nI op) :: .ref (a 42) :: .int (nI wn) :: .ref (a 44) :: .int (nI jn) :: .ref (a 46) :: .ref (a 47) :: .ref (a 48) :: .ref (a 49) :: .ref (a 50) :: .ref (a 51) :: .int (b2 ke) :: .ref (a 53) :: .ref (a 54) :: .ref (a 55) :: .int (nI cq) :: .int (nI cm) :: []), aI D 12 (opf hm)]) :=
  Ct.ofA (own := RX11) (by decide) rfl (Nat.le_of_ble_eq_true rfl) rfl (fun X hl hD hX hR => by subst hl; subst hD; exact wk_X11_going hX mo a tn tr fm fn mv bg en tk op wn jn cq cm fk fp ck te yn rc kd mk le hp ir ke hm hf hh_ hR)
set_option maxHeartbeats 1000000 in
set_option maxRecDepth 100000 in
theorem lp_closed {X : Cx} (hX : Ok X cX11_isClosed 4 RX11 1) (mo : Nat) (a : Nat → Nat) (tn tr fm fn mv bg en tk op wn jn cq cm : Nat) (fk fp ck te yn rc kd mk : Int32) (le : Int64) (hp ir ke : Bool) (u : Nat → Option Nat) (my : Nat → Nat) (tr_ gv : Nat → Bool) (hf : fm ≤ 12) (hu : obd u) (hmy : myOk my) (hR : Rt X (some FieldType.boolean) (fun r es' => r = some (.int (b2 (mClo my tr_ gv u fm fm 0))) ∧ es' = [ob 11 (.ref (a 0) :: .int (nI tn) :: .int fk :: .int fp :: .ref (a 4) :: .ref (a 5) :: .ref (a 6) :: .ref (a 7) :: .ref (a 8) :: .ref (a 9) :: .ref (a 10) :: .ref (a 11) :: .ref (a 12) :: .ref (a 13) :: .int (nI tr) :: .int (nI fm) :: .int ck :: .int te :: .int (nI fn) :: .ref (a 19) :: .ref (a 20) :: .ref (a 21) :: .ref (a 22) :: .ref (a 23) :: .ref (a 24) :: .ref (a 25) :: .ref (a 26) :: .ref (a 27) :: .int (b2 hp) :: .int yn :: .int (b2 ir) :: .ref (a 31) :: .int rc :: .ref (a 33) :: .int (nI mv) :: .int kd :: .int (nI bg) :: .int (nI en) :: .int mk :: .long le :: .int (nI tk) :: .int (nI op) :: .ref (a 42) :: .int (nI wn) :: .ref (a 44) :: .int (nI jn) :: .ref (a 46) :: .ref (a 47) :: .ref (a 48) :: .ref (a 49) :: .ref (a 50) :: .ref (a 51) :: .int (b2 ke) :: .ref (a 53) :: .ref (a 54) :: .ref (a 55) :: .int (nI cq) :: .int (nI cm) :: []), aI (CxD X) 12 (opf u), aI (CxD X) 144 (nf my), aZ (CxD X) 12 (zf tr_), aZ (CxD X) 12 (zf gv)]) [mo, a 31, a 48, a 49, a 50]) : ∀ (m p : Nat), p + m = fm → mClo my tr_ gv u fm m p = mClo my tr_ gv u fm fm 0 → Aw X [mo, a 31, a 48, a 49, a 50] [ob 11 (.ref (a 0) :: .int (nI tn) :: .int fk :: .int fp :: .ref (a 4) :: .ref (a 5) :: .ref (a 6) :: .ref (a 7) :: .ref (a 8) :: .ref (a 9) :: .ref (a 10) :: .ref (a 11) :: .ref (a 12) :: .ref (a 13) :: .int (nI tr) :: .int (nI fm) :: .int ck :: .int te :: .int (nI fn) :: .ref (a 19) :: .ref (a 20) :: .ref (a 21) :: .ref (a 22) :: .ref (a 23) :: .ref (a 24) :: .ref (a 25) :: .ref (a 26) :: .ref (a 27) :: .int (b2 hp) :: .int yn :: .int (b2 ir) :: .ref (a 31) :: .int rc :: .ref (a 33) :: .int (nI mv) :: .int kd :: .int (nI bg) :: .int (nI en) :: .int mk :: .long le :: .int (nI tk) :: .int (nI op) :: .ref (a 42) :: .int (nI wn) :: .ref (a 44) :: .int (nI jn) :: .ref (a 46) :: .ref (a 47) :: .ref (a 48) :: .ref (a 49) :: .ref (a 50) :: .ref (a 51) :: .int (b2 ke) :: .ref (a 53) :: .ref (a 54) :: .ref (a 55) :: .int (nI cq) :: .int (nI cm) :: []), aI (CxD X) 12 (opf u), aI (CxD X) 144 (nf my), aZ (CxD X) 12 (zf tr_), aZ (CxD X) 12 (zf gv)] 2 [(0, .ref mo), (1, .int (nI p))] [] := by
  intro m
  induction m with
  | zero =>
    intro p hpm he
    refine r_iload_n (n := 3) hX dX11_isClosed_2 rfl rfl 1 rfl ?_
    refine r_aload_n (n := 4) hX dX11_isClosed_3 rfl rfl 0 rfl ?_
    refine r_get (n := 7) hX 0 rfl rfl rfl 15 (by decide) lay_X11 fl_X11_251 rfl dX11_isClosed_4 rfl ?_
    refine r_icmp_ge_n (tgt := 109) (n := 10) hX p fm (by omega) (by omega) dX11_isClosed_7 (by decide) rfl (fun c7 => ?_) (fun c7 => absurd c7 (by omega))
    refine r_iconst (n := 110) hX 1 dX11_isClosed_109 rfl rfl ?_
    exact r_zreturn hX hR rfl dX11_isClosed_110 ⟨by rw [← he]; rfl, rfl⟩
  | succ m ih =>
    intro p hpm he
    cases hq : u p with
    | none =>
      cases hg : gIn u p fm 0 with
      | none =>
        refine r_iload_n (n := 3) hX dX11_isClosed_2 rfl rfl 1 rfl ?_
        refine r_aload_n (n := 4) hX dX11_isClosed_3 rfl rfl 0 rfl ?_
        refine r_get (n := 7) hX 0 rfl rfl rfl 15 (by decide) lay_X11 fl_X11_251 rfl dX11_isClosed_4 rfl ?_
        refine r_icmp_ge_n (tgt := 109) (n := 10) hX p fm (by omega) (by omega) dX11_isClosed_7 (by decide) rfl (fun c7 => absurd c7 (by omega)) (fun c7 => ?_)
        refine r_aload_n (n := 11) hX dX11_isClosed_10 rfl rfl 0 rfl ?_
        refine r_aload_n (n := 12) hX dX11_isClosed_11 rfl rfl 0 rfl ?_
        refine r_get (n := 15) hX 0 rfl rfl rfl 31 (by decide) lay_X11 fl_X11_77 rfl dX11_isClosed_12 rfl ?_
        refine r_iload_n (n := 16) hX dX11_isClosed_15 rfl rfl 1 rfl ?_
        refine r_callV (n := 19) (av := [.ref (a 31), .int (nI p)]) hX (ct_X11_guest (CxL X) (CxD X) mo a tn tr fm fn mv bg en tk op wn jn cq cm fk fp ck te yn rc kd mk le hp ir ke (a 31) u p hf hu (by omega)) ml_X11_358 cv_X11_guest rfl (by decide) [0, 1] rfl rfl (by decide) 0 rfl rfl rfl rfl rfl (Nat.le_of_ble_eq_true rfl) dX11_isClosed_16 rfl (fun r_ es_ h_ l_ => ?_)
        obtain ⟨rfl, rfl⟩ := h_
        show Aw X [mo, a 31, a 48, a 49, a 50] [ob 11 (.ref (a 0) :: .int (nI tn) :: .int fk :: .int fp :: .ref (a 4) :: .ref (a 5) :: .ref (a 6) :: .ref (a 7) :: .ref (a 8) :: .ref (a 9) :: .ref (a 10) :: .ref (a 11) :: .ref (a 12) :: .ref (a 13) :: .int (nI tr) :: .int (nI fm) :: .int ck :: .int te :: .int (nI fn) :: .ref (a 19) :: .ref (a 20) :: .ref (a 21) :: .ref (a 22) :: .ref (a 23) :: .ref (a 24) :: .ref (a 25) :: .ref (a 26) :: .ref (a 27) :: .int (b2 hp) :: .int yn :: .int (b2 ir) :: .ref (a 31) :: .int rc :: .ref (a 33) :: .int (nI mv) :: .int kd :: .int (nI bg) :: .int (nI en) :: .int mk :: .long le :: .int (nI tk) :: .int (nI op) :: .ref (a 42) :: .int (nI wn) :: .ref (a 44) :: .int (nI jn) :: .ref (a 46) :: .ref (a 47) :: .ref (a 48) :: .ref (a 49) :: .ref (a 50) :: .ref (a 51) :: .int (b2 ke) :: .ref (a 53) :: .ref (a 54) :: .ref (a 55) :: .int (nI cq) :: .int (nI cm) :: []), aI (CxD X) 12 (opf u), aI (CxD X) 144 (nf my), aZ (CxD X) 12 (zf tr_), aZ (CxD X) 12 (zf gv)] 19 [(0, .ref mo), (1, .int (nI p))] [.int (eo (gIn u p fm 0))]
        refine r_if_lt_o (tgt := 26) (n := 22) (x := gIn u p fm 0) hX (fun r e => Nat.lt_trans (gIn_lt _ _ _ _ r e) (by omega)) dX11_isClosed_19 (by decide) rfl (fun c19 => ?_) (fun c19 => absurd c19 (fun e => e hg))
        refine r_iconst (n := 27) hX 0 dX11_isClosed_26 rfl rfl ?_
        refine r_istore_n (n := 28) hX [(0, .ref mo), (1, .int (nI p)), (2, .int 0)] dX11_isClosed_27 rfl rfl (by decide) rfl ?_
        refine r_aload_n (n := 29) hX dX11_isClosed_28 rfl rfl 0 rfl ?_
        refine r_get (n := 32) hX 0 rfl rfl rfl 31 (by decide) lay_X11 fl_X11_77 rfl dX11_isClosed_29 rfl ?_
        refine r_iload_n (n := 33) hX dX11_isClosed_32 rfl rfl 1 rfl ?_
        refine r_ialdOn (n := 34) (i := p) hX 1 rfl rfl (by omega) (by decide) dX11_isClosed_33 rfl ?_
        refine r_if_lt_o (tgt := 41) (n := 37) (x := u p) hX hu.b dX11_isClosed_34 (by decide) rfl (fun c34 => ?_) (fun c34 => absurd c34 (fun e => e hq))
        refine r_iconst (n := 42) hX 0 dX11_isClosed_41 rfl rfl ?_
        refine r_istore_n (n := 43) hX [(0, .ref mo), (1, .int (nI p)), (2, .int 0), (3, .int 0)] dX11_isClosed_42 rfl rfl (by decide) rfl ?_
        refine r_iload_n (n := 44) hX dX11_isClosed_43 rfl rfl 3 rfl ?_
        refine r_if_eq (tgt := 84) (n := 47) hX dX11_isClosed_44 (by decide) rfl (fun _ => ?_) (fun h => False.elim (by revert h; decide))
        refine r_iload_n (n := 85) hX dX11_isClosed_84 rfl rfl 2 rfl ?_
        refine r_if_eq (tgt := 103) (n := 88) hX dX11_isClosed_85 (by decide) rfl (fun _ => ?_) (fun h => False.elim (by revert h; decide))
        refine r_iinc (n := 106) hX (nI (p + 1)) [(0, .ref mo), (1, .int (nI (p + 1))), (2, .int 0), (3, .int 0)] dX11_isClosed_103 rfl 1 rfl (nI_add _ _) (by decide) rfl ?_
        refine r_goto (tgt := 2) hX dX11_isClosed_106 (by decide) ?_
        refine Aw.loc (lv' := [(0, .ref mo), (1, .int (nI (p + 1)))]) [0, 1] rfl ?_
        exact ih (p + 1) (by omega) (by rw [← he]; simp only [mClo, hq, hg, if_true, if_false, Bool.false_eq_true, reduceCtorEq])
      | some g =>
        refine r_iload_n (n := 3) hX dX11_isClosed_2 rfl rfl 1 rfl ?_
        refine r_aload_n (n := 4) hX dX11_isClosed_3 rfl rfl 0 rfl ?_
        refine r_get (n := 7) hX 0 rfl rfl rfl 15 (by decide) lay_X11 fl_X11_251 rfl dX11_isClosed_4 rfl ?_
        refine r_icmp_ge_n (tgt := 109) (n := 10) hX p fm (by omega) (by omega) dX11_isClosed_7 (by decide) rfl (fun c7 => absurd c7 (by omega)) (fun c7 => ?_)
        refine r_aload_n (n := 11) hX dX11_isClosed_10 rfl rfl 0 rfl ?_
        refine r_aload_n (n := 12) hX dX11_isClosed_11 rfl rfl 0 rfl ?_
        refine r_get (n := 15) hX 0 rfl rfl rfl 31 (by decide) lay_X11 fl_X11_77 rfl dX11_isClosed_12 rfl ?_
        refine r_iload_n (n := 16) hX dX11_isClosed_15 rfl rfl 1 rfl ?_
        refine r_callV (n := 19) (av := [.ref (a 31), .int (nI p)]) hX (ct_X11_guest (CxL X) (CxD X) mo a tn tr fm fn mv bg en tk op wn jn cq cm fk fp ck te yn rc kd mk le hp ir ke (a 31) u p hf hu (by omega)) ml_X11_358 cv_X11_guest rfl (by decide) [0, 1] rfl rfl (by decide) 0 rfl rfl rfl rfl rfl (Nat.le_of_ble_eq_true rfl) dX11_isClosed_16 rfl (fun r_ es_ h_ l_ => ?_)
        obtain ⟨rfl, rfl⟩ := h_
        show Aw X [mo, a 31, a 48, a 49, a 50] [ob 11 (.ref (a 0) :: .int (nI tn) :: .int fk :: .int fp :: .ref (a 4) :: .ref (a 5) :: .ref (a 6) :: .ref (a 7) :: .ref (a 8) :: .ref (a 9) :: .ref (a 10) :: .ref (a 11) :: .ref (a 12) :: .ref (a 13) :: .int (nI tr) :: .int (nI fm) :: .int ck :: .int te :: .int (nI fn) :: .ref (a 19) :: .ref (a 20) :: .ref (a 21) :: .ref (a 22) :: .ref (a 23) :: .ref (a 24) :: .ref (a 25) :: .ref (a 26) :: .ref (a 27) :: .int (b2 hp) :: .int yn :: .int (b2 ir) :: .ref (a 31) :: .int rc :: .ref (a 33) :: .int (nI mv) :: .int kd :: .int (nI bg) :: .int (nI en) :: .int mk :: .long le :: .int (nI tk) :: .int (nI op) :: .ref (a 42) :: .int (nI wn) :: .ref (a 44) :: .int (nI jn) :: .ref (a 46) :: .ref (a 47) :: .ref (a 48) :: .ref (a 49) :: .ref (a 50) :: .ref (a 51) :: .int (b2 ke) :: .ref (a 53) :: .ref (a 54) :: .ref (a 55) :: .int (nI cq) :: .int (nI cm) :: []), aI (CxD X) 12 (opf u), aI (CxD X) 144 (nf my), aZ (CxD X) 12 (zf tr_), aZ (CxD X) 12 (zf gv)] 19 [(0, .ref mo), (1, .int (nI p))] [.int (eo (gIn u p fm 0))]
        refine r_if_lt_o (tgt := 26) (n := 22) (x := gIn u p fm 0) hX (fun r e => Nat.lt_trans (gIn_lt _ _ _ _ r e) (by omega)) dX11_isClosed_19 (by decide) rfl (fun c19 => absurd c19 (fun e => by rw [hg] at e; cases e)) (fun c19 => ?_)
        refine r_iconst (n := 23) hX 1 dX11_isClosed_22 rfl rfl ?_
        refine r_goto (tgt := 27) hX dX11_isClosed_23 (by decide) ?_
        refine r_istore_n (n := 28) hX [(0, .ref mo), (1, .int (nI p)), (2, .int 1)] dX11_isClosed_27 rfl rfl (by decide) rfl ?_
        refine r_aload_n (n := 29) hX dX11_isClosed_28 rfl rfl 0 rfl ?_
        refine r_get (n := 32) hX 0 rfl rfl rfl 31 (by decide) lay_X11 fl_X11_77 rfl dX11_isClosed_29 rfl ?_
        refine r_iload_n (n := 33) hX dX11_isClosed_32 rfl rfl 1 rfl ?_
        refine r_ialdOn (n := 34) (i := p) hX 1 rfl rfl (by omega) (by decide) dX11_isClosed_33 rfl ?_
        refine r_if_lt_o (tgt := 41) (n := 37) (x := u p) hX hu.b dX11_isClosed_34 (by decide) rfl (fun c34 => ?_) (fun c34 => absurd c34 (fun e => e hq))
        refine r_iconst (n := 42) hX 0 dX11_isClosed_41 rfl rfl ?_
        refine r_istore_n (n := 43) hX [(0, .ref mo), (1, .int (nI p)), (2, .int 1), (3, .int 0)] dX11_isClosed_42 rfl rfl (by decide) rfl ?_
        refine r_iload_n (n := 44) hX dX11_isClosed_43 rfl rfl 3 rfl ?_
        refine r_if_eq (tgt := 84) (n := 47) hX dX11_isClosed_44 (by decide) rfl (fun _ => ?_) (fun h => False.elim (by revert h; decide))
        refine r_iload_n (n := 85) hX dX11_isClosed_84 rfl rfl 2 rfl ?_
        refine r_if_eq (tgt := 103) (n := 88) hX dX11_isClosed_85 (by decide) rfl (fun h => False.elim (by revert h; decide)) (fun _ => ?_)
        refine r_iload_n (n := 89) hX dX11_isClosed_88 rfl rfl 3 rfl ?_
        refine r_if_ne (tgt := 103) (n := 92) hX dX11_isClosed_89 (by decide) rfl (fun h => False.elim (by revert h; decide)) (fun _ => ?_)
        refine r_aload_n (n := 93) hX dX11_isClosed_92 rfl rfl 0 rfl ?_
        refine r_get (n := 96) hX 0 rfl rfl rfl 50 (by decide) lay_X11 fl_X11_101 rfl dX11_isClosed_93 rfl ?_
        refine r_iload_n (n := 97) hX dX11_isClosed_96 rfl rfl 1 rfl ?_
        refine r_zaldbn (n := 98) (i := p) hX 4 rfl rfl (by omega) (by decide) dX11_isClosed_97 rfl ?_
        refine r_if_ne_b (tgt := 103) (n := 101) hX dX11_isClosed_98 (by decide) rfl (fun c98 => ?_) (fun c98 => ?_)
        · skip
          refine r_iinc (n := 106) hX (nI (p + 1)) [(0, .ref mo), (1, .int (nI (p + 1))), (2, .int 1), (3, .int 0)] dX11_isClosed_103 rfl 1 rfl (nI_add _ _) (by decide) rfl ?_
          refine r_goto (tgt := 2) hX dX11_isClosed_106 (by decide) ?_
          refine Aw.loc (lv' := [(0, .ref mo), (1, .int (nI (p + 1)))]) [0, 1] rfl ?_
          exact ih (p + 1) (by omega) (by rw [← he]; simp only [mClo, hq, hg, c98, if_true, if_false, Bool.false_eq_true, reduceCtorEq])
        · skip
          refine r_iconst (n := 102) hX 0 dX11_isClosed_101 rfl rfl ?_
          exact r_zreturn hX hR rfl dX11_isClosed_102 ⟨by rw [← he]; simp only [mClo, hq, hg, c98, if_true, if_false, Bool.false_eq_true, reduceCtorEq]; rfl, rfl⟩
    | some h =>
      have hh12 := hu p h hq
      cases hg : gIn u p fm 0 with
      | none =>
        refine r_iload_n (n := 3) hX dX11_isClosed_2 rfl rfl 1 rfl ?_
        refine r_aload_n (n := 4) hX dX11_isClosed_3 rfl rfl 0 rfl ?_
        refine r_get (n := 7) hX 0 rfl rfl rfl 15 (by decide) lay_X11 fl_X11_251 rfl dX11_isClosed_4 rfl ?_
        refine r_icmp_ge_n (tgt := 109) (n := 10) hX p fm (by omega) (by omega) dX11_isClosed_7 (by decide) rfl (fun c7 => absurd c7 (by omega)) (fun c7 => ?_)
        refine r_aload_n (n := 11) hX dX11_isClosed_10 rfl rfl 0 rfl ?_
        refine r_aload_n (n := 12) hX dX11_isClosed_11 rfl rfl 0 rfl ?_
        refine r_get (n := 15) hX 0 rfl rfl rfl 31 (by decide) lay_X11 fl_X11_77 rfl dX11_isClosed_12 rfl ?_
        refine r_iload_n (n := 16) hX dX11_isClosed_15 rfl rfl 1 rfl ?_
        refine r_callV (n := 19) (av := [.ref (a 31), .int (nI p)]) hX (ct_X11_guest (CxL X) (CxD X) mo a tn tr fm fn mv bg en tk op wn jn cq cm fk fp ck te yn rc kd mk le hp ir ke (a 31) u p hf hu (by omega)) ml_X11_358 cv_X11_guest rfl (by decide) [0, 1] rfl rfl (by decide) 0 rfl rfl rfl rfl rfl (Nat.le_of_ble_eq_true rfl) dX11_isClosed_16 rfl (fun r_ es_ h_ l_ => ?_)
        obtain ⟨rfl, rfl⟩ := h_
        show Aw X [mo, a 31, a 48, a 49, a 50] [ob 11 (.ref (a 0) :: .int (nI tn) :: .int fk :: .int fp :: .ref (a 4) :: .ref (a 5) :: .ref (a 6) :: .ref (a 7) :: .ref (a 8) :: .ref (a 9) :: .ref (a 10) :: .ref (a 11) :: .ref (a 12) :: .ref (a 13) :: .int (nI tr) :: .int (nI fm) :: .int ck :: .int te :: .int (nI fn) :: .ref (a 19) :: .ref (a 20) :: .ref (a 21) :: .ref (a 22) :: .ref (a 23) :: .ref (a 24) :: .ref (a 25) :: .ref (a 26) :: .ref (a 27) :: .int (b2 hp) :: .int yn :: .int (b2 ir) :: .ref (a 31) :: .int rc :: .ref (a 33) :: .int (nI mv) :: .int kd :: .int (nI bg) :: .int (nI en) :: .int mk :: .long le :: .int (nI tk) :: .int (nI op) :: .ref (a 42) :: .int (nI wn) :: .ref (a 44) :: .int (nI jn) :: .ref (a 46) :: .ref (a 47) :: .ref (a 48) :: .ref (a 49) :: .ref (a 50) :: .ref (a 51) :: .int (b2 ke) :: .ref (a 53) :: .ref (a 54) :: .ref (a 55) :: .int (nI cq) :: .int (nI cm) :: []), aI (CxD X) 12 (opf u), aI (CxD X) 144 (nf my), aZ (CxD X) 12 (zf tr_), aZ (CxD X) 12 (zf gv)] 19 [(0, .ref mo), (1, .int (nI p))] [.int (eo (gIn u p fm 0))]
        refine r_if_lt_o (tgt := 26) (n := 22) (x := gIn u p fm 0) hX (fun r e => Nat.lt_trans (gIn_lt _ _ _ _ r e) (by omega)) dX11_isClosed_19 (by decide) rfl (fun c19 => ?_) (fun c19 => absurd c19 (fun e => e hg))
        refine r_iconst (n := 27) hX 0 dX11_isClosed_26 rfl rfl ?_
        refine r_istore_n (n := 28) hX [(0, .ref mo), (1, .int (nI p)), (2, .int 0)] dX11_isClosed_27 rfl rfl (by decide) rfl ?_
        refine r_aload_n (n := 29) hX dX11_isClosed_28 rfl rfl 0 rfl ?_
        refine r_get (n := 32) hX 0 rfl rfl rfl 31 (by decide) lay_X11 fl_X11_77 rfl dX11_isClosed_29 rfl ?_
        refine r_iload_n (n := 33) hX dX11_isClosed_32 rfl rfl 1 rfl ?_
        refine r_ialdOn (n := 34) (i := p) hX 1 rfl rfl (by omega) (by decide) dX11_isClosed_33 rfl ?_
        refine r_if_lt_o (tgt := 41) (n := 37) (x := u p) hX hu.b dX11_isClosed_34 (by decide) rfl (fun c34 => absurd c34 (fun e => by rw [hq] at e; cases e)) (fun c34 => ?_)
        refine r_iconst (n := 38) hX 1 dX11_isClosed_37 rfl rfl ?_
        refine r_goto (tgt := 42) hX dX11_isClosed_38 (by decide) ?_
        refine r_istore_n (n := 43) hX [(0, .ref mo), (1, .int (nI p)), (2, .int 0), (3, .int 1)] dX11_isClosed_42 rfl rfl (by decide) rfl ?_
        refine r_iload_n (n := 44) hX dX11_isClosed_43 rfl rfl 3 rfl ?_
        refine r_if_eq (tgt := 84) (n := 47) hX dX11_isClosed_44 (by decide) rfl (fun h => False.elim (by revert h; decide)) (fun _ => ?_)
        refine r_aload_n (n := 48) hX dX11_isClosed_47 rfl rfl 0 rfl ?_
        refine r_get (n := 51) hX 0 rfl rfl rfl 48 (by decide) lay_X11 fl_X11_95 rfl dX11_isClosed_48 rfl ?_
        refine r_bipush (n := 53) hX 12 dX11_isClosed_51 rfl rfl ?_
        refine r_iload_n (n := 54) hX dX11_isClosed_53 rfl rfl 1 rfl ?_
        refine r_imul (n := 55) hX dX11_isClosed_54 rfl ?_
        refine Aw.topi (nI (12 * p)) (pk_mul _ _) ?_
        refine r_aload_n (n := 56) hX dX11_isClosed_55 rfl rfl 0 rfl ?_
        refine r_get (n := 59) hX 0 rfl rfl rfl 31 (by decide) lay_X11 fl_X11_77 rfl dX11_isClosed_56 rfl ?_
        refine r_iload_n (n := 60) hX dX11_isClosed_59 rfl rfl 1 rfl ?_
        refine r_ialdOn (n := 61) (i := p) hX 1 rfl rfl (by omega) (by decide) dX11_isClosed_60 rfl ?_
        refine Aw.topi (nI h) (by rw [hq]; rfl) ?_
        refine r_iadd (n := 62) hX dX11_isClosed_61 rfl ?_
        refine Aw.topi (nI ((12 * p) + h)) (nI_add _ _) ?_
        refine r_ialdNn (n := 63) (i := ((12 * p) + h)) hX 2 rfl rfl (by have := hu p h hq; omega) (by decide) dX11_isClosed_62 rfl ?_
        refine r_ldcw (n := 66) hX dX11_isClosed_63 rfl kc_X11_303 ?_
        refine r_icmp_eq_n (tgt := 82) (n := 69) hX (my ((12 * p) + h)) 100000000 (by have := hmy (12 * p + h); omega) (by decide) dX11_isClosed_66 (by decide) rfl (fun c66 => ?_) (fun c66 => ?_)
        · skip
          refine r_iconst (n := 83) hX 0 dX11_isClosed_82 rfl rfl ?_
          exact r_zreturn hX hR rfl dX11_isClosed_83 ⟨by rw [← he]; simp only [mClo, hq, hg, c66, if_true, if_false, Bool.false_eq_true, reduceCtorEq]; rfl, rfl⟩
        · skip
          refine r_iload_n (n := 70) hX dX11_isClosed_69 rfl rfl 2 rfl ?_
          refine r_if_ne (tgt := 84) (n := 73) hX dX11_isClosed_70 (by decide) rfl (fun h => False.elim (by revert h; decide)) (fun _ => ?_)
          refine r_aload_n (n := 74) hX dX11_isClosed_73 rfl rfl 0 rfl ?_
          refine r_get (n := 77) hX 0 rfl rfl rfl 49 (by decide) lay_X11 fl_X11_98 rfl dX11_isClosed_74 rfl ?_
          refine r_iload_n (n := 78) hX dX11_isClosed_77 rfl rfl 1 rfl ?_
          refine r_zaldbn (n := 79) (i := p) hX 3 rfl rfl (by omega) (by decide) dX11_isClosed_78 rfl ?_
          refine r_if_ne_b (tgt := 84) (n := 82) hX dX11_isClosed_79 (by decide) rfl (fun c79 => ?_) (fun c79 => ?_)
          · skip
            refine r_iload_n (n := 85) hX dX11_isClosed_84 rfl rfl 2 rfl ?_
            refine r_if_eq (tgt := 103) (n := 88) hX dX11_isClosed_85 (by decide) rfl (fun _ => ?_) (fun h => False.elim (by revert h; decide))
            refine r_iinc (n := 106) hX (nI (p + 1)) [(0, .ref mo), (1, .int (nI (p + 1))), (2, .int 0), (3, .int 1)] dX11_isClosed_103 rfl 1 rfl (nI_add _ _) (by decide) rfl ?_
            refine r_goto (tgt := 2) hX dX11_isClosed_106 (by decide) ?_
            refine Aw.loc (lv' := [(0, .ref mo), (1, .int (nI (p + 1)))]) [0, 1] rfl ?_
            exact ih (p + 1) (by omega) (by rw [← he]; simp only [mClo, hq, hg, c66, c79, if_true, if_false, Bool.false_eq_true, reduceCtorEq])
          · skip
            refine r_iconst (n := 83) hX 0 dX11_isClosed_82 rfl rfl ?_
            exact r_zreturn hX hR rfl dX11_isClosed_83 ⟨by rw [← he]; simp only [mClo, hq, hg, c66, c79, if_true, if_false, Bool.false_eq_true, reduceCtorEq]; rfl, rfl⟩
      | some g =>
        refine r_iload_n (n := 3) hX dX11_isClosed_2 rfl rfl 1 rfl ?_
        refine r_aload_n (n := 4) hX dX11_isClosed_3 rfl rfl 0 rfl ?_
        refine r_get (n := 7) hX 0 rfl rfl rfl 15 (by decide) lay_X11 fl_X11_251 rfl dX11_isClosed_4 rfl ?_
        refine r_icmp_ge_n (tgt := 109) (n := 10) hX p fm (by omega) (by omega) dX11_isClosed_7 (by decide) rfl (fun c7 => absurd c7 (by omega)) (fun c7 => ?_)
        refine r_aload_n (n := 11) hX dX11_isClosed_10 rfl rfl 0 rfl ?_
        refine r_aload_n (n := 12) hX dX11_isClosed_11 rfl rfl 0 rfl ?_
        refine r_get (n := 15) hX 0 rfl rfl rfl 31 (by decide) lay_X11 fl_X11_77 rfl dX11_isClosed_12 rfl ?_
        refine r_iload_n (n := 16) hX dX11_isClosed_15 rfl rfl 1 rfl ?_
        refine r_callV (n := 19) (av := [.ref (a 31), .int (nI p)]) hX (ct_X11_guest (CxL X) (CxD X) mo a tn tr fm fn mv bg en tk op wn jn cq cm fk fp ck te yn rc kd mk le hp ir ke (a 31) u p hf hu (by omega)) ml_X11_358 cv_X11_guest rfl (by decide) [0, 1] rfl rfl (by decide) 0 rfl rfl rfl rfl rfl (Nat.le_of_ble_eq_true rfl) dX11_isClosed_16 rfl (fun r_ es_ h_ l_ => ?_)
        obtain ⟨rfl, rfl⟩ := h_
        show Aw X [mo, a 31, a 48, a 49, a 50] [ob 11 (.ref (a 0) :: .int (nI tn) :: .int fk :: .int fp :: .ref (a 4) :: .ref (a 5) :: .ref (a 6) :: .ref (a 7) :: .ref (a 8) :: .ref (a 9) :: .ref (a 10) :: .ref (a 11) :: .ref (a 12) :: .ref (a 13) :: .int (nI tr) :: .int (nI fm) :: .int ck :: .int te :: .int (nI fn) :: .ref (a 19) :: .ref (a 20) :: .ref (a 21) :: .ref (a 22) :: .ref (a 23) :: .ref (a 24) :: .ref (a 25) :: .ref (a 26) :: .ref (a 27) :: .int (b2 hp) :: .int yn :: .int (b2 ir) :: .ref (a 31) :: .int rc :: .ref (a 33) :: .int (nI mv) :: .int kd :: .int (nI bg) :: .int (nI en) :: .int mk :: .long le :: .int (nI tk) :: .int (nI op) :: .ref (a 42) :: .int (nI wn) :: .ref (a 44) :: .int (nI jn) :: .ref (a 46) :: .ref (a 47) :: .ref (a 48) :: .ref (a 49) :: .ref (a 50) :: .ref (a 51) :: .int (b2 ke) :: .ref (a 53) :: .ref (a 54) :: .ref (a 55) :: .int (nI cq) :: .int (nI cm) :: []), aI (CxD X) 12 (opf u), aI (CxD X) 144 (nf my), aZ (CxD X) 12 (zf tr_), aZ (CxD X) 12 (zf gv)] 19 [(0, .ref mo), (1, .int (nI p))] [.int (eo (gIn u p fm 0))]
        refine r_if_lt_o (tgt := 26) (n := 22) (x := gIn u p fm 0) hX (fun r e => Nat.lt_trans (gIn_lt _ _ _ _ r e) (by omega)) dX11_isClosed_19 (by decide) rfl (fun c19 => absurd c19 (fun e => by rw [hg] at e; cases e)) (fun c19 => ?_)
        refine r_iconst (n := 23) hX 1 dX11_isClosed_22 rfl rfl ?_
        refine r_goto (tgt := 27) hX dX11_isClosed_23 (by decide) ?_
        refine r_istore_n (n := 28) hX [(0, .ref mo), (1, .int (nI p)), (2, .int 1)] dX11_isClosed_27 rfl rfl (by decide) rfl ?_
        refine r_aload_n (n := 29) hX dX11_isClosed_28 rfl rfl 0 rfl ?_
        refine r_get (n := 32) hX 0 rfl rfl rfl 31 (by decide) lay_X11 fl_X11_77 rfl dX11_isClosed_29 rfl ?_
        refine r_iload_n (n := 33) hX dX11_isClosed_32 rfl rfl 1 rfl ?_
        refine r_ialdOn (n := 34) (i := p) hX 1 rfl rfl (by omega) (by decide) dX11_isClosed_33 rfl ?_
        refine r_if_lt_o (tgt := 41) (n := 37) (x := u p) hX hu.b dX11_isClosed_34 (by decide) rfl (fun c34 => absurd c34 (fun e => by rw [hq] at e; cases e)) (fun c34 => ?_)
        refine r_iconst (n := 38) hX 1 dX11_isClosed_37 rfl rfl ?_
        refine r_goto (tgt := 42) hX dX11_isClosed_38 (by decide) ?_
        refine r_istore_n (n := 43) hX [(0, .ref mo), (1, .int (nI p)), (2, .int 1), (3, .int 1)] dX11_isClosed_42 rfl rfl (by decide) rfl ?_
        refine r_iload_n (n := 44) hX dX11_isClosed_43 rfl rfl 3 rfl ?_
        refine r_if_eq (tgt := 84) (n := 47) hX dX11_isClosed_44 (by decide) rfl (fun h => False.elim (by revert h; decide)) (fun _ => ?_)
        refine r_aload_n (n := 48) hX dX11_isClosed_47 rfl rfl 0 rfl ?_
        refine r_get (n := 51) hX 0 rfl rfl rfl 48 (by decide) lay_X11 fl_X11_95 rfl dX11_isClosed_48 rfl ?_
        refine r_bipush (n := 53) hX 12 dX11_isClosed_51 rfl rfl ?_
        refine r_iload_n (n := 54) hX dX11_isClosed_53 rfl rfl 1 rfl ?_
        refine r_imul (n := 55) hX dX11_isClosed_54 rfl ?_
        refine Aw.topi (nI (12 * p)) (pk_mul _ _) ?_
        refine r_aload_n (n := 56) hX dX11_isClosed_55 rfl rfl 0 rfl ?_
        refine r_get (n := 59) hX 0 rfl rfl rfl 31 (by decide) lay_X11 fl_X11_77 rfl dX11_isClosed_56 rfl ?_
        refine r_iload_n (n := 60) hX dX11_isClosed_59 rfl rfl 1 rfl ?_
        refine r_ialdOn (n := 61) (i := p) hX 1 rfl rfl (by omega) (by decide) dX11_isClosed_60 rfl ?_
        refine Aw.topi (nI h) (by rw [hq]; rfl) ?_
        refine r_iadd (n := 62) hX dX11_isClosed_61 rfl ?_
        refine Aw.topi (nI ((12 * p) + h)) (nI_add _ _) ?_
        refine r_ialdNn (n := 63) (i := ((12 * p) + h)) hX 2 rfl rfl (by have := hu p h hq; omega) (by decide) dX11_isClosed_62 rfl ?_
        refine r_ldcw (n := 66) hX dX11_isClosed_63 rfl kc_X11_303 ?_
        refine r_icmp_eq_n (tgt := 82) (n := 69) hX (my ((12 * p) + h)) 100000000 (by have := hmy (12 * p + h); omega) (by decide) dX11_isClosed_66 (by decide) rfl (fun c66 => ?_) (fun c66 => ?_)
        · skip
          refine r_iconst (n := 83) hX 0 dX11_isClosed_82 rfl rfl ?_
          exact r_zreturn hX hR rfl dX11_isClosed_83 ⟨by rw [← he]; simp only [mClo, hq, hg, c66, if_true, if_false, Bool.false_eq_true, reduceCtorEq]; rfl, rfl⟩
        · skip
          refine r_iload_n (n := 70) hX dX11_isClosed_69 rfl rfl 2 rfl ?_
          refine r_if_ne (tgt := 84) (n := 73) hX dX11_isClosed_70 (by decide) rfl (fun _ => ?_) (fun h => False.elim (by revert h; decide))
          refine r_iload_n (n := 85) hX dX11_isClosed_84 rfl rfl 2 rfl ?_
          refine r_if_eq (tgt := 103) (n := 88) hX dX11_isClosed_85 (by decide) rfl (fun h => False.elim (by revert h; decide)) (fun _ => ?_)
          refine r_iload_n (n := 89) hX dX11_isClosed_88 rfl rfl 3 rfl ?_
          refine r_if_ne (tgt := 103) (n := 92) hX dX11_isClosed_89 (by decide) rfl (fun _ => ?_) (fun h => False.elim (by revert h; decide))
          refine r_iinc (n := 106) hX (nI (p + 1)) [(0, .ref mo), (1, .int (nI (p + 1))), (2, .int 1), (3, .int 1)] dX11_isClosed_103 rfl 1 rfl (nI_add _ _) (by decide) rfl ?_
          refine r_goto (tgt := 2) hX dX11_isClosed_106 (by decide) ?_
          refine Aw.loc (lv' := [(0, .ref mo), (1, .int (nI (p + 1)))]) [0, 1] rfl ?_
          exact ih (p + 1) (by omega) (by rw [← he]; simp only [mClo, hq, hg, c66, if_true, if_false, Bool.false_eq_true, reduceCtorEq])
set_option maxHeartbeats 1000000 in
set_option maxRecDepth 100000 in
theorem wk_X11_isClosed {X : Cx} (hX : Ok X cX11_isClosed 4 RX11 1) (mo : Nat) (a : Nat → Nat) (tn tr fm fn mv bg en tk op wn jn cq cm : Nat) (fk fp ck te yn rc kd mk : Int32) (le : Int64) (hp ir ke : Bool) (u : Nat → Option Nat) (my : Nat → Nat) (tr_ gv : Nat → Bool) (hf : fm ≤ 12) (hu : obd u) (hmy : myOk my) (hR : Rt X (some FieldType.boolean) (fun r es' => r = some (.int (b2 (mClo my tr_ gv u fm fm 0))) ∧ es' = [ob 11 (.ref (a 0) :: .int (nI tn) :: .int fk :: .int fp :: .ref (a 4) :: .ref (a 5) :: .ref (a 6) :: .ref (a 7) :: .ref (a 8) :: .ref (a 9) :: .ref (a 10) :: .ref (a 11) :: .ref (a 12) :: .ref (a 13) :: .int (nI tr) :: .int (nI fm) :: .int ck :: .int te :: .int (nI fn) :: .ref (a 19) :: .ref (a 20) :: .ref (a 21) :: .ref (a 22) :: .ref (a 23) :: .ref (a 24) :: .ref (a 25) :: .ref (a 26) :: .ref (a 27) :: .int (b2 hp) :: .int yn :: .int (b2 ir) :: .ref (a 31) :: .int rc :: .ref (a 33) :: .int (nI mv) :: .int kd :: .int (nI bg) :: .int (nI en) :: .int mk :: .long le :: .int (nI tk) :: .int (nI op) :: .ref (a 42) :: .int (nI wn) :: .ref (a 44) :: .int (nI jn) :: .ref (a 46) :: .ref (a 47) :: .ref (a 48) :: .ref (a 49) :: .ref (a 50) :: .ref (a 51) :: .int (b2 ke) :: .ref (a 53) :: .ref (a 54) :: .ref (a 55) :: .int (nI cq) :: .int (nI cm) :: []), aI (CxD X) 12 (opf u), aI (CxD X) 144 (nf my), aZ (CxD X) 12 (zf tr_), aZ (CxD X) 12 (zf gv)]) [mo, a 31, a 48, a 49, a 50]) : Aw X [mo, a 31, a 48, a 49, a 50] [ob 11 (.ref (a 0) :: .int (nI tn) :: .int fk :: .int fp :: .ref (a 4) :: .ref (a 5) :: .ref (a 6) :: .ref (a 7) :: .ref (a 8) :: .ref (a 9) :: .ref (a 10) :: .ref (a 11) :: .ref (a 12) :: .ref (a 13) :: .int (nI tr) :: .int (nI fm) :: .int ck :: .int te :: .int (nI fn) :: .ref (a 19) :: .ref (a 20) :: .ref (a 21) :: .ref (a 22) :: .ref (a 23) :: .ref (a 24) :: .ref (a 25) :: .ref (a 26) :: .ref (a 27) :: .int (b2 hp) :: .int yn :: .int (b2 ir) :: .ref (a 31) :: .int rc :: .ref (a 33) :: .int (nI mv) :: .int kd :: .int (nI bg) :: .int (nI en) :: .int mk :: .long le :: .int (nI tk) :: .int (nI op) :: .ref (a 42) :: .int (nI wn) :: .ref (a 44) :: .int (nI jn) :: .ref (a 46) :: .ref (a 47) :: .ref (a 48) :: .ref (a 49) :: .ref (a 50) :: .ref (a 51) :: .int (b2 ke) :: .ref (a 53) :: .ref (a 54) :: .ref (a 55) :: .int (nI cq) :: .int (nI cm) :: []), aI (CxD X) 12 (opf u), aI (CxD X) 144 (nf my), aZ (CxD X) 12 (zf tr_), aZ (CxD X) 12 (zf gv)] 0 [(0, .ref mo)] [] := by
  refine r_iconst (n := 1) hX 0 dX11_isClosed_0 rfl rfl ?_
  refine r_istore_n (n := 2) hX [(0, .ref mo), (1, .int 0)] dX11_isClosed_1 rfl rfl (by decide) rfl ?_
  exact lp_closed hX mo a tn tr fm fn mv bg en tk op wn jn cq cm fk fp ck te yn rc kd mk le hp ir ke u my tr_ gv hf hu hmy hR fm 0 (by omega) rfl
theorem ct_X11_isClosed (l : Launch) (D : va_G) (mo : Nat) (a : Nat → Nat) (tn tr fm fn mv bg en tk op wn jn cq cm : Nat) (fk fp ck te yn rc kd mk : Int32) (le : Int64) (hp ir ke : Bool) (u : Nat → Option Nat) (my : Nat → Nat) (tr_ gv : Nat → Bool) (hf : fm ≤ 12) (hu : obd u) (hmy : myOk my) : Ct l D m_X11_isClosed 1 [.ref mo] [mo, a 31, a 48, a 49, a 50] [ob 11 (.ref (a 0) :: .int (nI tn) :: .int fk :: .int fp :: .ref (a 4) :: .ref (a 5) :: .ref (a 6) :: .ref (a 7) :: .ref (a 8) :: .ref (a 9) :: .ref (a 10) :: .ref (a 11) :: .ref (a 12) :: .ref (a 13) :: .int (nI tr) :: .int (nI fm) :: .int ck :: .int te :: .int (nI fn) :: .ref (a 19) :: .ref (a 20) :: .ref (a 21) :: .ref (a 22) :: .ref (a 23) :: .ref (a 24) :: .ref (a 25) :: .ref (a 26) :: .ref (a 27) :: .int (b2 hp) :: .int yn :: .int (b2 ir) :: .ref (a 31) :: .int rc :: .ref (a 33) :: .int (nI mv) :: .int kd :: .int (nI bg) :: .int (nI en) :: .int mk :: .long le :: .int (nI tk) :: .int (nI op) :: .ref (a 42) :: .int (nI wn) :: .ref (a 44) :: .int (nI jn) :: .ref (a 46) :: .ref (a 47) :: .ref (a 48) :: .ref (a 49) :: .ref (a 50) :: .ref (a 51) :: .int (b2 ke) :: .ref (a 53) :: .ref (a 54) :: .ref (a 55) :: .int (nI cq) :: .int (nI cm) :: []), aI D 12 (opf u), aI D 144 (nf my), aZ D 12 (zf tr_), aZ D 12 (zf gv)] (fun r es' => r = some (.int (b2 (mClo my tr_ gv u fm fm 0))) ∧ es' = [ob 11 (.ref (a 0) :: .int (nI tn) :: .int fk :: .int fp :: .ref (a 4) :: .ref (a 5) :: .ref (a 6) :: .ref (a 7) :: .ref (a 8) :: .ref (a 9) :: .ref (a 10) :: .ref (a 11) :: .ref (a 12) :: .ref (a 13) :: .int (nI tr) :: .int (nI fm) :: .int ck :: .int te :: .int (nI fn) :: .ref (a 19) :: .ref (a 20) :: .ref (a 21) :: .ref (a 22) :: .ref (a 23) :: .ref (a 24) :: .ref (a 25) :: .ref (a 26) :: .ref (a 27) :: .int (b2 hp) :: .int yn :: .int (b2 ir) :: .ref (a 31) :: .int rc :: .ref (a 33) :: .int (nI mv) :: .int kd :: .int (nI bg) :: .int (nI en) :: .int mk :: .long le :: .int (nI tk) :: .int (nI op) :: .ref (a 42) :: .int (nI wn) :: .ref (a 44) :: .int (nI jn) :: .ref (a 46) :: .ref (a 47) :: .ref (a 48) :: .ref (a 49) :: .ref (a 50) :: .ref (a 51) :: .int (b2 ke) :: .ref (a 53) :: .ref (a 54) :: .ref (a 55) :: .int (nI cq) :: .int (nI cm) :: []), aI D 12 (opf u), aI D 144 (nf my), aZ D 12 (zf tr_), aZ D 12 (zf gv)]) :=
  Ct.ofA (own := RX11) (by decide) rfl (Nat.le_of_ble_eq_true rfl) rfl (fun X hl hD hX hR => by subst hl; subst hD; exact wk_X11_isClosed hX mo a tn tr fm fn mv bg en tk op wn jn cq cm fk fp ck te yn rc kd mk le hp ir ke u my tr_ gv hf hu hmy hR)
set_option maxHeartbeats 1000000 in
set_option maxRecDepth 100000 in
theorem wk_m_movedN {X : Cx} (hX : Ok X cX11_moved 2 RX11 0) (mo : Nat) (a : Nat → Nat) (tn tr fm fn mv bg en tk op wn jn cq cm : Nat) (fk fp ck te yn rc kd mk : Int32) (le : Int64) (hp ir ke : Bool) (i : Int32) (hb : i < 0 ∨ nI mv ≤ i) (hR : Rt X (some FieldType.int) (fun r es' => r = some (.int (-1)) ∧ es' = [ob 11 (.ref (a 0) :: .int (nI tn) :: .int fk :: .int fp :: .ref (a 4) :: .ref (a 5) :: .ref (a 6) :: .ref (a 7) :: .ref (a 8) :: .ref (a 9) :: .ref (a 10) :: .ref (a 11) :: .ref (a 12) :: .ref (a 13) :: .int (nI tr) :: .int (nI fm) :: .int ck :: .int te :: .int (nI fn) :: .ref (a 19) :: .ref (a 20) :: .ref (a 21) :: .ref (a 22) :: .ref (a 23) :: .ref (a 24) :: .ref (a 25) :: .ref (a 26) :: .ref (a 27) :: .int (b2 hp) :: .int yn :: .int (b2 ir) :: .ref (a 31) :: .int rc :: .ref (a 33) :: .int (nI mv) :: .int kd :: .int (nI bg) :: .int (nI en) :: .int mk :: .long le :: .int (nI tk) :: .int (nI op) :: .ref (a 42) :: .int (nI wn) :: .ref (a 44) :: .int (nI jn) :: .ref (a 46) :: .ref (a 47) :: .ref (a 48) :: .ref (a 49) :: .ref (a 50) :: .ref (a 51) :: .int (b2 ke) :: .ref (a 53) :: .ref (a 54) :: .ref (a 55) :: .int (nI cq) :: .int (nI cm) :: [])]) [mo]) : Aw X [mo] [ob 11 (.ref (a 0) :: .int (nI tn) :: .int fk :: .int fp :: .ref (a 4) :: .ref (a 5) :: .ref (a 6) :: .ref (a 7) :: .ref (a 8) :: .ref (a 9) :: .ref (a 10) :: .ref (a 11) :: .ref (a 12) :: .ref (a 13) :: .int (nI tr) :: .int (nI fm) :: .int ck :: .int te :: .int (nI fn) :: .ref (a 19) :: .ref (a 20) :: .ref (a 21) :: .ref (a 22) :: .ref (a 23) :: .ref (a 24) :: .ref (a 25) :: .ref (a 26) :: .ref (a 27) :: .int (b2 hp) :: .int yn :: .int (b2 ir) :: .ref (a 31) :: .int rc :: .ref (a 33) :: .int (nI mv) :: .int kd :: .int (nI bg) :: .int (nI en) :: .int mk :: .long le :: .int (nI tk) :: .int (nI op) :: .ref (a 42) :: .int (nI wn) :: .ref (a 44) :: .int (nI jn) :: .ref (a 46) :: .ref (a 47) :: .ref (a 48) :: .ref (a 49) :: .ref (a 50) :: .ref (a 51) :: .int (b2 ke) :: .ref (a 53) :: .ref (a 54) :: .ref (a 55) :: .int (nI cq) :: .int (nI cm) :: [])] 0 [(0, .ref mo), (1, .int i)] [] := by
  refine r_iload_n (n := 1) hX dX11_moved_0 rfl rfl 1 rfl ?_
  refine r_if_lt (tgt := 21) (n := 4) hX dX11_moved_1 (by decide) rfl (fun c1 => ?_) (fun c1 => ?_)
  · skip
    refine r_iconst (n := 22) hX (-1) dX11_moved_21 rfl rfl ?_
    exact r_ireturn hX hR dX11_moved_22 ⟨rfl, rfl⟩
  · skip
    refine r_iload_n (n := 5) hX dX11_moved_4 rfl rfl 1 rfl ?_
    refine r_aload_n (n := 6) hX dX11_moved_5 rfl rfl 0 rfl ?_
    refine r_get (n := 9) hX 0 rfl rfl rfl 34 (by decide) lay_X11 fl_X11_372 rfl dX11_moved_6 rfl ?_
    refine r_icmp_ge (tgt := 21) (n := 12) hX dX11_moved_9 (by decide) rfl (fun c9 => ?_) (fun c9 => absurd c9 (fun e => hb.elim c1 e))
    refine r_iconst (n := 22) hX (-1) dX11_moved_21 rfl rfl ?_
    exact r_ireturn hX hR dX11_moved_22 ⟨rfl, rfl⟩
theorem ct_m_movedN (l : Launch) (D : va_G) (mo : Nat) (a : Nat → Nat) (tn tr fm fn mv bg en tk op wn jn cq cm : Nat) (fk fp ck te yn rc kd mk : Int32) (le : Int64) (hp ir ke : Bool) (i : Int32) (hb : i < 0 ∨ nI mv ≤ i) : Ct l D m_X11_moved 0 [.ref mo, .int i] [mo] [ob 11 (.ref (a 0) :: .int (nI tn) :: .int fk :: .int fp :: .ref (a 4) :: .ref (a 5) :: .ref (a 6) :: .ref (a 7) :: .ref (a 8) :: .ref (a 9) :: .ref (a 10) :: .ref (a 11) :: .ref (a 12) :: .ref (a 13) :: .int (nI tr) :: .int (nI fm) :: .int ck :: .int te :: .int (nI fn) :: .ref (a 19) :: .ref (a 20) :: .ref (a 21) :: .ref (a 22) :: .ref (a 23) :: .ref (a 24) :: .ref (a 25) :: .ref (a 26) :: .ref (a 27) :: .int (b2 hp) :: .int yn :: .int (b2 ir) :: .ref (a 31) :: .int rc :: .ref (a 33) :: .int (nI mv) :: .int kd :: .int (nI bg) :: .int (nI en) :: .int mk :: .long le :: .int (nI tk) :: .int (nI op) :: .ref (a 42) :: .int (nI wn) :: .ref (a 44) :: .int (nI jn) :: .ref (a 46) :: .ref (a 47) :: .ref (a 48) :: .ref (a 49) :: .ref (a 50) :: .ref (a 51) :: .int (b2 ke) :: .ref (a 53) :: .ref (a 54) :: .ref (a 55) :: .int (nI cq) :: .int (nI cm) :: [])] (fun r es' => r = some (.int (-1)) ∧ es' = [ob 11 (.ref (a 0) :: .int (nI tn) :: .int fk :: .int fp :: .ref (a 4) :: .ref (a 5) :: .ref (a 6) :: .ref (a 7) :: .ref (a 8) :: .ref (a 9) :: .ref (a 10) :: .ref (a 11) :: .ref (a 12) :: .ref (a 13) :: .int (nI tr) :: .int (nI fm) :: .int ck :: .int te :: .int (nI fn) :: .ref (a 19) :: .ref (a 20) :: .ref (a 21) :: .ref (a 22) :: .ref (a 23) :: .ref (a 24) :: .ref (a 25) :: .ref (a 26) :: .ref (a 27) :: .int (b2 hp) :: .int yn :: .int (b2 ir) :: .ref (a 31) :: .int rc :: .ref (a 33) :: .int (nI mv) :: .int kd :: .int (nI bg) :: .int (nI en) :: .int mk :: .long le :: .int (nI tk) :: .int (nI op) :: .ref (a 42) :: .int (nI wn) :: .ref (a 44) :: .int (nI jn) :: .ref (a 46) :: .ref (a 47) :: .ref (a 48) :: .ref (a 49) :: .ref (a 50) :: .ref (a 51) :: .int (b2 ke) :: .ref (a 53) :: .ref (a 54) :: .ref (a 55) :: .int (nI cq) :: .int (nI cm) :: [])]) :=
  Ct.ofA (own := RX11) (by decide) rfl (Nat.le_of_ble_eq_true rfl) rfl (fun X hl hD hX hR => by subst hl; subst hD; exact wk_m_movedN hX mo a tn tr fm fn mv bg en tk op wn jn cq cm fk fp ck te yn rc kd mk le hp ir ke i hb hR)
set_option maxHeartbeats 1000000 in
set_option maxRecDepth 100000 in
theorem wk_m_moved {X : Cx} (hX : Ok X cX11_moved 2 RX11 0) (mo : Nat) (a : Nat → Nat) (tn tr fm fn mv bg en tk op wn jn cq cm : Nat) (fk fp ck te yn rc kd mk : Int32) (le : Int64) (hp ir ke : Bool) (mn : Nat → Nat) (i : Nat) (hmv : mv ≤ 12) (hi : i < mv) (hR : Rt X (some FieldType.int) (fun r es' => r = some (.int (nI (mn i))) ∧ es' = [ob 11 (.ref (a 0) :: .int (nI tn) :: .int fk :: .int fp :: .ref (a 4) :: .ref (a 5) :: .ref (a 6) :: .ref (a 7) :: .ref (a 8) :: .ref (a 9) :: .ref (a 10) :: .ref (a 11) :: .ref (a 12) :: .ref (a 13) :: .int (nI tr) :: .int (nI fm) :: .int ck :: .int te :: .int (nI fn) :: .ref (a 19) :: .ref (a 20) :: .ref (a 21) :: .ref (a 22) :: .ref (a 23) :: .ref (a 24) :: .ref (a 25) :: .ref (a 26) :: .ref (a 27) :: .int (b2 hp) :: .int yn :: .int (b2 ir) :: .ref (a 31) :: .int rc :: .ref (a 33) :: .int (nI mv) :: .int kd :: .int (nI bg) :: .int (nI en) :: .int mk :: .long le :: .int (nI tk) :: .int (nI op) :: .ref (a 42) :: .int (nI wn) :: .ref (a 44) :: .int (nI jn) :: .ref (a 46) :: .ref (a 47) :: .ref (a 48) :: .ref (a 49) :: .ref (a 50) :: .ref (a 51) :: .int (b2 ke) :: .ref (a 53) :: .ref (a 54) :: .ref (a 55) :: .int (nI cq) :: .int (nI cm) :: []), aI (CxD X) 12 (nf mn)]) [mo, a 33]) : Aw X [mo, a 33] [ob 11 (.ref (a 0) :: .int (nI tn) :: .int fk :: .int fp :: .ref (a 4) :: .ref (a 5) :: .ref (a 6) :: .ref (a 7) :: .ref (a 8) :: .ref (a 9) :: .ref (a 10) :: .ref (a 11) :: .ref (a 12) :: .ref (a 13) :: .int (nI tr) :: .int (nI fm) :: .int ck :: .int te :: .int (nI fn) :: .ref (a 19) :: .ref (a 20) :: .ref (a 21) :: .ref (a 22) :: .ref (a 23) :: .ref (a 24) :: .ref (a 25) :: .ref (a 26) :: .ref (a 27) :: .int (b2 hp) :: .int yn :: .int (b2 ir) :: .ref (a 31) :: .int rc :: .ref (a 33) :: .int (nI mv) :: .int kd :: .int (nI bg) :: .int (nI en) :: .int mk :: .long le :: .int (nI tk) :: .int (nI op) :: .ref (a 42) :: .int (nI wn) :: .ref (a 44) :: .int (nI jn) :: .ref (a 46) :: .ref (a 47) :: .ref (a 48) :: .ref (a 49) :: .ref (a 50) :: .ref (a 51) :: .int (b2 ke) :: .ref (a 53) :: .ref (a 54) :: .ref (a 55) :: .int (nI cq) :: .int (nI cm) :: []), aI (CxD X) 12 (nf mn)] 0 [(0, .ref mo), (1, .int (nI i))] [] := by
  refine r_iload_n (n := 1) hX dX11_moved_0 rfl rfl 1 rfl ?_
  refine r_iflt_n (n := 4) (tgt := 21) hX (by omega) dX11_moved_1 rfl (by decide) ?_
  refine r_iload_n (n := 5) hX dX11_moved_4 rfl rfl 1 rfl ?_
  refine r_aload_n (n := 6) hX dX11_moved_5 rfl rfl 0 rfl ?_
  refine r_get (n := 9) hX 0 rfl rfl rfl 34 (by decide) lay_X11 fl_X11_372 rfl dX11_moved_6 rfl ?_
  refine r_icmp_ge_n (tgt := 21) (n := 12) hX i mv (by omega) (by omega) dX11_moved_9 (by decide) rfl (fun c9 => absurd c9 (by omega)) (fun c9 => ?_)
  refine r_aload_n (n := 13) hX dX11_moved_12 rfl rfl 0 rfl ?_
  refine r_get (n := 16) hX 0 rfl rfl rfl 33 (by decide) lay_X11 fl_X11_80 rfl dX11_moved_13 rfl ?_
  refine r_iload_n (n := 17) hX dX11_moved_16 rfl rfl 1 rfl ?_
  refine r_ialdNn (n := 18) (i := i) hX 1 rfl rfl (by omega) (by decide) dX11_moved_17 rfl ?_
  refine r_goto (tgt := 22) hX dX11_moved_18 (by decide) ?_
  exact r_ireturn hX hR dX11_moved_22 ⟨rfl, rfl⟩
theorem ct_m_moved (l : Launch) (D : va_G) (mo : Nat) (a : Nat → Nat) (tn tr fm fn mv bg en tk op wn jn cq cm : Nat) (fk fp ck te yn rc kd mk : Int32) (le : Int64) (hp ir ke : Bool) (mn : Nat → Nat) (i : Nat) (hmv : mv ≤ 12) (hi : i < mv) : Ct l D m_X11_moved 0 [.ref mo, .int (nI i)] [mo, a 33] [ob 11 (.ref (a 0) :: .int (nI tn) :: .int fk :: .int fp :: .ref (a 4) :: .ref (a 5) :: .ref (a 6) :: .ref (a 7) :: .ref (a 8) :: .ref (a 9) :: .ref (a 10) :: .ref (a 11) :: .ref (a 12) :: .ref (a 13) :: .int (nI tr) :: .int (nI fm) :: .int ck :: .int te :: .int (nI fn) :: .ref (a 19) :: .ref (a 20) :: .ref (a 21) :: .ref (a 22) :: .ref (a 23) :: .ref (a 24) :: .ref (a 25) :: .ref (a 26) :: .ref (a 27) :: .int (b2 hp) :: .int yn :: .int (b2 ir) :: .ref (a 31) :: .int rc :: .ref (a 33) :: .int (nI mv) :: .int kd :: .int (nI bg) :: .int (nI en) :: .int mk :: .long le :: .int (nI tk) :: .int (nI op) :: .ref (a 42) :: .int (nI wn) :: .ref (a 44) :: .int (nI jn) :: .ref (a 46) :: .ref (a 47) :: .ref (a 48) :: .ref (a 49) :: .ref (a 50) :: .ref (a 51) :: .int (b2 ke) :: .ref (a 53) :: .ref (a 54) :: .ref (a 55) :: .int (nI cq) :: .int (nI cm) :: []), aI D 12 (nf mn)] (fun r es' => r = some (.int (nI (mn i))) ∧ es' = [ob 11 (.ref (a 0) :: .int (nI tn) :: .int fk :: .int fp :: .ref (a 4) :: .ref (a 5) :: .ref (a 6) :: .ref (a 7) :: .ref (a 8) :: .ref (a 9) :: .ref (a 10) :: .ref (a 11) :: .ref (a 12) :: .ref (a 13) :: .int (nI tr) :: .int (nI fm) :: .int ck :: .int te :: .int (nI fn) :: .ref (a 19) :: .ref (a 20) :: .ref (a 21) :: .ref (a 22) :: .ref (a 23) :: .ref (a 24) :: .ref (a 25) :: .ref (a 26) :: .ref (a 27) :: .int (b2 hp) :: .int yn :: .int (b2 ir) :: .ref (a 31) :: .int rc :: .ref (a 33) :: .int (nI mv) :: .int kd :: .int (nI bg) :: .int (nI en) :: .int mk :: .long le :: .int (nI tk) :: .int (nI op) :: .ref (a 42) :: .int (nI wn) :: .ref (a 44) :: .int (nI jn) :: .ref (a 46) :: .ref (a 47) :: .ref (a 48) :: .ref (a 49) :: .ref (a 50) :: .ref (a 51) :: .int (b2 ke) :: .ref (a 53) :: .ref (a 54) :: .ref (a 55) :: .int (nI cq) :: .int (nI cm) :: []), aI D 12 (nf mn)]) :=
  Ct.ofA (own := RX11) (by decide) rfl (Nat.le_of_ble_eq_true rfl) rfl (fun X hl hD hX hR => by subst hl; subst hD; exact wk_m_moved hX mo a tn tr fm fn mv bg en tk op wn jn cq cm fk fp ck te yn rc kd mk le hp ir ke mn i hmv hi hR)
set_option maxHeartbeats 1000000 in
set_option maxRecDepth 100000 in
theorem wk_m_linkN {X : Cx} (hX : Ok X cX11_link 5 RX11 1) (mo : Nat) (a : Nat → Nat) (tn tr fm fn mv bg en tk op wn jn cq cm : Nat) (fk fp ck te yn rc kd mk : Int32) (le : Int64) (hp ir ke : Bool) (f i : Int32) (hb : mFam fm f = false ∨ i < 0) (hR : Rt X (some FieldType.int) (fun r es' => r = some (.int (-1)) ∧ es' = [ob 11 (.ref (a 0) :: .int (nI tn) :: .int fk :: .int fp :: .ref (a 4) :: .ref (a 5) :: .ref (a 6) :: .ref (a 7) :: .ref (a 8) :: .ref (a 9) :: .ref (a 10) :: .ref (a 11) :: .ref (a 12) :: .ref (a 13) :: .int (nI tr) :: .int (nI fm) :: .int ck :: .int te :: .int (nI fn) :: .ref (a 19) :: .ref (a 20) :: .ref (a 21) :: .ref (a 22) :: .ref (a 23) :: .ref (a 24) :: .ref (a 25) :: .ref (a 26) :: .ref (a 27) :: .int (b2 hp) :: .int yn :: .int (b2 ir) :: .ref (a 31) :: .int rc :: .ref (a 33) :: .int (nI mv) :: .int kd :: .int (nI bg) :: .int (nI en) :: .int mk :: .long le :: .int (nI tk) :: .int (nI op) :: .ref (a 42) :: .int (nI wn) :: .ref (a 44) :: .int (nI jn) :: .ref (a 46) :: .ref (a 47) :: .ref (a 48) :: .ref (a 49) :: .ref (a 50) :: .ref (a 51) :: .int (b2 ke) :: .ref (a 53) :: .ref (a 54) :: .ref (a 55) :: .int (nI cq) :: .int (nI cm) :: [])]) [mo]) : Aw X [mo] [ob 11 (.ref (a 0) :: .int (nI tn) :: .int fk :: .int fp :: .ref (a 4) :: .ref (a 5) :: .ref (a 6) :: .ref (a 7) :: .ref (a 8) :: .ref (a 9) :: .ref (a 10) :: .ref (a 11) :: .ref (a 12) :: .ref (a 13) :: .int (nI tr) :: .int (nI fm) :: .int ck :: .int te :: .int (nI fn) :: .ref (a 19) :: .ref (a 20) :: .ref (a 21) :: .ref (a 22) :: .ref (a 23) :: .ref (a 24) :: .ref (a 25) :: .ref (a 26) :: .ref (a 27) :: .int (b2 hp) :: .int yn :: .int (b2 ir) :: .ref (a 31) :: .int rc :: .ref (a 33) :: .int (nI mv) :: .int kd :: .int (nI bg) :: .int (nI en) :: .int mk :: .long le :: .int (nI tk) :: .int (nI op) :: .ref (a 42) :: .int (nI wn) :: .ref (a 44) :: .int (nI jn) :: .ref (a 46) :: .ref (a 47) :: .ref (a 48) :: .ref (a 49) :: .ref (a 50) :: .ref (a 51) :: .int (b2 ke) :: .ref (a 53) :: .ref (a 54) :: .ref (a 55) :: .int (nI cq) :: .int (nI cm) :: [])] 0 [(0, .ref mo), (1, .int f), (2, .int i)] [] := by
  refine r_aload_n (n := 1) hX dX11_link_0 rfl rfl 0 rfl ?_
  refine r_iload_n (n := 2) hX dX11_link_1 rfl rfl 1 rfl ?_
  refine r_callV (n := 5) (av := [.int f]) hX (ct_X11_isFamily (CxL X) (CxD X) mo a tn tr fm fn mv bg en tk op wn jn cq cm fk fp ck te yn rc kd mk le hp ir ke f) ml_X11_264 cv_X11_isFamily rfl (by decide) [0] rfl rfl (by decide) 0 rfl rfl rfl rfl rfl (Nat.le_of_ble_eq_true rfl) dX11_link_2 rfl (fun r_ es_ h_ l_ => ?_)
  obtain ⟨rfl, rfl⟩ := h_
  show Aw X [mo] [ob 11 (.ref (a 0) :: .int (nI tn) :: .int fk :: .int fp :: .ref (a 4) :: .ref (a 5) :: .ref (a 6) :: .ref (a 7) :: .ref (a 8) :: .ref (a 9) :: .ref (a 10) :: .ref (a 11) :: .ref (a 12) :: .ref (a 13) :: .int (nI tr) :: .int (nI fm) :: .int ck :: .int te :: .int (nI fn) :: .ref (a 19) :: .ref (a 20) :: .ref (a 21) :: .ref (a 22) :: .ref (a 23) :: .ref (a 24) :: .ref (a 25) :: .ref (a 26) :: .ref (a 27) :: .int (b2 hp) :: .int yn :: .int (b2 ir) :: .ref (a 31) :: .int rc :: .ref (a 33) :: .int (nI mv) :: .int kd :: .int (nI bg) :: .int (nI en) :: .int mk :: .long le :: .int (nI tk) :: .int (nI op) :: .ref (a 42) :: .int (nI wn) :: .ref (a 44) :: .int (nI jn) :: .ref (a 46) :: .ref (a 47) :: .ref (a 48) :: .ref (a 49) :: .ref (a 50) :: .ref (a 51) :: .int (b2 ke) :: .ref (a 53) :: .ref (a 54) :: .ref (a 55) :: .int (nI cq) :: .int (nI cm) :: [])] 5 [(0, .ref mo), (1, .int f), (2, .int i)] [.int (b2 (mFam fm f))]
  refine r_if_eq_b (tgt := 12) (n := 8) hX dX11_link_5 (by decide) rfl (fun c5 => ?_) (fun c5 => ?_)
  · skip
    refine r_iconst (n := 13) hX (-1) dX11_link_12 rfl rfl ?_
    exact r_ireturn hX hR dX11_link_13 ⟨rfl, rfl⟩
  · skip
    refine r_iload_n (n := 9) hX dX11_link_8 rfl rfl 2 rfl ?_
    refine r_if_ge (tgt := 14) (n := 12) hX dX11_link_9 (by decide) rfl (fun c9 => absurd c9 (fun e => hb.elim (fun q => by rw [q] at c5; cases c5) (fun q => Int32.not_lt.mpr e q))) (fun c9 => ?_)
    refine r_iconst (n := 13) hX (-1) dX11_link_12 rfl rfl ?_
    exact r_ireturn hX hR dX11_link_13 ⟨rfl, rfl⟩
theorem ct_m_linkN (l : Launch) (D : va_G) (mo : Nat) (a : Nat → Nat) (tn tr fm fn mv bg en tk op wn jn cq cm : Nat) (fk fp ck te yn rc kd mk : Int32) (le : Int64) (hp ir ke : Bool) (f i : Int32) (hb : mFam fm f = false ∨ i < 0) : Ct l D m_X11_link 1 [.ref mo, .int f, .int i] [mo] [ob 11 (.ref (a 0) :: .int (nI tn) :: .int fk :: .int fp :: .ref (a 4) :: .ref (a 5) :: .ref (a 6) :: .ref (a 7) :: .ref (a 8) :: .ref (a 9) :: .ref (a 10) :: .ref (a 11) :: .ref (a 12) :: .ref (a 13) :: .int (nI tr) :: .int (nI fm) :: .int ck :: .int te :: .int (nI fn) :: .ref (a 19) :: .ref (a 20) :: .ref (a 21) :: .ref (a 22) :: .ref (a 23) :: .ref (a 24) :: .ref (a 25) :: .ref (a 26) :: .ref (a 27) :: .int (b2 hp) :: .int yn :: .int (b2 ir) :: .ref (a 31) :: .int rc :: .ref (a 33) :: .int (nI mv) :: .int kd :: .int (nI bg) :: .int (nI en) :: .int mk :: .long le :: .int (nI tk) :: .int (nI op) :: .ref (a 42) :: .int (nI wn) :: .ref (a 44) :: .int (nI jn) :: .ref (a 46) :: .ref (a 47) :: .ref (a 48) :: .ref (a 49) :: .ref (a 50) :: .ref (a 51) :: .int (b2 ke) :: .ref (a 53) :: .ref (a 54) :: .ref (a 55) :: .int (nI cq) :: .int (nI cm) :: [])] (fun r es' => r = some (.int (-1)) ∧ es' = [ob 11 (.ref (a 0) :: .int (nI tn) :: .int fk :: .int fp :: .ref (a 4) :: .ref (a 5) :: .ref (a 6) :: .ref (a 7) :: .ref (a 8) :: .ref (a 9) :: .ref (a 10) :: .ref (a 11) :: .ref (a 12) :: .ref (a 13) :: .int (nI tr) :: .int (nI fm) :: .int ck :: .int te :: .int (nI fn) :: .ref (a 19) :: .ref (a 20) :: .ref (a 21) :: .ref (a 22) :: .ref (a 23) :: .ref (a 24) :: .ref (a 25) :: .ref (a 26) :: .ref (a 27) :: .int (b2 hp) :: .int yn :: .int (b2 ir) :: .ref (a 31) :: .int rc :: .ref (a 33) :: .int (nI mv) :: .int kd :: .int (nI bg) :: .int (nI en) :: .int mk :: .long le :: .int (nI tk) :: .int (nI op) :: .ref (a 42) :: .int (nI wn) :: .ref (a 44) :: .int (nI jn) :: .ref (a 46) :: .ref (a 47) :: .ref (a 48) :: .ref (a 49) :: .ref (a 50) :: .ref (a 51) :: .int (b2 ke) :: .ref (a 53) :: .ref (a 54) :: .ref (a 55) :: .int (nI cq) :: .int (nI cm) :: [])]) :=
  Ct.ofA (own := RX11) (by decide) rfl (Nat.le_of_ble_eq_true rfl) rfl (fun X hl hD hX hR => by subst hl; subst hD; exact wk_m_linkN hX mo a tn tr fm fn mv bg en tk op wn jn cq cm fk fp ck te yn rc kd mk le hp ir ke f i hb hR)
set_option maxHeartbeats 1000000 in
set_option maxRecDepth 100000 in
theorem lp_link {X : Cx} (hX : Ok X cX11_link 5 RX11 1) (mo : Nat) (a : Nat → Nat) (tn tr fm fn mv bg en tk op wn jn cq cm : Nat) (fk fp ck te yn rc kd mk : Int32) (le : Int64) (hp ir ke : Bool) (hm : Nat → Option Nat) (p i : Nat) (hf : fm ≤ 12) (hh_ : obd hm) (hpf : p < fm) (hi : i < 2 ^ 31) (hR : Rt X (some FieldType.int) (fun r es' => r = some (.int (eo (mLnk hm p i (some p)))) ∧ es' = [ob 11 (.ref (a 0) :: .int (nI tn) :: .int fk :: .int fp :: .ref (a 4) :: .ref (a 5) :: .ref (a 6) :: .ref (a 7) :: .ref (a 8) :: .ref (a 9) :: .ref (a 10) :: .ref (a 11) :: .ref (a 12) :: .ref (a 13) :: .int (nI tr) :: .int (nI fm) :: .int ck :: .int te :: .int (nI fn) :: .ref (a 19) :: .ref (a 20) :: .ref (a 21) :: .ref (a 22) :: .ref (a 23) :: .ref (a 24) :: .ref (a 25) :: .ref (a 26) :: .ref (a 27) :: .int (b2 hp) :: .int yn :: .int (b2 ir) :: .ref (a 31) :: .int rc :: .ref (a 33) :: .int (nI mv) :: .int kd :: .int (nI bg) :: .int (nI en) :: .int mk :: .long le :: .int (nI tk) :: .int (nI op) :: .ref (a 42) :: .int (nI wn) :: .ref (a 44) :: .int (nI jn) :: .ref (a 46) :: .ref (a 47) :: .ref (a 48) :: .ref (a 49) :: .ref (a 50) :: .ref (a 51) :: .int (b2 ke) :: .ref (a 53) :: .ref (a 54) :: .ref (a 55) :: .int (nI cq) :: .int (nI cm) :: []), aI (CxD X) 12 (opf hm)]) [mo, a 23]) : ∀ (m k : Nat) (o : Option Nat), k + m = i → (∀ r, o = some r → r < 12) → mLnk hm p m o = mLnk hm p i (some p) → Aw X [mo, a 23] [ob 11 (.ref (a 0) :: .int (nI tn) :: .int fk :: .int fp :: .ref (a 4) :: .ref (a 5) :: .ref (a 6) :: .ref (a 7) :: .ref (a 8) :: .ref (a 9) :: .ref (a 10) :: .ref (a 11) :: .ref (a 12) :: .ref (a 13) :: .int (nI tr) :: .int (nI fm) :: .int ck :: .int te :: .int (nI fn) :: .ref (a 19) :: .ref (a 20) :: .ref (a 21) :: .ref (a 22) :: .ref (a 23) :: .ref (a 24) :: .ref (a 25) :: .ref (a 26) :: .ref (a 27) :: .int (b2 hp) :: .int yn :: .int (b2 ir) :: .ref (a 31) :: .int rc :: .ref (a 33) :: .int (nI mv) :: .int kd :: .int (nI bg) :: .int (nI en) :: .int mk :: .long le :: .int (nI tk) :: .int (nI op) :: .ref (a 42) :: .int (nI wn) :: .ref (a 44) :: .int (nI jn) :: .ref (a 46) :: .ref (a 47) :: .ref (a 48) :: .ref (a 49) :: .ref (a 50) :: .ref (a 51) :: .int (b2 ke) :: .ref (a 53) :: .ref (a 54) :: .ref (a 55) :: .int (nI cq) :: .int (nI cm) :: []), aI (CxD X) 12 (opf hm)] 19 [(0, .ref mo), (1, .int (nI p)), (2, .int (nI i)), (3, .int (eo o)), (4, .int (nI k))] [] := by
  intro m
  induction m with
  | zero =>
    intro k o hk ho he
    refine r_iload (n := 21) hX dX11_link_19 rfl 4 rfl ?_
    refine r_iload_n (n := 22) hX dX11_link_21 rfl rfl 2 rfl ?_
    refine r_icmp_ge_n (tgt := 53) (n := 25) hX k i (by omega) (by omega) dX11_link_22 (by decide) rfl (fun c22 => ?_) (fun c22 => absurd c22 (by omega))
    refine r_iload_n (n := 54) hX dX11_link_53 rfl rfl 3 rfl ?_
    exact r_ireturn hX hR dX11_link_54 ⟨by rw [← he]; rfl, rfl⟩
  | succ m ih =>
    intro k o hk ho he
    cases o with
    | none =>
      refine r_iload (n := 21) hX dX11_link_19 rfl 4 rfl ?_
      refine r_iload_n (n := 22) hX dX11_link_21 rfl rfl 2 rfl ?_
      refine r_icmp_ge_n (tgt := 53) (n := 25) hX k i (by omega) (by omega) dX11_link_22 (by decide) rfl (fun c22 => absurd c22 (by omega)) (fun c22 => ?_)
      refine r_iload_n (n := 26) hX dX11_link_25 rfl rfl 3 rfl ?_
      refine r_if_lt (tgt := 53) (n := 29) hX dX11_link_26 (by decide) rfl (fun _ => ?_) (fun h => False.elim (by revert h; decide))
      refine r_iload_n (n := 54) hX dX11_link_53 rfl rfl 3 rfl ?_
      exact r_ireturn hX hR dX11_link_54 ⟨by rw [← he]; rfl, rfl⟩
    | some q =>
      have hq12 := ho q rfl
      refine r_iload (n := 21) hX dX11_link_19 rfl 4 rfl ?_
      refine r_iload_n (n := 22) hX dX11_link_21 rfl rfl 2 rfl ?_
      refine r_icmp_ge_n (tgt := 53) (n := 25) hX k i (by omega) (by omega) dX11_link_22 (by decide) rfl (fun c22 => absurd c22 (by omega)) (fun c22 => ?_)
      refine r_iload_n (n := 26) hX dX11_link_25 rfl rfl 3 rfl ?_
      refine r_iflt_n (n := 29) (tgt := 53) hX (by omega) dX11_link_26 rfl (by decide) ?_
      refine r_aload_n (n := 30) hX dX11_link_29 rfl rfl 0 rfl ?_
      refine r_get (n := 33) hX 0 rfl rfl rfl 23 (by decide) lay_X11 fl_X11_62 rfl dX11_link_30 rfl ?_
      refine r_iload_n (n := 34) hX dX11_link_33 rfl rfl 3 rfl ?_
      refine r_ialdOn (n := 35) (i := q) hX 1 rfl rfl (by omega) (by decide) dX11_link_34 rfl ?_
      refine r_istore_n (n := 36) hX [(0, .ref mo), (1, .int (nI p)), (2, .int (nI i)), (3, .int (eo (hm q))), (4, .int (nI k))] dX11_link_35 rfl rfl (by decide) rfl ?_
      refine r_iload_n (n := 37) hX dX11_link_36 rfl rfl 3 rfl ?_
      refine r_iload_n (n := 38) hX dX11_link_37 rfl rfl 1 rfl ?_
      refine r_icmp_ne (tgt := 45) (n := 41) hX dX11_link_38 (by decide) rfl (fun c38 => ?_) (fun c38 => ?_)
      · replace c38 : ¬ hm q = some p := fun z => c38 ((eo_nI hh_.b (by omega)).mpr z)
        refine r_iload_n (n := 46) hX dX11_link_45 rfl rfl 3 rfl ?_
        refine r_istore_n (n := 47) hX [(0, .ref mo), (1, .int (nI p)), (2, .int (nI i)), (3, .int (eo (hm q))), (4, .int (nI k))] dX11_link_46 rfl rfl (by decide) rfl ?_
        refine r_iinc (n := 50) hX (nI (k + 1)) [(0, .ref mo), (1, .int (nI p)), (2, .int (nI i)), (3, .int (eo (hm q))), (4, .int (nI (k + 1)))] dX11_link_47 rfl 4 rfl (nI_add _ _) (by decide) rfl ?_
        refine r_goto (tgt := 19) hX dX11_link_50 (by decide) ?_
        exact ih (k + 1) (hm q) (by omega) (fun r e => hh_ q r e) (by rw [← he, mLnk, if_neg c38])
      · replace c38 := (eo_nI hh_.b (by omega)).mp c38
        refine r_iconst (n := 42) hX (-1) dX11_link_41 rfl rfl ?_
        refine r_goto (tgt := 46) hX dX11_link_42 (by decide) ?_
        refine r_istore_n (n := 47) hX [(0, .ref mo), (1, .int (nI p)), (2, .int (nI i)), (3, .int (-1)), (4, .int (nI k))] dX11_link_46 rfl rfl (by decide) rfl ?_
        refine r_iinc (n := 50) hX (nI (k + 1)) [(0, .ref mo), (1, .int (nI p)), (2, .int (nI i)), (3, .int (-1)), (4, .int (nI (k + 1)))] dX11_link_47 rfl 4 rfl (nI_add _ _) (by decide) rfl ?_
        refine r_goto (tgt := 19) hX dX11_link_50 (by decide) ?_
        exact ih (k + 1) none (by omega) (fun r e => by cases e) (by rw [← he, mLnk, if_pos c38])
set_option maxHeartbeats 1000000 in
set_option maxRecDepth 100000 in
theorem wk_m_link {X : Cx} (hX : Ok X cX11_link 5 RX11 1) (mo : Nat) (a : Nat → Nat) (tn tr fm fn mv bg en tk op wn jn cq cm : Nat) (fk fp ck te yn rc kd mk : Int32) (le : Int64) (hp ir ke : Bool) (hm : Nat → Option Nat) (p i : Nat) (hf : fm ≤ 12) (hh_ : obd hm) (hpf : p < fm) (hi : i < 2 ^ 31) (hR : Rt X (some FieldType.int) (fun r es' => r = some (.int (eo (mLnk hm p i (some p)))) ∧ es' = [ob 11 (.ref (a 0) :: .int (nI tn) :: .int fk :: .int fp :: .ref (a 4) :: .ref (a 5) :: .ref (a 6) :: .ref (a 7) :: .ref (a 8) :: .ref (a 9) :: .ref (a 10) :: .ref (a 11) :: .ref (a 12) :: .ref (a 13) :: .int (nI tr) :: .int (nI fm) :: .int ck :: .int te :: .int (nI fn) :: .ref (a 19) :: .ref (a 20) :: .ref (a 21) :: .ref (a 22) :: .ref (a 23) :: .ref (a 24) :: .ref (a 25) :: .ref (a 26) :: .ref (a 27) :: .int (b2 hp) :: .int yn :: .int (b2 ir) :: .ref (a 31) :: .int rc :: .ref (a 33) :: .int (nI mv) :: .int kd :: .int (nI bg) :: .int (nI en) :: .int mk :: .long le :: .int (nI tk) :: .int (nI op) :: .ref (a 42) :: .int (nI wn) :: .ref (a 44) :: .int (nI jn) :: .ref (a 46) :: .ref (a 47) :: .ref (a 48) :: .ref (a 49) :: .ref (a 50) :: .ref (a 51) :: .int (b2 ke) :: .ref (a 53) :: .ref (a 54) :: .ref (a 55) :: .int (nI cq) :: .int (nI cm) :: []), aI (CxD X) 12 (opf hm)]) [mo, a 23]) : Aw X [mo, a 23] [ob 11 (.ref (a 0) :: .int (nI tn) :: .int fk :: .int fp :: .ref (a 4) :: .ref (a 5) :: .ref (a 6) :: .ref (a 7) :: .ref (a 8) :: .ref (a 9) :: .ref (a 10) :: .ref (a 11) :: .ref (a 12) :: .ref (a 13) :: .int (nI tr) :: .int (nI fm) :: .int ck :: .int te :: .int (nI fn) :: .ref (a 19) :: .ref (a 20) :: .ref (a 21) :: .ref (a 22) :: .ref (a 23) :: .ref (a 24) :: .ref (a 25) :: .ref (a 26) :: .ref (a 27) :: .int (b2 hp) :: .int yn :: .int (b2 ir) :: .ref (a 31) :: .int rc :: .ref (a 33) :: .int (nI mv) :: .int kd :: .int (nI bg) :: .int (nI en) :: .int mk :: .long le :: .int (nI tk) :: .int (nI op) :: .ref (a 42) :: .int (nI wn) :: .ref (a 44) :: .int (nI jn) :: .ref (a 46) :: .ref (a 47) :: .ref (a 48) :: .ref (a 49) :: .ref (a 50) :: .ref (a 51) :: .int (b2 ke) :: .ref (a 53) :: .ref (a 54) :: .ref (a 55) :: .int (nI cq) :: .int (nI cm) :: []), aI (CxD X) 12 (opf hm)] 0 [(0, .ref mo), (1, .int (nI p)), (2, .int (nI i))] [] := by
  refine r_aload_n (n := 1) hX dX11_link_0 rfl rfl 0 rfl ?_
  refine r_iload_n (n := 2) hX dX11_link_1 rfl rfl 1 rfl ?_
  refine r_callV (n := 5) (av := [.int (nI p)]) hX (ct_X11_isFamily (CxL X) (CxD X) mo a tn tr fm fn mv bg en tk op wn jn cq cm fk fp ck te yn rc kd mk le hp ir ke (nI p)) ml_X11_264 cv_X11_isFamily rfl (by decide) [0] rfl rfl (by decide) 0 rfl rfl rfl rfl rfl (Nat.le_of_ble_eq_true rfl) dX11_link_2 rfl (fun r_ es_ h_ l_ => ?_)
  obtain ⟨rfl, rfl⟩ := h_
  show Aw X [mo, a 23] [ob 11 (.ref (a 0) :: .int (nI tn) :: .int fk :: .int fp :: .ref (a 4) :: .ref (a 5) :: .ref (a 6) :: .ref (a 7) :: .ref (a 8) :: .ref (a 9) :: .ref (a 10) :: .ref (a 11) :: .ref (a 12) :: .ref (a 13) :: .int (nI tr) :: .int (nI fm) :: .int ck :: .int te :: .int (nI fn) :: .ref (a 19) :: .ref (a 20) :: .ref (a 21) :: .ref (a 22) :: .ref (a 23) :: .ref (a 24) :: .ref (a 25) :: .ref (a 26) :: .ref (a 27) :: .int (b2 hp) :: .int yn :: .int (b2 ir) :: .ref (a 31) :: .int rc :: .ref (a 33) :: .int (nI mv) :: .int kd :: .int (nI bg) :: .int (nI en) :: .int mk :: .long le :: .int (nI tk) :: .int (nI op) :: .ref (a 42) :: .int (nI wn) :: .ref (a 44) :: .int (nI jn) :: .ref (a 46) :: .ref (a 47) :: .ref (a 48) :: .ref (a 49) :: .ref (a 50) :: .ref (a 51) :: .int (b2 ke) :: .ref (a 53) :: .ref (a 54) :: .ref (a 55) :: .int (nI cq) :: .int (nI cm) :: []), aI (CxD X) 12 (opf hm)] 5 [(0, .ref mo), (1, .int (nI p)), (2, .int (nI i))] [.int (b2 (mFam fm (nI p)))]
  refine r_if_eq_b (tgt := 12) (n := 8) hX dX11_link_5 (by decide) rfl (fun c5 => absurd c5 (by rw [mFam_n hf (by omega), decide_eq_true hpf]; decide)) (fun c5 => ?_)
  refine r_iload_n (n := 9) hX dX11_link_8 rfl rfl 2 rfl ?_
  refine r_ifge_n (tgt := 14) hX (by omega) dX11_link_9 (by decide) ?_
  refine r_iload_n (n := 15) hX dX11_link_14 rfl rfl 1 rfl ?_
  refine r_istore_n (n := 16) hX [(0, .ref mo), (1, .int (nI p)), (2, .int (nI i)), (3, .int (nI p))] dX11_link_15 rfl rfl (by decide) rfl ?_
  refine r_iconst (n := 17) hX 0 dX11_link_16 rfl rfl ?_
  refine r_istore (n := 19) hX [(0, .ref mo), (1, .int (nI p)), (2, .int (nI i)), (3, .int (nI p)), (4, .int 0)] dX11_link_17 rfl (by decide) rfl ?_
  exact lp_link hX mo a tn tr fm fn mv bg en tk op wn jn cq cm fk fp ck te yn rc kd mk le hp ir ke hm p i hf hh_ hpf hi hR i 0 (some p) (by omega) (fun r e => by cases e; omega) rfl
theorem ct_m_link (l : Launch) (D : va_G) (mo : Nat) (a : Nat → Nat) (tn tr fm fn mv bg en tk op wn jn cq cm : Nat) (fk fp ck te yn rc kd mk : Int32) (le : Int64) (hp ir ke : Bool) (hm : Nat → Option Nat) (p i : Nat) (hf : fm ≤ 12) (hh_ : obd hm) (hpf : p < fm) (hi : i < 2 ^ 31) : Ct l D m_X11_link 1 [.ref mo, .int (nI p), .int (nI i)] [mo, a 23] [ob 11 (.ref (a 0) :: .int (nI tn) :: .int fk :: .int fp :: .ref (a 4) :: .ref (a 5) :: .ref (a 6) :: .ref (a 7) :: .ref (a 8) :: .ref (a 9) :: .ref (a 10) :: .ref (a 11) :: .ref (a 12) :: .ref (a 13) :: .int (nI tr) :: .int (nI fm) :: .int ck :: .int te :: .int (nI fn) :: .ref (a 19) :: .ref (a 20) :: .ref (a 21) :: .ref (a 22) :: .ref (a 23) :: .ref (a 24) :: .ref (a 25) :: .ref (a 26) :: .ref (a 27) :: .int (b2 hp) :: .int yn :: .int (b2 ir) :: .ref (a 31) :: .int rc :: .ref (a 33) :: .int (nI mv) :: .int kd :: .int (nI bg) :: .int (nI en) :: .int mk :: .long le :: .int (nI tk) :: .int (nI op) :: .ref (a 42) :: .int (nI wn) :: .ref (a 44) :: .int (nI jn) :: .ref (a 46) :: .ref (a 47) :: .ref (a 48) :: .ref (a 49) :: .ref (a 50) :: .ref (a 51) :: .int (b2 ke) :: .ref (a 53) :: .ref (a 54) :: .ref (a 55) :: .int (nI cq) :: .int (nI cm) :: []), aI D 12 (opf hm)] (fun r es' => r = some (.int (eo (mLnk hm p i (some p)))) ∧ es' = [ob 11 (.ref (a 0) :: .int (nI tn) :: .int fk :: .int fp :: .ref (a 4) :: .ref (a 5) :: .ref (a 6) :: .ref (a 7) :: .ref (a 8) :: .ref (a 9) :: .ref (a 10) :: .ref (a 11) :: .ref (a 12) :: .ref (a 13) :: .int (nI tr) :: .int (nI fm) :: .int ck :: .int te :: .int (nI fn) :: .ref (a 19) :: .ref (a 20) :: .ref (a 21) :: .ref (a 22) :: .ref (a 23) :: .ref (a 24) :: .ref (a 25) :: .ref (a 26) :: .ref (a 27) :: .int (b2 hp) :: .int yn :: .int (b2 ir) :: .ref (a 31) :: .int rc :: .ref (a 33) :: .int (nI mv) :: .int kd :: .int (nI bg) :: .int (nI en) :: .int mk :: .long le :: .int (nI tk) :: .int (nI op) :: .ref (a 42) :: .int (nI wn) :: .ref (a 44) :: .int (nI jn) :: .ref (a 46) :: .ref (a 47) :: .ref (a 48) :: .ref (a 49) :: .ref (a 50) :: .ref (a 51) :: .int (b2 ke) :: .ref (a 53) :: .ref (a 54) :: .ref (a 55) :: .int (nI cq) :: .int (nI cm) :: []), aI D 12 (opf hm)]) :=
  Ct.ofA (own := RX11) (by decide) rfl (Nat.le_of_ble_eq_true rfl) rfl (fun X hl hD hX hR => by subst hl; subst hD; exact wk_m_link hX mo a tn tr fm fn mv bg en tk op wn jn cq cm fk fp ck te yn rc kd mk le hp ir ke hm p i hf hh_ hpf hi hR)
set_option maxHeartbeats 1000000 in
set_option maxRecDepth 100000 in
theorem wk_m_ofN {X : Cx} (hX : Ok X cX11_of 3 RX11 1) (mo : Nat) (a : Nat → Nat) (tn tr fm fn mv bg en tk op wn jn cq cm : Nat) (fk fp ck te yn rc kd mk : Int32) (le : Int64) (hp ir ke : Bool) (f w : Int32) (hb : mFam fm f = false) (hR : Rt X (some FieldType.int) (fun r es' => r = some (.int (-1)) ∧ es' = [ob 11 (.ref (a 0) :: .int (nI tn) :: .int fk :: .int fp :: .ref (a 4) :: .ref (a 5) :: .ref (a 6) :: .ref (a 7) :: .ref (a 8) :: .ref (a 9) :: .ref (a 10) :: .ref (a 11) :: .ref (a 12) :: .ref (a 13) :: .int (nI tr) :: .int (nI fm) :: .int ck :: .int te :: .int (nI fn) :: .ref (a 19) :: .ref (a 20) :: .ref (a 21) :: .ref (a 22) :: .ref (a 23) :: .ref (a 24) :: .ref (a 25) :: .ref (a 26) :: .ref (a 27) :: .int (b2 hp) :: .int yn :: .int (b2 ir) :: .ref (a 31) :: .int rc :: .ref (a 33) :: .int (nI mv) :: .int kd :: .int (nI bg) :: .int (nI en) :: .int mk :: .long le :: .int (nI tk) :: .int (nI op) :: .ref (a 42) :: .int (nI wn) :: .ref (a 44) :: .int (nI jn) :: .ref (a 46) :: .ref (a 47) :: .ref (a 48) :: .ref (a 49) :: .ref (a 50) :: .ref (a 51) :: .int (b2 ke) :: .ref (a 53) :: .ref (a 54) :: .ref (a 55) :: .int (nI cq) :: .int (nI cm) :: [])]) [mo]) : Aw X [mo] [ob 11 (.ref (a 0) :: .int (nI tn) :: .int fk :: .int fp :: .ref (a 4) :: .ref (a 5) :: .ref (a 6) :: .ref (a 7) :: .ref (a 8) :: .ref (a 9) :: .ref (a 10) :: .ref (a 11) :: .ref (a 12) :: .ref (a 13) :: .int (nI tr) :: .int (nI fm) :: .int ck :: .int te :: .int (nI fn) :: .ref (a 19) :: .ref (a 20) :: .ref (a 21) :: .ref (a 22) :: .ref (a 23) :: .ref (a 24) :: .ref (a 25) :: .ref (a 26) :: .ref (a 27) :: .int (b2 hp) :: .int yn :: .int (b2 ir) :: .ref (a 31) :: .int rc :: .ref (a 33) :: .int (nI mv) :: .int kd :: .int (nI bg) :: .int (nI en) :: .int mk :: .long le :: .int (nI tk) :: .int (nI op) :: .ref (a 42) :: .int (nI wn) :: .ref (a 44) :: .int (nI jn) :: .ref (a 46) :: .ref (a 47) :: .ref (a 48) :: .ref (a 49) :: .ref (a 50) :: .ref (a 51) :: .int (b2 ke) :: .ref (a 53) :: .ref (a 54) :: .ref (a 55) :: .int (nI cq) :: .int (nI cm) :: [])] 0 [(0, .ref mo), (1, .int f), (2, .int w)] [] := by
  refine r_aload_n (n := 1) hX dX11_of_0 rfl rfl 0 rfl ?_
  refine r_iload_n (n := 2) hX dX11_of_1 rfl rfl 1 rfl ?_
  refine r_callV (n := 5) (av := [.int f]) hX (ct_X11_isFamily (CxL X) (CxD X) mo a tn tr fm fn mv bg en tk op wn jn cq cm fk fp ck te yn rc kd mk le hp ir ke f) ml_X11_264 cv_X11_isFamily rfl (by decide) [0] rfl rfl (by decide) 0 rfl rfl rfl rfl rfl (Nat.le_of_ble_eq_true rfl) dX11_of_2 rfl (fun r_ es_ h_ l_ => ?_)
  obtain ⟨rfl, rfl⟩ := h_
  show Aw X [mo] [ob 11 (.ref (a 0) :: .int (nI tn) :: .int fk :: .int fp :: .ref (a 4) :: .ref (a 5) :: .ref (a 6) :: .ref (a 7) :: .ref (a 8) :: .ref (a 9) :: .ref (a 10) :: .ref (a 11) :: .ref (a 12) :: .ref (a 13) :: .int (nI tr) :: .int (nI fm) :: .int ck :: .int te :: .int (nI fn) :: .ref (a 19) :: .ref (a 20) :: .ref (a 21) :: .ref (a 22) :: .ref (a 23) :: .ref (a 24) :: .ref (a 25) :: .ref (a 26) :: .ref (a 27) :: .int (b2 hp) :: .int yn :: .int (b2 ir) :: .ref (a 31) :: .int rc :: .ref (a 33) :: .int (nI mv) :: .int kd :: .int (nI bg) :: .int (nI en) :: .int mk :: .long le :: .int (nI tk) :: .int (nI op) :: .ref (a 42) :: .int (nI wn) :: .ref (a 44) :: .int (nI jn) :: .ref (a 46) :: .ref (a 47) :: .ref (a 48) :: .ref (a 49) :: .ref (a 50) :: .ref (a 51) :: .int (b2 ke) :: .ref (a 53) :: .ref (a 54) :: .ref (a 55) :: .int (nI cq) :: .int (nI cm) :: [])] 5 [(0, .ref mo), (1, .int f), (2, .int w)] [.int (b2 (mFam fm f))]
  refine r_if_ne_b (tgt := 10) (n := 8) hX dX11_of_5 (by decide) rfl (fun c5 => absurd c5 (by rw [hb]; decide)) (fun c5 => ?_)
  refine r_iconst (n := 9) hX (-1) dX11_of_8 rfl rfl ?_
  exact r_ireturn hX hR dX11_of_9 ⟨rfl, rfl⟩
theorem ct_m_ofN (l : Launch) (D : va_G) (mo : Nat) (a : Nat → Nat) (tn tr fm fn mv bg en tk op wn jn cq cm : Nat) (fk fp ck te yn rc kd mk : Int32) (le : Int64) (hp ir ke : Bool) (f w : Int32) (hb : mFam fm f = false) : Ct l D m_X11_of 1 [.ref mo, .int f, .int w] [mo] [ob 11 (.ref (a 0) :: .int (nI tn) :: .int fk :: .int fp :: .ref (a 4) :: .ref (a 5) :: .ref (a 6) :: .ref (a 7) :: .ref (a 8) :: .ref (a 9) :: .ref (a 10) :: .ref (a 11) :: .ref (a 12) :: .ref (a 13) :: .int (nI tr) :: .int (nI fm) :: .int ck :: .int te :: .int (nI fn) :: .ref (a 19) :: .ref (a 20) :: .ref (a 21) :: .ref (a 22) :: .ref (a 23) :: .ref (a 24) :: .ref (a 25) :: .ref (a 26) :: .ref (a 27) :: .int (b2 hp) :: .int yn :: .int (b2 ir) :: .ref (a 31) :: .int rc :: .ref (a 33) :: .int (nI mv) :: .int kd :: .int (nI bg) :: .int (nI en) :: .int mk :: .long le :: .int (nI tk) :: .int (nI op) :: .ref (a 42) :: .int (nI wn) :: .ref (a 44) :: .int (nI jn) :: .ref (a 46) :: .ref (a 47) :: .ref (a 48) :: .ref (a 49) :: .ref (a 50) :: .ref (a 51) :: .int (b2 ke) :: .ref (a 53) :: .ref (a 54) :: .ref (a 55) :: .int (nI cq) :: .int (nI cm) :: [])] (fun r es' => r = some (.int (-1)) ∧ es' = [ob 11 (.ref (a 0) :: .int (nI tn) :: .int fk :: .int fp :: .ref (a 4) :: .ref (a 5) :: .ref (a 6) :: .ref (a 7) :: .ref (a 8) :: .ref (a 9) :: .ref (a 10) :: .ref (a 11) :: .ref (a 12) :: .ref (a 13) :: .int (nI tr) :: .int (nI fm) :: .int ck :: .int te :: .int (nI fn) :: .ref (a 19) :: .ref (a 20) :: .ref (a 21) :: .ref (a 22) :: .ref (a 23) :: .ref (a 24) :: .ref (a 25) :: .ref (a 26) :: .ref (a 27) :: .int (b2 hp) :: .int yn :: .int (b2 ir) :: .ref (a 31) :: .int rc :: .ref (a 33) :: .int (nI mv) :: .int kd :: .int (nI bg) :: .int (nI en) :: .int mk :: .long le :: .int (nI tk) :: .int (nI op) :: .ref (a 42) :: .int (nI wn) :: .ref (a 44) :: .int (nI jn) :: .ref (a 46) :: .ref (a 47) :: .ref (a 48) :: .ref (a 49) :: .ref (a 50) :: .ref (a 51) :: .int (b2 ke) :: .ref (a 53) :: .ref (a 54) :: .ref (a 55) :: .int (nI cq) :: .int (nI cm) :: [])]) :=
  Ct.ofA (own := RX11) (by decide) rfl (Nat.le_of_ble_eq_true rfl) rfl (fun X hl hD hX hR => by subst hl; subst hD; exact wk_m_ofN hX mo a tn tr fm fn mv bg en tk op wn jn cq cm fk fp ck te yn rc kd mk le hp ir ke f w hb hR)
set_option maxHeartbeats 1000000 in
set_option maxRecDepth 100000 in
theorem wk_m_of {X : Cx} (hX : Ok X cX11_of 3 RX11 1) (mo : Nat) (a : Nat → Nat) (tn tr fm fn mv bg en tk op wn jn cq cm : Nat) (fk fp ck te yn rc kd mk : Int32) (le : Int64) (hp ir ke : Bool) (hm : Nat → Option Nat) (io : Nat → Bool) (g : LG) (f : Nat) (w : Int32) (hf : fm ≤ 12) (hh_ : obd hm) (hff : f < fm) (hR : Rt X (some FieldType.int) (fun r es' => r = some (.int (mOf hm io g fm f w)) ∧ es' = [ob 11 (.ref (a 0) :: .int (nI tn) :: .int fk :: .int fp :: .ref (a 4) :: .ref (a 5) :: .ref (a 6) :: .ref (a 7) :: .ref (a 8) :: .ref (a 9) :: .ref (a 10) :: .ref (a 11) :: .ref (a 12) :: .ref (a 13) :: .int (nI tr) :: .int (nI fm) :: .int ck :: .int te :: .int (nI fn) :: .ref (a 19) :: .ref (a 20) :: .ref (a 21) :: .ref (a 22) :: .ref (a 23) :: .ref (a 24) :: .ref (a 25) :: .ref (a 26) :: .ref (a 27) :: .int (b2 hp) :: .int yn :: .int (b2 ir) :: .ref (a 31) :: .int rc :: .ref (a 33) :: .int (nI mv) :: .int kd :: .int (nI bg) :: .int (nI en) :: .int mk :: .long le :: .int (nI tk) :: .int (nI op) :: .ref (a 42) :: .int (nI wn) :: .ref (a 44) :: .int (nI jn) :: .ref (a 46) :: .ref (a 47) :: .ref (a 48) :: .ref (a 49) :: .ref (a 50) :: .ref (a 51) :: .int (b2 ke) :: .ref (a 53) :: .ref (a 54) :: .ref (a 55) :: .int (nI cq) :: .int (nI cm) :: []), aI (CxD X) 12 (opf hm), aZ (CxD X) 12 (zf io), aI (CxD X) 12 g.1, aI (CxD X) 12 g.2.1, aI (CxD X) 12 g.2.2]) [mo, a 23, a 24, a 25, a 26, a 27]) : Aw X [mo, a 23, a 24, a 25, a 26, a 27] [ob 11 (.ref (a 0) :: .int (nI tn) :: .int fk :: .int fp :: .ref (a 4) :: .ref (a 5) :: .ref (a 6) :: .ref (a 7) :: .ref (a 8) :: .ref (a 9) :: .ref (a 10) :: .ref (a 11) :: .ref (a 12) :: .ref (a 13) :: .int (nI tr) :: .int (nI fm) :: .int ck :: .int te :: .int (nI fn) :: .ref (a 19) :: .ref (a 20) :: .ref (a 21) :: .ref (a 22) :: .ref (a 23) :: .ref (a 24) :: .ref (a 25) :: .ref (a 26) :: .ref (a 27) :: .int (b2 hp) :: .int yn :: .int (b2 ir) :: .ref (a 31) :: .int rc :: .ref (a 33) :: .int (nI mv) :: .int kd :: .int (nI bg) :: .int (nI en) :: .int mk :: .long le :: .int (nI tk) :: .int (nI op) :: .ref (a 42) :: .int (nI wn) :: .ref (a 44) :: .int (nI jn) :: .ref (a 46) :: .ref (a 47) :: .ref (a 48) :: .ref (a 49) :: .ref (a 50) :: .ref (a 51) :: .int (b2 ke) :: .ref (a 53) :: .ref (a 54) :: .ref (a 55) :: .int (nI cq) :: .int (nI cm) :: []), aI (CxD X) 12 (opf hm), aZ (CxD X) 12 (zf io), aI (CxD X) 12 g.1, aI (CxD X) 12 g.2.1, aI (CxD X) 12 g.2.2] 0 [(0, .ref mo), (1, .int (nI f)), (2, .int w)] [] := by
  refine r_aload_n (n := 1) hX dX11_of_0 rfl rfl 0 rfl ?_
  refine r_iload_n (n := 2) hX dX11_of_1 rfl rfl 1 rfl ?_
  refine r_callV (n := 5) (av := [.int (nI f)]) hX (ct_X11_isFamily (CxL X) (CxD X) mo a tn tr fm fn mv bg en tk op wn jn cq cm fk fp ck te yn rc kd mk le hp ir ke (nI f)) ml_X11_264 cv_X11_isFamily rfl (by decide) [0] rfl rfl (by decide) 0 rfl rfl rfl rfl rfl (Nat.le_of_ble_eq_true rfl) dX11_of_2 rfl (fun r_ es_ h_ l_ => ?_)
  obtain ⟨rfl, rfl⟩ := h_
  show Aw X [mo, a 23, a 24, a 25, a 26, a 27] [ob 11 (.ref (a 0) :: .int (nI tn) :: .int fk :: .int fp :: .ref (a 4) :: .ref (a 5) :: .ref (a 6) :: .ref (a 7) :: .ref (a 8) :: .ref (a 9) :: .ref (a 10) :: .ref (a 11) :: .ref (a 12) :: .ref (a 13) :: .int (nI tr) :: .int (nI fm) :: .int ck :: .int te :: .int (nI fn) :: .ref (a 19) :: .ref (a 20) :: .ref (a 21) :: .ref (a 22) :: .ref (a 23) :: .ref (a 24) :: .ref (a 25) :: .ref (a 26) :: .ref (a 27) :: .int (b2 hp) :: .int yn :: .int (b2 ir) :: .ref (a 31) :: .int rc :: .ref (a 33) :: .int (nI mv) :: .int kd :: .int (nI bg) :: .int (nI en) :: .int mk :: .long le :: .int (nI tk) :: .int (nI op) :: .ref (a 42) :: .int (nI wn) :: .ref (a 44) :: .int (nI jn) :: .ref (a 46) :: .ref (a 47) :: .ref (a 48) :: .ref (a 49) :: .ref (a 50) :: .ref (a 51) :: .int (b2 ke) :: .ref (a 53) :: .ref (a 54) :: .ref (a 55) :: .int (nI cq) :: .int (nI cm) :: []), aI (CxD X) 12 (opf hm), aZ (CxD X) 12 (zf io), aI (CxD X) 12 g.1, aI (CxD X) 12 g.2.1, aI (CxD X) 12 g.2.2] 5 [(0, .ref mo), (1, .int (nI f)), (2, .int w)] [.int (b2 (mFam fm (nI f)))]
  refine r_if_ne_b (tgt := 10) (n := 8) hX dX11_of_5 (by decide) rfl (fun c5 => ?_) (fun c5 => absurd c5 (by rw [mFam_n hf (by omega), decide_eq_true hff]; decide))
  refine r_iload_n (n := 11) hX dX11_of_10 rfl rfl 2 rfl ?_
  by_cases k11_0 : w = 0
  · refine Aw.topi 0 k11_0 ?_
    refine r_tabIn (tgt := 48) (off := 37) hX dX11_of_11 (by decide) (by decide) (by decide) (by decide) ?_
    refine r_aload_n (n := 49) hX dX11_of_48 rfl rfl 0 rfl ?_
    refine r_get (n := 52) hX 0 rfl rfl rfl 23 (by decide) lay_X11 fl_X11_62 rfl dX11_of_49 rfl ?_
    refine r_iload_n (n := 53) hX dX11_of_52 rfl rfl 1 rfl ?_
    refine r_ialdOn (n := 54) (i := f) hX 1 rfl rfl (by omega) (by decide) dX11_of_53 rfl ?_
    exact r_ireturn hX hR dX11_of_54 ⟨by simp [mOf, k11_0], rfl⟩
  · skip
    by_cases k11_1 : w = 1
    · refine Aw.topi 1 k11_1 ?_
      refine r_tabIn (tgt := 55) (off := 44) hX dX11_of_11 (by decide) (by decide) (by decide) (by decide) ?_
      refine r_aload_n (n := 56) hX dX11_of_55 rfl rfl 0 rfl ?_
      refine r_aload_n (n := 57) hX dX11_of_56 rfl rfl 0 rfl ?_
      refine r_get (n := 60) hX 0 rfl rfl rfl 23 (by decide) lay_X11 fl_X11_62 rfl dX11_of_57 rfl ?_
      refine r_iload_n (n := 61) hX dX11_of_60 rfl rfl 1 rfl ?_
      refine r_callV (n := 64) (av := [.ref (a 23), .int (nI f)]) hX (ct_X11_guest (CxL X) (CxD X) mo a tn tr fm fn mv bg en tk op wn jn cq cm fk fp ck te yn rc kd mk le hp ir ke (a 23) hm f hf hh_ (by omega)) ml_X11_358 cv_X11_guest rfl (by decide) [0, 1] rfl rfl (by decide) 0 rfl rfl rfl rfl rfl (Nat.le_of_ble_eq_true rfl) dX11_of_61 rfl (fun r_ es_ h_ l_ => ?_)
      obtain ⟨rfl, rfl⟩ := h_
      show Aw X [mo, a 23, a 24, a 25, a 26, a 27] [ob 11 (.ref (a 0) :: .int (nI tn) :: .int fk :: .int fp :: .ref (a 4) :: .ref (a 5) :: .ref (a 6) :: .ref (a 7) :: .ref (a 8) :: .ref (a 9) :: .ref (a 10) :: .ref (a 11) :: .ref (a 12) :: .ref (a 13) :: .int (nI tr) :: .int (nI fm) :: .int ck :: .int te :: .int (nI fn) :: .ref (a 19) :: .ref (a 20) :: .ref (a 21) :: .ref (a 22) :: .ref (a 23) :: .ref (a 24) :: .ref (a 25) :: .ref (a 26) :: .ref (a 27) :: .int (b2 hp) :: .int yn :: .int (b2 ir) :: .ref (a 31) :: .int rc :: .ref (a 33) :: .int (nI mv) :: .int kd :: .int (nI bg) :: .int (nI en) :: .int mk :: .long le :: .int (nI tk) :: .int (nI op) :: .ref (a 42) :: .int (nI wn) :: .ref (a 44) :: .int (nI jn) :: .ref (a 46) :: .ref (a 47) :: .ref (a 48) :: .ref (a 49) :: .ref (a 50) :: .ref (a 51) :: .int (b2 ke) :: .ref (a 53) :: .ref (a 54) :: .ref (a 55) :: .int (nI cq) :: .int (nI cm) :: []), aI (CxD X) 12 (opf hm), aZ (CxD X) 12 (zf io), aI (CxD X) 12 g.1, aI (CxD X) 12 g.2.1, aI (CxD X) 12 g.2.2] 64 [(0, .ref mo), (1, .int (nI f)), (2, .int w)] [.int (eo (gIn hm f fm 0))]
      exact r_ireturn hX hR dX11_of_64 ⟨by simp [mOf, k11_1], rfl⟩
    · skip
      by_cases k11_2 : w = 2
      · refine Aw.topi 2 k11_2 ?_
        refine r_tabIn (tgt := 65) (off := 54) hX dX11_of_11 (by decide) (by decide) (by decide) (by decide) ?_
        refine r_aload_n (n := 66) hX dX11_of_65 rfl rfl 0 rfl ?_
        refine r_get (n := 69) hX 0 rfl rfl rfl 24 (by decide) lay_X11 fl_X11_65 rfl dX11_of_66 rfl ?_
        refine r_iload_n (n := 70) hX dX11_of_69 rfl rfl 1 rfl ?_
        refine r_zaldbn (n := 71) (i := f) hX 2 rfl rfl (by omega) (by decide) dX11_of_70 rfl ?_
        refine r_if_eq_b (tgt := 78) (n := 74) hX dX11_of_71 (by decide) rfl (fun c71 => ?_) (fun c71 => ?_)
        · skip
          refine r_iconst (n := 79) hX 0 dX11_of_78 rfl rfl ?_
          exact r_ireturn hX hR dX11_of_79 ⟨by have e71 := c71; simp [mOf, k11_2, c71, b2], rfl⟩
        · skip
          refine r_iconst (n := 75) hX 1 dX11_of_74 rfl rfl ?_
          refine r_goto (tgt := 79) hX dX11_of_75 (by decide) ?_
          exact r_ireturn hX hR dX11_of_79 ⟨by have e71 := c71; simp [mOf, k11_2, c71, b2], rfl⟩
      · skip
        by_cases k11_3 : w = 3
        · refine Aw.topi 3 k11_3 ?_
          refine r_tabIn (tgt := 80) (off := 69) hX dX11_of_11 (by decide) (by decide) (by decide) (by decide) ?_
          refine r_aload_n (n := 81) hX dX11_of_80 rfl rfl 0 rfl ?_
          refine r_get (n := 84) hX 0 rfl rfl rfl 25 (by decide) lay_X11 fl_X11_68 rfl dX11_of_81 rfl ?_
          refine r_iload_n (n := 85) hX dX11_of_84 rfl rfl 1 rfl ?_
          refine r_ialdn (n := 86) (i := f) hX 3 rfl rfl (by omega) (by decide) dX11_of_85 rfl ?_
          exact r_ireturn hX hR dX11_of_86 ⟨by simp [mOf, k11_3], rfl⟩
        · skip
          by_cases k11_4 : w = 4
          · refine Aw.topi 4 k11_4 ?_
            refine r_tabIn (tgt := 87) (off := 76) hX dX11_of_11 (by decide) (by decide) (by decide) (by decide) ?_
            refine r_aload_n (n := 88) hX dX11_of_87 rfl rfl 0 rfl ?_
            refine r_get (n := 91) hX 0 rfl rfl rfl 26 (by decide) lay_X11 fl_X11_71 rfl dX11_of_88 rfl ?_
            refine r_iload_n (n := 92) hX dX11_of_91 rfl rfl 1 rfl ?_
            refine r_ialdn (n := 93) (i := f) hX 4 rfl rfl (by omega) (by decide) dX11_of_92 rfl ?_
            exact r_ireturn hX hR dX11_of_93 ⟨by simp [mOf, k11_4], rfl⟩
          · skip
            by_cases k11_5 : w = 5
            · refine Aw.topi 5 k11_5 ?_
              refine r_tabIn (tgt := 94) (off := 83) hX dX11_of_11 (by decide) (by decide) (by decide) (by decide) ?_
              refine r_aload_n (n := 95) hX dX11_of_94 rfl rfl 0 rfl ?_
              refine r_get (n := 98) hX 0 rfl rfl rfl 27 (by decide) lay_X11 fl_X11_74 rfl dX11_of_95 rfl ?_
              refine r_iload_n (n := 99) hX dX11_of_98 rfl rfl 1 rfl ?_
              refine r_ialdn (n := 100) (i := f) hX 5 rfl rfl (by omega) (by decide) dX11_of_99 rfl ?_
              exact r_ireturn hX hR dX11_of_100 ⟨by simp [mOf, k11_5], rfl⟩
            · skip
              refine r_tabOut (tgt := 101) hX dX11_of_11 (by have h0 := ne_toInt k11_0 (a := 0) (by decide); have h1 := ne_toInt k11_1 (a := 1) (by decide); have h2 := ne_toInt k11_2 (a := 2) (by decide); have h3 := ne_toInt k11_3 (a := 3) (by decide); have h4 := ne_toInt k11_4 (a := 4) (by decide); have h5 := ne_toInt k11_5 (a := 5) (by decide); omega) (by decide) ?_
              refine r_iconst (n := 102) hX (-1) dX11_of_101 rfl rfl ?_
              exact r_ireturn hX hR dX11_of_102 ⟨by simp [mOf, k11_0, k11_1, k11_2, k11_3, k11_4, k11_5], rfl⟩
theorem ct_m_of (l : Launch) (D : va_G) (mo : Nat) (a : Nat → Nat) (tn tr fm fn mv bg en tk op wn jn cq cm : Nat) (fk fp ck te yn rc kd mk : Int32) (le : Int64) (hp ir ke : Bool) (hm : Nat → Option Nat) (io : Nat → Bool) (g : LG) (f : Nat) (w : Int32) (hf : fm ≤ 12) (hh_ : obd hm) (hff : f < fm) : Ct l D m_X11_of 1 [.ref mo, .int (nI f), .int w] [mo, a 23, a 24, a 25, a 26, a 27] [ob 11 (.ref (a 0) :: .int (nI tn) :: .int fk :: .int fp :: .ref (a 4) :: .ref (a 5) :: .ref (a 6) :: .ref (a 7) :: .ref (a 8) :: .ref (a 9) :: .ref (a 10) :: .ref (a 11) :: .ref (a 12) :: .ref (a 13) :: .int (nI tr) :: .int (nI fm) :: .int ck :: .int te :: .int (nI fn) :: .ref (a 19) :: .ref (a 20) :: .ref (a 21) :: .ref (a 22) :: .ref (a 23) :: .ref (a 24) :: .ref (a 25) :: .ref (a 26) :: .ref (a 27) :: .int (b2 hp) :: .int yn :: .int (b2 ir) :: .ref (a 31) :: .int rc :: .ref (a 33) :: .int (nI mv) :: .int kd :: .int (nI bg) :: .int (nI en) :: .int mk :: .long le :: .int (nI tk) :: .int (nI op) :: .ref (a 42) :: .int (nI wn) :: .ref (a 44) :: .int (nI jn) :: .ref (a 46) :: .ref (a 47) :: .ref (a 48) :: .ref (a 49) :: .ref (a 50) :: .ref (a 51) :: .int (b2 ke) :: .ref (a 53) :: .ref (a 54) :: .ref (a 55) :: .int (nI cq) :: .int (nI cm) :: []), aI D 12 (opf hm), aZ D 12 (zf io), aI D 12 g.1, aI D 12 g.2.1, aI D 12 g.2.2] (fun r es' => r = some (.int (mOf hm io g fm f w)) ∧ es' = [ob 11 (.ref (a 0) :: .int (nI tn) :: .int fk :: .int fp :: .ref (a 4) :: .ref (a 5) :: .ref (a 6) :: .ref (a 7) :: .ref (a 8) :: .ref (a 9) :: .ref (a 10) :: .ref (a 11) :: .ref (a 12) :: .ref (a 13) :: .int (nI tr) :: .int (nI fm) :: .int ck :: .int te :: .int (nI fn) :: .ref (a 19) :: .ref (a 20) :: .ref (a 21) :: .ref (a 22) :: .ref (a 23) :: .ref (a 24) :: .ref (a 25) :: .ref (a 26) :: .ref (a 27) :: .int (b2 hp) :: .int yn :: .int (b2 ir) :: .ref (a 31) :: .int rc :: .ref (a 33) :: .int (nI mv) :: .int kd :: .int (nI bg) :: .int (nI en) :: .int mk :: .long le :: .int (nI tk) :: .int (nI op) :: .ref (a 42) :: .int (nI wn) :: .ref (a 44) :: .int (nI jn) :: .ref (a 46) :: .ref (a 47) :: .ref (a 48) :: .ref (a 49) :: .ref (a 50) :: .ref (a 51) :: .int (b2 ke) :: .ref (a 53) :: .ref (a 54) :: .ref (a 55) :: .int (nI cq) :: .int (nI cm) :: []), aI D 12 (opf hm), aZ D 12 (zf io), aI D 12 g.1, aI D 12 g.2.1, aI D 12 g.2.2]) :=
  Ct.ofA (own := RX11) (by decide) rfl (Nat.le_of_ble_eq_true rfl) rfl (fun X hl hD hX hR => by subst hl; subst hD; exact wk_m_of hX mo a tn tr fm fn mv bg en tk op wn jn cq cm fk fp ck te yn rc kd mk le hp ir ke hm io g f w hf hh_ hff hR)
def mCnt (fm fn tn : Nat) (ck te yn : Int32) (hm : Nat → Option Nat) (rg : Nat → Nat) (w : Int32) : Int32 := if w = 0 then nI fm else if w = 1 then nI fn else if w = 2 then ck else if w = 3 then te else if w = 4 then yn else if w = 5 then nI (gcount hm fm) else if w = 6 then nI (rg 0) else if w = 7 then nI (rg 1) else if w = 8 then nI tn else -1
set_option maxHeartbeats 1000000 in
set_option maxRecDepth 100000 in
theorem wk_X11_count {X : Cx} (hX : Ok X cX11_count 2 RX11 1) (mo : Nat) (a : Nat → Nat) (tn tr fm fn mv bg en tk op wn jn cq cm : Nat) (fk fp ck te yn rc kd mk : Int32) (le : Int64) (hp ir ke : Bool) (hm : Nat → Option Nat) (rg : Nat → Nat) (w : Int32) (hf : fm ≤ 12) (hh_ : obd hm) (hR : Rt X (some FieldType.int) (fun r es' => r = some (.int (mCnt fm fn tn ck te yn hm rg w)) ∧ es' = [ob 11 (.ref (a 0) :: .int (nI tn) :: .int fk :: .int fp :: .ref (a 4) :: .ref (a 5) :: .ref (a 6) :: .ref (a 7) :: .ref (a 8) :: .ref (a 9) :: .ref (a 10) :: .ref (a 11) :: .ref (a 12) :: .ref (a 13) :: .int (nI tr) :: .int (nI fm) :: .int ck :: .int te :: .int (nI fn) :: .ref (a 19) :: .ref (a 20) :: .ref (a 21) :: .ref (a 22) :: .ref (a 23) :: .ref (a 24) :: .ref (a 25) :: .ref (a 26) :: .ref (a 27) :: .int (b2 hp) :: .int yn :: .int (b2 ir) :: .ref (a 31) :: .int rc :: .ref (a 33) :: .int (nI mv) :: .int kd :: .int (nI bg) :: .int (nI en) :: .int mk :: .long le :: .int (nI tk) :: .int (nI op) :: .ref (a 42) :: .int (nI wn) :: .ref (a 44) :: .int (nI jn) :: .ref (a 46) :: .ref (a 47) :: .ref (a 48) :: .ref (a 49) :: .ref (a 50) :: .ref (a 51) :: .int (b2 ke) :: .ref (a 53) :: .ref (a 54) :: .ref (a 55) :: .int (nI cq) :: .int (nI cm) :: []), aI (CxD X) 12 (opf hm), aI (CxD X) 3 (nf rg)]) [mo, a 23, a 7]) : Aw X [mo, a 23, a 7] [ob 11 (.ref (a 0) :: .int (nI tn) :: .int fk :: .int fp :: .ref (a 4) :: .ref (a 5) :: .ref (a 6) :: .ref (a 7) :: .ref (a 8) :: .ref (a 9) :: .ref (a 10) :: .ref (a 11) :: .ref (a 12) :: .ref (a 13) :: .int (nI tr) :: .int (nI fm) :: .int ck :: .int te :: .int (nI fn) :: .ref (a 19) :: .ref (a 20) :: .ref (a 21) :: .ref (a 22) :: .ref (a 23) :: .ref (a 24) :: .ref (a 25) :: .ref (a 26) :: .ref (a 27) :: .int (b2 hp) :: .int yn :: .int (b2 ir) :: .ref (a 31) :: .int rc :: .ref (a 33) :: .int (nI mv) :: .int kd :: .int (nI bg) :: .int (nI en) :: .int mk :: .long le :: .int (nI tk) :: .int (nI op) :: .ref (a 42) :: .int (nI wn) :: .ref (a 44) :: .int (nI jn) :: .ref (a 46) :: .ref (a 47) :: .ref (a 48) :: .ref (a 49) :: .ref (a 50) :: .ref (a 51) :: .int (b2 ke) :: .ref (a 53) :: .ref (a 54) :: .ref (a 55) :: .int (nI cq) :: .int (nI cm) :: []), aI (CxD X) 12 (opf hm), aI (CxD X) 3 (nf rg)] 0 [(0, .ref mo), (1, .int w)] [] := by
  refine r_iload_n (n := 1) hX dX11_count_0 rfl rfl 1 rfl ?_
  by_cases k1_0 : w = 0
  · refine Aw.topi 0 k1_0 ?_
    refine r_tabIn (tgt := 52) (off := 51) hX dX11_count_1 (by decide) (by decide) (by decide) (by decide) ?_
    refine r_aload_n (n := 53) hX dX11_count_52 rfl rfl 0 rfl ?_
    refine r_get (n := 56) hX 0 rfl rfl rfl 15 (by decide) lay_X11 fl_X11_251 rfl dX11_count_53 rfl ?_
    exact r_ireturn hX hR dX11_count_56 ⟨by simp [mCnt, k1_0], rfl⟩
  · skip
    by_cases k1_1 : w = 1
    · refine Aw.topi 1 k1_1 ?_
      refine r_tabIn (tgt := 57) (off := 56) hX dX11_count_1 (by decide) (by decide) (by decide) (by decide) ?_
      refine r_aload_n (n := 58) hX dX11_count_57 rfl rfl 0 rfl ?_
      refine r_get (n := 61) hX 0 rfl rfl rfl 18 (by decide) lay_X11 fl_X11_267 rfl dX11_count_58 rfl ?_
      exact r_ireturn hX hR dX11_count_61 ⟨by simp [mCnt, k1_1], rfl⟩
    · skip
      by_cases k1_2 : w = 2
      · refine Aw.topi 2 k1_2 ?_
        refine r_tabIn (tgt := 62) (off := 61) hX dX11_count_1 (by decide) (by decide) (by decide) (by decide) ?_
        refine r_aload_n (n := 63) hX dX11_count_62 rfl rfl 0 rfl ?_
        refine r_get (n := 66) hX 0 rfl rfl rfl 16 (by decide) lay_X11 fl_X11_255 rfl dX11_count_63 rfl ?_
        exact r_ireturn hX hR dX11_count_66 ⟨by simp [mCnt, k1_2], rfl⟩
      · skip
        by_cases k1_3 : w = 3
        · refine Aw.topi 3 k1_3 ?_
          refine r_tabIn (tgt := 67) (off := 66) hX dX11_count_1 (by decide) (by decide) (by decide) (by decide) ?_
          refine r_aload_n (n := 68) hX dX11_count_67 rfl rfl 0 rfl ?_
          refine r_get (n := 71) hX 0 rfl rfl rfl 17 (by decide) lay_X11 fl_X11_261 rfl dX11_count_68 rfl ?_
          exact r_ireturn hX hR dX11_count_71 ⟨by simp [mCnt, k1_3], rfl⟩
        · skip
          by_cases k1_4 : w = 4
          · refine Aw.topi 4 k1_4 ?_
            refine r_tabIn (tgt := 72) (off := 71) hX dX11_count_1 (by decide) (by decide) (by decide) (by decide) ?_
            refine r_aload_n (n := 73) hX dX11_count_72 rfl rfl 0 rfl ?_
            refine r_get (n := 76) hX 0 rfl rfl rfl 29 (by decide) lay_X11 fl_X11_375 rfl dX11_count_73 rfl ?_
            exact r_ireturn hX hR dX11_count_76 ⟨by simp [mCnt, k1_4], rfl⟩
          · skip
            by_cases k1_5 : w = 5
            · refine Aw.topi 5 k1_5 ?_
              refine r_tabIn (tgt := 77) (off := 76) hX dX11_count_1 (by decide) (by decide) (by decide) (by decide) ?_
              refine r_aload_n (n := 78) hX dX11_count_77 rfl rfl 0 rfl ?_
              refine r_callV (n := 81) (av := []) hX (ct_X11_going (CxL X) (CxD X) mo a tn tr fm fn mv bg en tk op wn jn cq cm fk fp ck te yn rc kd mk le hp ir ke hm hf hh_) ml_X11_368 cv_X11_going rfl (by decide) [0, 1] rfl rfl (by decide) 0 rfl rfl rfl rfl rfl (Nat.le_of_ble_eq_true rfl) dX11_count_78 rfl (fun r_ es_ h_ l_ => ?_)
              obtain ⟨rfl, rfl⟩ := h_
              show Aw X [mo, a 23, a 7] [ob 11 (.ref (a 0) :: .int (nI tn) :: .int fk :: .int fp :: .ref (a 4) :: .ref (a 5) :: .ref (a 6) :: .ref (a 7) :: .ref (a 8) :: .ref (a 9) :: .ref (a 10) :: .ref (a 11) :: .ref (a 12) :: .ref (a 13) :: .int (nI tr) :: .int (nI fm) :: .int ck :: .int te :: .int (nI fn) :: .ref (a 19) :: .ref (a 20) :: .ref (a 21) :: .ref (a 22) :: .ref (a 23) :: .ref (a 24) :: .ref (a 25) :: .ref (a 26) :: .ref (a 27) :: .int (b2 hp) :: .int yn :: .int (b2 ir) :: .ref (a 31) :: .int rc :: .ref (a 33) :: .int (nI mv) :: .int kd :: .int (nI bg) :: .int (nI en) :: .int mk :: .long le :: .int (nI tk) :: .int (nI op) :: .ref (a 42) :: .int (nI wn) :: .ref (a 44) :: .int (nI jn) :: .ref (a 46) :: .ref (a 47) :: .ref (a 48) :: .ref (a 49) :: .ref (a 50) :: .ref (a 51) :: .int (b2 ke) :: .ref (a 53) :: .ref (a 54) :: .ref (a 55) :: .int (nI cq) :: .int (nI cm) :: []), aI (CxD X) 12 (opf hm), aI (CxD X) 3 (nf rg)] 81 [(0, .ref mo), (1, .int w)] [.int (nI (gcount hm fm))]
              exact r_ireturn hX hR dX11_count_81 ⟨by simp [mCnt, k1_5], rfl⟩
            · skip
              by_cases k1_6 : w = 6
              · refine Aw.topi 6 k1_6 ?_
                refine r_tabIn (tgt := 82) (off := 81) hX dX11_count_1 (by decide) (by decide) (by decide) (by decide) ?_
                refine r_aload_n (n := 83) hX dX11_count_82 rfl rfl 0 rfl ?_
                refine r_get (n := 86) hX 0 rfl rfl rfl 7 (by decide) lay_X11 fl_X11_27 rfl dX11_count_83 rfl ?_
                refine r_iconst (n := 87) hX 0 dX11_count_86 rfl rfl ?_
                refine r_ialdNn (n := 88) (i := 0) hX 2 rfl rfl (by omega) (by decide) dX11_count_87 rfl ?_
                exact r_ireturn hX hR dX11_count_88 ⟨by simp [mCnt, k1_6], rfl⟩
              · skip
                by_cases k1_7 : w = 7
                · refine Aw.topi 7 k1_7 ?_
                  refine r_tabIn (tgt := 89) (off := 88) hX dX11_count_1 (by decide) (by decide) (by decide) (by decide) ?_
                  refine r_aload_n (n := 90) hX dX11_count_89 rfl rfl 0 rfl ?_
                  refine r_get (n := 93) hX 0 rfl rfl rfl 7 (by decide) lay_X11 fl_X11_27 rfl dX11_count_90 rfl ?_
                  refine r_iconst (n := 94) hX 1 dX11_count_93 rfl rfl ?_
                  refine r_ialdNn (n := 95) (i := 1) hX 2 rfl rfl (by omega) (by decide) dX11_count_94 rfl ?_
                  exact r_ireturn hX hR dX11_count_95 ⟨by simp [mCnt, k1_7], rfl⟩
                · skip
                  by_cases k1_8 : w = 8
                  · refine Aw.topi 8 k1_8 ?_
                    refine r_tabIn (tgt := 96) (off := 95) hX dX11_count_1 (by decide) (by decide) (by decide) (by decide) ?_
                    refine r_aload_n (n := 97) hX dX11_count_96 rfl rfl 0 rfl ?_
                    refine r_get (n := 100) hX 0 rfl rfl rfl 1 (by decide) lay_X11 fl_X11_117 rfl dX11_count_97 rfl ?_
                    exact r_ireturn hX hR dX11_count_100 ⟨by simp [mCnt, k1_8], rfl⟩
                  · skip
                    refine r_tabOut (tgt := 101) hX dX11_count_1 (by have h0 := ne_toInt k1_0 (a := 0) (by decide); have h1 := ne_toInt k1_1 (a := 1) (by decide); have h2 := ne_toInt k1_2 (a := 2) (by decide); have h3 := ne_toInt k1_3 (a := 3) (by decide); have h4 := ne_toInt k1_4 (a := 4) (by decide); have h5 := ne_toInt k1_5 (a := 5) (by decide); have h6 := ne_toInt k1_6 (a := 6) (by decide); have h7 := ne_toInt k1_7 (a := 7) (by decide); have h8 := ne_toInt k1_8 (a := 8) (by decide); omega) (by decide) ?_
                    refine r_iconst (n := 102) hX (-1) dX11_count_101 rfl rfl ?_
                    exact r_ireturn hX hR dX11_count_102 ⟨by simp [mCnt, k1_0, k1_1, k1_2, k1_3, k1_4, k1_5, k1_6, k1_7, k1_8], rfl⟩
theorem ct_X11_count (l : Launch) (D : va_G) (mo : Nat) (a : Nat → Nat) (tn tr fm fn mv bg en tk op wn jn cq cm : Nat) (fk fp ck te yn rc kd mk : Int32) (le : Int64) (hp ir ke : Bool) (hm : Nat → Option Nat) (rg : Nat → Nat) (w : Int32) (hf : fm ≤ 12) (hh_ : obd hm) : Ct l D m_X11_count 1 [.ref mo, .int w] [mo, a 23, a 7] [ob 11 (.ref (a 0) :: .int (nI tn) :: .int fk :: .int fp :: .ref (a 4) :: .ref (a 5) :: .ref (a 6) :: .ref (a 7) :: .ref (a 8) :: .ref (a 9) :: .ref (a 10) :: .ref (a 11) :: .ref (a 12) :: .ref (a 13) :: .int (nI tr) :: .int (nI fm) :: .int ck :: .int te :: .int (nI fn) :: .ref (a 19) :: .ref (a 20) :: .ref (a 21) :: .ref (a 22) :: .ref (a 23) :: .ref (a 24) :: .ref (a 25) :: .ref (a 26) :: .ref (a 27) :: .int (b2 hp) :: .int yn :: .int (b2 ir) :: .ref (a 31) :: .int rc :: .ref (a 33) :: .int (nI mv) :: .int kd :: .int (nI bg) :: .int (nI en) :: .int mk :: .long le :: .int (nI tk) :: .int (nI op) :: .ref (a 42) :: .int (nI wn) :: .ref (a 44) :: .int (nI jn) :: .ref (a 46) :: .ref (a 47) :: .ref (a 48) :: .ref (a 49) :: .ref (a 50) :: .ref (a 51) :: .int (b2 ke) :: .ref (a 53) :: .ref (a 54) :: .ref (a 55) :: .int (nI cq) :: .int (nI cm) :: []), aI D 12 (opf hm), aI D 3 (nf rg)] (fun r es' => r = some (.int (mCnt fm fn tn ck te yn hm rg w)) ∧ es' = [ob 11 (.ref (a 0) :: .int (nI tn) :: .int fk :: .int fp :: .ref (a 4) :: .ref (a 5) :: .ref (a 6) :: .ref (a 7) :: .ref (a 8) :: .ref (a 9) :: .ref (a 10) :: .ref (a 11) :: .ref (a 12) :: .ref (a 13) :: .int (nI tr) :: .int (nI fm) :: .int ck :: .int te :: .int (nI fn) :: .ref (a 19) :: .ref (a 20) :: .ref (a 21) :: .ref (a 22) :: .ref (a 23) :: .ref (a 24) :: .ref (a 25) :: .ref (a 26) :: .ref (a 27) :: .int (b2 hp) :: .int yn :: .int (b2 ir) :: .ref (a 31) :: .int rc :: .ref (a 33) :: .int (nI mv) :: .int kd :: .int (nI bg) :: .int (nI en) :: .int mk :: .long le :: .int (nI tk) :: .int (nI op) :: .ref (a 42) :: .int (nI wn) :: .ref (a 44) :: .int (nI jn) :: .ref (a 46) :: .ref (a 47) :: .ref (a 48) :: .ref (a 49) :: .ref (a 50) :: .ref (a 51) :: .int (b2 ke) :: .ref (a 53) :: .ref (a 54) :: .ref (a 55) :: .int (nI cq) :: .int (nI cm) :: []), aI D 12 (opf hm), aI D 3 (nf rg)]) :=
  Ct.ofA (own := RX11) (by decide) rfl (Nat.le_of_ble_eq_true rfl) rfl (fun X hl hD hX hR => by subst hl; subst hD; exact wk_X11_count hX mo a tn tr fm fn mv bg en tk op wn jn cq cm fk fp ck te yn rc kd mk le hp ir ke hm rg w hf hh_ hR)
