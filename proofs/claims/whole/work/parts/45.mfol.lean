
/-! the way that is followed through a set: W p j is what is left to count ahead of p with j taken -/
def mTo (my : Nat → Nat) (ke : Bool) (ai : Nat → Option Nat) (F : Nat → Nat) (p part s due : Nat) : Nat → Nat → Option Nat
  | 0, _ => none
  | m + 1, h => if s.testBit h = true then (if part.testBit h = true then mTo my ke ai F p part s due m (h + 1) else if mSu (mCn my ke ai p h) (F (part ||| 2 ^ h)) = due then some h else mTo my ke ai F p part s due m (h + 1)) else mTo my ke ai F p part s due m (h + 1)
def mPk (my : Nat → Nat) (ke : Bool) (ai : Nat → Option Nat) (tr : Nat → Bool) (n : Nat) (W : Nat → Nat → Nat) (s p part : Nat) : Option Nat := if mGo tr s p = true then mTo my ke ai (W (p + 1)) p part s (W p part) n 0 else none
def addO (part : Nat) : Option Nat → Nat
  | none => part
  | some h => part ||| 2 ^ h
def mPF (my : Nat → Nat) (ke : Bool) (ai : Nat → Option Nat) (tr : Nat → Bool) (n : Nat) (W : Nat → Nat → Nat) (s : Nat) : Nat → Nat
  | 0 => 0
  | p + 1 => addO (mPF my ke ai tr n W s p) (mPk my ke ai tr n W s p (mPF my ke ai tr n W s p))
def mPT (my : Nat → Nat) (ke : Bool) (ai : Nat → Option Nat) (tr : Nat → Bool) (n : Nat) (W : Nat → Nat → Nat) (s : Nat) (p : Nat) : Option Nat := mPk my ke ai tr n W s p (mPF my ke ai tr n W s p)
theorem mTo_in {my : Nat → Nat} {ke : Bool} {ai : Nat → Option Nat} {F : Nat → Nat} {p part s due : Nat} : ∀ (m h r : Nat), mTo my ke ai F p part s due m h = some r → r < h + m ∧ s.testBit r = true
  | 0, h, r, e => by cases e
  | m + 1, h, r, e => by
    unfold mTo at e
    split at e
    · rename_i hs
      split at e
      · have := mTo_in m (h + 1) r e; exact ⟨by omega, this.2⟩
      · split at e
        · cases e; exact ⟨by omega, hs⟩
        · have := mTo_in m (h + 1) r e; exact ⟨by omega, this.2⟩
    · have := mTo_in m (h + 1) r e; exact ⟨by omega, this.2⟩
theorem mPk_in {my : Nat → Nat} {ke : Bool} {ai : Nat → Option Nat} {tr : Nat → Bool} {n : Nat} {W : Nat → Nat → Nat} {s p part r : Nat} (e : mPk my ke ai tr n W s p part = some r) : r < n ∧ s.testBit r = true := by
  unfold mPk at e
  split at e
  · have := mTo_in n 0 r e; exact ⟨by omega, this.2⟩
  · cases e
theorem mPF_sub {my : Nat → Nat} {ke : Bool} {ai : Nat → Option Nat} {tr : Nat → Bool} {n : Nat} {W : Nat → Nat → Nat} {s : Nat} : ∀ p : Nat, mPF my ke ai tr n W s p &&& s = mPF my ke ai tr n W s p
  | 0 => Nat.zero_and s
  | p + 1 => by
    unfold mPF
    cases e : mPk my ke ai tr n W s p (mPF my ke ai tr n W s p) with
    | none => exact mPF_sub p
    | some h => exact sub_or (mPF_sub p) (mPk_in e).2
theorem mTo_congr {my : Nat → Nat} {ke : Bool} {ai : Nat → Option Nat} {F G : Nat → Nat} {p part s due : Nat} (hFG : ∀ j, j &&& s = j → F j = G j) (hp : part &&& s = part) : ∀ (m h : Nat), mTo my ke ai F p part s due m h = mTo my ke ai G p part s due m h
  | 0, _ => rfl
  | m + 1, h => by
    unfold mTo
    rw [mTo_congr hFG hp m (h + 1)]
    cases e : s.testBit h with
    | false => rfl
    | true => rw [if_pos rfl, if_pos rfl, hFG _ (sub_or hp e)]
theorem mPk_congr {my : Nat → Nat} {ke : Bool} {ai : Nat → Option Nat} {tr : Nat → Bool} {n : Nat} {W Z : Nat → Nat → Nat} {s p part : Nat} (hWZ : ∀ q, q ≤ n → ∀ j, j &&& s = j → W q j = Z q j) (hpn : p < n) (hp : part &&& s = part) : mPk my ke ai tr n W s p part = mPk my ke ai tr n Z s p part := by
  unfold mPk
  rw [mTo_congr (hWZ (p + 1) hpn) hp, hWZ p (by omega) part hp]
theorem mPF_congr {my : Nat → Nat} {ke : Bool} {ai : Nat → Option Nat} {tr : Nat → Bool} {n : Nat} {W Z : Nat → Nat → Nat} {s : Nat} (hWZ : ∀ q, q ≤ n → ∀ j, j &&& s = j → W q j = Z q j) : ∀ p, p ≤ n → mPF my ke ai tr n W s p = mPF my ke ai tr n Z s p
  | 0, _ => rfl
  | p + 1, h => by
    unfold mPF
    rw [mPF_congr hWZ p (by omega), mPk_congr hWZ (by omega) (mPF_sub p)]
theorem mPT_congr {my : Nat → Nat} {ke : Bool} {ai : Nat → Option Nat} {tr : Nat → Bool} {n : Nat} {W Z : Nat → Nat → Nat} {s : Nat} (hWZ : ∀ q, q ≤ n → ∀ j, j &&& s = j → W q j = Z q j) (p : Nat) (h : p < n) : mPT my ke ai tr n W s p = mPT my ke ai tr n Z s p := by
  unfold mPT
  rw [mPF_congr hWZ p (by omega), mPk_congr hWZ h (mPF_sub p)]
theorem cpyO_n (v u : Nat → Option Nat) (w : Nat → Option Nat) (n : Nat) (h : ∀ j, j < n → u j = w j) : cpyO v u n = cpyO v w n := by
  funext j
  unfold cpyO
  by_cases e : j < n
  · rw [if_pos e, if_pos e, h j e]
  · rw [if_neg e, if_neg e]
theorem cpyO_obd2 {v u : Nat → Option Nat} {n : Nat} (hv : obd v) (hu : ∀ j, j < n → ∀ r, u j = some r → r < 12) : obd (cpyO v u n) := fun j r e => by
  unfold cpyO at e
  split at e
  · rename_i h; exact hu j h r e
  · exact hv j r e

set_option maxHeartbeats 1000000 in
set_option maxRecDepth 100000 in
theorem lp_fol2 {X : Cx} (hX : Ok X cX11_follow 7 RX11 2) (mo : Nat) (a : Nat → Nat) (tn tr fm fn mv bg en tk op wn jn cq cm : Nat) (fk fp ck te yn rc kd mk : Int32) (le : Int64) (hp ir ke : Bool) (my : Nat → Nat) (ai : Nat → Option Nat) (tr_ gv : Nat → Bool) (L : Nat → Nat) (tl : Nat → Option Nat) (s : Nat) (hf : fm ≤ 12) (hmy : myOk my) (hai : obd ai) (hL : lsOk L) (hs : s < 4096) (part p due : Nat) (hpf : p < fm) (hpt : part < 4096) (hdue : due ≤ 200000000) (tl1 : Nat → Option Nat) (T : Option Nat) (hgo : mGo tr_ s p = true) (hR : Rt X (none) (fun r es' => r = none ∧ es' = [ob 11 (.ref (a 0) :: .int (nI tn) :: .int fk :: .int fp :: .ref (a 4) :: .ref (a 5) :: .ref (a 6) :: .ref (a 7) :: .ref (a 8) :: .ref (a 9) :: .ref (a 10) :: .ref (a 11) :: .ref (a 12) :: .ref (a 13) :: .int (nI tr) :: .int (nI fm) :: .int ck :: .int te :: .int (nI fn) :: .ref (a 19) :: .ref (a 20) :: .ref (a 21) :: .ref (a 22) :: .ref (a 23) :: .ref (a 24) :: .ref (a 25) :: .ref (a 26) :: .ref (a 27) :: .int (b2 hp) :: .int yn :: .int (b2 ir) :: .ref (a 31) :: .int rc :: .ref (a 33) :: .int (nI mv) :: .int kd :: .int (nI bg) :: .int (nI en) :: .int mk :: .long le :: .int (nI tk) :: .int (nI op) :: .ref (a 42) :: .int (nI wn) :: .ref (a 44) :: .int (nI jn) :: .ref (a 46) :: .ref (a 47) :: .ref (a 48) :: .ref (a 49) :: .ref (a 50) :: .ref (a 51) :: .int (b2 ke) :: .ref (a 53) :: .ref (a 54) :: .ref (a 55) :: .int (nI cq) :: .int (nI cm) :: []), aI (CxD X) 144 (nf my), aI (CxD X) 12 (opf ai), aZ (CxD X) 12 (zf tr_), aZ (CxD X) 12 (zf gv), aI (CxD X) 53248 (nf L), aI (CxD X) 12 (opf (cpyO tl (mPT my ke ai tr_ fm (fun q j => L (4096 * q + j)) s) fm))]) [mo, a 48, a 51, a 49, a 50, a 53, a 54]) : Aw X [mo, a 48, a 51, a 49, a 50, a 53, a 54] [ob 11 (.ref (a 0) :: .int (nI tn) :: .int fk :: .int fp :: .ref (a 4) :: .ref (a 5) :: .ref (a 6) :: .ref (a 7) :: .ref (a 8) :: .ref (a 9) :: .ref (a 10) :: .ref (a 11) :: .ref (a 12) :: .ref (a 13) :: .int (nI tr) :: .int (nI fm) :: .int ck :: .int te :: .int (nI fn) :: .ref (a 19) :: .ref (a 20) :: .ref (a 21) :: .ref (a 22) :: .ref (a 23) :: .ref (a 24) :: .ref (a 25) :: .ref (a 26) :: .ref (a 27) :: .int (b2 hp) :: .int yn :: .int (b2 ir) :: .ref (a 31) :: .int rc :: .ref (a 33) :: .int (nI mv) :: .int kd :: .int (nI bg) :: .int (nI en) :: .int mk :: .long le :: .int (nI tk) :: .int (nI op) :: .ref (a 42) :: .int (nI wn) :: .ref (a 44) :: .int (nI jn) :: .ref (a 46) :: .ref (a 47) :: .ref (a 48) :: .ref (a 49) :: .ref (a 50) :: .ref (a 51) :: .int (b2 ke) :: .ref (a 53) :: .ref (a 54) :: .ref (a 55) :: .int (nI cq) :: .int (nI cm) :: []), aI (CxD X) 144 (nf my), aI (CxD X) 12 (opf ai), aZ (CxD X) 12 (zf tr_), aZ (CxD X) 12 (zf gv), aI (CxD X) 53248 (nf L), aI (CxD X) 12 (opf tl1)] 118 [(0, .ref mo), (1, .int (nI s)), (2, .int (nI part)), (3, .int (nI p)), (5, .int (eo T))] [] → ∀ (m h : Nat), h + m = fm → mTo my ke ai (fun j => L (4096 * (p + 1) + j)) p part s due m h = T → Aw X [mo, a 48, a 51, a 49, a 50, a 53, a 54] [ob 11 (.ref (a 0) :: .int (nI tn) :: .int fk :: .int fp :: .ref (a 4) :: .ref (a 5) :: .ref (a 6) :: .ref (a 7) :: .ref (a 8) :: .ref (a 9) :: .ref (a 10) :: .ref (a 11) :: .ref (a 12) :: .ref (a 13) :: .int (nI tr) :: .int (nI fm) :: .int ck :: .int te :: .int (nI fn) :: .ref (a 19) :: .ref (a 20) :: .ref (a 21) :: .ref (a 22) :: .ref (a 23) :: .ref (a 24) :: .ref (a 25) :: .ref (a 26) :: .ref (a 27) :: .int (b2 hp) :: .int yn :: .int (b2 ir) :: .ref (a 31) :: .int rc :: .ref (a 33) :: .int (nI mv) :: .int kd :: .int (nI bg) :: .int (nI en) :: .int mk :: .long le :: .int (nI tk) :: .int (nI op) :: .ref (a 42) :: .int (nI wn) :: .ref (a 44) :: .int (nI jn) :: .ref (a 46) :: .ref (a 47) :: .ref (a 48) :: .ref (a 49) :: .ref (a 50) :: .ref (a 51) :: .int (b2 ke) :: .ref (a 53) :: .ref (a 54) :: .ref (a 55) :: .int (nI cq) :: .int (nI cm) :: []), aI (CxD X) 144 (nf my), aI (CxD X) 12 (opf ai), aZ (CxD X) 12 (zf tr_), aZ (CxD X) 12 (zf gv), aI (CxD X) 53248 (nf L), aI (CxD X) 12 (opf tl1)] 32 [(0, .ref mo), (1, .int (nI s)), (2, .int (nI part)), (3, .int (nI p)), (4, .int (nI due)), (5, .int (-1)), (6, .int (nI h))] [] := by
  intro kk_ m
  induction m with
  | zero =>
    intro h hh he
    refine r_iload (n := 34) hX dX11_follow_32 rfl 6 rfl ?_
    refine r_aload_n (n := 35) hX dX11_follow_34 rfl rfl 0 rfl ?_
    refine r_get (n := 38) hX 0 rfl rfl rfl 15 (by decide) lay_X11 fl_X11_251 rfl dX11_follow_35 rfl ?_
    refine r_icmp_ge_n (tgt := 118) (n := 41) hX h fm (by omega) (by omega) dX11_follow_38 (by decide) rfl (fun c38 => ?_) (fun c38 => absurd c38 (by omega))
    refine Aw.loc (lv' := [(0, .ref mo), (1, .int (nI s)), (2, .int (nI part)), (3, .int (nI p)), (5, .int (-1))]) [0, 1, 2, 3, 5] rfl ?_
    obtain rfl : none = T := he
    exact kk_
  | succ m ih =>
    intro h hh he
    refine r_iload (n := 34) hX dX11_follow_32 rfl 6 rfl ?_
    refine r_aload_n (n := 35) hX dX11_follow_34 rfl rfl 0 rfl ?_
    refine r_get (n := 38) hX 0 rfl rfl rfl 15 (by decide) lay_X11 fl_X11_251 rfl dX11_follow_35 rfl ?_
    refine r_icmp_ge_n (tgt := 118) (n := 41) hX h fm (by omega) (by omega) dX11_follow_38 (by decide) rfl (fun c38 => absurd c38 (by omega)) (fun c38 => ?_)
    refine r_iload (n := 43) hX dX11_follow_41 rfl 5 rfl ?_
    refine r_if_ge (tgt := 118) (n := 46) hX dX11_follow_43 (by decide) rfl (fun h => False.elim (by revert h; decide)) (fun _ => ?_)
    refine r_aload_n (n := 47) hX dX11_follow_46 rfl rfl 0 rfl ?_
    refine r_iload_n (n := 48) hX dX11_follow_47 rfl rfl 3 rfl ?_
    refine r_iload_n (n := 49) hX dX11_follow_48 rfl rfl 1 rfl ?_
    refine r_callV (n := 52) (av := [.int (nI p), .int (nI s)]) hX (ct_X11_mayGo (CxL X) (CxD X) mo a tn tr fm fn mv bg en tk op wn jn cq cm fk fp ck te yn rc kd mk le hp ir ke tr_ p s (by omega) hs) ml_X11_322 cv_X11_mayGo rfl (by decide) [0, 3] rfl rfl (by decide) 0 rfl rfl rfl rfl rfl (Nat.le_of_ble_eq_true rfl) dX11_follow_49 rfl (fun r_ es_ h_ l_ => ?_)
    obtain ⟨rfl, rfl⟩ := h_
    show Aw X [mo, a 48, a 51, a 49, a 50, a 53, a 54] [ob 11 (.ref (a 0) :: .int (nI tn) :: .int fk :: .int fp :: .ref (a 4) :: .ref (a 5) :: .ref (a 6) :: .ref (a 7) :: .ref (a 8) :: .ref (a 9) :: .ref (a 10) :: .ref (a 11) :: .ref (a 12) :: .ref (a 13) :: .int (nI tr) :: .int (nI fm) :: .int ck :: .int te :: .int (nI fn) :: .ref (a 19) :: .ref (a 20) :: .ref (a 21) :: .ref (a 22) :: .ref (a 23) :: .ref (a 24) :: .ref (a 25) :: .ref (a 26) :: .ref (a 27) :: .int (b2 hp) :: .int yn :: .int (b2 ir) :: .ref (a 31) :: .int rc :: .ref (a 33) :: .int (nI mv) :: .int kd :: .int (nI bg) :: .int (nI en) :: .int mk :: .long le :: .int (nI tk) :: .int (nI op) :: .ref (a 42) :: .int (nI wn) :: .ref (a 44) :: .int (nI jn) :: .ref (a 46) :: .ref (a 47) :: .ref (a 48) :: .ref (a 49) :: .ref (a 50) :: .ref (a 51) :: .int (b2 ke) :: .ref (a 53) :: .ref (a 54) :: .ref (a 55) :: .int (nI cq) :: .int (nI cm) :: []), aI (CxD X) 144 (nf my), aI (CxD X) 12 (opf ai), aZ (CxD X) 12 (zf tr_), aZ (CxD X) 12 (zf gv), aI (CxD X) 53248 (nf L), aI (CxD X) 12 (opf tl1)] 52 [(0, .ref mo), (1, .int (nI s)), (2, .int (nI part)), (3, .int (nI p)), (4, .int (nI due)), (5, .int (-1)), (6, .int (nI h))] [.int (b2 (mGo tr_ s p))]
    refine r_if_eq_b (tgt := 118) (n := 55) hX dX11_follow_52 (by decide) rfl (fun c52 => absurd c52 (by rw [hgo]; decide)) (fun c52 => ?_)
    refine r_iload_n (n := 56) hX dX11_follow_55 rfl rfl 1 rfl ?_
    refine r_iload (n := 58) hX dX11_follow_56 rfl 6 rfl ?_
    refine r_ishr (n := 59) hX dX11_follow_58 rfl ?_
    refine r_iconst (n := 60) hX 1 dX11_follow_59 rfl rfl ?_
    refine r_iand (n := 61) hX dX11_follow_60 rfl ?_
    refine Aw.topi (nI (s / 2 ^ h % 2)) (nb_bit (s := s) (p := h) (by omega) (by omega)) ?_
    refine r_iconst (n := 62) hX 1 dX11_follow_61 rfl rfl ?_
    refine r_icmp_ne_n (tgt := 112) (n := 65) hX (s / 2 ^ h % 2) 1 (Nat.lt_trans (Nat.mod_lt _ (by decide)) (by decide)) (by omega) dX11_follow_62 (by decide) rfl (fun c62 => ?_) (fun c62 => ?_)
    · skip
      refine r_iinc (n := 115) hX (nI (h + 1)) [(0, .ref mo), (1, .int (nI s)), (2, .int (nI part)), (3, .int (nI p)), (4, .int (nI due)), (5, .int (-1)), (6, .int (nI (h + 1)))] dX11_follow_112 rfl 6 rfl (nI_add _ _) (by decide) rfl ?_
      refine r_goto (tgt := 32) hX dX11_follow_115 (by decide) ?_
      exact ih (h + 1) (by omega) (by rw [← he, mTo, if_neg (fun e => c62 ((tb_eq s h).mpr e))])
    · skip
      refine r_iload_n (n := 66) hX dX11_follow_65 rfl rfl 2 rfl ?_
      refine r_iload (n := 68) hX dX11_follow_66 rfl 6 rfl ?_
      refine r_ishr (n := 69) hX dX11_follow_68 rfl ?_
      refine r_iconst (n := 70) hX 1 dX11_follow_69 rfl rfl ?_
      refine r_iand (n := 71) hX dX11_follow_70 rfl ?_
      refine Aw.topi (nI (part / 2 ^ h % 2)) (nb_bit (s := part) (p := h) (by omega) (by omega)) ?_
      refine r_if_ne_n (tgt := 112) (n := 74) hX (part / 2 ^ h % 2) (Nat.lt_trans (Nat.mod_lt _ (by decide)) (by decide)) dX11_follow_71 (by decide) rfl (fun c71 => ?_) (fun c71 => ?_)
      · skip
        refine r_iinc (n := 115) hX (nI (h + 1)) [(0, .ref mo), (1, .int (nI s)), (2, .int (nI part)), (3, .int (nI p)), (4, .int (nI due)), (5, .int (-1)), (6, .int (nI (h + 1)))] dX11_follow_112 rfl 6 rfl (nI_add _ _) (by decide) rfl ?_
        refine r_goto (tgt := 32) hX dX11_follow_115 (by decide) ?_
        exact ih (h + 1) (by omega) (by rw [← he, mTo, if_pos ((tb_eq s h).mp c62), if_pos (by cases e : part.testBit h with | true => rfl | false => exact absurd ((tb_0 part h).mpr e) c71)])
      · skip
        refine r_aload_n (n := 75) hX dX11_follow_74 rfl rfl 0 rfl ?_
        refine r_iload_n (n := 76) hX dX11_follow_75 rfl rfl 3 rfl ?_
        refine r_iload (n := 78) hX dX11_follow_76 rfl 6 rfl ?_
        refine r_callV (n := 81) (av := [.int (nI p), .int (nI h)]) hX (ct_X11_counts (CxL X) (CxD X) mo a tn tr fm fn mv bg en tk op wn jn cq cm fk fp ck te yn rc kd mk le hp ir ke my ai p h hmy hai (by omega) (by omega)) ml_X11_315 cv_X11_counts rfl (by decide) [0, 1, 2] rfl rfl (by decide) 0 rfl rfl rfl rfl rfl (Nat.le_of_ble_eq_true rfl) dX11_follow_78 rfl (fun r_ es_ h_ l_ => ?_)
        obtain ⟨rfl, rfl⟩ := h_
        show Aw X [mo, a 48, a 51, a 49, a 50, a 53, a 54] [ob 11 (.ref (a 0) :: .int (nI tn) :: .int fk :: .int fp :: .ref (a 4) :: .ref (a 5) :: .ref (a 6) :: .ref (a 7) :: .ref (a 8) :: .ref (a 9) :: .ref (a 10) :: .ref (a 11) :: .ref (a 12) :: .ref (a 13) :: .int (nI tr) :: .int (nI fm) :: .int ck :: .int te :: .int (nI fn) :: .ref (a 19) :: .ref (a 20) :: .ref (a 21) :: .ref (a 22) :: .ref (a 23) :: .ref (a 24) :: .ref (a 25) :: .ref (a 26) :: .ref (a 27) :: .int (b2 hp) :: .int yn :: .int (b2 ir) :: .ref (a 31) :: .int rc :: .ref (a 33) :: .int (nI mv) :: .int kd :: .int (nI bg) :: .int (nI en) :: .int mk :: .long le :: .int (nI tk) :: .int (nI op) :: .ref (a 42) :: .int (nI wn) :: .ref (a 44) :: .int (nI jn) :: .ref (a 46) :: .ref (a 47) :: .ref (a 48) :: .ref (a 49) :: .ref (a 50) :: .ref (a 51) :: .int (b2 ke) :: .ref (a 53) :: .ref (a 54) :: .ref (a 55) :: .int (nI cq) :: .int (nI cm) :: []), aI (CxD X) 144 (nf my), aI (CxD X) 12 (opf ai), aZ (CxD X) 12 (zf tr_), aZ (CxD X) 12 (zf gv), aI (CxD X) 53248 (nf L), aI (CxD X) 12 (opf tl1)] 81 [(0, .ref mo), (1, .int (nI s)), (2, .int (nI part)), (3, .int (nI p)), (4, .int (nI due)), (5, .int (-1)), (6, .int (nI h))] [.int (nI (mCn my ke ai p h))]
        refine r_aload_n (n := 82) hX dX11_follow_81 rfl rfl 0 rfl ?_
        refine r_get (n := 85) hX 0 rfl rfl rfl 53 (by decide) lay_X11 fl_X11_108 rfl dX11_follow_82 rfl ?_
        refine r_sipush (n := 88) hX 4096 dX11_follow_85 rfl rfl ?_
        refine r_iload_n (n := 89) hX dX11_follow_88 rfl rfl 3 rfl ?_
        refine r_iconst (n := 90) hX 1 dX11_follow_89 rfl rfl ?_
        refine r_iadd (n := 91) hX dX11_follow_90 rfl ?_
        refine Aw.topi (nI (p + 1)) (nI_add _ _) ?_
        refine r_imul (n := 92) hX dX11_follow_91 rfl ?_
        refine Aw.topi (nI (4096 * (p + 1))) (pk_mul _ _) ?_
        refine r_iload_n (n := 93) hX dX11_follow_92 rfl rfl 2 rfl ?_
        refine r_iconst (n := 94) hX 1 dX11_follow_93 rfl rfl ?_
        refine r_iload (n := 96) hX dX11_follow_94 rfl 6 rfl ?_
        refine r_ishl (n := 97) hX dX11_follow_96 rfl ?_
        refine Aw.topi (nI (2 ^ h)) (nb_shl (by omega)) ?_
        refine r_ior (n := 98) hX dX11_follow_97 rfl ?_
        refine Aw.topi (nI (part ||| 2 ^ h)) (nb_or _ _) ?_
        refine r_iadd (n := 99) hX dX11_follow_98 rfl ?_
        refine Aw.topi (nI ((4096 * (p + 1)) + (part ||| 2 ^ h))) (nI_add _ _) ?_
        have hor := or_lt12 hpt (show h < 12 by omega)
        refine r_ialdNn (n := 100) (i := ((4096 * (p + 1)) + (part ||| 2 ^ h))) hX 5 rfl rfl (by omega) (by decide) dX11_follow_99 rfl ?_
        refine r_callS (n := 103) (av := [.int (nI (mCn my ke ai p h)), .int (nI (L ((4096 * (p + 1)) + (part ||| 2 ^ h))))]) hX (ct_X11_sum (CxL X) (CxD X) (mCn my ke ai p h) (L ((4096 * (p + 1)) + (part ||| 2 ^ h))) (Nat.lt_of_le_of_lt (mCn_le hmy) (by decide)) (Nat.lt_of_le_of_lt (hL _) (by decide))) ml_X11_319 cs_X11_sum rfl (by decide) [] rfl rfl (by decide) rfl (Nat.le_of_ble_eq_true rfl) dX11_follow_100 rfl (fun r_ es_ h_ l_ => ?_)
        obtain ⟨rfl, rfl⟩ := h_
        show Aw X [mo, a 48, a 51, a 49, a 50, a 53, a 54] [ob 11 (.ref (a 0) :: .int (nI tn) :: .int fk :: .int fp :: .ref (a 4) :: .ref (a 5) :: .ref (a 6) :: .ref (a 7) :: .ref (a 8) :: .ref (a 9) :: .ref (a 10) :: .ref (a 11) :: .ref (a 12) :: .ref (a 13) :: .int (nI tr) :: .int (nI fm) :: .int ck :: .int te :: .int (nI fn) :: .ref (a 19) :: .ref (a 20) :: .ref (a 21) :: .ref (a 22) :: .ref (a 23) :: .ref (a 24) :: .ref (a 25) :: .ref (a 26) :: .ref (a 27) :: .int (b2 hp) :: .int yn :: .int (b2 ir) :: .ref (a 31) :: .int rc :: .ref (a 33) :: .int (nI mv) :: .int kd :: .int (nI bg) :: .int (nI en) :: .int mk :: .long le :: .int (nI tk) :: .int (nI op) :: .ref (a 42) :: .int (nI wn) :: .ref (a 44) :: .int (nI jn) :: .ref (a 46) :: .ref (a 47) :: .ref (a 48) :: .ref (a 49) :: .ref (a 50) :: .ref (a 51) :: .int (b2 ke) :: .ref (a 53) :: .ref (a 54) :: .ref (a 55) :: .int (nI cq) :: .int (nI cm) :: []), aI (CxD X) 144 (nf my), aI (CxD X) 12 (opf ai), aZ (CxD X) 12 (zf tr_), aZ (CxD X) 12 (zf gv), aI (CxD X) 53248 (nf L), aI (CxD X) 12 (opf tl1)] 103 [(0, .ref mo), (1, .int (nI s)), (2, .int (nI part)), (3, .int (nI p)), (4, .int (nI due)), (5, .int (-1)), (6, .int (nI h))] [.int (nI (mSu (mCn my ke ai p h) (L ((4096 * (p + 1)) + (part ||| 2 ^ h)))))]
        refine r_iload (n := 105) hX dX11_follow_103 rfl 4 rfl ?_
        refine r_icmp_ne_n (tgt := 112) (n := 108) hX (mSu (mCn my ke ai p h) (L ((4096 * (p + 1)) + (part ||| 2 ^ h)))) due (Nat.lt_of_le_of_lt mSu_le (by decide)) (by omega) dX11_follow_105 (by decide) rfl (fun c105 => ?_) (fun c105 => ?_)
        · skip
          refine r_iinc (n := 115) hX (nI (h + 1)) [(0, .ref mo), (1, .int (nI s)), (2, .int (nI part)), (3, .int (nI p)), (4, .int (nI due)), (5, .int (-1)), (6, .int (nI (h + 1)))] dX11_follow_112 rfl 6 rfl (nI_add _ _) (by decide) rfl ?_
          refine r_goto (tgt := 32) hX dX11_follow_115 (by decide) ?_
          exact ih (h + 1) (by omega) (by rw [← he, mTo, if_pos ((tb_eq s h).mp c62), if_neg (by rw [(tb_0 part h).mp c71]; decide), if_neg c105])
        · skip
          refine r_iload (n := 110) hX dX11_follow_108 rfl 6 rfl ?_
          refine r_istore (n := 112) hX [(0, .ref mo), (1, .int (nI s)), (2, .int (nI part)), (3, .int (nI p)), (4, .int (nI due)), (5, .int (nI h)), (6, .int (nI h))] dX11_follow_110 rfl (by decide) rfl ?_
          refine r_iinc (n := 115) hX (nI (h + 1)) [(0, .ref mo), (1, .int (nI s)), (2, .int (nI part)), (3, .int (nI p)), (4, .int (nI due)), (5, .int (nI h)), (6, .int (nI (h + 1)))] dX11_follow_112 rfl 6 rfl (nI_add _ _) (by decide) rfl ?_
          refine r_goto (tgt := 32) hX dX11_follow_115 (by decide) ?_
          refine r_iload (n := 34) hX dX11_follow_32 rfl 6 rfl ?_
          refine r_aload_n (n := 35) hX dX11_follow_34 rfl rfl 0 rfl ?_
          refine r_get (n := 38) hX 0 rfl rfl rfl 15 (by decide) lay_X11 fl_X11_251 rfl dX11_follow_35 rfl ?_
          refine r_icmp_ge_n (tgt := 118) (n := 41) hX (h + 1) fm (by omega) (by omega) dX11_follow_38 (by decide) rfl (fun c38 => ?_) (fun c38 => ?_)
          · skip
            refine Aw.loc (lv' := [(0, .ref mo), (1, .int (nI s)), (2, .int (nI part)), (3, .int (nI p)), (5, .int (nI h))]) [0, 1, 2, 3, 5] rfl ?_
            have hT : some h = T := (by rw [← he, mTo, if_pos ((tb_eq s h).mp c62), if_neg (by rw [(tb_0 part h).mp c71]; decide), if_pos c105])
            subst hT
            exact kk_
          · skip
            refine r_iload (n := 43) hX dX11_follow_41 rfl 5 rfl ?_
            refine r_ifge_n (tgt := 118) hX (by omega) dX11_follow_43 (by decide) ?_
            refine Aw.loc (lv' := [(0, .ref mo), (1, .int (nI s)), (2, .int (nI part)), (3, .int (nI p)), (5, .int (nI h))]) [0, 1, 2, 3, 5] rfl ?_
            have hT : some h = T := (by rw [← he, mTo, if_pos ((tb_eq s h).mp c62), if_neg (by rw [(tb_0 part h).mp c71]; decide), if_pos c105])
            subst hT
            exact kk_
set_option maxHeartbeats 1000000 in
set_option maxRecDepth 100000 in
theorem lp_fol3 {X : Cx} (hX : Ok X cX11_follow 7 RX11 2) (mo : Nat) (a : Nat → Nat) (tn tr fm fn mv bg en tk op wn jn cq cm : Nat) (fk fp ck te yn rc kd mk : Int32) (le : Int64) (hp ir ke : Bool) (my : Nat → Nat) (ai : Nat → Option Nat) (tr_ gv : Nat → Bool) (L : Nat → Nat) (tl : Nat → Option Nat) (s : Nat) (hf : fm ≤ 12) (hmy : myOk my) (hai : obd ai) (hL : lsOk L) (hs : s < 4096) (part p due : Nat) (hpf : p < fm) (hpt : part < 4096) (hdue : due ≤ 200000000) (tl1 : Nat → Option Nat) (hgo : mGo tr_ s p = false) (hR : Rt X (none) (fun r es' => r = none ∧ es' = [ob 11 (.ref (a 0) :: .int (nI tn) :: .int fk :: .int fp :: .ref (a 4) :: .ref (a 5) :: .ref (a 6) :: .ref (a 7) :: .ref (a 8) :: .ref (a 9) :: .ref (a 10) :: .ref (a 11) :: .ref (a 12) :: .ref (a 13) :: .int (nI tr) :: .int (nI fm) :: .int ck :: .int te :: .int (nI fn) :: .ref (a 19) :: .ref (a 20) :: .ref (a 21) :: .ref (a 22) :: .ref (a 23) :: .ref (a 24) :: .ref (a 25) :: .ref (a 26) :: .ref (a 27) :: .int (b2 hp) :: .int yn :: .int (b2 ir) :: .ref (a 31) :: .int rc :: .ref (a 33) :: .int (nI mv) :: .int kd :: .int (nI bg) :: .int (nI en) :: .int mk :: .long le :: .int (nI tk) :: .int (nI op) :: .ref (a 42) :: .int (nI wn) :: .ref (a 44) :: .int (nI jn) :: .ref (a 46) :: .ref (a 47) :: .ref (a 48) :: .ref (a 49) :: .ref (a 50) :: .ref (a 51) :: .int (b2 ke) :: .ref (a 53) :: .ref (a 54) :: .ref (a 55) :: .int (nI cq) :: .int (nI cm) :: []), aI (CxD X) 144 (nf my), aI (CxD X) 12 (opf ai), aZ (CxD X) 12 (zf tr_), aZ (CxD X) 12 (zf gv), aI (CxD X) 53248 (nf L), aI (CxD X) 12 (opf (cpyO tl (mPT my ke ai tr_ fm (fun q j => L (4096 * q + j)) s) fm))]) [mo, a 48, a 51, a 49, a 50, a 53, a 54]) : Aw X [mo, a 48, a 51, a 49, a 50, a 53, a 54] [ob 11 (.ref (a 0) :: .int (nI tn) :: .int fk :: .int fp :: .ref (a 4) :: .ref (a 5) :: .ref (a 6) :: .ref (a 7) :: .ref (a 8) :: .ref (a 9) :: .ref (a 10) :: .ref (a 11) :: .ref (a 12) :: .ref (a 13) :: .int (nI tr) :: .int (nI fm) :: .int ck :: .int te :: .int (nI fn) :: .ref (a 19) :: .ref (a 20) :: .ref (a 21) :: .ref (a 22) :: .ref (a 23) :: .ref (a 24) :: .ref (a 25) :: .ref (a 26) :: .ref (a 27) :: .int (b2 hp) :: .int yn :: .int (b2 ir) :: .ref (a 31) :: .int rc :: .ref (a 33) :: .int (nI mv) :: .int kd :: .int (nI bg) :: .int (nI en) :: .int mk :: .long le :: .int (nI tk) :: .int (nI op) :: .ref (a 42) :: .int (nI wn) :: .ref (a 44) :: .int (nI jn) :: .ref (a 46) :: .ref (a 47) :: .ref (a 48) :: .ref (a 49) :: .ref (a 50) :: .ref (a 51) :: .int (b2 ke) :: .ref (a 53) :: .ref (a 54) :: .ref (a 55) :: .int (nI cq) :: .int (nI cm) :: []), aI (CxD X) 144 (nf my), aI (CxD X) 12 (opf ai), aZ (CxD X) 12 (zf tr_), aZ (CxD X) 12 (zf gv), aI (CxD X) 53248 (nf L), aI (CxD X) 12 (opf tl1)] 118 [(0, .ref mo), (1, .int (nI s)), (2, .int (nI part)), (3, .int (nI p)), (5, .int (eo none))] [] → Aw X [mo, a 48, a 51, a 49, a 50, a 53, a 54] [ob 11 (.ref (a 0) :: .int (nI tn) :: .int fk :: .int fp :: .ref (a 4) :: .ref (a 5) :: .ref (a 6) :: .ref (a 7) :: .ref (a 8) :: .ref (a 9) :: .ref (a 10) :: .ref (a 11) :: .ref (a 12) :: .ref (a 13) :: .int (nI tr) :: .int (nI fm) :: .int ck :: .int te :: .int (nI fn) :: .ref (a 19) :: .ref (a 20) :: .ref (a 21) :: .ref (a 22) :: .ref (a 23) :: .ref (a 24) :: .ref (a 25) :: .ref (a 26) :: .ref (a 27) :: .int (b2 hp) :: .int yn :: .int (b2 ir) :: .ref (a 31) :: .int rc :: .ref (a 33) :: .int (nI mv) :: .int kd :: .int (nI bg) :: .int (nI en) :: .int mk :: .long le :: .int (nI tk) :: .int (nI op) :: .ref (a 42) :: .int (nI wn) :: .ref (a 44) :: .int (nI jn) :: .ref (a 46) :: .ref (a 47) :: .ref (a 48) :: .ref (a 49) :: .ref (a 50) :: .ref (a 51) :: .int (b2 ke) :: .ref (a 53) :: .ref (a 54) :: .ref (a 55) :: .int (nI cq) :: .int (nI cm) :: []), aI (CxD X) 144 (nf my), aI (CxD X) 12 (opf ai), aZ (CxD X) 12 (zf tr_), aZ (CxD X) 12 (zf gv), aI (CxD X) 53248 (nf L), aI (CxD X) 12 (opf tl1)] 32 [(0, .ref mo), (1, .int (nI s)), (2, .int (nI part)), (3, .int (nI p)), (4, .int (nI due)), (5, .int (-1)), (6, .int (nI 0))] [] := by
  intro kk_
  refine r_iload (n := 34) hX dX11_follow_32 rfl 6 rfl ?_
  refine r_aload_n (n := 35) hX dX11_follow_34 rfl rfl 0 rfl ?_
  refine r_get (n := 38) hX 0 rfl rfl rfl 15 (by decide) lay_X11 fl_X11_251 rfl dX11_follow_35 rfl ?_
  refine r_icmp_ge_n (tgt := 118) (n := 41) hX 0 fm (by omega) (by omega) dX11_follow_38 (by decide) rfl (fun c38 => absurd c38 (by omega)) (fun c38 => ?_)
  refine r_iload (n := 43) hX dX11_follow_41 rfl 5 rfl ?_
  refine r_if_ge (tgt := 118) (n := 46) hX dX11_follow_43 (by decide) rfl (fun h => False.elim (by revert h; decide)) (fun _ => ?_)
  refine r_aload_n (n := 47) hX dX11_follow_46 rfl rfl 0 rfl ?_
  refine r_iload_n (n := 48) hX dX11_follow_47 rfl rfl 3 rfl ?_
  refine r_iload_n (n := 49) hX dX11_follow_48 rfl rfl 1 rfl ?_
  refine r_callV (n := 52) (av := [.int (nI p), .int (nI s)]) hX (ct_X11_mayGo (CxL X) (CxD X) mo a tn tr fm fn mv bg en tk op wn jn cq cm fk fp ck te yn rc kd mk le hp ir ke tr_ p s (by omega) hs) ml_X11_322 cv_X11_mayGo rfl (by decide) [0, 3] rfl rfl (by decide) 0 rfl rfl rfl rfl rfl (Nat.le_of_ble_eq_true rfl) dX11_follow_49 rfl (fun r_ es_ h_ l_ => ?_)
  obtain ⟨rfl, rfl⟩ := h_
  show Aw X [mo, a 48, a 51, a 49, a 50, a 53, a 54] [ob 11 (.ref (a 0) :: .int (nI tn) :: .int fk :: .int fp :: .ref (a 4) :: .ref (a 5) :: .ref (a 6) :: .ref (a 7) :: .ref (a 8) :: .ref (a 9) :: .ref (a 10) :: .ref (a 11) :: .ref (a 12) :: .ref (a 13) :: .int (nI tr) :: .int (nI fm) :: .int ck :: .int te :: .int (nI fn) :: .ref (a 19) :: .ref (a 20) :: .ref (a 21) :: .ref (a 22) :: .ref (a 23) :: .ref (a 24) :: .ref (a 25) :: .ref (a 26) :: .ref (a 27) :: .int (b2 hp) :: .int yn :: .int (b2 ir) :: .ref (a 31) :: .int rc :: .ref (a 33) :: .int (nI mv) :: .int kd :: .int (nI bg) :: .int (nI en) :: .int mk :: .long le :: .int (nI tk) :: .int (nI op) :: .ref (a 42) :: .int (nI wn) :: .ref (a 44) :: .int (nI jn) :: .ref (a 46) :: .ref (a 47) :: .ref (a 48) :: .ref (a 49) :: .ref (a 50) :: .ref (a 51) :: .int (b2 ke) :: .ref (a 53) :: .ref (a 54) :: .ref (a 55) :: .int (nI cq) :: .int (nI cm) :: []), aI (CxD X) 144 (nf my), aI (CxD X) 12 (opf ai), aZ (CxD X) 12 (zf tr_), aZ (CxD X) 12 (zf gv), aI (CxD X) 53248 (nf L), aI (CxD X) 12 (opf tl1)] 52 [(0, .ref mo), (1, .int (nI s)), (2, .int (nI part)), (3, .int (nI p)), (4, .int (nI due)), (5, .int (-1)), (6, .int (nI 0))] [.int (b2 (mGo tr_ s p))]
  refine r_if_eq_b (tgt := 118) (n := 55) hX dX11_follow_52 (by decide) rfl (fun c52 => ?_) (fun c52 => absurd c52 (by rw [hgo]; decide))
  refine Aw.loc (lv' := [(0, .ref mo), (1, .int (nI s)), (2, .int (nI part)), (3, .int (nI p)), (5, .int (-1))]) [0, 1, 2, 3, 5] rfl ?_
  exact kk_
set_option maxHeartbeats 1000000 in
set_option maxRecDepth 100000 in
theorem lp_fol1 {X : Cx} (hX : Ok X cX11_follow 7 RX11 2) (mo : Nat) (a : Nat → Nat) (tn tr fm fn mv bg en tk op wn jn cq cm : Nat) (fk fp ck te yn rc kd mk : Int32) (le : Int64) (hp ir ke : Bool) (my : Nat → Nat) (ai : Nat → Option Nat) (tr_ gv : Nat → Bool) (L : Nat → Nat) (tl : Nat → Option Nat) (s : Nat) (hf : fm ≤ 12) (hmy : myOk my) (hai : obd ai) (hL : lsOk L) (hs : s < 4096) (hR : Rt X (none) (fun r es' => r = none ∧ es' = [ob 11 (.ref (a 0) :: .int (nI tn) :: .int fk :: .int fp :: .ref (a 4) :: .ref (a 5) :: .ref (a 6) :: .ref (a 7) :: .ref (a 8) :: .ref (a 9) :: .ref (a 10) :: .ref (a 11) :: .ref (a 12) :: .ref (a 13) :: .int (nI tr) :: .int (nI fm) :: .int ck :: .int te :: .int (nI fn) :: .ref (a 19) :: .ref (a 20) :: .ref (a 21) :: .ref (a 22) :: .ref (a 23) :: .ref (a 24) :: .ref (a 25) :: .ref (a 26) :: .ref (a 27) :: .int (b2 hp) :: .int yn :: .int (b2 ir) :: .ref (a 31) :: .int rc :: .ref (a 33) :: .int (nI mv) :: .int kd :: .int (nI bg) :: .int (nI en) :: .int mk :: .long le :: .int (nI tk) :: .int (nI op) :: .ref (a 42) :: .int (nI wn) :: .ref (a 44) :: .int (nI jn) :: .ref (a 46) :: .ref (a 47) :: .ref (a 48) :: .ref (a 49) :: .ref (a 50) :: .ref (a 51) :: .int (b2 ke) :: .ref (a 53) :: .ref (a 54) :: .ref (a 55) :: .int (nI cq) :: .int (nI cm) :: []), aI (CxD X) 144 (nf my), aI (CxD X) 12 (opf ai), aZ (CxD X) 12 (zf tr_), aZ (CxD X) 12 (zf gv), aI (CxD X) 53248 (nf L), aI (CxD X) 12 (opf (cpyO tl (mPT my ke ai tr_ fm (fun q j => L (4096 * q + j)) s) fm))]) [mo, a 48, a 51, a 49, a 50, a 53, a 54]) : ∀ (m p : Nat), p + m = fm → Aw X [mo, a 48, a 51, a 49, a 50, a 53, a 54] [ob 11 (.ref (a 0) :: .int (nI tn) :: .int fk :: .int fp :: .ref (a 4) :: .ref (a 5) :: .ref (a 6) :: .ref (a 7) :: .ref (a 8) :: .ref (a 9) :: .ref (a 10) :: .ref (a 11) :: .ref (a 12) :: .ref (a 13) :: .int (nI tr) :: .int (nI fm) :: .int ck :: .int te :: .int (nI fn) :: .ref (a 19) :: .ref (a 20) :: .ref (a 21) :: .ref (a 22) :: .ref (a 23) :: .ref (a 24) :: .ref (a 25) :: .ref (a 26) :: .ref (a 27) :: .int (b2 hp) :: .int yn :: .int (b2 ir) :: .ref (a 31) :: .int rc :: .ref (a 33) :: .int (nI mv) :: .int kd :: .int (nI bg) :: .int (nI en) :: .int mk :: .long le :: .int (nI tk) :: .int (nI op) :: .ref (a 42) :: .int (nI wn) :: .ref (a 44) :: .int (nI jn) :: .ref (a 46) :: .ref (a 47) :: .ref (a 48) :: .ref (a 49) :: .ref (a 50) :: .ref (a 51) :: .int (b2 ke) :: .ref (a 53) :: .ref (a 54) :: .ref (a 55) :: .int (nI cq) :: .int (nI cm) :: []), aI (CxD X) 144 (nf my), aI (CxD X) 12 (opf ai), aZ (CxD X) 12 (zf tr_), aZ (CxD X) 12 (zf gv), aI (CxD X) 53248 (nf L), aI (CxD X) 12 (opf (cpyO tl (mPT my ke ai tr_ fm (fun q j => L (4096 * q + j)) s) p))] 4 [(0, .ref mo), (1, .int (nI s)), (2, .int (nI (mPF my ke ai tr_ fm (fun q j => L (4096 * q + j)) s p))), (3, .int (nI p))] [] := by
  intro m
  induction m with
  | zero =>
    intro p hpm
    refine r_iload_n (n := 5) hX dX11_follow_4 rfl rfl 3 rfl ?_
    refine r_aload_n (n := 6) hX dX11_follow_5 rfl rfl 0 rfl ?_
    refine r_get (n := 9) hX 0 rfl rfl rfl 15 (by decide) lay_X11 fl_X11_251 rfl dX11_follow_6 rfl ?_
    refine r_icmp_ge_n (tgt := 148) (n := 12) hX p fm (by omega) (by omega) dX11_follow_9 (by decide) rfl (fun c9 => ?_) (fun c9 => absurd c9 (by omega))
    exact r_return hX hR dX11_follow_148 ⟨rfl, by obtain rfl : p = fm := (by omega); rfl⟩
  | succ m ih =>
    intro p hpm
    have hpt : mPF my ke ai tr_ fm (fun q j => L (4096 * q + j)) s p < 4096 := Nat.lt_of_le_of_lt (sub_le (mPF_sub p)) hs
    generalize hpart : mPF my ke ai tr_ fm (fun q j => L (4096 * q + j)) s p = part at hpt ⊢
    refine r_iload_n (n := 5) hX dX11_follow_4 rfl rfl 3 rfl ?_
    refine r_aload_n (n := 6) hX dX11_follow_5 rfl rfl 0 rfl ?_
    refine r_get (n := 9) hX 0 rfl rfl rfl 15 (by decide) lay_X11 fl_X11_251 rfl dX11_follow_6 rfl ?_
    refine r_icmp_ge_n (tgt := 148) (n := 12) hX p fm (by omega) (by omega) dX11_follow_9 (by decide) rfl (fun c9 => absurd c9 (by omega)) (fun c9 => ?_)
    refine r_aload_n (n := 13) hX dX11_follow_12 rfl rfl 0 rfl ?_
    refine r_get (n := 16) hX 0 rfl rfl rfl 53 (by decide) lay_X11 fl_X11_108 rfl dX11_follow_13 rfl ?_
    refine r_sipush (n := 19) hX 4096 dX11_follow_16 rfl rfl ?_
    refine r_iload_n (n := 20) hX dX11_follow_19 rfl rfl 3 rfl ?_
    refine r_imul (n := 21) hX dX11_follow_20 rfl ?_
    refine Aw.topi (nI (4096 * p)) (pk_mul _ _) ?_
    refine r_iload_n (n := 22) hX dX11_follow_21 rfl rfl 2 rfl ?_
    refine r_iadd (n := 23) hX dX11_follow_22 rfl ?_
    refine Aw.topi (nI ((4096 * p) + part)) (nI_add _ _) ?_
    refine r_ialdNn (n := 24) (i := ((4096 * p) + part)) hX 5 rfl rfl (by omega) (by decide) dX11_follow_23 rfl ?_
    refine r_istore (n := 26) hX [(0, .ref mo), (1, .int (nI s)), (2, .int (nI part)), (3, .int (nI p)), (4, .int (nI (L ((4096 * p) + part))))] dX11_follow_24 rfl (by decide) rfl ?_
    refine r_iconst (n := 27) hX (-1) dX11_follow_26 rfl rfl ?_
    refine r_istore (n := 29) hX [(0, .ref mo), (1, .int (nI s)), (2, .int (nI part)), (3, .int (nI p)), (4, .int (nI (L ((4096 * p) + part)))), (5, .int (-1))] dX11_follow_27 rfl (by decide) rfl ?_
    refine r_iconst (n := 30) hX 0 dX11_follow_29 rfl rfl ?_
    refine r_istore (n := 32) hX [(0, .ref mo), (1, .int (nI s)), (2, .int (nI part)), (3, .int (nI p)), (4, .int (nI (L ((4096 * p) + part)))), (5, .int (-1)), (6, .int 0)] dX11_follow_30 rfl (by decide) rfl ?_
    have hx : ∀ T : Option Nat, mPk my ke ai tr_ fm (fun q j => L (4096 * q + j)) s p part = T → Aw X [mo, a 48, a 51, a 49, a 50, a 53, a 54] [ob 11 (.ref (a 0) :: .int (nI tn) :: .int fk :: .int fp :: .ref (a 4) :: .ref (a 5) :: .ref (a 6) :: .ref (a 7) :: .ref (a 8) :: .ref (a 9) :: .ref (a 10) :: .ref (a 11) :: .ref (a 12) :: .ref (a 13) :: .int (nI tr) :: .int (nI fm) :: .int ck :: .int te :: .int (nI fn) :: .ref (a 19) :: .ref (a 20) :: .ref (a 21) :: .ref (a 22) :: .ref (a 23) :: .ref (a 24) :: .ref (a 25) :: .ref (a 26) :: .ref (a 27) :: .int (b2 hp) :: .int yn :: .int (b2 ir) :: .ref (a 31) :: .int rc :: .ref (a 33) :: .int (nI mv) :: .int kd :: .int (nI bg) :: .int (nI en) :: .int mk :: .long le :: .int (nI tk) :: .int (nI op) :: .ref (a 42) :: .int (nI wn) :: .ref (a 44) :: .int (nI jn) :: .ref (a 46) :: .ref (a 47) :: .ref (a 48) :: .ref (a 49) :: .ref (a 50) :: .ref (a 51) :: .int (b2 ke) :: .ref (a 53) :: .ref (a 54) :: .ref (a 55) :: .int (nI cq) :: .int (nI cm) :: []), aI (CxD X) 144 (nf my), aI (CxD X) 12 (opf ai), aZ (CxD X) 12 (zf tr_), aZ (CxD X) 12 (zf gv), aI (CxD X) 53248 (nf L), aI (CxD X) 12 (opf (cpyO tl (mPT my ke ai tr_ fm (fun q j => L (4096 * q + j)) s) p))] 118 [(0, .ref mo), (1, .int (nI s)), (2, .int (nI part)), (3, .int (nI p)), (5, .int (eo T))] [] := by
      intro T hT
      have hpt1 : mPT my ke ai tr_ fm (fun q j => L (4096 * q + j)) s p = T := (by unfold mPT; rw [hpart]; exact hT)
      have hpf1 : mPF my ke ai tr_ fm (fun q j => L (4096 * q + j)) s (p + 1) = addO part T := (by show addO (mPF my ke ai tr_ fm (fun q j => L (4096 * q + j)) s p) (mPk my ke ai tr_ fm (fun q j => L (4096 * q + j)) s p (mPF my ke ai tr_ fm (fun q j => L (4096 * q + j)) s p)) = _; rw [hpart, hT])
      cases T with
      | none =>
        refine r_aload_n (n := 119) hX dX11_follow_118 rfl rfl 0 rfl ?_
        refine r_get (n := 122) hX 0 rfl rfl rfl 54 (by decide) lay_X11 fl_X11_111 rfl dX11_follow_119 rfl ?_
        refine r_iload_n (n := 123) hX dX11_follow_122 rfl rfl 3 rfl ?_
        refine r_iload (n := 125) hX dX11_follow_123 rfl 4 rfl ?_
        refine r_iastOn (n := 126) (i := p) hX 6 rfl rfl none [ob 11 (.ref (a 0) :: .int (nI tn) :: .int fk :: .int fp :: .ref (a 4) :: .ref (a 5) :: .ref (a 6) :: .ref (a 7) :: .ref (a 8) :: .ref (a 9) :: .ref (a 10) :: .ref (a 11) :: .ref (a 12) :: .ref (a 13) :: .int (nI tr) :: .int (nI fm) :: .int ck :: .int te :: .int (nI fn) :: .ref (a 19) :: .ref (a 20) :: .ref (a 21) :: .ref (a 22) :: .ref (a 23) :: .ref (a 24) :: .ref (a 25) :: .ref (a 26) :: .ref (a 27) :: .int (b2 hp) :: .int yn :: .int (b2 ir) :: .ref (a 31) :: .int rc :: .ref (a 33) :: .int (nI mv) :: .int kd :: .int (nI bg) :: .int (nI en) :: .int mk :: .long le :: .int (nI tk) :: .int (nI op) :: .ref (a 42) :: .int (nI wn) :: .ref (a 44) :: .int (nI jn) :: .ref (a 46) :: .ref (a 47) :: .ref (a 48) :: .ref (a 49) :: .ref (a 50) :: .ref (a 51) :: .int (b2 ke) :: .ref (a 53) :: .ref (a 54) :: .ref (a 55) :: .int (nI cq) :: .int (nI cm) :: []), aI (CxD X) 144 (nf my), aI (CxD X) 12 (opf ai), aZ (CxD X) 12 (zf tr_), aZ (CxD X) 12 (zf gv), aI (CxD X) 53248 (nf L), aI (CxD X) 12 (opf (va_up (cpyO tl (mPT my ke ai tr_ fm (fun q j => L (4096 * q + j)) s) p) p none))] (by omega) (by decide) rfl dX11_follow_125 rfl ?_
        refine r_iload (n := 128) hX dX11_follow_126 rfl 4 rfl ?_
        refine r_if_ge (tgt := 135) (n := 131) hX dX11_follow_128 (by decide) rfl (fun h => False.elim (by revert h; decide)) (fun _ => ?_)
        refine r_iload_n (n := 132) hX dX11_follow_131 rfl rfl 2 rfl ?_
        refine r_goto (tgt := 141) hX dX11_follow_132 (by decide) ?_
        refine r_istore_n (n := 142) hX [(0, .ref mo), (1, .int (nI s)), (2, .int (nI part)), (3, .int (nI p)), (5, .int (-1))] dX11_follow_141 rfl rfl (by decide) rfl ?_
        refine r_iinc (n := 145) hX (nI (p + 1)) [(0, .ref mo), (1, .int (nI s)), (2, .int (nI part)), (3, .int (nI (p + 1))), (5, .int (-1))] dX11_follow_142 rfl 3 rfl (nI_add _ _) (by decide) rfl ?_
        refine r_goto (tgt := 4) hX dX11_follow_145 (by decide) ?_
        refine Aw.loc (lv' := [(0, .ref mo), (1, .int (nI s)), (2, .int (nI part)), (3, .int (nI (p + 1)))]) [0, 1, 2, 3] rfl ?_
        refine Aw.eqs (es' := [ob 11 (.ref (a 0) :: .int (nI tn) :: .int fk :: .int fp :: .ref (a 4) :: .ref (a 5) :: .ref (a 6) :: .ref (a 7) :: .ref (a 8) :: .ref (a 9) :: .ref (a 10) :: .ref (a 11) :: .ref (a 12) :: .ref (a 13) :: .int (nI tr) :: .int (nI fm) :: .int ck :: .int te :: .int (nI fn) :: .ref (a 19) :: .ref (a 20) :: .ref (a 21) :: .ref (a 22) :: .ref (a 23) :: .ref (a 24) :: .ref (a 25) :: .ref (a 26) :: .ref (a 27) :: .int (b2 hp) :: .int yn :: .int (b2 ir) :: .ref (a 31) :: .int rc :: .ref (a 33) :: .int (nI mv) :: .int kd :: .int (nI bg) :: .int (nI en) :: .int mk :: .long le :: .int (nI tk) :: .int (nI op) :: .ref (a 42) :: .int (nI wn) :: .ref (a 44) :: .int (nI jn) :: .ref (a 46) :: .ref (a 47) :: .ref (a 48) :: .ref (a 49) :: .ref (a 50) :: .ref (a 51) :: .int (b2 ke) :: .ref (a 53) :: .ref (a 54) :: .ref (a 55) :: .int (nI cq) :: .int (nI cm) :: []), aI (CxD X) 144 (nf my), aI (CxD X) 12 (opf ai), aZ (CxD X) 12 (zf tr_), aZ (CxD X) 12 (zf gv), aI (CxD X) 53248 (nf L), aI (CxD X) 12 (opf (cpyO tl (mPT my ke ai tr_ fm (fun q j => L (4096 * q + j)) s) (p + 1)))]) (by rw [← cpyO_s, hpt1]) (lv' := [(0, .ref mo), (1, .int (nI s)), (2, .int (nI (mPF my ke ai tr_ fm (fun q j => L (4096 * q + j)) s (p + 1)))), (3, .int (nI (p + 1)))]) (by rw [hpf1]; rfl) rfl ?_
        exact ih (p + 1) (by omega)
      | some h =>
        have hh12 := (mPk_in hT).1
        refine r_aload_n (n := 119) hX dX11_follow_118 rfl rfl 0 rfl ?_
        refine r_get (n := 122) hX 0 rfl rfl rfl 54 (by decide) lay_X11 fl_X11_111 rfl dX11_follow_119 rfl ?_
        refine r_iload_n (n := 123) hX dX11_follow_122 rfl rfl 3 rfl ?_
        refine r_iload (n := 125) hX dX11_follow_123 rfl 4 rfl ?_
        refine r_iastOn (n := 126) (i := p) hX 6 rfl rfl (some h) [ob 11 (.ref (a 0) :: .int (nI tn) :: .int fk :: .int fp :: .ref (a 4) :: .ref (a 5) :: .ref (a 6) :: .ref (a 7) :: .ref (a 8) :: .ref (a 9) :: .ref (a 10) :: .ref (a 11) :: .ref (a 12) :: .ref (a 13) :: .int (nI tr) :: .int (nI fm) :: .int ck :: .int te :: .int (nI fn) :: .ref (a 19) :: .ref (a 20) :: .ref (a 21) :: .ref (a 22) :: .ref (a 23) :: .ref (a 24) :: .ref (a 25) :: .ref (a 26) :: .ref (a 27) :: .int (b2 hp) :: .int yn :: .int (b2 ir) :: .ref (a 31) :: .int rc :: .ref (a 33) :: .int (nI mv) :: .int kd :: .int (nI bg) :: .int (nI en) :: .int mk :: .long le :: .int (nI tk) :: .int (nI op) :: .ref (a 42) :: .int (nI wn) :: .ref (a 44) :: .int (nI jn) :: .ref (a 46) :: .ref (a 47) :: .ref (a 48) :: .ref (a 49) :: .ref (a 50) :: .ref (a 51) :: .int (b2 ke) :: .ref (a 53) :: .ref (a 54) :: .ref (a 55) :: .int (nI cq) :: .int (nI cm) :: []), aI (CxD X) 144 (nf my), aI (CxD X) 12 (opf ai), aZ (CxD X) 12 (zf tr_), aZ (CxD X) 12 (zf gv), aI (CxD X) 53248 (nf L), aI (CxD X) 12 (opf (va_up (cpyO tl (mPT my ke ai tr_ fm (fun q j => L (4096 * q + j)) s) p) p (some h)))] (by omega) (by decide) rfl dX11_follow_125 rfl ?_
        refine r_iload (n := 128) hX dX11_follow_126 rfl 4 rfl ?_
        refine r_ifge_n (tgt := 135) hX (by omega) dX11_follow_128 (by decide) ?_
        refine r_iload_n (n := 136) hX dX11_follow_135 rfl rfl 2 rfl ?_
        refine r_iconst (n := 137) hX 1 dX11_follow_136 rfl rfl ?_
        refine r_iload (n := 139) hX dX11_follow_137 rfl 4 rfl ?_
        refine r_ishl (n := 140) hX dX11_follow_139 rfl ?_
        refine Aw.topi (nI (2 ^ h)) (nb_shl (by omega)) ?_
        refine r_ior (n := 141) hX dX11_follow_140 rfl ?_
        refine Aw.topi (nI (part ||| 2 ^ h)) (nb_or _ _) ?_
        refine r_istore_n (n := 142) hX [(0, .ref mo), (1, .int (nI s)), (2, .int (nI (part ||| 2 ^ h))), (3, .int (nI p)), (5, .int (nI h))] dX11_follow_141 rfl rfl (by decide) rfl ?_
        refine r_iinc (n := 145) hX (nI (p + 1)) [(0, .ref mo), (1, .int (nI s)), (2, .int (nI (part ||| 2 ^ h))), (3, .int (nI (p + 1))), (5, .int (nI h))] dX11_follow_142 rfl 3 rfl (nI_add _ _) (by decide) rfl ?_
        refine r_goto (tgt := 4) hX dX11_follow_145 (by decide) ?_
        refine Aw.loc (lv' := [(0, .ref mo), (1, .int (nI s)), (2, .int (nI (part ||| 2 ^ h))), (3, .int (nI (p + 1)))]) [0, 1, 2, 3] rfl ?_
        refine Aw.eqs (es' := [ob 11 (.ref (a 0) :: .int (nI tn) :: .int fk :: .int fp :: .ref (a 4) :: .ref (a 5) :: .ref (a 6) :: .ref (a 7) :: .ref (a 8) :: .ref (a 9) :: .ref (a 10) :: .ref (a 11) :: .ref (a 12) :: .ref (a 13) :: .int (nI tr) :: .int (nI fm) :: .int ck :: .int te :: .int (nI fn) :: .ref (a 19) :: .ref (a 20) :: .ref (a 21) :: .ref (a 22) :: .ref (a 23) :: .ref (a 24) :: .ref (a 25) :: .ref (a 26) :: .ref (a 27) :: .int (b2 hp) :: .int yn :: .int (b2 ir) :: .ref (a 31) :: .int rc :: .ref (a 33) :: .int (nI mv) :: .int kd :: .int (nI bg) :: .int (nI en) :: .int mk :: .long le :: .int (nI tk) :: .int (nI op) :: .ref (a 42) :: .int (nI wn) :: .ref (a 44) :: .int (nI jn) :: .ref (a 46) :: .ref (a 47) :: .ref (a 48) :: .ref (a 49) :: .ref (a 50) :: .ref (a 51) :: .int (b2 ke) :: .ref (a 53) :: .ref (a 54) :: .ref (a 55) :: .int (nI cq) :: .int (nI cm) :: []), aI (CxD X) 144 (nf my), aI (CxD X) 12 (opf ai), aZ (CxD X) 12 (zf tr_), aZ (CxD X) 12 (zf gv), aI (CxD X) 53248 (nf L), aI (CxD X) 12 (opf (cpyO tl (mPT my ke ai tr_ fm (fun q j => L (4096 * q + j)) s) (p + 1)))]) (by rw [← cpyO_s, hpt1]) (lv' := [(0, .ref mo), (1, .int (nI s)), (2, .int (nI (mPF my ke ai tr_ fm (fun q j => L (4096 * q + j)) s (p + 1)))), (3, .int (nI (p + 1)))]) (by rw [hpf1]; rfl) rfl ?_
        exact ih (p + 1) (by omega)
    cases hgo : mGo tr_ s p with
    | true => exact lp_fol2 hX mo a tn tr fm fn mv bg en tk op wn jn cq cm fk fp ck te yn rc kd mk le hp ir ke my ai tr_ gv L tl s hf hmy hai hL hs part p (L (4096 * p + part)) (by omega) hpt (hL _) (cpyO tl (mPT my ke ai tr_ fm (fun q j => L (4096 * q + j)) s) p) _ hgo hR (hx (mTo my ke ai (fun j => L (4096 * (p + 1) + j)) p part s (L (4096 * p + part)) fm 0) (by unfold mPk; rw [if_pos hgo])) fm 0 (by omega) rfl
    | false => exact lp_fol3 hX mo a tn tr fm fn mv bg en tk op wn jn cq cm fk fp ck te yn rc kd mk le hp ir ke my ai tr_ gv L tl s hf hmy hai hL hs part p (L (4096 * p + part)) (by omega) hpt (hL _) (cpyO tl (mPT my ke ai tr_ fm (fun q j => L (4096 * q + j)) s) p) hgo hR (hx none (by unfold mPk; rw [if_neg (by rw [hgo]; decide)]))
set_option maxHeartbeats 1000000 in
set_option maxRecDepth 100000 in
theorem wk_X11_follow {X : Cx} (hX : Ok X cX11_follow 7 RX11 2) (mo : Nat) (a : Nat → Nat) (tn tr fm fn mv bg en tk op wn jn cq cm : Nat) (fk fp ck te yn rc kd mk : Int32) (le : Int64) (hp ir ke : Bool) (my : Nat → Nat) (ai : Nat → Option Nat) (tr_ gv : Nat → Bool) (L : Nat → Nat) (tl : Nat → Option Nat) (s : Nat) (hf : fm ≤ 12) (hmy : myOk my) (hai : obd ai) (hL : lsOk L) (hs : s < 4096) (hR : Rt X (none) (fun r es' => r = none ∧ es' = [ob 11 (.ref (a 0) :: .int (nI tn) :: .int fk :: .int fp :: .ref (a 4) :: .ref (a 5) :: .ref (a 6) :: .ref (a 7) :: .ref (a 8) :: .ref (a 9) :: .ref (a 10) :: .ref (a 11) :: .ref (a 12) :: .ref (a 13) :: .int (nI tr) :: .int (nI fm) :: .int ck :: .int te :: .int (nI fn) :: .ref (a 19) :: .ref (a 20) :: .ref (a 21) :: .ref (a 22) :: .ref (a 23) :: .ref (a 24) :: .ref (a 25) :: .ref (a 26) :: .ref (a 27) :: .int (b2 hp) :: .int yn :: .int (b2 ir) :: .ref (a 31) :: .int rc :: .ref (a 33) :: .int (nI mv) :: .int kd :: .int (nI bg) :: .int (nI en) :: .int mk :: .long le :: .int (nI tk) :: .int (nI op) :: .ref (a 42) :: .int (nI wn) :: .ref (a 44) :: .int (nI jn) :: .ref (a 46) :: .ref (a 47) :: .ref (a 48) :: .ref (a 49) :: .ref (a 50) :: .ref (a 51) :: .int (b2 ke) :: .ref (a 53) :: .ref (a 54) :: .ref (a 55) :: .int (nI cq) :: .int (nI cm) :: []), aI (CxD X) 144 (nf my), aI (CxD X) 12 (opf ai), aZ (CxD X) 12 (zf tr_), aZ (CxD X) 12 (zf gv), aI (CxD X) 53248 (nf L), aI (CxD X) 12 (opf (cpyO tl (mPT my ke ai tr_ fm (fun q j => L (4096 * q + j)) s) fm))]) [mo, a 48, a 51, a 49, a 50, a 53, a 54]) : Aw X [mo, a 48, a 51, a 49, a 50, a 53, a 54] [ob 11 (.ref (a 0) :: .int (nI tn) :: .int fk :: .int fp :: .ref (a 4) :: .ref (a 5) :: .ref (a 6) :: .ref (a 7) :: .ref (a 8) :: .ref (a 9) :: .ref (a 10) :: .ref (a 11) :: .ref (a 12) :: .ref (a 13) :: .int (nI tr) :: .int (nI fm) :: .int ck :: .int te :: .int (nI fn) :: .ref (a 19) :: .ref (a 20) :: .ref (a 21) :: .ref (a 22) :: .ref (a 23) :: .ref (a 24) :: .ref (a 25) :: .ref (a 26) :: .ref (a 27) :: .int (b2 hp) :: .int yn :: .int (b2 ir) :: .ref (a 31) :: .int rc :: .ref (a 33) :: .int (nI mv) :: .int kd :: .int (nI bg) :: .int (nI en) :: .int mk :: .long le :: .int (nI tk) :: .int (nI op) :: .ref (a 42) :: .int (nI wn) :: .ref (a 44) :: .int (nI jn) :: .ref (a 46) :: .ref (a 47) :: .ref (a 48) :: .ref (a 49) :: .ref (a 50) :: .ref (a 51) :: .int (b2 ke) :: .ref (a 53) :: .ref (a 54) :: .ref (a 55) :: .int (nI cq) :: .int (nI cm) :: []), aI (CxD X) 144 (nf my), aI (CxD X) 12 (opf ai), aZ (CxD X) 12 (zf tr_), aZ (CxD X) 12 (zf gv), aI (CxD X) 53248 (nf L), aI (CxD X) 12 (opf tl)] 0 [(0, .ref mo), (1, .int (nI s))] [] := by
  refine r_iconst (n := 1) hX 0 dX11_follow_0 rfl rfl ?_
  refine r_istore_n (n := 2) hX [(0, .ref mo), (1, .int (nI s)), (2, .int 0)] dX11_follow_1 rfl rfl (by decide) rfl ?_
  refine r_iconst (n := 3) hX 0 dX11_follow_2 rfl rfl ?_
  refine r_istore_n (n := 4) hX [(0, .ref mo), (1, .int (nI s)), (2, .int 0), (3, .int 0)] dX11_follow_3 rfl rfl (by decide) rfl ?_
  refine Aw.eqs (es' := [ob 11 (.ref (a 0) :: .int (nI tn) :: .int fk :: .int fp :: .ref (a 4) :: .ref (a 5) :: .ref (a 6) :: .ref (a 7) :: .ref (a 8) :: .ref (a 9) :: .ref (a 10) :: .ref (a 11) :: .ref (a 12) :: .ref (a 13) :: .int (nI tr) :: .int (nI fm) :: .int ck :: .int te :: .int (nI fn) :: .ref (a 19) :: .ref (a 20) :: .ref (a 21) :: .ref (a 22) :: .ref (a 23) :: .ref (a 24) :: .ref (a 25) :: .ref (a 26) :: .ref (a 27) :: .int (b2 hp) :: .int yn :: .int (b2 ir) :: .ref (a 31) :: .int rc :: .ref (a 33) :: .int (nI mv) :: .int kd :: .int (nI bg) :: .int (nI en) :: .int mk :: .long le :: .int (nI tk) :: .int (nI op) :: .ref (a 42) :: .int (nI wn) :: .ref (a 44) :: .int (nI jn) :: .ref (a 46) :: .ref (a 47) :: .ref (a 48) :: .ref (a 49) :: .ref (a 50) :: .ref (a 51) :: .int (b2 ke) :: .ref (a 53) :: .ref (a 54) :: .ref (a 55) :: .int (nI cq) :: .int (nI cm) :: []), aI (CxD X) 144 (nf my), aI (CxD X) 12 (opf ai), aZ (CxD X) 12 (zf tr_), aZ (CxD X) 12 (zf gv), aI (CxD X) 53248 (nf L), aI (CxD X) 12 (opf (cpyO tl (mPT my ke ai tr_ fm (fun q j => L (4096 * q + j)) s) 0))]) (by rw [cpyO_0]) rfl rfl ?_
  exact lp_fol1 hX mo a tn tr fm fn mv bg en tk op wn jn cq cm fk fp ck te yn rc kd mk le hp ir ke my ai tr_ gv L tl s hf hmy hai hL hs hR fm 0 (by omega)
theorem ct_X11_follow (l : Launch) (D : va_G) (mo : Nat) (a : Nat → Nat) (tn tr fm fn mv bg en tk op wn jn cq cm : Nat) (fk fp ck te yn rc kd mk : Int32) (le : Int64) (hp ir ke : Bool) (my : Nat → Nat) (ai : Nat → Option Nat) (tr_ gv : Nat → Bool) (L : Nat → Nat) (tl : Nat → Option Nat) (s : Nat) (hf : fm ≤ 12) (hmy : myOk my) (hai : obd ai) (hL : lsOk L) (hs : s < 4096) : Ct l D m_X11_follow 2 [.ref mo, .int (nI s)] [mo, a 48, a 51, a 49, a 50, a 53, a 54] [ob 11 (.ref (a 0) :: .int (nI tn) :: .int fk :: .int fp :: .ref (a 4) :: .ref (a 5) :: .ref (a 6) :: .ref (a 7) :: .ref (a 8) :: .ref (a 9) :: .ref (a 10) :: .ref (a 11) :: .ref (a 12) :: .ref (a 13) :: .int (nI tr) :: .int (nI fm) :: .int ck :: .int te :: .int (nI fn) :: .ref (a 19) :: .ref (a 20) :: .ref (a 21) :: .ref (a 22) :: .ref (a 23) :: .ref (a 24) :: .ref (a 25) :: .ref (a 26) :: .ref (a 27) :: .int (b2 hp) :: .int yn :: .int (b2 ir) :: .ref (a 31) :: .int rc :: .ref (a 33) :: .int (nI mv) :: .int kd :: .int (nI bg) :: .int (nI en) :: .int mk :: .long le :: .int (nI tk) :: .int (nI op) :: .ref (a 42) :: .int (nI wn) :: .ref (a 44) :: .int (nI jn) :: .ref (a 46) :: .ref (a 47) :: .ref (a 48) :: .ref (a 49) :: .ref (a 50) :: .ref (a 51) :: .int (b2 ke) :: .ref (a 53) :: .ref (a 54) :: .ref (a 55) :: .int (nI cq) :: .int (nI cm) :: []), aI D 144 (nf my), aI D 12 (opf ai), aZ D 12 (zf tr_), aZ D 12 (zf gv), aI D 53248 (nf L), aI D 12 (opf tl)] (fun r es' => r = none ∧ es' = [ob 11 (.ref (a 0) :: .int (nI tn) :: .int fk :: .int fp :: .ref (a 4) :: .ref (a 5) :: .ref (a 6) :: .ref (a 7) :: .ref (a 8) :: .ref (a 9) :: .ref (a 10) :: .ref (a 11) :: .ref (a 12) :: .ref (a 13) :: .int (nI tr) :: .int (nI fm) :: .int ck :: .int te :: .int (nI fn) :: .ref (a 19) :: .ref (a 20) :: .ref (a 21) :: .ref (a 22) :: .ref (a 23) :: .ref (a 24) :: .ref (a 25) :: .ref (a 26) :: .ref (a 27) :: .int (b2 hp) :: .int yn :: .int (b2 ir) :: .ref (a 31) :: .int rc :: .ref (a 33) :: .int (nI mv) :: .int kd :: .int (nI bg) :: .int (nI en) :: .int mk :: .long le :: .int (nI tk) :: .int (nI op) :: .ref (a 42) :: .int (nI wn) :: .ref (a 44) :: .int (nI jn) :: .ref (a 46) :: .ref (a 47) :: .ref (a 48) :: .ref (a 49) :: .ref (a 50) :: .ref (a 51) :: .int (b2 ke) :: .ref (a 53) :: .ref (a 54) :: .ref (a 55) :: .int (nI cq) :: .int (nI cm) :: []), aI D 144 (nf my), aI D 12 (opf ai), aZ D 12 (zf tr_), aZ D 12 (zf gv), aI D 53248 (nf L), aI D 12 (opf (cpyO tl (mPT my ke ai tr_ fm (fun q j => L (4096 * q + j)) s) fm))]) :=
  Ct.ofA (own := RX11) (by decide) rfl (Nat.le_of_ble_eq_true rfl) rfl (fun X hl hD hX hR => by subst hl; subst hD; exact wk_X11_follow hX mo a tn tr fm fn mv bg en tk op wn jn cq cm fk fp ck te yn rc kd mk le hp ir ke my ai tr_ gv L tl s hf hmy hai hL hs hR)
