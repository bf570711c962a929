
/-! the search over all sets -/
theorem mAhead_congr {t u ch : Nat → Option Nat} : ∀ (m p : Nat), (∀ j, p ≤ j → j < p + m → t j = u j) → mAhead t ch m p = mAhead u ch m p
  | 0, _, _ => rfl
  | m + 1, p, h => by
    unfold mAhead
    rw [h p (Nat.le_refl p) (by omega), mAhead_congr m (p + 1) (fun j h1 h2 => h j (by omega) (by omega))]
theorem mBi12_le (s : Nat) : ∀ k, mBi12 s k ≤ k
  | 0 => Nat.le_refl 0
  | k + 1 => by
    have := mBi12_le s k
    have := Nat.mod_lt (s / 2 ^ k) (show 0 < 2 by decide)
    simp only [mBi12]; omega
def mAbl (my : Nat → Nat) (n : Nat) : Nat → Nat
  | 0 => 0
  | k + 1 => if k % 12 < n then (if my k < 100000000 then mAbl my n k ||| 2 ^ (k % 12) else mAbl my n k) else mAbl my n k
theorem mAbl_lt (my : Nat → Nat) (n : Nat) : ∀ k, mAbl my n k < 4096
  | 0 => by show 0 < 4096; decide
  | k + 1 => by
    have h := mAbl_lt my n k
    unfold mAbl
    split
    · split
      · exact or_lt12 h (Nat.mod_lt _ (by decide))
      · exact h
    · exact h
abbrev SZ : Type := Nat × Nat × (Nat → Option Nat)
def mVW (my : Nat → Nat) (ke : Bool) (ai : Nat → Option Nat) (tr gv : Nat → Bool) (n s : Nat) (q j : Nat) : Nat := mV my ke ai tr gv n s (n - q) j
def mNew (my : Nat → Nat) (ke : Bool) (ai : Nat → Option Nat) (tr gv : Nat → Bool) (n s : Nat) (z : SZ) : SZ := (mV my ke ai tr gv n s n 0, mBi12 s 12, cpyO z.2.2 (mPT my ke ai tr n (mVW my ke ai tr gv n s) s) n)
def mSs (my : Nat → Nat) (ke : Bool) (ai : Nat → Option Nat) (tr gv : Nat → Bool) (n ab s : Nat) (z : SZ) : SZ :=
  if s &&& ab = s then
    (if mV my ke ai tr gv n s n 0 < 100000000 then
      (if z.1 < 100000000 then
        (if 0 < mAg (mV my ke ai tr gv n s n 0) (mBi12 s 12) z.1 z.2.1 then z
         else if mAg (mV my ke ai tr gv n s n 0) (mBi12 s 12) z.1 z.2.1 < 0 then mNew my ke ai tr gv n s z
         else if mAhead (mPT my ke ai tr n (mVW my ke ai tr gv n s) s) z.2.2 n 0 = true then mNew my ke ai tr gv n s z else z)
       else mNew my ke ai tr gv n s z)
     else z)
  else z
def mSearch (my : Nat → Nat) (ke : Bool) (ai : Nat → Option Nat) (tr gv : Nat → Bool) (n : Nat) (ch : Nat → Option Nat) : SZ := foldF (mSs my ke ai tr gv n (mAbl my n (12 * n))) (2 ^ n) 0 (100000000, 0, ch)
def szOk (z : SZ) : Prop := z.1 ≤ 100000000 ∧ z.2.1 ≤ 12 ∧ obd z.2.2
theorem mNew_ok {my : Nat → Nat} {ke : Bool} {ai : Nat → Option Nat} {tr gv : Nat → Bool} {n s : Nat} {z : SZ} (hn : n ≤ 12) (hz : szOk z) (hc : mV my ke ai tr gv n s n 0 < 100000000) : szOk (mNew my ke ai tr gv n s z) := ⟨Nat.le_of_lt hc, mBi12_le s 12, cpyO_obd2 hz.2.2 (fun j hj r e => by have := (mPk_in e).1; omega)⟩
theorem mSs_ok {my : Nat → Nat} {ke : Bool} {ai : Nat → Option Nat} {tr gv : Nat → Bool} {n ab s : Nat} {z : SZ} (hn : n ≤ 12) (hz : szOk z) : szOk (mSs my ke ai tr gv n ab s z) := by
  unfold mSs
  split
  · split
    · rename_i hc
      split
      · split
        · exact hz
        · split
          · exact mNew_ok hn hz hc
          · split
            · exact mNew_ok hn hz hc
            · exact hz
      · exact mNew_ok hn hz hc
    · exact hz
  · exact hz
theorem mSearch_fold {my : Nat → Nat} {ke : Bool} {ai : Nat → Option Nat} {tr gv : Nat → Bool} {n ab : Nat} (hn : n ≤ 12) : ∀ (m s : Nat) (z : SZ), szOk z → szOk (foldF (mSs my ke ai tr gv n ab) m s z)
  | 0, _, _, h => h
  | m + 1, s, z, h => mSearch_fold hn m (s + 1) _ (mSs_ok hn h)
theorem mSearch_ok {my : Nat → Nat} {ke : Bool} {ai : Nat → Option Nat} {tr gv : Nat → Bool} {n : Nat} {ch : Nat → Option Nat} (hn : n ≤ 12) (hc : obd ch) : szOk (mSearch my ke ai tr gv n ch) := mSearch_fold hn _ _ _ ⟨Nat.le_refl _, Nat.zero_le _, hc⟩

set_option maxHeartbeats 1000000 in
set_option maxRecDepth 100000 in
theorem lp_scpy {X : Cx} (hX : Ok X cX11_search 8 RX11 3) (mo : Nat) (a : Nat → Nat) (tn tr fm fn mv bg en tk op wn jn : Nat) (fk fp ck te yn rc kd mk : Int32) (le : Int64) (hp ir ke : Bool) (my : Nat → Nat) (ai : Nat → Option Nat) (tr_ gv : Nat → Bool) (ch : Nat → Option Nat) (hf : fm ≤ 12) (hmy : myOk my) (hai : obd ai) (hch : obd ch) (L : Nat → Nat) (tl ch0 : Nat → Option Nat) (c n s : Nat) (hR : Rt X (none) (fun r es' => r = none ∧ ∃ (L : Nat → Nat) (tl : Nat → Option Nat), es' = [ob 11 (.ref (a 0) :: .int (nI tn) :: .int fk :: .int fp :: .ref (a 4) :: .ref (a 5) :: .ref (a 6) :: .ref (a 7) :: .ref (a 8) :: .ref (a 9) :: .ref (a 10) :: .ref (a 11) :: .ref (a 12) :: .ref (a 13) :: .int (nI tr) :: .int (nI fm) :: .int ck :: .int te :: .int (nI fn) :: .ref (a 19) :: .ref (a 20) :: .ref (a 21) :: .ref (a 22) :: .ref (a 23) :: .ref (a 24) :: .ref (a 25) :: .ref (a 26) :: .ref (a 27) :: .int (b2 hp) :: .int yn :: .int (b2 ir) :: .ref (a 31) :: .int rc :: .ref (a 33) :: .int (nI mv) :: .int kd :: .int (nI bg) :: .int (nI en) :: .int mk :: .long le :: .int (nI tk) :: .int (nI op) :: .ref (a 42) :: .int (nI wn) :: .ref (a 44) :: .int (nI jn) :: .ref (a 46) :: .ref (a 47) :: .ref (a 48) :: .ref (a 49) :: .ref (a 50) :: .ref (a 51) :: .int (b2 ke) :: .ref (a 53) :: .ref (a 54) :: .ref (a 55) :: .int (nI ((mSearch my ke ai tr_ gv fm ch).1)) :: .int (nI ((mSearch my ke ai tr_ gv fm ch).2.1)) :: []), aI (CxD X) 144 (nf my), aI (CxD X) 12 (opf ai), aZ (CxD X) 12 (zf tr_), aZ (CxD X) 12 (zf gv), aI (CxD X) 53248 (nf L), aI (CxD X) 12 (opf tl), aI (CxD X) 12 (opf ((mSearch my ke ai tr_ gv fm ch).2.2))] ∧ lsOk L ∧ obd tl) [mo, a 48, a 51, a 49, a 50, a 53, a 54, a 55]) : Aw X [mo, a 48, a 51, a 49, a 50, a 53, a 54, a 55] [ob 11 (.ref (a 0) :: .int (nI tn) :: .int fk :: .int fp :: .ref (a 4) :: .ref (a 5) :: .ref (a 6) :: .ref (a 7) :: .ref (a 8) :: .ref (a 9) :: .ref (a 10) :: .ref (a 11) :: .ref (a 12) :: .ref (a 13) :: .int (nI tr) :: .int (nI fm) :: .int ck :: .int te :: .int (nI fn) :: .ref (a 19) :: .ref (a 20) :: .ref (a 21) :: .ref (a 22) :: .ref (a 23) :: .ref (a 24) :: .ref (a 25) :: .ref (a 26) :: .ref (a 27) :: .int (b2 hp) :: .int yn :: .int (b2 ir) :: .ref (a 31) :: .int rc :: .ref (a 33) :: .int (nI mv) :: .int kd :: .int (nI bg) :: .int (nI en) :: .int mk :: .long le :: .int (nI tk) :: .int (nI op) :: .ref (a 42) :: .int (nI wn) :: .ref (a 44) :: .int (nI jn) :: .ref (a 46) :: .ref (a 47) :: .ref (a 48) :: .ref (a 49) :: .ref (a 50) :: .ref (a 51) :: .int (b2 ke) :: .ref (a 53) :: .ref (a 54) :: .ref (a 55) :: .int (nI c) :: .int (nI n) :: []), aI (CxD X) 144 (nf my), aI (CxD X) 12 (opf ai), aZ (CxD X) 12 (zf tr_), aZ (CxD X) 12 (zf gv), aI (CxD X) 53248 (nf L), aI (CxD X) 12 (opf tl), aI (CxD X) 12 (opf (cpyO ch0 tl fm))] 230 [(0, .ref mo), (1, .int (nI (mAbl my fm (12 * fm)))), (2, .int (nI s))] [] → ∀ (m k : Nat), k + m = fm → Aw X [mo, a 48, a 51, a 49, a 50, a 53, a 54, a 55] [ob 11 (.ref (a 0) :: .int (nI tn) :: .int fk :: .int fp :: .ref (a 4) :: .ref (a 5) :: .ref (a 6) :: .ref (a 7) :: .ref (a 8) :: .ref (a 9) :: .ref (a 10) :: .ref (a 11) :: .ref (a 12) :: .ref (a 13) :: .int (nI tr) :: .int (nI fm) :: .int ck :: .int te :: .int (nI fn) :: .ref (a 19) :: .ref (a 20) :: .ref (a 21) :: .ref (a 22) :: .ref (a 23) :: .ref (a 24) :: .ref (a 25) :: .ref (a 26) :: .ref (a 27) :: .int (b2 hp) :: .int yn :: .int (b2 ir) :: .ref (a 31) :: .int rc :: .ref (a 33) :: .int (nI mv) :: .int kd :: .int (nI bg) :: .int (nI en) :: .int mk :: .long le :: .int (nI tk) :: .int (nI op) :: .ref (a 42) :: .int (nI wn) :: .ref (a 44) :: .int (nI jn) :: .ref (a 46) :: .ref (a 47) :: .ref (a 48) :: .ref (a 49) :: .ref (a 50) :: .ref (a 51) :: .int (b2 ke) :: .ref (a 53) :: .ref (a 54) :: .ref (a 55) :: .int (nI c) :: .int (nI n) :: []), aI (CxD X) 144 (nf my), aI (CxD X) 12 (opf ai), aZ (CxD X) 12 (zf tr_), aZ (CxD X) 12 (zf gv), aI (CxD X) 53248 (nf L), aI (CxD X) 12 (opf tl), aI (CxD X) 12 (opf (cpyO ch0 tl k))] 201 [(0, .ref mo), (1, .int (nI (mAbl my fm (12 * fm)))), (2, .int (nI s)), (7, .int (nI k))] [] := by
  intro kk_ m
  induction m with
  | zero =>
    intro k hk
    refine r_iload (n := 203) hX dX11_search_201 rfl 3 rfl ?_
    refine r_aload_n (n := 204) hX dX11_search_203 rfl rfl 0 rfl ?_
    refine r_get (n := 207) hX 0 rfl rfl rfl 15 (by decide) lay_X11 fl_X11_251 rfl dX11_search_204 rfl ?_
    refine r_icmp_ge_n (tgt := 230) (n := 210) hX k fm (by omega) (by omega) dX11_search_207 (by decide) rfl (fun c207 => ?_) (fun c207 => absurd c207 (by omega))
    refine Aw.loc (lv' := [(0, .ref mo), (1, .int (nI (mAbl my fm (12 * fm)))), (2, .int (nI s))]) [0, 1, 2] rfl ?_
    obtain rfl : k = fm := by omega
    exact kk_
  | succ m ih =>
    intro k hk
    refine r_iload (n := 203) hX dX11_search_201 rfl 3 rfl ?_
    refine r_aload_n (n := 204) hX dX11_search_203 rfl rfl 0 rfl ?_
    refine r_get (n := 207) hX 0 rfl rfl rfl 15 (by decide) lay_X11 fl_X11_251 rfl dX11_search_204 rfl ?_
    refine r_icmp_ge_n (tgt := 230) (n := 210) hX k fm (by omega) (by omega) dX11_search_207 (by decide) rfl (fun c207 => absurd c207 (by omega)) (fun c207 => ?_)
    refine r_aload_n (n := 211) hX dX11_search_210 rfl rfl 0 rfl ?_
    refine r_get (n := 214) hX 0 rfl rfl rfl 55 (by decide) lay_X11 fl_X11_114 rfl dX11_search_211 rfl ?_
    refine r_iload (n := 216) hX dX11_search_214 rfl 3 rfl ?_
    refine r_aload_n (n := 217) hX dX11_search_216 rfl rfl 0 rfl ?_
    refine r_get (n := 220) hX 0 rfl rfl rfl 54 (by decide) lay_X11 fl_X11_111 rfl dX11_search_217 rfl ?_
    refine r_iload (n := 222) hX dX11_search_220 rfl 3 rfl ?_
    refine r_ialdOn (n := 223) (i := k) hX 6 rfl rfl (by omega) (by decide) dX11_search_222 rfl ?_
    refine r_iastOn (n := 224) (i := k) hX 7 rfl rfl (tl k) [ob 11 (.ref (a 0) :: .int (nI tn) :: .int fk :: .int fp :: .ref (a 4) :: .ref (a 5) :: .ref (a 6) :: .ref (a 7) :: .ref (a 8) :: .ref (a 9) :: .ref (a 10) :: .ref (a 11) :: .ref (a 12) :: .ref (a 13) :: .int (nI tr) :: .int (nI fm) :: .int ck :: .int te :: .int (nI fn) :: .ref (a 19) :: .ref (a 20) :: .ref (a 21) :: .ref (a 22) :: .ref (a 23) :: .ref (a 24) :: .ref (a 25) :: .ref (a 26) :: .ref (a 27) :: .int (b2 hp) :: .int yn :: .int (b2 ir) :: .ref (a 31) :: .int rc :: .ref (a 33) :: .int (nI mv) :: .int kd :: .int (nI bg) :: .int (nI en) :: .int mk :: .long le :: .int (nI tk) :: .int (nI op) :: .ref (a 42) :: .int (nI wn) :: .ref (a 44) :: .int (nI jn) :: .ref (a 46) :: .ref (a 47) :: .ref (a 48) :: .ref (a 49) :: .ref (a 50) :: .ref (a 51) :: .int (b2 ke) :: .ref (a 53) :: .ref (a 54) :: .ref (a 55) :: .int (nI c) :: .int (nI n) :: []), aI (CxD X) 144 (nf my), aI (CxD X) 12 (opf ai), aZ (CxD X) 12 (zf tr_), aZ (CxD X) 12 (zf gv), aI (CxD X) 53248 (nf L), aI (CxD X) 12 (opf tl), aI (CxD X) 12 (opf (va_up (cpyO ch0 tl k) k (tl k)))] (by omega) (by decide) rfl dX11_search_223 rfl ?_
    refine Aw.eqs (es' := [ob 11 (.ref (a 0) :: .int (nI tn) :: .int fk :: .int fp :: .ref (a 4) :: .ref (a 5) :: .ref (a 6) :: .ref (a 7) :: .ref (a 8) :: .ref (a 9) :: .ref (a 10) :: .ref (a 11) :: .ref (a 12) :: .ref (a 13) :: .int (nI tr) :: .int (nI fm) :: .int ck :: .int te :: .int (nI fn) :: .ref (a 19) :: .ref (a 20) :: .ref (a 21) :: .ref (a 22) :: .ref (a 23) :: .ref (a 24) :: .ref (a 25) :: .ref (a 26) :: .ref (a 27) :: .int (b2 hp) :: .int yn :: .int (b2 ir) :: .ref (a 31) :: .int rc :: .ref (a 33) :: .int (nI mv) :: .int kd :: .int (nI bg) :: .int (nI en) :: .int mk :: .long le :: .int (nI tk) :: .int (nI op) :: .ref (a 42) :: .int (nI wn) :: .ref (a 44) :: .int (nI jn) :: .ref (a 46) :: .ref (a 47) :: .ref (a 48) :: .ref (a 49) :: .ref (a 50) :: .ref (a 51) :: .int (b2 ke) :: .ref (a 53) :: .ref (a 54) :: .ref (a 55) :: .int (nI c) :: .int (nI n) :: []), aI (CxD X) 144 (nf my), aI (CxD X) 12 (opf ai), aZ (CxD X) 12 (zf tr_), aZ (CxD X) 12 (zf gv), aI (CxD X) 53248 (nf L), aI (CxD X) 12 (opf tl), aI (CxD X) 12 (opf (cpyO ch0 tl (k + 1)))]) (by rw [cpyO_s]) rfl rfl ?_
    refine r_iinc (n := 227) hX (nI (k + 1)) [(0, .ref mo), (1, .int (nI (mAbl my fm (12 * fm)))), (2, .int (nI s)), (7, .int (nI (k + 1)))] dX11_search_224 rfl 3 rfl (nI_add _ _) (by decide) rfl ?_
    refine r_goto (tgt := 201) hX dX11_search_227 (by decide) ?_
    exact ih (k + 1) (by omega)
set_option maxHeartbeats 1000000 in
set_option maxRecDepth 100000 in
theorem lp_search2 {X : Cx} (hX : Ok X cX11_search 8 RX11 3) (mo : Nat) (a : Nat → Nat) (tn tr fm fn mv bg en tk op wn jn : Nat) (fk fp ck te yn rc kd mk : Int32) (le : Int64) (hp ir ke : Bool) (my : Nat → Nat) (ai : Nat → Option Nat) (tr_ gv : Nat → Bool) (ch : Nat → Option Nat) (hf : fm ≤ 12) (hmy : myOk my) (hai : obd ai) (hch : obd ch) (hp2 : 2 ^ fm ≤ 4096) (hR : Rt X (none) (fun r es' => r = none ∧ ∃ (L : Nat → Nat) (tl : Nat → Option Nat), es' = [ob 11 (.ref (a 0) :: .int (nI tn) :: .int fk :: .int fp :: .ref (a 4) :: .ref (a 5) :: .ref (a 6) :: .ref (a 7) :: .ref (a 8) :: .ref (a 9) :: .ref (a 10) :: .ref (a 11) :: .ref (a 12) :: .ref (a 13) :: .int (nI tr) :: .int (nI fm) :: .int ck :: .int te :: .int (nI fn) :: .ref (a 19) :: .ref (a 20) :: .ref (a 21) :: .ref (a 22) :: .ref (a 23) :: .ref (a 24) :: .ref (a 25) :: .ref (a 26) :: .ref (a 27) :: .int (b2 hp) :: .int yn :: .int (b2 ir) :: .ref (a 31) :: .int rc :: .ref (a 33) :: .int (nI mv) :: .int kd :: .int (nI bg) :: .int (nI en) :: .int mk :: .long le :: .int (nI tk) :: .int (nI op) :: .ref (a 42) :: .int (nI wn) :: .ref (a 44) :: .int (nI jn) :: .ref (a 46) :: .ref (a 47) :: .ref (a 48) :: .ref (a 49) :: .ref (a 50) :: .ref (a 51) :: .int (b2 ke) :: .ref (a 53) :: .ref (a 54) :: .ref (a 55) :: .int (nI ((mSearch my ke ai tr_ gv fm ch).1)) :: .int (nI ((mSearch my ke ai tr_ gv fm ch).2.1)) :: []), aI (CxD X) 144 (nf my), aI (CxD X) 12 (opf ai), aZ (CxD X) 12 (zf tr_), aZ (CxD X) 12 (zf gv), aI (CxD X) 53248 (nf L), aI (CxD X) 12 (opf tl), aI (CxD X) 12 (opf ((mSearch my ke ai tr_ gv fm ch).2.2))] ∧ lsOk L ∧ obd tl) [mo, a 48, a 51, a 49, a 50, a 53, a 54, a 55]) : ∀ (m s : Nat) (z : SZ) (L : Nat → Nat) (tl : Nat → Option Nat), s + m = 2 ^ fm → szOk z → lsOk L → obd tl → foldF (mSs my ke ai tr_ gv fm (mAbl my fm (12 * fm))) m s z = (mSearch my ke ai tr_ gv fm ch) → Aw X [mo, a 48, a 51, a 49, a 50, a 53, a 54, a 55] [ob 11 (.ref (a 0) :: .int (nI tn) :: .int fk :: .int fp :: .ref (a 4) :: .ref (a 5) :: .ref (a 6) :: .ref (a 7) :: .ref (a 8) :: .ref (a 9) :: .ref (a 10) :: .ref (a 11) :: .ref (a 12) :: .ref (a 13) :: .int (nI tr) :: .int (nI fm) :: .int ck :: .int te :: .int (nI fn) :: .ref (a 19) :: .ref (a 20) :: .ref (a 21) :: .ref (a 22) :: .ref (a 23) :: .ref (a 24) :: .ref (a 25) :: .ref (a 26) :: .ref (a 27) :: .int (b2 hp) :: .int yn :: .int (b2 ir) :: .ref (a 31) :: .int rc :: .ref (a 33) :: .int (nI mv) :: .int kd :: .int (nI bg) :: .int (nI en) :: .int mk :: .long le :: .int (nI tk) :: .int (nI op) :: .ref (a 42) :: .int (nI wn) :: .ref (a 44) :: .int (nI jn) :: .ref (a 46) :: .ref (a 47) :: .ref (a 48) :: .ref (a 49) :: .ref (a 50) :: .ref (a 51) :: .int (b2 ke) :: .ref (a 53) :: .ref (a 54) :: .ref (a 55) :: .int (nI z.1) :: .int (nI z.2.1) :: []), aI (CxD X) 144 (nf my), aI (CxD X) 12 (opf ai), aZ (CxD X) 12 (zf tr_), aZ (CxD X) 12 (zf gv), aI (CxD X) 53248 (nf L), aI (CxD X) 12 (opf tl), aI (CxD X) 12 (opf z.2.2)] 71 [(0, .ref mo), (1, .int (nI (mAbl my fm (12 * fm)))), (2, .int (nI s))] [] := by
  intro m
  induction m with
  | zero =>
    intro s z L tl hsm hz hL htl he
    have hz1 := hz.1
    have hz2 := hz.2.1
    refine r_iload_n (n := 72) hX dX11_search_71 rfl rfl 2 rfl ?_
    refine r_iconst (n := 73) hX 1 dX11_search_72 rfl rfl ?_
    refine r_aload_n (n := 74) hX dX11_search_73 rfl rfl 0 rfl ?_
    refine r_get (n := 77) hX 0 rfl rfl rfl 15 (by decide) lay_X11 fl_X11_251 rfl dX11_search_74 rfl ?_
    refine r_ishl (n := 78) hX dX11_search_77 rfl ?_
    refine Aw.topi (nI (2 ^ fm)) (nb_shl (by omega)) ?_
    refine r_icmp_ge_n (tgt := 236) (n := 81) hX s (2 ^ fm) (by omega) (by omega) dX11_search_78 (by decide) rfl (fun c78 => ?_) (fun c78 => absurd c78 (by omega))
    exact r_return hX hR dX11_search_236 ⟨rfl, L, tl, by have he : z = (mSearch my ke ai tr_ gv fm ch) := he; rw [he], hL, htl⟩
  | succ m ih =>
    intro s z L tl hsm hz hL htl he
    have hz1 := hz.1
    have hz2 := hz.2.1
    have hs4 : s < 4096 := by omega
    have hcv : mV my ke ai tr_ gv fm s fm 0 ≤ 200000000 := mV_le
    have hb12 := mBi12_le s 12
    refine r_iload_n (n := 72) hX dX11_search_71 rfl rfl 2 rfl ?_
    refine r_iconst (n := 73) hX 1 dX11_search_72 rfl rfl ?_
    refine r_aload_n (n := 74) hX dX11_search_73 rfl rfl 0 rfl ?_
    refine r_get (n := 77) hX 0 rfl rfl rfl 15 (by decide) lay_X11 fl_X11_251 rfl dX11_search_74 rfl ?_
    refine r_ishl (n := 78) hX dX11_search_77 rfl ?_
    refine Aw.topi (nI (2 ^ fm)) (nb_shl (by omega)) ?_
    refine r_icmp_ge_n (tgt := 236) (n := 81) hX s (2 ^ fm) (by omega) (by omega) dX11_search_78 (by decide) rfl (fun c78 => absurd c78 (by omega)) (fun c78 => ?_)
    refine r_iload_n (n := 82) hX dX11_search_81 rfl rfl 2 rfl ?_
    refine r_iload_n (n := 83) hX dX11_search_82 rfl rfl 1 rfl ?_
    refine r_iconst (n := 84) hX (-1) dX11_search_83 rfl rfl ?_
    refine r_ixor (n := 85) hX dX11_search_84 rfl ?_
    refine r_iand (n := 86) hX dX11_search_85 rfl ?_
    refine r_if_ne (tgt := 93) (n := 89) hX dX11_search_86 (by decide) rfl (fun c86 => ?_) (fun c86 => ?_)
    · skip
      refine r_iconst (n := 94) hX 0 dX11_search_93 rfl rfl ?_
      refine r_istore_n (n := 95) hX [(0, .ref mo), (1, .int (nI (mAbl my fm (12 * fm)))), (2, .int (nI s)), (3, .int 0)] dX11_search_94 rfl rfl (by decide) rfl ?_
      refine r_iload_n (n := 96) hX dX11_search_95 rfl rfl 3 rfl ?_
      refine r_if_eq (tgt := 104) (n := 99) hX dX11_search_96 (by decide) rfl (fun _ => ?_) (fun h => False.elim (by revert h; decide))
      refine r_iload_n (n := 105) hX dX11_search_104 rfl rfl 3 rfl ?_
      refine r_if_eq (tgt := 117) (n := 108) hX dX11_search_105 (by decide) rfl (fun _ => ?_) (fun h => False.elim (by revert h; decide))
      refine r_ldcw (n := 120) hX dX11_search_117 rfl kc_X11_303 ?_
      refine r_istore (n := 122) hX [(0, .ref mo), (1, .int (nI (mAbl my fm (12 * fm)))), (2, .int (nI s)), (3, .int 0), (4, .int 100000000)] dX11_search_120 rfl (by decide) rfl ?_
      refine r_iload_n (n := 123) hX dX11_search_122 rfl rfl 2 rfl ?_
      refine r_callS (n := 126) (av := [.int (nI s)]) hX (ct_X11_bits (CxL X) (CxD X) s hs4) ml_X11_334 cs_X11_bits rfl (by decide) [] rfl rfl (by decide) rfl (Nat.le_of_ble_eq_true rfl) dX11_search_123 rfl (fun r_ es_ h_ l_ => ?_)
      obtain ⟨rfl, rfl⟩ := h_
      show Aw X [mo, a 48, a 51, a 49, a 50, a 53, a 54, a 55] [ob 11 (.ref (a 0) :: .int (nI tn) :: .int fk :: .int fp :: .ref (a 4) :: .ref (a 5) :: .ref (a 6) :: .ref (a 7) :: .ref (a 8) :: .ref (a 9) :: .ref (a 10) :: .ref (a 11) :: .ref (a 12) :: .ref (a 13) :: .int (nI tr) :: .int (nI fm) :: .int ck :: .int te :: .int (nI fn) :: .ref (a 19) :: .ref (a 20) :: .ref (a 21) :: .ref (a 22) :: .ref (a 23) :: .ref (a 24) :: .ref (a 25) :: .ref (a 26) :: .ref (a 27) :: .int (b2 hp) :: .int yn :: .int (b2 ir) :: .ref (a 31) :: .int rc :: .ref (a 33) :: .int (nI mv) :: .int kd :: .int (nI bg) :: .int (nI en) :: .int mk :: .long le :: .int (nI tk) :: .int (nI op) :: .ref (a 42) :: .int (nI wn) :: .ref (a 44) :: .int (nI jn) :: .ref (a 46) :: .ref (a 47) :: .ref (a 48) :: .ref (a 49) :: .ref (a 50) :: .ref (a 51) :: .int (b2 ke) :: .ref (a 53) :: .ref (a 54) :: .ref (a 55) :: .int (nI z.1) :: .int (nI z.2.1) :: []), aI (CxD X) 144 (nf my), aI (CxD X) 12 (opf ai), aZ (CxD X) 12 (zf tr_), aZ (CxD X) 12 (zf gv), aI (CxD X) 53248 (nf L), aI (CxD X) 12 (opf tl), aI (CxD X) 12 (opf z.2.2)] 126 [(0, .ref mo), (1, .int (nI (mAbl my fm (12 * fm)))), (2, .int (nI s)), (3, .int 0), (4, .int 100000000)] [.int (nI (mBi12 s 12))]
      refine r_istore (n := 128) hX [(0, .ref mo), (1, .int (nI (mAbl my fm (12 * fm)))), (2, .int (nI s)), (3, .int 0), (4, .int 100000000), (5, .int (nI (mBi12 s 12)))] dX11_search_126 rfl (by decide) rfl ?_
      refine r_iload (n := 130) hX dX11_search_128 rfl 4 rfl ?_
      refine r_ldcw (n := 133) hX dX11_search_130 rfl kc_X11_303 ?_
      refine r_icmp_lt (tgt := 140) (n := 136) hX dX11_search_133 (by decide) rfl (fun h => False.elim (by revert h; decide)) (fun _ => ?_)
      refine r_iconst (n := 137) hX 1 dX11_search_136 rfl rfl ?_
      refine r_goto (tgt := 162) hX dX11_search_137 (by decide) ?_
      refine r_istore (n := 164) hX [(0, .ref mo), (1, .int (nI (mAbl my fm (12 * fm)))), (2, .int (nI s)), (3, .int 0), (4, .int 100000000), (5, .int (nI (mBi12 s 12))), (6, .int 1)] dX11_search_162 rfl (by decide) rfl ?_
      refine r_iload (n := 166) hX dX11_search_164 rfl 6 rfl ?_
      refine r_if_gt (tgt := 230) (n := 169) hX dX11_search_166 (by decide) rfl (fun _ => ?_) (fun h => False.elim (by revert h; decide))
      refine r_iinc (n := 233) hX (nI (s + 1)) [(0, .ref mo), (1, .int (nI (mAbl my fm (12 * fm)))), (2, .int (nI (s + 1))), (3, .int 0), (4, .int 100000000), (5, .int (nI (mBi12 s 12))), (6, .int 1)] dX11_search_230 rfl 2 rfl (nI_add _ _) (by decide) rfl ?_
      refine r_goto (tgt := 71) hX dX11_search_233 (by decide) ?_
      refine Aw.loc (lv' := [(0, .ref mo), (1, .int (nI (mAbl my fm (12 * fm)))), (2, .int (nI (s + 1)))]) [0, 1, 2] rfl ?_
      have hS : mSs my ke ai tr_ gv fm (mAbl my fm (12 * fm)) s z = z := by rw [mSs, if_neg (fun e => c86 ((nb_sub (by omega)).mpr e))]
      exact ih (s + 1) z _ _ (by omega) hz hL htl (by rw [← he]; simp only [foldF, hS])
    · skip
      refine r_iconst (n := 90) hX 1 dX11_search_89 rfl rfl ?_
      refine r_goto (tgt := 94) hX dX11_search_90 (by decide) ?_
      refine r_istore_n (n := 95) hX [(0, .ref mo), (1, .int (nI (mAbl my fm (12 * fm)))), (2, .int (nI s)), (3, .int 1)] dX11_search_94 rfl rfl (by decide) rfl ?_
      refine r_iload_n (n := 96) hX dX11_search_95 rfl rfl 3 rfl ?_
      refine r_if_eq (tgt := 104) (n := 99) hX dX11_search_96 (by decide) rfl (fun h => False.elim (by revert h; decide)) (fun _ => ?_)
      refine r_aload_n (n := 100) hX dX11_search_99 rfl rfl 0 rfl ?_
      refine r_iload_n (n := 101) hX dX11_search_100 rfl rfl 2 rfl ?_
      refine r_callV (n := 104) (av := [.int (nI s)]) hX (ct_X11_fill (CxL X) (CxD X) mo a tn tr fm fn mv bg en tk op wn jn z.1 z.2.1 fk fp ck te yn rc kd mk le hp ir ke my ai tr_ gv L s hf hmy hai hs4 hL) ml_X11_331 cv_X11_fill rfl (by decide) [0, 1, 2, 3, 4, 5] rfl rfl (by decide) 0 rfl rfl rfl rfl rfl (Nat.le_of_ble_eq_true rfl) dX11_search_101 rfl (fun r_ es_ h_ l_ => ?_)
      obtain ⟨rfl, L1, rfl, hL1, hV1⟩ := h_
      show Aw X [mo, a 48, a 51, a 49, a 50, a 53, a 54, a 55] [ob 11 (.ref (a 0) :: .int (nI tn) :: .int fk :: .int fp :: .ref (a 4) :: .ref (a 5) :: .ref (a 6) :: .ref (a 7) :: .ref (a 8) :: .ref (a 9) :: .ref (a 10) :: .ref (a 11) :: .ref (a 12) :: .ref (a 13) :: .int (nI tr) :: .int (nI fm) :: .int ck :: .int te :: .int (nI fn) :: .ref (a 19) :: .ref (a 20) :: .ref (a 21) :: .ref (a 22) :: .ref (a 23) :: .ref (a 24) :: .ref (a 25) :: .ref (a 26) :: .ref (a 27) :: .int (b2 hp) :: .int yn :: .int (b2 ir) :: .ref (a 31) :: .int rc :: .ref (a 33) :: .int (nI mv) :: .int kd :: .int (nI bg) :: .int (nI en) :: .int mk :: .long le :: .int (nI tk) :: .int (nI op) :: .ref (a 42) :: .int (nI wn) :: .ref (a 44) :: .int (nI jn) :: .ref (a 46) :: .ref (a 47) :: .ref (a 48) :: .ref (a 49) :: .ref (a 50) :: .ref (a 51) :: .int (b2 ke) :: .ref (a 53) :: .ref (a 54) :: .ref (a 55) :: .int (nI z.1) :: .int (nI z.2.1) :: []), aI (CxD X) 144 (nf my), aI (CxD X) 12 (opf ai), aZ (CxD X) 12 (zf tr_), aZ (CxD X) 12 (zf gv), aI (CxD X) 53248 (nf L1), aI (CxD X) 12 (opf tl), aI (CxD X) 12 (opf z.2.2)] 104 [(0, .ref mo), (1, .int (nI (mAbl my fm (12 * fm)))), (2, .int (nI s)), (3, .int 1)] []
      have hc0 : L1 0 = mV my ke ai tr_ gv fm s fm 0 := by have e := hV1 0 (Nat.zero_le _) 0 (Nat.zero_and s); exact e
      refine r_iload_n (n := 105) hX dX11_search_104 rfl rfl 3 rfl ?_
      refine r_if_eq (tgt := 117) (n := 108) hX dX11_search_105 (by decide) rfl (fun h => False.elim (by revert h; decide)) (fun _ => ?_)
      refine r_aload_n (n := 109) hX dX11_search_108 rfl rfl 0 rfl ?_
      refine r_get (n := 112) hX 0 rfl rfl rfl 53 (by decide) lay_X11 fl_X11_108 rfl dX11_search_109 rfl ?_
      refine r_iconst (n := 113) hX 0 dX11_search_112 rfl rfl ?_
      refine r_ialdNn (n := 114) (i := 0) hX 5 rfl rfl (by decide) (by decide) dX11_search_113 rfl ?_
      refine Aw.topi (nI (mV my ke ai tr_ gv fm s fm 0)) (by rw [hc0]) ?_
      refine r_goto (tgt := 120) hX dX11_search_114 (by decide) ?_
      refine r_istore (n := 122) hX [(0, .ref mo), (1, .int (nI (mAbl my fm (12 * fm)))), (2, .int (nI s)), (3, .int 1), (4, .int (nI (mV my ke ai tr_ gv fm s fm 0)))] dX11_search_120 rfl (by decide) rfl ?_
      refine r_iload_n (n := 123) hX dX11_search_122 rfl rfl 2 rfl ?_
      refine r_callS (n := 126) (av := [.int (nI s)]) hX (ct_X11_bits (CxL X) (CxD X) s hs4) ml_X11_334 cs_X11_bits rfl (by decide) [] rfl rfl (by decide) rfl (Nat.le_of_ble_eq_true rfl) dX11_search_123 rfl (fun r_ es_ h_ l_ => ?_)
      obtain ⟨rfl, rfl⟩ := h_
      show Aw X [mo, a 48, a 51, a 49, a 50, a 53, a 54, a 55] [ob 11 (.ref (a 0) :: .int (nI tn) :: .int fk :: .int fp :: .ref (a 4) :: .ref (a 5) :: .ref (a 6) :: .ref (a 7) :: .ref (a 8) :: .ref (a 9) :: .ref (a 10) :: .ref (a 11) :: .ref (a 12) :: .ref (a 13) :: .int (nI tr) :: .int (nI fm) :: .int ck :: .int te :: .int (nI fn) :: .ref (a 19) :: .ref (a 20) :: .ref (a 21) :: .ref (a 22) :: .ref (a 23) :: .ref (a 24) :: .ref (a 25) :: .ref (a 26) :: .ref (a 27) :: .int (b2 hp) :: .int yn :: .int (b2 ir) :: .ref (a 31) :: .int rc :: .ref (a 33) :: .int (nI mv) :: .int kd :: .int (nI bg) :: .int (nI en) :: .int mk :: .long le :: .int (nI tk) :: .int (nI op) :: .ref (a 42) :: .int (nI wn) :: .ref (a 44) :: .int (nI jn) :: .ref (a 46) :: .ref (a 47) :: .ref (a 48) :: .ref (a 49) :: .ref (a 50) :: .ref (a 51) :: .int (b2 ke) :: .ref (a 53) :: .ref (a 54) :: .ref (a 55) :: .int (nI z.1) :: .int (nI z.2.1) :: []), aI (CxD X) 144 (nf my), aI (CxD X) 12 (opf ai), aZ (CxD X) 12 (zf tr_), aZ (CxD X) 12 (zf gv), aI (CxD X) 53248 (nf L1), aI (CxD X) 12 (opf tl), aI (CxD X) 12 (opf z.2.2)] 126 [(0, .ref mo), (1, .int (nI (mAbl my fm (12 * fm)))), (2, .int (nI s)), (3, .int 1), (4, .int (nI (mV my ke ai tr_ gv fm s fm 0)))] [.int (nI (mBi12 s 12))]
      refine r_istore (n := 128) hX [(0, .ref mo), (1, .int (nI (mAbl my fm (12 * fm)))), (2, .int (nI s)), (3, .int 1), (4, .int (nI (mV my ke ai tr_ gv fm s fm 0))), (5, .int (nI (mBi12 s 12)))] dX11_search_126 rfl (by decide) rfl ?_
      refine r_iload (n := 130) hX dX11_search_128 rfl 4 rfl ?_
      refine r_ldcw (n := 133) hX dX11_search_130 rfl kc_X11_303 ?_
      refine r_icmp_lt_n (tgt := 140) (n := 136) hX (mV my ke ai tr_ gv fm s fm 0) 100000000 (Nat.lt_of_le_of_lt mV_le (by decide)) (by decide) dX11_search_133 (by decide) rfl (fun c133 => ?_) (fun c133 => ?_)
      · skip
        refine r_aload_n (n := 141) hX dX11_search_140 rfl rfl 0 rfl ?_
        refine r_get (n := 144) hX 0 rfl rfl rfl 56 (by decide) lay_X11 fl_X11_325 rfl dX11_search_141 rfl ?_
        refine r_ldcw (n := 147) hX dX11_search_144 rfl kc_X11_303 ?_
        refine r_icmp_lt_n (tgt := 154) (n := 150) hX z.1 100000000 (by omega) (by omega) dX11_search_147 (by decide) rfl (fun c147 => ?_) (fun c147 => ?_)
        · skip
          refine r_aload_n (n := 155) hX dX11_search_154 rfl rfl 0 rfl ?_
          refine r_iload (n := 157) hX dX11_search_155 rfl 4 rfl ?_
          refine r_iload (n := 159) hX dX11_search_157 rfl 5 rfl ?_
          refine r_callV (n := 162) (av := [.int (nI (mV my ke ai tr_ gv fm s fm 0)), .int (nI (mBi12 s 12))]) hX (ct_X11_against (CxL X) (CxD X) mo a tn tr fm fn mv bg en tk op wn jn z.1 z.2.1 fk fp ck te yn rc kd mk le hp ir ke (mV my ke ai tr_ gv fm s fm 0) (mBi12 s 12) (by omega) (by omega) (by omega) (by omega)) ml_X11_337 cv_X11_against rfl (by decide) [0] rfl rfl (by decide) 0 rfl rfl rfl rfl rfl (Nat.le_of_ble_eq_true rfl) dX11_search_159 rfl (fun r_ es_ h_ l_ => ?_)
          obtain ⟨rfl, rfl⟩ := h_
          show Aw X [mo, a 48, a 51, a 49, a 50, a 53, a 54, a 55] [ob 11 (.ref (a 0) :: .int (nI tn) :: .int fk :: .int fp :: .ref (a 4) :: .ref (a 5) :: .ref (a 6) :: .ref (a 7) :: .ref (a 8) :: .ref (a 9) :: .ref (a 10) :: .ref (a 11) :: .ref (a 12) :: .ref (a 13) :: .int (nI tr) :: .int (nI fm) :: .int ck :: .int te :: .int (nI fn) :: .ref (a 19) :: .ref (a 20) :: .ref (a 21) :: .ref (a 22) :: .ref (a 23) :: .ref (a 24) :: .ref (a 25) :: .ref (a 26) :: .ref (a 27) :: .int (b2 hp) :: .int yn :: .int (b2 ir) :: .ref (a 31) :: .int rc :: .ref (a 33) :: .int (nI mv) :: .int kd :: .int (nI bg) :: .int (nI en) :: .int mk :: .long le :: .int (nI tk) :: .int (nI op) :: .ref (a 42) :: .int (nI wn) :: .ref (a 44) :: .int (nI jn) :: .ref (a 46) :: .ref (a 47) :: .ref (a 48) :: .ref (a 49) :: .ref (a 50) :: .ref (a 51) :: .int (b2 ke) :: .ref (a 53) :: .ref (a 54) :: .ref (a 55) :: .int (nI z.1) :: .int (nI z.2.1) :: []), aI (CxD X) 144 (nf my), aI (CxD X) 12 (opf ai), aZ (CxD X) 12 (zf tr_), aZ (CxD X) 12 (zf gv), aI (CxD X) 53248 (nf L1), aI (CxD X) 12 (opf tl), aI (CxD X) 12 (opf z.2.2)] 162 [(0, .ref mo), (1, .int (nI (mAbl my fm (12 * fm)))), (2, .int (nI s)), (3, .int 1), (4, .int (nI (mV my ke ai tr_ gv fm s fm 0))), (5, .int (nI (mBi12 s 12)))] [.int (mAg (mV my ke ai tr_ gv fm s fm 0) (mBi12 s 12) z.1 z.2.1)]
          refine r_istore (n := 164) hX [(0, .ref mo), (1, .int (nI (mAbl my fm (12 * fm)))), (2, .int (nI s)), (3, .int 1), (4, .int (nI (mV my ke ai tr_ gv fm s fm 0))), (5, .int (nI (mBi12 s 12))), (6, .int (mAg (mV my ke ai tr_ gv fm s fm 0) (mBi12 s 12) z.1 z.2.1))] dX11_search_162 rfl (by decide) rfl ?_
          refine r_iload (n := 166) hX dX11_search_164 rfl 6 rfl ?_
          refine r_if_gt (tgt := 230) (n := 169) hX dX11_search_166 (by decide) rfl (fun c166 => ?_) (fun c166 => ?_)
          · skip
            refine r_iinc (n := 233) hX (nI (s + 1)) [(0, .ref mo), (1, .int (nI (mAbl my fm (12 * fm)))), (2, .int (nI (s + 1))), (3, .int 1), (4, .int (nI (mV my ke ai tr_ gv fm s fm 0))), (5, .int (nI (mBi12 s 12))), (6, .int (mAg (mV my ke ai tr_ gv fm s fm 0) (mBi12 s 12) z.1 z.2.1))] dX11_search_230 rfl 2 rfl (nI_add _ _) (by decide) rfl ?_
            refine r_goto (tgt := 71) hX dX11_search_233 (by decide) ?_
            refine Aw.loc (lv' := [(0, .ref mo), (1, .int (nI (mAbl my fm (12 * fm)))), (2, .int (nI (s + 1)))]) [0, 1, 2] rfl ?_
            have hS : mSs my ke ai tr_ gv fm (mAbl my fm (12 * fm)) s z = z := by rw [mSs, if_pos ((nb_sub (by omega)).mp c86), if_pos c133, if_pos c147, if_pos c166]
            exact ih (s + 1) z _ _ (by omega) hz hL1 htl (by rw [← he]; simp only [foldF, hS])
          · skip
            refine r_aload_n (n := 170) hX dX11_search_169 rfl rfl 0 rfl ?_
            refine r_iload_n (n := 171) hX dX11_search_170 rfl rfl 2 rfl ?_
            refine r_callV (n := 174) (av := [.int (nI s)]) hX (ct_X11_follow (CxL X) (CxD X) mo a tn tr fm fn mv bg en tk op wn jn z.1 z.2.1 fk fp ck te yn rc kd mk le hp ir ke my ai tr_ gv L1 tl s hf hmy hai hL1 hs4) ml_X11_340 cv_X11_follow rfl (by decide) [0, 1, 2, 3, 4, 5, 6] rfl rfl (by decide) 0 rfl rfl rfl rfl rfl (Nat.le_of_ble_eq_true rfl) dX11_search_171 rfl (fun r_ es_ h_ l_ => ?_)
            obtain ⟨rfl, rfl⟩ := h_
            show Aw X [mo, a 48, a 51, a 49, a 50, a 53, a 54, a 55] [ob 11 (.ref (a 0) :: .int (nI tn) :: .int fk :: .int fp :: .ref (a 4) :: .ref (a 5) :: .ref (a 6) :: .ref (a 7) :: .ref (a 8) :: .ref (a 9) :: .ref (a 10) :: .ref (a 11) :: .ref (a 12) :: .ref (a 13) :: .int (nI tr) :: .int (nI fm) :: .int ck :: .int te :: .int (nI fn) :: .ref (a 19) :: .ref (a 20) :: .ref (a 21) :: .ref (a 22) :: .ref (a 23) :: .ref (a 24) :: .ref (a 25) :: .ref (a 26) :: .ref (a 27) :: .int (b2 hp) :: .int yn :: .int (b2 ir) :: .ref (a 31) :: .int rc :: .ref (a 33) :: .int (nI mv) :: .int kd :: .int (nI bg) :: .int (nI en) :: .int mk :: .long le :: .int (nI tk) :: .int (nI op) :: .ref (a 42) :: .int (nI wn) :: .ref (a 44) :: .int (nI jn) :: .ref (a 46) :: .ref (a 47) :: .ref (a 48) :: .ref (a 49) :: .ref (a 50) :: .ref (a 51) :: .int (b2 ke) :: .ref (a 53) :: .ref (a 54) :: .ref (a 55) :: .int (nI z.1) :: .int (nI z.2.1) :: []), aI (CxD X) 144 (nf my), aI (CxD X) 12 (opf ai), aZ (CxD X) 12 (zf tr_), aZ (CxD X) 12 (zf gv), aI (CxD X) 53248 (nf L1), aI (CxD X) 12 (opf (cpyO tl (mPT my ke ai tr_ fm (fun q j => L1 (4096 * q + j)) s) fm)), aI (CxD X) 12 (opf z.2.2)] 174 [(0, .ref mo), (1, .int (nI (mAbl my fm (12 * fm)))), (2, .int (nI s)), (3, .int 1), (4, .int (nI (mV my ke ai tr_ gv fm s fm 0))), (5, .int (nI (mBi12 s 12))), (6, .int (mAg (mV my ke ai tr_ gv fm s fm 0) (mBi12 s 12) z.1 z.2.1))] []
            have hPT : ∀ j, j < fm → (mPT my ke ai tr_ fm (fun q j => L1 (4096 * q + j)) s) j = (mPT my ke ai tr_ fm (mVW my ke ai tr_ gv fm s) s) j := fun j hj => mPT_congr (fun q hq j hj => hV1 q hq j hj) j hj
            have hot : obd (cpyO tl (mPT my ke ai tr_ fm (fun q j => L1 (4096 * q + j)) s) fm) := cpyO_obd2 htl (fun j hj r e => by have := (mPk_in e).1; omega)
            have htr_ : ∀ j, j < fm → (cpyO tl (mPT my ke ai tr_ fm (fun q j => L1 (4096 * q + j)) s) fm) j = (mPT my ke ai tr_ fm (mVW my ke ai tr_ gv fm s) s) j := fun j hj => by rw [← hPT j hj]; unfold cpyO; rw [if_pos hj]
            generalize (cpyO tl (mPT my ke ai tr_ fm (fun q j => L1 (4096 * q + j)) s) fm) = tl1 at hot htr_
            refine r_iload (n := 176) hX dX11_search_174 rfl 6 rfl ?_
            refine r_if_lt (tgt := 186) (n := 179) hX dX11_search_176 (by decide) rfl (fun c176 => ?_) (fun c176 => ?_)
            · skip
              refine r_aload_n (n := 187) hX dX11_search_186 rfl rfl 0 rfl ?_
              refine r_iload (n := 189) hX dX11_search_187 rfl 4 rfl ?_
              refine r_put (n := 192) hX 0 rfl rfl rfl 56 [ob 11 (.ref (a 0) :: .int (nI tn) :: .int fk :: .int fp :: .ref (a 4) :: .ref (a 5) :: .ref (a 6) :: .ref (a 7) :: .ref (a 8) :: .ref (a 9) :: .ref (a 10) :: .ref (a 11) :: .ref (a 12) :: .ref (a 13) :: .int (nI tr) :: .int (nI fm) :: .int ck :: .int te :: .int (nI fn) :: .ref (a 19) :: .ref (a 20) :: .ref (a 21) :: .ref (a 22) :: .ref (a 23) :: .ref (a 24) :: .ref (a 25) :: .ref (a 26) :: .ref (a 27) :: .int (b2 hp) :: .int yn :: .int (b2 ir) :: .ref (a 31) :: .int rc :: .ref (a 33) :: .int (nI mv) :: .int kd :: .int (nI bg) :: .int (nI en) :: .int mk :: .long le :: .int (nI tk) :: .int (nI op) :: .ref (a 42) :: .int (nI wn) :: .ref (a 44) :: .int (nI jn) :: .ref (a 46) :: .ref (a 47) :: .ref (a 48) :: .ref (a 49) :: .ref (a 50) :: .ref (a 51) :: .int (b2 ke) :: .ref (a 53) :: .ref (a 54) :: .ref (a 55) :: .int (nI (mV my ke ai tr_ gv fm s fm 0)) :: .int (nI z.2.1) :: []), aI (CxD X) 144 (nf my), aI (CxD X) 12 (opf ai), aZ (CxD X) 12 (zf tr_), aZ (CxD X) 12 (zf gv), aI (CxD X) 53248 (nf L1), aI (CxD X) 12 (opf tl1), aI (CxD X) 12 (opf z.2.2)] (by decide) lay_X11 tyX11 tyX11_ok nmX11 fl_X11_325 rfl rfl rfl (Nat.le_of_ble_eq_true rfl) rfl dX11_search_189 rfl ?_
              refine r_aload_n (n := 193) hX dX11_search_192 rfl rfl 0 rfl ?_
              refine r_iload (n := 195) hX dX11_search_193 rfl 5 rfl ?_
              refine r_put (n := 198) hX 0 rfl rfl rfl 57 [ob 11 (.ref (a 0) :: .int (nI tn) :: .int fk :: .int fp :: .ref (a 4) :: .ref (a 5) :: .ref (a 6) :: .ref (a 7) :: .ref (a 8) :: .ref (a 9) :: .ref (a 10) :: .ref (a 11) :: .ref (a 12) :: .ref (a 13) :: .int (nI tr) :: .int (nI fm) :: .int ck :: .int te :: .int (nI fn) :: .ref (a 19) :: .ref (a 20) :: .ref (a 21) :: .ref (a 22) :: .ref (a 23) :: .ref (a 24) :: .ref (a 25) :: .ref (a 26) :: .ref (a 27) :: .int (b2 hp) :: .int yn :: .int (b2 ir) :: .ref (a 31) :: .int rc :: .ref (a 33) :: .int (nI mv) :: .int kd :: .int (nI bg) :: .int (nI en) :: .int mk :: .long le :: .int (nI tk) :: .int (nI op) :: .ref (a 42) :: .int (nI wn) :: .ref (a 44) :: .int (nI jn) :: .ref (a 46) :: .ref (a 47) :: .ref (a 48) :: .ref (a 49) :: .ref (a 50) :: .ref (a 51) :: .int (b2 ke) :: .ref (a 53) :: .ref (a 54) :: .ref (a 55) :: .int (nI (mV my ke ai tr_ gv fm s fm 0)) :: .int (nI (mBi12 s 12)) :: []), aI (CxD X) 144 (nf my), aI (CxD X) 12 (opf ai), aZ (CxD X) 12 (zf tr_), aZ (CxD X) 12 (zf gv), aI (CxD X) 53248 (nf L1), aI (CxD X) 12 (opf tl1), aI (CxD X) 12 (opf z.2.2)] (by decide) lay_X11 tyX11 tyX11_ok nmX11 fl_X11_328 rfl rfl rfl (Nat.le_of_ble_eq_true rfl) rfl dX11_search_195 rfl ?_
              refine r_iconst (n := 199) hX 0 dX11_search_198 rfl rfl ?_
              refine r_istore (n := 201) hX [(0, .ref mo), (1, .int (nI (mAbl my fm (12 * fm)))), (2, .int (nI s)), (3, .int 1), (4, .int (nI (mV my ke ai tr_ gv fm s fm 0))), (5, .int (nI (mBi12 s 12))), (6, .int (mAg (mV my ke ai tr_ gv fm s fm 0) (mBi12 s 12) z.1 z.2.1)), (7, .int 0)] dX11_search_199 rfl (by decide) rfl ?_
              refine Aw.loc (lv' := [(0, .ref mo), (1, .int (nI (mAbl my fm (12 * fm)))), (2, .int (nI s)), (7, .int 0)]) [0, 1, 2, 7] rfl ?_
              refine Aw.eqs (es' := [ob 11 (.ref (a 0) :: .int (nI tn) :: .int fk :: .int fp :: .ref (a 4) :: .ref (a 5) :: .ref (a 6) :: .ref (a 7) :: .ref (a 8) :: .ref (a 9) :: .ref (a 10) :: .ref (a 11) :: .ref (a 12) :: .ref (a 13) :: .int (nI tr) :: .int (nI fm) :: .int ck :: .int te :: .int (nI fn) :: .ref (a 19) :: .ref (a 20) :: .ref (a 21) :: .ref (a 22) :: .ref (a 23) :: .ref (a 24) :: .ref (a 25) :: .ref (a 26) :: .ref (a 27) :: .int (b2 hp) :: .int yn :: .int (b2 ir) :: .ref (a 31) :: .int rc :: .ref (a 33) :: .int (nI mv) :: .int kd :: .int (nI bg) :: .int (nI en) :: .int mk :: .long le :: .int (nI tk) :: .int (nI op) :: .ref (a 42) :: .int (nI wn) :: .ref (a 44) :: .int (nI jn) :: .ref (a 46) :: .ref (a 47) :: .ref (a 48) :: .ref (a 49) :: .ref (a 50) :: .ref (a 51) :: .int (b2 ke) :: .ref (a 53) :: .ref (a 54) :: .ref (a 55) :: .int (nI (mV my ke ai tr_ gv fm s fm 0)) :: .int (nI (mBi12 s 12)) :: []), aI (CxD X) 144 (nf my), aI (CxD X) 12 (opf ai), aZ (CxD X) 12 (zf tr_), aZ (CxD X) 12 (zf gv), aI (CxD X) 53248 (nf L1), aI (CxD X) 12 (opf tl1), aI (CxD X) 12 (opf (cpyO z.2.2 tl1 0))]) (by rw [cpyO_0]) rfl rfl ?_
              refine lp_scpy hX mo a tn tr fm fn mv bg en tk op wn jn fk fp ck te yn rc kd mk le hp ir ke my ai tr_ gv ch hf hmy hai hch L1 tl1 z.2.2 (mV my ke ai tr_ gv fm s fm 0) (mBi12 s 12) s hR ?_ fm 0 (by omega)
              show Aw X [mo, a 48, a 51, a 49, a 50, a 53, a 54, a 55] [ob 11 (.ref (a 0) :: .int (nI tn) :: .int fk :: .int fp :: .ref (a 4) :: .ref (a 5) :: .ref (a 6) :: .ref (a 7) :: .ref (a 8) :: .ref (a 9) :: .ref (a 10) :: .ref (a 11) :: .ref (a 12) :: .ref (a 13) :: .int (nI tr) :: .int (nI fm) :: .int ck :: .int te :: .int (nI fn) :: .ref (a 19) :: .ref (a 20) :: .ref (a 21) :: .ref (a 22) :: .ref (a 23) :: .ref (a 24) :: .ref (a 25) :: .ref (a 26) :: .ref (a 27) :: .int (b2 hp) :: .int yn :: .int (b2 ir) :: .ref (a 31) :: .int rc :: .ref (a 33) :: .int (nI mv) :: .int kd :: .int (nI bg) :: .int (nI en) :: .int mk :: .long le :: .int (nI tk) :: .int (nI op) :: .ref (a 42) :: .int (nI wn) :: .ref (a 44) :: .int (nI jn) :: .ref (a 46) :: .ref (a 47) :: .ref (a 48) :: .ref (a 49) :: .ref (a 50) :: .ref (a 51) :: .int (b2 ke) :: .ref (a 53) :: .ref (a 54) :: .ref (a 55) :: .int (nI (mV my ke ai tr_ gv fm s fm 0)) :: .int (nI (mBi12 s 12)) :: []), aI (CxD X) 144 (nf my), aI (CxD X) 12 (opf ai), aZ (CxD X) 12 (zf tr_), aZ (CxD X) 12 (zf gv), aI (CxD X) 53248 (nf L1), aI (CxD X) 12 (opf tl1), aI (CxD X) 12 (opf (cpyO z.2.2 tl1 fm))] 230 [(0, .ref mo), (1, .int (nI (mAbl my fm (12 * fm)))), (2, .int (nI s))] []
              refine r_iinc (n := 233) hX (nI (s + 1)) [(0, .ref mo), (1, .int (nI (mAbl my fm (12 * fm)))), (2, .int (nI (s + 1)))] dX11_search_230 rfl 2 rfl (nI_add _ _) (by decide) rfl ?_
              refine r_goto (tgt := 71) hX dX11_search_233 (by decide) ?_
              have hS : mSs my ke ai tr_ gv fm (mAbl my fm (12 * fm)) s z = mNew my ke ai tr_ gv fm s z := by rw [mSs, if_pos ((nb_sub (by omega)).mp c86), if_pos c133, if_pos c147, if_neg c166, if_pos c176]
              have hN : mNew my ke ai tr_ gv fm s z = (mV my ke ai tr_ gv fm s fm 0, mBi12 s 12, cpyO z.2.2 tl1 fm) := by rw [mNew, ← cpyO_n z.2.2 tl1 (mPT my ke ai tr_ fm (mVW my ke ai tr_ gv fm s) s) fm htr_]
              have hz2 := mNew_ok hf hz c133
              rw [hN] at hz2 hS
              exact ih (s + 1) (mV my ke ai tr_ gv fm s fm 0, mBi12 s 12, cpyO z.2.2 tl1 fm) _ _ (by omega) hz2 hL1 hot (by rw [← he]; simp only [foldF, hS])
            · skip
              refine r_aload_n (n := 180) hX dX11_search_179 rfl rfl 0 rfl ?_
              refine r_callV (n := 183) (av := []) hX (ct_X11_isAhead (CxL X) (CxD X) mo a tn tr fm fn mv bg en tk op wn jn z.1 z.2.1 fk fp ck te yn rc kd mk le hp ir ke tl1 z.2.2 hf hot hz.2.2) ml_X11_343 cv_X11_isAhead rfl (by decide) [0, 6, 7] rfl rfl (by decide) 0 rfl rfl rfl rfl rfl (Nat.le_of_ble_eq_true rfl) dX11_search_180 rfl (fun r_ es_ h_ l_ => ?_)
              obtain ⟨rfl, rfl⟩ := h_
              show Aw X [mo, a 48, a 51, a 49, a 50, a 53, a 54, a 55] [ob 11 (.ref (a 0) :: .int (nI tn) :: .int fk :: .int fp :: .ref (a 4) :: .ref (a 5) :: .ref (a 6) :: .ref (a 7) :: .ref (a 8) :: .ref (a 9) :: .ref (a 10) :: .ref (a 11) :: .ref (a 12) :: .ref (a 13) :: .int (nI tr) :: .int (nI fm) :: .int ck :: .int te :: .int (nI fn) :: .ref (a 19) :: .ref (a 20) :: .ref (a 21) :: .ref (a 22) :: .ref (a 23) :: .ref (a 24) :: .ref (a 25) :: .ref (a 26) :: .ref (a 27) :: .int (b2 hp) :: .int yn :: .int (b2 ir) :: .ref (a 31) :: .int rc :: .ref (a 33) :: .int (nI mv) :: .int kd :: .int (nI bg) :: .int (nI en) :: .int mk :: .long le :: .int (nI tk) :: .int (nI op) :: .ref (a 42) :: .int (nI wn) :: .ref (a 44) :: .int (nI jn) :: .ref (a 46) :: .ref (a 47) :: .ref (a 48) :: .ref (a 49) :: .ref (a 50) :: .ref (a 51) :: .int (b2 ke) :: .ref (a 53) :: .ref (a 54) :: .ref (a 55) :: .int (nI z.1) :: .int (nI z.2.1) :: []), aI (CxD X) 144 (nf my), aI (CxD X) 12 (opf ai), aZ (CxD X) 12 (zf tr_), aZ (CxD X) 12 (zf gv), aI (CxD X) 53248 (nf L1), aI (CxD X) 12 (opf tl1), aI (CxD X) 12 (opf z.2.2)] 183 [(0, .ref mo), (1, .int (nI (mAbl my fm (12 * fm)))), (2, .int (nI s)), (3, .int 1), (4, .int (nI (mV my ke ai tr_ gv fm s fm 0))), (5, .int (nI (mBi12 s 12))), (6, .int (mAg (mV my ke ai tr_ gv fm s fm 0) (mBi12 s 12) z.1 z.2.1))] [.int (b2 (mAhead tl1 z.2.2 fm 0))]
              refine r_if_eq_b (tgt := 230) (n := 186) hX dX11_search_183 (by decide) rfl (fun c183 => ?_) (fun c183 => ?_)
              · skip
                refine r_iinc (n := 233) hX (nI (s + 1)) [(0, .ref mo), (1, .int (nI (mAbl my fm (12 * fm)))), (2, .int (nI (s + 1))), (3, .int 1), (4, .int (nI (mV my ke ai tr_ gv fm s fm 0))), (5, .int (nI (mBi12 s 12))), (6, .int (mAg (mV my ke ai tr_ gv fm s fm 0) (mBi12 s 12) z.1 z.2.1))] dX11_search_230 rfl 2 rfl (nI_add _ _) (by decide) rfl ?_
                refine r_goto (tgt := 71) hX dX11_search_233 (by decide) ?_
                refine Aw.loc (lv' := [(0, .ref mo), (1, .int (nI (mAbl my fm (12 * fm)))), (2, .int (nI (s + 1)))]) [0, 1, 2] rfl ?_
                have hS : mSs my ke ai tr_ gv fm (mAbl my fm (12 * fm)) s z = z := by rw [mSs, if_pos ((nb_sub (by omega)).mp c86), if_pos c133, if_pos c147, if_neg c166, if_neg c176, if_neg (by rw [← mAhead_congr fm 0 (fun j _ hj => htr_ j (by omega)), c183]; decide)]
                exact ih (s + 1) z _ _ (by omega) hz hL1 hot (by rw [← he]; simp only [foldF, hS])
              · skip
                refine r_aload_n (n := 187) hX dX11_search_186 rfl rfl 0 rfl ?_
                refine r_iload (n := 189) hX dX11_search_187 rfl 4 rfl ?_
                refine r_put (n := 192) hX 0 rfl rfl rfl 56 [ob 11 (.ref (a 0) :: .int (nI tn) :: .int fk :: .int fp :: .ref (a 4) :: .ref (a 5) :: .ref (a 6) :: .ref (a 7) :: .ref (a 8) :: .ref (a 9) :: .ref (a 10) :: .ref (a 11) :: .ref (a 12) :: .ref (a 13) :: .int (nI tr) :: .int (nI fm) :: .int ck :: .int te :: .int (nI fn) :: .ref (a 19) :: .ref (a 20) :: .ref (a 21) :: .ref (a 22) :: .ref (a 23) :: .ref (a 24) :: .ref (a 25) :: .ref (a 26) :: .ref (a 27) :: .int (b2 hp) :: .int yn :: .int (b2 ir) :: .ref (a 31) :: .int rc :: .ref (a 33) :: .int (nI mv) :: .int kd :: .int (nI bg) :: .int (nI en) :: .int mk :: .long le :: .int (nI tk) :: .int (nI op) :: .ref (a 42) :: .int (nI wn) :: .ref (a 44) :: .int (nI jn) :: .ref (a 46) :: .ref (a 47) :: .ref (a 48) :: .ref (a 49) :: .ref (a 50) :: .ref (a 51) :: .int (b2 ke) :: .ref (a 53) :: .ref (a 54) :: .ref (a 55) :: .int (nI (mV my ke ai tr_ gv fm s fm 0)) :: .int (nI z.2.1) :: []), aI (CxD X) 144 (nf my), aI (CxD X) 12 (opf ai), aZ (CxD X) 12 (zf tr_), aZ (CxD X) 12 (zf gv), aI (CxD X) 53248 (nf L1), aI (CxD X) 12 (opf tl1), aI (CxD X) 12 (opf z.2.2)] (by decide) lay_X11 tyX11 tyX11_ok nmX11 fl_X11_325 rfl rfl rfl (Nat.le_of_ble_eq_true rfl) rfl dX11_search_189 rfl ?_
                refine r_aload_n (n := 193) hX dX11_search_192 rfl rfl 0 rfl ?_
                refine r_iload (n := 195) hX dX11_search_193 rfl 5 rfl ?_
                refine r_put (n := 198) hX 0 rfl rfl rfl 57 [ob 11 (.ref (a 0) :: .int (nI tn) :: .int fk :: .int fp :: .ref (a 4) :: .ref (a 5) :: .ref (a 6) :: .ref (a 7) :: .ref (a 8) :: .ref (a 9) :: .ref (a 10) :: .ref (a 11) :: .ref (a 12) :: .ref (a 13) :: .int (nI tr) :: .int (nI fm) :: .int ck :: .int te :: .int (nI fn) :: .ref (a 19) :: .ref (a 20) :: .ref (a 21) :: .ref (a 22) :: .ref (a 23) :: .ref (a 24) :: .ref (a 25) :: .ref (a 26) :: .ref (a 27) :: .int (b2 hp) :: .int yn :: .int (b2 ir) :: .ref (a 31) :: .int rc :: .ref (a 33) :: .int (nI mv) :: .int kd :: .int (nI bg) :: .int (nI en) :: .int mk :: .long le :: .int (nI tk) :: .int (nI op) :: .ref (a 42) :: .int (nI wn) :: .ref (a 44) :: .int (nI jn) :: .ref (a 46) :: .ref (a 47) :: .ref (a 48) :: .ref (a 49) :: .ref (a 50) :: .ref (a 51) :: .int (b2 ke) :: .ref (a 53) :: .ref (a 54) :: .ref (a 55) :: .int (nI (mV my ke ai tr_ gv fm s fm 0)) :: .int (nI (mBi12 s 12)) :: []), aI (CxD X) 144 (nf my), aI (CxD X) 12 (opf ai), aZ (CxD X) 12 (zf tr_), aZ (CxD X) 12 (zf gv), aI (CxD X) 53248 (nf L1), aI (CxD X) 12 (opf tl1), aI (CxD X) 12 (opf z.2.2)] (by decide) lay_X11 tyX11 tyX11_ok nmX11 fl_X11_328 rfl rfl rfl (Nat.le_of_ble_eq_true rfl) rfl dX11_search_195 rfl ?_
                refine r_iconst (n := 199) hX 0 dX11_search_198 rfl rfl ?_
                refine r_istore (n := 201) hX [(0, .ref mo), (1, .int (nI (mAbl my fm (12 * fm)))), (2, .int (nI s)), (3, .int 1), (4, .int (nI (mV my ke ai tr_ gv fm s fm 0))), (5, .int (nI (mBi12 s 12))), (6, .int (mAg (mV my ke ai tr_ gv fm s fm 0) (mBi12 s 12) z.1 z.2.1)), (7, .int 0)] dX11_search_199 rfl (by decide) rfl ?_
                refine Aw.loc (lv' := [(0, .ref mo), (1, .int (nI (mAbl my fm (12 * fm)))), (2, .int (nI s)), (7, .int 0)]) [0, 1, 2, 7] rfl ?_
                refine Aw.eqs (es' := [ob 11 (.ref (a 0) :: .int (nI tn) :: .int fk :: .int fp :: .ref (a 4) :: .ref (a 5) :: .ref (a 6) :: .ref (a 7) :: .ref (a 8) :: .ref (a 9) :: .ref (a 10) :: .ref (a 11) :: .ref (a 12) :: .ref (a 13) :: .int (nI tr) :: .int (nI fm) :: .int ck :: .int te :: .int (nI fn) :: .ref (a 19) :: .ref (a 20) :: .ref (a 21) :: .ref (a 22) :: .ref (a 23) :: .ref (a 24) :: .ref (a 25) :: .ref (a 26) :: .ref (a 27) :: .int (b2 hp) :: .int yn :: .int (b2 ir) :: .ref (a 31) :: .int rc :: .ref (a 33) :: .int (nI mv) :: .int kd :: .int (nI bg) :: .int (nI en) :: .int mk :: .long le :: .int (nI tk) :: .int (nI op) :: .ref (a 42) :: .int (nI wn) :: .ref (a 44) :: .int (nI jn) :: .ref (a 46) :: .ref (a 47) :: .ref (a 48) :: .ref (a 49) :: .ref (a 50) :: .ref (a 51) :: .int (b2 ke) :: .ref (a 53) :: .ref (a 54) :: .ref (a 55) :: .int (nI (mV my ke ai tr_ gv fm s fm 0)) :: .int (nI (mBi12 s 12)) :: []), aI (CxD X) 144 (nf my), aI (CxD X) 12 (opf ai), aZ (CxD X) 12 (zf tr_), aZ (CxD X) 12 (zf gv), aI (CxD X) 53248 (nf L1), aI (CxD X) 12 (opf tl1), aI (CxD X) 12 (opf (cpyO z.2.2 tl1 0))]) (by rw [cpyO_0]) rfl rfl ?_
                refine lp_scpy hX mo a tn tr fm fn mv bg en tk op wn jn fk fp ck te yn rc kd mk le hp ir ke my ai tr_ gv ch hf hmy hai hch L1 tl1 z.2.2 (mV my ke ai tr_ gv fm s fm 0) (mBi12 s 12) s hR ?_ fm 0 (by omega)
                show Aw X [mo, a 48, a 51, a 49, a 50, a 53, a 54, a 55] [ob 11 (.ref (a 0) :: .int (nI tn) :: .int fk :: .int fp :: .ref (a 4) :: .ref (a 5) :: .ref (a 6) :: .ref (a 7) :: .ref (a 8) :: .ref (a 9) :: .ref (a 10) :: .ref (a 11) :: .ref (a 12) :: .ref (a 13) :: .int (nI tr) :: .int (nI fm) :: .int ck :: .int te :: .int (nI fn) :: .ref (a 19) :: .ref (a 20) :: .ref (a 21) :: .ref (a 22) :: .ref (a 23) :: .ref (a 24) :: .ref (a 25) :: .ref (a 26) :: .ref (a 27) :: .int (b2 hp) :: .int yn :: .int (b2 ir) :: .ref (a 31) :: .int rc :: .ref (a 33) :: .int (nI mv) :: .int kd :: .int (nI bg) :: .int (nI en) :: .int mk :: .long le :: .int (nI tk) :: .int (nI op) :: .ref (a 42) :: .int (nI wn) :: .ref (a 44) :: .int (nI jn) :: .ref (a 46) :: .ref (a 47) :: .ref (a 48) :: .ref (a 49) :: .ref (a 50) :: .ref (a 51) :: .int (b2 ke) :: .ref (a 53) :: .ref (a 54) :: .ref (a 55) :: .int (nI (mV my ke ai tr_ gv fm s fm 0)) :: .int (nI (mBi12 s 12)) :: []), aI (CxD X) 144 (nf my), aI (CxD X) 12 (opf ai), aZ (CxD X) 12 (zf tr_), aZ (CxD X) 12 (zf gv), aI (CxD X) 53248 (nf L1), aI (CxD X) 12 (opf tl1), aI (CxD X) 12 (opf (cpyO z.2.2 tl1 fm))] 230 [(0, .ref mo), (1, .int (nI (mAbl my fm (12 * fm)))), (2, .int (nI s))] []
                refine r_iinc (n := 233) hX (nI (s + 1)) [(0, .ref mo), (1, .int (nI (mAbl my fm (12 * fm)))), (2, .int (nI (s + 1)))] dX11_search_230 rfl 2 rfl (nI_add _ _) (by decide) rfl ?_
                refine r_goto (tgt := 71) hX dX11_search_233 (by decide) ?_
                have hS : mSs my ke ai tr_ gv fm (mAbl my fm (12 * fm)) s z = mNew my ke ai tr_ gv fm s z := by rw [mSs, if_pos ((nb_sub (by omega)).mp c86), if_pos c133, if_pos c147, if_neg c166, if_neg c176, if_pos (by rw [← mAhead_congr fm 0 (fun j _ hj => htr_ j (by omega))]; exact c183)]
                have hN : mNew my ke ai tr_ gv fm s z = (mV my ke ai tr_ gv fm s fm 0, mBi12 s 12, cpyO z.2.2 tl1 fm) := by rw [mNew, ← cpyO_n z.2.2 tl1 (mPT my ke ai tr_ fm (mVW my ke ai tr_ gv fm s) s) fm htr_]
                have hz2 := mNew_ok hf hz c133
                rw [hN] at hz2 hS
                exact ih (s + 1) (mV my ke ai tr_ gv fm s fm 0, mBi12 s 12, cpyO z.2.2 tl1 fm) _ _ (by omega) hz2 hL1 hot (by rw [← he]; simp only [foldF, hS])
        · skip
          refine r_iconst (n := 151) hX (-1) dX11_search_150 rfl rfl ?_
          refine r_goto (tgt := 162) hX dX11_search_151 (by decide) ?_
          refine r_istore (n := 164) hX [(0, .ref mo), (1, .int (nI (mAbl my fm (12 * fm)))), (2, .int (nI s)), (3, .int 1), (4, .int (nI (mV my ke ai tr_ gv fm s fm 0))), (5, .int (nI (mBi12 s 12))), (6, .int (-1))] dX11_search_162 rfl (by decide) rfl ?_
          refine r_iload (n := 166) hX dX11_search_164 rfl 6 rfl ?_
          refine r_if_gt (tgt := 230) (n := 169) hX dX11_search_166 (by decide) rfl (fun h => False.elim (by revert h; decide)) (fun _ => ?_)
          refine r_aload_n (n := 170) hX dX11_search_169 rfl rfl 0 rfl ?_
          refine r_iload_n (n := 171) hX dX11_search_170 rfl rfl 2 rfl ?_
          refine r_callV (n := 174) (av := [.int (nI s)]) hX (ct_X11_follow (CxL X) (CxD X) mo a tn tr fm fn mv bg en tk op wn jn z.1 z.2.1 fk fp ck te yn rc kd mk le hp ir ke my ai tr_ gv L1 tl s hf hmy hai hL1 hs4) ml_X11_340 cv_X11_follow rfl (by decide) [0, 1, 2, 3, 4, 5, 6] rfl rfl (by decide) 0 rfl rfl rfl rfl rfl (Nat.le_of_ble_eq_true rfl) dX11_search_171 rfl (fun r_ es_ h_ l_ => ?_)
          obtain ⟨rfl, rfl⟩ := h_
          show Aw X [mo, a 48, a 51, a 49, a 50, a 53, a 54, a 55] [ob 11 (.ref (a 0) :: .int (nI tn) :: .int fk :: .int fp :: .ref (a 4) :: .ref (a 5) :: .ref (a 6) :: .ref (a 7) :: .ref (a 8) :: .ref (a 9) :: .ref (a 10) :: .ref (a 11) :: .ref (a 12) :: .ref (a 13) :: .int (nI tr) :: .int (nI fm) :: .int ck :: .int te :: .int (nI fn) :: .ref (a 19) :: .ref (a 20) :: .ref (a 21) :: .ref (a 22) :: .ref (a 23) :: .ref (a 24) :: .ref (a 25) :: .ref (a 26) :: .ref (a 27) :: .int (b2 hp) :: .int yn :: .int (b2 ir) :: .ref (a 31) :: .int rc :: .ref (a 33) :: .int (nI mv) :: .int kd :: .int (nI bg) :: .int (nI en) :: .int mk :: .long le :: .int (nI tk) :: .int (nI op) :: .ref (a 42) :: .int (nI wn) :: .ref (a 44) :: .int (nI jn) :: .ref (a 46) :: .ref (a 47) :: .ref (a 48) :: .ref (a 49) :: .ref (a 50) :: .ref (a 51) :: .int (b2 ke) :: .ref (a 53) :: .ref (a 54) :: .ref (a 55) :: .int (nI z.1) :: .int (nI z.2.1) :: []), aI (CxD X) 144 (nf my), aI (CxD X) 12 (opf ai), aZ (CxD X) 12 (zf tr_), aZ (CxD X) 12 (zf gv), aI (CxD X) 53248 (nf L1), aI (CxD X) 12 (opf (cpyO tl (mPT my ke ai tr_ fm (fun q j => L1 (4096 * q + j)) s) fm)), aI (CxD X) 12 (opf z.2.2)] 174 [(0, .ref mo), (1, .int (nI (mAbl my fm (12 * fm)))), (2, .int (nI s)), (3, .int 1), (4, .int (nI (mV my ke ai tr_ gv fm s fm 0))), (5, .int (nI (mBi12 s 12))), (6, .int (-1))] []
          have hPT : ∀ j, j < fm → (mPT my ke ai tr_ fm (fun q j => L1 (4096 * q + j)) s) j = (mPT my ke ai tr_ fm (mVW my ke ai tr_ gv fm s) s) j := fun j hj => mPT_congr (fun q hq j hj => hV1 q hq j hj) j hj
          have hot : obd (cpyO tl (mPT my ke ai tr_ fm (fun q j => L1 (4096 * q + j)) s) fm) := cpyO_obd2 htl (fun j hj r e => by have := (mPk_in e).1; omega)
          have htr_ : ∀ j, j < fm → (cpyO tl (mPT my ke ai tr_ fm (fun q j => L1 (4096 * q + j)) s) fm) j = (mPT my ke ai tr_ fm (mVW my ke ai tr_ gv fm s) s) j := fun j hj => by rw [← hPT j hj]; unfold cpyO; rw [if_pos hj]
          generalize (cpyO tl (mPT my ke ai tr_ fm (fun q j => L1 (4096 * q + j)) s) fm) = tl1 at hot htr_
          refine r_iload (n := 176) hX dX11_search_174 rfl 6 rfl ?_
          refine r_if_lt (tgt := 186) (n := 179) hX dX11_search_176 (by decide) rfl (fun _ => ?_) (fun h => False.elim (by revert h; decide))
          refine r_aload_n (n := 187) hX dX11_search_186 rfl rfl 0 rfl ?_
          refine r_iload (n := 189) hX dX11_search_187 rfl 4 rfl ?_
          refine r_put (n := 192) hX 0 rfl rfl rfl 56 [ob 11 (.ref (a 0) :: .int (nI tn) :: .int fk :: .int fp :: .ref (a 4) :: .ref (a 5) :: .ref (a 6) :: .ref (a 7) :: .ref (a 8) :: .ref (a 9) :: .ref (a 10) :: .ref (a 11) :: .ref (a 12) :: .ref (a 13) :: .int (nI tr) :: .int (nI fm) :: .int ck :: .int te :: .int (nI fn) :: .ref (a 19) :: .ref (a 20) :: .ref (a 21) :: .ref (a 22) :: .ref (a 23) :: .ref (a 24) :: .ref (a 25) :: .ref (a 26) :: .ref (a 27) :: .int (b2 hp) :: .int yn :: .int (b2 ir) :: .ref (a 31) :: .int rc :: .ref (a 33) :: .int (nI mv) :: .int kd :: .int (nI bg) :: .int (nI en) :: .int mk :: .long le :: .int (nI tk) :: .int (nI op) :: .ref (a 42) :: .int (nI wn) :: .ref (a 44) :: .int (nI jn) :: .ref (a 46) :: .ref (a 47) :: .ref (a 48) :: .ref (a 49) :: .ref (a 50) :: .ref (a 51) :: .int (b2 ke) :: .ref (a 53) :: .ref (a 54) :: .ref (a 55) :: .int (nI (mV my ke ai tr_ gv fm s fm 0)) :: .int (nI z.2.1) :: []), aI (CxD X) 144 (nf my), aI (CxD X) 12 (opf ai), aZ (CxD X) 12 (zf tr_), aZ (CxD X) 12 (zf gv), aI (CxD X) 53248 (nf L1), aI (CxD X) 12 (opf tl1), aI (CxD X) 12 (opf z.2.2)] (by decide) lay_X11 tyX11 tyX11_ok nmX11 fl_X11_325 rfl rfl rfl (Nat.le_of_ble_eq_true rfl) rfl dX11_search_189 rfl ?_
          refine r_aload_n (n := 193) hX dX11_search_192 rfl rfl 0 rfl ?_
          refine r_iload (n := 195) hX dX11_search_193 rfl 5 rfl ?_
          refine r_put (n := 198) hX 0 rfl rfl rfl 57 [ob 11 (.ref (a 0) :: .int (nI tn) :: .int fk :: .int fp :: .ref (a 4) :: .ref (a 5) :: .ref (a 6) :: .ref (a 7) :: .ref (a 8) :: .ref (a 9) :: .ref (a 10) :: .ref (a 11) :: .ref (a 12) :: .ref (a 13) :: .int (nI tr) :: .int (nI fm) :: .int ck :: .int te :: .int (nI fn) :: .ref (a 19) :: .ref (a 20) :: .ref (a 21) :: .ref (a 22) :: .ref (a 23) :: .ref (a 24) :: .ref (a 25) :: .ref (a 26) :: .ref (a 27) :: .int (b2 hp) :: .int yn :: .int (b2 ir) :: .ref (a 31) :: .int rc :: .ref (a 33) :: .int (nI mv) :: .int kd :: .int (nI bg) :: .int (nI en) :: .int mk :: .long le :: .int (nI tk) :: .int (nI op) :: .ref (a 42) :: .int (nI wn) :: .ref (a 44) :: .int (nI jn) :: .ref (a 46) :: .ref (a 47) :: .ref (a 48) :: .ref (a 49) :: .ref (a 50) :: .ref (a 51) :: .int (b2 ke) :: .ref (a 53) :: .ref (a 54) :: .ref (a 55) :: .int (nI (mV my ke ai tr_ gv fm s fm 0)) :: .int (nI (mBi12 s 12)) :: []), aI (CxD X) 144 (nf my), aI (CxD X) 12 (opf ai), aZ (CxD X) 12 (zf tr_), aZ (CxD X) 12 (zf gv), aI (CxD X) 53248 (nf L1), aI (CxD X) 12 (opf tl1), aI (CxD X) 12 (opf z.2.2)] (by decide) lay_X11 tyX11 tyX11_ok nmX11 fl_X11_328 rfl rfl rfl (Nat.le_of_ble_eq_true rfl) rfl dX11_search_195 rfl ?_
          refine r_iconst (n := 199) hX 0 dX11_search_198 rfl rfl ?_
          refine r_istore (n := 201) hX [(0, .ref mo), (1, .int (nI (mAbl my fm (12 * fm)))), (2, .int (nI s)), (3, .int 1), (4, .int (nI (mV my ke ai tr_ gv fm s fm 0))), (5, .int (nI (mBi12 s 12))), (6, .int (-1)), (7, .int 0)] dX11_search_199 rfl (by decide) rfl ?_
          refine Aw.loc (lv' := [(0, .ref mo), (1, .int (nI (mAbl my fm (12 * fm)))), (2, .int (nI s)), (7, .int 0)]) [0, 1, 2, 7] rfl ?_
          refine Aw.eqs (es' := [ob 11 (.ref (a 0) :: .int (nI tn) :: .int fk :: .int fp :: .ref (a 4) :: .ref (a 5) :: .ref (a 6) :: .ref (a 7) :: .ref (a 8) :: .ref (a 9) :: .ref (a 10) :: .ref (a 11) :: .ref (a 12) :: .ref (a 13) :: .int (nI tr) :: .int (nI fm) :: .int ck :: .int te :: .int (nI fn) :: .ref (a 19) :: .ref (a 20) :: .ref (a 21) :: .ref (a 22) :: .ref (a 23) :: .ref (a 24) :: .ref (a 25) :: .ref (a 26) :: .ref (a 27) :: .int (b2 hp) :: .int yn :: .int (b2 ir) :: .ref (a 31) :: .int rc :: .ref (a 33) :: .int (nI mv) :: .int kd :: .int (nI bg) :: .int (nI en) :: .int mk :: .long le :: .int (nI tk) :: .int (nI op) :: .ref (a 42) :: .int (nI wn) :: .ref (a 44) :: .int (nI jn) :: .ref (a 46) :: .ref (a 47) :: .ref (a 48) :: .ref (a 49) :: .ref (a 50) :: .ref (a 51) :: .int (b2 ke) :: .ref (a 53) :: .ref (a 54) :: .ref (a 55) :: .int (nI (mV my ke ai tr_ gv fm s fm 0)) :: .int (nI (mBi12 s 12)) :: []), aI (CxD X) 144 (nf my), aI (CxD X) 12 (opf ai), aZ (CxD X) 12 (zf tr_), aZ (CxD X) 12 (zf gv), aI (CxD X) 53248 (nf L1), aI (CxD X) 12 (opf tl1), aI (CxD X) 12 (opf (cpyO z.2.2 tl1 0))]) (by rw [cpyO_0]) rfl rfl ?_
          refine lp_scpy hX mo a tn tr fm fn mv bg en tk op wn jn fk fp ck te yn rc kd mk le hp ir ke my ai tr_ gv ch hf hmy hai hch L1 tl1 z.2.2 (mV my ke ai tr_ gv fm s fm 0) (mBi12 s 12) s hR ?_ fm 0 (by omega)
          show Aw X [mo, a 48, a 51, a 49, a 50, a 53, a 54, a 55] [ob 11 (.ref (a 0) :: .int (nI tn) :: .int fk :: .int fp :: .ref (a 4) :: .ref (a 5) :: .ref (a 6) :: .ref (a 7) :: .ref (a 8) :: .ref (a 9) :: .ref (a 10) :: .ref (a 11) :: .ref (a 12) :: .ref (a 13) :: .int (nI tr) :: .int (nI fm) :: .int ck :: .int te :: .int (nI fn) :: .ref (a 19) :: .ref (a 20) :: .ref (a 21) :: .ref (a 22) :: .ref (a 23) :: .ref (a 24) :: .ref (a 25) :: .ref (a 26) :: .ref (a 27) :: .int (b2 hp) :: .int yn :: .int (b2 ir) :: .ref (a 31) :: .int rc :: .ref (a 33) :: .int (nI mv) :: .int kd :: .int (nI bg) :: .int (nI en) :: .int mk :: .long le :: .int (nI tk) :: .int (nI op) :: .ref (a 42) :: .int (nI wn) :: .ref (a 44) :: .int (nI jn) :: .ref (a 46) :: .ref (a 47) :: .ref (a 48) :: .ref (a 49) :: .ref (a 50) :: .ref (a 51) :: .int (b2 ke) :: .ref (a 53) :: .ref (a 54) :: .ref (a 55) :: .int (nI (mV my ke ai tr_ gv fm s fm 0)) :: .int (nI (mBi12 s 12)) :: []), aI (CxD X) 144 (nf my), aI (CxD X) 12 (opf ai), aZ (CxD X) 12 (zf tr_), aZ (CxD X) 12 (zf gv), aI (CxD X) 53248 (nf L1), aI (CxD X) 12 (opf tl1), aI (CxD X) 12 (opf (cpyO z.2.2 tl1 fm))] 230 [(0, .ref mo), (1, .int (nI (mAbl my fm (12 * fm)))), (2, .int (nI s))] []
          refine r_iinc (n := 233) hX (nI (s + 1)) [(0, .ref mo), (1, .int (nI (mAbl my fm (12 * fm)))), (2, .int (nI (s + 1)))] dX11_search_230 rfl 2 rfl (nI_add _ _) (by decide) rfl ?_
          refine r_goto (tgt := 71) hX dX11_search_233 (by decide) ?_
          have hS : mSs my ke ai tr_ gv fm (mAbl my fm (12 * fm)) s z = mNew my ke ai tr_ gv fm s z := by rw [mSs, if_pos ((nb_sub (by omega)).mp c86), if_pos c133, if_neg (Nat.not_lt.mpr c147)]
          have hN : mNew my ke ai tr_ gv fm s z = (mV my ke ai tr_ gv fm s fm 0, mBi12 s 12, cpyO z.2.2 tl1 fm) := by rw [mNew, ← cpyO_n z.2.2 tl1 (mPT my ke ai tr_ fm (mVW my ke ai tr_ gv fm s) s) fm htr_]
          have hz2 := mNew_ok hf hz c133
          rw [hN] at hz2 hS
          exact ih (s + 1) (mV my ke ai tr_ gv fm s fm 0, mBi12 s 12, cpyO z.2.2 tl1 fm) _ _ (by omega) hz2 hL1 hot (by rw [← he]; simp only [foldF, hS])
      · skip
        refine r_iconst (n := 137) hX 1 dX11_search_136 rfl rfl ?_
        refine r_goto (tgt := 162) hX dX11_search_137 (by decide) ?_
        refine r_istore (n := 164) hX [(0, .ref mo), (1, .int (nI (mAbl my fm (12 * fm)))), (2, .int (nI s)), (3, .int 1), (4, .int (nI (mV my ke ai tr_ gv fm s fm 0))), (5, .int (nI (mBi12 s 12))), (6, .int 1)] dX11_search_162 rfl (by decide) rfl ?_
        refine r_iload (n := 166) hX dX11_search_164 rfl 6 rfl ?_
        refine r_if_gt (tgt := 230) (n := 169) hX dX11_search_166 (by decide) rfl (fun _ => ?_) (fun h => False.elim (by revert h; decide))
        refine r_iinc (n := 233) hX (nI (s + 1)) [(0, .ref mo), (1, .int (nI (mAbl my fm (12 * fm)))), (2, .int (nI (s + 1))), (3, .int 1), (4, .int (nI (mV my ke ai tr_ gv fm s fm 0))), (5, .int (nI (mBi12 s 12))), (6, .int 1)] dX11_search_230 rfl 2 rfl (nI_add _ _) (by decide) rfl ?_
        refine r_goto (tgt := 71) hX dX11_search_233 (by decide) ?_
        refine Aw.loc (lv' := [(0, .ref mo), (1, .int (nI (mAbl my fm (12 * fm)))), (2, .int (nI (s + 1)))]) [0, 1, 2] rfl ?_
        have hS : mSs my ke ai tr_ gv fm (mAbl my fm (12 * fm)) s z = z := by rw [mSs, if_pos ((nb_sub (by omega)).mp c86), if_neg (Nat.not_lt.mpr c133)]
        exact ih (s + 1) z _ _ (by omega) hz hL1 htl (by rw [← he]; simp only [foldF, hS])
set_option maxHeartbeats 1000000 in
set_option maxRecDepth 100000 in
theorem lp_search1 {X : Cx} (hX : Ok X cX11_search 8 RX11 3) (mo : Nat) (a : Nat → Nat) (tn tr fm fn mv bg en tk op wn jn : Nat) (fk fp ck te yn rc kd mk : Int32) (le : Int64) (hp ir ke : Bool) (my : Nat → Nat) (ai : Nat → Option Nat) (tr_ gv : Nat → Bool) (ch : Nat → Option Nat) (hf : fm ≤ 12) (hmy : myOk my) (hai : obd ai) (hch : obd ch) (L : Nat → Nat) (tl : Nat → Option Nat) (hL : lsOk L) (htl : obd tl) (hp2 : 2 ^ fm ≤ 4096) (hR : Rt X (none) (fun r es' => r = none ∧ ∃ (L : Nat → Nat) (tl : Nat → Option Nat), es' = [ob 11 (.ref (a 0) :: .int (nI tn) :: .int fk :: .int fp :: .ref (a 4) :: .ref (a 5) :: .ref (a 6) :: .ref (a 7) :: .ref (a 8) :: .ref (a 9) :: .ref (a 10) :: .ref (a 11) :: .ref (a 12) :: .ref (a 13) :: .int (nI tr) :: .int (nI fm) :: .int ck :: .int te :: .int (nI fn) :: .ref (a 19) :: .ref (a 20) :: .ref (a 21) :: .ref (a 22) :: .ref (a 23) :: .ref (a 24) :: .ref (a 25) :: .ref (a 26) :: .ref (a 27) :: .int (b2 hp) :: .int yn :: .int (b2 ir) :: .ref (a 31) :: .int rc :: .ref (a 33) :: .int (nI mv) :: .int kd :: .int (nI bg) :: .int (nI en) :: .int mk :: .long le :: .int (nI tk) :: .int (nI op) :: .ref (a 42) :: .int (nI wn) :: .ref (a 44) :: .int (nI jn) :: .ref (a 46) :: .ref (a 47) :: .ref (a 48) :: .ref (a 49) :: .ref (a 50) :: .ref (a 51) :: .int (b2 ke) :: .ref (a 53) :: .ref (a 54) :: .ref (a 55) :: .int (nI ((mSearch my ke ai tr_ gv fm ch).1)) :: .int (nI ((mSearch my ke ai tr_ gv fm ch).2.1)) :: []), aI (CxD X) 144 (nf my), aI (CxD X) 12 (opf ai), aZ (CxD X) 12 (zf tr_), aZ (CxD X) 12 (zf gv), aI (CxD X) 53248 (nf L), aI (CxD X) 12 (opf tl), aI (CxD X) 12 (opf ((mSearch my ke ai tr_ gv fm ch).2.2))] ∧ lsOk L ∧ obd tl) [mo, a 48, a 51, a 49, a 50, a 53, a 54, a 55]) : ∀ (m k : Nat), k + m = 12 * fm → Aw X [mo, a 48, a 51, a 49, a 50, a 53, a 54, a 55] [ob 11 (.ref (a 0) :: .int (nI tn) :: .int fk :: .int fp :: .ref (a 4) :: .ref (a 5) :: .ref (a 6) :: .ref (a 7) :: .ref (a 8) :: .ref (a 9) :: .ref (a 10) :: .ref (a 11) :: .ref (a 12) :: .ref (a 13) :: .int (nI tr) :: .int (nI fm) :: .int ck :: .int te :: .int (nI fn) :: .ref (a 19) :: .ref (a 20) :: .ref (a 21) :: .ref (a 22) :: .ref (a 23) :: .ref (a 24) :: .ref (a 25) :: .ref (a 26) :: .ref (a 27) :: .int (b2 hp) :: .int yn :: .int (b2 ir) :: .ref (a 31) :: .int rc :: .ref (a 33) :: .int (nI mv) :: .int kd :: .int (nI bg) :: .int (nI en) :: .int mk :: .long le :: .int (nI tk) :: .int (nI op) :: .ref (a 42) :: .int (nI wn) :: .ref (a 44) :: .int (nI jn) :: .ref (a 46) :: .ref (a 47) :: .ref (a 48) :: .ref (a 49) :: .ref (a 50) :: .ref (a 51) :: .int (b2 ke) :: .ref (a 53) :: .ref (a 54) :: .ref (a 55) :: .int (nI ((100000000, 0, ch).1)) :: .int (nI ((100000000, 0, ch).2.1)) :: []), aI (CxD X) 144 (nf my), aI (CxD X) 12 (opf ai), aZ (CxD X) 12 (zf tr_), aZ (CxD X) 12 (zf gv), aI (CxD X) 53248 (nf L), aI (CxD X) 12 (opf tl), aI (CxD X) 12 (opf ch)] 16 [(0, .ref mo), (1, .int (nI (mAbl my fm k))), (2, .int (nI k))] [] := by
  intro m
  induction m with
  | zero =>
    intro k hk
    refine r_iload_n (n := 17) hX dX11_search_16 rfl rfl 2 rfl ?_
    refine r_bipush (n := 19) hX 12 dX11_search_17 rfl rfl ?_
    refine r_aload_n (n := 20) hX dX11_search_19 rfl rfl 0 rfl ?_
    refine r_get (n := 23) hX 0 rfl rfl rfl 15 (by decide) lay_X11 fl_X11_251 rfl dX11_search_20 rfl ?_
    refine r_imul (n := 24) hX dX11_search_23 rfl ?_
    refine Aw.topi (nI (12 * fm)) (pk_mul _ _) ?_
    refine r_icmp_ge_n (tgt := 69) (n := 27) hX k (12 * fm) (by omega) (by omega) dX11_search_24 (by decide) rfl (fun c24 => ?_) (fun c24 => absurd c24 (by omega))
    refine r_iconst (n := 70) hX 0 dX11_search_69 rfl rfl ?_
    refine r_istore_n (n := 71) hX [(0, .ref mo), (1, .int (nI (mAbl my fm k))), (2, .int 0)] dX11_search_70 rfl rfl (by decide) rfl ?_
    obtain rfl : k = 12 * fm := by omega
    exact lp_search2 hX mo a tn tr fm fn mv bg en tk op wn jn fk fp ck te yn rc kd mk le hp ir ke my ai tr_ gv ch hf hmy hai hch hp2 hR (2 ^ fm) 0 (100000000, 0, ch) L tl (by omega) ⟨Nat.le_refl _, Nat.zero_le _, hch⟩ hL htl rfl
  | succ m ih =>
    intro k hk
    refine r_iload_n (n := 17) hX dX11_search_16 rfl rfl 2 rfl ?_
    refine r_bipush (n := 19) hX 12 dX11_search_17 rfl rfl ?_
    refine r_aload_n (n := 20) hX dX11_search_19 rfl rfl 0 rfl ?_
    refine r_get (n := 23) hX 0 rfl rfl rfl 15 (by decide) lay_X11 fl_X11_251 rfl dX11_search_20 rfl ?_
    refine r_imul (n := 24) hX dX11_search_23 rfl ?_
    refine Aw.topi (nI (12 * fm)) (pk_mul _ _) ?_
    refine r_icmp_ge_n (tgt := 69) (n := 27) hX k (12 * fm) (by omega) (by omega) dX11_search_24 (by decide) rfl (fun c24 => absurd c24 (by omega)) (fun c24 => ?_)
    refine r_iload_n (n := 28) hX dX11_search_27 rfl rfl 2 rfl ?_
    refine r_bipush (n := 30) hX 12 dX11_search_28 rfl rfl ?_
    refine r_irem (n := 31) hX dX11_search_30 rfl (by decide) ?_
    refine Aw.topi (nI (k % 12)) (pk_rem (a := k) (d := 12) (by omega) (by decide) (by decide)) ?_
    refine r_aload_n (n := 32) hX dX11_search_31 rfl rfl 0 rfl ?_
    refine r_get (n := 35) hX 0 rfl rfl rfl 15 (by decide) lay_X11 fl_X11_251 rfl dX11_search_32 rfl ?_
    refine r_icmp_ge_n (tgt := 61) (n := 38) hX (k % 12) fm (by omega) (by omega) dX11_search_35 (by decide) rfl (fun c35 => ?_) (fun c35 => ?_)
    · skip
      refine r_iload_n (n := 62) hX dX11_search_61 rfl rfl 1 rfl ?_
      refine r_istore_n (n := 63) hX [(0, .ref mo), (1, .int (nI (mAbl my fm k))), (2, .int (nI k))] dX11_search_62 rfl rfl (by decide) rfl ?_
      refine r_iinc (n := 66) hX (nI (k + 1)) [(0, .ref mo), (1, .int (nI (mAbl my fm k))), (2, .int (nI (k + 1)))] dX11_search_63 rfl 2 rfl (nI_add _ _) (by decide) rfl ?_
      refine r_goto (tgt := 16) hX dX11_search_66 (by decide) ?_
      refine Aw.eqs (lv' := [(0, .ref mo), (1, .int (nI (mAbl my fm (k + 1)))), (2, .int (nI (k + 1)))]) rfl (by rw [mAbl, if_neg (Nat.not_lt.mpr c35)]) rfl ?_
      exact ih (k + 1) (by omega)
    · skip
      refine r_aload_n (n := 39) hX dX11_search_38 rfl rfl 0 rfl ?_
      refine r_get (n := 42) hX 0 rfl rfl rfl 48 (by decide) lay_X11 fl_X11_95 rfl dX11_search_39 rfl ?_
      refine r_iload_n (n := 43) hX dX11_search_42 rfl rfl 2 rfl ?_
      refine r_ialdNn (n := 44) (i := k) hX 1 rfl rfl (by omega) (by decide) dX11_search_43 rfl ?_
      refine r_ldcw (n := 47) hX dX11_search_44 rfl kc_X11_303 ?_
      refine r_icmp_ge_n (tgt := 61) (n := 50) hX (my k) 100000000 (by have := hmy k; omega) (by decide) dX11_search_47 (by decide) rfl (fun c47 => ?_) (fun c47 => ?_)
      · skip
        refine r_iload_n (n := 62) hX dX11_search_61 rfl rfl 1 rfl ?_
        refine r_istore_n (n := 63) hX [(0, .ref mo), (1, .int (nI (mAbl my fm k))), (2, .int (nI k))] dX11_search_62 rfl rfl (by decide) rfl ?_
        refine r_iinc (n := 66) hX (nI (k + 1)) [(0, .ref mo), (1, .int (nI (mAbl my fm k))), (2, .int (nI (k + 1)))] dX11_search_63 rfl 2 rfl (nI_add _ _) (by decide) rfl ?_
        refine r_goto (tgt := 16) hX dX11_search_66 (by decide) ?_
        refine Aw.eqs (lv' := [(0, .ref mo), (1, .int (nI (mAbl my fm (k + 1)))), (2, .int (nI (k + 1)))]) rfl (by rw [mAbl, if_pos c35, if_neg (Nat.not_lt.mpr c47)]) rfl ?_
        exact ih (k + 1) (by omega)
      · skip
        refine r_iload_n (n := 51) hX dX11_search_50 rfl rfl 1 rfl ?_
        refine r_iconst (n := 52) hX 1 dX11_search_51 rfl rfl ?_
        refine r_iload_n (n := 53) hX dX11_search_52 rfl rfl 2 rfl ?_
        refine r_bipush (n := 55) hX 12 dX11_search_53 rfl rfl ?_
        refine r_irem (n := 56) hX dX11_search_55 rfl (by decide) ?_
        refine Aw.topi (nI (k % 12)) (pk_rem (a := k) (d := 12) (by omega) (by decide) (by decide)) ?_
        refine r_ishl (n := 57) hX dX11_search_56 rfl ?_
        refine Aw.topi (nI (2 ^ (k % 12))) (nb_shl (by omega)) ?_
        refine r_ior (n := 58) hX dX11_search_57 rfl ?_
        refine Aw.topi (nI (mAbl my fm k ||| 2 ^ (k % 12))) (nb_or _ _) ?_
        refine r_goto (tgt := 62) hX dX11_search_58 (by decide) ?_
        refine r_istore_n (n := 63) hX [(0, .ref mo), (1, .int (nI (mAbl my fm k ||| 2 ^ (k % 12)))), (2, .int (nI k))] dX11_search_62 rfl rfl (by decide) rfl ?_
        refine r_iinc (n := 66) hX (nI (k + 1)) [(0, .ref mo), (1, .int (nI (mAbl my fm k ||| 2 ^ (k % 12)))), (2, .int (nI (k + 1)))] dX11_search_63 rfl 2 rfl (nI_add _ _) (by decide) rfl ?_
        refine r_goto (tgt := 16) hX dX11_search_66 (by decide) ?_
        refine Aw.eqs (lv' := [(0, .ref mo), (1, .int (nI (mAbl my fm (k + 1)))), (2, .int (nI (k + 1)))]) rfl (by rw [mAbl, if_pos c35, if_pos c47]) rfl ?_
        exact ih (k + 1) (by omega)
set_option maxHeartbeats 1000000 in
set_option maxRecDepth 100000 in
theorem wk_X11_search {X : Cx} (hX : Ok X cX11_search 8 RX11 3) (mo : Nat) (a : Nat → Nat) (tn tr fm fn mv bg en tk op wn jn cq cm : Nat) (fk fp ck te yn rc kd mk : Int32) (le : Int64) (hp ir ke : Bool) (my : Nat → Nat) (ai : Nat → Option Nat) (tr_ gv : Nat → Bool) (ch : Nat → Option Nat) (L : Nat → Nat) (tl : Nat → Option Nat) (hf : fm ≤ 12) (hmy : myOk my) (hai : obd ai) (hch : obd ch) (hL : lsOk L) (htl : obd tl) (hR : Rt X (none) (fun r es' => r = none ∧ ∃ (L : Nat → Nat) (tl : Nat → Option Nat), es' = [ob 11 (.ref (a 0) :: .int (nI tn) :: .int fk :: .int fp :: .ref (a 4) :: .ref (a 5) :: .ref (a 6) :: .ref (a 7) :: .ref (a 8) :: .ref (a 9) :: .ref (a 10) :: .ref (a 11) :: .ref (a 12) :: .ref (a 13) :: .int (nI tr) :: .int (nI fm) :: .int ck :: .int te :: .int (nI fn) :: .ref (a 19) :: .ref (a 20) :: .ref (a 21) :: .ref (a 22) :: .ref (a 23) :: .ref (a 24) :: .ref (a 25) :: .ref (a 26) :: .ref (a 27) :: .int (b2 hp) :: .int yn :: .int (b2 ir) :: .ref (a 31) :: .int rc :: .ref (a 33) :: .int (nI mv) :: .int kd :: .int (nI bg) :: .int (nI en) :: .int mk :: .long le :: .int (nI tk) :: .int (nI op) :: .ref (a 42) :: .int (nI wn) :: .ref (a 44) :: .int (nI jn) :: .ref (a 46) :: .ref (a 47) :: .ref (a 48) :: .ref (a 49) :: .ref (a 50) :: .ref (a 51) :: .int (b2 ke) :: .ref (a 53) :: .ref (a 54) :: .ref (a 55) :: .int (nI ((mSearch my ke ai tr_ gv fm ch).1)) :: .int (nI ((mSearch my ke ai tr_ gv fm ch).2.1)) :: []), aI (CxD X) 144 (nf my), aI (CxD X) 12 (opf ai), aZ (CxD X) 12 (zf tr_), aZ (CxD X) 12 (zf gv), aI (CxD X) 53248 (nf L), aI (CxD X) 12 (opf tl), aI (CxD X) 12 (opf ((mSearch my ke ai tr_ gv fm ch).2.2))] ∧ lsOk L ∧ obd tl) [mo, a 48, a 51, a 49, a 50, a 53, a 54, a 55]) : Aw X [mo, a 48, a 51, a 49, a 50, a 53, a 54, a 55] [ob 11 (.ref (a 0) :: .int (nI tn) :: .int fk :: .int fp :: .ref (a 4) :: .ref (a 5) :: .ref (a 6) :: .ref (a 7) :: .ref (a 8) :: .ref (a 9) :: .ref (a 10) :: .ref (a 11) :: .ref (a 12) :: .ref (a 13) :: .int (nI tr) :: .int (nI fm) :: .int ck :: .int te :: .int (nI fn) :: .ref (a 19) :: .ref (a 20) :: .ref (a 21) :: .ref (a 22) :: .ref (a 23) :: .ref (a 24) :: .ref (a 25) :: .ref (a 26) :: .ref (a 27) :: .int (b2 hp) :: .int yn :: .int (b2 ir) :: .ref (a 31) :: .int rc :: .ref (a 33) :: .int (nI mv) :: .int kd :: .int (nI bg) :: .int (nI en) :: .int mk :: .long le :: .int (nI tk) :: .int (nI op) :: .ref (a 42) :: .int (nI wn) :: .ref (a 44) :: .int (nI jn) :: .ref (a 46) :: .ref (a 47) :: .ref (a 48) :: .ref (a 49) :: .ref (a 50) :: .ref (a 51) :: .int (b2 ke) :: .ref (a 53) :: .ref (a 54) :: .ref (a 55) :: .int (nI cq) :: .int (nI cm) :: []), aI (CxD X) 144 (nf my), aI (CxD X) 12 (opf ai), aZ (CxD X) 12 (zf tr_), aZ (CxD X) 12 (zf gv), aI (CxD X) 53248 (nf L), aI (CxD X) 12 (opf tl), aI (CxD X) 12 (opf ch)] 0 [(0, .ref mo)] [] := by
  refine r_aload_n (n := 1) hX dX11_search_0 rfl rfl 0 rfl ?_
  refine r_ldcw (n := 4) hX dX11_search_1 rfl kc_X11_303 ?_
  refine r_put (n := 7) hX 0 rfl rfl rfl 56 [ob 11 (.ref (a 0) :: .int (nI tn) :: .int fk :: .int fp :: .ref (a 4) :: .ref (a 5) :: .ref (a 6) :: .ref (a 7) :: .ref (a 8) :: .ref (a 9) :: .ref (a 10) :: .ref (a 11) :: .ref (a 12) :: .ref (a 13) :: .int (nI tr) :: .int (nI fm) :: .int ck :: .int te :: .int (nI fn) :: .ref (a 19) :: .ref (a 20) :: .ref (a 21) :: .ref (a 22) :: .ref (a 23) :: .ref (a 24) :: .ref (a 25) :: .ref (a 26) :: .ref (a 27) :: .int (b2 hp) :: .int yn :: .int (b2 ir) :: .ref (a 31) :: .int rc :: .ref (a 33) :: .int (nI mv) :: .int kd :: .int (nI bg) :: .int (nI en) :: .int mk :: .long le :: .int (nI tk) :: .int (nI op) :: .ref (a 42) :: .int (nI wn) :: .ref (a 44) :: .int (nI jn) :: .ref (a 46) :: .ref (a 47) :: .ref (a 48) :: .ref (a 49) :: .ref (a 50) :: .ref (a 51) :: .int (b2 ke) :: .ref (a 53) :: .ref (a 54) :: .ref (a 55) :: .int 100000000 :: .int (nI cm) :: []), aI (CxD X) 144 (nf my), aI (CxD X) 12 (opf ai), aZ (CxD X) 12 (zf tr_), aZ (CxD X) 12 (zf gv), aI (CxD X) 53248 (nf L), aI (CxD X) 12 (opf tl), aI (CxD X) 12 (opf ch)] (by decide) lay_X11 tyX11 tyX11_ok nmX11 fl_X11_325 rfl rfl rfl (Nat.le_of_ble_eq_true rfl) rfl dX11_search_4 rfl ?_
  refine r_aload_n (n := 8) hX dX11_search_7 rfl rfl 0 rfl ?_
  refine r_iconst (n := 9) hX 0 dX11_search_8 rfl rfl ?_
  refine r_put (n := 12) hX 0 rfl rfl rfl 57 [ob 11 (.ref (a 0) :: .int (nI tn) :: .int fk :: .int fp :: .ref (a 4) :: .ref (a 5) :: .ref (a 6) :: .ref (a 7) :: .ref (a 8) :: .ref (a 9) :: .ref (a 10) :: .ref (a 11) :: .ref (a 12) :: .ref (a 13) :: .int (nI tr) :: .int (nI fm) :: .int ck :: .int te :: .int (nI fn) :: .ref (a 19) :: .ref (a 20) :: .ref (a 21) :: .ref (a 22) :: .ref (a 23) :: .ref (a 24) :: .ref (a 25) :: .ref (a 26) :: .ref (a 27) :: .int (b2 hp) :: .int yn :: .int (b2 ir) :: .ref (a 31) :: .int rc :: .ref (a 33) :: .int (nI mv) :: .int kd :: .int (nI bg) :: .int (nI en) :: .int mk :: .long le :: .int (nI tk) :: .int (nI op) :: .ref (a 42) :: .int (nI wn) :: .ref (a 44) :: .int (nI jn) :: .ref (a 46) :: .ref (a 47) :: .ref (a 48) :: .ref (a 49) :: .ref (a 50) :: .ref (a 51) :: .int (b2 ke) :: .ref (a 53) :: .ref (a 54) :: .ref (a 55) :: .int 100000000 :: .int 0 :: []), aI (CxD X) 144 (nf my), aI (CxD X) 12 (opf ai), aZ (CxD X) 12 (zf tr_), aZ (CxD X) 12 (zf gv), aI (CxD X) 53248 (nf L), aI (CxD X) 12 (opf tl), aI (CxD X) 12 (opf ch)] (by decide) lay_X11 tyX11 tyX11_ok nmX11 fl_X11_328 rfl rfl rfl (Nat.le_of_ble_eq_true rfl) rfl dX11_search_9 rfl ?_
  refine r_iconst (n := 13) hX 0 dX11_search_12 rfl rfl ?_
  refine r_istore_n (n := 14) hX [(0, .ref mo), (1, .int 0)] dX11_search_13 rfl rfl (by decide) rfl ?_
  refine r_iconst (n := 15) hX 0 dX11_search_14 rfl rfl ?_
  refine r_istore_n (n := 16) hX [(0, .ref mo), (1, .int 0), (2, .int 0)] dX11_search_15 rfl rfl (by decide) rfl ?_
  have hp2 : 2 ^ fm ≤ 4096 := Nat.pow_le_pow_right (n := 2) (by decide) hf
  exact lp_search1 hX mo a tn tr fm fn mv bg en tk op wn jn fk fp ck te yn rc kd mk le hp ir ke my ai tr_ gv ch hf hmy hai hch L tl hL htl hp2 hR (12 * fm) 0 (by omega)
theorem ct_X11_search (l : Launch) (D : va_G) (mo : Nat) (a : Nat → Nat) (tn tr fm fn mv bg en tk op wn jn cq cm : Nat) (fk fp ck te yn rc kd mk : Int32) (le : Int64) (hp ir ke : Bool) (my : Nat → Nat) (ai : Nat → Option Nat) (tr_ gv : Nat → Bool) (ch : Nat → Option Nat) (L : Nat → Nat) (tl : Nat → Option Nat) (hf : fm ≤ 12) (hmy : myOk my) (hai : obd ai) (hch : obd ch) (hL : lsOk L) (htl : obd tl) : Ct l D m_X11_search 3 [.ref mo] [mo, a 48, a 51, a 49, a 50, a 53, a 54, a 55] [ob 11 (.ref (a 0) :: .int (nI tn) :: .int fk :: .int fp :: .ref (a 4) :: .ref (a 5) :: .ref (a 6) :: .ref (a 7) :: .ref (a 8) :: .ref (a 9) :: .ref (a 10) :: .ref (a 11) :: .ref (a 12) :: .ref (a 13) :: .int (nI tr) :: .int (nI fm) :: .int ck :: .int te :: .int (nI fn) :: .ref (a 19) :: .ref (a 20) :: .ref (a 21) :: .ref (a 22) :: .ref (a 23) :: .ref (a 24) :: .ref (a 25) :: .ref (a 26) :: .ref (a 27) :: .int (b2 hp) :: .int yn :: .int (b2 ir) :: .ref (a 31) :: .int rc :: .ref (a 33) :: .int (nI mv) :: .int kd :: .int (nI bg) :: .int (nI en) :: .int mk :: .long le :: .int (nI tk) :: .int (nI op) :: .ref (a 42) :: .int (nI wn) :: .ref (a 44) :: .int (nI jn) :: .ref (a 46) :: .ref (a 47) :: .ref (a 48) :: .ref (a 49) :: .ref (a 50) :: .ref (a 51) :: .int (b2 ke) :: .ref (a 53) :: .ref (a 54) :: .ref (a 55) :: .int (nI cq) :: .int (nI cm) :: []), aI D 144 (nf my), aI D 12 (opf ai), aZ D 12 (zf tr_), aZ D 12 (zf gv), aI D 53248 (nf L), aI D 12 (opf tl), aI D 12 (opf ch)] (fun r es' => r = none ∧ ∃ (L : Nat → Nat) (tl : Nat → Option Nat), es' = [ob 11 (.ref (a 0) :: .int (nI tn) :: .int fk :: .int fp :: .ref (a 4) :: .ref (a 5) :: .ref (a 6) :: .ref (a 7) :: .ref (a 8) :: .ref (a 9) :: .ref (a 10) :: .ref (a 11) :: .ref (a 12) :: .ref (a 13) :: .int (nI tr) :: .int (nI fm) :: .int ck :: .int te :: .int (nI fn) :: .ref (a 19) :: .ref (a 20) :: .ref (a 21) :: .ref (a 22) :: .ref (a 23) :: .ref (a 24) :: .ref (a 25) :: .ref (a 26) :: .ref (a 27) :: .int (b2 hp) :: .int yn :: .int (b2 ir) :: .ref (a 31) :: .int rc :: .ref (a 33) :: .int (nI mv) :: .int kd :: .int (nI bg) :: .int (nI en) :: .int mk :: .long le :: .int (nI tk) :: .int (nI op) :: .ref (a 42) :: .int (nI wn) :: .ref (a 44) :: .int (nI jn) :: .ref (a 46) :: .ref (a 47) :: .ref (a 48) :: .ref (a 49) :: .ref (a 50) :: .ref (a 51) :: .int (b2 ke) :: .ref (a 53) :: .ref (a 54) :: .ref (a 55) :: .int (nI ((mSearch my ke ai tr_ gv fm ch).1)) :: .int (nI ((mSearch my ke ai tr_ gv fm ch).2.1)) :: []), aI D 144 (nf my), aI D 12 (opf ai), aZ D 12 (zf tr_), aZ D 12 (zf gv), aI D 53248 (nf L), aI D 12 (opf tl), aI D 12 (opf ((mSearch my ke ai tr_ gv fm ch).2.2))] ∧ lsOk L ∧ obd tl) :=
  Ct.ofA (own := RX11) (by decide) rfl (Nat.le_of_ble_eq_true rfl) rfl (fun X hl hD hX hR => by subst hl; subst hD; exact wk_X11_search hX mo a tn tr fm fn mv bg en tk op wn jn cq cm fk fp ck te yn rc kd mk le hp ir ke my ai tr_ gv ch L tl hf hmy hai hch hL htl hR)
