
/-! subsets -/
theorem sub_tb {j s i : Nat} (h : j &&& s = j) (hi : j.testBit i = true) : s.testBit i = true := by
  have e := congrArg (fun x => x.testBit i) h
  simp only [Nat.testBit_and, hi, Bool.true_and] at e
  exact e
theorem sub_of {j s : Nat} (h : ∀ i, j.testBit i = true → s.testBit i = true) : j &&& s = j := by
  apply Nat.eq_of_testBit_eq
  intro i
  rw [Nat.testBit_and]
  cases e : j.testBit i with
  | false => rfl
  | true => rw [h i e]; rfl
theorem tb_set (n j i : Nat) : (n ||| 2 ^ j).testBit i = (n.testBit i || decide (i = j)) := by
  rw [Nat.testBit_or]
  by_cases h : j = i
  · subst h; simp
  · have h2 : ¬ i = j := fun e => h e.symm
    first | (simp [Nat.testBit_two_pow, h, h2]; done) | (simp [Nat.testBit_two_pow_of_ne h, h2]; done)
theorem sub_or {j s h : Nat} (hj : j &&& s = j) (hs : s.testBit h = true) : (j ||| 2 ^ h) &&& s = j ||| 2 ^ h := sub_of (fun i hi => by
  rw [tb_set] at hi
  by_cases e : i = h
  · rw [e]; exact hs
  · simp only [e, decide_false, Bool.or_false] at hi
    exact sub_tb hj hi)
theorem sub_le {j s : Nat} (h : j &&& s = j) : j ≤ s := by
  rw [← h]; exact Nat.and_le_right
theorem and2 (x y : Nat) : x &&& y = 2 * (x / 2 &&& y / 2) + (x % 2) * (y % 2) := by
  have h1 : (x &&& y) / 2 = x / 2 &&& y / 2 := Nat.and_div_two
  have h2 : (x &&& y) % 2 = (x % 2) * (y % 2) := by
    have e := Nat.and_mod_two_pow (a := x) (b := y) (n := 1)
    simp only [Nat.pow_one] at e
    rw [e]
    rcases Nat.mod_two_eq_zero_or_one x with hx | hx <;> rcases Nat.mod_two_eq_zero_or_one y with hy | hy <;> rw [hx, hy] <;> rfl
  have h3 := Nat.div_add_mod (x &&& y) 2
  rw [h1, h2] at h3
  exact h3.symm
/-- the next lower subset: all that are lower than part are not above it -/
theorem nxt_le : ∀ (m part s j : Nat), part < m → part &&& s = part → j &&& s = j → j < part → j ≤ (part - 1) &&& s
  | 0, part, s, j, hm, _, _, _ => by omega
  | m + 1, part, s, j, hm, hp, hj, hlt => by
    have p2 := and2 part s
    have j2 := and2 j s
    have r2 := and2 (part - 1) s
    rw [hp] at p2
    rw [hj] at j2
    have ps : part / 2 &&& s / 2 = part / 2 := by rw [← Nat.and_div_two, hp]
    have js : j / 2 &&& s / 2 = j / 2 := by rw [← Nat.and_div_two, hj]
    rw [r2]
    rcases Nat.mod_two_eq_zero_or_one part with h0 | h1
    · have e1 : (part - 1) / 2 = part / 2 - 1 := by omega
      have e2 : (part - 1) % 2 = 1 := by omega
      have ih := nxt_le m (part / 2) (s / 2) (j / 2) (by omega) ps js (by omega)
      rw [e1, e2, Nat.one_mul]
      have hb : j % 2 ≤ s % 2 := by
        rw [js] at j2
        rcases Nat.mod_two_eq_zero_or_one j with q | q
        · omega
        · rw [q, Nat.one_mul] at j2; omega
      omega
    · have e1 : (part - 1) / 2 = part / 2 := by omega
      have e2 : (part - 1) % 2 = 0 := by omega
      rw [e1, e2, Nat.zero_mul, ps]
      omega
theorem and_sub (x s : Nat) : (x &&& s) &&& s = x &&& s := by rw [Nat.and_assoc, Nat.and_self]
theorem nb_sub {s t : Nat} (hs : s < 2 ^ 31) : nI s &&& (nI t ^^^ -1) = 0 ↔ s &&& t = s := by
  have e1 : (nI s &&& (nI t ^^^ -1)).toBitVec = BitVec.ofNat 32 s &&& (BitVec.ofNat 32 t ^^^ BitVec.allOnes 32) := rfl
  constructor
  · intro h
    apply sub_of
    intro i hi
    have hi32 : i < 32 := by
      apply Nat.lt_of_not_le
      intro hle
      have := Nat.testBit_lt_two_pow (x := s) (i := i) (Nat.lt_of_lt_of_le hs (Nat.pow_le_pow_right (by decide) (by omega)))
      rw [this] at hi; cases hi
    have e2 := congrArg Int32.toBitVec h
    rw [e1] at e2
    have e3 := congrArg (fun b => b.getLsbD i) e2
    simp only [BitVec.getLsbD_and, BitVec.getLsbD_xor, BitVec.getLsbD_ofNat, hi32, decide_true, Bool.true_and, BitVec.getLsbD_allOnes, hi] at e3
    have e4 : (0 : Int32).toBitVec.getLsbD i = false := by
      show (0#32).getLsbD i = false
      simp
    rw [e4] at e3
    cases q : t.testBit i with
    | true => rfl
    | false => rw [q] at e3; cases e3
  · intro h
    apply Int32.toBitVec_inj.1
    rw [e1]
    apply BitVec.eq_of_getLsbD_eq
    intro i hi
    show _ = (0#32).getLsbD i
    simp only [BitVec.getLsbD_and, BitVec.getLsbD_xor, BitVec.getLsbD_ofNat, hi, decide_true, Bool.true_and, BitVec.getLsbD_allOnes, BitVec.getLsbD_zero, Nat.zero_testBit]
    cases q : s.testBit i with
    | false => rfl
    | true => rw [sub_tb h q]; rfl
/-! what is left to count, behind p, with part of the homes of s taken -/
def mV (my : Nat → Nat) (ke : Bool) (ai : Nat → Option Nat) (tr gv : Nat → Bool) (n s : Nat) : Nat → Nat → Nat
  | 0, j => if j = s then 0 else 100000000
  | d + 1, j => mBe my ke ai tr gv n (mV my ke ai tr gv n s d) (n - (d + 1)) j s
theorem mB1_congr {my : Nat → Nat} {ke : Bool} {ai : Nat → Option Nat} {F G : Nat → Nat} {p part s : Nat} (hFG : ∀ j, j &&& s = j → F j = G j) (hp : part &&& s = part) : ∀ (m h b : Nat), mB1 my ke ai F p part s m h b = mB1 my ke ai G p part s m h b
  | 0, _, _ => rfl
  | m + 1, h, b => by
    unfold mB1
    rw [mB1_congr hFG hp m (h + 1)]
    congr 1
    cases e : s.testBit h with
    | false => rfl
    | true => rw [if_pos rfl, if_pos rfl, hFG _ (sub_or hp e)]
theorem mBe_congr {my : Nat → Nat} {ke : Bool} {ai : Nat → Option Nat} {tr gv : Nat → Bool} {n : Nat} {F G : Nat → Nat} {p part s : Nat} (hFG : ∀ j, j &&& s = j → F j = G j) (hp : part &&& s = part) : mBe my ke ai tr gv n F p part s = mBe my ke ai tr gv n G p part s := by
  unfold mBe
  rw [mB1_congr hFG hp, hFG part hp]
theorem mV_le {my : Nat → Nat} {ke : Bool} {ai : Nat → Option Nat} {tr gv : Nat → Bool} {n s d j : Nat} : mV my ke ai tr gv n s d j ≤ 200000000 := by
  cases d with
  | zero => unfold mV; split <;> omega
  | succ d => unfold mV; exact mBe_le
theorem lsOk.up {L : Nat → Nat} (h : lsOk L) {i v : Nat} (hv : v ≤ 200000000) : lsOk (va_up L i v) := fun k => by
  by_cases e : k = i
  · rw [e, va_up_self]; exact hv
  · rw [va_up_ne _ _ e]; exact h k

set_option maxHeartbeats 1000000 in
set_option maxRecDepth 100000 in
theorem lp_fill2 {X : Cx} (hX : Ok X cX11_fill 5 RX11 2) (mo : Nat) (a : Nat → Nat) (tn tr fm fn mv bg en tk op wn jn cq cm : Nat) (fk fp ck te yn rc kd mk : Int32) (le : Int64) (hp ir ke : Bool) (my : Nat → Nat) (ai : Nat → Option Nat) (tr_ gv : Nat → Bool) (s : Nat) (hf : fm ≤ 12) (hmy : myOk my) (hai : obd ai) (hs : s < 4096) (p : Nat) (hpf : p ≤ fm) (hR : Rt X (none) (fun r es' => r = none ∧ ∃ L : Nat → Nat, es' = [ob 11 (.ref (a 0) :: .int (nI tn) :: .int fk :: .int fp :: .ref (a 4) :: .ref (a 5) :: .ref (a 6) :: .ref (a 7) :: .ref (a 8) :: .ref (a 9) :: .ref (a 10) :: .ref (a 11) :: .ref (a 12) :: .ref (a 13) :: .int (nI tr) :: .int (nI fm) :: .int ck :: .int te :: .int (nI fn) :: .ref (a 19) :: .ref (a 20) :: .ref (a 21) :: .ref (a 22) :: .ref (a 23) :: .ref (a 24) :: .ref (a 25) :: .ref (a 26) :: .ref (a 27) :: .int (b2 hp) :: .int yn :: .int (b2 ir) :: .ref (a 31) :: .int rc :: .ref (a 33) :: .int (nI mv) :: .int kd :: .int (nI bg) :: .int (nI en) :: .int mk :: .long le :: .int (nI tk) :: .int (nI op) :: .ref (a 42) :: .int (nI wn) :: .ref (a 44) :: .int (nI jn) :: .ref (a 46) :: .ref (a 47) :: .ref (a 48) :: .ref (a 49) :: .ref (a 50) :: .ref (a 51) :: .int (b2 ke) :: .ref (a 53) :: .ref (a 54) :: .ref (a 55) :: .int (nI cq) :: .int (nI cm) :: []), aI (CxD X) 144 (nf my), aI (CxD X) 12 (opf ai), aZ (CxD X) 12 (zf tr_), aZ (CxD X) 12 (zf gv), aI (CxD X) 53248 (nf L)] ∧ lsOk L ∧ ∀ q, q ≤ fm → ∀ j, j &&& s = j → L (4096 * q + j) = mV my ke ai tr_ gv fm s (fm - q) j) [mo, a 48, a 51, a 49, a 50, a 53]) : ∀ (m part : Nat) (L : Nat → Nat), part < m → part &&& s = part → lsOk L → (∀ q, p < q → q ≤ fm → ∀ j, j &&& s = j → L (4096 * q + j) = mV my ke ai tr_ gv fm s (fm - q) j) → (∀ j, j &&& s = j → part < j → L (4096 * p + j) = mV my ke ai tr_ gv fm s (fm - p) j) → (∀ L : Nat → Nat, lsOk L → (∀ q, p ≤ q → q ≤ fm → ∀ j, j &&& s = j → L (4096 * q + j) = mV my ke ai tr_ gv fm s (fm - q) j) → Aw X [mo, a 48, a 51, a 49, a 50, a 53] [ob 11 (.ref (a 0) :: .int (nI tn) :: .int fk :: .int fp :: .ref (a 4) :: .ref (a 5) :: .ref (a 6) :: .ref (a 7) :: .ref (a 8) :: .ref (a 9) :: .ref (a 10) :: .ref (a 11) :: .ref (a 12) :: .ref (a 13) :: .int (nI tr) :: .int (nI fm) :: .int ck :: .int te :: .int (nI fn) :: .ref (a 19) :: .ref (a 20) :: .ref (a 21) :: .ref (a 22) :: .ref (a 23) :: .ref (a 24) :: .ref (a 25) :: .ref (a 26) :: .ref (a 27) :: .int (b2 hp) :: .int yn :: .int (b2 ir) :: .ref (a 31) :: .int rc :: .ref (a 33) :: .int (nI mv) :: .int kd :: .int (nI bg) :: .int (nI en) :: .int mk :: .long le :: .int (nI tk) :: .int (nI op) :: .ref (a 42) :: .int (nI wn) :: .ref (a 44) :: .int (nI jn) :: .ref (a 46) :: .ref (a 47) :: .ref (a 48) :: .ref (a 49) :: .ref (a 50) :: .ref (a 51) :: .int (b2 ke) :: .ref (a 53) :: .ref (a 54) :: .ref (a 55) :: .int (nI cq) :: .int (nI cm) :: []), aI (CxD X) 144 (nf my), aI (CxD X) 12 (opf ai), aZ (CxD X) 12 (zf tr_), aZ (CxD X) 12 (zf gv), aI (CxD X) 53248 (nf L)] 81 [(0, .ref mo), (1, .int (nI s)), (2, .int (nI p))] []) → Aw X [mo, a 48, a 51, a 49, a 50, a 53] [ob 11 (.ref (a 0) :: .int (nI tn) :: .int fk :: .int fp :: .ref (a 4) :: .ref (a 5) :: .ref (a 6) :: .ref (a 7) :: .ref (a 8) :: .ref (a 9) :: .ref (a 10) :: .ref (a 11) :: .ref (a 12) :: .ref (a 13) :: .int (nI tr) :: .int (nI fm) :: .int ck :: .int te :: .int (nI fn) :: .ref (a 19) :: .ref (a 20) :: .ref (a 21) :: .ref (a 22) :: .ref (a 23) :: .ref (a 24) :: .ref (a 25) :: .ref (a 26) :: .ref (a 27) :: .int (b2 hp) :: .int yn :: .int (b2 ir) :: .ref (a 31) :: .int rc :: .ref (a 33) :: .int (nI mv) :: .int kd :: .int (nI bg) :: .int (nI en) :: .int mk :: .long le :: .int (nI tk) :: .int (nI op) :: .ref (a 42) :: .int (nI wn) :: .ref (a 44) :: .int (nI jn) :: .ref (a 46) :: .ref (a 47) :: .ref (a 48) :: .ref (a 49) :: .ref (a 50) :: .ref (a 51) :: .int (b2 ke) :: .ref (a 53) :: .ref (a 54) :: .ref (a 55) :: .int (nI cq) :: .int (nI cm) :: []), aI (CxD X) 144 (nf my), aI (CxD X) 12 (opf ai), aZ (CxD X) 12 (zf tr_), aZ (CxD X) 12 (zf gv), aI (CxD X) 53248 (nf L)] 14 [(0, .ref mo), (1, .int (nI s)), (2, .int (nI p)), (3, .int (nI part)), (4, .int 1)] [] := by
  intro m
  induction m with
  | zero => intro part L h; omega
  | succ m ih =>
    intro part L hm hsub hL hq hg kk_
    have hps := sub_le hsub
    by_cases hz : 0 < part
    · skip
      refine r_iload (n := 16) hX dX11_fill_14 rfl 4 rfl ?_
      refine r_if_eq (tgt := 81) (n := 19) hX dX11_fill_16 (by decide) rfl (fun h => False.elim (by revert h; decide)) (fun _ => ?_)
      refine r_aload_n (n := 20) hX dX11_fill_19 rfl rfl 0 rfl ?_
      refine r_get (n := 23) hX 0 rfl rfl rfl 53 (by decide) lay_X11 fl_X11_108 rfl dX11_fill_20 rfl ?_
      refine r_sipush (n := 26) hX 4096 dX11_fill_23 rfl rfl ?_
      refine r_iload_n (n := 27) hX dX11_fill_26 rfl rfl 2 rfl ?_
      refine r_imul (n := 28) hX dX11_fill_27 rfl ?_
      refine Aw.topi (nI (4096 * p)) (pk_mul _ _) ?_
      refine r_iload_n (n := 29) hX dX11_fill_28 rfl rfl 3 rfl ?_
      refine r_iadd (n := 30) hX dX11_fill_29 rfl ?_
      refine Aw.topi (nI ((4096 * p) + part)) (nI_add _ _) ?_
      refine r_iload_n (n := 31) hX dX11_fill_30 rfl rfl 2 rfl ?_
      refine r_aload_n (n := 32) hX dX11_fill_31 rfl rfl 0 rfl ?_
      refine r_get (n := 35) hX 0 rfl rfl rfl 15 (by decide) lay_X11 fl_X11_251 rfl dX11_fill_32 rfl ?_
      refine r_icmp_ne_n (tgt := 53) (n := 38) hX p fm (by omega) (by omega) dX11_fill_35 (by decide) rfl (fun c35 => ?_) (fun c35 => ?_)
      · skip
        refine r_aload_n (n := 54) hX dX11_fill_53 rfl rfl 0 rfl ?_
        refine r_iload_n (n := 55) hX dX11_fill_54 rfl rfl 2 rfl ?_
        refine r_iload_n (n := 56) hX dX11_fill_55 rfl rfl 3 rfl ?_
        refine r_iload_n (n := 57) hX dX11_fill_56 rfl rfl 1 rfl ?_
        refine r_callV (n := 60) (av := [.int (nI p), .int (nI part), .int (nI s)]) hX (ct_X11_best (CxL X) (CxD X) mo a tn tr fm fn mv bg en tk op wn jn cq cm fk fp ck te yn rc kd mk le hp ir ke my ai tr_ gv L p part s hf hmy hai hL (by omega) (by omega) hs) ml_X11_309 cv_X11_best rfl (by decide) [0, 1, 2, 3, 4, 5] rfl rfl (by decide) 0 rfl rfl rfl rfl rfl (Nat.le_of_ble_eq_true rfl) dX11_fill_57 rfl (fun r_ es_ h_ l_ => ?_)
        obtain ⟨rfl, rfl⟩ := h_
        show Aw X [mo, a 48, a 51, a 49, a 50, a 53] [ob 11 (.ref (a 0) :: .int (nI tn) :: .int fk :: .int fp :: .ref (a 4) :: .ref (a 5) :: .ref (a 6) :: .ref (a 7) :: .ref (a 8) :: .ref (a 9) :: .ref (a 10) :: .ref (a 11) :: .ref (a 12) :: .ref (a 13) :: .int (nI tr) :: .int (nI fm) :: .int ck :: .int te :: .int (nI fn) :: .ref (a 19) :: .ref (a 20) :: .ref (a 21) :: .ref (a 22) :: .ref (a 23) :: .ref (a 24) :: .ref (a 25) :: .ref (a 26) :: .ref (a 27) :: .int (b2 hp) :: .int yn :: .int (b2 ir) :: .ref (a 31) :: .int rc :: .ref (a 33) :: .int (nI mv) :: .int kd :: .int (nI bg) :: .int (nI en) :: .int mk :: .long le :: .int (nI tk) :: .int (nI op) :: .ref (a 42) :: .int (nI wn) :: .ref (a 44) :: .int (nI jn) :: .ref (a 46) :: .ref (a 47) :: .ref (a 48) :: .ref (a 49) :: .ref (a 50) :: .ref (a 51) :: .int (b2 ke) :: .ref (a 53) :: .ref (a 54) :: .ref (a 55) :: .int (nI cq) :: .int (nI cm) :: []), aI (CxD X) 144 (nf my), aI (CxD X) 12 (opf ai), aZ (CxD X) 12 (zf tr_), aZ (CxD X) 12 (zf gv), aI (CxD X) 53248 (nf L)] 60 [(0, .ref mo), (1, .int (nI s)), (2, .int (nI p)), (3, .int (nI part)), (4, .int 1)] [.int (nI (mBe my ke ai tr_ gv fm (fun j => L (4096 * (p + 1) + j)) p part s)), .int (nI ((4096 * p) + part)), .ref (a 53)]
        refine r_iastNn (n := 61) (i := ((4096 * p) + part)) hX 5 rfl rfl (mBe my ke ai tr_ gv fm (fun j => L (4096 * (p + 1) + j)) p part s) [ob 11 (.ref (a 0) :: .int (nI tn) :: .int fk :: .int fp :: .ref (a 4) :: .ref (a 5) :: .ref (a 6) :: .ref (a 7) :: .ref (a 8) :: .ref (a 9) :: .ref (a 10) :: .ref (a 11) :: .ref (a 12) :: .ref (a 13) :: .int (nI tr) :: .int (nI fm) :: .int ck :: .int te :: .int (nI fn) :: .ref (a 19) :: .ref (a 20) :: .ref (a 21) :: .ref (a 22) :: .ref (a 23) :: .ref (a 24) :: .ref (a 25) :: .ref (a 26) :: .ref (a 27) :: .int (b2 hp) :: .int yn :: .int (b2 ir) :: .ref (a 31) :: .int rc :: .ref (a 33) :: .int (nI mv) :: .int kd :: .int (nI bg) :: .int (nI en) :: .int mk :: .long le :: .int (nI tk) :: .int (nI op) :: .ref (a 42) :: .int (nI wn) :: .ref (a 44) :: .int (nI jn) :: .ref (a 46) :: .ref (a 47) :: .ref (a 48) :: .ref (a 49) :: .ref (a 50) :: .ref (a 51) :: .int (b2 ke) :: .ref (a 53) :: .ref (a 54) :: .ref (a 55) :: .int (nI cq) :: .int (nI cm) :: []), aI (CxD X) 144 (nf my), aI (CxD X) 12 (opf ai), aZ (CxD X) 12 (zf tr_), aZ (CxD X) 12 (zf gv), aI (CxD X) 53248 (nf (va_up L ((4096 * p) + part) (mBe my ke ai tr_ gv fm (fun j => L (4096 * (p + 1) + j)) p part s)))] (by omega) (by decide) rfl dX11_fill_60 rfl ?_
        refine r_iload_n (n := 62) hX dX11_fill_61 rfl rfl 3 rfl ?_
        refine r_if_le_n (tgt := 69) (n := 65) hX part (by omega) dX11_fill_62 (by decide) rfl (fun c62 => absurd c62 (by omega)) (fun c62 => ?_)
        refine r_iconst (n := 66) hX 1 dX11_fill_65 rfl rfl ?_
        refine r_goto (tgt := 70) hX dX11_fill_66 (by decide) ?_
        refine r_istore (n := 72) hX [(0, .ref mo), (1, .int (nI s)), (2, .int (nI p)), (3, .int (nI part)), (4, .int 1)] dX11_fill_70 rfl (by decide) rfl ?_
        refine r_iload_n (n := 73) hX dX11_fill_72 rfl rfl 3 rfl ?_
        refine r_iconst (n := 74) hX 1 dX11_fill_73 rfl rfl ?_
        refine r_isub (n := 75) hX dX11_fill_74 rfl ?_
        refine Aw.topi (nI (part - 1)) (pk_sub (a := part) (b := 1) (by omega)) ?_
        refine r_iload_n (n := 76) hX dX11_fill_75 rfl rfl 1 rfl ?_
        refine r_iand (n := 77) hX dX11_fill_76 rfl ?_
        refine Aw.topi (nI ((part - 1) &&& s)) (nb_and _ _) ?_
        refine r_istore_n (n := 78) hX [(0, .ref mo), (1, .int (nI s)), (2, .int (nI p)), (3, .int (nI ((part - 1) &&& s))), (4, .int 1)] dX11_fill_77 rfl rfl (by decide) rfl ?_
        refine r_goto (tgt := 14) hX dX11_fill_78 (by decide) ?_
        have hv : mBe my ke ai tr_ gv fm (fun j => L (4096 * (p + 1) + j)) p part s = mV my ke ai tr_ gv fm s (fm - p) part := by
          rw [show fm - p = (fm - (p + 1)) + 1 by omega]
          show _ = mBe my ke ai tr_ gv fm (mV my ke ai tr_ gv fm s (fm - (p + 1))) (fm - (fm - (p + 1) + 1)) part s
          rw [show fm - (fm - (p + 1) + 1) = p by omega]
          exact mBe_congr (fun j hj => hq (p + 1) (by omega) (by omega) j hj) hsub
        have hL1 : lsOk (va_up L ((4096 * p) + part) (mBe my ke ai tr_ gv fm (fun j => L (4096 * (p + 1) + j)) p part s)) := hL.up (by rw [hv]; exact mV_le)
        have hq1 : ∀ q, p < q → q ≤ fm → ∀ j, j &&& s = j → (va_up L ((4096 * p) + part) (mBe my ke ai tr_ gv fm (fun j => L (4096 * (p + 1) + j)) p part s)) (4096 * q + j) = mV my ke ai tr_ gv fm s (fm - q) j := fun q h1 h2 j hj => by
          have := sub_le hj
          rw [va_up_ne _ _ (by omega)]; exact hq q h1 h2 j hj
        have hg1 : ∀ j, j &&& s = j → part ≤ j → (va_up L ((4096 * p) + part) (mBe my ke ai tr_ gv fm (fun j => L (4096 * (p + 1) + j)) p part s)) (4096 * p + j) = mV my ke ai tr_ gv fm s (fm - p) j := fun j hj hle => by
          by_cases e : j = part
          · rw [e, va_up_self]; exact hv
          · rw [va_up_ne _ _ (by omega)]; exact hg j hj (by omega)
        have hlt : (part - 1) &&& s ≤ part - 1 := Nat.and_le_left
        exact ih _ _ (by omega) (and_sub _ _) hL1 hq1 (fun j hj hlt2 => hg1 j hj (by
          apply Nat.le_of_not_lt; intro h3
          exact absurd (nxt_le (part + 1) part s j (by omega) hsub hj h3) (by omega))) kk_
      · skip
        refine r_iload_n (n := 39) hX dX11_fill_38 rfl rfl 3 rfl ?_
        refine r_iload_n (n := 40) hX dX11_fill_39 rfl rfl 1 rfl ?_
        refine r_icmp_ne_n (tgt := 47) (n := 43) hX part s (by omega) (by omega) dX11_fill_40 (by decide) rfl (fun c40 => ?_) (fun c40 => ?_)
        · skip
          refine r_ldcw (n := 50) hX dX11_fill_47 rfl kc_X11_303 ?_
          refine r_goto (tgt := 60) hX dX11_fill_50 (by decide) ?_
          refine r_iastNn (n := 61) (i := ((4096 * p) + part)) hX 5 rfl rfl 100000000 [ob 11 (.ref (a 0) :: .int (nI tn) :: .int fk :: .int fp :: .ref (a 4) :: .ref (a 5) :: .ref (a 6) :: .ref (a 7) :: .ref (a 8) :: .ref (a 9) :: .ref (a 10) :: .ref (a 11) :: .ref (a 12) :: .ref (a 13) :: .int (nI tr) :: .int (nI fm) :: .int ck :: .int te :: .int (nI fn) :: .ref (a 19) :: .ref (a 20) :: .ref (a 21) :: .ref (a 22) :: .ref (a 23) :: .ref (a 24) :: .ref (a 25) :: .ref (a 26) :: .ref (a 27) :: .int (b2 hp) :: .int yn :: .int (b2 ir) :: .ref (a 31) :: .int rc :: .ref (a 33) :: .int (nI mv) :: .int kd :: .int (nI bg) :: .int (nI en) :: .int mk :: .long le :: .int (nI tk) :: .int (nI op) :: .ref (a 42) :: .int (nI wn) :: .ref (a 44) :: .int (nI jn) :: .ref (a 46) :: .ref (a 47) :: .ref (a 48) :: .ref (a 49) :: .ref (a 50) :: .ref (a 51) :: .int (b2 ke) :: .ref (a 53) :: .ref (a 54) :: .ref (a 55) :: .int (nI cq) :: .int (nI cm) :: []), aI (CxD X) 144 (nf my), aI (CxD X) 12 (opf ai), aZ (CxD X) 12 (zf tr_), aZ (CxD X) 12 (zf gv), aI (CxD X) 53248 (nf (va_up L ((4096 * p) + part) 100000000))] (by omega) (by decide) rfl dX11_fill_60 rfl ?_
          refine r_iload_n (n := 62) hX dX11_fill_61 rfl rfl 3 rfl ?_
          refine r_if_le_n (tgt := 69) (n := 65) hX part (by omega) dX11_fill_62 (by decide) rfl (fun c62 => absurd c62 (by omega)) (fun c62 => ?_)
          refine r_iconst (n := 66) hX 1 dX11_fill_65 rfl rfl ?_
          refine r_goto (tgt := 70) hX dX11_fill_66 (by decide) ?_
          refine r_istore (n := 72) hX [(0, .ref mo), (1, .int (nI s)), (2, .int (nI p)), (3, .int (nI part)), (4, .int 1)] dX11_fill_70 rfl (by decide) rfl ?_
          refine r_iload_n (n := 73) hX dX11_fill_72 rfl rfl 3 rfl ?_
          refine r_iconst (n := 74) hX 1 dX11_fill_73 rfl rfl ?_
          refine r_isub (n := 75) hX dX11_fill_74 rfl ?_
          refine Aw.topi (nI (part - 1)) (pk_sub (a := part) (b := 1) (by omega)) ?_
          refine r_iload_n (n := 76) hX dX11_fill_75 rfl rfl 1 rfl ?_
          refine r_iand (n := 77) hX dX11_fill_76 rfl ?_
          refine Aw.topi (nI ((part - 1) &&& s)) (nb_and _ _) ?_
          refine r_istore_n (n := 78) hX [(0, .ref mo), (1, .int (nI s)), (2, .int (nI p)), (3, .int (nI ((part - 1) &&& s))), (4, .int 1)] dX11_fill_77 rfl rfl (by decide) rfl ?_
          refine r_goto (tgt := 14) hX dX11_fill_78 (by decide) ?_
          have hv : 100000000 = mV my ke ai tr_ gv fm s (fm - p) part := by
            rw [show fm - p = 0 by omega]
            show _ = if part = s then 0 else 100000000
            rw [if_neg c40]
          have hL1 : lsOk (va_up L ((4096 * p) + part) 100000000) := hL.up (by rw [hv]; exact mV_le)
          have hq1 : ∀ q, p < q → q ≤ fm → ∀ j, j &&& s = j → (va_up L ((4096 * p) + part) 100000000) (4096 * q + j) = mV my ke ai tr_ gv fm s (fm - q) j := fun q h1 h2 j hj => by
            have := sub_le hj
            rw [va_up_ne _ _ (by omega)]; exact hq q h1 h2 j hj
          have hg1 : ∀ j, j &&& s = j → part ≤ j → (va_up L ((4096 * p) + part) 100000000) (4096 * p + j) = mV my ke ai tr_ gv fm s (fm - p) j := fun j hj hle => by
            by_cases e : j = part
            · rw [e, va_up_self]; exact hv
            · rw [va_up_ne _ _ (by omega)]; exact hg j hj (by omega)
          have hlt : (part - 1) &&& s ≤ part - 1 := Nat.and_le_left
          exact ih _ _ (by omega) (and_sub _ _) hL1 hq1 (fun j hj hlt2 => hg1 j hj (by
            apply Nat.le_of_not_lt; intro h3
            exact absurd (nxt_le (part + 1) part s j (by omega) hsub hj h3) (by omega))) kk_
        · skip
          refine r_iconst (n := 44) hX 0 dX11_fill_43 rfl rfl ?_
          refine r_goto (tgt := 60) hX dX11_fill_44 (by decide) ?_
          refine r_iastNn (n := 61) (i := ((4096 * p) + part)) hX 5 rfl rfl 0 [ob 11 (.ref (a 0) :: .int (nI tn) :: .int fk :: .int fp :: .ref (a 4) :: .ref (a 5) :: .ref (a 6) :: .ref (a 7) :: .ref (a 8) :: .ref (a 9) :: .ref (a 10) :: .ref (a 11) :: .ref (a 12) :: .ref (a 13) :: .int (nI tr) :: .int (nI fm) :: .int ck :: .int te :: .int (nI fn) :: .ref (a 19) :: .ref (a 20) :: .ref (a 21) :: .ref (a 22) :: .ref (a 23) :: .ref (a 24) :: .ref (a 25) :: .ref (a 26) :: .ref (a 27) :: .int (b2 hp) :: .int yn :: .int (b2 ir) :: .ref (a 31) :: .int rc :: .ref (a 33) :: .int (nI mv) :: .int kd :: .int (nI bg) :: .int (nI en) :: .int mk :: .long le :: .int (nI tk) :: .int (nI op) :: .ref (a 42) :: .int (nI wn) :: .ref (a 44) :: .int (nI jn) :: .ref (a 46) :: .ref (a 47) :: .ref (a 48) :: .ref (a 49) :: .ref (a 50) :: .ref (a 51) :: .int (b2 ke) :: .ref (a 53) :: .ref (a 54) :: .ref (a 55) :: .int (nI cq) :: .int (nI cm) :: []), aI (CxD X) 144 (nf my), aI (CxD X) 12 (opf ai), aZ (CxD X) 12 (zf tr_), aZ (CxD X) 12 (zf gv), aI (CxD X) 53248 (nf (va_up L ((4096 * p) + part) 0))] (by omega) (by decide) rfl dX11_fill_60 rfl ?_
          refine r_iload_n (n := 62) hX dX11_fill_61 rfl rfl 3 rfl ?_
          refine r_if_le_n (tgt := 69) (n := 65) hX part (by omega) dX11_fill_62 (by decide) rfl (fun c62 => absurd c62 (by omega)) (fun c62 => ?_)
          refine r_iconst (n := 66) hX 1 dX11_fill_65 rfl rfl ?_
          refine r_goto (tgt := 70) hX dX11_fill_66 (by decide) ?_
          refine r_istore (n := 72) hX [(0, .ref mo), (1, .int (nI s)), (2, .int (nI p)), (3, .int (nI part)), (4, .int 1)] dX11_fill_70 rfl (by decide) rfl ?_
          refine r_iload_n (n := 73) hX dX11_fill_72 rfl rfl 3 rfl ?_
          refine r_iconst (n := 74) hX 1 dX11_fill_73 rfl rfl ?_
          refine r_isub (n := 75) hX dX11_fill_74 rfl ?_
          refine Aw.topi (nI (part - 1)) (pk_sub (a := part) (b := 1) (by omega)) ?_
          refine r_iload_n (n := 76) hX dX11_fill_75 rfl rfl 1 rfl ?_
          refine r_iand (n := 77) hX dX11_fill_76 rfl ?_
          refine Aw.topi (nI ((part - 1) &&& s)) (nb_and _ _) ?_
          refine r_istore_n (n := 78) hX [(0, .ref mo), (1, .int (nI s)), (2, .int (nI p)), (3, .int (nI ((part - 1) &&& s))), (4, .int 1)] dX11_fill_77 rfl rfl (by decide) rfl ?_
          refine r_goto (tgt := 14) hX dX11_fill_78 (by decide) ?_
          have hv : 0 = mV my ke ai tr_ gv fm s (fm - p) part := by
            rw [show fm - p = 0 by omega]
            show _ = if part = s then 0 else 100000000
            rw [if_pos c40]
          have hL1 : lsOk (va_up L ((4096 * p) + part) 0) := hL.up (by rw [hv]; exact mV_le)
          have hq1 : ∀ q, p < q → q ≤ fm → ∀ j, j &&& s = j → (va_up L ((4096 * p) + part) 0) (4096 * q + j) = mV my ke ai tr_ gv fm s (fm - q) j := fun q h1 h2 j hj => by
            have := sub_le hj
            rw [va_up_ne _ _ (by omega)]; exact hq q h1 h2 j hj
          have hg1 : ∀ j, j &&& s = j → part ≤ j → (va_up L ((4096 * p) + part) 0) (4096 * p + j) = mV my ke ai tr_ gv fm s (fm - p) j := fun j hj hle => by
            by_cases e : j = part
            · rw [e, va_up_self]; exact hv
            · rw [va_up_ne _ _ (by omega)]; exact hg j hj (by omega)
          have hlt : (part - 1) &&& s ≤ part - 1 := Nat.and_le_left
          exact ih _ _ (by omega) (and_sub _ _) hL1 hq1 (fun j hj hlt2 => hg1 j hj (by
            apply Nat.le_of_not_lt; intro h3
            exact absurd (nxt_le (part + 1) part s j (by omega) hsub hj h3) (by omega))) kk_
    · skip
      refine r_iload (n := 16) hX dX11_fill_14 rfl 4 rfl ?_
      refine r_if_eq (tgt := 81) (n := 19) hX dX11_fill_16 (by decide) rfl (fun h => False.elim (by revert h; decide)) (fun _ => ?_)
      refine r_aload_n (n := 20) hX dX11_fill_19 rfl rfl 0 rfl ?_
      refine r_get (n := 23) hX 0 rfl rfl rfl 53 (by decide) lay_X11 fl_X11_108 rfl dX11_fill_20 rfl ?_
      refine r_sipush (n := 26) hX 4096 dX11_fill_23 rfl rfl ?_
      refine r_iload_n (n := 27) hX dX11_fill_26 rfl rfl 2 rfl ?_
      refine r_imul (n := 28) hX dX11_fill_27 rfl ?_
      refine Aw.topi (nI (4096 * p)) (pk_mul _ _) ?_
      refine r_iload_n (n := 29) hX dX11_fill_28 rfl rfl 3 rfl ?_
      refine r_iadd (n := 30) hX dX11_fill_29 rfl ?_
      refine Aw.topi (nI ((4096 * p) + part)) (nI_add _ _) ?_
      refine r_iload_n (n := 31) hX dX11_fill_30 rfl rfl 2 rfl ?_
      refine r_aload_n (n := 32) hX dX11_fill_31 rfl rfl 0 rfl ?_
      refine r_get (n := 35) hX 0 rfl rfl rfl 15 (by decide) lay_X11 fl_X11_251 rfl dX11_fill_32 rfl ?_
      refine r_icmp_ne_n (tgt := 53) (n := 38) hX p fm (by omega) (by omega) dX11_fill_35 (by decide) rfl (fun c35 => ?_) (fun c35 => ?_)
      · skip
        refine r_aload_n (n := 54) hX dX11_fill_53 rfl rfl 0 rfl ?_
        refine r_iload_n (n := 55) hX dX11_fill_54 rfl rfl 2 rfl ?_
        refine r_iload_n (n := 56) hX dX11_fill_55 rfl rfl 3 rfl ?_
        refine r_iload_n (n := 57) hX dX11_fill_56 rfl rfl 1 rfl ?_
        refine r_callV (n := 60) (av := [.int (nI p), .int (nI part), .int (nI s)]) hX (ct_X11_best (CxL X) (CxD X) mo a tn tr fm fn mv bg en tk op wn jn cq cm fk fp ck te yn rc kd mk le hp ir ke my ai tr_ gv L p part s hf hmy hai hL (by omega) (by omega) hs) ml_X11_309 cv_X11_best rfl (by decide) [0, 1, 2, 3, 4, 5] rfl rfl (by decide) 0 rfl rfl rfl rfl rfl (Nat.le_of_ble_eq_true rfl) dX11_fill_57 rfl (fun r_ es_ h_ l_ => ?_)
        obtain ⟨rfl, rfl⟩ := h_
        show Aw X [mo, a 48, a 51, a 49, a 50, a 53] [ob 11 (.ref (a 0) :: .int (nI tn) :: .int fk :: .int fp :: .ref (a 4) :: .ref (a 5) :: .ref (a 6) :: .ref (a 7) :: .ref (a 8) :: .ref (a 9) :: .ref (a 10) :: .ref (a 11) :: .ref (a 12) :: .ref (a 13) :: .int (nI tr) :: .int (nI fm) :: .int ck :: .int te :: .int (nI fn) :: .ref (a 19) :: .ref (a 20) :: .ref (a 21) :: .ref (a 22) :: .ref (a 23) :: .ref (a 24) :: .ref (a 25) :: .ref (a 26) :: .ref (a 27) :: .int (b2 hp) :: .int yn :: .int (b2 ir) :: .ref (a 31) :: .int rc :: .ref (a 33) :: .int (nI mv) :: .int kd :: .int (nI bg) :: .int (nI en) :: .int mk :: .long le :: .int (nI tk) :: .int (nI op) :: .ref (a 42) :: .int (nI wn) :: .ref (a 44) :: .int (nI jn) :: .ref (a 46) :: .ref (a 47) :: .ref (a 48) :: .ref (a 49) :: .ref (a 50) :: .ref (a 51) :: .int (b2 ke) :: .ref (a 53) :: .ref (a 54) :: .ref (a 55) :: .int (nI cq) :: .int (nI cm) :: []), aI (CxD X) 144 (nf my), aI (CxD X) 12 (opf ai), aZ (CxD X) 12 (zf tr_), aZ (CxD X) 12 (zf gv), aI (CxD X) 53248 (nf L)] 60 [(0, .ref mo), (1, .int (nI s)), (2, .int (nI p)), (3, .int (nI part)), (4, .int 1)] [.int (nI (mBe my ke ai tr_ gv fm (fun j => L (4096 * (p + 1) + j)) p part s)), .int (nI ((4096 * p) + part)), .ref (a 53)]
        refine r_iastNn (n := 61) (i := ((4096 * p) + part)) hX 5 rfl rfl (mBe my ke ai tr_ gv fm (fun j => L (4096 * (p + 1) + j)) p part s) [ob 11 (.ref (a 0) :: .int (nI tn) :: .int fk :: .int fp :: .ref (a 4) :: .ref (a 5) :: .ref (a 6) :: .ref (a 7) :: .ref (a 8) :: .ref (a 9) :: .ref (a 10) :: .ref (a 11) :: .ref (a 12) :: .ref (a 13) :: .int (nI tr) :: .int (nI fm) :: .int ck :: .int te :: .int (nI fn) :: .ref (a 19) :: .ref (a 20) :: .ref (a 21) :: .ref (a 22) :: .ref (a 23) :: .ref (a 24) :: .ref (a 25) :: .ref (a 26) :: .ref (a 27) :: .int (b2 hp) :: .int yn :: .int (b2 ir) :: .ref (a 31) :: .int rc :: .ref (a 33) :: .int (nI mv) :: .int kd :: .int (nI bg) :: .int (nI en) :: .int mk :: .long le :: .int (nI tk) :: .int (nI op) :: .ref (a 42) :: .int (nI wn) :: .ref (a 44) :: .int (nI jn) :: .ref (a 46) :: .ref (a 47) :: .ref (a 48) :: .ref (a 49) :: .ref (a 50) :: .ref (a 51) :: .int (b2 ke) :: .ref (a 53) :: .ref (a 54) :: .ref (a 55) :: .int (nI cq) :: .int (nI cm) :: []), aI (CxD X) 144 (nf my), aI (CxD X) 12 (opf ai), aZ (CxD X) 12 (zf tr_), aZ (CxD X) 12 (zf gv), aI (CxD X) 53248 (nf (va_up L ((4096 * p) + part) (mBe my ke ai tr_ gv fm (fun j => L (4096 * (p + 1) + j)) p part s)))] (by omega) (by decide) rfl dX11_fill_60 rfl ?_
        refine r_iload_n (n := 62) hX dX11_fill_61 rfl rfl 3 rfl ?_
        refine r_if_le_n (tgt := 69) (n := 65) hX part (by omega) dX11_fill_62 (by decide) rfl (fun c62 => ?_) (fun c62 => absurd c62 (by omega))
        refine r_iconst (n := 70) hX 0 dX11_fill_69 rfl rfl ?_
        refine r_istore (n := 72) hX [(0, .ref mo), (1, .int (nI s)), (2, .int (nI p)), (3, .int (nI part)), (4, .int 0)] dX11_fill_70 rfl (by decide) rfl ?_
        refine r_iload_n (n := 73) hX dX11_fill_72 rfl rfl 3 rfl ?_
        refine r_iconst (n := 74) hX 1 dX11_fill_73 rfl rfl ?_
        refine r_isub (n := 75) hX dX11_fill_74 rfl ?_
        refine r_iload_n (n := 76) hX dX11_fill_75 rfl rfl 1 rfl ?_
        refine r_iand (n := 77) hX dX11_fill_76 rfl ?_
        refine r_istore_n (n := 78) hX [(0, .ref mo), (1, .int (nI s)), (2, .int (nI p)), (3, .int (((nI part) - 1) &&& (nI s))), (4, .int 0)] dX11_fill_77 rfl rfl (by decide) rfl ?_
        refine r_goto (tgt := 14) hX dX11_fill_78 (by decide) ?_
        refine r_iload (n := 16) hX dX11_fill_14 rfl 4 rfl ?_
        refine r_if_eq (tgt := 81) (n := 19) hX dX11_fill_16 (by decide) rfl (fun _ => ?_) (fun h => False.elim (by revert h; decide))
        refine Aw.loc (lv' := [(0, .ref mo), (1, .int (nI s)), (2, .int (nI p))]) [0, 1, 2] rfl ?_
        have hv : mBe my ke ai tr_ gv fm (fun j => L (4096 * (p + 1) + j)) p part s = mV my ke ai tr_ gv fm s (fm - p) part := by
          rw [show fm - p = (fm - (p + 1)) + 1 by omega]
          show _ = mBe my ke ai tr_ gv fm (mV my ke ai tr_ gv fm s (fm - (p + 1))) (fm - (fm - (p + 1) + 1)) part s
          rw [show fm - (fm - (p + 1) + 1) = p by omega]
          exact mBe_congr (fun j hj => hq (p + 1) (by omega) (by omega) j hj) hsub
        have hL1 : lsOk (va_up L ((4096 * p) + part) (mBe my ke ai tr_ gv fm (fun j => L (4096 * (p + 1) + j)) p part s)) := hL.up (by rw [hv]; exact mV_le)
        have hq1 : ∀ q, p < q → q ≤ fm → ∀ j, j &&& s = j → (va_up L ((4096 * p) + part) (mBe my ke ai tr_ gv fm (fun j => L (4096 * (p + 1) + j)) p part s)) (4096 * q + j) = mV my ke ai tr_ gv fm s (fm - q) j := fun q h1 h2 j hj => by
          have := sub_le hj
          rw [va_up_ne _ _ (by omega)]; exact hq q h1 h2 j hj
        have hg1 : ∀ j, j &&& s = j → part ≤ j → (va_up L ((4096 * p) + part) (mBe my ke ai tr_ gv fm (fun j => L (4096 * (p + 1) + j)) p part s)) (4096 * p + j) = mV my ke ai tr_ gv fm s (fm - p) j := fun j hj hle => by
          by_cases e : j = part
          · rw [e, va_up_self]; exact hv
          · rw [va_up_ne _ _ (by omega)]; exact hg j hj (by omega)
        exact kk_ _ hL1 (fun q h1 h2 j hj => by
          by_cases e : q = p
          · rw [e]; exact hg1 j hj (by omega)
          · exact hq1 q (by omega) h2 j hj)
      · skip
        refine r_iload_n (n := 39) hX dX11_fill_38 rfl rfl 3 rfl ?_
        refine r_iload_n (n := 40) hX dX11_fill_39 rfl rfl 1 rfl ?_
        refine r_icmp_ne_n (tgt := 47) (n := 43) hX part s (by omega) (by omega) dX11_fill_40 (by decide) rfl (fun c40 => ?_) (fun c40 => ?_)
        · skip
          refine r_ldcw (n := 50) hX dX11_fill_47 rfl kc_X11_303 ?_
          refine r_goto (tgt := 60) hX dX11_fill_50 (by decide) ?_
          refine r_iastNn (n := 61) (i := ((4096 * p) + part)) hX 5 rfl rfl 100000000 [ob 11 (.ref (a 0) :: .int (nI tn) :: .int fk :: .int fp :: .ref (a 4) :: .ref (a 5) :: .ref (a 6) :: .ref (a 7) :: .ref (a 8) :: .ref (a 9) :: .ref (a 10) :: .ref (a 11) :: .ref (a 12) :: .ref (a 13) :: .int (nI tr) :: .int (nI fm) :: .int ck :: .int te :: .int (nI fn) :: .ref (a 19) :: .ref (a 20) :: .ref (a 21) :: .ref (a 22) :: .ref (a 23) :: .ref (a 24) :: .ref (a 25) :: .ref (a 26) :: .ref (a 27) :: .int (b2 hp) :: .int yn :: .int (b2 ir) :: .ref (a 31) :: .int rc :: .ref (a 33) :: .int (nI mv) :: .int kd :: .int (nI bg) :: .int (nI en) :: .int mk :: .long le :: .int (nI tk) :: .int (nI op) :: .ref (a 42) :: .int (nI wn) :: .ref (a 44) :: .int (nI jn) :: .ref (a 46) :: .ref (a 47) :: .ref (a 48) :: .ref (a 49) :: .ref (a 50) :: .ref (a 51) :: .int (b2 ke) :: .ref (a 53) :: .ref (a 54) :: .ref (a 55) :: .int (nI cq) :: .int (nI cm) :: []), aI (CxD X) 144 (nf my), aI (CxD X) 12 (opf ai), aZ (CxD X) 12 (zf tr_), aZ (CxD X) 12 (zf gv), aI (CxD X) 53248 (nf (va_up L ((4096 * p) + part) 100000000))] (by omega) (by decide) rfl dX11_fill_60 rfl ?_
          refine r_iload_n (n := 62) hX dX11_fill_61 rfl rfl 3 rfl ?_
          refine r_if_le_n (tgt := 69) (n := 65) hX part (by omega) dX11_fill_62 (by decide) rfl (fun c62 => ?_) (fun c62 => absurd c62 (by omega))
          refine r_iconst (n := 70) hX 0 dX11_fill_69 rfl rfl ?_
          refine r_istore (n := 72) hX [(0, .ref mo), (1, .int (nI s)), (2, .int (nI p)), (3, .int (nI part)), (4, .int 0)] dX11_fill_70 rfl (by decide) rfl ?_
          refine r_iload_n (n := 73) hX dX11_fill_72 rfl rfl 3 rfl ?_
          refine r_iconst (n := 74) hX 1 dX11_fill_73 rfl rfl ?_
          refine r_isub (n := 75) hX dX11_fill_74 rfl ?_
          refine r_iload_n (n := 76) hX dX11_fill_75 rfl rfl 1 rfl ?_
          refine r_iand (n := 77) hX dX11_fill_76 rfl ?_
          refine r_istore_n (n := 78) hX [(0, .ref mo), (1, .int (nI s)), (2, .int (nI p)), (3, .int (((nI part) - 1) &&& (nI s))), (4, .int 0)] dX11_fill_77 rfl rfl (by decide) rfl ?_
          refine r_goto (tgt := 14) hX dX11_fill_78 (by decide) ?_
          refine r_iload (n := 16) hX dX11_fill_14 rfl 4 rfl ?_
          refine r_if_eq (tgt := 81) (n := 19) hX dX11_fill_16 (by decide) rfl (fun _ => ?_) (fun h => False.elim (by revert h; decide))
          refine Aw.loc (lv' := [(0, .ref mo), (1, .int (nI s)), (2, .int (nI p))]) [0, 1, 2] rfl ?_
          have hv : 100000000 = mV my ke ai tr_ gv fm s (fm - p) part := by
            rw [show fm - p = 0 by omega]
            show _ = if part = s then 0 else 100000000
            rw [if_neg c40]
          have hL1 : lsOk (va_up L ((4096 * p) + part) 100000000) := hL.up (by rw [hv]; exact mV_le)
          have hq1 : ∀ q, p < q → q ≤ fm → ∀ j, j &&& s = j → (va_up L ((4096 * p) + part) 100000000) (4096 * q + j) = mV my ke ai tr_ gv fm s (fm - q) j := fun q h1 h2 j hj => by
            have := sub_le hj
            rw [va_up_ne _ _ (by omega)]; exact hq q h1 h2 j hj
          have hg1 : ∀ j, j &&& s = j → part ≤ j → (va_up L ((4096 * p) + part) 100000000) (4096 * p + j) = mV my ke ai tr_ gv fm s (fm - p) j := fun j hj hle => by
            by_cases e : j = part
            · rw [e, va_up_self]; exact hv
            · rw [va_up_ne _ _ (by omega)]; exact hg j hj (by omega)
          exact kk_ _ hL1 (fun q h1 h2 j hj => by
            by_cases e : q = p
            · rw [e]; exact hg1 j hj (by omega)
            · exact hq1 q (by omega) h2 j hj)
        · skip
          refine r_iconst (n := 44) hX 0 dX11_fill_43 rfl rfl ?_
          refine r_goto (tgt := 60) hX dX11_fill_44 (by decide) ?_
          refine r_iastNn (n := 61) (i := ((4096 * p) + part)) hX 5 rfl rfl 0 [ob 11 (.ref (a 0) :: .int (nI tn) :: .int fk :: .int fp :: .ref (a 4) :: .ref (a 5) :: .ref (a 6) :: .ref (a 7) :: .ref (a 8) :: .ref (a 9) :: .ref (a 10) :: .ref (a 11) :: .ref (a 12) :: .ref (a 13) :: .int (nI tr) :: .int (nI fm) :: .int ck :: .int te :: .int (nI fn) :: .ref (a 19) :: .ref (a 20) :: .ref (a 21) :: .ref (a 22) :: .ref (a 23) :: .ref (a 24) :: .ref (a 25) :: .ref (a 26) :: .ref (a 27) :: .int (b2 hp) :: .int yn :: .int (b2 ir) :: .ref (a 31) :: .int rc :: .ref (a 33) :: .int (nI mv) :: .int kd :: .int (nI bg) :: .int (nI en) :: .int mk :: .long le :: .int (nI tk) :: .int (nI op) :: .ref (a 42) :: .int (nI wn) :: .ref (a 44) :: .int (nI jn) :: .ref (a 46) :: .ref (a 47) :: .ref (a 48) :: .ref (a 49) :: .ref (a 50) :: .ref (a 51) :: .int (b2 ke) :: .ref (a 53) :: .ref (a 54) :: .ref (a 55) :: .int (nI cq) :: .int (nI cm) :: []), aI (CxD X) 144 (nf my), aI (CxD X) 12 (opf ai), aZ (CxD X) 12 (zf tr_), aZ (CxD X) 12 (zf gv), aI (CxD X) 53248 (nf (va_up L ((4096 * p) + part) 0))] (by omega) (by decide) rfl dX11_fill_60 rfl ?_
          refine r_iload_n (n := 62) hX dX11_fill_61 rfl rfl 3 rfl ?_
          refine r_if_le_n (tgt := 69) (n := 65) hX part (by omega) dX11_fill_62 (by decide) rfl (fun c62 => ?_) (fun c62 => absurd c62 (by omega))
          refine r_iconst (n := 70) hX 0 dX11_fill_69 rfl rfl ?_
          refine r_istore (n := 72) hX [(0, .ref mo), (1, .int (nI s)), (2, .int (nI p)), (3, .int (nI part)), (4, .int 0)] dX11_fill_70 rfl (by decide) rfl ?_
          refine r_iload_n (n := 73) hX dX11_fill_72 rfl rfl 3 rfl ?_
          refine r_iconst (n := 74) hX 1 dX11_fill_73 rfl rfl ?_
          refine r_isub (n := 75) hX dX11_fill_74 rfl ?_
          refine r_iload_n (n := 76) hX dX11_fill_75 rfl rfl 1 rfl ?_
          refine r_iand (n := 77) hX dX11_fill_76 rfl ?_
          refine r_istore_n (n := 78) hX [(0, .ref mo), (1, .int (nI s)), (2, .int (nI p)), (3, .int (((nI part) - 1) &&& (nI s))), (4, .int 0)] dX11_fill_77 rfl rfl (by decide) rfl ?_
          refine r_goto (tgt := 14) hX dX11_fill_78 (by decide) ?_
          refine r_iload (n := 16) hX dX11_fill_14 rfl 4 rfl ?_
          refine r_if_eq (tgt := 81) (n := 19) hX dX11_fill_16 (by decide) rfl (fun _ => ?_) (fun h => False.elim (by revert h; decide))
          refine Aw.loc (lv' := [(0, .ref mo), (1, .int (nI s)), (2, .int (nI p))]) [0, 1, 2] rfl ?_
          have hv : 0 = mV my ke ai tr_ gv fm s (fm - p) part := by
            rw [show fm - p = 0 by omega]
            show _ = if part = s then 0 else 100000000
            rw [if_pos c40]
          have hL1 : lsOk (va_up L ((4096 * p) + part) 0) := hL.up (by rw [hv]; exact mV_le)
          have hq1 : ∀ q, p < q → q ≤ fm → ∀ j, j &&& s = j → (va_up L ((4096 * p) + part) 0) (4096 * q + j) = mV my ke ai tr_ gv fm s (fm - q) j := fun q h1 h2 j hj => by
            have := sub_le hj
            rw [va_up_ne _ _ (by omega)]; exact hq q h1 h2 j hj
          have hg1 : ∀ j, j &&& s = j → part ≤ j → (va_up L ((4096 * p) + part) 0) (4096 * p + j) = mV my ke ai tr_ gv fm s (fm - p) j := fun j hj hle => by
            by_cases e : j = part
            · rw [e, va_up_self]; exact hv
            · rw [va_up_ne _ _ (by omega)]; exact hg j hj (by omega)
          exact kk_ _ hL1 (fun q h1 h2 j hj => by
            by_cases e : q = p
            · rw [e]; exact hg1 j hj (by omega)
            · exact hq1 q (by omega) h2 j hj)
set_option maxHeartbeats 1000000 in
set_option maxRecDepth 100000 in
theorem lp_fill1 {X : Cx} (hX : Ok X cX11_fill 5 RX11 2) (mo : Nat) (a : Nat → Nat) (tn tr fm fn mv bg en tk op wn jn cq cm : Nat) (fk fp ck te yn rc kd mk : Int32) (le : Int64) (hp ir ke : Bool) (my : Nat → Nat) (ai : Nat → Option Nat) (tr_ gv : Nat → Bool) (s : Nat) (hf : fm ≤ 12) (hmy : myOk my) (hai : obd ai) (hs : s < 4096) (hR : Rt X (none) (fun r es' => r = none ∧ ∃ L : Nat → Nat, es' = [ob 11 (.ref (a 0) :: .int (nI tn) :: .int fk :: .int fp :: .ref (a 4) :: .ref (a 5) :: .ref (a 6) :: .ref (a 7) :: .ref (a 8) :: .ref (a 9) :: .ref (a 10) :: .ref (a 11) :: .ref (a 12) :: .ref (a 13) :: .int (nI tr) :: .int (nI fm) :: .int ck :: .int te :: .int (nI fn) :: .ref (a 19) :: .ref (a 20) :: .ref (a 21) :: .ref (a 22) :: .ref (a 23) :: .ref (a 24) :: .ref (a 25) :: .ref (a 26) :: .ref (a 27) :: .int (b2 hp) :: .int yn :: .int (b2 ir) :: .ref (a 31) :: .int rc :: .ref (a 33) :: .int (nI mv) :: .int kd :: .int (nI bg) :: .int (nI en) :: .int mk :: .long le :: .int (nI tk) :: .int (nI op) :: .ref (a 42) :: .int (nI wn) :: .ref (a 44) :: .int (nI jn) :: .ref (a 46) :: .ref (a 47) :: .ref (a 48) :: .ref (a 49) :: .ref (a 50) :: .ref (a 51) :: .int (b2 ke) :: .ref (a 53) :: .ref (a 54) :: .ref (a 55) :: .int (nI cq) :: .int (nI cm) :: []), aI (CxD X) 144 (nf my), aI (CxD X) 12 (opf ai), aZ (CxD X) 12 (zf tr_), aZ (CxD X) 12 (zf gv), aI (CxD X) 53248 (nf L)] ∧ lsOk L ∧ ∀ q, q ≤ fm → ∀ j, j &&& s = j → L (4096 * q + j) = mV my ke ai tr_ gv fm s (fm - q) j) [mo, a 48, a 51, a 49, a 50, a 53]) : ∀ (k : Nat) (L : Nat → Nat), k ≤ fm + 1 → lsOk L → (∀ q, k ≤ q → q ≤ fm → ∀ j, j &&& s = j → L (4096 * q + j) = mV my ke ai tr_ gv fm s (fm - q) j) → Aw X [mo, a 48, a 51, a 49, a 50, a 53] [ob 11 (.ref (a 0) :: .int (nI tn) :: .int fk :: .int fp :: .ref (a 4) :: .ref (a 5) :: .ref (a 6) :: .ref (a 7) :: .ref (a 8) :: .ref (a 9) :: .ref (a 10) :: .ref (a 11) :: .ref (a 12) :: .ref (a 13) :: .int (nI tr) :: .int (nI fm) :: .int ck :: .int te :: .int (nI fn) :: .ref (a 19) :: .ref (a 20) :: .ref (a 21) :: .ref (a 22) :: .ref (a 23) :: .ref (a 24) :: .ref (a 25) :: .ref (a 26) :: .ref (a 27) :: .int (b2 hp) :: .int yn :: .int (b2 ir) :: .ref (a 31) :: .int rc :: .ref (a 33) :: .int (nI mv) :: .int kd :: .int (nI bg) :: .int (nI en) :: .int mk :: .long le :: .int (nI tk) :: .int (nI op) :: .ref (a 42) :: .int (nI wn) :: .ref (a 44) :: .int (nI jn) :: .ref (a 46) :: .ref (a 47) :: .ref (a 48) :: .ref (a 49) :: .ref (a 50) :: .ref (a 51) :: .int (b2 ke) :: .ref (a 53) :: .ref (a 54) :: .ref (a 55) :: .int (nI cq) :: .int (nI cm) :: []), aI (CxD X) 144 (nf my), aI (CxD X) 12 (opf ai), aZ (CxD X) 12 (zf tr_), aZ (CxD X) 12 (zf gv), aI (CxD X) 53248 (nf L)] 5 [(0, .ref mo), (1, .int (nI s)), (2, .int (nI k - 1))] [] := by
  intro k
  induction k with
  | zero =>
    intro L hk hL hq
    refine r_iload_n (n := 6) hX dX11_fill_5 rfl rfl 2 rfl ?_
    refine r_if_lt (tgt := 87) (n := 9) hX dX11_fill_6 (by decide) rfl (fun c6 => ?_) (fun c6 => absurd c6 (by decide))
    exact r_return hX hR dX11_fill_87 ⟨rfl, L, rfl, hL, fun q h1 j hj => hq q (by omega) h1 j hj⟩
  | succ k ih =>
    intro L hk hL hq
    refine Aw.eqs (lv' := [(0, .ref mo), (1, .int (nI s)), (2, .int (nI k))]) rfl (by rw [nI_pred]) rfl ?_
    refine r_iload_n (n := 6) hX dX11_fill_5 rfl rfl 2 rfl ?_
    refine r_iflt_n (n := 9) (tgt := 87) hX (by omega) dX11_fill_6 rfl (by decide) ?_
    refine r_iload_n (n := 10) hX dX11_fill_9 rfl rfl 1 rfl ?_
    refine r_istore_n (n := 11) hX [(0, .ref mo), (1, .int (nI s)), (2, .int (nI k)), (3, .int (nI s))] dX11_fill_10 rfl rfl (by decide) rfl ?_
    refine r_iconst (n := 12) hX 1 dX11_fill_11 rfl rfl ?_
    refine r_istore (n := 14) hX [(0, .ref mo), (1, .int (nI s)), (2, .int (nI k)), (3, .int (nI s)), (4, .int 1)] dX11_fill_12 rfl (by decide) rfl ?_
    refine lp_fill2 hX mo a tn tr fm fn mv bg en tk op wn jn cq cm fk fp ck te yn rc kd mk le hp ir ke my ai tr_ gv s hf hmy hai hs k (by omega) hR (s + 1) s L (by omega) (Nat.and_self s) hL hq (fun j hj h2 => absurd (sub_le hj) (by omega)) (fun L2 hL2 hq2 => ?_)
    show Aw X [mo, a 48, a 51, a 49, a 50, a 53] [ob 11 (.ref (a 0) :: .int (nI tn) :: .int fk :: .int fp :: .ref (a 4) :: .ref (a 5) :: .ref (a 6) :: .ref (a 7) :: .ref (a 8) :: .ref (a 9) :: .ref (a 10) :: .ref (a 11) :: .ref (a 12) :: .ref (a 13) :: .int (nI tr) :: .int (nI fm) :: .int ck :: .int te :: .int (nI fn) :: .ref (a 19) :: .ref (a 20) :: .ref (a 21) :: .ref (a 22) :: .ref (a 23) :: .ref (a 24) :: .ref (a 25) :: .ref (a 26) :: .ref (a 27) :: .int (b2 hp) :: .int yn :: .int (b2 ir) :: .ref (a 31) :: .int rc :: .ref (a 33) :: .int (nI mv) :: .int kd :: .int (nI bg) :: .int (nI en) :: .int mk :: .long le :: .int (nI tk) :: .int (nI op) :: .ref (a 42) :: .int (nI wn) :: .ref (a 44) :: .int (nI jn) :: .ref (a 46) :: .ref (a 47) :: .ref (a 48) :: .ref (a 49) :: .ref (a 50) :: .ref (a 51) :: .int (b2 ke) :: .ref (a 53) :: .ref (a 54) :: .ref (a 55) :: .int (nI cq) :: .int (nI cm) :: []), aI (CxD X) 144 (nf my), aI (CxD X) 12 (opf ai), aZ (CxD X) 12 (zf tr_), aZ (CxD X) 12 (zf gv), aI (CxD X) 53248 (nf L2)] 81 [(0, .ref mo), (1, .int (nI s)), (2, .int (nI k))] []
    refine r_iinc (n := 84) hX (nI k - 1) [(0, .ref mo), (1, .int (nI s)), (2, .int (nI k - 1))] dX11_fill_81 rfl 2 rfl (inc_m1 _) (by decide) rfl ?_
    refine r_goto (tgt := 5) hX dX11_fill_84 (by decide) ?_
    exact ih L2 (by omega) hL2 hq2
set_option maxHeartbeats 1000000 in
set_option maxRecDepth 100000 in
theorem wk_X11_fill {X : Cx} (hX : Ok X cX11_fill 5 RX11 2) (mo : Nat) (a : Nat → Nat) (tn tr fm fn mv bg en tk op wn jn cq cm : Nat) (fk fp ck te yn rc kd mk : Int32) (le : Int64) (hp ir ke : Bool) (my : Nat → Nat) (ai : Nat → Option Nat) (tr_ gv : Nat → Bool) (L : Nat → Nat) (s : Nat) (hf : fm ≤ 12) (hmy : myOk my) (hai : obd ai) (hs : s < 4096) (hL : lsOk L) (hR : Rt X (none) (fun r es' => r = none ∧ ∃ L : Nat → Nat, es' = [ob 11 (.ref (a 0) :: .int (nI tn) :: .int fk :: .int fp :: .ref (a 4) :: .ref (a 5) :: .ref (a 6) :: .ref (a 7) :: .ref (a 8) :: .ref (a 9) :: .ref (a 10) :: .ref (a 11) :: .ref (a 12) :: .ref (a 13) :: .int (nI tr) :: .int (nI fm) :: .int ck :: .int te :: .int (nI fn) :: .ref (a 19) :: .ref (a 20) :: .ref (a 21) :: .ref (a 22) :: .ref (a 23) :: .ref (a 24) :: .ref (a 25) :: .ref (a 26) :: .ref (a 27) :: .int (b2 hp) :: .int yn :: .int (b2 ir) :: .ref (a 31) :: .int rc :: .ref (a 33) :: .int (nI mv) :: .int kd :: .int (nI bg) :: .int (nI en) :: .int mk :: .long le :: .int (nI tk) :: .int (nI op) :: .ref (a 42) :: .int (nI wn) :: .ref (a 44) :: .int (nI jn) :: .ref (a 46) :: .ref (a 47) :: .ref (a 48) :: .ref (a 49) :: .ref (a 50) :: .ref (a 51) :: .int (b2 ke) :: .ref (a 53) :: .ref (a 54) :: .ref (a 55) :: .int (nI cq) :: .int (nI cm) :: []), aI (CxD X) 144 (nf my), aI (CxD X) 12 (opf ai), aZ (CxD X) 12 (zf tr_), aZ (CxD X) 12 (zf gv), aI (CxD X) 53248 (nf L)] ∧ lsOk L ∧ ∀ q, q ≤ fm → ∀ j, j &&& s = j → L (4096 * q + j) = mV my ke ai tr_ gv fm s (fm - q) j) [mo, a 48, a 51, a 49, a 50, a 53]) : Aw X [mo, a 48, a 51, a 49, a 50, a 53] [ob 11 (.ref (a 0) :: .int (nI tn) :: .int fk :: .int fp :: .ref (a 4) :: .ref (a 5) :: .ref (a 6) :: .ref (a 7) :: .ref (a 8) :: .ref (a 9) :: .ref (a 10) :: .ref (a 11) :: .ref (a 12) :: .ref (a 13) :: .int (nI tr) :: .int (nI fm) :: .int ck :: .int te :: .int (nI fn) :: .ref (a 19) :: .ref (a 20) :: .ref (a 21) :: .ref (a 22) :: .ref (a 23) :: .ref (a 24) :: .ref (a 25) :: .ref (a 26) :: .ref (a 27) :: .int (b2 hp) :: .int yn :: .int (b2 ir) :: .ref (a 31) :: .int rc :: .ref (a 33) :: .int (nI mv) :: .int kd :: .int (nI bg) :: .int (nI en) :: .int mk :: .long le :: .int (nI tk) :: .int (nI op) :: .ref (a 42) :: .int (nI wn) :: .ref (a 44) :: .int (nI jn) :: .ref (a 46) :: .ref (a 47) :: .ref (a 48) :: .ref (a 49) :: .ref (a 50) :: .ref (a 51) :: .int (b2 ke) :: .ref (a 53) :: .ref (a 54) :: .ref (a 55) :: .int (nI cq) :: .int (nI cm) :: []), aI (CxD X) 144 (nf my), aI (CxD X) 12 (opf ai), aZ (CxD X) 12 (zf tr_), aZ (CxD X) 12 (zf gv), aI (CxD X) 53248 (nf L)] 0 [(0, .ref mo), (1, .int (nI s))] [] := by
  refine r_aload_n (n := 1) hX dX11_fill_0 rfl rfl 0 rfl ?_
  refine r_get (n := 4) hX 0 rfl rfl rfl 15 (by decide) lay_X11 fl_X11_251 rfl dX11_fill_1 rfl ?_
  refine r_istore_n (n := 5) hX [(0, .ref mo), (1, .int (nI s)), (2, .int (nI fm))] dX11_fill_4 rfl rfl (by decide) rfl ?_
  refine Aw.eqs (lv' := [(0, .ref mo), (1, .int (nI s)), (2, .int (nI (fm + 1) - 1))]) rfl (by rw [nI_pred]) rfl ?_
  exact lp_fill1 hX mo a tn tr fm fn mv bg en tk op wn jn cq cm fk fp ck te yn rc kd mk le hp ir ke my ai tr_ gv s hf hmy hai hs hR (fm + 1) L (Nat.le_refl _) hL (fun q h1 h2 => by omega)
theorem ct_X11_fill (l : Launch) (D : va_G) (mo : Nat) (a : Nat → Nat) (tn tr fm fn mv bg en tk op wn jn cq cm : Nat) (fk fp ck te yn rc kd mk : Int32) (le : Int64) (hp ir ke : Bool) (my : Nat → Nat) (ai : Nat → Option Nat) (tr_ gv : Nat → Bool) (L : Nat → Nat) (s : Nat) (hf : fm ≤ 12) (hmy : myOk my) (hai : obd ai) (hs : s < 4096) (hL : lsOk L) : Ct l D m_X11_fill 2 [.ref mo, .int (nI s)] [mo, a 48, a 51, a 49, a 50, a 53] [ob 11 (.ref (a 0) :: .int (nI tn) :: .int fk :: .int fp :: .ref (a 4) :: .ref (a 5) :: .ref (a 6) :: .ref (a 7) :: .ref (a 8) :: .ref (a 9) :: .ref (a 10) :: .ref (a 11) :: .ref (a 12) :: .ref (a 13) :: .int (nI tr) :: .int (nI fm) :: .int ck :: .int te :: .int (nI fn) :: .ref (a 19) :: .ref (a 20) :: .ref (a 21) :: .ref (a 22) :: .ref (a 23) :: .ref (a 24) :: .ref (a 25) :: .ref (a 26) :: .ref (a 27) :: .int (b2 hp) :: .int yn :: .int (b2 ir) :: .ref (a 31) :: .int rc :: .ref (a 33) :: .int (nI mv) :: .int kd :: .int (nI bg) :: .int (nI en) :: .int mk :: .long le :: .int (nI tk) :: .int (nI op) :: .ref (a 42) :: .int (nI wn) :: .ref (a 44) :: .int (nI jn) :: .ref (a 46) :: .ref (a 47) :: .ref (a 48) :: .ref (a 49) :: .ref (a 50) :: .ref (a 51) :: .int (b2 ke) :: .ref (a 53) :: .ref (a 54) :: .ref (a 55) :: .int (nI cq) :: .int (nI cm) :: []), aI D 144 (nf my), aI D 12 (opf ai), aZ D 12 (zf tr_), aZ D 12 (zf gv), aI D 53248 (nf L)] (fun r es' => r = none ∧ ∃ L : Nat → Nat, es' = [ob 11 (.ref (a 0) :: .int (nI tn) :: .int fk :: .int fp :: .ref (a 4) :: .ref (a 5) :: .ref (a 6) :: .ref (a 7) :: .ref (a 8) :: .ref (a 9) :: .ref (a 10) :: .ref (a 11) :: .ref (a 12) :: .ref (a 13) :: .int (nI tr) :: .int (nI fm) :: .int ck :: .int te :: .int (nI fn) :: .ref (a 19) :: .ref (a 20) :: .ref (a 21) :: .ref (a 22) :: .ref (a 23) :: .ref (a 24) :: .ref (a 25) :: .ref (a 26) :: .ref (a 27) :: .int (b2 hp) :: .int yn :: .int (b2 ir) :: .ref (a 31) :: .int rc :: .ref (a 33) :: .int (nI mv) :: .int kd :: .int (nI bg) :: .int (nI en) :: .int mk :: .long le :: .int (nI tk) :: .int (nI op) :: .ref (a 42) :: .int (nI wn) :: .ref (a 44) :: .int (nI jn) :: .ref (a 46) :: .ref (a 47) :: .ref (a 48) :: .ref (a 49) :: .ref (a 50) :: .ref (a 51) :: .int (b2 ke) :: .ref (a 53) :: .ref (a 54) :: .ref (a 55) :: .int (nI cq) :: .int (nI cm) :: []), aI D 144 (nf my), aI D 12 (opf ai), aZ D 12 (zf tr_), aZ D 12 (zf gv), aI D 53248 (nf L)] ∧ lsOk L ∧ ∀ q, q ≤ fm → ∀ j, j &&& s = j → L (4096 * q + j) = mV my ke ai tr_ gv fm s (fm - q) j) :=
  Ct.ofA (own := RX11) (by decide) rfl (Nat.le_of_ble_eq_true rfl) rfl (fun X hl hD hX hR => by subst hl; subst hD; exact wk_X11_fill hX mo a tn tr fm fn mv bg en tk op wn jn cq cm fk fp ck te yn rc kd mk le hp ir ke my ai tr_ gv L s hf hmy hai hs hL hR)
