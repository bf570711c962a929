
/-! sets as numbers -/
theorem bs_l : ∀ n, n < 32 → ((nI n &&& 31).toBitVec.smod 32).toNat = n := by decide +kernel
theorem nb_and (x y : Nat) : nI x &&& nI y = nI (x &&& y) := by
  apply Int32.toBitVec_inj.1
  show BitVec.ofNat 32 x &&& BitVec.ofNat 32 y = BitVec.ofNat 32 (x &&& y)
  apply BitVec.eq_of_getLsbD_eq
  intro i hi
  simp [hi]
theorem nb_or (x y : Nat) : nI x ||| nI y = nI (x ||| y) := by
  apply Int32.toBitVec_inj.1
  show BitVec.ofNat 32 x ||| BitVec.ofNat 32 y = BitVec.ofNat 32 (x ||| y)
  apply BitVec.eq_of_getLsbD_eq
  intro i hi
  simp [hi]
theorem nb_bit {s p : Nat} (hs : s < 2 ^ 31) (hp : p < 32) : (nI s >>> (nI p &&& 31)) &&& 1 = nI (s / 2 ^ p % 2) := by
  rw [pk_shrN hs _ p (bs_l p hp)]
  exact pk_andN (n := s / 2 ^ p) (Nat.lt_of_le_of_lt (Nat.div_le_self _ _) (by omega)) (m := 1) 1 rfl
theorem nb_shl {p : Nat} (hp : p < 31) : (1 : Int32) <<< (nI p &&& 31) = nI (2 ^ p) := by
  have h := pk_shlN (n := 1) (nI p &&& 31) p (bs_l p (by omega)) (by rw [Nat.one_mul]; exact Nat.pow_lt_pow_right (by decide) (by omega))
  rw [Nat.one_mul] at h
  exact h
theorem tb_eq (s p : Nat) : s / 2 ^ p % 2 = 1 ↔ s.testBit p = true := by
  rw [Nat.testBit_eq_decide_div_mod_eq]; simp
theorem tb_0 (s p : Nat) : s / 2 ^ p % 2 = 0 ↔ s.testBit p = false := by
  rw [Nat.testBit_eq_decide_div_mod_eq]; simp
theorem b2n (s p : Nat) : nI (s / 2 ^ p % 2) = b2 (s.testBit p) := by
  cases h : s.testBit p with
  | false => rw [(tb_0 s p).mpr h]; rfl
  | true => rw [(tb_eq s p).mpr h]; rfl
theorem or_lt {x p n : Nat} (hx : x < 2 ^ n) (hp : p < n) : x ||| 2 ^ p < 2 ^ n := Nat.or_lt_two_pow hx (Nat.pow_lt_pow_right (by decide) hp)
theorem or_lt12 {x p : Nat} (hx : x < 4096) (hp : p < 12) : x ||| 2 ^ p < 4096 := or_lt (n := 12) hx hp
/-! the search: what an assignment counts -/
def mMv (ke : Bool) (ai : Nat → Option Nat) (p : Nat) (o : Option Nat) : Nat := if ke = true then (if ai p = none then 0 else if ai p = o then 0 else 1000000) else 0
def mCn (my : Nat → Nat) (ke : Bool) (ai : Nat → Option Nat) (p h : Nat) : Nat := if my (12 * p + h) = 100000000 then 100000000 else my (12 * p + h) + mMv ke ai p (some h)
def mSu (x y : Nat) : Nat := if 100000000 ≤ x then 100000000 else if y < 100000000 then x + y else 100000000
def myOk (my : Nat → Nat) : Prop := ∀ i, my i ≤ 10000 ∨ my i = 100000000
theorem mMv_le {ke : Bool} {ai : Nat → Option Nat} {p : Nat} {o : Option Nat} : mMv ke ai p o ≤ 1000000 := by
  unfold mMv
  split
  · split
    · omega
    · split <;> omega
  · omega
theorem mCn_le {my : Nat → Nat} {ke : Bool} {ai : Nat → Option Nat} {p h : Nat} (hm : myOk my) : mCn my ke ai p h ≤ 100000000 := by
  unfold mCn
  split
  · omega
  · have := mMv_le (ke := ke) (ai := ai) (p := p) (o := some h)
    have := hm (12 * p + h)
    omega
theorem mSu_le {x y : Nat} : mSu x y ≤ 200000000 := by
  unfold mSu
  split
  · omega
  · split <;> omega
def mGo (tr : Nat → Bool) (s p : Nat) : Bool := if s.testBit p = true then true else tr p
def mSt (gv : Nat → Bool) (s p : Nat) : Bool := if s.testBit p = false then true else gv p

set_option maxHeartbeats 1000000 in
set_option maxRecDepth 100000 in
theorem wk_X11_counts {X : Cx} (hX : Ok X cX11_counts 4 RX11 0) (mo : Nat) (a : Nat → Nat) (tn tr fm fn mv bg en tk op wn jn cq cm : Nat) (fk fp ck te yn rc kd mk : Int32) (le : Int64) (hp ir ke : Bool) (my : Nat → Nat) (ai : Nat → Option Nat) (p h : Nat) (hmy : myOk my) (hai : obd ai) (hp12 : p < 12) (hh12 : h < 12) (hR : Rt X (some FieldType.int) (fun r es' => r = some (.int (nI (mCn my ke ai p h))) ∧ es' = [ob 11 (.ref (a 0) :: .int (nI tn) :: .int fk :: .int fp :: .ref (a 4) :: .ref (a 5) :: .ref (a 6) :: .ref (a 7) :: .ref (a 8) :: .ref (a 9) :: .ref (a 10) :: .ref (a 11) :: .ref (a 12) :: .ref (a 13) :: .int (nI tr) :: .int (nI fm) :: .int ck :: .int te :: .int (nI fn) :: .ref (a 19) :: .ref (a 20) :: .ref (a 21) :: .ref (a 22) :: .ref (a 23) :: .ref (a 24) :: .ref (a 25) :: .ref (a 26) :: .ref (a 27) :: .int (b2 hp) :: .int yn :: .int (b2 ir) :: .ref (a 31) :: .int rc :: .ref (a 33) :: .int (nI mv) :: .int kd :: .int (nI bg) :: .int (nI en) :: .int mk :: .long le :: .int (nI tk) :: .int (nI op) :: .ref (a 42) :: .int (nI wn) :: .ref (a 44) :: .int (nI jn) :: .ref (a 46) :: .ref (a 47) :: .ref (a 48) :: .ref (a 49) :: .ref (a 50) :: .ref (a 51) :: .int (b2 ke) :: .ref (a 53) :: .ref (a 54) :: .ref (a 55) :: .int (nI cq) :: .int (nI cm) :: []), aI (CxD X) 144 (nf my), aI (CxD X) 12 (opf ai)]) [mo, a 48, a 51]) : Aw X [mo, a 48, a 51] [ob 11 (.ref (a 0) :: .int (nI tn) :: .int fk :: .int fp :: .ref (a 4) :: .ref (a 5) :: .ref (a 6) :: .ref (a 7) :: .ref (a 8) :: .ref (a 9) :: .ref (a 10) :: .ref (a 11) :: .ref (a 12) :: .ref (a 13) :: .int (nI tr) :: .int (nI fm) :: .int ck :: .int te :: .int (nI fn) :: .ref (a 19) :: .ref (a 20) :: .ref (a 21) :: .ref (a 22) :: .ref (a 23) :: .ref (a 24) :: .ref (a 25) :: .ref (a 26) :: .ref (a 27) :: .int (b2 hp) :: .int yn :: .int (b2 ir) :: .ref (a 31) :: .int rc :: .ref (a 33) :: .int (nI mv) :: .int kd :: .int (nI bg) :: .int (nI en) :: .int mk :: .long le :: .int (nI tk) :: .int (nI op) :: .ref (a 42) :: .int (nI wn) :: .ref (a 44) :: .int (nI jn) :: .ref (a 46) :: .ref (a 47) :: .ref (a 48) :: .ref (a 49) :: .ref (a 50) :: .ref (a 51) :: .int (b2 ke) :: .ref (a 53) :: .ref (a 54) :: .ref (a 55) :: .int (nI cq) :: .int (nI cm) :: []), aI (CxD X) 144 (nf my), aI (CxD X) 12 (opf ai)] 0 [(0, .ref mo), (1, .int (nI p)), (2, .int (nI h))] [] := by
  refine r_iload_n (n := 1) hX dX11_counts_0 rfl rfl 2 rfl ?_
  refine r_iflt_n (n := 4) (tgt := 25) hX (by omega) dX11_counts_1 rfl (by decide) ?_
  refine r_aload_n (n := 5) hX dX11_counts_4 rfl rfl 0 rfl ?_
  refine r_get (n := 8) hX 0 rfl rfl rfl 48 (by decide) lay_X11 fl_X11_95 rfl dX11_counts_5 rfl ?_
  refine r_bipush (n := 10) hX 12 dX11_counts_8 rfl rfl ?_
  refine r_iload_n (n := 11) hX dX11_counts_10 rfl rfl 1 rfl ?_
  refine r_imul (n := 12) hX dX11_counts_11 rfl ?_
  refine Aw.topi (nI (12 * p)) (pk_mul _ _) ?_
  refine r_iload_n (n := 13) hX dX11_counts_12 rfl rfl 2 rfl ?_
  refine r_iadd (n := 14) hX dX11_counts_13 rfl ?_
  refine Aw.topi (nI ((12 * p) + h)) (nI_add _ _) ?_
  refine r_ialdNn (n := 15) (i := ((12 * p) + h)) hX 1 rfl rfl (by omega) (by decide) dX11_counts_14 rfl ?_
  refine r_ldcw (n := 18) hX dX11_counts_15 rfl kc_X11_303 ?_
  refine r_icmp_ne_n (tgt := 25) (n := 21) hX (my ((12 * p) + h)) 100000000 (by have := hmy (12 * p + h); omega) (by omega) dX11_counts_18 (by decide) rfl (fun c18 => ?_) (fun c18 => ?_)
  · skip
    refine r_iload_n (n := 26) hX dX11_counts_25 rfl rfl 2 rfl ?_
    refine r_ifge_n (tgt := 33) hX (by omega) dX11_counts_26 (by decide) ?_
    refine r_aload_n (n := 34) hX dX11_counts_33 rfl rfl 0 rfl ?_
    refine r_get (n := 37) hX 0 rfl rfl rfl 48 (by decide) lay_X11 fl_X11_95 rfl dX11_counts_34 rfl ?_
    refine r_bipush (n := 39) hX 12 dX11_counts_37 rfl rfl ?_
    refine r_iload_n (n := 40) hX dX11_counts_39 rfl rfl 1 rfl ?_
    refine r_imul (n := 41) hX dX11_counts_40 rfl ?_
    refine Aw.topi (nI (12 * p)) (pk_mul _ _) ?_
    refine r_iload_n (n := 42) hX dX11_counts_41 rfl rfl 2 rfl ?_
    refine r_iadd (n := 43) hX dX11_counts_42 rfl ?_
    refine Aw.topi (nI ((12 * p) + h)) (nI_add _ _) ?_
    refine r_ialdNn (n := 44) (i := ((12 * p) + h)) hX 1 rfl rfl (by omega) (by decide) dX11_counts_43 rfl ?_
    refine r_istore_n (n := 45) hX [(0, .ref mo), (1, .int (nI p)), (2, .int (nI h)), (3, .int (nI (my ((12 * p) + h))))] dX11_counts_44 rfl rfl (by decide) rfl ?_
    refine r_aload_n (n := 46) hX dX11_counts_45 rfl rfl 0 rfl ?_
    refine r_get (n := 49) hX 0 rfl rfl rfl 52 (by decide) lay_X11 fl_X11_304 rfl dX11_counts_46 rfl ?_
    refine r_if_eq_b (tgt := 79) (n := 52) hX dX11_counts_49 (by decide) rfl (fun c49 => ?_) (fun c49 => ?_)
    · skip
      refine r_iload_n (n := 80) hX dX11_counts_79 rfl rfl 3 rfl ?_
      exact r_ireturn hX hR dX11_counts_80 ⟨by unfold mCn; rw [if_neg c18]; unfold mMv; rw [if_neg (by rw [c49]; decide)]; rfl, rfl⟩
    · skip
      refine r_aload_n (n := 53) hX dX11_counts_52 rfl rfl 0 rfl ?_
      refine r_get (n := 56) hX 0 rfl rfl rfl 51 (by decide) lay_X11 fl_X11_104 rfl dX11_counts_53 rfl ?_
      refine r_iload_n (n := 57) hX dX11_counts_56 rfl rfl 1 rfl ?_
      refine r_ialdOn (n := 58) (i := p) hX 2 rfl rfl (by omega) (by decide) dX11_counts_57 rfl ?_
      refine r_if_lt_o (tgt := 79) (n := 61) (x := ai p) hX (fun r e => Nat.lt_trans (hai p r e) (by decide)) dX11_counts_58 (by decide) rfl (fun c58 => ?_) (fun c58 => ?_)
      · skip
        refine r_iload_n (n := 80) hX dX11_counts_79 rfl rfl 3 rfl ?_
        exact r_ireturn hX hR dX11_counts_80 ⟨by unfold mCn; rw [if_neg c18]; unfold mMv; rw [if_pos c49, if_pos c58]; rfl, rfl⟩
      · skip
        refine r_aload_n (n := 62) hX dX11_counts_61 rfl rfl 0 rfl ?_
        refine r_get (n := 65) hX 0 rfl rfl rfl 51 (by decide) lay_X11 fl_X11_104 rfl dX11_counts_62 rfl ?_
        refine r_iload_n (n := 66) hX dX11_counts_65 rfl rfl 1 rfl ?_
        refine r_ialdOn (n := 67) (i := p) hX 2 rfl rfl (by omega) (by decide) dX11_counts_66 rfl ?_
        refine r_iload_n (n := 68) hX dX11_counts_67 rfl rfl 2 rfl ?_
        refine r_icmp_eq (tgt := 79) (n := 71) hX dX11_counts_68 (by decide) rfl (fun c68 => ?_) (fun c68 => ?_)
        · skip
          refine r_iload_n (n := 80) hX dX11_counts_79 rfl rfl 3 rfl ?_
          exact r_ireturn hX hR dX11_counts_80 ⟨by unfold mCn; rw [if_neg c18]; unfold mMv; first | (rw [if_pos c49, if_neg c58, if_pos ((eo_nI hai.b (by omega)).mp c68)]; rfl) | (rw [if_pos c49, if_neg c58, if_neg (fun e => c68 ((eo_nI hai.b (by omega)).mpr e))]; done), rfl⟩
        · skip
          refine r_iload_n (n := 72) hX dX11_counts_71 rfl rfl 3 rfl ?_
          refine r_ldcw (n := 75) hX dX11_counts_72 rfl kc_X11_308 ?_
          refine r_iadd (n := 76) hX dX11_counts_75 rfl ?_
          refine Aw.topi (nI ((my ((12 * p) + h)) + 1000000)) (nI_add _ _) ?_
          refine r_goto (tgt := 80) hX dX11_counts_76 (by decide) ?_
          exact r_ireturn hX hR dX11_counts_80 ⟨by unfold mCn; rw [if_neg c18]; unfold mMv; first | (rw [if_pos c49, if_neg c58, if_pos ((eo_nI hai.b (by omega)).mp c68)]; rfl) | (rw [if_pos c49, if_neg c58, if_neg (fun e => c68 ((eo_nI hai.b (by omega)).mpr e))]; done), rfl⟩
  · skip
    refine r_ldcw (n := 24) hX dX11_counts_21 rfl kc_X11_303 ?_
    exact r_ireturn hX hR dX11_counts_24 ⟨by unfold mCn; rw [if_pos c18]; rfl, rfl⟩
theorem ct_X11_counts (l : Launch) (D : va_G) (mo : Nat) (a : Nat → Nat) (tn tr fm fn mv bg en tk op wn jn cq cm : Nat) (fk fp ck te yn rc kd mk : Int32) (le : Int64) (hp ir ke : Bool) (my : Nat → Nat) (ai : Nat → Option Nat) (p h : Nat) (hmy : myOk my) (hai : obd ai) (hp12 : p < 12) (hh12 : h < 12) : Ct l D m_X11_counts 0 [.ref mo, .int (nI p), .int (nI h)] [mo, a 48, a 51] [ob 11 (.ref (a 0) :: .int (nI tn) :: .int fk :: .int fp :: .ref (a 4) :: .ref (a 5) :: .ref (a 6) :: .ref (a 7) :: .ref (a 8) :: .ref (a 9) :: .ref (a 10) :: .ref (a 11) :: .ref (a 12) :: .ref (a 13) :: .int (nI tr) :: .int (nI fm) :: .int ck :: .int te :: .int (nI fn) :: .ref (a 19) :: .ref (a 20) :: .ref (a 21) :: .ref (a 22) :: .ref (a 23) :: .ref (a 24) :: .ref (a 25) :: .ref (a 26) :: .ref (a 27) :: .int (b2 hp) :: .int yn :: .int (b2 ir) :: .ref (a 31) :: .int rc :: .ref (a 33) :: .int (nI mv) :: .int kd :: .int (nI bg) :: .int (nI en) :: .int mk :: .long le :: .int (nI tk) :: .int (nI op) :: .ref (a 42) :: .int (nI wn) :: .ref (a 44) :: .int (nI jn) :: .ref (a 46) :: .ref (a 47) :: .ref (a 48) :: .ref (a 49) :: .ref (a 50) :: .ref (a 51) :: .int (b2 ke) :: .ref (a 53) :: .ref (a 54) :: .ref (a 55) :: .int (nI cq) :: .int (nI cm) :: []), aI D 144 (nf my), aI D 12 (opf ai)] (fun r es' => r = some (.int (nI (mCn my ke ai p h))) ∧ es' = [ob 11 (.ref (a 0) :: .int (nI tn) :: .int fk :: .int fp :: .ref (a 4) :: .ref (a 5) :: .ref (a 6) :: .ref (a 7) :: .ref (a 8) :: .ref (a 9) :: .ref (a 10) :: .ref (a 11) :: .ref (a 12) :: .ref (a 13) :: .int (nI tr) :: .int (nI fm) :: .int ck :: .int te :: .int (nI fn) :: .ref (a 19) :: .ref (a 20) :: .ref (a 21) :: .ref (a 22) :: .ref (a 23) :: .ref (a 24) :: .ref (a 25) :: .ref (a 26) :: .ref (a 27) :: .int (b2 hp) :: .int yn :: .int (b2 ir) :: .ref (a 31) :: .int rc :: .ref (a 33) :: .int (nI mv) :: .int kd :: .int (nI bg) :: .int (nI en) :: .int mk :: .long le :: .int (nI tk) :: .int (nI op) :: .ref (a 42) :: .int (nI wn) :: .ref (a 44) :: .int (nI jn) :: .ref (a 46) :: .ref (a 47) :: .ref (a 48) :: .ref (a 49) :: .ref (a 50) :: .ref (a 51) :: .int (b2 ke) :: .ref (a 53) :: .ref (a 54) :: .ref (a 55) :: .int (nI cq) :: .int (nI cm) :: []), aI D 144 (nf my), aI D 12 (opf ai)]) :=
  Ct.ofA (own := RX11) (by decide) rfl (Nat.le_of_ble_eq_true rfl) rfl (fun X hl hD hX hR => by subst hl; subst hD; exact wk_X11_counts hX mo a tn tr fm fn mv bg en tk op wn jn cq cm fk fp ck te yn rc kd mk le hp ir ke my ai p h hmy hai hp12 hh12 hR)
set_option maxHeartbeats 1000000 in
set_option maxRecDepth 100000 in
theorem wk_mCountsN {X : Cx} (hX : Ok X cX11_counts 4 RX11 0) (mo : Nat) (a : Nat → Nat) (tn tr fm fn mv bg en tk op wn jn cq cm : Nat) (fk fp ck te yn rc kd mk : Int32) (le : Int64) (hp ir ke : Bool) (my : Nat → Nat) (ai : Nat → Option Nat) (p : Nat) (hmy : myOk my) (hai : obd ai) (hp12 : p < 12) (hR : Rt X (some FieldType.int) (fun r es' => r = some (.int (nI (mMv ke ai p none))) ∧ es' = [ob 11 (.ref (a 0) :: .int (nI tn) :: .int fk :: .int fp :: .ref (a 4) :: .ref (a 5) :: .ref (a 6) :: .ref (a 7) :: .ref (a 8) :: .ref (a 9) :: .ref (a 10) :: .ref (a 11) :: .ref (a 12) :: .ref (a 13) :: .int (nI tr) :: .int (nI fm) :: .int ck :: .int te :: .int (nI fn) :: .ref (a 19) :: .ref (a 20) :: .ref (a 21) :: .ref (a 22) :: .ref (a 23) :: .ref (a 24) :: .ref (a 25) :: .ref (a 26) :: .ref (a 27) :: .int (b2 hp) :: .int yn :: .int (b2 ir) :: .ref (a 31) :: .int rc :: .ref (a 33) :: .int (nI mv) :: .int kd :: .int (nI bg) :: .int (nI en) :: .int mk :: .long le :: .int (nI tk) :: .int (nI op) :: .ref (a 42) :: .int (nI wn) :: .ref (a 44) :: .int (nI jn) :: .ref (a 46) :: .ref (a 47) :: .ref (a 48) :: .ref (a 49) :: .ref (a 50) :: .ref (a 51) :: .int (b2 ke) :: .ref (a 53) :: .ref (a 54) :: .ref (a 55) :: .int (nI cq) :: .int (nI cm) :: []), aI (CxD X) 144 (nf my), aI (CxD X) 12 (opf ai)]) [mo, a 48, a 51]) : Aw X [mo, a 48, a 51] [ob 11 (.ref (a 0) :: .int (nI tn) :: .int fk :: .int fp :: .ref (a 4) :: .ref (a 5) :: .ref (a 6) :: .ref (a 7) :: .ref (a 8) :: .ref (a 9) :: .ref (a 10) :: .ref (a 11) :: .ref (a 12) :: .ref (a 13) :: .int (nI tr) :: .int (nI fm) :: .int ck :: .int te :: .int (nI fn) :: .ref (a 19) :: .ref (a 20) :: .ref (a 21) :: .ref (a 22) :: .ref (a 23) :: .ref (a 24) :: .ref (a 25) :: .ref (a 26) :: .ref (a 27) :: .int (b2 hp) :: .int yn :: .int (b2 ir) :: .ref (a 31) :: .int rc :: .ref (a 33) :: .int (nI mv) :: .int kd :: .int (nI bg) :: .int (nI en) :: .int mk :: .long le :: .int (nI tk) :: .int (nI op) :: .ref (a 42) :: .int (nI wn) :: .ref (a 44) :: .int (nI jn) :: .ref (a 46) :: .ref (a 47) :: .ref (a 48) :: .ref (a 49) :: .ref (a 50) :: .ref (a 51) :: .int (b2 ke) :: .ref (a 53) :: .ref (a 54) :: .ref (a 55) :: .int (nI cq) :: .int (nI cm) :: []), aI (CxD X) 144 (nf my), aI (CxD X) 12 (opf ai)] 0 [(0, .ref mo), (1, .int (nI p)), (2, .int (-1))] [] := by
  refine r_iload_n (n := 1) hX dX11_counts_0 rfl rfl 2 rfl ?_
  refine r_if_lt (tgt := 25) (n := 4) hX dX11_counts_1 (by decide) rfl (fun _ => ?_) (fun h => False.elim (by revert h; decide))
  refine r_iload_n (n := 26) hX dX11_counts_25 rfl rfl 2 rfl ?_
  refine r_if_ge (tgt := 33) (n := 29) hX dX11_counts_26 (by decide) rfl (fun h => False.elim (by revert h; decide)) (fun _ => ?_)
  refine r_iconst (n := 30) hX 0 dX11_counts_29 rfl rfl ?_
  refine r_goto (tgt := 44) hX dX11_counts_30 (by decide) ?_
  refine r_istore_n (n := 45) hX [(0, .ref mo), (1, .int (nI p)), (2, .int (-1)), (3, .int 0)] dX11_counts_44 rfl rfl (by decide) rfl ?_
  refine r_aload_n (n := 46) hX dX11_counts_45 rfl rfl 0 rfl ?_
  refine r_get (n := 49) hX 0 rfl rfl rfl 52 (by decide) lay_X11 fl_X11_304 rfl dX11_counts_46 rfl ?_
  refine r_if_eq_b (tgt := 79) (n := 52) hX dX11_counts_49 (by decide) rfl (fun c49 => ?_) (fun c49 => ?_)
  · skip
    refine r_iload_n (n := 80) hX dX11_counts_79 rfl rfl 3 rfl ?_
    exact r_ireturn hX hR dX11_counts_80 ⟨by unfold mMv; rw [if_neg (by rw [c49]; decide)]; rfl, rfl⟩
  · skip
    refine r_aload_n (n := 53) hX dX11_counts_52 rfl rfl 0 rfl ?_
    refine r_get (n := 56) hX 0 rfl rfl rfl 51 (by decide) lay_X11 fl_X11_104 rfl dX11_counts_53 rfl ?_
    refine r_iload_n (n := 57) hX dX11_counts_56 rfl rfl 1 rfl ?_
    refine r_ialdOn (n := 58) (i := p) hX 2 rfl rfl (by omega) (by decide) dX11_counts_57 rfl ?_
    refine r_if_lt_o (tgt := 79) (n := 61) (x := ai p) hX (fun r e => Nat.lt_trans (hai p r e) (by decide)) dX11_counts_58 (by decide) rfl (fun c58 => ?_) (fun c58 => ?_)
    · skip
      refine r_iload_n (n := 80) hX dX11_counts_79 rfl rfl 3 rfl ?_
      exact r_ireturn hX hR dX11_counts_80 ⟨by unfold mMv; rw [if_pos c49, if_pos c58]; rfl, rfl⟩
    · skip
      refine r_aload_n (n := 62) hX dX11_counts_61 rfl rfl 0 rfl ?_
      refine r_get (n := 65) hX 0 rfl rfl rfl 51 (by decide) lay_X11 fl_X11_104 rfl dX11_counts_62 rfl ?_
      refine r_iload_n (n := 66) hX dX11_counts_65 rfl rfl 1 rfl ?_
      refine r_ialdOn (n := 67) (i := p) hX 2 rfl rfl (by omega) (by decide) dX11_counts_66 rfl ?_
      refine r_iload_n (n := 68) hX dX11_counts_67 rfl rfl 2 rfl ?_
      refine r_icmp_eq_o (tgt := 79) (n := 71) (x := ai p) hX (fun r e => Nat.lt_trans (hai p r e) (by decide)) dX11_counts_68 (by decide) rfl (fun c68 => absurd c68 c58) (fun c68 => ?_)
      refine r_iload_n (n := 72) hX dX11_counts_71 rfl rfl 3 rfl ?_
      refine r_ldcw (n := 75) hX dX11_counts_72 rfl kc_X11_308 ?_
      refine r_iadd (n := 76) hX dX11_counts_75 rfl ?_
      refine Aw.topi (nI (0 + 1000000)) (nI_add _ _) ?_
      refine r_goto (tgt := 80) hX dX11_counts_76 (by decide) ?_
      exact r_ireturn hX hR dX11_counts_80 ⟨by unfold mMv; rw [if_pos c49, if_neg c58, if_neg c58], rfl⟩
theorem ct_mCountsN (l : Launch) (D : va_G) (mo : Nat) (a : Nat → Nat) (tn tr fm fn mv bg en tk op wn jn cq cm : Nat) (fk fp ck te yn rc kd mk : Int32) (le : Int64) (hp ir ke : Bool) (my : Nat → Nat) (ai : Nat → Option Nat) (p : Nat) (hmy : myOk my) (hai : obd ai) (hp12 : p < 12) : Ct l D m_X11_counts 0 [.ref mo, .int (nI p), .int (-1)] [mo, a 48, a 51] [ob 11 (.ref (a 0) :: .int (nI tn) :: .int fk :: .int fp :: .ref (a 4) :: .ref (a 5) :: .ref (a 6) :: .ref (a 7) :: .ref (a 8) :: .ref (a 9) :: .ref (a 10) :: .ref (a 11) :: .ref (a 12) :: .ref (a 13) :: .int (nI tr) :: .int (nI fm) :: .int ck :: .int te :: .int (nI fn) :: .ref (a 19) :: .ref (a 20) :: .ref (a 21) :: .ref (a 22) :: .ref (a 23) :: .ref (a 24) :: .ref (a 25) :: .ref (a 26) :: .ref (a 27) :: .int (b2 hp) :: .int yn :: .int (b2 ir) :: .ref (a 31) :: .int rc :: .ref (a 33) :: .int (nI mv) :: .int kd :: .int (nI bg) :: .int (nI en) :: .int mk :: .long le :: .int (nI tk) :: .int (nI op) :: .ref (a 42) :: .int (nI wn) :: .ref (a 44) :: .int (nI jn) :: .ref (a 46) :: .ref (a 47) :: .ref (a 48) :: .ref (a 49) :: .ref (a 50) :: .ref (a 51) :: .int (b2 ke) :: .ref (a 53) :: .ref (a 54) :: .ref (a 55) :: .int (nI cq) :: .int (nI cm) :: []), aI D 144 (nf my), aI D 12 (opf ai)] (fun r es' => r = some (.int (nI (mMv ke ai p none))) ∧ es' = [ob 11 (.ref (a 0) :: .int (nI tn) :: .int fk :: .int fp :: .ref (a 4) :: .ref (a 5) :: .ref (a 6) :: .ref (a 7) :: .ref (a 8) :: .ref (a 9) :: .ref (a 10) :: .ref (a 11) :: .ref (a 12) :: .ref (a 13) :: .int (nI tr) :: .int (nI fm) :: .int ck :: .int te :: .int (nI fn) :: .ref (a 19) :: .ref (a 20) :: .ref (a 21) :: .ref (a 22) :: .ref (a 23) :: .ref (a 24) :: .ref (a 25) :: .ref (a 26) :: .ref (a 27) :: .int (b2 hp) :: .int yn :: .int (b2 ir) :: .ref (a 31) :: .int rc :: .ref (a 33) :: .int (nI mv) :: .int kd :: .int (nI bg) :: .int (nI en) :: .int mk :: .long le :: .int (nI tk) :: .int (nI op) :: .ref (a 42) :: .int (nI wn) :: .ref (a 44) :: .int (nI jn) :: .ref (a 46) :: .ref (a 47) :: .ref (a 48) :: .ref (a 49) :: .ref (a 50) :: .ref (a 51) :: .int (b2 ke) :: .ref (a 53) :: .ref (a 54) :: .ref (a 55) :: .int (nI cq) :: .int (nI cm) :: []), aI D 144 (nf my), aI D 12 (opf ai)]) :=
  Ct.ofA (own := RX11) (by decide) rfl (Nat.le_of_ble_eq_true rfl) rfl (fun X hl hD hX hR => by subst hl; subst hD; exact wk_mCountsN hX mo a tn tr fm fn mv bg en tk op wn jn cq cm fk fp ck te yn rc kd mk le hp ir ke my ai p hmy hai hp12 hR)
set_option maxHeartbeats 1000000 in
set_option maxRecDepth 100000 in
theorem wk_X11_mayGo {X : Cx} (hX : Ok X cX11_mayGo 3 RX11 0) (mo : Nat) (a : Nat → Nat) (tn tr fm fn mv bg en tk op wn jn cq cm : Nat) (fk fp ck te yn rc kd mk : Int32) (le : Int64) (hp ir ke : Bool) (tr_ : Nat → Bool) (p s : Nat) (hp12 : p < 12) (hs : s < 4096) (hR : Rt X (some FieldType.boolean) (fun r es' => r = some (.int (b2 (mGo tr_ s p))) ∧ es' = [ob 11 (.ref (a 0) :: .int (nI tn) :: .int fk :: .int fp :: .ref (a 4) :: .ref (a 5) :: .ref (a 6) :: .ref (a 7) :: .ref (a 8) :: .ref (a 9) :: .ref (a 10) :: .ref (a 11) :: .ref (a 12) :: .ref (a 13) :: .int (nI tr) :: .int (nI fm) :: .int ck :: .int te :: .int (nI fn) :: .ref (a 19) :: .ref (a 20) :: .ref (a 21) :: .ref (a 22) :: .ref (a 23) :: .ref (a 24) :: .ref (a 25) :: .ref (a 26) :: .ref (a 27) :: .int (b2 hp) :: .int yn :: .int (b2 ir) :: .ref (a 31) :: .int rc :: .ref (a 33) :: .int (nI mv) :: .int kd :: .int (nI bg) :: .int (nI en) :: .int mk :: .long le :: .int (nI tk) :: .int (nI op) :: .ref (a 42) :: .int (nI wn) :: .ref (a 44) :: .int (nI jn) :: .ref (a 46) :: .ref (a 47) :: .ref (a 48) :: .ref (a 49) :: .ref (a 50) :: .ref (a 51) :: .int (b2 ke) :: .ref (a 53) :: .ref (a 54) :: .ref (a 55) :: .int (nI cq) :: .int (nI cm) :: []), aZ (CxD X) 12 (zf tr_)]) [mo, a 49]) : Aw X [mo, a 49] [ob 11 (.ref (a 0) :: .int (nI tn) :: .int fk :: .int fp :: .ref (a 4) :: .ref (a 5) :: .ref (a 6) :: .ref (a 7) :: .ref (a 8) :: .ref (a 9) :: .ref (a 10) :: .ref (a 11) :: .ref (a 12) :: .ref (a 13) :: .int (nI tr) :: .int (nI fm) :: .int ck :: .int te :: .int (nI fn) :: .ref (a 19) :: .ref (a 20) :: .ref (a 21) :: .ref (a 22) :: .ref (a 23) :: .ref (a 24) :: .ref (a 25) :: .ref (a 26) :: .ref (a 27) :: .int (b2 hp) :: .int yn :: .int (b2 ir) :: .ref (a 31) :: .int rc :: .ref (a 33) :: .int (nI mv) :: .int kd :: .int (nI bg) :: .int (nI en) :: .int mk :: .long le :: .int (nI tk) :: .int (nI op) :: .ref (a 42) :: .int (nI wn) :: .ref (a 44) :: .int (nI jn) :: .ref (a 46) :: .ref (a 47) :: .ref (a 48) :: .ref (a 49) :: .ref (a 50) :: .ref (a 51) :: .int (b2 ke) :: .ref (a 53) :: .ref (a 54) :: .ref (a 55) :: .int (nI cq) :: .int (nI cm) :: []), aZ (CxD X) 12 (zf tr_)] 0 [(0, .ref mo), (1, .int (nI p)), (2, .int (nI s))] [] := by
  refine r_iload_n (n := 1) hX dX11_mayGo_0 rfl rfl 2 rfl ?_
  refine r_iload_n (n := 2) hX dX11_mayGo_1 rfl rfl 1 rfl ?_
  refine r_ishr (n := 3) hX dX11_mayGo_2 rfl ?_
  refine r_iconst (n := 4) hX 1 dX11_mayGo_3 rfl rfl ?_
  refine r_iand (n := 5) hX dX11_mayGo_4 rfl ?_
  refine Aw.topi (nI (s / 2 ^ p % 2)) (nb_bit (s := s) (p := p) (by omega) (by omega)) ?_
  refine r_iconst (n := 6) hX 1 dX11_mayGo_5 rfl rfl ?_
  refine r_icmp_eq_n (tgt := 18) (n := 9) hX (s / 2 ^ p % 2) 1 (Nat.lt_trans (Nat.mod_lt _ (by decide)) (by decide)) (by omega) dX11_mayGo_6 (by decide) rfl (fun c6 => ?_) (fun c6 => ?_)
  · skip
    refine r_iconst (n := 19) hX 1 dX11_mayGo_18 rfl rfl ?_
    refine r_goto (tgt := 23) hX dX11_mayGo_19 (by decide) ?_
    exact r_zreturn hX hR rfl dX11_mayGo_23 ⟨by unfold mGo; rw [if_pos ((tb_eq s p).mp c6)]; rfl, rfl⟩
  · skip
    refine r_aload_n (n := 10) hX dX11_mayGo_9 rfl rfl 0 rfl ?_
    refine r_get (n := 13) hX 0 rfl rfl rfl 49 (by decide) lay_X11 fl_X11_98 rfl dX11_mayGo_10 rfl ?_
    refine r_iload_n (n := 14) hX dX11_mayGo_13 rfl rfl 1 rfl ?_
    refine r_zaldbn (n := 15) (i := p) hX 1 rfl rfl (by omega) (by decide) dX11_mayGo_14 rfl ?_
    refine r_if_eq_b (tgt := 22) (n := 18) hX dX11_mayGo_15 (by decide) rfl (fun c15 => ?_) (fun c15 => ?_)
    · skip
      refine r_iconst (n := 23) hX 0 dX11_mayGo_22 rfl rfl ?_
      exact r_zreturn hX hR rfl dX11_mayGo_23 ⟨by unfold mGo; rw [if_neg (fun e => c6 ((tb_eq s p).mpr e)), c15]; rfl, rfl⟩
    · skip
      refine r_iconst (n := 19) hX 1 dX11_mayGo_18 rfl rfl ?_
      refine r_goto (tgt := 23) hX dX11_mayGo_19 (by decide) ?_
      exact r_zreturn hX hR rfl dX11_mayGo_23 ⟨by unfold mGo; rw [if_neg (fun e => c6 ((tb_eq s p).mpr e)), c15]; rfl, rfl⟩
theorem ct_X11_mayGo (l : Launch) (D : va_G) (mo : Nat) (a : Nat → Nat) (tn tr fm fn mv bg en tk op wn jn cq cm : Nat) (fk fp ck te yn rc kd mk : Int32) (le : Int64) (hp ir ke : Bool) (tr_ : Nat → Bool) (p s : Nat) (hp12 : p < 12) (hs : s < 4096) : Ct l D m_X11_mayGo 0 [.ref mo, .int (nI p), .int (nI s)] [mo, a 49] [ob 11 (.ref (a 0) :: .int (nI tn) :: .int fk :: .int fp :: .ref (a 4) :: .ref (a 5) :: .ref (a 6) :: .ref (a 7) :: .ref (a 8) :: .ref (a 9) :: .ref (a 10) :: .ref (a 11) :: .ref (a 12) :: .ref (a 13) :: .int (nI tr) :: .int (nI fm) :: .int ck :: .int te :: .int (nI fn) :: .ref (a 19) :: .ref (a 20) :: .ref (a 21) :: .ref (a 22) :: .ref (a 23) :: .ref (a 24) :: .ref (a 25) :: .ref (a 26) :: .ref (a 27) :: .int (b2 hp) :: .int yn :: .int (b2 ir) :: .ref (a 31) :: .int rc :: .ref (a 33) :: .int (nI mv) :: .int kd :: .int (nI bg) :: .int (nI en) :: .int mk :: .long le :: .int (nI tk) :: .int (nI op) :: .ref (a 42) :: .int (nI wn) :: .ref (a 44) :: .int (nI jn) :: .ref (a 46) :: .ref (a 47) :: .ref (a 48) :: .ref (a 49) :: .ref (a 50) :: .ref (a 51) :: .int (b2 ke) :: .ref (a 53) :: .ref (a 54) :: .ref (a 55) :: .int (nI cq) :: .int (nI cm) :: []), aZ D 12 (zf tr_)] (fun r es' => r = some (.int (b2 (mGo tr_ s p))) ∧ es' = [ob 11 (.ref (a 0) :: .int (nI tn) :: .int fk :: .int fp :: .ref (a 4) :: .ref (a 5) :: .ref (a 6) :: .ref (a 7) :: .ref (a 8) :: .ref (a 9) :: .ref (a 10) :: .ref (a 11) :: .ref (a 12) :: .ref (a 13) :: .int (nI tr) :: .int (nI fm) :: .int ck :: .int te :: .int (nI fn) :: .ref (a 19) :: .ref (a 20) :: .ref (a 21) :: .ref (a 22) :: .ref (a 23) :: .ref (a 24) :: .ref (a 25) :: .ref (a 26) :: .ref (a 27) :: .int (b2 hp) :: .int yn :: .int (b2 ir) :: .ref (a 31) :: .int rc :: .ref (a 33) :: .int (nI mv) :: .int kd :: .int (nI bg) :: .int (nI en) :: .int mk :: .long le :: .int (nI tk) :: .int (nI op) :: .ref (a 42) :: .int (nI wn) :: .ref (a 44) :: .int (nI jn) :: .ref (a 46) :: .ref (a 47) :: .ref (a 48) :: .ref (a 49) :: .ref (a 50) :: .ref (a 51) :: .int (b2 ke) :: .ref (a 53) :: .ref (a 54) :: .ref (a 55) :: .int (nI cq) :: .int (nI cm) :: []), aZ D 12 (zf tr_)]) :=
  Ct.ofA (own := RX11) (by decide) rfl (Nat.le_of_ble_eq_true rfl) rfl (fun X hl hD hX hR => by subst hl; subst hD; exact wk_X11_mayGo hX mo a tn tr fm fn mv bg en tk op wn jn cq cm fk fp ck te yn rc kd mk le hp ir ke tr_ p s hp12 hs hR)
set_option maxHeartbeats 1000000 in
set_option maxRecDepth 100000 in
theorem wk_X11_mayStay {X : Cx} (hX : Ok X cX11_mayStay 3 RX11 0) (mo : Nat) (a : Nat → Nat) (tn tr fm fn mv bg en tk op wn jn cq cm : Nat) (fk fp ck te yn rc kd mk : Int32) (le : Int64) (hp ir ke : Bool) (gv : Nat → Bool) (p s : Nat) (hp12 : p < 12) (hs : s < 4096) (hR : Rt X (some FieldType.boolean) (fun r es' => r = some (.int (b2 (mSt gv s p))) ∧ es' = [ob 11 (.ref (a 0) :: .int (nI tn) :: .int fk :: .int fp :: .ref (a 4) :: .ref (a 5) :: .ref (a 6) :: .ref (a 7) :: .ref (a 8) :: .ref (a 9) :: .ref (a 10) :: .ref (a 11) :: .ref (a 12) :: .ref (a 13) :: .int (nI tr) :: .int (nI fm) :: .int ck :: .int te :: .int (nI fn) :: .ref (a 19) :: .ref (a 20) :: .ref (a 21) :: .ref (a 22) :: .ref (a 23) :: .ref (a 24) :: .ref (a 25) :: .ref (a 26) :: .ref (a 27) :: .int (b2 hp) :: .int yn :: .int (b2 ir) :: .ref (a 31) :: .int rc :: .ref (a 33) :: .int (nI mv) :: .int kd :: .int (nI bg) :: .int (nI en) :: .int mk :: .long le :: .int (nI tk) :: .int (nI op) :: .ref (a 42) :: .int (nI wn) :: .ref (a 44) :: .int (nI jn) :: .ref (a 46) :: .ref (a 47) :: .ref (a 48) :: .ref (a 49) :: .ref (a 50) :: .ref (a 51) :: .int (b2 ke) :: .ref (a 53) :: .ref (a 54) :: .ref (a 55) :: .int (nI cq) :: .int (nI cm) :: []), aZ (CxD X) 12 (zf gv)]) [mo, a 50]) : Aw X [mo, a 50] [ob 11 (.ref (a 0) :: .int (nI tn) :: .int fk :: .int fp :: .ref (a 4) :: .ref (a 5) :: .ref (a 6) :: .ref (a 7) :: .ref (a 8) :: .ref (a 9) :: .ref (a 10) :: .ref (a 11) :: .ref (a 12) :: .ref (a 13) :: .int (nI tr) :: .int (nI fm) :: .int ck :: .int te :: .int (nI fn) :: .ref (a 19) :: .ref (a 20) :: .ref (a 21) :: .ref (a 22) :: .ref (a 23) :: .ref (a 24) :: .ref (a 25) :: .ref (a 26) :: .ref (a 27) :: .int (b2 hp) :: .int yn :: .int (b2 ir) :: .ref (a 31) :: .int rc :: .ref (a 33) :: .int (nI mv) :: .int kd :: .int (nI bg) :: .int (nI en) :: .int mk :: .long le :: .int (nI tk) :: .int (nI op) :: .ref (a 42) :: .int (nI wn) :: .ref (a 44) :: .int (nI jn) :: .ref (a 46) :: .ref (a 47) :: .ref (a 48) :: .ref (a 49) :: .ref (a 50) :: .ref (a 51) :: .int (b2 ke) :: .ref (a 53) :: .ref (a 54) :: .ref (a 55) :: .int (nI cq) :: .int (nI cm) :: []), aZ (CxD X) 12 (zf gv)] 0 [(0, .ref mo), (1, .int (nI p)), (2, .int (nI s))] [] := by
  refine r_iload_n (n := 1) hX dX11_mayStay_0 rfl rfl 2 rfl ?_
  refine r_iload_n (n := 2) hX dX11_mayStay_1 rfl rfl 1 rfl ?_
  refine r_ishr (n := 3) hX dX11_mayStay_2 rfl ?_
  refine r_iconst (n := 4) hX 1 dX11_mayStay_3 rfl rfl ?_
  refine r_iand (n := 5) hX dX11_mayStay_4 rfl ?_
  refine Aw.topi (nI (s / 2 ^ p % 2)) (nb_bit (s := s) (p := p) (by omega) (by omega)) ?_
  refine r_if_eq_n (tgt := 17) (n := 8) hX (s / 2 ^ p % 2) (Nat.lt_trans (Nat.mod_lt _ (by decide)) (by decide)) dX11_mayStay_5 (by decide) rfl (fun c5 => ?_) (fun c5 => ?_)
  · skip
    refine r_iconst (n := 18) hX 1 dX11_mayStay_17 rfl rfl ?_
    refine r_goto (tgt := 22) hX dX11_mayStay_18 (by decide) ?_
    exact r_zreturn hX hR rfl dX11_mayStay_22 ⟨by unfold mSt; rw [if_pos ((tb_0 s p).mp c5)]; rfl, rfl⟩
  · skip
    refine r_aload_n (n := 9) hX dX11_mayStay_8 rfl rfl 0 rfl ?_
    refine r_get (n := 12) hX 0 rfl rfl rfl 50 (by decide) lay_X11 fl_X11_101 rfl dX11_mayStay_9 rfl ?_
    refine r_iload_n (n := 13) hX dX11_mayStay_12 rfl rfl 1 rfl ?_
    refine r_zaldbn (n := 14) (i := p) hX 1 rfl rfl (by omega) (by decide) dX11_mayStay_13 rfl ?_
    refine r_if_eq_b (tgt := 21) (n := 17) hX dX11_mayStay_14 (by decide) rfl (fun c14 => ?_) (fun c14 => ?_)
    · skip
      refine r_iconst (n := 22) hX 0 dX11_mayStay_21 rfl rfl ?_
      exact r_zreturn hX hR rfl dX11_mayStay_22 ⟨by unfold mSt; rw [if_neg (fun e => c5 ((tb_0 s p).mpr e)), c14]; rfl, rfl⟩
    · skip
      refine r_iconst (n := 18) hX 1 dX11_mayStay_17 rfl rfl ?_
      refine r_goto (tgt := 22) hX dX11_mayStay_18 (by decide) ?_
      exact r_zreturn hX hR rfl dX11_mayStay_22 ⟨by unfold mSt; rw [if_neg (fun e => c5 ((tb_0 s p).mpr e)), c14]; rfl, rfl⟩
theorem ct_X11_mayStay (l : Launch) (D : va_G) (mo : Nat) (a : Nat → Nat) (tn tr fm fn mv bg en tk op wn jn cq cm : Nat) (fk fp ck te yn rc kd mk : Int32) (le : Int64) (hp ir ke : Bool) (gv : Nat → Bool) (p s : Nat) (hp12 : p < 12) (hs : s < 4096) : Ct l D m_X11_mayStay 0 [.ref mo, .int (nI p), .int (nI s)] [mo, a 50] [ob 11 (.ref (a 0) :: .int (nI tn) :: .int fk :: .int fp :: .ref (a 4) :: .ref (a 5) :: .ref (a 6) :: .ref (a 7) :: .ref (a 8) :: .ref (a 9) :: .ref (a 10) :: .ref (a 11) :: .ref (a 12) :: .ref (a 13) :: .int (nI tr) :: .int (nI fm) :: .int ck :: .int te :: .int (nI fn) :: .ref (a 19) :: .ref (a 20) :: .ref (a 21) :: .ref (a 22) :: .ref (a 23) :: .ref (a 24) :: .ref (a 25) :: .ref (a 26) :: .ref (a 27) :: .int (b2 hp) :: .int yn :: .int (b2 ir) :: .ref (a 31) :: .int rc :: .ref (a 33) :: .int (nI mv) :: .int kd :: .int (nI bg) :: .int (nI en) :: .int mk :: .long le :: .int (nI tk) :: .int (nI op) :: .ref (a 42) :: .int (nI wn) :: .ref (a 44) :: .int (nI jn) :: .ref (a 46) :: .ref (a 47) :: .ref (a 48) :: .ref (a 49) :: .ref (a 50) :: .ref (a 51) :: .int (b2 ke) :: .ref (a 53) :: .ref (a 54) :: .ref (a 55) :: .int (nI cq) :: .int (nI cm) :: []), aZ D 12 (zf gv)] (fun r es' => r = some (.int (b2 (mSt gv s p))) ∧ es' = [ob 11 (.ref (a 0) :: .int (nI tn) :: .int fk :: .int fp :: .ref (a 4) :: .ref (a 5) :: .ref (a 6) :: .ref (a 7) :: .ref (a 8) :: .ref (a 9) :: .ref (a 10) :: .ref (a 11) :: .ref (a 12) :: .ref (a 13) :: .int (nI tr) :: .int (nI fm) :: .int ck :: .int te :: .int (nI fn) :: .ref (a 19) :: .ref (a 20) :: .ref (a 21) :: .ref (a 22) :: .ref (a 23) :: .ref (a 24) :: .ref (a 25) :: .ref (a 26) :: .ref (a 27) :: .int (b2 hp) :: .int yn :: .int (b2 ir) :: .ref (a 31) :: .int rc :: .ref (a 33) :: .int (nI mv) :: .int kd :: .int (nI bg) :: .int (nI en) :: .int mk :: .long le :: .int (nI tk) :: .int (nI op) :: .ref (a 42) :: .int (nI wn) :: .ref (a 44) :: .int (nI jn) :: .ref (a 46) :: .ref (a 47) :: .ref (a 48) :: .ref (a 49) :: .ref (a 50) :: .ref (a 51) :: .int (b2 ke) :: .ref (a 53) :: .ref (a 54) :: .ref (a 55) :: .int (nI cq) :: .int (nI cm) :: []), aZ D 12 (zf gv)]) :=
  Ct.ofA (own := RX11) (by decide) rfl (Nat.le_of_ble_eq_true rfl) rfl (fun X hl hD hX hR => by subst hl; subst hD; exact wk_X11_mayStay hX mo a tn tr fm fn mv bg en tk op wn jn cq cm fk fp ck te yn rc kd mk le hp ir ke gv p s hp12 hs hR)
set_option maxHeartbeats 1000000 in
set_option maxRecDepth 100000 in
theorem wk_X11_sum {X : Cx} (hX : Ok X cX11_sum 2 RX11 0) (x y : Nat) (hx : x < 2 ^ 30) (hy : y < 2 ^ 30) (hR : Rt X (some FieldType.int) (fun r es' => r = some (.int (nI (mSu x y))) ∧ es' = []) []) : Aw X [] [] 0 [(0, .int (nI x)), (1, .int (nI y))] [] := by
  refine r_iload_n (n := 1) hX dX11_sum_0 rfl rfl 0 rfl ?_
  refine r_ldcw (n := 4) hX dX11_sum_1 rfl kc_X11_303 ?_
  refine r_icmp_ge_n (tgt := 14) (n := 7) hX x 100000000 (by omega) (by omega) dX11_sum_4 (by decide) rfl (fun c4 => ?_) (fun c4 => ?_)
  · skip
    refine r_ldcw (n := 17) hX dX11_sum_14 rfl kc_X11_303 ?_
    refine r_goto (tgt := 23) hX dX11_sum_17 (by decide) ?_
    exact r_ireturn hX hR dX11_sum_23 ⟨by unfold mSu; first | (rw [if_pos c4]; rfl) | (rw [if_neg (Nat.not_le.mpr c4), if_pos c11]; done) | (rw [if_neg (Nat.not_le.mpr c4), if_neg (Nat.not_lt.mpr c11)]; rfl), rfl⟩
  · skip
    refine r_iload_n (n := 8) hX dX11_sum_7 rfl rfl 1 rfl ?_
    refine r_ldcw (n := 11) hX dX11_sum_8 rfl kc_X11_303 ?_
    refine r_icmp_lt_n (tgt := 20) (n := 14) hX y 100000000 (by omega) (by omega) dX11_sum_11 (by decide) rfl (fun c11 => ?_) (fun c11 => ?_)
    · skip
      refine r_iload_n (n := 21) hX dX11_sum_20 rfl rfl 0 rfl ?_
      refine r_iload_n (n := 22) hX dX11_sum_21 rfl rfl 1 rfl ?_
      refine r_iadd (n := 23) hX dX11_sum_22 rfl ?_
      refine Aw.topi (nI (x + y)) (nI_add _ _) ?_
      exact r_ireturn hX hR dX11_sum_23 ⟨by unfold mSu; first | (rw [if_pos c4]; rfl) | (rw [if_neg (Nat.not_le.mpr c4), if_pos c11]; done) | (rw [if_neg (Nat.not_le.mpr c4), if_neg (Nat.not_lt.mpr c11)]; rfl), rfl⟩
    · skip
      refine r_ldcw (n := 17) hX dX11_sum_14 rfl kc_X11_303 ?_
      refine r_goto (tgt := 23) hX dX11_sum_17 (by decide) ?_
      exact r_ireturn hX hR dX11_sum_23 ⟨by unfold mSu; first | (rw [if_pos c4]; rfl) | (rw [if_neg (Nat.not_le.mpr c4), if_pos c11]; done) | (rw [if_neg (Nat.not_le.mpr c4), if_neg (Nat.not_lt.mpr c11)]; rfl), rfl⟩
theorem ct_X11_sum (l : Launch) (D : va_G) (x y : Nat) (hx : x < 2 ^ 30) (hy : y < 2 ^ 30) : Ct l D m_X11_sum 0 [.int (nI x), .int (nI y)] [] [] (fun r es' => r = some (.int (nI (mSu x y))) ∧ es' = []) :=
  Ct.ofA (own := RX11) (by decide) rfl (Nat.le_of_ble_eq_true rfl) rfl (fun X hl hD hX hR => by subst hl; subst hD; exact wk_X11_sum hX x y hx hy hR)

/-- the homes of p, from h on: F what is left to count behind p -/
def mB1 (my : Nat → Nat) (ke : Bool) (ai : Nat → Option Nat) (F : Nat → Nat) (p part s : Nat) : Nat → Nat → Nat → Nat
  | 0, _, b => b
  | m + 1, h, b => mB1 my ke ai F p part s m (h + 1) (if s.testBit h = true then (if part.testBit h = true then b else if mSu (mCn my ke ai p h) (F (part ||| 2 ^ h)) < b then mSu (mCn my ke ai p h) (F (part ||| 2 ^ h)) else b) else b)
def mBe (my : Nat → Nat) (ke : Bool) (ai : Nat → Option Nat) (tr gv : Nat → Bool) (n : Nat) (F : Nat → Nat) (p part s : Nat) : Nat := if mGo tr s p = true then mB1 my ke ai F p part s n 0 (if mSt gv s p = true then mSu (mMv ke ai p none) (F part) else 100000000) else (if mSt gv s p = true then mSu (mMv ke ai p none) (F part) else 100000000)
theorem mB1_le {my : Nat → Nat} {ke : Bool} {ai : Nat → Option Nat} {F : Nat → Nat} {p part s : Nat} : ∀ (m h b : Nat), b ≤ 200000000 → mB1 my ke ai F p part s m h b ≤ 200000000
  | 0, h, b, hb => hb
  | m + 1, h, b, hb => by
    unfold mB1
    refine mB1_le m (h + 1) _ ?_
    split
    · split
      · exact hb
      · split
        · exact mSu_le
        · exact hb
    · exact hb
theorem mBe_le {my : Nat → Nat} {ke : Bool} {ai : Nat → Option Nat} {tr gv : Nat → Bool} {n : Nat} {F : Nat → Nat} {p part s : Nat} : mBe my ke ai tr gv n F p part s ≤ 200000000 := by
  unfold mBe
  have h : (if mSt gv s p = true then mSu (mMv ke ai p none) (F part) else 100000000) ≤ 200000000 := by
    split
    · exact mSu_le
    · decide
  split
  · exact mB1_le _ _ _ h
  · exact h
def lsOk (L : Nat → Nat) : Prop := ∀ i, L i ≤ 200000000

set_option maxHeartbeats 1000000 in
set_option maxRecDepth 100000 in
theorem lp_best {X : Cx} (hX : Ok X cX11_best 7 RX11 1) (mo : Nat) (a : Nat → Nat) (tn tr fm fn mv bg en tk op wn jn cq cm : Nat) (fk fp ck te yn rc kd mk : Int32) (le : Int64) (hp ir ke : Bool) (my : Nat → Nat) (ai : Nat → Option Nat) (tr_ gv : Nat → Bool) (L : Nat → Nat) (p part s : Nat) (hf : fm ≤ 12) (hmy : myOk my) (hai : obd ai) (hL : lsOk L) (hpf : p < fm) (hpt : part < 4096) (hs : s < 4096) (hgo : mGo tr_ s p = true) (b0 : Nat) (hF : mB1 my ke ai (fun j => L (4096 * (p + 1) + j)) p part s fm 0 b0 = mBe my ke ai tr_ gv fm (fun j => L (4096 * (p + 1) + j)) p part s) (hR : Rt X (some FieldType.int) (fun r es' => r = some (.int (nI (mBe my ke ai tr_ gv fm (fun j => L (4096 * (p + 1) + j)) p part s))) ∧ es' = [ob 11 (.ref (a 0) :: .int (nI tn) :: .int fk :: .int fp :: .ref (a 4) :: .ref (a 5) :: .ref (a 6) :: .ref (a 7) :: .ref (a 8) :: .ref (a 9) :: .ref (a 10) :: .ref (a 11) :: .ref (a 12) :: .ref (a 13) :: .int (nI tr) :: .int (nI fm) :: .int ck :: .int te :: .int (nI fn) :: .ref (a 19) :: .ref (a 20) :: .ref (a 21) :: .ref (a 22) :: .ref (a 23) :: .ref (a 24) :: .ref (a 25) :: .ref (a 26) :: .ref (a 27) :: .int (b2 hp) :: .int yn :: .int (b2 ir) :: .ref (a 31) :: .int rc :: .ref (a 33) :: .int (nI mv) :: .int kd :: .int (nI bg) :: .int (nI en) :: .int mk :: .long le :: .int (nI tk) :: .int (nI op) :: .ref (a 42) :: .int (nI wn) :: .ref (a 44) :: .int (nI jn) :: .ref (a 46) :: .ref (a 47) :: .ref (a 48) :: .ref (a 49) :: .ref (a 50) :: .ref (a 51) :: .int (b2 ke) :: .ref (a 53) :: .ref (a 54) :: .ref (a 55) :: .int (nI cq) :: .int (nI cm) :: []), aI (CxD X) 144 (nf my), aI (CxD X) 12 (opf ai), aZ (CxD X) 12 (zf tr_), aZ (CxD X) 12 (zf gv), aI (CxD X) 53248 (nf L)]) [mo, a 48, a 51, a 49, a 50, a 53]) : ∀ (m h b : Nat), h + m = fm → b ≤ 200000000 → mB1 my ke ai (fun j => L (4096 * (p + 1) + j)) p part s m h b = mB1 my ke ai (fun j => L (4096 * (p + 1) + j)) p part s fm 0 b0 → Aw X [mo, a 48, a 51, a 49, a 50, a 53] [ob 11 (.ref (a 0) :: .int (nI tn) :: .int fk :: .int fp :: .ref (a 4) :: .ref (a 5) :: .ref (a 6) :: .ref (a 7) :: .ref (a 8) :: .ref (a 9) :: .ref (a 10) :: .ref (a 11) :: .ref (a 12) :: .ref (a 13) :: .int (nI tr) :: .int (nI fm) :: .int ck :: .int te :: .int (nI fn) :: .ref (a 19) :: .ref (a 20) :: .ref (a 21) :: .ref (a 22) :: .ref (a 23) :: .ref (a 24) :: .ref (a 25) :: .ref (a 26) :: .ref (a 27) :: .int (b2 hp) :: .int yn :: .int (b2 ir) :: .ref (a 31) :: .int rc :: .ref (a 33) :: .int (nI mv) :: .int kd :: .int (nI bg) :: .int (nI en) :: .int mk :: .long le :: .int (nI tk) :: .int (nI op) :: .ref (a 42) :: .int (nI wn) :: .ref (a 44) :: .int (nI jn) :: .ref (a 46) :: .ref (a 47) :: .ref (a 48) :: .ref (a 49) :: .ref (a 50) :: .ref (a 51) :: .int (b2 ke) :: .ref (a 53) :: .ref (a 54) :: .ref (a 55) :: .int (nI cq) :: .int (nI cm) :: []), aI (CxD X) 144 (nf my), aI (CxD X) 12 (opf ai), aZ (CxD X) 12 (zf tr_), aZ (CxD X) 12 (zf gv), aI (CxD X) 53248 (nf L)] 42 [(0, .ref mo), (1, .int (nI p)), (2, .int (nI part)), (3, .int (nI s)), (4, .int (nI b)), (5, .int (nI h))] [] := by
  intro m
  induction m with
  | zero =>
    intro h b hh hb he
    refine r_iload (n := 44) hX dX11_best_42 rfl 5 rfl ?_
    refine r_aload_n (n := 45) hX dX11_best_44 rfl rfl 0 rfl ?_
    refine r_get (n := 48) hX 0 rfl rfl rfl 15 (by decide) lay_X11 fl_X11_251 rfl dX11_best_45 rfl ?_
    refine r_icmp_ge_n (tgt := 132) (n := 51) hX h fm (by omega) (by omega) dX11_best_48 (by decide) rfl (fun c48 => ?_) (fun c48 => absurd c48 (by omega))
    refine r_iload (n := 134) hX dX11_best_132 rfl 4 rfl ?_
    exact r_ireturn hX hR dX11_best_134 ⟨by rw [← hF, ← he]; rfl, rfl⟩
  | succ m ih =>
    intro h b hh hb he
    refine r_iload (n := 44) hX dX11_best_42 rfl 5 rfl ?_
    refine r_aload_n (n := 45) hX dX11_best_44 rfl rfl 0 rfl ?_
    refine r_get (n := 48) hX 0 rfl rfl rfl 15 (by decide) lay_X11 fl_X11_251 rfl dX11_best_45 rfl ?_
    refine r_icmp_ge_n (tgt := 132) (n := 51) hX h fm (by omega) (by omega) dX11_best_48 (by decide) rfl (fun c48 => absurd c48 (by omega)) (fun c48 => ?_)
    refine r_aload_n (n := 52) hX dX11_best_51 rfl rfl 0 rfl ?_
    refine r_iload_n (n := 53) hX dX11_best_52 rfl rfl 1 rfl ?_
    refine r_iload_n (n := 54) hX dX11_best_53 rfl rfl 3 rfl ?_
    refine r_callV (n := 57) (av := [.int (nI p), .int (nI s)]) hX (ct_X11_mayGo (CxL X) (CxD X) mo a tn tr fm fn mv bg en tk op wn jn cq cm fk fp ck te yn rc kd mk le hp ir ke tr_ p s (by omega) hs) ml_X11_322 cv_X11_mayGo rfl (by decide) [0, 3] rfl rfl (by decide) 0 rfl rfl rfl rfl rfl (Nat.le_of_ble_eq_true rfl) dX11_best_54 rfl (fun r_ es_ h_ l_ => ?_)
    obtain ⟨rfl, rfl⟩ := h_
    show Aw X [mo, a 48, a 51, a 49, a 50, a 53] [ob 11 (.ref (a 0) :: .int (nI tn) :: .int fk :: .int fp :: .ref (a 4) :: .ref (a 5) :: .ref (a 6) :: .ref (a 7) :: .ref (a 8) :: .ref (a 9) :: .ref (a 10) :: .ref (a 11) :: .ref (a 12) :: .ref (a 13) :: .int (nI tr) :: .int (nI fm) :: .int ck :: .int te :: .int (nI fn) :: .ref (a 19) :: .ref (a 20) :: .ref (a 21) :: .ref (a 22) :: .ref (a 23) :: .ref (a 24) :: .ref (a 25) :: .ref (a 26) :: .ref (a 27) :: .int (b2 hp) :: .int yn :: .int (b2 ir) :: .ref (a 31) :: .int rc :: .ref (a 33) :: .int (nI mv) :: .int kd :: .int (nI bg) :: .int (nI en) :: .int mk :: .long le :: .int (nI tk) :: .int (nI op) :: .ref (a 42) :: .int (nI wn) :: .ref (a 44) :: .int (nI jn) :: .ref (a 46) :: .ref (a 47) :: .ref (a 48) :: .ref (a 49) :: .ref (a 50) :: .ref (a 51) :: .int (b2 ke) :: .ref (a 53) :: .ref (a 54) :: .ref (a 55) :: .int (nI cq) :: .int (nI cm) :: []), aI (CxD X) 144 (nf my), aI (CxD X) 12 (opf ai), aZ (CxD X) 12 (zf tr_), aZ (CxD X) 12 (zf gv), aI (CxD X) 53248 (nf L)] 57 [(0, .ref mo), (1, .int (nI p)), (2, .int (nI part)), (3, .int (nI s)), (4, .int (nI b)), (5, .int (nI h))] [.int (b2 (mGo tr_ s p))]
    refine r_if_eq_b (tgt := 132) (n := 60) hX dX11_best_57 (by decide) rfl (fun c57 => absurd c57 (by rw [hgo]; decide)) (fun c57 => ?_)
    refine r_iload_n (n := 61) hX dX11_best_60 rfl rfl 3 rfl ?_
    refine r_iload (n := 63) hX dX11_best_61 rfl 5 rfl ?_
    refine r_ishr (n := 64) hX dX11_best_63 rfl ?_
    refine r_iconst (n := 65) hX 1 dX11_best_64 rfl rfl ?_
    refine r_iand (n := 66) hX dX11_best_65 rfl ?_
    refine Aw.topi (nI (s / 2 ^ h % 2)) (nb_bit (s := s) (p := h) (by omega) (by omega)) ?_
    refine r_iconst (n := 67) hX 1 dX11_best_66 rfl rfl ?_
    refine r_icmp_ne_n (tgt := 126) (n := 70) hX (s / 2 ^ h % 2) 1 (Nat.lt_trans (Nat.mod_lt _ (by decide)) (by decide)) (by omega) dX11_best_67 (by decide) rfl (fun c67 => ?_) (fun c67 => ?_)
    · skip
      refine r_iinc (n := 129) hX (nI (h + 1)) [(0, .ref mo), (1, .int (nI p)), (2, .int (nI part)), (3, .int (nI s)), (4, .int (nI b)), (5, .int (nI (h + 1)))] dX11_best_126 rfl 5 rfl (nI_add _ _) (by decide) rfl ?_
      refine r_goto (tgt := 42) hX dX11_best_129 (by decide) ?_
      exact ih (h + 1) _ (by omega) hb (by rw [← he, mB1, if_neg (fun e => c67 ((tb_eq s h).mpr e))])
    · skip
      refine r_iload_n (n := 71) hX dX11_best_70 rfl rfl 2 rfl ?_
      refine r_iload (n := 73) hX dX11_best_71 rfl 5 rfl ?_
      refine r_ishr (n := 74) hX dX11_best_73 rfl ?_
      refine r_iconst (n := 75) hX 1 dX11_best_74 rfl rfl ?_
      refine r_iand (n := 76) hX dX11_best_75 rfl ?_
      refine Aw.topi (nI (part / 2 ^ h % 2)) (nb_bit (s := part) (p := h) (by omega) (by omega)) ?_
      refine r_if_ne_n (tgt := 126) (n := 79) hX (part / 2 ^ h % 2) (Nat.lt_trans (Nat.mod_lt _ (by decide)) (by decide)) dX11_best_76 (by decide) rfl (fun c76 => ?_) (fun c76 => ?_)
      · skip
        refine r_iinc (n := 129) hX (nI (h + 1)) [(0, .ref mo), (1, .int (nI p)), (2, .int (nI part)), (3, .int (nI s)), (4, .int (nI b)), (5, .int (nI (h + 1)))] dX11_best_126 rfl 5 rfl (nI_add _ _) (by decide) rfl ?_
        refine r_goto (tgt := 42) hX dX11_best_129 (by decide) ?_
        exact ih (h + 1) _ (by omega) hb (by rw [← he, mB1, if_pos ((tb_eq s h).mp c67), if_pos (by cases e : part.testBit h with | true => rfl | false => exact absurd ((tb_0 part h).mpr e) c76)])
      · skip
        refine r_aload_n (n := 80) hX dX11_best_79 rfl rfl 0 rfl ?_
        refine r_iload_n (n := 81) hX dX11_best_80 rfl rfl 1 rfl ?_
        refine r_iload (n := 83) hX dX11_best_81 rfl 5 rfl ?_
        refine r_callV (n := 86) (av := [.int (nI p), .int (nI h)]) hX (ct_X11_counts (CxL X) (CxD X) mo a tn tr fm fn mv bg en tk op wn jn cq cm fk fp ck te yn rc kd mk le hp ir ke my ai p h hmy hai (by omega) (by omega)) ml_X11_315 cv_X11_counts rfl (by decide) [0, 1, 2] rfl rfl (by decide) 0 rfl rfl rfl rfl rfl (Nat.le_of_ble_eq_true rfl) dX11_best_83 rfl (fun r_ es_ h_ l_ => ?_)
        obtain ⟨rfl, rfl⟩ := h_
        show Aw X [mo, a 48, a 51, a 49, a 50, a 53] [ob 11 (.ref (a 0) :: .int (nI tn) :: .int fk :: .int fp :: .ref (a 4) :: .ref (a 5) :: .ref (a 6) :: .ref (a 7) :: .ref (a 8) :: .ref (a 9) :: .ref (a 10) :: .ref (a 11) :: .ref (a 12) :: .ref (a 13) :: .int (nI tr) :: .int (nI fm) :: .int ck :: .int te :: .int (nI fn) :: .ref (a 19) :: .ref (a 20) :: .ref (a 21) :: .ref (a 22) :: .ref (a 23) :: .ref (a 24) :: .ref (a 25) :: .ref (a 26) :: .ref (a 27) :: .int (b2 hp) :: .int yn :: .int (b2 ir) :: .ref (a 31) :: .int rc :: .ref (a 33) :: .int (nI mv) :: .int kd :: .int (nI bg) :: .int (nI en) :: .int mk :: .long le :: .int (nI tk) :: .int (nI op) :: .ref (a 42) :: .int (nI wn) :: .ref (a 44) :: .int (nI jn) :: .ref (a 46) :: .ref (a 47) :: .ref (a 48) :: .ref (a 49) :: .ref (a 50) :: .ref (a 51) :: .int (b2 ke) :: .ref (a 53) :: .ref (a 54) :: .ref (a 55) :: .int (nI cq) :: .int (nI cm) :: []), aI (CxD X) 144 (nf my), aI (CxD X) 12 (opf ai), aZ (CxD X) 12 (zf tr_), aZ (CxD X) 12 (zf gv), aI (CxD X) 53248 (nf L)] 86 [(0, .ref mo), (1, .int (nI p)), (2, .int (nI part)), (3, .int (nI s)), (4, .int (nI b)), (5, .int (nI h))] [.int (nI (mCn my ke ai p h))]
        refine r_aload_n (n := 87) hX dX11_best_86 rfl rfl 0 rfl ?_
        refine r_get (n := 90) hX 0 rfl rfl rfl 53 (by decide) lay_X11 fl_X11_108 rfl dX11_best_87 rfl ?_
        refine r_sipush (n := 93) hX 4096 dX11_best_90 rfl rfl ?_
        refine r_iload_n (n := 94) hX dX11_best_93 rfl rfl 1 rfl ?_
        refine r_iconst (n := 95) hX 1 dX11_best_94 rfl rfl ?_
        refine r_iadd (n := 96) hX dX11_best_95 rfl ?_
        refine Aw.topi (nI (p + 1)) (nI_add _ _) ?_
        refine r_imul (n := 97) hX dX11_best_96 rfl ?_
        refine Aw.topi (nI (4096 * (p + 1))) (pk_mul _ _) ?_
        refine r_iload_n (n := 98) hX dX11_best_97 rfl rfl 2 rfl ?_
        refine r_iconst (n := 99) hX 1 dX11_best_98 rfl rfl ?_
        refine r_iload (n := 101) hX dX11_best_99 rfl 5 rfl ?_
        refine r_ishl (n := 102) hX dX11_best_101 rfl ?_
        refine Aw.topi (nI (2 ^ h)) (nb_shl (by omega)) ?_
        refine r_ior (n := 103) hX dX11_best_102 rfl ?_
        refine Aw.topi (nI (part ||| 2 ^ h)) (nb_or _ _) ?_
        refine r_iadd (n := 104) hX dX11_best_103 rfl ?_
        refine Aw.topi (nI ((4096 * (p + 1)) + (part ||| 2 ^ h))) (nI_add _ _) ?_
        have hor := or_lt12 hpt (show h < 12 by omega)
        refine r_ialdNn (n := 105) (i := ((4096 * (p + 1)) + (part ||| 2 ^ h))) hX 5 rfl rfl (by omega) (by decide) dX11_best_104 rfl ?_
        refine r_callS (n := 108) (av := [.int (nI (mCn my ke ai p h)), .int (nI (L ((4096 * (p + 1)) + (part ||| 2 ^ h))))]) hX (ct_X11_sum (CxL X) (CxD X) (mCn my ke ai p h) (L ((4096 * (p + 1)) + (part ||| 2 ^ h))) (Nat.lt_of_le_of_lt (mCn_le hmy) (by decide)) (Nat.lt_of_le_of_lt (hL _) (by decide))) ml_X11_319 cs_X11_sum rfl (by decide) [] rfl rfl (by decide) rfl (Nat.le_of_ble_eq_true rfl) dX11_best_105 rfl (fun r_ es_ h_ l_ => ?_)
        obtain ⟨rfl, rfl⟩ := h_
        show Aw X [mo, a 48, a 51, a 49, a 50, a 53] [ob 11 (.ref (a 0) :: .int (nI tn) :: .int fk :: .int fp :: .ref (a 4) :: .ref (a 5) :: .ref (a 6) :: .ref (a 7) :: .ref (a 8) :: .ref (a 9) :: .ref (a 10) :: .ref (a 11) :: .ref (a 12) :: .ref (a 13) :: .int (nI tr) :: .int (nI fm) :: .int ck :: .int te :: .int (nI fn) :: .ref (a 19) :: .ref (a 20) :: .ref (a 21) :: .ref (a 22) :: .ref (a 23) :: .ref (a 24) :: .ref (a 25) :: .ref (a 26) :: .ref (a 27) :: .int (b2 hp) :: .int yn :: .int (b2 ir) :: .ref (a 31) :: .int rc :: .ref (a 33) :: .int (nI mv) :: .int kd :: .int (nI bg) :: .int (nI en) :: .int mk :: .long le :: .int (nI tk) :: .int (nI op) :: .ref (a 42) :: .int (nI wn) :: .ref (a 44) :: .int (nI jn) :: .ref (a 46) :: .ref (a 47) :: .ref (a 48) :: .ref (a 49) :: .ref (a 50) :: .ref (a 51) :: .int (b2 ke) :: .ref (a 53) :: .ref (a 54) :: .ref (a 55) :: .int (nI cq) :: .int (nI cm) :: []), aI (CxD X) 144 (nf my), aI (CxD X) 12 (opf ai), aZ (CxD X) 12 (zf tr_), aZ (CxD X) 12 (zf gv), aI (CxD X) 53248 (nf L)] 108 [(0, .ref mo), (1, .int (nI p)), (2, .int (nI part)), (3, .int (nI s)), (4, .int (nI b)), (5, .int (nI h))] [.int (nI (mSu (mCn my ke ai p h) (L ((4096 * (p + 1)) + (part ||| 2 ^ h)))))]
        refine r_istore (n := 110) hX [(0, .ref mo), (1, .int (nI p)), (2, .int (nI part)), (3, .int (nI s)), (4, .int (nI b)), (5, .int (nI h)), (6, .int (nI (mSu (mCn my ke ai p h) (L ((4096 * (p + 1)) + (part ||| 2 ^ h))))))] dX11_best_108 rfl (by decide) rfl ?_
        refine r_iload (n := 112) hX dX11_best_110 rfl 6 rfl ?_
        refine r_iload (n := 114) hX dX11_best_112 rfl 4 rfl ?_
        refine r_icmp_ge_n (tgt := 122) (n := 117) hX (mSu (mCn my ke ai p h) (L ((4096 * (p + 1)) + (part ||| 2 ^ h)))) b (Nat.lt_of_le_of_lt mSu_le (by decide)) (by omega) dX11_best_114 (by decide) rfl (fun c114 => ?_) (fun c114 => ?_)
        · skip
          refine r_iload (n := 124) hX dX11_best_122 rfl 4 rfl ?_
          refine r_istore (n := 126) hX [(0, .ref mo), (1, .int (nI p)), (2, .int (nI part)), (3, .int (nI s)), (4, .int (nI b)), (5, .int (nI h)), (6, .int (nI (mSu (mCn my ke ai p h) (L ((4096 * (p + 1)) + (part ||| 2 ^ h))))))] dX11_best_124 rfl (by decide) rfl ?_
          refine r_iinc (n := 129) hX (nI (h + 1)) [(0, .ref mo), (1, .int (nI p)), (2, .int (nI part)), (3, .int (nI s)), (4, .int (nI b)), (5, .int (nI (h + 1))), (6, .int (nI (mSu (mCn my ke ai p h) (L ((4096 * (p + 1)) + (part ||| 2 ^ h))))))] dX11_best_126 rfl 5 rfl (nI_add _ _) (by decide) rfl ?_
          refine r_goto (tgt := 42) hX dX11_best_129 (by decide) ?_
          refine Aw.loc (lv' := [(0, .ref mo), (1, .int (nI p)), (2, .int (nI part)), (3, .int (nI s)), (4, .int (nI b)), (5, .int (nI (h + 1)))]) [0, 1, 2, 3, 4, 5] rfl ?_
          exact ih (h + 1) _ (by omega) hb (by rw [← he, mB1, if_pos ((tb_eq s h).mp c67), if_neg (by rw [(tb_0 part h).mp c76]; decide), if_neg (Nat.not_lt.mpr c114)])
        · skip
          refine r_iload (n := 119) hX dX11_best_117 rfl 6 rfl ?_
          refine r_goto (tgt := 124) hX dX11_best_119 (by decide) ?_
          refine r_istore (n := 126) hX [(0, .ref mo), (1, .int (nI p)), (2, .int (nI part)), (3, .int (nI s)), (4, .int (nI (mSu (mCn my ke ai p h) (L ((4096 * (p + 1)) + (part ||| 2 ^ h)))))), (5, .int (nI h)), (6, .int (nI (mSu (mCn my ke ai p h) (L ((4096 * (p + 1)) + (part ||| 2 ^ h))))))] dX11_best_124 rfl (by decide) rfl ?_
          refine r_iinc (n := 129) hX (nI (h + 1)) [(0, .ref mo), (1, .int (nI p)), (2, .int (nI part)), (3, .int (nI s)), (4, .int (nI (mSu (mCn my ke ai p h) (L ((4096 * (p + 1)) + (part ||| 2 ^ h)))))), (5, .int (nI (h + 1))), (6, .int (nI (mSu (mCn my ke ai p h) (L ((4096 * (p + 1)) + (part ||| 2 ^ h))))))] dX11_best_126 rfl 5 rfl (nI_add _ _) (by decide) rfl ?_
          refine r_goto (tgt := 42) hX dX11_best_129 (by decide) ?_
          refine Aw.loc (lv' := [(0, .ref mo), (1, .int (nI p)), (2, .int (nI part)), (3, .int (nI s)), (4, .int (nI (mSu (mCn my ke ai p h) (L ((4096 * (p + 1)) + (part ||| 2 ^ h)))))), (5, .int (nI (h + 1)))]) [0, 1, 2, 3, 4, 5] rfl ?_
          exact ih (h + 1) _ (by omega) (mSu_le) (by rw [← he, mB1, if_pos ((tb_eq s h).mp c67), if_neg (by rw [(tb_0 part h).mp c76]; decide), if_pos c114])
set_option maxHeartbeats 1000000 in
set_option maxRecDepth 100000 in
theorem wk_X11_best {X : Cx} (hX : Ok X cX11_best 7 RX11 1) (mo : Nat) (a : Nat → Nat) (tn tr fm fn mv bg en tk op wn jn cq cm : Nat) (fk fp ck te yn rc kd mk : Int32) (le : Int64) (hp ir ke : Bool) (my : Nat → Nat) (ai : Nat → Option Nat) (tr_ gv : Nat → Bool) (L : Nat → Nat) (p part s : Nat) (hf : fm ≤ 12) (hmy : myOk my) (hai : obd ai) (hL : lsOk L) (hpf : p < fm) (hpt : part < 4096) (hs : s < 4096) (hR : Rt X (some FieldType.int) (fun r es' => r = some (.int (nI (mBe my ke ai tr_ gv fm (fun j => L (4096 * (p + 1) + j)) p part s))) ∧ es' = [ob 11 (.ref (a 0) :: .int (nI tn) :: .int fk :: .int fp :: .ref (a 4) :: .ref (a 5) :: .ref (a 6) :: .ref (a 7) :: .ref (a 8) :: .ref (a 9) :: .ref (a 10) :: .ref (a 11) :: .ref (a 12) :: .ref (a 13) :: .int (nI tr) :: .int (nI fm) :: .int ck :: .int te :: .int (nI fn) :: .ref (a 19) :: .ref (a 20) :: .ref (a 21) :: .ref (a 22) :: .ref (a 23) :: .ref (a 24) :: .ref (a 25) :: .ref (a 26) :: .ref (a 27) :: .int (b2 hp) :: .int yn :: .int (b2 ir) :: .ref (a 31) :: .int rc :: .ref (a 33) :: .int (nI mv) :: .int kd :: .int (nI bg) :: .int (nI en) :: .int mk :: .long le :: .int (nI tk) :: .int (nI op) :: .ref (a 42) :: .int (nI wn) :: .ref (a 44) :: .int (nI jn) :: .ref (a 46) :: .ref (a 47) :: .ref (a 48) :: .ref (a 49) :: .ref (a 50) :: .ref (a 51) :: .int (b2 ke) :: .ref (a 53) :: .ref (a 54) :: .ref (a 55) :: .int (nI cq) :: .int (nI cm) :: []), aI (CxD X) 144 (nf my), aI (CxD X) 12 (opf ai), aZ (CxD X) 12 (zf tr_), aZ (CxD X) 12 (zf gv), aI (CxD X) 53248 (nf L)]) [mo, a 48, a 51, a 49, a 50, a 53]) : Aw X [mo, a 48, a 51, a 49, a 50, a 53] [ob 11 (.ref (a 0) :: .int (nI tn) :: .int fk :: .int fp :: .ref (a 4) :: .ref (a 5) :: .ref (a 6) :: .ref (a 7) :: .ref (a 8) :: .ref (a 9) :: .ref (a 10) :: .ref (a 11) :: .ref (a 12) :: .ref (a 13) :: .int (nI tr) :: .int (nI fm) :: .int ck :: .int te :: .int (nI fn) :: .ref (a 19) :: .ref (a 20) :: .ref (a 21) :: .ref (a 22) :: .ref (a 23) :: .ref (a 24) :: .ref (a 25) :: .ref (a 26) :: .ref (a 27) :: .int (b2 hp) :: .int yn :: .int (b2 ir) :: .ref (a 31) :: .int rc :: .ref (a 33) :: .int (nI mv) :: .int kd :: .int (nI bg) :: .int (nI en) :: .int mk :: .long le :: .int (nI tk) :: .int (nI op) :: .ref (a 42) :: .int (nI wn) :: .ref (a 44) :: .int (nI jn) :: .ref (a 46) :: .ref (a 47) :: .ref (a 48) :: .ref (a 49) :: .ref (a 50) :: .ref (a 51) :: .int (b2 ke) :: .ref (a 53) :: .ref (a 54) :: .ref (a 55) :: .int (nI cq) :: .int (nI cm) :: []), aI (CxD X) 144 (nf my), aI (CxD X) 12 (opf ai), aZ (CxD X) 12 (zf tr_), aZ (CxD X) 12 (zf gv), aI (CxD X) 53248 (nf L)] 0 [(0, .ref mo), (1, .int (nI p)), (2, .int (nI part)), (3, .int (nI s))] [] := by
  refine r_ldcw (n := 3) hX dX11_best_0 rfl kc_X11_303 ?_
  refine r_istore (n := 5) hX [(0, .ref mo), (1, .int (nI p)), (2, .int (nI part)), (3, .int (nI s)), (4, .int 100000000)] dX11_best_3 rfl (by decide) rfl ?_
  refine r_aload_n (n := 6) hX dX11_best_5 rfl rfl 0 rfl ?_
  refine r_iload_n (n := 7) hX dX11_best_6 rfl rfl 1 rfl ?_
  refine r_iload_n (n := 8) hX dX11_best_7 rfl rfl 3 rfl ?_
  refine r_callV (n := 11) (av := [.int (nI p), .int (nI s)]) hX (ct_X11_mayStay (CxL X) (CxD X) mo a tn tr fm fn mv bg en tk op wn jn cq cm fk fp ck te yn rc kd mk le hp ir ke gv p s (by omega) hs) ml_X11_312 cv_X11_mayStay rfl (by decide) [0, 4] rfl rfl (by decide) 0 rfl rfl rfl rfl rfl (Nat.le_of_ble_eq_true rfl) dX11_best_8 rfl (fun r_ es_ h_ l_ => ?_)
  obtain ⟨rfl, rfl⟩ := h_
  show Aw X [mo, a 48, a 51, a 49, a 50, a 53] [ob 11 (.ref (a 0) :: .int (nI tn) :: .int fk :: .int fp :: .ref (a 4) :: .ref (a 5) :: .ref (a 6) :: .ref (a 7) :: .ref (a 8) :: .ref (a 9) :: .ref (a 10) :: .ref (a 11) :: .ref (a 12) :: .ref (a 13) :: .int (nI tr) :: .int (nI fm) :: .int ck :: .int te :: .int (nI fn) :: .ref (a 19) :: .ref (a 20) :: .ref (a 21) :: .ref (a 22) :: .ref (a 23) :: .ref (a 24) :: .ref (a 25) :: .ref (a 26) :: .ref (a 27) :: .int (b2 hp) :: .int yn :: .int (b2 ir) :: .ref (a 31) :: .int rc :: .ref (a 33) :: .int (nI mv) :: .int kd :: .int (nI bg) :: .int (nI en) :: .int mk :: .long le :: .int (nI tk) :: .int (nI op) :: .ref (a 42) :: .int (nI wn) :: .ref (a 44) :: .int (nI jn) :: .ref (a 46) :: .ref (a 47) :: .ref (a 48) :: .ref (a 49) :: .ref (a 50) :: .ref (a 51) :: .int (b2 ke) :: .ref (a 53) :: .ref (a 54) :: .ref (a 55) :: .int (nI cq) :: .int (nI cm) :: []), aI (CxD X) 144 (nf my), aI (CxD X) 12 (opf ai), aZ (CxD X) 12 (zf tr_), aZ (CxD X) 12 (zf gv), aI (CxD X) 53248 (nf L)] 11 [(0, .ref mo), (1, .int (nI p)), (2, .int (nI part)), (3, .int (nI s)), (4, .int 100000000)] [.int (b2 (mSt gv s p))]
  refine r_if_eq_b (tgt := 39) (n := 14) hX dX11_best_11 (by decide) rfl (fun c11 => ?_) (fun c11 => ?_)
  · skip
    refine r_iconst (n := 40) hX 0 dX11_best_39 rfl rfl ?_
    refine r_istore (n := 42) hX [(0, .ref mo), (1, .int (nI p)), (2, .int (nI part)), (3, .int (nI s)), (4, .int 100000000), (5, .int 0)] dX11_best_40 rfl (by decide) rfl ?_
    cases hgo : mGo tr_ s p with
    | true => exact lp_best hX mo a tn tr fm fn mv bg en tk op wn jn cq cm fk fp ck te yn rc kd mk le hp ir ke my ai tr_ gv L p part s hf hmy hai hL hpf hpt hs hgo 100000000 (by rw [mBe, if_pos hgo, if_neg (by rw [c11]; decide)]) hR fm 0 100000000 (by omega) (by omega) rfl
    | false =>
      refine r_iload (n := 44) hX dX11_best_42 rfl 5 rfl ?_
      refine r_aload_n (n := 45) hX dX11_best_44 rfl rfl 0 rfl ?_
      refine r_get (n := 48) hX 0 rfl rfl rfl 15 (by decide) lay_X11 fl_X11_251 rfl dX11_best_45 rfl ?_
      refine r_icmp_ge_n (tgt := 132) (n := 51) hX 0 fm (by omega) (by omega) dX11_best_48 (by decide) rfl (fun c48 => absurd c48 (by omega)) (fun c48 => ?_)
      refine r_aload_n (n := 52) hX dX11_best_51 rfl rfl 0 rfl ?_
      refine r_iload_n (n := 53) hX dX11_best_52 rfl rfl 1 rfl ?_
      refine r_iload_n (n := 54) hX dX11_best_53 rfl rfl 3 rfl ?_
      refine r_callV (n := 57) (av := [.int (nI p), .int (nI s)]) hX (ct_X11_mayGo (CxL X) (CxD X) mo a tn tr fm fn mv bg en tk op wn jn cq cm fk fp ck te yn rc kd mk le hp ir ke tr_ p s (by omega) hs) ml_X11_322 cv_X11_mayGo rfl (by decide) [0, 3] rfl rfl (by decide) 0 rfl rfl rfl rfl rfl (Nat.le_of_ble_eq_true rfl) dX11_best_54 rfl (fun r_ es_ h_ l_ => ?_)
      obtain ⟨rfl, rfl⟩ := h_
      show Aw X [mo, a 48, a 51, a 49, a 50, a 53] [ob 11 (.ref (a 0) :: .int (nI tn) :: .int fk :: .int fp :: .ref (a 4) :: .ref (a 5) :: .ref (a 6) :: .ref (a 7) :: .ref (a 8) :: .ref (a 9) :: .ref (a 10) :: .ref (a 11) :: .ref (a 12) :: .ref (a 13) :: .int (nI tr) :: .int (nI fm) :: .int ck :: .int te :: .int (nI fn) :: .ref (a 19) :: .ref (a 20) :: .ref (a 21) :: .ref (a 22) :: .ref (a 23) :: .ref (a 24) :: .ref (a 25) :: .ref (a 26) :: .ref (a 27) :: .int (b2 hp) :: .int yn :: .int (b2 ir) :: .ref (a 31) :: .int rc :: .ref (a 33) :: .int (nI mv) :: .int kd :: .int (nI bg) :: .int (nI en) :: .int mk :: .long le :: .int (nI tk) :: .int (nI op) :: .ref (a 42) :: .int (nI wn) :: .ref (a 44) :: .int (nI jn) :: .ref (a 46) :: .ref (a 47) :: .ref (a 48) :: .ref (a 49) :: .ref (a 50) :: .ref (a 51) :: .int (b2 ke) :: .ref (a 53) :: .ref (a 54) :: .ref (a 55) :: .int (nI cq) :: .int (nI cm) :: []), aI (CxD X) 144 (nf my), aI (CxD X) 12 (opf ai), aZ (CxD X) 12 (zf tr_), aZ (CxD X) 12 (zf gv), aI (CxD X) 53248 (nf L)] 57 [(0, .ref mo), (1, .int (nI p)), (2, .int (nI part)), (3, .int (nI s)), (4, .int 100000000), (5, .int 0)] [.int (b2 (mGo tr_ s p))]
      refine r_if_eq_b (tgt := 132) (n := 60) hX dX11_best_57 (by decide) rfl (fun c57 => ?_) (fun c57 => absurd c57 (by rw [hgo]; decide))
      refine r_iload (n := 134) hX dX11_best_132 rfl 4 rfl ?_
      exact r_ireturn hX hR dX11_best_134 ⟨by rw [mBe, if_neg (by rw [hgo]; decide), if_neg (by rw [c11]; decide)]; try rfl, rfl⟩
  · skip
    refine r_aload_n (n := 15) hX dX11_best_14 rfl rfl 0 rfl ?_
    refine r_iload_n (n := 16) hX dX11_best_15 rfl rfl 1 rfl ?_
    refine r_iconst (n := 17) hX (-1) dX11_best_16 rfl rfl ?_
    refine r_callV (n := 20) (av := [.int (nI p), .int (-1)]) hX (ct_mCountsN (CxL X) (CxD X) mo a tn tr fm fn mv bg en tk op wn jn cq cm fk fp ck te yn rc kd mk le hp ir ke my ai p hmy hai (by omega)) ml_X11_315 cv_X11_counts rfl (by decide) [0, 1, 2] rfl rfl (by decide) 0 rfl rfl rfl rfl rfl (Nat.le_of_ble_eq_true rfl) dX11_best_17 rfl (fun r_ es_ h_ l_ => ?_)
    obtain ⟨rfl, rfl⟩ := h_
    show Aw X [mo, a 48, a 51, a 49, a 50, a 53] [ob 11 (.ref (a 0) :: .int (nI tn) :: .int fk :: .int fp :: .ref (a 4) :: .ref (a 5) :: .ref (a 6) :: .ref (a 7) :: .ref (a 8) :: .ref (a 9) :: .ref (a 10) :: .ref (a 11) :: .ref (a 12) :: .ref (a 13) :: .int (nI tr) :: .int (nI fm) :: .int ck :: .int te :: .int (nI fn) :: .ref (a 19) :: .ref (a 20) :: .ref (a 21) :: .ref (a 22) :: .ref (a 23) :: .ref (a 24) :: .ref (a 25) :: .ref (a 26) :: .ref (a 27) :: .int (b2 hp) :: .int yn :: .int (b2 ir) :: .ref (a 31) :: .int rc :: .ref (a 33) :: .int (nI mv) :: .int kd :: .int (nI bg) :: .int (nI en) :: .int mk :: .long le :: .int (nI tk) :: .int (nI op) :: .ref (a 42) :: .int (nI wn) :: .ref (a 44) :: .int (nI jn) :: .ref (a 46) :: .ref (a 47) :: .ref (a 48) :: .ref (a 49) :: .ref (a 50) :: .ref (a 51) :: .int (b2 ke) :: .ref (a 53) :: .ref (a 54) :: .ref (a 55) :: .int (nI cq) :: .int (nI cm) :: []), aI (CxD X) 144 (nf my), aI (CxD X) 12 (opf ai), aZ (CxD X) 12 (zf tr_), aZ (CxD X) 12 (zf gv), aI (CxD X) 53248 (nf L)] 20 [(0, .ref mo), (1, .int (nI p)), (2, .int (nI part)), (3, .int (nI s)), (4, .int 100000000)] [.int (nI (mMv ke ai p none))]
    refine r_aload_n (n := 21) hX dX11_best_20 rfl rfl 0 rfl ?_
    refine r_get (n := 24) hX 0 rfl rfl rfl 53 (by decide) lay_X11 fl_X11_108 rfl dX11_best_21 rfl ?_
    refine r_sipush (n := 27) hX 4096 dX11_best_24 rfl rfl ?_
    refine r_iload_n (n := 28) hX dX11_best_27 rfl rfl 1 rfl ?_
    refine r_iconst (n := 29) hX 1 dX11_best_28 rfl rfl ?_
    refine r_iadd (n := 30) hX dX11_best_29 rfl ?_
    refine Aw.topi (nI (p + 1)) (nI_add _ _) ?_
    refine r_imul (n := 31) hX dX11_best_30 rfl ?_
    refine Aw.topi (nI (4096 * (p + 1))) (pk_mul _ _) ?_
    refine r_iload_n (n := 32) hX dX11_best_31 rfl rfl 2 rfl ?_
    refine r_iadd (n := 33) hX dX11_best_32 rfl ?_
    refine Aw.topi (nI ((4096 * (p + 1)) + part)) (nI_add _ _) ?_
    refine r_ialdNn (n := 34) (i := ((4096 * (p + 1)) + part)) hX 5 rfl rfl (by omega) (by decide) dX11_best_33 rfl ?_
    refine r_callS (n := 37) (av := [.int (nI (mMv ke ai p none)), .int (nI (L ((4096 * (p + 1)) + part)))]) hX (ct_X11_sum (CxL X) (CxD X) (mMv ke ai p none) (L ((4096 * (p + 1)) + part)) (Nat.lt_of_le_of_lt mMv_le (by decide)) (Nat.lt_of_le_of_lt (hL _) (by decide))) ml_X11_319 cs_X11_sum rfl (by decide) [] rfl rfl (by decide) rfl (Nat.le_of_ble_eq_true rfl) dX11_best_34 rfl (fun r_ es_ h_ l_ => ?_)
    obtain ⟨rfl, rfl⟩ := h_
    show Aw X [mo, a 48, a 51, a 49, a 50, a 53] [ob 11 (.ref (a 0) :: .int (nI tn) :: .int fk :: .int fp :: .ref (a 4) :: .ref (a 5) :: .ref (a 6) :: .ref (a 7) :: .ref (a 8) :: .ref (a 9) :: .ref (a 10) :: .ref (a 11) :: .ref (a 12) :: .ref (a 13) :: .int (nI tr) :: .int (nI fm) :: .int ck :: .int te :: .int (nI fn) :: .ref (a 19) :: .ref (a 20) :: .ref (a 21) :: .ref (a 22) :: .ref (a 23) :: .ref (a 24) :: .ref (a 25) :: .ref (a 26) :: .ref (a 27) :: .int (b2 hp) :: .int yn :: .int (b2 ir) :: .ref (a 31) :: .int rc :: .ref (a 33) :: .int (nI mv) :: .int kd :: .int (nI bg) :: .int (nI en) :: .int mk :: .long le :: .int (nI tk) :: .int (nI op) :: .ref (a 42) :: .int (nI wn) :: .ref (a 44) :: .int (nI jn) :: .ref (a 46) :: .ref (a 47) :: .ref (a 48) :: .ref (a 49) :: .ref (a 50) :: .ref (a 51) :: .int (b2 ke) :: .ref (a 53) :: .ref (a 54) :: .ref (a 55) :: .int (nI cq) :: .int (nI cm) :: []), aI (CxD X) 144 (nf my), aI (CxD X) 12 (opf ai), aZ (CxD X) 12 (zf tr_), aZ (CxD X) 12 (zf gv), aI (CxD X) 53248 (nf L)] 37 [(0, .ref mo), (1, .int (nI p)), (2, .int (nI part)), (3, .int (nI s)), (4, .int 100000000)] [.int (nI (mSu (mMv ke ai p none) (L ((4096 * (p + 1)) + part))))]
    refine r_istore (n := 39) hX [(0, .ref mo), (1, .int (nI p)), (2, .int (nI part)), (3, .int (nI s)), (4, .int (nI (mSu (mMv ke ai p none) (L ((4096 * (p + 1)) + part)))))] dX11_best_37 rfl (by decide) rfl ?_
    refine r_iconst (n := 40) hX 0 dX11_best_39 rfl rfl ?_
    refine r_istore (n := 42) hX [(0, .ref mo), (1, .int (nI p)), (2, .int (nI part)), (3, .int (nI s)), (4, .int (nI (mSu (mMv ke ai p none) (L ((4096 * (p + 1)) + part))))), (5, .int 0)] dX11_best_40 rfl (by decide) rfl ?_
    cases hgo : mGo tr_ s p with
    | true => exact lp_best hX mo a tn tr fm fn mv bg en tk op wn jn cq cm fk fp ck te yn rc kd mk le hp ir ke my ai tr_ gv L p part s hf hmy hai hL hpf hpt hs hgo (mSu (mMv ke ai p none) (L ((4096 * (p + 1)) + part))) (by rw [mBe, if_pos hgo, if_pos c11]) hR fm 0 (mSu (mMv ke ai p none) (L ((4096 * (p + 1)) + part))) (by omega) mSu_le rfl
    | false =>
      refine r_iload (n := 44) hX dX11_best_42 rfl 5 rfl ?_
      refine r_aload_n (n := 45) hX dX11_best_44 rfl rfl 0 rfl ?_
      refine r_get (n := 48) hX 0 rfl rfl rfl 15 (by decide) lay_X11 fl_X11_251 rfl dX11_best_45 rfl ?_
      refine r_icmp_ge_n (tgt := 132) (n := 51) hX 0 fm (by omega) (by omega) dX11_best_48 (by decide) rfl (fun c48 => absurd c48 (by omega)) (fun c48 => ?_)
      refine r_aload_n (n := 52) hX dX11_best_51 rfl rfl 0 rfl ?_
      refine r_iload_n (n := 53) hX dX11_best_52 rfl rfl 1 rfl ?_
      refine r_iload_n (n := 54) hX dX11_best_53 rfl rfl 3 rfl ?_
      refine r_callV (n := 57) (av := [.int (nI p), .int (nI s)]) hX (ct_X11_mayGo (CxL X) (CxD X) mo a tn tr fm fn mv bg en tk op wn jn cq cm fk fp ck te yn rc kd mk le hp ir ke tr_ p s (by omega) hs) ml_X11_322 cv_X11_mayGo rfl (by decide) [0, 3] rfl rfl (by decide) 0 rfl rfl rfl rfl rfl (Nat.le_of_ble_eq_true rfl) dX11_best_54 rfl (fun r_ es_ h_ l_ => ?_)
      obtain ⟨rfl, rfl⟩ := h_
      show Aw X [mo, a 48, a 51, a 49, a 50, a 53] [ob 11 (.ref (a 0) :: .int (nI tn) :: .int fk :: .int fp :: .ref (a 4) :: .ref (a 5) :: .ref (a 6) :: .ref (a 7) :: .ref (a 8) :: .ref (a 9) :: .ref (a 10) :: .ref (a 11) :: .ref (a 12) :: .ref (a 13) :: .int (nI tr) :: .int (nI fm) :: .int ck :: .int te :: .int (nI fn) :: .ref (a 19) :: .ref (a 20) :: .ref (a 21) :: .ref (a 22) :: .ref (a 23) :: .ref (a 24) :: .ref (a 25) :: .ref (a 26) :: .ref (a 27) :: .int (b2 hp) :: .int yn :: .int (b2 ir) :: .ref (a 31) :: .int rc :: .ref (a 33) :: .int (nI mv) :: .int kd :: .int (nI bg) :: .int (nI en) :: .int mk :: .long le :: .int (nI tk) :: .int (nI op) :: .ref (a 42) :: .int (nI wn) :: .ref (a 44) :: .int (nI jn) :: .ref (a 46) :: .ref (a 47) :: .ref (a 48) :: .ref (a 49) :: .ref (a 50) :: .ref (a 51) :: .int (b2 ke) :: .ref (a 53) :: .ref (a 54) :: .ref (a 55) :: .int (nI cq) :: .int (nI cm) :: []), aI (CxD X) 144 (nf my), aI (CxD X) 12 (opf ai), aZ (CxD X) 12 (zf tr_), aZ (CxD X) 12 (zf gv), aI (CxD X) 53248 (nf L)] 57 [(0, .ref mo), (1, .int (nI p)), (2, .int (nI part)), (3, .int (nI s)), (4, .int (nI (mSu (mMv ke ai p none) (L ((4096 * (p + 1)) + part))))), (5, .int 0)] [.int (b2 (mGo tr_ s p))]
      refine r_if_eq_b (tgt := 132) (n := 60) hX dX11_best_57 (by decide) rfl (fun c57 => ?_) (fun c57 => absurd c57 (by rw [hgo]; decide))
      refine r_iload (n := 134) hX dX11_best_132 rfl 4 rfl ?_
      exact r_ireturn hX hR dX11_best_134 ⟨by rw [mBe, if_neg (by rw [hgo]; decide), if_pos c11]; try rfl, rfl⟩
theorem ct_X11_best (l : Launch) (D : va_G) (mo : Nat) (a : Nat → Nat) (tn tr fm fn mv bg en tk op wn jn cq cm : Nat) (fk fp ck te yn rc kd mk : Int32) (le : Int64) (hp ir ke : Bool) (my : Nat → Nat) (ai : Nat → Option Nat) (tr_ gv : Nat → Bool) (L : Nat → Nat) (p part s : Nat) (hf : fm ≤ 12) (hmy : myOk my) (hai : obd ai) (hL : lsOk L) (hpf : p < fm) (hpt : part < 4096) (hs : s < 4096) : Ct l D m_X11_best 1 [.ref mo, .int (nI p), .int (nI part), .int (nI s)] [mo, a 48, a 51, a 49, a 50, a 53] [ob 11 (.ref (a 0) :: .int (nI tn) :: .int fk :: .int fp :: .ref (a 4) :: .ref (a 5) :: .ref (a 6) :: .ref (a 7) :: .ref (a 8) :: .ref (a 9) :: .ref (a 10) :: .ref (a 11) :: .ref (a 12) :: .ref (a 13) :: .int (nI tr) :: .int (nI fm) :: .int ck :: .int te :: .int (nI fn) :: .ref (a 19) :: .ref (a 20) :: .ref (a 21) :: .ref (a 22) :: .ref (a 23) :: .ref (a 24) :: .ref (a 25) :: .ref (a 26) :: .ref (a 27) :: .int (b2 hp) :: .int yn :: .int (b2 ir) :: .ref (a 31) :: .int rc :: .ref (a 33) :: .int (nI mv) :: .int kd :: .int (nI bg) :: .int (nI en) :: .int mk :: .long le :: .int (nI tk) :: .int (nI op) :: .ref (a 42) :: .int (nI wn) :: .ref (a 44) :: .int (nI jn) :: .ref (a 46) :: .ref (a 47) :: .ref (a 48) :: .ref (a 49) :: .ref (a 50) :: .ref (a 51) :: .int (b2 ke) :: .ref (a 53) :: .ref (a 54) :: .ref (a 55) :: .int (nI cq) :: .int (nI cm) :: []), aI D 144 (nf my), aI D 12 (opf ai), aZ D 12 (zf tr_), aZ D 12 (zf gv), aI D 53248 (nf L)] (fun r es' => r = some (.int (nI (mBe my ke ai tr_ gv fm (fun j => L (4096 * (p + 1) + j)) p part s))) ∧ es' = [ob 11 (.ref (a 0) :: .int (nI tn) :: .int fk :: .int fp :: .ref (a 4) :: .ref (a 5) :: .ref (a 6) :: .ref (a 7) :: .ref (a 8) :: .ref (a 9) :: .ref (a 10) :: .ref (a 11) :: .ref (a 12) :: .ref (a 13) :: .int (nI tr) :: .int (nI fm) :: .int ck :: .int te :: .int (nI fn) :: .ref (a 19) :: .ref (a 20) :: .ref (a 21) :: .ref (a 22) :: .ref (a 23) :: .ref (a 24) :: .ref (a 25) :: .ref (a 26) :: .ref (a 27) :: .int (b2 hp) :: .int yn :: .int (b2 ir) :: .ref (a 31) :: .int rc :: .ref (a 33) :: .int (nI mv) :: .int kd :: .int (nI bg) :: .int (nI en) :: .int mk :: .long le :: .int (nI tk) :: .int (nI op) :: .ref (a 42) :: .int (nI wn) :: .ref (a 44) :: .int (nI jn) :: .ref (a 46) :: .ref (a 47) :: .ref (a 48) :: .ref (a 49) :: .ref (a 50) :: .ref (a 51) :: .int (b2 ke) :: .ref (a 53) :: .ref (a 54) :: .ref (a 55) :: .int (nI cq) :: .int (nI cm) :: []), aI D 144 (nf my), aI D 12 (opf ai), aZ D 12 (zf tr_), aZ D 12 (zf gv), aI D 53248 (nf L)]) :=
  Ct.ofA (own := RX11) (by decide) rfl (Nat.le_of_ble_eq_true rfl) rfl (fun X hl hD hX hR => by subst hl; subst hD; exact wk_X11_best hX mo a tn tr fm fn mv bg en tk op wn jn cq cm fk fp ck te yn rc kd mk le hp ir ke my ai tr_ gv L p part s hf hmy hai hL hpf hpt hs hR)
def mBi12 (s : Nat) : Nat → Nat
  | 0 => 0
  | k + 1 => mBi12 s k + s / 2 ^ k % 2
set_option maxHeartbeats 1000000 in
set_option maxRecDepth 100000 in
theorem lp_bits {X : Cx} (hX : Ok X cX11_bits 3 RX11 0) (s : Nat) (hs : s < 4096) (hR : Rt X (some FieldType.int) (fun r es' => r = some (.int (nI (mBi12 s 12))) ∧ es' = []) []) : ∀ (m k : Nat), k + m = 12 → Aw X [] [] 4 [(0, .int (nI s)), (1, .int (nI (mBi12 s k))), (2, .int (nI k))] [] := by
  intro m
  induction m with
  | zero =>
    intro k hk
    refine r_iload_n (n := 5) hX dX11_bits_4 rfl rfl 2 rfl ?_
    refine r_bipush (n := 7) hX 12 dX11_bits_5 rfl rfl ?_
    refine r_icmp_ge_n (tgt := 24) (n := 10) hX k 12 (by omega) (by omega) dX11_bits_7 (by decide) rfl (fun c7 => ?_) (fun c7 => absurd c7 (by omega))
    refine r_iload_n (n := 25) hX dX11_bits_24 rfl rfl 1 rfl ?_
    exact r_ireturn hX hR dX11_bits_25 ⟨by rw [show k = 12 by omega], rfl⟩
  | succ m ih =>
    intro k hk
    refine r_iload_n (n := 5) hX dX11_bits_4 rfl rfl 2 rfl ?_
    refine r_bipush (n := 7) hX 12 dX11_bits_5 rfl rfl ?_
    refine r_icmp_ge_n (tgt := 24) (n := 10) hX k 12 (by omega) (by omega) dX11_bits_7 (by decide) rfl (fun c7 => absurd c7 (by omega)) (fun c7 => ?_)
    refine r_iload_n (n := 11) hX dX11_bits_10 rfl rfl 1 rfl ?_
    refine r_iload_n (n := 12) hX dX11_bits_11 rfl rfl 0 rfl ?_
    refine r_iload_n (n := 13) hX dX11_bits_12 rfl rfl 2 rfl ?_
    refine r_ishr (n := 14) hX dX11_bits_13 rfl ?_
    refine r_iconst (n := 15) hX 1 dX11_bits_14 rfl rfl ?_
    refine r_iand (n := 16) hX dX11_bits_15 rfl ?_
    refine Aw.topi (nI (s / 2 ^ k % 2)) (nb_bit (s := s) (p := k) (by omega) (by omega)) ?_
    refine r_iadd (n := 17) hX dX11_bits_16 rfl ?_
    refine Aw.topi (nI ((mBi12 s k) + (s / 2 ^ k % 2))) (nI_add _ _) ?_
    refine r_istore_n (n := 18) hX [(0, .int (nI s)), (1, .int (nI ((mBi12 s k) + (s / 2 ^ k % 2)))), (2, .int (nI k))] dX11_bits_17 rfl rfl (by decide) rfl ?_
    refine r_iinc (n := 21) hX (nI (k + 1)) [(0, .int (nI s)), (1, .int (nI ((mBi12 s k) + (s / 2 ^ k % 2)))), (2, .int (nI (k + 1)))] dX11_bits_18 rfl 2 rfl (nI_add _ _) (by decide) rfl ?_
    refine r_goto (tgt := 4) hX dX11_bits_21 (by decide) ?_
    exact ih (k + 1) (by omega)
set_option maxHeartbeats 1000000 in
set_option maxRecDepth 100000 in
theorem wk_X11_bits {X : Cx} (hX : Ok X cX11_bits 3 RX11 0) (s : Nat) (hs : s < 4096) (hR : Rt X (some FieldType.int) (fun r es' => r = some (.int (nI (mBi12 s 12))) ∧ es' = []) []) : Aw X [] [] 0 [(0, .int (nI s))] [] := by
  refine r_iconst (n := 1) hX 0 dX11_bits_0 rfl rfl ?_
  refine r_istore_n (n := 2) hX [(0, .int (nI s)), (1, .int 0)] dX11_bits_1 rfl rfl (by decide) rfl ?_
  refine r_iconst (n := 3) hX 0 dX11_bits_2 rfl rfl ?_
  refine r_istore_n (n := 4) hX [(0, .int (nI s)), (1, .int 0), (2, .int 0)] dX11_bits_3 rfl rfl (by decide) rfl ?_
  exact lp_bits hX s hs hR 12 0 (by omega)
theorem ct_X11_bits (l : Launch) (D : va_G) (s : Nat) (hs : s < 4096) : Ct l D m_X11_bits 0 [.int (nI s)] [] [] (fun r es' => r = some (.int (nI (mBi12 s 12))) ∧ es' = []) :=
  Ct.ofA (own := RX11) (by decide) rfl (Nat.le_of_ble_eq_true rfl) rfl (fun X hl hD hX hR => by subst hl; subst hD; exact wk_X11_bits hX s hs hR)

def mAg (c n cq cm : Nat) : Int32 := if c / 1000000 = cq / 1000000 then (if n = cm then nI (c % 1000000) - nI (cq % 1000000) else nI cm - nI n) else nI (c / 1000000) - nI (cq / 1000000)

set_option maxHeartbeats 1000000 in
set_option maxRecDepth 100000 in
theorem wk_X11_against {X : Cx} (hX : Ok X cX11_against 3 RX11 0) (mo : Nat) (a : Nat → Nat) (tn tr fm fn mv bg en tk op wn jn cq cm : Nat) (fk fp ck te yn rc kd mk : Int32) (le : Int64) (hp ir ke : Bool) (c n : Nat) (hc : c < 2 ^ 30) (hn : n < 2 ^ 30) (hcq : cq < 2 ^ 30) (hcm : cm < 2 ^ 30) (hR : Rt X (some FieldType.int) (fun r es' => r = some (.int (mAg c n cq cm)) ∧ es' = [ob 11 (.ref (a 0) :: .int (nI tn) :: .int fk :: .int fp :: .ref (a 4) :: .ref (a 5) :: .ref (a 6) :: .ref (a 7) :: .ref (a 8) :: .ref (a 9) :: .ref (a 10) :: .ref (a 11) :: .ref (a 12) :: .ref (a 13) :: .int (nI tr) :: .int (nI fm) :: .int ck :: .int te :: .int (nI fn) :: .ref (a 19) :: .ref (a 20) :: .ref (a 21) :: .ref (a 22) :: .ref (a 23) :: .ref (a 24) :: .ref (a 25) :: .ref (a 26) :: .ref (a 27) :: .int (b2 hp) :: .int yn :: .int (b2 ir) :: .ref (a 31) :: .int rc :: .ref (a 33) :: .int (nI mv) :: .int kd :: .int (nI bg) :: .int (nI en) :: .int mk :: .long le :: .int (nI tk) :: .int (nI op) :: .ref (a 42) :: .int (nI wn) :: .ref (a 44) :: .int (nI jn) :: .ref (a 46) :: .ref (a 47) :: .ref (a 48) :: .ref (a 49) :: .ref (a 50) :: .ref (a 51) :: .int (b2 ke) :: .ref (a 53) :: .ref (a 54) :: .ref (a 55) :: .int (nI cq) :: .int (nI cm) :: [])]) [mo]) : Aw X [mo] [ob 11 (.ref (a 0) :: .int (nI tn) :: .int fk :: .int fp :: .ref (a 4) :: .ref (a 5) :: .ref (a 6) :: .ref (a 7) :: .ref (a 8) :: .ref (a 9) :: .ref (a 10) :: .ref (a 11) :: .ref (a 12) :: .ref (a 13) :: .int (nI tr) :: .int (nI fm) :: .int ck :: .int te :: .int (nI fn) :: .ref (a 19) :: .ref (a 20) :: .ref (a 21) :: .ref (a 22) :: .ref (a 23) :: .ref (a 24) :: .ref (a 25) :: .ref (a 26) :: .ref (a 27) :: .int (b2 hp) :: .int yn :: .int (b2 ir) :: .ref (a 31) :: .int rc :: .ref (a 33) :: .int (nI mv) :: .int kd :: .int (nI bg) :: .int (nI en) :: .int mk :: .long le :: .int (nI tk) :: .int (nI op) :: .ref (a 42) :: .int (nI wn) :: .ref (a 44) :: .int (nI jn) :: .ref (a 46) :: .ref (a 47) :: .ref (a 48) :: .ref (a 49) :: .ref (a 50) :: .ref (a 51) :: .int (b2 ke) :: .ref (a 53) :: .ref (a 54) :: .ref (a 55) :: .int (nI cq) :: .int (nI cm) :: [])] 0 [(0, .ref mo), (1, .int (nI c)), (2, .int (nI n))] [] := by
  refine r_iload_n (n := 1) hX dX11_against_0 rfl rfl 1 rfl ?_
  refine r_ldcw (n := 4) hX dX11_against_1 rfl kc_X11_308 ?_
  refine r_idiv (n := 5) hX dX11_against_4 rfl (by decide) ?_
  refine Aw.topi (nI (c / 1000000)) (pk_div (a := c) (d := 1000000) (by omega) (by decide) (by decide)) ?_
  refine r_aload_n (n := 6) hX dX11_against_5 rfl rfl 0 rfl ?_
  refine r_get (n := 9) hX 0 rfl rfl rfl 56 (by decide) lay_X11 fl_X11_325 rfl dX11_against_6 rfl ?_
  refine r_ldcw (n := 12) hX dX11_against_9 rfl kc_X11_308 ?_
  refine r_idiv (n := 13) hX dX11_against_12 rfl (by decide) ?_
  refine Aw.topi (nI (cq / 1000000)) (pk_div (a := cq) (d := 1000000) (by omega) (by decide) (by decide)) ?_
  refine r_icmp_eq_n (tgt := 31) (n := 16) hX (c / 1000000) (cq / 1000000) (by omega) (by omega) dX11_against_13 (by decide) rfl (fun c13 => ?_) (fun c13 => ?_)
  · skip
    refine r_iload_n (n := 32) hX dX11_against_31 rfl rfl 2 rfl ?_
    refine r_aload_n (n := 33) hX dX11_against_32 rfl rfl 0 rfl ?_
    refine r_get (n := 36) hX 0 rfl rfl rfl 57 (by decide) lay_X11 fl_X11_328 rfl dX11_against_33 rfl ?_
    refine r_icmp_eq_n (tgt := 48) (n := 39) hX n cm (by omega) (by omega) dX11_against_36 (by decide) rfl (fun c36 => ?_) (fun c36 => ?_)
    · skip
      refine r_iload_n (n := 49) hX dX11_against_48 rfl rfl 1 rfl ?_
      refine r_ldcw (n := 52) hX dX11_against_49 rfl kc_X11_308 ?_
      refine r_irem (n := 53) hX dX11_against_52 rfl (by decide) ?_
      refine Aw.topi (nI (c % 1000000)) (pk_rem (a := c) (d := 1000000) (by omega) (by decide) (by decide)) ?_
      refine r_aload_n (n := 54) hX dX11_against_53 rfl rfl 0 rfl ?_
      refine r_get (n := 57) hX 0 rfl rfl rfl 56 (by decide) lay_X11 fl_X11_325 rfl dX11_against_54 rfl ?_
      refine r_ldcw (n := 60) hX dX11_against_57 rfl kc_X11_308 ?_
      refine r_irem (n := 61) hX dX11_against_60 rfl (by decide) ?_
      refine Aw.topi (nI (cq % 1000000)) (pk_rem (a := cq) (d := 1000000) (by omega) (by decide) (by decide)) ?_
      refine r_isub (n := 62) hX dX11_against_61 rfl ?_
      exact r_ireturn hX hR dX11_against_62 ⟨by rw [mAg, if_pos c13]; first | rw [if_pos c36] | rw [if_neg c36], rfl⟩
    · skip
      refine r_aload_n (n := 40) hX dX11_against_39 rfl rfl 0 rfl ?_
      refine r_get (n := 43) hX 0 rfl rfl rfl 57 (by decide) lay_X11 fl_X11_328 rfl dX11_against_40 rfl ?_
      refine r_iload_n (n := 44) hX dX11_against_43 rfl rfl 2 rfl ?_
      refine r_isub (n := 45) hX dX11_against_44 rfl ?_
      refine r_goto (tgt := 62) hX dX11_against_45 (by decide) ?_
      exact r_ireturn hX hR dX11_against_62 ⟨by rw [mAg, if_pos c13]; first | rw [if_pos c36] | rw [if_neg c36], rfl⟩
  · skip
    refine r_iload_n (n := 17) hX dX11_against_16 rfl rfl 1 rfl ?_
    refine r_ldcw (n := 20) hX dX11_against_17 rfl kc_X11_308 ?_
    refine r_idiv (n := 21) hX dX11_against_20 rfl (by decide) ?_
    refine Aw.topi (nI (c / 1000000)) (pk_div (a := c) (d := 1000000) (by omega) (by decide) (by decide)) ?_
    refine r_aload_n (n := 22) hX dX11_against_21 rfl rfl 0 rfl ?_
    refine r_get (n := 25) hX 0 rfl rfl rfl 56 (by decide) lay_X11 fl_X11_325 rfl dX11_against_22 rfl ?_
    refine r_ldcw (n := 28) hX dX11_against_25 rfl kc_X11_308 ?_
    refine r_idiv (n := 29) hX dX11_against_28 rfl (by decide) ?_
    refine Aw.topi (nI (cq / 1000000)) (pk_div (a := cq) (d := 1000000) (by omega) (by decide) (by decide)) ?_
    refine r_isub (n := 30) hX dX11_against_29 rfl ?_
    exact r_ireturn hX hR dX11_against_30 ⟨by rw [mAg, if_neg c13], rfl⟩
theorem ct_X11_against (l : Launch) (D : va_G) (mo : Nat) (a : Nat → Nat) (tn tr fm fn mv bg en tk op wn jn cq cm : Nat) (fk fp ck te yn rc kd mk : Int32) (le : Int64) (hp ir ke : Bool) (c n : Nat) (hc : c < 2 ^ 30) (hn : n < 2 ^ 30) (hcq : cq < 2 ^ 30) (hcm : cm < 2 ^ 30) : Ct l D m_X11_against 0 [.ref mo, .int (nI c), .int (nI n)] [mo] [ob 11 (.ref (a 0) :: .int (nI tn) :: .int fk :: .int fp :: .ref (a 4) :: .ref (a 5) :: .ref (a 6) :: .ref (a 7) :: .ref (a 8) :: .ref (a 9) :: .ref (a 10) :: .ref (a 11) :: .ref (a 12) :: .ref (a 13) :: .int (nI tr) :: .int (nI fm) :: .int ck :: .int te :: .int (nI fn) :: .ref (a 19) :: .ref (a 20) :: .ref (a 21) :: .ref (a 22) :: .ref (a 23) :: .ref (a 24) :: .ref (a 25) :: .ref (a 26) :: .ref (a 27) :: .int (b2 hp) :: .int yn :: .int (b2 ir) :: .ref (a 31) :: .int rc :: .ref (a 33) :: .int (nI mv) :: .int kd :: .int (nI bg) :: .int (nI en) :: .int mk :: .long le :: .int (nI tk) :: .int (nI op) :: .ref (a 42) :: .int (nI wn) :: .ref (a 44) :: .int (nI jn) :: .ref (a 46) :: .ref (a 47) :: .ref (a 48) :: .ref (a 49) :: .ref (a 50) :: .ref (a 51) :: .int (b2 ke) :: .ref (a 53) :: .ref (a 54) :: .ref (a 55) :: .int (nI cq) :: .int (nI cm) :: [])] (fun r es' => r = some (.int (mAg c n cq cm)) ∧ es' = [ob 11 (.ref (a 0) :: .int (nI tn) :: .int fk :: .int fp :: .ref (a 4) :: .ref (a 5) :: .ref (a 6) :: .ref (a 7) :: .ref (a 8) :: .ref (a 9) :: .ref (a 10) :: .ref (a 11) :: .ref (a 12) :: .ref (a 13) :: .int (nI tr) :: .int (nI fm) :: .int ck :: .int te :: .int (nI fn) :: .ref (a 19) :: .ref (a 20) :: .ref (a 21) :: .ref (a 22) :: .ref (a 23) :: .ref (a 24) :: .ref (a 25) :: .ref (a 26) :: .ref (a 27) :: .int (b2 hp) :: .int yn :: .int (b2 ir) :: .ref (a 31) :: .int rc :: .ref (a 33) :: .int (nI mv) :: .int kd :: .int (nI bg) :: .int (nI en) :: .int mk :: .long le :: .int (nI tk) :: .int (nI op) :: .ref (a 42) :: .int (nI wn) :: .ref (a 44) :: .int (nI jn) :: .ref (a 46) :: .ref (a 47) :: .ref (a 48) :: .ref (a 49) :: .ref (a 50) :: .ref (a 51) :: .int (b2 ke) :: .ref (a 53) :: .ref (a 54) :: .ref (a 55) :: .int (nI cq) :: .int (nI cm) :: [])]) :=
  Ct.ofA (own := RX11) (by decide) rfl (Nat.le_of_ble_eq_true rfl) rfl (fun X hl hD hX hR => by subst hl; subst hD; exact wk_X11_against hX mo a tn tr fm fn mv bg en tk op wn jn cq cm fk fp ck te yn rc kd mk le hp ir ke c n hc hn hcq hcm hR)

def mAhead (tl ch : Nat → Option Nat) : Nat → Nat → Bool
  | 0, _ => false
  | m + 1, p => if tl p = ch p then mAhead tl ch m (p + 1) else match ch p, tl p with
    | none, _ => true
    | some _, none => false
    | some c, some t => decide (t < c)

set_option maxHeartbeats 1000000 in
set_option maxRecDepth 100000 in
theorem lp_ahead {X : Cx} (hX : Ok X cX11_isAhead 2 RX11 0) (mo : Nat) (a : Nat → Nat) (tn tr fm fn mv bg en tk op wn jn cq cm : Nat) (fk fp ck te yn rc kd mk : Int32) (le : Int64) (hp ir ke : Bool) (tl ch : Nat → Option Nat) (hf : fm ≤ 12) (htl_ : obd tl) (hch_ : obd ch) (hR : Rt X (some FieldType.boolean) (fun r es' => r = some (.int (b2 (mAhead tl ch fm 0))) ∧ es' = [ob 11 (.ref (a 0) :: .int (nI tn) :: .int fk :: .int fp :: .ref (a 4) :: .ref (a 5) :: .ref (a 6) :: .ref (a 7) :: .ref (a 8) :: .ref (a 9) :: .ref (a 10) :: .ref (a 11) :: .ref (a 12) :: .ref (a 13) :: .int (nI tr) :: .int (nI fm) :: .int ck :: .int te :: .int (nI fn) :: .ref (a 19) :: .ref (a 20) :: .ref (a 21) :: .ref (a 22) :: .ref (a 23) :: .ref (a 24) :: .ref (a 25) :: .ref (a 26) :: .ref (a 27) :: .int (b2 hp) :: .int yn :: .int (b2 ir) :: .ref (a 31) :: .int rc :: .ref (a 33) :: .int (nI mv) :: .int kd :: .int (nI bg) :: .int (nI en) :: .int mk :: .long le :: .int (nI tk) :: .int (nI op) :: .ref (a 42) :: .int (nI wn) :: .ref (a 44) :: .int (nI jn) :: .ref (a 46) :: .ref (a 47) :: .ref (a 48) :: .ref (a 49) :: .ref (a 50) :: .ref (a 51) :: .int (b2 ke) :: .ref (a 53) :: .ref (a 54) :: .ref (a 55) :: .int (nI cq) :: .int (nI cm) :: []), aI (CxD X) 12 (opf tl), aI (CxD X) 12 (opf ch)]) [mo, a 54, a 55]) : ∀ (m p : Nat), p + m = fm → mAhead tl ch m p = mAhead tl ch fm 0 → Aw X [mo, a 54, a 55] [ob 11 (.ref (a 0) :: .int (nI tn) :: .int fk :: .int fp :: .ref (a 4) :: .ref (a 5) :: .ref (a 6) :: .ref (a 7) :: .ref (a 8) :: .ref (a 9) :: .ref (a 10) :: .ref (a 11) :: .ref (a 12) :: .ref (a 13) :: .int (nI tr) :: .int (nI fm) :: .int ck :: .int te :: .int (nI fn) :: .ref (a 19) :: .ref (a 20) :: .ref (a 21) :: .ref (a 22) :: .ref (a 23) :: .ref (a 24) :: .ref (a 25) :: .ref (a 26) :: .ref (a 27) :: .int (b2 hp) :: .int yn :: .int (b2 ir) :: .ref (a 31) :: .int rc :: .ref (a 33) :: .int (nI mv) :: .int kd :: .int (nI bg) :: .int (nI en) :: .int mk :: .long le :: .int (nI tk) :: .int (nI op) :: .ref (a 42) :: .int (nI wn) :: .ref (a 44) :: .int (nI jn) :: .ref (a 46) :: .ref (a 47) :: .ref (a 48) :: .ref (a 49) :: .ref (a 50) :: .ref (a 51) :: .int (b2 ke) :: .ref (a 53) :: .ref (a 54) :: .ref (a 55) :: .int (nI cq) :: .int (nI cm) :: []), aI (CxD X) 12 (opf tl), aI (CxD X) 12 (opf ch)] 2 [(0, .ref mo), (1, .int (nI p))] [] := by
  intro m
  induction m with
  | zero =>
    intro p hpm he
    refine r_iload_n (n := 3) hX dX11_isAhead_2 rfl rfl 1 rfl ?_
    refine r_aload_n (n := 4) hX dX11_isAhead_3 rfl rfl 0 rfl ?_
    refine r_get (n := 7) hX 0 rfl rfl rfl 15 (by decide) lay_X11 fl_X11_251 rfl dX11_isAhead_4 rfl ?_
    refine r_icmp_ge_n (tgt := 70) (n := 10) hX p fm (by omega) (by omega) dX11_isAhead_7 (by decide) rfl (fun c7 => ?_) (fun c7 => absurd c7 (by omega))
    refine r_iconst (n := 71) hX 0 dX11_isAhead_70 rfl rfl ?_
    exact r_zreturn hX hR rfl dX11_isAhead_71 ⟨by rw [← he]; rfl, rfl⟩
  | succ m ih =>
    intro p hpm he
    cases hch : ch p with
    | none =>
      cases htl : tl p with
      | none =>
        refine r_iload_n (n := 3) hX dX11_isAhead_2 rfl rfl 1 rfl ?_
        refine r_aload_n (n := 4) hX dX11_isAhead_3 rfl rfl 0 rfl ?_
        refine r_get (n := 7) hX 0 rfl rfl rfl 15 (by decide) lay_X11 fl_X11_251 rfl dX11_isAhead_4 rfl ?_
        refine r_icmp_ge_n (tgt := 70) (n := 10) hX p fm (by omega) (by omega) dX11_isAhead_7 (by decide) rfl (fun c7 => absurd c7 (by omega)) (fun c7 => ?_)
        refine r_aload_n (n := 11) hX dX11_isAhead_10 rfl rfl 0 rfl ?_
        refine r_get (n := 14) hX 0 rfl rfl rfl 54 (by decide) lay_X11 fl_X11_111 rfl dX11_isAhead_11 rfl ?_
        refine r_iload_n (n := 15) hX dX11_isAhead_14 rfl rfl 1 rfl ?_
        refine r_ialdOn (n := 16) (i := p) hX 1 rfl rfl (by omega) (by decide) dX11_isAhead_15 rfl ?_
        refine Aw.topi (-1) (by rw [htl]; rfl) ?_
        refine r_aload_n (n := 17) hX dX11_isAhead_16 rfl rfl 0 rfl ?_
        refine r_get (n := 20) hX 0 rfl rfl rfl 55 (by decide) lay_X11 fl_X11_114 rfl dX11_isAhead_17 rfl ?_
        refine r_iload_n (n := 21) hX dX11_isAhead_20 rfl rfl 1 rfl ?_
        refine r_ialdOn (n := 22) (i := p) hX 2 rfl rfl (by omega) (by decide) dX11_isAhead_21 rfl ?_
        refine Aw.topi (-1) (by rw [hch]; rfl) ?_
        refine r_icmp_eq (tgt := 64) (n := 25) hX dX11_isAhead_22 (by decide) rfl (fun _ => ?_) (fun h => False.elim (by revert h; decide))
        refine r_iinc (n := 67) hX (nI (p + 1)) [(0, .ref mo), (1, .int (nI (p + 1)))] dX11_isAhead_64 rfl 1 rfl (nI_add _ _) (by decide) rfl ?_
        refine r_goto (tgt := 2) hX dX11_isAhead_67 (by decide) ?_
        exact ih (p + 1) (by omega) (by rw [← he]; simp only [mAhead, htl, hch, if_true])
      | some t =>
        have ht12 := htl_ p t htl
        refine r_iload_n (n := 3) hX dX11_isAhead_2 rfl rfl 1 rfl ?_
        refine r_aload_n (n := 4) hX dX11_isAhead_3 rfl rfl 0 rfl ?_
        refine r_get (n := 7) hX 0 rfl rfl rfl 15 (by decide) lay_X11 fl_X11_251 rfl dX11_isAhead_4 rfl ?_
        refine r_icmp_ge_n (tgt := 70) (n := 10) hX p fm (by omega) (by omega) dX11_isAhead_7 (by decide) rfl (fun c7 => absurd c7 (by omega)) (fun c7 => ?_)
        refine r_aload_n (n := 11) hX dX11_isAhead_10 rfl rfl 0 rfl ?_
        refine r_get (n := 14) hX 0 rfl rfl rfl 54 (by decide) lay_X11 fl_X11_111 rfl dX11_isAhead_11 rfl ?_
        refine r_iload_n (n := 15) hX dX11_isAhead_14 rfl rfl 1 rfl ?_
        refine r_ialdOn (n := 16) (i := p) hX 1 rfl rfl (by omega) (by decide) dX11_isAhead_15 rfl ?_
        refine Aw.topi (nI t) (by rw [htl]; rfl) ?_
        refine r_aload_n (n := 17) hX dX11_isAhead_16 rfl rfl 0 rfl ?_
        refine r_get (n := 20) hX 0 rfl rfl rfl 55 (by decide) lay_X11 fl_X11_114 rfl dX11_isAhead_17 rfl ?_
        refine r_iload_n (n := 21) hX dX11_isAhead_20 rfl rfl 1 rfl ?_
        refine r_ialdOn (n := 22) (i := p) hX 2 rfl rfl (by omega) (by decide) dX11_isAhead_21 rfl ?_
        refine Aw.topi (-1) (by rw [hch]; rfl) ?_
        refine r_icmp_eq (tgt := 64) (n := 25) hX dX11_isAhead_22 (by decide) rfl (fun c22 => absurd c22 (fun e => nI_ne_m1 (by omega) e)) (fun c22 => ?_)
        refine r_aload_n (n := 26) hX dX11_isAhead_25 rfl rfl 0 rfl ?_
        refine r_get (n := 29) hX 0 rfl rfl rfl 55 (by decide) lay_X11 fl_X11_114 rfl dX11_isAhead_26 rfl ?_
        refine r_iload_n (n := 30) hX dX11_isAhead_29 rfl rfl 1 rfl ?_
        refine r_ialdOn (n := 31) (i := p) hX 2 rfl rfl (by omega) (by decide) dX11_isAhead_30 rfl ?_
        refine Aw.topi (-1) (by rw [hch]; rfl) ?_
        refine r_if_lt (tgt := 58) (n := 34) hX dX11_isAhead_31 (by decide) rfl (fun _ => ?_) (fun h => False.elim (by revert h; decide))
        refine r_iconst (n := 59) hX 1 dX11_isAhead_58 rfl rfl ?_
        refine r_goto (tgt := 63) hX dX11_isAhead_59 (by decide) ?_
        exact r_zreturn hX hR rfl dX11_isAhead_63 ⟨by rw [← he, mAhead, htl, hch, if_neg (fun e => by cases e)]; rfl, rfl⟩
    | some c =>
      have hc12 := hch_ p c hch
      cases htl : tl p with
      | none =>
        refine r_iload_n (n := 3) hX dX11_isAhead_2 rfl rfl 1 rfl ?_
        refine r_aload_n (n := 4) hX dX11_isAhead_3 rfl rfl 0 rfl ?_
        refine r_get (n := 7) hX 0 rfl rfl rfl 15 (by decide) lay_X11 fl_X11_251 rfl dX11_isAhead_4 rfl ?_
        refine r_icmp_ge_n (tgt := 70) (n := 10) hX p fm (by omega) (by omega) dX11_isAhead_7 (by decide) rfl (fun c7 => absurd c7 (by omega)) (fun c7 => ?_)
        refine r_aload_n (n := 11) hX dX11_isAhead_10 rfl rfl 0 rfl ?_
        refine r_get (n := 14) hX 0 rfl rfl rfl 54 (by decide) lay_X11 fl_X11_111 rfl dX11_isAhead_11 rfl ?_
        refine r_iload_n (n := 15) hX dX11_isAhead_14 rfl rfl 1 rfl ?_
        refine r_ialdOn (n := 16) (i := p) hX 1 rfl rfl (by omega) (by decide) dX11_isAhead_15 rfl ?_
        refine Aw.topi (-1) (by rw [htl]; rfl) ?_
        refine r_aload_n (n := 17) hX dX11_isAhead_16 rfl rfl 0 rfl ?_
        refine r_get (n := 20) hX 0 rfl rfl rfl 55 (by decide) lay_X11 fl_X11_114 rfl dX11_isAhead_17 rfl ?_
        refine r_iload_n (n := 21) hX dX11_isAhead_20 rfl rfl 1 rfl ?_
        refine r_ialdOn (n := 22) (i := p) hX 2 rfl rfl (by omega) (by decide) dX11_isAhead_21 rfl ?_
        refine Aw.topi (nI c) (by rw [hch]; rfl) ?_
        refine r_icmp_eq (tgt := 64) (n := 25) hX dX11_isAhead_22 (by decide) rfl (fun c22 => absurd c22 (fun e => nI_ne_m1 (by omega) e.symm)) (fun c22 => ?_)
        refine r_aload_n (n := 26) hX dX11_isAhead_25 rfl rfl 0 rfl ?_
        refine r_get (n := 29) hX 0 rfl rfl rfl 55 (by decide) lay_X11 fl_X11_114 rfl dX11_isAhead_26 rfl ?_
        refine r_iload_n (n := 30) hX dX11_isAhead_29 rfl rfl 1 rfl ?_
        refine r_ialdOn (n := 31) (i := p) hX 2 rfl rfl (by omega) (by decide) dX11_isAhead_30 rfl ?_
        refine Aw.topi (nI c) (by rw [hch]; rfl) ?_
        refine r_iflt_n (n := 34) (tgt := 58) hX (by omega) dX11_isAhead_31 rfl (by decide) ?_
        refine r_aload_n (n := 35) hX dX11_isAhead_34 rfl rfl 0 rfl ?_
        refine r_get (n := 38) hX 0 rfl rfl rfl 54 (by decide) lay_X11 fl_X11_111 rfl dX11_isAhead_35 rfl ?_
        refine r_iload_n (n := 39) hX dX11_isAhead_38 rfl rfl 1 rfl ?_
        refine r_ialdOn (n := 40) (i := p) hX 1 rfl rfl (by omega) (by decide) dX11_isAhead_39 rfl ?_
        refine Aw.topi (-1) (by rw [htl]; rfl) ?_
        refine r_if_lt (tgt := 62) (n := 43) hX dX11_isAhead_40 (by decide) rfl (fun _ => ?_) (fun h => False.elim (by revert h; decide))
        refine r_iconst (n := 63) hX 0 dX11_isAhead_62 rfl rfl ?_
        exact r_zreturn hX hR rfl dX11_isAhead_63 ⟨by rw [← he, mAhead, htl, hch, if_neg (fun e => by cases e)]; rfl, rfl⟩
      | some t =>
        have ht12 := htl_ p t htl
        refine r_iload_n (n := 3) hX dX11_isAhead_2 rfl rfl 1 rfl ?_
        refine r_aload_n (n := 4) hX dX11_isAhead_3 rfl rfl 0 rfl ?_
        refine r_get (n := 7) hX 0 rfl rfl rfl 15 (by decide) lay_X11 fl_X11_251 rfl dX11_isAhead_4 rfl ?_
        refine r_icmp_ge_n (tgt := 70) (n := 10) hX p fm (by omega) (by omega) dX11_isAhead_7 (by decide) rfl (fun c7 => absurd c7 (by omega)) (fun c7 => ?_)
        refine r_aload_n (n := 11) hX dX11_isAhead_10 rfl rfl 0 rfl ?_
        refine r_get (n := 14) hX 0 rfl rfl rfl 54 (by decide) lay_X11 fl_X11_111 rfl dX11_isAhead_11 rfl ?_
        refine r_iload_n (n := 15) hX dX11_isAhead_14 rfl rfl 1 rfl ?_
        refine r_ialdOn (n := 16) (i := p) hX 1 rfl rfl (by omega) (by decide) dX11_isAhead_15 rfl ?_
        refine Aw.topi (nI t) (by rw [htl]; rfl) ?_
        refine r_aload_n (n := 17) hX dX11_isAhead_16 rfl rfl 0 rfl ?_
        refine r_get (n := 20) hX 0 rfl rfl rfl 55 (by decide) lay_X11 fl_X11_114 rfl dX11_isAhead_17 rfl ?_
        refine r_iload_n (n := 21) hX dX11_isAhead_20 rfl rfl 1 rfl ?_
        refine r_ialdOn (n := 22) (i := p) hX 2 rfl rfl (by omega) (by decide) dX11_isAhead_21 rfl ?_
        refine Aw.topi (nI c) (by rw [hch]; rfl) ?_
        refine r_icmp_eq_n (tgt := 64) (n := 25) hX t c (by omega) (by omega) dX11_isAhead_22 (by decide) rfl (fun c22 => ?_) (fun c22 => ?_)
        · skip
          refine r_iinc (n := 67) hX (nI (p + 1)) [(0, .ref mo), (1, .int (nI (p + 1)))] dX11_isAhead_64 rfl 1 rfl (nI_add _ _) (by decide) rfl ?_
          refine r_goto (tgt := 2) hX dX11_isAhead_67 (by decide) ?_
          exact ih (p + 1) (by omega) (by rw [← he]; rw [mAhead, htl, hch, if_pos (by rw [c22])])
        · skip
          refine r_aload_n (n := 26) hX dX11_isAhead_25 rfl rfl 0 rfl ?_
          refine r_get (n := 29) hX 0 rfl rfl rfl 55 (by decide) lay_X11 fl_X11_114 rfl dX11_isAhead_26 rfl ?_
          refine r_iload_n (n := 30) hX dX11_isAhead_29 rfl rfl 1 rfl ?_
          refine r_ialdOn (n := 31) (i := p) hX 2 rfl rfl (by omega) (by decide) dX11_isAhead_30 rfl ?_
          refine Aw.topi (nI c) (by rw [hch]; rfl) ?_
          refine r_iflt_n (n := 34) (tgt := 58) hX (by omega) dX11_isAhead_31 rfl (by decide) ?_
          refine r_aload_n (n := 35) hX dX11_isAhead_34 rfl rfl 0 rfl ?_
          refine r_get (n := 38) hX 0 rfl rfl rfl 54 (by decide) lay_X11 fl_X11_111 rfl dX11_isAhead_35 rfl ?_
          refine r_iload_n (n := 39) hX dX11_isAhead_38 rfl rfl 1 rfl ?_
          refine r_ialdOn (n := 40) (i := p) hX 1 rfl rfl (by omega) (by decide) dX11_isAhead_39 rfl ?_
          refine Aw.topi (nI t) (by rw [htl]; rfl) ?_
          refine r_iflt_n (n := 43) (tgt := 62) hX (by omega) dX11_isAhead_40 rfl (by decide) ?_
          refine r_aload_n (n := 44) hX dX11_isAhead_43 rfl rfl 0 rfl ?_
          refine r_get (n := 47) hX 0 rfl rfl rfl 54 (by decide) lay_X11 fl_X11_111 rfl dX11_isAhead_44 rfl ?_
          refine r_iload_n (n := 48) hX dX11_isAhead_47 rfl rfl 1 rfl ?_
          refine r_ialdOn (n := 49) (i := p) hX 1 rfl rfl (by omega) (by decide) dX11_isAhead_48 rfl ?_
          refine Aw.topi (nI t) (by rw [htl]; rfl) ?_
          refine r_aload_n (n := 50) hX dX11_isAhead_49 rfl rfl 0 rfl ?_
          refine r_get (n := 53) hX 0 rfl rfl rfl 55 (by decide) lay_X11 fl_X11_114 rfl dX11_isAhead_50 rfl ?_
          refine r_iload_n (n := 54) hX dX11_isAhead_53 rfl rfl 1 rfl ?_
          refine r_ialdOn (n := 55) (i := p) hX 2 rfl rfl (by omega) (by decide) dX11_isAhead_54 rfl ?_
          refine Aw.topi (nI c) (by rw [hch]; rfl) ?_
          refine r_icmp_ge_n (tgt := 62) (n := 58) hX t c (by omega) (by omega) dX11_isAhead_55 (by decide) rfl (fun c55 => ?_) (fun c55 => ?_)
          · skip
            refine r_iconst (n := 63) hX 0 dX11_isAhead_62 rfl rfl ?_
            exact r_zreturn hX hR rfl dX11_isAhead_63 ⟨by rw [← he, mAhead, htl, hch, if_neg (fun e => c22 (Option.some.inj e))]; dsimp only; first | (rw [decide_eq_true c55]; rfl) | (rw [decide_eq_false (Nat.not_lt.mpr c55)]; rfl), rfl⟩
          · skip
            refine r_iconst (n := 59) hX 1 dX11_isAhead_58 rfl rfl ?_
            refine r_goto (tgt := 63) hX dX11_isAhead_59 (by decide) ?_
            exact r_zreturn hX hR rfl dX11_isAhead_63 ⟨by rw [← he, mAhead, htl, hch, if_neg (fun e => c22 (Option.some.inj e))]; dsimp only; first | (rw [decide_eq_true c55]; rfl) | (rw [decide_eq_false (Nat.not_lt.mpr c55)]; rfl), rfl⟩
set_option maxHeartbeats 1000000 in
set_option maxRecDepth 100000 in
theorem wk_X11_isAhead {X : Cx} (hX : Ok X cX11_isAhead 2 RX11 0) (mo : Nat) (a : Nat → Nat) (tn tr fm fn mv bg en tk op wn jn cq cm : Nat) (fk fp ck te yn rc kd mk : Int32) (le : Int64) (hp ir ke : Bool) (tl ch : Nat → Option Nat) (hf : fm ≤ 12) (htl_ : obd tl) (hch_ : obd ch) (hR : Rt X (some FieldType.boolean) (fun r es' => r = some (.int (b2 (mAhead tl ch fm 0))) ∧ es' = [ob 11 (.ref (a 0) :: .int (nI tn) :: .int fk :: .int fp :: .ref (a 4) :: .ref (a 5) :: .ref (a 6) :: .ref (a 7) :: .ref (a 8) :: .ref (a 9) :: .ref (a 10) :: .ref (a 11) :: .ref (a 12) :: .ref (a 13) :: .int (nI tr) :: .int (nI fm) :: .int ck :: .int te :: .int (nI fn) :: .ref (a 19) :: .ref (a 20) :: .ref (a 21) :: .ref (a 22) :: .ref (a 23) :: .ref (a 24) :: .ref (a 25) :: .ref (a 26) :: .ref (a 27) :: .int (b2 hp) :: .int yn :: .int (b2 ir) :: .ref (a 31) :: .int rc :: .ref (a 33) :: .int (nI mv) :: .int kd :: .int (nI bg) :: .int (nI en) :: .int mk :: .long le :: .int (nI tk) :: .int (nI op) :: .ref (a 42) :: .int (nI wn) :: .ref (a 44) :: .int (nI jn) :: .ref (a 46) :: .ref (a 47) :: .ref (a 48) :: .ref (a 49) :: .ref (a 50) :: .ref (a 51) :: .int (b2 ke) :: .ref (a 53) :: .ref (a 54) :: .ref (a 55) :: .int (nI cq) :: .int (nI cm) :: []), aI (CxD X) 12 (opf tl), aI (CxD X) 12 (opf ch)]) [mo, a 54, a 55]) : Aw X [mo, a 54, a 55] [ob 11 (.ref (a 0) :: .int (nI tn) :: .int fk :: .int fp :: .ref (a 4) :: .ref (a 5) :: .ref (a 6) :: .ref (a 7) :: .ref (a 8) :: .ref (a 9) :: .ref (a 10) :: .ref (a 11) :: .ref (a 12) :: .ref (a 13) :: .int (nI tr) :: .int (nI fm) :: .int ck :: .int te :: .int (nI fn) :: .ref (a 19) :: .ref (a 20) :: .ref (a 21) :: .ref (a 22) :: .ref (a 23) :: .ref (a 24) :: .ref (a 25) :: .ref (a 26) :: .ref (a 27) :: .int (b2 hp) :: .int yn :: .int (b2 ir) :: .ref (a 31) :: .int rc :: .ref (a 33) :: .int (nI mv) :: .int kd :: .int (nI bg) :: .int (nI en) :: .int mk :: .long le :: .int (nI tk) :: .int (nI op) :: .ref (a 42) :: .int (nI wn) :: .ref (a 44) :: .int (nI jn) :: .ref (a 46) :: .ref (a 47) :: .ref (a 48) :: .ref (a 49) :: .ref (a 50) :: .ref (a 51) :: .int (b2 ke) :: .ref (a 53) :: .ref (a 54) :: .ref (a 55) :: .int (nI cq) :: .int (nI cm) :: []), aI (CxD X) 12 (opf tl), aI (CxD X) 12 (opf ch)] 0 [(0, .ref mo)] [] := by
  refine r_iconst (n := 1) hX 0 dX11_isAhead_0 rfl rfl ?_
  refine r_istore_n (n := 2) hX [(0, .ref mo), (1, .int 0)] dX11_isAhead_1 rfl rfl (by decide) rfl ?_
  exact lp_ahead hX mo a tn tr fm fn mv bg en tk op wn jn cq cm fk fp ck te yn rc kd mk le hp ir ke tl ch hf htl_ hch_ hR fm 0 (by omega) rfl
theorem ct_X11_isAhead (l : Launch) (D : va_G) (mo : Nat) (a : Nat → Nat) (tn tr fm fn mv bg en tk op wn jn cq cm : Nat) (fk fp ck te yn rc kd mk : Int32) (le : Int64) (hp ir ke : Bool) (tl ch : Nat → Option Nat) (hf : fm ≤ 12) (htl_ : obd tl) (hch_ : obd ch) : Ct l D m_X11_isAhead 0 [.ref mo] [mo, a 54, a 55] [ob 11 (.ref (a 0) :: .int (nI tn) :: .int fk :: .int fp :: .ref (a 4) :: .ref (a 5) :: .ref (a 6) :: .ref (a 7) :: .ref (a 8) :: .ref (a 9) :: .ref (a 10) :: .ref (a 11) :: .ref (a 12) :: .ref (a 13) :: .int (nI tr) :: .int (nI fm) :: .int ck :: .int te :: .int (nI fn) :: .ref (a 19) :: .ref (a 20) :: .ref (a 21) :: .ref (a 22) :: .ref (a 23) :: .ref (a 24) :: .ref (a 25) :: .ref (a 26) :: .ref (a 27) :: .int (b2 hp) :: .int yn :: .int (b2 ir) :: .ref (a 31) :: .int rc :: .ref (a 33) :: .int (nI mv) :: .int kd :: .int (nI bg) :: .int (nI en) :: .int mk :: .long le :: .int (nI tk) :: .int (nI op) :: .ref (a 42) :: .int (nI wn) :: .ref (a 44) :: .int (nI jn) :: .ref (a 46) :: .ref (a 47) :: .ref (a 48) :: .ref (a 49) :: .ref (a 50) :: .ref (a 51) :: .int (b2 ke) :: .ref (a 53) :: .ref (a 54) :: .ref (a 55) :: .int (nI cq) :: .int (nI cm) :: []), aI D 12 (opf tl), aI D 12 (opf ch)] (fun r es' => r = some (.int (b2 (mAhead tl ch fm 0))) ∧ es' = [ob 11 (.ref (a 0) :: .int (nI tn) :: .int fk :: .int fp :: .ref (a 4) :: .ref (a 5) :: .ref (a 6) :: .ref (a 7) :: .ref (a 8) :: .ref (a 9) :: .ref (a 10) :: .ref (a 11) :: .ref (a 12) :: .ref (a 13) :: .int (nI tr) :: .int (nI fm) :: .int ck :: .int te :: .int (nI fn) :: .ref (a 19) :: .ref (a 20) :: .ref (a 21) :: .ref (a 22) :: .ref (a 23) :: .ref (a 24) :: .ref (a 25) :: .ref (a 26) :: .ref (a 27) :: .int (b2 hp) :: .int yn :: .int (b2 ir) :: .ref (a 31) :: .int rc :: .ref (a 33) :: .int (nI mv) :: .int kd :: .int (nI bg) :: .int (nI en) :: .int mk :: .long le :: .int (nI tk) :: .int (nI op) :: .ref (a 42) :: .int (nI wn) :: .ref (a 44) :: .int (nI jn) :: .ref (a 46) :: .ref (a 47) :: .ref (a 48) :: .ref (a 49) :: .ref (a 50) :: .ref (a 51) :: .int (b2 ke) :: .ref (a 53) :: .ref (a 54) :: .ref (a 55) :: .int (nI cq) :: .int (nI cm) :: []), aI D 12 (opf tl), aI D 12 (opf ch)]) :=
  Ct.ofA (own := RX11) (by decide) rfl (Nat.le_of_ble_eq_true rfl) rfl (fun X hl hD hX hR => by subst hl; subst hD; exact wk_X11_isAhead hX mo a tn tr fm fn mv bg en tk op wn jn cq cm fk fp ck te yn rc kd mk le hp ir ke tl ch hf htl_ hch_ hR)
