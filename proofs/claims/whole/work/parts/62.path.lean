/-! the way that is followed is the least, and stands ahead of all that count as little -/
def tkn (v : Nat → Option Nat) : Nat → Nat
  | 0 => 0
  | p + 1 => addO (tkn v p) (v p)
def Pc (my : Nat → Nat) (ke : Bool) (ai : Nat → Option Nat) (v : Nat → Option Nat) : Nat → Nat
  | 0 => 0
  | p + 1 => Pc my ke ai v p + cnO my ke ai p (v p)
/-- a way through the homes of s -/
def way (my : Nat → Nat) (tr gv : Nat → Bool) (n s : Nat) (v : Nat → Option Nat) : Prop := (∀ p, p < n → stO my tr gv n s (tkn v p) p (v p)) ∧ tkn v n = s
theorem mVW_n {my : Nat → Nat} {ke : Bool} {ai : Nat → Option Nat} {tr gv : Nat → Bool} {n s j : Nat} : mVW my ke ai tr gv n s n j = if j = s then 0 else 100000000 := by
  unfold mVW
  rw [Nat.sub_self]
  rfl
theorem mVW_st {my : Nat → Nat} {ke : Bool} {ai : Nat → Option Nat} {tr gv : Nat → Bool} {n s p j : Nat} {o : Option Nat} (hp : p < n) (h : stO my tr gv n s j p o) : mVW my ke ai tr gv n s p j ≤ cnO my ke ai p o + mVW my ke ai tr gv n s (p + 1) (addO j o) := by
  have ev : mVW my ke ai tr gv n s p j = mBe my ke ai tr gv n (mVW my ke ai tr gv n s (p + 1)) p j s := by
    unfold mVW
    rw [show n - p = (n - (p + 1)) + 1 by omega]
    show mBe my ke ai tr gv n (mV my ke ai tr gv n s (n - (p + 1))) (n - (n - (p + 1) + 1)) j s = _
    rw [show n - (n - (p + 1) + 1) = p by omega]
  rw [ev]
  exact Nat.le_trans (mBe_lo h) mSu_add
theorem way_lo {my : Nat → Nat} {ke : Bool} {ai : Nat → Option Nat} {tr gv : Nat → Bool} {n s : Nat} {v : Nat → Option Nat} (h : way my tr gv n s v) : ∀ d p, p + d = n → mVW my ke ai tr gv n s p (tkn v p) + Pc my ke ai v p ≤ Pc my ke ai v n
  | 0, p, e => by
    have : p = n := by omega
    subst this
    rw [mVW_n, if_pos h.2]; omega
  | d + 1, p, e => by
    have h1 := way_lo (ke := ke) (ai := ai) h d (p + 1) (by omega)
    have h2 := mVW_st (ke := ke) (ai := ai) (show p < n by omega) (h.1 p (by omega))
    have h3 : tkn v (p + 1) = addO (tkn v p) (v p) := rfl
    have h4 : Pc my ke ai v (p + 1) = Pc my ke ai v p + cnO my ke ai p (v p) := rfl
    rw [h3, h4] at h1
    omega
/-- the way followed -/
theorem tkn_PT {my : Nat → Nat} {ke : Bool} {ai : Nat → Option Nat} {tr : Nat → Bool} {n : Nat} {W : Nat → Nat → Nat} {s : Nat} : ∀ p, tkn (mPT my ke ai tr n W s) p = mPF my ke ai tr n W s p
  | 0 => rfl
  | p + 1 => by
    show addO (tkn (mPT my ke ai tr n W s) p) (mPT my ke ai tr n W s p) = _
    rw [tkn_PT p]
    rfl
theorem pt_run {my : Nat → Nat} {ke : Bool} {ai : Nat → Option Nat} {tr gv : Nat → Bool} {n s : Nat} (hn : n ≤ 12) (hv : mVW my ke ai tr gv n s 0 0 < 100000000) : ∀ p, p ≤ n → mVW my ke ai tr gv n s 0 0 = Pc my ke ai (mPT my ke ai tr n (mVW my ke ai tr gv n s) s) p + mVW my ke ai tr gv n s p (tkn (mPT my ke ai tr n (mVW my ke ai tr gv n s) s) p) ∧ ∀ q, q < p → stO my tr gv n s (tkn (mPT my ke ai tr n (mVW my ke ai tr gv n s) s) q) q (mPT my ke ai tr n (mVW my ke ai tr gv n s) s q)
  | 0, _ => ⟨by show _ = 0 + mVW my ke ai tr gv n s 0 0; omega, fun q hq => by omega⟩
  | p + 1, hp => by
    obtain ⟨a1, a2⟩ := pt_run hn hv p (by omega)
    have hlt : mVW my ke ai tr gv n s p (tkn (mPT my ke ai tr n (mVW my ke ai tr gv n s) s) p) < 100000000 := by omega
    obtain ⟨b1, b2, _⟩ := mPk_spec hn (show p < n by omega) hlt
    have eP : mPT my ke ai tr n (mVW my ke ai tr gv n s) s p = mPk my ke ai tr n (mVW my ke ai tr gv n s) s p (tkn (mPT my ke ai tr n (mVW my ke ai tr gv n s) s) p) := by
      rw [tkn_PT p]; rfl
    rw [← eP] at b1 b2
    refine ⟨?_, fun q hq => ?_⟩
    · show _ = Pc my ke ai (mPT my ke ai tr n (mVW my ke ai tr gv n s) s) p + cnO my ke ai p (mPT my ke ai tr n (mVW my ke ai tr gv n s) s p) + mVW my ke ai tr gv n s (p + 1) (addO (tkn (mPT my ke ai tr n (mVW my ke ai tr gv n s) s) p) (mPT my ke ai tr n (mVW my ke ai tr gv n s) s p))
      omega
    · by_cases z : q = p
      · rw [z]; exact b1
      · exact a2 q (by omega)
theorem pt_way {my : Nat → Nat} {ke : Bool} {ai : Nat → Option Nat} {tr gv : Nat → Bool} {n s : Nat} (hn : n ≤ 12) (hv : mVW my ke ai tr gv n s 0 0 < 100000000) : way my tr gv n s (mPT my ke ai tr n (mVW my ke ai tr gv n s) s) ∧ Pc my ke ai (mPT my ke ai tr n (mVW my ke ai tr gv n s) s) n = mVW my ke ai tr gv n s 0 0 := by
  obtain ⟨a1, a2⟩ := pt_run hn hv n (Nat.le_refl n)
  rw [mVW_n] at a1
  by_cases e : tkn (mPT my ke ai tr n (mVW my ke ai tr gv n s) s) n = s
  · rw [if_pos e] at a1
    exact ⟨⟨a2, e⟩, by omega⟩
  · rw [if_neg e] at a1
    omega
theorem tkn_congr {u v : Nat → Option Nat} : ∀ p, (∀ q, q < p → u q = v q) → tkn u p = tkn v p
  | 0, _ => rfl
  | p + 1, h => by
    show addO (tkn u p) (u p) = addO (tkn v p) (v p)
    rw [tkn_congr p (fun q hq => h q (by omega)), h p (by omega)]
theorem Pc_congr {my : Nat → Nat} {ke : Bool} {ai : Nat → Option Nat} {u v : Nat → Option Nat} : ∀ p, (∀ q, q < p → u q = v q) → Pc my ke ai u p = Pc my ke ai v p
  | 0, _ => rfl
  | p + 1, h => by
    show Pc my ke ai u p + cnO my ke ai p (u p) = Pc my ke ai v p + cnO my ke ai p (v p)
    rw [Pc_congr p (fun q hq => h q (by omega)), h p (by omega)]
/-- ahead of all ways that count as little: at the first place where they differ -/
theorem pt_lex {my : Nat → Nat} {ke : Bool} {ai : Nat → Option Nat} {tr gv : Nat → Bool} {n s : Nat} (hn : n ≤ 12) (hv : mVW my ke ai tr gv n s 0 0 < 100000000) {v : Nat → Option Nat} (hw : way my tr gv n s v) (hc : Pc my ke ai v n = mVW my ke ai tr gv n s 0 0) (p : Nat) (hp : p < n) (he : ∀ q, q < p → mPT my ke ai tr n (mVW my ke ai tr gv n s) s q = v q) : rkO (mPT my ke ai tr n (mVW my ke ai tr gv n s) s p) ≤ rkO (v p) := by
  obtain ⟨a1, _⟩ := pt_run hn hv p (by omega)
  have hlt : mVW my ke ai tr gv n s p (tkn (mPT my ke ai tr n (mVW my ke ai tr gv n s) s) p) < 100000000 := by omega
  obtain ⟨_, _, b3⟩ := mPk_spec hn hp hlt
  have eP : mPT my ke ai tr n (mVW my ke ai tr gv n s) s p = mPk my ke ai tr n (mVW my ke ai tr gv n s) s p (tkn (mPT my ke ai tr n (mVW my ke ai tr gv n s) s) p) := by
    rw [tkn_PT p]; rfl
  rw [eP]
  have e1 := tkn_congr p he
  have e2 := Pc_congr (my := my) (ke := ke) (ai := ai) p he
  refine b3 (v p) (by rw [e1]; exact hw.1 p hp) ?_
  rw [e2, e1] at a1
  rw [e1]
  have h1 := mVW_st (ke := ke) (ai := ai) hp (hw.1 p hp)
  have h2 := way_lo (ke := ke) (ai := ai) hw (n - (p + 1)) (p + 1) (by omega)
  have h3 : tkn v (p + 1) = addO (tkn v p) (v p) := rfl
  have h4 : Pc my ke ai v (p + 1) = Pc my ke ai v p + cnO my ke ai p (v p) := rfl
  rw [h3, h4] at h2
  omega
