/-! what the class's parser writes: code that leaves one value -/
theorem nI_or {a b : Nat} (ha : a < 2 ^ 32) (hb : b < 2 ^ 32) : nI a ||| nI b = nI (a ||| b) := by
  apply Int32.toBitVec_inj.1
  apply BitVec.eq_of_toNat_eq
  rw [Int32.toBitVec_or, BitVec.toNat_or, pk_tn ha, pk_tn hb, pk_tn (Nat.or_lt_two_pow ha hb)]
theorem enc_at {s : Nat} (hs : s < 32768) (ar : Int32) : txOp (txEnc (nI s) ar) = nI s ∧ txArg (txEnc (nI s) ar) = ar.toBitVec.toNat % 65536 := by
  have e1 : ar &&& 65535 = nI (ar.toBitVec.toNat % 2 ^ 16) := pk_and ar 16 (by decide)
  have e2 : nI s <<< ((16 : Int32) &&& 31) = nI (s * 2 ^ 16) := pk_shlN (16 &&& 31) 16 (by decide) (by omega)
  have hm : ar.toBitVec.toNat % 2 ^ 16 < 2 ^ 16 := Nat.mod_lt _ (by decide)
  have e3 : txEnc (nI s) ar = nI (s * 2 ^ 16 + ar.toBitVec.toNat % 2 ^ 16) := by
    unfold txEnc
    rw [e1, e2]
    have : nI (s * 2 ^ 16) ||| nI (ar.toBitVec.toNat % 2 ^ 16) = nI (s * 2 ^ 16 ||| ar.toBitVec.toNat % 2 ^ 16) := nI_or (by omega) (by omega)
    rw [this, ← Nat.shiftLeft_eq, ← Nat.shiftLeft_add_eq_or_of_lt hm, Nat.shiftLeft_eq]
  generalize ar.toBitVec.toNat = w at e3 hm
  have hm : w % 65536 < 65536 := hm
  have e3 : txEnc (nI s) ar = nI (s * 65536 + w % 65536) := e3
  refine ⟨?_, ?_⟩
  · unfold txOp
    rw [e3, pk_shrN (by omega) (16 &&& 31) 16 (by decide), show (2 : Nat) ^ 16 = 65536 from rfl]
    congr 1
    omega
  · unfold txArg
    rw [e3, pk_andN (by omega) 16 (by decide), nI_clamp (by show _ % 65536 < _; omega)]
    show (s * 65536 + w % 65536) % 65536 = w % 65536
    omega
theorem enc_arg {s a : Nat} (hs : s < 32768) (ha : a < 65536) : txArg (txEnc (nI s) (nI a)) = a := by
  rw [(enc_at hs (nI a)).2, pk_tn (by omega)]
  omega
/-- one step on a list; a value more only below 64 -/
def gS (lf : Int32 → Nat → Int32) (c : Int32) (L : List Int32) : Option (List Int32) :=
  if txOp c ≤ 2 then (if L.length < 64 then some (lf (txOp c) (txArg c) :: L) else none)
  else if txOp c ≤ 4 then mUn (fun x => if txOp c = 3 then -x else 1 - x) L
  else mBi (jComb (txOp c)) L
def gE (lf : Int32 → Nat → Int32) (cd : Nat → Int32) : Nat → Nat → List Int32 → Option (List Int32)
  | 0, _, L => some L
  | m + 1, k, L => (gS lf (cd k) L).bind (gE lf cd m (k + 1))
theorem gE_add (lf : Int32 → Nat → Int32) (cd : Nat → Int32) : ∀ m n k L, gE lf cd (m + n) k L = (gE lf cd m k L).bind (gE lf cd n (k + m))
  | 0, n, k, L => by rw [Nat.zero_add]; rfl
  | m + 1, n, k, L => by
    rw [show m + 1 + n = (m + n) + 1 by omega]
    show (gS lf (cd k) L).bind (gE lf cd (m + n) (k + 1)) = ((gS lf (cd k) L).bind (gE lf cd m (k + 1))).bind (gE lf cd n (k + (m + 1)))
    cases gS lf (cd k) L with
    | none => rfl
    | some M =>
      show gE lf cd (m + n) (k + 1) M = (gE lf cd m (k + 1) M).bind (gE lf cd n (k + (m + 1)))
      rw [gE_add lf cd m n (k + 1) M, show k + 1 + m = k + (m + 1) by omega]
theorem gE_congr {lf : Int32 → Nat → Int32} {cd ce : Nat → Int32} : ∀ m k L, (∀ i, k ≤ i → i < k + m → cd i = ce i) → gE lf cd m k L = gE lf ce m k L := by
  intro m
  induction m with
  | zero => intro k L _; rfl
  | succ m ih =>
    intro k L h
    have e1 : cd k = ce k := h k (Nat.le_refl k) (by omega)
    have e2 : gE lf cd m (k + 1) = gE lf ce m (k + 1) := funext (fun M => ih (k + 1) M (fun i h1 h2 => h i (by omega) (by omega)))
    rw [gE, gE, e1, e2]
def wf (cd : Nat → Int32) (bo : Bool) (a b D : Nat) : Prop := a ≤ b ∧ ∀ lf L, L.length + D ≤ 64 → ∃ v, gE lf cd (b - a) a L = some (v :: L) ∧ (bo = true → v = 0 ∨ v = 1)
theorem wf_mono {cd : Nat → Int32} {bo : Bool} {a b D E : Nat} (h : wf cd bo a b D) (hd : D ≤ E) : wf cd bo a b E := ⟨h.1, fun lf L hl => h.2 lf L (by omega)⟩
theorem wf_congr {cd ce : Nat → Int32} {bo : Bool} {a b D : Nat} (h : wf cd bo a b D) (he : ∀ i, a ≤ i → i < b → cd i = ce i) : wf ce bo a b D := ⟨h.1, fun lf L hl => by
  have h1 := h.1
  obtain ⟨v, v1, v2⟩ := h.2 lf L hl
  exact ⟨v, by rw [← gE_congr (b - a) a L (fun i i1 i2 => he i i1 (by omega))]; exact v1, v2⟩⟩
theorem wf_leaf {cd : Nat → Int32} {a s : Nat} {ar : Int32} (hs : s ≤ 2) (e : cd a = txEnc (nI s) ar) : wf cd false a (a + 1) 1 := ⟨by omega, fun lf L hl => by
  have e1 : txOp (cd a) = nI s := by rw [e]; exact (enc_at (by omega) ar).1
  refine ⟨lf (txOp (cd a)) (txArg (cd a)), ?_, fun q => by cases q⟩
  rw [show a + 1 - a = 0 + 1 by omega]
  show (gS lf (cd a) L).bind (gE lf cd 0 (a + 1)) = _
  unfold gS
  rw [if_pos (by rw [e1]; exact nI_le hs (by decide)), if_pos (by omega)]
  rfl⟩
theorem wf_un {cd : Nat → Int32} {bo : Bool} {a b D s : Nat} {ar : Int32} (h : wf cd bo a b D) (hs : s = 3 ∨ (s = 4 ∧ bo = true)) (hb : s = 3 → bo = false) (e : cd b = txEnc (nI s) ar) : wf cd bo a (b + 1) D := ⟨by have := h.1; omega, fun lf L hl => by
  have h1 := h.1
  have e1 : txOp (cd b) = nI s := by rw [e]; exact (enc_at (by omega) ar).1
  obtain ⟨v, v1, v2⟩ := h.2 lf L hl
  have n2 : ¬ txOp (cd b) ≤ 2 := by rw [e1]; exact fun q => by have := (nI_leI (a := s) (b := 2) (by omega) (by decide)).1 q; omega
  have n4 : txOp (cd b) ≤ 4 := by rw [e1]; exact nI_le (b := 4) (by omega) (by decide)
  refine ⟨if txOp (cd b) = 3 then -v else 1 - v, ?_, fun q => ?_⟩
  · rw [show b + 1 - a = (b - a) + 1 by omega, gE_add, v1]
    show gE lf cd 1 (a + (b - a)) (v :: L) = _
    rw [show a + (b - a) = b by omega]
    show (gS lf (cd b) (v :: L)).bind (gE lf cd 0 (b + 1)) = _
    unfold gS
    rw [if_neg n2, if_pos n4]
    rfl
  · rcases hs with z | ⟨z, _⟩
    · rw [hb z] at q; cases q
    · subst z
      rw [e1, if_neg (by decide)]
      rcases v2 q with y | y
      · rw [y]; exact Or.inr rfl
      · rw [y]; exact Or.inl rfl⟩
def arOp (s : Nat) : Prop := s = 5 ∨ s = 6 ∨ s = 7
theorem wf_bin {cd : Nat → Int32} {b1 b2 b3 : Bool} {a b c D s : Nat} {ar : Int32} (h1 : wf cd b1 a b (D + 1)) (h2 : wf cd b2 b c D) (hs : 5 ≤ s) (hs2 : s ≤ 13) (hb : b3 = true → (8 ≤ s ∧ s ≤ 11) ∨ (12 ≤ s ∧ b1 = true ∧ b2 = true)) (e : cd c = txEnc (nI s) ar) : wf cd b3 a (c + 1) (D + 1) := ⟨by have := h1.1; have := h2.1; omega, fun lf L hl => by
  have l1 := h1.1
  have l2 := h2.1
  have e1 : txOp (cd c) = nI s := by rw [e]; exact (enc_at (by omega) ar).1
  obtain ⟨v, v1, v2⟩ := h1.2 lf L hl
  obtain ⟨w, w1, w2⟩ := h2.2 lf (v :: L) (by show L.length + 1 + D ≤ 64; omega)
  have n2 : ¬ txOp (cd c) ≤ 2 := by rw [e1]; exact fun q => by have := (nI_leI (a := s) (b := 2) (by omega) (by decide)).1 q; omega
  have n4 : ¬ txOp (cd c) ≤ 4 := by rw [e1]; exact fun q => by have := (nI_leI (a := s) (b := 4) (by omega) (by decide)).1 q; omega
  refine ⟨jComb (txOp (cd c)) v w, ?_, fun q => ?_⟩
  · rw [show c + 1 - a = (b - a) + ((c - b) + 1) by omega, gE_add, v1]
    show gE lf cd ((c - b) + 1) (a + (b - a)) (v :: L) = _
    rw [show a + (b - a) = b by omega, gE_add, w1]
    show gE lf cd 1 (b + (c - b)) (w :: v :: L) = _
    rw [show b + (c - b) = c by omega]
    show (gS lf (cd c) (w :: v :: L)).bind (gE lf cd 0 (c + 1)) = _
    unfold gS
    rw [if_neg n2, if_neg n4]
    rfl
  · rw [e1]
    rcases hb q with ⟨z1, z2⟩ | ⟨z1, z2, z3⟩
    · have : s = 8 ∨ s = 9 ∨ s = 10 ∨ s = 11 := by omega
      rcases this with z | z | z | z
      · subst z; show (if v = w then (1 : Int32) else 0) = 0 ∨ (if v = w then (1 : Int32) else 0) = 1; split; exact Or.inr rfl; exact Or.inl rfl
      · subst z; show (if v = w then (0 : Int32) else 1) = 0 ∨ (if v = w then (0 : Int32) else 1) = 1; split; exact Or.inl rfl; exact Or.inr rfl
      · subst z; show (if w ≤ v then (0 : Int32) else 1) = 0 ∨ (if w ≤ v then (0 : Int32) else 1) = 1; split; exact Or.inl rfl; exact Or.inr rfl
      · subst z; show (if w < v then (0 : Int32) else 1) = 0 ∨ (if w < v then (0 : Int32) else 1) = 1; split; exact Or.inl rfl; exact Or.inr rfl
    · have : s = 12 ∨ s = 13 := by omega
      rcases this with z | z
      · subst z
        show v &&& w = 0 ∨ v &&& w = 1
        rcases v2 z2 with y | y <;> rcases w2 z3 with x | x <;> (rw [y, x]; decide)
      · subst z
        show v ||| w = 0 ∨ v ||| w = 1
        rcases v2 z2 with y | y <;> rcases w2 z3 with x | x <;> (rw [y, x]; decide)⟩
/-! what a step of the parser leaves: room, code below, the opens -/
def gd (z : PZ) (P : Nat) : Prop := zFault z = 0 ∧ zAt z ≤ 600 ∧ 1 ≤ P ∧ txSize z.2 + P ≤ zAt z ∧ zOpen z ≤ 8
def lo (z y : PZ) : Prop := txSize z.2 ≤ txSize y.2 ∧ (∀ i, i < txSize z.2 → y.2.1 i = z.2.1 i) ∧ zOpen y = zOpen z ∧ txRW y.2 = txRW z.2
theorem lo_rf (z : PZ) : lo z z := ⟨Nat.le_refl _, fun _ _ => rfl, rfl, rfl⟩
theorem lo_tr {x y z : PZ} (h : lo x y) (k : lo y z) : lo x z := ⟨Nat.le_trans h.1 k.1, fun i hi => (k.2.1 i (Nat.lt_of_lt_of_le hi h.1)).trans (h.2.1 i hi), k.2.2.1.trans h.2.2.1, k.2.2.2.trans h.2.2.2⟩
/-- f writes one value's code -/
def WF (f : PZ → PZ) (bo : Bool) (D g : Nat) : Prop := ∀ z P, gd z P → 8 ≤ zOpen z + g → zFault (f z) = 0 → gd (f z) P ∧ lo z (f z) ∧ wf (f z).2.1 bo (txSize z.2) (txSize (f z).2) D
theorem ok_exp {u : TK} {z : PZ} {k : Int32} (h : zFault (pExp u z k) = 0) : zFault z = 0 ∧ zAt z < 600 ∧ pExp u z k = zNx z ∧ pSees u z k = true := by
  unfold pExp at h ⊢
  by_cases hs : pSees u z k = true
  · rw [if_pos hs] at h ⊢
    have h0 : zFault z = 0 := (of_decide_eq_true hs).1
    by_cases h6 : 600 ≤ zAt z
    · rw [if_pos h6] at h
      unfold pFail at h
      rw [if_pos h0] at h
      exact absurd (show (2 : Int32) = 0 from h) (by decide)
    · rw [if_neg h6]
      exact ⟨h0, by omega, rfl, hs⟩
  · rw [if_neg hs] at h
    exfalso
    unfold pFail at h
    split at h
    · exact absurd (show (1 : Int32) = 0 from h) (by decide)
    · rename_i hn; exact hn h
theorem nx_gd {z : PZ} {P : Nat} (h : gd z P) (h6 : zAt z < 600) : gd (zNx z) (P + 1) := ⟨h.1, by show zAt z + 1 ≤ 600; omega, by omega, by show txSize z.2 + (P + 1) ≤ zAt z + 1; have := h.2.2.2.1; omega, h.2.2.2.2⟩
theorem gd_wk {z : PZ} {P Q : Nat} (h : gd z P) (h1 : 1 ≤ Q) (h2 : Q ≤ P) : gd z Q := ⟨h.1, h.2.1, h1, by have := h.2.2.2.1; omega, h.2.2.2.2⟩
theorem st_eq {z : PZ} {st ar : Int32} (hs : txSize z.2 < 600) : zStep z st ar = (z.1, (upd z.2.1 (txSize z.2) (txEnc st ar), z.2.2.1, z.2.2.2.1, z.2.2.2.2.1, z.2.2.2.2.2.1, z.2.2.2.2.2.2.1, txSize z.2 + 1, z.2.2.2.2.2.2.2.2)) := by
  unfold zStep txStep
  rw [if_neg (by omega)]
theorem st_gd {z : PZ} {P : Nat} {st ar : Int32} (h : gd z (P + 1)) (h1 : 1 ≤ P) : gd (zStep z st ar) P ∧ lo z (zStep z st ar) ∧ txSize (zStep z st ar).2 = txSize z.2 + 1 ∧ (zStep z st ar).2.1 (txSize z.2) = txEnc st ar := by
  have hs : txSize z.2 < 600 := by have := h.2.2.2.1; have := h.2.1; omega
  have e := sz_step (z := z) (st := st) (ar := ar) hs
  refine ⟨⟨h.1, h.2.1, h1, by rw [e]; show _ ≤ zAt z; have := h.2.2.2.1; omega, h.2.2.2.2⟩, ⟨by omega, fun i hi => ?_, rfl, by rw [st_eq hs]; rfl⟩, e, ?_⟩
  · rw [st_eq hs]; exact upd_ne (by omega)
  · rw [st_eq hs]; exact upd_at _ _ _
/-- a unit, an operator, a unit .. -/
theorem WF_loop {u : TK} {f : PZ → PZ} {k : Int32} {s : Nat} {bo : Bool} {D g : Nat} (hf : WF f bo D g) (hkp : keeps f) (hs : 5 ≤ s) (hs2 : s ≤ 13) (hb : bo = true → 12 ≤ s) : ∀ (m : Nat) (z0 z : PZ) (P : Nat), gd z P → 8 ≤ zOpen z + g → zFault (rLoop u k (nI s) f m z) = 0 → (∀ i, i < txSize z0.2 → z.2.1 i = z0.2.1 i) → wf z.2.1 bo (txSize z0.2) (txSize z.2) (D + 1) → gd (rLoop u k (nI s) f m z) P ∧ lo z (rLoop u k (nI s) f m z) ∧ wf (rLoop u k (nI s) f m z).2.1 bo (txSize z0.2) (txSize (rLoop u k (nI s) f m z).2) (D + 1) := by
  intro m
  induction m with
  | zero => intro z0 z P hg _ _ _ hw; exact ⟨hg, lo_rf z, hw⟩
  | succ m ih =>
    intro z0 z P hg ho hfl hl hw
    unfold rLoop at hfl ⊢
    by_cases hB : pAccB u z k = true
    · rw [if_pos hB] at hfl ⊢
      have hx : zFault (pExp u z k) = 0 ∧ pAccZ u z k = pExp u z k := by
        unfold pAccB at hB
        unfold pAccZ
        by_cases hs : pSees u z k = true
        · rw [if_pos hs] at hB ⊢; exact ⟨of_decide_eq_true hB, rfl⟩
        · rw [if_neg hs] at hB; cases hB
      obtain ⟨x1, x2⟩ := hx
      obtain ⟨y1, y2, y3, y4⟩ := ok_exp x1
      rw [x2, y3] at hfl ⊢
      have hf0 : zFault (f (zNx z)) = 0 := Classical.byContradiction (fun q => by
        have q1 : flt (zStep (f (zNx z)) (nI s) 0) := q
        rw [fz_loop q1] at hfl
        exact q1 hfl)
      obtain ⟨a1, a2, a3⟩ := hf (zNx z) (P + 1) (nx_gd hg y2) ho hf0
      obtain ⟨b1, b2, b3, b4⟩ := st_gd (st := nI s) (ar := 0) a1 hg.2.2.1
      have a2o : zOpen (f (zNx z)) = zOpen z := a2.2.2.1
      have e0 : txSize (zNx z).2 = txSize z.2 := rfl
      have l0 : txSize z0.2 ≤ txSize z.2 := hw.1
      have same : ∀ i, i < txSize z.2 → (zStep (f (zNx z)) (nI s) 0).2.1 i = z.2.1 i := fun i hi => by
        rw [b2.2.1 i (by have := a2.1; omega)]
        exact a2.2.1 i hi
      have w1 : wf (zStep (f (zNx z)) (nI s) 0).2.1 bo (txSize z0.2) (txSize z.2) (D + 1) := wf_congr hw (fun i _ i2 => (same i i2).symm)
      have w2 : wf (zStep (f (zNx z)) (nI s) 0).2.1 bo (txSize z.2) (txSize (f (zNx z)).2) D := wf_congr a3 (fun i _ i2 => (b2.2.1 i i2).symm)
      have w3 := wf_bin (b3 := bo) w1 w2 hs hs2 (fun q => Or.inr ⟨hb q, q, q⟩) b4
      rw [← b3] at w3
      obtain ⟨c1, c2, c3⟩ := ih z0 _ P b1 (by show 8 ≤ zOpen (f (zNx z)) + g; rw [a2o]; exact ho) hfl (fun i hi => (same i (by omega)).trans (hl i hi)) w3
      refine ⟨c1, lo_tr ⟨by have := a2.1; omega, same, ?_, b2.2.2.2.trans a2.2.2.2⟩ c2, c3⟩
      show zOpen (f (zNx z)) = zOpen z
      exact a2o
    · rw [if_neg hB] at hfl ⊢
      unfold pAccZ at hfl ⊢
      by_cases hs : pSees u z k = true
      · exfalso
        rw [if_pos hs] at hfl
        exact hB (by unfold pAccB; rw [if_pos hs]; exact decide_eq_true hfl)
      · rw [if_neg hs]
        exact ⟨hg, lo_rf z, hw⟩
