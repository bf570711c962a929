/-! what is weighed, on both sides -/
def cstO (t : MR) (nw : Nat → Int32) (te : Int32) (sl p q : Nat) : Option Nat := if mWhy t nw te p q sl = 0 then some (mPrice t nw p q sl) else none
theorem row_at {s : TX} {t : MR} {sl : Nat} (ht : TxR s t sl) {v nw : Nat → Int32} {p : Nat} (hv : VR v nw) (hp : p < 12) (te : Int32) : ∀ (m j : Nat) (z : (Nat → Option Nat) × (Nat → Int32)), j + m ≤ 12 → (∀ q, j ≤ q → q < j + m → (foldF (hIn s v te p) m j z).1 (p * 12 + q) = cstO t nw te sl p q) ∧ ∀ i, (∀ q, j ≤ q → q < j + m → i ≠ p * 12 + q) → (foldF (hIn s v te p) m j z).1 i = z.1 i := by
  intro m
  induction m with
  | zero => intro j z _; exact ⟨fun q h1 h2 => by omega, fun i _ => rfl⟩
  | succ m ih =>
    intro j z hj
    obtain ⟨a1, a2⟩ := ih (j + 1) (hIn s v te p j z) (by omega)
    have e0 : (hIn s v te p j z).1 = va_up z.1 (p * 12 + j) (cstO t nw te sl p j) := by
      show va_up z.1 (p * 12 + j) (jCost s v te p j z.2) = _
      rw [cost_same ht hv hp (show j < 12 by omega)]; rfl
    refine ⟨fun q h1 h2 => ?_, fun i hi => ?_⟩
    · by_cases e : q = j
      · subst e
        show (foldF (hIn s v te p) m (q + 1) (hIn s v te p q z)).1 (p * 12 + q) = _
        rw [a2 (p * 12 + q) (fun r h3 h4 => by omega), e0, up_at]
      · exact a1 q (by omega) (by omega)
    · show (foldF (hIn s v te p) m (j + 1) (hIn s v te p j z)).1 i = _
      rw [a2 i (fun q h1 h2 => hi q (by omega) (by omega)), e0, up_ne (hi j (Nat.le_refl j) (by omega))]
def dbOk (g : LG) : Prop := ∀ j, 0 ≤ (g.1 j).toInt
theorem first_same {v nw : Nat → Int32} {g : LG} {p : Nat} (hv : VR v nw) (hp : p < 12) (hg : dbOk g) : hMbF v g p = mTru nw g.1 p ∧ hMbL v g p = mGiv nw g.1 p := by
  have f : ∀ c, c < 6 → jFact v p c = nw (32 * p + c) := fun c hc => by
    unfold jFact
    rw [if_pos (by omega)]
    exact (hv p hp).1 c hc
  have d0 : g.1 p ≤ 0 ↔ g.1 p = 0 := by
    have := hg p
    constructor
    · intro q
      rw [Int32.le_iff_toInt_le] at q
      have q : (g.1 p).toInt ≤ 0 := q
      exact Int32.toInt_inj.1 (show (g.1 p).toInt = 0 by omega)
    · intro q; rw [q]; exact Int32.le_refl _
  unfold hMbF mTru hMbL mGiv
  rw [f 3 (by decide), f 2 (by decide)]
  refine ⟨?_, rfl⟩
  by_cases q : nw (32 * p + 3) = 1 ∧ g.1 p ≤ 0
  · rw [decide_eq_true q, decide_eq_true ⟨q.1, d0.1 q.2⟩]
  · rw [decide_eq_false q, decide_eq_false (fun r => q ⟨r.1, d0.2 r.2⟩)]
theorem out_at {s : TX} {t : MR} {sl : Nat} (ht : TxR s t sl) {v nw : Nat → Int32} {g : LG} (hv : VR v nw) (hg : dbOk g) (te : Int32) {n : Nat} (hn : n ≤ 12) : ∀ (m f : Nat) (z : (Nat → Option Nat) × (Nat → Bool) × (Nat → Bool) × (Nat → Int32)), f + m ≤ n → (∀ p, f ≤ p → p < f + m → (∀ q, q < n → (foldF (hOut s v te n g) m f z).1 (p * 12 + q) = cstO t nw te sl p q) ∧ (foldF (hOut s v te n g) m f z).2.1 p = mTru nw g.1 p ∧ (foldF (hOut s v te n g) m f z).2.2.1 p = mGiv nw g.1 p) ∧ (∀ i, (∀ p, f ≤ p → p < f + m → ∀ q, q < n → i ≠ p * 12 + q) → (foldF (hOut s v te n g) m f z).1 i = z.1 i) ∧ ∀ p, p < f → (foldF (hOut s v te n g) m f z).2.1 p = z.2.1 p ∧ (foldF (hOut s v te n g) m f z).2.2.1 p = z.2.2.1 p := by
  intro m
  induction m with
  | zero => intro f z _; exact ⟨fun p h1 h2 => by omega, fun i _ => rfl, fun p _ => ⟨rfl, rfl⟩⟩
  | succ m ih =>
    intro f z hf
    obtain ⟨a1, a2, a3⟩ := ih (f + 1) (hOut s v te n g f z) (by omega)
    obtain ⟨b1, b2⟩ := row_at ht hv (show f < 12 by omega) te n 0 (z.1, z.2.2.2) (by omega)
    obtain ⟨c1, c2⟩ := first_same hv (show f < 12 by omega) hg
    refine ⟨fun p h1 h2 => ?_, fun i hi => ?_, fun p hp => ?_⟩
    · by_cases e : p = f
      · subst e
        obtain ⟨d1, d2⟩ := a3 p (by omega)
        refine ⟨fun q hq => ?_, ?_, ?_⟩
        · show (foldF (hOut s v te n g) m (p + 1) (hOut s v te n g p z)).1 (p * 12 + q) = _
          rw [a2 (p * 12 + q) (fun r h3 h4 q2 hq2 => by omega)]
          exact b1 q (Nat.zero_le _) (by omega)
        · show (foldF (hOut s v te n g) m (p + 1) (hOut s v te n g p z)).2.1 p = _
          rw [d1]
          show updB z.2.1 p (hMbF v g p) p = _
          rw [uB_at, c1]
        · show (foldF (hOut s v te n g) m (p + 1) (hOut s v te n g p z)).2.2.1 p = _
          rw [d2]
          show updB z.2.2.1 p (hMbL v g p) p = _
          rw [uB_at, c2]
      · exact a1 p (by omega) (by omega)
    · show (foldF (hOut s v te n g) m (f + 1) (hOut s v te n g f z)).1 i = _
      rw [a2 i (fun p h1 h2 q hq => hi p (by omega) (by omega) q hq)]
      exact b2 i (fun q _ hq => hi f (Nat.le_refl f) (by omega) q (by omega))
    · obtain ⟨d1, d2⟩ := a3 p (by omega)
      refine ⟨?_, ?_⟩
      · show (foldF (hOut s v te n g) m (f + 1) (hOut s v te n g f z)).2.1 p = _
        rw [d1]
        show updB z.2.1 f (hMbF v g f) p = _
        rw [uB_ne (by omega)]
      · show (foldF (hOut s v te n g) m (f + 1) (hOut s v te n g f z)).2.2.1 p = _
        rw [d2]
        show updB z.2.2.1 f (hMbL v g f) p = _
        rw [uB_ne (by omega)]
theorem hPl_at {x : TX} {t : MR} {sl : Nat} (ht : TxR x t sl) {v nw k : Nat → Int32} {g : LG} {h : HS} {ql : PL} (hv : VR v nw) (hg : dbOk g) (hn : hFs h ≤ 12) : plN (hPl h v k ql g x) = hFs h ∧ ∀ p, p < hFs h → (∀ q, q < hFs h → (hPl h v k ql g x).1 (p * 12 + q) = cstO t nw h.2.2.2.2.1 sl p q) ∧ (hPl h v k ql g x).2.1 p = mTru nw g.1 p ∧ (hPl h v k ql g x).2.2.1 p = mGiv nw g.1 p := by
  refine ⟨rfl, fun p hp => ?_⟩
  exact (out_at ht hv hg h.2.2.2.2.1 hn (hFs h) 0 (ql.1, ql.2.1, ql.2.2.1, k) (by omega)).1 p (Nat.zero_le _) (by omega)
/-! the reference weighs -/
theorem wi_at {t : MR} {nw : Nat → Int32} {te : Int32} {sl p : Nat} : ∀ (m j : Nat) (my : Nat → Nat), j + m ≤ 12 → (∀ q, j ≤ q → q < j + m → foldF (mWi t nw te sl p) m j my (12 * p + q) = mMay t nw te sl p q) ∧ ∀ i, (∀ q, j ≤ q → q < j + m → i ≠ 12 * p + q) → foldF (mWi t nw te sl p) m j my i = my i := by
  intro m
  induction m with
  | zero => intro j z _; exact ⟨fun q h1 h2 => by omega, fun i _ => rfl⟩
  | succ m ih =>
    intro j z hj
    obtain ⟨a1, a2⟩ := ih (j + 1) (mWi t nw te sl p j z) (by omega)
    refine ⟨fun q h1 h2 => ?_, fun i hi => ?_⟩
    · by_cases e : q = j
      · subst e
        show foldF (mWi t nw te sl p) m (q + 1) (mWi t nw te sl p q z) (12 * p + q) = _
        rw [a2 (12 * p + q) (fun r h3 h4 => by omega)]
        show va_up z (12 * p + q) (mMay t nw te sl p q) (12 * p + q) = _
        rw [up_at]
      · exact a1 q (by omega) (by omega)
    · show foldF (mWi t nw te sl p) m (j + 1) (mWi t nw te sl p j z) i = _
      rw [a2 i (fun q h1 h2 => hi q (by omega) (by omega))]
      show va_up z (12 * p + j) (mMay t nw te sl p j) i = _
      rw [up_ne (hi j (Nat.le_refl j) (by omega))]
theorem wo_at {t : MR} {nw db : Nat → Int32} {te : Int32} {sl n : Nat} (hn : n ≤ 12) : ∀ (m f : Nat) (z : MY), f + m ≤ n → (∀ p, f ≤ p → p < f + m → (∀ q, q < n → (foldF (mWo t nw db te sl n) m f z).1 (12 * p + q) = mMay t nw te sl p q) ∧ (foldF (mWo t nw db te sl n) m f z).2.1 p = mTru nw db p ∧ (foldF (mWo t nw db te sl n) m f z).2.2 p = mGiv nw db p) ∧ (∀ i, (∀ p, f ≤ p → p < f + m → ∀ q, q < n → i ≠ 12 * p + q) → (foldF (mWo t nw db te sl n) m f z).1 i = z.1 i) ∧ ∀ p, p < f → (foldF (mWo t nw db te sl n) m f z).2.1 p = z.2.1 p ∧ (foldF (mWo t nw db te sl n) m f z).2.2 p = z.2.2 p := by
  intro m
  induction m with
  | zero => intro f z _; exact ⟨fun p h1 h2 => by omega, fun i _ => rfl, fun p _ => ⟨rfl, rfl⟩⟩
  | succ m ih =>
    intro f z hf
    obtain ⟨a1, a2, a3⟩ := ih (f + 1) (mWo t nw db te sl n f z) (by omega)
    obtain ⟨b1, b2⟩ := wi_at (t := t) (nw := nw) (te := te) (sl := sl) (p := f) n 0 z.1 (by omega)
    refine ⟨fun p h1 h2 => ?_, fun i hi => ?_, fun p hp => ?_⟩
    · by_cases e : p = f
      · subst e
        obtain ⟨d1, d2⟩ := a3 p (by omega)
        refine ⟨fun q hq => ?_, ?_, ?_⟩
        · show (foldF (mWo t nw db te sl n) m (p + 1) (mWo t nw db te sl n p z)).1 (12 * p + q) = _
          rw [a2 (12 * p + q) (fun r h3 h4 q2 hq2 => by omega)]
          exact b1 q (Nat.zero_le _) (by omega)
        · show (foldF (mWo t nw db te sl n) m (p + 1) (mWo t nw db te sl n p z)).2.1 p = _
          rw [d1]
          exact uB_at _ _ _
        · show (foldF (mWo t nw db te sl n) m (p + 1) (mWo t nw db te sl n p z)).2.2 p = _
          rw [d2]
          exact uB_at _ _ _
      · exact a1 p (by omega) (by omega)
    · show (foldF (mWo t nw db te sl n) m (f + 1) (mWo t nw db te sl n f z)).1 i = _
      rw [a2 i (fun p h1 h2 q hq => hi p (by omega) (by omega) q hq)]
      exact b2 i (fun q _ hq => hi f (Nat.le_refl f) (by omega) q (by omega))
    · obtain ⟨d1, d2⟩ := a3 p (by omega)
      refine ⟨?_, ?_⟩
      · show (foldF (mWo t nw db te sl n) m (f + 1) (mWo t nw db te sl n f z)).2.1 p = _
        rw [d1]
        show updB z.2.1 f (mTru nw db f) p = _
        rw [uB_ne (by omega)]
      · show (foldF (mWo t nw db te sl n) m (f + 1) (mWo t nw db te sl n f z)).2.2 p = _
        rw [d2]
        show updB z.2.2 f (mGiv nw db f) p = _
        rw [uB_ne (by omega)]
theorem wgh_at {t : MR} {nw db : Nat → Int32} {te : Int32} {sl n : Nat} (hn : n ≤ 12) (y : MY) : ∀ p, p < n → (∀ q, q < n → (mWgh t nw db te sl n y).1 (12 * p + q) = mMay t nw te sl p q) ∧ (mWgh t nw db te sl n y).2.1 p = mTru nw db p ∧ (mWgh t nw db te sl n y).2.2 p = mGiv nw db p := fun p hp => (wo_at hn n 0 y (by omega)).1 p (Nat.zero_le _) (by omega)
/-! places as the class and the reference decide them -/
theorem Clo_F {n : Nat} {go : Nat → Nat → Bool} {F G A B : Nat → Bool} {u : Nat → Option Nat} (h1 : ∀ p, p < n → F p = G p) (h2 : ∀ p, p < n → A p = B p) (h : Clo n go F A u) : Clo n go G B u := by
  obtain ⟨c1, c2, c3, c4⟩ := h
  refine ⟨c1, c2, fun p hp e => ?_, fun f q hf hq e => ?_⟩
  · rw [← h1 p hp]; exact c3 p hp e
  · rw [← h2 f hf]; exact c4 f q hf hq e
theorem plan_same2 {s : PL} {q : MT} {my : Nat → Nat} {ke : Bool} {ai : Nat → Option Nat} {tr gv : Nat → Bool} {ch : Nat → Option Nat} (hn : plN s ≤ 12) (hc : cLe s.1) (hg : ∀ p, plGo s p p = false) (hm : ∀ p h, p < plN s → h < plN s → my (12 * p + h) = if plGo s p h = true then plC s p h else 100000000) (hb : ∀ p, p < plN s → s.2.2.2.2.2.2 p = if ke = true then ai p else none) (h1 : ∀ p, p < plN s → s.2.1 p = tr p) (h2 : ∀ p, p < plN s → s.2.2.1 p = gv p) (hz : oz s.2.2.2.1) :
    (∀ p, p < plN s → plHome s (plQ2 s q).2.1 p = (mSearch my ke ai tr gv (plN s) ch).2.2 p) ∧ (∀ p, plN s ≤ p → plHome s (plQ2 s q).2.1 p = none) ∧ (mSearch my ke ai tr gv (plN s) ch).1 = 1000000 * mvN s.2.2.2.2.2.2 (mSearch my ke ai tr gv (plN s) ch).2.2 (plN s) + csN (plC s) (mSearch my ke ai tr gv (plN s) ch).2.2 (plN s) ∧ (mSearch my ke ai tr gv (plN s) ch).2.1 = gcount (mSearch my ke ai tr gv (plN s) ch).2.2 (plN s) ∧ plClo s (plHome s (plQ2 s q).2.1) := by
  obtain ⟨t2, k1, k2, k3, k4⟩ := cls_best (q := q) hn hc hg
  have hmi : myIs my (plN s) (plGo s) (plC s) := ⟨hm, plC_le hc⟩
  have k3' : Clo (plN s) (plGo s) tr gv (uOf (plGo s) t2) := Clo_F h1 h2 k3
  obtain ⟨s1, s2, s3, s4⟩ := search_best (ke := ke) (ai := ai) (b := s.2.2.2.2.2.2) (ch := ch) hn hmi hb k3'
  have s1' : plClo s (mSearch my ke ai tr gv (plN s) ch).2.2 := Clo_F (fun p hp => (h1 p hp).symm) (fun p hp => (h2 p hp).symm) s1
  have eh := fun p hp => plHome_u (ro := (plQ2 s q).2.1) hn k1 k2 p hp
  refine ⟨fun p hp => ?_, fun p hp => ?_, s2, s3, Clo_congr (fun p hp => (eh p hp).symm) k3⟩
  · rw [eh p hp]
    exact best_uniq hn k3 s1' (k4 _ s1').1 (s4 _ k3').1 (k4 _ s1').2 (s4 _ k3').2 p hp
  · cases e : plHome s (plQ2 s q).2.1 p with
    | none => rfl
    | some h =>
      obtain ⟨o1, o2, o3⟩ := plHome_ok hz p h e
      obtain ⟨p', p1, p2, p3⟩ := k2 h o1
      rw [o3] at p3
      cases p3
      omega
theorem why_self (t : MR) (nw : Nat → Int32) (te : Int32) (p sl : Nat) : mWhy t nw te p p sl = 1 := by unfold mWhy; rw [if_pos rfl]
theorem mvN_none {b u : Nat → Option Nat} : ∀ n, (∀ p, p < n → b p = none) → mvN b u n = 0
  | 0, _ => rfl
  | n + 1, h => by
    show mvN b u n + (if b n = none ∨ b n = u n then 0 else 1) = 0
    rw [mvN_none n (fun p hp => h p (by omega)), if_pos (Or.inl (h n (by omega)))]
theorem gc_cut {u : Nat → Option Nat} {n : Nat} : ∀ m, (∀ p, n ≤ p → u p = none) → gcount u (n + m) = gcount u n
  | 0, _ => rfl
  | m + 1, h => by
    show gcount u (n + m) + (if u (n + m) = none then 0 else 1) = gcount u n
    rw [gc_cut m h, if_pos (h (n + m) (by omega))]; rfl
theorem sum_cs {s : PL} {n : Nat} : ∀ m, (∀ p, p < n → True) → plSum s m = csN (plC s) s.2.2.2.1 m
  | 0, _ => rfl
  | m + 1, h => by
    show plSum s m + (match s.2.2.2.1 m with | none => 0 | some h => (s.1 (m * 12 + h)).getD 0) = csN (plC s) s.2.2.2.1 m + (match s.2.2.2.1 m with | none => 0 | some h => plC s m h)
    rw [sum_cs m h]
theorem cs_cut {c : Nat → Nat → Nat} {u : Nat → Option Nat} {n : Nat} : ∀ m, (∀ p, n ≤ p → u p = none) → csN c u (n + m) = csN c u n
  | 0, _ => rfl
  | m + 1, h => by
    show csN c u (n + m) + (match u (n + m) with | none => 0 | some h => c (n + m) h) = csN c u n
    rw [cs_cut m h, h (n + m) (by omega)]
    rfl
/-- a round -/
theorem round_same {x : TX} {t : MR} {sl : Nat} (ht : TxR x t sl) {v nw k : Nat → Int32} {g : LG} {h : HS} {ql : PL} {w : MT} {y : MY} {ai ch : Nat → Option Nat} (hv : VR v nw) (hg : dbOk g) (hn : hFs h ≤ 12) (hq : PlIn ql) :
    (∀ p, p < hFs h → (hRd h v k ql w g x).2.2.2.1 p = (mSearch (mWgh t nw g.1 h.2.2.2.2.1 sl (hFs h) y).1 false ai (mWgh t nw g.1 h.2.2.2.2.1 sl (hFs h) y).2.1 (mWgh t nw g.1 h.2.2.2.2.1 sl (hFs h) y).2.2 (hFs h) ch).2.2 p) ∧ (∀ p, hFs h ≤ p → (hRd h v k ql w g x).2.2.2.1 p = none) ∧ gcount (hRd h v k ql w g x).2.2.2.1 12 = (mSearch (mWgh t nw g.1 h.2.2.2.2.1 sl (hFs h) y).1 false ai (mWgh t nw g.1 h.2.2.2.2.1 sl (hFs h) y).2.1 (mWgh t nw g.1 h.2.2.2.2.1 sl (hFs h) y).2.2 (hFs h) ch).2.1 ∧ plSum (hRd h v k ql w g x) 12 = (mSearch (mWgh t nw g.1 h.2.2.2.2.1 sl (hFs h) y).1 false ai (mWgh t nw g.1 h.2.2.2.2.1 sl (hFs h) y).2.1 (mWgh t nw g.1 h.2.2.2.2.1 sl (hFs h) y).2.2 (hFs h) ch).1 ∧ (∀ p r, (hRd h v k ql w g x).2.2.2.1 p = some r → p < hFs h ∧ r < hFs h) ∧ (∀ p q r, (hRd h v k ql w g x).2.2.2.1 p = some r → (hRd h v k ql w g x).2.2.2.1 q = some r → p = q) := by
  obtain ⟨a0, a1⟩ := hPl_at (k := k) (ql := ql) ht hv hg hn
  have hin : PlIn (hRq h v k ql g x) := plForget_in (hPl_in hq)
  have sN : plN (hRq h v k ql g x) = hFs h := rfl
  have cst : ∀ p q, p < hFs h → q < hFs h → (hRq h v k ql g x).1 (p * 12 + q) = cstO t nw h.2.2.2.2.1 sl p q := fun p q hp hq => (a1 p hp).1 q hq
  have out : ∀ p, p < 12 → (hRq h v k ql g x).2.2.2.2.2.1 p = false := fun p hp => by
    show cpyB (hPl h v k ql g x).2.2.2.2.2.1 (fun _ => false) 12 p = false
    unfold cpyB; rw [if_pos hp]
  have bef : ∀ p, p < 12 → (hRq h v k ql g x).2.2.2.2.2.2 p = none := fun p hp => by
    show cpyO (hPl h v k ql g x).2.2.2.2.2.2 (fun _ => none) 12 p = none
    unfold cpyO; rw [if_pos hp]
  have go : ∀ p q, p < hFs h → q < hFs h → (plGo (hRq h v k ql g x) p q = true ↔ mWhy t nw h.2.2.2.2.1 p q sl = 0) := fun p q hp hq => by
    unfold plGo plBe
    rw [out p (by omega), if_neg (by decide), if_neg (show ¬ (hRq h v k ql g x).2.2.2.2.1 ≤ q from fun z => absurd z (Nat.not_le.2 hq)), cst p q hp hq]
    unfold cstO
    by_cases e : mWhy t nw h.2.2.2.2.1 p q sl = 0
    · rw [if_pos e, if_neg (fun z => by cases z)]
      exact ⟨fun _ => e, fun _ => rfl⟩
    · rw [if_neg e, if_pos rfl]
      exact ⟨(fun z => by cases z), fun z => absurd z e⟩
  have self : ∀ p, plGo (hRq h v k ql g x) p p = false := fun p => by
    by_cases hp : p < hFs h
    · cases e : plGo (hRq h v k ql g x) p p with
      | false => rfl
      | true =>
        have := (go p p hp hp).1 e
        rw [why_self] at this
        exact absurd this (by decide)
    · unfold plGo plBe
      split
      · rfl
      · rw [if_pos (show (hRq h v k ql g x).2.2.2.2.1 ≤ p from Nat.not_lt.1 hp)]
  have M := plan_same2 (s := hRq h v k ql g x) (q := w) (my := (mWgh t nw g.1 h.2.2.2.2.1 sl (hFs h) y).1) (ke := false) (ai := ai) (tr := (mWgh t nw g.1 h.2.2.2.2.1 sl (hFs h) y).2.1) (gv := (mWgh t nw g.1 h.2.2.2.2.1 sl (hFs h) y).2.2) (ch := ch) hn hin.1 self (fun p q hp hq => by
    have hp : p < hFs h := hp
    have hq : q < hFs h := hq
    rw [((wgh_at hn y) p hp).1 q hq]
    unfold mMay
    by_cases e : mWhy t nw h.2.2.2.2.1 p q sl = 0
    · rw [if_pos e, if_pos ((go p q hp hq).2 e)]
      show _ = ((hRq h v k ql g x).1 (p * 12 + q)).getD 0
      rw [cst p q hp hq]
      unfold cstO
      rw [if_pos e]; rfl
    · rw [if_neg e, if_neg (fun z => e ((go p q hp hq).1 z))]) (fun p hp => by
    have hp : p < hFs h := hp
    rw [bef p (by omega), if_neg (by decide)]) (fun p hp => by
    have hp : p < hFs h := hp
    rw [((wgh_at hn y) p hp).2.1]; exact (a1 p hp).2.1) (fun p hp => by
    have hp : p < hFs h := hp
    rw [((wgh_at hn y) p hp).2.2]; exact (a1 p hp).2.2) hin.2.1.2
  obtain ⟨m1, m2, m3, m4, m5⟩ := M
  have m1 : ∀ p, p < hFs h → (hRd h v k ql w g x).2.2.2.1 p = (mSearch (mWgh t nw g.1 h.2.2.2.2.1 sl (hFs h) y).1 false ai (mWgh t nw g.1 h.2.2.2.2.1 sl (hFs h) y).2.1 (mWgh t nw g.1 h.2.2.2.2.1 sl (hFs h) y).2.2 (hFs h) ch).2.2 p := m1
  have m2 : ∀ p, hFs h ≤ p → (hRd h v k ql w g x).2.2.2.1 p = none := m2
  have eN : 12 = hFs h + (12 - hFs h) := by omega
  have lt : ∀ p r, (hRd h v k ql w g x).2.2.2.1 p = some r → p < hFs h := fun p r e => by
    apply Classical.byContradiction
    intro z
    rw [m2 p (by omega)] at e
    cases e
  refine ⟨m1, m2, ?_, ?_, fun p r e => ?_, fun p q r e1 e2 => ?_⟩
  · rw [eN, gc_cut (12 - hFs h) m2, gcount_congr (hFs h) m1]
    exact m4.symm
  · rw [sum_cs (n := 0) 12 (fun _ _ => trivial)]
    have e1 : csN (plC (hRd h v k ql w g x)) (hRd h v k ql w g x).2.2.2.1 12 = csN (plC (hRq h v k ql g x)) (hRd h v k ql w g x).2.2.2.1 12 := rfl
    rw [e1]
    conv => lhs; rw [eN]
    rw [cs_cut (12 - hFs h) m2, csN_congr (hFs h) m1]
    have e2 := mvN_none (b := (hRq h v k ql g x).2.2.2.2.2.2) (u := (mSearch (mWgh t nw g.1 h.2.2.2.2.1 sl (hFs h) y).1 false ai (mWgh t nw g.1 h.2.2.2.2.1 sl (hFs h) y).2.1 (mWgh t nw g.1 h.2.2.2.2.1 sl (hFs h) y).2.2 (hFs h) ch).2.2) (hFs h) (fun p hp => bef p (by omega))
    have m3 : (mSearch (mWgh t nw g.1 h.2.2.2.2.1 sl (hFs h) y).1 false ai (mWgh t nw g.1 h.2.2.2.2.1 sl (hFs h) y).2.1 (mWgh t nw g.1 h.2.2.2.2.1 sl (hFs h) y).2.2 (hFs h) ch).1 = 1000000 * mvN (hRq h v k ql g x).2.2.2.2.2.2 (mSearch (mWgh t nw g.1 h.2.2.2.2.1 sl (hFs h) y).1 false ai (mWgh t nw g.1 h.2.2.2.2.1 sl (hFs h) y).2.1 (mWgh t nw g.1 h.2.2.2.2.1 sl (hFs h) y).2.2 (hFs h) ch).2.2 (hFs h) + csN (plC (hRq h v k ql g x)) (mSearch (mWgh t nw g.1 h.2.2.2.2.1 sl (hFs h) y).1 false ai (mWgh t nw g.1 h.2.2.2.2.1 sl (hFs h) y).2.1 (mWgh t nw g.1 h.2.2.2.2.1 sl (hFs h) y).2.2 (hFs h) ch).2.2 (hFs h) := m3
    rw [e2] at m3
    omega
  · have hp := lt p r e
    exact ⟨hp, (m5.1 p r hp e).1⟩
  · exact m5.2.1 p q r (lt p r e1) (lt q r e2) e1 e2
