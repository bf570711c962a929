/-! ways and CLOSED PLACES are the same; counts, numbers and weights -/
theorem tkn_bit {v : Nat → Option Nat} {h : Nat} : ∀ p, (tkn v p).testBit h = true ↔ ∃ q, q < p ∧ v q = some h
  | 0 => ⟨(fun e => by rw [show tkn v 0 = 0 from rfl, Nat.zero_testBit] at e; cases e), (fun ⟨q, hq, _⟩ => by omega)⟩
  | p + 1 => by
    have ih := tkn_bit (v := v) (h := h) p
    show (addO (tkn v p) (v p)).testBit h = true ↔ _
    cases e : v p with
    | none =>
      show (tkn v p).testBit h = true ↔ _
      rw [ih]
      refine ⟨fun ⟨q, h1, h2⟩ => ⟨q, by omega, h2⟩, fun ⟨q, h1, h2⟩ => ⟨q, ?_, h2⟩⟩
      by_cases z : q = p
      · rw [z, e] at h2; cases h2
      · omega
    | some x =>
      show (tkn v p ||| 2 ^ x).testBit h = true ↔ _
      rw [Nat.testBit_or, Nat.testBit_two_pow, Bool.or_eq_true, ih, decide_eq_true_iff]
      constructor
      · intro o
        rcases o with ⟨q, h1, h2⟩ | h1
        · exact ⟨q, by omega, h2⟩
        · exact ⟨p, by omega, by rw [e, h1]⟩
      · intro ⟨q, h1, h2⟩
        by_cases z : q = p
        · right; rw [z, e] at h2; cases h2; rfl
        · left; exact ⟨q, by omega, h2⟩
def myIs (my : Nat → Nat) (n : Nat) (go : Nat → Nat → Bool) (c : Nat → Nat → Nat) : Prop := (∀ p h, p < n → h < n → my (12 * p + h) = if go p h = true then c p h else 100000000) ∧ ∀ p h, c p h ≤ 10000
theorem clo_way {my : Nat → Nat} {n : Nat} {go : Nat → Nat → Bool} {c : Nat → Nat → Nat} {tr gv : Nat → Bool} (hm : myIs my n go c) {u : Nat → Option Nat} (h : Clo n go tr gv u) : way my tr gv n (tkn u n) u := by
  obtain ⟨c1, c2, c3, c4⟩ := h
  refine ⟨fun p hp => ?_, rfl⟩
  cases e : u p with
  | none =>
    show mSt gv (tkn u n) p = true
    unfold mSt
    split
    · rfl
    · rename_i hb
      have hb : (tkn u n).testBit p = true := by
        cases hx : (tkn u n).testBit p with
        | true => rfl
        | false => exact absurd hx hb
      obtain ⟨q, hq, hu⟩ := (tkn_bit n).1 hb
      rcases c4 p q hp hq hu with h1 | h1
      · exact absurd e h1
      · exact h1
  | some x =>
    obtain ⟨hx, hg⟩ := c1 p x hp e
    refine ⟨hx, ?_, (tkn_bit n).2 ⟨p, hp, e⟩, ?_, ?_⟩
    · unfold mGo
      split
      · rfl
      · rename_i hb
        rcases c3 p hp (by rw [e]; exact fun z => by cases z) with h1 | h1
        · exact h1
        · exact absurd ((tkn_bit n).2 h1) hb
    · cases hb : (tkn u p).testBit x with
      | false => rfl
      | true =>
        obtain ⟨q, hq, hu⟩ := (tkn_bit p).1 hb
        have := c2 q p x (by omega) hp hu e
        omega
    · rw [hm.1 p x hp hx, if_pos hg]
      have := hm.2 p x
      omega
theorem way_clo {my : Nat → Nat} {n s : Nat} {go : Nat → Nat → Bool} {c : Nat → Nat → Nat} {tr gv : Nat → Bool} (hm : myIs my n go c) {u : Nat → Option Nat} (h : way my tr gv n s u) : Clo n go tr gv u := by
  obtain ⟨h1, h2⟩ := h
  have st : ∀ p x, p < n → u p = some x → x < n ∧ mGo tr s p = true ∧ s.testBit x = true ∧ (tkn u p).testBit x = false ∧ my (12 * p + x) ≠ 100000000 := fun p x hp e => by
    have := h1 p hp
    rw [e] at this
    exact this
  refine ⟨fun p x hp e => ?_, fun p q x hp hq e1 e2 => ?_, fun p hp e => ?_, fun f q hf hq e => ?_⟩
  · obtain ⟨a1, _, _, _, a5⟩ := st p x hp e
    refine ⟨a1, ?_⟩
    cases hg : go p x with
    | true => rfl
    | false =>
      rw [hm.1 p x hp a1, if_neg (by rw [hg]; decide)] at a5
      exact absurd rfl a5
  · rcases Nat.lt_trichotomy p q with z | z | z
    · have := (st q x hq e2).2.2.2.1
      rw [(tkn_bit q).2 ⟨p, z, e1⟩] at this
      cases this
    · exact z
    · have := (st p x hp e1).2.2.2.1
      rw [(tkn_bit p).2 ⟨q, z, e2⟩] at this
      cases this
  · cases ep : u p with
    | none => exact absurd ep e
    | some x =>
      have := (st p x hp ep).2.1
      unfold mGo at this
      split at this
      · rename_i hb
        rw [← h2] at hb
        exact Or.inr ((tkn_bit n).1 hb)
      · exact Or.inl this
  · cases ef : u f with
    | some x => exact Or.inl (fun z => by cases z)
    | none =>
      right
      have a := h1 f hf
      rw [ef] at a
      have a : mSt gv s f = true := a
      unfold mSt at a
      rw [if_neg (by rw [(st q f hq e).2.2.1]; decide)] at a
      exact a
/-! bits -/
theorem mBi12_at (s k : Nat) : mBi12 s (k + 1) = mBi12 s k + (if s.testBit k = true then 1 else 0) := by
  show mBi12 s k + s / 2 ^ k % 2 = _
  congr 1
  rw [Nat.testBit_eq_decide_div_mod_eq]
  have := Nat.mod_lt (s / 2 ^ k) (show 0 < 2 by decide)
  by_cases e : s / 2 ^ k % 2 = 1
  · rw [if_pos (by simp [e]), e]
  · rw [if_neg (by simp [e])]; omega
theorem mBi12_or {j h : Nat} (hj : j.testBit h = false) : ∀ k, mBi12 (j ||| 2 ^ h) k = mBi12 j k + (if h < k then 1 else 0)
  | 0 => rfl
  | k + 1 => by
    rw [mBi12_at, mBi12_at, mBi12_or hj k, Nat.testBit_or, Nat.testBit_two_pow]
    by_cases e : h = k
    · subst e
      rw [hj, if_neg (Nat.lt_irrefl h), if_pos (by simp), if_neg (by decide), if_pos (Nat.lt_succ_self h)]
    · rw [show decide (h = k) = false by simp [e], Bool.or_false]
      by_cases z : h < k
      · rw [if_pos z, if_pos (by omega : h < k + 1)]; omega
      · rw [if_neg z, if_neg (by omega : ¬ h < k + 1)]; rfl
theorem mBi12_zero : ∀ k, mBi12 0 k = 0
  | 0 => rfl
  | k + 1 => by rw [mBi12_at, mBi12_zero k, Nat.zero_testBit]; rfl
theorem way_many {my : Nat → Nat} {n s : Nat} {tr gv : Nat → Bool} (hn : n ≤ 12) {u : Nat → Option Nat} (h : way my tr gv n s u) : mBi12 s 12 = gcount u n := by
  have key : ∀ p, p ≤ n → mBi12 (tkn u p) 12 = gcount u p := fun p => by
    induction p with
    | zero => exact fun _ => mBi12_zero 12
    | succ p ih =>
      intro hp
      have a := h.1 p (by omega)
      show mBi12 (addO (tkn u p) (u p)) 12 = gcount u p + (if u p = none then 0 else 1)
      rw [← ih (by omega)]
      cases e : u p with
      | none => rw [if_pos rfl]; rfl
      | some x =>
        rw [e] at a
        rw [if_neg (fun z => by cases z)]
        show mBi12 (tkn u p ||| 2 ^ x) 12 = _
        rw [mBi12_or a.2.2.2.1, if_pos (by have := a.1; omega)]
  rw [← h.2]
  exact key n (Nat.le_refl n)
theorem mAbl_bit {my : Nat → Nat} {n k h : Nat} (hk : k % 12 = h) (hh : h < n) (hm : my k < 100000000) : ∀ K, k < K → (mAbl my n K).testBit h = true
  | 0, e => by omega
  | K + 1, e => by
    unfold mAbl
    by_cases z : k = K
    · subst z
      rw [if_pos (by omega), if_pos hm, Nat.testBit_or, Nat.testBit_two_pow, hk]
      simp
    · have ih := mAbl_bit hk hh hm K (by omega)
      split
      · split
        · rw [Nat.testBit_or, ih]; rfl
        · exact ih
      · exact ih
theorem way_abl {my : Nat → Nat} {n s : Nat} {go : Nat → Nat → Bool} {c : Nat → Nat → Nat} {tr gv : Nat → Bool} (hn : n ≤ 12) (hm : myIs my n go c) {u : Nat → Option Nat} (h : way my tr gv n s u) : s &&& mAbl my n (12 * n) = s ∧ s < 2 ^ n := by
  have hb : ∀ x, s.testBit x = true → x < n ∧ (mAbl my n (12 * n)).testBit x = true := fun x hx => by
    rw [← h.2] at hx
    obtain ⟨q, hq, hu⟩ := (tkn_bit n).1 hx
    have a := h.1 q hq
    rw [hu] at a
    have hx := a.1
    refine ⟨hx, mAbl_bit (k := 12 * q + x) (by omega) hx ?_ (12 * n) (by omega)⟩
    have a5 := a.2.2.2.2
    rw [hm.1 q x hq hx] at a5 ⊢
    have := hm.2 q x
    by_cases z : go q x = true
    · rw [if_pos z]; omega
    · rw [if_neg z] at a5; exact absurd rfl a5
  constructor
  · apply Nat.eq_of_testBit_eq
    intro i
    rw [Nat.testBit_and]
    cases e : s.testBit i with
    | false => rfl
    | true => rw [(hb i e).2]; rfl
  · apply Nat.lt_pow_two_of_testBit
    intro i hi
    cases e : s.testBit i with
    | false => rfl
    | true => have := (hb i e).1; omega
/-! counts: moves and cost -/
def mvN (b : Nat → Option Nat) (u : Nat → Option Nat) : Nat → Nat
  | 0 => 0
  | p + 1 => mvN b u p + (if b p = none ∨ b p = u p then 0 else 1)
def csN (c : Nat → Nat → Nat) (u : Nat → Option Nat) : Nat → Nat
  | 0 => 0
  | p + 1 => csN c u p + (match u p with | none => 0 | some h => c p h)
theorem mvN_le (b u : Nat → Option Nat) : ∀ n, mvN b u n ≤ n
  | 0 => Nat.le_refl 0
  | n + 1 => by
    have := mvN_le b u n
    show mvN b u n + (if b n = none ∨ b n = u n then 0 else 1) ≤ n + 1
    split <;> omega
theorem csN_le {c : Nat → Nat → Nat} (hc : ∀ p h, c p h ≤ 10000) (u : Nat → Option Nat) : ∀ n, csN c u n ≤ 10000 * n
  | 0 => Nat.le_refl 0
  | n + 1 => by
    have := csN_le hc u n
    show csN c u n + (match u n with | none => 0 | some h => c n h) ≤ 10000 * (n + 1)
    cases u n with
    | none => show csN c u n + 0 ≤ _; omega
    | some h => have := hc n h; show csN c u n + c n h ≤ _; omega
theorem us_eq (c : Nat → Nat → Nat) (b u : Nat → Option Nat) : ∀ n, sumN (fun p => uW c b p (u p)) n = 8388608 * (mvN b u n : Int) - 262144 * (gcount u n : Int) + (csN c u n : Int)
  | 0 => rfl
  | n + 1 => by
    show sumN (fun p => uW c b p (u p)) n + uW c b n (u n) = 8388608 * ((mvN b u n + (if b n = none ∨ b n = u n then 0 else 1) : Nat) : Int) - 262144 * ((gcount u n + (if u n = none then 0 else 1) : Nat) : Int) + ((csN c u n + (match u n with | none => 0 | some h => c n h) : Nat) : Int)
    rw [us_eq c b u n]
    cases e : u n with
    | none =>
      show _ + (if b n = none then (0 : Int) else 8388608) = _
      by_cases z : b n = none
      · rw [if_pos z, if_pos (Or.inl z), if_pos rfl]
        show _ = 8388608 * ((mvN b u n + 0 : Nat) : Int) - 262144 * ((gcount u n + 0 : Nat) : Int) + ((csN c u n + 0 : Nat) : Int)
        omega
      · rw [if_neg z, if_neg (fun o => by rcases o with o | o <;> exact z o), if_pos rfl]
        show _ = 8388608 * ((mvN b u n + 1 : Nat) : Int) - 262144 * ((gcount u n + 0 : Nat) : Int) + ((csN c u n + 0 : Nat) : Int)
        omega
    | some h =>
      show _ + ((c n h : Int) - 262144 + (if b n = none ∨ b n = some h then (0 : Int) else 8388608)) = _
      by_cases z : b n = none ∨ b n = some h
      · rw [if_pos z, if_pos z, if_neg (fun z => by cases z)]; show _ = 8388608 * ((mvN b u n + 0 : Nat) : Int) - 262144 * ((gcount u n + 1 : Nat) : Int) + ((csN c u n + c n h : Nat) : Int); omega
      · rw [if_neg z, if_neg z, if_neg (fun z => by cases z)]; show _ = 8388608 * ((mvN b u n + 1 : Nat) : Int) - 262144 * ((gcount u n + 1 : Nat) : Int) + ((csN c u n + c n h : Nat) : Int); omega
theorem mMv_b {ke : Bool} {ai b : Nat → Option Nat} {p : Nat} {o : Option Nat} (hb : b p = if ke = true then ai p else none) : mMv ke ai p o = 1000000 * (if b p = none ∨ b p = o then 0 else 1) := by
  unfold mMv
  rw [hb]
  cases ke with
  | false =>
    rw [show (if false = true then ai p else none) = none from rfl, if_pos (Or.inl rfl)]
    rfl
  | true =>
    rw [if_pos rfl, if_pos rfl]
    by_cases z : ai p = none
    · rw [if_pos z, if_pos (Or.inl z)]
    · rw [if_neg z]
      by_cases y : ai p = o
      · rw [if_pos y, if_pos (Or.inr y)]
      · rw [if_neg y, if_neg (fun w => by rcases w with w | w; exact z w; exact y w)]
theorem Pc_eq {my : Nat → Nat} {ke : Bool} {ai b : Nat → Option Nat} {n : Nat} {go : Nat → Nat → Bool} {c : Nat → Nat → Nat} (hm : myIs my n go c) (hb : ∀ p, p < n → b p = if ke = true then ai p else none) {u : Nat → Option Nat} (hu : ∀ p h, p < n → u p = some h → h < n ∧ go p h = true) : ∀ p, p ≤ n → Pc my ke ai u p = 1000000 * mvN b u p + csN c u p
  | 0, _ => rfl
  | p + 1, hp => by
    show Pc my ke ai u p + cnO my ke ai p (u p) = 1000000 * (mvN b u p + (if b p = none ∨ b p = u p then 0 else 1)) + (csN c u p + (match u p with | none => 0 | some h => c p h))
    rw [Pc_eq hm hb hu p (by omega)]
    cases e : u p with
    | none =>
      show _ + mMv ke ai p none = _
      rw [mMv_b (hb p (by omega))]
      show _ = 1000000 * (mvN b u p + (if b p = none ∨ b p = none then 0 else 1)) + (csN c u p + 0)
      omega
    | some h =>
      obtain ⟨h1, h2⟩ := hu p h (by omega) e
      show _ + mCn my ke ai p h = 1000000 * (mvN b u p + (if b p = none ∨ b p = some h then 0 else 1)) + (csN c u p + c p h)
      unfold mCn
      rw [hm.1 p h (by omega) h1, if_pos h2, if_neg (by have := hm.2 p h; omega), mMv_b (hb p (by omega))]
      omega
