/-! CLOSED PLACES as such: n families, who may go where, who may be first or last, the places before -/
def Clo (n : Nat) (go : Nat → Nat → Bool) (F Lb : Nat → Bool) (u : Nat → Option Nat) : Prop :=
  (∀ p h, p < n → u p = some h → h < n ∧ go p h = true) ∧
  (∀ p q h, p < n → q < n → u p = some h → u q = some h → p = q) ∧
  (∀ p, p < n → u p ≠ none → F p = true ∨ ∃ q, q < n ∧ u q = some p) ∧
  (∀ f q, f < n → q < n → u q = some f → u f ≠ none ∨ Lb f = true)
/-- what one place weighs -/
def uW (c : Nat → Nat → Nat) (b : Nat → Option Nat) (p : Nat) : Option Nat → Int
  | some h => (c p h : Int) - 262144 + (if b p = none ∨ b p = some h then 0 else 8388608)
  | none => if b p = none then 0 else 8388608
def pW (go : Nat → Nat → Bool) (c : Nat → Nat → Nat) (F Lb : Nat → Bool) (b : Nat → Option Nat) (p h : Nat) : Int := if go p h = true then uW c b p (some h) else if p = h ∨ (Lb p = true ∧ F h = true) then uW c b p none else 1125899906842624
/-- the places that a permutation (the column of each row) tells -/
def uOf (go : Nat → Nat → Bool) (t : Nat → Nat) (p : Nat) : Option Nat := if go p (t p) = true then some (t p) else none
theorem uOf_some {go : Nat → Nat → Bool} {t : Nat → Nat} {p h : Nat} (e : uOf go t p = some h) : t p = h ∧ go p h = true := by
  unfold uOf at e
  split at e
  · rename_i hg
    cases e
    exact ⟨rfl, hg⟩
  · cases e
theorem uOf_none {go : Nat → Nat → Bool} {t : Nat → Nat} {p : Nat} (e : uOf go t p = none) : ¬ go p (t p) = true := fun hg => by
  unfold uOf at e
  rw [if_pos hg] at e; cases e
/-- a permutation of pairs that are allowed: the places are closed, and weigh as much -/
theorem uOf_clo {n : Nat} {go : Nat → Nat → Bool} {F Lb : Nat → Bool} {t : Nat → Nat} (hp : isPm t n) (hg : ∀ p, go p p = false) (ha : ∀ p, p < n → go p (t p) = true ∨ p = t p ∨ (Lb p = true ∧ F (t p) = true)) : Clo n go F Lb (uOf go t) := by
  refine ⟨fun p h hpn e => ?_, fun p q h hpn hqn e1 e2 => ?_, fun p hpn e => ?_, fun f q hf hq e => ?_⟩
  · obtain ⟨e1, e2⟩ := uOf_some e
    exact ⟨by rw [← e1]; exact hp.1 p hpn, e2⟩
  · exact hp.2 p q hpn hqn ((uOf_some e1).1.trans (uOf_some e2).1.symm)
  · obtain ⟨q, hq, e2⟩ := hp.onto p hpn
    cases h : uOf go t q with
    | some x =>
      obtain ⟨e3, _⟩ := uOf_some h
      exact Or.inr ⟨q, hq, by rw [h, ← e3, e2]⟩
    | none =>
      have h1 := uOf_none h
      rcases ha q hq with h2 | h2 | h2
      · exact absurd h2 h1
      · exfalso
        rw [e2] at h2
        subst h2
        cases h3 : uOf go t q with
        | none => exact e h3
        | some x => rw [h] at h3; cases h3
      · left; rw [← e2]; exact h2.2
  · cases h : uOf go t f with
    | some x => left; intro z; cases z
    | none =>
      right
      obtain ⟨e1, e2⟩ := uOf_some e
      rcases ha f hf with h2 | h2 | h2
      · exact absurd h2 (uOf_none h)
      · exfalso
        have := hp.2 q f hq hf (e1.trans h2)
        rw [this, hg f] at e2; cases e2
      · exact h2.1
theorem uOf_wgt {n : Nat} {go : Nat → Nat → Bool} {c : Nat → Nat → Nat} {F Lb : Nat → Bool} {b : Nat → Option Nat} {t : Nat → Nat} (ha : ∀ p, p < n → go p (t p) = true ∨ p = t p ∨ (Lb p = true ∧ F (t p) = true)) : sumN (fun p => uW c b p (uOf go t p)) n = sumN (fun p => pW go c F Lb b p (t p)) n := sumN_congr n (fun p hp => by
  show uW c b p (uOf go t p) = pW go c F Lb b p (t p)
  unfold uOf pW
  by_cases hg : go p (t p) = true
  · rw [if_pos hg, if_pos hg]
  · rw [if_neg hg, if_neg hg, if_pos ((ha p hp).resolve_left hg)])
/-! a partial way is made a permutation: ends to starts -/
/-- where one hosts and stays, another goes and hosts nobody -/
theorem start_of {n : Nat} {u : Nat → Option Nat} (hu : ∀ p h, p < n → u p = some h → h < n) (hi : ∀ p q h, p < n → q < n → u p = some h → u q = some h → p = q) {f : Nat} (hf : f < n) (hs : u f = none) (hh : ∃ q, q < n ∧ u q = some f) : ∃ s, s < n ∧ u s ≠ none ∧ ∀ q, q < n → u q ≠ some s := by
  apply Classical.byContradiction
  intro hn
  have hall : ∀ s, s < n → u s ≠ none → ∃ q, q < n ∧ u q = some s := fun s h1 h2 => by
    apply Classical.byContradiction
    intro h3
    exact hn ⟨s, h1, h2, fun q hq e => h3 ⟨q, hq, e⟩⟩
  have sel : ∀ s, ∃ q, (s < n ∧ (u s ≠ none ∨ s = f)) → (q < n ∧ u q = some s) := fun s => by
    by_cases h : s < n ∧ (u s ≠ none ∨ s = f)
    · rcases h.2 with h2 | h2
      · obtain ⟨q, h3, h4⟩ := hall s h.1 h2
        exact ⟨q, fun _ => ⟨h3, h4⟩⟩
      · obtain ⟨q, h3, h4⟩ := hh
        exact ⟨q, fun _ => ⟨h3, by rw [h2]; exact h4⟩⟩
    · exact ⟨0, fun z => absurd z h⟩
  obtain ⟨g, hg⟩ := Classical.axiomOfChoice sel
  have ch : ∀ i, (Nat.rec (motive := fun _ => Nat) f (fun _ r => g r) i) < n ∧ (i = 0 ∨ u (Nat.rec (motive := fun _ => Nat) f (fun _ r => g r) i) ≠ none) ∧ u (Nat.rec (motive := fun _ => Nat) f (fun _ r => g r) (i + 1)) = some (Nat.rec (motive := fun _ => Nat) f (fun _ r => g r) i) := fun i => by
    induction i with
    | zero =>
      have := hg f ⟨hf, Or.inr rfl⟩
      exact ⟨hf, Or.inl rfl, this.2⟩
    | succ i ih =>
      obtain ⟨h1, h2, h3⟩ := ih
      have h4 : u (g (Nat.rec (motive := fun _ => Nat) f (fun _ r => g r) i)) = some (Nat.rec (motive := fun _ => Nat) f (fun _ r => g r) i) := h3
      have h5 : (Nat.rec (motive := fun _ => Nat) f (fun _ r => g r) i) < n ∧ (u (Nat.rec (motive := fun _ => Nat) f (fun _ r => g r) i) ≠ none ∨ (Nat.rec (motive := fun _ => Nat) f (fun _ r => g r) i) = f) := by
        refine ⟨h1, ?_⟩
        rcases h2 with h2 | h2
        · right; rw [h2]; rfl
        · left; exact h2
      have h6 := hg _ h5
      have h7 : u (g (Nat.rec (motive := fun _ => Nat) f (fun _ r => g r) i)) ≠ none := by rw [h4]; intro z; cases z
      have h8 := hg _ ⟨h6.1, Or.inl h7⟩
      exact ⟨h6.1, Or.inr h7, h8.2⟩
  generalize hk : (fun i : Nat => (Nat.rec (motive := fun _ => Nat) f (fun _ r => g r) i : Nat)) = k at *
  have ch2 : ∀ i, k i < n ∧ (i = 0 ∨ u (k i) ≠ none) ∧ u (k (i + 1)) = some (k i) := by
    intro i; rw [← hk]; exact ch i
  have k0 : k 0 = f := by rw [← hk]; rfl
  have dist : ∀ i d, k i = k (i + d) → d = 0 := by
    intro i
    induction i with
    | zero =>
      intro d e
      rw [k0, Nat.zero_add] at e
      apply Classical.byContradiction
      intro hd
      rcases (ch2 d).2.1 with h | h
      · exact hd h
      · rw [← e] at h; exact h hs
    | succ i ih =>
      intro d e
      apply ih d
      have h1 := (ch2 i).2.2
      have h2 := (ch2 (i + d)).2.2
      rw [show i + d + 1 = i + 1 + d by omega, ← e, h1] at h2
      exact Option.some.inj h2
  have := pig n (n + 1) k (fun i _ => (ch2 i).1) (fun i j _ _ e => by
    rcases Nat.le_total i j with h | h
    · have := dist i (j - i) (by rw [show i + (j - i) = j by omega]; exact e)
      omega
    · have := dist j (i - j) (by rw [show j + (i - j) = i by omega]; exact e.symm)
      omega)
  omega
/-- ends are led to starts, one after the other -/
theorem ext_step {n : Nat} {u : Nat → Option Nat} (hu : ∀ p h, p < n → u p = some h → h < n) (hi : ∀ p q h, p < n → q < n → u p = some h → u q = some h → p = q) : ∀ k, k ≤ n → ∃ v : Nat → Option Nat, (∀ p h, p < n → u p = some h → v p = some h) ∧ (∀ p h, p < n → v p = some h → h < n) ∧ (∀ p q h, p < n → q < n → v p = some h → v q = some h → p = q) ∧ (∀ p h, p < n → u p = none → v p = some h → (∃ q, q < n ∧ u q = some p) ∧ u h ≠ none ∧ ∀ q, q < n → u q ≠ some h) ∧ (∀ p, p < k → v p = none → ∀ q, q < n → v q ≠ some p)
  | 0, _ => ⟨u, fun _ _ _ e => e, hu, hi, (fun p h _ e1 e2 => by rw [e1] at e2; cases e2), (fun p hp => by omega)⟩
  | k + 1, hk => by
    obtain ⟨v, v1, v2, v3, v4, v5⟩ := ext_step hu hi k (by omega)
    by_cases he : v k = none ∧ ∃ q, q < n ∧ v q = some k
    · obtain ⟨e1, e2⟩ := he
      obtain ⟨s, hs, s1, s2⟩ := start_of v2 v3 (show k < n by omega) e1 e2
      have uk : u k = none := by
        cases h : u k with
        | none => rfl
        | some x => rw [v1 k x (by omega) h] at e1; cases e1
      have us : u s ≠ none := fun z => by
        cases h : v s with
        | none => exact s1 h
        | some x =>
          obtain ⟨⟨q, hq, hq2⟩, _⟩ := v4 s x hs z h
          exact s2 q hq (v1 q s hq hq2)
      have hosted : ∃ q, q < n ∧ u q = some k := by
        obtain ⟨q, hq, hq2⟩ := e2
        cases h : u q with
        | none =>
          obtain ⟨_, h2, _⟩ := v4 q k hq h hq2
          exact absurd uk h2
        | some x =>
          have := v1 q x hq h
          rw [hq2] at this
          cases this
          exact ⟨q, hq, h⟩
      refine ⟨va_up v k (some s), fun p h hp e => ?_, fun p h hp e => ?_, fun p q h hp hq ep eq => ?_, fun p h hp eu ev => ?_, fun p hp ev q hq eq => ?_⟩
      · have : p ≠ k := fun z => by rw [z, uk] at e; cases e
        rw [va_up_ne _ _ this]; exact v1 p h hp e
      · by_cases z : p = k
        · rw [z, va_up_self] at e; cases e; exact hs
        · rw [va_up_ne _ _ z] at e; exact v2 p h hp e
      · by_cases z1 : p = k
        · by_cases z2 : q = k
          · omega
          · rw [z1, va_up_self] at ep
            rw [va_up_ne _ _ z2] at eq
            cases ep
            exact absurd eq (s2 q hq)
        · by_cases z2 : q = k
          · rw [z2, va_up_self] at eq
            rw [va_up_ne _ _ z1] at ep
            cases eq
            exact absurd ep (s2 p hp)
          · rw [va_up_ne _ _ z1] at ep
            rw [va_up_ne _ _ z2] at eq
            exact v3 p q h hp hq ep eq
      · by_cases z : p = k
        · rw [z, va_up_self] at ev; cases ev
          rw [z]
          exact ⟨hosted, us, fun q hq e => s2 q hq (v1 q _ hq e)⟩
        · rw [va_up_ne _ _ z] at ev; exact v4 p h hp eu ev
      · have zp : p ≠ k := fun z => by rw [z, va_up_self] at ev; cases ev
        rw [va_up_ne _ _ zp] at ev
        by_cases z : q = k
        · rw [z, va_up_self] at eq
          cases eq
          exact s1 ev
        · rw [va_up_ne _ _ z] at eq
          exact v5 p (by omega) ev q hq eq
    · refine ⟨v, v1, v2, v3, v4, fun p hp ev q hq eq => ?_⟩
      by_cases z : p = k
      · rw [z] at ev eq
        exact he ⟨ev, q, hq, eq⟩
      · exact v5 p (by omega) ev q hq eq
/-- closed places as a permutation of allowed pairs -/
theorem ext_pm {n : Nat} {go : Nat → Nat → Bool} {F Lb : Nat → Bool} {u : Nat → Option Nat} (hc : Clo n go F Lb u) : ∃ t, isPm t n ∧ (∀ p h, p < n → u p = some h → t p = h) ∧ ∀ p, p < n → u p = none → p = t p ∨ (Lb p = true ∧ F (t p) = true) := by
  obtain ⟨c1, c2, c3, c4⟩ := hc
  obtain ⟨v, v1, v2, v3, v4, v5⟩ := ext_step (fun p h hp e => (c1 p h hp e).1) c2 n (Nat.le_refl n)
  refine ⟨fun p => (v p).getD p, ⟨fun p hp => ?_, fun p q hp hq e => ?_⟩, fun p h hp e => ?_, fun p hp e => ?_⟩
  · show (v p).getD p < n
    cases h : v p with
    | none => exact hp
    | some x => exact v2 p x hp h
  · have e : (v p).getD p = (v q).getD q := e
    cases h : v p with
    | none =>
      cases h2 : v q with
      | none => rw [h, h2] at e; exact e
      | some y =>
        rw [h, h2] at e
        have e : p = y := e
        exact absurd (by rw [h2, e]) (v5 p hp h q hq)
    | some x =>
      cases h2 : v q with
      | none =>
        rw [h, h2] at e
        have e : x = q := e
        exact absurd (by rw [h, e]) (v5 q hq h2 p hp)
      | some y =>
        rw [h, h2] at e
        have e : x = y := e
        exact v3 p q x hp hq h (by rw [h2, e])
  · show (v p).getD p = h
    rw [v1 p h hp e]; rfl
  · show p = (v p).getD p ∨ (Lb p = true ∧ F ((v p).getD p) = true)
    cases h : v p with
    | none => left; rfl
    | some x =>
      right
      obtain ⟨⟨q, hq, hq2⟩, h2, h3⟩ := v4 p x hp e h
      refine ⟨(c4 p q hp hq hq2).resolve_left (fun z => z e), ?_⟩
      rcases c3 x (v2 p x hp h) h2 with h4 | ⟨q2, hq3, hq4⟩
      · exact h4
      · exact absurd hq4 (h3 q2 hq3)
