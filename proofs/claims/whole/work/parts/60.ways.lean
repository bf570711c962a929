/-! the reference's search: ways through the homes of a set -/
def cnO (my : Nat → Nat) (ke : Bool) (ai : Nat → Option Nat) (p : Nat) : Option Nat → Nat
  | none => mMv ke ai p none
  | some h => mCn my ke ai p h
/-- what one pupil may do: s the homes that host, j those that are taken -/
def stO (my : Nat → Nat) (tr gv : Nat → Bool) (n s j p : Nat) : Option Nat → Prop
  | none => mSt gv s p = true
  | some h => h < n ∧ mGo tr s p = true ∧ s.testBit h = true ∧ j.testBit h = false ∧ my (12 * p + h) ≠ 100000000
/-- a way of the last d pupils -/
def Wy (my : Nat → Nat) (tr gv : Nat → Bool) (n s : Nat) (u : Nat → Option Nat) : Nat → Nat → Prop
  | 0, j => j = s
  | d + 1, j => stO my tr gv n s j (n - (d + 1)) (u (n - (d + 1))) ∧ Wy my tr gv n s u d (addO j (u (n - (d + 1))))
def Cs (my : Nat → Nat) (ke : Bool) (ai : Nat → Option Nat) (n : Nat) (u : Nat → Option Nat) : Nat → Nat
  | 0 => 0
  | d + 1 => cnO my ke ai (n - (d + 1)) (u (n - (d + 1))) + Cs my ke ai n u d
theorem mSu_add {x y : Nat} : mSu x y ≤ x + y := by
  unfold mSu
  split
  · omega
  · split <;> omega
theorem mSu_lt {x y : Nat} (h : mSu x y < 100000000) : x < 100000000 ∧ y < 100000000 ∧ mSu x y = x + y := by
  unfold mSu at h ⊢
  split at h
  · omega
  · rename_i h1
    rw [if_neg h1]
    split at h
    · rename_i h2
      rw [if_pos h2]
      exact ⟨by omega, h2, rfl⟩
    · omega
theorem mB1_spec {my : Nat → Nat} {ke : Bool} {ai : Nat → Option Nat} {F : Nat → Nat} {p j s : Nat} : ∀ (m h b : Nat), mB1 my ke ai F p j s m h b ≤ b ∧ (∀ x, h ≤ x → x < h + m → s.testBit x = true → j.testBit x = false → mB1 my ke ai F p j s m h b ≤ mSu (mCn my ke ai p x) (F (j ||| 2 ^ x))) ∧ (mB1 my ke ai F p j s m h b = b ∨ ∃ x, h ≤ x ∧ x < h + m ∧ s.testBit x = true ∧ j.testBit x = false ∧ mB1 my ke ai F p j s m h b = mSu (mCn my ke ai p x) (F (j ||| 2 ^ x)))
  | 0, h, b => ⟨Nat.le_refl _, fun x h1 h2 => by omega, Or.inl rfl⟩
  | m + 1, h, b => by
    have step : ∃ b', mB1 my ke ai F p j s (m + 1) h b = mB1 my ke ai F p j s m (h + 1) b' ∧ b' ≤ b ∧ (s.testBit h = true → j.testBit h = false → b' ≤ mSu (mCn my ke ai p h) (F (j ||| 2 ^ h))) ∧ (b' = b ∨ (s.testBit h = true ∧ j.testBit h = false ∧ b' = mSu (mCn my ke ai p h) (F (j ||| 2 ^ h)))) := by
      refine ⟨_, rfl, ?_, fun h1 h2 => ?_, ?_⟩
      · split
        · split
          · exact Nat.le_refl _
          · split
            · omega
            · exact Nat.le_refl _
        · exact Nat.le_refl _
      · rw [if_pos h1, if_neg (by rw [h2]; decide)]
        split
        · exact Nat.le_refl _
        · omega
      · split
        · rename_i h1
          split
          · exact Or.inl rfl
          · rename_i h2
            split
            · exact Or.inr ⟨h1, by cases e : j.testBit h with | false => rfl | true => exact absurd e h2, rfl⟩
            · exact Or.inl rfl
        · exact Or.inl rfl
    obtain ⟨b', e, b1, b2, b3⟩ := step
    obtain ⟨a1, a2, a3⟩ := mB1_spec (my := my) (ke := ke) (ai := ai) (F := F) (p := p) (j := j) (s := s) m (h + 1) b'
    rw [e]
    refine ⟨by omega, fun x h1 h2 h3 h4 => ?_, ?_⟩
    · by_cases z : x = h
      · subst z
        have := b2 h3 h4
        omega
      · exact a2 x (by omega) (by omega) h3 h4
    · rcases a3 with a3 | ⟨x, h1, h2, h3, h4, h5⟩
      · rcases b3 with b3 | ⟨h3, h4, h5⟩
        · exact Or.inl (by rw [a3, b3])
        · exact Or.inr ⟨h, by omega, by omega, h3, h4, by rw [a3, h5]⟩
      · exact Or.inr ⟨x, by omega, by omega, h3, h4, h5⟩
theorem mBe_lo {my : Nat → Nat} {ke : Bool} {ai : Nat → Option Nat} {tr gv : Nat → Bool} {n : Nat} {F : Nat → Nat} {p j s : Nat} {o : Option Nat} (h : stO my tr gv n s j p o) : mBe my ke ai tr gv n F p j s ≤ mSu (cnO my ke ai p o) (F (addO j o)) := by
  unfold mBe
  cases o with
  | none =>
    have h : mSt gv s p = true := h
    rw [if_pos h]
    show _ ≤ mSu (mMv ke ai p none) (F j)
    split
    · exact (mB1_spec n 0 _).1
    · exact Nat.le_refl _
  | some x =>
    obtain ⟨h1, h2, h3, h4, _⟩ := h
    rw [if_pos h2]
    exact (mB1_spec n 0 _).2.1 x (by omega) (by omega) h3 h4
/-- no way counts less -/
theorem mV_lo {my : Nat → Nat} {ke : Bool} {ai : Nat → Option Nat} {tr gv : Nat → Bool} {n s : Nat} {u : Nat → Option Nat} : ∀ (d j : Nat), Wy my tr gv n s u d j → mV my ke ai tr gv n s d j ≤ Cs my ke ai n u d
  | 0, j, h => by
    have h : j = s := h
    show (if j = s then 0 else 100000000) ≤ 0
    rw [if_pos h]
    exact Nat.le_refl _
  | d + 1, j, ⟨h1, h2⟩ => by
    have a1 := mV_lo (ke := ke) (ai := ai) d _ h2
    have a2 := mBe_lo (ke := ke) (ai := ai) (F := mV my ke ai tr gv n s d) h1
    have a3 := mSu_add (x := cnO my ke ai (n - (d + 1)) (u (n - (d + 1)))) (y := mV my ke ai tr gv n s d (addO j (u (n - (d + 1)))))
    show mBe my ke ai tr gv n (mV my ke ai tr gv n s d) (n - (d + 1)) j s ≤ cnO my ke ai (n - (d + 1)) (u (n - (d + 1))) + Cs my ke ai n u d
    omega
/-- what is least is counted by a choice -/
theorem mBe_ex {my : Nat → Nat} {ke : Bool} {ai : Nat → Option Nat} {tr gv : Nat → Bool} {n : Nat} {F : Nat → Nat} {p j s : Nat} (h : mBe my ke ai tr gv n F p j s < 100000000) : ∃ o, stO my tr gv n s j p o ∧ mBe my ke ai tr gv n F p j s = cnO my ke ai p o + F (addO j o) := by
  have base : ∀ v, v < 100000000 → v = (if mSt gv s p = true then mSu (mMv ke ai p none) (F j) else 100000000) → stO my tr gv n s j p none ∧ v = cnO my ke ai p none + F (addO j none) := fun v hv e => by
    by_cases hs : mSt gv s p = true
    · rw [if_pos hs] at e
      refine ⟨hs, ?_⟩
      rw [e] at hv
      have := (mSu_lt hv).2.2
      rw [e, this]
      rfl
    · rw [if_neg hs] at e; omega
  unfold mBe at h ⊢
  by_cases hg : mGo tr s p = true
  · rw [if_pos hg] at h ⊢
    rcases (mB1_spec (my := my) (ke := ke) (ai := ai) (F := F) (p := p) (j := j) (s := s) n 0 (if mSt gv s p = true then mSu (mMv ke ai p none) (F j) else 100000000)).2.2 with e | ⟨x, _, h2, h3, h4, h5⟩
    · exact ⟨none, base _ h e⟩
    · rw [h5] at h
      obtain ⟨g1, g2, g3⟩ := mSu_lt h
      refine ⟨some x, ⟨by omega, hg, h3, h4, fun z => ?_⟩, ?_⟩
      · unfold mCn at g1
        rw [if_pos z] at g1; omega
      · rw [h5, g3]; rfl
  · rw [if_neg hg] at h ⊢
    exact ⟨none, base _ h rfl⟩
