/-! what is picked: the first home that counts as little as can be -/
theorem mTo_spec {my : Nat → Nat} {ke : Bool} {ai : Nat → Option Nat} {F : Nat → Nat} {p j s due : Nat} : ∀ (m h : Nat),
    (∀ x, mTo my ke ai F p j s due m h = some x → h ≤ x ∧ x < h + m ∧ s.testBit x = true ∧ j.testBit x = false ∧ mSu (mCn my ke ai p x) (F (j ||| 2 ^ x)) = due ∧ ∀ y, h ≤ y → y < x → s.testBit y = true → j.testBit y = false → mSu (mCn my ke ai p y) (F (j ||| 2 ^ y)) ≠ due) ∧
    (mTo my ke ai F p j s due m h = none → ∀ y, h ≤ y → y < h + m → s.testBit y = true → j.testBit y = false → mSu (mCn my ke ai p y) (F (j ||| 2 ^ y)) ≠ due)
  | 0, h => ⟨(fun x e => by cases e), (fun _ y h1 h2 => by omega)⟩
  | m + 1, h => by
    obtain ⟨a1, a2⟩ := mTo_spec (my := my) (ke := ke) (ai := ai) (F := F) (p := p) (j := j) (s := s) (due := due) m (h + 1)
    by_cases hit : s.testBit h = true ∧ j.testBit h = false ∧ mSu (mCn my ke ai p h) (F (j ||| 2 ^ h)) = due
    · obtain ⟨h1, h2, h3⟩ := hit
      have e : mTo my ke ai F p j s due (m + 1) h = some h := by
        unfold mTo; rw [if_pos h1, if_neg (by rw [h2]; decide), if_pos h3]
      rw [e]
      refine ⟨fun x ex => ?_, (fun z => by cases z)⟩
      cases ex
      exact ⟨Nat.le_refl _, by omega, h1, h2, h3, fun y g1 g2 => by omega⟩
    · have e : mTo my ke ai F p j s due (m + 1) h = mTo my ke ai F p j s due m (h + 1) := by
        conv => lhs; unfold mTo
        by_cases h1 : s.testBit h = true
        · rw [if_pos h1]
          by_cases h2 : j.testBit h = true
          · rw [if_pos h2]
          · rw [if_neg h2, if_neg (fun z => hit ⟨h1, by cases q : j.testBit h with | false => rfl | true => exact absurd q h2, z⟩)]
        · rw [if_neg h1]
      rw [e]
      refine ⟨fun x ex => ?_, fun en y g1 g2 g3 g4 => ?_⟩
      · obtain ⟨b1, b2, b3, b4, b5, b6⟩ := a1 x ex
        refine ⟨by omega, by omega, b3, b4, b5, fun y g1 g2 g3 g4 => ?_⟩
        by_cases z : y = h
        · intro w; exact hit ⟨by rw [← z]; exact g3, by rw [← z]; exact g4, by rw [← z]; exact w⟩
        · exact b6 y (by omega) g2 g3 g4
      · by_cases z : y = h
        · intro w; exact hit ⟨by rw [← z]; exact g3, by rw [← z]; exact g4, by rw [← z]; exact w⟩
        · exact a2 en y (by omega) (by omega) g3 g4
theorem mPk_spec {my : Nat → Nat} {ke : Bool} {ai : Nat → Option Nat} {tr gv : Nat → Bool} {n s p j : Nat} (hn : n ≤ 12) (hp : p < n) (hv : mVW my ke ai tr gv n s p j < 100000000) :
    stO my tr gv n s j p (mPk my ke ai tr n (mVW my ke ai tr gv n s) s p j) ∧ mVW my ke ai tr gv n s p j = cnO my ke ai p (mPk my ke ai tr n (mVW my ke ai tr gv n s) s p j) + mVW my ke ai tr gv n s (p + 1) (addO j (mPk my ke ai tr n (mVW my ke ai tr gv n s) s p j)) ∧
    ∀ o, stO my tr gv n s j p o → mVW my ke ai tr gv n s p j = cnO my ke ai p o + mVW my ke ai tr gv n s (p + 1) (addO j o) → rkO (mPk my ke ai tr n (mVW my ke ai tr gv n s) s p j) ≤ rkO o := by
  have ev : mVW my ke ai tr gv n s p j = mBe my ke ai tr gv n (mVW my ke ai tr gv n s (p + 1)) p j s := by
    unfold mVW
    rw [show n - p = (n - (p + 1)) + 1 by omega]
    show mBe my ke ai tr gv n (mV my ke ai tr gv n s (n - (p + 1))) (n - (n - (p + 1) + 1)) j s = _
    rw [show n - (n - (p + 1) + 1) = p by omega]
  have hB : mBe my ke ai tr gv n (mVW my ke ai tr gv n s (p + 1)) p j s < 100000000 := by rw [← ev]; exact hv
  obtain ⟨o0, s0, e0⟩ := mBe_ex hB
  rw [← ev] at e0
  -- a choice that counts so is one that is looked for
  have hit : ∀ x, stO my tr gv n s j p (some x) → mVW my ke ai tr gv n s p j = cnO my ke ai p (some x) + mVW my ke ai tr gv n s (p + 1) (addO j (some x)) → mSu (mCn my ke ai p x) (mVW my ke ai tr gv n s (p + 1) (j ||| 2 ^ x)) = mVW my ke ai tr gv n s p j := fun x _ e => by
    have e : mVW my ke ai tr gv n s p j = mCn my ke ai p x + mVW my ke ai tr gv n s (p + 1) (j ||| 2 ^ x) := e
    unfold mSu
    rw [if_neg (by omega), if_pos (by omega), e]
  by_cases hg : mGo tr s p = true
  · have hk : mPk my ke ai tr n (mVW my ke ai tr gv n s) s p j = mTo my ke ai (mVW my ke ai tr gv n s (p + 1)) p j s (mVW my ke ai tr gv n s p j) n 0 := by
      unfold mPk; rw [if_pos hg]
    obtain ⟨a1, a2⟩ := mTo_spec (my := my) (ke := ke) (ai := ai) (F := mVW my ke ai tr gv n s (p + 1)) (p := p) (j := j) (s := s) (due := mVW my ke ai tr gv n s p j) n 0
    rw [hk]
    cases h : mTo my ke ai (mVW my ke ai tr gv n s (p + 1)) p j s (mVW my ke ai tr gv n s p j) n 0 with
    | none =>
      have none_ : ∀ o, stO my tr gv n s j p o → mVW my ke ai tr gv n s p j = cnO my ke ai p o + mVW my ke ai tr gv n s (p + 1) (addO j o) → o = none := fun o ho e => by
        cases o with
        | none => rfl
        | some x => exact absurd (hit x ho e) (a2 h x (by omega) (by have := ho.1; omega) ho.2.2.1 ho.2.2.2.1)
      have z := none_ o0 s0 e0
      subst z
      exact ⟨s0, e0, fun o ho e => by rw [none_ o ho e]; exact Nat.le_refl _⟩
    | some x =>
      obtain ⟨_, b2, b3, b4, b5, b6⟩ := a1 x h
      have hlt : mSu (mCn my ke ai p x) (mVW my ke ai tr gv n s (p + 1) (j ||| 2 ^ x)) < 100000000 := by rw [b5]; exact hv
      obtain ⟨g1, g2, g3⟩ := mSu_lt hlt
      refine ⟨⟨by omega, hg, b3, b4, fun z => ?_⟩, ?_, fun o ho e => ?_⟩
      · unfold mCn at g1
        rw [if_pos z] at g1; omega
      · rw [← b5, g3]; rfl
      · cases o with
        | none => show x ≤ 12; omega
        | some y =>
          show x ≤ y
          apply Nat.le_of_not_lt
          intro hy
          exact b6 y (by omega) hy ho.2.2.1 ho.2.2.2.1 (hit y ho e)
  · have hk : mPk my ke ai tr n (mVW my ke ai tr gv n s) s p j = none := by
      unfold mPk; rw [if_neg hg]
    have none_ : ∀ o, stO my tr gv n s j p o → o = none := fun o ho => by
      cases o with
      | none => rfl
      | some x => exact absurd ho.2.1 hg
    rw [hk]
    have z := none_ o0 s0
    subst z
    exact ⟨s0, e0, fun o ho _ => by rw [none_ o ho]; exact Nat.le_refl _⟩
