/-! the search ends, the rows move along, all rows are placed -/
theorem HT.le {s : MT} {n k t : Nat} {e : Nat → Nat} {c : Nat} (hm : HM s n k) (h : HT s n k t e c) : t ≤ k + 1 := by
  obtain ⟨t1, _, t3, t4, _⟩ := h
  obtain ⟨m1, m2, _⟩ := hm
  have rw_ : ∀ i, i < t → ∃ q, s.2.1 (e i) = some q ∧ q ≤ k := fun i hi => by
    obtain ⟨h1, _, q, hq⟩ := t3 i hi
    refine ⟨q, hq, ?_⟩
    by_cases a : e i = n
    · rw [a, t1] at hq; cases hq; exact Nat.le_refl _
    · exact Nat.le_of_lt (m1 (e i) q (by omega) hq)
  refine pig (k + 1) t (fun i => (s.2.1 (e i)).getD 0) (fun i hi => ?_) (fun i j hi hj he => ?_)
  · obtain ⟨q, hq, hk⟩ := rw_ i hi
    show (s.2.1 (e i)).getD 0 < k + 1
    rw [hq]; show q < k + 1; omega
  · obtain ⟨q, hq, hk⟩ := rw_ i hi
    obtain ⟨p, hp, hk2⟩ := rw_ j hj
    have he : (s.2.1 (e i)).getD 0 = (s.2.1 (e j)).getD 0 := he
    rw [hq, hp] at he
    have he : q = p := he
    subst he
    apply t4 i j hi hj
    have a1 := (t3 i hi).1
    have a2 := (t3 j hj).1
    by_cases a : e i = n
    · by_cases b : e j = n
      · omega
      · rw [a, t1] at hq
        have := m1 (e j) q (by omega) hp
        cases hq; omega
    · by_cases b : e j = n
      · rw [b, t1] at hp
        have := m1 (e i) q (by omega) hq
        cases hp; omega
      · exact m2 (e i) (e j) q (by omega) (by omega) hq hp
theorem hung_go {n k : Nat} (hn : n ≤ 12) (hk : k < n) : ∀ (m t : Nat) (s : MT) (e : Nat → Nat) (c : Nat), HW s n → HM s n k → HT s n k t e c → t + m = n + 1 →
    ∃ (t' : Nat) (e' : Nat → Nat), HM (mtGo n m (s, c)).1 n k ∧ HT (mtGo n m (s, c)).1 n k t' e' (mtGo n m (s, c)).2 ∧ (mtGo n m (s, c)).1.1 = s.1 ∧ (mtGo n m (s, c)).1.2.1 = s.2.1 ∧ s.2.1 (mtGo n m (s, c)).2 = none
  | 0, t, s, e, c, _, hm, ht, he => by
    have := ht.le hm
    omega
  | m + 1, t, s, e, c, hw, hm, ht, he => by
    cases hr : s.2.1 c with
    | none =>
      have q : mtGo n (m + 1) (s, c) = (s, c) := by
        unfold mtGo; dsimp only; rw [hr]
      rw [q]
      exact ⟨t, e, hm, ht, rfl, rfl, hr⟩
    | some r =>
      obtain ⟨a1, a2, a3, a4⟩ := hung_step hn hk hw hm ht hr
      have q : mtGo n (m + 1) (s, c) = mtGo n m (mtNextS s c n r, mtNextC s c n r) := mtGo_some (z := (s, c)) hr
      rw [q]
      have hw2 : HW (mtNextS s c n r) n := fun x y h1 h2 => by
        have := hw x y h1 h2
        show -1125899906842624 ≤ ((mtNextS s c n r).1 (x * 12 + y)).toInt ∧ ((mtNextS s c n r).1 (x * 12 + y)).toInt ≤ 1125899906842624
        rw [a3]; exact this
      obtain ⟨t', e', b1, b2, b3, b4, b5⟩ := hung_go hn hk m (t + 1) _ _ _ hw2 a1 a2 (by omega)
      rw [a4] at b4 b5
      exact ⟨t', e', b1, b2, b3.trans a3, b4, b5⟩
/-- a hole that moves along the way back -/
def HA (s : MT) (n k t : Nat) (e : Nat → Nat) (c : Nat) (ro : Nat → Option Nat) (col b : Nat) : Prop :=
  ((col = c ∧ b = t) ∨ (b < t ∧ col = e b)) ∧
  (∀ i, i < b → ro (e i) = s.2.1 (e i)) ∧
  (∀ j r, j ≤ n → j ≠ col → ro j = some r → r ≤ k) ∧
  (∀ i j r, i ≤ n → j ≤ n → i ≠ col → j ≠ col → ro i = some r → ro j = some r → i = j) ∧
  (∀ r, r ≤ k → ∃ j, j ≤ n ∧ j ≠ col ∧ ro j = some r) ∧
  (∀ j r, j < n → j ≠ col → ro j = some r → wI s r j = rI s r + cI s j) ∧
  (∀ j, j < n → j ≠ col → ro j = none → cI s j = 0)
theorem hung_mv {s : MT} {n k t : Nat} {e : Nat → Nat} {c : Nat} (ht : HT s n k t e c) (tp : 0 < t) : ∀ (m : Nat) (ro : Nat → Option Nat) (col b : Nat), b < m → HA s n k t e c ro col b → ∃ ro', (mtMv (mCf s) n m (ro, col)).1 = ro' ∧ HA s n k t e c ro' n 0
  | 0, ro, col, b, h, _ => by omega
  | m + 1, ro, col, b, h, ha => by
    obtain ⟨t1, t2, t3, t4, t5, ⟨t6, t6'⟩, t7, t8⟩ := ht
    obtain ⟨u1, u2, u3, u4, u5, u6, u7, u8⟩ := t8 tp
    obtain ⟨a0, a1, a2, a3, a4, a5, a6⟩ := ha
    by_cases hc : col = n
    · refine ⟨ro, ?_, ?_⟩
      · unfold mtMv; rw [if_pos hc]
      · subst hc
        have hb : b = 0 := by
          rcases a0 with ⟨h1, h2⟩ | ⟨h1, h2⟩
          · omega
          · exact t4 b 0 h1 tp (by rw [← h2, u1])
        subst hb
        exact ⟨Or.inr ⟨tp, u1.symm⟩, a1, a2, a3, a4, a5, a6⟩
    · -- the column from which this one was reached
      obtain ⟨i, hib, hit, g1, g2⟩ : ∃ i, i < b ∧ i < t ∧ mCf s col = e i ∧ ∀ r, s.2.1 (e i) = some r → wI s r col = rI s r + cI s col := by
        rcases a0 with ⟨h1, h2⟩ | ⟨h1, h2⟩
        · obtain ⟨i, hi, g1, g2⟩ := u6 c u2 t6'
          refine ⟨i, by omega, hi, by rw [h1, g1], fun r hr => ?_⟩
          have := g2 r hr
          rw [u3] at this
          rw [h1]; omega
        · have hb : 0 < b := by
            apply Nat.pos_of_ne_zero; intro z
            rw [z, u1] at h2; exact hc h2
          obtain ⟨i, hi, g1, g2⟩ := u8 b hb h1
          exact ⟨i, hi, by omega, by rw [h2, g1], fun r hr => by rw [h2]; exact g2 r hr⟩
      have hne : e i ≠ col := by
        rcases a0 with ⟨h1, h2⟩ | ⟨h1, h2⟩
        · intro q
          have := (t3 i hit).2.1
          rw [q, h1, t6'] at this; cases this
        · intro q
          have := t4 i b hit h1 (by rw [q, h2])
          omega
      obtain ⟨r, hr⟩ := (t3 i hit).2.2
      have hei := (t3 i hit).1
      have hri : ro (e i) = some r := by rw [a1 i hib, hr]
      have hcn : col < n := by
        rcases a0 with ⟨h1, h2⟩ | ⟨h1, h2⟩
        · omega
        · have := (t3 b h1).1; omega
      have q : (mtMv (mCf s) n (m + 1) (ro, col)).1 = (mtMv (mCf s) n m (va_up ro col (ro (mCf s col)), mCf s col)).1 := by
        conv => lhs; unfold mtMv
        rw [if_neg hc]
      rw [q, g1]
      refine hung_mv (by exact ⟨t1, t2, t3, t4, t5, ⟨t6, t6'⟩, t7, t8⟩) tp m _ (e i) i (by omega) ⟨Or.inr ⟨hit, rfl⟩, fun i' hi' => ?_, fun j p hj hjn hp => ?_, fun x y p hx hy hxn hyn hpx hpy => ?_, fun p hp => ?_, fun j p hj hjn hp => ?_, fun j hj hjn hp => ?_⟩
      · have : e i' ≠ col := by
          rcases a0 with ⟨h1, h2⟩ | ⟨h1, h2⟩
          · intro z
            have := (t3 i' (by omega)).2.1
            rw [z, h1, t6'] at this; cases this
          · intro z
            have := t4 i' b (by omega) h1 (by rw [z, h2])
            omega
        rw [va_up_ne _ _ this]; exact a1 i' (by omega)
      · by_cases z : j = col
        · rw [z, va_up_self, hri] at hp; cases hp
          exact a2 (e i) _ hei hne hri
        · rw [va_up_ne _ _ z] at hp; exact a2 j p hj z hp
      · by_cases zx : x = col
        · by_cases zy : y = col
          · omega
          · rw [zx, va_up_self, hri] at hpx
            rw [va_up_ne _ _ zy] at hpy
            cases hpx
            exact absurd (a3 y (e i) r hy hei zy hne hpy hri) hyn
        · by_cases zy : y = col
          · rw [zy, va_up_self, hri] at hpy
            rw [va_up_ne _ _ zx] at hpx
            cases hpy
            exact absurd (a3 x (e i) r hx hei zx hne hpx hri) hxn
          · rw [va_up_ne _ _ zx] at hpx
            rw [va_up_ne _ _ zy] at hpy
            exact a3 x y p hx hy zx zy hpx hpy
      · obtain ⟨j, h1, h2, h3⟩ := a4 p hp
        by_cases z : j = e i
        · refine ⟨col, by omega, fun w => hne w.symm, ?_⟩
          rw [va_up_self, hri]
          rw [z, hri] at h3; exact h3
        · exact ⟨j, h1, z, by rw [va_up_ne _ _ h2]; exact h3⟩
      · by_cases z : j = col
        · rw [z, va_up_self, hri] at hp; cases hp
          rw [z]; exact g2 _ hr
        · rw [va_up_ne _ _ z] at hp; exact a5 j p hj z hp
      · by_cases z : j = col
        · rw [z, va_up_self, hri] at hp; cases hp
        · rw [va_up_ne _ _ z] at hp; exact a6 j hj z hp
/-- between two rows -/
def HB (s : MT) (n k : Nat) : Prop := (∀ r, r < k → -1125899906842624 ≤ rI s r ∧ rI s r ≤ 1125899906842624) ∧ ∀ j, j < n → -2251799813685248 ≤ cI s j
def HP (s : MT) (n k : Nat) : Prop := HM s n k ∧ (∀ r, k ≤ r → r < 12 → rI s r = 0) ∧ HB s n k
theorem hung_place {s : MT} {n k : Nat} (hn : n ≤ 12) (hk : k < n) (hw : HW s n) (h : HP s n k) : HP (mtPlace s k n) n (k + 1) ∧ (mtPlace s k n).1 = s.1 := by
  obtain ⟨⟨m1, m2, m3, m4, m5, m6, m7⟩, h0, _⟩ := h
  have ne : ∀ j, j < n → (mtInit s k n).2.1 j = s.2.1 j := fun j hj => va_up_ne _ _ (by omega)
  have hm : HM (mtInit s k n) n k := ⟨fun j r hj e => m1 j r hj (by rw [← ne j hj]; exact e), fun i j r hi hj e1 e2 => m2 i j r hi hj (by rw [← ne i hi]; exact e1) (by rw [← ne j hj]; exact e2), fun r hr => by
      obtain ⟨j, hj, e⟩ := m3 r hr
      exact ⟨j, hj, by rw [ne j hj]; exact e⟩, fun j r hj e => m4 j r hj (by rw [← ne j hj]; exact e), m5, m6, fun j hj e => m7 j hj (by rw [← ne j hj]; exact e)⟩
  have sn0 : ∀ j, j ≤ n → mSn (mtInit s k n) j = false := fun j hj => by
    show cpyB s.2.2.2.2.2.2 (fun _ => false) 13 j = false
    unfold cpyB; rw [if_pos (by omega)]
  have ht : HT (mtInit s k n) n k 0 (fun _ => n) n := by
    refine ⟨va_up_self _ _ _, fun r h1 h2 => h0 r (by omega) h2, fun i hi => by omega, fun i j hi => by omega, fun j hj hs => ?_, ⟨Nat.le_refl n, sn0 n (Nat.le_refl n)⟩, fun _ => ⟨rfl, h0 k (Nat.le_refl k) (by omega), fun j hj => ?_⟩, fun h => by omega⟩
    · rw [sn0 j hj] at hs; cases hs
    · show (cpyL s.2.2.2.2.1 (fun _ => 1152921504606846976) 13 j).toInt = 1152921504606846976
      unfold cpyL; rw [if_pos (by omega)]; show (1152921504606846976 : Int64).toInt = 1152921504606846976; decide
  obtain ⟨t, e, g1, g2, g3, g4, g5⟩ := hung_go hn hk (n + 1) 0 (mtInit s k n) (fun _ => n) n hw hm ht (by omega)
  have hP : mtPlace s k n = mtEnd (mtGo n (n + 1) (mtInit s k n, n)) n := rfl
  rw [hP]
  generalize mtGo n (n + 1) (mtInit s k n, n) = z at g1 g2 g3 g4 g5 ⊢
  have g5' : z.1.2.1 z.2 = none := by rw [g4]; exact g5
  have hle := g2.le g1
  have hwz : HW z.1 n := fun x y h1 h2 => by
    have := hw x y h1 h2
    show -1125899906842624 ≤ (z.1.1 (x * 12 + y)).toInt ∧ (z.1.1 (x * 12 + y)).toInt ≤ 1125899906842624
    rw [g3]; exact this
  obtain ⟨bd1, bd2⟩ := g1.bd hwz hk
  obtain ⟨t1, t2, t3, t4, t5, ⟨t6, t6'⟩, t7, t8⟩ := g2
  have tp : 0 < t := by
    apply Nat.pos_of_ne_zero; intro q
    rw [(t7 q).1, t1] at g5'; cases g5'
  obtain ⟨u1, u2, u3, u4, u5, _⟩ := t8 tp
  obtain ⟨n1, n2, n3, n4, n5, n6, n7⟩ := g1
  have bdk : rI z.1 k ≤ 1125899906842624 := by
    have a1 := u5 z.2 u2
    have a2 := n7 z.2 u2 g5'
    have a3 := hwz k z.2 hk u2
    omega
  have ha : HA z.1 n k t e z.2 z.1.2.1 z.2 t := by
    refine ⟨Or.inl ⟨rfl, rfl⟩, fun _ _ => rfl, fun j r hj hjn hr => ?_, fun x y r hx hy hxn hyn hrx hry => ?_, fun r hr => ?_, fun j r hj _ hr => n4 j r hj hr, fun j hj _ hr => n7 j hj hr⟩
    · by_cases a : j = n
      · rw [a, t1] at hr; cases hr; exact Nat.le_refl _
      · exact Nat.le_of_lt (n1 j r (by omega) hr)
    · by_cases a : x = n
      · by_cases b : y = n
        · omega
        · rw [a, t1] at hrx
          have := n1 y r (by omega) hry
          cases hrx; omega
      · by_cases b : y = n
        · rw [b, t1] at hry
          have := n1 x r (by omega) hrx
          cases hry; omega
        · exact n2 x y r (by omega) (by omega) hrx hry
    · by_cases a : r = k
      · exact ⟨n, Nat.le_refl n, by omega, by rw [a]; exact t1⟩
      · obtain ⟨j, hj, hr2⟩ := n3 r (by omega)
        refine ⟨j, by omega, fun q => ?_, hr2⟩
        rw [q, g5'] at hr2; cases hr2
  obtain ⟨ro, e1, b0, b1, b2, b3, b4, b5, b6⟩ := hung_mv ⟨t1, t2, t3, t4, t5, ⟨t6, t6'⟩, t7, t8⟩ tp (n + 1) z.1.2.1 z.2 t (by omega) ha
  have hE : mtEnd z n = (z.1.1, ro, z.1.2.2) := by rw [← e1]; rfl
  rw [hE]
  refine ⟨⟨⟨fun j r hj hr => ?_, fun x y r hx hy hrx hry => b3 x y r (by omega) (by omega) (by omega) (by omega) hrx hry, fun r hr => ?_, fun j r hj hr => b5 j r hj (by omega) hr, fun r j hr hj => ?_, n6, fun j hj hr => b6 j hj (by omega) hr⟩, fun r h1 h2 => t2 r (by omega) h2, fun r hr => ?_, bd2⟩, g3⟩
  · have := b2 j r (by omega) (by omega) hr; omega
  · obtain ⟨j, h1, h2, h3⟩ := b4 r (by omega)
    exact ⟨j, by omega, h3⟩
  · by_cases a : r = k
    · rw [a]; exact u5 j hj
    · exact n5 r j (by omega) hj
  · by_cases a : r = k
    · rw [a]; exact ⟨u4, bdk⟩
    · exact bd1 r (by omega)
theorem hung_fold {n : Nat} (hn : n ≤ 12) : ∀ (m k : Nat) (s : MT), k + m = n → HW s n → HP s n k → HP (foldF (fun i q => mtPlace q i n) m k s) n n ∧ (foldF (fun i q => mtPlace q i n) m k s).1 = s.1
  | 0, k, s, hk, _, h => by
    have : k = n := by omega
    subst this
    exact ⟨h, rfl⟩
  | m + 1, k, s, hk, hw, h => by
    obtain ⟨a1, a2⟩ := hung_place hn (by omega) hw h
    have hw2 : HW (mtPlace s k n) n := fun x y h1 h2 => by
      have := hw x y h1 h2
      show -1125899906842624 ≤ ((mtPlace s k n).1 (x * 12 + y)).toInt ∧ ((mtPlace s k n).1 (x * 12 + y)).toInt ≤ 1125899906842624
      rw [a2]; exact this
    obtain ⟨b1, b2⟩ := hung_fold hn m (k + 1) (mtPlace s k n) (by omega) hw2 a1
    exact ⟨b1, b2.trans a2⟩
/-- the matching is full, and its prices show that none is lighter -/
theorem hung_solve {s : MT} {n : Nat} (hn : n ≤ 12) (hw : HW s n) : HM (mtSolve s n) n n ∧ (mtSolve s n).1 = s.1 ∧ HB (mtSolve s n) n n := by
  have r0 : ∀ j, j < n → (mtReset s).2.1 j = none := fun j hj => by
    show cpyO s.2.1 (fun _ => none) 13 j = none
    unfold cpyO; rw [if_pos (by omega)]
  have c0 : ∀ j, j < n → cI (mtReset s) j = 0 := fun j hj => by
    show (cpyL s.2.2.2.1 (fun _ => 0) 13 j).toInt = 0
    unfold cpyL; rw [if_pos (by omega)]; show (0 : Int64).toInt = 0; decide
  have p0 : ∀ r, r < 12 → rI (mtReset s) r = 0 := fun r hr => by
    show (cpyL s.2.2.1 (fun _ => 0) 12 r).toInt = 0
    unfold cpyL; rw [if_pos (by omega)]; show (0 : Int64).toInt = 0; decide
  have h : HP (mtReset s) n 0 := ⟨⟨(fun j r hj e => by rw [r0 j hj] at e; cases e), (fun i j r hi hj e _ => by rw [r0 i hi] at e; cases e), (fun r hr => by omega), (fun j r hj e => by rw [r0 j hj] at e; cases e), (fun r j hr => by omega), fun j hj => by rw [c0 j hj]; exact Int.le_refl _, fun j hj _ => c0 j hj⟩, fun r _ hr => p0 r hr, fun r hr => by omega, fun j hj => by rw [c0 j hj]; decide⟩
  obtain ⟨a1, a2⟩ := hung_fold hn n 0 (mtReset s) (by omega) hw h
  exact ⟨a1.1, a2, a1.2.2⟩
