theorem mSum_s {f : Int → Int} {x : Int} (h : 0 ≤ x) : mSum f (x + 1).toNat = mSum f x.toNat + f x := by
  have e : (x + 1).toNat = x.toNat + 1 := by omega
  rw [e]
  show mSum f x.toNat + f ((x.toNat : Nat) : Int) = _
  rw [Int.toNat_of_nonneg h]
theorem mul_bd {a b c d : Int} (a0 : 0 ≤ a) (a1 : a ≤ c) (b0 : 0 ≤ b) (b1 : b ≤ d) : 0 ≤ a * b ∧ a * b ≤ c * d :=
  ⟨Int.mul_nonneg a0 b0, Int.mul_le_mul a1 b1 b0 (by omega)⟩
/-! talk -/
def mTalk (A : Nat → Int) (w : Int) : Int := A (32 + w).toNat * A (19 + w).toNat
theorem mTalk_bd {A : Nat → Int} (h : mTok A) {x : Int} (h0 : 0 ≤ x) (h1 : x ≤ A 18) : 0 ≤ mSum (mTalk A) x.toNat ∧ mSum (mTalk A) x.toNat ≤ 7128 := by
  obtain ⟨c0, c1, c2, c3, c4, c5, -⟩ := h
  have := mSum_bd (f := mTalk A) (c := 594) (by omega) (n := x.toNat) (fun i i0 i1 => by
    obtain ⟨d1, d2, -⟩ := c5 i i0 (by omega)
    exact mul_bd d2.1 d2.2 (by omega) d1.2)
  omega
theorem B_talk_ok {m : aM} (ht : mTok (m 177)) (hr : mTR 25 47 (m 177) m) : mOk (B_talk m) (fun r => r = mSum (mTalk (m 177)) (m 177 18).toNat) := by
  have hbd := fun x h0 h1 => mTalk_bd ht (x := x) h0 h1
  obtain ⟨⟨a0, a1, a2, -⟩, b1, b2, b3, -⟩ := hr
  obtain ⟨-, -, -, -, c4, c5, -⟩ := ht
  refine mL2 (B_talk_4 m) (fun x1 x2 => 0 ≤ x2 ∧ x2 ≤ m 177 18 ∧ x1 = mSum (mTalk (m 177)) x2.toNat) (fun _ x2 => (12 - x2).toNat) ?_ 0 0 ⟨by omega, by omega, rfl⟩ (by omega)
  rintro n x1 x2 ⟨h0, h1, h2⟩ ih
  rw [B_talk_4, a2]
  by_cases c : x2 < m 177 18
  · obtain ⟨e1, e2, -⟩ := b3 x2 h0 c
    obtain ⟨f1, f2, -⟩ := c5 x2 h0 c
    have g := hbd x2 h0 h1
    have g2 := mul_bd f2.1 f2.2 (by omega) f1.2
    rw [show m 42 x2.toNat = _ from e2, show m 41 x2.toNat = _ from e1]
    have e3 := mSum_s (f := mTalk (m 177)) h0
    rw [← h2] at g e3
    unfold mTalk at e3
    simp (disch := omega) only [if_pos, w32e]
    exact ih _ _ ⟨by omega, by omega, e3.symm⟩ (by omega)
  · simp (disch := omega) only [if_neg]
    exact mOk_some (by rw [h2, show x2 = m 177 18 by omega])
theorem R_talk_ok {m : aM} (ht : mTok (m 177)) : mOk (R_talk m) (fun r => r.1 = mSum (mTalk (m 177)) (m 177 18).toNat ∧ r.2 = aup m 176 0 0) := by
  have hbd := fun x h0 h1 => mTalk_bd ht (x := x) h0 h1
  obtain ⟨-, -, -, -, c4, c5, -⟩ := ht
  unfold R_talk
  refine mOk_st1 ?_
  have hm : ∀ k, aup m 176 0 0 177 k = m 177 k := fun k => aup_of (by omega)
  refine mL2 (fun n x1 x2 => R_talk_7 n x1 x2 (aup m 176 0 0)) (fun x1 x2 => 0 ≤ x2 ∧ x2 ≤ m 177 18 ∧ x1 = mSum (mTalk (m 177)) x2.toNat) (fun _ x2 => (12 - x2).toNat) ?_ 0 0 ⟨by omega, by omega, rfl⟩ (by omega)
  rintro n x1 x2 ⟨h0, h1, h2⟩ ih
  rw [R_talk_7, hm, hm, hm]
  by_cases c : x2 < m 177 18
  · obtain ⟨f1, f2, -⟩ := c5 x2 h0 c
    have g := hbd x2 h0 h1
    have g2 := mul_bd f2.1 f2.2 (by omega) f1.2
    have e3 := mSum_s (f := mTalk (m 177)) h0
    rw [← h2] at g e3
    unfold mTalk at e3
    simp (disch := omega) only [if_pos, w32e]
    exact ih _ _ ⟨by omega, by omega, e3.symm⟩ (by omega)
  · simp (disch := omega) only [if_neg]
    exact mOk_some ⟨by rw [h2, show x2 = m 177 18 by omega], rfl⟩
theorem st_talk {n : Nat} {m : aM} (h : mInv n m) : ∃ r m2, B_talk m = some r ∧ R_talk m = some (r, m2) ∧ mInv (n + 1) m2 := by
  obtain ⟨r, hr, e⟩ := B_talk_ok h.2.2.1 h.2.2.2.1
  obtain ⟨⟨r', m2⟩, hr', e', e2⟩ := R_talk_ok (m := m) h.2.2.1
  refine ⟨r, m2, hr, ?_, ?_⟩
  · rw [hr', e, ← e']
  · have e3 : m2 = _ := e2
    rw [e3]; exact mInv_0 h
/-! feed -/
def mPk (x1 x2 x3 x4 x5 k : Int) : Int := if k < 4 then x1 else if k < 8 then x2 else if k < 12 then x3 else if k < 16 then x4 else x5
theorem Tape_put_ok (x : Int) {m : aM} (h0 : 0 ≤ m 1 1) (h1 : m 1 1 ≤ 496) : mOk (Tape_put x m) (fun m' => m' 1 1 = m 1 1 + 4 ∧ (∀ i : Int, 0 ≤ i → i < 4 → m' 2 (m 1 1 + i).toNat = w8 (w8 (iushr x (24 - 8 * i)))) ∧ (∀ q i, ¬(q = 1 ∧ i = 1) → ¬(q = 2 ∧ (m 1 1).toNat ≤ i) → m' q i = m q i)) := by
  unfold Tape_put
  refine mL2 (Tape_put_2 x) (fun x2 mm => ∃ j : Int, 0 ≤ j ∧ j ≤ 4 ∧ x2 = 24 - 8 * j ∧ mm 1 1 = m 1 1 + j ∧ (∀ i : Int, 0 ≤ i → i < j → mm 2 (m 1 1 + i).toNat = w8 (w8 (iushr x (24 - 8 * i)))) ∧ (∀ q i, ¬(q = 1 ∧ i = 1) → ¬(q = 2 ∧ (m 1 1).toNat ≤ i) → mm q i = m q i)) (fun x2 _ => (x2 + 8).toNat) ?_ 24 m ⟨0, by omega, by omega, by omega, by omega, fun i a b => by omega, fun q i _ _ => rfl⟩ (by omega)
  rintro n x2 mm ⟨j, j0, j1, e1, e2, e3, e4⟩ ih
  rw [Tape_put_2]
  by_cases c : x2 < 0
  · rw [if_pos c]
    have ej : j = 4 := by omega
    subst ej
    exact mOk_some ⟨e2, e3, e4⟩
  · rw [if_neg c, e2, if_pos (by omega), if_pos (by omega)]
    unfold Tape_put_23
    simp only [st1e]
    have hr : aup mm 2 (m 1 1 + j).toNat (w8 (w8 (iushr x x2))) 1 1 = m 1 1 + j := by rw [aup_of (by omega)]; exact e2
    simp (disch := omega) only [hr, w32e]
    refine ih _ _ ⟨j + 1, by omega, by omega, by omega, ?_, ?_, ?_⟩ (by omega)
    · rw [aup_self]; omega
    · intro i i0 i1
      rw [aup_of (by omega)]
      by_cases ci : i = j
      · subst ci
        rw [aup_self, e1]
      · rw [aup_of (by omega)]
        exact e3 i i0 (by omega)
    · intro q i h1 h2
      rw [aup_of (by omega), aup_of (by omega)]
      exact e4 q i h1 h2
theorem B_feed_ok (x1 x2 x3 x4 x5 : Int) {m : aM} (h0 : 0 ≤ m 1 1) (h1 : m 1 1 ≤ 480) : mOk (B_feed x1 x2 x3 x4 x5 m) (fun r => r.1 = m 1 1 + 20 ∧ r.2 1 1 = m 1 1 + 20 ∧ (∀ i : Int, 0 ≤ i → i < 20 → r.2 2 (m 1 1 + i).toNat = w8 (w8 (iushr (mPk x1 x2 x3 x4 x5 i) (24 - 8 * (i % 4))))) ∧ (∀ q i, ¬(q = 1 ∧ i = 1) → ¬(q = 2 ∧ (m 1 1).toNat ≤ i) → r.2 q i = m q i)) := by
  unfold B_feed
  rw [if_neg (by omega)]
  refine mOk_bind (Tape_put_ok x1 h0 (by omega)) (fun m1 k1 => ?_)
  refine mOk_bind (Tape_put_ok x2 (m := m1) (by omega) (by omega)) (fun m2 k2 => ?_)
  refine mOk_bind (Tape_put_ok x3 (m := m2) (by omega) (by omega)) (fun m3 k3 => ?_)
  refine mOk_bind (Tape_put_ok x4 (m := m3) (by omega) (by omega)) (fun m4 k4 => ?_)
  refine mOk_bind (Tape_put_ok x5 (m := m4) (by omega) (by omega)) (fun m5 k5 => ?_)
  obtain ⟨a1, b1, c1⟩ := k1
  obtain ⟨a2, b2, c2⟩ := k2
  obtain ⟨a3, b3, c3⟩ := k3
  obtain ⟨a4, b4, c4⟩ := k4
  obtain ⟨a5, b5, c5⟩ := k5
  refine mOk_some ⟨by dsimp only; omega, by dsimp only; omega, ?_, ?_⟩
  · intro i i0 i1
    dsimp only
    unfold mPk
    by_cases d1 : i < 4
    · rw [if_pos d1, c5 _ _ (by omega) (by omega), c4 _ _ (by omega) (by omega), c3 _ _ (by omega) (by omega), c2 _ _ (by omega) (by omega), b1 i i0 d1, show i % 4 = i by omega]
    rw [if_neg d1]
    by_cases d2 : i < 8
    · rw [if_pos d2, c5 _ _ (by omega) (by omega), c4 _ _ (by omega) (by omega), c3 _ _ (by omega) (by omega), show m 1 1 + i = m1 1 1 + (i - 4) by omega, b2 (i - 4) (by omega) (by omega), show i % 4 = i - 4 by omega]
    rw [if_neg d2]
    by_cases d3 : i < 12
    · rw [if_pos d3, c5 _ _ (by omega) (by omega), c4 _ _ (by omega) (by omega), show m 1 1 + i = m2 1 1 + (i - 8) by omega, b3 (i - 8) (by omega) (by omega), show i % 4 = i - 8 by omega]
    rw [if_neg d3]
    by_cases d4 : i < 16
    · rw [if_pos d4, c5 _ _ (by omega) (by omega), show m 1 1 + i = m3 1 1 + (i - 12) by omega, b4 (i - 12) (by omega) (by omega), show i % 4 = i - 12 by omega]
    rw [if_neg d4, show m 1 1 + i = m4 1 1 + (i - 16) by omega, b5 (i - 16) (by omega) (by omega), show i % 4 = i - 16 by omega]
  · intro q i h1 h2
    dsimp only
    rw [c5 _ _ (by omega) (by omega), c4 _ _ (by omega) (by omega), c3 _ _ (by omega) (by omega), c2 _ _ (by omega) (by omega), c1 _ _ (by omega) (by omega)]
theorem R_feed_ok (x1 x2 x3 x4 x5 : Int) {m : aM} (h0 : 0 ≤ m 176 5) (h1 : m 176 5 ≤ 480) : mOk (R_feed x1 x2 x3 x4 x5 m) (fun r => r.1 = m 176 5 + 20 ∧ r.2 176 5 = m 176 5 + 20 ∧ (∀ i : Int, 0 ≤ i → i < 20 → r.2 179 (m 176 5 + i).toNat = iand (ishr (mPk x1 x2 x3 x4 x5 i) (24 - 8 * (i % 4))) 255) ∧ (∀ q i, ¬(q = 176 ∧ i = 5) → ¬(q = 176 ∧ i = 0) → ¬(q = 179 ∧ (m 176 5).toNat ≤ i) → r.2 q i = m q i)) := by
  unfold R_feed
  refine mOk_st1 ?_
  have hm : aup m 176 0 0 176 5 = m 176 5 := aup_of (by omega)
  rw [hm, w32e (by omega) (by omega), if_neg (by omega)]
  refine mL2 (R_feed_13 x1 x2 x3 x4 x5) (fun x6 mm => 0 ≤ x6 ∧ x6 ≤ 20 ∧ mm 176 5 = m 176 5 + x6 ∧ (∀ i : Int, 0 ≤ i → i < x6 → mm 179 (m 176 5 + i).toNat = iand (ishr (mPk x1 x2 x3 x4 x5 i) (24 - 8 * (i % 4))) 255) ∧ (∀ q i, ¬(q = 176 ∧ i = 5) → ¬(q = 176 ∧ i = 0) → ¬(q = 179 ∧ (m 176 5).toNat ≤ i) → mm q i = m q i)) (fun x6 _ => (20 - x6).toNat) ?_ 0 _ ⟨by omega, by omega, by rw [hm]; omega, fun i a b => by omega, fun q i _ _ _ => aup_of (by omega)⟩ (by omega)
  rintro n x6 mm ⟨j0, j1, e2, e3, e4⟩ ih
  have key : x6 < 20 → ∀ v, v = mPk x1 x2 x3 x4 x5 x6 → mOk (R_feed_37 (R_feed_13 x1 x2 x3 x4 x5 n) x1 x2 x3 x4 x5 x6 v mm) (fun r => r.1 = m 176 5 + 20 ∧ r.2 176 5 = m 176 5 + 20 ∧ (∀ i : Int, 0 ≤ i → i < 20 → r.2 179 (m 176 5 + i).toNat = iand (ishr (mPk x1 x2 x3 x4 x5 i) (24 - 8 * (i % 4))) 255) ∧ (∀ q i, ¬(q = 176 ∧ i = 5) → ¬(q = 176 ∧ i = 0) → ¬(q = 179 ∧ (m 176 5).toNat ≤ i) → r.2 q i = m q i)) := by
    intro c v hv
    subst hv
    unfold R_feed_37
    rw [e2, if_pos (by omega), Int.tmod_eq_emod_of_nonneg j0]
    simp (disch := omega) only [st1e, w32e]
    have hr : ∀ v, aup mm 179 (m 176 5 + x6).toNat v 176 5 = m 176 5 + x6 := fun v => by rw [aup_of (by omega)]; exact e2
    simp (disch := omega) only [hr, w32e]
    refine ih _ _ ⟨by omega, by omega, ?_, ?_, ?_⟩ (by omega)
    · rw [aup_self]; omega
    · intro i i0 i1
      rw [aup_of (by omega)]
      by_cases ci : i = x6
      · subst ci
        rw [aup_self]
      · rw [aup_of (by omega)]
        exact e3 i i0 (by omega)
    · intro q i h1 h2 h3
      rw [aup_of (by omega), aup_of (by omega)]
      exact e4 q i h1 h2 h3
  rw [R_feed_13]
  by_cases c : x6 < 20
  · rw [if_pos c]
    by_cases d1 : x6 < 4
    · rw [if_pos d1]; exact key c _ (by unfold mPk; simp only [if_pos d1])
    rw [if_neg d1]
    by_cases d2 : x6 < 8
    · rw [if_pos d2]; exact key c _ (by unfold mPk; simp only [if_neg d1, if_pos d2])
    rw [if_neg d2]
    by_cases d3 : x6 < 12
    · rw [if_pos d3]; exact key c _ (by unfold mPk; simp only [if_neg d1, if_neg d2, if_pos d3])
    rw [if_neg d3]
    by_cases d4 : x6 < 16
    · rw [if_pos d4]; exact key c _ (by unfold mPk; simp only [if_neg d1, if_neg d2, if_neg d3, if_pos d4])
    rw [if_neg d4]; exact key c _ (by unfold mPk; simp only [if_neg d1, if_neg d2, if_neg d3, if_neg d4])
  · rw [if_neg c]
    have ej : x6 = 20 := by omega
    subst ej
    exact mOk_some ⟨e2, e2, e3, e4⟩
theorem st_feed {n : Nat} {m : aM} (h : mInv n m) (x1 x2 x3 x4 x5 : Int) (i1 : in32 x1) (i2 : in32 x2) (i3 : in32 x3) (i4 : in32 x4) (i5 : in32 x5) : ∃ r m1 m2, B_feed x1 x2 x3 x4 x5 m = some (r, m1) ∧ R_feed x1 x2 x3 x4 x5 m1 = some (r, m2) ∧ mInv (n + 1) m2 := by
  obtain ⟨⟨t0, t1⟩, t2, t3⟩ := h.1
  by_cases c : m 1 1 ≤ 480
  · obtain ⟨⟨r, m1⟩, k1, p1, p2, p3, p4⟩ := B_feed_ok x1 x2 x3 x4 x5 t0 c
    dsimp only at p1 p2 p3 p4
    have e5 : m1 176 5 = m 1 1 := by rw [p4 _ _ (by omega) (by omega)]; exact t2
    obtain ⟨⟨r', m2⟩, k2, q1, q2, q3, q4⟩ := R_feed_ok x1 x2 x3 x4 x5 (m := m1) (by omega) (by omega)
    dsimp only at q1 q2 q3 q4
    refine ⟨r, m1, m2, k1, ?_, ?_⟩
    · rw [k2, q1, p1, e5]
    · have f1 : m2 1 1 = m 1 1 + 20 := by rw [q4 _ _ (by omega) (by omega) (by omega)]; exact p2
      refine mInv_tape (Nat.le_succ n) ?_ ⟨by omega, by omega, ?_⟩ h
      · intro q i hd g1 g2 g3 g4
        have g5 : ¬(q = 176 ∧ i = 0) := by unfold mDep at hd; omega
        rw [q4 _ _ g3 g5 (by omega), p4 _ _ g1 (by omega)]
      · intro k k0 kk
        rw [f1] at kk
        rw [q4 2 _ (by omega) (by omega) (by omega)]
        by_cases d : k < m 1 1
        · rw [q4 179 _ (by omega) (by omega) (by omega), p4 179 _ (by omega) (by omega), p4 2 _ (by omega) (by omega)]
          exact t3 k k0 d
        · have a1 := p3 (k - m 1 1) (by omega) (by omega)
          have a2 := q3 (k - m 1 1) (by omega) (by omega)
          rw [e5] at a2
          rw [show m 1 1 + (k - m 1 1) = k by omega] at a1 a2
          rw [a1, a2]
          have hv : in32 (mPk x1 x2 x3 x4 x5 (k - m 1 1)) := by
            unfold mPk
            split
            · exact i1
            split
            · exact i2
            split
            · exact i3
            split
            · exact i4
            exact i5
          exact byte_cut hv (by omega)
  · refine ⟨-5, m, aup m 176 0 0, ?_, ?_, mInv_0 h⟩
    · unfold B_feed
      rw [if_pos (by omega)]
    · unfold R_feed
      simp only [st1e]
      rw [aup_of (by omega), w32e (by omega) (by omega), if_pos (by omega)]
