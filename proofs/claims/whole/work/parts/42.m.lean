/-! THE CACHES of the class: what they hold is what the reference would answer now -/
/-- two rows tell the same tongue and line; the slot behind the last word is free -/
def mAeq (A A' : Nat → Int) : Prop := ∀ k : Nat, k < 196 → 19 + A 18 ≠ k → 45 + A 18 ≠ k → ¬(58 + 6 * A 18 ≤ k ∧ (k : Int) < 64 + 6 * A 18) → A' k = A k
theorem mAeq.refl (A : Nat → Int) : mAeq A A := fun _ _ _ _ _ => rfl
theorem mAeq.w {A A' : Nat → Int} (h : mAeq A A') (h0 : 0 ≤ A 18) : A' 18 = A 18 := h 18 (by omega) (by omega) (by omega) (by omega)
theorem mAeq.symm {A A' : Nat → Int} (h : mAeq A A') (h0 : 0 ≤ A 18) : mAeq A' A := by
  intro k h1 h2 h3 h4
  rw [h.w h0] at h2 h3 h4
  exact (h k h1 h2 h3 h4).symm
theorem mAeq.trans {A A' A'' : Nat → Int} (h : mAeq A A') (h' : mAeq A' A'') (h0 : 0 ≤ A 18) : mAeq A A'' := by
  intro k h1 h2 h3 h4
  rw [h' k h1 (by rw [h.w h0]; exact h2) (by rw [h.w h0]; exact h3) (by rw [h.w h0]; exact h4)]
  exact h k h1 h2 h3 h4
/-- two rows tell the same tongue -/
def mAeqT (A A' : Nat → Int) : Prop := ∀ k : Nat, k < 155 → 19 + A 18 ≠ k → 45 + A 18 ≠ k → ¬(58 + 6 * A 18 ≤ k ∧ (k : Int) < 64 + 6 * A 18) → A' k = A k
theorem mAeq.T {A A' : Nat → Int} (h : mAeq A A') : mAeqT A A' := fun k hk => h k (by omega)
theorem mAeqT.refl (A : Nat → Int) : mAeqT A A := fun _ _ _ _ _ => rfl
theorem mAeqT.w {A A' : Nat → Int} (h : mAeqT A A') (h0 : 0 ≤ A 18) : A' 18 = A 18 := h 18 (by omega) (by omega) (by omega) (by omega)
theorem mAeqT.symm {A A' : Nat → Int} (h : mAeqT A A') (h0 : 0 ≤ A 18) : mAeqT A' A := by
  intro k h1 h2 h3 h4
  rw [h.w h0] at h2 h3 h4
  exact (h k h1 h2 h3 h4).symm
theorem mAeqT.trans {A A' A'' : Nat → Int} (h : mAeqT A A') (h' : mAeqT A' A'') (h0 : 0 ≤ A 18) : mAeqT A A'' := by
  intro k h1 h2 h3 h4
  rw [h' k h1 (by rw [h.w h0]; exact h2) (by rw [h.w h0]; exact h3) (by rw [h.w h0]; exact h4)]
  exact h k h1 h2 h3 h4
theorem mTok_aeq {A A' : Nat → Int} (h : mAeq A A') (k : mTok A) : mTok A' := by
  obtain ⟨c0, c1, c2, c3, c4, c5, c6, c7, c8, c9, c10, c11, c12, c13⟩ := k
  have e0 : A' 0 = A 0 := h 0 (by omega) (by omega) (by omega) (by omega)
  have e18 := h.w c4.1
  have e141 : A' 141 = A 141 := h 141 (by omega) (by omega) (by omega) (by omega)
  have e155 : A' 155 = A 155 := h 155 (by omega) (by omega) (by omega) (by omega)
  unfold mTok
  rw [e0, e18, e141, e155, h 9 (by omega) (by omega) (by omega) (by omega), h 140 (by omega) (by omega) (by omega) (by omega), h 154 (by omega) (by omega) (by omega) (by omega)]
  refine ⟨c0, ?_, c2, ?_, c4, ?_, ?_, ?_, c8, c9, ?_, c11, c12, ?_⟩
  · intro s h0 h1
    rw [h _ (by omega) (by omega) (by omega) (by omega)]
    exact c1 s h0 h1
  · intro s h0 h1
    rw [h (10 + s).toNat (by omega) (by omega) (by omega) (by omega)]
    refine ⟨(c3 s h0 h1).1, (c3 s h0 h1).2.1, ?_⟩
    intro b b0 b1 hb
    rw [h (10 + b).toNat (by omega) (by omega) (by omega) (by omega)]
    exact (c3 s h0 h1).2.2 b b0 b1 hb
  · intro w h0 h1
    rw [h (19 + w).toNat (by omega) (by omega) (by omega) (by omega), h (32 + w).toNat (by omega) (by omega) (by omega) (by omega), h (45 + w).toNat (by omega) (by omega) (by omega) (by omega)]
    obtain ⟨d1, d2, d3, d4⟩ := c5 w h0 h1
    refine ⟨d1, d2, d3, ?_⟩
    intro k k0 k1
    rw [h (58 + 6 * w + k).toNat (by omega) (by omega) (by omega) (by omega)]
    exact d4 k k0 k1
  · intro v w v0 v1 v2 hl
    have d1 := (c5 v v0 (by omega)).1
    have d2 := (c5 w (by omega) (by omega)).1
    rw [h (19 + v).toNat (by omega) (by omega) (by omega) (by omega), h (19 + w).toNat (by omega) (by omega) (by omega) (by omega)] at hl
    obtain ⟨k, k0, k1, k2⟩ := c6 v w v0 v1 v2 hl
    refine ⟨k, k0, ?_, ?_⟩
    · rw [h (19 + v).toNat (by omega) (by omega) (by omega) (by omega)]; exact k1
    · rw [h (58 + 6 * v + k).toNat (by omega) (by omega) (by omega) (by omega), h (58 + 6 * w + k).toNat (by omega) (by omega) (by omega) (by omega)]
      exact k2
  · intro k h0 h1
    rw [h _ (by omega) (by omega) (by omega) (by omega)]
    exact c7 k h0 h1
  · intro s h0 h1
    rw [h (142 + s).toNat (by omega) (by omega) (by omega) (by omega), h (148 + s).toNat (by omega) (by omega) (by omega) (by omega)]
    exact c10 s h0 h1
  · intro k h0 h1
    rw [h (156 + k).toNat (by omega) (by omega) (by omega) (by omega)]
    exact c13 k h0 h1
theorem mTR_aeq {t b : Nat} {A A' : Nat → Int} {m : aM} (h : mAeq A A') (c : mTok A) (k : mTR t b A m) : mTR t b A' m := by
  obtain ⟨⟨a0, a1, a2, a3, a4, a5⟩, b1, b2, b3, b4, b5, b6, b7⟩ := k
  have c0 := c.1
  have c4 := c.2.2.2.2.1
  have c5 := c.2.2.2.2.2.1
  have c12 := c.2.2.2.2.2.2.2.2.2.2.2.2.1
  have c9 := c.2.2.2.2.2.2.2.2.2.1
  have e0 : A' 0 = A 0 := h 0 (by omega) (by omega) (by omega) (by omega)
  have e18 := h.w c4.1
  have e141 : A' 141 = A 141 := h 141 (by omega) (by omega) (by omega) (by omega)
  have e155 : A' 155 = A 155 := h 155 (by omega) (by omega) (by omega) (by omega)
  unfold mTR
  rw [e0, e18, e141, e155, h 9 (by omega) (by omega) (by omega) (by omega), h 140 (by omega) (by omega) (by omega) (by omega), h 154 (by omega) (by omega) (by omega) (by omega)]
  refine ⟨⟨a0, a1, a2, a3, a4, a5⟩, ?_, ?_, ?_, ?_, ?_, b6, ?_⟩
  · intro s h0 h1
    rw [h _ (by omega) (by omega) (by omega) (by omega)]
    exact b1 s h0 h1
  · intro s h0 h1
    rw [h _ (by omega) (by omega) (by omega) (by omega)]
    exact b2 s h0 h1
  · intro w h0 h1
    rw [h (19 + w).toNat (by omega) (by omega) (by omega) (by omega), h (32 + w).toNat (by omega) (by omega) (by omega) (by omega), h (45 + w).toNat (by omega) (by omega) (by omega) (by omega)]
    obtain ⟨d1, d2, d3, d4⟩ := b3 w h0 h1
    refine ⟨d1, d2, d3, ?_⟩
    intro k k0 k1
    have := (c5 w h0 h1).1
    rw [h (58 + 6 * w + k).toNat (by omega) (by omega) (by omega) (by omega)]
    exact d4 k k0 k1
  · intro k h0 h1
    rw [h _ (by omega) (by omega) (by omega) (by omega)]
    exact b4 k h0 h1
  · intro s h0 h1
    rw [h (142 + s).toNat (by omega) (by omega) (by omega) (by omega), h (148 + s).toNat (by omega) (by omega) (by omega) (by omega)]
    exact b5 s h0 h1
  · intro k h0 h1
    rw [h (156 + k).toNat (by omega) (by omega) (by omega) (by omega)]
    exact b7 k h0 h1
def mRdy (m : aM) : Prop := (0 ≤ m 176 30 ∧ m 176 30 ≤ 1000000) ∧ (∀ s : Nat, m 193 s ≤ m 176 30) ∧ m 176 32 = 0 ∧ m 176 33 = 0
theorem mRdy_of {n : Nat} {m : aM} (hn : n ≤ 64) (h : mMark n m) : mRdy m := ⟨⟨h.1.1, by have := h.1.2; omega⟩, h.2⟩
/-- the cut that ofBreath holds, as (count, words, mistakes) -/
def mCutC (m : aM) : Prop := m 61 9 = -1 ∨ ((0 ≤ m 61 9 ∧ m 61 9 ≤ 3) ∧ ∀ (m' m1 : aM) (r : Int × aM), mAeq (m 177) (m' 177) → R_looksAtLine m' = some m1 → R_finds (m 61 9) m1 = some r →
  ((r.1 = 0 ∧ m 61 8 = 0) ∨ (r.1 = 1 ∧ (1 ≤ m 61 8 ∧ m 61 8 ≤ 40) ∧ r.2 176 22 = m 61 8 ∧ (∀ i : Int, 0 ≤ i → i < m 61 8 → r.2 186 i.toNat = m 65 i.toNat ∧ 0 ≤ m 65 i.toNat ∧ m 65 i.toNat < 12) ∧ (m 61 9 = 3 → Cutter_chosenMisses 61 m = some (r.2 184 13)))))
def mMendC (m : aM) : Prop :=
  (∀ j : Int, 0 ≤ j → j < 3 → m 107 j.toNat = -2 ∨ ∀ (m' : aM) (r : Int × aM), mAeqT (m 177) (m' 177) → mRdy m' → R_unsureOf j m' = some r → r.1 = m 107 j.toNat) ∧
  (m 79 6 = 0 ∨ (m 79 6 = 1 ∧ m 107 0 ≠ -2 ∧ m 107 0 ≤ 2826 ∧ ∀ (m' : aM) (i : Int) (r : Int × aM), mAeqT (m 177) (m' 177) → mRdy m' → R_unsureAt i m' = some r → r.1 = if 0 ≤ i ∧ i < m 107 0 then m 108 i.toNat else -1)) ∧
  (∀ j : Int, 0 ≤ j → j < 4 → m 109 j.toNat = 0 ∨ (m 109 j.toNat = 1 ∧ (0 ≤ m (112 + 2 * j.toNat) 1 ∧ m (112 + 2 * j.toNat) 1 ≤ 3) ∧ ∀ (m' : aM) (r : Int × aM),
    mAeqT (m 177) (m' 177) → mRdy m' → ∀ a : Int, (a = 0 ∨ a = 1 ∨ (10 ≤ a ∧ a ≤ 12)) → R_added j a m' = some r →
      r.1 = if m (112 + 2 * j.toNat) 1 = 0 then -1 else if a = 0 then m (112 + 2 * j.toNat) 1 else if a = 1 then m 111 j.toNat else if a - 10 < m (112 + 2 * j.toNat) 1 then m (113 + 2 * j.toNat) (a - 10).toNat else -1)) ∧
  (m 79 10 = -2 ∨ (-1 ≤ m 79 10 ∧ m 79 10 < 4096 ∧ ∀ (m' : aM) (r : Int × aM), mAeqT (m 177) (m' 177) → mRdy m' → R_mended 1 m' = some r → r.1 = m 79 10)) ∧
  (m 79 11 = 0 ∨ (m 79 11 = 1 ∧ ∀ (m' : aM) (j : Int) (r : Int × aM), 0 ≤ j → j < 3 → mAeqT (m 177) (m' 177) → mRdy m' → R_changed j m' = some r → r.1 = m 79 (12 + j).toNat)) ∧
  (m 79 15 = -2 ∨ (0 ≤ m 79 15 ∧ m 79 15 < 16 ∧ ∀ (m' : aM) (r : Int × aM), mAeqT (m 177) (m' 177) → mRdy m' → R_paused 1 m' = some r → r.1 = m 79 15))
theorem chosenMisses_cg {t : Nat} {m m' : aM} (h1 : m' t 8 = m t 8) (h2 : m' (t + 1) = m (t + 1)) (h4 : m' (t + 4) = m (t + 4)) (h5 : m' (t + 5) = m (t + 5)) : Cutter_chosenMisses t m' = Cutter_chosenMisses t m := by
  have aux : ∀ n x y, Cutter_chosenMisses_4 m' t n x y = Cutter_chosenMisses_4 m t n x y := by
    intro n
    induction n with
    | zero => intro x y; rfl
    | succ n ih =>
      intro x y
      rw [Cutter_chosenMisses_4, Cutter_chosenMisses_4, h1, h2, h4, h5]
      simp only [ih]
  exact aux _ _ _
theorem mCutC_of {m m' : aM} (hA : mAeq (m 177) (m' 177)) (h0 : 0 ≤ m 177 18) (h1 : m' 61 8 = m 61 8) (h2 : m' 61 9 = m 61 9) (h3 : m' 62 = m 62) (h4 : m' 65 = m 65) (h5 : m' 66 = m 66) (k : mCutC m) : mCutC m' := by
  unfold mCutC at *
  rw [h1, h2, h4, chosenMisses_cg (t := 61) h1 h3 h4 h5]
  rcases k with k | ⟨k1, k2⟩
  · exact Or.inl k
  · exact Or.inr ⟨k1, fun a b r ha => k2 a b r (hA.trans ha h0)⟩
theorem mMendC_of {m m' : aM} (hA : mAeqT (m 177) (m' 177)) (h0 : 0 ≤ m 177 18) (h1 : m' 79 = m 79) (h2 : ∀ q, 107 ≤ q → q ≤ 119 → m' q = m q) (k : mMendC m) : mMendC m' := by
  unfold mMendC at *
  rw [h1, h2 107 (by omega) (by omega), h2 108 (by omega) (by omega), h2 109 (by omega) (by omega), h2 111 (by omega) (by omega)]
  obtain ⟨k1, k2, k3, k4, k5, k6⟩ := k
  refine ⟨?_, ?_, ?_, ?_, ?_, ?_⟩
  · intro j j0 j1
    rcases k1 j j0 j1 with k | k
    · exact Or.inl k
    · exact Or.inr (fun a r ha => k a r (hA.trans ha h0))
  · rcases k2 with k | ⟨a1, a2, a3, a4⟩
    · exact Or.inl k
    · exact Or.inr ⟨a1, a2, a3, fun a i r ha => a4 a i r (hA.trans ha h0)⟩
  · intro j j0 j1
    rw [h2 (112 + 2 * j.toNat) (by omega) (by omega), h2 (113 + 2 * j.toNat) (by omega) (by omega)]
    rcases k3 j j0 j1 with k | ⟨a1, a2, a3⟩
    · exact Or.inl k
    · exact Or.inr ⟨a1, a2, fun a r ha => a3 a r (hA.trans ha h0)⟩
  · rcases k4 with k | ⟨a1, a2, a3⟩
    · exact Or.inl k
    · exact Or.inr ⟨a1, a2, fun a r ha => a3 a r (hA.trans ha h0)⟩
  · rcases k5 with k | ⟨a1, a2⟩
    · exact Or.inl k
    · exact Or.inr ⟨a1, fun a j r j0 j1 ha => a2 a j r j0 j1 (hA.trans ha h0)⟩
  · rcases k6 with k | ⟨a1, a2, a3⟩
    · exact Or.inl k
    · exact Or.inr ⟨a1, a2, fun a r ha => a3 a r (hA.trans ha h0)⟩
theorem mMendC_forget {m : aM} (h1 : ∀ j : Nat, j < 3 → m 107 j = -2) (h2 : m 79 6 = 0) (h3 : ∀ j : Nat, j < 4 → m 109 j = 0) (h4 : m 79 10 = -2) (h5 : m 79 11 = 0) (h6 : m 79 15 = -2) : mMendC m :=
  ⟨fun j j0 j1 => Or.inl (h1 _ (by omega)), Or.inl h2, fun j j0 j1 => Or.inl (h3 _ (by omega)), Or.inl h4, Or.inl h5, Or.inl h6⟩
def mInv (n : Nat) (m : aM) : Prop := mTape m ∧ (m 176 13 = m 1 7 ∧ m 176 14 = m 1 8) ∧ mTok (m 177) ∧ mTR 25 47 (m 177) m ∧ mRows m ∧ mImg m ∧ mMark n m ∧ mCutC m ∧ mMendC m
theorem mInv_same {n n' : Nat} {m m' : aM} (hn : n ≤ n') (h : mSame m m') (k : mInv n m) : mInv n' m' := by
  obtain ⟨k1, k2, k3, k4, k5, k6, k7, k8, k9⟩ := k
  have e : m' 177 = m 177 := h.row 177 (fun i => by unfold mDep; omega)
  refine ⟨mTape_same h k1, ?_, ?_, ?_, mRows_same h k5, mImg_same h k6, mMark_same h hn k7, ?_, ?_⟩
  · rw [h 176 13 (by unfold mDep; omega), h 176 14 (by unfold mDep; omega), h 1 7 (by unfold mDep; omega), h 1 8 (by unfold mDep; omega)]
    exact k2
  · rw [e]; exact k3
  · rw [e]; exact mTR_same (fun q j hq => h q j (by unfold mDep; omega)) k4 k3.2.2.2.2.1.2
  · refine mCutC_of (by rw [e]; exact mAeq.refl _) k3.2.2.2.2.1.1 (h _ _ (by unfold mDep; omega)) (h _ _ (by unfold mDep; omega)) (h.row _ (fun i => by unfold mDep; omega)) (h.row _ (fun i => by unfold mDep; omega)) (h.row _ (fun i => by unfold mDep; omega)) k8
  · exact mMendC_of (by rw [e]; exact mAeqT.refl _) k3.2.2.2.2.1.1 (h.row _ (fun i => by unfold mDep; omega)) (fun q a b => h.row _ (fun i => by unfold mDep; omega)) k9
/-- the tape alone has changed -/
theorem mInv_tape {n n' : Nat} {m m' : aM} (hn : n ≤ n') (h : ∀ q i, mDep q i → ¬(q = 1 ∧ i = 1) → q ≠ 2 → ¬(q = 176 ∧ i = 5) → q ≠ 179 → m' q i = m q i) (ht : mTape m') (k : mInv n m) : mInv n' m' := by
  obtain ⟨k1, k2, k3, k4, k5, k6, k7, k8, k9⟩ := k
  have hr : ∀ q, (∀ i, mDep q i) → q ≠ 1 → q ≠ 2 → q ≠ 176 → q ≠ 179 → m' q = m q := fun q hq a b c d => funext fun i => h q i (hq i) (by omega) b (by omega) d
  have e : m' 177 = m 177 := hr 177 (fun i => by unfold mDep; omega) (by omega) (by omega) (by omega) (by omega)
  refine ⟨ht, ?_, ?_, ?_, mRows_c (fun q hq => hr q (fun i => by unfold mDep; omega) (by omega) (by omega) (by omega) (by omega)) k5, mImg_c (fun q hq => hr q (fun i => by unfold mDep; omega) (by omega) (by omega) (by omega) (by omega)) (fun i _ => by rw [e]) k6, ?_, ?_, ?_⟩
  · rw [h 176 13 (by unfold mDep; omega) (by omega) (by omega) (by omega) (by omega), h 176 14 (by unfold mDep; omega) (by omega) (by omega) (by omega) (by omega), h 1 7 (by unfold mDep; omega) (by omega) (by omega) (by omega) (by omega), h 1 8 (by unfold mDep; omega) (by omega) (by omega) (by omega) (by omega)]
    exact k2
  · rw [e]; exact k3
  · rw [e]; exact mTR_same (fun q j hq => h q j (by unfold mDep; omega) (by omega) (by omega) (by omega) (by omega)) k4 k3.2.2.2.2.1.2
  · exact mMark_c (h 176 30 (by unfold mDep; omega) (by omega) (by omega) (by omega) (by omega)) (h 176 32 (by unfold mDep; omega) (by omega) (by omega) (by omega) (by omega)) (h 176 33 (by unfold mDep; omega) (by omega) (by omega) (by omega) (by omega)) (hr 193 (fun i => by unfold mDep; omega) (by omega) (by omega) (by omega) (by omega)) hn k7
  · exact mCutC_of (by rw [e]; exact mAeq.refl _) k3.2.2.2.2.1.1 (h _ _ (by unfold mDep; omega) (by omega) (by omega) (by omega) (by omega)) (h _ _ (by unfold mDep; omega) (by omega) (by omega) (by omega) (by omega)) (hr _ (fun i => by unfold mDep; omega) (by omega) (by omega) (by omega) (by omega)) (hr _ (fun i => by unfold mDep; omega) (by omega) (by omega) (by omega) (by omega)) (hr _ (fun i => by unfold mDep; omega) (by omega) (by omega) (by omega) (by omega)) k8
  · exact mMendC_of (by rw [e]; exact mAeqT.refl _) k3.2.2.2.2.1.1 (hr _ (fun i => by unfold mDep; omega) (by omega) (by omega) (by omega) (by omega)) (fun q a b => hr _ (fun i => by unfold mDep; omega) (by omega) (by omega) (by omega) (by omega)) k9
