/-! THE ORDER BY SOUNDS -/
def mLx (f g : Int → Int) (n : Int) : Prop := ∃ j : Int, 0 ≤ j ∧ j < n ∧ (∀ i : Int, 0 ≤ i → i < j → f i = g i) ∧ f j < g j
theorem first_diff (f g : Int → Int) : ∀ n : Nat, (∀ i : Int, 0 ≤ i → i < n → f i = g i) ∨ ∃ j : Int, 0 ≤ j ∧ j < n ∧ (∀ i : Int, 0 ≤ i → i < j → f i = g i) ∧ f j ≠ g j := by
  intro n
  induction n with
  | zero => exact Or.inl (fun i h0 h1 => by omega)
  | succ n ih =>
    rcases ih with ih | ⟨j, j0, j1, j2, j3⟩
    · by_cases h : f n = g n
      · refine Or.inl (fun i h0 h1 => ?_)
        by_cases e : i = n
        · rw [e]; exact h
        · exact ih i h0 (by omega)
      · exact Or.inr ⟨n, by omega, by omega, ih, h⟩
    · exact Or.inr ⟨j, j0, by omega, j2, j3⟩
theorem mLx_irr (f : Int → Int) (n : Int) : ¬ mLx f f n := fun ⟨j, _, _, _, h⟩ => by omega
theorem mLx_trans {f g h : Int → Int} {n : Int} (h1 : mLx f g n) (h2 : mLx g h n) : mLx f h n := by
  obtain ⟨i, i0, i1, i2, i3⟩ := h1
  obtain ⟨j, j0, j1, j2, j3⟩ := h2
  rcases Int.lt_trichotomy i j with c | c | c
  · exact ⟨i, i0, i1, fun k k0 k1 => (i2 k k0 k1).trans (j2 k k0 (by omega)), by rw [← j2 i i0 c]; exact i3⟩
  · subst c
    exact ⟨i, i0, i1, fun k k0 k1 => (i2 k k0 k1).trans (j2 k k0 k1), by omega⟩
  · exact ⟨j, j0, j1, fun k k0 k1 => (i2 k k0 (by omega)).trans (j2 k k0 k1), by rw [i2 j j0 c]; exact j3⟩
theorem mLx_cotrans {f g h : Int → Int} {n : Int} (h1 : mLx f g n) (h2 : ¬ mLx h g n) : mLx f h n := by
  obtain ⟨i, i0, i1, i2, i3⟩ := h1
  rcases first_diff h g n.toNat with c | ⟨j, j0, j1, j2, j3⟩
  · exact ⟨i, i0, i1, fun k k0 k1 => (i2 k k0 k1).trans (c k k0 (by omega)).symm, by rw [c i i0 (by omega)]; exact i3⟩
  · have j4 : g j < h j := by
      rcases Int.lt_trichotomy (h j) (g j) with c | c | c
      · exact absurd ⟨j, j0, by omega, j2, c⟩ h2
      · exact absurd c j3
      · exact c
    rcases Int.lt_trichotomy i j with c | c | c
    · exact ⟨i, i0, i1, fun k k0 k1 => (i2 k k0 k1).trans (j2 k k0 (by omega)).symm, by rw [j2 i i0 c]; exact i3⟩
    · subst c
      exact ⟨i, i0, i1, fun k k0 k1 => (i2 k k0 k1).trans (j2 k k0 k1).symm, by omega⟩
    · exact ⟨j, j0, by omega, fun k k0 k1 => (i2 k k0 (by omega)).trans (j2 k k0 k1).symm, by rw [i2 j j0 c]; exact j4⟩
/-! limb -/
def mZ (A : Nat → Int) (w k : Int) : Int := A (58 + 6 * w + k).toNat
noncomputable def mCnt (A : Nat → Int) (w n : Int) : Int := mSum (fun v => mI (mAl A w v n)) (A 18).toNat
def mEl (A : Nat → Int) (k w n : Int) : Prop := n ≤ A (19 + w).toNat ∧ k ≤ mCnt A w n
def mLimb (A : Nat → Int) (k L b : Int) : Prop := 0 ≤ L ∧ L ≤ 6 ∧ 0 ≤ b ∧ b < A 18 ∧ mEl A k b L ∧ (∀ w n : Int, 0 ≤ w → w < A 18 → L < n → ¬ mEl A k w n) ∧ ∀ w : Int, 0 ≤ w → w < A 18 → mEl A k w L → ¬ mLx (mZ A w) (mZ A b) L ∧ (w < b → mLx (mZ A b) (mZ A w) L)
theorem mLimb_uni {A : Nat → Int} {k L b L' b' : Int} (h : mLimb A k L b) (h' : mLimb A k L' b') : L = L' ∧ b = b' := by
  obtain ⟨l0, l1, b0, b1, e, mx, fs⟩ := h
  obtain ⟨l0', l1', b0', b1', e', mx', fs'⟩ := h'
  have hL : L = L' := by
    rcases Int.lt_trichotomy L L' with c | c | c
    · exact absurd e' (mx b' L' b0' b1' c)
    · exact c
    · exact absurd e (mx' b L b0 b1 c)
  subst hL
  refine ⟨rfl, ?_⟩
  rcases Int.lt_trichotomy b b' with c | c | c
  · exact absurd ((fs' b b0 b1 e).2 c) (fs b' b0' b1' e').1
  · exact c
  · exact absurd ((fs b' b0' b1' e').2 c) (fs' b b0 b1 e).1
theorem mCnt_bd {A : Nat → Int} (h : mTok A) (w n : Int) : 0 ≤ mCnt A w n ∧ mCnt A w n ≤ 12 := by
  have c4 := h.2.2.2.2.1
  have := mI_sum (fun v => mAl A w v n) (A 18).toNat
  unfold mCnt
  omega
theorem mI_all {f : Int → Prop} : ∀ {n : Nat}, (∀ i : Int, 0 ≤ i → i < n → f i) → mSum (fun k => mI (f k)) n = n := by
  intro n
  induction n with
  | zero => intro _; rfl
  | succ n ih =>
    intro h
    show mSum (fun k => mI (f k)) n + mI (f n) = _
    rw [ih (fun i h0 h1 => h i h0 (by omega)), mI_t (h n (by omega) (by omega))]
    omega
theorem mEl_0 {A : Nat → Int} (h : mTok A) {k w : Int} (hk : k ≤ A 18) (w0 : 0 ≤ w) (w1 : w < A 18) : mEl A k w 0 := by
  have c4 := h.2.2.2.2.1
  have c5 := h.2.2.2.2.2.1
  refine ⟨by have := (c5 w w0 w1).1; omega, ?_⟩
  unfold mCnt
  rw [mI_all (fun v v0 v1 => ⟨by have := (c5 w w0 w1).1; omega, by have := (c5 v v0 (by omega)).1; omega, fun k k0 k1 => by omega⟩)]
  omega
theorem sharing_ok {w n : Int} {m : aM} (ht : mTok (m 177)) (hr : mTR 25 47 (m 177) m) (w0 : 0 ≤ w) (w1 : w < m 177 18) (hn : n ≤ m 177 (19 + w).toNat) : mOk (Census_countSharing w n m) (fun r => r = mCnt (m 177) w n) := by
  have c4 := ht.2.2.2.2.1
  unfold Census_countSharing
  refine mL2 (Census_countSharing_4 m w n) (fun acc v => 0 ≤ v ∧ v ≤ m 177 18 ∧ acc = mSum (fun v => mI (mAl (m 177) w v n)) v.toNat) (fun _ v => (12 - v).toNat) ?_ 0 0 ⟨by omega, by omega, rfl⟩ (by omega)
  rintro f acc v ⟨v0, v1, e⟩ ih
  rw [Census_countSharing_4, hr.1.2.2.1]
  by_cases c : v < m 177 18
  · rw [if_pos c, if_pos (by omega)]
    have b2 := mI_sum (fun v => mAl (m 177) w v n) v.toNat
    refine mOk_bind (begins_al ht hr w0 w1 v0 c hn) (fun r k => ?_)
    by_cases z : r = 0
    · rw [if_pos z]
      unfold Census_countSharing_21
      rw [w32e (by omega) (by omega)]
      refine ih _ _ ⟨by omega, by omega, ?_⟩ (by omega)
      rw [mSum_s v0, mI_f (fun h => (k.2.mpr h) z), e]; omega
    · rw [if_neg z]
      unfold Census_countSharing_21
      rw [w32e (x := v + 1) (by omega) (by omega), w32e (by omega) (by omega)]
      refine ih _ _ ⟨by omega, by omega, ?_⟩ (by omega)
      rw [mSum_s v0, mI_t (k.2.mp z), e]
  · rw [if_neg c]
    exact mOk_some (by unfold mCnt; rw [e, show v = m 177 18 by omega])
theorem haveAlike_ok {w n : Int} {m : aM} (ht : mTok (m 177)) (w0 : 0 ≤ w) (w1 : w < m 177 18) : mOk (R_haveAlike w n m) (fun r => r = mCnt (m 177) w n) := by
  have c4 := ht.2.2.2.2.1
  have f := (ht.2.2.2.2.2.1 w w0 w1).1
  unfold R_haveAlike
  refine mL2 (R_haveAlike_4 m w n) (fun acc v => 0 ≤ v ∧ v ≤ m 177 18 ∧ acc = mSum (fun v => mI (mAl (m 177) w v n)) v.toNat) (fun _ v => (12 - v).toNat) ?_ 0 0 ⟨by omega, by omega, rfl⟩ (by omega)
  rintro f acc v ⟨v0, v1, e⟩ ih
  rw [R_haveAlike_4]
  by_cases c : v < m 177 18
  · rw [if_pos c]
    have b2 := mI_sum (fun v => mAl (m 177) w v n) v.toNat
    refine mOk_bind (beginAlike_ok w0 (by omega) v0 (by omega) (by omega)) (fun r k => ?_)
    by_cases z : r = 0
    · rw [if_pos z]
      unfold R_haveAlike_20
      rw [w32e (x := v + 1) (by omega) (by omega), w32e (by omega) (by omega)]
      refine ih _ _ ⟨by omega, by omega, ?_⟩ (by omega)
      rw [mSum_s v0, mI_f (fun h => (k.2.mpr h) z), e]
    · rw [if_neg z]
      unfold R_haveAlike_20
      rw [w32e (x := v + 1) (by omega) (by omega), w32e (by omega) (by omega)]
      refine ih _ _ ⟨by omega, by omega, ?_⟩ (by omega)
      rw [mSum_s v0, mI_t (k.2.mp z), e]
  · rw [if_neg c]
    exact mOk_some (by unfold mCnt; rw [e, show v = m 177 18 by omega])
theorem mLx_no {f g : Int → Int} {n j : Int} (j0 : 0 ≤ j) (j1 : j < n) (h : ∀ i : Int, 0 ≤ i → i < j → f i = g i) (hj : f j ≠ g j) : mLx f g n ↔ f j < g j := by
  constructor
  · rintro ⟨i, i0, i1, i2, i3⟩
    rcases Int.lt_trichotomy i j with c | c | c
    · have := h i i0 c; omega
    · rw [← c]; exact i3
    · exact absurd (i2 j j0 c) hj
  · intro c; exact ⟨j, j0, j1, h, c⟩
theorem ahead_ok {w n : Int} {m : aM} (ht : mTok (m 177)) (hr : mTR 25 47 (m 177) m) (w0 : 0 ≤ w) (w1 : w < m 177 18) (b0 : 0 ≤ m 120 8) (b1 : m 120 8 < m 177 18) (hn : m 120 9 = n) (hw : n ≤ m 177 (19 + w).toNat) (hb : n ≤ m 177 (19 + m 120 8).toNat) : mOk (Census_isAheadOfLimb w m) (fun r => (r = 0 ∨ r = 1) ∧ (r ≠ 0 ↔ mLx (mZ (m 177) w) (mZ (m 177) (m 120 8)) n)) := by
  have c4 := ht.2.2.2.2.1
  have f := (ht.2.2.2.2.2.1 w w0 w1).1
  have d4 := (hr.2.2.2.1 w w0 w1).2.2.2
  have e4 := (hr.2.2.2.1 _ b0 b1).2.2.2
  unfold Census_isAheadOfLimb
  refine mL1 (Census_isAheadOfLimb_2 m w) (fun a => 0 ≤ a ∧ ∀ i : Int, 0 ≤ i → i < a → mZ (m 177) w i = mZ (m 177) (m 120 8) i) (fun a => (7 - a).toNat) ?_ 0 ⟨by omega, fun i a b => by omega⟩ (by omega)
  rintro fu a ⟨a0, a2⟩ ih
  rw [Census_isAheadOfLimb_2, hn]
  by_cases c : a < n
  · rw [if_pos c, if_pos (by omega), if_pos (by omega), if_pos (by omega), d4 a a0 (by omega), e4 a a0 (by omega)]
    by_cases d : m 177 (58 + 6 * w + a).toNat = m 177 (58 + 6 * m 120 8 + a).toNat
    · rw [if_pos d, w32e (by omega) (by omega)]
      refine ih _ ⟨by omega, ?_⟩ (by omega)
      intro i i0 i1
      by_cases e : i = a
      · rw [e]; exact d
      · exact a2 i i0 (by omega)
    · rw [if_neg d]
      have key := mLx_no (f := mZ (m 177) w) (g := mZ (m 177) (m 120 8)) a0 c a2 d
      by_cases g : m 177 (58 + 6 * w + a).toNat < m 177 (58 + 6 * m 120 8 + a).toNat
      · rw [if_pos g]
        exact mOk_some ⟨Or.inr rfl, by simp; exact key.mpr g⟩
      · rw [if_neg g]
        exact mOk_some ⟨Or.inl rfl, by simp; exact fun h => g (key.mp h)⟩
  · rw [if_neg c]
    refine mOk_some ⟨Or.inl rfl, by simp; rintro ⟨j, j0, j1, j2, j3⟩; have := a2 j j0 (by omega); omega⟩
theorem isAhead_ok {w b n : Int} {m : aM} (ht : mTok (m 177)) (w0 : 0 ≤ w) (w1 : w < m 177 18) (b0 : 0 ≤ b) (b1 : b < m 177 18) (hw : n ≤ 6) : mOk (R_isAhead w b n m) (fun r => (r = 0 ∨ r = 1) ∧ (r ≠ 0 ↔ mLx (mZ (m 177) w) (mZ (m 177) b) n)) := by
  have c4 := ht.2.2.2.2.1
  unfold R_isAhead
  refine mL1 (R_isAhead_2 m w b n) (fun a => 0 ≤ a ∧ ∀ i : Int, 0 ≤ i → i < a → mZ (m 177) w i = mZ (m 177) b i) (fun a => (7 - a).toNat) ?_ 0 ⟨by omega, fun i a b => by omega⟩ (by omega)
  rintro fu a ⟨a0, a2⟩ ih
  rw [R_isAhead_2]
  by_cases c : a < n
  · simp (disch := omega) only [if_pos, w32e]
    by_cases d : m 177 (58 + 6 * w + a).toNat = m 177 (58 + 6 * b + a).toNat
    · rw [if_pos d]
      refine ih _ ⟨by omega, ?_⟩ (by omega)
      intro i i0 i1
      by_cases e : i = a
      · rw [e]; exact d
      · exact a2 i i0 (by omega)
    · rw [if_neg d]
      have key := mLx_no (f := mZ (m 177) w) (g := mZ (m 177) b) a0 c a2 d
      by_cases g : m 177 (58 + 6 * w + a).toNat < m 177 (58 + 6 * b + a).toNat
      · rw [if_pos g]
        exact mOk_some ⟨Or.inr rfl, by simp; exact key.mpr g⟩
      · rw [if_neg g]
        exact mOk_some ⟨Or.inl rfl, by simp; exact fun h => g (key.mp h)⟩
  · rw [if_neg c]
    refine mOk_some ⟨Or.inl rfl, by simp; rintro ⟨j, j0, j1, j2, j3⟩; have := a2 j j0 (by omega); omega⟩
/-- what the class has found, the words ahead of w looked through, and of w the beginnings shorter than n -/
def mLs (A : Nat → Int) (k w n L b : Int) : Prop :=
  (L = 0 ∧ b = 0 ∧ ∀ w' n' : Int, 0 ≤ w' → w' < A 18 → 1 ≤ n' → (w' < w ∨ (w' = w ∧ n' < n)) → ¬ mEl A k w' n') ∨
  (1 ≤ L ∧ L ≤ 6 ∧ 0 ≤ b ∧ b < A 18 ∧ mEl A k b L ∧ (b < w ∨ (b = w ∧ L < n)) ∧ (∀ w' n' : Int, 0 ≤ w' → w' < A 18 → L < n' → (w' < w ∨ (w' = w ∧ n' < n)) → ¬ mEl A k w' n') ∧ ∀ w' : Int, 0 ≤ w' → w' < A 18 → (w' < w ∨ (w' = w ∧ L < n)) → mEl A k w' L → ¬ mLx (mZ A w') (mZ A b) L ∧ (w' < b → mLx (mZ A b) (mZ A w') L))
theorem findLimb_ok {k : Int} {m : aM} (ht : mTok (m 177)) (hr : mTR 25 47 (m 177) m) (hk : k ≤ m 177 18) (hk1 : 1 ≤ k) : mOk (Census_findLimb k m) (fun m' => mLimb (m 177) k (m' 120 9) (m' 120 8) ∧ ∀ q i, q ≠ 120 → m' q i = m q i) := by
  have c4 := ht.2.2.2.2.1
  have c5 := ht.2.2.2.2.2.1
  unfold Census_findLimb
  refine mOk_st1 (mOk_st1 ?_)
  refine mL2 (Census_findLimb_8 k) (fun w mm => 0 ≤ w ∧ w ≤ m 177 18 ∧ mLs (m 177) k w 1 (mm 120 9) (mm 120 8) ∧ ∀ q i, q ≠ 120 → mm q i = m q i) (fun w _ => (12 - w).toNat) ?_ 0 _ ⟨by omega, by omega, Or.inl ⟨aup_self _ _ _ _, by rw [aup_of (by omega), aup_self], fun w' n' a b c d => by omega⟩, fun q i hq => by rw [aup_of (by omega), aup_of (by omega)]⟩ (by omega)
  rintro f w mm ⟨w0, w1, g1, g2⟩ ih
  have rw177 : mm 177 = m 177 := funext fun i => g2 _ _ (by omega)
  rw [Census_findLimb_8, show mm 25 2 = m 177 18 from (g2 _ _ (by omega)).trans hr.1.2.2.1]
  by_cases c : w < m 177 18
  · rw [if_pos c]
    have fl := (c5 w w0 c).1
    refine mL2 (Census_findLimb_15 (Census_findLimb_8 k f) k w) (fun n mm => 1 ≤ n ∧ n ≤ m 177 (19 + w).toNat + 1 ∧ mLs (m 177) k w n (mm 120 9) (mm 120 8) ∧ ∀ q i, q ≠ 120 → mm q i = m q i) (fun n _ => (8 - n).toNat) ?_ 1 mm ⟨by omega, by omega, g1, g2⟩ (by omega)
    rintro f2 n mm2 ⟨n0, n1, s1, s2⟩ ih2
    have e177 : mm2 177 = m 177 := funext fun i => s2 _ _ (by omega)
    have ht2 : mTok (mm2 177) := by rw [e177]; exact ht
    have hr2 : mTR 25 47 (mm2 177) mm2 := by rw [e177]; exact mTR_same (fun q j hq => s2 q j (by omega)) hr (by omega)
    have hg : mm2 41 w.toNat = m 177 (19 + w).toNat := (s2 _ _ (by omega)).trans (hr.2.2.2.1 w w0 c).1
    -- what follows from one look
    have skip : n ≤ m 177 (19 + w).toNat → (¬ mEl (m 177) k w n ∨ (n < mm2 120 9) ∨ (n = mm2 120 9 ∧ ¬ mLx (mZ (m 177) w) (mZ (m 177) (mm2 120 8)) n)) → mOk (Census_findLimb_52 (Census_findLimb_8 k f) (Census_findLimb_15 (Census_findLimb_8 k f) k w f2) k w n mm2) (fun m' => mLimb (m 177) k (m' 120 9) (m' 120 8) ∧ ∀ q i, q ≠ 120 → m' q i = m q i) := by
      intro hn hno
      unfold Census_findLimb_52
      rw [w32e (by omega) (by omega)]
      refine ih2 _ _ ⟨by omega, by omega, ?_, s2⟩ (by omega)
      rcases s1 with ⟨q1, q2, q3⟩ | ⟨q1, q2, q3, q4, q5, q6, q7, q8⟩
      · refine Or.inl ⟨q1, q2, fun w' n' a b c d => ?_⟩
        by_cases e : w' = w ∧ n' = n
        · rw [e.1, e.2]
          rcases hno with h | h | h
          · exact h
          · omega
          · omega
        · exact q3 w' n' a b c (by omega)
      · refine Or.inr ⟨q1, q2, q3, q4, q5, by omega, fun w' n' a b c d => ?_, fun w' a b c d => ?_⟩
        · by_cases e : w' = w ∧ n' = n
          · rw [e.1, e.2]
            rcases hno with h | h | h
            · exact h
            · omega
            · omega
          · exact q7 w' n' a b c (by omega)
        · by_cases e : w' = w ∧ mm2 120 9 = n
          · rw [e.1]
            refine ⟨?_, fun h => by omega⟩
            rcases hno with h | h | h
            · rw [e.1, e.2] at d; exact absurd d h
            · omega
            · rw [← h.1]; exact h.2
          · exact q8 w' a b (by omega) d
    have look : n ≤ m 177 (19 + w).toNat → (mm2 120 9 < n ∨ (n = mm2 120 9 ∧ mLx (mZ (m 177) w) (mZ (m 177) (mm2 120 8)) n)) → mOk (Census_findLimb_37 (Census_findLimb_8 k f) (Census_findLimb_15 (Census_findLimb_8 k f) k w f2) k w n 1 mm2) (fun m' => mLimb (m 177) k (m' 120 9) (m' 120 8) ∧ ∀ q i, q ≠ 120 → m' q i = m q i) := by
      intro hn hb
      unfold Census_findLimb_37
      rw [if_neg (by omega)]
      refine mOk_bind (sharing_ok ht2 hr2 w0 (by rw [e177]; exact c) (n := n) (by rw [e177]; exact hn)) (fun r kr => ?_)
      rw [e177] at kr
      by_cases z : r < k
      · rw [if_pos z]
        exact skip hn (Or.inl (fun h => by have := h.2; omega))
      · rw [if_neg z]
        refine mOk_st1 (mOk_st1 ?_)
        unfold Census_findLimb_52
        rw [w32e (by omega) (by omega)]
        have he : mEl (m 177) k w n := ⟨hn, by omega⟩
        refine ih2 _ _ ⟨by omega, by omega, ?_, fun q i hq => by rw [aup_of (by omega), aup_of (by omega)]; exact s2 q i hq⟩ (by omega)
        rw [aup_self, aup_of (by omega), aup_self]
        refine Or.inr ⟨n0, by omega, w0, c, he, by omega, fun w' n' a b c d => ?_, fun w' a b cc d => ?_⟩
        · rcases s1 with ⟨q1, q2, q3⟩ | ⟨q1, q2, q3, q4, q5, q6, q7, q8⟩
          · exact q3 w' n' a b (by omega) (by omega)
          · exact q7 w' n' a b (by omega) (by omega)
        · by_cases e : w' = w
          · rw [e]
            exact ⟨mLx_irr _ _, fun h => by omega⟩
          · rcases s1 with ⟨q1, q2, q3⟩ | ⟨q1, q2, q3, q4, q5, q6, q7, q8⟩
            · exact absurd d (q3 w' n a b (by omega) (by omega))
            · rcases hb with hb | ⟨hb1, hb2⟩
              · exact absurd d (q7 w' n a b (by omega) (by omega))
              · have := q8 w' a b (by omega) (by rw [← hb1]; exact d)
                rw [← hb1] at this
                exact ⟨fun h => this.1 (mLx_trans h hb2), fun h => mLx_cotrans hb2 this.1⟩
    rw [Census_findLimb_15, if_pos (by omega), hg]
    by_cases d : m 177 (19 + w).toNat < n
    · rw [if_pos d, w32e (by omega) (by omega)]
      refine ih _ _ ⟨by omega, by omega, ?_, s2⟩ (by omega)
      rcases s1 with ⟨q1, q2, q3⟩ | ⟨q1, q2, q3, q4, q5, q6, q7, q8⟩
      · refine Or.inl ⟨q1, q2, fun w' n' a b c d => ?_⟩
        by_cases e : w' < w ∨ (w' = w ∧ n' < n)
        · exact q3 w' n' a b c e
        · intro h
          have hw : w' = w := by omega
          have := h.1
          rw [hw] at this
          omega
      · refine Or.inr ⟨q1, q2, q3, q4, q5, by omega, fun w' n' a b c d => ?_, fun w' a b c d => ?_⟩
        · by_cases e : w' < w ∨ (w' = w ∧ n' < n)
          · exact q7 w' n' a b c e
          · intro h
            have hw : w' = w := by omega
            have := h.1
            rw [hw] at this
            omega
        · refine q8 w' a b ?_ d
          by_cases e : w' < w
          · exact Or.inl e
          · have hw : w' = w := by omega
            have := d.1
            rw [hw] at this
            exact Or.inr ⟨hw, by omega⟩
    · rw [if_neg d]
      by_cases c1 : mm2 120 9 < n
      · rw [if_pos c1]
        unfold Census_findLimb_34
        exact look (by omega) (Or.inl c1)
      · rw [if_neg c1]
        by_cases c2 : n = mm2 120 9
        · rw [if_pos c2]
          have hs : 0 ≤ mm2 120 8 ∧ mm2 120 8 < m 177 18 ∧ n ≤ m 177 (19 + mm2 120 8).toNat := by
            rcases s1 with ⟨q1, q2, q3⟩ | ⟨q1, q2, q3, q4, q5, q6, q7, q8⟩
            · omega
            · exact ⟨q3, q4, by have := q5.1; omega⟩
          refine mOk_bind (ahead_ok ht2 hr2 w0 (by rw [e177]; exact c) hs.1 (by rw [e177]; exact hs.2.1) c2.symm (by rw [e177]; omega) (by rw [e177]; exact hs.2.2)) (fun r kr => ?_)
          rw [e177] at kr
          by_cases z : r = 0
          · rw [if_pos z]
            unfold Census_findLimb_36 Census_findLimb_37
            rw [if_pos rfl]
            exact skip (by omega) (Or.inr (Or.inr ⟨c2, fun h => (kr.2.mpr h) z⟩))
          · rw [if_neg z]
            unfold Census_findLimb_34
            exact look (by omega) (Or.inr ⟨c2, kr.2.mp z⟩)
        · rw [if_neg c2]
          unfold Census_findLimb_36 Census_findLimb_37
          rw [if_pos rfl]
          exact skip (by omega) (Or.inr (Or.inl (by omega)))
  · rw [if_neg c]
    refine mOk_some ⟨?_, g2⟩
    have ew : w = m 177 18 := by omega
    subst ew
    rcases g1 with ⟨q1, q2, q3⟩ | ⟨q1, q2, q3, q4, q5, q6, q7, q8⟩
    · rw [q1, q2]
      exact ⟨by omega, by omega, by omega, by omega, mEl_0 ht hk (by omega) (by omega), fun w n a b c => q3 w n a b (by omega) (by omega), fun w a b _ => ⟨fun ⟨j, j0, j1, _⟩ => by omega, fun h => by omega⟩⟩
    · exact ⟨by omega, q2, q3, q4, q5, fun w n a b c => q7 w n a b c (by omega), fun w a b d => q8 w a b (by omega) d⟩
/-- limb's answer -/
noncomputable def mLa (A : Nat → Int) (x L b : Int) : Int := @ite Int (x = 0) (Int.instDecidableEq x 0) L (@ite Int (x = 1) (Int.instDecidableEq x 1) (mCnt A b L) (@ite Int (x - 10 < L) (Int.decLt (x - 10) L) (A (58 + 6 * b + (x - 10)).toNat) (-1)))
theorem R_limb_ok {k x : Int} {m : aM} (ht : mTok (m 177)) (hk : k ≤ m 177 18) (hk1 : 1 ≤ k) (hx : x = 0 ∨ x = 1 ∨ (10 ≤ x ∧ x < 16)) : mOk (R_limb_37 k x FU 6 (-1) m) (fun r => (∃ L b, mLimb (m 177) k L b ∧ r.1 = mLa (m 177) x L b) ∧ r.2 = m) := by
  have c4 := ht.2.2.2.2.1
  have c5 := ht.2.2.2.2.2.1
  refine mL2 (fun f n b => R_limb_37 k x f n b m) (fun n b => 0 ≤ n ∧ n ≤ 6 ∧ (∀ w n' : Int, 0 ≤ w → w < m 177 18 → n < n' → ¬ mEl (m 177) k w n') ∧ (b = -1 ∨ mLimb (m 177) k n b)) (fun n b => (2 * n + 2 - (if b = -1 then 0 else 1)).toNat) ?_ 6 (-1) ⟨by omega, by omega, fun w n' a b c h => by have := h.1; have := (c5 w a b).1; omega, Or.inl rfl⟩ (by simp)
  rintro f n b ⟨n0, n1, n2, n3⟩ ih
  show mOk (R_limb_37 k x (f + 1) n b m) _
  rw [R_limb_37]
  by_cases cb : b = -1
  · subst cb
    rw [if_pos rfl]
    refine mL2 (fun f2 b w => R_limb_42 (R_limb_37 k x f) k x n f2 b w m) (fun b w => 0 ≤ w ∧ w ≤ m 177 18 ∧ ((b = -1 ∧ ∀ w' : Int, 0 ≤ w' → w' < w → ¬ mEl (m 177) k w' n) ∨ (0 ≤ b ∧ b < w ∧ mEl (m 177) k b n ∧ ∀ w' : Int, 0 ≤ w' → w' < w → mEl (m 177) k w' n → ¬ mLx (mZ (m 177) w') (mZ (m 177) b) n ∧ (w' < b → mLx (mZ (m 177) b) (mZ (m 177) w') n)))) (fun _ w => (12 - w).toNat) ?_ (-1) 0 ⟨by omega, by omega, Or.inl ⟨rfl, fun w' a b => by omega⟩⟩ (by omega)
    rintro f2 b w ⟨w0, w1, w2⟩ ih2
    show mOk (R_limb_42 (R_limb_37 k x f) k x n (f2 + 1) b w m) _
    have keep : w < m 177 18 → (¬ mEl (m 177) k w n ∨ (b ≠ -1 ∧ ¬ mLx (mZ (m 177) w) (mZ (m 177) b) n)) → mOk (R_limb_73 (R_limb_37 k x f) (R_limb_42 (R_limb_37 k x f) k x n f2) k x n b w m) (fun r => (∃ L b, mLimb (m 177) k L b ∧ r.1 = mLa (m 177) x L b) ∧ r.2 = m) := by
      intro c hno
      unfold R_limb_73
      rw [w32e (by omega) (by omega)]
      refine ih2 _ _ ⟨by omega, by omega, ?_⟩ (by omega)
      rcases w2 with ⟨q1, q2⟩ | ⟨q1, q2, q3, q4⟩
      · refine Or.inl ⟨q1, fun w' a b => ?_⟩
        by_cases e : w' = w
        · rw [e]
          rcases hno with h | h
          · exact h
          · exact absurd q1 h.1
        · exact q2 w' a (by omega)
      · refine Or.inr ⟨q1, by omega, q3, fun w' a b d => ?_⟩
        by_cases e : w' = w
        · rw [e]
          refine ⟨?_, fun h => by omega⟩
          rcases hno with h | h
          · rw [e] at d; exact absurd d h
          · exact h.2
        · exact q4 w' a (by omega) d
    have take : w < m 177 18 → mEl (m 177) k w n → (b = -1 ∨ mLx (mZ (m 177) w) (mZ (m 177) b) n) → mOk (R_limb_71 (R_limb_37 k x f) (R_limb_42 (R_limb_37 k x f) k x n f2) k x n w m) (fun r => (∃ L b, mLimb (m 177) k L b ∧ r.1 = mLa (m 177) x L b) ∧ r.2 = m) := by
      intro c he hb
      unfold R_limb_71 R_limb_73
      rw [w32e (by omega) (by omega)]
      refine ih2 _ _ ⟨by omega, by omega, Or.inr ⟨w0, by omega, he, fun w' a b' d => ?_⟩⟩ (by omega)
      by_cases e : w' = w
      · rw [e]
        exact ⟨mLx_irr _ _, fun h => by omega⟩
      · rcases w2 with ⟨q1, q2⟩ | ⟨q1, q2, q3, q4⟩
        · exact absurd d (q2 w' a (by omega))
        · rcases hb with hb | hb
          · omega
          · have := q4 w' a (by omega) d
            exact ⟨fun h => this.1 (mLx_trans h hb), fun h => mLx_cotrans hb this.1⟩
    rw [R_limb_42]
    by_cases c : w < m 177 18
    · rw [if_pos c, w32e (x := 19 + w) (by omega) (by omega), if_pos (by omega)]
      by_cases d : m 177 (19 + w).toNat < n
      · rw [if_pos d]
        exact keep c (Or.inl (fun h => by have := h.1; omega))
      · rw [if_neg d]
        refine mOk_bind (haveAlike_ok ht w0 c (n := n)) (fun r kr => ?_)
        by_cases z : r < k
        · rw [if_pos z]
          exact keep c (Or.inl (fun h => by have := h.2; omega))
        · rw [if_neg z]
          have he : mEl (m 177) k w n := ⟨by omega, by omega⟩
          by_cases zb : b = -1
          · rw [if_pos zb]
            exact take c he (Or.inl zb)
          · rw [if_neg zb]
            have hs : 0 ≤ b ∧ b < m 177 18 := by
              rcases w2 with ⟨q1, q2⟩ | ⟨q1, q2, q3, q4⟩ <;> omega
            refine mOk_bind (isAhead_ok ht w0 c hs.1 hs.2 n1) (fun r2 kr2 => ?_)
            by_cases z2 : r2 = 0
            · rw [if_pos z2]
              exact keep c (Or.inr ⟨zb, fun h => (kr2.2.mpr h) z2⟩)
            · rw [if_neg z2]
              exact take c he (Or.inr (kr2.2.mp z2))
    · rw [if_neg c]
      have ew : w = m 177 18 := by omega
      subst ew
      rcases w2 with ⟨q1, q2⟩ | ⟨q1, q2, q3, q4⟩
      · rw [if_pos q1, w32e (by omega) (by omega)]
        have hn0 : n ≠ 0 := by
          intro e0
          exact q2 0 (by omega) (by omega) (by rw [e0]; exact mEl_0 ht hk (by omega) (by omega))
        refine ih _ _ ⟨by omega, by omega, fun w n' a b c => ?_, Or.inl q1⟩ (by rw [q1]; simp; omega)
        by_cases e : n' = n
        · rw [e]; exact q2 w a b
        · exact n2 w n' a b (by omega)
      · rw [if_neg (by omega)]
        exact ih _ _ ⟨n0, n1, n2, Or.inr ⟨n0, n1, q1, q2, q3, n2, q4⟩⟩ (by rw [if_neg (by omega)]; simp; omega)
  · rw [if_neg cb]
    rcases n3 with n3 | n3
    · exact absurd n3 cb
    have hb := n3.2.2.1
    have hb2 := n3.2.2.2.1
    have hl := n3.2.2.2.2.1.1
    by_cases x0 : x = 0
    · rw [if_pos x0]
      exact mOk_some ⟨⟨n, b, n3, by unfold mLa; rw [if_pos x0]⟩, rfl⟩
    rw [if_neg x0]
    by_cases x1 : x = 1
    · rw [if_pos x1]
      refine mOk_bind (haveAlike_ok ht hb hb2 (n := n)) (fun r kr => ?_)
      exact mOk_some ⟨⟨n, b, n3, by unfold mLa; rw [if_neg x0, if_pos x1]; exact kr⟩, rfl⟩
    rw [if_neg x1, w32e (x := x - 10) (by omega) (by omega)]
    by_cases x2 : x - 10 < n
    · simp (disch := omega) only [if_pos, w32e]
      exact mOk_some ⟨⟨n, b, n3, by unfold mLa; rw [if_neg x0, if_neg x1, if_pos x2]; show m 177 _ = _; rw [show 58 + 6 * b + x - 10 = 58 + 6 * b + (x - 10) by omega]⟩, rfl⟩
    · rw [if_neg x2]
      exact mOk_some ⟨⟨n, b, n3, by unfold mLa; rw [if_neg x0, if_neg x1, if_neg x2]⟩, rfl⟩
theorem B_limb_ok {k x : Int} {m : aM} (ht : mTok (m 177)) (hr : mTR 25 47 (m 177) m) (hk : k ≤ m 177 18) (hk1 : 1 ≤ k) (hx : x = 0 ∨ x = 1 ∨ (10 ≤ x ∧ x < 16)) : mOk (B_limb_27 k x m) (fun r => (∃ L b, mLimb (m 177) k L b ∧ r.1 = mLa (m 177) x L b) ∧ ∀ q i, q ≠ 120 → r.2 q i = m q i) := by
  have c4 := ht.2.2.2.2.1
  unfold B_limb_27
  rw [hr.1.2.2.1, if_neg (by omega)]
  refine mOk_bind (findLimb_ok ht hr hk hk1) (fun m1 hm => ?_)
  obtain ⟨h1, h2⟩ := hm
  have hb := h1.2.2.1
  have hb2 := h1.2.2.2.1
  have hl := h1.2.2.2.2.1.1
  have hn1 := h1.2.1
  have e177 : m1 177 = m 177 := funext fun i => h2 _ _ (by omega)
  have ht2 : mTok (m1 177) := by rw [e177]; exact ht
  have hr2 : mTR 25 47 (m1 177) m1 := by rw [e177]; exact mTR_same (fun q j hq => h2 q j (by omega)) hr (by omega)
  by_cases x0 : x = 0
  · rw [if_pos x0]
    exact mOk_some ⟨⟨_, _, h1, by unfold mLa; rw [if_pos x0]⟩, h2⟩
  rw [if_neg x0]
  by_cases x1 : x = 1
  · rw [if_pos x1]
    refine mOk_bind (sharing_ok ht2 hr2 hb (by rw [e177]; exact hb2) (n := m1 120 9) (by rw [e177]; exact hl)) (fun r kr => ?_)
    rw [e177] at kr
    exact mOk_some ⟨⟨_, _, h1, by unfold mLa; rw [if_neg x0, if_pos x1]; exact kr⟩, h2⟩
  rw [if_neg x1, w32e (x := x - 10) (by omega) (by omega)]
  by_cases x2 : x - 10 < m1 120 9
  · rw [if_pos x2, if_pos (by omega), if_pos (by omega)]
    refine mOk_some ⟨⟨_, _, h1, ?_⟩, h2⟩
    unfold mLa
    rw [if_neg x0, if_neg x1, if_pos x2]
    exact (h2 _ _ (by omega)).trans ((hr.2.2.2.1 _ hb hb2).2.2.2 _ (by omega) (by omega))
  · rw [if_neg x2]
    exact mOk_some ⟨⟨_, _, h1, by unfold mLa; rw [if_neg x0, if_neg x1, if_neg x2]⟩, h2⟩
theorem st_limb {n : Nat} {m : aM} (h : mInv n m) (x1 x2 : Int) : ∃ r m1 m2, B_limb x1 x2 m = some (r, m1) ∧ R_limb x1 x2 m1 = some (r, m2) ∧ mInv (n + 1) m2 := by
  have hi := mInv_0 h
  have c4 := h.2.2.1.2.2.2.2.1
  by_cases c1 : 1 ≤ x1 ∧ x1 ≤ 12
  · by_cases c2 : x2 = 0 ∨ x2 = 1 ∨ (10 ≤ x2 ∧ x2 < 16)
    · have eB : B_limb x1 x2 m = B_limb_27 x1 x2 m := by
        unfold B_limb
        rw [if_neg (by omega), if_neg (by omega)]
        unfold B_limb_16 B_limb_17
        rcases c2 with c2 | c2 | c2
        · simp (disch := omega) only [reduceIte, if_pos, if_neg]
        · simp (disch := omega) only [reduceIte, if_pos, if_neg]
        · simp (disch := omega) only [reduceIte, if_pos, if_neg]
      have eR : ∀ mm, R_limb x1 x2 mm = R_limb_25 x1 x2 (aup mm 176 0 0) := by
        intro mm
        unfold R_limb
        rcases c2 with c2 | c2 | c2
        · simp (disch := omega) only [st1e, within_eq, Option.bind_some, reduceIte, if_pos, if_neg]
        · simp (disch := omega) only [st1e, within_eq, Option.bind_some, reduceIte, if_pos, if_neg]
        · simp (disch := omega) only [st1e, within_eq, Option.bind_some, reduceIte, if_pos, if_neg]
      by_cases c3 : m 177 18 < x1
      · refine ⟨-1, m, aup m 176 0 0, ?_, ?_, hi⟩
        · rw [eB]; unfold B_limb_27; rw [h.2.2.2.1.1.2.2.1, if_pos c3]
        · rw [eR]; unfold R_limb_25; rw [aup_of (by omega), if_pos c3]
      · obtain ⟨⟨r, m1⟩, k1, ⟨L, b, hL, hr1⟩, hf⟩ := B_limb_ok (x := x2) h.2.2.1 h.2.2.2.1 (k := x1) (by omega) c1.1 c2
        dsimp only at hr1 hf
        have hs : mSame m (aup m1 176 0 0) := by
          intro q i hd
          unfold mDep at hd
          rw [aup_of (by omega), hf _ _ (by omega)]
        have hi2 := mInv_same (Nat.le_succ n) hs h
        have e177 : aup m1 176 0 0 177 = m 177 := funext fun i => by rw [aup_of (by omega), hf _ _ (by omega)]
        obtain ⟨⟨r', m2⟩, k2, ⟨L', b', hL', hr2⟩, e2⟩ := R_limb_ok (m := aup m1 176 0 0) (x := x2) (k := x1) hi2.2.2.1 (by rw [e177]; omega) c1.1 c2
        dsimp only at hr2 e2
        rw [e177] at hL' hr2
        obtain ⟨u1, u2⟩ := mLimb_uni hL hL'
        refine ⟨r, m1, aup m1 176 0 0, by rw [eB]; exact k1, ?_, hi2⟩
        rw [eR]
        unfold R_limb_25
        rw [show aup m1 176 0 0 177 18 = m 177 18 by rw [e177], if_neg c3, k2, hr1, hr2, u1, u2, e2]
    · refine ⟨-2, m, aup m 176 0 0, ?_, ?_, hi⟩
      · unfold B_limb B_limb_16 B_limb_17
        by_cases d : x2 < 10
        · simp (disch := omega) only [reduceIte, if_pos, if_neg]
        · simp (disch := omega) only [reduceIte, if_pos, if_neg]
      · unfold R_limb
        simp (disch := omega) only [st1e, within_eq, Option.bind_some, reduceIte, if_pos, if_neg]
  · refine ⟨-3, m, aup m 176 0 0, ?_, ?_, hi⟩
    · unfold B_limb
      by_cases d : x1 < 1
      · rw [if_pos d]
      · rw [if_neg d, if_pos (by omega)]
    · unfold R_limb
      simp (disch := omega) only [st1e, within_eq, Option.bind_some, reduceIte, if_pos, if_neg]
