theorem mEd_congr {c c' : Nat → Nat → Int} {n k : Nat} (h : ∀ i j, i < n → j < k → c i j = c' i j) : ∀ i j, i ≤ n → j ≤ k → mEd c i j = mEd c' i j := by
  intro i
  induction i with
  | zero => intro j _ _; unfold mEd; rfl
  | succ i ih =>
    intro j
    induction j with
    | zero => intro _ _; unfold mEd; rfl
    | succ j jh =>
      intro hi hj
      rw [mEd, mEd, ih j (by omega) (by omega), ih (j + 1) (by omega) (by omega), jh hi (by omega), h i j (by omega) (by omega)]
/-- how unlike two words are -/
def mUn (A : Nat → Int) (w v : Int) : Int := mEd (fun i j => mSub A (A (58 + 6 * w + (i : Int)).toNat) (A (58 + 6 * v + (j : Int)).toNat)) (A (19 + w).toNat).toNat (A (19 + v).toNat).toNat
theorem mUn_bd {A : Nat → Int} {w v : Int} (lw1 : A (19 + w).toNat ≤ 6) (lv1 : A (19 + v).toNat ≤ 6) : 0 ≤ mUn A w v ∧ mUn A w v ≤ 24 := by
  have := mEd_bd (n := (A (19 + w).toNat).toNat) (k := (A (19 + v).toNat).toNat) (c := fun i j => mSub A (A (58 + 6 * w + (i : Int)).toNat) (A (58 + 6 * v + (j : Int)).toNat)) (fun i j _ _ => mSub_bd _ _ _) _ _ (Nat.le_refl _) (Nat.le_refl _)
  unfold mUn
  omega
theorem isWord_eq {x : Int} {m : aM} (h0 : 0 ≤ m 177 18) (h1 : m 177 18 ≤ 12) : R_isWord x m = some (if 0 ≤ x ∧ x < m 177 18 then 1 else 0) := by
  unfold R_isWord
  rw [within_eq, w32e (by omega) (by omega)]
  by_cases c : 0 ≤ x ∧ x < m 177 18
  · simp (disch := omega) only [Option.bind_some, reduceIte, if_pos, or_true]
  · simp (disch := omega) only [Option.bind_some, reduceIte, if_neg, true_or]
theorem hasWord_eq {x : Int} {t : Nat} {m : aM} : Tongue_hasWord t x m = some (if 0 ≤ x ∧ x < m t 2 then 1 else 0) := by
  unfold Tongue_hasWord
  by_cases c : 0 ≤ x ∧ x < m t 2
  · simp (disch := omega) only [reduceIte, if_pos, if_neg]
  · by_cases d : x < 0
    · simp (disch := omega) only [reduceIte, if_pos, if_neg]
    · simp (disch := omega) only [reduceIte, if_pos, if_neg]
theorem toWord_un {w v : Int} {m : aM} {A : Nat → Int} (ht : mTok A) (hr : mTR 25 47 A m) (w0 : 0 ≤ w) (w1 : w < A 18) (v0 : 0 ≤ v) (v1 : v < A 18) : mOk (Measure_toWord (25 + 4 + w.toNat) (A (19 + w).toNat) v m) (fun r => r.1 = mUn A w v ∧ ∀ q i, q ≠ 77 → q ≠ 78 → r.2 q i = m q i) := by
  have c0 := ht.1
  have c4 := ht.2.2.2.2.1
  have d := ht.2.2.2.2.2.1 w w0 w1
  have e := hr.2.2.2.1 w w0 w1
  have g := hr.2.2.2.1 v v0 v1
  refine mOk_mono (toWord_ok ht (by omega) (by omega) (by omega) (by rw [aln_sp w0 (by omega)]; omega) (by omega) v0 v1 hr.2.2.1 g.1 g.2.2.2 (fun k k0 k1 => ?_)) (fun r k => ⟨k.1.trans ?_, k.2⟩)
  · rw [e.2.2.2 k k0 k1]
    have := d.2.2.2 k k0 k1
    omega
  · unfold mUn
    refine mEd_congr (fun i j hi hj => ?_) _ _ (Nat.le_refl _) (Nat.le_refl _)
    have := e.2.2.2 (i : Int) (by omega) (by omega)
    rw [Int.toNat_natCast] at this
    rw [this]
theorem unlike_un {w v : Int} {m : aM} (ht : mTok (m 177)) (w0 : 0 ≤ w) (w1 : w < m 177 18) (v0 : 0 ≤ v) (v1 : v < m 177 18) : mOk (R_unlikeOf w v m) (fun r => r.1 = mUn (m 177) w v ∧ ∀ q i, q ≠ 181 → r.2 q i = m q i) := by
  have c0 := ht.1
  have c4 := ht.2.2.2.2.1
  have d := ht.2.2.2.2.2.1 w w0 w1
  have e := ht.2.2.2.2.2.1 v v0 v1
  exact unlikeOf_ok w0 (by omega) v0 (by omega) (by omega) (by omega) (by omega) (by omega) (fun k k0 k1 => by have := d.2.2.2 k k0 k1; omega)
theorem st_unlike {n : Nat} {m : aM} (h : mInv n m) (x1 x2 : Int) : ∃ r m1 m2, B_unlike x1 x2 m = some (r, m1) ∧ R_unlike x1 x2 m1 = some (r, m2) ∧ mInv (n + 1) m2 := by
  have hi := mInv_0 h
  have c4 := h.2.2.1.2.2.2.2.1
  have a2 := h.2.2.2.1.1.2.2.1
  have e18 : ∀ mm : aM, (∀ i, mm 177 i = m 177 i) → ∀ x, R_isWord x mm = some (if 0 ≤ x ∧ x < m 177 18 then 1 else 0) := fun mm hm x => by rw [isWord_eq (by rw [hm]; omega) (by rw [hm]; omega), hm]
  by_cases c1 : 0 ≤ x1 ∧ x1 < m 177 18
  · by_cases c2 : 0 ≤ x2 ∧ x2 < m 177 18
    · obtain ⟨⟨r, m1⟩, k1, p1, p2⟩ := toWord_un h.2.2.1 h.2.2.2.1 c1.1 c1.2 c2.1 c2.2
      dsimp only at p1 p2
      have hs : mSame m (aup m1 176 0 0) := by
        intro q i hd
        unfold mDep at hd
        rw [aup_of (by omega), p2 _ _ (by omega) (by omega)]
      have hi2 := mInv_same (Nat.le_succ n) hs h
      have f177 : ∀ i, aup m1 176 0 0 177 i = m 177 i := fun i => hs 177 i (by unfold mDep; omega)
      obtain ⟨⟨r', m2⟩, k2, q1, q2⟩ := unlike_un (m := aup m1 176 0 0) hi2.2.2.1 c1.1 (by rw [f177]; exact c1.2) c2.1 (by rw [f177]; exact c2.2)
      dsimp only at q1 q2
      rw [funext f177] at q1
      refine ⟨r, m1, m2, ?_, ?_, ?_⟩
      · unfold B_unlike
        rw [hasWord_eq, hasWord_eq, a2]
        simp (disch := omega) only [Option.bind_some, reduceIte, if_pos, if_neg]
        rw [show m 41 x1.toNat = _ from (h.2.2.2.1.2.2.2.1 x1 c1.1 c1.2).1, k1]
        rfl
      · unfold R_unlike
        rw [st1e, e18 _ f177, e18 _ f177]
        simp (disch := omega) only [Option.bind_some, reduceIte, if_pos, if_neg, k2]
        rw [p1, q1]
      · refine mInv_same (Nat.le_refl _) (fun q i hd => ?_) hi2
        unfold mDep at hd
        exact q2 _ _ (by omega)
    · refine ⟨-2, m, aup m 176 0 0, ?_, ?_, hi⟩
      · unfold B_unlike
        rw [hasWord_eq, hasWord_eq, a2]
        simp (disch := omega) only [Option.bind_some, reduceIte, if_pos, if_neg]
      · unfold R_unlike
        rw [st1e, e18 _ (fun i => aup_of (by omega)), e18 _ (fun i => aup_of (by omega))]
        simp (disch := omega) only [Option.bind_some, reduceIte, if_pos, if_neg]
  · refine ⟨-2, m, aup m 176 0 0, ?_, ?_, hi⟩
    · unfold B_unlike
      rw [hasWord_eq, a2]
      simp (disch := omega) only [Option.bind_some, reduceIte, if_pos, if_neg]
    · unfold R_unlike
      rw [st1e, e18 _ (fun i => aup_of (by omega))]
      simp (disch := omega) only [Option.bind_some, reduceIte, if_pos, if_neg]
/-- the nearest of the words ahead of v -/
def mNe (D : Int → Int) (w v b l : Int) : Prop := (b = -1 ∧ ∀ u : Int, 0 ≤ u → u < v → u = w) ∨ (0 ≤ b ∧ b < v ∧ b ≠ w ∧ l = D b ∧ ∀ u : Int, 0 ≤ u → u < v → u ≠ w → D b ≤ D u ∧ (u < b → D b < D u))
theorem mNe_uni {D : Int → Int} {w v b l b' l' : Int} (h : mNe D w v b l) (h' : mNe D w v b' l') : b = b' := by
  rcases h with ⟨h1, h2⟩ | ⟨h1, h2, h3, h4, h5⟩ <;> rcases h' with ⟨g1, g2⟩ | ⟨g1, g2, g3, g4, g5⟩
  · omega
  · exact absurd (h2 b' g1 g2) g3
  · exact absurd (g2 b h1 h2) h3
  · have a := h5 b' g1 g2 g3
    have c := g5 b h1 h2 h3
    rcases Int.lt_trichotomy b b' with d | d | d
    · have := c.2 d; omega
    · exact d
    · have := a.2 d; omega
theorem mNe_skip {D : Int → Int} {w v b l : Int} (h : mNe D w v b l) (hs : v = w ∨ (b ≠ -1 ∧ l ≤ D v)) : mNe D w (v + 1) b l := by
  rcases h with ⟨h1, h2⟩ | ⟨h1, h2, h3, h4, h5⟩
  · refine Or.inl ⟨h1, fun u u0 u1 => ?_⟩
    by_cases e : u = v
    · rcases hs with hs | hs
      · omega
      · exact absurd h1 hs.1
    · exact h2 u u0 (by omega)
  · refine Or.inr ⟨h1, by omega, h3, h4, fun u u0 u1 u2 => ?_⟩
    by_cases e : u = v
    · subst e
      rcases hs with hs | hs
      · exact absurd hs u2
      · exact ⟨by omega, fun h => by omega⟩
    · exact h5 u u0 (by omega) u2
theorem mNe_take {D : Int → Int} {w v b l : Int} (v0 : 0 ≤ v) (h : mNe D w v b l) (hw : v ≠ w) (hs : b = -1 ∨ D v < l) : mNe D w (v + 1) v (D v) := by
  refine Or.inr ⟨v0, by omega, hw, rfl, fun u u0 u1 u2 => ?_⟩
  by_cases e : u = v
  · subst e
    exact ⟨Int.le_refl _, fun h => by omega⟩
  · rcases h with ⟨h1, h2⟩ | ⟨h1, h2, h3, h4, h5⟩
    · exact absurd (h2 u u0 (by omega)) u2
    · have := h5 u u0 (by omega) u2
      exact ⟨by omega, fun _ => by omega⟩
theorem B_near_ok {w : Int} {m : aM} (ht : mTok (m 177)) (hr : mTR 25 47 (m 177) m) (w0 : 0 ≤ w) (w1 : w < m 177 18) : mOk (B_near_14 w FU (-1) 0 0 m) (fun r => (∃ l, mNe (mUn (m 177) w) w (m 177 18) r.1 l) ∧ ∀ q i, q ≠ 77 → q ≠ 78 → r.2 q i = m q i) := by
  have c4 := ht.2.2.2.2.1
  refine mL4 (B_near_14 w) (fun b l v mm => 0 ≤ v ∧ v ≤ m 177 18 ∧ mNe (mUn (m 177) w) w v b l ∧ ∀ q i, q ≠ 77 → q ≠ 78 → mm q i = m q i) (fun _ _ v _ => (13 - v).toNat) ?_ (-1) 0 0 m ⟨by omega, by omega, Or.inl ⟨rfl, fun u a b => by omega⟩, fun _ _ _ _ => rfl⟩ (by omega)
  rintro fu b l v mm ⟨v0, v1, s1, fr⟩ ih
  have hr2 : mTR 25 47 (m 177) mm := mTR_same (fun q j hq => fr q j (by omega) (by omega)) hr c4.2
  rw [B_near_14, hr2.1.2.2.1]
  by_cases c : v < m 177 18
  · rw [if_pos c, if_pos (by omega), show mm 41 w.toNat = _ from (hr2.2.2.2.1 w w0 w1).1]
    refine mOk_bind (toWord_un ht hr2 w0 w1 v0 c) (fun r k => ?_)
    have fr2 : ∀ q i, q ≠ 77 → q ≠ 78 → r.2 q i = m q i := fun q i a b => by rw [k.2 q i a b]; exact fr q i a b
    rw [k.1]
    unfold B_near_45 B_near_49
    rw [w32e (by omega) (by omega)]
    by_cases e : v = w
    · rw [if_pos e]
      exact ih _ _ _ _ ⟨by omega, by omega, mNe_skip s1 (Or.inl e), fr2⟩ (by omega)
    · rw [if_neg e]
      by_cases eb : b = -1
      · rw [if_pos eb]
        exact ih _ _ _ _ ⟨by omega, by omega, mNe_take v0 s1 e (Or.inl eb), fr2⟩ (by omega)
      · rw [if_neg eb]
        by_cases el : mUn (m 177) w v < l
        · rw [if_pos el]
          exact ih _ _ _ _ ⟨by omega, by omega, mNe_take v0 s1 e (Or.inr el), fr2⟩ (by omega)
        · rw [if_neg el]
          exact ih _ _ _ _ ⟨by omega, by omega, mNe_skip s1 (Or.inr ⟨eb, by omega⟩), fr2⟩ (by omega)
  · rw [if_neg c]
    exact mOk_some ⟨⟨l, by rw [show m 177 18 = v by omega]; exact s1⟩, fr⟩
theorem R_near_ok {w : Int} {m : aM} (ht : mTok (m 177)) (w0 : 0 ≤ w) (w1 : w < m 177 18) : mOk (R_near_15 w FU (-1) 0 0 m) (fun r => (∃ l, mNe (mUn (m 177) w) w (m 177 18) r.1 l) ∧ ∀ q i, q ≠ 181 → r.2 q i = m q i) := by
  have c4 := ht.2.2.2.2.1
  refine mL4 (R_near_15 w) (fun b l v mm => 0 ≤ v ∧ v ≤ m 177 18 ∧ mNe (mUn (m 177) w) w v b l ∧ ∀ q i, q ≠ 181 → mm q i = m q i) (fun _ _ v _ => (13 - v).toNat) ?_ (-1) 0 0 m ⟨by omega, by omega, Or.inl ⟨rfl, fun u a b => by omega⟩, fun _ _ _ => rfl⟩ (by omega)
  rintro fu b l v mm ⟨v0, v1, s1, fr⟩ ih
  have e177 : mm 177 = m 177 := funext fun i => fr _ _ (by omega)
  rw [R_near_15, e177]
  by_cases c : v < m 177 18
  · rw [if_pos c]
    unfold R_near_37 R_near_41
    rw [w32e (by omega) (by omega)]
    by_cases e : v = w
    · rw [if_pos e]
      exact ih _ _ _ _ ⟨by omega, by omega, mNe_skip s1 (Or.inl e), fr⟩ (by omega)
    · rw [if_neg e]
      refine mOk_bind (unlike_un (m := mm) (by rw [e177]; exact ht) w0 (by rw [e177]; exact w1) v0 (by rw [e177]; exact c)) (fun r k => ?_)
      have fr2 : ∀ q i, q ≠ 181 → r.2 q i = m q i := fun q i a => by rw [k.2 q i a]; exact fr q i a
      rw [k.1, e177]
      by_cases eb : b = -1
      · rw [if_pos eb]
        exact ih _ _ _ _ ⟨by omega, by omega, mNe_take v0 s1 e (Or.inl eb), fr2⟩ (by omega)
      · rw [if_neg eb]
        by_cases el : mUn (m 177) w v < l
        · rw [if_pos el]
          exact ih _ _ _ _ ⟨by omega, by omega, mNe_take v0 s1 e (Or.inr el), fr2⟩ (by omega)
        · rw [if_neg el]
          exact ih _ _ _ _ ⟨by omega, by omega, mNe_skip s1 (Or.inr ⟨eb, by omega⟩), fr2⟩ (by omega)
  · rw [if_neg c]
    exact mOk_some ⟨⟨l, by rw [show m 177 18 = v by omega]; exact s1⟩, fr⟩
theorem st_near {n : Nat} {m : aM} (h : mInv n m) (x1 : Int) : ∃ r m1 m2, B_near x1 m = some (r, m1) ∧ R_near x1 m1 = some (r, m2) ∧ mInv (n + 1) m2 := by
  have hi := mInv_0 h
  have c4 := h.2.2.1.2.2.2.2.1
  have a2 := h.2.2.2.1.1.2.2.1
  have e18 : ∀ mm : aM, (∀ i, mm 177 i = m 177 i) → ∀ x, R_isWord x mm = some (if 0 ≤ x ∧ x < m 177 18 then 1 else 0) := fun mm hm x => by rw [isWord_eq (by rw [hm]; omega) (by rw [hm]; omega), hm]
  by_cases c1 : 0 ≤ x1 ∧ x1 < m 177 18
  · obtain ⟨⟨r, m1⟩, k1, ⟨l, p1⟩, p2⟩ := B_near_ok h.2.2.1 h.2.2.2.1 c1.1 c1.2
    dsimp only at p1 p2
    have hs : mSame m (aup m1 176 0 0) := by
      intro q i hd
      unfold mDep at hd
      rw [aup_of (by omega), p2 _ _ (by omega) (by omega)]
    have hi2 := mInv_same (Nat.le_succ n) hs h
    have f177 : ∀ i, aup m1 176 0 0 177 i = m 177 i := fun i => hs 177 i (by unfold mDep; omega)
    obtain ⟨⟨r', m2⟩, k2, ⟨l', q1⟩, q2⟩ := R_near_ok (m := aup m1 176 0 0) hi2.2.2.1 c1.1 (by rw [f177]; exact c1.2)
    dsimp only at q1 q2
    rw [funext f177] at q1
    refine ⟨r, m1, m2, ?_, ?_, ?_⟩
    · unfold B_near
      rw [hasWord_eq, a2]
      simp (disch := omega) only [Option.bind_some, reduceIte, if_pos, if_neg]
      exact k1
    · unfold R_near
      rw [st1e, e18 _ f177]
      simp (disch := omega) only [Option.bind_some, reduceIte, if_pos, if_neg]
      rw [k2, mNe_uni p1 q1]
    · refine mInv_same (Nat.le_refl _) (fun q i hd => ?_) hi2
      unfold mDep at hd
      exact q2 _ _ (by omega)
  · refine ⟨-2, m, aup m 176 0 0, ?_, ?_, hi⟩
    · unfold B_near
      rw [hasWord_eq, a2]
      simp (disch := omega) only [Option.bind_some, reduceIte, if_pos, if_neg]
    · unfold R_near
      rw [st1e, e18 _ (fun i => aup_of (by omega))]
      simp (disch := omega) only [Option.bind_some, reduceIte, if_pos, if_neg]
