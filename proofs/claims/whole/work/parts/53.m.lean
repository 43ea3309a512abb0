/-! say -/
def mSaid (A : Nat → Int) (N : Int → Int) (f : Int) (S : Int → Int) : Prop := ∀ k : Int, 0 ≤ k → k < f → ∀ i : Int, 0 ≤ i → i < A (19 + N k).toNat → S (mLs1 A N k + i) = A (58 + 6 * N k + i).toNat
theorem mLs1_s (A : Nat → Int) (N : Int → Int) {k : Int} (k0 : 0 ≤ k) : mLs1 A N (k + 1) = mLs1 A N k + A (19 + N k).toNat := by
  unfold mLs1
  rw [mSum_s k0]
theorem said_at {A : Nat → Int} {N : Int → Int} {p : Int} (p0 : 0 ≤ p) : ∀ f : Nat, p < mLs1 A N f → ∃ k i : Int, 0 ≤ k ∧ k < f ∧ 0 ≤ i ∧ i < A (19 + N k).toNat ∧ p = mLs1 A N k + i := by
  intro f
  induction f with
  | zero => intro h; exact absurd h (by show ¬ p < 0; omega)
  | succ f ih =>
    intro h
    by_cases c : p < mLs1 A N f
    · obtain ⟨k, i, h1, h2, h3⟩ := ih c
      exact ⟨k, i, h1, by omega, h3⟩
    · rw [show ((f + 1 : Nat) : Int) = (f : Int) + 1 by omega, mLs1_s A N (by omega)] at h
      exact ⟨f, p - mLs1 A N f, by omega, by omega, by omega, by omega, by omega⟩
theorem said_eq {A : Nat → Int} {N : Int → Int} {f : Int} {S S' : Int → Int} (ht : mTok A) (f0 : 0 ≤ f) (hg : ∀ k : Int, 0 ≤ k → k < f → mGd A N k) (h : mSaid A N f S) (h' : mSaid A N f S') {p : Int} (p0 : 0 ≤ p) (p1 : p < mLs1 A N f) : S p = S' p ∧ 0 ≤ S p ∧ S p < A 0 := by
  obtain ⟨k, i, k0, k1, i0, i1, e⟩ := said_at (f := f.toNat) p0 (by rw [Int.toNat_of_nonneg f0]; exact p1)
  have hk : k < f := by omega
  subst e
  rw [h k k0 hk i i0 i1, h' k k0 hk i i0 i1]
  have g := (hg k k0 hk).1
  exact ⟨rfl, (ht.2.2.2.2.2.1 _ g.1 g.2).2.2.2 i i0 i1⟩
theorem mLs1_mono {A : Nat → Int} {N : Int → Int} {k f : Int} (ht : mTok A) (k0 : 0 ≤ k) (kf : k ≤ f) (hg : ∀ k : Int, 0 ≤ k → k < f → mGd A N k) : mLs1 A N k ≤ mLs1 A N f := by
  have aux : ∀ d : Nat, (k + d ≤ f) → mLs1 A N k ≤ mLs1 A N (k + d) := by
    intro d
    induction d with
    | zero => intro _; rw [show k + ((0 : Nat) : Int) = k by omega]; exact Int.le_refl _
    | succ d ih =>
      intro h
      have g := (hg (k + d) (by omega) (by omega)).1
      have := (ht.2.2.2.2.2.1 _ g.1 g.2).1
      rw [show k + ((d + 1 : Nat) : Int) = (k + d) + 1 by omega, mLs1_s A N (by omega)]
      have := ih (by omega)
      omega
  have := aux (f - k).toNat (by omega)
  rw [show k + ((f - k).toNat : Int) = f by omega] at this
  exact this
theorem sayInto_ok {t : Nat} {f : Int} {N : Int → Int} {m : aM} {A : Nat → Int} (ht : mTok A) (ht1 : t = 47 ∨ t = 49)
    (h41 : ∀ w : Int, 0 ≤ w → w < A 18 → m 41 w.toNat = A (19 + w).toNat) (hsp : ∀ w : Int, 0 ≤ w → w < A 18 → ∀ k : Int, 0 ≤ k → k < A (19 + w).toNat → m (25 + 4 + w.toNat) k.toNat = A (58 + 6 * w + k).toNat)
    (f0 : 0 ≤ f) (f1 : f ≤ 40) (hc : m 59 1 = f) (hN : ∀ k : Int, 0 ≤ k → k < f → m 60 k.toNat = N k) (hg : ∀ k : Int, 0 ≤ k → k < f → mGd A N k) (hL : mLs1 A N f ≤ 40) : mOk (Verdict_sayInto t m) (fun m' => m' t 1 = mLs1 A N f ∧ mSaid A N f (fun p => m' (t + 1) p.toNat) ∧ ∀ q i, ¬(q = t ∧ i = 1) → q ≠ t + 1 → m' q i = m q i) := by
  have c0 := ht.1
  have c4 := ht.2.2.2.2.1
  have c5 := ht.2.2.2.2.2.1
  unfold Verdict_sayInto
  refine mOk_st1 ?_
  refine mL2 (Verdict_sayInto_5 t) (fun k mm => 0 ≤ k ∧ k ≤ f ∧ mm t 1 = mLs1 A N k ∧ mSaid A N k (fun p => mm (t + 1) p.toNat) ∧ ∀ q i, ¬(q = t ∧ i = 1) → q ≠ t + 1 → mm q i = m q i) (fun k _ => (41 - k).toNat) ?_ 0 _ ⟨by omega, by omega, aup_self _ _ _ _, fun k a b => by omega, fun q i h1 h2 => aup_of (by omega)⟩ (by omega)
  rintro fu k mm ⟨k0, k1, s1, s2, fr⟩ ih
  rw [Verdict_sayInto_5, show mm 59 1 = f from (fr _ _ (by omega) (by omega)).trans hc]
  by_cases c : k < f
  · rw [if_pos c]
    have g := (hg k k0 c).1
    have fl := c5 _ g.1 g.2
    have b1 := mLs1_s A N k0
    have b2 := mLs1_mono (k := k + 1) ht (by omega) (by omega) hg
    have b0 := (mLs1_bd ht k0 (by omega) (fun j j0 j1 => hg j j0 (by omega))).1
    refine mL2 (Verdict_sayInto_11 (Verdict_sayInto_5 t fu) t k) (fun i mm => 0 ≤ i ∧ i ≤ A (19 + N k).toNat ∧ mm t 1 = mLs1 A N k + i ∧ mSaid A N k (fun p => mm (t + 1) p.toNat) ∧ (∀ j : Int, 0 ≤ j → j < i → mm (t + 1) (mLs1 A N k + j).toNat = A (58 + 6 * N k + j).toNat) ∧ ∀ q i, ¬(q = t ∧ i = 1) → q ≠ t + 1 → mm q i = m q i) (fun i _ => (7 - i).toNat) ?_ 0 mm ⟨by omega, by omega, by omega, s2, fun j a b => by omega, fr⟩ (by omega)
    rintro fu2 i mm2 ⟨i0, i1, t1, t2, t3, fr2⟩ ih2
    have e60 : mm2 60 k.toNat = N k := (fr2 _ _ (by omega) (by omega)).trans (hN k k0 c)
    have e41 : mm2 41 (N k).toNat = A (19 + N k).toNat := (fr2 _ _ (by omega) (by omega)).trans (h41 _ g.1 g.2)
    rw [Verdict_sayInto_11, e60, if_pos (by omega), if_pos (by omega), e41]
    by_cases d : i < A (19 + N k).toNat
    · have esp : mm2 (25 + 4 + (N k).toNat) i.toNat = A (58 + 6 * N k + i).toNat := (fr2 _ _ (by omega) (by omega)).trans (hsp _ g.1 g.2 i i0 d)
      have sb := fl.2.2.2 i i0 d
      rw [if_pos d, if_pos (by omega), esp]
      unfold Sounds_add
      simp (disch := omega) only [t1, if_pos, st1e, Option.bind_some, w8e, aup_of, w32e]
      refine ih2 _ _ ⟨by omega, by omega, by rw [aup_self]; omega, ?_, ?_, ?_⟩ (by omega)
      · intro j j0 j1 p p0 p1
        have b3 := mLs1_mono (k := j + 1) (f := k) ht (by omega) (by omega) (fun a a0 a1 => hg a a0 (by omega))
        have b4 := mLs1_s A N j0
        have b5 := (mLs1_bd ht j0 (by omega) (fun a a0 a1 => hg a a0 (by omega))).1
        dsimp only
        rw [aup_of (by omega), aup_of (by omega)]
        exact t2 j j0 j1 p p0 p1
      · intro j j0 j1
        by_cases e : j = i
        · rw [e, aup_of (by omega), aup_self]
        · rw [aup_of (by omega), aup_of (by omega)]
          exact t3 j j0 (by omega)
      · intro q p q1 q2
        rw [aup_of (by omega), aup_of (by omega)]
        exact fr2 q p q1 q2
    · rw [if_neg d, w32e (by omega) (by omega)]
      refine ih _ _ ⟨by omega, by omega, by rw [b1]; omega, ?_, fr2⟩ (by omega)
      intro j j0 j1 p p0 p1
      by_cases e : j = k
      · subst e
        exact t3 p p0 (by omega)
      · exact t2 j j0 (by omega) p p0 p1
  · rw [if_neg c]
    have : k = f := by omega
    subst this
    exact mOk_some ⟨s1, s2, fr⟩
theorem says_ok {r : Int} {m : aM} (ht : mTok (m 177)) (r0 : 0 ≤ r) (r1 : r < 4) (f0 : 0 ≤ m 206 r.toNat) (f1 : m 206 r.toNat ≤ 40) (hg : ∀ k : Int, 0 ≤ k → k < m 206 r.toNat → mGd (m 177) (mNr m r) k) (hL : mLs1 (m 177) (mNr m r) (m 206 r.toNat) ≤ 40) : mOk (R_says r m) (fun m' => m' 176 17 = mLs1 (m 177) (mNr m r) (m 206 r.toNat) ∧ mSaid (m 177) (mNr m r) (m 206 r.toNat) (fun p => m' 182 p.toNat) ∧ ∀ q i, ¬(q = 176 ∧ i = 17) → q ≠ 182 → m' q i = m q i) := by
  have c0 := ht.1
  have c4 := ht.2.2.2.2.1
  have c5 := ht.2.2.2.2.2.1
  unfold R_says
  refine mOk_st1 ?_
  refine mL2 (R_says_5 r) (fun k mm => 0 ≤ k ∧ k ≤ m 206 r.toNat ∧ mm 176 17 = mLs1 (m 177) (mNr m r) k ∧ mSaid (m 177) (mNr m r) k (fun p => mm 182 p.toNat) ∧ ∀ q i, ¬(q = 176 ∧ i = 17) → q ≠ 182 → mm q i = m q i) (fun k _ => (41 - k).toNat) ?_ 0 _ ⟨by omega, by omega, aup_self _ _ _ _, fun k a b => by omega, fun q i h1 h2 => aup_of (by omega)⟩ (by omega)
  rintro fu k mm ⟨k0, k1, s1, s2, fr⟩ ih
  rw [R_says_5, if_pos ⟨r0, r1⟩, fr 206 r.toNat (by omega) (by omega)]
  by_cases c : k < m 206 r.toNat
  · rw [if_pos c]
    have g := (hg k k0 c).1
    have g2 := g
    unfold mNr at g2
    have fl := c5 _ g.1 g.2
    have b1 := mLs1_s (m 177) (mNr m r) k0
    have b2 := mLs1_mono (k := k + 1) ht (by omega) (by omega) hg
    have b0 := (mLs1_bd ht k0 (by omega) (fun j j0 j1 => hg j j0 (by omega))).1
    rw [w32e (x := 40 * r) (by omega) (by omega), w32e (x := 40 * r + k) (by omega) (by omega), if_pos (by omega), fr 207 _ (by omega) (by omega), w32e (by omega) (by omega)]
    have eN : m 207 (40 * r + k).toNat = mNr m r k := rfl
    rw [eN]
    refine mL2 (R_says_23 (R_says_5 r fu) r k (mNr m r k)) (fun i mm => 0 ≤ i ∧ i ≤ m 177 (19 + mNr m r k).toNat ∧ mm 176 17 = mLs1 (m 177) (mNr m r) k + i ∧ mSaid (m 177) (mNr m r) k (fun p => mm 182 p.toNat) ∧ (∀ j : Int, 0 ≤ j → j < i → mm 182 (mLs1 (m 177) (mNr m r) k + j).toNat = m 177 (58 + 6 * mNr m r k + j).toNat) ∧ ∀ q i, ¬(q = 176 ∧ i = 17) → q ≠ 182 → mm q i = m q i) (fun i _ => (7 - i).toNat) ?_ 0 mm ⟨by omega, by omega, by omega, s2, fun j a b => by omega, fr⟩ (by omega)
    rintro fu2 i mm2 ⟨i0, i1, t1, t2, t3, fr2⟩ ih2
    have e177 : ∀ a, mm2 177 a = m 177 a := fun a => fr2 _ _ (by omega) (by omega)
    rw [R_says_23]
    simp only [e177]
    rw [w32e (x := 19 + mNr m r k) (by omega) (by omega), if_pos (by omega)]
    by_cases d : i < m 177 (19 + mNr m r k).toNat
    · have sb := fl.2.2.2 i i0 d
      rw [if_pos d]
      simp (disch := omega) only [t1, if_pos, st1e, aup_of, w32e]
      refine ih2 _ _ ⟨by omega, by omega, by rw [aup_self]; omega, ?_, ?_, ?_⟩ (by omega)
      · intro j j0 j1 p p0 p1
        have b3 := mLs1_mono (k := j + 1) (f := k) ht (by omega) (by omega) (fun a a0 a1 => hg a a0 (by omega))
        have b4 := mLs1_s (m 177) (mNr m r) j0
        have b5 := (mLs1_bd ht j0 (by omega) (fun a a0 a1 => hg a a0 (by omega))).1
        dsimp only
        rw [aup_of (by omega), aup_of (by omega)]
        exact t2 j j0 j1 p p0 p1
      · intro j j0 j1
        by_cases e : j = i
        · rw [e, aup_of (by omega), aup_self]
        · rw [aup_of (by omega), aup_of (by omega)]
          exact t3 j j0 (by omega)
      · intro q p q1 q2
        rw [aup_of (by omega), aup_of (by omega)]
        exact fr2 q p q1 q2
    · rw [if_neg d, w32e (by omega) (by omega)]
      refine ih _ _ ⟨by omega, by omega, by rw [b1]; omega, ?_, fr2⟩ (by omega)
      intro j j0 j1 p p0 p1
      by_cases e : j = k
      · subst e
        exact t3 p p0 (by omega)
      · exact t2 j j0 (by omega) p p0 p1
  · rw [if_neg c]
    have : k = m 206 r.toNat := by omega
    subst this
    exact mOk_some ⟨s1, s2, fr⟩
theorem R_say_ok {m : aM} {L : Int} (hL : m 176 17 = L) (l0 : 0 ≤ L) (l1 : L ≤ 40) : mOk (R_say_47 FU 0 m) (fun r => r.1 = L ∧ (∀ k : Int, 0 ≤ k → k < L → r.2 177 (156 + k).toNat = m 182 k.toNat) ∧ ∀ q i, ¬(q = 177 ∧ 156 ≤ i ∧ i < 196) → r.2 q i = m q i) := by
  refine mL2 R_say_47 (fun a mm => 0 ≤ a ∧ a ≤ L ∧ (∀ k : Int, 0 ≤ k → k < a → mm 177 (156 + k).toNat = m 182 k.toNat) ∧ ∀ q i, ¬(q = 177 ∧ 156 ≤ i ∧ i < 196) → mm q i = m q i) (fun a _ => (41 - a).toNat) ?_ 0 m ⟨by omega, by omega, fun k a b => by omega, fun _ _ _ => rfl⟩ (by omega)
  rintro f a mm ⟨a0, a1, a2, fr⟩ ih
  rw [R_say_47, show mm 176 17 = L from (fr _ _ (by omega)).trans hL]
  by_cases c : a < L
  · simp (disch := omega) only [if_pos, w32e, st1e]
    refine ih _ _ ⟨by omega, by omega, ?_, ?_⟩ (by omega)
    · intro k k0 k1
      by_cases e : k = a
      · rw [e, aup_self, fr _ _ (by omega)]
      · rw [aup_of (by omega)]; exact a2 k k0 (by omega)
    · intro q i hq
      rw [aup_of (by omega)]; exact fr q i hq
  · rw [if_neg c]
    exact mOk_some ⟨rfl, fun k k0 k1 => a2 k k0 (by omega), fr⟩
theorem st_say {n : Nat} {m : aM} (h : mInv n m) (x1 : Int) : ∃ r m1 m2, B_say x1 m = some (r, m1) ∧ R_say x1 m1 = some (r, m2) ∧ mInv (n + 1) m2 := by
  have hi := mInv_0 h
  by_cases c1 : 0 ≤ x1 ∧ x1 < 4
  · rcases h.2.2.2.2.1 x1 c1.1 c1.2 with ⟨b1, b2⟩ | ⟨b1, b2, b3, b4, b5⟩
    · refine ⟨-6, m, aup m 176 0 0, ?_, ?_, hi⟩
      · unfold B_say Rows_isRow Rows_isMissing
        simp (disch := omega) only [reduceIte, if_pos, if_neg, Option.bind_some]
      · unfold R_say
        simp (disch := omega) only [reduceIte, if_pos, if_neg, Option.bind_some, st1e, within_eq, aup_of, b1]
    · obtain ⟨mA, kA, ⟨f, hf, v1, v2, v3, v4, v5, v6, v7⟩, fr⟩ := hear_ok (N := mNr m x1) h.2.2.1 h.2.2.2.1 c1.1 c1.2 rfl b3.1 b3.2 (fun k k0 k1 => b5 k k0 k1)
      have f0 := hf.1
      have f1 := hf.2.1
      -- the reference's judgement, over any memory that keeps the rows
      have sent : ∀ mm : aM, (∀ i, mm 177 i = m 177 i) → (∀ i, mm 207 i = m 207 i) → mm 206 x1.toNat = m 206 x1.toNat → ∃ s, R_isSentence x1 mm = some s ∧ (s ≠ 0 ↔ mA 59 5 ≠ 0) := by
        intro mm g1 g2 g3
        have e177 : mm 177 = m 177 := funext g1
        have eN : mNr mm x1 = mNr m x1 := funext fun k => by unfold mNr; rw [g2]
        obtain ⟨s, ks, s1, s2⟩ := isSentence_ok (m := mm) (by rw [e177]; exact h.2.2.1) c1.1 c1.2 (by rw [g3, b4]; omega) (by rw [g3, b4]; omega)
        rw [e177, eN, g3, b4] at s2
        refine ⟨s, ks, ?_⟩
        rw [s2, v6]
        constructor
        · rintro ⟨p1, p2⟩
          exact ⟨mFw_uni hf p1, p2⟩
        · rintro ⟨p1, p2⟩
          exact ⟨by rw [p1] at hf; exact hf, p2⟩
      have hsA : mSame m (aup mA 176 0 0) := by
        intro q i hd
        unfold mDep at hd
        rw [aup_of (by omega), fr _ _ (by omega) (by omega)]
      have hiA := mInv_same (Nat.le_succ n) hsA h
      have e205 : aup mA 176 0 0 205 x1.toNat = m 205 x1.toNat := by rw [aup_of (by omega), fr _ _ (by omega) (by omega)]
      have e206 : aup mA 176 0 0 206 x1.toNat = m 206 x1.toNat := by rw [aup_of (by omega), fr _ _ (by omega) (by omega)]
      have e177 : ∀ i, aup mA 176 0 0 177 i = m 177 i := fun i => by rw [aup_of (by omega), fr _ _ (by omega) (by omega)]
      have e207 : ∀ i, aup mA 176 0 0 207 i = m 207 i := fun i => by rw [aup_of (by omega), fr _ _ (by omega) (by omega)]
      by_cases z5 : mA 59 5 = 0
      · obtain ⟨s, ks, hs⟩ := sent (aup mA 176 0 0) e177 e207 e206
        have hs0 : s = 0 := Classical.byContradiction (fun hh => (hs.mp hh) z5)
        refine ⟨-3, mA, aup mA 176 0 0, ?_, ?_, hiA⟩
        · unfold B_say Rows_isRow Rows_isMissing
          simp (disch := omega) only [reduceIte, if_pos, if_neg, Option.bind_some, kA]
        · unfold R_say
          rw [st1e]
          simp (disch := omega) only [reduceIte, if_pos, if_neg, Option.bind_some, within_eq, e205, ks]
      · have hfn : f = m 57 x1.toNat := (v6.mp z5).1
        have hbd := mLs1_bd h.2.2.1 f0 (by omega) hf.2.2.1
        by_cases z40 : 40 < mA 59 3
        · obtain ⟨s, ks, hs⟩ := sent (aup mA 176 0 0) e177 e207 e206
          have hs0 := hs.mpr z5
          have eN : mNr (aup mA 176 0 0) x1 = mNr m x1 := funext fun k => by unfold mNr; rw [e207]
          obtain ⟨s2, ks2, hs2⟩ := soundsOf_ok (m := aup mA 176 0 0) (f := m 206 x1.toNat) hiA.2.2.1 c1.1 c1.2 (by omega) (by omega) (by rw [funext e177, eN, b4, ← hfn]; exact hf.2.2.1)
          rw [funext e177, eN, b4, ← hfn, ← v3] at hs2
          refine ⟨-5, mA, aup mA 176 0 0, ?_, ?_, hiA⟩
          · unfold B_say Rows_isRow Rows_isMissing
            simp (disch := omega) only [reduceIte, if_pos, if_neg, Option.bind_some, kA]
          · unfold R_say
            rw [st1e]
            simp (disch := omega) only [reduceIte, if_pos, if_neg, Option.bind_some, within_eq, e205, ks, e206, ks2]
        · obtain ⟨mB, kB, p1, p2, p3⟩ := sayInto_ok (t := 47) (m := mA) (N := mNr m x1) (f := f) h.2.2.1 (Or.inl rfl) (fun w w0 w1 => (fr _ _ (by omega) (by omega)).trans (h.2.2.2.1.2.2.2.1 w w0 w1).1) (fun w w0 w1 k k0 k1 => (fr _ _ (by have := h.2.2.1.2.2.2.2.1; omega) (by have := h.2.2.1.2.2.2.2.1; omega)).trans ((h.2.2.2.1.2.2.2.1 w w0 w1).2.2.2 k k0 k1)) f0 (by omega) v1 v7 hf.2.2.1 (by rw [← v3]; omega)
          have kC : Cutter_forget 61 mB = some (aup mB 61 9 (-1)) := by unfold Cutter_forget; rw [st1e]
          have fB : ∀ q i, q ≠ 59 → q ≠ 60 → ¬(q = 47 ∧ i = 1) → q ≠ 48 → ¬(q = 61 ∧ i = 9) → ¬(q = 176 ∧ i = 0) → aup (aup mB 61 9 (-1)) 176 0 0 q i = m q i := by
            intro q i a b d e g hh
            rw [aup_of (by omega), aup_of (by omega), p3 _ _ (by omega) (by omega), fr _ _ a b]
          have g177 : ∀ i, aup (aup mB 61 9 (-1)) 176 0 0 177 i = m 177 i := fun i => fB _ _ (by omega) (by omega) (by omega) (by omega) (by omega) (by omega)
          have g207 : ∀ i, aup (aup mB 61 9 (-1)) 176 0 0 207 i = m 207 i := fun i => fB _ _ (by omega) (by omega) (by omega) (by omega) (by omega) (by omega)
          have g206 : aup (aup mB 61 9 (-1)) 176 0 0 206 x1.toNat = m 206 x1.toNat := fB _ _ (by omega) (by omega) (by omega) (by omega) (by omega) (by omega)
          have g205 : aup (aup mB 61 9 (-1)) 176 0 0 205 x1.toNat = m 205 x1.toNat := fB _ _ (by omega) (by omega) (by omega) (by omega) (by omega) (by omega)
          have eN : mNr (aup (aup mB 61 9 (-1)) 176 0 0) x1 = mNr m x1 := funext fun k => by unfold mNr; rw [g207]
          obtain ⟨s, ks, hs⟩ := sent _ g177 g207 g206
          have hs0 := hs.mpr z5
          obtain ⟨s2, ks2, hs2⟩ := soundsOf_ok (m := aup (aup mB 61 9 (-1)) 176 0 0) (f := m 206 x1.toNat) (by rw [funext g177]; exact h.2.2.1) c1.1 c1.2 (by omega) (by omega) (by rw [funext g177, eN, b4, ← hfn]; exact hf.2.2.1)
          rw [funext g177, eN, b4, ← hfn, ← v3] at hs2
          obtain ⟨mC, kS, q1, q2, q3⟩ := says_ok (m := aup (aup mB 61 9 (-1)) 176 0 0) (r := x1) (by rw [funext g177]; exact h.2.2.1) c1.1 c1.2 (by rw [g206]; omega) (by rw [g206]; omega) (by rw [funext g177, eN, g206, b4, ← hfn]; exact hf.2.2.1) (by rw [funext g177, eN, g206, b4, ← hfn, ← v3]; omega)
          rw [funext g177, eN, g206, b4, ← hfn] at q1 q2
          obtain ⟨⟨r9, mD⟩, kD, d1, d2, d3⟩ := R_say_ok (m := aup mC 177 155 (mC 176 17)) (L := mLs1 (m 177) (mNr m x1) f) (by rw [aup_of (by omega)]; exact q1) (by omega) (by omega)
          dsimp only at d1 d2 d3
          have eB : aup mB 61 9 (-1) 47 1 = mLs1 (m 177) (mNr m x1) f := by rw [aup_of (by omega)]; exact p1
          refine ⟨aup mB 61 9 (-1) 47 1, aup mB 61 9 (-1), mD, ?_, ?_, ?_⟩
          · unfold B_say Rows_isRow Rows_isMissing
            simp (disch := omega) only [reduceIte, if_pos, if_neg, Option.bind_some, kA, kB, kC]
          · unfold R_say
            rw [st1e]
            simp (disch := omega) only [reduceIte, if_pos, if_neg, Option.bind_some, within_eq, g205, ks, g206, ks2, kS, st1e]
            rw [kD, d1, eB]
          · have e155 : mD 177 155 = mLs1 (m 177) (mNr m x1) f := by rw [d3 _ _ (by omega), aup_self]; exact q1
            have fD : ∀ q i, q ≠ 59 → q ≠ 60 → ¬(q = 47 ∧ i = 1) → q ≠ 48 → ¬(q = 61 ∧ i = 9) → ¬(q = 176 ∧ (i = 0 ∨ i = 17)) → q ≠ 182 → ¬(q = 177 ∧ 155 ≤ i ∧ i < 196) → mD q i = m q i := by
              intro q i a b d e g hh jj kk
              rw [d3 _ _ (by omega), aup_of (by omega), q3 _ _ (by omega) (by omega)]
              exact fB q i a b d e g (by omega)
            refine mInv_line (Nat.le_succ n) ?_ ?_ ?_ ?_ (by omega) (by omega) ?_ h
            · intro q i hd g1 g2 g3 g4 g5 g6 g7 g8
              unfold mDep at hd
              exact fD _ _ (by omega) (by omega) (by omega) (by omega) (by omega) (by omega) (by omega) (by omega)
            · exact mTape_c (fD _ _ (by omega) (by omega) (by omega) (by omega) (by omega) (by omega) (by omega) (by omega)) (rowEq fun i => fD _ _ (by omega) (by omega) (by omega) (by omega) (by omega) (by omega) (by omega) (by omega)) (fD _ _ (by omega) (by omega) (by omega) (by omega) (by omega) (by omega) (by omega) (by omega)) (rowEq fun i => fD _ _ (by omega) (by omega) (by omega) (by omega) (by omega) (by omega) (by omega) (by omega)) h.1
            · rw [d3 _ _ (by omega), aup_of (by omega), q3 _ _ (by omega) (by omega), aup_of (by omega), aup_self]
            · rw [e155, d3 _ _ (by omega), aup_of (by omega), q3 _ _ (by omega) (by omega), aup_of (by omega), aup_of (by omega)]
              exact p1
            · intro k k0 k1
              rw [e155] at k1
              have s3 := said_eq h.2.2.1 f0 hf.2.2.1 p2 q2 k0 k1
              have e1 : mD 177 (156 + k).toNat = mC 182 k.toNat := by rw [d2 k k0 k1, aup_of (by omega)]
              have e2 : mD 48 k.toNat = mB (47 + 1) k.toNat := by rw [d3 _ _ (by omega), aup_of (by omega), q3 _ _ (by omega) (by omega), aup_of (by omega), aup_of (by omega)]
              rw [e1, e2, ← s3.1]
              exact ⟨rfl, s3.2⟩
  · refine ⟨-2, m, aup m 176 0 0, ?_, ?_, hi⟩
    · unfold B_say Rows_isRow
      by_cases d : x1 < 0
      · simp (disch := omega) only [reduceIte, if_pos, if_neg, Option.bind_some]
      · simp (disch := omega) only [reduceIte, if_pos, if_neg, Option.bind_some]
    · unfold R_say
      simp (disch := omega) only [reduceIte, if_pos, if_neg, Option.bind_some, st1e, within_eq]
