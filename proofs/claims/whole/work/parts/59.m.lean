theorem jmax_eq (a b : Int) (m : aM) : Jmath_max a b m = some (if a < b then b else a) := by
  unfold Jmath_max
  split <;> rfl
/-- the longest word of a kind -/
def mLk (A : Nat → Int) (kd n t : Int) : Prop := ∃ w : Int, 0 ≤ w ∧ w < n ∧ A (45 + w).toNat = kd ∧ t = A (19 + w).toNat
theorem mostEnding_ok {c : Nat} {m : aM} {A : Nat → Int} (ht : mTok A) (hA : m 177 = A) (hr : mTR 25 47 A m) (hF : ∀ kd : Int, 0 ≤ kd → kd < 4 → mX (fun t => ∃ w, mCh A c w kd t) (m 123 kd.toNat)) : mOk (Census_mostEnding m) (fun r => mX (mSe A c) r) := by
  subst hA
  unfold Census_mostEnding
  refine mL2 (Census_mostEnding_4 m) (fun s kd => 0 ≤ kd ∧ kd ≤ 4 ∧ mX (fun t => ∃ w k', k' < kd ∧ mCh (m 177) c w k' t ∧ mKe (m 177) k') s) (fun _ kd => (5 - kd).toNat) ?_ 0 0 ⟨by omega, by omega, Or.inl ⟨rfl, fun t ⟨w, k', h1, h2, h3⟩ => by have := mCh_bd ht h2; omega⟩⟩ (by omega)
  rintro fu s kd ⟨k0, k1, hs⟩ ih
  rw [Census_mostEnding_4]
  by_cases d : kd < 4
  · rw [if_pos d]
    refine mOk_bind (mayEnd_ok ht hr k0 (by omega)) (fun e ke => ?_)
    by_cases z : e = 0
    · rw [if_pos z]
      unfold Census_mostEnding_19
      rw [w32e (by omega) (by omega)]
      refine ih _ _ ⟨by omega, by omega, mX_congr (fun t => ?_) hs⟩ (by omega)
      constructor
      · rintro ⟨w, k', h1, h2, h3⟩; exact ⟨w, k', by omega, h2, h3⟩
      · rintro ⟨w, k', h1, h2, h3⟩
        refine ⟨w, k', ?_, h2, h3⟩
        by_cases ek : k' = kd
        · rw [ek] at h3; exact absurd z (ke.2.mpr h3)
        · omega
    · rw [if_neg z, if_pos (by omega), jmax_eq]
      simp only [Option.bind_some]
      unfold Census_mostEnding_19
      rw [w32e (by omega) (by omega)]
      have hf := hF kd k0 d
      refine ih _ _ ⟨by omega, by omega, ?_⟩ (by omega)
      rcases hf with ⟨f1, f2⟩ | ⟨f1, f2, f3⟩
      · have := mX_nn hs
        rw [f1, if_neg (by omega)]
        refine mX_congr (fun t => ?_) hs
        constructor
        · rintro ⟨w, k', h1, h2, h3⟩; exact ⟨w, k', by omega, h2, h3⟩
        · rintro ⟨w, k', h1, h2, h3⟩
          refine ⟨w, k', ?_, h2, h3⟩
          by_cases ek : k' = kd
          · rw [ek] at h2; exact absurd ⟨w, h2⟩ (f2 t)
          · omega
      · have base := mX_add hs f1
        -- the best of this kind stands for all of it
        rcases base with ⟨b1, b2⟩ | ⟨b1, b2, b3⟩
        · exact absurd (Or.inr rfl) (b2 _)
        · refine Or.inr ⟨b1, ?_, ?_⟩
          · rcases b2 with ⟨w, k', h1, h2, h3⟩ | e
            · exact ⟨w, k', by omega, h2, h3⟩
            · obtain ⟨w, hw⟩ := f2
              exact ⟨w, kd, by omega, by rw [e]; exact hw, ke.2.mp z⟩
          · rintro t ⟨w, k', h1, h2, h3⟩
            by_cases ek : k' = kd
            · rw [ek] at h2
              have g1 := f3 t ⟨w, h2⟩
              have g2 := b3 _ (Or.inr rfl)
              omega
            · exact b3 t (Or.inl ⟨w, k', by omega, h2, h3⟩)
  · rw [if_neg d]
    refine mOk_some (mX_congr (fun t => ?_) hs)
    constructor
    · rintro ⟨w, k', h1, h2, h3⟩; exact ⟨w, k', h2, h3⟩
    · rintro ⟨w, k', h2, h3⟩
      have := mCh_bd ht h2
      exact ⟨w, k', by omega, h2, h3⟩
theorem goOn_ok {c : Nat} {m : aM} {A : Nat → Int} (ht : mTok A) (h44 : ∀ k : Int, 0 ≤ k → k < 4 → m 44 k.toNat = 15 - A (136 + k).toNat) (hc : c ≤ 10) (hF : ∀ kd : Int, 0 ≤ kd → kd < 4 → mX (fun t => ∃ w, mCh A c w kd t) (m 123 kd.toNat)) (hL : ∀ kd : Int, 0 ≤ kd → kd < 4 → mX (mLk A kd (A 18)) (m 122 kd.toNat)) : mOk (Census_goOn m) (fun m' => (∀ kd : Int, 0 ≤ kd → kd < 4 → mX (fun t => ∃ w, mCh A (c + 1) w kd t) (m' 123 kd.toNat)) ∧ ∀ q i, q ≠ 123 → q ≠ 124 → m' q i = m q i) := by
  have c4 := ht.2.2.2.2.1
  have bF : ∀ kd : Int, 0 ≤ kd → kd < 4 → 0 ≤ m 123 kd.toNat ∧ m 123 kd.toNat ≤ 66 := by
    intro kd a b
    rcases hF kd a b with ⟨f1, -⟩ | ⟨f1, ⟨w, f2⟩, -⟩
    · omega
    · have := mCh_bd ht f2; omega
  have bL : ∀ kd : Int, 0 ≤ kd → kd < 4 → 0 ≤ m 122 kd.toNat ∧ m 122 kd.toNat ≤ 6 := by
    intro kd a b
    rcases hL kd a b with ⟨f1, -⟩ | ⟨f1, ⟨w, w0, w1, w2, w3⟩, -⟩
    · omega
    · have := ht.2.2.2.2.2.1 w w0 w1; omega
  unfold Census_goOn
  refine mOk_bind (fillI_ok (by decide)) (fun m1 k1 => ?_)
  obtain ⟨p1, p2⟩ := k1
  rw [show aln 124 = 4 by decide] at p1 p2
  refine mL2 Census_goOn_6 (fun a mm => 0 ≤ a ∧ a ≤ 4 ∧ (∀ kd : Int, 0 ≤ kd → kd < 4 → mX (fun t => ∃ k1 : Int, 0 ≤ k1 ∧ k1 < a ∧ iand (ishr (A (136 + k1).toNat) kd) 1 = 0 ∧ 0 < m 123 k1.toNat ∧ 0 < m 122 kd.toNat ∧ t = m 123 k1.toNat + m 122 kd.toNat) (mm 124 kd.toNat)) ∧ ∀ q i, q ≠ 124 → mm q i = m q i) (fun a _ => (5 - a).toNat) ?_ 0 m1 ⟨by omega, by omega, fun kd a b => Or.inl ⟨p1 _ (by omega), fun t ⟨k1, x1, x2, _⟩ => by omega⟩, fun q i hq => p2 _ _ (by omega)⟩ (by omega)
  rintro fu a mm ⟨a0, a1, s1, fr⟩ ih
  rw [Census_goOn_6]
  by_cases d : a < 4
  · rw [if_pos d]
    refine mL2 (Census_goOn_11 (Census_goOn_6 fu) a) (fun b mm => 0 ≤ b ∧ b ≤ 4 ∧ (∀ kd : Int, 0 ≤ kd → kd < 4 → mX (fun t => ∃ k1 : Int, 0 ≤ k1 ∧ (k1 < a ∨ (k1 = a ∧ kd < b)) ∧ iand (ishr (A (136 + k1).toNat) kd) 1 = 0 ∧ 0 < m 123 k1.toNat ∧ 0 < m 122 kd.toNat ∧ t = m 123 k1.toNat + m 122 kd.toNat) (mm 124 kd.toNat)) ∧ ∀ q i, q ≠ 124 → mm q i = m q i) (fun b _ => (5 - b).toNat) ?_ 0 mm ⟨by omega, by omega, fun kd x y => mX_congr (fun t => ?_) (s1 kd x y), fr⟩ (by omega)
    rotate_left
    · constructor
      · rintro ⟨k1, g1, g2, g3⟩; exact ⟨k1, g1, Or.inl g2, g3⟩
      · rintro ⟨k1, g1, g2, g3⟩; exact ⟨k1, g1, by omega, g3⟩
    rintro fu2 b mm2 ⟨b0, b1, t1, fr2⟩ ih2
    rw [Census_goOn_11]
    by_cases e : b < 4
    · have d7 := ht.2.2.2.2.2.2.2.1 a a0 d
      have bt := bt_01 (a := A (136 + a).toNat) (k := b)
      -- nothing new
      have same : ¬ (iand (ishr (A (136 + a).toNat) b) 1 = 0 ∧ 0 < m 123 a.toNat ∧ 0 < m 122 b.toNat) → mOk (Census_goOn_58 (Census_goOn_6 fu) (Census_goOn_11 (Census_goOn_6 fu) a fu2) a b mm2) (fun m' => (∀ kd : Int, 0 ≤ kd → kd < 4 → mX (fun t => ∃ w, mCh A (c + 1) w kd t) (m' 123 kd.toNat)) ∧ ∀ q i, q ≠ 123 → q ≠ 124 → m' q i = m q i) := by
        intro hno
        unfold Census_goOn_58
        rw [w32e (by omega) (by omega)]
        refine ih2 _ _ ⟨by omega, by omega, fun kd x y => mX_congr (fun t => ?_) (t1 kd x y), fr2⟩ (by omega)
        constructor
        · rintro ⟨k1, g1, g2, g3⟩; exact ⟨k1, g1, by omega, g3⟩
        · rintro ⟨k1, g1, g2, g3⟩
          refine ⟨k1, g1, ?_, g3⟩
          by_cases ek : k1 = a ∧ kd = b
          · rw [ek.1, ek.2] at g3
            exact absurd ⟨g3.1, g3.2.1, g3.2.2.1⟩ hno
          · omega
      rw [if_pos e, if_pos (by omega), show mm2 44 a.toNat = _ from (fr2 _ _ (by omega)).trans (h44 a a0 d), bt_neg4 d7.1 d7.2 b0 (by omega)]
      by_cases zb : iand (ishr (A (136 + a).toNat) b) 1 = 0
      · rw [if_neg (by omega)]
        unfold Census_goOn_27
        rw [if_neg (by omega), if_pos (by omega), fr2 123 _ (by omega), fr2 122 _ (by omega)]
        by_cases z3 : 0 < m 123 a.toNat
        · rw [if_pos z3, if_pos (by omega)]
          by_cases z2 : 0 < m 122 b.toNat
          · have q1 := bF a a0 d
            have q2 := bL b b0 e
            rw [if_pos z2, jmax_eq, w32e (by omega) (by omega)]
            simp only [Option.bind_some]
            unfold Census_goOn_58
            rw [w32e (by omega) (by omega)]
            refine mOk_st1 (ih2 _ _ ⟨by omega, by omega, fun kd x y => ?_, fun q i hq => by rw [aup_of (by omega)]; exact fr2 q i hq⟩ (by omega))
            by_cases ek : kd = b
            · subst ek
              rw [aup_self]
              refine mX_congr (fun t => ?_) (mX_add (t1 kd x y) (v := m 123 a.toNat + m 122 kd.toNat) (by omega))
              constructor
              · rintro (⟨k1, g1, g2, g3⟩ | g)
                · exact ⟨k1, g1, by omega, g3⟩
                · exact ⟨a, a0, Or.inr ⟨rfl, by omega⟩, zb, z3, z2, g⟩
              · rintro ⟨k1, g1, g2, g3⟩
                by_cases ek : k1 = a
                · right; rw [ek] at g3; exact g3.2.2.2
                · exact Or.inl ⟨k1, g1, by omega, g3⟩
            · rw [aup_of (by omega)]
              refine mX_congr (fun t => ?_) (t1 kd x y)
              constructor
              · rintro ⟨k1, g1, g2, g3⟩; exact ⟨k1, g1, by omega, g3⟩
              · rintro ⟨k1, g1, g2, g3⟩; exact ⟨k1, g1, by omega, g3⟩
          · rw [if_neg z2]
            exact same (fun h => z2 h.2.2)
        · rw [if_neg z3]
          exact same (fun h => z3 h.2.1)
      · rw [if_pos (by omega)]
        unfold Census_goOn_27
        rw [if_pos rfl]
        exact same (fun h => zb h.1)
    · rw [if_neg e, w32e (by omega) (by omega)]
      refine ih _ _ ⟨by omega, by omega, fun kd x y => mX_congr (fun t => ?_) (t1 kd x y), fr2⟩ (by omega)
      constructor
      · rintro ⟨k1, g1, g2, g3⟩; exact ⟨k1, g1, by omega, g3⟩
      · rintro ⟨k1, g1, g2, g3⟩; exact ⟨k1, g1, by omega, g3⟩
  · rw [if_neg d]
    refine mOk_st1 (mOk_some ⟨fun kd x y => ?_, fun q i q1 q2 => by rw [aupr_of q1]; exact fr q i q2⟩)
    rw [aupr_self, aCpy_lt (by omega)]
    have hl := hL kd x y
    -- every longer row is one of these, or shorter
    have dom : ∀ t, (∃ w, mCh A (c + 1) w kd t) → ∃ k1 : Int, 0 ≤ k1 ∧ k1 < a ∧ iand (ishr (A (136 + k1).toNat) kd) 1 = 0 ∧ 0 < m 123 k1.toNat ∧ 0 < m 122 kd.toNat ∧ t ≤ m 123 k1.toNat + m 122 kd.toNat := by
      rintro t ⟨w, hw⟩
      obtain ⟨k1, t1, v, g1, g2, g3, g4, g5⟩ := mCh_unsnoc hw
      have b1 := mCh_bd ht g1
      refine ⟨k1, by omega, by omega, ?_, ?_⟩
      · rcases g3 with g3 | g3
        · omega
        · rw [g4] at g3; exact g3
      · have f := hF k1 (by omega) (by omega)
        have lv : mLk A kd (A 18) (A (19 + v).toNat) := ⟨v, g2.1, g2.2, g4, rfl⟩
        have wv := ht.2.2.2.2.2.1 v g2.1 g2.2
        rcases f with ⟨f1, f2⟩ | ⟨f1, f2, f3⟩
        · exact absurd ⟨w, g1⟩ (f2 _)
        rcases hl with ⟨l1, l2⟩ | ⟨l1, l2, l3⟩
        · exact absurd lv (l2 _)
        have := f3 _ ⟨w, g1⟩
        have := l3 _ lv
        omega
    have ach : ∀ k1 : Int, 0 ≤ k1 → k1 < a → iand (ishr (A (136 + k1).toNat) kd) 1 = 0 → 0 < m 123 k1.toNat → 0 < m 122 kd.toNat → ∃ w, mCh A (c + 1) w kd (m 123 k1.toNat + m 122 kd.toNat) := by
      intro k1 g1 g2 g3 g4 g5
      rcases hF k1 g1 (by omega) with ⟨f1, f2⟩ | ⟨f1, ⟨w, f2⟩, f3⟩
      · omega
      rcases hl with ⟨l1, l2⟩ | ⟨l1, ⟨v, v0, v1, v2, v3⟩, l3⟩
      · omega
      have := mCh_snoc f2 ⟨v0, v1⟩ (Or.inr (by rw [v2]; exact g3))
      rw [v2, ← v3] at this
      exact ⟨w, this⟩
    rcases s1 kd x y with ⟨r1, r2⟩ | ⟨r1, ⟨k1, g1, g2, g3, g4, g5, g6⟩, r3⟩
    · refine Or.inl ⟨r1, fun t htt => ?_⟩
      obtain ⟨k1, g1, g2, g3, g4, g5, g6⟩ := dom t htt
      exact r2 _ ⟨k1, g1, g2, g3, g4, g5, rfl⟩
    · refine Or.inr ⟨r1, ?_, fun t htt => ?_⟩
      · rw [g6]; exact ach k1 g1 g2 g3 g4 g5
      · obtain ⟨k1, g1, g2, g3, g4, g5, g6⟩ := dom t htt
        have := r3 _ ⟨k1, g1, g2, g3, g4, g5, rfl⟩
        omega
theorem measure_ok {m : aM} {A : Nat → Int} (ht : mTok A) (hA : m 177 = A) (hr : mTR 25 47 A m) : mOk (Census_measureSentences m) (fun m' => (∃ v, mX (fun t => ∃ c, c < 4 ∧ mSe A c t) v ∧ (m' 120 6 = 0 ∨ m' 120 6 = 1) ∧ (m' 120 6 ≠ 0 ↔ ∃ t, mSe A 4 t) ∧ m' 120 7 = if v = 0 then -1 else v) ∧ ∀ q i, q ≠ 120 → q ≠ 122 → q ≠ 123 → q ≠ 124 → m' q i = m q i) := by
  have c4 := ht.2.2.2.2.1
  have c5 := ht.2.2.2.2.2.1
  unfold Census_measureSentences
  refine mOk_st1 (mOk_st1 ?_)
  refine mOk_bind (fillI_ok (by decide)) (fun m1 k1 => ?_)
  obtain ⟨p1, p2⟩ := k1
  rw [show aln 122 = 4 by decide] at p1 p2
  refine mL2 Census_measureSentences_12 (fun w mm => 0 ≤ w ∧ w ≤ A 18 ∧ mm 120 6 = 0 ∧ mm 120 7 = -1 ∧ (∀ kd : Int, 0 ≤ kd → kd < 4 → mX (mLk A kd w) (mm 122 kd.toNat)) ∧ ∀ q i, q ≠ 120 → q ≠ 122 → mm q i = m q i) (fun w _ => (13 - w).toNat) ?_ 0 m1 ⟨by omega, by omega, ?_, ?_, fun kd a b => Or.inl ⟨p1 _ (by omega), fun t ⟨w, x1, x2, _⟩ => by omega⟩, fun q i a b => by rw [p2 _ _ (by omega), aup_of (by omega), aup_of (by omega)]⟩ (by omega)
  rotate_left
  · rw [p2 _ _ (by omega), aup_of (by omega), aup_self]
  · rw [p2 _ _ (by omega), aup_self]
  rintro fu w mm ⟨w0, w1, s6, s7, s1, fr⟩ ih
  rw [Census_measureSentences_12, show mm 25 2 = A 18 from (fr _ _ (by omega) (by omega)).trans hr.1.2.2.1]
  by_cases d : w < A 18
  · have g := hr.2.2.2.1 w w0 d
    have fl := c5 w w0 d
    have e43 : mm 43 w.toNat = A (45 + w).toNat := (fr _ _ (by omega) (by omega)).trans g.2.2.1
    have e41 : mm 41 w.toNat = A (19 + w).toNat := (fr _ _ (by omega) (by omega)).trans g.1
    rw [if_pos d, if_pos (by omega), e43, e41, if_pos (by omega), jmax_eq]
    simp only [Option.bind_some]
    rw [w32e (by omega) (by omega)]
    refine mOk_st1 (ih _ _ ⟨by omega, by omega, by rw [aup_of (by omega)]; exact s6, by rw [aup_of (by omega)]; exact s7, fun kd a b => ?_, fun q i a b => by rw [aup_of (by omega)]; exact fr q i a b⟩ (by omega))
    by_cases ek : kd = A (45 + w).toNat
    · rw [ek, aup_self]
      refine mX_congr (fun t => ?_) (mX_add (s1 _ fl.2.2.1.1 (by omega)) (v := A (19 + w).toNat) (by omega))
      constructor
      · rintro (⟨u, g1, g2, g3⟩ | g)
        · exact ⟨u, g1, by omega, g3⟩
        · exact ⟨w, w0, by omega, rfl, g⟩
      · rintro ⟨u, g1, g2, g3⟩
        by_cases eu : u = w
        · right; rw [eu] at g3; exact g3.2
        · exact Or.inl ⟨u, g1, by omega, g3⟩
    · rw [aup_of (by omega)]
      refine mX_congr (fun t => ?_) (s1 kd a b)
      constructor
      · rintro ⟨u, g1, g2, g3⟩; exact ⟨u, g1, by omega, g3⟩
      · rintro ⟨u, g1, g2, g3⟩
        refine ⟨u, g1, ?_, g3⟩
        by_cases eu : u = w
        · rw [eu] at g3; exact absurd g3.1.symm ek
        · omega
  · rw [if_neg d]
    refine mOk_st1 ?_
    have ew : w = A 18 := by omega
    subst ew
    refine mL2 Census_measureSentences_49 (fun x mm => 1 ≤ x ∧ x ≤ 6 ∧ (∀ kd : Int, 0 ≤ kd → kd < 4 → mX (fun t => ∃ w, mCh A (x.toNat - 1) w kd t) (mm 123 kd.toNat)) ∧ (∀ kd : Int, 0 ≤ kd → kd < 4 → mX (mLk A kd (A 18)) (mm 122 kd.toNat)) ∧ (x ≤ 5 → mm 120 6 = 0) ∧ (x = 6 → (mm 120 6 = 0 ∨ mm 120 6 = 1) ∧ (mm 120 6 ≠ 0 ↔ ∃ t, mSe A 4 t)) ∧ (x = 1 → mm 120 7 = -1) ∧ (2 ≤ x → mX (fun t => ∃ c, c < 4 ∧ c < x.toNat - 1 ∧ mSe A c t) (mm 120 7)) ∧ ∀ q i, q ≠ 120 → q ≠ 122 → q ≠ 123 → q ≠ 124 → mm q i = m q i) (fun x _ => (7 - x).toNat) ?_ 1 _ ⟨by omega, by omega, fun kd a b => ?_, fun kd a b => ?_, fun _ => ?_, fun h => by omega, fun _ => ?_, fun h => by omega, fun q i a b c d => ?_⟩ (by omega)
    rotate_left
    · rw [aupr_self, aCpy_lt (by omega)]
      refine mX_congr (fun t => ?_) (s1 kd a b)
      constructor
      · rintro ⟨w, g1, g2, g3, g4⟩; exact ⟨w, ⟨g1, g2⟩, g3, g4⟩
      · rintro ⟨w, ⟨g1, g2⟩, g3, g4⟩; exact ⟨w, g1, g2, g3, g4⟩
    · rw [aupr_of (by omega)]; exact s1 kd a b
    · rw [aupr_of (by omega)]; exact s6
    · rw [aupr_of (by omega)]; exact s7
    · rw [aupr_of c]; exact fr q i a b
    rintro fu2 x mm2 ⟨x0, x1, hF, hL, h6, h6b, h7, h7b, fr2⟩ ih2
    rw [Census_measureSentences_49]
    by_cases e : 5 < x
    · rw [if_pos e]
      have ex : x = 6 := by omega
      subst ex
      have hv := h7b (by omega)
      have hv2 : mX (fun t => ∃ c, c < 4 ∧ mSe A c t) (mm2 120 7) := mX_congr (fun t => ⟨fun ⟨c, a, b, d⟩ => ⟨c, a, d⟩, fun ⟨c, a, d⟩ => ⟨c, a, by have : (6 : Int).toNat = 6 := rfl; omega, d⟩⟩) hv
      by_cases z : mm2 120 7 = 0
      · rw [if_pos z]
        refine mOk_st1 (mOk_some ⟨⟨_, hv2, ?_, ?_, ?_⟩, fun q i a b c d => by rw [aup_of (by omega)]; exact fr2 q i a b c d⟩)
        · rw [aup_of (by omega)]; exact (h6b rfl).1
        · rw [aup_of (by omega)]; exact (h6b rfl).2
        · rw [aup_self, if_pos z]
      · rw [if_neg z]
        exact mOk_some ⟨⟨_, hv2, (h6b rfl).1, (h6b rfl).2, by rw [if_neg z]⟩, fr2⟩
    · rw [if_neg e]
      have hr2 : mTR 25 47 A mm2 := mTR_same (fun q j hq => fr2 q j (by omega) (by omega) (by omega) (by omega)) hr c4.2
      have e177 : mm2 177 = A := by rw [← hA]; exact funext fun i => fr2 _ _ (by omega) (by omega) (by omega) (by omega)
      refine mOk_bind (mostEnding_ok ht e177 hr2 hF) (fun s hs => ?_)
      have s0 := mX_nn hs
      -- one word more
      have next : ∀ mm3 : aM, (∀ q i, q ≠ 120 → mm3 q i = mm2 q i) → (x ≤ 4 → mm3 120 6 = 0) → (x = 5 → (mm3 120 6 = 0 ∨ mm3 120 6 = 1) ∧ (mm3 120 6 ≠ 0 ↔ ∃ t, mSe A 4 t)) → mX (fun t => ∃ c, c < 4 ∧ c < x.toNat ∧ mSe A c t) (mm3 120 7) → mOk (Census_measureSentences_71 (Census_measureSentences_49 fu2) x mm3) (fun m' => (∃ v, mX (fun t => ∃ c, c < 4 ∧ mSe A c t) v ∧ (m' 120 6 = 0 ∨ m' 120 6 = 1) ∧ (m' 120 6 ≠ 0 ↔ ∃ t, mSe A 4 t) ∧ m' 120 7 = if v = 0 then -1 else v) ∧ ∀ q i, q ≠ 120 → q ≠ 122 → q ≠ 123 → q ≠ 124 → m' q i = m q i) := by
        intro mm3 f3 g6 g6b g7
        unfold Census_measureSentences_71
        refine mOk_bind (goOn_ok (c := x.toNat - 1) (m := mm3) ht (fun k k0 k1 => by rw [f3 _ _ (by omega)]; exact hr2.2.2.2.2.1 k k0 k1) (by omega) (fun kd a b => by rw [f3 _ _ (by omega)]; exact hF kd a b) (fun kd a b => by rw [f3 _ _ (by omega)]; exact hL kd a b)) (fun m4 k4 => ?_)
        obtain ⟨u1, u2⟩ := k4
        rw [w32e (by omega) (by omega)]
        have ex : (x + 1).toNat - 1 = x.toNat := by omega
        refine ih2 _ _ ⟨by omega, by omega, fun kd a b => ?_, fun kd a b => ?_, fun hx => ?_, fun hx => ?_, fun hx => by omega, fun hx => ?_, fun q i a b c d => ?_⟩ (by omega)
        · have := u1 kd a b
          rw [show x.toNat - 1 + 1 = (x + 1).toNat - 1 by omega] at this
          exact this
        · rw [u2 _ _ (by omega) (by omega), f3 _ _ (by omega)]; exact hL kd a b
        · rw [u2 _ _ (by omega) (by omega)]; exact g6 (by omega)
        · rw [u2 _ _ (by omega) (by omega)]; exact g6b (by omega)
        · rw [u2 _ _ (by omega) (by omega), ex]; exact g7
        · rw [u2 _ _ c d, f3 _ _ a]; exact fr2 q i a b c d
      have sc : mX (mSe A (x.toNat - 1)) s := hs
      by_cases x5 : x = 5
      · subst x5
        have e4 : (5 : Int).toNat - 1 = 4 := rfl
        rw [e4] at sc
        have h7x : mX (fun t => ∃ c, c < 4 ∧ c < (5 : Int).toNat ∧ mSe A c t) (mm2 120 7) := mX_congr (fun t => ⟨fun ⟨c, a, b, d⟩ => ⟨c, a, by have : (5 : Int).toNat = 5 := rfl; omega, d⟩, fun ⟨c, a, b, d⟩ => ⟨c, a, by omega, d⟩⟩) (h7b (by omega))
        by_cases z : 0 < s
        · rw [if_pos z, if_pos (by omega)]
          refine mOk_st1 (next _ (fun q i hq => aup_of (by omega)) (fun h => by omega) (fun _ => ?_) ?_)
          · rw [aup_self]
            refine ⟨Or.inr rfl, fun _ => ?_, fun _ => by omega⟩
            rcases sc with ⟨q1, -⟩ | ⟨-, q2, -⟩
            · omega
            · exact ⟨s, q2⟩
          · rw [aup_of (by omega)]; exact h7x
        · rw [if_neg z]
          unfold Census_measureSentences_64
          have g7 := mX_nn h7x
          rw [if_neg (by omega)]
          refine next mm2 (fun _ _ _ => rfl) (fun h => by omega) (fun _ => ⟨Or.inl (h6 (by omega)), ?_⟩) h7x
          rw [h6 (by omega)]
          simp
          intro t htt
          rcases sc with ⟨-, q2⟩ | ⟨q1, -⟩
          · exact q2 t htt
          · omega
      · have e64 : mOk (Census_measureSentences_64 (Census_measureSentences_49 fu2) x s mm2) (fun m' => (∃ v, mX (fun t => ∃ c, c < 4 ∧ mSe A c t) v ∧ (m' 120 6 = 0 ∨ m' 120 6 = 1) ∧ (m' 120 6 ≠ 0 ↔ ∃ t, mSe A 4 t) ∧ m' 120 7 = if v = 0 then -1 else v) ∧ ∀ q i, q ≠ 120 → q ≠ 122 → q ≠ 123 → q ≠ 124 → m' q i = m q i) := by
          unfold Census_measureSentences_64
          -- the best so far
          have old : ∀ t, (∃ c, c < 4 ∧ c < x.toNat - 1 ∧ mSe A c t) → t ≤ mm2 120 7 := by
            intro t ⟨c, a, b, dd⟩
            rcases h7b (by omega) with ⟨-, q2⟩ | ⟨-, -, q3⟩
            · exact absurd ⟨c, a, b, dd⟩ (q2 t)
            · exact q3 t ⟨c, a, b, dd⟩
          by_cases z : mm2 120 7 < s
          · rw [if_pos z]
            refine mOk_st1 (next _ (fun q i hq => aup_of (by omega)) (fun h => by rw [aup_of (by omega)]; exact h6 (by omega)) (fun h => by omega) ?_)
            rw [aup_self]
            rcases sc with ⟨q1, q2⟩ | ⟨q1, q2, q3⟩
            · refine Or.inl ⟨q1, fun t ⟨c, a, b, dd⟩ => ?_⟩
              by_cases ec : c = x.toNat - 1
              · rw [ec] at dd; exact q2 t dd
              · have := old t ⟨c, a, by omega, dd⟩
                obtain ⟨w, kd, hw, -⟩ := dd
                have := mCh_bd ht hw
                omega
            · refine Or.inr ⟨q1, ⟨x.toNat - 1, by omega, by omega, q2⟩, fun t ⟨c, a, b, dd⟩ => ?_⟩
              by_cases ec : c = x.toNat - 1
              · rw [ec] at dd; exact q3 t dd
              · have := old t ⟨c, a, by omega, dd⟩
                omega
          · rw [if_neg z]
            refine next mm2 (fun _ _ _ => rfl) (fun _ => h6 (by omega)) (fun h => by omega) ?_
            have x2 : 2 ≤ x := by
              by_cases x1' : x = 1
              · have := h7 x1'; omega
              · omega
            rcases h7b x2 with ⟨q1, q2⟩ | ⟨q1, ⟨c, a, b, dd⟩, q3⟩
            · refine Or.inl ⟨q1, fun t ⟨c, a, b, dd⟩ => ?_⟩
              by_cases ec : c = x.toNat - 1
              · rw [ec] at dd
                rcases sc with ⟨-, r2⟩ | ⟨r1, -⟩
                · exact r2 t dd
                · omega
              · exact q2 t ⟨c, a, by omega, dd⟩
            · refine Or.inr ⟨q1, ⟨c, a, by omega, dd⟩, fun t ⟨c, a, b, dd⟩ => ?_⟩
              by_cases ec : c = x.toNat - 1
              · rw [ec] at dd
                rcases sc with ⟨-, r2⟩ | ⟨-, -, r3⟩
                · exact absurd dd (r2 t)
                · have := r3 t dd; omega
              · exact q3 t ⟨c, a, by omega, dd⟩
        by_cases z : 0 < s
        · rw [if_pos z, if_neg (by omega)]; exact e64
        · rw [if_neg z]; exact e64
