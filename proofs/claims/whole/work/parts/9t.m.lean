/-! the step mended -/
theorem mMdR_uni {A : Nat → Int} {b b' : Int} (h : mMdR A b) (h' : mMdR A b') : b = b' := mMd_uni (fun _ a b => b a) (fun _ a b => b a) h h'
theorem leftOut_all {m : aM} (ht : mTok (m 177)) (hr : mTR 25 47 (m 177) m) (hm : mMendC m) : mOk (Mender_leftOut m) (fun r => (-1 ≤ r.1 ∧ r.1 < 4096) ∧ (∀ (m' : aM) (r' : Int × aM), mAeqT (m 177) (m' 177) → mRdy m' → R_mended 1 m' = some r' → r'.1 = r.1) ∧ mMendC r.2 ∧ ∀ q i, ¬(80 ≤ q ∧ q ≤ 103) → ¬(q = 79 ∧ i = 10) → r.2 q i = m q i) := by
  obtain ⟨k1, k2, k3, k4, k5, k6⟩ := hm
  by_cases c : m 79 10 = -2
  · refine mOk_mono (leftOut_ok ht hr c) (fun r k => ?_)
    obtain ⟨b1, b2, b3, fr⟩ := k
    have cc := mended_c ht b3
    refine ⟨b1, cc, ?_, fr⟩
    have row : ∀ q, ¬(79 ≤ q ∧ q ≤ 103) → r.2 q = m q := fun q a => rowEq fun i => fr q i (by omega) (by omega)
    unfold mMendC
    rw [row 177 (by omega), row 107 (by omega), row 108 (by omega), row 109 (by omega), row 111 (by omega), fr 79 6 (by omega) (by omega), fr 79 11 (by omega) (by omega), fr 79 15 (by omega) (by omega), ← b2]
    refine ⟨k1, k2, fun j j0 j1 => ?_, Or.inr ⟨b1.1, b1.2, cc⟩, ?_, k6⟩
    · rw [row (112 + 2 * j.toNat) (by omega), row (113 + 2 * j.toNat) (by omega)]
      exact k3 j j0 j1
    · rcases k5 with g | ⟨g1, g2⟩
      · exact Or.inl g
      · refine Or.inr ⟨g1, fun m' j r' j0 j1 ha rd kr => ?_⟩
        rw [fr 79 (12 + j).toNat (by omega) (by omega)]
        exact g2 m' j r' j0 j1 ha rd kr
  · unfold Mender_leftOut
    rw [if_neg c]
    obtain ⟨g1, g2, g3⟩ := k4.resolve_left c
    exact mOk_some ⟨⟨g1, g2⟩, g3, ⟨k1, k2, k3, k4, k5, k6⟩, fun _ _ _ _ => rfl⟩
theorem st_mended {n : Nat} {m : aM} (hn : n < 64) (h : mInv n m) (x1 : Int) : ∃ r m1 m2, B_mended x1 m = some (r, m1) ∧ R_mended x1 m1 = some (r, m2) ∧ mInv (n + 1) m2 := by
  by_cases c : x1 = 0 ∨ x1 = 1
  rotate_left
  · refine ⟨-2, m, aup m 176 0 0, ?_, ?_, mInv_0 h⟩
    · unfold B_mended
      rw [if_neg (by omega), if_neg (by omega)]
    · unfold R_mended
      rw [st1e, within_eq, if_neg (by omega), Option.bind_some, if_pos rfl]
  obtain ⟨⟨v, m1⟩, kB, q0, q1, q2, q3⟩ := leftOut_all h.2.2.1 h.2.2.2.1 h.2.2.2.2.2.2.2.2
  dsimp only at q0 q1 q2 q3
  have mk := h.2.2.2.2.2.2.1
  have c4 := h.2.2.1.2.2.2.2.1
  have r0 := mRdy_of (by omega) mk
  have e177 : m1 177 = m 177 := rowEq fun i => q3 _ _ (by omega) (by omega)
  have rd : mRdy m1 := by
    unfold mRdy at *
    rw [q3 176 30 (by omega) (by omega), q3 176 32 (by omega) (by omega), q3 176 33 (by omega) (by omega), show m1 193 = m 193 from funext fun i => q3 _ _ (by omega) (by omega)]
    exact r0
  have ha : mAeqT (m 177) (m1 177) := by rw [e177]; exact mAeqT.refl _
  have hA : mVx (m1 177) := mVx_of h.2.2.1 ha
  have w1 : m1 177 18 ≤ 12 := by rw [e177]; exact c4.2
  obtain ⟨r1, kr1, ⟨b1, bb1, md1, e1⟩, -⟩ := R_mended_ok (x := 1) (m := m1) (Or.inr rfl) hA w1 rd
  have ev : b1 = v := by
    rw [← q1 m1 r1 ha rd kr1, e1]
    split <;> omega
  obtain ⟨⟨r', m2⟩, kR, ⟨b2, bb2, md2, e2⟩, g1, g2, g3, g4⟩ := R_mended_ok (x := x1) (m := m1) c hA w1 rd
  dsimp only at e2 g1 g2 g3 g4
  have eb : b2 = v := by rw [← ev]; exact mMdR_uni md2 md1
  rw [eb] at e2
  refine ⟨r', m1, m2, ?_, kR, ?_⟩
  · have key : B_mended_7 x1 m = some (r', m1) := by
      unfold B_mended_7 B_mended_17
      rw [kB, Option.bind_some, e2]
      dsimp only
      by_cases d : v = -1
      · rw [if_pos d, if_pos d, d]
      · rw [if_neg d, if_neg d]
        by_cases d1 : x1 = 1
        · rw [if_pos d1, if_neg (by omega)]
        · rw [if_neg d1, if_pos (by omega), pcn_J (by omega) q0.2, Option.bind_some]
    unfold B_mended
    by_cases d : x1 = 0
    · rw [if_pos d]; exact key
    · rw [if_neg d, if_pos (by omega)]; exact key
  · have f2 : ∀ q i, ¬(79 ≤ q ∧ q ≤ 103) → ¬(189 ≤ q ∧ q ≤ 195) → ¬(q = 176 ∧ (i = 0 ∨ (29 ≤ i ∧ i ≤ 32))) → m2 q i = m q i := fun q i a b e => by rw [g1 q i b (by omega)]; exact q3 q i (by omega) (by omega)
    have f3 : ∀ q, 79 ≤ q → q ≤ 119 → m2 q = m1 q := fun q a b => rowEq fun i => g1 q i (by omega) (by omega)
    have e30 : m1 176 30 = m 176 30 := q3 _ _ (by omega) (by omega)
    refine mInv_srch h (fun q i hd a b e g g' => ?_) ?_ ?_
    · by_cases z : q = 176 ∧ i = 32
      · rw [z.1, z.2, g2]; exact mk.2.2.1.symm
      · exact f2 q i (by unfold mDep at hd; omega) (by unfold mDep at hd; omega) (by unfold mDep at hd; omega)
    · exact ⟨by have := mk.1; omega, g4, g2, by rw [f2 _ _ (by omega) (by omega) (by omega)]; exact mk.2.2.2⟩
    · exact mMendC_of (by rw [show m2 177 = m1 177 from rowEq fun i => g1 _ _ (by omega) (by omega)]; exact mAeqT.refl _) (by rw [e177]; exact c4.1) (f3 79 (by omega) (by omega)) (fun q a b => f3 q (by omega) b) q2
