/-! BOTH SEARCHES FIND THE SAME: the other way -/
theorem nx_st {X : aM} {A : Nat → Int} {O w i p : Int} (hA : mVx A) (h : mXA X A O) (aw : mAc A O w) (i0 : 0 ≤ i ∧ i < A (19 + w).toNat) (k : mNx A O (6 * w + i) p) : ∃ w' i', p = 6 * w' + i' ∧ xSt X w i w' i' ∧ mAc A O w' ∧ 0 ≤ i' ∧ i' < A (19 + w').toNat := by
  have lw := hA.2.1 w aw.1 aw.2.1
  have w0 := aw.1
  have e1 : (6 * w + i) / 6 = w := by omega
  have e2 : (6 * w + i) % 6 = i := by omega
  obtain ⟨k1, k2, -⟩ := h.2.1 w aw
  rcases k with ⟨g, -⟩ | ⟨-, ⟨g1, rfl⟩ | ⟨g1, w', g2, g3, rfl⟩⟩
  · omega
  · unfold mEn at g1
    rw [e1, e2] at g1
    exact ⟨w, i + 1, by omega, Or.inl ⟨by omega, rfl, rfl⟩, aw, by omega, by omega⟩
  · unfold mEn at g1
    rw [e1, e2] at g1
    rw [e1, ← k1] at g3
    have lw' := hA.2.1 w' g2.1 g2.2.1
    exact ⟨w', 0, by omega, Or.inr ⟨by omega, (h.1 w').mpr g2, (h.2.2.1 _ _ (by omega) (by omega) g2).mpr g3, rfl⟩, g2, by omega, by omega⟩
theorem of_rq {X : aM} {A : Nat → Int} {O M : Int} (hA : mVx A) (hv : mTv X) (h : mXA X A O) (M0 : 0 ≤ M) (M2 : M ≤ 2) : ∀ (n : Nat) (s : Int), mRq A O M 0 n s → s = -1 ∨ (mPv3 A s ∧ mAc A O (s / 6)) ∨ (∃ (w i v j e f : Int) (n' : Nat), s = mPr (6 * w + i) (6 * v + j) e f ∧ n' + 1 ≤ n ∧ xR X M n' w i v j e f) := by
  -- words of a start
  have two : ∀ (n : Nat) (w v e f : Int), 1 ≤ n → mAc A O w → mAc A O v → (6 * w : Int) ≠ 6 * v → mHr A M 0 (6 * w) (6 * v) 0 0 e f → ∃ (w' i v' j e' f' : Int) (n' : Nat), mPr (6 * w) (6 * v) e f = mPr (6 * w' + i) (6 * v' + j) e' f' ∧ n' + 1 ≤ n ∧ xR X M n' w' i v' j e' f' := by
    intro n w v e f n1 aw av ne hr
    have lw := hA.2.1 w aw.1 aw.2.1
    have lv := hA.2.1 v av.1 av.2.1
    refine ⟨w, 0, v, 0, e, f, 0, by rw [Int.add_zero, Int.add_zero], by omega, (h.1 w).mpr aw, (h.1 v).mpr av, by omega, rfl, rfl, ?_⟩
    refine (hr_iff hA h aw av (by omega) (by omega)).mpr ?_
    rw [Int.add_zero, Int.add_zero]; exact hr
  intro n
  induction n with
  | zero => intro s k; exact Or.inl k
  | succ n ih =>
    rintro s ⟨t, rt, su⟩
    rcases ih t rt with rfl | ⟨pt, at'⟩ | ⟨w, i, v, j, e, f, n', rfl, n1, hx⟩
    · rcases su with ⟨-, k | ⟨p1, p2, e, f, k1, k2, ne, hr, rfl⟩⟩ | ⟨a, b, e, f, e1, ⟨ha, hb, he, hf⟩, -⟩
      · rcases k with ⟨-, w, aw, rfl⟩ | ⟨g, -⟩
        · exact Or.inr (Or.inl ⟨mPv3_0 hA aw.1 aw.2.1, by rw [show 6 * w / 6 = w by omega]; exact aw⟩)
        · exact absurd rfl g
      · rcases k1 with ⟨-, w, aw, rfl⟩ | ⟨g, -⟩
        · rcases k2 with ⟨-, v, av, rfl⟩ | ⟨g, -⟩
          · exact Or.inr (Or.inr (two (n + 1) w v e f (by omega) aw av ne hr))
          · exact absurd rfl g
        · exact absurd rfl g
      · exfalso
        have := mPr_bd (mPv3_bd hA ha) (mPv3_bd hA hb) (e := e) (f := f) (by omega) (by omega)
        omega
    · have bt := mPv3_bd hA pt
      rcases su with ⟨-, k | ⟨p1, p2, e, f, k1, k2, ne, hr, rfl⟩⟩ | ⟨a, b, e, f, e1, ⟨ha, hb, he, hf⟩, -⟩
      · have pv := mNx_v hA (Or.inr pt) k
        rcases k with ⟨g, -⟩ | ⟨-, ⟨g1, rfl⟩ | ⟨g1, w, aw, -, rfl⟩⟩
        · omega
        · have l := (hA.2.1 (t / 6) at'.1 at'.2.1).1
          have := pt.2.2
          unfold mEn at g1
          exact Or.inr (Or.inl ⟨pv, by rw [show (t + 1) / 6 = t / 6 by omega]; exact at'⟩)
        · exact Or.inr (Or.inl ⟨pv, by rw [show 6 * w / 6 = w by omega]; exact aw⟩)
      · rcases k1 with ⟨g, -⟩ | ⟨-, ⟨g1, h1⟩ | ⟨g1, w, aw, -, rfl⟩⟩
        · omega
        · rcases k2 with ⟨g, -⟩ | ⟨-, ⟨g2, h2⟩ | ⟨g2, -⟩⟩
          · omega
          · exact absurd (h1.trans h2.symm) ne
          · exact absurd g2 g1
        · rcases k2 with ⟨g, -⟩ | ⟨-, ⟨g2, h2⟩ | ⟨g2, v, av, -, rfl⟩⟩
          · omega
          · exact absurd g1 g2
          · exact Or.inr (Or.inr (two (n + 1) w v e f (by omega) aw av ne hr))
      · exfalso
        have := mPr_bd (mPv3_bd hA ha) (mPv3_bd hA hb) (e := e) (f := f) (by omega) (by omega)
        omega
    · obtain ⟨⟨aw, i0⟩, ⟨av, j0⟩, x3, x4⟩ := xR_ac hv h M0 hx
      have pw := mPv3_bd hA (ac_pv aw hA i0)
      have pv := mPv3_bd hA (ac_pv av hA j0)
      have pb := mPr_bd pw pv (e := e) (f := f) (by omega) (by omega)
      rcases su with ⟨g, -⟩ | ⟨a, b, e', f', e1, ⟨ha, hb, he, hf⟩, p1, p2, e2, f2, k1, k2, hr, rfl⟩
      · omega
      · obtain ⟨y1, y2, y3, y4⟩ := mPr_inj pw pv (by omega) (by omega) (mPv3_bd hA ha) (mPv3_bd hA hb) (by omega) (by omega) e1
        subst y3 y4
        rw [← y1] at k1
        rw [← y2] at k2
        obtain ⟨w2, i2, rfl, s1, aw2, i02⟩ := nx_st hA h aw i0 k1
        obtain ⟨v2, j2, rfl, s2, av2, j02⟩ := nx_st hA h av j0 k2
        exact Or.inr (Or.inr ⟨w2, i2, v2, j2, e2, f2, n' + 1, rfl, by omega, w, i, v, j, e, f, hx, s1, s2, (hr_iff hA h aw2 av2 i02 j02).mpr hr⟩)
/-- the two answers are one -/
theorem search_eq {X : aM} {A : Nat → Int} {O M r r' : Int} (hA : mVx A) (hv : mTv X) (hs : xSym X M) (h : mXA X A O) (hM : mM3 M) (hr : mLst (fun L => ∃ n s, mCq X M n s (L : Nat) ∧ xz X M s) r) (hr' : mLst (fun n => ∃ s, mRq A O M 0 n s ∧ mGl A M s) r') : r = r' := by
  have M0 : 0 ≤ M ∧ M ≤ 2 := by rcases hM with h | h | h <;> omega
  refine mLst_uni ?_ ?_ hr hr'
  · rintro L ⟨k, s, h1, h2⟩
    obtain ⟨n, eL, w, i, v, j, e, f, hx, hi, hj, z1, z2⟩ := xG_of hv hs hM h1 h2
    obtain ⟨⟨aw, i0⟩, ⟨av, j0⟩, x3, x4⟩ := xR_ac hv h M0.1 hx
    refine ⟨n + 1, by omega, _, rq_of hA hv h M0.1 n w i v j e f hx, _, _, _, _, rfl, ⟨ac_pv aw hA i0, ac_pv av hA j0, x3, x4⟩, ?_, ?_⟩
    · have l := hA.2.1 w aw.1 aw.2.1
      have w0 := aw.1
      obtain ⟨k1, k2, -⟩ := h.2.1 w aw
      unfold mEn
      rw [show (6 * w + i) / 6 = w by omega, show (6 * w + i) % 6 = i by omega]
      exact ⟨by omega, by rw [← k1]; exact (h.2.2.2.1 _ (by omega) (by omega)).mp z1⟩
    · have l := hA.2.1 v av.1 av.2.1
      have w0 := av.1
      obtain ⟨k1, k2, -⟩ := h.2.1 v av
      unfold mEn
      rw [show (6 * v + j) / 6 = v by omega, show (6 * v + j) % 6 = j by omega]
      exact ⟨by omega, by rw [← k1]; exact (h.2.2.2.1 _ (by omega) (by omega)).mp z2⟩
  · rintro n ⟨s, h1, a, b, e', f', e1, ⟨ha, hb, he, hf⟩, ⟨g1, g2⟩, ⟨g3, g4⟩⟩
    have pb := mPr_bd (mPv3_bd hA ha) (mPv3_bd hA hb) (e := e') (f := f') (by omega) (by omega)
    rcases of_rq hA hv h M0.1 M0.2 n s h1 with k | k | ⟨w, i, v, j, e, f, n', e2, n1, hx⟩
    · omega
    · have := mPv3_bd hA k.1; omega
    · obtain ⟨⟨aw, i0⟩, ⟨av, j0⟩, x3, x4⟩ := xR_ac hv h M0.1 hx
      have pw := mPv3_bd hA (ac_pv aw hA i0)
      have pv := mPv3_bd hA (ac_pv av hA j0)
      obtain ⟨y1, y2, y3, y4⟩ := mPr_inj pw pv (by omega) (by omega) (mPv3_bd hA ha) (mPv3_bd hA hb) (by omega) (by omega) (e2.symm.trans e1)
      rw [← y1] at g1 g2
      rw [← y2] at g3 g4
      have lw := hA.2.1 w aw.1 aw.2.1
      have lv := hA.2.1 v av.1 av.2.1
      have w0 := aw.1
      have v0 := av.1
      obtain ⟨k1, k2, -⟩ := h.2.1 w aw
      obtain ⟨k3, k4, -⟩ := h.2.1 v av
      unfold mEn at g1 g3
      rw [show (6 * w + i) / 6 = w by omega] at g1 g2
      rw [show (6 * w + i) % 6 = i by omega] at g1
      rw [show (6 * v + j) / 6 = v by omega] at g3 g4
      rw [show (6 * v + j) % 6 = j by omega] at g3
      have z1 : xe X (xk X w) := by rw [k1]; exact (h.2.2.2.1 _ (by omega) (by omega)).mpr g2
      have z2 : xe X (xk X v) := by rw [k3]; exact (h.2.2.2.1 _ (by omega) (by omega)).mpr g4
      obtain ⟨k, s', q1, q2⟩ := xG_to (n := n') hv hs hM ⟨w, i, v, j, e, f, hx, by omega, by omega, z1, z2⟩
      exact ⟨n' + 1, by omega, k, s', q1, q2⟩
