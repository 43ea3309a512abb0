/-! BOTH SEARCHES FIND THE SAME -/
/-- two that differ and are heard as one, of n + 1 sounds -/
def xG (X : aM) (M : Int) (n : Nat) : Prop := ∃ w i v j e f, xR X M n w i v j e f ∧ i + 1 = xl X w ∧ j + 1 = xl X v ∧ xe X (xk X w) ∧ xe X (xk X v)
theorem xG_of {X : aM} {M s L : Int} {k : Nat} (hv : mTv X) (hs : xSym X M) (hM : mM3 M) (h : mCq X M k s L) (z : xz X M s) : ∃ n : Nat, L = n + 1 ∧ xG X M n := by
  have M0 : 0 ≤ M := by rcases hM with h | h | h <;> omega
  obtain ⟨k1, k2, e, f, rfl, ⟨g1, g2, g3, g4⟩, z1, z2⟩ := z
  have eb := mEv_bd hM g1 g2 g3 g4
  rcases xD_of hv hs hM k _ L h with ⟨w', aw', e1, -⟩ | ⟨w', out', kb', e', f', n', a, i, b, j, e1, ⟨aw', hb', hg'⟩, -, hx, -⟩ | ⟨k1', k2', e', f', n', a, i, b, j, e1, eL, hx, ia, jb, ka, kb⟩
  · exfalso
    have l := (hv.2.1 w' aw').1
    have := mOd_bd hM ⟨aw'.1, aw'.2.1⟩ (out := xl X w') (kb := 4) (e := 0) (f := 0) (by omega) (by omega) (by omega) (by omega)
    rw [mSt3_odd] at e1
    omega
  · exfalso
    have l := (hv.2.1 w' aw').1
    obtain ⟨-, -, x3, x4⟩ := xR_v hv M0 hx
    have := mOd_bd hM ⟨aw'.1, aw'.2.1⟩ (out := out') (kb := kb') (e := e') (f := f') (by omega) (by omega) x3 x4
    omega
  · obtain ⟨x1, x2, x3, x4⟩ := xR_v hv M0 hx
    have ra := (hv.2.1 a x1.1).2.1
    have rb := (hv.2.1 b x2.1).2.1
    obtain ⟨y1, y2, -, -⟩ := mEv_inj hM g1 g2 g3 g4 (by omega) (by omega) x3 x4 e1
    exact ⟨n', eL, a, i, b, j, e', f', hx, ia, jb, by rw [ka, ← y1]; exact z1, by rw [kb, ← y2]; exact z2⟩
theorem xG_to {X : aM} {M : Int} {n : Nat} (hv : mTv X) (hs : xSym X M) (hM : mM3 M) (h : xG X M n) : ∃ k s, mCq X M k s (n + 1) ∧ xz X M s := by
  have M0 : 0 ≤ M := by rcases hM with h | h | h <;> omega
  obtain ⟨w, i, v, j, e, f, hx, hi, hj, z1, z2⟩ := h
  -- the meeting that ends both
  have fin : ∀ w i v j e f, xPM X M n w i v j e f → e ≤ M → f ≤ M → i + 1 = xl X w → j + 1 = xl X v → xe X (xk X w) → xe X (xk X v) → ∃ k s, mCq X M k s (n + 1) ∧ xz X M s := by
    intro w i v j e f p em fm hi hj z1 z2
    obtain ⟨k, w', out, kb, e0, f0, v', t, ei, bo, x, L0, hq, ⟨aw, hb, hg, hc, hd⟩, nw, t1, tL, tl, x1, he, hf, rfl, hi', rfl, hj'⟩ := p
    have tb := mTl_bd tl
    have lw := hv.2.1 w aw
    have lv := hv.2.1 v nw.1
    have ct : t = if xl X v < out then xl X v else out := by split <;> omega
    have cu : mCu X M (mOd M w out kb e0 f0) t (mJn X M w out v e f) := Or.inr ⟨w, out, kb, e0, f0, v, rfl, ⟨aw, hb, hg, hc, hd⟩, nw, t, ei, bo, x, ct, tl, x1, by omega, by omega, by rw [he, hf], by omega⟩
    have q1 : mCq X M (k + 1) (mJn X M w out v e f) (n + 1) := ⟨_, _, _, hq, cu, by omega⟩
    refine ⟨k + 1, _, q1, ?_⟩
    unfold mJn
    rw [if_neg (by omega), if_neg (by omega)]
    by_cases u : xk X v < xk X w
    · rw [if_pos u]; exact ⟨_, _, _, _, rfl, ⟨lv.2.1, lw.2.1, by omega, by omega⟩, z2, z1⟩
    · rw [if_neg u]; exact ⟨_, _, _, _, rfl, ⟨lw.2.1, lv.2.1, by omega, by omega⟩, z1, z2⟩
  obtain ⟨-, -, x3, x4⟩ := xR_v hv M0 hx
  rcases xPM_of hv hs hM n w i v j e f hx with p | p
  · exact fin w i v j e f p x3.2 x4.2 hi hj z1 z2
  · exact fin v j w i f e p x4.2 x3.2 hj hi z2 z1
/-- the class's words X are the reference's words A, less those out -/
def mXA (X : aM) (A : Nat → Int) (O : Int) : Prop := (∀ w, xa X w ↔ mAc A O w) ∧ (∀ w, mAc A O w → xk X w = A (45 + w).toNat ∧ xl X w = A (19 + w).toNat ∧ ∀ k : Int, 0 ≤ k → k < A (19 + w).toNat → xs X w k = A (58 + 6 * w + k).toNat) ∧ (∀ k w : Int, 0 ≤ k → k ≤ 3 → mAc A O w → (xf X k w ↔ mKs A k w)) ∧ (∀ k : Int, 0 ≤ k → k ≤ 3 → (xe X k ↔ mKe A k)) ∧ ∀ x : Int, 0 ≤ x → x < 8 → X 98 x.toNat = A (10 + x).toNat
theorem xi_like {X : aM} {A : Nat → Int} {O x y : Int} (h : mXA X A O) (x0 : 0 ≤ x) (x1 : x < 8) : xi X x y ↔ iand (ishr (A (10 + x).toNat) y) 1 = 1 := by
  unfold xi
  rw [h.2.2.2.2 x x0 x1]
  have := bt_01 (a := A (10 + x).toNat) (k := y)
  omega
theorem xc_like {X : aM} {A : Nat → Int} {O x y : Int} (h : mXA X A O) (x0 : 0 ≤ x) (x1 : x < 8) (y0 : 0 ≤ y) (y1 : y < 8) : xc X x y ↔ iand (A (10 + x).toNat) (A (10 + y).toNat) ≠ 0 := by
  unfold xc
  rw [h.2.2.2.2 x x0 x1, h.2.2.2.2 y y0 y1]
theorem nostop {A : Nat → Int} {p : Int} (h : mVx A) (hp : mPv3 A p) : ¬ mSp3 A 0 p := by
  intro g
  have k := (h.2.1 (p / 6) (by have := hp.1; omega) hp.2.1).2.1
  have := bt_0 (k := A (45 + p / 6).toNat) (by omega) (by omega)
  have := g.2
  omega
theorem hr_iff {X : aM} {A : Nat → Int} {O M w i v j e f e' f' : Int} (hA : mVx A) (h : mXA X A O) (aw : mAc A O w) (av : mAc A O v) (i0 : 0 ≤ i ∧ i < A (19 + w).toNat) (j0 : 0 ≤ j ∧ j < A (19 + v).toNat) : xHr X M (xs X w i) (xs X v j) e f e' f' ↔ mHr A M 0 (6 * w + i) (6 * v + j) e f e' f' := by
  have lw := hA.2.1 w aw.1 aw.2.1
  have lv := hA.2.1 v av.1 av.2.1
  have pw : mPv3 A (6 * w + i) := by
    have := aw.1
    have := aw.2.1
    refine ⟨by omega, by omega, ?_⟩
    rw [show (6 * w + i) / 6 = w by omega]; omega
  have pv : mPv3 A (6 * v + j) := by
    have := av.1
    have := av.2.1
    refine ⟨by omega, by omega, ?_⟩
    rw [show (6 * v + j) / 6 = v by omega]; omega
  have ex : xs X w i = A (58 + (6 * w + i)).toNat := by
    rw [(h.2.1 w aw).2.2 i i0.1 i0.2]; congr 2; omega
  have ey : xs X v j = A (58 + (6 * v + j)).toNat := by
    rw [(h.2.1 v av).2.2 j j0.1 j0.2]; congr 2; omega
  have bx := pl_sound hA pw
  have by' := pl_sound hA pv
  rw [ex, ey]
  have il := xi_like (y := A (58 + (6 * v + j)).toNat) h bx.1 bx.2
  have cl := xc_like h bx.1 bx.2 by'.1 by'.2
  unfold xHr mHr
  rw [il, cl]
  constructor
  · intro k
    exact ⟨⟨fun g => absurd g (nostop hA pw), fun g => absurd g (nostop hA pv)⟩, k⟩
  · intro k; exact k.2
theorem st_iff {X : aM} {A : Nat → Int} {O w i w' i' : Int} (hA : mVx A) (h : mXA X A O) (aw : mAc A O w) (i0 : 0 ≤ i ∧ i < A (19 + w).toNat) (k : xSt X w i w' i') : mNx A O (6 * w + i) (6 * w' + i') := by
  have lw := hA.2.1 w aw.1 aw.2.1
  have w0 := aw.1
  have e1 : (6 * w + i) / 6 = w := by omega
  have e2 : (6 * w + i) % 6 = i := by omega
  obtain ⟨k1, k2, -⟩ := h.2.1 w aw
  rcases k with ⟨g1, rfl, rfl⟩ | ⟨g1, g2, g3, rfl⟩
  · refine Or.inr ⟨by omega, Or.inl ⟨?_, by omega⟩⟩
    unfold mEn
    rw [e1, e2]; omega
  · refine Or.inr ⟨by omega, Or.inr ⟨?_, w', (h.1 w').mp g2, ?_, by omega⟩⟩
    · unfold mEn
      rw [e1, e2]; omega
    · rw [e1, ← k1]
      exact (h.2.2.1 _ _ (by omega) (by omega) ((h.1 w').mp g2)).mp g3
theorem xR_ac {X : aM} {A : Nat → Int} {O M : Int} (hv : mTv X) (h : mXA X A O) (M0 : 0 ≤ M) {n : Nat} {w i v j e f : Int} (k : xR X M n w i v j e f) : (mAc A O w ∧ 0 ≤ i ∧ i < A (19 + w).toNat) ∧ (mAc A O v ∧ 0 ≤ j ∧ j < A (19 + v).toNat) ∧ (0 ≤ e ∧ e ≤ M) ∧ (0 ≤ f ∧ f ≤ M) := by
  obtain ⟨x1, x2, x3, x4⟩ := xR_v hv M0 k
  have aw := (h.1 w).mp x1.1
  have av := (h.1 v).mp x2.1
  have lw := (h.2.1 w aw).2.1
  have lv := (h.2.1 v av).2.1
  exact ⟨⟨aw, by omega, by omega⟩, ⟨av, by omega, by omega⟩, x3, x4⟩
theorem ac_pv {A : Nat → Int} {O w i : Int} (aw : mAc A O w) (hA : mVx A) (i0 : 0 ≤ i ∧ i < A (19 + w).toNat) : mPv3 A (6 * w + i) := by
  have l := (hA.2.1 w aw.1 aw.2.1).1
  have := aw.1
  have := aw.2.1
  refine ⟨by omega, by omega, ?_⟩
  rw [show (6 * w + i) / 6 = w by omega]; omega
theorem rq_of {X : aM} {A : Nat → Int} {O M : Int} (hA : mVx A) (hv : mTv X) (h : mXA X A O) (M0 : 0 ≤ M) : ∀ (n : Nat) (w i v j e f : Int), xR X M n w i v j e f → mRq A O M 0 (n + 1) (mPr (6 * w + i) (6 * v + j) e f) := by
  intro n
  induction n with
  | zero =>
    rintro w i v j e f k
    obtain ⟨⟨aw, i0⟩, ⟨av, j0⟩, -, -⟩ := xR_ac hv h M0 k
    obtain ⟨-, -, ne, rfl, rfl, hr⟩ := k
    refine ⟨-1, rfl, Or.inl ⟨by omega, Or.inr ⟨6 * w + 0, 6 * v + 0, e, f, Or.inl ⟨rfl, w, aw, by omega⟩, Or.inl ⟨rfl, v, av, by omega⟩, by omega, ?_, rfl⟩⟩⟩
    exact (hr_iff hA h aw av i0 j0).mp hr
  | succ n ih =>
    rintro w i v j e f k
    obtain ⟨⟨aw, i0⟩, ⟨av, j0⟩, -, -⟩ := xR_ac hv h M0 k
    obtain ⟨w', i', v', j', e', f', k', s1, s2, hr⟩ := k
    obtain ⟨⟨aw', i0'⟩, ⟨av', j0'⟩, x3, x4⟩ := xR_ac hv h M0 k'
    exact ⟨_, ih w' i' v' j' e' f' k', Or.inr ⟨_, _, _, _, rfl, ⟨ac_pv aw' hA i0', ac_pv av' hA j0', x3, x4⟩, _, _, _, _, st_iff hA h aw' i0' s1, st_iff hA h av' j0' s2, (hr_iff hA h aw av i0 j0).mp hr, rfl⟩⟩
