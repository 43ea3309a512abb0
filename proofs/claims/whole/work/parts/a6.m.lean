/-! STOPS behind some kinds: both searches again, without mistakes -/
def zS (A : Nat → Int) (Z w : Int) : Prop := iand (ishr Z (A (45 + w).toNat)) 1 = 1
def mZA (X : aM) (A : Nat → Int) (Z : Int) : Prop := (∀ w, xa X w ↔ 0 ≤ w ∧ w < A 18) ∧ (∀ w, 0 ≤ w → w < A 18 → xk X w = A (45 + w).toNat ∧ (∀ k : Int, 0 ≤ k → k < A (19 + w).toNat → xs X w k = A (58 + 6 * w + k).toNat) ∧ ((¬ zS A Z w ∧ xl X w = A (19 + w).toNat) ∨ (zS A Z w ∧ xl X w = A (19 + w).toNat + 1 ∧ xs X w (A (19 + w).toNat) = 8))) ∧ (∀ k w : Int, 0 ≤ k → k ≤ 3 → 0 ≤ w → w < A 18 → (xf X k w ↔ mKs A k w)) ∧ (∀ k : Int, 0 ≤ k → k ≤ 3 → (xe X k ↔ mKe A k))
theorem sp_z {A : Nat → Int} {Z w i : Int} (w0 : 0 ≤ w) (i0 : 0 ≤ i ∧ i < 6) : mSp3 A Z (6 * w + i) ↔ i + 1 = A (19 + w).toNat ∧ zS A Z w := by
  unfold mSp3 mEn zS
  rw [show (6 * w + i) / 6 = w by omega, show (6 * w + i) % 6 = i by omega]
theorem ac_0 {A : Nat → Int} (hA : mVx A) {w : Int} : mAc A 0 w ↔ 0 ≤ w ∧ w < A 18 := by
  have := hA.1
  unfold mAc
  constructor
  · rintro ⟨a, b, -⟩; exact ⟨a, b⟩
  · rintro ⟨a, b⟩
    have := bt_0 (k := w) a (by omega)
    exact ⟨a, b, by omega⟩
theorem xHr_0 {X : aM} {x y e' f' : Int} : xHr X 0 x y 0 0 e' f' ↔ x = y ∧ e' = 0 ∧ f' = 0 := by
  unfold xHr
  constructor
  · rintro (h | ⟨-, -, h | h⟩ | ⟨-, -, -, h, -⟩)
    · exact h
    · omega
    · omega
    · omega
  · intro h; exact Or.inl h
theorem mHr_0 {A : Nat → Int} {Z a b e' f' : Int} : mHr A 0 Z a b 0 0 e' f' ↔ (mSp3 A Z a ↔ mSp3 A Z b) ∧ A (58 + a).toNat = A (58 + b).toNat ∧ e' = 0 ∧ f' = 0 := by
  unfold mHr
  constructor
  · rintro ⟨h0, h | ⟨-, -, h | h⟩ | ⟨-, -, -, h, -⟩⟩
    · exact ⟨h0, h⟩
    · omega
    · omega
    · omega
  · intro h; exact ⟨h.1, Or.inl h.2⟩
theorem pv_z {A : Nat → Int} {w i : Int} (w0 : 0 ≤ w ∧ w < A 18) (i0 : 0 ≤ i ∧ i < A (19 + w).toNat) (i6 : i < 6) : mPv3 A (6 * w + i) := by
  refine ⟨by omega, by omega, ?_⟩
  rw [show (6 * w + i) / 6 = w by omega, show (6 * w + i) % 6 = i by omega]
  exact i0.2
theorem zR_to {X : aM} {A : Nat → Int} {Z : Int} (hA : mVx A) (h : mZA X A Z) : ∀ (n : Nat) (w i v j e f : Int), xR X 0 n w i v j e f → (e = 0 ∧ f = 0) ∧ (0 ≤ w ∧ w < A 18) ∧ (0 ≤ v ∧ v < A 18) ∧ (((i = A (19 + w).toNat ∧ j = A (19 + v).toNat ∧ zS A Z w ∧ zS A Z v) ∧ ∃ n', mRq A 0 0 Z n' (mPr (6 * w + (i - 1)) (6 * v + (j - 1)) 0 0)) ∨ (((0 ≤ i ∧ i < A (19 + w).toNat) ∧ (0 ≤ j ∧ j < A (19 + v).toNat)) ∧ ((mSp3 A Z (6 * w + i) ↔ mSp3 A Z (6 * v + j)) → ∃ n', mRq A 0 0 Z n' (mPr (6 * w + i) (6 * v + j) 0 0)))) := by
  obtain ⟨h1, h2, h3, h4⟩ := h
  have snd : ∀ w i : Int, 0 ≤ w → w < A 18 → 0 ≤ i → i < A (19 + w).toNat → 0 ≤ xs X w i ∧ xs X w i < 8 := fun w i a b c d => by
    rw [(h2 w a b).2.1 i c d]; exact (hA.2.1 w a b).2.2 i c d
  intro n
  induction n with
  | zero =>
    rintro w i v j e f ⟨aw, av, ne, rfl, rfl, hr⟩
    have w0 := (h1 w).mp aw
    have v0 := (h1 v).mp av
    have lw := (hA.2.1 w w0.1 w0.2).1
    have lv := (hA.2.1 v v0.1 v0.2).1
    obtain ⟨r1, r2, r3⟩ := xHr_0.mp hr
    refine ⟨⟨r2, r3⟩, w0, v0, Or.inr ⟨⟨by omega, by omega⟩, fun sp => ⟨1, -1, rfl, Or.inl ⟨by omega, Or.inr ⟨6 * w + 0, 6 * v + 0, 0, 0, Or.inl ⟨rfl, w, (ac_0 hA).mpr w0, by omega⟩, Or.inl ⟨rfl, v, (ac_0 hA).mpr v0, by omega⟩, by omega, mHr_0.mpr ⟨sp, ?_, rfl, rfl⟩, rfl⟩⟩⟩⟩⟩
    rw [(h2 w w0.1 w0.2).2.1 0 (by omega) (by omega), (h2 v v0.1 v0.2).2.1 0 (by omega) (by omega)] at r1
    rw [show 58 + (6 * w + 0) = 58 + 6 * w + 0 by omega, show 58 + (6 * v + 0) = 58 + 6 * v + 0 by omega]
    exact r1
  | succ n ih =>
    rintro w1 i1 v1 j1 e1 f1 ⟨w, i, v, j, e, f, hx, sw, sv, hr⟩
    obtain ⟨⟨rfl, rfl⟩, w0, v0, cs⟩ := ih w i v j e f hx
    obtain ⟨r1, r2, r3⟩ := xHr_0.mp hr
    refine ⟨⟨r2, r3⟩, ?_⟩
    have lw := (hA.2.1 w w0.1 w0.2).1
    have lv := (hA.2.1 v v0.1 v0.2).1
    have kw := hA.2.1 w w0.1 w0.2
    have kv := hA.2.1 v v0.1 v0.2
    obtain ⟨a1, a2, a3⟩ := h2 w w0.1 w0.2
    obtain ⟨b1, b2, b3⟩ := h2 v v0.1 v0.2
    -- a step of the reference out of a pair
    have stp : ∀ i j w1 i1 v1 j1 : Int, (0 ≤ i ∧ i < A (19 + w).toNat) → (0 ≤ j ∧ j < A (19 + v).toNat) → mNx A 0 (6 * w + i) (6 * w1 + i1) → mNx A 0 (6 * v + j) (6 * v1 + j1) → (0 ≤ w1 ∧ w1 < A 18) → (0 ≤ v1 ∧ v1 < A 18) → (0 ≤ i1 ∧ i1 < A (19 + w1).toNat) → (0 ≤ j1 ∧ j1 < A (19 + v1).toNat) → xs X w1 i1 = xs X v1 j1 → (∃ n', mRq A 0 0 Z n' (mPr (6 * w + i) (6 * v + j) 0 0)) → (mSp3 A Z (6 * w1 + i1) ↔ mSp3 A Z (6 * v1 + j1)) → ∃ n', mRq A 0 0 Z n' (mPr (6 * w1 + i1) (6 * v1 + j1) 0 0) := by
      rintro i j w1 i1 v1 j1 i0 j0 nw nv w10 v10 i10 j10 es ⟨n', q⟩ sp
      refine ⟨n' + 1, _, q, Or.inr ⟨_, _, 0, 0, rfl, ⟨pv_z w0 i0 (by omega), pv_z v0 j0 (by omega), by omega, by omega⟩, _, _, 0, 0, nw, nv, mHr_0.mpr ⟨sp, ?_, rfl, rfl⟩, rfl⟩⟩
      rw [(h2 w1 w10.1 w10.2).2.1 i1 i10.1 i10.2, (h2 v1 v10.1 v10.2).2.1 j1 j10.1 j10.2] at es
      rw [show 58 + (6 * w1 + i1) = 58 + 6 * w1 + i1 by omega, show 58 + (6 * v1 + j1) = 58 + 6 * v1 + j1 by omega]
      exact es
    -- a new word behind an end
    have nwd : ∀ (w w1 i : Int), (0 ≤ w ∧ w < A 18) → xa X w1 → xf X (xk X w) w1 → i + 1 = A (19 + w).toNat → 0 ≤ i → mNx A 0 (6 * w + i) (6 * w1 + 0) := by
      intro w w1 i w0 xw xf1 ei i0
      have w10 := (h1 w1).mp xw
      have kk := hA.2.1 w w0.1 w0.2
      rw [(h2 w w0.1 w0.2).1] at xf1
      refine Or.inr ⟨by omega, Or.inr ⟨?_, w1, (ac_0 hA).mpr w10, ?_, by omega⟩⟩
      · unfold mEn; rw [show (6 * w + i) / 6 = w by omega, show (6 * w + i) % 6 = i by omega]; exact ei
      · rw [show (6 * w + i) / 6 = w by omega]; exact (h3 _ _ kk.2.1.1 kk.2.1.2 w10.1 w10.2).mp xf1
    have stay : ∀ (w i : Int), (0 ≤ w ∧ w < A 18) → 0 ≤ i → i + 1 < A (19 + w).toNat → mNx A 0 (6 * w + i) (6 * w + (i + 1)) := by
      intro w i w0 i0 i1
      have kk := hA.2.1 w w0.1 w0.2
      refine Or.inr ⟨by omega, Or.inl ⟨?_, by omega⟩⟩
      unfold mEn; rw [show (6 * w + i) / 6 = w by omega, show (6 * w + i) % 6 = i by omega]; omega
    rcases cs with ⟨⟨ci, cj, zw, zv⟩, q⟩ | ⟨⟨i0, j0⟩, q⟩
    · -- both stand at stops: both go on with new words
      have xlw : xl X w = A (19 + w).toNat + 1 := by
        rcases a3 with g | g
        · exact absurd zw g.1
        · exact g.2.1
      have xlv : xl X v = A (19 + v).toNat + 1 := by
        rcases b3 with g | g
        · exact absurd zv g.1
        · exact g.2.1
      rcases sw with ⟨g, -⟩ | ⟨-, xw, xfw, rfl⟩
      · omega
      rcases sv with ⟨g, -⟩ | ⟨-, xv, xfv, rfl⟩
      · omega
      have w10 := (h1 w1).mp xw
      have v10 := (h1 v1).mp xv
      have lw1 := (hA.2.1 w1 w10.1 w10.2).1
      have lv1 := (hA.2.1 v1 v10.1 v10.2).1
      exact ⟨w10, v10, Or.inr ⟨⟨by omega, by omega⟩, fun sp => stp (i - 1) (j - 1) w1 0 v1 0 (by omega) (by omega) (nwd w w1 (i - 1) w0 xw xfw (by omega) (by omega)) (nwd v v1 (j - 1) v0 xv xfv (by omega) (by omega)) w10 v10 (by omega) (by omega) r1 q sp⟩⟩
    · -- both stand at sounds
      -- where a sentence goes: a stop, or a sound
      have cl : ∀ (w i w1 i1 : Int), (0 ≤ w ∧ w < A 18) → (0 ≤ i ∧ i < A (19 + w).toNat) → xSt X w i w1 i1 → (w1 = w ∧ i1 = A (19 + w).toNat ∧ i + 1 = A (19 + w).toNat ∧ zS A Z w ∧ xs X w1 i1 = 8) ∨ ((0 ≤ w1 ∧ w1 < A 18) ∧ (0 ≤ i1 ∧ i1 < A (19 + w1).toNat) ∧ mNx A 0 (6 * w + i) (6 * w1 + i1) ∧ ¬ mSp3 A Z (6 * w + i)) := by
        intro w i w1 i1 w0 i0 st
        obtain ⟨-, -, c3⟩ := h2 w w0.1 w0.2
        have ll := (hA.2.1 w w0.1 w0.2).1
        rcases st with ⟨g1, rfl, rfl⟩ | ⟨g1, g2, g3, rfl⟩
        · by_cases e : i + 1 = A (19 + w1).toNat
          · rcases c3 with c | c
            · omega
            · exact Or.inl ⟨rfl, e, e, c.1, by rw [e]; exact c.2.2⟩
          · refine Or.inr ⟨w0, by omega, stay w1 i w0 i0.1 (by omega), fun sp => ?_⟩
            have := ((sp_z w0.1 (by omega)).mp sp).1
            omega
        · rcases c3 with c | c
          · have w10 := (h1 w1).mp g2
            have l1 := (hA.2.1 w1 w10.1 w10.2).1
            refine Or.inr ⟨w10, by omega, nwd w w1 i w0 g2 g3 (by omega) i0.1, fun sp => c.1 ((sp_z w0.1 (by omega)).mp sp).2⟩
          · omega
      rcases cl w i w1 i1 w0 i0 sw with ⟨rfl, g2, g3, g4, g5⟩ | ⟨w10, i10, nw, nsp⟩
      · rcases cl v j v1 j1 v0 j0 sv with ⟨rfl, k2, k3, k4, k5⟩ | ⟨v10, j10, -, -⟩
        · refine ⟨w0, v0, Or.inl ⟨⟨g2, k2, g4, k4⟩, ?_⟩⟩
          have := q ⟨fun _ => (sp_z v0.1 (by omega)).mpr ⟨k3, k4⟩, fun _ => (sp_z w0.1 (by omega)).mpr ⟨g3, g4⟩⟩
          rw [show i1 - 1 = i by omega, show j1 - 1 = j by omega]
          exact this
        · have := snd v1 j1 v10.1 v10.2 j10.1 j10.2
          omega
      · rcases cl v j v1 j1 v0 j0 sv with ⟨rfl, k2, k3, k4, k5⟩ | ⟨v10, j10, nv, nsp2⟩
        · have := snd w1 i1 w10.1 w10.2 i10.1 i10.2
          omega
        · exact ⟨w10, v10, Or.inr ⟨⟨i10, j10⟩, fun sp => stp i j w1 i1 v1 j1 i0 j0 nw nv w10 v10 i10 j10 r1 (q ⟨fun g => absurd g nsp, fun g => absurd g nsp2⟩) sp⟩⟩
theorem zR_of {X : aM} {A : Nat → Int} {Z : Int} (hA : mVx A) (h : mZA X A Z) : ∀ (n : Nat) (s : Int), mRq A 0 0 Z n s → s = -1 ∨ mPv3 A s ∨ (∃ (w i v j i' j' : Int) (n' : Nat), s = mPr (6 * w + i) (6 * v + j) 0 0 ∧ ((0 ≤ w ∧ w < A 18) ∧ (0 ≤ v ∧ v < A 18) ∧ (0 ≤ i ∧ i < A (19 + w).toNat) ∧ (0 ≤ j ∧ j < A (19 + v).toNat)) ∧ (mSp3 A Z (6 * w + i) ↔ mSp3 A Z (6 * v + j)) ∧ xR X 0 n' w i' v j' 0 0 ∧ ((mSp3 A Z (6 * w + i) ∧ i' = i + 1 ∧ j' = j + 1) ∨ (¬ mSp3 A Z (6 * w + i) ∧ i' = i ∧ j' = j))) := by
  obtain ⟨h1, h2, h3, h4⟩ := h
  -- behind its last sound a word may have a stop
  have ext : ∀ (w i v j : Int) (n : Nat), (0 ≤ w ∧ w < A 18) → (0 ≤ v ∧ v < A 18) → (0 ≤ i ∧ i < A (19 + w).toNat) → (0 ≤ j ∧ j < A (19 + v).toNat) → (mSp3 A Z (6 * w + i) ↔ mSp3 A Z (6 * v + j)) → xR X 0 n w i v j 0 0 → (∃ (w' i' v' j' i'' j'' : Int) (n' : Nat), mPr (6 * w + i) (6 * v + j) 0 0 = mPr (6 * w' + i') (6 * v' + j') 0 0 ∧ ((0 ≤ w' ∧ w' < A 18) ∧ (0 ≤ v' ∧ v' < A 18) ∧ (0 ≤ i' ∧ i' < A (19 + w').toNat) ∧ (0 ≤ j' ∧ j' < A (19 + v').toNat)) ∧ (mSp3 A Z (6 * w' + i') ↔ mSp3 A Z (6 * v' + j')) ∧ xR X 0 n' w' i'' v' j'' 0 0 ∧ ((mSp3 A Z (6 * w' + i') ∧ i'' = i' + 1 ∧ j'' = j' + 1) ∨ (¬ mSp3 A Z (6 * w' + i') ∧ i'' = i' ∧ j'' = j'))) := by
    intro w i v j n w0 v0 i0 j0 sp hx
    have lw := (hA.2.1 w w0.1 w0.2).1
    have lv := (hA.2.1 v v0.1 v0.2).1
    by_cases c : mSp3 A Z (6 * w + i)
    · have c1 := (sp_z w0.1 (by omega)).mp c
      have c2 := (sp_z v0.1 (by omega)).mp (sp.mp c)
      have xw : xl X w = A (19 + w).toNat + 1 ∧ xs X w (A (19 + w).toNat) = 8 := by
        rcases (h2 w w0.1 w0.2).2.2 with g | g
        · exact absurd c1.2 g.1
        · exact g.2
      have xv : xl X v = A (19 + v).toNat + 1 ∧ xs X v (A (19 + v).toNat) = 8 := by
        rcases (h2 v v0.1 v0.2).2.2 with g | g
        · exact absurd c2.2 g.1
        · exact g.2
      refine ⟨w, i, v, j, i + 1, j + 1, n + 1, rfl, ⟨w0, v0, i0, j0⟩, sp, ⟨w, i, v, j, 0, 0, hx, Or.inl ⟨by omega, rfl, rfl⟩, Or.inl ⟨by omega, rfl, rfl⟩, xHr_0.mpr ⟨?_, rfl, rfl⟩⟩, Or.inl ⟨c, rfl, rfl⟩⟩
      rw [c1.1, c2.1, xw.2, xv.2]
    · exact ⟨w, i, v, j, i, j, n, rfl, ⟨w0, v0, i0, j0⟩, sp, hx, Or.inr ⟨c, rfl, rfl⟩⟩
  have two : ∀ (w v e f : Int), mAc A 0 w → mAc A 0 v → (6 * w : Int) ≠ 6 * v → mHr A 0 Z (6 * w) (6 * v) 0 0 e f → (∃ (w' i' v' j' i'' j'' : Int) (n' : Nat), mPr (6 * w) (6 * v) e f = mPr (6 * w' + i') (6 * v' + j') 0 0 ∧ ((0 ≤ w' ∧ w' < A 18) ∧ (0 ≤ v' ∧ v' < A 18) ∧ (0 ≤ i' ∧ i' < A (19 + w').toNat) ∧ (0 ≤ j' ∧ j' < A (19 + v').toNat)) ∧ (mSp3 A Z (6 * w' + i') ↔ mSp3 A Z (6 * v' + j')) ∧ xR X 0 n' w' i'' v' j'' 0 0 ∧ ((mSp3 A Z (6 * w' + i') ∧ i'' = i' + 1 ∧ j'' = j' + 1) ∨ (¬ mSp3 A Z (6 * w' + i') ∧ i'' = i' ∧ j'' = j'))) := by
    intro w v e f aw av ne hr
    have w0 := (ac_0 hA).mp aw
    have v0 := (ac_0 hA).mp av
    have lw := (hA.2.1 w w0.1 w0.2).1
    have lv := (hA.2.1 v v0.1 v0.2).1
    obtain ⟨r0, r1, rfl, rfl⟩ := mHr_0.mp hr
    have hx : xR X 0 0 w 0 v 0 0 0 := ⟨(h1 w).mpr w0, (h1 v).mpr v0, by omega, rfl, rfl, xHr_0.mpr ⟨by
      rw [(h2 w w0.1 w0.2).2.1 0 (by omega) (by omega), (h2 v v0.1 v0.2).2.1 0 (by omega) (by omega), Int.add_zero, Int.add_zero]
      exact r1, rfl, rfl⟩⟩
    have := ext w 0 v 0 0 w0 v0 (by omega) (by omega) (by rw [Int.add_zero, Int.add_zero]; exact r0) hx
    rw [Int.add_zero, Int.add_zero] at this
    exact this
  -- a step of one sentence
  have nx : ∀ (w i i' p : Int), (0 ≤ w ∧ w < A 18) → (0 ≤ i ∧ i < A (19 + w).toNat) → ((mSp3 A Z (6 * w + i) ∧ i' = i + 1) ∨ (¬ mSp3 A Z (6 * w + i) ∧ i' = i)) → mNx A 0 (6 * w + i) p → ∃ w1 i1, p = 6 * w1 + i1 ∧ xSt X w i' w1 i1 ∧ (0 ≤ w1 ∧ w1 < A 18) ∧ (0 ≤ i1 ∧ i1 < A (19 + w1).toNat) := by
    intro w i i' p w0 i0 hi k
    have lw := (hA.2.1 w w0.1 w0.2)
    obtain ⟨c1, c2, c3⟩ := h2 w w0.1 w0.2
    have e1 : (6 * w + i) / 6 = w := by omega
    have e2 : (6 * w + i) % 6 = i := by omega
    rw [sp_z w0.1 (by omega)] at hi
    rcases k with ⟨g, -⟩ | ⟨-, ⟨g1, rfl⟩ | ⟨g1, w', g2, g3, rfl⟩⟩
    · omega
    · unfold mEn at g1
      rw [e1, e2] at g1
      refine ⟨w, i + 1, by omega, Or.inl ⟨?_, rfl, ?_⟩, w0, by omega⟩
      · rcases c3 with c | c <;> omega
      · rcases hi with g | g
        · omega
        · omega
    · unfold mEn at g1
      rw [e1, e2] at g1
      rw [e1] at g3
      have w10 := (ac_0 hA).mp g2
      have l1 := (hA.2.1 w' w10.1 w10.2).1
      refine ⟨w', 0, by omega, Or.inr ⟨?_, (h1 w').mpr w10, by rw [c1]; exact (h3 _ _ lw.2.1.1 lw.2.1.2 w10.1 w10.2).mpr g3, rfl⟩, w10, by omega⟩
      rcases hi with g | g
      · rcases c3 with c | c
        · exact absurd g.1.2 c.1
        · omega
      · rcases c3 with c | c
        · omega
        · exact absurd ⟨g1, c.1⟩ g.1
  intro n
  induction n with
  | zero => intro s k; exact Or.inl k
  | succ n ih =>
    rintro s ⟨t, rt, su⟩
    rcases ih t rt with rfl | pt | ⟨w, i, v, j, i', j', n', rfl, ⟨w0, v0, i0, j0⟩, sp, hx, hi⟩
    · rcases su with ⟨-, k | ⟨p1, p2, e, f, k1, k2, ne, hr, rfl⟩⟩ | ⟨a, b, e, f, e1, ⟨ha, hb, he, hf⟩, -⟩
      · exact Or.inr (Or.inl (mNx_v hA (Or.inl rfl) k))
      · rcases k1 with ⟨-, w, aw, rfl⟩ | ⟨g, -⟩
        · rcases k2 with ⟨-, v, av, rfl⟩ | ⟨g, -⟩
          · exact Or.inr (Or.inr (two w v e f aw av ne hr))
          · exact absurd rfl g
        · exact absurd rfl g
      · exfalso
        have := mPr_bd (mPv3_bd hA ha) (mPv3_bd hA hb) (e := e) (f := f) (by omega) (by omega)
        omega
    · have bt := mPv3_bd hA pt
      rcases su with ⟨-, k | ⟨p1, p2, e, f, k1, k2, ne, hr, rfl⟩⟩ | ⟨a, b, e, f, e1, ⟨ha, hb, he, hf⟩, -⟩
      · exact Or.inr (Or.inl (mNx_v hA (Or.inr pt) k))
      · rcases k1 with ⟨g, -⟩ | ⟨-, ⟨g1, h1⟩ | ⟨g1, w, aw, -, rfl⟩⟩
        · omega
        · rcases k2 with ⟨g, -⟩ | ⟨-, ⟨g2, h2⟩ | ⟨g2, -⟩⟩
          · omega
          · exact absurd (h1.trans h2.symm) ne
          · exact absurd g2 g1
        · rcases k2 with ⟨g, -⟩ | ⟨-, ⟨g2, h2⟩ | ⟨g2, v, av, -, rfl⟩⟩
          · omega
          · exact absurd g1 g2
          · exact Or.inr (Or.inr (two w v e f aw av ne hr))
      · exfalso
        have := mPr_bd (mPv3_bd hA ha) (mPv3_bd hA hb) (e := e) (f := f) (by omega) (by omega)
        omega
    · have lw := (hA.2.1 w w0.1 w0.2).1
      have lv := (hA.2.1 v v0.1 v0.2).1
      have pw := mPv3_bd hA (pv_z w0 i0 (by omega))
      have pv := mPv3_bd hA (pv_z v0 j0 (by omega))
      have pb := mPr_bd pw pv (e := 0) (f := 0) (by omega) (by omega)
      rcases su with ⟨g, -⟩ | ⟨a, b, e', f', e1, ⟨ha, hb, he, hf⟩, p1, p2, e2, f2, k1, k2, hr, rfl⟩
      · omega
      · obtain ⟨y1, y2, y3, y4⟩ := mPr_inj pw pv (by omega) (by omega) (mPv3_bd hA ha) (mPv3_bd hA hb) (by omega) (by omega) e1
        subst y3 y4
        rw [← y1] at k1
        rw [← y2] at k2
        obtain ⟨w2, i2, rfl, s1, w20, i20⟩ := nx w i i' p1 w0 i0 (by rcases hi with g | g; exact Or.inl ⟨g.1, g.2.1⟩; exact Or.inr ⟨g.1, g.2.1⟩) k1
        obtain ⟨v2, j2, rfl, s2, v20, j20⟩ := nx v j j' p2 v0 j0 (by rcases hi with g | g; exact Or.inl ⟨sp.mp g.1, g.2.2⟩; exact Or.inr ⟨fun q => g.1 (sp.mpr q), g.2.2⟩) k2
        obtain ⟨r0, r1, rfl, rfl⟩ := mHr_0.mp hr
        refine Or.inr (Or.inr (ext w2 i2 v2 j2 (n' + 1) w20 v20 i20 j20 r0 ⟨w, i', v, j', 0, 0, hx, s1, s2, xHr_0.mpr ⟨?_, rfl, rfl⟩⟩))
        rw [(h2 w2 w20.1 w20.2).2.1 i2 i20.1 i20.2, (h2 v2 v20.1 v20.2).2.1 j2 j20.1 j20.2, show 58 + 6 * w2 + i2 = 58 + (6 * w2 + i2) by omega, show 58 + 6 * v2 + j2 = 58 + (6 * v2 + j2) by omega]
        exact r1
