/-! THE LINES OF BOTH ARE THE SAME: the reference's -/
theorem xHr_00 {X : aM} {x y e f : Int} (h : xHr X 0 x y 0 0 e f) : x = y ∧ e = 0 ∧ f = 0 := by
  rcases h with ⟨a, b, c⟩ | ⟨-, -, ⟨-, -, c⟩ | ⟨-, -, c⟩⟩ | ⟨-, -, -, c, -⟩
  · exact ⟨a, b, c⟩
  · omega
  · omega
  · omega
theorem rs_eq {X : aM} {A : Nat → Int} {w i v j : Int} (hA : mVx A) (h : mXA X A 0) (aw : mAc A 0 w) (av : mAc A 0 v) (i0 : 0 ≤ i ∧ i < A (19 + w).toNat) (j0 : 0 ≤ j ∧ j < A (19 + v).toNat) : rS A (mPr (6 * w + i) (6 * v + j) 0 0) = xs X w i := by
  rw [rS_pr (mPv3_bd hA (ac_pv aw hA i0)) (mPv3_bd hA (ac_pv av hA j0)), (h.2.1 w aw).2.2 i i0.1 i0.2]
  congr 2
  omega
theorem rq_ofL {X : aM} {A σ : Nat → Int} (hA : mVx A) (hv : mTv X) (h : mXA X A 0) : ∀ (n : Nat) (w i v j : Int), jL X σ n w i v j → rQ A σ (n + 1) (mPr (6 * w + i) (6 * v + j) 0 0) := by
  intro n
  induction n with
  | zero =>
    rintro w i v j k
    obtain ⟨⟨aw, i0⟩, ⟨av, j0⟩, -, -⟩ := xR_ac hv h (by omega) (jL_R k)
    obtain ⟨-, -, ne, rfl, rfl, f, g⟩ := k
    refine ⟨-1, rfl, Or.inl ⟨by omega, Or.inr ⟨6 * w + 0, 6 * v + 0, 0, 0, Or.inl ⟨rfl, w, aw, by omega⟩, Or.inl ⟨rfl, v, av, by omega⟩, by omega, ?_, rfl⟩⟩, ?_⟩
    · exact (hr_iff hA h aw av i0 j0).mp (Or.inl ⟨by rw [f, g], rfl, rfl⟩)
    · rw [rs_eq hA h aw av i0 j0]; exact f
  | succ n ih =>
    rintro w i v j k
    obtain ⟨⟨aw, i0⟩, ⟨av, j0⟩, -, -⟩ := xR_ac hv h (by omega) (jL_R k)
    obtain ⟨w', i', v', j', k', s1, s2, f, g⟩ := k
    obtain ⟨⟨aw', i0'⟩, ⟨av', j0'⟩, -, -⟩ := xR_ac hv h (by omega) (jL_R k')
    exact ⟨_, ih w' i' v' j' k', Or.inr ⟨_, _, 0, 0, rfl, ⟨ac_pv aw' hA i0', ac_pv av' hA j0', by omega, by omega⟩, _, _, 0, 0, st_iff hA h aw' i0' s1, st_iff hA h av' j0' s2, (hr_iff hA h aw av i0 j0).mp (Or.inl ⟨by rw [f, g], rfl, rfl⟩), rfl⟩, by rw [rs_eq hA h aw av i0 j0]; exact f⟩
theorem of_rqL {X : aM} {A σ : Nat → Int} (hA : mVx A) (hv : mTv X) (h : mXA X A 0) : ∀ (n : Nat) (s : Int), rQ A σ n s → s = -1 ∨ (mPv3 A s ∧ mAc A 0 (s / 6)) ∨ (∃ w i v j : Int, s = mPr (6 * w + i) (6 * v + j) 0 0 ∧ ((∃ n' : Nat, n = n' + 1 ∧ jL X σ n' w i v j) ∨ ∃ n' : Nat, n' + 1 < n ∧ xR X 0 n' w i v j 0 0)) := by
  intro n
  induction n with
  | zero => intro s k; exact Or.inl k
  | succ n ih =>
    rintro s ⟨t, rt, su, rs⟩
    -- words of a start
    have two : ∀ w v e f : Int, mAc A 0 w → mAc A 0 v → (6 * w : Int) ≠ 6 * v → mHr A 0 0 (6 * w) (6 * v) 0 0 e f → s = mPr (6 * w) (6 * v) e f → ∃ w' i v' j : Int, s = mPr (6 * w' + i) (6 * v' + j) 0 0 ∧ ((∃ n' : Nat, n + 1 = n' + 1 ∧ jL X σ n' w' i v' j) ∨ ∃ n' : Nat, n' + 1 < n + 1 ∧ xR X 0 n' w' i v' j 0 0) := by
      intro w v e f aw av ne hr es
      have lw := hA.2.1 w aw.1 aw.2.1
      have lv := hA.2.1 v av.1 av.2.1
      have hx : xHr X 0 (xs X w 0) (xs X v 0) 0 0 e f := (hr_iff hA h aw av (by omega) (by omega)).mpr (by rw [Int.add_zero, Int.add_zero]; exact hr)
      obtain ⟨x1, e0, f0⟩ := xHr_00 hx
      rw [e0, f0] at es
      refine ⟨w, 0, v, 0, by rw [Int.add_zero, Int.add_zero]; exact es, ?_⟩
      by_cases z : n = 0
      · left
        have f := rs_eq hA h aw av (i := 0) (j := 0) (by omega) (by omega)
        rw [Int.add_zero, Int.add_zero, ← es, rs, z] at f
        exact ⟨0, by omega, (h.1 w).mpr aw, (h.1 v).mpr av, by omega, rfl, rfl, f.symm, by rw [← x1]; exact f.symm⟩
      · right
        exact ⟨0, by omega, (h.1 w).mpr aw, (h.1 v).mpr av, by omega, rfl, rfl, Or.inl ⟨x1, rfl, rfl⟩⟩
    rcases ih t rt with rfl | ⟨pt, at'⟩ | ⟨w, i, v, j, rfl, hx⟩
    · rcases su with ⟨-, k | ⟨p1, p2, e, f, k1, k2, ne, hr, es⟩⟩ | ⟨a, b, e, f, e1, ⟨ha, hb, he, hf⟩, -⟩
      · rcases k with ⟨-, w, aw, rfl⟩ | ⟨g, -⟩
        · exact Or.inr (Or.inl ⟨mPv3_0 hA aw.1 aw.2.1, by rw [show 6 * w / 6 = w by omega]; exact aw⟩)
        · exact absurd rfl g
      · rcases k1 with ⟨-, w, aw, rfl⟩ | ⟨g, -⟩
        · rcases k2 with ⟨-, v, av, rfl⟩ | ⟨g, -⟩
          · exact Or.inr (Or.inr (two w v e f aw av ne hr es))
          · exact absurd rfl g
        · exact absurd rfl g
      · exfalso
        have := mPr_bd (mPv3_bd hA ha) (mPv3_bd hA hb) (e := e) (f := f) (by omega) (by omega)
        omega
    · have bt := mPv3_bd hA pt
      rcases su with ⟨-, k | ⟨p1, p2, e, f, k1, k2, ne, hr, es⟩⟩ | ⟨a, b, e, f, e1, ⟨ha, hb, he, hf⟩, -⟩
      · have pv := mNx_v hA (Or.inr pt) k
        rcases k with ⟨g, -⟩ | ⟨-, ⟨g1, rfl⟩ | ⟨g1, w, aw, -, rfl⟩⟩
        · omega
        · have l := (hA.2.1 (t / 6) at'.1 at'.2.1).1
          have := pt.2.2
          unfold mEn at g1
          exact Or.inr (Or.inl ⟨pv, by rw [show (t + 1) / 6 = t / 6 by omega]; exact at'⟩)
        · exact Or.inr (Or.inl ⟨pv, by rw [show 6 * w / 6 = w by omega]; exact aw⟩)
      · rcases k1 with ⟨g, -⟩ | ⟨-, ⟨g1, h1⟩ | ⟨g1, w, aw, -, rfl⟩⟩
        · omega
        · rcases k2 with ⟨g, -⟩ | ⟨-, ⟨g2, h2⟩ | ⟨g2, -⟩⟩
          · omega
          · exact absurd (h1.trans h2.symm) ne
          · exact absurd g2 g1
        · rcases k2 with ⟨g, -⟩ | ⟨-, ⟨g2, h2⟩ | ⟨g2, v, av, -, rfl⟩⟩
          · omega
          · exact absurd g1 g2
          · exact Or.inr (Or.inr (two w v e f aw av ne hr es))
      · exfalso
        have := mPr_bd (mPv3_bd hA ha) (mPv3_bd hA hb) (e := e) (f := f) (by omega) (by omega)
        omega
    · have hR : ∃ n', xR X 0 n' w i v j 0 0 := by
        rcases hx with ⟨n', -, k⟩ | ⟨n', -, k⟩
        · exact ⟨n', jL_R k⟩
        · exact ⟨n', k⟩
      obtain ⟨nR, hR⟩ := hR
      obtain ⟨⟨aw, i0⟩, ⟨av, j0⟩, -, -⟩ := xR_ac hv h (by omega) hR
      have pw := mPv3_bd hA (ac_pv aw hA i0)
      have pv := mPv3_bd hA (ac_pv av hA j0)
      have pb := mPr_bd pw pv (e := 0) (f := 0) (by omega) (by omega)
      rcases su with ⟨g, -⟩ | ⟨a, b, e', f', e1, ⟨ha, hb, he, hf⟩, p1, p2, e2, f2, k1, k2, hr, rfl⟩
      · omega
      · obtain ⟨y1, y2, y3, y4⟩ := mPr_inj pw pv (by omega) (by omega) (mPv3_bd hA ha) (mPv3_bd hA hb) (by omega) (by omega) e1
        subst y3 y4
        rw [← y1] at k1
        rw [← y2] at k2
        obtain ⟨w2, i2, rfl, s1, aw2, i02⟩ := nx_st hA h aw i0 k1
        obtain ⟨v2, j2, rfl, s2, av2, j02⟩ := nx_st hA h av j0 k2
        obtain ⟨x1, e0, f0⟩ := xHr_00 ((hr_iff hA h aw2 av2 i02 j02).mpr hr)
        rw [e0, f0] at rs ⊢
        rw [rs_eq hA h aw2 av2 i02 j02] at rs
        refine Or.inr (Or.inr ⟨w2, i2, v2, j2, rfl, ?_⟩)
        rcases hx with ⟨n', en, k⟩ | ⟨n', lt, k⟩
        · rw [en] at rs
          exact Or.inl ⟨n' + 1, by omega, w, i, v, j, k, s1, s2, rs, by rw [← x1]; exact rs⟩
        · exact Or.inr ⟨n' + 1, by omega, w, i, v, j, 0, 0, k, s1, s2, Or.inl ⟨x1, rfl, rfl⟩⟩
/-- the lines are the same -/
theorem jG_rG {X : aM} {A σ : Nat → Int} {N : Nat} (hA : mVx A) (hv : mTv X) (h : mXA X A 0) (hN : ∀ (n : Nat) (s L : Int), mCq X 0 n s L → xz X 0 s → (N : Int) ≤ L) : jG X (N : Int) σ ↔ rG A N σ := by
  constructor
  · intro g
    obtain ⟨n, eN, w, i, v, j, hx, hi, hj, z1, z2⟩ := jG_L hv g
    obtain ⟨⟨aw, i0⟩, ⟨av, j0⟩, -, -⟩ := xR_ac hv h (by omega) (jL_R hx)
    have q := rq_ofL hA hv h n w i v j hx
    rw [show n + 1 = N by omega] at q
    refine ⟨_, q, _, _, 0, 0, rfl, ⟨ac_pv aw hA i0, ac_pv av hA j0, by omega, by omega⟩, ?_, ?_⟩
    · have l := hA.2.1 w aw.1 aw.2.1
      have w0 := aw.1
      obtain ⟨k1, k2, -⟩ := h.2.1 w aw
      unfold mEn
      rw [show (6 * w + i) / 6 = w by omega, show (6 * w + i) % 6 = i by omega]
      exact ⟨by omega, by rw [← k1]; exact (h.2.2.2.1 _ (by omega) (by omega)).mp z1⟩
    · have l := hA.2.1 v av.1 av.2.1
      have w0 := av.1
      obtain ⟨k1, k2, -⟩ := h.2.1 v av
      unfold mEn
      rw [show (6 * v + j) / 6 = v by omega, show (6 * v + j) % 6 = j by omega]
      exact ⟨by omega, by rw [← k1]; exact (h.2.2.2.1 _ (by omega) (by omega)).mp z2⟩
  · rintro ⟨s, q, a, b, e', f', e1, ⟨ha, hb, he, hf⟩, ⟨g1, g2⟩, ⟨g3, g4⟩⟩
    have pb := mPr_bd (mPv3_bd hA ha) (mPv3_bd hA hb) (e := e') (f := f') (by omega) (by omega)
    rcases of_rqL hA hv h N s q with k | k | ⟨w, i, v, j, e2, hx⟩
    · omega
    · have := mPv3_bd hA k.1; omega
    · have hR : ∃ n', xR X 0 n' w i v j 0 0 := by
        rcases hx with ⟨n', -, k⟩ | ⟨n', -, k⟩
        · exact ⟨n', jL_R k⟩
        · exact ⟨n', k⟩
      obtain ⟨nR, hR⟩ := hR
      obtain ⟨⟨aw, i0⟩, ⟨av, j0⟩, -, -⟩ := xR_ac hv h (by omega) hR
      have pw := mPv3_bd hA (ac_pv aw hA i0)
      have pv := mPv3_bd hA (ac_pv av hA j0)
      obtain ⟨y1, y2, y3, y4⟩ := mPr_inj pw pv (by omega) (by omega) (mPv3_bd hA ha) (mPv3_bd hA hb) (by omega) (by omega) (e2.symm.trans e1)
      rw [← y1] at g1 g2
      rw [← y2] at g3 g4
      have lw := hA.2.1 w aw.1 aw.2.1
      have lv := hA.2.1 v av.1 av.2.1
      have w0 := aw.1
      have v0 := av.1
      obtain ⟨k1, k2, -⟩ := h.2.1 w aw
      obtain ⟨k3, k4, -⟩ := h.2.1 v av
      unfold mEn at g1 g3
      rw [show (6 * w + i) / 6 = w by omega] at g1 g2
      rw [show (6 * w + i) % 6 = i by omega] at g1
      rw [show (6 * v + j) / 6 = v by omega] at g3 g4
      rw [show (6 * v + j) % 6 = j by omega] at g3
      have z1 : xe X (xk X w) := by rw [k1]; exact (h.2.2.2.1 _ (by omega) (by omega)).mpr g2
      have z2 : xe X (xk X v) := by rw [k3]; exact (h.2.2.2.1 _ (by omega) (by omega)).mpr g4
      rcases hx with ⟨n', en, k⟩ | ⟨n', lt, k⟩
      · have := L_jG hv ⟨w, i, v, j, k, by omega, by omega, z1, z2⟩
        rw [show ((n' : Int) + 1) = (N : Int) by omega] at this
        exact this
      · exfalso
        obtain ⟨k, s', q1, q2⟩ := xG_to (n := n') hv (Or.inl rfl) mM0 ⟨w, i, v, j, 0, 0, k, by omega, by omega, z1, z2⟩
        have := hN _ _ _ q1 q2
        omega
