/-! THE CLASS'S SEARCH: a state is visited -/
def xn (X : aM) (kb w v : Int) : Prop := xa X v ∧ ((kb = 4 ∧ v < w) ∨ (kb ≠ 4 ∧ xf X kb v))
/-- from state to state, by c sounds -/
def mCu (X : aM) (M s c s' : Int) : Prop :=
  (∃ k1 k2 e f w, s = mEv M k1 k2 e f ∧ ((0 ≤ k1 ∧ k1 ≤ 3) ∧ (0 ≤ k2 ∧ k2 ≤ 3) ∧ (0 ≤ e ∧ e ≤ M) ∧ (0 ≤ f ∧ f ≤ M)) ∧ xa X w ∧ xf X k1 w ∧ c = 0 ∧ s' = mOd M w (xl X w) k2 e f) ∨
  (∃ w out kb e f v, s = mOd M w out kb e f ∧ (xa X w ∧ (1 ≤ out ∧ out ≤ xl X w) ∧ (0 ≤ kb ∧ kb ≤ 4) ∧ (0 ≤ e ∧ e ≤ M) ∧ (0 ≤ f ∧ f ≤ M)) ∧ xn X kb w v ∧ mMt X M w out e f v s' c 0)
def mCv (X : aM) (M s : Int) : Prop :=
  (∃ k1 k2 e f, s = mEv M k1 k2 e f ∧ ((0 ≤ k1 ∧ k1 ≤ 3) ∧ (0 ≤ k2 ∧ k2 ≤ 3) ∧ (0 ≤ e ∧ e ≤ M) ∧ (0 ≤ f ∧ f ≤ M))) ∨
  (∃ w out kb e f, s = mOd M w out kb e f ∧ (xa X w ∧ (1 ≤ out ∧ out ≤ xl X w) ∧ (0 ≤ kb ∧ kb ≤ 4) ∧ (0 ≤ e ∧ e ≤ M) ∧ (0 ≤ f ∧ f ≤ M)))
theorem mCv_bd {X : aM} {M s : Int} (hv : mTv X) (hM : mM3 M) (h : mCv X M s) : 0 ≤ s ∧ s < 471 * ((M + 1) * (M + 1)) := by
  have cb := mC_bd hM
  rcases h with ⟨k1, k2, e, f, rfl, a, b, c, d⟩ | ⟨w, out, kb, e, f, rfl, aw, b, g, c, d⟩
  · have := mEv_bd hM a b c d; omega
  · have l := (hv.2.1 w aw).1
    have := mOd_bd hM ⟨aw.1, aw.2.1⟩ (out := out) (by omega) g c d; omega
theorem mMt_L {X : aM} {M w out e f v s' L' L : Int} : mMt X M w out e f v s' L' L ↔ mMt X M w out e f v s' (L' - L) 0 := by
  unfold mMt
  constructor
  · rintro ⟨c, ei, bo, x, h1, h2, h3, h4, h5, h6, h7⟩; exact ⟨c, ei, bo, x, h1, h2, h3, h4, h5, h6, by omega⟩
  · rintro ⟨c, ei, bo, x, h1, h2, h3, h4, h5, h6, h7⟩; exact ⟨c, ei, bo, x, h1, h2, h3, h4, h5, h6, by omega⟩
theorem mMt_c {X : aM} {M w out e f v s' c : Int} (hv : mTv X) (aw : xa X w) (av : xa X v) (b : 1 ≤ out ∧ out ≤ xl X w) (h : mMt X M w out e f v s' c 0) : 1 ≤ c ∧ c ≤ 7 := by
  obtain ⟨c', ei, bo, x, h1, -, -, -, -, -, h7⟩ := h
  have := (hv.2.1 w aw).1
  have := (hv.2.1 v av).1
  rw [h1] at h7
  split at h7 <;> omega
theorem mJn_v {X : aM} {M w out v e f : Int} (hv : mTv X) (aw : xa X w) (av : xa X v) (b : 1 ≤ out ∧ out ≤ xl X w) (c : 0 ≤ e ∧ e ≤ M) (d : 0 ≤ f ∧ f ≤ M) : mCv X M (mJn X M w out v e f) := by
  have hw := hv.2.1 w aw
  have hv' := hv.2.1 v av
  unfold mJn
  by_cases x : xl X v < out
  · rw [if_pos x]
    exact Or.inr ⟨_, _, _, _, _, rfl, aw, by omega, by omega, c, d⟩
  · rw [if_neg x]
    by_cases y : out < xl X v
    · rw [if_pos y]
      exact Or.inr ⟨_, _, _, _, _, rfl, av, by omega, by omega, d, c⟩
    · rw [if_neg y]
      by_cases z : xk X v < xk X w
      · rw [if_pos z]; exact Or.inl ⟨_, _, _, _, rfl, hv'.2.1, hw.2.1, d, c⟩
      · rw [if_neg z]; exact Or.inl ⟨_, _, _, _, rfl, hw.2.1, hv'.2.1, c, d⟩
theorem mCu_v {X : aM} {M s c s' : Int} (hv : mTv X) (h : mCu X M s c s') : mCv X M s' ∧ 0 ≤ c ∧ c ≤ 7 := by
  rcases h with ⟨k1, k2, e, f, w, -, ⟨a, b, g, d⟩, aw, -, rfl, rfl⟩ | ⟨w, out, kb, e, f, v, -, ⟨aw, b, g, c1, d⟩, nw, mt⟩
  · have l := (hv.2.1 w aw).1
    exact ⟨Or.inr ⟨_, _, _, _, _, rfl, aw, by omega, by omega, g, d⟩, by omega, by omega⟩
  · have cb := mMt_c hv aw nw.1 b mt
    obtain ⟨c', ei, bo, x, h1, h2, h3, h4, h5, rfl, h7⟩ := mt
    have tb := mTl_bd h2
    exact ⟨mJn_v hv aw nw.1 b (by omega) (by omega), by omega, by omega⟩
theorem isEven_eq {s M : Int} {m : aM} (hM : mM3 M) (h10 : m 80 10 = (M + 1) * (M + 1)) : Twins_isEven s m = some (if s < 16 * ((M + 1) * (M + 1)) then 1 else 0) := by
  have cb := mC_bd hM
  unfold Twins_isEven
  rw [h10, w32e (by omega) (by omega)]
  by_cases c : s < 16 * ((M + 1) * (M + 1))
  · rw [if_pos c, if_pos c]
  · rw [if_neg c, if_neg c]
/-- the words ahead of w, as bits -/
theorem ahead_bits {X w : Int} (x0 : 0 ≤ X) (x1 : X < 8192) (w0 : 0 ≤ w) (w1 : w < 13) : (0 ≤ iand X (w32 (ishl 1 w - 1)) ∧ iand X (w32 (ishl 1 w - 1)) < 8192) ∧ ∀ i : Nat, (iand X (w32 (ishl 1 w - 1))).toNat.testBit i = (X.toNat.testBit i && decide (i < w.toNat)) := by
  have hp : (2 : Nat) ^ w.toNat ≤ 2 ^ 12 := Nat.pow_le_pow_right (by omega) (by omega)
  have hq : 0 < (2 : Nat) ^ w.toNat := Nat.two_pow_pos _
  have hi : ((2 ^ w.toNat : Nat) : Int) ≤ 4096 := Int.ofNat_le.mpr hp
  have hj : (1 : Int) ≤ ((2 ^ w.toNat : Nat) : Int) := Int.ofNat_le.mpr hq
  rw [ishl_one w0 (by omega), w32e (by omega) (by omega), iand_nn x0 (by omega) (by omega) (by omega), Int.toNat_natCast, show (((2 ^ w.toNat : Nat) : Int) - 1).toNat = 2 ^ w.toNat - 1 by omega]
  have hle : X.toNat &&& (2 ^ w.toNat - 1) ≤ X.toNat := Nat.and_le_left
  refine ⟨by omega, fun i => ?_⟩
  rw [Nat.testBit_and, Nat.testBit_two_pow_sub_one]
theorem nextWords_ok {X : aM} {M w out kb e f : Int} {m : aM} (hv : mTv X) (hM : mM3 M) (hq : mTq X M m) (aw : xa X w) (b : 1 ≤ out ∧ out ≤ xl X w) (g : 0 ≤ kb ∧ kb ≤ 4) (c : 0 ≤ e ∧ e ≤ M) (d : 0 ≤ f ∧ f ≤ M) : mOk (Twins_nextWords (mOd M w out kb e f) m) (fun r => (0 ≤ r ∧ r < 8192) ∧ ∀ v : Int, 0 ≤ v → v < 13 → (r.toNat.testBit v.toNat = true ↔ xn X kb w v)) := by
  have lw := (hv.2.1 w aw).1
  obtain ⟨q1, -, -, -, q5, -, q6⟩ := hq
  obtain ⟨r1, r2, r3⟩ := wordOut_eq (m := m) hM q5 ⟨aw.1, aw.2.1⟩ (out := out) (by omega) g c d
  unfold Twins_nextWords
  rw [r3, Option.bind_some]
  by_cases x : kb = 4
  · rw [if_pos x, r1, Option.bind_some, q1]
    have ab := ahead_bits hv.1.1 hv.1.2 aw.1 aw.2.1
    refine mOk_some ⟨ab.1, fun v v0 v1 => ?_⟩
    rw [ab.2, Bool.and_eq_true, decide_eq_true_eq]
    unfold xn xa
    constructor
    · rintro ⟨h1, h2⟩; exact ⟨⟨v0, v1, h1⟩, Or.inl ⟨x, by omega⟩⟩
    · rintro ⟨⟨-, -, h1⟩, h2⟩
      refine ⟨h1, ?_⟩
      rcases h2 with h2 | h2
      · omega
      · exact absurd x h2.1
  · rw [if_neg x, if_pos (by omega)]
    obtain ⟨b1, b2⟩ := q6 kb (by omega) (by omega)
    refine mOk_some ⟨b1, fun v v0 v1 => ?_⟩
    rw [b2 v v0 v1]
    unfold xn
    constructor
    · rintro ⟨h1, h2⟩; exact ⟨h1, Or.inr ⟨x, h2⟩⟩
    · rintro ⟨h1, h2⟩
      rcases h2 with h2 | h2
      · exact absurd h2.1 x
      · exact ⟨h1, h2.2⟩
theorem visit26_ok {X : aM} {M s L : Int} {m : aM} (hv : mTv X) (hM : mM3 M) (hq : mTq X M m) (hw : m 80 12 = mPb m) (L0 : 0 ≤ L) (L1 : L < 100000) (hs : mCv X M s) : mOk (Twins_visit_26 s L m) (fun m' => mPs3 (fun s' L' => mCu X M s (L' - L) s') m m' ∧ ∀ s' c, mCu X M s c s' → mSn m' s' ∨ mPd m' ((L + c) % 8) s') := by
  have cb := mC_bd hM
  have h10 : m 80 10 = (M + 1) * (M + 1) := hq.2.2.2.2.1
  have h11 : m 80 11 = (471 * ((M + 1) * (M + 1)) + 63) / 64 := hq.2.2.2.2.2.1
  unfold Twins_visit_26
  rw [isEven_eq hM h10, Option.bind_some]
  rcases hs with ⟨k1, k2, e, f, rfl, a, b, c, d⟩ | ⟨w, out, kb, e, f, rfl, aw, b, g, c, d⟩
  · have bd := mEv_bd hM a b c d
    obtain ⟨d1, d2, d3, d4⟩ := mEv_dec hM a b c d
    have e0 : 0 ≤ e * (M + 1) + f := by rcases hM with rfl | rfl | rfl <;> omega
    have nodd : ∀ w' out' kb' e' f', xa X w' → 1 ≤ out' ∧ out' ≤ xl X w' → 0 ≤ kb' ∧ kb' ≤ 4 → 0 ≤ e' ∧ e' ≤ M → 0 ≤ f' ∧ f' ≤ M → mEv M k1 k2 e f ≠ mOd M w' out' kb' e' f' := by
      intro w' out' kb' e' f' h1 h2 h3 h4 h5 h6
      have := mOd_bd hM ⟨h1.1, h1.2.1⟩ (out := out') (by have := (hv.2.1 w' h1).1; omega) h3 h4 h5
      omega
    have cu : ∀ c' s', mCu X M (mEv M k1 k2 e f) c' s' ↔ ∃ w, xa X w ∧ xf X k1 w ∧ c' = 0 ∧ s' = mOd M w (xl X w) k2 e f := by
      intro c' s'
      constructor
      · rintro (⟨k1', k2', e', f', w, h1, ⟨g1, g2, g3, g4⟩, h3, h4, h5, h6⟩ | ⟨w, out, kb, e', f', v, h1, ⟨g1, g2, g3, g4, g5⟩, -⟩)
        · obtain ⟨d1', d2', d3', d4'⟩ := mEv_dec hM g1 g2 g3 g4
          rw [← h1] at d1' d2'
          have x1 : k1' = k1 ∧ k2' = k2 := by omega
          have x2 : e' * (M + 1) + f' = e * (M + 1) + f := by omega
          have x3 : e' = e := by rw [x2] at d3'; omega
          have x4 : f' = f := by rw [x2] at d4'; omega
          rw [x1.1] at h4
          exact ⟨w, h3, h4, h5, by rw [h6, x1.2, x3, x4]⟩
        · exact absurd h1 (nodd w out kb e' f' g1 g2 g3 g4 g5)
      · rintro ⟨w, h1, h2, h3, h4⟩
        exact Or.inl ⟨k1, k2, e, f, w, rfl, ⟨a, b, c, d⟩, h1, h2, h3, h4⟩
    rw [if_pos bd.2, if_neg (by decide), h10, if_pos (by omega), tdiv_nn bd.1, d1, w32e (x := 4 * k1 + k2) (by omega) (by omega), tdiv_nn (by omega), show (4 * k1 + k2) / 4 = k1 by omega, w32e (x := k1) (by omega) (by omega), if_pos (by omega)]
    obtain ⟨b1, b2⟩ := hq.2.2.2.2.2.2 k1 a.1 (by omega)
    refine mL2 (Twins_visit_42 (mEv M k1 k2 e f) L (4 * k1 + k2)) (fun x mm => (0 ≤ x ∧ x < 8192) ∧ (∀ v : Int, 0 ≤ v → v < 13 → x.toNat.testBit v.toNat = true → xa X v ∧ xf X k1 v) ∧ mPs3 (fun s' L' => mCu X M (mEv M k1 k2 e f) (L' - L) s') m mm ∧ ∀ v : Int, xa X v → xf X k1 v → x.toNat.testBit v.toNat = true ∨ (mSn mm (mOd M v (xl X v) k2 e f) ∨ mPd mm (L % 8) (mOd M v (xl X v) k2 e f))) (fun x _ => x.toNat) ?_ (m 99 k1.toNat) m ⟨b1, fun v v0 v1 h => (b2 v v0 v1).mp h, mPs3.refl hw, fun v h1 h2 => Or.inl ((b2 v h1.1 h1.2.1).mpr ⟨h1, h2⟩)⟩ (by omega)
    rintro fu x mm ⟨x1, x2, ps, x3⟩ ih
    rw [Twins_visit_42]
    by_cases z : x = 0
    · rw [if_pos z]
      refine mOk_some ⟨ps, fun s' c' hc => ?_⟩
      obtain ⟨v, h1, h2, rfl, rfl⟩ := (cu c' s').mp hc
      rw [Int.add_zero]
      rcases x3 v h1 h2 with h | h
      · rw [z, show (0 : Int).toNat = 0 from rfl, Nat.zero_testBit] at h; exact absurd h (by decide)
      · exact h
    · rw [if_neg z]
      obtain ⟨j, j0, j1, kj, jb, jl⟩ := ntz_low (x := x) (m := mm) (by omega) x1.2
      obtain ⟨aj, fj⟩ := x2 j j0 j1 jb
      have lj := (hv.2.1 j aj).1
      have tq := ps.tq hq
      have l95 : mm 95 j.toNat = xl X j := tq.2.2.1 _ _ (by omega) (by omega)
      have h10' : mm 80 10 = (M + 1) * (M + 1) := tq.2.2.2.2.1
      rw [kj, Option.bind_some, if_pos ⟨j0, j1⟩, h10', if_pos (by omega), tmod_nn (a := 4 * k1 + k2) (by omega), show (4 * k1 + k2) % 4 = k2 by omega, tmod_nn bd.1, d2, l95, oddState_eq hM h10' ⟨j0, j1⟩ (by omega) (by omega) c d, Option.bind_some]
      have ob := mOd_bd hM ⟨j0, j1⟩ (out := xl X j) (kb := k2) (by omega) (by omega) c d
      refine mOk_bind (push_S (S := fun s' L' => mCu X M (mEv M k1 k2 e f) (L' - L) s') (by omega) (by omega) (by rw [tq.2.2.2.2.2.1]; omega) L0 ps.2.2.1 ((cu _ _).mpr ⟨j, aj, fj, by omega, rfl⟩)) (fun m2 k2' => ?_)
      obtain ⟨p2, h2⟩ := k2'
      obtain ⟨y1, y2⟩ := drop_low (x := x) (by omega) x1.2 j0 jb jl
      refine ih _ _ ⟨by omega, fun v v0 v1 h => ?_, ps.trans p2, fun v h1 h2' => ?_⟩ (by omega)
      · rw [y2, Bool.and_eq_true] at h
        exact x2 v v0 v1 h.1
      · by_cases ev : v = j
        · right; rw [ev]; exact h2
        · rcases x3 v h1 h2' with h | h | h
          · left
            rw [y2, h, decide_eq_false (by have := h1.1; omega)]; rfl
          · right; exact Or.inl ((p2.sn _).mpr h)
          · right
            have lv := (hv.2.1 v h1).1
            have ob' := mOd_bd hM ⟨h1.1, h1.2.1⟩ (out := xl X v) (kb := k2) (by omega) (by omega) c d
            exact Or.inr (p2.1 _ _ (by omega) (by omega) (by omega) (by omega) h)
  · have lw := (hv.2.1 w aw).1
    have bd := mOd_bd hM ⟨aw.1, aw.2.1⟩ (out := out) (by omega) g c d
    obtain ⟨d1, d2, d3, d4⟩ := mOd_dec hM ⟨aw.1, aw.2.1⟩ (out := out) (by omega) g c d
    have cu : ∀ c' s', mCu X M (mOd M w out kb e f) c' s' ↔ ∃ v, xn X kb w v ∧ mMt X M w out e f v s' c' 0 := by
      intro c' s'
      constructor
      · rintro (⟨k1, k2, e', f', w', h1, ⟨g1, g2, g3, g4⟩, -⟩ | ⟨w', out', kb', e', f', v, h1, ⟨g1, g2, g3, g4, g5⟩, h2, h3⟩)
        · have := mEv_bd hM g1 g2 g3 g4
          omega
        · have lw' := (hv.2.1 w' g1).1
          obtain ⟨d1', d2', d3', d4'⟩ := mOd_dec hM ⟨g1.1, g1.2.1⟩ (out := out') (by omega) g3 g4 g5
          rw [← h1] at d1' d2'
          have a0 := aw.1
          have a1 := g1.1
          have x1 : w' = w ∧ out' = out ∧ kb' = kb := by omega
          have x2 : e' * (M + 1) + f' = e * (M + 1) + f := by omega
          have x3 : e' = e := by rw [x2] at d3'; omega
          have x4 : f' = f := by rw [x2] at d4'; omega
          rw [x1.1, x1.2.2] at h2
          rw [x1.1, x1.2.1, x3, x4] at h3
          exact ⟨v, h2, h3⟩
      · rintro ⟨v, h1, h2⟩
        exact Or.inr ⟨w, out, kb, e, f, v, rfl, ⟨aw, b, g, c, d⟩, h1, h2⟩
    rw [if_neg (show ¬ mOd M w out kb e f < 16 * ((M + 1) * (M + 1)) by omega), if_pos rfl]
    refine mOk_bind (nextWords_ok hv hM hq aw b g c d) (fun r kr => ?_)
    obtain ⟨b1, b2⟩ := kr
    refine mL2 (Twins_visit_76 (mOd M w out kb e f) L) (fun x mm => (0 ≤ x ∧ x < 8192) ∧ (∀ v : Int, 0 ≤ v → v < 13 → x.toNat.testBit v.toNat = true → xn X kb w v) ∧ mPs3 (fun s' L' => mCu X M (mOd M w out kb e f) (L' - L) s') m mm ∧ ∀ v : Int, xn X kb w v → x.toNat.testBit v.toNat = true ∨ ∀ s' c', mMt X M w out e f v s' c' 0 → mSn mm s' ∨ mPd mm ((L + c') % 8) s') (fun x _ => x.toNat) ?_ r m ⟨b1, fun v v0 v1 h => (b2 v v0 v1).mp h, mPs3.refl hw, fun v h1 => Or.inl ((b2 v h1.1.1 h1.1.2.1).mpr h1)⟩ (by omega)
    rintro fu x mm ⟨x1, x2, ps, x3⟩ ih
    rw [Twins_visit_76]
    by_cases z : x = 0
    · rw [if_pos z]
      refine mOk_some ⟨ps, fun s' c' hc => ?_⟩
      obtain ⟨v, h1, h2⟩ := (cu c' s').mp hc
      rcases x3 v h1 with h | h
      · rw [z, show (0 : Int).toNat = 0 from rfl, Nat.zero_testBit] at h; exact absurd h (by decide)
      · exact h s' c' h2
    · rw [if_neg z]
      obtain ⟨j, j0, j1, kj, jb, jl⟩ := ntz_low (x := x) (m := mm) (by omega) x1.2
      have nj := x2 j j0 j1 jb
      have tq := ps.tq hq
      rw [kj, Option.bind_some]
      refine mOk_bind (meet_ok (kb := kb) hv hM tq ps.2.2.1 L0 L1 aw nj.1 b g c d) (fun m2 k2' => ?_)
      obtain ⟨p2, h2⟩ := k2'
      have p2' : mPs3 (fun s' L' => mCu X M (mOd M w out kb e f) (L' - L) s') mm m2 := p2.mono (fun s' L' h => (cu _ _).mpr ⟨j, nj, mMt_L.mp h⟩)
      obtain ⟨y1, y2⟩ := drop_low (x := x) (by omega) x1.2 j0 jb jl
      refine ih _ _ ⟨by omega, fun v v0 v1 h => ?_, ps.trans p2', fun v h1 => ?_⟩ (by omega)
      · rw [y2, Bool.and_eq_true] at h
        exact x2 v v0 v1 h.1
      · by_cases ev : v = j
        · right
          intro s' c' h
          rw [ev] at h
          exact h2 s' (L + c') (mMt_L.mpr (by rw [show L + c' - L = c' by omega]; exact h))
        · rcases x3 v h1 with h | h
          · left
            rw [y2, h, decide_eq_false (by have := h1.1.1; omega)]; rfl
          · right
            intro s' c' hm
            rcases h s' c' hm with k | k
            · exact Or.inl ((p2.sn _).mpr k)
            · have sv := mCv_bd hv hM (mCu_v hv ((cu c' s').mpr ⟨v, h1, hm⟩)).1
              exact Or.inr (p2.1 _ _ (by omega) (by omega) sv.1 (by omega) k)
