/-! THE CLASS'S SEARCH: meet, visit -/
/-- states of S have come to wait; nothing else has changed -/
def mPs3 (S : Int → Int → Prop) (m m' : aM) : Prop :=
  (∀ j t : Int, 0 ≤ j → j < 8 → 0 ≤ t → t < 4288 → mPd m j t → mPd m' j t) ∧
  (∀ j t : Int, 0 ≤ j → j < 8 → 0 ≤ t → t < 4288 → mPd m' j t → mPd m j t ∨ ∃ L, S t L ∧ j = L % 8) ∧
  m' 80 12 = mPb m' ∧ ∀ q i, q ≠ 100 → ¬(q = 80 ∧ i = 12) → m' q i = m q i
theorem mPs3.refl {S : Int → Int → Prop} {m : aM} (h : m 80 12 = mPb m) : mPs3 S m m := ⟨fun _ _ _ _ _ _ h => h, fun _ _ _ _ _ _ h => Or.inl h, h, fun _ _ _ _ => rfl⟩
theorem mPs3.trans {S : Int → Int → Prop} {m m' m'' : aM} (h : mPs3 S m m') (g : mPs3 S m' m'') : mPs3 S m m'' := by
  obtain ⟨h1, h2, h3, h4⟩ := h
  obtain ⟨g1, g2, g3, g4⟩ := g
  refine ⟨fun j t a b c d k => g1 j t a b c d (h1 j t a b c d k), fun j t a b c d k => ?_, g3, fun q i a b => (g4 q i a b).trans (h4 q i a b)⟩
  rcases g2 j t a b c d k with k | k
  · exact h2 j t a b c d k
  · exact Or.inr k
theorem mPs3.mono {S S' : Int → Int → Prop} {m m' : aM} (h : mPs3 S m m') (k : ∀ s L, S s L → S' s L) : mPs3 S' m m' := by
  obtain ⟨h1, h2, h3, h4⟩ := h
  refine ⟨h1, fun j t a b c d g => ?_, h3, h4⟩
  rcases h2 j t a b c d g with g | ⟨L, g1, g2⟩
  · exact Or.inl g
  · exact Or.inr ⟨L, k _ _ g1, g2⟩
theorem mPs3.sn {S : Int → Int → Prop} {m m' : aM} (h : mPs3 S m m') (s : Int) : mSn m' s ↔ mSn m s := by
  unfold mSn
  rw [h.2.2.2 101 _ (by omega) (by omega)]
theorem mPs3.tq {S : Int → Int → Prop} {m m' X : aM} {M : Int} (h : mPs3 S m m') (g : mTq X M m) : mTq X M m' := by
  have fr := h.2.2.2
  obtain ⟨g1, g2, g3, g4, g5, g7, g6⟩ := g
  refine ⟨by rw [fr _ _ (by omega) (by omega)]; exact g1, by rw [fr _ _ (by omega) (by omega)]; exact g2, fun q i a b => by rw [fr _ _ (by omega) (by omega)]; exact g3 q i a b, by rw [fr _ _ (by omega) (by omega)]; exact g4, by rw [fr _ _ (by omega) (by omega)]; exact g5, by rw [fr _ _ (by omega) (by omega)]; exact g7, fun k a b => ?_⟩
  rw [fr 99 _ (by omega) (by omega)]
  exact g6 k a b
theorem push_S {S : Int → Int → Prop} {s L : Int} {m : aM} (s0 : 0 ≤ s) (s1 : s < 4288) (s2 : s / 64 < m 80 11) (L0 : 0 ≤ L) (hw : m 80 12 = mPb m) (hS : S s L) : mOk (Twins_push s L m) (fun m' => mPs3 S m m' ∧ (mSn m' s ∨ mPd m' (L % 8) s)) := by
  refine mOk_mono (push_ok s0 s1 s2 L0 hw) (fun m' k => ?_)
  obtain ⟨k1, k2, k3, k4⟩ := k
  refine ⟨⟨fun j t a b c d g => (k2 j t a b c d).mpr (Or.inl g), fun j t a b c d g => ?_, k3, k4⟩, ?_⟩
  · rcases (k2 j t a b c d).mp g with g | g
    · exact Or.inl g
    · exact Or.inr ⟨L, by rw [g.2.1]; exact hS, g.1⟩
  · rcases k1 with g | g
    · left
      unfold mSn at *
      rw [k4 101 _ (by omega) (by omega)]
      exact g
    · exact Or.inr g
/-- what a word that meets another leads to -/
def mMt (X : aM) (M w out e f v s' L' L : Int) : Prop := ∃ c ei bo x : Int, (c = if xl X v < out then xl X v else out) ∧ mTl X w (xl X w - out) v c.toNat ei bo ∧ (0 ≤ x ∧ x ≤ ei) ∧ e + bo + x ≤ M ∧ f + bo + ei - x ≤ M ∧ s' = mJn X M w out v (e + bo + x) (f + bo + ei - x) ∧ L' = L + c
theorem meet_ok {X : aM} {M w out kb e f v L : Int} {m : aM} (hv : mTv X) (hM : mM3 M) (hq : mTq X M m) (hw : m 80 12 = mPb m) (L0 : 0 ≤ L) (L1 : L < 100000) (aw : xa X w) (av : xa X v) (b : 1 ≤ out ∧ out ≤ xl X w) (g : 0 ≤ kb ∧ kb ≤ 4) (c : 0 ≤ e ∧ e ≤ M) (d : 0 ≤ f ∧ f ≤ M) : mOk (Twins_meet (mOd M w out kb e f) v L m) (fun m' => mPs3 (fun s' L' => mMt X M w out e f v s' L' L) m m' ∧ ∀ s' L', mMt X M w out e f v s' L' L → mSn m' s' ∨ mPd m' (L' % 8) s') := by
  have hm : M = 0 ∨ M = 1 ∨ M = 2 := hM
  have cb := mC_bd hM
  obtain ⟨q1, q2, q3, q4, q5, q7, q6⟩ := id hq
  have lw := hv.2.1 w aw
  have lv := hv.2.1 v av
  have bd := mOd_bd hM ⟨aw.1, aw.2.1⟩ (out := out) (by omega) g c d
  obtain ⟨r1, r2, -⟩ := wordOut_eq (m := m) hM q5 ⟨aw.1, aw.2.1⟩ (out := out) (by omega) g c d
  obtain ⟨-, d2, d3, d4⟩ := mOd_dec hM ⟨aw.1, aw.2.1⟩ (out := out) (by omega) g c d
  have l95 : m 95 v.toNat = xl X v := q3 _ _ (by omega) (by omega)
  have l95w : m 95 w.toNat = xl X w := q3 _ _ (by omega) (by omega)
  have mn : Jmath_min out (m 95 v.toNat) m = some (if xl X v < out then xl X v else out) := by
    unfold Jmath_min
    rw [l95]
    by_cases x : xl X v < out
    · rw [if_pos x, if_pos x]
    · rw [if_neg x, if_neg x]
  have he : 0 ≤ e * (M + 1) + f := by rcases hm with rfl | rfl | rfl <;> omega
  unfold Twins_meet
  rw [r1, Option.bind_some, r2, Option.bind_some, q5, if_pos (by omega), q4, w32e (x := M + 1) (by omega) (by omega), if_pos (by omega), if_pos ⟨av.1, av.2.1⟩, mn, Option.bind_some, tmod_nn (a := mOd M w out kb e f) (by omega), d2, tdiv_nn he, tmod_nn he, d3, d4, w32e (by omega) (by omega)]
  generalize hc : (if xl X v < out then xl X v else out) = cc
  have cc1 : 1 ≤ cc ∧ cc ≤ out ∧ cc ≤ xl X v ∧ (cc = out ∨ cc = xl X v) := by
    rw [← hc]; split <;> omega
  have mMt_c : ∀ s' L', mMt X M w out e f v s' L' L ↔ ∃ ei bo x : Int, mTl X w (xl X w - out) v cc.toNat ei bo ∧ (0 ≤ x ∧ x ≤ ei) ∧ e + bo + x ≤ M ∧ f + bo + ei - x ≤ M ∧ s' = mJn X M w out v (e + bo + x) (f + bo + ei - x) ∧ L' = L + cc := by
    intro s' L'
    unfold mMt
    constructor
    · rintro ⟨c', ei, bo, x, h1, h2⟩
      rw [hc] at h1
      subst h1
      exact ⟨ei, bo, x, h2⟩
    · rintro ⟨ei, bo, x, h2⟩
      exact ⟨cc, ei, bo, x, hc.symm, h2⟩
  -- none
  have none : ∀ hn : (∀ ei bo : Int, mTl X w (xl X w - out) v cc.toNat ei bo → 2 * M < ei + 2 * bo), mOk (some m) (fun m' => mPs3 (fun s' L' => mMt X M w out e f v s' L' L) m m' ∧ ∀ s' L', mMt X M w out e f v s' L' L → mSn m' s' ∨ mPd m' (L' % 8) s') := by
    intro hn
    refine mOk_some ⟨mPs3.refl hw, fun s' L' k => ?_⟩
    obtain ⟨ei, bo, x, k1, k2, k3, k4, -⟩ := (mMt_c s' L').mp k
    have := hn ei bo k1
    omega
  refine mL4 (Twins_meet_40 v L w out e f cc) (fun ei bo i mm => mm = m ∧ (0 ≤ i ∧ i ≤ cc) ∧ mTl X w (xl X w - out) v i.toNat ei bo ∧ ei + 2 * bo ≤ 2 * M) (fun _ _ i _ => (8 - i).toNat) ?_ 0 0 0 m ⟨rfl, by omega, ⟨rfl, rfl⟩, by omega⟩ (by omega)
  rintro fu ei bo i mm ⟨rfl, i1, tl, lim⟩ ih
  have tb := mTl_bd tl
  rw [Twins_meet_40]
  by_cases x : i < cc
  · rw [if_pos x, if_pos ⟨aw.1, aw.2.1⟩, l95w, w32e (x := xl X w - out) (by omega) (by omega), w32e (x := xl X w - out + i) (by omega) (by omega), if_pos (by omega), if_pos ⟨av.1, av.2.1⟩, if_pos (by omega)]
    have ex : mm (82 + w.toNat) (xl X w - out + i).toNat = xs X w (xl X w - out + i) := q3 _ _ (by omega) (by have := aw.2.1; omega)
    have ey : mm (82 + v.toNat) i.toNat = xs X v i := q3 _ _ (by omega) (by have := av.2.1; omega)
    have bx := lw.2.2 (xl X w - out + i) (by omega) (by omega)
    have by' := lv.2.2 i (by omega) (by omega)
    rw [ex, ey]
    have e98x : mm 98 (xs X w (xl X w - out + i)).toNat = X 98 (xs X w (xl X w - out + i)).toNat := q3 _ _ (by omega) (by omega)
    have e98y : mm 98 (xs X v i).toNat = X 98 (xs X v i).toNat := q3 _ _ (by omega) (by omega)
    rw [e98x, e98y]
    have it : (((i.toNat : Nat) : Int)) = i := Int.toNat_of_nonneg i1.1
    -- one sound more
    have go : ∀ ei2 bo2 : Int, mTl X w (xl X w - out) v (i + 1).toNat ei2 bo2 → ei2 + 2 * bo2 ≤ 2 * M → mOk (Twins_meet_102 (Twins_meet_40 v L w out e f cc fu) v L w out e f cc ei2 bo2 i mm) (fun m' => mPs3 (fun s' L' => mMt X M w out e f v s' L' L) mm m' ∧ ∀ s' L', mMt X M w out e f v s' L' L → mSn m' s' ∨ mPd m' (L' % 8) s') := by
      intro ei2 bo2 t2 l2
      unfold Twins_meet_102
      rw [w32e (by omega) (by omega)]
      exact ih _ _ _ _ ⟨rfl, by omega, t2, l2⟩ (by omega)
    have go2 : ∀ ei2 bo2 : Int, (0 ≤ ei2 ∧ ei2 ≤ 20) → (0 ≤ bo2 ∧ bo2 ≤ 20) → mTl X w (xl X w - out) v (i + 1).toNat ei2 bo2 → mOk (Twins_meet_91 (Twins_meet_40 v L w out e f cc fu) v L w out e f cc ei2 bo2 i mm) (fun m' => mPs3 (fun s' L' => mMt X M w out e f v s' L' L) mm m' ∧ ∀ s' L', mMt X M w out e f v s' L' L → mSn m' s' ∨ mPd m' (L' % 8) s') := by
      intro ei2 bo2 b1 b2 t2
      unfold Twins_meet_91
      rw [q4, w32e (x := 2 * M) (by omega) (by omega), w32e (x := 2 * bo2) (by omega) (by omega), w32e (x := ei2 + 2 * bo2) (by omega) (by omega)]
      by_cases y : 2 * M < ei2 + 2 * bo2
      · rw [if_pos y]
        refine none (fun ei3 bo3 t3 => ?_)
        have := mTl_mono t2 (d := cc.toNat - (i + 1).toNat) (by rw [show (i + 1).toNat + (cc.toNat - (i + 1).toNat) = cc.toNat by omega]; exact t3)
        omega
      · rw [if_neg y]; exact go ei2 bo2 t2 (by omega)
    have e1 : (i + 1).toNat = i.toNat + 1 := by omega
    by_cases u : xs X w (xl X w - out + i) = xs X v i
    · rw [if_pos u]
      refine go ei bo ?_ lim
      rw [e1]
      exact ⟨ei, bo, tl, Or.inl ⟨by rw [it]; exact u, rfl, rfl⟩⟩
    · rw [if_neg u, if_pos (by omega)]
      by_cases y : iand (ishr (X 98 (xs X w (xl X w - out + i)).toNat) (xs X v i)) 1 = 0
      · rw [if_pos y, if_pos (by omega)]
        have ny : ¬ xi X (xs X w (xl X w - out + i)) (xs X v i) := fun h => h y
        by_cases z : iand (X 98 (xs X w (xl X w - out + i)).toNat) (X 98 (xs X v i).toNat) = 0
        · rw [if_pos z]
          refine none (fun ei3 bo3 t3 => ?_)
          exfalso
          obtain ⟨ei4, bo4, t4⟩ := mTl_down (t := i.toNat + 1) (d := cc.toNat - (i.toNat + 1)) (by rw [show i.toNat + 1 + (cc.toNat - (i.toNat + 1)) = cc.toNat by omega]; exact t3)
          obtain ⟨ei5, bo5, -, t5⟩ := t4
          rw [it] at t5
          rcases t5 with ⟨h, -⟩ | ⟨-, h, -⟩ | ⟨-, -, h, -⟩
          · exact u h
          · exact ny h
          · exact h z
        · rw [if_neg z, w32e (x := bo + 1) (by omega) (by omega)]
          refine go2 ei (bo + 1) (by omega) (by omega) ?_
          rw [e1]
          exact ⟨ei, bo, tl, Or.inr (Or.inr ⟨by rw [it]; exact u, by rw [it]; exact ny, by rw [it]; exact z, rfl, rfl⟩)⟩
      · rw [if_neg y, w32e (x := ei + 1) (by omega) (by omega)]
        refine go2 (ei + 1) bo (by omega) (by omega) ?_
        rw [e1]
        exact ⟨ei, bo, tl, Or.inr (Or.inl ⟨by rw [it]; exact u, by rw [it]; exact y, rfl, rfl⟩)⟩
  · rw [if_neg x]
    have ec : i = cc := by omega
    subst ec
    -- all ways to share the mistakes
    refine mL2 (Twins_meet_106 v L w out e f i ei bo) (fun x m2 => (0 ≤ x ∧ x ≤ ei + 1) ∧ mPs3 (fun s' L' => mMt X M w out e f v s' L' L) mm m2 ∧ ∀ x', 0 ≤ x' → x' < x → e + bo + x' ≤ M → f + bo + ei - x' ≤ M → mSn m2 (mJn X M w out v (e + bo + x') (f + bo + ei - x')) ∨ mPd m2 ((L + i) % 8) (mJn X M w out v (e + bo + x') (f + bo + ei - x'))) (fun x _ => (20 - x).toNat) ?_ 0 mm ⟨by omega, mPs3.refl hw, fun x' a b => by omega⟩ (by omega)
    rintro fu2 x m2 ⟨x1, ps, al⟩ ih2
    have e9 : m2 80 9 = M := by rw [ps.2.2.2 _ _ (by omega) (by omega)]; exact q4
    rw [Twins_meet_106, e9, w32e (x := e + bo) (by omega) (by omega), w32e (x := e + bo + x) (by omega) (by omega), w32e (x := f + bo) (by omega) (by omega), w32e (x := f + bo + ei) (by omega) (by omega), w32e (x := f + bo + ei - x) (by omega) (by omega)]
    by_cases y : ei < x
    · rw [if_pos y]
      refine mOk_some ⟨ps, fun s' L' k => ?_⟩
      obtain ⟨ei2, bo2, x2, k1, k2, k3, k4, rfl, rfl⟩ := (mMt_c s' L').mp k
      obtain ⟨rfl, rfl⟩ := mTl_uni k1 tl
      exact al x2 k2.1 (by omega) k3 k4
    rw [if_neg y]
    have skip : ¬(e + bo + x ≤ M ∧ f + bo + ei - x ≤ M) → mOk (Twins_meet_143 (Twins_meet_106 v L w out e f i ei bo fu2) v L w out e f i ei bo x m2) (fun m' => mPs3 (fun s' L' => mMt X M w out e f v s' L' L) mm m' ∧ ∀ s' L', mMt X M w out e f v s' L' L → mSn m' s' ∨ mPd m' (L' % 8) s') := by
      intro hn
      unfold Twins_meet_143
      rw [w32e (by omega) (by omega)]
      refine ih2 _ _ ⟨by omega, ps, fun x' a b c1 c2 => ?_⟩ (by omega)
      by_cases ex : x' = x
      · rw [ex] at c1 c2; exact absurd ⟨c1, c2⟩ hn
      · exact al x' a (by omega) c1 c2
    by_cases z : M < e + bo + x
    · rw [if_pos z]; exact skip (by omega)
    rw [if_neg z]
    by_cases z2 : M < f + bo + ei - x
    · rw [if_pos z2]; exact skip (by omega)
    rw [if_neg z2, joined_eq hv hM (ps.tq hq) aw av b (by omega) (by omega), Option.bind_some, w32e (x := L + i) (by omega) (by omega)]
    have jb := mJn_bd hv hM aw av b (e := e + bo + x) (f := f + bo + ei - x) (by omega) (by omega)
    refine mOk_bind (push_S (S := fun s' L' => mMt X M w out e f v s' L' L) jb.1 (by omega) (by rw [(ps.tq hq).2.2.2.2.2.1]; omega) (by omega) ps.2.2.1 ((mMt_c _ _).mpr ⟨ei, bo, x, tl, by omega, by omega, by omega, rfl, rfl⟩)) (fun m3 k3 => ?_)
    obtain ⟨p3, h3⟩ := k3
    unfold Twins_meet_143
    rw [w32e (by omega) (by omega)]
    refine ih2 _ _ ⟨by omega, ps.trans p3, fun x' a b' c1 c2 => ?_⟩ (by omega)
    by_cases ex : x' = x
    · rw [ex]; exact h3
    · rcases al x' a (by omega) c1 c2 with h | h
      · exact Or.inl ((p3.sn _).mpr h)
      · have jb' := mJn_bd hv hM aw av b (e := e + bo + x') (f := f + bo + ei - x') (by omega) (by omega)
        exact Or.inr (p3.1 _ _ (by omega) (by omega) jb'.1 (by omega) h)
