/-! THE CLASS'S STATES ARE TWO SENTENCES, AND ALL OF THEM -/
theorem mSt3_odd {X : aM} {M w : Int} : mSt3 X M w = mOd M w (xl X w) 4 0 0 := rfl
theorem xD_of {X : aM} {M : Int} (hv : mTv X) (hs : xSym X M) (hM : mM3 M) : ∀ (n : Nat) (s L : Int), mCq X M n s L → xD X M s L := by
  have M0 : 0 ≤ M := by rcases hM with h | h | h <;> omega
  intro n
  induction n with
  | zero =>
    rintro s L ⟨rfl, w, aw, rfl⟩
    exact Or.inl ⟨w, aw, rfl, rfl⟩
  | succ n ih =>
    rintro s L ⟨t, L', c, h1, h2, rfl⟩
    have d := ih t L' h1
    rcases h2 with ⟨k1, k2, e, f, w, rfl, ⟨g1, g2, g3, g4⟩, aw, fw, rfl, rfl⟩ | ⟨w, out, kb, e, f, v, rfl, ⟨aw, hb, hg, hc, hd⟩, nw, mt⟩
    · have eb := mEv_bd hM g1 g2 g3 g4
      rcases d with ⟨w', aw', e1, -⟩ | ⟨w', out', kb', e', f', n', a, i, b, j, e1, ⟨aw', hb', hg'⟩, -, hx, -⟩ | ⟨k1', k2', e', f', n', a, i, b, j, e1, eL, hx, ia, jb, ka, kb⟩
      · exfalso
        have l := (hv.2.1 w' aw').1
        have := mOd_bd hM ⟨aw'.1, aw'.2.1⟩ (out := xl X w') (kb := 4) (e := 0) (f := 0) (by omega) (by omega) (by omega) (by omega)
        rw [mSt3_odd] at e1
        omega
      · exfalso
        have l := (hv.2.1 w' aw').1
        obtain ⟨-, -, x3, x4⟩ := xR_v hv M0 hx
        have := mOd_bd hM ⟨aw'.1, aw'.2.1⟩ (out := out') (kb := kb') (e := e') (f := f') (by omega) (by omega) x3 x4
        omega
      · obtain ⟨x1, x2, x3, x4⟩ := xR_v hv M0 hx
        have ra := (hv.2.1 a x1.1).2.1
        have rb := (hv.2.1 b x2.1).2.1
        obtain ⟨y1, y2, y3, y4⟩ := mEv_inj hM g1 g2 g3 g4 (by omega) (by omega) x3 x4 e1
        subst y3 y4
        have lw := (hv.2.1 w aw).1
        refine Or.inr (Or.inl ⟨w, xl X w, k2, e, f, n', a, i, b, j, rfl, ⟨aw, by omega, g2⟩, by omega, hx, jb, by omega, Or.inr ⟨ia, aw, ?_, by omega⟩⟩)
        rw [ka, ← y1]
        exact fw
    · have lw := (hv.2.1 w aw).1
      have lv := (hv.2.1 v nw.1).1
      obtain ⟨c', ei, bo, x, c1, tl, x1, x2, x3, rfl, c2⟩ := mt
      have cb : 1 ≤ c' ∧ c' ≤ out ∧ c' ≤ xl X v ∧ (c' = out ∨ c' = xl X v) := by
        rw [c1]; split <;> omega
      have tb := mTl_bd tl
      -- the first sound of the meeting
      have start : ∃ Lc : Nat, (Lc : Int) = L' ∧ ∀ e' f', xHr X M (xs X w (xl X w - out)) (xs X v 0) e f e' f' → xR X M Lc w (xl X w - out) v 0 e' f' := by
        rcases d with ⟨w', aw', e1, eL⟩ | ⟨w', out', kb', e', f', n', a, i, b, j, e1, ⟨aw', hb', hg'⟩, eL, hx, jb, kbb, sa⟩ | ⟨k1', k2', e', f', n', a, i, b, j, e1, eL, hx, ia, jb, ka, kb⟩
        · have l := (hv.2.1 w' aw').1
          rw [mSt3_odd] at e1
          obtain ⟨y1, y2, y3, y4, y5⟩ := mOd_inj hM ⟨aw.1, aw.2.1⟩ (by omega) hg hc hd ⟨aw'.1, aw'.2.1⟩ (by omega) (by omega) (by omega) (by omega) e1
          subst y1 y4 y5
          refine ⟨0, by omega, fun e' f' hr => ?_⟩
          rw [show xl X w - out = 0 by omega] at hr ⊢
          refine ⟨aw, nw.1, ?_, rfl, rfl, hr⟩
          rcases nw.2 with g | g
          · omega
          · exact absurd y3 g.1
        · have l := (hv.2.1 w' aw').1
          obtain ⟨z1, z2, z3, z4⟩ := xR_v hv M0 hx
          obtain ⟨y1, y2, y3, y4, y5⟩ := mOd_inj hM ⟨aw.1, aw.2.1⟩ (by omega) hg hc hd ⟨aw'.1, aw'.2.1⟩ (by omega) (by omega) z3 z4 e1
          subst y1 y2 y4 y5
          refine ⟨n' + 1, by omega, fun e' f' hr => ⟨a, i, b, j, e, f, hx, sa, Or.inr ⟨jb, nw.1, ?_, rfl⟩, hr⟩⟩
          rcases nw.2 with g | g
          · omega
          · rw [kbb, ← y3]; exact g.2
        · exfalso
          obtain ⟨z1, z2, z3, z4⟩ := xR_v hv M0 hx
          have ra := (hv.2.1 a z1.1).2.1
          have rb := (hv.2.1 b z2.1).2.1
          have := mEv_bd hM (k1 := k1') (k2 := k2') (by omega) (by omega) z3 z4
          have := mOd_bd hM ⟨aw.1, aw.2.1⟩ (out := out) (by omega) hg hc hd
          omega
      obtain ⟨Lc, eLc, start⟩ := start
      have rx := xR_meet hc hd (by omega) start (c'.toNat - 1) ei bo x (by omega) (by omega) (by rw [show c'.toNat - 1 + 1 = c'.toNat by omega]; exact tl) x1.1 x1.2 x2 x3
      have ec : (((c'.toNat - 1 : Nat)) : Int) = c' - 1 := by omega
      rw [ec] at rx
      unfold mJn
      by_cases y : xl X v < out
      · rw [if_pos y]
        refine Or.inr (Or.inl ⟨w, out - xl X v, xk X v, _, _, Lc + (c'.toNat - 1), w, _, v, _, rfl, ⟨aw, by omega, (hv.2.1 v nw.1).2.1⟩, by omega, rx, by omega, rfl, Or.inl ⟨by omega, rfl, by omega⟩⟩)
      · rw [if_neg y]
        by_cases z : out < xl X v
        · rw [if_pos z]
          exact Or.inr (Or.inl ⟨v, xl X v - out, xk X w, _, _, Lc + (c'.toNat - 1), v, _, w, _, rfl, ⟨nw.1, by omega, (hv.2.1 w aw).2.1⟩, by omega, xR_sym hv hs M0 rx, by omega, rfl, Or.inl ⟨by omega, rfl, by omega⟩⟩)
        · rw [if_neg z]
          by_cases u : xk X v < xk X w
          · rw [if_pos u]
            exact Or.inr (Or.inr ⟨_, _, _, _, Lc + (c'.toNat - 1), v, _, w, _, rfl, by omega, xR_sym hv hs M0 rx, by omega, by omega, rfl, rfl⟩)
          · rw [if_neg u]
            exact Or.inr (Or.inr ⟨_, _, _, _, Lc + (c'.toNat - 1), w, _, v, _, rfl, by omega, rx, by omega, by omega, rfl, rfl⟩)
/-- a meeting that is under way -/
def xPM (X : aM) (M : Int) (n : Nat) (a i b j e f : Int) : Prop := ∃ (k : Nat) (w out kb e0 f0 v t ei bo x L0 : Int), mCq X M k (mOd M w out kb e0 f0) L0 ∧ (xa X w ∧ (1 ≤ out ∧ out ≤ xl X w) ∧ (0 ≤ kb ∧ kb ≤ 4) ∧ (0 ≤ e0 ∧ e0 ≤ M) ∧ (0 ≤ f0 ∧ f0 ≤ M)) ∧ xn X kb w v ∧ (1 ≤ t ∧ t ≤ out ∧ t ≤ xl X v) ∧ L0 + t = n + 1 ∧ mTl X w (xl X w - out) v t.toNat ei bo ∧ (0 ≤ x ∧ x ≤ ei) ∧ e = e0 + bo + x ∧ f = f0 + bo + ei - x ∧ a = w ∧ i = xl X w - out + t - 1 ∧ b = v ∧ j = t - 1
theorem mTl_more {X : aM} {M w off v e0 f0 e f e' f' ei bo x : Int} {t : Nat} (tl : mTl X w off v t ei bo) (x1 : 0 ≤ x ∧ x ≤ ei) (he : e = e0 + bo + x) (hf : f = f0 + bo + ei - x) (hr : xHr X M (xs X w (off + t)) (xs X v t) e f e' f') : ∃ ei' bo' x', mTl X w off v (t + 1) ei' bo' ∧ (0 ≤ x' ∧ x' ≤ ei') ∧ e' = e0 + bo' + x' ∧ f' = f0 + bo' + ei' - x' := by
  rcases hr with ⟨h1, h2, h3⟩ | ⟨h1, h2, ⟨h3, h4, h5⟩ | ⟨h3, h4, h5⟩⟩ | ⟨h1, h2, h3, h4, h5, h6, h7⟩
  · exact ⟨ei, bo, x, ⟨ei, bo, tl, Or.inl ⟨h1, rfl, rfl⟩⟩, x1, by omega, by omega⟩
  · exact ⟨ei + 1, bo, x, ⟨ei, bo, tl, Or.inr (Or.inl ⟨h1, h2, rfl, rfl⟩)⟩, by omega, by omega, by omega⟩
  · exact ⟨ei + 1, bo, x + 1, ⟨ei, bo, tl, Or.inr (Or.inl ⟨h1, h2, rfl, rfl⟩)⟩, by omega, by omega, by omega⟩
  · exact ⟨ei, bo + 1, x, ⟨ei, bo, tl, Or.inr (Or.inr ⟨h1, h2, h3, rfl, rfl⟩)⟩, by omega, by omega, by omega⟩
/-- the first sound of a meeting -/
theorem xPM_new {X : aM} {M w out kb e0 f0 v L0 e f : Int} {k n : Nat} (h : mCq X M k (mOd M w out kb e0 f0) L0) (hv : xa X w ∧ (1 ≤ out ∧ out ≤ xl X w) ∧ (0 ≤ kb ∧ kb ≤ 4) ∧ (0 ≤ e0 ∧ e0 ≤ M) ∧ (0 ≤ f0 ∧ f0 ≤ M)) (nw : xn X kb w v) (lv : 1 ≤ xl X v) (hL : L0 = n) (hr : xHr X M (xs X w (xl X w - out)) (xs X v 0) e0 f0 e f) : xPM X M n w (xl X w - out) v 0 e f := by
  obtain ⟨ei, bo, x, t1, t2, t3, t4⟩ := mTl_more (X := X) (M := M) (w := w) (off := xl X w - out) (v := v) (e0 := e0) (f0 := f0) (e := e0) (f := f0) (e' := e) (f' := f) (ei := 0) (bo := 0) (x := 0) (t := 0) ⟨rfl, rfl⟩ (by omega) (by omega) (by omega) (by rw [show xl X w - out + ((0 : Nat) : Int) = xl X w - out by omega]; exact hr)
  exact ⟨k, w, out, kb, e0, f0, v, 1, ei, bo, x, L0, h, hv, nw, by omega, by omega, t1, t2, t3, t4, rfl, by omega, rfl, by omega⟩
theorem xPM_step {X : aM} {M : Int} (hv : mTv X) (hs : xSym X M) (hM : mM3 M) {n : Nat} {a i b j e f a2 i2 b2 j2 e2 f2 : Int} (h : xPM X M n a i b j e f) (em : e ≤ M) (fm : f ≤ M) (s1 : xSt X a i a2 i2) (s2 : xSt X b j b2 j2) (hr : xHr X M (xs X a2 i2) (xs X b2 j2) e f e2 f2) : xPM X M (n + 1) a2 i2 b2 j2 e2 f2 ∨ xPM X M (n + 1) b2 j2 a2 i2 f2 e2 := by
  have M0 : 0 ≤ M := by rcases hM with h | h | h <;> omega
  obtain ⟨k, w, out, kb, e0, f0, v, t, ei, bo, x, L0, hq, ⟨aw, hb, hg, hc, hd⟩, nw, t1, tL, tl, x1, he, hf, rfl, hi, rfl, hj⟩ := h
  have lw := hv.2.1 a aw
  have lv := hv.2.1 b nw.1
  have tb := mTl_bd tl
  have v2 := xSt_v hv aw (i := i) (by omega) s1
  have w2 := xSt_v hv nw.1 (i := j) (by omega) s2
  have sx := (hv.2.1 a2 v2.1).2.2 i2 v2.2.1 v2.2.2
  have sy := (hv.2.1 b2 w2.1).2.2 j2 w2.2.1 w2.2.2
  by_cases c : t < out ∧ t < xl X b
  · -- within both words
    obtain ⟨p1, p2⟩ : a2 = a ∧ i2 = xl X a - out + t := by
      rcases s1 with ⟨-, g1, g2⟩ | ⟨g, -⟩
      · exact ⟨g1, by omega⟩
      · omega
    obtain ⟨p3, p4⟩ : b2 = b ∧ j2 = t := by
      rcases s2 with ⟨-, g1, g2⟩ | ⟨g, -⟩
      · exact ⟨g1, by omega⟩
      · omega
    subst p1 p3
    rw [p2, p4] at hr
    have tt : ((t.toNat : Nat) : Int) = t := by omega
    obtain ⟨ei', bo', x', u1, u2, u3, u4⟩ := mTl_more (t := t.toNat) (e0 := e0) (f0 := f0) tl x1 he hf (by rw [tt]; exact hr)
    exact Or.inl ⟨k, a2, out, kb, e0, f0, b2, t + 1, ei', bo', x', L0, hq, ⟨aw, hb, hg, hc, hd⟩, nw, by omega, by omega, by rw [show (t + 1).toNat = t.toNat + 1 by omega]; exact u1, u2, u3, u4, rfl, by omega, rfl, by omega⟩
  -- the meeting is done
  have ct : t = if xl X b < out then xl X b else out := by split <;> omega
  have cu : mCu X M (mOd M a out kb e0 f0) t (mJn X M a out b e f) := Or.inr ⟨a, out, kb, e0, f0, b, rfl, ⟨aw, hb, hg, hc, hd⟩, nw, t, ei, bo, x, ct, tl, x1, by omega, by omega, by rw [he, hf], by omega⟩
  have q1 : mCq X M (k + 1) (mJn X M a out b e f) (L0 + t) := ⟨_, _, _, hq, cu, rfl⟩
  have ex : 0 ≤ e ∧ e ≤ M := by omega
  have fx : 0 ≤ f ∧ f ≤ M := by omega
  unfold mJn at q1
  by_cases y : xl X b < out
  · rw [if_pos y] at q1
    obtain ⟨p1, p2⟩ : a2 = a ∧ i2 = xl X a - out + t := by
      rcases s1 with ⟨-, g1, g2⟩ | ⟨g, -⟩
      · exact ⟨g1, by omega⟩
      · omega
    obtain ⟨p3, p4, p5⟩ : xa X b2 ∧ xf X (xk X b) b2 ∧ j2 = 0 := by
      rcases s2 with ⟨g, -⟩ | ⟨-, g1, g2, g3⟩
      · omega
      · exact ⟨g1, g2, g3⟩
    subst p1 p5
    have l2 := (hv.2.1 b2 p3).1
    have ei2 : i2 = xl X a2 - (out - xl X b) := by omega
    rw [ei2] at hr ⊢
    exact Or.inl (xPM_new q1 ⟨aw, by omega, by omega, ex, fx⟩ ⟨p3, Or.inr ⟨by omega, p4⟩⟩ (by omega) (by omega) hr)
  · rw [if_neg y] at q1
    by_cases z : out < xl X b
    · rw [if_pos z] at q1
      obtain ⟨p1, p2⟩ : b2 = b ∧ j2 = t := by
        rcases s2 with ⟨-, g1, g2⟩ | ⟨g, -⟩
        · exact ⟨g1, by omega⟩
        · omega
      obtain ⟨p3, p4, p5⟩ : xa X a2 ∧ xf X (xk X a) a2 ∧ i2 = 0 := by
        rcases s1 with ⟨g, -⟩ | ⟨-, g1, g2, g3⟩
        · omega
        · exact ⟨g1, g2, g3⟩
      subst p1 p5
      have l2 := (hv.2.1 a2 p3).1
      have hr' := xHr_sym hs v2.1 v2.2 w2.1 w2.2 (by omega) (by omega) hr
      have ej2 : j2 = xl X b2 - (xl X b2 - out) := by omega
      rw [ej2] at hr' ⊢
      exact Or.inr (xPM_new q1 ⟨nw.1, by omega, by omega, fx, ex⟩ ⟨p3, Or.inr ⟨by omega, p4⟩⟩ (by omega) (by omega) hr')
    · rw [if_neg z] at q1
      obtain ⟨p3, p4, p5⟩ : xa X a2 ∧ xf X (xk X a) a2 ∧ i2 = 0 := by
        rcases s1 with ⟨g, -⟩ | ⟨-, g1, g2, g3⟩
        · omega
        · exact ⟨g1, g2, g3⟩
      obtain ⟨r3, r4, r5⟩ : xa X b2 ∧ xf X (xk X b) b2 ∧ j2 = 0 := by
        rcases s2 with ⟨g, -⟩ | ⟨-, g1, g2, g3⟩
        · omega
        · exact ⟨g1, g2, g3⟩
      subst p5 r5
      have la2 := (hv.2.1 a2 p3).1
      have lb2 := (hv.2.1 b2 r3).1
      by_cases u : xk X b < xk X a
      · rw [if_pos u] at q1
        have q2 : mCq X M (k + 1 + 1) (mOd M b2 (xl X b2) (xk X a) f e) (L0 + t) := ⟨_, _, 0, q1, Or.inl ⟨_, _, _, _, b2, rfl, ⟨lv.2.1, lw.2.1, fx, ex⟩, r3, r4, rfl, rfl⟩, by omega⟩
        have hr' := xHr_sym hs v2.1 v2.2 w2.1 w2.2 (by omega) (by omega) hr
        have := xPM_new (n := n + 1) q2 ⟨r3, by omega, by omega, fx, ex⟩ (v := a2) ⟨p3, Or.inr ⟨by omega, p4⟩⟩ (by omega) (by omega) (by rw [Int.sub_self]; exact hr')
        rw [Int.sub_self] at this
        exact Or.inr this
      · rw [if_neg u] at q1
        have q2 : mCq X M (k + 1 + 1) (mOd M a2 (xl X a2) (xk X b) e f) (L0 + t) := ⟨_, _, 0, q1, Or.inl ⟨_, _, _, _, a2, rfl, ⟨lw.2.1, lv.2.1, ex, fx⟩, p3, p4, rfl, rfl⟩, by omega⟩
        have := xPM_new (n := n + 1) q2 ⟨p3, by omega, by omega, ex, fx⟩ (v := b2) ⟨r3, Or.inr ⟨by omega, r4⟩⟩ (by omega) (by omega) (by rw [Int.sub_self]; exact hr)
        rw [Int.sub_self] at this
        exact Or.inl this
theorem xPM_of {X : aM} {M : Int} (hv : mTv X) (hs : xSym X M) (hM : mM3 M) : ∀ (n : Nat) (w i v j e f : Int), xR X M n w i v j e f → xPM X M n w i v j e f ∨ xPM X M n v j w i f e := by
  have M0 : 0 ≤ M := by rcases hM with h | h | h <;> omega
  intro n
  induction n with
  | zero =>
    rintro w i v j e f ⟨aw, av, ne, rfl, rfl, hr⟩
    have lw := hv.2.1 w aw
    have lv := hv.2.1 v av
    rcases Int.lt_or_gt_of_ne ne with c | c
    · right
      have hr' := xHr_sym hs aw (by omega) av (by omega) (by omega) (by omega) hr
      have := xPM_new (X := X) (M := M) (w := v) (out := xl X v) (kb := 4) (e0 := 0) (f0 := 0) (v := w) (L0 := 0) (k := 0) (n := 0) ⟨rfl, v, av, rfl⟩ ⟨av, by omega, by omega, by omega, by omega⟩ ⟨aw, Or.inl ⟨rfl, c⟩⟩ (by omega) (by omega) (by rw [Int.sub_self]; exact hr')
      rw [Int.sub_self] at this
      exact this
    · left
      have := xPM_new (X := X) (M := M) (w := w) (out := xl X w) (kb := 4) (e0 := 0) (f0 := 0) (v := v) (L0 := 0) (k := 0) (n := 0) ⟨rfl, w, aw, rfl⟩ ⟨aw, by omega, by omega, by omega, by omega⟩ ⟨av, Or.inl ⟨rfl, by omega⟩⟩ (by omega) (by omega) (by rw [Int.sub_self]; exact hr)
      rw [Int.sub_self] at this
      exact this
  | succ n ih =>
    rintro w i v j e f h
    obtain ⟨w', i', v', j', e', f', h', s1, s2, hr⟩ := h
    obtain ⟨a1, a2, a3, a4⟩ := xR_v hv M0 h'
    have v2 := xSt_v hv a1.1 a1.2 s1
    have w2 := xSt_v hv a2.1 a2.2 s2
    have sx := (hv.2.1 w v2.1).2.2 i v2.2.1 v2.2.2
    have sy := (hv.2.1 v w2.1).2.2 j w2.2.1 w2.2.2
    rcases ih w' i' v' j' e' f' h' with p | p
    · exact xPM_step hv hs hM p a3.2 a4.2 s1 s2 hr
    · exact (xPM_step hv hs hM p a4.2 a3.2 s2 s1 (xHr_sym hs v2.1 v2.2 w2.1 w2.2 (by omega) (by omega) hr)).symm
