/-! THE LINES OF BOTH ARE THE SAME -/
/-- two sentences that differ from their first words on, both said as σ, behind n + 1 sounds -/
def jL (X : aM) (σ : Nat → Int) : Nat → Int → Int → Int → Int → Prop
  | 0, w, i, v, j => xa X w ∧ xa X v ∧ w ≠ v ∧ i = 0 ∧ j = 0 ∧ xs X w 0 = σ 0 ∧ xs X v 0 = σ 0
  | n + 1, w, i, v, j => ∃ w' i' v' j', jL X σ n w' i' v' j' ∧ xSt X w' i' w i ∧ xSt X v' j' v j ∧ xs X w i = σ (n + 1) ∧ xs X v j = σ (n + 1)
theorem jL_R {X : aM} {σ : Nat → Int} : ∀ {n : Nat} {w i v j : Int}, jL X σ n w i v j → xR X 0 n w i v j 0 0
  | 0, w, i, v, j, ⟨a, b, c, d, e, f, g⟩ => ⟨a, b, c, d, e, Or.inl ⟨by rw [f, g], rfl, rfl⟩⟩
  | n + 1, w, i, v, j, ⟨w', i', v', j', h, s1, s2, f, g⟩ => ⟨w', i', v', j', 0, 0, jL_R h, s1, s2, Or.inl ⟨by rw [f, g], rfl, rfl⟩⟩
theorem jL_sym {X : aM} {σ : Nat → Int} : ∀ {n : Nat} {w i v j : Int}, jL X σ n w i v j → jL X σ n v j w i
  | 0, w, i, v, j, ⟨a, b, c, d, e, f, g⟩ => ⟨b, a, fun h => c h.symm, e, d, g, f⟩
  | n + 1, w, i, v, j, ⟨w', i', v', j', h, s1, s2, f, g⟩ => ⟨v', j', w', i', jL_sym h, s2, s1, g, f⟩
theorem jL_v {X : aM} {σ : Nat → Int} (hv : mTv X) {n : Nat} {w i v j : Int} (h : jL X σ n w i v j) : (xa X w ∧ 0 ≤ i ∧ i < xl X w) ∧ (xa X v ∧ 0 ≤ j ∧ j < xl X v) := by
  obtain ⟨a, b, -, -⟩ := xR_v hv (by omega) (jL_R h)
  exact ⟨a, b⟩
def jD (X : aM) (σ : Nat → Int) (s L : Int) : Prop :=
  (∃ w, xa X w ∧ s = jO w (xl X w) 4 ∧ L = 0) ∨
  (∃ (w out kb : Int) (n : Nat) (a i b j : Int), s = jO w out kb ∧ (xa X w ∧ (1 ≤ out ∧ out ≤ xl X w) ∧ (0 ≤ kb ∧ kb ≤ 3)) ∧ L = n + 1 ∧ jL X σ n a i b j ∧ j + 1 = xl X b ∧ xk X b = kb ∧ xSt X a i w (xl X w - out)) ∨
  (∃ (k1 k2 : Int) (n : Nat) (a i b j : Int), s = jE k1 k2 ∧ ((0 ≤ k1 ∧ k1 ≤ 3) ∧ (0 ≤ k2 ∧ k2 ≤ 3)) ∧ L = n + 1 ∧ jL X σ n a i b j ∧ i + 1 = xl X a ∧ j + 1 = xl X b ∧ xk X a = k1 ∧ xk X b = k2)
theorem jD_of {X : aM} {σ : Nat → Int} (hv : mTv X) : ∀ (n : Nat) (s L : Int), jQ X σ n s L → jD X σ s L := by
  intro n
  induction n with
  | zero =>
    rintro s L ⟨rfl, w, aw, rfl⟩
    exact Or.inl ⟨w, aw, rfl, rfl⟩
  | succ n ih =>
    rintro s L ⟨t, L', c, q, u, rfl, told⟩
    have d := ih t L' q
    rcases u with ⟨k1, k2, w, rfl, ⟨g1, g2⟩, aw, fw, rfl, rfl⟩ | ⟨w, out, kb, v, rfl, ⟨aw, hb, hg⟩, nw, rfl, hs, rfl⟩
    · have eb := jE_lt g1 g2
      rcases d with ⟨w', aw', e1, -⟩ | ⟨w', out', kb', n', a, i, b, j, e1, ⟨aw', hb', hg'⟩, -⟩ | ⟨k1', k2', n', a, i, b, j, e1, ⟨g1', g2'⟩, eL, hx, ia, jb, ka, kb⟩
      · exfalso
        have := (jO_ge (k := 4) hv aw' (by omega)).1
        omega
      · exfalso
        have := (jV_bd hv ⟨w', out', kb', e1, aw', hb', by omega⟩).1
        omega
      · obtain ⟨y1, y2⟩ := jE_inj g2 g2' e1
        have lw := (hv.2.1 w aw).1
        refine Or.inr (Or.inl ⟨w, xl X w, k2, n', a, i, b, j, rfl, ⟨aw, by omega, g2⟩, by omega, hx, jb, by omega, Or.inr ⟨ia, aw, ?_, by omega⟩⟩)
        rw [ka, ← y1]
        exact fw
    · have lw := (hv.2.1 w aw)
      have lv := (hv.2.1 v nw.1)
      have cb := jC_bd (X := X) (out := out) (v := v) hb.1 lv.1.1
      generalize hc : jC X out v = c at *
      have tl : ∀ k : Int, 0 ≤ k → k < c → xs X w (xl X w - out + k) = σ (L' + k).toNat := fun k k0 k1 => by
        rw [← told k k0 k1]
        exact (jT_O (X := X) (w := w) (by omega) hg k).1.symm
      have tv : ∀ k : Int, 0 ≤ k → k < c → xs X v k = σ (L' + k).toNat := fun k k0 k1 => by
        rw [← hs k k0 k1]
        exact tl k k0 k1
      -- the first sound of the meeting
      have start : ∃ Lc : Nat, (Lc : Int) = L' ∧ jL X σ Lc w (xl X w - out) v 0 := by
        have t0 := tl 0 (by omega) (by omega)
        have v0 := tv 0 (by omega) (by omega)
        rw [Int.add_zero] at t0 v0
        rw [Int.add_zero] at t0
        rcases d with ⟨w', aw', e1, eL⟩ | ⟨w', out', kb', n', a, i, b, j, e1, ⟨aw', hb', hg'⟩, eL, hx, jb, kbb, sa⟩ | ⟨k1', k2', n', a, i, b, j, e1, ⟨g1', g2'⟩, -⟩
        · have l := (hv.2.1 w' aw').1
          obtain ⟨y1, y2, y3⟩ := jO_inj (by omega) hg (by omega) (by omega) e1
          subst y1
          refine ⟨0, by omega, ?_⟩
          rw [eL, show (0 : Int).toNat = 0 from rfl] at t0 v0
          rw [show xl X w - out = 0 by omega] at t0 ⊢
          refine ⟨aw, nw.1, ?_, rfl, rfl, t0, v0⟩
          rcases nw.2 with g | g
          · omega
          · exact absurd y3 g.1
        · have l := (hv.2.1 w' aw').1
          obtain ⟨y1, y2, y3⟩ := jO_inj (by omega) hg (by omega) (by omega) e1
          subst y1 y2
          have eN : L'.toNat = n' + 1 := by omega
          rw [eN] at t0 v0
          refine ⟨n' + 1, by omega, a, i, b, j, hx, sa, Or.inr ⟨jb, nw.1, ?_, rfl⟩, t0, v0⟩
          rcases nw.2 with g | g
          · omega
          · rw [kbb, ← y3]; exact g.2
        · exfalso
          have := jE_lt g1' g2'
          have := (jV_bd hv ⟨w, out, kb, rfl, aw, hb, hg⟩).1
          omega
      obtain ⟨Lc, eLc, start⟩ := start
      have meet : ∀ t : Nat, (t : Int) < c → jL X σ (Lc + t) w (xl X w - out + t) v t := by
        intro t
        induction t with
        | zero =>
          intro _
          rw [show xl X w - out + ((0 : Nat) : Int) = xl X w - out by omega]
          exact start
        | succ t iht =>
          intro ht
          have h := iht (by omega)
          have s1 := tl ((t + 1 : Nat) : Int) (by omega) ht
          have s2 := tv ((t + 1 : Nat) : Int) (by omega) ht
          rw [show (L' + ((t + 1 : Nat) : Int)).toNat = Lc + t + 1 by omega] at s1 s2
          exact ⟨w, xl X w - out + t, v, t, h, Or.inl ⟨by omega, rfl, by omega⟩, Or.inl ⟨by omega, rfl, by omega⟩, s1, s2⟩
      have rx := meet (c.toNat - 1) (by omega)
      have ec : (((c.toNat - 1 : Nat)) : Int) = c - 1 := by omega
      rw [ec] at rx
      unfold jJ
      by_cases y : xl X v < out
      · rw [if_pos y]
        exact Or.inr (Or.inl ⟨w, out - xl X v, xk X v, Lc + (c.toNat - 1), w, _, v, _, rfl, ⟨aw, by omega, lv.2.1⟩, by omega, rx, by omega, rfl, Or.inl ⟨by omega, rfl, by omega⟩⟩)
      · rw [if_neg y]
        by_cases z : out < xl X v
        · rw [if_pos z]
          exact Or.inr (Or.inl ⟨v, xl X v - out, xk X w, Lc + (c.toNat - 1), v, _, w, _, rfl, ⟨nw.1, by omega, lw.2.1⟩, by omega, jL_sym rx, by omega, rfl, Or.inl ⟨by omega, rfl, by omega⟩⟩)
        · rw [if_neg z]
          by_cases u : xk X v < xk X w
          · rw [if_pos u]
            exact Or.inr (Or.inr ⟨_, _, Lc + (c.toNat - 1), v, _, w, _, rfl, ⟨lv.2.1, lw.2.1⟩, by omega, jL_sym rx, by omega, by omega, rfl, rfl⟩)
          · rw [if_neg u]
            exact Or.inr (Or.inr ⟨_, _, Lc + (c.toNat - 1), w, _, v, _, rfl, ⟨lw.2.1, lv.2.1⟩, by omega, rx, by omega, by omega, rfl, rfl⟩)
/-- two whole sentences said as σ -/
def jS2 (X : aM) (σ : Nat → Int) (n : Nat) : Prop := ∃ w i v j, jL X σ n w i v j ∧ i + 1 = xl X w ∧ j + 1 = xl X v ∧ xe X (xk X w) ∧ xe X (xk X v)
theorem jG_L {X : aM} {σ : Nat → Int} {N : Int} (hv : mTv X) (h : jG X N σ) : ∃ n : Nat, N = n + 1 ∧ jS2 X σ n := by
  obtain ⟨k, s, q, z⟩ := h
  have sb := xz_lt z
  obtain ⟨k1, k2, e, f, rfl, ⟨g1, g2, g3, g4⟩, z1, z2⟩ := z
  have e0 : e = 0 := by omega
  have f0 : f = 0 := by omega
  subst e0 f0
  rw [jE_eq] at q sb
  rcases jD_of hv k _ N q with ⟨w', aw', e1, -⟩ | ⟨w', out', kb', n', a, i, b, j, e1, ⟨aw', hb', hg'⟩, -⟩ | ⟨k1', k2', n', a, i, b, j, e1, ⟨g1', g2'⟩, eL, hx, ia, jb, ka, kb⟩
  · exfalso
    have := (jO_ge (k := 4) hv aw' (by omega)).1
    omega
  · exfalso
    have := (jV_bd hv ⟨w', out', kb', e1, aw', hb', by omega⟩).1
    omega
  · obtain ⟨y1, y2⟩ := jE_inj g2 g2' e1
    exact ⟨n', eL, a, i, b, j, hx, ia, jb, by rw [ka, ← y1]; exact z1, by rw [kb, ← y2]; exact z2⟩
/-- a meeting that is under way -/
def jPM (X : aM) (σ : Nat → Int) (n : Nat) (a i b j : Int) : Prop := ∃ (k : Nat) (out kb t L0 : Int), jQ X σ k (jO a out kb) L0 ∧ (xa X a ∧ (1 ≤ out ∧ out ≤ xl X a) ∧ (0 ≤ kb ∧ kb ≤ 4)) ∧ xn X kb a b ∧ (1 ≤ t ∧ t ≤ out ∧ t ≤ xl X b) ∧ L0 + t = n + 1 ∧ (∀ k : Int, 0 ≤ k → k < t → xs X a (xl X a - out + k) = xs X b k ∧ xs X a (xl X a - out + k) = σ (L0 + k).toNat) ∧ i = xl X a - out + t - 1 ∧ j = t - 1
theorem jPM_new {X : aM} {σ : Nat → Int} {w out kb v L0 : Int} {k n : Nat} (h : jQ X σ k (jO w out kb) L0) (hv : xa X w ∧ (1 ≤ out ∧ out ≤ xl X w) ∧ (0 ≤ kb ∧ kb ≤ 4)) (nw : xn X kb w v) (lv : 1 ≤ xl X v) (hL : L0 = n) (h1 : xs X w (xl X w - out) = σ n) (h2 : xs X v 0 = σ n) : jPM X σ n w (xl X w - out) v 0 := by
  refine ⟨k, out, kb, 1, L0, h, hv, nw, by omega, by omega, fun k k0 k1 => ?_, by omega, by omega⟩
  rw [show k = 0 by omega, Int.add_zero, Int.add_zero, show L0.toNat = n by omega, h1, h2]
  exact ⟨rfl, rfl⟩
theorem jPM_end {X : aM} {σ : Nat → Int} {n : Nat} {a i b j : Int} (hv : mTv X) (h : jPM X σ n a i b j) (e : ∀ out : Int, i = xl X a - out + (j + 1) - 1 → j + 1 = out ∨ j + 1 = xl X b) : ∃ (k : Nat) (out kb : Int), jQ X σ k (jJ X a out b) (n + 1) ∧ (xa X a ∧ (1 ≤ out ∧ out ≤ xl X a) ∧ (0 ≤ kb ∧ kb ≤ 4)) ∧ xa X b ∧ i = xl X a - out + j := by
  obtain ⟨k, out, kb, t, L0, q, ⟨aw, hb, hg⟩, nw, t1, tL, al, hi, hj⟩ := h
  have lb := (hv.2.1 b nw.1).1
  have la := (hv.2.1 a aw).1
  have ct : t = jC X out b := by
    have := e out (by omega)
    unfold jC
    split <;> omega
  refine ⟨k + 1, out, kb, ⟨jO a out kb, L0, t, q, Or.inr ⟨a, out, kb, b, rfl, ⟨aw, hb, hg⟩, nw, ct, fun k k0 k1 => (al k k0 k1).1, rfl⟩, by omega, fun k k0 k1 => ?_⟩, ⟨aw, hb, hg⟩, nw.1, by omega⟩
  rw [(jT_O (X := X) (w := a) (by omega) hg k).1]
  exact (al k k0 k1).2
theorem jPM_step {X : aM} {σ : Nat → Int} (hv : mTv X) {n : Nat} {a i b j a2 i2 b2 j2 : Int} (h : jPM X σ n a i b j) (s1 : xSt X a i a2 i2) (s2 : xSt X b j b2 j2) (f : xs X a2 i2 = σ (n + 1)) (g : xs X b2 j2 = σ (n + 1)) : jPM X σ (n + 1) a2 i2 b2 j2 ∨ jPM X σ (n + 1) b2 j2 a2 i2 := by
  have h' := h
  obtain ⟨k, out, kb, t, L0, q, ⟨aw, hb, hg⟩, nw, t1, tL, al, hi, hj⟩ := h
  have lw := hv.2.1 a aw
  have lv := hv.2.1 b nw.1
  by_cases c : t < out ∧ t < xl X b
  · -- within both words
    obtain ⟨p1, p2⟩ : a2 = a ∧ i2 = xl X a - out + t := by
      rcases s1 with ⟨-, g1, g2⟩ | ⟨g, -⟩
      · exact ⟨g1, by omega⟩
      · omega
    obtain ⟨p3, p4⟩ : b2 = b ∧ j2 = t := by
      rcases s2 with ⟨-, g1, g2⟩ | ⟨g, -⟩
      · exact ⟨g1, by omega⟩
      · omega
    subst p1 p3
    rw [p2] at f
    rw [p4] at g
    refine Or.inl ⟨k, out, kb, t + 1, L0, q, ⟨aw, hb, hg⟩, nw, by omega, by omega, fun k k0 k1 => ?_, by omega, by omega⟩
    by_cases e : k = t
    · rw [e, f, g, show (L0 + t).toNat = n + 1 by omega]; exact ⟨rfl, rfl⟩
    · exact al k k0 (by omega)
  -- the meeting is done
  obtain ⟨k', out', kb', q1, ⟨-, hb', hg'⟩, -, hi'⟩ := jPM_end hv h' (fun out' e => by omega)
  have eo : out' = out := by omega
  subst eo
  unfold jJ at q1
  by_cases y : xl X b < out'
  · rw [if_pos y] at q1
    obtain ⟨p1, p2⟩ : a2 = a ∧ i2 = xl X a - out' + t := by
      rcases s1 with ⟨-, g1, g2⟩ | ⟨g, -⟩
      · exact ⟨g1, by omega⟩
      · omega
    obtain ⟨p3, p4, p5⟩ : xa X b2 ∧ xf X (xk X b) b2 ∧ j2 = 0 := by
      rcases s2 with ⟨g, -⟩ | ⟨-, g1, g2, g3⟩
      · omega
      · exact ⟨g1, g2, g3⟩
    subst p1 p5
    have l2 := (hv.2.1 b2 p3).1
    have ei2 : i2 = xl X a2 - (out' - xl X b) := by omega
    rw [ei2] at f ⊢
    exact Or.inl (jPM_new q1 ⟨aw, by omega, by omega⟩ ⟨p3, Or.inr ⟨by omega, p4⟩⟩ (by omega) (by omega) f g)
  · rw [if_neg y] at q1
    by_cases z : out' < xl X b
    · rw [if_pos z] at q1
      obtain ⟨p1, p2⟩ : b2 = b ∧ j2 = t := by
        rcases s2 with ⟨-, g1, g2⟩ | ⟨g, -⟩
        · exact ⟨g1, by omega⟩
        · omega
      obtain ⟨p3, p4, p5⟩ : xa X a2 ∧ xf X (xk X a) a2 ∧ i2 = 0 := by
        rcases s1 with ⟨g, -⟩ | ⟨-, g1, g2, g3⟩
        · omega
        · exact ⟨g1, g2, g3⟩
      subst p1 p5
      have l2 := (hv.2.1 a2 p3).1
      have ej2 : j2 = xl X b2 - (xl X b2 - out') := by omega
      rw [ej2] at g ⊢
      exact Or.inr (jPM_new q1 ⟨nw.1, by omega, by omega⟩ ⟨p3, Or.inr ⟨by omega, p4⟩⟩ (by omega) (by omega) g f)
    · rw [if_neg z] at q1
      obtain ⟨p3, p4, p5⟩ : xa X a2 ∧ xf X (xk X a) a2 ∧ i2 = 0 := by
        rcases s1 with ⟨g, -⟩ | ⟨-, g1, g2, g3⟩
        · omega
        · exact ⟨g1, g2, g3⟩
      obtain ⟨r3, r4, r5⟩ : xa X b2 ∧ xf X (xk X b) b2 ∧ j2 = 0 := by
        rcases s2 with ⟨g, -⟩ | ⟨-, g1, g2, g3⟩
        · omega
        · exact ⟨g1, g2, g3⟩
      subst p5 r5
      have la2 := (hv.2.1 a2 p3).1
      have lb2 := (hv.2.1 b2 r3).1
      by_cases u : xk X b < xk X a
      · rw [if_pos u] at q1
        have q2 : jQ X σ (k' + 1) (jO b2 (xl X b2) (xk X a)) (n + 1) := ⟨_, _, 0, q1, Or.inl ⟨_, _, b2, rfl, ⟨lv.2.1, lw.2.1⟩, r3, r4, rfl, rfl⟩, by omega, fun k k0 k1 => by omega⟩
        have := jPM_new (n := n + 1) (v := a2) q2 ⟨r3, by omega, by omega⟩ ⟨p3, Or.inr ⟨by omega, p4⟩⟩ (by omega) (by omega) (by rw [Int.sub_self]; exact g) f
        rw [Int.sub_self] at this
        exact Or.inr this
      · rw [if_neg u] at q1
        have q2 : jQ X σ (k' + 1) (jO a2 (xl X a2) (xk X b)) (n + 1) := ⟨_, _, 0, q1, Or.inl ⟨_, _, a2, rfl, ⟨lw.2.1, lv.2.1⟩, p3, p4, rfl, rfl⟩, by omega, fun k k0 k1 => by omega⟩
        have := jPM_new (n := n + 1) (v := b2) q2 ⟨p3, by omega, by omega⟩ ⟨r3, Or.inr ⟨by omega, r4⟩⟩ (by omega) (by omega) (by rw [Int.sub_self]; exact f) g
        rw [Int.sub_self] at this
        exact Or.inl this
theorem jPM_of {X : aM} {σ : Nat → Int} (hv : mTv X) : ∀ (n : Nat) (w i v j : Int), jL X σ n w i v j → jPM X σ n w i v j ∨ jPM X σ n v j w i := by
  intro n
  induction n with
  | zero =>
    rintro w i v j ⟨aw, av, ne, rfl, rfl, f, g⟩
    have lw := hv.2.1 w aw
    have lv := hv.2.1 v av
    rcases Int.lt_or_gt_of_ne ne with c | c
    · right
      have := jPM_new (X := X) (σ := σ) (w := v) (out := xl X v) (kb := 4) (v := w) (L0 := 0) (k := 0) (n := 0) ⟨rfl, v, av, rfl⟩ ⟨av, by omega, by omega⟩ ⟨aw, Or.inl ⟨rfl, c⟩⟩ (by omega) (by omega) (by rw [Int.sub_self]; exact g) f
      rw [Int.sub_self] at this
      exact this
    · left
      have := jPM_new (X := X) (σ := σ) (w := w) (out := xl X w) (kb := 4) (v := v) (L0 := 0) (k := 0) (n := 0) ⟨rfl, w, aw, rfl⟩ ⟨aw, by omega, by omega⟩ ⟨av, Or.inl ⟨rfl, by omega⟩⟩ (by omega) (by omega) (by rw [Int.sub_self]; exact f) g
      rw [Int.sub_self] at this
      exact this
  | succ n ih =>
    rintro w i v j ⟨w', i', v', j', h', s1, s2, f, g⟩
    rcases ih w' i' v' j' h' with p | p
    · exact jPM_step hv p s1 s2 f g
    · exact (jPM_step hv p s2 s1 g f).symm
theorem L_jG {X : aM} {σ : Nat → Int} {n : Nat} (hv : mTv X) (h : jS2 X σ n) : jG X (n + 1) σ := by
  obtain ⟨w, i, v, j, hx, hi, hj, z1, z2⟩ := h
  have fin : ∀ w i v j, jPM X σ n w i v j → i + 1 = xl X w → j + 1 = xl X v → xe X (xk X w) → xe X (xk X v) → jG X (n + 1) σ := by
    intro w i v j p hi hj z1 z2
    obtain ⟨k, out, kb, q, ⟨aw, hb, hg⟩, av, hi'⟩ := jPM_end hv p (fun out e => Or.inr hj)
    have lw := hv.2.1 w aw
    have lv := hv.2.1 v av
    refine ⟨k, _, q, ?_⟩
    unfold jJ
    rw [if_neg (by omega), if_neg (by omega)]
    by_cases u : xk X v < xk X w
    · rw [if_pos u]; exact ⟨_, _, 0, 0, (jE_eq _ _).symm, ⟨lv.2.1, lw.2.1, by omega, by omega⟩, z2, z1⟩
    · rw [if_neg u]; exact ⟨_, _, 0, 0, (jE_eq _ _).symm, ⟨lw.2.1, lv.2.1, by omega, by omega⟩, z1, z2⟩
  rcases jPM_of hv n w i v j hx with p | p
  · exact fin w i v j p hi hj z1 z2
  · exact fin v j w i p hj hi z2 z1
