/-! changed: one sound of one word -/
def yU (A : Nat → Int) (w k s : Int) : Nat → Int := fun i => if i = (58 + 6 * w + k).toNat then s else A i
def yT (A : Nat → Int) (w k s : Int) : Prop := ∃ v, (0 ≤ v ∧ v < A 18) ∧ A (19 + v).toNat = A (19 + w).toNat ∧ ∀ j : Int, 0 ≤ j → j < A (19 + w).toNat → (if j = k then s else A (58 + 6 * w + j).toNat) = A (58 + 6 * v + j).toNat
def yV (A : Nat → Int) (w k s : Int) : Prop := (0 ≤ w ∧ w < A 18) ∧ (0 ≤ k ∧ k < A (19 + w).toNat) ∧ (0 ≤ s ∧ s < A 0)
def yQ (A : Nat → Int) (w k s : Int) : Prop := ¬ yT A w k s ∧ mSur (yU A w k s) 0 0 0
def yL (w k s w' k' s' : Int) : Prop := w < w' ∨ (w = w' ∧ (k < k' ∨ (k = k' ∧ s < s')))
def yCh (Y N : Int → Int → Int → Prop) (A : Nat → Int) (w k s : Int) : Prop := ((w = -1 ∧ k = -1 ∧ s = -1) ∧ ∀ w' k' s', yV A w' k' s' → N w' k' s') ∨ (yV A w k s ∧ Y w k s ∧ ∀ w' k' s', yV A w' k' s' → yL w' k' s' w k s → N w' k' s')
theorem yCh_uni {Y N Y' N' : Int → Int → Int → Prop} {A A' : Nat → Int} {w k s w' k' s' : Int} (h1 : ∀ w k s, Y w k s → ¬ N' w k s) (h2 : ∀ w k s, Y' w k s → ¬ N w k s) (hv : ∀ w k s, yV A w k s ↔ yV A' w k s) (h : yCh Y N A w k s) (h' : yCh Y' N' A' w' k' s') : w = w' ∧ k = k' ∧ s = s' := by
  rcases h with ⟨e, a⟩ | ⟨a1, a2, a3⟩
  · rcases h' with ⟨e', a'⟩ | ⟨b1, b2, b3⟩
    · omega
    · exact absurd (a _ _ _ ((hv _ _ _).mpr b1)) (h2 _ _ _ b2)
  · rcases h' with ⟨e', a'⟩ | ⟨b1, b2, b3⟩
    · exact absurd (a' _ _ _ ((hv _ _ _).mp a1)) (h1 _ _ _ a2)
    · refine Classical.byContradiction (fun ne => ?_)
      by_cases c : yL w k s w' k' s'
      · exact absurd (b3 _ _ _ ((hv _ _ _).mp a1) c) (h1 _ _ _ a2)
      · exact absurd (a3 _ _ _ ((hv _ _ _).mpr b1) (by unfold yL at *; omega)) (h2 _ _ _ b2)
theorem yV_T {A A' : Nat → Int} (ht : mTok A) (ha : mAeqT A A') (w k s : Int) : yV A w k s ↔ yV A' w k s := by
  have c4 := ht.2.2.2.2.1
  have e18 := ha.w c4.1
  have e0 : A' 0 = A 0 := ha 0 (by omega) (by omega) (by omega) (by omega)
  unfold yV
  rw [e18, e0]
  by_cases c : 0 ≤ w ∧ w < A 18
  · rw [ha (19 + w).toNat (by omega) (by omega) (by omega) (by omega)]
  · exact ⟨fun g => absurd g.1 c, fun g => absurd g.1 c⟩
theorem yT_T {A A' : Nat → Int} (ht : mTok A) (ha : mAeqT A A') {w k s : Int} (w0 : 0 ≤ w) (w1 : w < A 18) : yT A w k s ↔ yT A' w k s := by
  have c4 := ht.2.2.2.2.1
  have e18 := ha.w c4.1
  have d1 := (ht.2.2.2.2.2.1 w w0 w1).1
  have l : ∀ v : Int, 0 ≤ v → v < A 18 → A' (19 + v).toNat = A (19 + v).toNat := fun v a b => ha _ (by omega) (by omega) (by omega) (by omega)
  have sd : ∀ v j : Int, 0 ≤ v → v < A 18 → 0 ≤ j → j < 6 → A' (58 + 6 * v + j).toNat = A (58 + 6 * v + j).toNat := fun v j a b c d => ha _ (by omega) (by omega) (by omega) (by omega)
  unfold yT
  rw [e18, l w w0 w1]
  constructor
  · rintro ⟨v, v1, e, g⟩
    refine ⟨v, v1, by rw [l v v1.1 v1.2]; exact e, fun j j0 j1 => ?_⟩
    rw [sd w j w0 w1 j0 (by omega), sd v j v1.1 v1.2 j0 (by omega)]
    exact g j j0 j1
  · rintro ⟨v, v1, e, g⟩
    refine ⟨v, v1, by rw [← l v v1.1 v1.2]; exact e, fun j j0 j1 => ?_⟩
    rw [← sd w j w0 w1 j0 (by omega), ← sd v j v1.1 v1.2 j0 (by omega)]
    exact g j j0 j1
theorem yVx {A : Nat → Int} {w k s : Int} (h : mVx A) (w0 : 0 ≤ w ∧ w < A 18) (k0 : 0 ≤ k ∧ k < 6) (s0 : 0 ≤ s ∧ s < 8) : mVx (yU A w k s) := by
  obtain ⟨a1, a2, a3, a4, a5⟩ := h
  have e : ∀ i : Nat, i ≠ (58 + 6 * w + k).toNat → yU A w k s i = A i := fun i a => if_neg a
  unfold mVx
  rw [e 18 (by omega), e 140 (by omega)]
  refine ⟨a1, fun v v0 v1 => ?_, fun k k0 k1 => by rw [e _ (by omega)]; exact a3 k k0 k1, a4, fun x x0 x1 => ?_⟩
  · rw [e (19 + v).toNat (by omega), e (45 + v).toNat (by omega)]
    obtain ⟨d1, d2, d3⟩ := a2 v v0 v1
    refine ⟨d1, d2, fun j j0 j1 => ?_⟩
    by_cases c : (58 + 6 * v + j).toNat = (58 + 6 * w + k).toNat
    · have : yU A w k s (58 + 6 * v + j).toNat = s := if_pos c
      rw [this]; exact s0
    · rw [e _ c]; exact d3 j j0 j1
  · rw [e (10 + x).toNat (by omega)]
    refine ⟨(a5 x x0 x1).1, (a5 x x0 x1).2.1, fun b b0 b1 hb => ?_⟩
    rw [e (10 + b).toNat (by omega)]
    exact (a5 x x0 x1).2.2 b b0 b1 hb
theorem yLv {A : Nat → Int} {X X1 : aM} {w k s : Int} (hA : mVx A) (h : mLv A X) (w0 : 0 ≤ w ∧ w < A 18) (k0 : 0 ≤ k ∧ k < 6) (f : ∀ q i, ((82 ≤ q ∧ q ≤ 98) ∨ (q = 80 ∧ i ≤ 2)) → ¬(q = 82 + w.toNat ∧ i = k.toNat) → X1 q i = X q i) (e1 : X1 (82 + w.toNat) k.toNat = s) : mLv (yU A w k s) X1 := by
  obtain ⟨⟨b0, b1⟩, b2, b3, b4, b5⟩ := h
  have a1 := hA.1
  have e : ∀ i : Nat, i ≠ (58 + 6 * w + k).toNat → yU A w k s i = A i := fun i a => if_neg a
  unfold mLv
  rw [e 18 (by omega), e 140 (by omega), f 80 1 (by omega) (by omega), f 80 2 (by omega) (by omega)]
  refine ⟨⟨b0, b1⟩, b2, fun x x0 x1 => ?_, fun j j0 j1 => ?_, fun v v0 v1 => ?_⟩
  · rw [e _ (by omega), f _ _ (by omega) (by omega)]; exact b3 x x0 x1
  · rw [e _ (by omega), f _ _ (by omega) (by omega)]; exact b4 j j0 j1
  · rw [e (19 + v).toNat (by omega), e (45 + v).toNat (by omega), f 96 _ (by omega) (by omega), f 95 _ (by omega) (by omega)]
    obtain ⟨c1, c2, c3⟩ := b5 v v0 v1
    have d1 := (hA.2.1 v v0 v1).1
    refine ⟨c1, c2, fun j j0 j1 => ?_⟩
    by_cases c : v = w ∧ j = k
    · rw [c.1, c.2, e1]; exact (if_pos rfl).symm
    · rw [e _ (by omega), f _ _ (by omega) (by omega)]; exact c3 j j0 j1
theorem w88 {s : Int} (s0 : 0 ≤ s) (s1 : s < 8) : w8 (w8 s) = s := by rw [w8e (x := s) (by omega) (by omega), w8e (by omega) (by omega)]
theorem isThereWith_ok {A : Nat → Int} {w k s : Int} {m : aM} (ht : mTok A) (hr : mTR 25 47 A m) (hv : yV A w k s) : mOk (Mender_isThereWith w k s m) (fun r => ((r.1 = 1 ∧ yT A w k s) ∨ (r.1 = 0 ∧ ¬ yT A w k s)) ∧ ∀ q i, q ≠ 106 → r.2 q i = m q i) := by
  have c0 := ht.1
  have c4 := ht.2.2.2.2.1
  obtain ⟨w0, k0, s0⟩ := hv
  have d := ht.2.2.2.2.2.1 w w0.1 w0.2
  have b3 := hr.2.2.2.1
  have l41 : m 41 w.toNat = A (19 + w).toNat := (b3 w w0.1 w0.2).1
  unfold Mender_isThereWith
  rw [if_pos (by omega), l41, if_pos (by omega), if_pos (by omega), if_pos (by omega), st1e, if_pos (by omega), st1e, w88 s0.1 (by omega)]
  have f0 : ∀ q i, q ≠ 106 → aup (aupr m 106 (aCpy (m (25 + 4 + w.toNat)) (m 106) 0 0 (A (19 + w).toNat).toNat)) 106 k.toNat s q i = m q i := fun q i a => by rw [aup_of (by omega), aupr_of a]
  have v0 : ∀ j : Int, 0 ≤ j → j < A (19 + w).toNat → aup (aupr m 106 (aCpy (m (25 + 4 + w.toNat)) (m 106) 0 0 (A (19 + w).toNat).toNat)) 106 k.toNat s 106 j.toNat = if j = k then s else A (58 + 6 * w + j).toNat := by
    intro j j0 j1
    by_cases c : j = k
    · rw [if_pos c, c, aup_self]
    · rw [if_neg c, aup_of (by omega), aupr_self, aCpy_lt (by omega)]
      exact (b3 w w0.1 w0.2).2.2.2 j j0 j1
  generalize aup (aupr m 106 (aCpy (m (25 + 4 + w.toNat)) (m 106) 0 0 (A (19 + w).toNat).toNat)) 106 k.toNat s = m7 at f0 v0 ⊢
  have e2 : m7 25 2 = A 18 := by rw [f0 _ _ (by omega)]; exact hr.1.2.2.1
  have e41 : ∀ v : Int, 0 ≤ v → v < A 18 → m7 (25 + 16) v.toNat = A (19 + v).toNat := fun v a b => by rw [f0 _ _ (by omega)]; exact (b3 v a b).1
  have esp : ∀ v j : Int, 0 ≤ v → v < A 18 → 0 ≤ j → j < A (19 + v).toNat → m7 (25 + 4 + v.toNat) j.toNat = A (58 + 6 * v + j).toNat := fun v j a b c d => by rw [f0 _ _ (by omega)]; exact (b3 v a b).2.2.2 j c d
  refine mOk_bind (findWord_ok (t := 25) (x1 := 106) (n := A (19 + w).toNat) (m := m7) (by decide) (by rw [e2]; omega) (by rw [e2]; omega) (fun v a b => by rw [e2] at b; rw [e41 v a b]; exact (ht.2.2.2.2.2.1 v a b).1.2)) (fun r kr => ?_)
  rw [e2] at kr
  by_cases c : r = -1
  · rw [if_pos c]
    refine mOk_some ⟨Or.inr ⟨rfl, ?_⟩, f0⟩
    rintro ⟨v, v1, e, g⟩
    rcases kr with ⟨-, b⟩ | ⟨a, -⟩
    · refine b v v1.1 v1.2 ⟨by rw [e41 v v1.1 v1.2]; exact e, fun j j0 j1 => ?_⟩
      rw [v0 j j0 j1, esp v j v1.1 v1.2 j0 (by omega)]
      exact g j j0 j1
    · omega
  · rw [if_neg c]
    refine mOk_some ⟨Or.inl ⟨rfl, ?_⟩, f0⟩
    rcases kr with ⟨b, -⟩ | ⟨a, b, g, -⟩
    · exact absurd b c
    · have g1 := g.1
      rw [e41 r a b] at g1
      refine ⟨r, ⟨a, b⟩, g1, fun j j0 j1 => ?_⟩
      rw [← v0 j j0 j1, ← esp r j a b j0 (by omega)]
      exact g.2 j j0 j1
