/-! A TONGUE AS IT IS READ: what a line changes -/
def mTokT (A : Nat → Int) : Prop :=
  (0 ≤ A 0 ∧ A 0 ≤ 8) ∧
  (∀ s : Int, 0 ≤ s → s < A 0 → 97 ≤ A (1 + s).toNat ∧ A (1 + s).toNat ≤ 122) ∧
  (0 ≤ A 9 ∧ A 9 < 256) ∧
  (∀ s : Int, 0 ≤ s → s < 8 → 0 ≤ A (10 + s).toNat ∧ A (10 + s).toNat < 256 ∧ ∀ b : Int, 0 ≤ b → b < 8 → iand (ishr (A (10 + s).toNat) b) 1 ≠ 0 → b ≠ s ∧ b < A 0 ∧ s < A 0 ∧ iand (ishr (A (10 + b).toNat) s) 1 ≠ 0) ∧
  (0 ≤ A 18 ∧ A 18 ≤ 12) ∧
  (∀ w : Int, 0 ≤ w → w < A 18 → (1 ≤ A (19 + w).toNat ∧ A (19 + w).toNat ≤ 6) ∧ (0 ≤ A (32 + w).toNat ∧ A (32 + w).toNat ≤ 99) ∧ (0 ≤ A (45 + w).toNat ∧ A (45 + w).toNat ≤ 3) ∧ ∀ k : Int, 0 ≤ k → k < A (19 + w).toNat → 0 ≤ A (58 + 6 * w + k).toNat ∧ A (58 + 6 * w + k).toNat < A 0) ∧
  (∀ v w : Int, 0 ≤ v → v < w → w < A 18 → A (19 + v).toNat = A (19 + w).toNat → ∃ k : Int, 0 ≤ k ∧ k < A (19 + v).toNat ∧ A (58 + 6 * v + k).toNat ≠ A (58 + 6 * w + k).toNat) ∧
  (∀ k : Int, 0 ≤ k → k < 4 → 0 ≤ A (136 + k).toNat ∧ A (136 + k).toNat ≤ 15) ∧
  (0 ≤ A 140 ∧ A 140 ≤ 15) ∧
  (0 ≤ A 141 ∧ A 141 ≤ 6) ∧
  (∀ s : Int, 0 ≤ s → s < A 141 → (1 ≤ A (142 + s).toNat ∧ A (142 + s).toNat ≤ 6) ∧ (0 ≤ A (148 + s).toNat ∧ A (148 + s).toNat < 64) ∧ ∀ k : Int, A (142 + s).toNat ≤ k → k < 6 → iand (ishr (A (148 + s).toNat) k) 1 = 0)
def mTRT (A : Nat → Int) (m : aM) : Prop :=
  (m 3 0 = A 154 ∧ m 3 1 = A 0 ∧ m 3 2 = A 18 ∧ m 3 3 = A 141 ∧ m 3 4 = A 9 ∧ m 3 5 = 15 - A 140) ∧
  (∀ s : Int, 0 ≤ s → s < A 0 → m 4 s.toNat = A (1 + s).toNat) ∧
  (∀ s : Int, 0 ≤ s → s < 8 → m 5 s.toNat = A (10 + s).toNat) ∧
  (∀ w : Int, 0 ≤ w → w < A 18 → m 19 w.toNat = A (19 + w).toNat ∧ m 20 w.toNat = A (32 + w).toNat ∧ m 21 w.toNat = A (45 + w).toNat ∧ ∀ k : Int, 0 ≤ k → k < A (19 + w).toNat → m (3 + 4 + w.toNat) k.toNat = A (58 + 6 * w + k).toNat) ∧
  (∀ k : Int, 0 ≤ k → k < 4 → m 22 k.toNat = 15 - A (136 + k).toNat) ∧
  (∀ s : Int, 0 ≤ s → s < A 141 → m 23 s.toNat = A (142 + s).toNat ∧ m 24 s.toNat = A (148 + s).toNat)
def mTg (A : Nat → Int) (b : aM) : Prop := mTokT A ∧ mTRT A b
theorem mTg_fb {A : Nat → Int} {b b' : aM} (h : mTg A b) (f : ∀ q i, 3 ≤ q → q ≤ 24 → b' q i = b q i) : mTg A b' := by
  obtain ⟨t, ⟨a0, a1, a2, a3, a4, a5⟩, b1, b2, b3, b4, b5⟩ := h
  have c4 := t.2.2.2.2.1
  refine ⟨t, ⟨?_, ?_, ?_, ?_, ?_, ?_⟩, ?_, ?_, ?_, ?_, ?_⟩
  · rw [f _ _ (by omega) (by omega)]; exact a0
  · rw [f _ _ (by omega) (by omega)]; exact a1
  · rw [f _ _ (by omega) (by omega)]; exact a2
  · rw [f _ _ (by omega) (by omega)]; exact a3
  · rw [f _ _ (by omega) (by omega)]; exact a4
  · rw [f _ _ (by omega) (by omega)]; exact a5
  · intro s h0 h1; rw [f _ _ (by omega) (by omega)]; exact b1 s h0 h1
  · intro s h0 h1; rw [f _ _ (by omega) (by omega)]; exact b2 s h0 h1
  · intro w h0 h1
    obtain ⟨c1, c2, c3, c4'⟩ := b3 w h0 h1
    refine ⟨?_, ?_, ?_, ?_⟩
    · rw [f _ _ (by omega) (by omega)]; exact c1
    · rw [f _ _ (by omega) (by omega)]; exact c2
    · rw [f _ _ (by omega) (by omega)]; exact c3
    · intro k k0 k1; rw [f _ _ (by omega) (by omega)]; exact c4' k k0 k1
  · intro s h0 h1; rw [f _ _ (by omega) (by omega)]; exact b4 s h0 h1
  · intro s h0 h1; rw [f _ _ (by omega) (by omega), f _ _ (by omega) (by omega)]; exact b5 s h0 h1
theorem mTg_line {A A' : Nat → Int} {b b' : aM} (h : mTg A b) (a0 : A' 154 = A 154 + 1) (af : ∀ i : Nat, i < 154 → A' i = A i) (b0 : b' 3 0 = b 3 0 + 1) (bf : ∀ q i, 3 ≤ q → q ≤ 24 → ¬(q = 3 ∧ i = 0) → b' q i = b q i) : mTg A' b' := by
  obtain ⟨⟨c0, c1, c2, c3, c4, c5, c6, c7, c8, c9, c10⟩, ⟨x0, x1, x2, x3, x4, x5⟩, b1, b2, b3, b4, b5⟩ := h
  have e0 : A' 0 = A 0 := af 0 (by omega)
  have e18 : A' 18 = A 18 := af 18 (by omega)
  have e141 : A' 141 = A 141 := af 141 (by omega)
  constructor
  · unfold mTokT
    rw [e0, e18, e141, af 9 (by omega), af 140 (by omega)]
    refine ⟨c0, ?_, c2, ?_, c4, ?_, ?_, ?_, c8, c9, ?_⟩
    · intro s h0 h1; rw [af _ (by omega)]; exact c1 s h0 h1
    · intro s h0 h1
      rw [af (10 + s).toNat (by omega)]
      refine ⟨(c3 s h0 h1).1, (c3 s h0 h1).2.1, fun y y0 y1 hy => ?_⟩
      rw [af (10 + y).toNat (by omega)]
      exact (c3 s h0 h1).2.2 y y0 y1 hy
    · intro w h0 h1
      rw [af (19 + w).toNat (by omega), af (32 + w).toNat (by omega), af (45 + w).toNat (by omega)]
      obtain ⟨d1, d2, d3, d4⟩ := c5 w h0 h1
      refine ⟨d1, d2, d3, fun k k0 k1 => ?_⟩
      rw [af (58 + 6 * w + k).toNat (by omega)]
      exact d4 k k0 k1
    · intro v w v0 v1 v2 hl
      rw [af (19 + v).toNat (by omega), af (19 + w).toNat (by omega)] at hl
      have d1 := (c5 v v0 (by omega)).1
      obtain ⟨k, k0, k1, k2⟩ := c6 v w v0 v1 v2 hl
      refine ⟨k, k0, ?_, ?_⟩
      · rw [af (19 + v).toNat (by omega)]; exact k1
      · rw [af (58 + 6 * v + k).toNat (by omega), af (58 + 6 * w + k).toNat (by omega)]; exact k2
    · intro k h0 h1; rw [af _ (by omega)]; exact c7 k h0 h1
    · intro s h0 h1
      rw [af (142 + s).toNat (by omega), af (148 + s).toNat (by omega)]
      exact c10 s h0 h1
  · unfold mTRT
    rw [e0, e18, e141, af 9 (by omega), af 140 (by omega), a0, b0, x0]
    refine ⟨⟨rfl, ?_, ?_, ?_, ?_, ?_⟩, ?_, ?_, ?_, ?_, ?_⟩
    · rw [bf _ _ (by omega) (by omega) (by omega)]; exact x1
    · rw [bf _ _ (by omega) (by omega) (by omega)]; exact x2
    · rw [bf _ _ (by omega) (by omega) (by omega)]; exact x3
    · rw [bf _ _ (by omega) (by omega) (by omega)]; exact x4
    · rw [bf _ _ (by omega) (by omega) (by omega)]; exact x5
    · intro s h0 h1; rw [bf _ _ (by omega) (by omega) (by omega), af _ (by omega)]; exact b1 s h0 h1
    · intro s h0 h1; rw [bf _ _ (by omega) (by omega) (by omega), af _ (by omega)]; exact b2 s h0 h1
    · intro w h0 h1
      obtain ⟨d1, d2, d3, d4⟩ := b3 w h0 h1
      have l6 := (c5 w h0 h1).1
      rw [af (19 + w).toNat (by omega), af (32 + w).toNat (by omega), af (45 + w).toNat (by omega), bf _ _ (by omega) (by omega) (by omega), bf _ _ (by omega) (by omega) (by omega), bf _ _ (by omega) (by omega) (by omega)]
      refine ⟨d1, d2, d3, fun k k0 k1 => ?_⟩
      rw [bf _ _ (by omega) (by omega) (by omega), af (58 + 6 * w + k).toNat (by omega)]
      exact d4 k k0 k1
    · intro s h0 h1; rw [bf _ _ (by omega) (by omega) (by omega), af _ (by omega)]; exact b4 s h0 h1
    · intro s h0 h1
      rw [bf _ _ (by omega) (by omega) (by omega), bf _ _ (by omega) (by omega) (by omega), af (142 + s).toNat (by omega), af (148 + s).toNat (by omega)]
      exact b5 s h0 h1
/-- no sounds yet: no words, none like another -/
theorem mTg_sounds {A A' : Nat → Int} {b b' : aM} {l : Int} {S : Int → Int} (h : mTg A b) (z : A 0 = 0) (l2 : 2 ≤ l ∧ l ≤ 8) (hS : ∀ k : Int, 0 ≤ k → k < l → 97 ≤ S k ∧ S k ≤ 122) (a0 : A' 0 = l) (aS : ∀ k : Int, 0 ≤ k → k < l → A' (1 + k).toNat = S k) (af : ∀ i : Nat, ¬(i ≤ 8) → A' i = A i) (b0 : b' 3 1 = l) (bS : ∀ k : Int, 0 ≤ k → k < l → b' 4 k.toNat = S k) (bf : ∀ q i, 3 ≤ q → q ≤ 24 → ¬(q = 3 ∧ i = 1) → q ≠ 4 → b' q i = b q i) : mTg A' b' := by
  obtain ⟨⟨c0, c1, c2, c3, c4, c5, c6, c7, c8, c9, c10⟩, ⟨x0, x1, x2, x3, x4, x5⟩, b1, b2, b3, b4, b5⟩ := h
  have e18 : A' 18 = A 18 := af 18 (by omega)
  have e141 : A' 141 = A 141 := af 141 (by omega)
  have w0 : A 18 = 0 := by
    by_cases d : A 18 = 0
    · exact d
    · obtain ⟨d1, -, -, d4⟩ := c5 0 (by omega) (by omega)
      have := d4 0 (by omega) (by omega)
      omega
  constructor
  · unfold mTokT
    rw [a0, e18, e141, af 9 (by omega), af 140 (by omega)]
    refine ⟨by omega, ?_, c2, ?_, c4, fun w h0 h1 => by omega, fun v w h0 h1 h2 => by omega, ?_, c8, c9, ?_⟩
    · intro s h0 h1; rw [aS s h0 h1]; exact hS s h0 h1
    · intro s h0 h1
      rw [af (10 + s).toNat (by omega)]
      refine ⟨(c3 s h0 h1).1, (c3 s h0 h1).2.1, fun y y0 y1 hy => ?_⟩
      have := (c3 s h0 h1).2.2 y y0 y1 hy
      omega
    · intro k h0 h1; rw [af _ (by omega)]; exact c7 k h0 h1
    · intro s h0 h1
      rw [af (142 + s).toNat (by omega), af (148 + s).toNat (by omega)]
      exact c10 s h0 h1
  · unfold mTRT
    rw [a0, e18, e141, af 9 (by omega), af 140 (by omega), af 154 (by omega)]
    refine ⟨⟨?_, b0, ?_, ?_, ?_, ?_⟩, ?_, ?_, fun w h0 h1 => by omega, ?_, ?_⟩
    · rw [bf _ _ (by omega) (by omega) (by omega) (by omega)]; exact x0
    · rw [bf _ _ (by omega) (by omega) (by omega) (by omega)]; exact x2
    · rw [bf _ _ (by omega) (by omega) (by omega) (by omega)]; exact x3
    · rw [bf _ _ (by omega) (by omega) (by omega) (by omega)]; exact x4
    · rw [bf _ _ (by omega) (by omega) (by omega) (by omega)]; exact x5
    · intro s h0 h1; rw [bS s h0 h1, aS s h0 h1]
    · intro s h0 h1; rw [bf _ _ (by omega) (by omega) (by omega) (by omega), af _ (by omega)]; exact b2 s h0 h1
    · intro s h0 h1; rw [bf _ _ (by omega) (by omega) (by omega) (by omega), af _ (by omega)]; exact b4 s h0 h1
    · intro s h0 h1
      rw [bf _ _ (by omega) (by omega) (by omega) (by omega), bf _ _ (by omega) (by omega) (by omega) (by omega), af (142 + s).toNat (by omega), af (148 + s).toNat (by omega)]
      exact b5 s h0 h1
/-- small numbers alone have changed: open, like, never, last -/
theorem mTg_small {A A' : Nat → Int} {b b' : aM} (h : mTg A b) (af : ∀ i : Nat, i ≠ 9 → ¬(10 ≤ i ∧ i ≤ 17) → ¬(136 ≤ i ∧ i ≤ 140) → A' i = A i)
    (n9 : 0 ≤ A' 9 ∧ A' 9 < 256) (nl : ∀ s : Int, 0 ≤ s → s < 8 → 0 ≤ A' (10 + s).toNat ∧ A' (10 + s).toNat < 256 ∧ ∀ b : Int, 0 ≤ b → b < 8 → iand (ishr (A' (10 + s).toNat) b) 1 ≠ 0 → b ≠ s ∧ b < A 0 ∧ s < A 0 ∧ iand (ishr (A' (10 + b).toNat) s) 1 ≠ 0)
    (nn : ∀ k : Int, 0 ≤ k → k < 4 → 0 ≤ A' (136 + k).toNat ∧ A' (136 + k).toNat ≤ 15) (nt : 0 ≤ A' 140 ∧ A' 140 ≤ 15)
    (m9 : b' 3 4 = A' 9) (ml : ∀ s : Int, 0 ≤ s → s < 8 → b' 5 s.toNat = A' (10 + s).toNat) (mn : ∀ k : Int, 0 ≤ k → k < 4 → b' 22 k.toNat = 15 - A' (136 + k).toNat) (mt : b' 3 5 = 15 - A' 140)
    (bf : ∀ q i, 3 ≤ q → q ≤ 24 → ¬(q = 3 ∧ (i = 4 ∨ i = 5)) → q ≠ 5 → q ≠ 22 → b' q i = b q i) : mTg A' b' := by
  obtain ⟨⟨c0, c1, c2, c3, c4, c5, c6, c7, c8, c9, c10⟩, ⟨x0, x1, x2, x3, x4, x5⟩, b1, b2, b3, b4, b5⟩ := h
  have e0 : A' 0 = A 0 := af 0 (by omega) (by omega) (by omega)
  have e18 : A' 18 = A 18 := af 18 (by omega) (by omega) (by omega)
  have e141 : A' 141 = A 141 := af 141 (by omega) (by omega) (by omega)
  constructor
  · unfold mTokT
    rw [e0, e18, e141]
    refine ⟨c0, ?_, n9, nl, c4, ?_, ?_, nn, nt, c9, ?_⟩
    · intro s h0 h1; rw [af _ (by omega) (by omega) (by omega)]; exact c1 s h0 h1
    · intro w h0 h1
      rw [af (19 + w).toNat (by omega) (by omega) (by omega), af (32 + w).toNat (by omega) (by omega) (by omega), af (45 + w).toNat (by omega) (by omega) (by omega)]
      obtain ⟨d1, d2, d3, d4⟩ := c5 w h0 h1
      refine ⟨d1, d2, d3, fun k k0 k1 => ?_⟩
      rw [af (58 + 6 * w + k).toNat (by omega) (by omega) (by omega)]
      exact d4 k k0 k1
    · intro v w v0 v1 v2 hl
      rw [af (19 + v).toNat (by omega) (by omega) (by omega), af (19 + w).toNat (by omega) (by omega) (by omega)] at hl
      have d1 := (c5 v v0 (by omega)).1
      obtain ⟨k, k0, k1, k2⟩ := c6 v w v0 v1 v2 hl
      refine ⟨k, k0, ?_, ?_⟩
      · rw [af (19 + v).toNat (by omega) (by omega) (by omega)]; exact k1
      · rw [af (58 + 6 * v + k).toNat (by omega) (by omega) (by omega), af (58 + 6 * w + k).toNat (by omega) (by omega) (by omega)]; exact k2
    · intro s h0 h1
      rw [af (142 + s).toNat (by omega) (by omega) (by omega), af (148 + s).toNat (by omega) (by omega) (by omega)]
      exact c10 s h0 h1
  · unfold mTRT
    rw [e0, e18, e141, af 154 (by omega) (by omega) (by omega)]
    refine ⟨⟨?_, ?_, ?_, ?_, m9, mt⟩, ?_, ml, ?_, mn, ?_⟩
    · rw [bf _ _ (by omega) (by omega) (by omega) (by omega) (by omega)]; exact x0
    · rw [bf _ _ (by omega) (by omega) (by omega) (by omega) (by omega)]; exact x1
    · rw [bf _ _ (by omega) (by omega) (by omega) (by omega) (by omega)]; exact x2
    · rw [bf _ _ (by omega) (by omega) (by omega) (by omega) (by omega)]; exact x3
    · intro s h0 h1; rw [bf _ _ (by omega) (by omega) (by omega) (by omega) (by omega), af _ (by omega) (by omega) (by omega)]; exact b1 s h0 h1
    · intro w h0 h1
      obtain ⟨d1, d2, d3, d4⟩ := b3 w h0 h1
      have l6 := (c5 w h0 h1).1
      rw [af (19 + w).toNat (by omega) (by omega) (by omega), af (32 + w).toNat (by omega) (by omega) (by omega), af (45 + w).toNat (by omega) (by omega) (by omega), bf _ _ (by omega) (by omega) (by omega) (by omega) (by omega), bf _ _ (by omega) (by omega) (by omega) (by omega) (by omega), bf _ _ (by omega) (by omega) (by omega) (by omega) (by omega)]
      refine ⟨d1, d2, d3, fun k k0 k1 => ?_⟩
      rw [bf _ _ (by omega) (by omega) (by omega) (by omega) (by omega), af (58 + 6 * w + k).toNat (by omega) (by omega) (by omega)]
      exact d4 k k0 k1
    · intro s h0 h1
      rw [bf _ _ (by omega) (by omega) (by omega) (by omega) (by omega), bf _ _ (by omega) (by omega) (by omega) (by omega) (by omega), af (142 + s).toNat (by omega) (by omega) (by omega), af (148 + s).toNat (by omega) (by omega) (by omega)]
      exact b5 s h0 h1
/-- a word more -/
theorem mTg_word {A A' : Nat → Int} {b b' : aM} {w l u kd : Int} {S : Int → Int} (h : mTg A b) (hw : A 18 = w) (w12 : w < 12) (l1 : 1 ≤ l ∧ l ≤ 6) (u1 : 0 ≤ u ∧ u ≤ 99) (k1 : 0 ≤ kd ∧ kd ≤ 3) (hS : ∀ k : Int, 0 ≤ k → k < l → 0 ≤ S k ∧ S k < A 0)
    (new : ∀ v : Int, 0 ≤ v → v < w → A (19 + v).toNat = l → ∃ k : Int, 0 ≤ k ∧ k < l ∧ A (58 + 6 * v + k).toNat ≠ S k)
    (a18 : A' 18 = w + 1) (al : A' (19 + w).toNat = l) (au : A' (32 + w).toNat = u) (ak : A' (45 + w).toNat = kd) (aS : ∀ k : Int, 0 ≤ k → k < l → A' (58 + 6 * w + k).toNat = S k)
    (af : ∀ i : Nat, i ≠ 18 → (i : Int) ≠ 19 + w → (i : Int) ≠ 32 + w → (i : Int) ≠ 45 + w → ¬(58 + 6 * w ≤ (i : Int) ∧ (i : Int) < 64 + 6 * w) → A' i = A i)
    (b18 : b' 3 2 = w + 1) (bl : b' 19 w.toNat = l) (bu : b' 20 w.toNat = u) (bk : b' 21 w.toNat = kd) (bS : ∀ k : Int, 0 ≤ k → k < l → b' (3 + 4 + w.toNat) k.toNat = S k)
    (bf : ∀ q i, 3 ≤ q → q ≤ 24 → ¬(q = 3 ∧ i = 2) → ¬((q = 19 ∨ q = 20 ∨ q = 21) ∧ i = w.toNat) → q ≠ 3 + 4 + w.toNat → b' q i = b q i) : mTg A' b' := by
  obtain ⟨⟨c0, c1, c2, c3, c4, c5, c6, c7, c8, c9, c10⟩, ⟨x0, x1, x2, x3, x4, x5⟩, b1, b2, b3, b4, b5⟩ := h
  have e0 : A' 0 = A 0 := af 0 (by omega) (by omega) (by omega) (by omega) (by omega)
  have e141 : A' 141 = A 141 := af 141 (by omega) (by omega) (by omega) (by omega) (by omega)
  have o19 : ∀ v : Int, 0 ≤ v → v < w → A' (19 + v).toNat = A (19 + v).toNat := fun v a c => af _ (by omega) (by omega) (by omega) (by omega) (by omega)
  have o32 : ∀ v : Int, 0 ≤ v → v < w → A' (32 + v).toNat = A (32 + v).toNat := fun v a c => af _ (by omega) (by omega) (by omega) (by omega) (by omega)
  have o45 : ∀ v : Int, 0 ≤ v → v < w → A' (45 + v).toNat = A (45 + v).toNat := fun v a c => af _ (by omega) (by omega) (by omega) (by omega) (by omega)
  have o58 : ∀ v k : Int, 0 ≤ v → v < w → 0 ≤ k → k < 6 → A' (58 + 6 * v + k).toNat = A (58 + 6 * v + k).toNat := fun v k a c d e => af _ (by omega) (by omega) (by omega) (by omega) (by omega)
  constructor
  · unfold mTokT
    rw [e0, a18, e141, af 9 (by omega) (by omega) (by omega) (by omega) (by omega), af 140 (by omega) (by omega) (by omega) (by omega) (by omega)]
    refine ⟨c0, ?_, c2, ?_, by omega, ?_, ?_, ?_, c8, c9, ?_⟩
    · intro s h0 h1; rw [af _ (by omega) (by omega) (by omega) (by omega) (by omega)]; exact c1 s h0 h1
    · intro s h0 h1
      rw [af (10 + s).toNat (by omega) (by omega) (by omega) (by omega) (by omega)]
      refine ⟨(c3 s h0 h1).1, (c3 s h0 h1).2.1, fun y y0 y1 hy => ?_⟩
      rw [af (10 + y).toNat (by omega) (by omega) (by omega) (by omega) (by omega)]
      exact (c3 s h0 h1).2.2 y y0 y1 hy
    · intro v h0 h1
      by_cases e : v = w
      · subst e
        rw [al, au, ak]
        refine ⟨l1, u1, k1, fun k k0 k2 => ?_⟩
        rw [aS k k0 k2]; exact hS k k0 k2
      · rw [o19 v h0 (by omega), o32 v h0 (by omega), o45 v h0 (by omega)]
        obtain ⟨d1, d2, d3, d4⟩ := c5 v h0 (by omega)
        refine ⟨d1, d2, d3, fun k k0 k2 => ?_⟩
        rw [o58 v k h0 (by omega) k0 (by omega)]
        exact d4 k k0 k2
    · intro v x v0 v1 v2 hl
      have d1 := (c5 v v0 (by omega)).1
      by_cases e : x = w
      · subst e
        rw [al, o19 v v0 v1] at hl
        obtain ⟨k, k0, k2, k3⟩ := new v v0 v1 hl
        refine ⟨k, k0, ?_, ?_⟩
        · rw [o19 v v0 v1]; omega
        · rw [o58 v k v0 v1 k0 (by omega), aS k k0 k2]; exact k3
      · rw [o19 v v0 (by omega), o19 x (by omega) (by omega)] at hl
        obtain ⟨k, k0, k2, k3⟩ := c6 v x v0 v1 (by omega) hl
        refine ⟨k, k0, ?_, ?_⟩
        · rw [o19 v v0 (by omega)]; exact k2
        · rw [o58 v k v0 (by omega) k0 (by omega), o58 x k (by omega) (by omega) k0 (by omega)]; exact k3
    · intro k h0 h1; rw [af _ (by omega) (by omega) (by omega) (by omega) (by omega)]; exact c7 k h0 h1
    · intro s h0 h1
      rw [af (142 + s).toNat (by omega) (by omega) (by omega) (by omega) (by omega), af (148 + s).toNat (by omega) (by omega) (by omega) (by omega) (by omega)]
      exact c10 s h0 h1
  · unfold mTRT
    rw [e0, a18, e141, af 9 (by omega) (by omega) (by omega) (by omega) (by omega), af 140 (by omega) (by omega) (by omega) (by omega) (by omega), af 154 (by omega) (by omega) (by omega) (by omega) (by omega)]
    refine ⟨⟨?_, ?_, b18, ?_, ?_, ?_⟩, ?_, ?_, ?_, ?_, ?_⟩
    · rw [bf _ _ (by omega) (by omega) (by omega) (by omega) (by omega)]; exact x0
    · rw [bf _ _ (by omega) (by omega) (by omega) (by omega) (by omega)]; exact x1
    · rw [bf _ _ (by omega) (by omega) (by omega) (by omega) (by omega)]; exact x3
    · rw [bf _ _ (by omega) (by omega) (by omega) (by omega) (by omega)]; exact x4
    · rw [bf _ _ (by omega) (by omega) (by omega) (by omega) (by omega)]; exact x5
    · intro s h0 h1; rw [bf _ _ (by omega) (by omega) (by omega) (by omega) (by omega), af _ (by omega) (by omega) (by omega) (by omega) (by omega)]; exact b1 s h0 h1
    · intro s h0 h1; rw [bf _ _ (by omega) (by omega) (by omega) (by omega) (by omega), af _ (by omega) (by omega) (by omega) (by omega) (by omega)]; exact b2 s h0 h1
    · intro v h0 h1
      by_cases e : v = w
      · subst e
        rw [al, au, ak]
        refine ⟨bl, bu, bk, fun k k0 k2 => ?_⟩
        rw [aS k k0 k2]; exact bS k k0 k2
      · obtain ⟨d1, d2, d3, d4⟩ := b3 v h0 (by omega)
        have l6 := (c5 v h0 (by omega)).1
        rw [o19 v h0 (by omega), o32 v h0 (by omega), o45 v h0 (by omega), bf _ _ (by omega) (by omega) (by omega) (by omega) (by omega), bf _ _ (by omega) (by omega) (by omega) (by omega) (by omega), bf _ _ (by omega) (by omega) (by omega) (by omega) (by omega)]
        refine ⟨d1, d2, d3, fun k k0 k2 => ?_⟩
        rw [bf _ _ (by omega) (by omega) (by omega) (by omega) (by omega), o58 v k h0 (by omega) k0 (by omega)]
        exact d4 k k0 k2
    · intro s h0 h1; rw [bf _ _ (by omega) (by omega) (by omega) (by omega) (by omega), af _ (by omega) (by omega) (by omega) (by omega) (by omega)]; exact b4 s h0 h1
    · intro s h0 h1
      rw [bf _ _ (by omega) (by omega) (by omega) (by omega) (by omega), bf _ _ (by omega) (by omega) (by omega) (by omega) (by omega), af (142 + s).toNat (by omega) (by omega) (by omega) (by omega) (by omega), af (148 + s).toNat (by omega) (by omega) (by omega) (by omega) (by omega)]
      exact b5 s h0 h1
/-- a shape more -/
theorem mTg_shape {A A' : Nat → Int} {b b' : aM} {s l o : Int} (h : mTg A b) (hs : A 141 = s) (s6 : s < 6) (l1 : 1 ≤ l ∧ l ≤ 6) (o1 : 0 ≤ o ∧ o < 64) (ob : ∀ k : Int, l ≤ k → k < 6 → iand (ishr o k) 1 = 0)
    (a141 : A' 141 = s + 1) (al : A' (142 + s).toNat = l) (ao : A' (148 + s).toNat = o) (af : ∀ i : Nat, i ≠ 141 → (i : Int) ≠ 142 + s → (i : Int) ≠ 148 + s → A' i = A i)
    (b141 : b' 3 3 = s + 1) (bl : b' 23 s.toNat = l) (bo : b' 24 s.toNat = o) (bf : ∀ q i, 3 ≤ q → q ≤ 24 → ¬(q = 3 ∧ i = 3) → ¬((q = 23 ∨ q = 24) ∧ i = s.toNat) → b' q i = b q i) : mTg A' b' := by
  obtain ⟨⟨c0, c1, c2, c3, c4, c5, c6, c7, c8, c9, c10⟩, ⟨x0, x1, x2, x3, x4, x5⟩, b1, b2, b3, b4, b5⟩ := h
  have e0 : A' 0 = A 0 := af 0 (by omega) (by omega) (by omega)
  have e18 : A' 18 = A 18 := af 18 (by omega) (by omega) (by omega)
  constructor
  · unfold mTokT
    rw [e0, e18, a141, af 9 (by omega) (by omega) (by omega), af 140 (by omega) (by omega) (by omega)]
    refine ⟨c0, ?_, c2, ?_, c4, ?_, ?_, ?_, c8, by omega, ?_⟩
    · intro s h0 h1; rw [af _ (by omega) (by omega) (by omega)]; exact c1 s h0 h1
    · intro s h0 h1
      rw [af (10 + s).toNat (by omega) (by omega) (by omega)]
      refine ⟨(c3 s h0 h1).1, (c3 s h0 h1).2.1, fun y y0 y1 hy => ?_⟩
      rw [af (10 + y).toNat (by omega) (by omega) (by omega)]
      exact (c3 s h0 h1).2.2 y y0 y1 hy
    · intro w h0 h1
      rw [af (19 + w).toNat (by omega) (by omega) (by omega), af (32 + w).toNat (by omega) (by omega) (by omega), af (45 + w).toNat (by omega) (by omega) (by omega)]
      obtain ⟨d1, d2, d3, d4⟩ := c5 w h0 h1
      refine ⟨d1, d2, d3, fun k k0 k1 => ?_⟩
      rw [af (58 + 6 * w + k).toNat (by omega) (by omega) (by omega)]
      exact d4 k k0 k1
    · intro v w v0 v1 v2 hl
      rw [af (19 + v).toNat (by omega) (by omega) (by omega), af (19 + w).toNat (by omega) (by omega) (by omega)] at hl
      have d1 := (c5 v v0 (by omega)).1
      obtain ⟨k, k0, k1, k2⟩ := c6 v w v0 v1 v2 hl
      refine ⟨k, k0, ?_, ?_⟩
      · rw [af (19 + v).toNat (by omega) (by omega) (by omega)]; exact k1
      · rw [af (58 + 6 * v + k).toNat (by omega) (by omega) (by omega), af (58 + 6 * w + k).toNat (by omega) (by omega) (by omega)]; exact k2
    · intro k h0 h1; rw [af _ (by omega) (by omega) (by omega)]; exact c7 k h0 h1
    · intro v h0 h1
      by_cases e : v = s
      · subst e
        rw [al, ao]; exact ⟨l1, o1, ob⟩
      · rw [af (142 + v).toNat (by omega) (by omega) (by omega), af (148 + v).toNat (by omega) (by omega) (by omega)]
        exact c10 v h0 (by omega)
  · unfold mTRT
    rw [e0, e18, a141, af 9 (by omega) (by omega) (by omega), af 140 (by omega) (by omega) (by omega), af 154 (by omega) (by omega) (by omega)]
    refine ⟨⟨?_, ?_, ?_, b141, ?_, ?_⟩, ?_, ?_, ?_, ?_, ?_⟩
    · rw [bf _ _ (by omega) (by omega) (by omega) (by omega)]; exact x0
    · rw [bf _ _ (by omega) (by omega) (by omega) (by omega)]; exact x1
    · rw [bf _ _ (by omega) (by omega) (by omega) (by omega)]; exact x2
    · rw [bf _ _ (by omega) (by omega) (by omega) (by omega)]; exact x4
    · rw [bf _ _ (by omega) (by omega) (by omega) (by omega)]; exact x5
    · intro s h0 h1; rw [bf _ _ (by omega) (by omega) (by omega) (by omega), af _ (by omega) (by omega) (by omega)]; exact b1 s h0 h1
    · intro s h0 h1; rw [bf _ _ (by omega) (by omega) (by omega) (by omega), af _ (by omega) (by omega) (by omega)]; exact b2 s h0 h1
    · intro w h0 h1
      obtain ⟨d1, d2, d3, d4⟩ := b3 w h0 h1
      have l6 := (c5 w h0 h1).1
      rw [af (19 + w).toNat (by omega) (by omega) (by omega), af (32 + w).toNat (by omega) (by omega) (by omega), af (45 + w).toNat (by omega) (by omega) (by omega), bf _ _ (by omega) (by omega) (by omega) (by omega), bf _ _ (by omega) (by omega) (by omega) (by omega), bf _ _ (by omega) (by omega) (by omega) (by omega)]
      refine ⟨d1, d2, d3, fun k k0 k1 => ?_⟩
      rw [bf _ _ (by omega) (by omega) (by omega) (by omega), af (58 + 6 * w + k).toNat (by omega) (by omega) (by omega)]
      exact d4 k k0 k1
    · intro k h0 h1; rw [bf _ _ (by omega) (by omega) (by omega) (by omega), af _ (by omega) (by omega) (by omega)]; exact b4 k h0 h1
    · intro v h0 h1
      by_cases e : v = s
      · subst e
        rw [al, ao]; exact ⟨bl, bo⟩
      · rw [bf _ _ (by omega) (by omega) (by omega) (by omega), bf _ _ (by omega) (by omega) (by omega) (by omega), af (142 + v).toNat (by omega) (by omega) (by omega), af (148 + v).toNat (by omega) (by omega) (by omega)]
        exact b5 v h0 (by omega)
