/-! THE INVARIANT between two calls. A : the reference's row of a tongue and its line. -/
def mTok (A : Nat → Int) : Prop :=
  (0 ≤ A 0 ∧ A 0 ≤ 8) ∧
  (∀ s : Int, 0 ≤ s → s < A 0 → 97 ≤ A (1 + s).toNat ∧ A (1 + s).toNat ≤ 122) ∧
  (0 ≤ A 9 ∧ A 9 < 256) ∧
  (∀ s : Int, 0 ≤ s → s < 8 → 0 ≤ A (10 + s).toNat ∧ A (10 + s).toNat < 256 ∧ ∀ b : Int, 0 ≤ b → b < 8 → iand (ishr (A (10 + s).toNat) b) 1 ≠ 0 → b ≠ s ∧ b < A 0 ∧ s < A 0 ∧ iand (ishr (A (10 + b).toNat) s) 1 ≠ 0) ∧
  (0 ≤ A 18 ∧ A 18 ≤ 12) ∧
  (∀ w : Int, 0 ≤ w → w < A 18 → (1 ≤ A (19 + w).toNat ∧ A (19 + w).toNat ≤ 6) ∧ (0 ≤ A (32 + w).toNat ∧ A (32 + w).toNat ≤ 99) ∧ (0 ≤ A (45 + w).toNat ∧ A (45 + w).toNat ≤ 3) ∧ ∀ k : Int, 0 ≤ k → k < A (19 + w).toNat → 0 ≤ A (58 + 6 * w + k).toNat ∧ A (58 + 6 * w + k).toNat < A 0) ∧
  (∀ v w : Int, 0 ≤ v → v < w → w < A 18 → A (19 + v).toNat = A (19 + w).toNat → ∃ k : Int, 0 ≤ k ∧ k < A (19 + v).toNat ∧ A (58 + 6 * v + k).toNat ≠ A (58 + 6 * w + k).toNat) ∧
  (∀ k : Int, 0 ≤ k → k < 4 → 0 ≤ A (136 + k).toNat ∧ A (136 + k).toNat ≤ 15) ∧
  (0 ≤ A 140 ∧ A 140 ≤ 15) ∧
  (0 ≤ A 141 ∧ A 141 ≤ 6) ∧
  (∀ s : Int, 0 ≤ s → s < A 141 → (1 ≤ A (142 + s).toNat ∧ A (142 + s).toNat ≤ 6) ∧ (0 ≤ A (148 + s).toNat ∧ A (148 + s).toNat < 64) ∧ ∀ k : Int, A (142 + s).toNat ≤ k → k < 6 → iand (ishr (A (148 + s).toNat) k) 1 = 0) ∧
  (0 ≤ A 154 ∧ A 154 ≤ 500) ∧
  (0 ≤ A 155 ∧ A 155 ≤ 40) ∧
  (∀ k : Int, 0 ≤ k → k < A 155 → 0 ≤ A (156 + k).toNat ∧ A (156 + k).toNat < A 0)
/-- the class's tongue at t and its row of sounds at b are what A tells -/
def mTR (t b : Nat) (A : Nat → Int) (m : aM) : Prop :=
  (m t 0 = A 154 ∧ m t 1 = A 0 ∧ m t 2 = A 18 ∧ m t 3 = A 141 ∧ m t 4 = A 9 ∧ m t 5 = 15 - A 140) ∧
  (∀ s : Int, 0 ≤ s → s < A 0 → m (t + 1) s.toNat = A (1 + s).toNat) ∧
  (∀ s : Int, 0 ≤ s → s < 8 → m (t + 2) s.toNat = A (10 + s).toNat) ∧
  (∀ w : Int, 0 ≤ w → w < A 18 → m (t + 16) w.toNat = A (19 + w).toNat ∧ m (t + 17) w.toNat = A (32 + w).toNat ∧ m (t + 18) w.toNat = A (45 + w).toNat ∧ ∀ k : Int, 0 ≤ k → k < A (19 + w).toNat → m (t + 4 + w.toNat) k.toNat = A (58 + 6 * w + k).toNat) ∧
  (∀ k : Int, 0 ≤ k → k < 4 → m (t + 19) k.toNat = 15 - A (136 + k).toNat) ∧
  (∀ s : Int, 0 ≤ s → s < A 141 → m (t + 20) s.toNat = A (142 + s).toNat ∧ m (t + 21) s.toNat = A (148 + s).toNat) ∧
  m b 1 = A 155 ∧
  (∀ k : Int, 0 ≤ k → k < A 155 → m (b + 1) k.toNat = A (156 + k).toNat)
def mTape (m : aM) : Prop := (0 ≤ m 1 1 ∧ m 1 1 ≤ 500) ∧ m 176 5 = m 1 1 ∧ ∀ k : Int, 0 ≤ k → k < m 1 1 → (0 ≤ m 179 k.toNat ∧ m 179 k.toNat ≤ 255) ∧ m 2 k.toNat = w8 (m 179 k.toNat)
def mRows (m : aM) : Prop := ∀ r : Int, 0 ≤ r → r < 4 → (m 205 r.toNat = -1 ∧ m 57 r.toNat = -1) ∨ ((0 ≤ m 205 r.toNat ∧ m 205 r.toNat ≤ 3) ∧ m 58 r.toNat = m 205 r.toNat ∧ (0 ≤ m 57 r.toNat ∧ m 57 r.toNat ≤ 40) ∧ m 206 r.toNat = m 57 r.toNat ∧ ∀ i : Int, 0 ≤ i → i < m 57 r.toNat → m (53 + r.toNat) i.toNat = m 207 (40 * r + i).toNat)
def mImA (i : Nat) (m : aM) : Nat → Int := fun k => m 177 (196 * (i + 1) + k)
def mImg (m : aM) : Prop := ∀ i : Int, 0 ≤ i → i < 2 → m 178 i.toNat = m 127 i.toNat ∧ (m 127 i.toNat = 0 ∨ (m 127 i.toNat = 1 ∧ mTok (mImA i.toNat m) ∧ mTR (128 + 24 * i.toNat) (150 + 24 * i.toNat) (mImA i.toNat m) m))
def mMark (n : Nat) (m : aM) : Prop := (0 ≤ m 176 30 ∧ m 176 30 ≤ n * 2000) ∧ (∀ s : Nat, m 193 s ≤ m 176 30) ∧ m 176 32 = 0 ∧ m 176 33 = 0
/-- what Inv looks at -/
def mDep (q i : Nat) : Prop := (q = 1 ∧ (i = 1 ∨ i = 7 ∨ i = 8)) ∨ q = 2 ∨ (25 ≤ q ∧ q ≤ 48) ∨ (53 ≤ q ∧ q ≤ 58) ∨ q = 61 ∨ q = 62 ∨ q = 65 ∨ q = 66 ∨ q = 79 ∨ (107 ≤ q ∧ q ≤ 119) ∨ (127 ≤ q ∧ q ≤ 175) ∨ (q = 176 ∧ (i = 5 ∨ i = 13 ∨ i = 14 ∨ i = 30 ∨ i = 32 ∨ i = 33)) ∨ (177 ≤ q ∧ q ≤ 179) ∨ q = 193 ∨ (205 ≤ q ∧ q ≤ 207)
def mSame (m m' : aM) : Prop := ∀ q i, mDep q i → m' q i = m q i
theorem mSame.row {m m' : aM} (h : mSame m m') (q : Nat) (hq : ∀ i, mDep q i) : m' q = m q := funext fun i => h q i (hq i)
theorem mSame.trans {m m' m'' : aM} (h : mSame m m') (h' : mSame m' m'') : mSame m m'' := fun q i hd => (h' q i hd).trans (h q i hd)
theorem mSame.refl (m : aM) : mSame m m := fun _ _ _ => rfl
theorem mTR_same {t b : Nat} {A : Nat → Int} {m m' : aM} (h : ∀ q i, (t ≤ q ∧ q ≤ t + 21) ∨ q = b ∨ q = b + 1 → m' q i = m q i) (k : mTR t b A m) (hA : A 18 ≤ 12) : mTR t b A m' := by
  obtain ⟨⟨a0, a1, a2, a3, a4, a5⟩, b1, b2, b3, b4, b5, b6, b7⟩ := k
  refine ⟨⟨?_, ?_, ?_, ?_, ?_, ?_⟩, ?_, ?_, ?_, ?_, ?_, ?_, ?_⟩
  · rw [h _ _ (by omega)]; exact a0
  · rw [h _ _ (by omega)]; exact a1
  · rw [h _ _ (by omega)]; exact a2
  · rw [h _ _ (by omega)]; exact a3
  · rw [h _ _ (by omega)]; exact a4
  · rw [h _ _ (by omega)]; exact a5
  · intro s h0 h1; rw [h _ _ (by omega)]; exact b1 s h0 h1
  · intro s h0 h1; rw [h _ _ (by omega)]; exact b2 s h0 h1
  · intro w h0 h1
    obtain ⟨c1, c2, c3, c4⟩ := b3 w h0 h1
    refine ⟨?_, ?_, ?_, ?_⟩
    · rw [h _ _ (by omega)]; exact c1
    · rw [h _ _ (by omega)]; exact c2
    · rw [h _ _ (by omega)]; exact c3
    · intro k k0 k1; rw [h _ _ (by omega)]; exact c4 k k0 k1
  · intro s h0 h1; rw [h _ _ (by omega)]; exact b4 s h0 h1
  · intro s h0 h1; rw [h _ _ (by omega), h _ _ (by omega)]; exact b5 s h0 h1
  · rw [h _ _ (by omega)]; exact b6
  · intro s h0 h1; rw [h _ _ (by omega)]; exact b7 s h0 h1
theorem rowEq {m m' : aM} {q : Nat} (h : ∀ i, m' q i = m q i) : m' q = m q := funext h
theorem mTape_c {m m' : aM} (h1 : m' 1 1 = m 1 1) (h2 : m' 2 = m 2) (h3 : m' 176 5 = m 176 5) (h4 : m' 179 = m 179) (k : mTape m) : mTape m' := by
  unfold mTape at *
  rw [h1, h2, h3, h4]
  exact k
theorem mRows_c {m m' : aM} (h : ∀ q, (53 ≤ q ∧ q ≤ 58) ∨ (205 ≤ q ∧ q ≤ 207) → m' q = m q) (k : mRows m) : mRows m' := by
  unfold mRows at *
  rw [h 205 (by omega), h 57 (by omega), h 58 (by omega), h 206 (by omega), h 207 (by omega)]
  intro r h0 h1
  rw [h (53 + r.toNat) (by omega)]
  exact k r h0 h1
theorem mImg_c {m m' : aM} (h : ∀ q, (127 ≤ q ∧ q ≤ 175) ∨ q = 178 → m' q = m q) (h2 : ∀ i, 196 ≤ i → m' 177 i = m 177 i) (k : mImg m) : mImg m' := by
  intro i h0 h1
  have e : mImA i.toNat m' = mImA i.toNat m := by
    unfold mImA
    funext k
    exact h2 _ (by omega)
  rw [h 178 (by omega), h 127 (by omega), e]
  refine ⟨(k i h0 h1).1, ?_⟩
  rcases (k i h0 h1).2 with h3 | ⟨h3, h4, h5⟩
  · exact Or.inl h3
  · exact Or.inr ⟨h3, h4, mTR_same (fun q j hq => by rw [h q (by omega)]) h5 h4.2.2.2.2.1.2⟩
theorem mMark_c {m m' : aM} {n n' : Nat} (h1 : m' 176 30 = m 176 30) (h2 : m' 176 32 = m 176 32) (h3 : m' 176 33 = m 176 33) (h4 : m' 193 = m 193) (hn : n ≤ n') (k : mMark n m) : mMark n' m' := by
  unfold mMark at *
  rw [h1, h2, h3, h4]
  exact ⟨⟨k.1.1, by omega⟩, k.2⟩
theorem mTape_same {m m' : aM} (h : mSame m m') (k : mTape m) : mTape m' :=
  mTape_c (h 1 1 (by unfold mDep; omega)) (h.row 2 (fun i => by unfold mDep; omega)) (h 176 5 (by unfold mDep; omega)) (h.row 179 (fun i => by unfold mDep; omega)) k
theorem mRows_same {m m' : aM} (h : mSame m m') (k : mRows m) : mRows m' :=
  mRows_c (fun q hq => h.row q (fun i => by unfold mDep; omega)) k
theorem mImg_same {m m' : aM} (h : mSame m m') (k : mImg m) : mImg m' :=
  mImg_c (fun q hq => h.row q (fun i => by unfold mDep; omega)) (fun i hi => h 177 i (by unfold mDep; omega)) k
theorem mMark_same {m m' : aM} {n n' : Nat} (h : mSame m m') (hn : n ≤ n') (k : mMark n m) : mMark n' m' :=
  mMark_c (h 176 30 (by unfold mDep; omega)) (h 176 32 (by unfold mDep; omega)) (h 176 33 (by unfold mDep; omega)) (h.row 193 (fun i => by unfold mDep; omega)) hn k
