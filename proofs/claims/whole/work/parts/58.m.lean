/-! ROWS OF WORDS by number: endless, longest -/
def mX (S : Int → Prop) (r : Int) : Prop := (r = 0 ∧ ∀ t, ¬ S t) ∨ (0 < r ∧ S r ∧ ∀ t, S t → t ≤ r)
theorem mX_uni {S S' : Int → Prop} {r r' : Int} (hs : ∀ t, S t ↔ S' t) (h : mX S r) (h' : mX S' r') : r = r' := by
  rcases h with ⟨h1, h2⟩ | ⟨h1, h2, h3⟩ <;> rcases h' with ⟨g1, g2⟩ | ⟨g1, g2, g3⟩
  · omega
  · exact absurd ((hs _).mpr g2) (h2 _)
  · exact absurd ((hs _).mp h2) (g2 _)
  · have a := h3 _ ((hs _).mpr g2)
    have b := g3 _ ((hs _).mp h2)
    omega
theorem mX_congr {S S' : Int → Prop} {r : Int} (hs : ∀ t, S t ↔ S' t) (h : mX S r) : mX S' r := by
  rcases h with ⟨h1, h2⟩ | ⟨h1, h2, h3⟩
  · exact Or.inl ⟨h1, fun t ht => h2 t ((hs t).mpr ht)⟩
  · exact Or.inr ⟨h1, (hs _).mp h2, fun t ht => h3 t ((hs t).mpr ht)⟩
theorem mX_nn {S : Int → Prop} {r : Int} (h : mX S r) : 0 ≤ r := by
  rcases h with ⟨h1, -⟩ | ⟨h1, -⟩ <;> omega
/-- one more candidate -/
theorem mX_add {S : Int → Prop} {r v : Int} (h : mX S r) (v0 : 0 < v) : mX (fun t => S t ∨ t = v) (if r < v then v else r) := by
  rcases h with ⟨h1, h2⟩ | ⟨h1, h2, h3⟩
  · rw [if_pos (by omega)]
    exact Or.inr ⟨v0, Or.inr rfl, fun t ht => by rcases ht with ht | ht; exact absurd ht (h2 t); omega⟩
  · by_cases c : r < v
    · rw [if_pos c]
      exact Or.inr ⟨v0, Or.inr rfl, fun t ht => by rcases ht with ht | ht; (have := h3 t ht; omega); omega⟩
    · rw [if_neg c]
      exact Or.inr ⟨h1, Or.inl h2, fun t ht => by rcases ht with ht | ht; exact h3 t ht; omega⟩
def mIw (A : Nat → Int) (w : Int) : Prop := 0 ≤ w ∧ w < A 18
/-- a row of c + 1 words, begun with w, that ends with the kind kd, of t sounds -/
def mCh (A : Nat → Int) : Nat → Int → Int → Int → Prop
  | 0, w, kd, t => mIw A w ∧ A (45 + w).toNat = kd ∧ t = A (19 + w).toNat
  | c + 1, w, kd, t => mIw A w ∧ ∃ v t', mKs A (A (45 + w).toNat) v ∧ mCh A c v kd t' ∧ t = A (19 + w).toNat + t'
theorem mCh_snoc {A : Nat → Int} : ∀ {c : Nat} {w kd t v : Int}, mCh A c w kd t → mIw A v → mKs A kd v → mCh A (c + 1) w (A (45 + v).toNat) (t + A (19 + v).toNat) := by
  intro c
  induction c with
  | zero =>
    rintro w kd t v ⟨h1, h2, h3⟩ hv hk
    exact ⟨h1, v, A (19 + v).toNat, by rw [h2]; exact hk, ⟨hv, rfl, rfl⟩, by omega⟩
  | succ c ih =>
    rintro w kd t v ⟨h1, u, t', h2, h3, h4⟩ hv hk
    exact ⟨h1, u, t' + A (19 + v).toNat, h2, ih h3 hv hk, by omega⟩
theorem mCh_unsnoc {A : Nat → Int} : ∀ {c : Nat} {w kd t : Int}, mCh A (c + 1) w kd t → ∃ kd' t' v, mCh A c w kd' t' ∧ mIw A v ∧ mKs A kd' v ∧ A (45 + v).toNat = kd ∧ t = t' + A (19 + v).toNat := by
  intro c
  induction c with
  | zero =>
    rintro w kd t ⟨h1, v, t', h2, ⟨h3, h4, h5⟩, h6⟩
    exact ⟨_, _, v, ⟨h1, rfl, rfl⟩, h3, h2, h4, by omega⟩
  | succ c ih =>
    rintro w kd t ⟨h1, v, t', h2, h3, h4⟩
    obtain ⟨kd', t2, u, g1, g2, g3, g4, g5⟩ := ih h3
    exact ⟨kd', A (19 + w).toNat + t2, u, ⟨h1, v, t2, h2, g1, rfl⟩, g2, g3, g4, by omega⟩
theorem mCh_bd {A : Nat → Int} (ht : mTok A) : ∀ {c : Nat} {w kd t : Int}, mCh A c w kd t → (0 < t ∧ t ≤ 6 * ((c : Int) + 1)) ∧ 0 ≤ kd ∧ kd ≤ 3 := by
  intro c
  induction c with
  | zero =>
    rintro w kd t ⟨h1, h2, h3⟩
    have := ht.2.2.2.2.2.1 w h1.1 h1.2
    omega
  | succ c ih =>
    rintro w kd t ⟨h1, v, t', h2, h3, h4⟩
    have := ht.2.2.2.2.2.1 w h1.1 h1.2
    have := ih h3
    omega
/-- sentences of c + 1 words, by their sounds -/
def mSe (A : Nat → Int) (c : Nat) (t : Int) : Prop := ∃ w kd, mCh A c w kd t ∧ mKe A kd
theorem mSe_down {A : Nat → Int} {c : Nat} (h : ∃ t, mSe A (c + 1) t) : ∃ t, mSe A c t := by
  obtain ⟨t, w, kd, ⟨h1, v, t', h2, h3, h4⟩, he⟩ := h
  exact ⟨t', v, kd, h3, he⟩
theorem mSe_le {A : Nat → Int} {c d : Nat} (hd : d ≤ c) (h : ∃ t, mSe A c t) : ∃ t, mSe A d t := by
  induction c with
  | zero => rw [show d = 0 by omega]; exact h
  | succ c ih =>
    by_cases e : d = c + 1
    · rw [e]; exact h
    · exact ih (by omega) (mSe_down h)
/-- a way of d steps from word to word -/
def mPt (A : Nat → Int) : Nat → Int → Int → Prop
  | 0, w, v => mIw A w ∧ w = v
  | d + 1, w, v => mIw A w ∧ ∃ u, mKs A (A (45 + w).toNat) u ∧ mPt A d u v
theorem mPt_in {A : Nat → Int} {d : Nat} {w v : Int} (h : mPt A d w v) : mIw A w := by
  cases d with
  | zero => exact h.1
  | succ d => exact h.1
theorem mPt_add {A : Nat → Int} : ∀ {d e : Nat} {w v u : Int}, mPt A d w v → mPt A e v u → mPt A (d + e) w u := by
  intro d
  induction d with
  | zero =>
    rintro e w v u ⟨h1, h2⟩ h
    rw [Nat.zero_add, h2]
    exact h
  | succ d ih =>
    rintro e w v u ⟨h1, x, h2, h3⟩ h
    rw [show d + 1 + e = (d + e) + 1 by omega]
    exact ⟨h1, x, h2, ih h3 h⟩
theorem mPt_loop {A : Nat → Int} {d : Nat} {w : Int} (h : mPt A d w w) : ∀ n, mPt A (n * d) w w := by
  intro n
  induction n with
  | zero => rw [Nat.zero_mul]; exact ⟨mPt_in h, rfl⟩
  | succ n ih => rw [Nat.succ_mul]; exact mPt_add ih h
theorem mPt_ch {A : Nat → Int} : ∀ {d : Nat} {w v : Int}, mPt A d w v → ∃ t, mCh A d w (A (45 + v).toNat) t := by
  intro d
  induction d with
  | zero =>
    rintro w v ⟨h1, h2⟩
    rw [← h2]
    exact ⟨_, h1, rfl, rfl⟩
  | succ d ih =>
    rintro w v ⟨h1, u, h2, h3⟩
    obtain ⟨t, ht⟩ := ih h3
    exact ⟨_, h1, u, t, h2, ht, rfl⟩
/-- a row of words as a function -/
theorem mCh_fun {A : Nat → Int} : ∀ {c : Nat} {w kd t : Int}, mCh A c w kd t → ∃ a : Nat → Int, a 0 = w ∧ (∀ i, i ≤ c → mIw A (a i)) ∧ (∀ i, i < c → mKs A (A (45 + a i).toNat) (a (i + 1))) ∧ A (45 + a c).toNat = kd := by
  intro c
  induction c with
  | zero =>
    rintro w kd t ⟨h1, h2, h3⟩
    exact ⟨fun _ => w, rfl, fun _ _ => h1, fun i hi => by omega, h2⟩
  | succ c ih =>
    rintro w kd t ⟨h1, v, t', h2, h3, h4⟩
    obtain ⟨a, a0, a1, a2, a3⟩ := ih h3
    refine ⟨fun i => if i = 0 then w else a (i - 1), rfl, fun i hi => ?_, fun i hi => ?_, ?_⟩
    · dsimp only
      by_cases e : i = 0
      · rw [if_pos e]; exact h1
      · rw [if_neg e]; exact a1 _ (by omega)
    · dsimp only
      rw [if_neg (show ¬ (i + 1 = 0) by omega)]
      by_cases e : i = 0
      · rw [if_pos e, e]
        show mKs A _ (a 0)
        rw [a0]; exact h2
      · rw [if_neg e]
        have := a2 (i - 1) (by omega)
        rw [show i - 1 + 1 = i by omega] at this
        exact this
    · dsimp only
      rw [if_neg (by omega)]
      exact a3
theorem fun_pt {A : Nat → Int} {a : Nat → Int} {c : Nat} (a1 : ∀ i, i ≤ c → mIw A (a i)) (a2 : ∀ i, i < c → mKs A (A (45 + a i).toNat) (a (i + 1))) : ∀ (d i : Nat), i + d ≤ c → mPt A d (a i) (a (i + d)) := by
  intro d
  induction d with
  | zero => intro i h; exact ⟨a1 i (by omega), rfl⟩
  | succ d ih =>
    intro i h
    have := ih (i + 1) (by omega)
    rw [show i + 1 + d = i + (d + 1) by omega] at this
    exact ⟨a1 i (by omega), _, a2 i (by omega), this⟩
/-- two of n + 1 are the same -/
theorem pigeon : ∀ (n : Nat) (w : Nat → Int), (∀ i, i ≤ n → 0 ≤ w i ∧ w i < n) → ∃ i j, i < j ∧ j ≤ n ∧ w i = w j := by
  intro n
  induction n with
  | zero => intro w h; have := h 0 (Nat.le_refl _); omega
  | succ n ih =>
    intro w h
    by_cases e : ∃ i, i ≤ n ∧ w i = w (n + 1)
    · obtain ⟨i, i1, i2⟩ := e
      exact ⟨i, n + 1, by omega, Nat.le_refl _, i2⟩
    · have e2 : ∀ i, i ≤ n → w i ≠ w (n + 1) := fun i hi hw => e ⟨i, hi, hw⟩
      have hl := h (n + 1) (Nat.le_refl _)
      obtain ⟨i, j, hij, hj, hw⟩ := ih (fun i => if w i = n then w (n + 1) else w i) (fun i hi => by
        have := h i (by omega)
        have := e2 i hi
        by_cases c : w i = n
        · rw [if_pos c]; omega
        · rw [if_neg c]; omega)
      refine ⟨i, j, hij, by omega, ?_⟩
      have n1 := e2 i (by omega)
      have n2 := e2 j hj
      by_cases c : w i = n
      · by_cases d : w j = n
        · rw [c, d]
        · rw [if_pos c, if_neg d] at hw
          exact absurd hw.symm n2
      · by_cases d : w j = n
        · rw [if_neg c, if_pos d] at hw
          exact absurd hw n1
        · rw [if_neg c, if_neg d] at hw
          exact hw
theorem pump {A : Nat → Int} {a : Nat → Int} {c i j : Nat} (a1 : ∀ i, i ≤ c → mIw A (a i)) (a2 : ∀ i, i < c → mKs A (A (45 + a i).toNat) (a (i + 1))) (he : mKe A (A (45 + a c).toNat)) (hij : i < j) (hj : j ≤ c) (hk : A (45 + a i).toNat = A (45 + a j).toNat) (n : Nat) : ∃ t, mSe A n t := by
  have lp : mPt A (j - i) (a j) (a j) := by
    have p1 := fun_pt a1 a2 (j - i - 1) (i + 1) (by omega)
    rw [show i + 1 + (j - i - 1) = j by omega] at p1
    have : mPt A ((j - i - 1) + 1) (a j) (a j) := ⟨a1 j hj, a (i + 1), by rw [← hk]; exact a2 i (by omega), p1⟩
    rw [show j - i - 1 + 1 = j - i by omega] at this
    exact this
  have tl := fun_pt a1 a2 (c - j) j (by omega)
  rw [show j + (c - j) = c by omega] at tl
  have all := mPt_add (mPt_loop lp n) tl
  obtain ⟨t, ht⟩ := mPt_ch all
  have big : n ≤ n * (j - i) + (c - j) := by
    have : n * 1 ≤ n * (j - i) := Nat.mul_le_mul_left n (by omega)
    omega
  exact mSe_le big ⟨t, _, _, ht, he⟩
theorem endless_iff {A : Nat → Int} (ht : mTok A) : (∃ t, mSe A 4 t) ↔ ∃ t, mSe A (A 18).toNat t := by
  have c4 := ht.2.2.2.2.1
  constructor
  · rintro ⟨t, w, kd, hc, he⟩
    obtain ⟨a, a0, a1, a2, a3⟩ := mCh_fun hc
    obtain ⟨i, j, hij, hj, hk⟩ := pigeon 4 (fun i => A (45 + a i).toNat) (fun i hi => by
      have g := a1 i hi
      have := (ht.2.2.2.2.2.1 _ g.1 g.2).2.2.1
      omega)
    exact pump a1 a2 (by rw [a3]; exact he) hij hj hk _
  · rintro ⟨t, w, kd, hc, he⟩
    obtain ⟨a, a0, a1, a2, a3⟩ := mCh_fun hc
    obtain ⟨i, j, hij, hj, hk⟩ := pigeon (A 18).toNat a (fun i hi => by
      have g := a1 i hi
      unfold mIw at g
      omega)
    exact pump a1 a2 (by rw [a3]; exact he) hij hj (by rw [hk]) _
