/-! TOKENS -/
theorem w8v {x : Int} (h0 : 0 ≤ x) (h1 : x ≤ 255) : (0 ≤ x ∧ x < 128 ∧ w8 x = x) ∨ (128 ≤ x ∧ x ≤ 255 ∧ w8 x = x - 256) := by
  by_cases c : x < 128
  · exact Or.inl ⟨h0, c, w8e (by omega) (by omega)⟩
  · refine Or.inr ⟨by omega, h1, ?_⟩
    unfold w8
    rw [Int.bmod_def]
    split <;> omega
def mSml (x : Int) : Prop := 97 ≤ x ∧ x ≤ 122
def mDig (x : Int) : Prop := 48 ≤ x ∧ x ≤ 57
/-- the token behind p: its kind (0 end, 1 name, 2 number, 3 stop, 4 none), from q to e -/
def mTk (T : Int → Int) (n p k q e : Int) : Prop :=
  (0 ≤ p ∧ p ≤ q ∧ q ≤ n) ∧ (∀ j : Int, p ≤ j → j < q → T j = 10 ∨ T j = 32) ∧ (q < n → T q ≠ 10 ∧ T q ≠ 32) ∧
  ((k = 0 ∧ q = n ∧ e = q) ∨
   (k = 1 ∧ q < e ∧ e ≤ n ∧ (∀ j : Int, q ≤ j → j < e → mSml (T j)) ∧ (e < n → ¬ mSml (T e))) ∨
   ((k = 2 ∨ k = 4) ∧ q < e ∧ e ≤ n ∧ (∀ j : Int, q ≤ j → j < e → mDig (T j)) ∧ (e < n → ¬ mDig (T e)) ∧ (k = 4 ↔ 3 < e - q)) ∨
   ((k = 3 ∨ k = 4) ∧ q < n ∧ e = q + 1 ∧ ¬ mSml (T q) ∧ ¬ mDig (T q) ∧ (k = 3 ↔ T q = 59)))
theorem mTk_run {P : Int → Prop} {n q e e' : Int} (h1 : q < e) (h2 : e ≤ n) (h3 : ∀ j : Int, q ≤ j → j < e → P j) (h4 : e < n → ¬ P e) (g1 : q < e') (g2 : e' ≤ n) (g3 : ∀ j : Int, q ≤ j → j < e' → P j) (g4 : e' < n → ¬ P e') : e = e' := by
  rcases Int.lt_trichotomy e e' with d | d | d
  · exact absurd (g3 e (by omega) d) (h4 (by omega))
  · exact d
  · exact absurd (h3 e' (by omega) d) (g4 (by omega))
theorem mTk_uni {T : Int → Int} {n p k q e k' q' e' : Int} (h : mTk T n p k q e) (g : mTk T n p k' q' e') : k = k' ∧ q = q' ∧ e = e' := by
  obtain ⟨⟨a0, a1, a2⟩, a3, a4, a5⟩ := h
  obtain ⟨⟨b0, b1, b2⟩, b3, b4, b5⟩ := g
  have eq : q = q' := by
    rcases Int.lt_trichotomy q q' with d | d | d
    · have := a4 (by omega); have := b3 q a1 d; omega
    · exact d
    · have := b4 (by omega); have := a3 q' b1 d; omega
  subst eq
  clear a3 b3
  have sd : ∀ x : Int, mSml x → ¬ mDig x := by unfold mSml mDig; intro x a b; omega
  rcases a5 with ⟨c1, c2, c3⟩ | ⟨c1, c2, c3, c4, c5⟩ | ⟨c1, c2, c3, c4, c5, c6⟩ | ⟨c1, c2, c3, c4, c5, c6⟩ <;> rcases b5 with ⟨d1, d2, d3⟩ | ⟨d1, d2, d3, d4, d5⟩ | ⟨d1, d2, d3, d4, d5, d6⟩ | ⟨d1, d2, d3, d4, d5, d6⟩
  · exact ⟨by omega, rfl, by omega⟩
  · omega
  · omega
  · omega
  · omega
  · exact ⟨by omega, rfl, mTk_run (P := fun j => mSml (T j)) c2 c3 c4 c5 d2 d3 d4 d5⟩
  · exact absurd (d4 q (by omega) d2) (sd _ (c4 q (by omega) c2))
  · exact absurd (c4 q (by omega) c2) d4
  · omega
  · exact absurd (c4 q (by omega) c2) (sd _ (d4 q (by omega) d2))
  · have ee := mTk_run (P := fun j => mDig (T j)) c2 c3 c4 c5 d2 d3 d4 d5
    subst ee
    refine ⟨?_, rfl, rfl⟩
    by_cases z : 3 < e - q
    · rw [c6.mpr z, d6.mpr z]
    · have : k ≠ 4 := fun h => z (c6.mp h)
      have : k' ≠ 4 := fun h => z (d6.mp h)
      omega
  · exact absurd (c4 q (by omega) c2) d5
  · omega
  · exact absurd (d4 q (by omega) d2) c4
  · exact absurd (d4 q (by omega) d2) c5
  · refine ⟨?_, rfl, by omega⟩
    by_cases z : T q = 59
    · rw [c6.mpr z, d6.mpr z]
    · have : k ≠ 3 := fun h => z (c6.mp h)
      have : k' ≠ 3 := fun h => z (d6.mp h)
      omega
theorem mTk_rng {T : Int → Int} {n p k q e : Int} (h : mTk T n p k q e) : 0 ≤ q ∧ q ≤ e ∧ e ≤ n ∧ p ≤ e ∧ (k ≠ 0 → p < e) ∧ 0 ≤ k ∧ k ≤ 4 := by
  obtain ⟨⟨a0, a1, a2⟩, a3, a4, a5⟩ := h
  rcases a5 with ⟨c1, c2, c3⟩ | ⟨c1, c2, c3, c4, c5⟩ | ⟨c1, c2, c3, c4, c5, c6⟩ | ⟨c1, c2, c3, c4, c5, c6⟩
  · exact ⟨by omega, by omega, by omega, by omega, fun h => absurd c1 h, by omega, by omega⟩
  · exact ⟨by omega, by omega, by omega, by omega, fun h => by omega, by omega, by omega⟩
  · clear a3 a4 c4 c5 c6; exact ⟨by omega, by omega, by omega, by omega, fun h => by omega, by omega, by omega⟩
  · clear a3 a4 c4 c5 c6; exact ⟨by omega, by omega, by omega, by omega, fun h => by omega, by omega, by omega⟩
theorem mTk_name {T : Int → Int} {n p q e : Int} (h : mTk T n p 1 q e) : q < e ∧ ∀ j : Int, q ≤ j → j < e → mSml (T j) := by
  obtain ⟨⟨a0, a1, a2⟩, a3, a4, a5⟩ := h
  rcases a5 with ⟨c1, c2, c3⟩ | ⟨c1, c2, c3, c4, c5⟩ | ⟨c1, c2, c3, c4, c5, c6⟩ | ⟨c1, c2, c3, c4, c5, c6⟩
  · omega
  · exact ⟨c2, c4⟩
  · omega
  · omega
theorem mTk_num {T : Int → Int} {n p q e : Int} (h : mTk T n p 2 q e) : q < e ∧ e - q ≤ 3 ∧ ∀ j : Int, q ≤ j → j < e → mDig (T j) := by
  obtain ⟨⟨a0, a1, a2⟩, a3, a4, a5⟩ := h
  rcases a5 with ⟨c1, c2, c3⟩ | ⟨c1, c2, c3, c4, c5⟩ | ⟨c1, c2, c3, c4, c5, c6⟩ | ⟨c1, c2, c3, c4, c5, c6⟩
  · omega
  · omega
  · refine ⟨c2, ?_, c4⟩
    have : ¬ 3 < e - q := fun h => by have := c6.mpr h; omega
    omega
  · omega
def mTx (T : Int → Int) (n : Int) (m : aM) : Prop := m 1 2 = n ∧ ∀ k : Int, 0 ≤ k → k < n → (0 ≤ T k ∧ T k ≤ 255) ∧ m 2 k.toNat = w8 (T k)
theorem mTx_same {T : Int → Int} {n : Int} {m m' : aM} (h : mTx T n m) (h1 : m' 1 2 = m 1 2) (h2 : ∀ i, m' 2 i = m 2 i) : mTx T n m' := ⟨h1.trans h.1, fun k a b => ⟨(h.2 k a b).1, (h2 _).trans (h.2 k a b).2⟩⟩
theorem advance_ok {T : Int → Int} {n p : Int} {m : aM} (hx : mTx T n m) (n1 : n ≤ 500) (hp : m 1 6 = p) (p0 : 0 ≤ p) (p1 : p ≤ n) : mOk (Tape_advance m) (fun m' => mTk T n p (m' 1 4) (m' 1 5) (m' 1 6) ∧ ∀ q i, ¬(q = 1 ∧ (i = 4 ∨ i = 5 ∨ i = 6)) → m' q i = m q i) := by
  unfold Tape_advance
  rw [st1e, hp]
  refine mL1 Tape_advance_4 (fun mm => (p ≤ mm 1 5 ∧ mm 1 5 ≤ n) ∧ (∀ j : Int, p ≤ j → j < mm 1 5 → T j = 10 ∨ T j = 32) ∧ ∀ q i, ¬(q = 1 ∧ (i = 4 ∨ i = 5 ∨ i = 6)) → mm q i = m q i) (fun mm => (501 - mm 1 5).toNat) ?_ _ ⟨by rw [aup_self]; omega, fun j a b => by rw [aup_self] at b; omega, fun q i a => aup_of (by omega)⟩ (by rw [aup_self]; omega)
  rintro fu mm ⟨⟨q0, q1⟩, hj, fr⟩ ih
  have hx1 := mTx_same hx (fr 1 2 (by omega)) (fun i => fr 2 i (by omega))
  rw [Tape_advance_4, hx1.1]
  generalize hq : mm 1 5 = q at *
  -- when the blanks end
  have go : (q < n → T q ≠ 10 ∧ T q ≠ 32) → mOk (Tape_advance_30 mm) (fun m' => mTk T n p (m' 1 4) (m' 1 5) (m' 1 6) ∧ ∀ q i, ¬(q = 1 ∧ (i = 4 ∨ i = 5 ∨ i = 6)) → m' q i = m q i) := by
    intro hnb
    unfold Tape_advance_30
    rw [st1e, hq]
    -- at the end of the letters
    have l60 : ∀ mm2 : aM, mm2 1 5 = q → (q ≤ mm2 1 6 ∧ mm2 1 6 ≤ n) → (∀ j : Int, q ≤ j → j < mm2 1 6 → mSml (T j)) → (mm2 1 6 < n → ¬ mSml (T (mm2 1 6))) → (∀ q i, ¬(q = 1 ∧ (i = 4 ∨ i = 5 ∨ i = 6)) → mm2 q i = m q i) → mOk (Tape_advance_60 mm2) (fun m' => mTk T n p (m' 1 4) (m' 1 5) (m' 1 6) ∧ ∀ q i, ¬(q = 1 ∧ (i = 4 ∨ i = 5 ∨ i = 6)) → m' q i = m q i) := by
      intro mm2 h5 h6 hl he fr2
      unfold Tape_advance_60
      rw [h5]
      by_cases z : q < mm2 1 6
      · rw [if_pos z, st1e]
        refine mOk_some ⟨?_, fun q i a => by rw [aup_of (by omega)]; exact fr2 q i a⟩
        rw [aup_self, aup_of (by omega), aup_of (by omega), h5]
        exact ⟨⟨p0, q0, q1⟩, hj, hnb, Or.inr (Or.inl ⟨rfl, z, h6.2, hl, he⟩)⟩
      rw [if_neg z]
      have e6 : mm2 1 6 = q := by omega
      have nsm : q < n → ¬ mSml (T q) := by rw [e6] at he; exact he
      -- the digits
      refine mL1 Tape_advance_69 (fun mm3 => mm3 1 5 = q ∧ (q ≤ mm3 1 6 ∧ mm3 1 6 ≤ n) ∧ (∀ j : Int, q ≤ j → j < mm3 1 6 → mDig (T j)) ∧ ∀ q i, ¬(q = 1 ∧ (i = 4 ∨ i = 5 ∨ i = 6)) → mm3 q i = m q i) (fun mm3 => (501 - mm3 1 6).toNat) ?_ mm2 ⟨h5, h6, fun j a b => by omega, fr2⟩ (by omega)
      rintro fu3 mm3 ⟨g5, g6, gd, fr3⟩ ih3
      have hx3 := mTx_same hx (fr3 1 2 (by omega)) (fun i => fr3 2 i (by omega))
      have l95 : (mm3 1 6 < n → ¬ mDig (T (mm3 1 6))) → mOk (Tape_advance_95 mm3) (fun m' => mTk T n p (m' 1 4) (m' 1 5) (m' 1 6) ∧ ∀ q i, ¬(q = 1 ∧ (i = 4 ∨ i = 5 ∨ i = 6)) → m' q i = m q i) := by
        intro hde
        unfold Tape_advance_95
        rw [g5, hx3.1]
        by_cases y : q < mm3 1 6
        · rw [if_pos y, w32e (by omega) (by omega)]
          unfold Tape_advance_111
          by_cases w : 3 < mm3 1 6 - q
          · rw [if_pos w, st1e]
            refine mOk_some ⟨?_, fun q i a => by rw [aup_of (by omega)]; exact fr3 q i a⟩
            rw [aup_self, aup_of (by omega), aup_of (by omega), g5]
            exact ⟨⟨p0, q0, q1⟩, hj, hnb, Or.inr (Or.inr (Or.inl ⟨Or.inr rfl, y, g6.2, gd, hde, ⟨fun _ => w, fun _ => rfl⟩⟩))⟩
          · rw [if_neg w, st1e]
            refine mOk_some ⟨?_, fun q i a => by rw [aup_of (by omega)]; exact fr3 q i a⟩
            rw [aup_self, aup_of (by omega), aup_of (by omega), g5]
            exact ⟨⟨p0, q0, q1⟩, hj, hnb, Or.inr (Or.inr (Or.inl ⟨Or.inl rfl, y, g6.2, gd, hde, ⟨fun h => by omega, fun h => absurd h w⟩⟩))⟩
        rw [if_neg y]
        have e3 : mm3 1 6 = q := by omega
        by_cases x : q < n
        · rw [if_pos x, if_pos (by omega), (hx3.2 q (by omega) x).2]
          have ndg := hde (by omega)
          rw [e3] at ndg
          have wv := w8v (hx3.2 q (by omega) x).1.1 (hx3.2 q (by omega) x).1.2
          unfold Tape_advance_133
          by_cases u : w8 (T q) = 59
          · rw [if_pos u, st1e, st1e]
            refine mOk_some ⟨?_, fun q i a => by rw [aup_of (by omega), aup_of (by omega)]; exact fr3 q i a⟩
            rw [aup_of (i' := 4) (by omega), aup_self, aup_of (i' := 5) (by omega), aup_of (i' := 5) (by omega), aup_self, g5, aup_of (by omega), e3, w32e (by omega) (by omega)]
            exact ⟨⟨p0, q0, q1⟩, hj, hnb, Or.inr (Or.inr (Or.inr ⟨Or.inl rfl, x, rfl, nsm x, ndg, ⟨fun _ => by omega, fun _ => rfl⟩⟩))⟩
          · rw [if_neg u, st1e, st1e]
            refine mOk_some ⟨?_, fun q i a => by rw [aup_of (by omega), aup_of (by omega)]; exact fr3 q i a⟩
            rw [aup_of (i' := 4) (by omega), aup_self, aup_of (i' := 5) (by omega), aup_of (i' := 5) (by omega), aup_self, g5, aup_of (by omega), e3, w32e (by omega) (by omega)]
            exact ⟨⟨p0, q0, q1⟩, hj, hnb, Or.inr (Or.inr (Or.inr ⟨Or.inr rfl, x, rfl, nsm x, ndg, ⟨fun h => by omega, fun h => by omega⟩⟩))⟩
        · rw [if_neg x, st1e]
          refine mOk_some ⟨?_, fun q i a => by rw [aup_of (by omega)]; exact fr3 q i a⟩
          rw [aup_self, aup_of (by omega), aup_of (by omega), g5, e3]
          exact ⟨⟨p0, q0, q1⟩, hj, hnb, Or.inl ⟨rfl, by omega, rfl⟩⟩
      rw [Tape_advance_69, hx3.1]
      by_cases y : mm3 1 6 < n
      · rw [if_pos y, if_pos (by omega), (hx3.2 _ (by omega) y).2]
        have wv := w8v (hx3.2 _ (by omega) y).1.1 (hx3.2 _ (by omega) y).1.2
        by_cases u : w8 (T (mm3 1 6)) < 48
        · rw [if_pos u]; exact l95 (fun _ h => by unfold mDig at h; omega)
        rw [if_neg u]
        by_cases v : 57 < w8 (T (mm3 1 6))
        · rw [if_pos v]; exact l95 (fun _ h => by unfold mDig at h; omega)
        rw [if_neg v, st1e, w32e (by omega) (by omega)]
        refine ih3 _ ⟨by rw [aup_of (by omega)]; exact g5, by rw [aup_self]; omega, fun j a b => ?_, fun q i a => by rw [aup_of (by omega)]; exact fr3 q i a⟩ (by rw [aup_self]; omega)
        rw [aup_self] at b
        by_cases ej : j = mm3 1 6
        · rw [ej]; unfold mDig; omega
        · exact gd j a (by omega)
      · rw [if_neg y]; exact l95 (fun h => absurd h y)
    refine mL1 Tape_advance_34 (fun mm2 => mm2 1 5 = q ∧ (q ≤ mm2 1 6 ∧ mm2 1 6 ≤ n) ∧ (∀ j : Int, q ≤ j → j < mm2 1 6 → mSml (T j)) ∧ ∀ q i, ¬(q = 1 ∧ (i = 4 ∨ i = 5 ∨ i = 6)) → mm2 q i = m q i) (fun mm2 => (501 - mm2 1 6).toNat) ?_ _ ⟨by rw [aup_of (by omega)]; exact hq, by rw [aup_self]; omega, fun j a b => by rw [aup_self] at b; omega, fun q i a => by rw [aup_of (by omega)]; exact fr q i a⟩ (by rw [aup_self]; omega)
    rintro fu2 mm2 ⟨g5, g6, gd, fr2⟩ ih2
    have hx2 := mTx_same hx (fr2 1 2 (by omega)) (fun i => fr2 2 i (by omega))
    rw [Tape_advance_34, hx2.1]
    by_cases y : mm2 1 6 < n
    · rw [if_pos y, if_pos (by omega), (hx2.2 _ (by omega) y).2]
      have wv := w8v (hx2.2 _ (by omega) y).1.1 (hx2.2 _ (by omega) y).1.2
      by_cases u : w8 (T (mm2 1 6)) < 97
      · rw [if_pos u]; exact l60 mm2 g5 g6 gd (fun _ h => by unfold mSml at h; omega) fr2
      rw [if_neg u]
      by_cases v : 122 < w8 (T (mm2 1 6))
      · rw [if_pos v]; exact l60 mm2 g5 g6 gd (fun _ h => by unfold mSml at h; omega) fr2
      rw [if_neg v, st1e, w32e (by omega) (by omega)]
      refine ih2 _ ⟨by rw [aup_of (by omega)]; exact g5, by rw [aup_self]; omega, fun j a b => ?_, fun q i a => by rw [aup_of (by omega)]; exact fr2 q i a⟩ (by rw [aup_self]; omega)
      rw [aup_self] at b
      by_cases ej : j = mm2 1 6
      · rw [ej]; unfold mSml; omega
      · exact gd j a (by omega)
    · rw [if_neg y]; exact l60 mm2 g5 g6 gd (fun h => absurd h y) fr2
  by_cases d : q < n
  · rw [if_pos d, if_pos (by omega), (hx1.2 q (by omega) d).2]
    have wv := w8v (hx1.2 q (by omega) d).1.1 (hx1.2 q (by omega) d).1.2
    have blank : (T q = 10 ∨ T q = 32) → mOk (Tape_advance_23 (Tape_advance_4 fu) mm) (fun m' => mTk T n p (m' 1 4) (m' 1 5) (m' 1 6) ∧ ∀ q i, ¬(q = 1 ∧ (i = 4 ∨ i = 5 ∨ i = 6)) → m' q i = m q i) := by
      intro hb
      unfold Tape_advance_23
      rw [st1e, hq, w32e (by omega) (by omega)]
      refine ih _ ⟨by rw [aup_self]; omega, fun j a b => ?_, fun q i a => by rw [aup_of (by omega)]; exact fr q i a⟩ (by rw [aup_self]; omega)
      rw [aup_self] at b
      by_cases ej : j = q
      · rw [ej]; exact hb
      · exact hj j a (by omega)
    by_cases u : w8 (T q) = 32
    · rw [if_pos u]; exact blank (by omega)
    rw [if_neg u]
    by_cases v : w8 (T q) = 10
    · rw [if_pos v]; exact blank (by omega)
    rw [if_neg v]
    exact go (fun _ => by omega)
  · rw [if_neg d]; exact go (fun h => absurd h d)
