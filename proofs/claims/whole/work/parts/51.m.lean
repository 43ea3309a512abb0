/-- the line (and the tape) alone has changed -/
theorem mInv_line {n n' : Nat} {m m' : aM} (hn : n ≤ n') (h : ∀ q i, mDep q i → ¬(q = 1 ∧ i = 1) → q ≠ 2 → ¬(q = 176 ∧ i = 5) → q ≠ 179 → ¬(q = 47 ∧ i = 1) → q ≠ 48 → ¬(q = 61 ∧ i = 9) → ¬(q = 177 ∧ 155 ≤ i ∧ i < 196) → m' q i = m q i) (ht : mTape m') (h9 : m' 61 9 = -1) (hl : m' 47 1 = m' 177 155) (hl0 : 0 ≤ m' 177 155) (hl1 : m' 177 155 ≤ 40) (hs : ∀ k : Int, 0 ≤ k → k < m' 177 155 → m' 48 k.toNat = m' 177 (156 + k).toNat ∧ 0 ≤ m' 177 (156 + k).toNat ∧ m' 177 (156 + k).toNat < m 177 0) (k : mInv n m) : mInv n' m' := by
  obtain ⟨k1, k2, k3, k4, k5, k6, k7, k8, k9⟩ := k
  have hr : ∀ q, (∀ i, mDep q i) → q ≠ 1 → q ≠ 2 → q ≠ 176 → q ≠ 179 → q ≠ 47 → q ≠ 48 → q ≠ 61 → q ≠ 177 → m' q = m q := fun q hq a b c d e f g j => funext fun i => h q i (hq i) (by omega) b (by omega) d (by omega) f (by omega) (by omega)
  have e : ∀ i : Nat, i < 155 ∨ 196 ≤ i → m' 177 i = m 177 i := fun i hi => h 177 i (by unfold mDep; omega) (by omega) (by omega) (by omega) (by omega) (by omega) (by omega) (by omega) (by omega)
  have tok : mTok (m' 177) := by
    obtain ⟨c0, c1, c2, c3, c4, c5, c6, c7, c8, c9, c10, c11, c12, c13⟩ := k3
    unfold mTok
    rw [e 0 (by omega), e 9 (by omega), e 18 (by omega), e 140 (by omega), e 141 (by omega), e 154 (by omega)]
    refine ⟨c0, ?_, c2, ?_, c4, ?_, ?_, ?_, c8, c9, ?_, c11, ⟨hl0, hl1⟩, fun k k0 k1 => (hs k k0 k1).2⟩
    · intro s h0 h1; rw [e _ (by omega)]; exact c1 s h0 h1
    · intro s h0 h1
      rw [e (10 + s).toNat (by omega)]
      refine ⟨(c3 s h0 h1).1, (c3 s h0 h1).2.1, fun b b0 b1 hb => ?_⟩
      rw [e (10 + b).toNat (by omega)]
      exact (c3 s h0 h1).2.2 b b0 b1 hb
    · intro w h0 h1
      obtain ⟨d1, d2, d3, d4⟩ := c5 w h0 h1
      rw [e (19 + w).toNat (by omega), e (32 + w).toNat (by omega), e (45 + w).toNat (by omega)]
      refine ⟨d1, d2, d3, fun k k0 k1 => ?_⟩
      rw [e (58 + 6 * w + k).toNat (by omega)]
      exact d4 k k0 k1
    · intro v w v0 v1 v2 hl
      have d1 := (c5 v v0 (by omega)).1
      rw [e (19 + v).toNat (by omega), e (19 + w).toNat (by omega)] at hl
      obtain ⟨k, k0, k1, k2⟩ := c6 v w v0 v1 v2 hl
      refine ⟨k, k0, ?_, ?_⟩
      · rw [e (19 + v).toNat (by omega)]; exact k1
      · rw [e (58 + 6 * v + k).toNat (by omega), e (58 + 6 * w + k).toNat (by omega)]; exact k2
    · intro k h0 h1; rw [e _ (by omega)]; exact c7 k h0 h1
    · intro s h0 h1
      rw [e (142 + s).toNat (by omega), e (148 + s).toNat (by omega)]
      exact c10 s h0 h1
  refine ⟨ht, ?_, tok, ?_, mRows_c (fun q hq => hr q (fun i => by unfold mDep; omega) (by omega) (by omega) (by omega) (by omega) (by omega) (by omega) (by omega) (by omega)) k5, mImg_c (fun q hq => hr q (fun i => by unfold mDep; omega) (by omega) (by omega) (by omega) (by omega) (by omega) (by omega) (by omega) (by omega)) (fun i hi => e i (by omega)) k6, ?_, Or.inl h9, ?_⟩
  · rw [h 176 13 (by unfold mDep; omega) (by omega) (by omega) (by omega) (by omega) (by omega) (by omega) (by omega) (by omega), h 176 14 (by unfold mDep; omega) (by omega) (by omega) (by omega) (by omega) (by omega) (by omega) (by omega) (by omega), h 1 7 (by unfold mDep; omega) (by omega) (by omega) (by omega) (by omega) (by omega) (by omega) (by omega) (by omega), h 1 8 (by unfold mDep; omega) (by omega) (by omega) (by omega) (by omega) (by omega) (by omega) (by omega) (by omega)]
    exact k2
  · obtain ⟨⟨a0, a1, a2, a3, a4, a5⟩, b1, b2, b3, b4, b5, b6, b7⟩ := k4
    obtain ⟨c0, c1, c2, c3, c4, c5, c6, c7, c8, c9, c10, c11, c12, c13⟩ := k3
    have g : ∀ q i, 25 ≤ q → q ≤ 46 → m' q i = m q i := fun q i x y => h q i (by unfold mDep; omega) (by omega) (by omega) (by omega) (by omega) (by omega) (by omega) (by omega) (by omega)
    unfold mTR
    rw [e 0 (by omega), e 9 (by omega), e 18 (by omega), e 140 (by omega), e 141 (by omega), e 154 (by omega), g 25 0 (by omega) (by omega), g 25 1 (by omega) (by omega), g 25 2 (by omega) (by omega), g 25 3 (by omega) (by omega), g 25 4 (by omega) (by omega), g 25 5 (by omega) (by omega)]
    refine ⟨⟨a0, a1, a2, a3, a4, a5⟩, ?_, ?_, ?_, ?_, ?_, hl, fun k k0 k1 => (hs k k0 k1).1⟩
    · intro s h0 h1; rw [e _ (by omega), g _ _ (by omega) (by omega)]; exact b1 s h0 h1
    · intro s h0 h1; rw [e _ (by omega), g _ _ (by omega) (by omega)]; exact b2 s h0 h1
    · intro w h0 h1
      obtain ⟨d1, d2, d3, d4⟩ := b3 w h0 h1
      have fl := (c5 w h0 h1).1
      rw [e (19 + w).toNat (by omega), e (32 + w).toNat (by omega), e (45 + w).toNat (by omega), g _ _ (by omega) (by omega), g _ _ (by omega) (by omega), g _ _ (by omega) (by omega)]
      refine ⟨d1, d2, d3, fun k k0 k1 => ?_⟩
      rw [e (58 + 6 * w + k).toNat (by omega), g _ _ (by omega) (by omega)]
      exact d4 k k0 k1
    · intro k h0 h1; rw [e _ (by omega), g _ _ (by omega) (by omega)]; exact b4 k h0 h1
    · intro s h0 h1
      rw [e (142 + s).toNat (by omega), e (148 + s).toNat (by omega), g _ _ (by omega) (by omega), g _ _ (by omega) (by omega)]
      exact b5 s h0 h1
  · exact mMark_c (h 176 30 (by unfold mDep; omega) (by omega) (by omega) (by omega) (by omega) (by omega) (by omega) (by omega) (by omega)) (h 176 32 (by unfold mDep; omega) (by omega) (by omega) (by omega) (by omega) (by omega) (by omega) (by omega) (by omega)) (h 176 33 (by unfold mDep; omega) (by omega) (by omega) (by omega) (by omega) (by omega) (by omega) (by omega) (by omega)) (hr 193 (fun i => by unfold mDep; omega) (by omega) (by omega) (by omega) (by omega) (by omega) (by omega) (by omega) (by omega)) hn k7
  · exact mMendC_of (fun k hk _ _ _ => e k (by omega)) k3.2.2.2.2.1.1 (hr _ (fun i => by unfold mDep; omega) (by omega) (by omega) (by omega) (by omega) (by omega) (by omega) (by omega) (by omega)) (fun q a b => hr _ (fun i => by unfold mDep; omega) (by omega) (by omega) (by omega) (by omega) (by omega) (by omega) (by omega) (by omega)) k9
theorem mFst_congr {P P' : Int → Prop} {n r : Int} (hp : ∀ i, 0 ≤ i → i < n → (P i ↔ P' i)) (h : mFst P n r) : mFst P' n r := by
  rcases h with ⟨k1, k2⟩ | ⟨k1, k2, k3, k4⟩
  · exact Or.inl ⟨k1, fun i i0 i1 hh => k2 i i0 i1 ((hp i i0 i1).mpr hh)⟩
  · exact Or.inr ⟨k1, k2, (hp r k1 k2).mp k3, fun i i0 i1 hh => k4 i i0 i1 ((hp i i0 (by omega)).mpr hh)⟩
theorem soundOf_tape {A : Nat → Int} {y : Int} {m : aM} (ht : mTok A) (hA : ∀ i : Nat, i < 9 → m 177 i = A i) : mOk (R_soundOf 177 y m) (mSnd A y) := by
  have c0 := ht.1
  have e0 := hA 0 (by omega)
  refine mOk_mono (soundOf_ok (by decide) (by rw [e0]; omega) (by rw [e0]; omega)) (fun s ks => ?_)
  rw [e0] at ks
  exact mFst_congr (fun i i0 i1 => by rw [hA _ (by omega)]) ks
theorem R_line_ok {x : Int} {A T : Nat → Int} {m : aM} (ht : mTok A) (hA : ∀ i : Nat, i < 9 → m 177 i = A i) (hT : ∀ i, m 179 i = T i) (x0 : 0 ≤ x) (x1 : x ≤ 40) : mOk (R_line_32 x FU 0 m) (fun r => r.1 = x ∧ (∀ k : Int, 0 ≤ k → k < x → mSnd A (T k.toNat) (r.2 177 (156 + k).toNat)) ∧ ∀ q i, ¬(q = 177 ∧ 156 ≤ i ∧ i < 196) → r.2 q i = m q i) := by
  refine mL2 (R_line_32 x) (fun a mm => 0 ≤ a ∧ a ≤ x ∧ (∀ k : Int, 0 ≤ k → k < a → mSnd A (T k.toNat) (mm 177 (156 + k).toNat)) ∧ ∀ q i, ¬(q = 177 ∧ 156 ≤ i ∧ i < 196) → mm q i = m q i) (fun a _ => (41 - a).toNat) ?_ 0 m ⟨by omega, by omega, fun k a b => by omega, fun q i _ => rfl⟩ (by omega)
  rintro f a mm ⟨a0, a1, a2, a3⟩ ih
  rw [R_line_32]
  by_cases d : a < x
  · rw [if_pos d, if_pos (by omega)]
    refine mOk_bind (soundOf_tape (A := A) ht (fun i hi => by rw [a3 _ _ (by omega)]; exact hA i hi)) (fun s ks => ?_)
    rw [a3 179 _ (by omega), hT] at ks
    rw [w32e (x := 156 + a) (by omega) (by omega), if_pos (by omega), w32e (by omega) (by omega)]
    refine mOk_st1 (ih _ _ ⟨by omega, by omega, ?_, ?_⟩ (by omega))
    · intro k k0 k1
      by_cases e : k = a
      · rw [e, aup_self]; exact ks
      · rw [aup_of (by omega)]; exact a2 k k0 (by omega)
    · intro q i hq
      rw [aup_of (by omega)]; exact a3 q i hq
  · rw [if_neg d]
    exact mOk_some ⟨rfl, fun k k0 k1 => a2 k k0 (by omega), a3⟩
theorem st_line {n : Nat} {m : aM} (h : mInv n m) (x1 : Int) : ∃ r m1 m2, B_line x1 m = some (r, m1) ∧ R_line x1 m1 = some (r, m2) ∧ mInv (n + 1) m2 := by
  have hi := mInv_0 h
  obtain ⟨⟨t0, t1⟩, t2, t3⟩ := h.1
  by_cases c : 0 ≤ x1 ∧ x1 ≤ m 1 1 ∧ x1 ≤ 40
  · obtain ⟨⟨f, mA⟩, kA, hA, frA⟩ := spellInto_ok h.2.2.1 h.2.2.2.1 h.1 c.1 c.2.1
    dsimp only at hA frA
    have fr : ∀ q i, ¬(q = 49 ∧ i = 1) → q ≠ 50 → ¬(q = 1 ∧ i = 1) → aup mA 1 1 0 q i = m q i := fun q i a b d => by rw [aup_of (by omega), frA q i a b]
    rcases hA with ⟨f0, hno⟩ | ⟨f1, n40, l49, hs⟩
    · have e5 : aup (aup mA 1 1 0) 176 0 0 176 5 = m 1 1 := by rw [aup_of (by omega), fr _ _ (by omega) (by omega) (by omega)]; exact t2
      have f177 : aup (aup (aup mA 1 1 0) 176 0 0) 176 5 0 177 = m 177 := funext fun i => by rw [aup_of (by omega), aup_of (by omega)]; exact fr _ _ (by omega) (by omega) (by omega)
      have f179 : aup (aup (aup mA 1 1 0) 176 0 0) 176 5 0 179 = m 179 := funext fun i => by rw [aup_of (by omega), aup_of (by omega)]; exact fr _ _ (by omega) (by omega) (by omega)
      obtain ⟨r', kR, hR⟩ := areSounds_ok (n := x1) (m := aup (aup (aup mA 1 1 0) 176 0 0) 176 5 0) (by rw [f177]; exact h.2.2.1) (by omega)
      rw [f177, f179] at hR
      have hr0 : r' = 0 := by
        rcases hR with ⟨hh, -⟩ | ⟨-, hh⟩
        · exact hh
        · rcases hno with hno | ⟨k, k0, k1, k2⟩
          · omega
          · exact absurd k2 (hh k k0 k1)
      refine ⟨-9, aup mA 1 1 0, aup (aup (aup mA 1 1 0) 176 0 0) 176 5 0, ?_, ?_, ?_⟩
      · unfold B_line
        simp (disch := omega) only [holds_eq, Option.bind_some, reduceIte, if_pos, if_neg, kA, st1e]
      · unfold R_line
        rw [st1e, within_eq, e5]
        simp (disch := omega) only [Option.bind_some, reduceIte, if_pos, if_neg, st1e, kR]
      · refine mInv_tape (Nat.le_succ n) ?_ (mTape_0 ?_ (aup_self _ _ _ _)) h
        · intro q i hd g1 g2 g3 g4
          unfold mDep at hd
          rw [aup_of (by omega), aup_of (by omega)]
          exact fr _ _ (by omega) (by omega) (by omega)
        · rw [aup_of (by omega), aup_of (by omega), aup_self]
    · obtain ⟨mB, kB, b1, b2, b3⟩ := Sounds_become_ok (t := 47) (x := 49) (m := aup mA 1 1 0) (by omega)
      have kC : Cutter_forget 61 mB = some (aup mB 61 9 (-1)) := by unfold Cutter_forget; rw [st1e]
      have fB : ∀ q i, ¬(q = 49 ∧ i = 1) → q ≠ 50 → ¬(q = 1 ∧ i = 1) → ¬(q = 47 ∧ i = 1) → q ≠ 48 → ¬(q = 61 ∧ i = 9) → ¬(q = 176 ∧ i = 0) → aup (aup mB 61 9 (-1)) 176 0 0 q i = m q i := by
        intro q i a b d e f g hh
        rw [aup_of (by omega), aup_of (by omega), b3 _ _ (by omega) (by omega)]
        exact fr q i a b d
      have e5 : aup (aup mB 61 9 (-1)) 176 0 0 176 5 = m 1 1 := by rw [fB _ _ (by omega) (by omega) (by omega) (by omega) (by omega) (by omega) (by omega)]; exact t2
      have f177 : aup (aup (aup mB 61 9 (-1)) 176 0 0) 176 5 0 177 = m 177 := funext fun i => by rw [aup_of (by omega)]; exact fB _ _ (by omega) (by omega) (by omega) (by omega) (by omega) (by omega) (by omega)
      have f179 : aup (aup (aup mB 61 9 (-1)) 176 0 0) 176 5 0 179 = m 179 := funext fun i => by rw [aup_of (by omega)]; exact fB _ _ (by omega) (by omega) (by omega) (by omega) (by omega) (by omega) (by omega)
      obtain ⟨r', kR, hR⟩ := areSounds_ok (n := x1) (m := aup (aup (aup mB 61 9 (-1)) 176 0 0) 176 5 0) (by rw [f177]; exact h.2.2.1) (by omega)
      rw [f177, f179] at hR
      have hr1 : r' = 1 := by
        rcases hR with ⟨-, k, k0, k1, k2⟩ | ⟨hh, -⟩
        · have := mSnd_uni (hs k k0 k1).2 k2
          have := (hs k k0 k1).1
          omega
        · exact hh
      have g177 : ∀ i, i ≠ 155 → aup (aup (aup (aup mB 61 9 (-1)) 176 0 0) 176 5 0) 177 155 x1 177 i = m 177 i := fun i hi => by rw [aup_of (by omega), f177]
      obtain ⟨⟨r2, m2⟩, k2, q1, q2, q3⟩ := R_line_ok (A := m 177) (T := m 179) (m := aup (aup (aup (aup mB 61 9 (-1)) 176 0 0) 176 5 0) 177 155 x1) h.2.2.1 (fun i hi => g177 i (by omega)) (fun i => by rw [aup_of (by omega), f179]) c.1 c.2.2
      dsimp only at q1 q2 q3
      refine ⟨x1, aup mB 61 9 (-1), m2, ?_, ?_, ?_⟩
      · unfold B_line
        simp (disch := omega) only [holds_eq, Option.bind_some, reduceIte, if_pos, if_neg, kA, st1e, kB, kC]
      · unfold R_line
        rw [st1e, within_eq, e5]
        simp (disch := omega) only [Option.bind_some, reduceIte, if_pos, if_neg, st1e, kR]
        rw [k2, q1]
      · have e155 : m2 177 155 = x1 := by rw [q3 _ _ (by omega), aup_self]
        refine mInv_line (Nat.le_succ n) ?_ (mTape_0 ?_ ?_) ?_ ?_ (by omega) (by omega) ?_ h
        · intro q i hd g1 g2 g3 g4 g5 g6 g7 g8
          unfold mDep at hd
          rw [q3 _ _ (by omega), aup_of (by omega), aup_of (by omega)]
          exact fB _ _ (by omega) (by omega) (by omega) (by omega) (by omega) (by omega) (by omega)
        · rw [q3 _ _ (by omega), aup_of (by omega), aup_of (by omega), aup_of (by omega), aup_of (by omega), b3 _ _ (by omega) (by omega), aup_self]
        · rw [q3 _ _ (by omega), aup_of (by omega), aup_self]
        · rw [q3 _ _ (by omega), aup_of (by omega), aup_of (by omega), aup_of (by omega), aup_self]
        · rw [e155, q3 _ _ (by omega), aup_of (by omega), aup_of (by omega), aup_of (by omega), aup_of (by omega), b1, aup_of (by omega)]
          exact l49
        · intro k k0 k1
          rw [e155] at k1
          have s1 := hs k k0 k1
          have s2 := q2 k k0 k1
          have s3 := mSnd_uni s1.2 s2
          have s4 := mSnd_bd s2
          refine ⟨?_, by omega, by omega⟩
          rw [q3 48 _ (by omega), aup_of (by omega), aup_of (by omega), aup_of (by omega), aup_of (by omega)]
          have := b2 k.toNat (by omega)
          rw [show mB 48 k.toNat = _ from this, aup_of (by omega)]
          exact s3
  · refine ⟨-3, m, aup m 176 0 0, ?_, ?_, hi⟩
    · unfold B_line
      by_cases d : 40 < x1
      · rw [if_pos d]
      · rw [if_neg d]
        simp (disch := omega) only [holds_eq, Option.bind_some, reduceIte, if_pos, if_neg]
    · unfold R_line
      have e5 : aup m 176 0 0 176 5 = m 1 1 := by rw [aup_of (by omega)]; exact t2
      by_cases d : 0 ≤ x1 ∧ x1 ≤ m 1 1
      · simp (disch := omega) only [st1e, within_eq, e5, Option.bind_some, reduceIte, if_pos, if_neg]
      · simp (disch := omega) only [st1e, within_eq, e5, Option.bind_some, reduceIte, if_pos, if_neg]
