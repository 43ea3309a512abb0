/-! IMAGES -/
theorem aCpy_lt {f g : Nat → Int} {n k : Nat} (h : k < n) : aCpy f g 0 0 n k = f k := by
  unfold aCpy
  rw [if_pos ⟨Nat.zero_le _, by omega⟩]
  congr 1
  omega
theorem Tongue_become_ok {t x : Nat} {m : aM} (hx : t + 21 < x ∨ x + 21 < t) : mOk (Tongue_become t x m) (fun m' =>
    (∀ i : Nat, i ≤ 5 → m' t i = m x i) ∧ (∀ k : Nat, k < 8 → m' (t + 1) k = m (x + 1) k) ∧ (∀ k : Nat, k < 8 → m' (t + 2) k = m (x + 2) k) ∧
    (∀ w k : Nat, w < 12 → k < 6 → m' (t + 4 + w) k = m (x + 4 + w) k) ∧
    (∀ k : Nat, k < 12 → m' (t + 16) k = m (x + 16) k ∧ m' (t + 17) k = m (x + 17) k ∧ m' (t + 18) k = m (x + 18) k) ∧
    (∀ k : Nat, k < 4 → m' (t + 19) k = m (x + 19) k) ∧ (∀ k : Nat, k < 6 → m' (t + 20) k = m (x + 20) k ∧ m' (t + 21) k = m (x + 21) k) ∧
    (∀ q i, ¬(t ≤ q ∧ q ≤ t + 21) → m' q i = m q i)) := by
  unfold Tongue_become
  simp only [st1e]
  generalize hm8 : aupr _ (t + 2) _ = m8
  have f0 : ∀ i : Nat, i ≤ 5 → m8 t i = m x i := by
    intro i hi
    subst hm8
    rw [aupr_of (by omega), aupr_of (by omega)]
    by_cases i5 : i = 5
    · subst i5; rw [aup_self, aup_of (by omega), aup_of (by omega), aup_of (by omega), aup_of (by omega), aup_of (by omega)]
    rw [aup_of (by omega)]
    by_cases i4 : i = 4
    · subst i4; rw [aup_self, aup_of (by omega), aup_of (by omega), aup_of (by omega), aup_of (by omega)]
    rw [aup_of (by omega)]
    by_cases i3 : i = 3
    · subst i3; rw [aup_self, aup_of (by omega), aup_of (by omega), aup_of (by omega)]
    rw [aup_of (by omega)]
    by_cases i2 : i = 2
    · subst i2; rw [aup_self, aup_of (by omega), aup_of (by omega)]
    rw [aup_of (by omega)]
    by_cases i1 : i = 1
    · subst i1; rw [aup_self, aup_of (by omega)]
    rw [aup_of (by omega), show i = 0 by omega, aup_self]
  have f1 : ∀ k : Nat, k < 8 → m8 (t + 1) k = m (x + 1) k := by
    intro k hk
    subst hm8
    rw [aupr_of (by omega), aupr_self, aCpy_lt hk, aup_of (by omega), aup_of (by omega), aup_of (by omega), aup_of (by omega), aup_of (by omega), aup_of (by omega)]
  have f2 : ∀ k : Nat, k < 8 → m8 (t + 2) k = m (x + 2) k := by
    intro k hk
    subst hm8
    rw [aupr_self, aCpy_lt hk, aupr_of (by omega), aup_of (by omega), aup_of (by omega), aup_of (by omega), aup_of (by omega), aup_of (by omega), aup_of (by omega)]
  have f3 : ∀ q i, q ≠ t → q ≠ t + 1 → q ≠ t + 2 → m8 q i = m q i := by
    intro q i h0 h1 h2
    subst hm8
    rw [aupr_of h2, aupr_of h1, aup_of (by omega), aup_of (by omega), aup_of (by omega), aup_of (by omega), aup_of (by omega), aup_of (by omega)]
  clear hm8
  refine mL2 (Tongue_become_42 t x) (fun a mm => 0 ≤ a ∧ a ≤ 12 ∧ (∀ w k : Nat, (w : Int) < a → k < 6 → mm (t + 4 + w) k = m (x + 4 + w) k) ∧ (∀ q i, ¬(t + 4 ≤ q ∧ q ≤ t + 15) → mm q i = m8 q i)) (fun a _ => (12 - a).toNat) ?_ 0 m8 ⟨by omega, by omega, fun w k h => by omega, fun _ _ _ => rfl⟩ (by omega)
  rintro n a mm ⟨a0, a1, g1, g2⟩ ih
  rw [Tongue_become_42]
  by_cases c : a < 12
  · simp (disch := omega) only [if_pos, w32e, st1e]
    refine ih _ _ ⟨by omega, by omega, ?_, ?_⟩ (by omega)
    · intro w k hw hk
      by_cases e : w = a.toNat
      · subst e
        rw [aupr_self, aCpy_lt hk, g2 _ _ (by omega), f3 _ _ (by omega) (by omega) (by omega)]
      · rw [aupr_of (by omega)]
        exact g1 w k (by omega) hk
    · intro q i hq
      rw [aupr_of (by omega)]
      exact g2 q i hq
  · rw [if_neg c]
    simp only [st1e]
    refine mOk_some ⟨?_, ?_, ?_, ?_, ?_, ?_, ?_, ?_⟩
    · intro i hi
      rw [aupr_of (by omega), aupr_of (by omega), aupr_of (by omega), aupr_of (by omega), aupr_of (by omega), aupr_of (by omega), g2 _ _ (by omega)]
      exact f0 i hi
    · intro i hi
      rw [aupr_of (by omega), aupr_of (by omega), aupr_of (by omega), aupr_of (by omega), aupr_of (by omega), aupr_of (by omega), g2 _ _ (by omega)]
      exact f1 i hi
    · intro i hi
      rw [aupr_of (by omega), aupr_of (by omega), aupr_of (by omega), aupr_of (by omega), aupr_of (by omega), aupr_of (by omega), g2 _ _ (by omega)]
      exact f2 i hi
    · intro w k hw hk
      rw [aupr_of (by omega), aupr_of (by omega), aupr_of (by omega), aupr_of (by omega), aupr_of (by omega), aupr_of (by omega)]
      exact g1 w k (by omega) hk
    · intro k hk
      refine ⟨?_, ?_, ?_⟩
      · rw [aupr_of (by omega), aupr_of (by omega), aupr_of (by omega), aupr_of (by omega), aupr_of (by omega), aupr_self, aCpy_lt hk, g2 _ _ (by omega), f3 _ _ (by omega) (by omega) (by omega)]
      · rw [aupr_of (by omega), aupr_of (by omega), aupr_of (by omega), aupr_of (by omega), aupr_self, aCpy_lt hk, aupr_of (by omega), g2 _ _ (by omega), f3 _ _ (by omega) (by omega) (by omega)]
      · rw [aupr_of (by omega), aupr_of (by omega), aupr_of (by omega), aupr_self, aCpy_lt hk, aupr_of (by omega), aupr_of (by omega), g2 _ _ (by omega), f3 _ _ (by omega) (by omega) (by omega)]
    · intro k hk
      rw [aupr_of (by omega), aupr_of (by omega), aupr_self, aCpy_lt hk, aupr_of (by omega), aupr_of (by omega), aupr_of (by omega), g2 _ _ (by omega), f3 _ _ (by omega) (by omega) (by omega)]
    · intro k hk
      refine ⟨?_, ?_⟩
      · rw [aupr_of (by omega), aupr_self, aCpy_lt hk, aupr_of (by omega), aupr_of (by omega), aupr_of (by omega), aupr_of (by omega), g2 _ _ (by omega), f3 _ _ (by omega) (by omega) (by omega)]
      · rw [aupr_self, aCpy_lt hk, aupr_of (by omega), aupr_of (by omega), aupr_of (by omega), aupr_of (by omega), aupr_of (by omega), g2 _ _ (by omega), f3 _ _ (by omega) (by omega) (by omega)]
    · intro q i hq
      rw [aupr_of (by omega), aupr_of (by omega), aupr_of (by omega), aupr_of (by omega), aupr_of (by omega), aupr_of (by omega), g2 _ _ (by omega), f3 _ _ (by omega) (by omega) (by omega)]
theorem Sounds_become_ok {t x : Nat} {m : aM} (hx : t + 1 < x ∨ x + 1 < t) : mOk (Sounds_become t x m) (fun m' => m' t 1 = m x 1 ∧ (∀ k : Nat, k < 40 → m' (t + 1) k = m (x + 1) k) ∧ ∀ q i, ¬(q = t ∧ i = 1) → q ≠ t + 1 → m' q i = m q i) := by
  unfold Sounds_become
  simp only [st1e]
  refine mOk_some ⟨?_, ?_, ?_⟩
  · rw [aup_self, aupr_of (by omega)]
  · intro k hk
    rw [aup_of (by omega), aupr_self, aCpy_lt hk]
  · intro q i h1 h2
    rw [aup_of (by omega), aupr_of h2]
/-- a tongue that was copied with its row of sounds -/
theorem mTR_copy {t b t' b' : Nat} {A : Nat → Int} {m m' : aM} (ht : mTok A)
    (g0 : ∀ i : Nat, i ≤ 5 → m' t' i = m t i) (g1 : ∀ k : Nat, k < 8 → m' (t' + 1) k = m (t + 1) k) (g2 : ∀ k : Nat, k < 8 → m' (t' + 2) k = m (t + 2) k)
    (g3 : ∀ w k : Nat, w < 12 → k < 6 → m' (t' + 4 + w) k = m (t + 4 + w) k)
    (g4 : ∀ k : Nat, k < 12 → m' (t' + 16) k = m (t + 16) k ∧ m' (t' + 17) k = m (t + 17) k ∧ m' (t' + 18) k = m (t + 18) k)
    (g5 : ∀ k : Nat, k < 4 → m' (t' + 19) k = m (t + 19) k) (g6 : ∀ k : Nat, k < 6 → m' (t' + 20) k = m (t + 20) k ∧ m' (t' + 21) k = m (t + 21) k)
    (g7 : m' b' 1 = m b 1) (g8 : ∀ k : Nat, k < 40 → m' (b' + 1) k = m (b + 1) k) (k : mTR t b A m) : mTR t' b' A m' := by
  obtain ⟨⟨a0, a1, a2, a3, a4, a5⟩, b1, b2, b3, b4, b5, b6, b7⟩ := k
  obtain ⟨c0, c1, c2, c3, c4, c5, c6, c7, c8, c9, c10, c11, c12, c13⟩ := ht
  refine ⟨⟨?_, ?_, ?_, ?_, ?_, ?_⟩, ?_, ?_, ?_, ?_, ?_, ?_, ?_⟩
  · rw [g0 _ (by omega)]; exact a0
  · rw [g0 _ (by omega)]; exact a1
  · rw [g0 _ (by omega)]; exact a2
  · rw [g0 _ (by omega)]; exact a3
  · rw [g0 _ (by omega)]; exact a4
  · rw [g0 _ (by omega)]; exact a5
  · intro s h0 h1; rw [g1 _ (by omega)]; exact b1 s h0 h1
  · intro s h0 h1; rw [g2 _ (by omega)]; exact b2 s h0 h1
  · intro w h0 h1
    obtain ⟨d1, d2, d3, d4⟩ := b3 w h0 h1
    have e := (c5 w h0 h1).1
    rw [(g4 w.toNat (by omega)).1, (g4 w.toNat (by omega)).2.1, (g4 w.toNat (by omega)).2.2]
    refine ⟨d1, d2, d3, ?_⟩
    intro k k0 k1
    rw [g3 _ _ (by omega) (by omega)]
    exact d4 k k0 k1
  · intro s h0 h1; rw [g5 _ (by omega)]; exact b4 s h0 h1
  · intro s h0 h1; rw [(g6 _ (by omega)).1, (g6 _ (by omega)).2]; exact b5 s h0 h1
  · rw [g7]; exact b6
  · intro s h0 h1; rw [g8 _ (by omega)]; exact b7 s h0 h1
theorem R_image_ok {m : aM} {x : Int} (h0 : 0 ≤ x) (h1 : x < 2) : mOk (R_image_13 x FU 0 m) (fun r => r.1 = 0 ∧ (∀ k : Nat, k < 196 → r.2 177 (196 * (x.toNat + 1) + k) = m 177 k) ∧ r.2 178 x.toNat = 1 ∧ ∀ q i, ¬(q = 177 ∧ 196 * (x.toNat + 1) ≤ i ∧ i < 196 * (x.toNat + 1) + 196) → ¬(q = 178 ∧ i = x.toNat) → r.2 q i = m q i) := by
  refine mL2 (R_image_13 x) (fun a mm => 0 ≤ a ∧ a ≤ 196 ∧ (∀ k : Nat, (k : Int) < a → mm 177 (196 * (x.toNat + 1) + k) = m 177 k) ∧ ∀ q i, ¬(q = 177 ∧ 196 * (x.toNat + 1) ≤ i ∧ i < 196 * (x.toNat + 1) + 196) → mm q i = m q i) (fun a _ => (196 - a).toNat) ?_ 0 m ⟨by omega, by omega, fun k h => by omega, fun _ _ _ => rfl⟩ (by omega)
  rintro n a mm ⟨a0, a1, g1, g2⟩ ih
  rw [R_image_13]
  by_cases c : a < 196
  · simp (disch := omega) only [if_pos, w32e, st1e]
    refine ih _ _ ⟨by omega, by omega, ?_, ?_⟩ (by omega)
    · intro k hk
      by_cases e : (k : Int) = a
      · rw [aup_at rfl (by omega), g2 _ _ (by omega)]
        congr 1; omega
      · rw [aup_of (by omega)]; exact g1 k (by omega)
    · intro q i hq
      rw [aup_of (by omega)]; exact g2 q i hq
  · rw [if_neg c, if_pos ⟨h0, h1⟩]
    simp only [st1e]
    refine mOk_some ⟨rfl, ?_, aup_self mm 178 x.toNat 1, ?_⟩
    · intro k hk
      dsimp only
      rw [aup_of (by omega)]; exact g1 k (by omega)
    · intro q i h1 h2
      dsimp only
      rw [aup_of (by omega)]; exact g2 q i h1
theorem R_restore_ok {m : aM} {x : Int} (h0 : 0 ≤ x) (h1 : x < 2) : mOk (R_restore_20 x FU 0 m) (fun r => r.1 = 0 ∧ (∀ k : Nat, k < 196 → r.2 177 k = m 177 (196 * (x.toNat + 1) + k)) ∧ ∀ q i, ¬(q = 177 ∧ i < 196) → r.2 q i = m q i) := by
  refine mL2 (R_restore_20 x) (fun a mm => 0 ≤ a ∧ a ≤ 196 ∧ (∀ k : Nat, (k : Int) < a → mm 177 k = m 177 (196 * (x.toNat + 1) + k)) ∧ ∀ q i, ¬(q = 177 ∧ i < 196) → mm q i = m q i) (fun a _ => (196 - a).toNat) ?_ 0 m ⟨by omega, by omega, fun k h => by omega, fun _ _ _ => rfl⟩ (by omega)
  rintro n a mm ⟨a0, a1, g1, g2⟩ ih
  rw [R_restore_20]
  by_cases c : a < 196
  · simp (disch := omega) only [if_pos, w32e, st1e]
    refine ih _ _ ⟨by omega, by omega, ?_, ?_⟩ (by omega)
    · intro k hk
      by_cases e : (k : Int) = a
      · rw [aup_at rfl (by omega), g2 _ _ (by omega)]
        congr 1; omega
      · rw [aup_of (by omega)]; exact g1 k (by omega)
    · intro q i hq
      rw [aup_of (by omega)]; exact g2 q i hq
  · rw [if_neg c]
    exact mOk_some ⟨rfl, fun k hk => g1 k (by omega), g2⟩
theorem aeq_of {A A' : Nat → Int} (h : ∀ k : Nat, k < 196 → A' k = A k) : mAeq A A' := fun k hk _ _ _ => h k hk
theorem Mender_forget_ok {m : aM} : mOk (Mender_forget m) (fun m' => (∀ j : Nat, j < 3 → m' 107 j = -2) ∧ m' 79 6 = 0 ∧ (∀ j : Nat, j < 4 → m' 109 j = 0) ∧ m' 79 10 = -2 ∧ m' 79 11 = 0 ∧ m' 79 15 = -2 ∧ ∀ q i, q ≠ 107 → q ≠ 79 → q ≠ 109 → m' q i = m q i) := by
  unfold Mender_forget
  refine mOk_bind (fillI_ok (by decide)) (fun m1 k1 => ?_)
  obtain ⟨p1, p2⟩ := k1
  rw [show aln 107 = 3 by decide] at p1 p2
  simp only [st1e]
  refine mL2 Mender_forget_9 (fun a mm => 0 ≤ a ∧ a ≤ 4 ∧ mm 79 6 = 0 ∧ (∀ j : Nat, (j : Int) < a → mm 109 j = 0) ∧ (∀ i, mm 107 i = m1 107 i) ∧ ∀ q i, q ≠ 107 → q ≠ 79 → q ≠ 109 → mm q i = m q i) (fun a _ => (4 - a).toNat) ?_ 0 _ ⟨by omega, by omega, aup_self _ _ _ _, fun j h => by omega, fun i => aup_of (by omega), fun q i h1 h2 h3 => by rw [aup_of (by omega), p2 _ _ (by omega)]⟩ (by omega)
  rintro n a mm ⟨a0, a1, g1, g2, g3, g4⟩ ih
  rw [Mender_forget_9]
  by_cases c : a < 4
  · simp (disch := omega) only [if_pos, w32e, st1e]
    refine ih _ _ ⟨by omega, by omega, ?_, ?_, ?_, ?_⟩ (by omega)
    · rw [aup_of (by omega)]; exact g1
    · intro j hj
      by_cases e : (j : Int) = a
      · rw [aup_at rfl (by omega)]
      · rw [aup_of (by omega)]; exact g2 j (by omega)
    · intro i; rw [aup_of (by omega)]; exact g3 i
    · intro q i h1 h2 h3
      rw [aup_of (by omega)]; exact g4 q i h1 h2 h3
  · rw [if_neg c]
    simp only [st1e]
    refine mOk_some ⟨?_, ?_, ?_, ?_, ?_, ?_, ?_⟩
    · intro j hj
      rw [aup_of (by omega), aup_of (by omega), aup_of (by omega), g3]
      exact p1 j hj
    · rw [aup_of (by omega), aup_of (by omega), aup_of (by omega)]; exact g1
    · intro j hj
      rw [aup_of (by omega), aup_of (by omega), aup_of (by omega)]
      exact g2 j (by omega)
    · rw [aup_of (by omega), aup_of (by omega), aup_self]
    · rw [aup_of (by omega), aup_self]
    · rw [aup_self]
    · intro q i h1 h2 h3
      rw [aup_of (by omega), aup_of (by omega), aup_of (by omega)]
      exact g4 q i h1 h2 h3
def mForg (m : aM) : Prop := (∀ j : Nat, j < 3 → m 107 j = -2) ∧ m 79 6 = 0 ∧ (∀ j : Nat, j < 4 → m 109 j = 0) ∧ m 79 10 = -2 ∧ m 79 11 = 0 ∧ m 79 15 = -2
theorem mMendC_forg {m m' : aM} (h : mForg m) (h1 : m' 107 = m 107) (h2 : m' 79 = m 79) (h3 : m' 109 = m 109) : mMendC m' := by
  obtain ⟨k1, k2, k3, k4, k5, k6⟩ := h
  exact mMendC_forget (by rw [h1]; exact k1) (by rw [h2]; exact k2) (by rw [h3]; exact k3) (by rw [h2]; exact k4) (by rw [h2]; exact k5) (by rw [h2]; exact k6)
theorem forgetTongue_ok {m : aM} : mOk (B_forgetTongue m) (fun m' => m' 61 9 = -1 ∧ mForg m' ∧ ∀ q i, ¬(q = 61 ∧ i = 9) → q ≠ 107 → q ≠ 79 → q ≠ 109 → m' q i = m q i) := by
  unfold B_forgetTongue Cutter_forget
  simp only [st1e, Option.bind_some]
  refine mOk_bind Mender_forget_ok (fun m1 k => ?_)
  obtain ⟨k1, k2, k3, k4, k5, k6, k7⟩ := k
  refine mOk_some ⟨?_, ⟨k1, k2, k3, k4, k5, k6⟩, ?_⟩
  · rw [k7 _ _ (by omega) (by omega) (by omega), aup_self]
  · intro q i h1 h2 h3 h4
    rw [k7 _ _ h2 h3 h4, aup_of (by omega)]
theorem st_image {n : Nat} {m : aM} (h : mInv n m) (x : Int) : ∃ r m1 m2, B_image x m = some (r, m1) ∧ R_image x m1 = some (r, m2) ∧ mInv (n + 1) m2 := by
  by_cases c : 0 ≤ x ∧ x < 2
  · obtain ⟨mA, kA, a1, a2, a3, a4, a5, a6, a7, a8⟩ := Tongue_become_ok (t := 128 + 24 * x.toNat) (x := 25) (m := m) (by omega)
    obtain ⟨mB, kB, b1, b2, b3⟩ := Sounds_become_ok (t := 150 + 24 * x.toNat) (x := 47) (m := mA) (by omega)
    obtain ⟨⟨r, m2⟩, k2, q1, q2, q3, q4⟩ := R_image_ok (m := aup (aup mB 127 x.toNat 1) 176 0 0) c.1 c.2
    dsimp only at q1 q2 q3 q4
    refine ⟨0, aup mB 127 x.toNat 1, m2, ?_, ?_, ?_⟩
    · unfold B_image
      simp (disch := omega) only [reduceIte, if_pos, if_neg, Option.bind_some, st1e, kA, kB]
    · unfold R_image
      simp (disch := omega) only [reduceIte, if_pos, if_neg, Option.bind_some, st1e, within_eq]
      rw [k2, q1]
    · obtain ⟨k1, k2, k3, k4, k5, k6, k7, k8, k9⟩ := h
      have fr : ∀ q i, ¬(128 + 24 * x.toNat ≤ q ∧ q ≤ 151 + 24 * x.toNat) → ¬(q = 127 ∧ i = x.toNat) → ¬(q = 176 ∧ i = 0) → ¬(q = 177 ∧ 196 * (x.toNat + 1) ≤ i ∧ i < 196 * (x.toNat + 1) + 196) → ¬(q = 178 ∧ i = x.toNat) → m2 q i = m q i := by
        intro q i h1 h2 h3 h4 h5
        rw [q4 _ _ h4 h5, aup_of (by omega), aup_of (by omega), b3 _ _ (by omega) (by omega), a8 _ _ (by omega)]
      have e177 : ∀ k : Nat, k < 196 → m2 177 k = m 177 k := fun k hk => fr _ _ (by omega) (by omega) (by omega) (by omega) (by omega)
      have hA := aeq_of e177
      refine ⟨mTape_c (fr _ _ (by omega) (by omega) (by omega) (by omega) (by omega)) (rowEq fun i => fr _ _ (by omega) (by omega) (by omega) (by omega) (by omega)) (fr _ _ (by omega) (by omega) (by omega) (by omega) (by omega)) (rowEq fun i => fr _ _ (by omega) (by omega) (by omega) (by omega) (by omega)) k1, ?_, mTok_aeq hA k3, ?_, mRows_c (fun q hq => rowEq fun i => fr _ _ (by omega) (by omega) (by omega) (by omega) (by omega)) k5, ?_, mMark_c (fr _ _ (by omega) (by omega) (by omega) (by omega) (by omega)) (fr _ _ (by omega) (by omega) (by omega) (by omega) (by omega)) (fr _ _ (by omega) (by omega) (by omega) (by omega) (by omega)) (rowEq fun i => fr _ _ (by omega) (by omega) (by omega) (by omega) (by omega)) (Nat.le_succ n) k7, ?_, ?_⟩
      · rw [fr 176 13 (by omega) (by omega) (by omega) (by omega) (by omega), fr 176 14 (by omega) (by omega) (by omega) (by omega) (by omega), fr 1 7 (by omega) (by omega) (by omega) (by omega) (by omega), fr 1 8 (by omega) (by omega) (by omega) (by omega) (by omega)]
        exact k2
      · exact mTR_aeq hA k3 (mTR_same (fun q j hq => fr _ _ (by omega) (by omega) (by omega) (by omega) (by omega)) k4 k3.2.2.2.2.1.2)
      · intro i i0 i1
        by_cases e : i = x
        · subst e
          have e127 : m2 127 i.toNat = 1 := by rw [q4 _ _ (by omega) (by omega), aup_of (by omega), aup_self]
          have eA : ∀ k : Nat, k < 196 → mImA i.toNat m2 k = m 177 k := by
            intro k hk
            unfold mImA
            rw [q2 k hk, aup_of (by omega), aup_of (by omega), b3 _ _ (by omega) (by omega), a8 _ _ (by omega)]
          refine ⟨by rw [q3, e127], Or.inr ⟨e127, mTok_aeq (aeq_of eA) k3, mTR_aeq (aeq_of eA) k3 ?_⟩⟩
          have g : ∀ q j, 128 + 24 * i.toNat ≤ q ∧ q ≤ 151 + 24 * i.toNat → m2 q j = mB q j := by
            intro q j hq
            rw [q4 _ _ (by omega) (by omega), aup_of (by omega), aup_of (by omega)]
          refine mTR_copy (t := 25) (b := 47) (m := m) k3 ?_ ?_ ?_ ?_ ?_ ?_ ?_ ?_ ?_ k4
          · intro j hj; rw [g _ _ (by omega), b3 _ _ (by omega) (by omega)]; exact a1 j hj
          · intro j hj; rw [g _ _ (by omega), b3 _ _ (by omega) (by omega)]; exact a2 j hj
          · intro j hj; rw [g _ _ (by omega), b3 _ _ (by omega) (by omega)]; exact a3 j hj
          · intro w j hw hj; rw [g _ _ (by omega), b3 _ _ (by omega) (by omega)]; exact a4 w j hw hj
          · intro j hj; rw [g _ _ (by omega), b3 _ _ (by omega) (by omega), g _ _ (by omega), b3 _ _ (by omega) (by omega), g _ _ (by omega), b3 _ _ (by omega) (by omega)]; exact a5 j hj
          · intro j hj; rw [g _ _ (by omega), b3 _ _ (by omega) (by omega)]; exact a6 j hj
          · intro j hj; rw [g _ _ (by omega), b3 _ _ (by omega) (by omega), g _ _ (by omega), b3 _ _ (by omega) (by omega)]; exact a7 j hj
          · rw [g _ _ (by omega), b1]; exact a8 _ _ (by omega)
          · intro j hj; rw [g _ _ (by omega), b2 j hj]; exact a8 _ _ (by omega)
        · have eA : ∀ k : Nat, k < 196 → mImA i.toNat m2 k = mImA i.toNat m k := by
            intro k hk
            unfold mImA
            exact fr _ _ (by omega) (by omega) (by omega) (by omega) (by omega)
          have hi := k6 i i0 i1
          rw [fr 178 _ (by omega) (by omega) (by omega) (by omega) (by omega), fr 127 _ (by omega) (by omega) (by omega) (by omega) (by omega)]
          refine ⟨hi.1, ?_⟩
          rcases hi.2 with h3 | ⟨h3, h4, h5⟩
          · exact Or.inl h3
          · exact Or.inr ⟨h3, mTok_aeq (aeq_of eA) h4, mTR_aeq (aeq_of eA) h4 (mTR_same (fun q j hq => fr _ _ (by omega) (by omega) (by omega) (by omega) (by omega)) h5 h4.2.2.2.2.1.2)⟩
      · exact mCutC_of hA k3.2.2.2.2.1.1 (fr _ _ (by omega) (by omega) (by omega) (by omega) (by omega)) (fr _ _ (by omega) (by omega) (by omega) (by omega) (by omega)) (rowEq fun i => fr _ _ (by omega) (by omega) (by omega) (by omega) (by omega)) (rowEq fun i => fr _ _ (by omega) (by omega) (by omega) (by omega) (by omega)) (rowEq fun i => fr _ _ (by omega) (by omega) (by omega) (by omega) (by omega)) k8
      · exact mMendC_of hA.T k3.2.2.2.2.1.1 (rowEq fun i => fr _ _ (by omega) (by omega) (by omega) (by omega) (by omega)) (fun q a b => rowEq fun i => fr _ _ (by omega) (by omega) (by omega) (by omega) (by omega)) k9
  · refine ⟨-2, m, aup m 176 0 0, ?_, ?_, mInv_0 h⟩
    · unfold B_image
      by_cases d : x < 0
      · simp (disch := omega) only [reduceIte, if_pos, if_neg, Option.bind_some]
      · simp (disch := omega) only [reduceIte, if_pos, if_neg, Option.bind_some]
    · unfold R_image
      simp (disch := omega) only [reduceIte, if_pos, if_neg, Option.bind_some, st1e, within_eq]
theorem st_restore {n : Nat} {m : aM} (h : mInv n m) (x : Int) : ∃ r m1 m2, B_restore x m = some (r, m1) ∧ R_restore x m1 = some (r, m2) ∧ mInv (n + 1) m2 := by
  by_cases c : 0 ≤ x ∧ x < 2
  · have hI := h.2.2.2.2.2.1 x c.1 c.2
    rcases hI.2 with h0 | ⟨h1, hT, hR⟩
    · refine ⟨-5, m, aup m 176 0 0, ?_, ?_, mInv_0 h⟩
      · unfold B_restore
        simp (disch := omega) only [reduceIte, if_pos, if_neg, Option.bind_some]
      · unfold R_restore
        have e : aup m 176 0 0 178 x.toNat = 0 := by rw [aup_of (by omega), hI.1, h0]
        simp (disch := omega) only [reduceIte, if_pos, if_neg, Option.bind_some, st1e, within_eq, e]
    · obtain ⟨mA, kA, a1, a2, a3, a4, a5, a6, a7, a8⟩ := Tongue_become_ok (t := 25) (x := 128 + 24 * x.toNat) (m := m) (by omega)
      obtain ⟨mB, kB, b1, b2, b3⟩ := Sounds_become_ok (t := 47) (x := 150 + 24 * x.toNat) (m := mA) (by omega)
      obtain ⟨mC, kC, c1, c2, c3⟩ := forgetTongue_ok (m := mB)
      obtain ⟨⟨r, m2⟩, k2, q1, q2, q3⟩ := R_restore_ok (m := aup mC 176 0 0) c.1 c.2
      dsimp only at q1 q2 q3
      refine ⟨0, mC, m2, ?_, ?_, ?_⟩
      · unfold B_restore
        simp (disch := omega) only [reduceIte, if_pos, if_neg, Option.bind_some, st1e, kA, kB, kC]
      · unfold R_restore
        have e : aup mC 176 0 0 178 x.toNat = 1 := by rw [aup_of (by omega), c3 _ _ (by omega) (by omega) (by omega) (by omega), b3 _ _ (by omega) (by omega), a8 _ _ (by omega), hI.1, h1]
        simp (disch := omega) only [reduceIte, if_pos, if_neg, Option.bind_some, st1e, within_eq, e]
        rw [k2, q1]
      · obtain ⟨k1, k2, k3, k4, k5, k6, k7, k8, k9⟩ := h
        have fr : ∀ q i, ¬(25 ≤ q ∧ q ≤ 48) → ¬(q = 61 ∧ i = 9) → q ≠ 107 → q ≠ 79 → q ≠ 109 → ¬(q = 176 ∧ i = 0) → ¬(q = 177 ∧ i < 196) → m2 q i = m q i := by
          intro q i h1 h2 h3 h4 h5 h6 h7
          rw [q3 _ _ h7, aup_of (by omega), c3 _ _ h2 h3 h4 h5, b3 _ _ (by omega) (by omega), a8 _ _ (by omega)]
        have fr2 : ∀ q i, q ≠ 177 → ¬(q = 176 ∧ i = 0) → m2 q i = mC q i := by
          intro q i h1 h2
          rw [q3 _ _ (by omega), aup_of (by omega)]
        have eA : ∀ k : Nat, k < 196 → m2 177 k = mImA x.toNat m k := by
          intro k hk
          unfold mImA
          rw [q2 k hk, aup_of (by omega), c3 _ _ (by omega) (by omega) (by omega) (by omega), b3 _ _ (by omega) (by omega), a8 _ _ (by omega)]
        have hA := aeq_of eA
        have tok := mTok_aeq hA hT
        refine ⟨mTape_c (fr _ _ (by omega) (by omega) (by omega) (by omega) (by omega) (by omega) (by omega)) (rowEq fun i => fr _ _ (by omega) (by omega) (by omega) (by omega) (by omega) (by omega) (by omega)) (fr _ _ (by omega) (by omega) (by omega) (by omega) (by omega) (by omega) (by omega)) (rowEq fun i => fr _ _ (by omega) (by omega) (by omega) (by omega) (by omega) (by omega) (by omega)) k1, ?_, tok, ?_, mRows_c (fun q hq => rowEq fun i => fr _ _ (by omega) (by omega) (by omega) (by omega) (by omega) (by omega) (by omega)) k5, mImg_c (fun q hq => rowEq fun i => fr _ _ (by omega) (by omega) (by omega) (by omega) (by omega) (by omega) (by omega)) (fun i hi => fr _ _ (by omega) (by omega) (by omega) (by omega) (by omega) (by omega) (by omega)) k6, mMark_c (fr _ _ (by omega) (by omega) (by omega) (by omega) (by omega) (by omega) (by omega)) (fr _ _ (by omega) (by omega) (by omega) (by omega) (by omega) (by omega) (by omega)) (fr _ _ (by omega) (by omega) (by omega) (by omega) (by omega) (by omega) (by omega)) (rowEq fun i => fr _ _ (by omega) (by omega) (by omega) (by omega) (by omega) (by omega) (by omega)) (Nat.le_succ n) k7, Or.inl ?_, ?_⟩
        · rw [fr 176 13 (by omega) (by omega) (by omega) (by omega) (by omega) (by omega) (by omega), fr 176 14 (by omega) (by omega) (by omega) (by omega) (by omega) (by omega) (by omega), fr 1 7 (by omega) (by omega) (by omega) (by omega) (by omega) (by omega) (by omega), fr 1 8 (by omega) (by omega) (by omega) (by omega) (by omega) (by omega) (by omega)]
          exact k2
        · have g : ∀ q j, 25 ≤ q ∧ q ≤ 48 → m2 q j = mB q j := by
            intro q j hq
            rw [fr2 _ _ (by omega) (by omega), c3 _ _ (by omega) (by omega) (by omega) (by omega)]
          refine mTR_aeq hA hT (mTR_copy (t := 128 + 24 * x.toNat) (b := 150 + 24 * x.toNat) (m := m) hT ?_ ?_ ?_ ?_ ?_ ?_ ?_ ?_ ?_ hR)
          · intro j hj; rw [g _ _ (by omega), b3 _ _ (by omega) (by omega)]; exact a1 j hj
          · intro j hj; rw [g _ _ (by omega), b3 _ _ (by omega) (by omega)]; exact a2 j hj
          · intro j hj; rw [g _ _ (by omega), b3 _ _ (by omega) (by omega)]; exact a3 j hj
          · intro w j hw hj; rw [g _ _ (by omega), b3 _ _ (by omega) (by omega)]; exact a4 w j hw hj
          · intro j hj; rw [g _ _ (by omega), b3 _ _ (by omega) (by omega), g _ _ (by omega), b3 _ _ (by omega) (by omega), g _ _ (by omega), b3 _ _ (by omega) (by omega)]; exact a5 j hj
          · intro j hj; rw [g _ _ (by omega), b3 _ _ (by omega) (by omega)]; exact a6 j hj
          · intro j hj; rw [g _ _ (by omega), b3 _ _ (by omega) (by omega), g _ _ (by omega), b3 _ _ (by omega) (by omega)]; exact a7 j hj
          · rw [g _ _ (by omega), b1]; exact a8 _ _ (by omega)
          · intro j hj; rw [g _ _ (by omega), b2 j hj]; exact a8 _ _ (by omega)
        · rw [fr2 _ _ (by omega) (by omega)]; exact c1
        · exact mMendC_forg c2 (rowEq fun i => fr2 _ _ (by omega) (by omega)) (rowEq fun i => fr2 _ _ (by omega) (by omega)) (rowEq fun i => fr2 _ _ (by omega) (by omega))
  · refine ⟨-2, m, aup m 176 0 0, ?_, ?_, mInv_0 h⟩
    · unfold B_restore
      by_cases d : x < 0
      · simp (disch := omega) only [reduceIte, if_pos, if_neg, Option.bind_some]
      · simp (disch := omega) only [reduceIte, if_pos, if_neg, Option.bind_some]
    · unfold R_restore
      simp (disch := omega) only [reduceIte, if_pos, if_neg, Option.bind_some, st1e, within_eq]
