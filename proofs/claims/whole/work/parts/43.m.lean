/-! SMALL FACTS of bits -/
theorem bt_neg4 {a k : Int} (h0 : 0 ≤ a) (h1 : a ≤ 15) (k0 : 0 ≤ k) (k1 : k ≤ 3) : iand (ishr (15 - a) k) 1 = 1 - iand (ishr a k) 1 := by
  have aux : ∀ a : Fin 16, ∀ k : Fin 4, iand (ishr (15 - ((a.val : Nat) : Int)) ((k.val : Nat) : Int)) 1 = 1 - iand (ishr ((a.val : Nat) : Int) ((k.val : Nat) : Int)) 1 := by decide +kernel
  have := aux ⟨a.toNat, by omega⟩ ⟨k.toNat, by omega⟩
  simp only [Int.toNat_of_nonneg h0, Int.toNat_of_nonneg k0] at this
  exact this
theorem bv_and1 (b : BitVec 32) : b &&& 1#32 = 0#32 ∨ b &&& 1#32 = 1#32 := by
  have h2 : (b &&& 1#32) = if b.getLsbD 0 then 1#32 else 0#32 := by
    apply BitVec.eq_of_getLsbD_eq
    intro i hi
    by_cases h0 : i = 0
    · subst h0
      cases hb : b.getLsbD 0 <;> rw [BitVec.getLsbD_and, hb] <;> rfl
    · rw [BitVec.getLsbD_and]
      have : (1#32).getLsbD i = false := by
        rw [BitVec.getLsbD_one]
        simp [h0]
      rw [this, Bool.and_false]
      split
      · exact this.symm
      · simp
  rw [h2]
  split
  · exact Or.inr rfl
  · exact Or.inl rfl
theorem bt_01 {a k : Int} : iand (ishr a k) 1 = 0 ∨ iand (ishr a k) 1 = 1 := by
  unfold iand
  generalize Int32.ofInt (ishr a k) = x
  rcases bv_and1 x.toBitVec with h | h
  · left
    have : x &&& Int32.ofInt 1 = 0 := by
      apply Int32.toBitVec_inj.mp
      rw [Int32.toBitVec_and]
      exact h
    rw [this]; decide
  · right
    have : x &&& Int32.ofInt 1 = 1 := by
      apply Int32.toBitVec_inj.mp
      rw [Int32.toBitVec_and]
      exact h
    rw [this]; decide
theorem bt_not4 {a : Int} (h0 : 0 ≤ a) (h1 : a ≤ 15) : iand 15 (ixor a (-1)) = 15 - a := by
  have aux : ∀ a : Fin 16, iand 15 (ixor ((a.val : Nat) : Int) (-1)) = 15 - ((a.val : Nat) : Int) := by decide +kernel
  have := aux ⟨a.toNat, by omega⟩
  simp only [Int.toNat_of_nonneg h0] at this
  exact this
theorem within_eq (x a b : Int) (m : aM) : R_within x a b m = some (if a ≤ x ∧ x ≤ b then 1 else 0) := by
  unfold R_within
  by_cases h1 : x < a
  · rw [if_pos h1, if_neg (by omega)]
  · by_cases h2 : b < x
    · rw [if_neg h1, if_pos h2, if_neg (by omega)]
    · rw [if_neg h1, if_neg h2, if_pos (by omega)]
theorem mSame_0 (m : aM) : mSame m (aup m 176 0 0) := fun q i hd => aup_of (by unfold mDep at hd; omega)
theorem mInv_0 {n : Nat} {m : aM} (h : mInv n m) : mInv (n + 1) (aup m 176 0 0) := mInv_same (Nat.le_succ n) (mSame_0 m) h
/-! THE CALLS THAT READ ALONE -/
theorem st_fault {n : Nat} {m : aM} (h : mInv n m) (x1 : Int) : ∃ r m2, B_fault x1 m = some r ∧ R_fault x1 m = some (r, m2) ∧ mInv (n + 1) m2 := by
  have hi := mInv_0 h
  obtain ⟨h1, h2⟩ := h.2.1
  unfold B_fault R_fault
  by_cases a : x1 = 0
  · subst a
    exact ⟨_, _, rfl, by simp (disch := omega) only [st1e, aup_of, reduceIte, if_pos, if_neg, h1], hi⟩
  · by_cases b : x1 = 1
    · subst b
      exact ⟨_, _, rfl, by simp (disch := omega) only [st1e, aup_of, reduceIte, if_pos, if_neg, h2], hi⟩
    · exact ⟨_, _, by rw [if_neg a, if_neg b], by simp (disch := omega) only [st1e, aup_of, reduceIte, if_pos, if_neg], hi⟩
theorem st_sound {n : Nat} {m : aM} (h : mInv n m) (x1 x2 : Int) (i1 : in32 x1) (i2 : in32 x2) : ∃ r m2, B_sound x1 x2 m = some r ∧ R_sound x1 x2 m = some (r, m2) ∧ mInv (n + 1) m2 := by
  have hi := mInv_0 h
  obtain ⟨-, -, ht, ⟨⟨a0, a1, a2, a3, a4, a5⟩, b1, b2, b3, b4, b5, b6, b7⟩, -⟩ := h
  obtain ⟨c0, c1, -⟩ := ht
  obtain ⟨j1, j2⟩ := i1
  refine (fun k => ?_ : (∃ r, B_sound x1 x2 m = some r ∧ R_sound x1 x2 m = some (r, aup m 176 0 0)) → _) ?_
  · obtain ⟨r, k1, k2⟩ := k
    exact ⟨r, _, k1, k2, hi⟩
  unfold B_sound R_sound
  rw [a1, a4]
  simp (disch := omega) only [st1e, aup_of, within_eq, Option.bind_some, w32e]
  by_cases d1 : x1 < 0
  · simp (disch := omega) only [reduceIte, if_pos, if_neg]; exact ⟨_, rfl, rfl⟩
  by_cases d2 : x1 < m 177 0
  · have e1 := b1 x1 (by omega) d2
    have e2 := b2 x1 (by omega) (by omega)
    by_cases k0 : x2 = 0
    · simp (disch := omega) only [reduceIte, if_pos, if_neg, w32e]; exact ⟨_, rfl, by rw [← e1]⟩
    by_cases k1 : x2 = 1
    · simp (disch := omega) only [reduceIte, if_pos, if_neg, w32e]; exact ⟨_, rfl, rfl⟩
    by_cases k2 : x2 = 2
    · simp (disch := omega) only [reduceIte, if_pos, if_neg, w32e]; exact ⟨_, rfl, by rw [← e2]⟩
    · simp (disch := omega) only [reduceIte, if_pos, if_neg, w32e]; exact ⟨_, rfl, rfl⟩
  · simp (disch := omega) only [reduceIte, if_pos, if_neg]; exact ⟨_, rfl, rfl⟩
theorem st_word {n : Nat} {m : aM} (h : mInv n m) (x1 x2 : Int) (i1 : in32 x1) (i2 : in32 x2) : ∃ r m2, B_word x1 x2 m = some r ∧ R_word x1 x2 m = some (r, m2) ∧ mInv (n + 1) m2 := by
  have hi := mInv_0 h
  obtain ⟨-, -, ht, ⟨⟨a0, a1, a2, a3, a4, a5⟩, b1, b2, b3, b4, b5, b6, b7⟩, -⟩ := h
  obtain ⟨c0, c1, c2, c3, c4, c5, -⟩ := ht
  obtain ⟨j1, j2⟩ := i1
  obtain ⟨j3, j4⟩ := i2
  refine (fun k => ?_ : (∃ r, B_word x1 x2 m = some r ∧ R_word x1 x2 m = some (r, aup m 176 0 0)) → _) ?_
  · obtain ⟨r, k1, k2⟩ := k
    exact ⟨r, _, k1, k2, hi⟩
  unfold B_word R_word R_isWord Tongue_hasWord
  rw [a2]
  simp (disch := omega) only [st1e, aup_of, within_eq, Option.bind_some, w32e]
  by_cases d1 : x1 < 0
  · simp (disch := omega) only [reduceIte, if_pos, if_neg, Option.bind_some, true_or]; exact ⟨_, rfl, rfl⟩
  by_cases d2 : x1 < m 177 18
  · obtain ⟨e1, e2, e3, e4⟩ := b3 x1 (by omega) d2
    have f := c5 x1 (by omega) d2
    simp (disch := omega) only [reduceIte, if_pos, if_neg, Option.bind_some, or_true, w32e]
    by_cases k0 : x2 = 0
    · subst k0
      simp (disch := omega) only [reduceIte, if_pos, if_neg, w32e]; exact ⟨_, rfl, by rw [show m 41 x1.toNat = _ from e1, show (19 + 13 * 0 + x1) = 19 + x1 by omega]⟩
    by_cases k1 : x2 = 1
    · subst k1
      simp (disch := omega) only [reduceIte, if_pos, if_neg, w32e]; exact ⟨_, rfl, by rw [show m 42 x1.toNat = _ from e2, show (19 + 13 * 1 + x1) = 32 + x1 by omega]⟩
    by_cases k2 : x2 = 2
    · subst k2
      simp (disch := omega) only [reduceIte, if_pos, if_neg, w32e]; exact ⟨_, rfl, by rw [show m 43 x1.toNat = _ from e3, show (19 + 13 * 2 + x1) = 45 + x1 by omega]⟩
    by_cases k3 : x2 < 10
    · simp (disch := omega) only [reduceIte, if_pos, if_neg, w32e]; exact ⟨_, rfl, rfl⟩
    rw [show m 41 x1.toNat = _ from e1]
    by_cases k4 : x2 - 10 < m 177 (19 + x1).toNat
    · have e5 := e4 (x2 - 10) (by omega) k4
      simp (disch := omega) only [reduceIte, if_pos, if_neg, w32e]
      exact ⟨_, rfl, by rw [e5, show 58 + 6 * x1 + x2 - 10 = 58 + 6 * x1 + (x2 - 10) by omega]⟩
    · simp (disch := omega) only [reduceIte, if_pos, if_neg, w32e]
      exact ⟨_, rfl, rfl⟩
  · simp (disch := omega) only [reduceIte, if_pos, if_neg, Option.bind_some, true_or]; exact ⟨_, rfl, rfl⟩
theorem st_shape {n : Nat} {m : aM} (h : mInv n m) (x1 x2 : Int) (i1 : in32 x1) (i2 : in32 x2) : ∃ r m2, B_shape x1 x2 m = some r ∧ R_shape x1 x2 m = some (r, m2) ∧ mInv (n + 1) m2 := by
  have hi := mInv_0 h
  obtain ⟨-, -, ht, ⟨⟨a0, a1, a2, a3, a4, a5⟩, b1, b2, b3, b4, b5, b6, b7⟩, -⟩ := h
  obtain ⟨c0, c1, c2, c3, c4, c5, c6, c7, c8, c9, c10, -⟩ := ht
  obtain ⟨j1, j2⟩ := i1
  obtain ⟨j3, j4⟩ := i2
  refine (fun k => ?_ : (∃ r, B_shape x1 x2 m = some r ∧ R_shape x1 x2 m = some (r, aup m 176 0 0)) → _) ?_
  · obtain ⟨r, k1, k2⟩ := k
    exact ⟨r, _, k1, k2, hi⟩
  unfold B_shape R_shape
  rw [a3]
  simp (disch := omega) only [st1e, aup_of, within_eq, Option.bind_some, w32e]
  by_cases d1 : x1 < 0
  · simp (disch := omega) only [reduceIte, if_pos, if_neg]; exact ⟨_, rfl, rfl⟩
  by_cases d2 : x1 < m 177 141
  · obtain ⟨e1, e2⟩ := b5 x1 (by omega) d2
    have f := (c10 x1 (by omega) d2).1
    simp (disch := omega) only [reduceIte, if_pos, if_neg, w32e]
    rw [show m 45 x1.toNat = _ from e1, show m 46 x1.toNat = _ from e2]
    by_cases k0 : x2 = -1
    · simp (disch := omega) only [reduceIte, if_pos, if_neg, w32e]; exact ⟨_, rfl, rfl⟩
    by_cases k1 : x2 < 0
    · simp (disch := omega) only [reduceIte, if_pos, if_neg, w32e]; exact ⟨_, rfl, rfl⟩
    by_cases k2 : x2 < m 177 (142 + x1).toNat
    · simp (disch := omega) only [reduceIte, if_pos, if_neg, w32e]; exact ⟨_, rfl, rfl⟩
    · simp (disch := omega) only [reduceIte, if_pos, if_neg, w32e]; exact ⟨_, rfl, rfl⟩
  · simp (disch := omega) only [reduceIte, if_pos, if_neg]; exact ⟨_, rfl, rfl⟩
theorem st_behind {n : Nat} {m : aM} (h : mInv n m) (x1 : Int) (i1 : in32 x1) : ∃ r m2, B_behind x1 m = some r ∧ R_behind x1 m = some (r, m2) ∧ mInv (n + 1) m2 := by
  have hi := mInv_0 h
  obtain ⟨-, -, ht, ⟨⟨a0, a1, a2, a3, a4, a5⟩, b1, b2, b3, b4, b5, b6, b7⟩, -⟩ := h
  obtain ⟨c0, c1, c2, c3, c4, c5, c6, c7, -⟩ := ht
  obtain ⟨j1, j2⟩ := i1
  refine (fun k => ?_ : (∃ r, B_behind x1 m = some r ∧ R_behind x1 m = some (r, aup m 176 0 0)) → _) ?_
  · obtain ⟨r, k1, k2⟩ := k
    exact ⟨r, _, k1, k2, hi⟩
  unfold B_behind R_behind B_isKind
  simp (disch := omega) only [st1e, aup_of, within_eq, Option.bind_some, w32e]
  by_cases d : 0 ≤ x1 ∧ x1 < 4
  · have f := c7 x1 d.1 d.2
    simp (disch := omega) only [reduceIte, if_pos, if_neg, w32e, Option.bind_some]
    rw [bt_not4 f.1 f.2]
    exact ⟨_, rfl, by rw [show m 44 x1.toNat = _ from b4 x1 d.1 d.2]⟩
  · by_cases d1 : x1 < 0
    · simp (disch := omega) only [reduceIte, if_pos, if_neg, w32e, Option.bind_some]; exact ⟨_, rfl, rfl⟩
    · simp (disch := omega) only [reduceIte, if_pos, if_neg, w32e, Option.bind_some]; exact ⟨_, rfl, rfl⟩
theorem st_ends {n : Nat} {m : aM} (h : mInv n m) (x1 : Int) (i1 : in32 x1) : ∃ r m2, B_ends x1 m = some r ∧ R_ends x1 m = some (r, m2) ∧ mInv (n + 1) m2 := by
  have hi := mInv_0 h
  obtain ⟨-, -, ht, ⟨⟨a0, a1, a2, a3, a4, a5⟩, -⟩, -⟩ := h
  obtain ⟨c0, c1, c2, c3, c4, c5, c6, c7, c8, -⟩ := ht
  obtain ⟨j1, j2⟩ := i1
  refine (fun k => ?_ : (∃ r, B_ends x1 m = some r ∧ R_ends x1 m = some (r, aup m 176 0 0)) → _) ?_
  · obtain ⟨r, k1, k2⟩ := k
    exact ⟨r, _, k1, k2, hi⟩
  unfold B_ends R_ends B_isKind
  simp (disch := omega) only [st1e, aup_of, within_eq, Option.bind_some, a5]
  by_cases d : 0 ≤ x1 ∧ x1 < 4
  · have f := bt_neg4 (k := x1) c8.1 c8.2 d.1 (by omega)
    have g := bt_01 (a := m 177 140) (k := x1)
    rw [f]
    simp (disch := omega) only [reduceIte, if_pos, if_neg, w32e, Option.bind_some]
    exact ⟨_, rfl, rfl⟩
  · by_cases d1 : x1 < 0
    · simp (disch := omega) only [reduceIte, if_pos, if_neg, Option.bind_some]; exact ⟨_, rfl, rfl⟩
    · simp (disch := omega) only [reduceIte, if_pos, if_neg, Option.bind_some]; exact ⟨_, rfl, rfl⟩
theorem st_at {n : Nat} {m : aM} (h : mInv n m) (x1 : Int) (i1 : in32 x1) : ∃ r m2, B_at x1 m = some r ∧ R_at x1 m = some (r, m2) ∧ mInv (n + 1) m2 := by
  have hi := mInv_0 h
  obtain ⟨-, -, ht, ⟨⟨a0, a1, a2, a3, a4, a5⟩, b1, b2, b3, b4, b5, b6, b7⟩, -⟩ := h
  have c12 := ht.2.2.2.2.2.2.2.2.2.2.2.2.1
  obtain ⟨j1, j2⟩ := i1
  refine (fun k => ?_ : (∃ r, B_at x1 m = some r ∧ R_at x1 m = some (r, aup m 176 0 0)) → _) ?_
  · obtain ⟨r, k1, k2⟩ := k
    exact ⟨r, _, k1, k2, hi⟩
  unfold B_at R_at
  rw [b6]
  simp (disch := omega) only [st1e, aup_of, within_eq, Option.bind_some, w32e]
  by_cases d1 : x1 < 0
  · simp (disch := omega) only [reduceIte, if_pos, if_neg]; exact ⟨_, rfl, rfl⟩
  by_cases d2 : x1 < m 177 155
  · simp (disch := omega) only [reduceIte, if_pos, if_neg, w32e]
    exact ⟨_, rfl, by rw [show m 48 x1.toNat = _ from b7 x1 (by omega) d2]⟩
  · simp (disch := omega) only [reduceIte, if_pos, if_neg]; exact ⟨_, rfl, rfl⟩
theorem st_count {n : Nat} {m : aM} (h : mInv n m) (x1 : Int) : ∃ r m2, B_count x1 m = some r ∧ R_count x1 m = some (r, m2) ∧ mInv (n + 1) m2 := by
  have hi := mInv_0 h
  obtain ⟨⟨-, t, -⟩, -, ht, ⟨⟨a0, a1, a2, a3, a4, a5⟩, b1, b2, b3, b4, b5, b6, b7⟩, -⟩ := h
  refine (fun k => ?_ : (∃ r, B_count x1 m = some r ∧ R_count x1 m = some (r, aup m 176 0 0)) → _) ?_
  · obtain ⟨r, k1, k2⟩ := k
    exact ⟨r, _, k1, k2, hi⟩
  unfold B_count R_count
  simp (disch := omega) only [st1e, aup_of, a0, a1, a2, a3, b6, t]
  by_cases d0 : x1 = 0
  · simp (disch := omega) only [reduceIte, if_pos, if_neg]; exact ⟨_, rfl, rfl⟩
  by_cases d1 : x1 = 1
  · simp (disch := omega) only [reduceIte, if_pos, if_neg]; exact ⟨_, rfl, rfl⟩
  by_cases d2 : x1 = 2
  · simp (disch := omega) only [reduceIte, if_pos, if_neg]; exact ⟨_, rfl, rfl⟩
  by_cases d3 : x1 = 3
  · simp (disch := omega) only [reduceIte, if_pos, if_neg]; exact ⟨_, rfl, rfl⟩
  by_cases d4 : x1 = 4
  · simp (disch := omega) only [reduceIte, if_pos, if_neg]; exact ⟨_, rfl, rfl⟩
  by_cases d5 : x1 = 5
  · simp (disch := omega) only [reduceIte, if_pos, if_neg]; exact ⟨_, rfl, rfl⟩
  · simp (disch := omega) only [reduceIte, if_pos, if_neg]; exact ⟨_, rfl, rfl⟩
