/-! ROWS OF NUMBERS: numbers, write -/
theorem fillL_ok {x0 : Nat} {x1 : Int} {m : aM} (hl : aln x0 < 100000) : mOk (Jarr_fillL x0 x1 m) (fun m' => (∀ k : Nat, k < aln x0 → m' x0 k = x1) ∧ ∀ q i, ¬(q = x0 ∧ i < aln x0) → m' q i = m q i) := by
  unfold Jarr_fillL
  refine mL2 (Jarr_fillL_5 x0 x1 _) (fun x mm => 0 ≤ x ∧ x ≤ aln x0 ∧ (∀ k : Nat, k < x.toNat → mm x0 k = x1) ∧ ∀ q i, ¬(q = x0 ∧ i < aln x0) → mm q i = m q i) (fun x _ => ((aln x0 : Int) - x).toNat) ?_ 0 m ⟨by omega, by omega, fun k hk => by omega, fun _ _ _ => rfl⟩ (by omega)
  rintro n x mm ⟨h0, h1, h2, h3⟩ ih
  rw [Jarr_fillL_5]
  by_cases c : x < aln x0
  · simp (disch := omega) only [if_pos, w32e, st1e]
    refine ih _ _ ⟨by omega, by omega, ?_, ?_⟩ (by omega)
    · intro k hk
      by_cases e : k = x.toNat
      · rw [e, aup_self]
      · rw [aup_of (by omega)]; exact h2 k (by omega)
    · intro q i hq
      rw [aup_of (by omega)]; exact h3 q i hq
  · rw [if_neg c]
    exact mOk_some ⟨fun k hk => h2 k (by omega), h3⟩
theorem fillI_ok {x0 : Nat} {x1 : Int} {m : aM} (hl : aln x0 < 100000) : mOk (Jarr_fillI x0 x1 m) (fun m' => (∀ k : Nat, k < aln x0 → m' x0 k = x1) ∧ ∀ q i, ¬(q = x0 ∧ i < aln x0) → m' q i = m q i) := by
  unfold Jarr_fillI
  refine mL2 (Jarr_fillI_5 x0 x1 _) (fun x mm => 0 ≤ x ∧ x ≤ aln x0 ∧ (∀ k : Nat, k < x.toNat → mm x0 k = x1) ∧ ∀ q i, ¬(q = x0 ∧ i < aln x0) → mm q i = m q i) (fun x _ => ((aln x0 : Int) - x).toNat) ?_ 0 m ⟨by omega, by omega, fun k hk => by omega, fun _ _ _ => rfl⟩ (by omega)
  rintro n x mm ⟨h0, h1, h2, h3⟩ ih
  rw [Jarr_fillI_5]
  by_cases c : x < aln x0
  · simp (disch := omega) only [if_pos, w32e, st1e]
    refine ih _ _ ⟨by omega, by omega, ?_, ?_⟩ (by omega)
    · intro k hk
      by_cases e : k = x.toNat
      · rw [e, aup_self]
      · rw [aup_of (by omega)]; exact h2 k (by omega)
    · intro q i hq
      rw [aup_of (by omega)]; exact h3 q i hq
  · rw [if_neg c]
    exact mOk_some ⟨fun k hk => h2 k (by omega), h3⟩
theorem aln_rows {r : Int} (h0 : 0 ≤ r) (h1 : r < 4) : aln (53 + r.toNat) = 40 := by
  have aux : ∀ r : Fin 4, aln (53 + r.val) = 40 := by decide
  exact aux ⟨r.toNat, by omega⟩
theorem R_numbers_ok {m : aM} {x1 x3 : Int} (h0 : 0 ≤ x1) (h1 : x1 < 4) (h2 : 0 ≤ x3) (h3 : x3 ≤ 40) : mOk (R_numbers_37 x1 x3 FU 0 m) (fun r => r.1 = 0 ∧ (∀ i : Int, 0 ≤ i → i < x3 → r.2 207 (40 * x1 + i).toNat = 0) ∧ ∀ (q i : Nat), ¬(q = 207 ∧ 40 * x1 ≤ (i : Int) ∧ (i : Int) < 40 * x1 + 40) → r.2 q i = m q i) := by
  refine mL2 (R_numbers_37 x1 x3) (fun x mm => 0 ≤ x ∧ x ≤ x3 ∧ (∀ i : Int, 0 ≤ i → i < x → mm 207 (40 * x1 + i).toNat = 0) ∧ ∀ (q i : Nat), ¬(q = 207 ∧ 40 * x1 ≤ (i : Int) ∧ (i : Int) < 40 * x1 + 40) → mm q i = m q i) (fun x _ => (40 - x).toNat) ?_ 0 m ⟨by omega, by omega, fun i a b => by omega, fun _ _ _ => rfl⟩ (by omega)
  rintro n x mm ⟨e0, e1, e2, e3⟩ ih
  rw [R_numbers_37]
  by_cases c : x < x3
  · simp (disch := omega) only [if_pos, w32e, st1e]
    refine ih _ _ ⟨by omega, by omega, ?_, ?_⟩ (by omega)
    · intro i i0 i1
      by_cases e : i = x
      · rw [e, aup_self]
      · rw [aup_of (by omega)]; exact e2 i i0 (by omega)
    · intro q i hq
      rw [aup_of (by omega)]; exact e3 q i hq
  · rw [if_neg c]
    exact mOk_some ⟨rfl, fun i i0 i1 => e2 i i0 (by omega), e3⟩
/-- the rows alone have changed -/
theorem mInv_rows {n n' : Nat} {m m' : aM} (hn : n ≤ n') (h : ∀ q i, mDep q i → ¬(53 ≤ q ∧ q ≤ 58) → ¬(205 ≤ q ∧ q ≤ 207) → m' q i = m q i) (ht : mRows m') (k : mInv n m) : mInv n' m' := by
  obtain ⟨k1, k2, k3, k4, k5, k6, k7, k8, k9⟩ := k
  have hr : ∀ q, (∀ i, mDep q i) → ¬(53 ≤ q ∧ q ≤ 58) → ¬(205 ≤ q ∧ q ≤ 207) → m' q = m q := fun q hq a b => funext fun i => h q i (hq i) a b
  have e : m' 177 = m 177 := hr 177 (fun i => by unfold mDep; omega) (by omega) (by omega)
  refine ⟨mTape_c (h 1 1 (by unfold mDep; omega) (by omega) (by omega)) (hr 2 (fun i => by unfold mDep; omega) (by omega) (by omega)) (h 176 5 (by unfold mDep; omega) (by omega) (by omega)) (hr 179 (fun i => by unfold mDep; omega) (by omega) (by omega)) k1, ?_, ?_, ?_, ht, mImg_c (fun q hq => hr q (fun i => by unfold mDep; omega) (by omega) (by omega)) (fun i _ => by rw [e]) k6, ?_, ?_, ?_⟩
  · rw [h 176 13 (by unfold mDep; omega) (by omega) (by omega), h 176 14 (by unfold mDep; omega) (by omega) (by omega), h 1 7 (by unfold mDep; omega) (by omega) (by omega), h 1 8 (by unfold mDep; omega) (by omega) (by omega)]
    exact k2
  · rw [e]; exact k3
  · rw [e]; exact mTR_same (fun q j hq => h q j (by unfold mDep; omega) (by omega) (by omega)) k4 k3.2.2.2.2.1.2
  · exact mMark_c (h 176 30 (by unfold mDep; omega) (by omega) (by omega)) (h 176 32 (by unfold mDep; omega) (by omega) (by omega)) (h 176 33 (by unfold mDep; omega) (by omega) (by omega)) (hr 193 (fun i => by unfold mDep; omega) (by omega) (by omega)) hn k7
  · exact mCutC_of (by rw [e]; exact mAeq.refl _) k3.2.2.2.2.1.1 (h _ _ (by unfold mDep; omega) (by omega) (by omega)) (h _ _ (by unfold mDep; omega) (by omega) (by omega)) (hr _ (fun i => by unfold mDep; omega) (by omega) (by omega)) (hr _ (fun i => by unfold mDep; omega) (by omega) (by omega)) (hr _ (fun i => by unfold mDep; omega) (by omega) (by omega)) k8
  · exact mMendC_of (by rw [e]; exact mAeqT.refl _) k3.2.2.2.2.1.1 (hr _ (fun i => by unfold mDep; omega) (by omega) (by omega)) (fun q a b => hr _ (fun i => by unfold mDep; omega) (by omega) (by omega)) k9
theorem st_numbers {n : Nat} {m : aM} (h : mInv n m) (x1 x2 x3 : Int) : ∃ r m1 m2, B_numbers x1 x2 x3 m = some (r, m1) ∧ R_numbers x1 x2 x3 m1 = some (r, m2) ∧ mInv (n + 1) m2 := by
  have hi := mInv_0 h
  by_cases c1 : 0 ≤ x1 ∧ x1 < 4
  · by_cases c2 : 0 ≤ x2 ∧ x2 < 4
    · by_cases c3 : 0 ≤ x3 ∧ x3 ≤ 40
      · obtain ⟨r2, k2, p1, p2⟩ := fillL_ok (x0 := 53 + x1.toNat) (x1 := 0) (m := m) (by rw [aln_rows c1.1 c1.2]; omega)
        rw [aln_rows c1.1 c1.2] at p1 p2
        obtain ⟨⟨r3, m2⟩, k3, q1, q2, q3⟩ := R_numbers_ok (m := aup (aup (aup (aup (aup r2 57 x1.toNat x3) 58 x1.toNat x2) 176 0 0) 205 x1.toNat x2) 206 x1.toNat x3) c1.1 c1.2 c3.1 c3.2
        refine ⟨0, aup (aup r2 57 x1.toNat x3) 58 x1.toNat x2, m2, ?_, ?_, ?_⟩
        · unfold B_numbers Rows_isRow Rows_renew
          simp (disch := omega) only [reduceIte, if_pos, if_neg, Option.bind_some, k2, st1e]
        · unfold R_numbers
          simp (disch := omega) only [reduceIte, if_pos, if_neg, Option.bind_some, st1e, within_eq]
          rw [k3]
          have e : r3 = 0 := q1
          rw [e]
        · dsimp only at q2 q3
          refine mInv_rows (Nat.le_succ n) ?_ ?_ h
          · intro q i hd a1 a2
            have a3 : ¬(q = 176 ∧ i = 0) := by unfold mDep at hd; omega
            rw [q3 _ _ (by omega), aup_of (by omega), aup_of (by omega), aup_of (by omega), aup_of (by omega), aup_of (by omega), p2 _ _ (by omega)]
          · intro r r0 r1
            have hr := h.2.2.2.2.1 r r0 r1
            by_cases e : r = x1
            · subst e
              right
              have f57 : m2 57 r.toNat = x3 := by rw [q3 _ _ (by omega), aup_of (by omega), aup_of (by omega), aup_of (by omega), aup_of (by omega), aup_self]
              have f58 : m2 58 r.toNat = x2 := by rw [q3 _ _ (by omega), aup_of (by omega), aup_of (by omega), aup_of (by omega), aup_self]
              have f205 : m2 205 r.toNat = x2 := by rw [q3 _ _ (by omega), aup_of (by omega), aup_self]
              have f206 : m2 206 r.toNat = x3 := by rw [q3 _ _ (by omega), aup_self]
              rw [f57, f58, f205, f206]
              refine ⟨by omega, rfl, by omega, rfl, ?_⟩
              intro i i0 i1
              rw [q2 i i0 i1, q3 _ _ (by omega), aup_of (by omega), aup_of (by omega), aup_of (by omega), aup_of (by omega), aup_of (by omega)]
              exact p1 _ (by omega)
            · have g : ∀ q, q = 57 ∨ q = 58 ∨ q = 205 ∨ q = 206 → m2 q r.toNat = m q r.toNat := by
                intro q hq
                rw [q3 _ _ (by omega), aup_of (by omega), aup_of (by omega), aup_of (by omega), aup_of (by omega), aup_of (by omega), p2 _ _ (by omega)]
              rw [g 57 (by omega), g 58 (by omega), g 205 (by omega), g 206 (by omega)]
              rcases hr with hr | ⟨b1, b2, b3, b4, b5⟩
              · exact Or.inl hr
              · refine Or.inr ⟨b1, b2, b3, b4, ?_⟩
                intro i i0 i1
                rw [q3 (53 + r.toNat) _ (by omega), aup_of (by omega), aup_of (by omega), aup_of (by omega), aup_of (by omega), aup_of (by omega), p2 _ _ (by omega), q3 207 _ (by omega), aup_of (by omega), aup_of (by omega), aup_of (by omega), aup_of (by omega), aup_of (by omega), p2 _ _ (by omega)]
                exact b5 i i0 i1
      · refine ⟨-3, m, aup m 176 0 0, ?_, ?_, hi⟩
        · unfold B_numbers Rows_isRow
          by_cases d : x3 < 0
          · simp (disch := omega) only [reduceIte, if_pos, if_neg, Option.bind_some]
          · simp (disch := omega) only [reduceIte, if_pos, if_neg, Option.bind_some]
        · unfold R_numbers
          simp (disch := omega) only [reduceIte, if_pos, if_neg, Option.bind_some, st1e, within_eq]
    · refine ⟨-2, m, aup m 176 0 0, ?_, ?_, hi⟩
      · unfold B_numbers Rows_isRow
        by_cases d : x2 < 0
        · simp (disch := omega) only [reduceIte, if_pos, if_neg, Option.bind_some]
        · simp (disch := omega) only [reduceIte, if_pos, if_neg, Option.bind_some]
      · unfold R_numbers
        simp (disch := omega) only [reduceIte, if_pos, if_neg, Option.bind_some, st1e, within_eq]
  · refine ⟨-2, m, aup m 176 0 0, ?_, ?_, hi⟩
    · unfold B_numbers Rows_isRow
      by_cases d : x1 < 0
      · simp (disch := omega) only [reduceIte, if_pos, if_neg, Option.bind_some]
      · simp (disch := omega) only [reduceIte, if_pos, if_neg, Option.bind_some]
    · unfold R_numbers
      simp (disch := omega) only [reduceIte, if_pos, if_neg, Option.bind_some, st1e, within_eq]
theorem st_write {n : Nat} {m : aM} (h : mInv n m) (x1 x2 x3 : Int) : ∃ r m1 m2, B_write x1 x2 x3 m = some (r, m1) ∧ R_write x1 x2 x3 m1 = some (r, m2) ∧ mInv (n + 1) m2 := by
  have hi := mInv_0 h
  by_cases c1 : 0 ≤ x1 ∧ x1 < 4
  · have hr := h.2.2.2.2.1 x1 c1.1 c1.2
    rcases hr with ⟨b1, b2⟩ | ⟨b1, b2, b3, b4, b5⟩
    · refine ⟨-6, m, aup m 176 0 0, ?_, ?_, hi⟩
      · unfold B_write Rows_isRow Rows_isMissing
        simp (disch := omega) only [reduceIte, if_pos, if_neg, Option.bind_some, b2]
      · unfold R_write
        simp (disch := omega) only [reduceIte, if_pos, if_neg, Option.bind_some, st1e, within_eq, aup_of, b1]
    · by_cases c2 : 0 ≤ x2 ∧ x2 < m 57 x1.toNat
      · have key : ∃ v, Rows_cutTo (m 58 x1.toNat) x3 m = some v ∧ ∀ mm, R_cutTo x3 (m 58 x1.toNat) mm = some v := by
          unfold Rows_cutTo R_cutTo
          by_cases d0 : m 58 x1.toNat = 0
          · exact ⟨_, by rw [if_pos d0], fun _ => by rw [if_pos d0]⟩
          by_cases d1 : m 58 x1.toNat = 1
          · exact ⟨_, by rw [if_neg d0, if_pos d1], fun _ => by rw [if_neg d0, if_pos d1]⟩
          by_cases d2 : m 58 x1.toNat = 2
          · exact ⟨_, by rw [if_neg d0, if_neg d1, if_pos d2], fun _ => by rw [if_neg d0, if_neg d1, if_pos d2]⟩
          · exact ⟨_, by rw [if_neg d0, if_neg d1, if_neg d2], fun _ => by rw [if_neg d0, if_neg d1, if_neg d2]⟩
        obtain ⟨v, v1, v2⟩ := key
        refine ⟨v, aup m (53 + x1.toNat) x2.toNat v, aup (aup (aup m (53 + x1.toNat) x2.toNat v) 176 0 0) 207 (40 * x1 + x2).toNat v, ?_, ?_, ?_⟩
        · unfold B_write Rows_isRow Rows_isMissing Rows_put
          simp (disch := omega) only [reduceIte, if_pos, if_neg, Option.bind_some, v1, st1e, aup_self]
        · unfold R_write
          have e205 : aup (aup m (53 + x1.toNat) x2.toNat v) 176 0 0 205 x1.toNat = m 58 x1.toNat := by rw [aup_of (by omega), aup_of (by omega)]; exact b2.symm
          have e206 : aup (aup m (53 + x1.toNat) x2.toNat v) 176 0 0 206 x1.toNat = m 57 x1.toNat := by rw [aup_of (by omega), aup_of (by omega)]; exact b4
          simp (disch := omega) only [reduceIte, if_pos, if_neg, Option.bind_some, st1e, within_eq, e205, e206, w32e, v2, aup_self]
        · refine mInv_rows (Nat.le_succ n) ?_ ?_ h
          · intro q i hd a1 a2
            have a3 : ¬(q = 176 ∧ i = 0) := by unfold mDep at hd; omega
            rw [aup_of (by omega), aup_of (by omega), aup_of (by omega)]
          · intro r r0 r1
            have g : ∀ q, q = 57 ∨ q = 58 ∨ q = 205 ∨ q = 206 → aup (aup (aup m (53 + x1.toNat) x2.toNat v) 176 0 0) 207 (40 * x1 + x2).toNat v q r.toNat = m q r.toNat := by
              intro q hq
              rw [aup_of (by omega), aup_of (by omega), aup_of (by omega)]
            rw [g 57 (by omega), g 58 (by omega), g 205 (by omega), g 206 (by omega)]
            rcases h.2.2.2.2.1 r r0 r1 with hr | ⟨d1, d2, d3, d4, d5⟩
            · exact Or.inl hr
            · refine Or.inr ⟨d1, d2, d3, d4, ?_⟩
              intro i i0 i1
              by_cases e : r = x1 ∧ i = x2
              · obtain ⟨rfl, rfl⟩ := e
                rw [aup_of (by omega), aup_of (by omega), aup_self, aup_self]
              · rw [aup_of (by omega), aup_of (by omega), aup_of (by omega), aup_of (by omega), aup_of (by omega), aup_of (by omega)]
                exact d5 i i0 i1
      · refine ⟨-7, m, aup m 176 0 0, ?_, ?_, hi⟩
        · unfold B_write Rows_isRow Rows_isMissing
          by_cases d : x2 < 0
          · simp (disch := omega) only [reduceIte, if_pos, if_neg, Option.bind_some]
          · simp (disch := omega) only [reduceIte, if_pos, if_neg, Option.bind_some]
        · unfold R_write
          have e206 : aup m 176 0 0 206 x1.toNat = m 57 x1.toNat := by rw [aup_of (by omega)]; exact b4
          have e205 : aup m 176 0 0 205 x1.toNat = m 205 x1.toNat := aup_of (by omega)
          simp (disch := omega) only [reduceIte, if_pos, if_neg, Option.bind_some, st1e, within_eq, e205, e206, w32e]
  · refine ⟨-2, m, aup m 176 0 0, ?_, ?_, hi⟩
    · unfold B_write Rows_isRow
      by_cases d : x1 < 0
      · simp (disch := omega) only [reduceIte, if_pos, if_neg, Option.bind_some]
      · simp (disch := omega) only [reduceIte, if_pos, if_neg, Option.bind_some]
    · unfold R_write
      simp (disch := omega) only [reduceIte, if_pos, if_neg, Option.bind_some, st1e, within_eq]
