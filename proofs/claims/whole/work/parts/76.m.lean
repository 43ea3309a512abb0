/-! copy -/
theorem cutTo_small {k x : Int} (m : aM) (x0 : 0 ≤ x) (x1 : x < 12) : Rows_cutTo k x m = some x := by
  unfold Rows_cutTo
  have e : w32 x = x := w32e (by omega) (by omega)
  rw [e, w8e (by omega) (by omega), w16e (by omega) (by omega)]
  split
  · rfl
  · split
    · rfl
    · split <;> rfl
theorem copyB_ok {x2 : Int} {m : aM} (h0 : 0 ≤ x2) (h1 : x2 < 4) (c0 : 0 ≤ m 61 8) (c1 : m 61 8 ≤ 40) (hv : ∀ i : Int, 0 ≤ i → i < m 61 8 → 0 ≤ m 65 i.toNat ∧ m 65 i.toNat < 12) : mOk (B_copy_39 x2 FU 0 m) (fun r => r.1 = m 61 8 ∧ (∀ i : Int, 0 ≤ i → i < m 61 8 → r.2 (53 + x2.toNat) i.toNat = m 65 i.toNat) ∧ ∀ q i : Nat, ¬(q = 53 + x2.toNat ∧ (i : Int) < m 61 8) → r.2 q i = m q i) := by
  refine mL2 (B_copy_39 x2) (fun k mm => 0 ≤ k ∧ k ≤ m 61 8 ∧ (∀ i : Int, 0 ≤ i → i < k → mm (53 + x2.toNat) i.toNat = m 65 i.toNat) ∧ ∀ q i : Nat, ¬(q = 53 + x2.toNat ∧ (i : Int) < k) → mm q i = m q i) (fun k _ => (41 - k).toNat) ?_ 0 m ⟨by omega, by omega, fun i a b => by omega, fun _ _ _ => rfl⟩ (by omega)
  rintro fu k mm ⟨k0, k1, s1, fr⟩ ih
  rw [B_copy_39, fr 61 8 (by omega)]
  by_cases d : k < m 61 8
  · have v := hv k k0 d
    rw [if_pos d, if_pos (by omega), fr 65 _ (by omega)]
    unfold Rows_put
    rw [if_pos (by omega), cutTo_small mm v.1 v.2]
    simp only [Option.bind_some]
    rw [if_pos (by omega), st1e]
    simp only [Option.bind_some]
    rw [w32e (by omega) (by omega)]
    refine ih _ _ ⟨by omega, by omega, fun i a b => ?_, fun q i a => by rw [aup_of (by omega)]; exact fr q i (by omega)⟩ (by omega)
    by_cases e : i = k
    · rw [e, aup_self]
    · rw [aup_of (by omega)]; exact s1 i a (by omega)
  · rw [if_neg d]
    exact mOk_some ⟨rfl, fun i a b => s1 i a (by omega), fun q i a => fr q i (by omega)⟩
theorem copyR_ok {x2 : Int} {m : aM} (h0 : 0 ≤ x2) (h1 : x2 < 4) (c0 : 0 ≤ m 176 22) (c1 : m 176 22 ≤ 40) : mOk (R_copy_44 x2 FU 0 m) (fun r => r.1 = m 176 22 ∧ (∀ i : Int, 0 ≤ i → i < m 176 22 → r.2 207 (40 * x2 + i).toNat = m 186 i.toNat) ∧ ∀ (q i : Nat), ¬(q = 207 ∧ 40 * x2 ≤ (i : Int) ∧ (i : Int) < 40 * x2 + m 176 22) → r.2 q i = m q i) := by
  refine mL2 (R_copy_44 x2) (fun k mm => 0 ≤ k ∧ k ≤ m 176 22 ∧ (∀ i : Int, 0 ≤ i → i < k → mm 207 (40 * x2 + i).toNat = m 186 i.toNat) ∧ ∀ (q i : Nat), ¬(q = 207 ∧ 40 * x2 ≤ (i : Int) ∧ (i : Int) < 40 * x2 + k) → mm q i = m q i) (fun k _ => (41 - k).toNat) ?_ 0 m ⟨by omega, by omega, fun i a b => by omega, fun _ _ _ => rfl⟩ (by omega)
  rintro fu k mm ⟨k0, k1, s1, fr⟩ ih
  rw [R_copy_44, fr 176 22 (by omega)]
  by_cases d : k < m 176 22
  · rw [if_pos d, if_pos (by omega), fr 186 _ (by omega)]
    simp (disch := omega) only [w32e, if_pos, st1e]
    refine ih _ _ ⟨by omega, by omega, fun i a b => ?_, fun q i a => by rw [aup_of (by omega)]; exact fr q i (by omega)⟩ (by omega)
    by_cases e : i = k
    · rw [e, aup_self]
    · rw [aup_of (by omega)]; exact s1 i a (by omega)
  · rw [if_neg d]
    exact mOk_some ⟨rfl, fun i a b => s1 i a (by omega), fun q i a => fr q i (by omega)⟩
theorem st_copy {n : Nat} {m : aM} (h : mInv n m) (x1 x2 : Int) : ∃ r m1 m2, B_copy x1 x2 m = some (r, m1) ∧ R_copy x1 x2 m1 = some (r, m2) ∧ mInv (n + 1) m2 := by
  have hi := mInv_0 h
  by_cases c : 0 ≤ x1 ∧ x1 ≤ 3
  rotate_left
  · refine ⟨-2, m, aup m 176 0 0, ?_, ?_, hi⟩
    · unfold B_copy B_isCut
      by_cases d : x1 < 0
      · simp only [if_pos d, Option.bind_some, reduceIte]
      · simp only [if_neg d, if_pos (show 3 < x1 by omega), Option.bind_some, reduceIte]
    · unfold R_copy
      simp (disch := omega) only [st1e, within_eq, Option.bind_some, reduceIte, if_pos, if_neg]
  have eB : B_isCut x1 m = some 1 := by
    unfold B_isCut; rw [if_neg (by omega), if_neg (by omega)]
  by_cases d : 0 ≤ x2 ∧ x2 < 4
  rotate_left
  · refine ⟨-2, m, aup m 176 0 0, ?_, ?_, hi⟩
    · unfold B_copy Rows_isRow
      by_cases g : x2 < 0
      · simp (disch := omega) only [eB, Option.bind_some, reduceIte, if_pos, if_neg]
      · simp (disch := omega) only [eB, Option.bind_some, reduceIte, if_pos, if_neg]
    · unfold R_copy
      simp (disch := omega) only [st1e, within_eq, Option.bind_some, reduceIte, if_pos, if_neg]
  have eRow : Rows_isRow x2 m = some 1 := by
    unfold Rows_isRow; rw [if_neg (by omega), if_pos (by omega)]
  obtain ⟨m1, e1, hi1, k9, fr1⟩ := cutBreath_ok h c.1 c.2
  have htk := hi1.2.2.1
  have c12 := htk.2.2.2.2.2.2.2.2.2.2.2.2.1
  have cc := hi1.2.2.2.2.2.2.2.1
  unfold mCutC at cc
  rw [k9] at cc
  have ccr := (cc.resolve_left (by omega)).2
  -- the reference over any memory that keeps the tongue
  have ref : ∀ mb : aM, (∀ i, mb 177 i = m1 177 i) → ∃ r : Int × aM, (R_copy x1 x2 mb = (if r.1 = 0 then (some ((-5), r.2)) else (if 0 ≤ x2 ∧ x2 < 4 then (if (r.2 205 x2.toNat) = (-1) then (some ((-6), r.2)) else (if (r.2 206 x2.toNat) < (r.2 176 22) then (some ((-7), r.2)) else (R_copy_44 x2 FU 0 r.2))) else none))) ∧ (∀ q i, mDep q i → r.2 q i = mb q i) ∧ ((r.1 = 0 ∧ m1 61 8 = 0) ∨ (r.1 = 1 ∧ (1 ≤ m1 61 8 ∧ m1 61 8 ≤ 40) ∧ r.2 176 22 = m1 61 8 ∧ (∀ i : Int, 0 ≤ i → i < m1 61 8 → r.2 186 i.toNat = m1 65 i.toNat ∧ 0 ≤ m1 65 i.toNat ∧ m1 65 i.toNat < 12))) := by
    intro mb hb
    have e177 : aup mb 176 0 0 177 = m1 177 := funext fun i => by rw [aup_of (by omega)]; exact hb i
    obtain ⟨m2, e2, hk2, fr2⟩ := looks_mRk (m := aup mb 176 0 0) (A := m1 177) e177 htk
    obtain ⟨r, e3, _, f4, f5⟩ := finds_ok (pi := x1) htk (mLn_ok htk) hk2 (by omega) (by omega) c.1 c.2
    refine ⟨r, ?_, fun q i hd => ?_, ?_⟩
    · unfold R_copy
      rw [st1e, within_eq, if_pos (by omega)]
      simp (disch := omega) only [Option.bind_some, if_neg, within_eq, if_pos, e2, e3, reduceIte]
    · unfold mDep at hd
      rw [f5 _ _ (by omega) (by omega) (by omega) (by omega) (by omega), fr2 _ _ (by omega) (by omega), aup_of (by omega)]
    · rcases ccr (aup mb 176 0 0) m2 r (by rw [e177]; exact mAeq.refl _) e2 e3 with a | ⟨a, b, c, d, _⟩
      · exact Or.inl a
      · exact Or.inr ⟨a, b, c, d⟩
  have eBB : B_copy x1 x2 m = (if (m1 61 8) = 0 then (some ((-5), m1)) else ((Rows_isMissing x2 m1).bind fun r7 => (if r7 = 0 then (if 0 ≤ x2 ∧ x2 < 4 then (if (m1 57 x2.toNat) < (m1 61 8) then (some ((-7), m1)) else (B_copy_39 x2 FU 0 m1)) else none) else (some ((-6), m1))))) := by
    unfold B_copy
    simp (disch := omega) only [eB, eRow, Option.bind_some, if_neg, e1]
  obtain ⟨r, eR, fr, key⟩ := ref m1 (fun _ => rfl)
  have hfin : mInv (n + 1) r.2 := mInv_same (Nat.le_succ n) (fun q i hd => fr q i hd) hi1
  rcases key with ⟨g1, g2⟩ | ⟨g1, g2, g3, g4⟩
  · exact ⟨-5, m1, r.2, by rw [eBB, if_pos g2], by rw [eR, if_pos g1], hfin⟩
  have hrow := hi1.2.2.2.2.1 x2 d.1 d.2
  rw [if_neg (by omega)] at eBB
  rw [if_neg (by omega), if_pos d, fr 205 _ (by unfold mDep; omega), fr 206 _ (by unfold mDep; omega), g3] at eR
  unfold Rows_isMissing at eBB
  rw [if_pos d] at eBB
  rcases hrow with ⟨b1, b2⟩ | ⟨b1, b2, b3, b4, b5⟩
  · refine ⟨-6, m1, r.2, ?_, ?_, hfin⟩
    · rw [eBB, if_pos b2]; rfl
    · rw [eR, if_pos b1]
  rw [if_neg (by omega)] at eBB
  simp only [Option.bind_some, reduceIte] at eBB
  rw [if_pos d] at eBB
  by_cases w : m1 57 x2.toNat < m1 61 8
  · refine ⟨-7, m1, r.2, ?_, ?_, hfin⟩
    · rw [eBB, if_pos w]
    · rw [eR, if_neg (by omega), b4, if_pos w]
  rw [if_neg w] at eBB
  obtain ⟨⟨rb, mb⟩, o1, o2, o3, o4⟩ := copyB_ok (m := m1) d.1 d.2 (by omega) g2.2 (fun i a b => (g4 i a b).2)
  dsimp only at o2 o3 o4
  obtain ⟨r2, eR2, fr2, key2⟩ := ref mb (fun i => o4 _ _ (by omega))
  rcases key2 with ⟨y1, y2⟩ | ⟨y1, y2, y3, y4⟩
  · omega
  rw [if_neg (by omega), if_pos d, fr2 205 _ (by unfold mDep; omega), fr2 206 _ (by unfold mDep; omega), o4 205 _ (by omega), o4 206 _ (by omega), if_neg (by omega), y3, b4, if_neg w] at eR2
  obtain ⟨⟨rr, mr⟩, p1, p2, p3, p4⟩ := copyR_ok (m := r2.2) (x2 := x2) d.1 d.2 (by omega) (by omega)
  dsimp only at p2 p3 p4
  rw [y3] at p2 p3 p4
  refine ⟨m1 61 8, mb, mr, by rw [eBB, o1, o2], by rw [eR2, p1, p2], ?_⟩
  refine mInv_rows (Nat.le_succ n) ?_ ?_ hi1
  · intro q i hd a1 a2
    rw [p4 q i (by omega), fr2 q i hd, o4 q i (by omega)]
  · intro r' r0 r1
    have g : ∀ q, q = 57 ∨ q = 58 ∨ q = 205 ∨ q = 206 → mr q r'.toNat = m1 q r'.toNat := by
      intro q hq
      rw [p4 _ _ (by omega), fr2 _ _ (by unfold mDep; omega), o4 _ _ (by omega)]
    rw [g 57 (by omega), g 58 (by omega), g 205 (by omega), g 206 (by omega)]
    rcases hi1.2.2.2.2.1 r' r0 r1 with hr | ⟨d1, d2, d3, d4, d5⟩
    · exact Or.inl hr
    · refine Or.inr ⟨d1, d2, d3, d4, ?_⟩
      intro i i0 i1
      rw [p4 (53 + r'.toNat) _ (by omega), fr2 _ _ (by unfold mDep; omega)]
      by_cases e : r' = x2 ∧ i < m1 61 8
      · rw [e.1, o3 i i0 e.2, p3 i i0 e.2, (y4 i i0 e.2).1]
      · rw [o4 _ _ (by omega), p4 207 _ (by omega), fr2 _ _ (by unfold mDep; omega), o4 _ _ (by omega)]
        exact d5 i i0 i1
