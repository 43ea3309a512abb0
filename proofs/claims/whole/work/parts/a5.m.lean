/-! the step added -/
def yAn (S : Int) (s : Int × Int × Int) (a : Int) : Int := if s.1 = 0 then -1 else if a = 0 then s.1 else if a = 1 then s.2.1 else if a - 10 < s.1 then yD S s.2.2 s.1 (a - 10).toNat else -1
def yAk (a : Int) : Prop := a = 0 ∨ a = 1 ∨ (10 ≤ a ∧ a ≤ 12)
theorem R_added_ok {A : Nat → Int} {kd a : Int} {m : aM} (ht : mTok A) (ha : mAeqT A (m 177)) (k0 : 0 ≤ kd ∧ kd ≤ 3) (hk : yAk a) (rd : mRdy m) : mOk (R_added kd a m) (fun r => ∃ s, yRn A kd 3 s ∧ r.1 = yAn (A 0) s a ∧ yJ A kd m s r.2 ∧ (m 176 30 ≤ r.2 176 30 ∧ r.2 176 30 ≤ m 176 30 + 1536)) := by
  have f0 : ∀ q i, ¬(q = 176 ∧ i = 0) → aup m 176 0 0 q i = m q i := fun q i a => aup_of (by omega)
  have key : mOk (R_added_23 kd a (aup m 176 0 0)) (fun r => ∃ s, yRn A kd 3 s ∧ r.1 = yAn (A 0) s a ∧ yJ A kd m s r.2 ∧ (m 176 30 ≤ r.2 176 30 ∧ r.2 176 30 ≤ m 176 30 + 1536)) := by
    generalize aup m 176 0 0 = m1 at f0 ⊢
    have e177 : m1 177 = m 177 := funext fun i => f0 _ _ (by omega)
    unfold R_added_23
    refine mOk_bind (findsAdded_ok (kd := kd) (m := m1) ht (by rw [e177]; exact ha) k0 (by
      unfold mRdy at *
      rw [f0 176 30 (by omega), f0 176 32 (by omega), f0 176 33 (by omega), show m1 193 = m 193 from funext fun i => f0 _ _ (by omega)]
      exact rd)) (fun r6 k6 => ?_)
    obtain ⟨s, hs, ⟨j1, j2, j3, j4, j5⟩, mk⟩ := k6
    rw [f0 176 30 (by omega)] at mk
    have J : yJ A kd m s r6 := ⟨j1, j2, j3, j4, fun q i a b c d e => by rw [j5 q i a b c d e]; exact f0 q i (by omega)⟩
    have fin : ∀ v : Int, v = yAn (A 0) s a → mOk (some (v, r6)) (fun r => ∃ s, yRn A kd 3 s ∧ r.1 = yAn (A 0) s a ∧ yJ A kd m s r.2 ∧ (m 176 30 ≤ r.2 176 30 ∧ r.2 176 30 ≤ m 176 30 + 1536)) := fun v ev => mOk_some ⟨s, hs, ev, J, mk⟩
    rcases j2 with ⟨z1, z2⟩ | ⟨z1, z2, z3, z4⟩
    · rw [if_pos z2]; exact fin _ (by unfold yAn; rw [if_pos z1])
    rw [if_neg (by omega), z2]
    have n0 : ¬ s.1 = 0 := by omega
    unfold yAk at hk
    by_cases a0 : a = 0
    · rw [if_pos a0]; exact fin _ (by unfold yAn; rw [if_neg n0, if_pos a0])
    rw [if_neg a0]
    by_cases a1 : a = 1
    · rw [if_pos a1, z3]; exact fin _ (by unfold yAn; rw [if_neg n0, if_neg a0, if_pos a1])
    rw [if_neg a1, w32e (by omega) (by omega)]
    by_cases a2 : a - 10 < s.1
    · rw [if_pos a2, if_pos (by omega), z4 _ (by omega) a2]; exact fin _ (by unfold yAn; rw [if_neg n0, if_neg a0, if_neg a1, if_pos a2])
    · rw [if_neg a2]; exact fin _ (by unfold yAn; rw [if_neg n0, if_neg a0, if_neg a1, if_neg a2])
  unfold R_added
  rw [st1e, within_eq, if_pos (by omega), Option.bind_some, if_neg (by decide), within_eq, Option.bind_some]
  unfold yAk at hk
  by_cases c : 0 ≤ a ∧ a ≤ 1
  · rw [if_pos c, if_neg (by decide)]; exact key
  · rw [if_neg c, if_pos rfl, within_eq, if_pos (by omega), Option.bind_some, if_neg (by decide)]; exact key
theorem findAdded_all {kd : Int} {m : aM} (ht : mTok (m 177)) (hr : mTR 25 47 (m 177) m) (hm : mMendC m) (k0 : 0 ≤ kd ∧ kd < 4) : mOk (Mender_findAdded kd m) (fun mm => (0 ≤ mm (112 + 2 * kd.toNat) 1 ∧ mm (112 + 2 * kd.toNat) 1 ≤ 3) ∧ (∀ (m' : aM) (r : Int × aM), mAeqT (m 177) (m' 177) → mRdy m' → ∀ a : Int, (a = 0 ∨ a = 1 ∨ (10 ≤ a ∧ a ≤ 12)) → R_added kd a m' = some r → r.1 = if mm (112 + 2 * kd.toNat) 1 = 0 then -1 else if a = 0 then mm (112 + 2 * kd.toNat) 1 else if a = 1 then mm 111 kd.toNat else if a - 10 < mm (112 + 2 * kd.toNat) 1 then mm (113 + 2 * kd.toNat) (a - 10).toNat else -1) ∧ mMendC mm ∧ ∀ q i, ¬(77 ≤ q ∧ q ≤ 78) → ¬(80 ≤ q ∧ q ≤ 106) → ¬(108 ≤ q ∧ q ≤ 119) → mm q i = m q i) := by
  have hm' := hm
  obtain ⟨k1, k2, k3, k4, k5, k6⟩ := hm
  by_cases c : m 109 kd.toNat = 0
  · refine mOk_mono (findAdded_ok ht hr k0 c) (fun mm k => ?_)
    obtain ⟨⟨s, hs, b1, b2, b3, b4⟩, b5, fr⟩ := k
    have cc : ∀ (m' : aM) (r : Int × aM), mAeqT (m 177) (m' 177) → mRdy m' → ∀ a : Int, (a = 0 ∨ a = 1 ∨ (10 ≤ a ∧ a ≤ 12)) → R_added kd a m' = some r → r.1 = if mm (112 + 2 * kd.toNat) 1 = 0 then -1 else if a = 0 then mm (112 + 2 * kd.toNat) 1 else if a = 1 then mm 111 kd.toNat else if a - 10 < mm (112 + 2 * kd.toNat) 1 then mm (113 + 2 * kd.toNat) (a - 10).toNat else -1 := by
      intro m' r ha rd a hk kr
      obtain ⟨r0, kr0, s', hs', er, -⟩ := R_added_ok (kd := kd) (a := a) ht ha (by omega) hk rd
      rw [kr] at kr0
      rw [Option.some.inj kr0, er, yRn_uni 3 hs' hs, b2, b3]
      unfold yAn
      by_cases z : s.1 = 0
      · rw [if_pos z, if_pos z]
      rw [if_neg z, if_neg z]
      by_cases a0 : a = 0
      · rw [if_pos a0, if_pos a0]
      rw [if_neg a0, if_neg a0]
      by_cases a1 : a = 1
      · rw [if_pos a1, if_pos a1]
      rw [if_neg a1, if_neg a1]
      by_cases a2 : a - 10 < s.1
      · rw [if_pos a2, if_pos a2, b4 _ (by omega) a2]
      · rw [if_neg a2, if_neg a2]
    refine ⟨by rw [b2]; exact b1, cc, ?_, fun q i a b e => fr q i a b (by omega) (by omega) (by omega)⟩
    have row : ∀ q, ¬(77 ≤ q ∧ q ≤ 78) → ¬(80 ≤ q ∧ q ≤ 106) → ¬(109 ≤ q ∧ q ≤ 119) → mm q = m q := fun q a b d => rowEq fun i => fr q i a b (by omega) (by omega) (by omega)
    unfold mMendC
    rw [row 177 (by omega) (by omega) (by omega), row 107 (by omega) (by omega) (by omega), row 108 (by omega) (by omega) (by omega), row 79 (by omega) (by omega) (by omega)]
    refine ⟨k1, k2, fun j j0 j1 => ?_, k4, k5, k6⟩
    by_cases e : j = kd
    · rw [e]
      exact Or.inr ⟨b5, by rw [b2]; exact b1, cc⟩
    · rw [fr 109 _ (by omega) (by omega) (by omega) (by omega) (by omega), fr (112 + 2 * j.toNat) 1 (by omega) (by omega) (by omega) (by omega) (by omega), fr 111 _ (by omega) (by omega) (by omega) (by omega) (by omega), show mm (113 + 2 * j.toNat) = m (113 + 2 * j.toNat) from rowEq fun i => fr _ _ (by omega) (by omega) (by omega) (by omega) (by omega)]
      exact k3 j j0 j1
  · unfold Mender_findAdded
    rw [if_pos k0, if_neg c]
    obtain ⟨g1, g2, g3⟩ := (k3 kd k0.1 k0.2).resolve_left c
    exact mOk_some ⟨g2, g3, hm', fun _ _ _ _ _ => rfl⟩
theorem st_added {n : Nat} {m : aM} (hn : n < 64) (h : mInv n m) (x1 x2 : Int) : ∃ r m1 m2, B_added x1 x2 m = some (r, m1) ∧ R_added x1 x2 m1 = some (r, m2) ∧ mInv (n + 1) m2 := by
  have ht := h.2.2.1
  have c4 := ht.2.2.2.2.1
  have mk := h.2.2.2.2.2.2.1
  by_cases ck : (0 ≤ x1 ∧ x1 ≤ 3) ∧ yAk x2
  rotate_left
  · refine ⟨-2, m, aup m 176 0 0, ?_, ?_, mInv_0 h⟩
    · have key : ∀ s0, (s0 = 0 ∨ ¬(0 ≤ x1 ∧ x1 ≤ 3)) → ¬((0 ≤ x1 ∧ x1 ≤ 3) ∧ (x2 = 0 ∨ x2 = 1)) → B_added_9 x1 x2 s0 m = some (-2, m) := by
        intro s0 h0 h1
        unfold B_added_9
        rw [yIsKind, Option.bind_some]
        by_cases d : 0 ≤ x1 ∧ x1 ≤ 3
        · rw [if_pos d, if_neg (by decide), if_neg (by omega), if_neg (by omega), if_pos (by omega)]
        · rw [if_neg d, if_pos rfl]
      unfold yAk at ck
      unfold B_added B_added_8
      by_cases d : x2 < 10
      · rw [if_pos d]; exact key 0 (Or.inl rfl) (by omega)
      · rw [if_neg d]
        by_cases e : x2 < 13
        · rw [if_pos e]; exact key 1 (Or.inr (by omega)) (by omega)
        · rw [if_neg e]; exact key 0 (Or.inl rfl) (by omega)
    · unfold yAk at ck
      unfold R_added
      rw [st1e, within_eq, Option.bind_some]
      by_cases d : 0 ≤ x1 ∧ x1 ≤ 3
      · rw [if_pos d, if_neg (by decide), within_eq, if_neg (by omega), Option.bind_some, if_pos rfl, within_eq, if_neg (by omega), Option.bind_some, if_pos rfl]
      · rw [if_neg d, if_pos rfl]
  obtain ⟨k0, ka⟩ := ck
  obtain ⟨m1, kB, q0, q1, q2, q3⟩ := findAdded_all ht h.2.2.2.1 h.2.2.2.2.2.2.2.2 (kd := x1) (by omega)
  have r0 := mRdy_of (by omega) mk
  have e177 : m1 177 = m 177 := rowEq fun i => q3 _ _ (by omega) (by omega) (by omega)
  have rd : mRdy m1 := by
    unfold mRdy at *
    rw [q3 176 30 (by omega) (by omega) (by omega), q3 176 32 (by omega) (by omega) (by omega), q3 176 33 (by omega) (by omega) (by omega), show m1 193 = m 193 from funext fun i => q3 _ _ (by omega) (by omega) (by omega)]
    exact r0
  have ha : mAeqT (m 177) (m1 177) := by rw [e177]; exact mAeqT.refl _
  obtain ⟨⟨r', m2⟩, kR, s, -, -, ⟨j1, j2, j3, j4, j5⟩, g3⟩ := R_added_ok (a := x2) (m := m1) ht ha k0 ka rd
  dsimp only at j1 j2 j3 j4 j5 g3
  have er := q1 m1 _ ha rd x2 ka kR
  dsimp only at er
  refine ⟨r', m1, m2, ?_, kR, ?_⟩
  · have key : B_added_22 x1 x2 m = some (r', m1) := by
      unfold B_added_22
      unfold yAk at ka
      rw [kB, Option.bind_some, if_pos (by omega), er]
      by_cases z : m1 (112 + 2 * x1.toNat) 1 = 0
      · rw [if_pos z, if_pos z]
      rw [if_neg z, if_neg z]
      by_cases a0 : x2 = 0
      · rw [if_pos a0, if_pos a0]
      rw [if_neg a0, if_neg a0]
      by_cases a1 : x2 = 1
      · rw [if_pos a1, if_pos a1]
      rw [if_neg a1, if_neg a1, w32e (by omega) (by omega)]
      by_cases a2 : x2 - 10 < m1 (112 + 2 * x1.toNat) 1
      · rw [if_pos a2, if_pos a2, if_pos (by omega), show 113 + 2 * x1.toNat = 112 + 2 * x1.toNat + 1 by omega]
      · rw [if_neg a2, if_neg a2]
    unfold yAk at ka
    unfold B_added B_added_8
    by_cases d : x2 < 10
    · rw [if_pos d]
      unfold B_added_9
      rw [yIsKind, Option.bind_some, if_pos k0, if_neg (by decide)]
      by_cases a0 : x2 = 0
      · rw [if_pos a0]; exact key
      · rw [if_neg a0, if_pos (by omega)]; exact key
    · rw [if_neg d, if_pos (by omega)]
      unfold B_added_9
      rw [yIsKind, Option.bind_some, if_pos k0, if_neg (by decide), if_neg (by omega), if_neg (by omega), if_neg (by decide)]; exact key
  · have f2 : ∀ q i : Nat, q ≠ 181 → ¬(189 ≤ q ∧ q ≤ 195) → q ≠ 198 → ¬(q = 176 ∧ (i = 0 ∨ (29 ≤ i ∧ i ≤ 31) ∨ i = 42 ∨ i = 43)) → ¬(q = 177 ∧ (19 + m 177 18 = i ∨ 45 + m 177 18 = i ∨ (58 + 6 * m 177 18 ≤ i ∧ (i : Int) < 64 + 6 * m 177 18))) → ¬(77 ≤ q ∧ q ≤ 78) → ¬(80 ≤ q ∧ q ≤ 106) → ¬(108 ≤ q ∧ q ≤ 119) → m2 q i = m q i := fun q i a b c d e g h' i' => by rw [j5 q i a b c d e]; exact q3 q i g h' i'
    have f3 : ∀ q, 79 ≤ q → q ≤ 119 → m2 q = m1 q := fun q a b => rowEq fun i => j5 q i (by omega) (by omega) (by omega) (by omega) (by omega)
    have e30 : m1 176 30 = m 176 30 := q3 _ _ (by omega) (by omega) (by omega)
    have hA2 : ∀ k : Nat, 19 + m 177 18 ≠ k → 45 + m 177 18 ≠ k → ¬(58 + 6 * m 177 18 ≤ k ∧ (k : Int) < 64 + 6 * m 177 18) → m2 177 k = m 177 k := fun k a b d => f2 177 k (by omega) (by omega) (by omega) (by omega) (by omega) (by omega) (by omega) (by omega)
    refine mInv_slot h (fun q i hd a b c d e g i1 i2 => ?_) (fun k _ b c d => hA2 k b c d) (fun i a => hA2 i (by omega) (by omega) (by omega)) ?_ ⟨?_, j4, ?_, ?_⟩ ?_
    · unfold mDep at hd
      exact f2 q i (by omega) (by omega) (by omega) (by omega) (by omega) (by omega) (by omega) c
    · exact mTape_c (f2 _ _ (by omega) (by omega) (by omega) (by omega) (by omega) (by omega) (by omega) (by omega)) (rowEq fun i => f2 _ _ (by omega) (by omega) (by omega) (by omega) (by omega) (by omega) (by omega) (by omega)) (f2 _ _ (by omega) (by omega) (by omega) (by omega) (by omega) (by omega) (by omega) (by omega)) (rowEq fun i => f2 _ _ (by omega) (by omega) (by omega) (by omega) (by omega) (by omega) (by omega) (by omega)) h.1
    · have := mk.1
      omega
    · rw [f2 _ _ (by omega) (by omega) (by omega) (by omega) (by omega) (by omega) (by omega) (by omega)]; exact mk.2.2.1
    · rw [f2 _ _ (by omega) (by omega) (by omega) (by omega) (by omega) (by omega) (by omega) (by omega)]; exact mk.2.2.2
    · exact mMendC_of (by rw [e177]; exact fun k _ b c d => hA2 k b c d) (by rw [e177]; exact c4.1) (f3 79 (by omega) (by omega)) (fun q a b => f3 q (by omega) b) q2
