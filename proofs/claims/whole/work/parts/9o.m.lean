/-! unsure, bears -/
def mFs (m m' : aM) : Prop := ∀ q i, ¬(80 ≤ q ∧ q ≤ 103) → m' q i = m q i
/-- the class's least is what the reference would answer -/
theorem least_ok {m : aM} {j : Int} (ht : mTok (m 177)) (hr : mTR 25 47 (m 177) m) (j0 : 0 ≤ j) (j1 : j ≤ 2) : mOk ((Twins_load 0 m).bind fun r => Twins_shortest j r) (fun r => (∀ (m' : aM) (r' : Int × aM), mAeqT (m 177) (m' 177) → mRdy m' → R_unsureOf j m' = some r' → r'.1 = r.1) ∧ mFs m r.2) := by
  have hM : mM3 j := by unfold mM3; omega
  refine mOk_bind (load_ok ht hr) (fun X kX => ?_)
  obtain ⟨ld, fl⟩ := kX
  have hv := ld_v ht ld
  refine mOk_mono (shortest_ok hM hv) (fun r k => ?_)
  obtain ⟨ft, je⟩ := k
  refine ⟨fun m' r' ha rd kr => ?_, fun q i a => ?_⟩
  · have hA := mVx_of ht ha
    obtain ⟨⟨x1, x2⟩, kx, -, -, -, kk, bf, ans⟩ := unsureOf_ok (M := j) (m := m') hA j0 j1 ⟨rd.1.1, by have := rd.1.2; omega⟩ rd.2.1
    rw [kr] at kx
    have ex := Option.some.inj kx
    rw [rd.2.2.1, rd.2.2.2] at bf
    have l' := unsureOf_ans hA j0 j1 bf ans
    have l := shortest_ans hv hM je
    have xa := ld_xa ht ha ld
    rw [ex]
    exact (search_eq hA hv (xa_sym hA xa) xa hM l l').symm
  · rw [ft q i (by omega) (by omega)]
    exact fl q i (by omega) (by omega)
theorem leastUnsure_ok {m : aM} {j : Int} (ht : mTok (m 177)) (hr : mTR 25 47 (m 177) m) (hm : mMendC m) (j0 : 0 ≤ j) (j1 : j ≤ 2) : mOk (Mender_leastUnsure j m) (fun r => (∀ (m' : aM) (r' : Int × aM), mAeqT (m 177) (m' 177) → mRdy m' → R_unsureOf j m' = some r' → r'.1 = r.1) ∧ mMendC r.2 ∧ ∀ q i, ¬(80 ≤ q ∧ q ≤ 103) → q ≠ 107 → r.2 q i = m q i) := by
  unfold Mender_leastUnsure Mender_leastUnsure_20
  rw [if_pos (by omega)]
  by_cases c : m 107 j.toNat = -2
  rotate_left
  · rw [if_neg c, if_pos (by omega)]
    exact mOk_some ⟨(hm.1 j j0 (by omega)).resolve_left c, hm, fun _ _ _ _ => rfl⟩
  rw [if_pos c]
  obtain ⟨r5, k5, q1, q2⟩ := least_ok ht hr j0 j1
  cases kl : Twins_load 0 m with
  | none => rw [kl] at k5; exact absurd k5 (by simp)
  | some X =>
    rw [kl, Option.bind_some] at k5
    rw [Option.bind_some, k5, Option.bind_some, st1e, if_pos (by omega)]
    have fo : ∀ q i, ¬(q = 107 ∧ i = j.toNat) → aup r5.2 107 j.toNat r5.1 q i = r5.2 q i := fun q i a => aup_of (by omega)
    have fs : aup r5.2 107 j.toNat r5.1 107 j.toNat = r5.1 := aup_self _ _ _ _
    generalize aup r5.2 107 j.toNat r5.1 = m6 at fo fs ⊢
    have fr : ∀ q i, ¬(80 ≤ q ∧ q ≤ 103) → q ≠ 107 → m6 q i = m q i := fun q i a b => by rw [fo q i (by omega)]; exact q2 q i a
    have f107 : ∀ i : Nat, i ≠ j.toNat → m6 107 i = m 107 i := fun i a => by rw [fo _ _ (by omega)]; exact q2 _ _ (by omega)
    have rw6 : ∀ q, ¬(80 ≤ q ∧ q ≤ 103) → q ≠ 107 → m6 q = m q := fun q a b => rowEq fun i => fr q i a b
    have e177 := rw6 177 (by omega) (by omega)
    refine mOk_some ⟨fun m' r' ha rd kr => by dsimp only; rw [fs]; exact q1 m' r' ha rd kr, ?_, fr⟩
    obtain ⟨k1, k2, k3, k4, k5', k6⟩ := hm
    dsimp only
    unfold mMendC
    rw [e177, rw6 79 (by omega) (by omega), rw6 108 (by omega) (by omega), rw6 109 (by omega) (by omega), rw6 111 (by omega) (by omega)]
    refine ⟨fun i i0 i1 => ?_, ?_, fun i i0 i1 => ?_, k4, k5', k6⟩
    · by_cases e : i = j
      · rw [e, fs]
        exact Or.inr (fun m' r' ha rd kr => q1 m' r' ha rd kr)
      · rw [f107 _ (by omega)]; exact k1 i i0 i1
    · by_cases e : j = 0
      · left
        rcases k2 with g | g
        · exact g
        · rw [e] at c
          exact absurd c g.2.1
      · rw [f107 0 (by omega)]; exact k2
    · rw [rw6 (112 + 2 * i.toNat) (by omega) (by omega), rw6 (113 + 2 * i.toNat) (by omega) (by omega)]
      exact k3 i i0 i1
/-- a search of the reference, behind one of the class -/
theorem mInv_srch {n : Nat} {m m2 : aM} (h : mInv n m) (fr : ∀ q i, mDep q i → q ≠ 107 → q ≠ 79 → ¬(108 ≤ q ∧ q ≤ 119) → ¬(q = 176 ∧ i = 30) → q ≠ 193 → m2 q i = m q i) (mk : mMark (n + 1) m2) (hm : mMendC m2) : mInv (n + 1) m2 := by
  obtain ⟨k1, k2, k3, k4, k5, k6, k7, k8, k9⟩ := h
  have f : ∀ q, (∀ i, mDep q i) → q ≠ 107 → q ≠ 79 → ¬(108 ≤ q ∧ q ≤ 119) → q ≠ 176 → q ≠ 193 → m2 q = m q := fun q a b c d e g => rowEq fun i => fr q i (a i) b c d (by omega) g
  have e177 : m2 177 = m 177 := f 177 (fun i => by unfold mDep; omega) (by omega) (by omega) (by omega) (by omega) (by omega)
  refine ⟨mTape_c (fr _ _ (by unfold mDep; omega) (by omega) (by omega) (by omega) (by omega) (by omega)) (f _ (fun i => by unfold mDep; omega) (by omega) (by omega) (by omega) (by omega) (by omega)) (fr _ _ (by unfold mDep; omega) (by omega) (by omega) (by omega) (by omega) (by omega)) (f _ (fun i => by unfold mDep; omega) (by omega) (by omega) (by omega) (by omega) (by omega)) k1, ?_, by rw [e177]; exact k3, ?_, mRows_c (fun q hq => f q (fun i => by unfold mDep; omega) (by omega) (by omega) (by omega) (by omega) (by omega)) k5, mImg_c (fun q hq => f q (fun i => by unfold mDep; omega) (by omega) (by omega) (by omega) (by omega) (by omega)) (fun i _ => by rw [e177]) k6, mk, ?_, hm⟩
  · rw [fr 176 13 (by unfold mDep; omega) (by omega) (by omega) (by omega) (by omega) (by omega), fr 176 14 (by unfold mDep; omega) (by omega) (by omega) (by omega) (by omega) (by omega), fr 1 7 (by unfold mDep; omega) (by omega) (by omega) (by omega) (by omega) (by omega), fr 1 8 (by unfold mDep; omega) (by omega) (by omega) (by omega) (by omega) (by omega)]
    exact k2
  · rw [e177]; exact mTR_same (fun q j hq => fr q j (by unfold mDep; omega) (by omega) (by omega) (by omega) (by omega) (by omega)) k4 k3.2.2.2.2.1.2
  · exact mCutC_of (by rw [e177]; exact mAeq.refl _) k3.2.2.2.2.1.1 (fr _ _ (by unfold mDep; omega) (by omega) (by omega) (by omega) (by omega) (by omega)) (fr _ _ (by unfold mDep; omega) (by omega) (by omega) (by omega) (by omega) (by omega)) (f _ (fun i => by unfold mDep; omega) (by omega) (by omega) (by omega) (by omega) (by omega)) (f _ (fun i => by unfold mDep; omega) (by omega) (by omega) (by omega) (by omega) (by omega)) (f _ (fun i => by unfold mDep; omega) (by omega) (by omega) (by omega) (by omega) (by omega)) k8
theorem st_unsure {n : Nat} {m : aM} (hn : n < 64) (h : mInv n m) (x1 : Int) : ∃ r m1 m2, B_unsure x1 m = some (r, m1) ∧ R_unsure x1 m1 = some (r, m2) ∧ mInv (n + 1) m2 := by
  by_cases c : 0 ≤ x1 ∧ x1 ≤ 2
  rotate_left
  · refine ⟨-3, m, aup m 176 0 0, ?_, ?_, mInv_0 h⟩
    · unfold B_unsure
      by_cases d : x1 < 0
      · rw [if_pos d]
      · rw [if_neg d, if_pos (by omega)]
    · unfold R_unsure
      rw [st1e, within_eq, if_neg c, Option.bind_some, if_pos rfl]
  obtain ⟨⟨r, m1⟩, kB, q1, q2, q3⟩ := leastUnsure_ok h.2.2.1 h.2.2.2.1 h.2.2.2.2.2.2.2.2 c.1 c.2
  dsimp only at q1 q2 q3
  have mk := h.2.2.2.2.2.2.1
  have f0 : ∀ q i, ¬(80 ≤ q ∧ q ≤ 103) → q ≠ 107 → ¬(q = 176 ∧ i = 0) → aup m1 176 0 0 q i = m q i := fun q i a b d => by rw [aup_of (by omega)]; exact q3 q i a b
  have rd : mRdy (aup m1 176 0 0) := by
    have r0 := mRdy_of (by omega) mk
    unfold mRdy at *
    rw [f0 176 30 (by omega) (by omega) (by omega), f0 176 32 (by omega) (by omega) (by omega), f0 176 33 (by omega) (by omega) (by omega), show aup m1 176 0 0 193 = m 193 from funext fun i => f0 _ _ (by omega) (by omega) (by omega)]
    exact r0
  have e177 : aup m1 176 0 0 177 = m 177 := funext fun i => f0 _ _ (by omega) (by omega) (by omega)
  have ha : mAeqT (m 177) (aup m1 176 0 0 177) := by rw [e177]; exact mAeqT.refl _
  obtain ⟨⟨r', m2⟩, kR, g1, g2, g3, -⟩ := unsureOf_ok (M := x1) (m := aup m1 176 0 0) (mVx_of h.2.2.1 ha) c.1 c.2 ⟨rd.1.1, by have := rd.1.2; omega⟩ rd.2.1
  dsimp only at g1 g2 g3
  have er : r' = r := q1 _ _ ha rd kR
  refine ⟨r, m1, m2, ?_, ?_, ?_⟩
  · unfold B_unsure
    rw [if_neg (by omega), if_neg (by omega), kB, Option.bind_some]
  · unfold R_unsure
    rw [st1e, within_eq, if_pos c, Option.bind_some, if_neg (by decide), kR, Option.bind_some, er]
  · have f2 : ∀ q i, ¬(80 ≤ q ∧ q ≤ 103) → q ≠ 107 → ¬(189 ≤ q ∧ q ≤ 195) → ¬(q = 176 ∧ (i = 0 ∨ (29 ≤ i ∧ i ≤ 31))) → m2 q i = m q i := fun q i a b d e => by rw [g1 q i (by omega) (by omega) (by omega) (by omega) (by omega) (by omega)]; exact f0 q i a b (by omega)
    have f3 : ∀ q, 79 ≤ q → q ≤ 119 → m2 q = m1 q := fun q a b => rowEq fun i => by rw [g1 q i (by omega) (by omega) (by omega) (by omega) (by omega) (by omega), aup_of (by omega)]
    refine mInv_srch h (fun q i hd a b e g g' => f2 q i (by unfold mDep at hd; omega) a (by unfold mDep at hd; omega) (by unfold mDep at hd; omega)) ?_ ?_
    · refine ⟨?_, g3, by rw [f2 _ _ (by omega) (by omega) (by omega) (by omega)]; exact mk.2.2.1, by rw [f2 _ _ (by omega) (by omega) (by omega) (by omega)]; exact mk.2.2.2⟩
      rw [g2, f0 _ _ (by omega) (by omega) (by omega)]
      have := mk.1
      omega
    · exact mMendC_of (by rw [show m2 177 = m 177 from rowEq fun i => f2 _ _ (by omega) (by omega) (by omega) (by omega), show m1 177 = m 177 from rowEq fun i => q3 _ _ (by omega) (by omega)]; exact mAeqT.refl _) (by rw [q3 _ _ (by omega) (by omega)]; exact h.2.2.1.2.2.2.2.1.1) (f3 79 (by omega) (by omega)) (fun q a b => f3 q (by omega) b) q2
