/-! bears -/
/-- the reference would answer v -/
def mVd (A : Nat → Int) (j v : Int) : Prop := ∀ (m' : aM) (r' : Int × aM), mAeqT A (m' 177) → mRdy m' → R_unsureOf j m' = some r' → r'.1 = v
theorem B_bears_ok {m : aM} (ht : mTok (m 177)) (hr : mTR 25 47 (m 177) m) (hm : mMendC m) : mOk (B_bears m) (fun r => (-1 ≤ r.1 ∧ r.1 ≤ 2) ∧ mMendC r.2 ∧ (∀ q i, ¬(80 ≤ q ∧ q ≤ 103) → q ≠ 107 → r.2 q i = m q i) ∧ (∀ j : Int, r.1 < j → j ≤ 2 → ∃ v, v ≠ -1 ∧ mVd (m 177) j v) ∧ (0 ≤ r.1 → mVd (m 177) r.1 (-1))) := by
  unfold B_bears
  refine mL2 B_bears_2 (fun x mm => (-1 ≤ x ∧ x ≤ 2) ∧ mMendC mm ∧ (∀ q i, ¬(80 ≤ q ∧ q ≤ 103) → q ≠ 107 → mm q i = m q i) ∧ ∀ j : Int, x < j → j ≤ 2 → ∃ v, v ≠ -1 ∧ mVd (m 177) j v) (fun x _ => (5 + x).toNat) ?_ 2 m ⟨by omega, hm, fun _ _ _ _ => rfl, fun j a b => by omega⟩ (by omega)
  rintro fu x mm ⟨x1, h1, fr, al⟩ ih
  rw [B_bears_2]
  by_cases c : x < 0
  · rw [if_pos c]
    exact mOk_some ⟨x1, h1, fr, al, fun g => by dsimp only at g; omega⟩
  rw [if_neg c]
  have e177 : mm 177 = m 177 := funext fun i => fr _ _ (by omega) (by omega)
  refine mOk_bind (leastUnsure_ok (m := mm) (j := x) (by rw [e177]; exact ht) (by rw [e177]; exact mTR_same (fun q j hq => fr q j (by omega) (by omega)) hr ht.2.2.2.2.1.2) h1 (by omega) (by omega)) (fun r k => ?_)
  obtain ⟨v, m2⟩ := r
  obtain ⟨k1, k2, k3⟩ := k
  rw [e177] at k1
  dsimp only at k1 k2 k3 ⊢
  have fr2 : ∀ q i, ¬(80 ≤ q ∧ q ≤ 103) → q ≠ 107 → m2 q i = m q i := fun q i a b => by rw [k3 q i a b]; exact fr q i a b
  by_cases d : v = -1
  · rw [if_pos d]
    refine mOk_some ⟨by dsimp only; omega, k2, fr2, al, fun _ => ?_⟩
    rw [d] at k1
    exact k1
  · rw [if_neg d, w32e (by omega) (by omega)]
    refine ih _ _ ⟨by omega, k2, fr2, fun j a b => ?_⟩ (by omega)
    by_cases e : j = x
    · rw [e]; exact ⟨v, d, k1⟩
    · exact al j (by omega) b
theorem st_bears {n : Nat} {m : aM} (hn : n < 64) (h : mInv n m) : ∃ r m1 m2, B_bears m = some (r, m1) ∧ R_bears m1 = some (r, m2) ∧ mInv (n + 1) m2 := by
  obtain ⟨⟨r, m1⟩, kB, q0, q2, q3, q4, q5⟩ := B_bears_ok h.2.2.1 h.2.2.2.1 h.2.2.2.2.2.2.2.2
  dsimp only at q0 q2 q3 q4 q5
  have mk := h.2.2.2.2.2.2.1
  have f0 : ∀ q i, ¬(80 ≤ q ∧ q ≤ 103) → q ≠ 107 → ¬(q = 176 ∧ i = 0) → aup m1 176 0 0 q i = m q i := fun q i a b d => by rw [aup_of (by omega)]; exact q3 q i a b
  have key : mOk (R_bears_5 FU 2 (aup m1 176 0 0)) (fun r' => r'.1 = r ∧ (∀ q i, ¬(189 ≤ q ∧ q ≤ 195) → ¬(q = 176 ∧ (29 ≤ i ∧ i ≤ 31)) → r'.2 q i = aup m1 176 0 0 q i) ∧ (m 176 30 ≤ r'.2 176 30 ∧ r'.2 176 30 ≤ m 176 30 + 3) ∧ ∀ s : Nat, r'.2 193 s ≤ r'.2 176 30) := by
    refine mL2 R_bears_5 (fun x mm => (r ≤ x ∧ x ≤ 2) ∧ (∀ q i, ¬(189 ≤ q ∧ q ≤ 195) → ¬(q = 176 ∧ (29 ≤ i ∧ i ≤ 31)) → mm q i = aup m1 176 0 0 q i) ∧ mm 176 30 = m 176 30 + (2 - x) ∧ ∀ s : Nat, mm 193 s ≤ mm 176 30) (fun x _ => (5 + x).toNat) ?_ 2 _ ⟨by omega, fun _ _ _ _ => rfl, by rw [f0 _ _ (by omega) (by omega) (by omega)]; omega, fun s => by rw [f0 193 _ (by omega) (by omega) (by omega), f0 176 30 (by omega) (by omega) (by omega)]; exact mk.2.1 s⟩ (by omega)
    rintro fu x mm ⟨x1, fr, mx, mb⟩ ih
    have bd := mk.1
    rw [R_bears_5]
    by_cases c : x < 0
    · rw [if_pos c]
      exact mOk_some ⟨by dsimp only; omega, fr, by dsimp only; omega, mb⟩
    rw [if_neg c]
    have e177 : mm 177 = m 177 := funext fun i => by rw [fr _ _ (by omega) (by omega)]; exact f0 _ _ (by omega) (by omega) (by omega)
    have ha : mAeqT (m 177) (mm 177) := by rw [e177]; exact mAeqT.refl _
    have rd : mRdy mm := ⟨by omega, mb, by rw [fr _ _ (by omega) (by omega), f0 _ _ (by omega) (by omega) (by omega)]; exact mk.2.2.1, by rw [fr _ _ (by omega) (by omega), f0 _ _ (by omega) (by omega) (by omega)]; exact mk.2.2.2⟩
    obtain ⟨⟨v, m2⟩, kR, g1, g2, g3, -⟩ := unsureOf_ok (M := x) (m := mm) (mVx_of h.2.2.1 ha) (by omega) x1.2 ⟨rd.1.1, by have := rd.1.2; omega⟩ rd.2.1
    dsimp only at g1 g2 g3
    have fr2 : ∀ q i, ¬(189 ≤ q ∧ q ≤ 195) → ¬(q = 176 ∧ (29 ≤ i ∧ i ≤ 31)) → m2 q i = aup m1 176 0 0 q i := fun q i a b => by rw [g1 q i (by omega) (by omega) (by omega) (by omega) (by omega) (by omega)]; exact fr q i a b
    unfold R_isSure
    rw [kR, Option.bind_some]
    dsimp only
    by_cases d : v = -1
    · rw [if_pos d, Option.bind_some]
      dsimp only
      rw [if_neg (by decide)]
      refine mOk_some ⟨?_, fr2, by dsimp only; omega, g3⟩
      dsimp only
      refine Classical.byContradiction (fun hc => ?_)
      obtain ⟨v', nv, hv'⟩ := q4 x (by omega) x1.2
      exact nv ((hv' mm _ ha rd kR).symm.trans d)
    · rw [if_neg d, Option.bind_some]
      dsimp only
      rw [if_pos rfl, w32e (by omega) (by omega)]
      have ne : r ≠ x := fun e => d (q5 (by omega) mm _ ha rd (by rw [e]; exact kR))
      exact ih _ _ ⟨by omega, fr2, by omega, g3⟩ (by omega)
  obtain ⟨⟨r', m2⟩, kR, er, g1, g2, g3⟩ := key
  dsimp only at er g1 g2 g3
  refine ⟨r, m1, m2, kB, ?_, ?_⟩
  · unfold R_bears
    rw [st1e, kR, er]
  · have f2 : ∀ q i, ¬(80 ≤ q ∧ q ≤ 103) → q ≠ 107 → ¬(189 ≤ q ∧ q ≤ 195) → ¬(q = 176 ∧ (i = 0 ∨ (29 ≤ i ∧ i ≤ 31))) → m2 q i = m q i := fun q i a b d e => by rw [g1 q i d (by omega)]; exact f0 q i a b (by omega)
    have f3 : ∀ q, 79 ≤ q → q ≤ 119 → m2 q = m1 q := fun q a b => rowEq fun i => by rw [g1 q i (by omega) (by omega), aup_of (by omega)]
    refine mInv_srch h (fun q i hd a b e g g' => f2 q i (by unfold mDep at hd; omega) a (by unfold mDep at hd; omega) (by unfold mDep at hd; omega)) ?_ ?_
    · have := mk.1
      exact ⟨by omega, g3, by rw [f2 _ _ (by omega) (by omega) (by omega) (by omega)]; exact mk.2.2.1, by rw [f2 _ _ (by omega) (by omega) (by omega) (by omega)]; exact mk.2.2.2⟩
    · exact mMendC_of (by rw [show m2 177 = m 177 from rowEq fun i => f2 _ _ (by omega) (by omega) (by omega) (by omega), show m1 177 = m 177 from rowEq fun i => q3 _ _ (by omega) (by omega)]; exact mAeqT.refl _) (by rw [q3 _ _ (by omega) (by omega)]; exact h.2.2.1.2.2.2.2.1.1) (f3 79 (by omega) (by omega)) (fun q a b => f3 q (by omega) b) q2
