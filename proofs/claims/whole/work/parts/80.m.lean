/-! noise, asked -/
def mHd (A : Nat → Int) (L : Int) (Mi : Int → Int → Int) (N : Int → Int) (n : Int) : Prop := ∃ (c : Nat) (f : Nat → Int), mCo A L Mi 3 c f ∧ (c : Int) = n ∧ ∀ i : Nat, i < c → f i = N i
theorem mHd_iff {A : Nat → Int} {L : Int} {Mi : Int → Int → Int} {N : Int → Int} {n : Int} {c : Nat} {f : Nat → Int} (ht : mTok A) (hM : mMok A L Mi) (h : mCo A L Mi 3 c f) : mHd A L Mi N n ↔ (c : Int) = n ∧ ∀ i : Nat, i < c → f i = N i := by
  constructor
  · rintro ⟨c', f', k1, k2, k3⟩
    obtain ⟨u1, u2⟩ := mCo_uni ht hM h k1
    exact ⟨by omega, fun i hi => (u2 i hi).trans (k3 i (by omega))⟩
  · rintro ⟨a, b⟩
    exact ⟨c, f, h, a, b⟩
theorem understood_ok {A : Nat → Int} {L n : Int} {Mi : Int → Int → Int} {N : Int → Int} {m : aM} (ht : mTok A) (hM : mMok A L Mi) (hr : mTR 25 47 A m) (h74 : m 74 1 = L) (L0 : 0 ≤ L) (L1 : L ≤ 40) (hMi : ∀ p w : Int, 0 ≤ p → p < L → 0 ≤ w → w < A 18 → mMis A (fun i => m 75 i.toNat) L w p = Mi p w) (n0 : 1 ≤ n) (n1 : n ≤ 40) (h59 : m 59 1 = n) (h60 : ∀ k : Int, 0 ≤ k → k < n → m 60 k.toNat = N k) : mOk (Noise_isUnderstood m) (fun r => (r.1 = 0 ∨ r.1 = 1) ∧ (r.1 ≠ 0 ↔ mHd A L Mi N n) ∧ ∀ q i, ¬(67 ≤ q ∧ q ≤ 72) → r.2 q i = m q i) := by
  have c4 := ht.2.2.2.2.1
  unfold Noise_isUnderstood
  refine mOk_bind (lay_ok (t := 67) (x1 := 74) ht hr (Or.inr rfl) (Or.inr rfl) (by omega) (by omega)) (fun mA kA => ?_)
  obtain ⟨a9, aL, aM, frA⟩ := kA
  rw [h74] at aL aM
  have hrA : mTR 25 47 A mA := mTR_same (fun q i hq => frA q i (by omega) (by omega)) hr c4.2
  have hC : mCt 67 A L Mi mA := ⟨aL, fun i w a b c d => (aM i w a b c d).trans (hMi i w a b c d)⟩
  refine mOk_bind (choose_ok ht hrA (Or.inr rfl) hM hC L0 (by omega) (show (0 : Int) ≤ 3 by omega) (by omega)) (fun m1 k => ?_)
  obtain ⟨c, k9, k8, kc, kp, fr⟩ := k
  have fr1 : ∀ q i, ¬(67 ≤ q ∧ q ≤ 72) → m1 q i = m q i := fun q i a => by rw [fr q i (by omega) (by omega) (by omega) (by omega), frA q i (by omega) (by omega)]
  have iff := mHd_iff (N := N) (n := n) ht hM kc
  rw [k8, fr1 59 1 (by omega), h59]
  by_cases z : (c : Int) = n
  rotate_left
  · rw [if_neg z]
    exact mOk_some ⟨Or.inl rfl, ⟨fun hh => absurd rfl hh, fun hh => absurd (iff.mp hh).1 z⟩, fr1⟩
  rw [if_pos z]
  refine mL1 (fun f k => Noise_isUnderstood_19 f k m1) (fun k => 0 ≤ k ∧ k ≤ n ∧ ∀ i : Nat, (i : Int) < k → m1 71 i = N i) (fun k => (41 - k).toNat) ?_ 0 ⟨by omega, by omega, fun i hi => by omega⟩ (by omega)
  rintro fu k ⟨k0, k1, hk⟩ ih
  show mOk (Noise_isUnderstood_19 (fu + 1) k m1) _
  rw [Noise_isUnderstood_19, fr1 59 1 (by omega), h59]
  by_cases d : k < n
  · rw [if_pos d, if_pos (by omega), if_pos (by omega), fr1 60 _ (by omega), h60 k k0 d]
    by_cases e : m1 71 k.toNat = N k
    · rw [if_pos e, w32e (by omega) (by omega)]
      refine ih _ ⟨by omega, by omega, fun i hi => ?_⟩ (by omega)
      by_cases ei : (i : Int) = k
      · rw [ei, ← e, ← ei, Int.toNat_natCast]
      · exact hk i (by omega)
    · rw [if_neg e]
      refine mOk_some ⟨Or.inl rfl, ⟨fun hh => absurd rfl hh, fun hh => absurd ?_ e⟩, fr1⟩
      have := (iff.mp hh).2 k.toNat (by omega)
      rw [Int.toNat_of_nonneg k0] at this
      exact this
  · rw [if_neg d]
    refine mOk_some ⟨Or.inr rfl, ⟨fun _ => iff.mpr ⟨z, fun i hi => hk i (by omega)⟩, fun _ => by dsimp only; omega⟩, fr1⟩
theorem heard_ok {A : Nat → Int} {L n x1 : Int} {Mi : Int → Int → Int} {m : aM} (ht : mTok A) (hM : mMok A L Mi) (hk : mRk A L Mi m) (L0 : 0 ≤ L) (L1 : L ≤ 40) (r0 : 0 ≤ x1) (r1 : x1 < 4) (n0 : 1 ≤ n) (n1 : n ≤ 40) (h206 : m 206 x1.toNat = n) : mOk (R_isHeard x1 m) (fun r => (r.1 = 0 ∨ r.1 = 1) ∧ (r.1 ≠ 0 ↔ mHd A L Mi (mNr m x1) n) ∧ ∀ q i, ¬(q = 176 ∧ i = 22) → q ≠ 184 → q ≠ 185 → q ≠ 186 → r.2 q i = m q i) := by
  unfold R_isHeard
  refine mOk_bind (findsBest_ok (pi := 3) ht hM hk L0 L1 (Or.inr ⟨rfl, rfl⟩)) (fun r kr => ?_)
  obtain ⟨k1, k2, fr⟩ := kr
  rcases k1 with ⟨a, b⟩ | ⟨a, b, c, g1, g2⟩
  · rw [if_pos a]
    refine mOk_some ⟨Or.inl rfl, ⟨fun hh => absurd rfl hh, fun hh => ?_⟩, fr⟩
    have kc : mCo A L Mi 3 0 (fun _ => 0) := Or.inr ⟨by omega, Or.inl ⟨b, rfl⟩⟩
    have := ((mHd_iff ht hM kc).mp hh).1
    omega
  have kc : mCo A L Mi 3 c (fun i => r.2 186 i) := Or.inr ⟨by omega, Or.inr ⟨b, g1⟩⟩
  have iff := mHd_iff (N := mNr m x1) (n := n) ht hM kc
  rw [if_neg (by omega), if_pos ⟨r0, r1⟩, g2, fr 206 _ (by omega) (by omega) (by omega) (by omega), h206]
  by_cases z : (c : Int) = n
  rotate_left
  · rw [if_neg z]
    exact mOk_some ⟨Or.inl rfl, ⟨fun hh => absurd rfl hh, fun hh => absurd (iff.mp hh).1 z⟩, fr⟩
  rw [if_pos z]
  generalize hm1 : r.2 = m1 at *
  refine mL1 (fun f k => R_isHeard_15 x1 f k m1) (fun k => 0 ≤ k ∧ k ≤ n ∧ ∀ i : Nat, (i : Int) < k → m1 186 i = mNr m x1 i) (fun k => (41 - k).toNat) ?_ 0 ⟨by omega, by omega, fun i hi => by omega⟩ (by omega)
  rintro fu k ⟨k0, k1, hk2⟩ ih
  show mOk (R_isHeard_15 x1 (fu + 1) k m1) _
  rw [R_isHeard_15, g2, z]
  by_cases d : k < n
  · rw [if_pos d, if_pos (by omega)]
    simp (disch := omega) only [w32e, if_pos]
    rw [fr 207 _ (by omega) (by omega) (by omega) (by omega), show m 207 (40 * x1 + k).toNat = mNr m x1 k from rfl]
    by_cases e : m1 186 k.toNat = mNr m x1 k
    · rw [if_pos e]
      refine ih _ ⟨by omega, by omega, fun i hi => ?_⟩ (by omega)
      by_cases ei : (i : Int) = k
      · rw [ei, ← e, ← ei, Int.toNat_natCast]
      · exact hk2 i (by omega)
    · rw [if_neg e]
      refine mOk_some ⟨Or.inl rfl, ⟨fun hh => absurd rfl hh, fun hh => absurd ?_ e⟩, fr⟩
      have := (iff.mp hh).2 k.toNat (by omega)
      rw [Int.toNat_of_nonneg k0] at this
      exact this
  · rw [if_neg d]
    refine mOk_some ⟨Or.inr rfl, ⟨fun _ => iff.mpr ⟨z, fun i hi => hk2 i (by omega)⟩, fun _ => by dsimp only; omega⟩, fr⟩
/-- what noise and asked hear first -/
theorem hearNoise_ok {n0 : Nat} {m : aM} (h : mInv n0 m) {x1 x3 : Int} (r0 : 0 ≤ x1) (r1 : x1 < 4) : ∃ (v : Int) (mB : aM), B_hearForNoise x1 x3 m = some (v, mB) ∧ (∀ q i, ¬(q = 49 ∧ i = 1) → q ≠ 50 → q ≠ 59 → q ≠ 60 → mB q i = m q i) ∧ (∀ mm : aM, (∀ q i, q = 177 ∨ (205 ≤ q ∧ q ≤ 207) → mm q i = m q i) → R_refusesNoise x1 x3 mm = some v) ∧ (v = 0 → (0 ≤ x3 ∧ x3 ≤ 100) ∧ ∃ n L : Int, (1 ≤ n ∧ n ≤ 40) ∧ (0 ≤ L ∧ L ≤ 40) ∧ m 206 x1.toNat = n ∧ mB 59 1 = n ∧ (∀ k : Int, 0 ≤ k → k < n → mB 60 k.toNat = mNr m x1 k) ∧ L = mLs1 (m 177) (mNr m x1) n ∧ mB 49 1 = L ∧ mSaid (m 177) (mNr m x1) n (fun p => mB 50 p.toNat) ∧ ∀ k : Int, 0 ≤ k → k < n → mGd (m 177) (mNr m x1) k) := by
  rcases h.2.2.2.2.1 x1 r0 r1 with ⟨b1, b2⟩ | ⟨b1, b2, b3, b4, b5⟩
  · refine ⟨-6, m, ?_, fun _ _ _ _ _ _ => rfl, fun mm hm => ?_, fun hv => by omega⟩
    · unfold B_hearForNoise Rows_isMissing
      simp (disch := omega) only [reduceIte, if_pos, if_neg, Option.bind_some]
    · unfold R_refusesNoise
      rw [if_pos ⟨r0, r1⟩, hm 205 _ (by omega), if_pos b1]
  obtain ⟨mA, kA, ⟨f, hf, v1, v2, v3, v4, v5, v6, v7⟩, fr⟩ := hear_ok (N := mNr m x1) h.2.2.1 h.2.2.2.1 r0 r1 rfl b3.1 b3.2 (fun k k0 k1 => b5 k k0 k1)
  have f0 := hf.1
  have f1 := hf.2.1
  have e1 : Rows_isMissing x1 m = some 0 := by
    unfold Rows_isMissing; rw [if_pos ⟨r0, r1⟩, if_neg (by omega)]
  have eB : B_hearForNoise x1 x3 m = (if (mA 59 5) = 0 then (some ((-3), mA)) else (if 40 < (mA 59 3) then (some ((-3), mA)) else (if x3 < 0 then (some ((-3), mA)) else (if 100 < x3 then (some ((-3), mA)) else ((Verdict_sayInto 49 mA).bind fun r8 => (some (0, r8))))))) := by
    unfold B_hearForNoise
    rw [e1]
    simp only [Option.bind_some, reduceIte, kA]
  -- the reference
  have ref : ∀ mm : aM, (∀ q i, q = 177 ∨ (205 ≤ q ∧ q ≤ 207) → mm q i = m q i) → R_refusesNoise x1 x3 mm = some (if mA 59 5 = 0 then -3 else if 40 < mA 59 3 then -3 else if 0 ≤ x3 ∧ x3 ≤ 100 then 0 else -3) := by
    intro mm hm
    have e177 : mm 177 = m 177 := funext fun i => hm _ _ (by omega)
    have eN : mNr mm x1 = mNr m x1 := funext fun k => by unfold mNr; rw [hm _ _ (by omega)]
    have e206 : mm 206 x1.toNat = m 57 x1.toNat := (hm _ _ (by omega)).trans b4
    obtain ⟨s, ks, s1, s2⟩ := isSentence_ok (m := mm) (r := x1) (by rw [e177]; exact h.2.2.1) r0 r1 (by rw [e206]; omega) (by rw [e206]; omega)
    rw [e177, eN, e206] at s2
    unfold R_refusesNoise R_refusesNoise_27
    rw [if_pos ⟨r0, r1⟩, hm 205 _ (by omega), if_neg (by omega), ks]
    simp only [Option.bind_some]
    by_cases z5 : mA 59 5 = 0
    · have : s = 0 := Classical.byContradiction (fun hh => by
        obtain ⟨p1, p2⟩ := s2.mp hh
        exact (v6.mpr ⟨mFw_uni hf p1, p2⟩) z5)
      rw [if_pos this, if_pos z5]
    · obtain ⟨p1, p2⟩ := v6.mp z5
      have : s ≠ 0 := s2.mpr ⟨by rw [p1] at hf; exact hf, p2⟩
      rw [if_neg this, if_neg z5]
      obtain ⟨s', ks', hs'⟩ := soundsOf_ok (m := mm) (r := x1) (f := mm 206 x1.toNat) (by rw [e177]; exact h.2.2.1) r0 r1 (by rw [e206]; omega) (by rw [e206]; omega) (by rw [e177, eN, e206, ← p1]; exact hf.2.2.1)
      rw [e177, eN, e206, ← p1, ← v3] at hs'
      rw [ks']
      simp only [Option.bind_some]
      rw [hs']
      by_cases z4 : 40 < mA 59 3
      · rw [if_pos z4, if_pos z4]
      · rw [if_neg z4, if_neg z4, within_eq]
        simp only [Option.bind_some]
        by_cases z3 : 0 ≤ x3 ∧ x3 ≤ 100
        · rw [if_pos z3, if_pos z3, if_neg (by omega)]
        · rw [if_neg z3, if_neg z3, if_pos rfl]
  by_cases z5 : mA 59 5 = 0
  · rw [if_pos z5] at eB
    refine ⟨-3, mA, eB, fun q i _ _ a b => fr q i a b, fun mm hm => ?_, fun hv => by omega⟩
    rw [ref mm hm, if_pos z5]
  rw [if_neg z5] at eB
  by_cases z4 : 40 < mA 59 3
  · rw [if_pos z4] at eB
    refine ⟨-3, mA, eB, fun q i _ _ a b => fr q i a b, fun mm hm => ?_, fun hv => by omega⟩
    rw [ref mm hm, if_neg z5, if_pos z4]
  rw [if_neg z4] at eB
  by_cases z3 : 0 ≤ x3 ∧ x3 ≤ 100
  rotate_left
  · refine ⟨-3, mA, ?_, fun q i _ _ a b => fr q i a b, fun mm hm => ?_, fun hv => by omega⟩
    · rw [eB]
      by_cases y : x3 < 0
      · rw [if_pos y]
      · rw [if_neg y, if_pos (by omega)]
    · rw [ref mm hm, if_neg z5, if_neg z4, if_neg z3]
  rw [if_neg (by omega), if_neg (by omega)] at eB
  obtain ⟨p1, p2⟩ := v6.mp z5
  have hbd := mLs1_bd h.2.2.1 f0 (by omega) hf.2.2.1
  have c4 := h.2.2.1.2.2.2.2.1
  obtain ⟨mB, kB, q1, q2, q3⟩ := sayInto_ok (t := 49) (m := mA) (N := mNr m x1) (f := f) h.2.2.1 (Or.inr rfl) (fun w w0 w1 => (fr _ _ (by omega) (by omega)).trans (h.2.2.2.1.2.2.2.1 w w0 w1).1) (fun w w0 w1 k k0 k1 => (fr _ _ (by omega) (by omega)).trans ((h.2.2.2.1.2.2.2.1 w w0 w1).2.2.2 k k0 k1)) f0 (by omega) v1 v7 hf.2.2.1 (by rw [← v3]; omega)
  rw [kB] at eB
  refine ⟨0, mB, eB, fun q i a b c d => (q3 q i a b).trans (fr q i c d), fun mm hm => by rw [ref mm hm, if_neg z5, if_neg z4, if_pos z3], fun _ => ⟨z3, f, mLs1 (m 177) (mNr m x1) f, ⟨?_, by omega⟩, ⟨by omega, by omega⟩, by omega, (q3 _ _ (by omega) (by omega)).trans v1, fun k k0 k1 => (q3 _ _ (by omega) (by omega)).trans (v7 k k0 k1), rfl, q1, q2, hf.2.2.1⟩⟩
  have : f ≠ 0 := by
    intro hz
    rw [← p1, hz] at p2
    exact p2.1 (by unfold mKat; rw [if_pos rfl])
  omega
