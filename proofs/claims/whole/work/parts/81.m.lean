/-! noise, asked: the steps -/
def mNc (A : Nat → Int) (N S : Int → Int) (n L : Int) (m : aM) : Prop := mTR 25 47 A m ∧ m 49 1 = L ∧ (∀ i : Nat, (i : Int) < L → m 50 i = S i) ∧ m 59 1 = n ∧ ∀ k : Int, 0 ≤ k → k < n → m 60 k.toNat = N k
theorem mNc_same {A : Nat → Int} {N S : Int → Int} {n L : Int} {m m' : aM} (ht : mTok A) (fr : ∀ q i, ¬(67 ≤ q ∧ q ≤ 75) → m' q i = m q i) (h : mNc A N S n L m) : mNc A N S n L m' := by
  obtain ⟨h1, h2, h3, h4, h5⟩ := h
  exact ⟨mTR_same (fun q i hq => fr q i (by omega)) h1 ht.2.2.2.2.1.2, (fr _ _ (by omega)).trans h2, fun i hi => (fr _ _ (by omega)).trans (h3 i hi), (fr _ _ (by omega)).trans h4, fun k a b => (fr _ _ (by omega)).trans (h5 k a b)⟩
noncomputable def mMn2 (A : Nat → Int) (L h : Int) (S : Int → Int) (s : Int) : Int → Int → Int := mRl A L (fun p => nO A h S s p.toNat)
def mHh (A : Nat → Int) (N S : Int → Int) (n L h s : Int) : Prop := mHd A L (mMn2 A L h S s) N n
theorem classTry {A : Nat → Int} {N S : Int → Int} {n L h s : Int} {m : aM} (ht : mTok A) (n0 : 1 ≤ n) (n1 : n ≤ 40) (L0 : 0 ≤ L) (L1 : L ≤ 40) (hS : ∀ i : Nat, (i : Int) < L → 0 ≤ S i ∧ S i < 8) (hc : mNc A N S n L m) (hs : m 73 3 = s) : ∃ mD, Noise_carry h m = some mD ∧ mD 73 3 = nS A h S s L.toNat ∧ mD 73 4 = nC A h S s L.toNat ∧ mD 74 1 = L ∧ (∀ i : Nat, (i : Int) < L → mD 75 i = nO A h S s i) ∧ (∀ q i, ¬(73 ≤ q ∧ q ≤ 75) → mD q i = m q i) ∧ ∃ r : Int × aM, Noise_isUnderstood mD = some r ∧ (r.1 = 0 ∨ r.1 = 1) ∧ (r.1 ≠ 0 ↔ mHh A N S n L h s) ∧ (∀ q i, ¬(67 ≤ q ∧ q ≤ 75) → r.2 q i = m q i) ∧ r.2 73 3 = nS A h S s L.toNat := by
  obtain ⟨h1, h2, h3, h4, h5⟩ := hc
  obtain ⟨mD, k1, k2, k3, k4, k5, k6⟩ := carry_ok (A := A) (h := h) (L := L) (s0 := s) (S := S) (m := m) ht (fun s a b => h1.2.2.1 s a b) h2 L0 L1 (fun i hi => ⟨h3 i hi, hS i hi⟩) hs
  have fr : ∀ q i, ¬(73 ≤ q ∧ q ≤ 75) → mD q i = m q i := fun q i a => k6 q i (by omega) (by omega) (by omega)
  refine ⟨mD, k1, k2, k3, k4, k5, fr, ?_⟩
  obtain ⟨r, u1, u2, u3, u4⟩ := understood_ok (A := A) (L := L) (n := n) (Mi := mMn2 A L h S s) (N := N) (m := mD) ht (mRl_ok ht) (mTR_same (fun q i hq => fr q i (by omega)) h1 ht.2.2.2.2.1.2) k4 L0 L1 (fun p w a b c d => mMis_cg a (fun i i0 i1 => k5 i.toNat (by omega))) n0 n1 ((fr _ _ (by omega)).trans h4) (fun k a b => (fr _ _ (by omega)).trans (h5 k a b))
  exact ⟨r, u1, u2, u3, fun q i a => (u4 q i (by omega)).trans (fr q i (by omega)), (u4 _ _ (by omega)).trans k2⟩
theorem refTry {A : Nat → Int} {N S : Int → Int} {n L h s x1 : Int} {m : aM} (ht : mTok A) (r0 : 0 ≤ x1) (r1 : x1 < 4) (n0 : 1 ≤ n) (n1 : n ≤ 40) (L0 : 0 ≤ L) (L1 : L ≤ 40) (hL : L = mLs1 A N n) (hg : ∀ k : Int, 0 ≤ k → k < n → mGd A N k) (hsd : mSaid A N n S) (e177 : m 177 = A) (e206 : m 206 x1.toNat = n) (eN : mNr m x1 = N) (hs : m 176 50 = s) : ∃ m1, R_says x1 m = some m1 ∧ ∃ m2, R_noises h m1 = some m2 ∧ m2 176 50 = nS A h S s L.toNat ∧ m2 176 51 = nC A h S s L.toNat ∧ m2 176 17 = L ∧ (∀ i : Nat, (i : Int) < L → m2 182 i = nO A h S s i) ∧ (∀ q i, ¬(q = 176 ∧ (i = 17 ∨ i = 50 ∨ i = 51)) → q ≠ 182 → m2 q i = m q i) ∧ ∃ r : Int × aM, R_isHeard x1 m2 = some r ∧ (r.1 = 0 ∨ r.1 = 1) ∧ (r.1 ≠ 0 ↔ mHh A N S n L h s) ∧ (∀ q i, ¬(q = 176 ∧ (i = 17 ∨ i = 22 ∨ i = 50 ∨ i = 51)) → q ≠ 182 → q ≠ 184 → q ≠ 185 → q ≠ 186 → r.2 q i = m q i) ∧ r.2 176 50 = nS A h S s L.toNat := by
  have c0 := ht.1
  obtain ⟨m1, k1, k2, k3, k4⟩ := says_ok (r := x1) (m := m) (by rw [e177]; exact ht) r0 r1 (by omega) (by omega) (by rw [e177, eN, e206]; exact hg) (by rw [e177, eN, e206]; omega)
  rw [e177, eN, e206, ← hL] at k2
  rw [e177, eN, e206] at k3
  refine ⟨m1, k1, ?_⟩
  have hS : ∀ i : Nat, (i : Int) < L → m1 182 i = S i ∧ 0 ≤ S i ∧ S i < 8 := by
    intro i hi
    have := said_eq ht (by omega) hg hsd k3 (p := (i : Int)) (by omega) (by omega)
    rw [Int.toNat_natCast] at this
    exact ⟨this.1.symm, this.2.1, by omega⟩
  obtain ⟨m2, a1, a2, a3, a4, a5⟩ := noises_ok (A := A) (h := h) (L := L) (s0 := s) (S := S) (m := m1) ht ((funext fun i => k4 _ _ (by omega) (by omega)).trans e177) k2 L0 L1 hS ((k4 _ _ (by omega) (by omega)).trans hs)
  have fr : ∀ q i, ¬(q = 176 ∧ (i = 17 ∨ i = 50 ∨ i = 51)) → q ≠ 182 → m2 q i = m q i := fun q i a b => (a5 q i (by omega) b).trans (k4 q i (by omega) b)
  have e17 : m2 176 17 = L := (a5 _ _ (by omega) (by omega)).trans k2
  refine ⟨m2, a1, a2, a3, e17, a4, fr, ?_⟩
  have eN2 : mNr m2 x1 = N := by rw [← eN]; funext k; unfold mNr; exact fr _ _ (by omega) (by omega)
  obtain ⟨r, u1, u2, u3, u4⟩ := heard_ok (A := A) (L := L) (n := n) (x1 := x1) (Mi := mMn2 A L h S s) (m := m2) ht (mRl_ok ht) ⟨(funext fun i => fr _ _ (by omega) (by omega)).trans e177, e17, fun p w a b c d => mMis_cg a (fun i i0 i1 => a4 i.toNat (by omega))⟩ L0 L1 r0 r1 n0 n1 ((fr _ _ (by omega) (by omega)).trans e206)
  rw [eN2] at u3
  exact ⟨r, u1, u2, u3, fun q i a b c d e => (u4 q i (by omega) c d e).trans (fr q i (by omega) b), (u4 _ _ (by omega) (by omega) (by omega) (by omega)).trans a2⟩
theorem said_rng {A : Nat → Int} {N S : Int → Int} {n L : Int} (ht : mTok A) (n0 : 0 ≤ n) (hL : L = mLs1 A N n) (hg : ∀ k : Int, 0 ≤ k → k < n → mGd A N k) (hsd : mSaid A N n S) : ∀ i : Nat, (i : Int) < L → 0 ≤ S i ∧ S i < 8 := by
  intro i hi
  have c0 := ht.1
  have := said_eq ht n0 hg hsd hsd (p := (i : Int)) (by omega) (by omega)
  omega
theorem st_noise {n : Nat} {m : aM} (h : mInv n m) (x1 x2 x3 x4 : Int) (h4 : in32 x4) : ∃ r m1 m2, B_noise x1 x2 x3 x4 m = some (r, m1) ∧ R_noise x1 x2 x3 x4 m1 = some (r, m2) ∧ mInv (n + 1) m2 := by
  have hi := mInv_0 h
  obtain ⟨h41, h42⟩ := h4
  have bad : ¬(0 ≤ x1 ∧ x1 < 4) ∨ ¬(x4 = 0 ∨ x4 = 1 ∨ (10 ≤ x4 ∧ x4 < 50)) → ∃ r m1 m2, B_noise x1 x2 x3 x4 m = some (r, m1) ∧ R_noise x1 x2 x3 x4 m1 = some (r, m2) ∧ mInv (n + 1) m2 := by
    intro hb
    refine ⟨-2, m, aup m 176 0 0, ?_, ?_, hi⟩
    · have key : ∀ s0 : Int, (s0 ≠ 0 → (10 ≤ x4 ∧ x4 < 50)) → B_noise_9 x1 x2 x3 x4 s0 m = some (-2, m) := by
        intro s0 hs0
        unfold B_noise_9 Rows_isRow
        by_cases a : x1 < 0
        · simp only [if_pos a, Option.bind_some, reduceIte]
        · by_cases b : x1 < 4
          · simp only [if_neg a, if_pos b, Option.bind_some]
            rw [if_neg (by omega), if_neg (by omega), if_neg (by omega), if_pos (by
              by_cases z : s0 = 0
              · exact z
              · have := hs0 z; omega)]
          · simp only [if_neg a, if_neg b, Option.bind_some, reduceIte]
      unfold B_noise B_noise_8
      by_cases a : x4 < 10
      · rw [if_pos a]; exact key 0 (fun hh => absurd rfl hh)
      · rw [if_neg a]
        by_cases b : x4 < 50
        · rw [if_pos b]; exact key 1 (fun _ => by omega)
        · rw [if_neg b]; exact key 0 (fun hh => absurd rfl hh)
    · unfold R_noise
      rw [st1e, within_eq]
      simp only [Option.bind_some]
      by_cases a : 0 ≤ x1 ∧ x1 ≤ 3
      · rw [if_pos a, if_neg (by omega), within_eq]
        simp only [Option.bind_some]
        rw [if_neg (show ¬(0 ≤ x4 ∧ x4 ≤ 1) by omega), if_pos rfl, within_eq]
        simp only [Option.bind_some]
        rw [if_neg (show ¬(10 ≤ x4 ∧ x4 ≤ 49) by omega), if_pos rfl]
      · rw [if_neg a, if_pos rfl]
  by_cases c1 : 0 ≤ x1 ∧ x1 < 4
  rotate_left
  · exact bad (Or.inl c1)
  by_cases c2 : x4 = 0 ∨ x4 = 1 ∨ (10 ≤ x4 ∧ x4 < 50)
  rotate_left
  · exact bad (Or.inr c2)
  clear bad
  have eB : B_noise x1 x2 x3 x4 m = B_noise_24 x1 x2 x3 x4 m := by
    have key : ∀ s0 : Int, (s0 = 0 → x4 = 0 ∨ x4 = 1) → B_noise_9 x1 x2 x3 x4 s0 m = B_noise_24 x1 x2 x3 x4 m := by
      intro s0 hs0
      unfold B_noise_9 Rows_isRow
      rw [if_neg (show ¬ x1 < 0 by omega), if_pos c1.2]
      simp only [Option.bind_some]
      rw [if_neg (by omega)]
      by_cases a : x4 = 0
      · rw [if_pos a]
      · rw [if_neg a]
        by_cases b : x4 = 1
        · rw [if_pos b]
        · rw [if_neg b, if_neg (fun hh => by have := hs0 hh; omega)]
    unfold B_noise B_noise_8
    by_cases a : x4 < 10
    · rw [if_pos a]; exact key 0 (fun _ => by omega)
    · rw [if_neg a, if_pos (by omega)]; exact key 1 (fun hh => by omega)
  have eR : ∀ mm : aM, R_noise x1 x2 x3 x4 mm = R_noise_23 x1 x2 x3 x4 (aup mm 176 0 0) := by
    intro mm
    unfold R_noise
    rw [st1e, within_eq]
    simp only [Option.bind_some]
    rw [if_pos (show 0 ≤ x1 ∧ x1 ≤ 3 by omega), if_neg (by omega), within_eq]
    simp only [Option.bind_some]
    by_cases a : 0 ≤ x4 ∧ x4 ≤ 1
    · rw [if_pos a, if_neg (by omega)]
    · rw [if_neg a, if_pos rfl, within_eq]
      simp only [Option.bind_some]
      rw [if_pos (show 10 ≤ x4 ∧ x4 ≤ 49 by omega), if_neg (by omega)]
  obtain ⟨v, mB, k1, k2, k3, k4⟩ := hearNoise_ok (x3 := x3) h c1.1 c1.2
  have htk := h.2.2.1
  by_cases v0 : v = 0
  rotate_left
  · refine ⟨v, mB, aup mB 176 0 0, ?_, ?_, ?_⟩
    · rw [eB]; unfold B_noise_24; rw [k1]; simp only [Option.bind_some]; rw [if_neg v0]
    · rw [eR]; unfold R_noise_23
      rw [k3 _ (fun q i hq => by rw [aup_of (by omega), k2 _ _ (by omega) (by omega) (by omega) (by omega)])]
      simp only [Option.bind_some]; rw [if_neg v0]
    · refine mInv_same (Nat.le_succ n) (fun q i hd => ?_) h
      unfold mDep at hd
      rw [aup_of (by omega), k2 _ _ (by omega) (by omega) (by omega) (by omega)]
  obtain ⟨c3, nn, L, ⟨n0, n1⟩, ⟨L0, L1⟩, g1, g2, g3, g4, g5, g6, g7⟩ := k4 v0
  clear k4
  have hS := said_rng htk (by omega) g4 g7 g6
  have hc : mNc (m 177) (mNr m x1) (fun p => mB 50 p.toNat) nn L (aup mB 73 3 x2) := by
    refine ⟨mTR_same (fun q i hq => by rw [aup_of (by omega), k2 _ _ (by omega) (by omega) (by omega) (by omega)]) h.2.2.2.1 htk.2.2.2.2.1.2, by rw [aup_of (by omega)]; exact g5, fun i hi => by rw [aup_of (by omega)]; rfl, by rw [aup_of (by omega)]; exact g2, fun k a b => by rw [aup_of (by omega)]; exact g3 k a b⟩
  obtain ⟨mD, d1, d2, d3, d4, d5, d6, r, u1, u2, u3, u4, u5⟩ := classTry (h := x3) htk n0 n1 L0 L1 hS hc (aup_self _ _ _ _)
  -- the reference from any class memory that differs only in the class's scratch
  have ref : ∀ mm : aM, (∀ q i, ¬(q = 49 ∧ i = 1) → q ≠ 50 → q ≠ 59 → q ≠ 60 → ¬(67 ≤ q ∧ q ≤ 75) → mm q i = m q i) → ∃ m2, R_says x1 (aup (aup mm 176 0 0) 176 50 x2) = some m2 ∧ ∃ m3, R_noises x3 m2 = some m3 ∧ m3 176 51 = nC (m 177) x3 (fun p => mB 50 p.toNat) x2 L.toNat ∧ m3 176 17 = L ∧ (∀ i : Nat, (i : Int) < L → m3 182 i = nO (m 177) x3 (fun p => mB 50 p.toNat) x2 i) ∧ mInv (n + 1) m3 ∧ ∃ r' : Int × aM, R_isHeard x1 m3 = some r' ∧ (r'.1 = 0 ∨ r'.1 = 1) ∧ (r'.1 ≠ 0 ↔ mHh (m 177) (mNr m x1) (fun p => mB 50 p.toNat) nn L x3 x2) ∧ mInv (n + 1) r'.2 := by
    intro mm hm
    have gg : ∀ q i, q = 177 ∨ (205 ≤ q ∧ q ≤ 207) → aup (aup mm 176 0 0) 176 50 x2 q i = m q i := fun q i hq => by rw [aup_of (by omega), aup_of (by omega)]; exact hm q i (by omega) (by omega) (by omega) (by omega) (by omega)
    obtain ⟨m2, a1, m3, a2, a3, a4, a5, a6, a7, r', b1, b2, b3, b4, b5⟩ := refTry (h := x3) (s := x2) (x1 := x1) (m := aup (aup mm 176 0 0) 176 50 x2) htk c1.1 c1.2 n0 n1 L0 L1 g4 g7 g6 (funext fun i => gg _ _ (by omega)) ((gg _ _ (by omega)).trans g1) (funext fun k => by unfold mNr; exact gg _ _ (by omega)) (aup_self _ _ _ _)
    refine ⟨m2, a1, m3, a2, a4, a5, a6, mInv_same (Nat.le_succ n) (fun q i hd => ?_) h, r', b1, b2, b3, mInv_same (Nat.le_succ n) (fun q i hd => ?_) h⟩
    · unfold mDep at hd
      rw [a7 _ _ (by omega) (by omega), aup_of (by omega), aup_of (by omega)]
      exact hm q i (by omega) (by omega) (by omega) (by omega) (by omega)
    · unfold mDep at hd
      rw [b4 _ _ (by omega) (by omega) (by omega) (by omega) (by omega), aup_of (by omega), aup_of (by omega)]
      exact hm q i (by omega) (by omega) (by omega) (by omega) (by omega)
  have eB2 : B_noise x1 x2 x3 x4 m = (if x4 = 0 then (some (mD 73 4, mD)) else (if x4 = 1 then (if r.1 = 0 then (some (0, r.2)) else (some (1, r.2))) else (if (w32 (x4 - 10)) < (mD 74 1) then (if 0 ≤ (w32 (x4 - 10)) ∧ (w32 (x4 - 10)) < 40 then (some (mD 75 (w32 (x4 - 10)).toNat, mD)) else none) else (some ((-1), mD))))) := by
    rw [eB]
    unfold B_noise_24
    rw [k1]
    simp only [Option.bind_some]
    rw [if_pos v0, st1e, d1]
    simp only [Option.bind_some, u1]
  have fD : ∀ q i, ¬(q = 49 ∧ i = 1) → q ≠ 50 → q ≠ 59 → q ≠ 60 → ¬(67 ≤ q ∧ q ≤ 75) → mD q i = m q i := fun q i a b c d e => by rw [d6 q i (by omega), aup_of (by omega), k2 q i a b c d]
  have fr : ∀ q i, ¬(q = 49 ∧ i = 1) → q ≠ 50 → q ≠ 59 → q ≠ 60 → ¬(67 ≤ q ∧ q ≤ 75) → r.2 q i = m q i := fun q i a b c d e => by rw [u4 q i e, aup_of (by omega), k2 q i a b c d]
  have eR2 : ∀ (mm : aM) {m2 m3 : aM} {r' : Int × aM}, (∀ q i, ¬(q = 49 ∧ i = 1) → q ≠ 50 → q ≠ 59 → q ≠ 60 → ¬(67 ≤ q ∧ q ≤ 75) → mm q i = m q i) → R_says x1 (aup (aup mm 176 0 0) 176 50 x2) = some m2 → R_noises x3 m2 = some m3 → R_isHeard x1 m3 = some r' → R_noise x1 x2 x3 x4 mm = (if x4 = 0 then (some (m3 176 51, m3)) else (if x4 = 1 then (if r'.1 = 0 then (some (0, r'.2)) else (some (1, r'.2))) else (if (w32 (x4 - 10)) < (m3 176 17) then (if 0 ≤ (w32 (x4 - 10)) ∧ (w32 (x4 - 10)) < 40 then (some (m3 182 (w32 (x4 - 10)).toNat, m3)) else none) else (some ((-1), m3))))) := by
    intro mm m2 m3 r' hm a1 a2 b1
    rw [eR]
    unfold R_noise_23
    rw [k3 _ (fun q i hq => by rw [aup_of (by omega)]; exact hm q i (by omega) (by omega) (by omega) (by omega) (by omega))]
    simp only [Option.bind_some]
    rw [if_pos v0, st1e, a1]
    simp only [Option.bind_some, a2, b1]
  by_cases z1 : x4 = 1
  · obtain ⟨m2, a1, m3, a2, a3, a4, a5, a6, r', b1, b2, b3, b4⟩ := ref r.2 fr
    refine ⟨r.1, r.2, r'.2, ?_, ?_, b4⟩
    · rw [eB2, if_neg (by omega), if_pos z1]
      rcases u2 with q | q
      · rw [if_pos q, q]
      · rw [if_neg (by omega), q]
    · rw [eR2 r.2 fr a1 a2 b1, if_neg (by omega), if_pos z1]
      by_cases q : mHh (m 177) (mNr m x1) (fun p => mB 50 p.toNat) nn L x3 x2
      · have q1 := u3.mpr q
        have q2 := b3.mpr q
        rw [if_neg q2]
        rcases u2 with w | w
        · exact absurd w q1
        · rw [w]
      · have q1 : r.1 = 0 := Classical.byContradiction (fun hh => q (u3.mp hh))
        have q2 : r'.1 = 0 := Classical.byContradiction (fun hh => q (b3.mp hh))
        rw [if_pos q2, q1]
  obtain ⟨m2, a1, m3, a2, a3, a4, a5, a6, r', b1, b2, b3, b4⟩ := ref mD fD
  have eR3 := eR2 mD fD a1 a2 b1
  by_cases z0 : x4 = 0
  · refine ⟨mD 73 4, mD, m3, ?_, ?_, a6⟩
    · rw [eB2, if_pos z0]
    · rw [eR3, if_pos z0, a3, d3]
  rw [if_neg z0, if_neg z1, w32e (by omega) (by omega), d4] at eB2
  rw [if_neg z0, if_neg z1, w32e (by omega) (by omega), a4] at eR3
  by_cases y : x4 - 10 < L
  · refine ⟨mD 75 (x4 - 10).toNat, mD, m3, ?_, ?_, a6⟩
    · rw [eB2, if_pos y, if_pos (by omega)]
    · rw [eR3, if_pos y, if_pos (by omega), d5 _ (by omega), a5 _ (by omega)]
  · refine ⟨-1, mD, m3, ?_, ?_, a6⟩
    · rw [eB2, if_neg y]
    · rw [eR3, if_neg y]
/-- the answer of asked -/
noncomputable def mAskV (nx : Int → Int) (hd : Int → Prop) : Nat → Int → Int → Int
  | 0, _, _ => -1
  | k + 1, x, s => @ite Int (hd s) (Classical.propDecidable _) x (mAskV nx hd k (x + 1) (nx s))
theorem askB_ok {A : Nat → Int} {N S : Int → Int} {n L h : Int} (ht : mTok A) (n0 : 1 ≤ n) (n1 : n ≤ 40) (L0 : 0 ≤ L) (L1 : L ≤ 40) (hS : ∀ i : Nat, (i : Int) < L → 0 ≤ S i ∧ S i < 8) : ∀ (k f : Nat) (x s : Int) (m : aM), x = 10 - (k : Int) → k ≤ 9 → k < f → mNc A N S n L m → m 73 3 = s → mOk (B_asked_22 h f x m) (fun r => r.1 = mAskV (fun s => nS A h S s L.toNat) (fun s => mHh A N S n L h s) k x s ∧ ∀ q i, ¬(67 ≤ q ∧ q ≤ 75) → r.2 q i = m q i) := by
  intro k
  induction k with
  | zero =>
    intro f x s m hx hk hf hc hs
    cases f with
    | zero => omega
    | succ f =>
      rw [B_asked_22, if_pos (by omega)]
      exact mOk_some ⟨rfl, fun _ _ _ => rfl⟩
  | succ k ih =>
    intro f x s m hx hk hf hc hs
    cases f with
    | zero => omega
    | succ f =>
      obtain ⟨mD, d1, d2, d3, d4, d5, d6, r, u1, u2, u3, u4, u5⟩ := classTry (h := h) ht n0 n1 L0 L1 hS hc hs
      rw [B_asked_22, if_neg (by omega), d1]
      simp only [Option.bind_some, u1]
      rw [mAskV]
      by_cases z : r.1 = 0
      · rw [if_pos z, w32e (by omega) (by omega), if_neg (fun hh => (u3.mpr hh) z)]
        exact mOk_mono (ih f (x + 1) _ r.2 (by omega) (by omega) (by omega) (mNc_same ht u4 hc) u5) (fun r' kr => ⟨kr.1, fun q i a => (kr.2 q i a).trans (u4 q i a)⟩)
      · rw [if_neg z, if_pos (u3.mp z)]
        exact mOk_some ⟨rfl, u4⟩
theorem askR_ok {A : Nat → Int} {N S : Int → Int} {n L h x1 : Int} (ht : mTok A) (r0 : 0 ≤ x1) (r1 : x1 < 4) (n0 : 1 ≤ n) (n1 : n ≤ 40) (L0 : 0 ≤ L) (L1 : L ≤ 40) (hL : L = mLs1 A N n) (hg : ∀ k : Int, 0 ≤ k → k < n → mGd A N k) (hsd : mSaid A N n S) : ∀ (k f : Nat) (x s : Int) (m : aM), x = 10 - (k : Int) → k ≤ 9 → k < f → m 177 = A → m 206 x1.toNat = n → mNr m x1 = N → m 176 50 = s → mOk (R_asked_25 x1 h f x m) (fun r => r.1 = mAskV (fun s => nS A h S s L.toNat) (fun s => mHh A N S n L h s) k x s ∧ ∀ q i, ¬(q = 176 ∧ (i = 17 ∨ i = 22 ∨ i = 50 ∨ i = 51)) → q ≠ 182 → q ≠ 184 → q ≠ 185 → q ≠ 186 → r.2 q i = m q i) := by
  intro k
  induction k with
  | zero =>
    intro f x s m hx hk hf e177 e206 eN hs
    cases f with
    | zero => omega
    | succ f =>
      rw [R_asked_25, if_neg (by omega)]
      exact mOk_some ⟨rfl, fun _ _ _ _ _ _ _ => rfl⟩
  | succ k ih =>
    intro f x s m hx hk hf e177 e206 eN hs
    cases f with
    | zero => omega
    | succ f =>
      obtain ⟨m2, a1, m3, a2, a3, a4, a5, a6, a7, r, b1, b2, b3, b4, b5⟩ := refTry (h := h) (s := s) (x1 := x1) (m := m) ht r0 r1 n0 n1 L0 L1 hL hg hsd e177 e206 eN hs
      rw [R_asked_25, if_pos (by omega), a1]
      simp only [Option.bind_some, a2, b1]
      rw [mAskV]
      by_cases z : r.1 = 0
      · rw [if_pos z, w32e (by omega) (by omega), if_neg (fun hh => (b3.mpr hh) z)]
        exact mOk_mono (ih f (x + 1) _ r.2 (by omega) (by omega) (by omega) ((funext fun i => b4 _ _ (by omega) (by omega) (by omega) (by omega) (by omega)).trans e177) ((b4 _ _ (by omega) (by omega) (by omega) (by omega) (by omega)).trans e206) (by rw [← eN]; funext k; unfold mNr; exact b4 _ _ (by omega) (by omega) (by omega) (by omega) (by omega)) b5) (fun r' kr => ⟨kr.1, fun q i a b c d e => (kr.2 q i a b c d e).trans (b4 q i a b c d e)⟩)
      · rw [if_neg z, if_pos (b3.mp z)]
        exact mOk_some ⟨rfl, b4⟩
theorem st_asked {n : Nat} {m : aM} (h : mInv n m) (x1 x2 x3 : Int) : ∃ r m1 m2, B_asked x1 x2 x3 m = some (r, m1) ∧ R_asked x1 x2 x3 m1 = some (r, m2) ∧ mInv (n + 1) m2 := by
  have hi := mInv_0 h
  by_cases c1 : 0 ≤ x1 ∧ x1 < 4
  rotate_left
  · refine ⟨-2, m, aup m 176 0 0, ?_, ?_, hi⟩
    · unfold B_asked Rows_isRow
      by_cases d : x1 < 0
      · simp (disch := omega) only [reduceIte, if_pos, if_neg, Option.bind_some]
      · simp (disch := omega) only [reduceIte, if_pos, if_neg, Option.bind_some]
    · unfold R_asked
      simp (disch := omega) only [reduceIte, if_pos, if_neg, Option.bind_some, st1e, within_eq]
  have eRow : Rows_isRow x1 m = some 1 := by
    unfold Rows_isRow; rw [if_neg (by omega), if_pos c1.2]
  obtain ⟨v, mB, k1, k2, k3, k4⟩ := hearNoise_ok (x3 := x3) h c1.1 c1.2
  have htk := h.2.2.1
  have eB : B_asked x1 x2 x3 m = (if v = 0 then (B_asked_22 x3 FU 1 (aup mB 73 3 x2)) else (some (v, mB))) := by
    unfold B_asked
    rw [eRow]
    simp only [Option.bind_some]
    rw [if_neg (by omega), k1]
    simp only [Option.bind_some, st1e]
  have eR : ∀ mm : aM, (∀ q i, q = 177 ∨ (205 ≤ q ∧ q ≤ 207) → mm q i = m q i) → R_asked x1 x2 x3 mm = (if v = 0 then (R_asked_25 x1 x3 FU 1 (aup (aup mm 176 0 0) 176 50 x2)) else (some (v, aup mm 176 0 0))) := by
    intro mm hm
    unfold R_asked
    rw [st1e, within_eq, if_pos (by omega)]
    simp only [Option.bind_some]
    rw [if_neg (by omega), k3 _ (fun q i hq => by rw [aup_of (by omega)]; exact hm q i hq)]
    simp only [Option.bind_some, st1e]
  by_cases v0 : v = 0
  rotate_left
  · refine ⟨v, mB, aup mB 176 0 0, ?_, ?_, ?_⟩
    · rw [eB, if_neg v0]
    · rw [eR mB (fun q i hq => k2 _ _ (by omega) (by omega) (by omega) (by omega)), if_neg v0]
    · refine mInv_same (Nat.le_succ n) (fun q i hd => ?_) h
      unfold mDep at hd
      rw [aup_of (by omega), k2 _ _ (by omega) (by omega) (by omega) (by omega)]
  obtain ⟨c3, nn, L, ⟨n0, n1⟩, ⟨L0, L1⟩, g1, g2, g3, g4, g5, g6, g7⟩ := k4 v0
  clear k4
  have hS := said_rng htk (by omega) g4 g7 g6
  have hc : mNc (m 177) (mNr m x1) (fun p => mB 50 p.toNat) nn L (aup mB 73 3 x2) := by
    refine ⟨mTR_same (fun q i hq => by rw [aup_of (by omega), k2 _ _ (by omega) (by omega) (by omega) (by omega)]) h.2.2.2.1 htk.2.2.2.2.1.2, by rw [aup_of (by omega)]; exact g5, fun i hi => by rw [aup_of (by omega)]; rfl, by rw [aup_of (by omega)]; exact g2, fun k a b => by rw [aup_of (by omega)]; exact g3 k a b⟩
  obtain ⟨⟨rb, mb⟩, o1, o2, o3⟩ := askB_ok (h := x3) htk n0 n1 L0 L1 hS 9 FU 1 x2 (aup mB 73 3 x2) (by omega) (by omega) (by unfold FU; omega) hc (aup_self _ _ _ _)
  dsimp only at o2 o3
  have fr : ∀ q i, ¬(q = 49 ∧ i = 1) → q ≠ 50 → q ≠ 59 → q ≠ 60 → ¬(67 ≤ q ∧ q ≤ 75) → mb q i = m q i := fun q i a b c d e => by rw [o3 q i e, aup_of (by omega), k2 q i a b c d]
  have gg : ∀ q i, q = 177 ∨ (205 ≤ q ∧ q ≤ 207) → aup (aup mb 176 0 0) 176 50 x2 q i = m q i := fun q i hq => by rw [aup_of (by omega), aup_of (by omega)]; exact fr q i (by omega) (by omega) (by omega) (by omega) (by omega)
  obtain ⟨⟨rr, mr⟩, p1, p2, p3⟩ := askR_ok (h := x3) (x1 := x1) htk c1.1 c1.2 n0 n1 L0 L1 g4 g7 g6 9 FU 1 x2 (aup (aup mb 176 0 0) 176 50 x2) (by omega) (by omega) (by unfold FU; omega) (funext fun i => gg _ _ (by omega)) ((gg _ _ (by omega)).trans g1) (funext fun k => by unfold mNr; exact gg _ _ (by omega)) (aup_self _ _ _ _)
  dsimp only at p2 p3
  refine ⟨rb, mb, mr, by rw [eB, if_pos v0, o1], ?_, ?_⟩
  · rw [eR mb (fun q i hq => fr _ _ (by omega) (by omega) (by omega) (by omega) (by omega)), if_pos v0, p1, p2, o2]
  · refine mInv_same (Nat.le_succ n) (fun q i hd => ?_) h
    unfold mDep at hd
    rw [p3 _ _ (by omega) (by omega) (by omega) (by omega) (by omega), aup_of (by omega), aup_of (by omega)]
    exact fr q i (by omega) (by omega) (by omega) (by omega) (by omega)
