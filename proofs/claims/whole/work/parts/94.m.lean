/-! tongue -/
theorem empty_ok {m : aM} : mOk (Tongue_empty 3 m) (fun m' => (m' 3 0 = 0 ∧ m' 3 1 = 0 ∧ m' 3 2 = 0 ∧ m' 3 3 = 0 ∧ m' 3 4 = 0 ∧ m' 3 5 = 15) ∧ (∀ k : Nat, k < 8 → m' 5 k = 0) ∧ (∀ k : Nat, k < 4 → m' 22 k = 15) ∧ ∀ q i, q ≠ 3 → q ≠ 5 → q ≠ 22 → m' q i = m q i) := by
  unfold Tongue_empty
  simp only [st1e]
  refine mOk_bind (fillI_ok (by decide)) (fun m1 k1 => ?_)
  obtain ⟨p1, p2⟩ := k1
  refine mOk_bind (fillI_ok (by decide)) (fun m2 k2 => ?_)
  obtain ⟨p3, p4⟩ := k2
  rw [show aln (3 + 2) = 8 by decide] at p1 p2
  rw [show aln (3 + 19) = 4 by decide] at p3 p4
  refine mOk_some ⟨⟨?_, ?_, ?_, ?_, ?_, ?_⟩, fun k hk => ?_, p3, fun q i a b c => ?_⟩
  · rw [p4 _ _ (by omega), p2 _ _ (by omega), aup_of (by omega), aup_of (by omega), aup_of (by omega), aup_of (by omega), aup_of (by omega), aup_self]
  · rw [p4 _ _ (by omega), p2 _ _ (by omega), aup_of (by omega), aup_of (by omega), aup_of (by omega), aup_of (by omega), aup_self]
  · rw [p4 _ _ (by omega), p2 _ _ (by omega), aup_of (by omega), aup_of (by omega), aup_of (by omega), aup_self]
  · rw [p4 _ _ (by omega), p2 _ _ (by omega), aup_of (by omega), aup_of (by omega), aup_self]
  · rw [p4 _ _ (by omega), p2 _ _ (by omega), aup_of (by omega), aup_self]
  · rw [p4 _ _ (by omega), p2 _ _ (by omega), aup_self]
  · rw [p4 _ _ (by omega)]; exact p1 k hk
  · rw [p4 _ _ (by omega), p2 _ _ (by omega), aup_of (by omega), aup_of (by omega), aup_of (by omega), aup_of (by omega), aup_of (by omega), aup_of (by omega)]
theorem mTg_0 {A : Nat → Int} {b : aM} (hA : ∀ i : Nat, i < 155 → A i = 0) (h0 : b 3 0 = 0 ∧ b 3 1 = 0 ∧ b 3 2 = 0 ∧ b 3 3 = 0 ∧ b 3 4 = 0 ∧ b 3 5 = 15) (h5 : ∀ k : Nat, k < 8 → b 5 k = 0) (h22 : ∀ k : Nat, k < 4 → b 22 k = 15) : mTg A b := by
  have a0 := hA 0 (by omega)
  have a18 := hA 18 (by omega)
  have a141 := hA 141 (by omega)
  have a9 := hA 9 (by omega)
  have a140 := hA 140 (by omega)
  have a154 := hA 154 (by omega)
  constructor
  · refine ⟨by omega, fun s h1 h2 => by omega, by omega, fun s h1 h2 => ?_, by omega, fun w h1 h2 => by omega, fun v w h1 h2 h3 => by omega, fun k h1 h2 => ?_, by omega, by omega, fun s h1 h2 => by omega⟩
    · rw [hA (10 + s).toNat (by omega)]
      exact ⟨by omega, by omega, fun y y0 y1 hy => absurd (bt_0 y0 (by omega)) hy⟩
    · rw [hA (136 + k).toNat (by omega)]; omega
  · refine ⟨⟨by omega, by omega, by omega, by omega, by omega, by omega⟩, fun s h1 h2 => by omega, fun s h1 h2 => ?_, fun w h1 h2 => by omega, fun k h1 h2 => ?_, fun s h1 h2 => by omega⟩
    · rw [hA (10 + s).toNat (by omega), h5 _ (by omega)]
    · rw [hA (136 + k).toNat (by omega), h22 _ (by omega)]; rfl
theorem read_ok {T : Int → Int} {n : Int} {m mR : aM} (n0 : 0 ≤ n) (n1 : n ≤ 500) (hx : ∀ k : Int, 0 ≤ k → k < n → (0 ≤ T k ∧ T k ≤ 255) ∧ m 2 k.toNat = w8 (T k)) (hn : n ≤ m 1 1) (hr : ∀ k : Int, 0 ≤ k → k < n → mR 179 k.toNat = T k) (r8 : mR 176 8 = n) (r7 : mR 176 7 = 0) (r11 : mR 176 11 = 0) : ∃ b' m', Tape_readTongue n m = some b' ∧ R_tongue_27 FU 0 mR = R_tongue_49 m' ∧ (∀ q i, ¬(q = 1 ∧ (i = 2 ∨ (4 ≤ i ∧ i ≤ 8))) → ¬(3 ≤ q ∧ q ≤ 24) → b' q i = m q i) ∧ mFr2 mR m' ∧ mEd3 b' m' := by
  -- the reference's empty tongue
  have hz : ∃ mz : aM, (∀ i : Nat, i < 155 → mz 180 i = 0) ∧ (∀ q i, q ≠ 180 → mz q i = mR q i) ∧ R_tongue_27 FU 0 mR = (R_next mz).bind fun r9 => (R_tongue_39 FU r9) := by
    refine mTo2 (P := fun o => ∃ mz : aM, (∀ i : Nat, i < 155 → mz 180 i = 0) ∧ (∀ q i, q ≠ 180 → mz q i = mR q i) ∧ o = (R_next mz).bind fun r9 => (R_tongue_39 FU r9)) R_tongue_27 (fun x mm => (0 ≤ x ∧ x ≤ 155) ∧ (∀ i : Nat, (i : Int) < x → mm 180 i = 0) ∧ ∀ q i, q ≠ 180 → mm q i = mR q i) (fun x _ => (156 - x).toNat) ?_ 0 mR ⟨by omega, fun i a => by omega, fun _ _ _ => rfl⟩ (by omega)
    rintro fu x mm ⟨x1, hj, fr⟩ ih
    rw [R_tongue_27]
    by_cases d : x < 155
    · rw [if_pos d, if_pos (by omega), st1e, w32e (by omega) (by omega)]
      refine ih _ _ ⟨by omega, fun i a => ?_, fun q i a => by rw [aup_of (by omega)]; exact fr q i a⟩ (by omega)
      by_cases e : i = x.toNat
      · rw [e, aup_self]
      · rw [aup_of (by omega)]; exact hj i (by omega)
    · rw [if_neg d]
      exact ⟨mm, fun i a => hj i (by omega), fr, rfl⟩
  obtain ⟨mz, z1, z2, z3⟩ := hz
  -- the class's
  obtain ⟨be, ke, e0, e5, e22, ef⟩ := empty_ok (m := aup (aup (aup (aup m 1 2 n) 1 6 0) 1 7 0) 1 8 (-1))
  have fe : ∀ q i, ¬(q = 1 ∧ (i = 2 ∨ i = 6 ∨ i = 7 ∨ i = 8)) → ¬(3 ≤ q ∧ q ≤ 24) → be q i = m q i := by
    intro q i a c
    rw [ef q i (by omega) (by omega) (by omega), aup_of (by omega), aup_of (by omega), aup_of (by omega), aup_of (by omega)]
  have be2 : be 1 2 = n := by rw [ef _ _ (by omega) (by omega) (by omega), aup_of (by omega), aup_of (by omega), aup_of (by omega), aup_self]
  have be6 : be 1 6 = 0 := by rw [ef _ _ (by omega) (by omega) (by omega), aup_of (by omega), aup_of (by omega), aup_self]
  have be7 : be 1 7 = 0 := by rw [ef _ _ (by omega) (by omega) (by omega), aup_of (by omega), aup_self]
  have be8 : be 1 8 = -1 := by rw [ef _ _ (by omega) (by omega) (by omega), aup_self]
  have hxB : mTx T n be := ⟨be2, fun k a c => ⟨(hx k a c).1, by rw [fe _ _ (by omega) (by omega)]; exact (hx k a c).2⟩⟩
  have hxR : mTxR T n mz := ⟨by rw [z2 _ _ (by omega)]; exact r8, fun k a c => ⟨(hx k a c).1, by rw [z2 _ _ (by omega)]; exact hr k a c⟩⟩
  obtain ⟨b0, ka, tk, fa⟩ := advance_ok hxB n1 be6 (by omega) n0
  obtain ⟨m0, kn, ⟨k, tn⟩, fn⟩ := next_ok hxR n1 (by rw [z2 _ _ (by omega)]; exact r7) (Int.le_refl 0) n0
  obtain ⟨u4, u5, u6⟩ := mTk_uni tk tn.1
  have fb0 : ∀ q i, ¬(q = 1 ∧ (i = 4 ∨ i = 5 ∨ i = 6)) → b0 q i = be q i := fa
  have hh : mHd3 T n b0 m0 := ⟨mTx_same hxB (fa _ _ (by omega)) (fun i => fa _ _ (by omega)), mTxR_same hxR (fn _ _ (by omega)) (fun i => fn _ _ (by omega)), by rw [fa _ _ (by omega)]; exact be7, by rw [fn _ _ (by omega), z2 _ _ (by omega)]; exact r11, by rw [fa _ _ (by omega)]; exact be8, ⟨0, by rw [u4]; exact tn⟩, u5, u6⟩
  have tg : mTg (m0 180) b0 := mTg_0 (fun i a => by rw [fn _ _ (by omega)]; exact z1 i a) (by rw [fa _ _ (by omega), fa _ _ (by omega), fa _ _ (by omega), fa _ _ (by omega), fa _ _ (by omega), fa _ _ (by omega)]; exact e0) (fun k a => by rw [fa _ _ (by omega)]; exact e5 k a) (fun k a => by rw [fa _ _ (by omega)]; exact e22 k a)
  have rn := mTk_rng tn.1
  obtain ⟨b', m', kB, kR, fb, fr, ed⟩ := lines_ok n1 502 FU FU 0 b0 m0 hh tg (by rw [fn _ _ (by omega)]; exact z1 154 (by omega)) (by omega) (by omega) (by omega) (by decide) (by decide)
  refine ⟨b', m', ?_, ?_, ?_, ?_, ed⟩
  · unfold Tape_readTongue Jmath_min
    have c : ¬ (m 1 1 < n) := by omega
    rw [if_neg c, Option.bind_some, st1e, st1e, st1e, st1e, ke, Option.bind_some, ka, Option.bind_some]
    exact kB
  · rw [z3, kn, Option.bind_some]
    exact kR
  · intro q i a c
    rw [fb q i (by omega) c, fa q i (by omega)]
    exact fe q i (by omega) c
  · intro q i a c
    rw [fr q i a c, fn q i (by omega)]
    exact z2 q i c
theorem copyAll_ok {m : aM} : mOk (R_tongue_72 FU 0 m) (fun r => r.1 = m 180 154 ∧ (∀ k : Nat, k < 155 → r.2 177 k = m 180 k) ∧ r.2 177 155 = 0 ∧ ∀ q i, ¬(q = 177 ∧ i < 156) → r.2 q i = m q i) := by
  refine mL2 R_tongue_72 (fun x mm => (0 ≤ x ∧ x ≤ 155) ∧ (∀ k : Nat, (k : Int) < x → mm 177 k = m 180 k) ∧ ∀ q i, ¬(q = 177 ∧ i < 155) → mm q i = m q i) (fun x _ => (156 - x).toNat) ?_ 0 m ⟨by omega, fun k a => by omega, fun _ _ _ => rfl⟩ (by omega)
  rintro fu x mm ⟨x1, hj, fr⟩ ih
  rw [R_tongue_72]
  by_cases d : x < 155
  · rw [if_pos d, if_pos (by omega), if_pos (by omega), st1e, w32e (by omega) (by omega), fr 180 _ (by omega)]
    refine ih _ _ ⟨by omega, fun k a => ?_, fun q i a => by rw [aup_of (by omega)]; exact fr q i a⟩ (by omega)
    by_cases e : k = x.toNat
    · rw [e, aup_self]
    · rw [aup_of (by omega)]; exact hj k (by omega)
  · rw [if_neg d, st1e]
    refine mOk_some ⟨?_, fun k a => ?_, ?_, fun q i a => ?_⟩
    · dsimp only
      rw [aup_of (by omega)]; exact hj 154 (by omega)
    · dsimp only
      rw [aup_of (by omega)]; exact hj k (by omega)
    · exact aup_self mm 177 155 0
    · dsimp only
      rw [aup_of (by omega)]; exact fr q i (by omega)
theorem mTok_of {A B : Nat → Int} (t : mTokT A) (l : 0 ≤ A 154 ∧ A 154 ≤ 500) (e : ∀ k : Nat, k < 155 → B k = A k) (h5 : B 155 = 0) : mTok B := by
  obtain ⟨a0, a1, a2, a3, a4, a5, a6, a7, a8, a9, a10⟩ := t
  unfold mTok
  rw [e 0 (by omega), e 18 (by omega), e 141 (by omega), e 9 (by omega), e 140 (by omega), e 154 (by omega), h5]
  refine ⟨a0, ?_, a2, ?_, a4, ?_, ?_, ?_, a8, a9, ?_, l, by omega, fun k b1 b2 => by omega⟩
  · intro s h0 h1; rw [e _ (by omega)]; exact a1 s h0 h1
  · intro s h0 h1
    rw [e (10 + s).toNat (by omega)]
    refine ⟨(a3 s h0 h1).1, (a3 s h0 h1).2.1, fun y y0 y1 hy => ?_⟩
    rw [e (10 + y).toNat (by omega)]
    exact (a3 s h0 h1).2.2 y y0 y1 hy
  · intro w h0 h1
    rw [e (19 + w).toNat (by omega), e (32 + w).toNat (by omega), e (45 + w).toNat (by omega)]
    obtain ⟨d1, d2, d3, d4⟩ := a5 w h0 h1
    refine ⟨d1, d2, d3, fun k k0 k1 => ?_⟩
    rw [e (58 + 6 * w + k).toNat (by omega)]
    exact d4 k k0 k1
  · intro v w v0 v1 v2 hl
    rw [e (19 + v).toNat (by omega), e (19 + w).toNat (by omega)] at hl
    have d1 := (a5 v v0 (by omega)).1
    obtain ⟨k, k0, k1, k2⟩ := a6 v w v0 v1 v2 hl
    refine ⟨k, k0, ?_, ?_⟩
    · rw [e (19 + v).toNat (by omega)]; exact k1
    · rw [e (58 + 6 * v + k).toNat (by omega), e (58 + 6 * w + k).toNat (by omega)]; exact k2
  · intro k h0 h1; rw [e _ (by omega)]; exact a7 k h0 h1
  · intro s h0 h1
    rw [e (142 + s).toNat (by omega), e (148 + s).toNat (by omega)]
    exact a10 s h0 h1
theorem mTR_of {A B : Nat → Int} {m : aM} (t : mTg A m) (e : ∀ k : Nat, k < 155 → B k = A k) (h5 : B 155 = 0) (h47 : m 47 1 = 0) : mTR 3 47 B m := by
  obtain ⟨⟨a0, a1, a2, a3, a4, a5, a6, a7, a8, a9, a10⟩, ⟨x0, x1, x2, x3, x4, x5⟩, b1, b2, b3, b4, b5⟩ := t
  unfold mTR
  rw [e 0 (by omega), e 18 (by omega), e 141 (by omega), e 9 (by omega), e 140 (by omega), e 154 (by omega), h5]
  refine ⟨⟨x0, x1, x2, x3, x4, x5⟩, ?_, ?_, ?_, ?_, ?_, h47, fun k b1 b2 => by omega⟩
  · intro s h0 h1; rw [e _ (by omega)]; exact b1 s h0 h1
  · intro s h0 h1; rw [e _ (by omega)]; exact b2 s h0 h1
  · intro w h0 h1
    have l6 := (a5 w h0 h1).1
    obtain ⟨d1, d2, d3, d4⟩ := b3 w h0 h1
    rw [e (19 + w).toNat (by omega), e (32 + w).toNat (by omega), e (45 + w).toNat (by omega)]
    refine ⟨d1, d2, d3, fun k k0 k1 => ?_⟩
    rw [e (58 + 6 * w + k).toNat (by omega)]
    exact d4 k k0 k1
  · intro k h0 h1; rw [e _ (by omega)]; exact b4 k h0 h1
  · intro s h0 h1; rw [e (142 + s).toNat (by omega), e (148 + s).toNat (by omega)]; exact b5 s h0 h1
theorem st_tongue {n : Nat} {m : aM} (h : mInv n m) (x1 : Int) : ∃ r m1 m2, B_tongue x1 m = some (r, m1) ∧ R_tongue x1 m1 = some (r, m2) ∧ mInv (n + 1) m2 := by
  have hi := mInv_0 h
  obtain ⟨⟨t0, t1⟩, t2, t3⟩ := h.1
  by_cases c : 0 ≤ x1 ∧ x1 ≤ m 1 1
  rotate_left
  · refine ⟨-3, m, aup m 176 0 0, ?_, ?_, hi⟩
    · unfold B_tongue
      simp (disch := omega) only [holds_eq, Option.bind_some, reduceIte, if_pos, if_neg]
    · unfold R_tongue
      have e5 : aup m 176 0 0 176 5 = m 1 1 := by rw [aup_of (by omega)]; exact t2
      simp (disch := omega) only [st1e, within_eq, e5, Option.bind_some, reduceIte, if_pos, if_neg]
  have hT : ∀ k : Int, 0 ≤ k → k < x1 → (0 ≤ m 179 k.toNat ∧ m 179 k.toNat ≤ 255) ∧ m 2 k.toNat = w8 (m 179 k.toNat) := fun k a d => t3 k a (by omega)
  -- the class alone
  obtain ⟨b, -, kB, -, fb, -, -⟩ := read_ok (T := fun k => m 179 k.toNat) (n := x1) (m := m) (mR := aup (aup (aup m 176 8 x1) 176 7 0) 176 11 0) c.1 (by omega) hT c.2 (fun k a d => by rw [aup_of (by omega), aup_of (by omega), aup_of (by omega)]) (by rw [aup_of (by omega), aup_of (by omega), aup_self]) (by rw [aup_of (by omega), aup_self]) (aup_self _ _ _ _)
  -- the reference, behind any state of the class
  have ref : ∀ m1 : aM, (∀ q i, q = 179 ∨ (q = 176 ∧ i = 5) → m1 q i = m q i) → ∃ m', R_tongue x1 m1 = R_tongue_49 m' ∧ (∀ q i, ¬(q = 176 ∧ (i = 0 ∨ (5 ≤ i ∧ i ≤ 12))) → q ≠ 180 → m' q i = m1 q i) ∧ m' 176 5 = 0 ∧ mEd3 b m' := by
    intro m1 f1
    obtain ⟨b', m', kB', kR, fb', fr, ed⟩ := read_ok (T := fun k => m 179 k.toNat) (n := x1) (m := m) (mR := aup (aup (aup (aup (aup m1 176 0 0) 176 8 x1) 176 5 0) 176 7 0) 176 11 0) c.1 (by omega) hT c.2 (fun k a d => by rw [aup_of (by omega), aup_of (by omega), aup_of (by omega), aup_of (by omega), aup_of (by omega)]; exact f1 _ _ (Or.inl rfl)) (by rw [aup_of (by omega), aup_of (by omega), aup_of (by omega), aup_self]) (by rw [aup_of (by omega), aup_self]) (aup_self _ _ _ _)
    have eb : b = b' := by rw [kB] at kB'; exact Option.some.inj kB'
    subst eb
    refine ⟨m', ?_, fun q i a d => ?_, ?_, ed⟩
    · unfold R_tongue
      have e5 : aup m1 176 0 0 176 5 = m 1 1 := by rw [aup_of (by omega), f1 _ _ (Or.inr ⟨rfl, rfl⟩)]; exact t2
      rw [st1e, within_eq, e5, if_pos c, Option.bind_some, if_neg (by decide), st1e, st1e, st1e, st1e]
      exact kR
    · rw [fr q i (by omega) d, aup_of (by omega), aup_of (by omega), aup_of (by omega), aup_of (by omega), aup_of (by omega)]
    · rw [fr 176 5 (by omega) (by omega), aup_of (by omega), aup_of (by omega), aup_self]
  have hold : Tape_holds x1 m = some 1 := by rw [holds_eq, if_pos c]
  have e17 : aup b 1 1 0 1 7 = b 1 7 := aup_of (by omega)
  obtain ⟨k1, k2, k3, k4, k5, k6, k7, k8, k9⟩ := h
  by_cases fl : b 1 7 = 0
  rotate_left
  · -- a fault
    obtain ⟨m', kR, fr, f5, ed⟩ := ref (aup b 1 1 0) (fun q i a => by rw [aup_of (by omega)]; exact fb q i (by omega) (by omega))
    have hf : mFl b m' := by
      rcases ed with h | h
      · exact h
      · exact absurd h.1 fl
    have n11 : m' 176 11 ≠ 0 := (mFl_ne hf).2
    refine ⟨w32 (-30 - b 1 7), aup b 1 1 0, aup (aup m' 176 13 (m' 176 11)) 176 14 (m' 176 12), ?_, ?_, ?_⟩
    · unfold B_tongue
      rw [hold, Option.bind_some, if_neg (by decide), kB, Option.bind_some, st1e, e17, if_neg fl]
    · rw [kR]
      unfold R_tongue_49 R_tongue_61
      rw [st1e, aup_of (by omega), aup_of (i' := 12) (by omega), if_neg n11, st1e, aup_of (i' := 11) (by omega), aup_of (i' := 11) (by omega), if_neg n11, hf.2.1]
    · have fr2 : ∀ q i, ¬(q = 176 ∧ (i = 0 ∨ (5 ≤ i ∧ i ≤ 14))) → q ≠ 180 → ¬(q = 1 ∧ (i = 1 ∨ i = 2 ∨ (4 ≤ i ∧ i ≤ 8))) → ¬(3 ≤ q ∧ q ≤ 24) → aup (aup m' 176 13 (m' 176 11)) 176 14 (m' 176 12) q i = m q i := by
        intro q i a d e g
        rw [aup_of (by omega), aup_of (by omega), fr q i (by omega) d, aup_of (by omega)]
        exact fb q i (by omega) g
      have rw2 : ∀ q, q ≠ 176 → q ≠ 180 → q ≠ 1 → ¬(3 ≤ q ∧ q ≤ 24) → aup (aup m' 176 13 (m' 176 11)) 176 14 (m' 176 12) q = m q := fun q a d e g => rowEq fun i => fr2 q i (by omega) d (by omega) g
      have e177 := rw2 177 (by omega) (by omega) (by omega) (by omega)
      refine ⟨mTape_0 ?_ ?_, ⟨?_, ?_⟩, by rw [e177]; exact k3, ?_, mRows_c (fun q hq => rw2 q (by omega) (by omega) (by omega) (by omega)) k5, mImg_c (fun q hq => rw2 q (by omega) (by omega) (by omega) (by omega)) (fun i _ => by rw [e177]) k6, mMark_c (fr2 _ _ (by omega) (by omega) (by omega) (by omega)) (fr2 _ _ (by omega) (by omega) (by omega) (by omega)) (fr2 _ _ (by omega) (by omega) (by omega) (by omega)) (rw2 _ (by omega) (by omega) (by omega) (by omega)) (Nat.le_succ n) k7, ?_, ?_⟩
      · rw [aup_of (by omega), aup_of (by omega), fr _ _ (by omega) (by omega), aup_self]
      · rw [aup_of (by omega), aup_of (by omega)]; exact f5
      · rw [aup_of (by omega), aup_self, aup_of (by omega), aup_of (by omega), fr 1 7 (by omega) (by omega), aup_of (by omega)]; exact hf.2.1
      · rw [aup_self, aup_of (by omega), aup_of (by omega), fr 1 8 (by omega) (by omega), aup_of (by omega)]; exact hf.2.2
      · rw [e177]; exact mTR_same (fun q j hq => fr2 _ _ (by omega) (by omega) (by omega) (by omega)) k4 k3.2.2.2.2.1.2
      · exact mCutC_of (by rw [e177]; exact mAeq.refl _) k3.2.2.2.2.1.1 (fr2 _ _ (by omega) (by omega) (by omega) (by omega)) (fr2 _ _ (by omega) (by omega) (by omega) (by omega)) (rw2 _ (by omega) (by omega) (by omega) (by omega)) (rw2 _ (by omega) (by omega) (by omega) (by omega)) (rw2 _ (by omega) (by omega) (by omega) (by omega)) k8
      · exact mMendC_of (by rw [e177]; exact mAeqT.refl _) k3.2.2.2.2.1.1 (rw2 _ (by omega) (by omega) (by omega) (by omega)) (fun q a d => rw2 _ (by omega) (by omega) (by omega) (by omega)) k9
  · -- a new tongue
    obtain ⟨mA, kA, a1, a2, a3, a4, a5, a6, a7, a8⟩ := Tongue_become_ok (t := 25) (x := 3) (m := aup b 1 1 0) (by omega)
    obtain ⟨mC, kC, c1, c2, c3⟩ := forgetTongue_ok (m := aup mA 47 1 0)
    have fC : ∀ q i, ¬(q = 1 ∧ i = 1) → ¬(25 ≤ q ∧ q ≤ 47) → ¬(q = 61 ∧ i = 9) → q ≠ 107 → q ≠ 79 → q ≠ 109 → mC q i = b q i := by
      intro q i g1 g2 g3 g4 g5 g6
      rw [c3 q i g3 g4 g5 g6, aup_of (by omega), a8 q i (by omega), aup_of (by omega)]
    obtain ⟨m', kR, fr, f5, ed⟩ := ref mC (fun q i a => by rw [fC _ _ (by omega) (by omega) (by omega) (by omega) (by omega) (by omega)]; exact fb q i (by omega) (by omega))
    obtain ⟨-, b8, m11, tg, l0, l1⟩ : b 1 7 = 0 ∧ b 1 8 = -1 ∧ m' 176 11 = 0 ∧ mTg (m' 180) b ∧ 0 ≤ m' 180 154 ∧ m' 180 154 ≤ 500 := by
      rcases ed with h | h
      · exact absurd fl (mFl_ne h).1
      · exact h
    obtain ⟨⟨r, m2⟩, kc, q1, q2, q3, q4⟩ := copyAll_ok (m := aup (aup m' 176 13 0) 176 14 (-1))
    dsimp only at q1 q2 q3 q4
    have g25 : mC 25 0 = b 3 0 := by
      rw [c3 _ _ (by omega) (by omega) (by omega) (by omega), aup_of (by omega), a1 0 (by omega), aup_of (by omega)]
    have er : r = mC 25 0 := by
      rw [q1, aup_of (by omega), aup_of (by omega), g25]
      exact tg.2.1.1.symm
    refine ⟨mC 25 0, mC, m2, ?_, ?_, ?_⟩
    · unfold B_tongue
      rw [hold, Option.bind_some, if_neg (by decide), kB, Option.bind_some, st1e, e17, if_pos fl, kA, Option.bind_some, st1e, kC, Option.bind_some]
    · rw [kR]
      unfold R_tongue_49 R_tongue_61
      rw [st1e, aup_of (by omega), m11, if_pos rfl, st1e, aup_of (i' := 11) (by omega), aup_of (i' := 11) (by omega), m11, if_pos rfl, kc, er]
    · have eA : ∀ k : Nat, k < 155 → m2 177 k = m' 180 k := fun k a => by rw [q2 k a, aup_of (by omega), aup_of (by omega)]
      have tok : mTok (m2 177) := mTok_of tg.1 ⟨l0, l1⟩ eA q3
      have f2 : ∀ q i, ¬(q = 176 ∧ (i = 0 ∨ (5 ≤ i ∧ i ≤ 14))) → q ≠ 180 → ¬(q = 177 ∧ i < 156) → m2 q i = mC q i := by
        intro q i g1 g2 g3
        rw [q4 q i g3, aup_of (by omega), aup_of (by omega), fr q i (by omega) g2]
      have f3 : ∀ q i, ¬(q = 176 ∧ (i = 0 ∨ (5 ≤ i ∧ i ≤ 14))) → q ≠ 180 → ¬(q = 177 ∧ i < 156) → ¬(q = 1 ∧ (i = 1 ∨ i = 2 ∨ (4 ≤ i ∧ i ≤ 8))) → ¬(3 ≤ q ∧ q ≤ 47) → ¬(q = 61 ∧ i = 9) → q ≠ 107 → q ≠ 79 → q ≠ 109 → m2 q i = m q i := by
        intro q i g1 g2 g3 g4 g5 g6 g7 g8 g9
        rw [f2 q i g1 g2 g3, fC q i (by omega) (by omega) g6 g7 g8 g9]
        exact fb q i (by omega) (by omega)
      have r3 : ∀ q, q ≠ 176 → q ≠ 180 → q ≠ 177 → q ≠ 1 → ¬(3 ≤ q ∧ q ≤ 47) → q ≠ 61 → q ≠ 107 → q ≠ 79 → q ≠ 109 → m2 q = m q := fun q g1 g2 g3 g4 g5 g6 g7 g8 g9 => rowEq fun i => f3 q i (by omega) g2 (by omega) (by omega) g5 (by omega) g7 g8 g9
      refine ⟨mTape_0 ?_ ?_, ⟨?_, ?_⟩, tok, ?_, mRows_c (fun q hq => r3 q (by omega) (by omega) (by omega) (by omega) (by omega) (by omega) (by omega) (by omega) (by omega)) k5, mImg_c (fun q hq => r3 q (by omega) (by omega) (by omega) (by omega) (by omega) (by omega) (by omega) (by omega) (by omega)) (fun i _ => f3 _ _ (by omega) (by omega) (by omega) (by omega) (by omega) (by omega) (by omega) (by omega) (by omega)) k6, mMark_c (f3 _ _ (by omega) (by omega) (by omega) (by omega) (by omega) (by omega) (by omega) (by omega) (by omega)) (f3 _ _ (by omega) (by omega) (by omega) (by omega) (by omega) (by omega) (by omega) (by omega) (by omega)) (f3 _ _ (by omega) (by omega) (by omega) (by omega) (by omega) (by omega) (by omega) (by omega) (by omega)) (r3 _ (by omega) (by omega) (by omega) (by omega) (by omega) (by omega) (by omega) (by omega) (by omega)) (Nat.le_succ n) k7, Or.inl ?_, ?_⟩
      · rw [f2 _ _ (by omega) (by omega) (by omega), c3 _ _ (by omega) (by omega) (by omega) (by omega), aup_of (by omega), a8 _ _ (by omega), aup_self]
      · rw [q4 _ _ (by omega), aup_of (by omega), aup_of (by omega)]; exact f5
      · rw [q4 _ _ (by omega), aup_of (by omega), aup_self, f2 _ _ (by omega) (by omega) (by omega), fC _ _ (by omega) (by omega) (by omega) (by omega) (by omega) (by omega)]; exact fl.symm
      · rw [q4 _ _ (by omega), aup_self, f2 _ _ (by omega) (by omega) (by omega), fC _ _ (by omega) (by omega) (by omega) (by omega) (by omega) (by omega)]; exact b8.symm
      · have tr0 : mTR 3 47 (m2 177) (aup b 47 1 0) := mTR_of (mTg_fb tg (fun q i g1 g2 => aup_of (by omega))) eA q3 (aup_self _ _ _ _)
        have g : ∀ q j, 25 ≤ q ∧ q ≤ 46 → m2 q j = mA q j := by
          intro q j hq
          rw [f2 _ _ (by omega) (by omega) (by omega), c3 _ _ (by omega) (by omega) (by omega) (by omega), aup_of (by omega)]
        refine mTR_copy (t := 3) (b := 47) (m := aup b 47 1 0) tok ?_ ?_ ?_ ?_ ?_ ?_ ?_ ?_ ?_ tr0
        · intro j hj; rw [g _ _ (by omega), a1 j hj, aup_of (by omega), aup_of (by omega)]
        · intro j hj; rw [g _ _ (by omega), a2 j hj, aup_of (by omega), aup_of (by omega)]
        · intro j hj; rw [g _ _ (by omega), a3 j hj, aup_of (by omega), aup_of (by omega)]
        · intro w j hw hj; rw [g _ _ (by omega), a4 w j hw hj, aup_of (by omega), aup_of (by omega)]
        · intro j hj; rw [g _ _ (by omega), g _ _ (by omega), g _ _ (by omega), (a5 j hj).1, (a5 j hj).2.1, (a5 j hj).2.2, aup_of (by omega), aup_of (by omega), aup_of (by omega), aup_of (by omega), aup_of (by omega), aup_of (by omega)]; exact ⟨rfl, rfl, rfl⟩
        · intro j hj; rw [g _ _ (by omega), a6 j hj, aup_of (by omega), aup_of (by omega)]
        · intro j hj; rw [g _ _ (by omega), g _ _ (by omega), (a7 j hj).1, (a7 j hj).2, aup_of (by omega), aup_of (by omega), aup_of (by omega), aup_of (by omega)]; exact ⟨rfl, rfl⟩
        · rw [f2 _ _ (by omega) (by omega) (by omega), c3 _ _ (by omega) (by omega) (by omega) (by omega), aup_self, aup_self]
        · intro j hj; rw [f2 _ _ (by omega) (by omega) (by omega), c3 _ _ (by omega) (by omega) (by omega) (by omega), aup_of (by omega), a8 _ _ (by omega), aup_of (by omega), aup_of (by omega)]
      · rw [f2 _ _ (by omega) (by omega) (by omega)]; exact c1
      · exact mMendC_forg c2 (rowEq fun i => f2 _ _ (by omega) (by omega) (by omega)) (rowEq fun i => f2 _ _ (by omega) (by omega) (by omega)) (rowEq fun i => f2 _ _ (by omega) (by omega) (by omega))
