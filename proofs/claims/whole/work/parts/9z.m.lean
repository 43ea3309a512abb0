/-! adds -/
theorem yIsKind (x : Int) (m : aM) : B_isKind x m = some (if 0 ≤ x ∧ x ≤ 3 then 1 else 0) := by
  unfold B_isKind
  by_cases h1 : x < 0
  · rw [if_pos h1, if_neg (by omega)]
  · by_cases h2 : x < 4
    · simp (disch := omega) only [if_pos, if_neg]
    · simp (disch := omega) only [if_pos, if_neg]
theorem yAdds_r {n kd : Int} {m : aM} {A S : Nat → Int} (M : Int) (ht : mTok A) (hA : ∀ i : Nat, i < 155 → 19 + A 18 ≠ i → 45 + A 18 ≠ i → ¬(58 + 6 * A 18 ≤ i ∧ (i : Int) < 64 + 6 * A 18) → m 177 i = A i) (n1 : 1 ≤ n ∧ n ≤ 6) (k1 : 0 ≤ kd ∧ kd ≤ 3) (hk : m 177 (45 + A 18).toNat = kd) (hl : m 177 (19 + A 18).toNat = n) (hS : ∀ k : Int, 0 ≤ k → k < n → (0 ≤ S k.toNat ∧ S k.toNat < 8) ∧ mSnd A (m 179 k.toNat) (S k.toNat)) (M0 : 0 ≤ M ∧ M ≤ 2) (rd : mRdy m) : mOk (R_adds_71 n M (A 18) FU 0 m) (fun r => (∃ A1, yO A A1 kd n S ∧ ((r.1 = 1 ∧ mSur A1 0 M 0) ∨ (r.1 = 0 ∧ ¬ mSur A1 0 M 0))) ∧ (∀ q i : Nat, ¬(189 ≤ q ∧ q ≤ 195) → ¬(q = 176 ∧ (29 ≤ i ∧ i ≤ 31)) → ¬(q = 177 ∧ (58 + 6 * A 18 ≤ i ∧ (i : Int) < 64 + 6 * A 18)) → r.2 q i = m q i) ∧ r.2 176 30 = m 176 30 + 1 ∧ ∀ s : Nat, r.2 193 s ≤ r.2 176 30) := by
  have c0 := ht.1
  have c4 := ht.2.2.2.2.1
  obtain ⟨rd1, rd2, rd3, rd4⟩ := rd
  refine mL2 (R_adds_71 n M (A 18)) (fun k mm => (0 ≤ k ∧ k ≤ n) ∧ (∀ j : Int, 0 ≤ j → j < k → mm 177 (58 + 6 * A 18 + j).toNat = S j.toNat) ∧ ∀ q i : Nat, ¬(q = 177 ∧ (58 + 6 * A 18 ≤ i ∧ (i : Int) < 64 + 6 * A 18)) → mm q i = m q i) (fun k _ => (7 - k).toNat) ?_ 0 m ⟨by omega, fun j a b => by omega, fun _ _ _ => rfl⟩ (by omega)
  rintro fu k mm ⟨k2, hj, fr⟩ ih
  rw [R_adds_71]
  by_cases c : k < n
  · obtain ⟨s1, s2⟩ := hS k k2.1 c
    rw [if_pos c, if_pos (by omega), fr 179 _ (by omega), w32e (x := 6 * A 18) (by omega) (by omega), w32e (x := 58 + 6 * A 18) (by omega) (by omega), w32e (x := 58 + 6 * A 18 + k) (by omega) (by omega), w32e (x := k + 1) (by omega) (by omega)]
    refine mOk_bind (soundOf_tape (A := A) (y := m 179 k.toNat) (m := mm) ht (fun i hi => by rw [fr _ _ (by omega)]; exact hA i (by omega) (by omega) (by omega) (by omega))) (fun r kr => ?_)
    rw [mSnd_uni kr s2, if_pos (by omega), st1e]
    refine ih _ _ ⟨by omega, fun j j0 j1 => ?_, fun q i a => by rw [aup_of (by omega)]; exact fr q i a⟩ (by omega)
    by_cases e : j = k
    · rw [e, aup_self]
    · rw [aup_of (by omega)]; exact hj j j0 (by omega)
  · rw [if_neg c]
    have e18 : mm 177 18 = A 18 := by rw [fr _ _ (by omega)]; exact hA 18 (by omega) (by omega) (by omega) (by omega)
    have hO : yO A (aup mm 177 18 (mm 177 18 + 1) 177) kd n S := by
      refine ⟨by rw [aup_self, e18], fun i a b c d e => ?_, ?_, ?_, fun j j0 j1 => ?_⟩
      · rw [aup_of (by omega), fr _ _ (by omega)]; exact hA i a c d e
      · rw [aup_of (by omega), fr _ _ (by omega)]; exact hl
      · rw [aup_of (by omega), fr _ _ (by omega)]; exact hk
      · rw [aup_of (by omega)]; exact hj j j0 (by omega)
    refine mOk_bind (R_sureWith_ok (M := M) (m := mm) (by rw [e18]; exact c4) (yO_v ht hO n1 k1 (fun k a b => (hS k a b).1)) M0.1 M0.2 (by rw [fr _ _ (by omega)]; omega) (fun s => by rw [fr _ _ (by omega), fr _ _ (by omega)]; exact rd2 s)) (fun r kr => ?_)
    obtain ⟨g1, g2, g3, g4⟩ := kr
    rw [fr 176 32 (by omega), rd3, fr 176 33 (by omega), rd4] at g1
    rw [fr 176 30 (by omega)] at g3
    have f2 : ∀ q i : Nat, ¬(189 ≤ q ∧ q ≤ 195) → ¬(q = 176 ∧ (29 ≤ i ∧ i ≤ 31)) → ¬(q = 177 ∧ (58 + 6 * A 18 ≤ i ∧ (i : Int) < 64 + 6 * A 18)) → r.2 q i = m q i := fun q i a b d => by rw [g2 q i a b]; exact fr q i d
    rcases g1 with ⟨u, su⟩ | ⟨u, su⟩
    · rw [if_neg (by omega)]
      exact mOk_some ⟨⟨_, hO, Or.inl ⟨rfl, su⟩⟩, f2, g3, g4⟩
    · rw [if_pos u]
      exact mOk_some ⟨⟨_, hO, Or.inr ⟨rfl, su⟩⟩, f2, g3, g4⟩
theorem st_adds {n : Nat} {m : aM} (hn : n < 64) (h : mInv n m) (x1 x2 x3 : Int) : ∃ r m1 m2, B_adds x1 x2 x3 m = some (r, m1) ∧ R_adds x1 x2 x3 m1 = some (r, m2) ∧ mInv (n + 1) m2 := by
  have hi := mInv_0 h
  have ht := h.2.2.1
  have c0 := ht.1
  have c4 := ht.2.2.2.2.1
  have mk := h.2.2.2.2.2.2.1
  obtain ⟨⟨t0, t1⟩, t2, t3⟩ := h.1
  have e5 : aup m 176 0 0 176 5 = m 1 1 := by rw [aup_of (by omega)]; exact t2
  by_cases ck : 0 ≤ x1 ∧ x1 ≤ 3
  rotate_left
  · refine ⟨-2, m, aup m 176 0 0, ?_, ?_, hi⟩
    · unfold B_adds
      rw [yIsKind, if_neg ck, Option.bind_some, if_pos rfl]
    · unfold R_adds
      rw [st1e, within_eq, if_neg ck, Option.bind_some, if_pos rfl]
  by_cases c : (0 ≤ x2 ∧ x2 ≤ m 1 1) ∧ 0 ≤ x3 ∧ x3 ≤ 2
  rotate_left
  · refine ⟨-3, m, aup m 176 0 0, ?_, ?_, hi⟩
    · unfold B_adds
      rw [yIsKind, if_pos ck, Option.bind_some, if_neg (by decide), holds_eq, Option.bind_some]
      by_cases d : 0 ≤ x2 ∧ x2 ≤ m 1 1
      · rw [if_pos d, if_neg (by decide)]
        by_cases e : x3 < 0
        · rw [if_pos e]
        · rw [if_neg e, if_pos (by omega)]
      · rw [if_neg d, if_pos rfl]
    · unfold R_adds
      rw [st1e, within_eq, if_pos ck, Option.bind_some, if_neg (by decide), within_eq, e5, Option.bind_some]
      by_cases d : 0 ≤ x2 ∧ x2 ≤ m 1 1
      · rw [if_pos d, if_neg (by decide), within_eq, if_neg (by omega), Option.bind_some, if_pos rfl]
      · rw [if_neg d, if_pos rfl]
  obtain ⟨c1, c2⟩ := c
  obtain ⟨⟨f, mA⟩, kA, hA, frA⟩ := spellInto_ok ht h.2.2.2.1 h.1 c1.1 c1.2
  dsimp only at hA frA
  have fr : ∀ q i, ¬(q = 49 ∧ i = 1) → q ≠ 50 → ¬(q = 1 ∧ i = 1) → aup mA 1 1 0 q i = m q i := fun q i a b d => by rw [aup_of (by omega), frA q i a b]
  have v50 : aup mA 1 1 0 50 = mA 50 := funext fun i => aup_of (by omega)
  have v11 : aup mA 1 1 0 1 1 = 0 := aup_self _ _ _ _
  have bB : ∀ R, (R = B_adds x1 x2 x3 m) → R = (if f = 0 then some (-9, aup mA 1 1 0) else if x2 < 1 then some (-9, aup mA 1 1 0) else if 6 < x2 then some (-9, aup mA 1 1 0) else (Tongue_findWord 25 50 x2 (aup mA 1 1 0)).bind fun r12 => if r12 = (-1) then (Mender_isSureWith 50 x2 x1 x3 (aup mA 1 1 0)).bind fun r14 => (if r14.1 = 0 then (some (0, r14.2)) else (some (1, r14.2))) else some (-9, aup mA 1 1 0)) := by
    intro R e
    rw [e]
    unfold B_adds
    rw [yIsKind, if_pos ck, Option.bind_some, if_neg (by decide), holds_eq, if_pos c1, Option.bind_some, if_neg (by decide), if_neg (by omega), if_neg (by omega), kA, Option.bind_some, st1e]
  have bBe := bB _ rfl
  clear bB kA
  generalize aup mA 1 1 0 = m1 at fr v50 v11 bBe
  have e177 : m1 177 = m 177 := funext fun i => fr _ _ (by omega) (by omega) (by omega)
  have e179 : m1 179 = m 179 := funext fun i => fr _ _ (by omega) (by omega) (by omega)
  have hr1 : mTR 25 47 (m 177) m1 := mTR_same (fun q j hq => fr q j (by omega) (by omega) (by omega)) h.2.2.2.1 c4.2
  have rR : ∀ ma, (∀ q i, ¬(80 ≤ q ∧ q ≤ 103) → ma q i = m1 q i) → ∀ mb, mb = aup (aup ma 176 0 0) 176 5 0 → R_adds x1 x2 x3 ma = (if (if 1 ≤ x2 ∧ x2 ≤ 6 then (1 : Int) else 0) = 0 then some (-9, mb) else (R_areSoundsOnTape x2 mb).bind fun r11 => (if r11 = 0 then some (-9, mb) else (R_wordOf 177 0 x2 mb).bind fun r13 => (if r13 = (-1) then (R_adds_71 x2 x3 (m 177 18) FU 0 (aup (aup mb 177 (45 + m 177 18).toNat x1) 177 (19 + m 177 18).toNat x2)) else some (-9, mb)))) := by
    intro ma fa mb eb
    have ea : aup ma 176 0 0 176 5 = m 1 1 := by rw [aup_of (by omega), fa _ _ (by omega), fr _ _ (by omega) (by omega) (by omega)]; exact t2
    have e18 : mb 177 18 = m 177 18 := by rw [eb, aup_of (by omega), aup_of (by omega), fa _ _ (by omega), fr _ _ (by omega) (by omega) (by omega)]
    unfold R_adds
    rw [st1e, within_eq, if_pos ck, Option.bind_some, if_neg (by decide), within_eq, ea, if_pos c1, Option.bind_some, if_neg (by decide), within_eq, if_pos c2, Option.bind_some, if_neg (by decide), st1e, ← eb, within_eq, Option.bind_some, e18, w32e (x := 45 + m 177 18) (by omega) (by omega), if_pos (show 0 ≤ 45 + m 177 18 ∧ 45 + m 177 18 < 588 by omega), st1e, w32e (x := 19 + m 177 18) (by omega) (by omega), if_pos (show 0 ≤ 19 + m 177 18 ∧ 19 + m 177 18 < 588 by omega), st1e]
  have inv9 : mInv (n + 1) (aup (aup m1 176 0 0) 176 5 0) := by
    refine mInv_tape (Nat.le_succ n) ?_ (mTape_0 ?_ (aup_self _ _ _ _)) h
    · intro q i hd g1 g2 g3 g4
      unfold mDep at hd
      rw [aup_of (by omega), aup_of (by omega)]
      exact fr _ _ (by omega) (by omega) (by omega)
    · rw [aup_of (by omega), aup_of (by omega)]; exact v11
  have b177 : aup (aup m1 176 0 0) 176 5 0 177 = m 177 := funext fun i => by rw [aup_of (by omega), aup_of (by omega), e177]
  have b179 : aup (aup m1 176 0 0) 176 5 0 179 = m 179 := funext fun i => by rw [aup_of (by omega), aup_of (by omega), e179]
  have r1 := rR m1 (fun _ _ _ => rfl) _ rfl
  have as := areSounds_ok (n := x2) (m := aup (aup m1 176 0 0) 176 5 0) (by rw [b177]; exact ht) (by omega)
  rw [b177, b179] at as
  obtain ⟨a0, ka, has⟩ := as
  by_cases c6 : 1 ≤ x2 ∧ x2 ≤ 6
  rotate_left
  · refine ⟨-9, m1, _, ?_, ?_, inv9⟩
    · rw [bBe]
      by_cases d : f = 0
      · rw [if_pos d]
      · rw [if_neg d]
        by_cases d1 : x2 < 1
        · rw [if_pos d1]
        · rw [if_neg d1, if_pos (by omega)]
    · rw [r1, if_neg c6, if_pos rfl]
  rw [if_pos c6, if_neg (by decide), ka, Option.bind_some] at r1
  rcases hA with ⟨f0, hno⟩ | ⟨f1, n40, l49, hs⟩
  · refine ⟨-9, m1, _, by rw [bBe, if_pos f0], ?_, inv9⟩
    rw [r1]
    rcases has with ⟨z, -⟩ | ⟨-, z⟩
    · rw [if_pos z]
    · exfalso
      rcases hno with g | ⟨k, k0, k1, g⟩
      · omega
      · exact z k k0 k1 g
  have a1 : ¬ a0 = 0 := by
    intro z
    rcases has with ⟨-, k, k0, k1, g⟩ | ⟨z', -⟩
    · have := mSnd_uni (hs k k0 k1).2 g
      have := (hs k k0 k1).1
      omega
    · omega
  rw [if_neg a1] at r1
  rw [if_neg (by omega), if_neg (by omega), if_neg (by omega)] at bBe
  have wo := wordOf_ok (n := x2) (m := aup (aup m1 176 0 0) 176 5 0) (by rw [b177]; exact ht)
  rw [b177, b179] at wo
  obtain ⟨w0, kw, hw⟩ := wo
  rw [kw, Option.bind_some] at r1
  have s50 : ∀ k : Int, 0 ≤ k → k < x2 → 0 ≤ m1 50 k.toNat ∧ mSnd (m 177) (m 179 k.toNat) (m1 50 k.toNat) := fun k k0 k1 => by rw [v50]; exact hs k k0 k1
  obtain ⟨w1, kf, hf⟩ := findWord_tape (n := x2) (m := m1) (by rw [e177]; exact ht) (by rw [e177]; exact hr1) (m 179) (fun k k0 k1 => by rw [e177]; exact (s50 k k0 k1).2)
  rw [e177] at hf
  have ew : w0 = w1 := mFst_uni (fun _ _ _ => Iff.rfl) hw hf
  rw [kf, Option.bind_some] at bBe
  by_cases d : w1 = -1
  rotate_left
  · exact ⟨-9, m1, _, by rw [bBe, if_neg d], by rw [r1, ew, if_neg d], inv9⟩
  rw [if_pos d] at bBe
  have sb : ∀ k : Int, 0 ≤ k → k < x2 → 0 ≤ m1 50 k.toNat ∧ m1 50 k.toNat < 8 := fun k k0 k1 => by
    have := s50 k k0 k1
    have := mSnd_bd this.2
    omega
  -- the class
  obtain ⟨X, kX, ld, fl⟩ := load_ok (Z := 0) ht hr1
  have X50 : X 50 = m1 50 := funext fun i => fl _ _ (by omega) (by omega)
  obtain ⟨⟨v, m3⟩, kS, q1, q2, q3⟩ := os_ok (kd := x1) (n := x2) (M := x3) (x := 50) (m := X) ht (yB_ld ht ld) (by unfold mM3; omega) c6 ck (by rw [show aln 50 = 40 by decide]; omega) (by omega) (fun k k0 k1 => by rw [X50]; exact sb k k0 k1)
  dsimp only at q1 q2 q3
  rw [X50] at q2
  have f3 : ∀ q i, ¬(80 ≤ q ∧ q ≤ 103) → m3 q i = m1 q i := fun q i a => by rw [q3 q i a]; exact fl q i (by omega) (by omega)
  have kB : B_adds x1 x2 x3 m = some (if v = -1 then 1 else 0, m3) := by
    rw [bBe]
    unfold Mender_isSureWith
    rw [kX, Option.bind_some]
    cases kp : Twins_putOneMore 50 x2 x1 X with
    | none => rw [kp] at kS; exact absurd kS (by simp)
    | some Y =>
      rw [kp, Option.bind_some] at kS
      rw [Option.bind_some, kS, Option.bind_some]
      dsimp only
      by_cases g : v = -1
      · rw [if_pos g, if_pos g, Option.bind_some]
        dsimp only
        rw [if_neg (by decide)]
      · rw [if_neg g, if_neg g, Option.bind_some]
        dsimp only
        rw [if_pos rfl]
  -- the reference
  have g177 : aup (aup m3 176 0 0) 176 5 0 177 = m 177 := funext fun i => by rw [aup_of (by omega), aup_of (by omega), f3 _ _ (by omega), e177]
  have g179 : aup (aup m3 176 0 0) 176 5 0 179 = m 179 := funext fun i => by rw [aup_of (by omega), aup_of (by omega), f3 _ _ (by omega), e179]
  have r3 := rR m3 f3 _ rfl
  have as3 := areSounds_ok (n := x2) (m := aup (aup m3 176 0 0) 176 5 0) (by rw [g177]; exact ht) (by omega)
  rw [g177, g179] at as3
  obtain ⟨a3, ka3, has3⟩ := as3
  have a31 : ¬ a3 = 0 := by
    intro z
    rcases has3 with ⟨-, k, k0, k1, g⟩ | ⟨z', -⟩
    · have := mSnd_uni (hs k k0 k1).2 g
      have := (hs k k0 k1).1
      omega
    · omega
  have wo3 := wordOf_ok (n := x2) (m := aup (aup m3 176 0 0) 176 5 0) (by rw [g177]; exact ht)
  rw [g177, g179] at wo3
  obtain ⟨w3, kw3, hw3⟩ := wo3
  have ew3 : w3 = w1 := mFst_uni (fun _ _ _ => Iff.rfl) hw3 hf
  rw [if_pos c6, if_neg (by decide), ka3, Option.bind_some, if_neg a31, kw3, Option.bind_some, if_pos (by omega)] at r3
  have f5 : ∀ q i, ¬(80 ≤ q ∧ q ≤ 103) → ¬(q = 176 ∧ (i = 0 ∨ i = 5)) → ¬(q = 177 ∧ (i = (45 + m 177 18).toNat ∨ i = (19 + m 177 18).toNat)) → aup (aup (aup (aup m3 176 0 0) 176 5 0) 177 (45 + m 177 18).toNat x1) 177 (19 + m 177 18).toNat x2 q i = m1 q i := fun q i a b d => by rw [aup_of (by omega), aup_of (by omega), aup_of (by omega), aup_of (by omega)]; exact f3 q i a
  have v5 : aup (aup (aup (aup m3 176 0 0) 176 5 0) 177 (45 + m 177 18).toNat x1) 177 (19 + m 177 18).toNat x2 176 5 = 0 := by rw [aup_of (by omega), aup_of (by omega), aup_self]
  have v45 : aup (aup (aup (aup m3 176 0 0) 176 5 0) 177 (45 + m 177 18).toNat x1) 177 (19 + m 177 18).toNat x2 177 (45 + m 177 18).toNat = x1 := by rw [aup_of (by omega), aup_self]
  have v19 : aup (aup (aup (aup m3 176 0 0) 176 5 0) 177 (45 + m 177 18).toNat x1) 177 (19 + m 177 18).toNat x2 177 (19 + m 177 18).toNat = x2 := aup_self _ _ _ _
  have v79 : ∀ q, 79 ≤ q → q ≤ 119 → aup (aup (aup (aup m3 176 0 0) 176 5 0) 177 (45 + m 177 18).toNat x1) 177 (19 + m 177 18).toNat x2 q = m3 q := fun q a b => funext fun i => by rw [aup_of (by omega), aup_of (by omega), aup_of (by omega), aup_of (by omega)]
  generalize aup (aup (aup (aup m3 176 0 0) 176 5 0) 177 (45 + m 177 18).toNat x1) 177 (19 + m 177 18).toNat x2 = m5 at f5 v5 v45 v19 v79 r3
  have f6 : ∀ q i, ¬(80 ≤ q ∧ q ≤ 103) → ¬(q = 49 ∧ i = 1) → q ≠ 50 → ¬(q = 1 ∧ i = 1) → ¬(q = 176 ∧ (i = 0 ∨ i = 5)) → ¬(q = 177 ∧ (i = (45 + m 177 18).toNat ∨ i = (19 + m 177 18).toNat)) → m5 q i = m q i := fun q i a b c d e g => by rw [f5 q i a e g]; exact fr q i b c d
  have rd : mRdy m5 := by
    have r0 := mRdy_of (by omega) mk
    unfold mRdy at *
    rw [f6 176 30 (by omega) (by omega) (by omega) (by omega) (by omega) (by omega), f6 176 32 (by omega) (by omega) (by omega) (by omega) (by omega) (by omega), f6 176 33 (by omega) (by omega) (by omega) (by omega) (by omega) (by omega), show m5 193 = m 193 from funext fun i => f6 _ _ (by omega) (by omega) (by omega) (by omega) (by omega) (by omega)]
    exact r0
  obtain ⟨⟨r', m6⟩, kR, ⟨A1, hO, ans⟩, g1, g2, g3⟩ := yAdds_r (n := x2) (kd := x1) (m := m5) (A := m 177) (S := m1 50) x3 ht (fun i a b c d => f6 _ _ (by omega) (by omega) (by omega) (by omega) (by omega) (by omega)) c6 ck v45 v19 (fun k k0 k1 => ⟨sb k k0 k1, by rw [f6 _ _ (by omega) (by omega) (by omega) (by omega) (by omega) (by omega)]; exact (s50 k k0 k1).2⟩) c2 rd
  dsimp only at ans g1 g2 g3
  have er : r' = if v = -1 then 1 else 0 := by
    have := q2 A1 hO
    by_cases g : v = -1
    · rw [if_pos g]
      rcases ans with a | a
      · exact a.1
      · exact absurd (this.mp g) a.2
    · rw [if_neg g]
      rcases ans with a | a
      · exact absurd (this.mpr a.2) g
      · exact a.1
  refine ⟨_, m3, m6, kB, by rw [r3, kR, er], ?_⟩
  have e30 : m5 176 30 = m 176 30 := f6 _ _ (by omega) (by omega) (by omega) (by omega) (by omega) (by omega)
  refine mInv_slot h (fun q i hd a b c d e g i1 i2 => ?_) (fun k a b c d => ?_) (fun i a => ?_) (mTape_0 ?_ ?_) ⟨?_, g3, ?_, ?_⟩ ?_
  · unfold mDep at hd
    rw [g1 q i (by omega) (by omega) (by omega)]
    exact f6 q i (by omega) (by omega) (by omega) (by omega) (by omega) (by omega)
  · rw [g1 _ _ (by omega) (by omega) (by omega)]
    exact f6 _ _ (by omega) (by omega) (by omega) (by omega) (by omega) (by omega)
  · rw [g1 _ _ (by omega) (by omega) (by omega)]
    exact f6 _ _ (by omega) (by omega) (by omega) (by omega) (by omega) (by omega)
  · rw [g1 _ _ (by omega) (by omega) (by omega), f5 _ _ (by omega) (by omega) (by omega)]; exact v11
  · rw [g1 _ _ (by omega) (by omega) (by omega)]; exact v5
  · have := mk.1
    omega
  · rw [g1 _ _ (by omega) (by omega) (by omega), f6 _ _ (by omega) (by omega) (by omega) (by omega) (by omega) (by omega)]; exact mk.2.2.1
  · rw [g1 _ _ (by omega) (by omega) (by omega), f6 _ _ (by omega) (by omega) (by omega) (by omega) (by omega) (by omega)]; exact mk.2.2.2
  · have f7 : ∀ q, 79 ≤ q → q ≤ 119 → ¬(80 ≤ q ∧ q ≤ 103) → m6 q = m q := fun q a b c => rowEq fun i => by
      rw [g1 q i (by omega) (by omega) (by omega)]
      exact f6 q i c (by omega) (by omega) (by omega) (by omega) (by omega)
    refine mMendC_of (fun k a b c d => ?_) c4.1 (f7 79 (by omega) (by omega) (by omega)) (fun q a b => f7 q (by omega) b (by omega)) h.2.2.2.2.2.2.2.2
    rw [g1 _ _ (by omega) (by omega) (by omega)]
    exact f6 _ _ (by omega) (by omega) (by omega) (by omega) (by omega) (by omega)
