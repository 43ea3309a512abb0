/-! WHAT MAY STAND BEHIND WHAT; sentences: judge -/
def mKs (A : Nat → Int) (kd w : Int) : Prop := kd = 4 ∨ iand (ishr (A (136 + kd).toNat) (A (45 + w).toNat)) 1 = 0
def mKe (A : Nat → Int) (kd : Int) : Prop := kd ≠ 4 ∧ iand (ishr (A 140) kd) 1 = 0
theorem mayFollow_ok {kd w : Int} {m : aM} (ht : mTok (m 177)) (hr : mTR 25 47 (m 177) m) (k0 : 0 ≤ kd) (k1 : kd ≤ 4) (w0 : 0 ≤ w) (w1 : w < m 177 18) : mOk (Tongue_mayFollow 25 kd w m) (fun r => (r = 0 ∨ r = 1) ∧ (r ≠ 0 ↔ mKs (m 177) kd w)) := by
  have c4 := ht.2.2.2.2.1
  unfold Tongue_mayFollow Tongue_mayFollow_15 mKs
  by_cases c : kd = 4
  · rw [if_pos c]
    exact mOk_some ⟨Or.inr rfl, by simp; exact Or.inl c⟩
  · have d3 := (ht.2.2.2.2.2.1 w w0 w1).2.2.1
    have d7 := ht.2.2.2.2.2.2.2.1 kd k0 (by omega)
    rw [if_neg c, if_pos (by omega), if_pos (by omega), hr.2.2.2.2.1 kd k0 (by omega), (hr.2.2.2.1 w w0 w1).2.2.1, bt_neg4 d7.1 d7.2 d3.1 d3.2]
    have b := bt_01 (a := m 177 (136 + kd).toNat) (k := m 177 (45 + w).toNat)
    by_cases z : iand (ishr (m 177 (136 + kd).toNat) (m 177 (45 + w).toNat)) 1 = 0
    · rw [if_neg (by omega)]
      exact mOk_some ⟨Or.inr rfl, by simp; exact Or.inr z⟩
    · rw [if_pos (by omega)]
      exact mOk_some ⟨Or.inl rfl, by simp; exact ⟨c, z⟩⟩
theorem mayEnd_ok {kd : Int} {m : aM} (ht : mTok (m 177)) (hr : mTR 25 47 (m 177) m) (k0 : 0 ≤ kd) (k1 : kd ≤ 4) : mOk (Tongue_mayEnd 25 kd m) (fun r => (r = 0 ∨ r = 1) ∧ (r ≠ 0 ↔ mKe (m 177) kd)) := by
  unfold Tongue_mayEnd mKe
  by_cases c : kd = 4
  · rw [if_pos c]
    exact mOk_some ⟨Or.inl rfl, by simp; intro h; exact absurd c h⟩
  · have d8 := ht.2.2.2.2.2.2.2.2.1
    rw [if_neg c, hr.1.2.2.2.2.2, bt_neg4 d8.1 d8.2 k0 (by omega)]
    have b := bt_01 (a := m 177 140) (k := kd)
    by_cases z : iand (ishr (m 177 140) kd) 1 = 0
    · rw [if_neg (by omega)]
      exact mOk_some ⟨Or.inr rfl, by simp; exact ⟨c, z⟩⟩
    · rw [if_pos (by omega)]
      exact mOk_some ⟨Or.inl rfl, by simp; intro _; exact z⟩
theorem mayStand_ok {a w : Int} {m : aM} (ht : mTok (m 177)) (a0 : 0 ≤ a) (a1 : a < m 177 18) (w0 : 0 ≤ w) (w1 : w < m 177 18) : mOk (R_mayStand a w m) (fun r => (r = 0 ∨ r = 1) ∧ (r ≠ 0 ↔ mKs (m 177) (m 177 (45 + a).toNat) w)) := by
  have c4 := ht.2.2.2.2.1
  have d3 := (ht.2.2.2.2.2.1 a a0 a1).2.2.1
  unfold R_mayStand mKs
  simp (disch := omega) only [w32e, if_pos]
  by_cases z : iand (ishr (m 177 (136 + m 177 (45 + a).toNat).toNat) (m 177 (45 + w).toNat)) 1 = 0
  · rw [if_pos z]
    exact mOk_some ⟨Or.inr rfl, by simp; exact Or.inr z⟩
  · rw [if_neg z]
    exact mOk_some ⟨Or.inl rfl, by simp; exact ⟨by omega, z⟩⟩
theorem RmayEnd_ok {w : Int} {m : aM} (ht : mTok (m 177)) (w0 : 0 ≤ w) (w1 : w < m 177 18) : mOk (R_mayEnd w m) (fun r => (r = 0 ∨ r = 1) ∧ (r ≠ 0 ↔ mKe (m 177) (m 177 (45 + w).toNat))) := by
  have c4 := ht.2.2.2.2.1
  have d3 := (ht.2.2.2.2.2.1 w w0 w1).2.2.1
  unfold R_mayEnd mKe
  simp (disch := omega) only [w32e, if_pos]
  by_cases z : iand (ishr (m 177 140) (m 177 (45 + w).toNat)) 1 = 0
  · rw [if_pos z]
    exact mOk_some ⟨Or.inr rfl, by simp; exact ⟨by omega, z⟩⟩
  · rw [if_neg z]
    exact mOk_some ⟨Or.inl rfl, by simp; intro _; exact z⟩
/-- the kind ahead of a place of a row of words -/
def mKat (A : Nat → Int) (N : Int → Int) (k : Int) : Int := if k = 0 then 4 else A (45 + N (k - 1)).toNat
def mGd (A : Nat → Int) (N : Int → Int) (k : Int) : Prop := (0 ≤ N k ∧ N k < A 18) ∧ mKs A (mKat A N k) (N k)
def mFw (A : Nat → Int) (N : Int → Int) (n f : Int) : Prop := 0 ≤ f ∧ f ≤ n ∧ (∀ k : Int, 0 ≤ k → k < f → mGd A N k) ∧ (f < n → ¬ mGd A N f)
theorem mFw_uni {A : Nat → Int} {N : Int → Int} {n f f' : Int} (h : mFw A N n f) (h' : mFw A N n f') : f = f' := by
  obtain ⟨a0, a1, a2, a3⟩ := h
  obtain ⟨b0, b1, b2, b3⟩ := h'
  rcases Int.lt_trichotomy f f' with c | c | c
  · exact absurd (b2 f a0 c) (a3 (by omega))
  · exact c
  · exact absurd (a2 f' b0 c) (b3 (by omega))
theorem mKat_in {A : Nat → Int} {N : Int → Int} {k : Int} (ht : mTok A) (k0 : 0 ≤ k) (h : ∀ j : Int, 0 ≤ j → j < k → mGd A N j) : 0 ≤ mKat A N k ∧ mKat A N k ≤ 4 := by
  unfold mKat
  by_cases c : k = 0
  · rw [if_pos c]; omega
  · rw [if_neg c]
    have g := (h (k - 1) (by omega) (by omega)).1
    have := (ht.2.2.2.2.2.1 _ g.1 g.2).2.2.1
    omega
def mLs1 (A : Nat → Int) (N : Int → Int) (f : Int) : Int := mSum (fun k => A (19 + N k).toNat) f.toNat
def mUs1 (A : Nat → Int) (N : Int → Int) (f : Int) : Int := mSum (fun k => A (32 + N k).toNat) f.toNat
theorem mLs1_bd {A : Nat → Int} {N : Int → Int} {f : Int} (ht : mTok A) (f0 : 0 ≤ f) (f1 : f ≤ 40) (h : ∀ j : Int, 0 ≤ j → j < f → mGd A N j) : (0 ≤ mLs1 A N f ∧ mLs1 A N f ≤ 240) ∧ 0 ≤ mUs1 A N f ∧ mUs1 A N f ≤ 3960 := by
  have c5 := ht.2.2.2.2.2.1
  have b1 := mSum_bd (f := fun k => A (19 + N k).toNat) (c := 6) (by omega) (n := f.toNat) (fun i i0 i1 => by
    have g := (h i i0 (by omega)).1
    have := (c5 _ g.1 g.2).1
    omega)
  have b2 := mSum_bd (f := fun k => A (32 + N k).toNat) (c := 99) (by omega) (n := f.toNat) (fun i i0 i1 => by
    have g := (h i i0 (by omega)).1
    have := (c5 _ g.1 g.2).2.1
    omega)
  unfold mLs1 mUs1
  omega
theorem hear_ok {r n : Int} {N : Int → Int} {m : aM} (ht : mTok (m 177)) (hr : mTR 25 47 (m 177) m) (r0 : 0 ≤ r) (r1 : r < 4) (hn : m 57 r.toNat = n) (n0 : 0 ≤ n) (n1 : n ≤ 40) (hN : ∀ k : Int, 0 ≤ k → k < n → m (53 + r.toNat) k.toNat = N k) : mOk (Verdict_hear r m) (fun m' => (∃ f, mFw (m 177) N n f ∧ m' 59 1 = f ∧ m' 59 2 = (if f < n then f else -1) ∧ m' 59 3 = mLs1 (m 177) N f ∧ m' 59 4 = mUs1 (m 177) N f ∧ (m' 59 5 = 0 ∨ m' 59 5 = 1) ∧ (m' 59 5 ≠ 0 ↔ f = n ∧ mKe (m 177) (mKat (m 177) N n)) ∧ ∀ k : Int, 0 ≤ k → k < f → m' 60 k.toNat = N k) ∧ ∀ q i, q ≠ 59 → q ≠ 60 → m' q i = m q i) := by
  have c4 := ht.2.2.2.2.1
  have c5 := ht.2.2.2.2.2.1
  unfold Verdict_hear
  refine mOk_st1 (mOk_st1 (mOk_st1 (mOk_st1 ?_)))
  refine mL3 (Verdict_hear_16 r) (fun kd x mm => 0 ≤ x ∧ (∀ q i, q ≠ 59 → q ≠ 60 → mm q i = m q i) ∧
    ((mm 59 2 = -1 ∧ x ≤ n ∧ kd = mKat (m 177) N x ∧ (∀ k : Int, 0 ≤ k → k < x → mGd (m 177) N k) ∧ mm 59 1 = x ∧ mm 59 3 = mLs1 (m 177) N x ∧ mm 59 4 = mUs1 (m 177) N x ∧ ∀ k : Int, 0 ≤ k → k < x → mm 60 k.toNat = N k) ∨
     (∃ f, f < n ∧ mFw (m 177) N n f ∧ x = f + 1 ∧ mm 59 2 = f ∧ mm 59 1 = f ∧ mm 59 3 = mLs1 (m 177) N f ∧ mm 59 4 = mUs1 (m 177) N f ∧ ∀ k : Int, 0 ≤ k → k < f → mm 60 k.toNat = N k))) (fun _ x _ => (42 - x).toNat) ?_ 4 0 _ ⟨by omega, ?_, ?_⟩ (by omega)
  rotate_left
  · intro q i h1 h2
    rw [aup_of (by omega), aup_of (by omega), aup_of (by omega), aup_of (by omega)]
  · refine Or.inl ⟨?_, n0, ?_, fun k a b => by omega, ?_, ?_, ?_, fun k a b => by omega⟩
    · rw [aup_of (by omega), aup_of (by omega), aup_self]
    · unfold mKat; rw [if_pos rfl]
    · rw [aup_of (by omega), aup_of (by omega), aup_of (by omega), aup_self]
    · rw [aup_of (by omega), aup_self]; rfl
    · rw [aup_self]; rfl
  rintro fu kd x mm ⟨x0, fr, hst⟩ ih
  have e177 : mm 177 = m 177 := funext fun i => fr _ _ (by omega) (by omega)
  have ht2 : mTok (mm 177) := by rw [e177]; exact ht
  have hr2 : mTR 25 47 (mm 177) mm := by rw [e177]; exact mTR_same (fun q j hq => fr q j (by omega) (by omega)) hr c4.2
  have done : ∀ f, mFw (m 177) N n f → mm 59 1 = f → mm 59 2 = (if f < n then f else -1) → mm 59 3 = mLs1 (m 177) N f → mm 59 4 = mUs1 (m 177) N f → (∀ k : Int, 0 ≤ k → k < f → mm 60 k.toNat = N k) → (f = n → kd = mKat (m 177) N n) → mOk (Verdict_hear_86 kd mm) (fun m' => (∃ f, mFw (m 177) N n f ∧ m' 59 1 = f ∧ m' 59 2 = (if f < n then f else -1) ∧ m' 59 3 = mLs1 (m 177) N f ∧ m' 59 4 = mUs1 (m 177) N f ∧ (m' 59 5 = 0 ∨ m' 59 5 = 1) ∧ (m' 59 5 ≠ 0 ↔ f = n ∧ mKe (m 177) (mKat (m 177) N n)) ∧ ∀ k : Int, 0 ≤ k → k < f → m' 60 k.toNat = N k) ∧ ∀ q i, q ≠ 59 → q ≠ 60 → m' q i = m q i) := by
    intro f hf h1 h2 h3 h4 h5 h6
    have fin : ∀ s : Int, (s = 0 ∨ s = 1) → (s ≠ 0 ↔ f = n ∧ mKe (m 177) (mKat (m 177) N n)) → mOk (Verdict_hear_98 s mm) (fun m' => (∃ f, mFw (m 177) N n f ∧ m' 59 1 = f ∧ m' 59 2 = (if f < n then f else -1) ∧ m' 59 3 = mLs1 (m 177) N f ∧ m' 59 4 = mUs1 (m 177) N f ∧ (m' 59 5 = 0 ∨ m' 59 5 = 1) ∧ (m' 59 5 ≠ 0 ↔ f = n ∧ mKe (m 177) (mKat (m 177) N n)) ∧ ∀ k : Int, 0 ≤ k → k < f → m' 60 k.toNat = N k) ∧ ∀ q i, q ≠ 59 → q ≠ 60 → m' q i = m q i) := by
      intro s s1 s2
      unfold Verdict_hear_98
      rw [if_pos s1]
      refine mOk_st1 (mOk_some ⟨⟨f, hf, ?_, ?_, ?_, ?_, ?_, ?_, ?_⟩, ?_⟩)
      · rw [aup_of (by omega)]; exact h1
      · rw [aup_of (by omega)]; exact h2
      · rw [aup_of (by omega)]; exact h3
      · rw [aup_of (by omega)]; exact h4
      · rw [aup_self]; exact s1
      · rw [aup_self]; exact s2
      · intro k k0 k1; rw [aup_of (by omega)]; exact h5 k k0 k1
      · intro q i q1 q2; rw [aup_of (by omega)]; exact fr q i q1 q2
    unfold Verdict_hear_86
    have hb := hf.2.1
    by_cases c : f < n
    · rw [if_pos c] at h2
      rw [if_neg (by have := hf.1; omega)]
      unfold Verdict_hear_97
      exact fin 0 (Or.inl rfl) (by simp; intro e; omega)
    · rw [if_neg c] at h2
      have ef : f = n := by omega
      have ek := h6 ef
      have kin := mKat_in ht n0 (by rw [← ef]; exact hf.2.2.1)
      rw [if_pos h2]
      refine mOk_bind (mayEnd_ok ht2 hr2 (by rw [ek]; omega) (by rw [ek]; omega)) (fun s ks => ?_)
      rw [e177, ek] at ks
      by_cases z : s = 0
      · rw [if_pos z]
        unfold Verdict_hear_97
        exact fin 0 (Or.inl rfl) (by simp; intro _ h; exact (ks.2.mpr h) z)
      · rw [if_neg z]
        exact fin 1 (Or.inr rfl) (by simp; exact ⟨ef, ks.2.mp z⟩)
  rw [Verdict_hear_16, if_pos ⟨r0, r1⟩, show mm 57 r.toNat = n from (fr _ _ (by omega) (by omega)).trans hn]
  rcases hst with ⟨s2, s3, s4, s5, s6, s7, s8, s9⟩ | ⟨f, s1, s2, s3, s4, s5, s6, s7, s8⟩
  · by_cases c : x < n
    · rw [if_pos c, if_pos s2, if_pos (by omega)]
      have eN : mm (53 + r.toNat) x.toNat = N x := (fr _ _ (by omega) (by omega)).trans (hN x x0 c)
      rw [eN]
      have kin := mKat_in ht x0 s5
      have bd := mLs1_bd ht x0 (by omega) s5
      have bad : ¬ mGd (m 177) N x → mOk (Verdict_hear_43 (Verdict_hear_16 r fu) r kd x mm) (fun m' => (∃ f, mFw (m 177) N n f ∧ m' 59 1 = f ∧ m' 59 2 = (if f < n then f else -1) ∧ m' 59 3 = mLs1 (m 177) N f ∧ m' 59 4 = mUs1 (m 177) N f ∧ (m' 59 5 = 0 ∨ m' 59 5 = 1) ∧ (m' 59 5 ≠ 0 ↔ f = n ∧ mKe (m 177) (mKat (m 177) N n)) ∧ ∀ k : Int, 0 ≤ k → k < f → m' 60 k.toNat = N k) ∧ ∀ q i, q ≠ 59 → q ≠ 60 → m' q i = m q i) := by
        intro hb
        unfold Verdict_hear_43 Verdict_hear_84
        refine mOk_st1 ?_
        rw [w32e (by omega) (by omega)]
        refine ih _ _ _ ⟨by omega, fun q i q1 q2 => by rw [aup_of (by omega)]; exact fr q i q1 q2, Or.inr ⟨x, c, ⟨x0, by omega, s5, fun _ => hb⟩, rfl, aup_self _ _ _ _, ?_, ?_, ?_, ?_⟩⟩ (by omega)
        · rw [aup_of (by omega)]; exact s6
        · rw [aup_of (by omega)]; exact s7
        · rw [aup_of (by omega)]; exact s8
        · intro k k0 k1; rw [aup_of (by omega)]; exact s9 k k0 k1
      unfold Tongue_hasWord
      rw [show mm 25 2 = m 177 18 from (fr _ _ (by omega) (by omega)).trans hr.1.2.2.1]
      by_cases g1 : N x < 0
      · simp (disch := omega) only [if_pos, if_neg, Option.bind_some, reduceIte]
        exact bad (fun h => by have := h.1; omega)
      by_cases g2 : N x < m 177 18
      · simp (disch := omega) only [if_pos, if_neg, Option.bind_some, reduceIte, w32e]
        refine mOk_bind (mayFollow_ok ht2 hr2 (kd := kd) (w := N x) (by rw [s4]; omega) (by rw [s4]; omega) (by omega) (by rw [e177]; exact g2)) (fun s ks => ?_)
        rw [e177, s4] at ks
        by_cases z : s = 0
        · rw [if_pos z]
          exact bad (fun h => (ks.2.mpr h.2) z)
        · rw [if_neg z]
          have hg : mGd (m 177) N x := ⟨⟨by omega, g2⟩, ks.2.mp z⟩
          obtain ⟨l1, l2, l3, -⟩ := hr.2.2.2.1 (N x) (by omega) g2
          obtain ⟨f1, f2, -⟩ := c5 (N x) (by omega) g2
          have e41 : ∀ i, mm 41 i = m 41 i := fun i => fr _ _ (by omega) (by omega)
          have e42 : ∀ i, mm 42 i = m 42 i := fun i => fr _ _ (by omega) (by omega)
          have e43 : ∀ i, mm 43 i = m 43 i := fun i => fr _ _ (by omega) (by omega)
          unfold Verdict_hear_84
          simp (disch := omega) only [if_pos, st1e, aup_of, e41, e42, e43, show m 41 (N x).toNat = _ from l1, show m 42 (N x).toNat = _ from l2, show m 43 (N x).toNat = _ from l3, s6, s7, s8, w32e]
          refine ih _ _ _ ⟨by omega, fun q i q1 q2 => ?_, Or.inl ⟨?_, by omega, ?_, ?_, ?_, ?_, ?_, ?_⟩⟩ (by omega)
          · rw [aup_of (by omega), aup_of (by omega), aup_of (by omega), aup_of (by omega)]; exact fr q i q1 q2
          · rw [aup_of (by omega), aup_of (by omega), aup_of (by omega), aup_of (by omega)]; exact s2
          · unfold mKat
            rw [if_neg (by omega), show x + 1 - 1 = x by omega]
          · intro k k0 k1
            by_cases e : k = x
            · rw [e]; exact hg
            · exact s5 k k0 (by omega)
          · rw [aup_of (by omega), aup_of (by omega), aup_self]
          · rw [aup_of (by omega), aup_self]
            unfold mLs1
            rw [mSum_s x0]
          · rw [aup_self]
            unfold mUs1
            rw [mSum_s x0]
          · intro k k0 k1
            rw [aup_of (by omega), aup_of (by omega), aup_of (by omega)]
            by_cases e : k = x
            · rw [e, aup_self]
            · rw [aup_of (by omega)]; exact s9 k k0 (by omega)
      · simp (disch := omega) only [if_pos, if_neg, Option.bind_some, reduceIte]
        exact bad (fun h => by have := h.1; omega)
    · rw [if_neg c]
      have ex : x = n := by omega
      subst ex
      exact done x ⟨x0, by omega, s5, fun h => by omega⟩ s6 (by rw [if_neg (by omega)]; exact s2) s7 s8 s9 (fun _ => s4)
  · have hd := done f s2 s5 (by rw [if_pos s1]; exact s4) s6 s7 s8 (fun h => by omega)
    by_cases c : x < n
    · rw [if_pos c, if_neg (by have := s2.1; omega)]
      exact hd
    · rw [if_neg c]
      exact hd
/-- the reference's row of numbers -/
def mNr (m : aM) (r k : Int) : Int := m 207 (40 * r + k).toNat
theorem firstWrong_ok {r : Int} {m : aM} (ht : mTok (m 177)) (r0 : 0 ≤ r) (r1 : r < 4) (n0 : 0 ≤ m 206 r.toNat) (n1 : m 206 r.toNat ≤ 40) : mOk (R_firstWrong r m) (mFw (m 177) (mNr m r) (m 206 r.toNat)) := by
  have c4 := ht.2.2.2.2.1
  unfold R_firstWrong
  refine mL1 (R_firstWrong_2 m r) (fun x => 0 ≤ x ∧ x ≤ m 206 r.toNat ∧ ∀ k : Int, 0 ≤ k → k < x → mGd (m 177) (mNr m r) k) (fun x => (41 - x).toNat) ?_ 0 ⟨by omega, n0, fun k a b => by omega⟩ (by omega)
  rintro fu x ⟨x0, x1, x2⟩ ih
  rw [R_firstWrong_2, if_pos ⟨r0, r1⟩]
  by_cases c : x < m 206 r.toNat
  · rw [if_pos c]
    simp (disch := omega) only [w32e, if_pos, within_eq, Option.bind_some]
    by_cases g : 0 ≤ m 207 (40 * r + x).toNat ∧ m 207 (40 * r + x).toNat ≤ m 177 18 - 1
    · simp (disch := omega) only [w32e, if_pos, if_neg, reduceIte]
      have good : mGd (m 177) (mNr m r) x → mOk (R_firstWrong_48 m (R_firstWrong_2 m r fu) r x) (mFw (m 177) (mNr m r) (m 206 r.toNat)) := by
        intro hg
        unfold R_firstWrong_48
        rw [w32e (by omega) (by omega)]
        refine ih _ ⟨by omega, by omega, ?_⟩ (by omega)
        intro k k0 k1
        by_cases e : k = x
        · rw [e]; exact hg
        · exact x2 k k0 (by omega)
      by_cases xp : 0 < x
      · have hp := (x2 (x - 1) (by omega) (by omega)).1
        unfold mNr at hp
        rw [show 40 * r + (x - 1) = 40 * r + x - 1 by omega] at hp
        simp (disch := omega) only [w32e, if_pos, if_neg, reduceIte]
        refine mOk_bind (mayStand_ok ht hp.1 hp.2 g.1 (by omega)) (fun s ks => ?_)
        have ek : mKat (m 177) (mNr m r) x = m 177 (45 + m 207 (40 * r + x - 1).toNat).toNat := by
          unfold mKat mNr
          rw [if_neg (by omega), show 40 * r + (x - 1) = 40 * r + x - 1 by omega]
        rw [← ek] at ks
        by_cases z : s = 0
        · rw [if_pos z]
          exact mOk_some ⟨x0, by omega, x2, fun _ h => (ks.2.mpr h.2) z⟩
        · rw [if_neg z]
          exact good ⟨⟨g.1, by unfold mNr; omega⟩, ks.2.mp z⟩
      · rw [if_neg xp]
        exact good ⟨⟨g.1, by unfold mNr; omega⟩, Or.inl (by unfold mKat; rw [if_pos (by omega)])⟩
    · simp (disch := omega) only [w32e, if_pos, if_neg, reduceIte]
      exact mOk_some ⟨x0, by omega, x2, fun _ h => g ⟨h.1.1, by have := h.1.2; unfold mNr at this; omega⟩⟩
  · rw [if_neg c]
    have ex : x = m 206 r.toNat := by omega
    rw [← ex]
    exact mOk_some ⟨x0, by omega, x2, fun h => by omega⟩
theorem isSentence_ok {r : Int} {m : aM} (ht : mTok (m 177)) (r0 : 0 ≤ r) (r1 : r < 4) (n0 : 0 ≤ m 206 r.toNat) (n1 : m 206 r.toNat ≤ 40) : mOk (R_isSentence r m) (fun s => (s = 0 ∨ s = 1) ∧ (s ≠ 0 ↔ mFw (m 177) (mNr m r) (m 206 r.toNat) (m 206 r.toNat) ∧ mKe (m 177) (mKat (m 177) (mNr m r) (m 206 r.toNat)))) := by
  have c4 := ht.2.2.2.2.1
  unfold R_isSentence
  rw [if_pos ⟨r0, r1⟩]
  by_cases c : 0 < m 206 r.toNat
  · rw [if_pos c]
    refine mOk_bind (firstWrong_ok ht r0 r1 n0 n1) (fun f hf => ?_)
    by_cases e : f = m 206 r.toNat
    · rw [if_pos e]
      subst e
      have hp := (hf.2.2.1 (m 206 r.toNat - 1) (by omega) (by omega)).1
      unfold mNr at hp
      rw [show 40 * r + (m 206 r.toNat - 1) = 40 * r + m 206 r.toNat - 1 by omega] at hp
      simp (disch := omega) only [w32e, if_pos]
      refine mOk_bind (RmayEnd_ok ht hp.1 hp.2) (fun s ks => ?_)
      have ek : mKat (m 177) (mNr m r) (m 206 r.toNat) = m 177 (45 + m 207 (40 * r + m 206 r.toNat - 1).toNat).toNat := by
        unfold mKat mNr
        rw [if_neg (by omega), show 40 * r + (m 206 r.toNat - 1) = 40 * r + m 206 r.toNat - 1 by omega]
      rw [← ek] at ks
      by_cases z : s = 0
      · rw [if_pos z]
        exact mOk_some ⟨Or.inl rfl, by simp; intro _ h; exact (ks.2.mpr h) z⟩
      · rw [if_neg z]
        exact mOk_some ⟨Or.inr rfl, by simp; exact ⟨hf, ks.2.mp z⟩⟩
    · rw [if_neg e]
      exact mOk_some ⟨Or.inl rfl, by simp; intro h _; exact e (mFw_uni hf h)⟩
  · rw [if_neg c]
    have ek : mKat (m 177) (mNr m r) (m 206 r.toNat) = 4 := by
      unfold mKat
      rw [if_pos (by omega)]
    exact mOk_some ⟨Or.inl rfl, by simp; intro _ h; exact h.1 ek⟩
theorem soundsOf_ok {r f : Int} {m : aM} (ht : mTok (m 177)) (r0 : 0 ≤ r) (r1 : r < 4) (f0 : 0 ≤ f) (f1 : f ≤ 40) (hg : ∀ k : Int, 0 ≤ k → k < f → mGd (m 177) (mNr m r) k) : mOk (R_soundsOf r f m) (fun s => s = mLs1 (m 177) (mNr m r) f) := by
  have c4 := ht.2.2.2.2.1
  have c5 := ht.2.2.2.2.2.1
  unfold R_soundsOf
  refine mL2 (R_soundsOf_4 m r f) (fun a x => 0 ≤ x ∧ x ≤ f ∧ a = mLs1 (m 177) (mNr m r) x) (fun _ x => (41 - x).toNat) ?_ 0 0 ⟨by omega, by omega, rfl⟩ (by omega)
  rintro fu a x ⟨x0, x1, e⟩ ih
  rw [R_soundsOf_4]
  by_cases c : x < f
  · have g := (hg x x0 c).1
    unfold mNr at g
    have fl := (c5 _ g.1 g.2).1
    have bd := mLs1_bd ht x0 (by omega) (fun k k0 k1 => hg k k0 (by omega))
    simp (disch := omega) only [w32e, if_pos]
    refine ih _ _ ⟨by omega, by omega, ?_⟩ (by omega)
    rw [e]
    unfold mLs1 mNr
    rw [mSum_s x0]
  · rw [if_neg c]
    exact mOk_some (by rw [e, show x = f by omega])
theorem usesOf_ok {r f : Int} {m : aM} (ht : mTok (m 177)) (r0 : 0 ≤ r) (r1 : r < 4) (f0 : 0 ≤ f) (f1 : f ≤ 40) (hg : ∀ k : Int, 0 ≤ k → k < f → mGd (m 177) (mNr m r) k) : mOk (R_judge_64 r f FU 0 0 m) (fun s => s.1 = mUs1 (m 177) (mNr m r) f ∧ s.2 = m) := by
  have c4 := ht.2.2.2.2.1
  have c5 := ht.2.2.2.2.2.1
  refine mL2 (fun fu a x => R_judge_64 r f fu a x m) (fun a x => 0 ≤ x ∧ x ≤ f ∧ a = mUs1 (m 177) (mNr m r) x) (fun _ x => (41 - x).toNat) ?_ 0 0 ⟨by omega, by omega, rfl⟩ (by omega)
  rintro fu a x ⟨x0, x1, e⟩ ih
  show mOk (R_judge_64 r f (fu + 1) a x m) _
  rw [R_judge_64]
  by_cases c : x < f
  · have g := (hg x x0 c).1
    unfold mNr at g
    have fl := (c5 _ g.1 g.2).2.1
    have bd := mLs1_bd ht x0 (by omega) (fun k k0 k1 => hg k k0 (by omega))
    simp (disch := omega) only [w32e, if_pos]
    refine ih _ _ ⟨by omega, by omega, ?_⟩ (by omega)
    rw [e]
    unfold mUs1 mNr
    rw [mSum_s x0]
  · rw [if_neg c]
    exact mOk_some ⟨by rw [e, show x = f by omega], rfl⟩
theorem st_judge {n : Nat} {m : aM} (h : mInv n m) (x1 x2 : Int) : ∃ r m1 m2, B_judge x1 x2 m = some (r, m1) ∧ R_judge x1 x2 m1 = some (r, m2) ∧ mInv (n + 1) m2 := by
  have hi := mInv_0 h
  by_cases c1 : 0 ≤ x1 ∧ x1 < 4
  · by_cases c2 : 0 ≤ x2 ∧ x2 ≤ 3
    · rcases h.2.2.2.2.1 x1 c1.1 c1.2 with ⟨b1, b2⟩ | ⟨b1, b2, b3, b4, b5⟩
      · refine ⟨-6, m, aup m 176 0 0, ?_, ?_, hi⟩
        · unfold B_judge Rows_isRow Rows_isMissing
          simp (disch := omega) only [reduceIte, if_pos, if_neg, Option.bind_some]
        · unfold R_judge
          simp (disch := omega) only [reduceIte, if_pos, if_neg, Option.bind_some, st1e, within_eq, aup_of, b1]
      · obtain ⟨mA, kA, ⟨f, hf, v1, v2, v3, v4, v5, v6, v7⟩, fr⟩ := hear_ok (N := mNr m x1) h.2.2.1 h.2.2.2.1 c1.1 c1.2 rfl b3.1 b3.2 (fun k k0 k1 => b5 k k0 k1)
        have hs : mSame m (aup mA 176 0 0) := by
          intro q i hd
          unfold mDep at hd
          rw [aup_of (by omega), fr _ _ (by omega) (by omega)]
        have hi2 := mInv_same (Nat.le_succ n) hs h
        have e177 : aup mA 176 0 0 177 = m 177 := funext fun i => by rw [aup_of (by omega), fr _ _ (by omega) (by omega)]
        have eN : mNr (aup mA 176 0 0) x1 = mNr m x1 := funext fun k => by unfold mNr; rw [aup_of (by omega), fr _ _ (by omega) (by omega)]
        have e206 : aup mA 176 0 0 206 x1.toNat = m 57 x1.toNat := by rw [aup_of (by omega), fr _ _ (by omega) (by omega)]; exact b4
        have e205 : aup mA 176 0 0 205 x1.toNat = m 205 x1.toNat := by rw [aup_of (by omega), fr _ _ (by omega) (by omega)]
        obtain ⟨f', kf, hf'⟩ := firstWrong_ok (m := aup mA 176 0 0) hi2.2.2.1 c1.1 c1.2 (by rw [e206]; omega) (by rw [e206]; omega)
        rw [e177, eN, e206] at hf'
        have ef := mFw_uni hf hf'
        subst ef
        have hB : B_judge x1 x2 m = some (if x2 = 0 then mA 59 2 else if x2 = 1 then (if mA 59 5 = 0 then 0 else 1) else if x2 = 2 then mA 59 3 else mA 59 4, mA) := by
          unfold B_judge Rows_isRow Rows_isMissing
          by_cases z0 : x2 = 0
          · simp (disch := omega) only [reduceIte, if_pos, if_neg, Option.bind_some, kA]
          by_cases z1 : x2 = 1
          · by_cases z5 : mA 59 5 = 0
            · simp (disch := omega) only [reduceIte, if_pos, if_neg, Option.bind_some, kA]
            · simp (disch := omega) only [reduceIte, if_pos, if_neg, Option.bind_some, kA]
          by_cases z2 : x2 = 2
          · simp (disch := omega) only [reduceIte, if_pos, if_neg, Option.bind_some, kA]
          · simp (disch := omega) only [reduceIte, if_pos, if_neg, Option.bind_some, kA]
        refine ⟨_, mA, aup mA 176 0 0, hB, ?_, hi2⟩
        have f0 := hf.1
        have f1 := hf.2.1
        unfold R_judge
        rw [st1e]
        simp (disch := omega) only [reduceIte, if_pos, if_neg, Option.bind_some, within_eq, e205, kf]
        by_cases z0 : x2 = 0
        · rw [if_pos z0, if_pos z0, e206, v2]
          by_cases zf : f < m 57 x1.toNat
          · rw [if_neg (by omega), if_pos zf]
          · rw [if_pos (by omega), if_neg zf]
        rw [if_neg z0, if_neg z0]
        by_cases z1 : x2 = 1
        · rw [if_pos z1, if_pos z1]
          obtain ⟨s, ks, s1, s2⟩ := isSentence_ok (m := aup mA 176 0 0) hi2.2.2.1 c1.1 c1.2 (by rw [e206]; omega) (by rw [e206]; omega)
          rw [e177, eN, e206] at s2
          rw [ks]
          simp only [Option.bind_some]
          have hiff : s ≠ 0 ↔ mA 59 5 ≠ 0 := by
            rw [s2, v6]
            constructor
            · rintro ⟨p1, p2⟩
              exact ⟨mFw_uni hf p1, p2⟩
            · rintro ⟨p1, p2⟩
              exact ⟨by rw [p1] at hf; exact hf, p2⟩
          by_cases zs : s = 0
          · rw [if_pos zs, if_pos (Classical.byContradiction (fun hh => hiff.mpr hh zs))]
          · rw [if_neg zs, if_neg (hiff.mp zs)]
        rw [if_neg z1, if_neg z1]
        by_cases z2 : x2 = 2
        · rw [if_pos z2, if_pos z2]
          obtain ⟨s, ks, s1⟩ := soundsOf_ok (m := aup mA 176 0 0) (f := f) hi2.2.2.1 c1.1 c1.2 f0 (by omega) (by rw [e177, eN]; exact hf.2.2.1)
          rw [e177, eN] at s1
          rw [ks, s1, v3]
          rfl
        · rw [if_neg z2, if_neg z2]
          obtain ⟨⟨s, m9⟩, ks, s1, s2⟩ := usesOf_ok (m := aup mA 176 0 0) (f := f) hi2.2.2.1 c1.1 c1.2 f0 (by omega) (by rw [e177, eN]; exact hf.2.2.1)
          rw [e177, eN] at s1
          dsimp only at s1 s2
          rw [ks, s1, s2, v4]
    · refine ⟨-2, m, aup m 176 0 0, ?_, ?_, hi⟩
      · unfold B_judge Rows_isRow
        by_cases d : x2 < 0
        · simp (disch := omega) only [reduceIte, if_pos, if_neg, Option.bind_some]
        · simp (disch := omega) only [reduceIte, if_pos, if_neg, Option.bind_some]
      · unfold R_judge
        simp (disch := omega) only [reduceIte, if_pos, if_neg, Option.bind_some, st1e, within_eq]
  · refine ⟨-2, m, aup m 176 0 0, ?_, ?_, hi⟩
    · unfold B_judge Rows_isRow
      by_cases d : x1 < 0
      · simp (disch := omega) only [reduceIte, if_pos, if_neg, Option.bind_some]
      · simp (disch := omega) only [reduceIte, if_pos, if_neg, Option.bind_some]
    · unfold R_judge
      simp (disch := omega) only [reduceIte, if_pos, if_neg, Option.bind_some, st1e, within_eq]
