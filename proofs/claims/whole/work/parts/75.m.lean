/-! cut, mistakes: the steps -/
theorem mGp_rng {A : Nat → Int} {L : Int} {Mi : Int → Int → Int} {pi : Int} : ∀ {c : Nat} {p kd : Int} {f : Nat → Int}, mGp A L Mi pi c p kd f → ∀ i, i < c → 0 ≤ f i ∧ f i < A 18 := by
  intro c
  induction c with
  | zero => intro p kd f h i hi; omega
  | succ c ih =>
    rintro p kd f ⟨h1, h2, ⟨a0, a1, a2, a3⟩, h4⟩ i hi
    cases i with
    | zero => exact ⟨a0, a1⟩
    | succ i => exact ih h4 i (by omega)
theorem mSp_rng {A : Nat → Int} {L : Int} {Mi : Int → Int → Int} {pi : Int} (ht : mTok A) : ∀ {c : Nat} {p kd : Int} {f : Nat → Int}, mSp A L Mi pi c p kd f → (c : Int) ≤ L - p ∧ ∀ i, i < c → 0 ≤ f i ∧ f i < A 18 := by
  intro c
  induction c with
  | zero => intro p kd f h; exact absurd h (fun h => h)
  | succ c ih =>
    rintro p kd f ⟨h1, ⟨a0, a1⟩, h3⟩
    have hl := (ht.2.2.2.2.2.1 _ a0 a1).1
    have key : (c : Int) ≤ L - (p + A (19 + f 0).toNat) ∧ ∀ i, i < c → 0 ≤ f (i + 1) ∧ f (i + 1) < A 18 := by
      rcases h3 with ⟨_, _, h⟩ | ⟨_, _, h⟩
      · exact ih h
      · exact ⟨mGp_len ht h, mGp_rng h⟩
    refine ⟨by omega, fun i hi => ?_⟩
    cases i with
    | zero => exact ⟨a0, a1⟩
    | succ i => exact key.2 i (by omega)
theorem mCo_rng {A : Nat → Int} {L : Int} {Mi : Int → Int → Int} {pi : Int} {c : Nat} {f : Nat → Int} (ht : mTok A) (L0 : 0 ≤ L) (h : mCo A L Mi pi c f) : (c : Int) ≤ L ∧ ∀ i, i < c → 0 ≤ f i ∧ f i < A 18 := by
  rcases h with ⟨_, ⟨_, h⟩ | h⟩ | ⟨_, ⟨_, h⟩ | ⟨_, h⟩⟩
  · exact ⟨by omega, fun i hi => by omega⟩
  · have := mSp_rng ht h; exact ⟨by omega, this.2⟩
  · exact ⟨by omega, fun i hi => by omega⟩
  · have := mGp_len ht h; exact ⟨by omega, mGp_rng h⟩
def mLn (A : Nat → Int) : Int → Int → Int := mRl A (A 155) (fun i => A (156 + i).toNat)
theorem mLn_ok {A : Nat → Int} (ht : mTok A) : mMok A (A 155) (mLn A) := mRl_ok ht
theorem cutNew_ok {A : Nat → Int} {pi : Int} {m : aM} (ht : mTok A) (hr : mTR 25 47 A m) (q0 : 0 ≤ pi) (q1 : pi ≤ 3) : mOk ((Cutter_lay 61 47 m).bind fun r2 => ((Cutter_choose 61 pi r2).bind fun r3 => (some r3))) (fun m1 => ∃ c : Nat, m1 61 9 = pi ∧ m1 61 8 = (c : Int) ∧ mCo A (A 155) (mLn A) pi c (m1 65) ∧ (pi = 3 → 1 ≤ c → ∃ U : Int, Cutter_chosenMisses 61 m1 = some (mMs A (mLn A) 0 (m1 65) c) ∧ mPv A (A 155) (mLn A) 3 0 4 = mMs A (mLn A) 0 (m1 65) c * 10000 - U ∧ mPv A (A 155) (mLn A) 3 0 4 ≠ 268435456 ∧ 0 ≤ U ∧ U ≤ 3960) ∧ ∀ q i, ¬(61 ≤ q ∧ q ≤ 66) → m1 q i = m q i) := by
  have c4 := ht.2.2.2.2.1
  have c12 := ht.2.2.2.2.2.2.2.2.2.2.2.2.1
  have b6 := hr.2.2.2.2.2.2.1
  have b7 := hr.2.2.2.2.2.2.2
  refine mOk_bind (lay_ok (t := 61) (x1 := 47) ht hr (Or.inl rfl) (Or.inl rfl) (by rw [b6]; omega) (by rw [b6]; omega)) (fun mA kA => ?_)
  obtain ⟨a9, aL, aM, frA⟩ := kA
  rw [b6] at aL aM
  have hrA : mTR 25 47 A mA := mTR_same (fun q i hq => frA q i (by omega) (by omega)) hr c4.2
  have hC : mCt 61 A (A 155) (mLn A) mA := ⟨aL, fun i w a b c d => (aM i w a b c d).trans (mMis_cg a (fun k k0 k1 => b7 k k0 k1))⟩
  refine mOk_bind (choose_ok ht hrA (Or.inl rfl) (mLn_ok ht) hC (by omega) (by omega) q0 q1) (fun m1 k => ?_)
  obtain ⟨c, k9, k8, kc, kp, fr⟩ := k
  refine mOk_some ⟨c, k9, k8, kc, fun e hc => ?_, fun q i a => by rw [fr q i (by omega) (by omega) (by omega) (by omega), frA q i (by omega) (by omega)]⟩
  have kc' := kc
  rcases kc with ⟨h, _⟩ | ⟨_, ⟨_, h⟩ | ⟨h1, h2⟩⟩
  · omega
  · omega
  rw [e] at h1 h2
  obtain ⟨U, u1, u2, u3, u4⟩ := mGp_price ht (mLn_ok ht) (Or.inr rfl) (by omega) h2 h1
  have cl := mGp_len ht h2
  obtain ⟨x, x1, x2⟩ := chosenMisses_ok (t := 61) (c := c) c4.2 ⟨(fr _ _ (by omega) (by omega) (by omega) (by omega)).trans hC.1, fun i w a b c d => (fr _ _ (by omega) (by omega) (by omega) (by omega)).trans (hC.2 i w a b c d)⟩ (by omega) (by omega) k8 (kp (by omega)) u4
  exact ⟨U, by rw [x1, x2], u1, h1, u2, by omega⟩
theorem mInv_cut {n n' : Nat} {m m' : aM} (hn : n ≤ n') (fr : ∀ q i, ¬(61 ≤ q ∧ q ≤ 66) → m' q i = m q i) (hc : mCutC m') (k : mInv n m) : mInv n' m' := by
  obtain ⟨k1, k2, k3, k4, k5, k6, k7, k8, k9⟩ := k
  have row : ∀ q, ¬(61 ≤ q ∧ q ≤ 66) → m' q = m q := fun q hq => funext fun i => fr q i hq
  have e : m' 177 = m 177 := row 177 (by omega)
  refine ⟨mTape_c (fr _ _ (by omega)) (row _ (by omega)) (fr _ _ (by omega)) (row _ (by omega)) k1, ?_, ?_, ?_, mRows_c (fun q hq => row q (by omega)) k5, mImg_c (fun q hq => row q (by omega)) (fun i _ => by rw [e]) k6, mMark_c (fr _ _ (by omega)) (fr _ _ (by omega)) (fr _ _ (by omega)) (row _ (by omega)) hn k7, hc, ?_⟩
  · rw [fr 176 13 (by omega), fr 176 14 (by omega), fr 1 7 (by omega), fr 1 8 (by omega)]; exact k2
  · rw [e]; exact k3
  · rw [e]; exact mTR_same (fun q j hq => fr q j (by omega)) k4 k3.2.2.2.2.1.2
  · exact mMendC_of (by rw [e]; exact mAeqT.refl _) k3.2.2.2.2.1.1 (row _ (by omega)) (fun q a b => row _ (by omega)) k9
/-- the line that the reference looks at -/
theorem looks_mRk {A : Nat → Int} {m : aM} (e : m 177 = A) (ht : mTok A) : mOk (R_looksAtLine m) (fun m' => mRk A (A 155) (mLn A) m' ∧ ∀ q i, ¬(q = 176 ∧ i = 17) → q ≠ 182 → m' q i = m q i) := by
  have c12 := ht.2.2.2.2.2.2.2.2.2.2.2.2.1
  refine mOk_mono (looks_ok (by rw [e]; omega) (by rw [e]; omega)) (fun m' k => ?_)
  obtain ⟨q1, q2, q3⟩ := k
  rw [e] at q1 q2
  exact ⟨⟨(funext fun i => q3 _ _ (by omega) (by omega)).trans e, q1, fun p w a b c d => mMis_cg a (fun k k0 k1 => q2 k k0 k1)⟩, q3⟩
theorem cutBreath_ok {n : Nat} {m : aM} {pi : Int} (h : mInv n m) (q0 : 0 ≤ pi) (q1 : pi ≤ 3) : mOk (B_cutBreath pi m) (fun m1 => mInv n m1 ∧ m1 61 9 = pi ∧ ∀ q i, ¬(61 ≤ q ∧ q ≤ 66) → m1 q i = m q i) := by
  unfold B_cutBreath
  by_cases z : m 61 9 = pi
  · rw [if_pos z]; exact mOk_some ⟨h, z, fun _ _ _ => rfl⟩
  rw [if_neg z]
  have htk := h.2.2.1
  have hr := h.2.2.2.1
  obtain ⟨m1, e1, c, k9, k8, kc, km, fr⟩ := cutNew_ok (pi := pi) htk hr q0 q1
  refine ⟨m1, e1, ?_⟩
  have e177 : m1 177 = m 177 := funext fun i => fr _ _ (by omega)
  refine ⟨mInv_cut (Nat.le_refl _) fr (Or.inr ?_) h, k9, fr⟩
  rw [k9, k8, e177]
  refine ⟨⟨q0, q1⟩, fun m' m2 r hA hl hf => ?_⟩
  generalize hA' : m' 177 = A at hA
  have ht' := mTok_aeq hA htk
  obtain ⟨m1', e1', c', k9', k8', kc', km', fr'⟩ := cutNew_ok (pi := pi) ht' (mTR_aeq hA htk hr) q0 q1
  have em : m1' = m1 := Option.some.inj (e1'.symm.trans e1)
  subst em
  have ec : c' = c := by omega
  subst ec
  obtain ⟨m2', l1, l2, l3⟩ := looks_mRk hA' ht'
  have em2 : m2' = m2 := Option.some.inj (l1.symm.trans hl)
  subst em2
  have c12 := ht'.2.2.2.2.2.2.2.2.2.2.2.2.1
  obtain ⟨r', f1, ⟨c2, f2, f3⟩, f4, f5⟩ := finds_ok (pi := pi) ht' (mLn_ok ht') l2 (by omega) (by omega) q0 q1
  have er : r' = r := Option.some.inj (f1.symm.trans hf)
  subst er
  obtain ⟨u1, u2⟩ := mCo_uni ht' (mLn_ok ht') kc' f2
  obtain ⟨v1, v2⟩ := mCo_rng ht' (by omega) kc'
  have c4 := ht'.2.2.2.2.1
  rcases f3 with ⟨g1, g2⟩ | ⟨g1, g2, g3⟩
  · exact Or.inl ⟨g1, by omega⟩
  · refine Or.inr ⟨g1, by omega, by omega, fun i i0 i1 => ?_, fun e => ?_⟩
    · have := v2 i.toNat (by omega)
      exact ⟨(u2 i.toNat (by omega)).symm, by omega, by omega⟩
    · obtain ⟨U, x1, x2, x3, x4, x5⟩ := km' e (by omega)
      rw [x1]
      have rep := (f4 e).resolve_left (fun hh => x3 hh.1)
      have : mMs A (mLn A) 0 (m1' 65) c' = r'.2 184 13 := by omega
      rw [this]
theorem st_cut {n : Nat} {m : aM} (h : mInv n m) (x1 x2 : Int) : ∃ r m1 m2, B_cut x1 x2 m = some (r, m1) ∧ R_cut x1 x2 m1 = some (r, m2) ∧ mInv (n + 1) m2 := by
  have hi := mInv_0 h
  by_cases c : 0 ≤ x1 ∧ x1 ≤ 3
  rotate_left
  · refine ⟨-2, m, aup m 176 0 0, ?_, ?_, hi⟩
    · unfold B_cut B_isCut
      by_cases d : x1 < 0
      · simp only [if_pos d, Option.bind_some, reduceIte]
      · simp only [if_neg d, if_pos (show 3 < x1 by omega), Option.bind_some, reduceIte]
    · unfold R_cut
      simp (disch := omega) only [st1e, within_eq, Option.bind_some, reduceIte, if_pos, if_neg]
  have eB : B_isCut x1 m = some 1 := by
    unfold B_isCut; rw [if_neg (by omega), if_neg (by omega)]
  by_cases d : x2 < -1
  · refine ⟨-3, m, aup m 176 0 0, ?_, ?_, hi⟩
    · unfold B_cut
      simp (disch := omega) only [eB, if_pos d, Option.bind_some, reduceIte, if_neg]
    · unfold R_cut
      simp (disch := omega) only [st1e, within_eq, Option.bind_some, reduceIte, if_pos, if_neg]
  obtain ⟨m1, e1, hi1, k9, fr1⟩ := cutBreath_ok h c.1 c.2
  have h1 := mInv_0 hi1
  have htk := hi1.2.2.1
  obtain ⟨m2, e2, hk2, fr2⟩ := looks_mRk (m := aup m1 176 0 0) (A := m1 177) (funext fun i => aup_of (by omega)) htk
  have c12 := htk.2.2.2.2.2.2.2.2.2.2.2.2.1
  obtain ⟨r, e3, ⟨c3, f2, f3⟩, f4, f5⟩ := finds_ok (pi := x1) htk (mLn_ok htk) hk2 (by omega) (by omega) c.1 c.2
  have cc := hi1.2.2.2.2.2.2.2.1
  unfold mCutC at cc
  rw [k9] at cc
  have key := (cc.resolve_left (by omega)).2 (aup m1 176 0 0) m2 r (by rw [show aup m1 176 0 0 177 = m1 177 from funext fun i => aup_of (by omega)]; exact mAeq.refl _) e2 e3
  have hfin : mInv (n + 1) r.2 := by
    refine mInv_same (Nat.le_refl _) (fun q i hd => ?_) h1
    unfold mDep at hd
    rw [f5 _ _ (by omega) (by omega) (by omega) (by omega) (by omega), fr2 _ _ (by omega) (by omega)]
  have eR : R_cut x1 x2 m1 = (if r.1 = 0 then (some ((-1), r.2)) else (if x2 = (-1) then (some (r.2 176 22, r.2)) else (if x2 < (r.2 176 22) then (if 0 ≤ x2 ∧ x2 < 40 then (some (r.2 186 x2.toNat, r.2)) else none) else (some ((-1), r.2))))) := by
    unfold R_cut
    rw [st1e, within_eq, if_pos (by omega)]
    simp (disch := omega) only [Option.bind_some, if_neg, e2, e3]
  have eBB : B_cut x1 x2 m = (if (m1 61 8) = 0 then (some ((-1), m1)) else (if x2 = (-1) then (some (m1 61 8, m1)) else ((Cutter_chosenAt 61 x2 m1).bind fun r7 => (some (r7, m1))))) := by
    unfold B_cut
    simp (disch := omega) only [eB, Option.bind_some, if_neg, e1]
  rcases key with ⟨g1, g2⟩ | ⟨g1, g2, g3, g4, g5⟩
  · refine ⟨-1, m1, r.2, ?_, ?_, hfin⟩
    · rw [eBB, if_pos g2]
    · rw [eR, if_pos g1]
  · by_cases z : x2 = -1
    · refine ⟨m1 61 8, m1, r.2, ?_, ?_, hfin⟩
      · rw [eBB, if_neg (by omega), if_pos z]
      · rw [eR, if_neg (by omega), if_pos z, g3]
    · unfold Cutter_chosenAt at eBB
      rw [if_neg (show ¬ x2 < 0 by omega)] at eBB
      by_cases y : x2 < m1 61 8
      · refine ⟨m1 65 x2.toNat, m1, r.2, ?_, ?_, hfin⟩
        · rw [eBB, if_neg (by omega), if_neg z, if_pos y, if_pos (by omega)]; rfl
        · rw [eR, if_neg (by omega), if_neg z, g3, if_pos y, if_pos (by omega), (g4 x2 (by omega) y).1]
      · refine ⟨-1, m1, r.2, ?_, ?_, hfin⟩
        · rw [eBB, if_neg (by omega), if_neg z, if_neg y]; rfl
        · rw [eR, if_neg (by omega), if_neg z, g3, if_neg y]
theorem st_mistakes {n : Nat} {m : aM} (h : mInv n m) : ∃ r m1 m2, B_mistakes m = some (r, m1) ∧ R_mistakes m1 = some (r, m2) ∧ mInv (n + 1) m2 := by
  obtain ⟨m1, e1, hi1, k9, fr1⟩ := cutBreath_ok (pi := 3) h (by omega) (by omega)
  have h1 := mInv_0 hi1
  have htk := hi1.2.2.1
  obtain ⟨m2, e2, hk2, fr2⟩ := looks_mRk (m := aup m1 176 0 0) (A := m1 177) (funext fun i => aup_of (by omega)) htk
  have c12 := htk.2.2.2.2.2.2.2.2.2.2.2.2.1
  obtain ⟨r, e3, f1, f4, f5⟩ := findsBest_ok (pi := 3) (x1 := 1) htk (mLn_ok htk) hk2 (by omega) (by omega) (Or.inr ⟨rfl, rfl⟩)
  have cc := hi1.2.2.2.2.2.2.2.1
  unfold mCutC at cc
  rw [k9] at cc
  have eF : R_finds 3 m2 = some r := by
    unfold R_finds R_finds_14
    rw [if_neg (by omega), if_pos rfl, e3]
    simp only [Option.bind_some]
    rw [if_pos (by rcases f1 with ⟨a, _⟩ | ⟨a, _⟩ <;> omega)]
  have key := (cc.resolve_left (by omega)).2 (aup m1 176 0 0) m2 r (by rw [show aup m1 176 0 0 177 = m1 177 from funext fun i => aup_of (by omega)]; exact mAeq.refl _) e2 eF
  have hfin : mInv (n + 1) r.2 := by
    refine mInv_same (Nat.le_refl _) (fun q i hd => ?_) h1
    unfold mDep at hd
    rw [f5 _ _ (by omega) (by omega) (by omega) (by omega), fr2 _ _ (by omega) (by omega)]
  have eR : R_mistakes m1 = (if r.1 = 0 then (some ((-1), r.2)) else (some (r.2 184 13, r.2))) := by
    unfold R_mistakes
    rw [st1e, e2]
    simp only [Option.bind_some, e3]
  have eB : B_mistakes m = (if (m1 61 8) = 0 then (some ((-1), m1)) else ((Cutter_chosenMisses 61 m1).bind fun r3 => (some (r3, m1)))) := by
    unfold B_mistakes
    rw [e1]
    simp only [Option.bind_some]
  rcases key with ⟨g1, g2⟩ | ⟨g1, g2, g3, g4, g5⟩
  · exact ⟨-1, m1, r.2, by rw [eB, if_pos g2], by rw [eR, if_pos g1], hfin⟩
  · refine ⟨r.2 184 13, m1, r.2, ?_, ?_, hfin⟩
    · rw [eB, if_neg (by omega), g5 rfl]; rfl
    · rw [eR, if_neg (by omega)]
