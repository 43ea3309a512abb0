/-! cut, mistakes -/
def mCo (A : Nat → Int) (L : Int) (Mi : Int → Int → Int) (pi : Int) (c : Nat) (f : Nat → Int) : Prop :=
  (pi = 1 ∧ ((mNn A L Mi 0 4 ≤ 1 ∧ c = 0) ∨ mSp A L Mi pi c 0 4 f)) ∨ (pi ≠ 1 ∧ ((mPv A L Mi pi 0 4 = 268435456 ∧ c = 0) ∨ (mPv A L Mi pi 0 4 ≠ 268435456 ∧ mGp A L Mi pi c 0 4 f)))
theorem mKe4 (A : Nat → Int) : ¬ mKe A 4 := fun h => h.1 rfl
theorem mPv_00 {A : Nat → Int} {Mi : Int → Int → Int} {pi : Int} : mPv A 0 Mi pi 0 4 = 268435456 := by
  rw [mPv_end, if_neg (mKe4 A)]
theorem mNn_00 {A : Nat → Int} {Mi : Int → Int → Int} : mNn A 0 Mi 0 4 = 0 := by
  unfold mNn; rw [mWv_end, mI_f (mKe4 A)]
theorem mCo_uni {A : Nat → Int} {L : Int} {Mi : Int → Int → Int} {pi : Int} {c c' : Nat} {f g : Nat → Int} (ht : mTok A) (hM : mMok A L Mi) (h : mCo A L Mi pi c f) (h' : mCo A L Mi pi c' g) : c = c' ∧ ∀ i, i < c → f i = g i := by
  rcases h with ⟨e, h⟩ | ⟨e, h⟩ <;> rcases h' with ⟨e', h'⟩ | ⟨e', h'⟩
  · rcases h with ⟨a, b⟩ | h <;> rcases h' with ⟨a', b'⟩ | h'
    · exact ⟨by omega, fun i hi => by omega⟩
    · have := (mSp_N ht hM (by omega) h').2; omega
    · have := (mSp_N ht hM (by omega) h).2; omega
    · exact mSp_uni h h'
  · exact absurd e e'
  · exact absurd e' e
  · rcases h with ⟨a, b⟩ | ⟨a, h⟩ <;> rcases h' with ⟨a', b'⟩ | ⟨a', h'⟩
    · exact ⟨by omega, fun i hi => by omega⟩
    · exact absurd a a'
    · exact absurd a' a
    · exact mGp_uni h h'
theorem choose_ok {t : Nat} {A : Nat → Int} {L pi : Int} {Mi : Int → Int → Int} {m : aM} (ht : mTok A) (hr : mTR 25 47 A m) (ht1 : t = 61 ∨ t = 67) (hM : mMok A L Mi) (hC : mCt t A L Mi m) (L0 : 0 ≤ L) (L1 : L ≤ 60) (q0 : 0 ≤ pi) (q1 : pi ≤ 3) :
    mOk (Cutter_choose t pi m) (fun m' => ∃ c : Nat, m' t 9 = pi ∧ m' t 8 = (c : Int) ∧ mCo A L Mi pi c (fun i => m' (t + 4) i) ∧ (pi ≠ 1 → ∀ i, i < c → m' (t + 5) i = mPl A 0 (fun i => m' (t + 4) i) i) ∧ ∀ q i, ¬(q = t ∧ (i = 5 ∨ i = 8 ∨ i = 9)) → q ≠ t + 2 → q ≠ t + 4 → q ≠ t + 5 → m' q i = m q i) := by
  refine prices_ok ht hr ht1 hM hC L0 (by omega) (fun _ m1 h5 hT fr1 => ?_)
  have fr2 : ∀ q i, ¬(q = t ∧ (i = 5 ∨ i = 8)) → q ≠ t + 2 → aup m1 t 8 0 q i = m q i := fun q i a b => by rw [aup_of (by omega)]; exact fr1 q i (by omega) b
  have hr2 : mTR 25 47 A (aup m1 t 8 0) := mTR_same (fun q i hq => fr2 q i (by omega) (by omega)) hr ht.2.2.2.2.1.2
  have hC2 : mCt t A L Mi (aup m1 t 8 0) := ⟨(fr2 _ _ (by omega) (by omega)).trans hC.1, fun i w a b c d => (fr2 _ _ (by omega) (by omega)).trans (hC.2 i w a b c d)⟩
  refine mOk_bind (chooseFrom_ok (pi := pi) ht ht1 hM (by omega) L.toNat FU 0 4 0 0 (aup m1 t 8 0) hr2 hC2 (by rw [aup_of (by omega)]; exact h5) (fun q k a b c d => by rw [aup_of (by omega)]; exact hT q k a b c d) (by omega) L0 (by omega) (by omega) (by omega) (by omega) (aup_self _ _ _ _) (by omega) (by omega) (by unfold FU; omega)) (fun m2 k => ?_)
  -- what chooseFrom left
  have key : ∃ c : Nat, m2 t 8 = (c : Int) ∧ ((c = 0 ∧ mPv A L Mi pi 0 4 = 268435456) ∨ (mPv A L Mi pi 0 4 ≠ 268435456 ∧ mGp A L Mi pi c 0 4 (fun i => m2 (t + 4) i))) ∧ (∀ i, i < c → m2 (t + 5) i = mPl A 0 (fun i => m2 (t + 4) i) i) ∧ ∀ q i, ¬(q = t ∧ (i = 5 ∨ i = 8)) → q ≠ t + 2 → q ≠ t + 4 → q ≠ t + 5 → m2 q i = m q i := by
    rcases k with ⟨k1, k2, k3⟩ | ⟨k1, c, k2, k3, k4, k5⟩
    · exact ⟨0, by rw [k3, aup_self]; rfl, Or.inl ⟨rfl, k2⟩, fun i hi => by omega, fun q i a b c d => (k3 q i).trans (fr2 q i a b)⟩
    · simp only [Nat.zero_add] at k2 k3 k4
      refine ⟨c, k3, ?_, k4, fun q i a b c d => (k5 q i (by omega) (by omega) (by omega)).trans (fr2 q i a b)⟩
      rcases k1 with k1 | k1
      · have := mGp_len ht k2
        refine Or.inl ⟨by omega, ?_⟩
        rw [← k1]; exact mPv_00
      · exact Or.inr ⟨k1, k2⟩
  obtain ⟨c, s1, s2, s3, s4⟩ := key
  have h5' : m2 t 5 = pi := by
    rcases k with ⟨k1, k2, k3⟩ | ⟨k1, c, k2, k3, k4, k5⟩
    · rw [k3, aup_of (by omega)]; exact h5
    · rw [k5 _ _ (by omega) (by omega) (by omega), aup_of (by omega)]; exact h5
  have hT' : ∀ q kk : Int, 0 ≤ q → q ≤ L → 0 ≤ kk → kk ≤ 4 → m2 (t + 2) (q * 5 + kk).toNat = mPv A L Mi pi q kk := by
    intro q kk a b c d
    rcases k with ⟨k1, k2, k3⟩ | ⟨k1, c, k2, k3, k4, k5⟩
    · rw [k3, aup_of (by omega)]; exact hT q kk a b c d
    · rw [k5 _ _ (by omega) (by omega) (by omega), aup_of (by omega)]; exact hT q kk a b (by omega) d
  by_cases e : pi = 1
  · rw [if_pos e]
    rw [e] at h5' hT' s2
    have hPN := mPv_N (pi := 1) ht hM (by omega) (by omega) _ 0 4 (by omega) L0 (Nat.le_refl _)
    refine mOk_bind (turn_ok (c := c) ht (mTR_same (fun q i hq => s4 q i (by omega) (by omega) (by omega) (by omega)) hr ht.2.2.2.2.1.2) ht1 hM ⟨(s4 _ _ (by omega) (by omega) (by omega) (by omega)).trans hC.1, fun i w a b c d => (s4 _ _ (by omega) (by omega) (by omega) (by omega)).trans (hC.2 i w a b c d)⟩ L1 h5' hT' s1 ?_ ?_ s3) (fun m3 k3 => ?_)
    · intro c0
      rcases s2 with ⟨_, s2⟩ | ⟨s2, s2'⟩
      · by_cases g : 1 ≤ mNn A L Mi 0 4
        · rw [if_pos g] at hPN; omega
        · omega
      · rw [c0] at s2'
        have : (0 : Int) = L := s2'
        rw [← this, mNn_00]; omega
    · intro c0
      rcases s2 with ⟨s2, _⟩ | ⟨s2, s2'⟩
      · exact absurd s2 c0
      · exact s2'
    · obtain ⟨c', t1, t2, t3⟩ := k3
      unfold Cutter_choose_41
      rw [st1e]
      refine mOk_some ⟨c', aup_self _ _ _ _, by rw [aup_of (by omega)]; exact t1, ?_, fun h => absurd e h, fun q i a b c d => by rw [aup_of (by omega), t3 q i (by omega) c d]; exact s4 q i (by omega) b c d⟩
      rw [show (fun i => aup m3 t 9 pi (t + 4) i) = fun i => m3 (t + 4) i from funext fun i => aup_of (by omega)]
      refine Or.inl ⟨e, ?_⟩
      rw [e]
      rcases t2 with ⟨a, b⟩ | h
      · exact Or.inl ⟨b, a⟩
      · exact Or.inr h
  · rw [if_neg e]
    unfold Cutter_choose_41
    rw [st1e]
    have er : (fun i => aup m2 t 9 pi (t + 4) i) = fun i => m2 (t + 4) i := funext fun i => aup_of (by omega)
    refine mOk_some ⟨c, aup_self _ _ _ _, by rw [aup_of (by omega)]; exact s1, ?_, fun h i hi => by rw [er, aup_of (by omega)]; exact s3 i hi, fun q i a b c d => by rw [aup_of (by omega)]; exact s4 q i (by omega) b c d⟩
    rw [er]
    refine Or.inr ⟨e, ?_⟩
    rcases s2 with ⟨a, b⟩ | h
    · exact Or.inl ⟨b, a⟩
    · exact Or.inr h
theorem finds_ok {A : Nat → Int} {L pi : Int} {Mi : Int → Int → Int} {m : aM} (ht : mTok A) (hM : mMok A L Mi) (hk : mRk A L Mi m) (L0 : 0 ≤ L) (L1 : L ≤ 40) (q0 : 0 ≤ pi) (q1 : pi ≤ 3) : mOk (R_finds pi m) (fun r => (∃ c : Nat, mCo A L Mi pi c (fun i => r.2 186 i) ∧ ((r.1 = 0 ∧ c = 0) ∨ (r.1 = 1 ∧ 1 ≤ c ∧ r.2 176 22 = (c : Int)))) ∧ (pi = 3 → mRep L (mPv A L Mi 3 0 4) (r.2 184 13) (r.2 185 13)) ∧ ∀ q i, ¬(q = 176 ∧ i = 22) → q ≠ 184 → q ≠ 185 → q ≠ 186 → q ≠ 187 → r.2 q i = m q i) := by
  have gp0 : ∀ {f : Nat → Int} {c : Nat}, mPv A L Mi pi 0 4 ≠ 268435456 → mGp A L Mi pi c 0 4 f → 1 ≤ c := by
    intro f c a b
    cases c with
    | zero =>
      have e : (0 : Int) = L := b
      rw [← e] at a
      exact absurd mPv_00 a
    | succ c => omega
  unfold R_finds
  by_cases d : pi < 2
  · rw [if_pos d]
    refine mOk_bind (findsFirst_ok ht hM hk L0 L1 (show pi = 0 ∨ pi = 1 by omega)) (fun r kr => ?_)
    obtain ⟨k1, k2⟩ := kr
    have hPN := mPv_N (pi := pi) ht hM (by omega) (by omega) _ 0 4 (by omega) L0 (Nat.le_refl _)
    have nn := mNn_nn (A := A) (L := L) (Mi := Mi) 0 4
    rw [if_pos (by rcases k1 with ⟨a, _⟩ | ⟨a, _⟩ <;> omega)]
    refine mOk_some ⟨?_, fun h => by omega, fun q i a b c d e => k2 q i a d e⟩
    rcases k1 with ⟨a, b⟩ | ⟨a, b, c, e1, e2, e3⟩
    · refine ⟨0, ?_, Or.inl ⟨a, rfl⟩⟩
      by_cases e : pi = 1
      · exact Or.inl ⟨e, Or.inl ⟨by omega, rfl⟩⟩
      · rw [if_neg (by omega)] at hPN
        exact Or.inr ⟨e, Or.inl ⟨hPN, rfl⟩⟩
    · rw [if_pos (by omega)] at hPN
      by_cases e : pi = 1
      · refine ⟨c, Or.inl ⟨e, Or.inr (e2 e)⟩, Or.inr ⟨a, ?_, e3⟩⟩
        cases c with
        | zero => exact absurd (e2 e) (fun h => h)
        | succ c => omega
      · exact ⟨c, Or.inr ⟨e, Or.inr ⟨by omega, e1 (by omega)⟩⟩, Or.inr ⟨a, gp0 (by omega) (e1 (by omega)), e3⟩⟩
  · rw [if_neg d]
    have body : ∀ x : Int, ((pi = 2 ∧ x = 0) ∨ (pi = 3 ∧ x = 1)) → mOk (R_finds_14 x m) (fun r => (∃ c : Nat, mCo A L Mi pi c (fun i => r.2 186 i) ∧ ((r.1 = 0 ∧ c = 0) ∨ (r.1 = 1 ∧ 1 ≤ c ∧ r.2 176 22 = (c : Int)))) ∧ (pi = 3 → mRep L (mPv A L Mi 3 0 4) (r.2 184 13) (r.2 185 13)) ∧ ∀ q i, ¬(q = 176 ∧ i = 22) → q ≠ 184 → q ≠ 185 → q ≠ 186 → q ≠ 187 → r.2 q i = m q i) := by
      intro x hx
      unfold R_finds_14
      refine mOk_bind (findsBest_ok ht hM hk L0 L1 hx) (fun r kr => ?_)
      obtain ⟨k1, k2, k3⟩ := kr
      rw [if_pos (by rcases k1 with ⟨a, _⟩ | ⟨a, _⟩ <;> omega)]
      refine mOk_some ⟨?_, fun h => by rw [h] at k2; exact k2, fun q i a b c d e => k3 q i a b c d⟩
      rcases k1 with ⟨a, b⟩ | ⟨a, b, c, e1, e3⟩
      · exact ⟨0, Or.inr ⟨by omega, Or.inl ⟨b, rfl⟩⟩, Or.inl ⟨a, rfl⟩⟩
      · exact ⟨c, Or.inr ⟨by omega, Or.inr ⟨b, e1⟩⟩, Or.inr ⟨a, gp0 b e1, e3⟩⟩
    by_cases e : pi = 3
    · rw [if_pos e]; exact body 1 (by omega)
    · rw [if_neg e]; exact body 0 (by omega)
/-- mistakes and uses along a cut -/
def mMs (A : Nat → Int) (h : Int → Int → Int) (p : Int) (f : Nat → Int) : Nat → Int
  | 0 => 0
  | i + 1 => mMs A h p f i + h (mPl A p f i) (f i)
theorem mMs_shift (A : Nat → Int) (h : Int → Int → Int) (p : Int) (f : Nat → Int) : ∀ i, mMs A h p f (i + 1) = h p (f 0) + mMs A h (p + A (19 + f 0).toNat) (fun i => f (i + 1)) i := by
  intro i
  induction i with
  | zero => show 0 + h p (f 0) = h p (f 0) + 0; omega
  | succ i ih =>
    rw [mMs, ih, mMs, mPl_shift]; omega
theorem mGp_price {A : Nat → Int} {L : Int} {Mi : Int → Int → Int} {pi : Int} (ht : mTok A) (hM : mMok A L Mi) (q : pi = 2 ∨ pi = 3) : ∀ {c : Nat} {p kd : Int} {f : Nat → Int}, 0 ≤ p → mGp A L Mi pi c p kd f → mPv A L Mi pi p kd ≠ 268435456 → ∃ U : Int, mPv A L Mi pi p kd = mMs A Mi p f c * 10000 - U ∧ 0 ≤ U ∧ U ≤ 99 * c ∧ (∀ i, i < c → 0 ≤ Mi (mPl A p f i) (f i) ∧ Mi (mPl A p f i) (f i) ≤ 6 ∧ 0 ≤ mPl A p f i ∧ mPl A p f i < L ∧ 0 ≤ f i ∧ f i < A 18) := by
  intro c
  induction c with
  | zero =>
    intro p kd f p0 h hP
    have e : p = L := h
    rw [e, mPv_end] at hP ⊢
    by_cases z : mKe A kd
    · exact ⟨0, by rw [if_pos z]; rfl, by omega, by omega, fun i hi => by omega⟩
    · rw [if_neg z] at hP; exact absurd rfl hP
  | succ c ih =>
    intro p kd f p0 h hP
    obtain ⟨h1, h2, ⟨a0, a1, a2, a3⟩, h4⟩ := h
    have nx := mTh_next (by rw [a2]; exact h2)
    have hin := mPf_in ht hM p0 h1 a0 a1 nx.1
    have hl := ht.2.2.2.2.2.1 _ a0 a1
    have hm := hM p (f 0) p0 h1 a0 a1
    obtain ⟨U, u1, u2, u3, u4⟩ := ih (by omega) h4 nx.2.1
    refine ⟨U + A (32 + f 0).toNat, ?_, by omega, by omega, fun i hi => ?_⟩
    · rw [← a2, nx.2.2, u1, mMs_shift]
      unfold mPc
      rw [if_pos q]; omega
    · cases i with
      | zero =>
        show 0 ≤ Mi p (f 0) ∧ Mi p (f 0) ≤ 6 ∧ 0 ≤ p ∧ p < L ∧ 0 ≤ f 0 ∧ f 0 < A 18
        have := hin.1
        omega
      | succ i =>
        have := u4 i (by omega)
        rw [mPl_shift] at this
        exact this
theorem chosenMisses_ok {t : Nat} {A : Nat → Int} {L : Int} {Mi : Int → Int → Int} {m : aM} {c : Nat} (hA : A 18 ≤ 12) (hC : mCt t A L Mi m) (L1 : L ≤ 40) (c1 : (c : Int) ≤ 40) (h8 : m t 8 = (c : Int)) (hp : ∀ i, i < c → m (t + 5) i = mPl A 0 (fun i => m (t + 4) i) i)
    (hb : ∀ i, i < c → 0 ≤ Mi (mPl A 0 (fun i => m (t + 4) i) i) (m (t + 4) i) ∧ Mi (mPl A 0 (fun i => m (t + 4) i) i) (m (t + 4) i) ≤ 6 ∧ 0 ≤ mPl A 0 (fun i => m (t + 4) i) i ∧ mPl A 0 (fun i => m (t + 4) i) i < L ∧ 0 ≤ m (t + 4) i ∧ m (t + 4) i < A 18) : mOk (Cutter_chosenMisses t m) (fun r => r = mMs A Mi 0 (fun i => m (t + 4) i) c) := by
  unfold Cutter_chosenMisses
  refine mL2 (Cutter_chosenMisses_4 m t) (fun x k => 0 ≤ k ∧ k ≤ c ∧ x = mMs A Mi 0 (fun i => m (t + 4) i) k.toNat ∧ 0 ≤ x ∧ x ≤ 6 * k) (fun _ k => (41 - k).toNat) ?_ 0 0 ⟨by omega, by omega, rfl, by omega, by omega⟩ (by omega)
  rintro fu x k ⟨k0, k1, ex, x0, x1⟩ ih
  rw [Cutter_chosenMisses_4, h8]
  by_cases d : k < c
  · obtain ⟨i, hi⟩ : ∃ i : Nat, k = i := ⟨k.toNat, by omega⟩
    subst hi
    have b := hb i (by omega)
    rw [if_pos d, if_pos (by omega), Int.toNat_natCast, hp i (by omega)]
    simp (disch := omega) only [w32e, if_pos]
    rw [hC.2 _ _ (by omega) (by omega) (by omega) (by omega), w32e (by omega) (by omega)]
    refine ih _ _ ⟨by omega, by omega, ?_, by omega, by omega⟩ (by omega)
    rw [show ((i : Int) + 1).toNat = i + 1 by omega, mMs, ex, Int.toNat_natCast]
  · rw [if_neg d]
    exact mOk_some (by rw [ex, show k.toNat = c by omega])
