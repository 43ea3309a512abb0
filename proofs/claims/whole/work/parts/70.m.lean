/-! THE REFERENCE'S CHOSEN CUT -/
def mBt (A : Nat → Int) (L : Int) (Mi : Int → Int → Int) (pi : Int) (m : aM) : Prop := ∀ p a : Int, 0 ≤ p → p ≤ L → 0 ≤ a → (a < A 18 ∨ a = 13) → mRep (L - p) (mPv A L Mi pi p (mKo A a)) (m 184 (p * 14 + a).toNat) (m 185 (p * 14 + a).toNat)
theorem mKo_w {A : Nat → Int} {w : Int} (h : w < 13) : mKo A w = A (45 + w).toNat := by unfold mKo; rw [if_neg (by omega)]
theorem isBest_ok {A : Nat → Int} {L pi x1 a w p : Int} {Mi : Int → Int → Int} {m : aM} (ht : mTok A) (hk : mRk A L Mi m) (hM : mMok A L Mi) (L1 : L ≤ 40) (hpi : (pi = 2 ∧ x1 = 0) ∨ (pi = 3 ∧ x1 = 1)) (hT : mBt A L Mi pi m) (a0 : 0 ≤ a) (ha : a < A 18 ∨ a = 13) (p0 : 0 ≤ p) (p1 : p < L) (w0 : 0 ≤ w) (w1 : w < A 18) (hP : mPv A L Mi pi p (mKo A a) ≠ 268435456) : mOk (R_isBest a w p x1 m) (fun r => r ≠ 0 ↔ mTh A L Mi pi p (mKo A a) w = mPv A L Mi pi p (mKo A a)) := by
  have c4 := ht.2.2.2.2.1
  have hl := ht.2.2.2.2.2.1 w w0 w1
  unfold R_isBest
  rw [hk.1]
  refine mOk_bind (offBy_ok (m := m) ht hk hM L1 hpi a0 ha p0 p1 w0 w1) (fun off ko => ?_)
  have cur := (hT p a p0 (by omega) a0 ha).resolve_left (fun h => hP h.1)
  simp (disch := omega) only [w32e, if_pos]
  rcases ko with ⟨k1, k2, k3, k4⟩ | ⟨k1, k2⟩
  rotate_left
  · rw [if_neg (by omega)]
    refine mOk_some ?_
    have : mTh A L Mi pi p (mKo A a) w = 268435456 := by unfold mTh mPt1; rw [if_neg (fun h => k1 h.1)]
    rw [this]
    exact ⟨fun h => absurd rfl h, fun h => absurd h.symm hP⟩
  rw [if_pos (by omega)]
  have hin := mPf_in ht hM p0 p1 w0 w1 k1
  have hent := hT (p + A (19 + w).toNat) w (by omega) hin.2.1 w0 (Or.inl w1)
  rw [mKo_w (by omega)] at hent
  simp (disch := omega) only [w32e, if_pos]
  generalize m 184 ((p + A (19 + w).toNat) * 14 + w).toNat = F at *
  generalize m 185 ((p + A (19 + w).toNat) * 14 + w).toNat = U at *
  rcases hent with ⟨r1, r2, r3⟩ | ⟨r1, r2, r3, r4, r5, r6⟩
  · rw [if_neg (by omega)]
    refine mOk_some ?_
    have : mTh A L Mi pi p (mKo A a) w = 268435456 := by unfold mTh mPt1; rw [if_neg (fun h => h.2 r1)]
    rw [this]
    exact ⟨fun h => absurd rfl h, fun h => absurd h.symm hP⟩
  rw [if_pos (by omega)]
  have eth : mTh A L Mi pi p (mKo A a) w = F * 10000 - U + (off * 10000 - A (32 + w).toNat) := by
    unfold mTh mPt1 mPc
    rw [if_pos ⟨k1, r1⟩, if_pos (by omega), r2, k2]
  generalize mTh A L Mi pi p (mKo A a) w = T at *
  generalize mPv A L Mi pi p (mKo A a) = G at *
  generalize hcF : m 184 (p * 14 + a).toNat = F0 at *
  generalize hcU : m 185 (p * 14 + a).toNat = U0 at *
  rw [w32e (x := off + F) (by omega) (by omega)]
  by_cases g2 : off + F = F0
  · rw [if_pos g2, w32e (x := A (32 + w).toNat + U) (by omega) (by omega)]
    by_cases g3 : A (32 + w).toNat + U = U0
    · rw [if_pos g3]; refine mOk_some ?_; exact ⟨fun _ => by omega, fun _ => by omega⟩
    · rw [if_neg g3]; refine mOk_some ?_; exact ⟨fun h => absurd rfl h, fun h => by omega⟩
  · rw [if_neg g2]; refine mOk_some ?_; exact ⟨fun h => absurd rfl h, fun h => by omega⟩
theorem findsFrom_ok {A : Nat → Int} {L pi x1 : Int} {Mi : Int → Int → Int} (ht : mTok A) (hM : mMok A L Mi) (L1 : L ≤ 40) (hpi : (pi = 2 ∧ x1 = 0) ∨ (pi = 3 ∧ x1 = 1)) : ∀ (d n : Nat) (p a : Int) (c0 : Nat) (m : aM), mRk A L Mi m → mBt A L Mi pi m → 0 ≤ p → p ≤ L → 0 ≤ a → (a < A 18 ∨ a = 13) → (p = L ∨ mPv A L Mi pi p (mKo A a) ≠ 268435456) → m 176 22 = (c0 : Int) → c0 + (L - p) ≤ 40 → (L - p).toNat ≤ d → d < n → mOk (R_findsBest_18 x1 n p a m) (fun r => r.1 = 1 ∧ ∃ c : Nat, mGp A L Mi pi c p (mKo A a) (fun i => r.2 186 (c0 + i)) ∧ r.2 176 22 = ((c0 + c : Nat) : Int) ∧ ∀ q i, ¬(q = 176 ∧ i = 22) → ¬(q = 186 ∧ c0 ≤ i) → r.2 q i = m q i) := by
  have c4 := ht.2.2.2.2.1
  intro d
  induction d with
  | zero =>
    intro n p a c0 m hk hT p0 p1 a0 ha hP h22 hc hd hn
    cases n with
    | zero => omega
    | succ n =>
      rw [R_findsBest_18, hk.2.1, if_neg (by omega)]
      exact mOk_some ⟨rfl, 0, (by omega : p = L), h22, fun _ _ _ _ => rfl⟩
  | succ d ih =>
    intro n p a c0 m hk hT p0 p1 a0 ha hP h22 hc hd hn
    cases n with
    | zero => omega
    | succ n =>
      rw [R_findsBest_18, hk.2.1]
      by_cases e : p = L
      · rw [if_neg (by omega)]
        exact mOk_some ⟨rfl, 0, e, h22, fun _ _ _ _ => rfl⟩
      rw [if_pos (by omega)]
      have zf := hP.resolve_left e
      have mn := mMn_le (f := mTh A L Mi pi p (mKo A a)) (n := (A 18).toNat)
      rw [← mPv_step ht hM p0 (by omega)] at mn
      obtain ⟨w1, x0, x1', x2⟩ := mn.2.2.resolve_left zf
      clear mn hP
      refine mL1 (fun f w => R_findsBest_24 (R_findsBest_18 x1 n) x1 p a f w m) (fun w => 0 ≤ w ∧ w ≤ w1 ∧ ∀ v : Int, 0 ≤ v → v < w → mTh A L Mi pi p (mKo A a) v ≠ mPv A L Mi pi p (mKo A a)) (fun w => (13 - w).toNat) ?_ 0 ⟨by omega, by omega, fun v a b => by omega⟩ (by omega)
      rintro fu w ⟨w0, w2, w3⟩ ih2
      show mOk (R_findsBest_24 (R_findsBest_18 x1 n) x1 p a (fu + 1) w m) _
      rw [R_findsBest_24]
      refine mOk_bind (isBest_ok ht hk hM L1 hpi hT a0 ha p0 (by omega) w0 (by omega) zf) (fun r kr => ?_)
      by_cases z : r = 0
      · rw [if_pos z, w32e (by omega) (by omega)]
        have nw : mTh A L Mi pi p (mKo A a) w ≠ mPv A L Mi pi p (mKo A a) := fun h => (kr.mpr h) z
        have : w ≠ w1 := fun h => nw (by rw [h]; exact x2.symm)
        refine ih2 _ ⟨by omega, by omega, fun v a b => ?_⟩ (by omega)
        by_cases ev : v = w
        · rw [ev]; exact nw
        · exact w3 v a (by omega)
      rw [if_neg z]
      have hw := kr.mp z
      have nx := mTh_next (by rw [hw]; exact zf)
      have hin := mPf_in ht hM p0 (by omega) w0 (by omega) nx.1
      rw [h22, if_pos (by omega), st1e, st1e, Int.toNat_natCast]
      generalize hm1 : aup (aup m 186 c0 w) 176 22 (w32 (aup m 186 c0 w 176 22 + 1)) = m1
      have fr1 : ∀ q i, ¬(q = 176 ∧ i = 22) → ¬(q = 186 ∧ i = c0) → m1 q i = m q i := by
        intro q i a b
        rw [← hm1, aup_of (by omega), aup_of (by omega)]
      have e8 : m1 176 22 = ((c0 + 1 : Nat) : Int) := by
        rw [← hm1, aup_self, aup_of (by omega), h22, w32e (by omega) (by omega)]; omega
      have e4 : m1 186 c0 = w := by rw [← hm1, aup_of (by omega), aup_self]
      clear hm1
      have hk1 : mRk A L Mi m1 := mRk_same hk (fun q i hq => fr1 q i (by omega) (by omega))
      have hl := ht.2.2.2.2.2.1 w w0 (by omega)
      rw [hk1.1]
      simp (disch := omega) only [w32e, if_pos]
      have nx2 := nx.2.1
      rw [← mKo_w (A := A) (w := w) (by omega)] at nx2
      refine mOk_mono (ih n (p + A (19 + w).toNat) w (c0 + 1) m1 hk1 (fun p a x y z u => by rw [fr1 _ _ (by omega) (by omega), fr1 _ _ (by omega) (by omega)]; exact hT p a x y z u) (by omega) (by omega) w0 (Or.inl (by omega)) (Or.inr nx2) e8 (by omega) (by omega) (by omega)) (fun r k => ?_)
      obtain ⟨k0, c, k2, k3, k5⟩ := k
      rw [mKo_w (by omega)] at k2
      have f0 : r.2 186 c0 = w := (k5 _ _ (by omega) (by omega)).trans e4
      have sh : (fun i => r.2 186 (c0 + 1 + i)) = fun i => r.2 186 (c0 + (i + 1)) := funext fun i => by rw [show c0 + 1 + i = c0 + (i + 1) by omega]
      refine ⟨k0, c + 1, ⟨by omega, zf, ?_, ?_⟩, ?_, ?_⟩
      · have ff : (fun i => r.2 186 (c0 + i)) 0 = w := f0
        rw [ff]
        exact ⟨w0, by omega, hw, w3⟩
      · have ff : (fun i => r.2 186 (c0 + i)) 0 = w := f0
        rw [ff]
        rw [sh] at k2
        exact k2
      · rw [k3]; omega
      · intro q i a b
        rw [k5 q i a (by omega), fr1 q i a (by omega)]
/-- the best cut of the reference: found or not -/
theorem findsBest_ok {A : Nat → Int} {L pi x1 : Int} {Mi : Int → Int → Int} {m : aM} (ht : mTok A) (hM : mMok A L Mi) (hk : mRk A L Mi m) (L0 : 0 ≤ L) (L1 : L ≤ 40) (hpi : (pi = 2 ∧ x1 = 0) ∨ (pi = 3 ∧ x1 = 1)) : mOk (R_findsBest x1 m) (fun r => ((r.1 = 0 ∧ mPv A L Mi pi 0 4 = 268435456) ∨ (r.1 = 1 ∧ mPv A L Mi pi 0 4 ≠ 268435456 ∧ ∃ c : Nat, mGp A L Mi pi c 0 4 (fun i => r.2 186 i) ∧ r.2 176 22 = (c : Int))) ∧ mRep L (mPv A L Mi pi 0 4) (r.2 184 13) (r.2 185 13) ∧ ∀ q i, ¬(q = 176 ∧ i = 22) → q ≠ 184 → q ≠ 185 → q ≠ 186 → r.2 q i = m q i) := by
  unfold R_findsBest
  refine mOk_bind (P := fun m' => mBt A L Mi pi m' ∧ ∀ q i, q ≠ 184 → q ≠ 185 → m' q i = m q i) (laysBest_ok ht hk hM L0 L1 hpi (fun m' a b => ⟨a, b⟩)) (fun m' km => ?_)
  obtain ⟨k1, k2⟩ := km
  rw [st1e, aup_of (q' := 184) (by omega)]
  have e13 : mKo A 13 = 4 := by unfold mKo; rw [if_pos rfl]
  have rep := k1 0 13 (by omega) L0 (by omega) (Or.inr rfl)
  rw [e13, show ((0 : Int) * 14 + 13).toNat = 13 by omega, show L - 0 = L by omega] at rep
  by_cases z : m' 184 13 < 1000
  · rw [if_pos z]
    have zf : mPv A L Mi pi 0 4 ≠ 268435456 := by
      rcases rep with h | h
      · omega
      · exact h.1
    refine mOk_mono (findsFrom_ok ht hM L1 hpi L.toNat FU 0 13 0 (aup m' 176 22 0) (mRk_same hk (fun q i hq => by rw [aup_of (by omega)]; exact k2 _ _ (by omega) (by omega))) (fun p a x y zz u => by rw [aup_of (by omega), aup_of (by omega)]; exact k1 p a x y zz u) (by omega) L0 (by omega) (Or.inr rfl) (Or.inr (by rw [e13]; exact zf)) (aup_self _ _ _ _) (by omega) (by omega) (by unfold FU; omega)) (fun r kr => ?_)
    obtain ⟨r1, c, r2, r3, r4⟩ := kr
    rw [e13] at r2
    refine ⟨Or.inr ⟨r1, zf, c, by simpa using r2, by simpa using r3⟩, ?_, fun q i a b c' d => ?_⟩
    · rw [r4 _ _ (by omega) (by omega), r4 _ _ (by omega) (by omega), aup_of (by omega), aup_of (by omega)]
      exact rep
    · rw [r4 _ _ a (by omega), aup_of (by omega)]; exact k2 _ _ b c'
  · rw [if_neg z]
    refine mOk_some ⟨Or.inl ⟨rfl, ?_⟩, ?_, fun q i a b c' d => ?_⟩
    · rcases rep with h | h
      · exact h.1
      · omega
    · dsimp only
      rw [aup_of (by omega), aup_of (by omega)]; exact rep
    · dsimp only
      rw [aup_of (by omega)]; exact k2 _ _ b c'
