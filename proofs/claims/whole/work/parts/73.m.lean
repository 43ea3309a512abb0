/-! THE CLASS'S CUTS -/
def mKd (A : Nat → Int) (kd : Int) (f : Nat → Int) : Nat → Int
  | 0 => kd
  | i + 1 => A (45 + f i).toNat
theorem mKd_shift (A : Nat → Int) (kd : Int) (f : Nat → Int) : ∀ i, mKd A (A (45 + f 0).toNat) (fun i => f (i + 1)) i = mKd A kd f (i + 1) := by
  intro i
  cases i with
  | zero => rfl
  | succ i => rfl
theorem mGp_at {A : Nat → Int} {L : Int} {Mi : Int → Int → Int} {pi : Int} (ht : mTok A) : ∀ {i c : Nat} {p kd : Int} {f : Nat → Int}, mGp A L Mi pi c p kd f → i ≤ c → 0 ≤ kd → kd ≤ 4 → mGp A L Mi pi (c - i) (mPl A p f i) (mKd A kd f i) (fun l => f (i + l)) ∧ p + i ≤ mPl A p f i ∧ 0 ≤ mKd A kd f i ∧ mKd A kd f i ≤ 4 := by
  intro i
  induction i with
  | zero =>
    intro c p kd f h _ k0 k1
    refine ⟨?_, by show p + ((0 : Nat) : Int) ≤ p; omega, k0, k1⟩
    rw [show (fun l => f (0 + l)) = f from funext fun l => by rw [Nat.zero_add]]
    exact h
  | succ i ih =>
    intro c p kd f h hi k0 k1
    cases c with
    | zero => omega
    | succ c =>
      obtain ⟨h1, h2, ⟨a0, a1, a2, a3⟩, h4⟩ := h
      have hl := ht.2.2.2.2.2.1 _ a0 a1
      obtain ⟨r1, r2, r3, r4⟩ := ih h4 (by omega) (by omega) (by omega)
      rw [mPl_shift, mKd_shift A kd] at r1
      rw [mPl_shift] at r2
      rw [mKd_shift A kd] at r3 r4
      rw [show c + 1 - (i + 1) = c - i by omega, show (fun l => f (i + 1 + l)) = fun l => f (i + l + 1) from funext fun l => by rw [show i + 1 + l = i + l + 1 by omega]]
      exact ⟨r1, by omega, r3, r4⟩
/-- a first word that may be cut: how many ways go through it -/
theorem mGp_first {A : Nat → Int} {L : Int} {Mi : Int → Int → Int} {pi : Int} (ht : mTok A) (hM : mMok A L Mi) (q2 : pi ≠ 2) (q3 : pi ≠ 3) {p kd w : Int} (p0 : 0 ≤ p) (p1 : p < L) (hP : mPv A L Mi pi p kd ≠ 268435456) (a : 0 ≤ w ∧ w < A 18 ∧ mTh A L Mi pi p kd w = mPv A L Mi pi p kd ∧ ∀ v : Int, 0 ≤ v → v < w → mTh A L Mi pi p kd v ≠ mPv A L Mi pi p kd) : 1 ≤ mNw A L Mi p kd w ∧ mNw A L Mi p kd w = mNn A L Mi (p + A (19 + w).toNat) (A (45 + w).toNat) ∧ (∀ v : Int, 0 ≤ v → v < w → mNw A L Mi p kd v = 0) ∧ p + A (19 + w).toNat ≤ L ∧ mPv A L Mi pi (p + A (19 + w).toNat) (A (45 + w).toNat) ≠ 268435456 := by
  obtain ⟨a0, a1, a2, a3⟩ := a
  have hP1 := mPv_N (pi := pi) ht hM q2 q3 _ p kd p0 (by omega) (Nat.le_refl _)
  have hT1 := mTh_N (pi := pi) (kd := kd) ht hM q2 q3 p0 p1 a0 a1
  have z : mPv A L Mi pi p kd = 0 := by
    rw [hP1]; split
    · rfl
    · rename_i g; rw [if_neg g] at hP1; exact absurd hP1 hP
  have n1 : 1 ≤ mNw A L Mi p kd w := by
    by_cases g : 1 ≤ mNw A L Mi p kd w
    · exact g
    · rw [if_neg g] at hT1; omega
  have nx := mTh_next (by rw [a2]; exact hP)
  have hin := mPf_in ht hM p0 p1 a0 a1 nx.1
  refine ⟨n1, mNw_t ((mFc_pf hM q3 p0 p1 a0 a1).mp nx.1), fun v v0 v1 => ?_, hin.2.1, nx.2.1⟩
  have h3 := a3 v v0 v1
  rw [mTh_N ht hM q2 q3 p0 p1 v0 (by omega), z] at h3
  have := mNw_nn (A := A) (L := L) (Mi := Mi) p kd v
  by_cases g : 1 ≤ mNw A L Mi p kd v
  · rw [if_pos g] at h3; exact absurd rfl h3
  · omega
theorem mSp_lift {A : Nat → Int} {L : Int} {Mi : Int → Int → Int} {pi : Int} (ht : mTok A) (hM : mMok A L Mi) (q2 : pi ≠ 2) (q3 : pi ≠ 3) : ∀ {j c c2 : Nat} {p kd : Int} {f g : Nat → Int}, mGp A L Mi pi c p kd f → 0 ≤ p → j ≤ c → (∀ l, l < j → g l = f l) → mSp A L Mi pi c2 (mPl A p f j) (mKd A kd f j) (fun l => g (j + l)) → mSp A L Mi pi (j + c2) p kd g := by
  intro j
  induction j with
  | zero =>
    intro c c2 p kd f g h p0 _ _ hs
    rw [show (fun l => g (0 + l)) = g from funext fun l => by rw [Nat.zero_add]] at hs
    rw [Nat.zero_add]
    exact hs
  | succ j ih =>
    intro c c2 p kd f g h p0 hj hg hs
    cases c with
    | zero => omega
    | succ c =>
      obtain ⟨h1, h2, h3, h4⟩ := h
      have ff := mGp_first ht hM q2 q3 p0 h1 h2 h3
      have hl := ht.2.2.2.2.2.1 _ h3.1 h3.2.1
      rw [← mPl_shift, ← mKd_shift, show (fun l => g (j + 1 + l)) = fun l => g (j + l + 1) from funext fun l => by rw [show j + 1 + l = j + l + 1 by omega]] at hs
      have r := ih (g := fun l => g (l + 1)) h4 (by omega) (by omega) (fun l hl => hg (l + 1) (by omega)) hs
      have rn := (mSp_N ht hM (by omega) r).2
      have e0 := hg 0 (by omega)
      rw [show j + 1 + c2 = (j + c2) + 1 by omega]
      refine ⟨h1, ?_, ?_⟩
      · rw [e0]; exact ⟨h3.1, h3.2.1⟩
      · rw [e0]
        refine Or.inl ⟨by omega, ?_, r⟩
        unfold mS2
        rw [mSum_congr (g := fun _ => 0) (fun i i0 i1 => by rw [ff.2.2.1 i i0 (by omega)]; rfl)]
        exact mSum_zero _
theorem turn_ok {t : Nat} {A : Nat → Int} {L : Int} {Mi : Int → Int → Int} {m : aM} {c : Nat} (ht : mTok A) (hr : mTR 25 47 A m) (ht1 : t = 61 ∨ t = 67) (hM : mMok A L Mi) (hC : mCt t A L Mi m) (L1 : L ≤ 60) (h5 : m t 5 = 1)
    (hT : ∀ q k : Int, 0 ≤ q → q ≤ L → 0 ≤ k → k ≤ 4 → m (t + 2) (q * 5 + k).toNat = mPv A L Mi 1 q k) (h8 : m t 8 = (c : Int)) (hN : c = 0 → mNn A L Mi 0 4 ≤ 1) (hG : c ≠ 0 → mGp A L Mi 1 c 0 4 (fun i => m (t + 4) i)) (hp : ∀ i, i < c → m (t + 5) i = mPl A 0 (fun i => m (t + 4) i) i) :
    mOk (Cutter_turnToSecond t m) (fun m' => ∃ c' : Nat, m' t 8 = (c' : Int) ∧ ((c' = 0 ∧ mNn A L Mi 0 4 ≤ 1) ∨ mSp A L Mi 1 c' 0 4 (fun i => m' (t + 4) i)) ∧ ∀ q i, ¬(q = t ∧ i = 8) → q ≠ t + 4 → q ≠ t + 5 → m' q i = m q i) := by
  have c4 := ht.2.2.2.2.1
  unfold Cutter_turnToSecond
  generalize hf : (fun i => m (t + 4) i) = f at *
  have hf' : ∀ i, m (t + 4) i = f i := fun i => by rw [← hf]
  have cl : c ≠ 0 → (c : Int) ≤ L := fun h => by have := mGp_len ht (hG h); omega
  have cb : (c : Int) ≤ 60 := by
    by_cases z : c = 0
    · omega
    · have := cl z; omega
  rw [h8, w32e (by omega) (by omega)]
  refine mL1 (fun n j => Cutter_turnToSecond_5 t n j m) (fun j => -1 ≤ j ∧ j < c ∧ (c = 0 → j = -1) ∧ mNn A L Mi (mPl A 0 f (j + 1).toNat) (mKd A 4 f (j + 1).toNat) ≤ 1) (fun j => (j + 1).toNat) ?_ _ ⟨by omega, by omega, by omega, ?_⟩ (by omega)
  rotate_left
  · rw [show ((c : Int) - 1 + 1).toNat = c by omega]
    by_cases z : c = 0
    · rw [z]; exact hN z
    · obtain ⟨g1, g2, g3, g4⟩ := mGp_at (i := c) ht (hG z) (Nat.le_refl _) (by omega) (by omega)
      rw [Nat.sub_self] at g1
      have e : mPl A 0 f c = L := g1
      rw [e]
      unfold mNn
      rw [mWv_end]
      exact (mI_01 _).2
  rintro fu j ⟨j0, j1, j2, hN1⟩ ih
  show mOk (Cutter_turnToSecond_5 t (fu + 1) j m) _
  rw [Cutter_turnToSecond_5]
  by_cases d : j < 0
  · rw [if_pos d, st1e]
    refine mOk_some ⟨0, aup_self _ _ _ _, Or.inl ⟨rfl, ?_⟩, fun q i a b c => aup_of (by omega)⟩
    rw [show (j + 1).toNat = 0 by omega] at hN1
    exact hN1
  rw [if_neg d]
  have c0 : c ≠ 0 := by omega
  obtain ⟨i, hi⟩ : ∃ i : Nat, j = i := ⟨j.toNat, by omega⟩
  subst hi
  obtain ⟨g1, g2, g3, g4⟩ := mGp_at (i := i) ht (hG c0) (by omega) (by omega) (by omega)
  have hP := hp i (by omega)
  generalize hpp : mPl A 0 f i = p at *
  generalize hkk : mKd A 4 f i = kd at *
  rw [show c - i = (c - i - 1) + 1 by omega] at g1
  obtain ⟨b1, b2, b3, b4⟩ := g1
  have e0 : (fun l => f (i + l)) 0 = f i := rfl
  rw [e0] at b3 b4
  have ff := mGp_first ht hM (by omega) (by omega) (by omega) b1 b2 b3
  have hlf := ht.2.2.2.2.2.1 _ b3.1 b3.2.1
  have enx : mPl A 0 f (i + 1) = p + A (19 + f i).toNat := by rw [← hpp]; rfl
  have ekx : mKd A 4 f (i + 1) = A (45 + f i).toNat := rfl
  rw [show ((i : Int) + 1).toNat = i + 1 by omega, enx, ekx] at hN1
  have core : mOk (Cutter_turnToSecond_21 (Cutter_turnToSecond_5 t fu) t i kd m) (fun m' => ∃ c' : Nat, m' t 8 = (c' : Int) ∧ ((c' = 0 ∧ mNn A L Mi 0 4 ≤ 1) ∨ mSp A L Mi 1 c' 0 4 (fun i => m' (t + 4) i)) ∧ ∀ q i, ¬(q = t ∧ i = 8) → q ≠ t + 4 → q ≠ t + 5 → m' q i = m q i) := by
    unfold Cutter_turnToSecond_21
    rw [if_pos (by omega), Int.toNat_natCast, hf', w32e (by omega) (by omega)]
    refine mL1 (fun n w => Cutter_turnToSecond_29 (Cutter_turnToSecond_5 t fu) t i kd n w m) (fun w => f i < w ∧ w ≤ A 18 ∧ ∀ v : Int, f i < v → v < w → mNw A L Mi p kd v = 0) (fun w => (13 - w).toNat) ?_ _ ⟨by omega, by omega, fun v a b => by omega⟩ (by omega)
    rintro fu2 w ⟨w0, w1, w2⟩ ih2
    show mOk (Cutter_turnToSecond_29 (Cutter_turnToSecond_5 t fu) t i kd (fu2 + 1) w m) _
    rw [Cutter_turnToSecond_29, hr.1.2.2.1]
    by_cases dw : w < A 18
    rotate_left
    · rw [if_neg dw, w32e (by omega) (by omega)]
      refine ih _ ⟨by omega, by omega, fun h => absurd h c0, ?_⟩ (by omega)
      rw [show ((i : Int) + -1 + 1).toNat = i by omega, hpp, hkk, mNn_step ht hM (by omega) b1, mSum_single (k := f i) (by omega) (by omega) (fun v v0 v1 v2 => ?_), ff.2.1]
      · exact hN1
      · by_cases q : v < f i
        · exact ff.2.2.1 v v0 q
        · exact w2 v (by omega) (by omega)
    rw [if_pos dw, if_pos (by omega), Int.toNat_natCast, hP]
    have hlw := ht.2.2.2.2.2.1 w (by omega) dw
    have nn := mNw_nn (A := A) (L := L) (Mi := Mi) p kd w
    refine mOk_bind (priceThrough_ok ht hr ht1 hM hC (by omega) h5 (by omega) b1 g3 g4 (by omega) dw (fun q k a b c dd => hT q k (by omega) b c dd)) (fun r kr => ?_)
    have eth := mTh_N (pi := 1) (kd := kd) (w := w) ht hM (by omega) (by omega) (by omega) b1 (by omega) dw
    by_cases z : r = 268435456
    · rw [if_pos z, w32e (by omega) (by omega)]
      refine ih2 _ ⟨by omega, by omega, fun v a b => ?_⟩ (by omega)
      by_cases ev : v = w
      · rw [ev]
        by_cases g : 1 ≤ mNw A L Mi p kd w
        · rw [if_pos g] at eth; omega
        · omega
      · exact w2 v a (by omega)
    rw [if_neg z]
    have nx := mTh_next (by rw [← kr]; exact z)
    have hin := mPf_in ht hM (by omega) b1 (by omega) dw nx.1
    have nw1 : 1 ≤ mNw A L Mi p kd w := by
      by_cases g : 1 ≤ mNw A L Mi p kd w
      · exact g
      · rw [if_neg g] at eth; omega
    have S1 : mS2 A L Mi p kd w = 1 := by
      unfold mS2
      rw [mSum_single (k := f i) (by omega) (by omega) (fun v v0 v1 v2 => ?_)]
      · have := ff.1; have := ff.2.1
        have := mC2_bd (mNw_nn (A := A) (L := L) (Mi := Mi) p kd (f i))
        omega
      · by_cases q : v < f i
        · rw [ff.2.2.1 v v0 q]; rfl
        · rw [w2 v (by omega) (by omega)]; rfl
    unfold Cutter_choosePut Cutter_chooseFrom
    rw [st1e]
    simp only [aup_self]
    rw [if_pos (by omega), if_pos (by omega), st1e, st1e, st1e, Int.toNat_natCast]
    rw [aup_of (q' := t) (i' := 8) (q := t + 4) (by omega), aup_self, if_pos (by omega), Int.toNat_natCast]
    simp only [Option.bind_some]
    generalize hm1 : aup (aup (aup (aup m t 8 (i : Int)) (t + 4) i w) (t + 5) i (aup m t 8 (i : Int) (t + 5) i)) t 8 (w32 (aup (aup (aup m t 8 (i : Int)) (t + 4) i w) (t + 5) i (aup m t 8 (i : Int) (t + 5) i) t 8 + 1)) = m1
    have fr1 : ∀ q l, ¬(q = t ∧ l = 8) → ¬(q = t + 4 ∧ l = i) → m1 q l = m q l := by
      intro q l a b
      rw [← hm1, aup_of (by omega)]
      by_cases e5 : q = t + 5 ∧ l = i
      · rw [e5.1, e5.2, aup_self, aup_of (by omega)]
      · rw [aup_of (by omega), aup_of (by omega), aup_of (by omega)]
    have e8 : m1 t 8 = ((i + 1 : Nat) : Int) := by
      rw [← hm1, aup_self, aup_of (by omega), aup_of (by omega), aup_self, w32e (by omega) (by omega)]; omega
    have e4 : m1 (t + 4) i = w := by rw [← hm1, aup_of (by omega), aup_of (by omega), aup_self]
    clear hm1
    have g := hr.2.2.2.1 w (by omega) dw
    rw [if_pos (by omega), show m1 41 w.toNat = _ from (fr1 _ _ (by omega) (by omega)).trans g.1, show m1 43 w.toNat = _ from (fr1 _ _ (by omega) (by omega)).trans g.2.2.1, show m1 (t + 5) i = p from (fr1 _ _ (by omega) (by omega)).trans hP, w32e (x := p + A (19 + w).toNat) (by omega) (by omega)]
    refine mOk_bind (chooseFrom_ok (pi := 1) ht ht1 hM (by omega) (L - (p + A (19 + w).toNat)).toNat FU (p + A (19 + w).toNat) (A (45 + w).toNat) 0 (i + 1) m1 (mTR_same (fun q i hq => fr1 q i (by omega) (by omega)) hr c4.2) ⟨(fr1 _ _ (by omega) (by omega)).trans hC.1, fun i w a b c dd => (fr1 _ _ (by omega) (by omega)).trans (hC.2 i w a b c dd)⟩ ((fr1 _ _ (by omega) (by omega)).trans h5) (fun q k a b c dd => (fr1 _ _ (by omega) (by omega)).trans (hT q k a b c dd)) (by omega) (by omega) (by omega) (by omega) (by omega) (by omega) e8 (by omega) (by omega) (by unfold FU; omega)) (fun m' k => ?_)
    refine mOk_some ?_
    rcases k with ⟨k1, k2, k3⟩ | ⟨k1, c', k2, k3, k4, k5⟩
    · exact absurd k2 nx.2.1
    refine ⟨i + (c' + 1), by rw [k3]; omega, Or.inr ?_, fun q l a b c => by rw [k5 q l a (by omega) (by omega), fr1 q l a (by omega)]⟩
    refine mSp_lift ht hM (by omega) (by omega) (hG c0) (by omega) (by omega) (fun l hl => ?_) ?_
    · show m' (t + 4) l = f l
      rw [k5 _ _ (by omega) (by omega) (by omega), fr1 _ _ (by omega) (by omega), hf']
    · rw [hpp, hkk]
      have fw : m' (t + 4) i = w := (k5 _ _ (by omega) (by omega) (by omega)).trans e4
      have ef : (fun l => (fun i => m' (t + 4) i) (i + l)) 0 = w := fw
      refine ⟨b1, ?_, ?_⟩
      · rw [ef]; omega
      · rw [ef]
        refine Or.inr ⟨nw1, S1, ?_⟩
        rw [show (fun l => (fun l => (fun i => m' (t + 4) i) (i + l)) (l + 1)) = fun l => m' (t + 4) (i + 1 + l) from funext fun l => by dsimp only; rw [show i + (l + 1) = i + 1 + l by omega]]
        exact k2
  by_cases dj : (i : Int) = 0
  · rw [if_pos dj]
    have : kd = 4 := by rw [← hkk, show i = 0 by omega]; rfl
    rw [this] at core
    exact core
  · rw [if_neg dj, w32e (by omega) (by omega), if_pos (by omega), show ((i : Int) - 1).toNat = i - 1 by omega, hf']
    obtain ⟨i', hi'⟩ : ∃ i', i = i' + 1 := ⟨i - 1, by omega⟩
    obtain ⟨u1, u2, u3, u4⟩ := mGp_at (i := i') ht (hG c0) (by omega) (by omega) (by omega)
    rw [show c - i' = (c - i' - 1) + 1 by omega] at u1
    obtain ⟨v1, v2, v3, v4⟩ := u1
    have e0' : (fun l => f (i' + l)) 0 = f i' := rfl
    rw [e0'] at v3
    rw [show i - 1 = i' by omega, if_pos (by have := v3.1; have := v3.2.1; omega), (hr.2.2.2.1 _ v3.1 v3.2.1).2.2.1]
    have : kd = A (45 + f i').toNat := by rw [← hkk, hi']; rfl
    rw [← this]
    exact core
