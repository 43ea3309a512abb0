/-! THE CUT THAT IS CHOSEN -/
def mPl (A : Nat → Int) (p : Int) (f : Nat → Int) : Nat → Int
  | 0 => p
  | i + 1 => mPl A p f i + A (19 + f i).toNat
theorem mPl_shift (A : Nat → Int) (p : Int) (f : Nat → Int) : ∀ i, mPl A (p + A (19 + f 0).toNat) (fun i => f (i + 1)) i = mPl A p f (i + 1) := by
  intro i
  induction i with
  | zero => rfl
  | succ i ih => rw [mPl, ih]; rfl
theorem mPl_cg {A : Nat → Int} {p : Int} {f g : Nat → Int} : ∀ i, (∀ j, j < i → f j = g j) → mPl A p f i = mPl A p g i := by
  intro i
  induction i with
  | zero => intro _; rfl
  | succ i ih => intro h; rw [mPl, mPl, ih (fun j hj => h j (by omega)), h i (by omega)]
/-- c words from p on to the end, each the first of the least price -/
def mGp (A : Nat → Int) (L : Int) (Mi : Int → Int → Int) (pi : Int) : Nat → Int → Int → (Nat → Int) → Prop
  | 0, p, _, _ => p = L
  | c + 1, p, kd, f => p < L ∧ mPv A L Mi pi p kd ≠ 268435456 ∧ (0 ≤ f 0 ∧ f 0 < A 18 ∧ mTh A L Mi pi p kd (f 0) = mPv A L Mi pi p kd ∧ ∀ v : Int, 0 ≤ v → v < f 0 → mTh A L Mi pi p kd v ≠ mPv A L Mi pi p kd) ∧ mGp A L Mi pi c (p + A (19 + f 0).toNat) (A (45 + f 0).toNat) (fun i => f (i + 1))
theorem mGp_cg {A : Nat → Int} {L : Int} {Mi : Int → Int → Int} {pi : Int} : ∀ {c : Nat} {p kd : Int} {f g : Nat → Int}, (∀ i, i < c → f i = g i) → mGp A L Mi pi c p kd f → mGp A L Mi pi c p kd g := by
  intro c
  induction c with
  | zero => intro p kd f g _ h; exact h
  | succ c ih =>
    rintro p kd f g hfg ⟨h1, h2, h3, h4⟩
    rw [hfg 0 (by omega)] at h3 h4
    exact ⟨h1, h2, h3, ih (fun i hi => hfg (i + 1) (by omega)) h4⟩
theorem mGp_uni {A : Nat → Int} {L : Int} {Mi : Int → Int → Int} {pi : Int} : ∀ {c c' : Nat} {p kd : Int} {f g : Nat → Int}, mGp A L Mi pi c p kd f → mGp A L Mi pi c' p kd g → c = c' ∧ ∀ i, i < c → f i = g i := by
  intro c
  induction c with
  | zero =>
    intro c' p kd f g h h'
    cases c' with
    | zero => exact ⟨rfl, fun i hi => by omega⟩
    | succ c' => have := h'.1; have e : p = L := h; omega
  | succ c ih =>
    intro c' p kd f g h h'
    cases c' with
    | zero => have := h.1; have e : p = L := h'; omega
    | succ c' =>
      obtain ⟨h1, h2, ⟨a0, a1, a2, a3⟩, h4⟩ := h
      obtain ⟨g1, g2, ⟨b0, b1, b2, b3⟩, g4⟩ := h'
      have e : f 0 = g 0 := by
        rcases Int.lt_trichotomy (f 0) (g 0) with d | d | d
        · exact absurd a2 (b3 _ a0 d)
        · exact d
        · exact absurd b2 (a3 _ b0 d)
      rw [e] at h4
      obtain ⟨r1, r2⟩ := ih h4 g4
      refine ⟨by omega, fun i hi => ?_⟩
      cases i with
      | zero => exact e
      | succ i => exact r2 i (by omega)
theorem mTh_next {A : Nat → Int} {L : Int} {Mi : Int → Int → Int} {pi p kd w : Int} (h : mTh A L Mi pi p kd w ≠ 268435456) : mPf A Mi pi p kd w ∧ mPv A L Mi pi (p + A (19 + w).toNat) (A (45 + w).toNat) ≠ 268435456 ∧ mTh A L Mi pi p kd w = mPv A L Mi pi (p + A (19 + w).toNat) (A (45 + w).toNat) + mPc A Mi pi p w := by
  unfold mTh mPt1 at *
  by_cases z : mPf A Mi pi p kd w ∧ mPv A L Mi pi (p + A (19 + w).toNat) (A (45 + w).toNat) ≠ 268435456
  · rw [if_pos z]; exact ⟨z.1, z.2, rfl⟩
  · rw [if_neg z] at h; exact absurd rfl h
theorem mGp_len {A : Nat → Int} {L : Int} {Mi : Int → Int → Int} {pi : Int} (ht : mTok A) : ∀ {c : Nat} {p kd : Int} {f : Nat → Int}, mGp A L Mi pi c p kd f → (c : Int) ≤ L - p := by
  intro c
  induction c with
  | zero => intro p kd f h; have e : p = L := h; omega
  | succ c ih =>
    rintro p kd f ⟨h1, h2, ⟨a0, a1, a2, a3⟩, h4⟩
    have := ih h4
    have := (ht.2.2.2.2.2.1 _ a0 a1).1
    omega
def mCsp (t : Nat) (A : Nat → Int) (L : Int) (Mi : Int → Int → Int) (pi p kd : Int) (c0 : Nat) (m m' : aM) : Prop :=
  (p < L ∧ mPv A L Mi pi p kd = 268435456 ∧ ∀ q i, m' q i = m q i) ∨
  ((p = L ∨ mPv A L Mi pi p kd ≠ 268435456) ∧ ∃ c : Nat, mGp A L Mi pi c p kd (fun i => m' (t + 4) (c0 + i)) ∧ m' t 8 = ((c0 + c : Nat) : Int) ∧ (∀ i, i < c → m' (t + 5) (c0 + i) = mPl A p (fun i => m' (t + 4) (c0 + i)) i) ∧ ∀ q i, ¬(q = t ∧ i = 8) → ¬(q = t + 4 ∧ c0 ≤ i) → ¬(q = t + 5 ∧ c0 ≤ i) → m' q i = m q i)
theorem chooseFrom_ok {t : Nat} {A : Nat → Int} {L pi : Int} {Mi : Int → Int → Int} (ht : mTok A) (ht1 : t = 61 ∨ t = 67) (hM : mMok A L Mi) (L1 : L ≤ 60) : ∀ (d n : Nat) (p kd st : Int) (c0 : Nat) (m : aM), mTR 25 47 A m → mCt t A L Mi m → m t 5 = pi → (∀ q k : Int, 0 ≤ q → q ≤ L → 0 ≤ k → k ≤ 4 → m (t + 2) (q * 5 + k).toNat = mPv A L Mi pi q k) → 0 ≤ p → p ≤ L → 0 ≤ kd → kd ≤ 4 → 0 ≤ st → st + (L - p) ≤ 60 → m t 8 = (c0 : Int) → c0 + (L - p) ≤ 60 → (L - p).toNat ≤ d → d < n → mOk (Cutter_chooseFrom_6 t n p kd st m) (mCsp t A L Mi pi p kd c0 m) := by
  have c4 := ht.2.2.2.2.1
  intro d
  induction d with
  | zero =>
    intro n p kd st c0 m hr hC h5 hT p0 p1 k0 k1 s0 s1 h8 hc hd hn
    cases n with
    | zero => omega
    | succ n =>
      have e : p = L := by omega
      have fin : mCsp t A L Mi pi p kd c0 m m := Or.inr ⟨Or.inl e, 0, e, h8, fun i hi => by omega, fun _ _ _ _ _ => rfl⟩
      rw [Cutter_chooseFrom_6, hC.1]
      by_cases z : st < 60
      · rw [if_pos z, if_neg (by omega)]; exact mOk_some fin
      · rw [if_neg z]; exact mOk_some fin
  | succ d ih =>
    intro n p kd st c0 m hr hC h5 hT p0 p1 k0 k1 s0 s1 h8 hc hd hn
    cases n with
    | zero => omega
    | succ n =>
      rw [Cutter_chooseFrom_6, hC.1]
      by_cases e : p = L
      · have fin : mCsp t A L Mi pi p kd c0 m m := Or.inr ⟨Or.inl e, 0, e, h8, fun i hi => by omega, fun _ _ _ _ _ => rfl⟩
        by_cases z : st < 60
        · rw [if_pos z, if_neg (by omega)]; exact mOk_some fin
        · rw [if_neg z]; exact mOk_some fin
      rw [if_pos (by omega), if_pos (by omega), w32e (x := p * 5) (by omega) (by omega), w32e (x := p * 5 + kd) (by omega) (by omega), if_pos (by omega), hT p kd p0 p1 k0 k1]
      by_cases zf : mPv A L Mi pi p kd = 268435456
      · rw [if_pos zf]
        exact mOk_some (Or.inl ⟨by omega, zf, fun _ _ => rfl⟩)
      rw [if_neg zf]
      have mn := mMn_le (f := mTh A L Mi pi p kd) (n := (A 18).toNat)
      rw [← mPv_step ht hM p0 (by omega)] at mn
      obtain ⟨w1, x0, x1, x2⟩ := mn.2.2.resolve_left zf
      clear mn
      -- the word that is taken
      have take : ∀ w : Int, 0 ≤ w → w < A 18 → mTh A L Mi pi p kd w = mPv A L Mi pi p kd → (∀ v : Int, 0 ≤ v → v < w → mTh A L Mi pi p kd v ≠ mPv A L Mi pi p kd) → mOk (Cutter_chooseFrom_44 (Cutter_chooseFrom_6 t n) t p st w m) (mCsp t A L Mi pi p kd c0 m) := by
        intro w w0 w1 hw hf
        have nx := mTh_next (by rw [hw]; exact zf)
        have hin := mPf_in ht hM p0 (by omega) w0 w1 nx.1
        have hl := ht.2.2.2.2.2.1 w w0 w1
        have g := hr.2.2.2.1 w w0 w1
        unfold Cutter_chooseFrom_44 Cutter_choosePut
        rw [h8, if_pos (by omega), if_pos (by omega), st1e, aup_of (q' := t) (by omega), h8, if_pos (by omega), st1e, st1e]
        simp only [Option.bind_some, Int.toNat_natCast]
        generalize hm1 : aup (aup (aup m (t + 4) c0 w) (t + 5) c0 p) t 8 (w32 (aup (aup m (t + 4) c0 w) (t + 5) c0 p t 8 + 1)) = m1
        have fr1 : ∀ q i, ¬(q = t ∧ i = 8) → ¬(q = t + 4 ∧ i = c0) → ¬(q = t + 5 ∧ i = c0) → m1 q i = m q i := by
          intro q i a b c
          rw [← hm1, aup_of (by omega), aup_of (by omega), aup_of (by omega)]
        have e8 : m1 t 8 = ((c0 + 1 : Nat) : Int) := by
          rw [← hm1, aup_self, aup_of (by omega), aup_of (by omega), h8, w32e (by omega) (by omega)]; omega
        have e4 : m1 (t + 4) c0 = w := by rw [← hm1, aup_of (by omega), aup_of (by omega), aup_self]
        have e5 : m1 (t + 5) c0 = p := by rw [← hm1, aup_of (by omega), aup_self]
        clear hm1
        rw [if_pos (by omega), show m1 41 w.toNat = _ from (fr1 _ _ (by omega) (by omega) (by omega)).trans g.1, show m1 43 w.toNat = _ from (fr1 _ _ (by omega) (by omega) (by omega)).trans g.2.2.1, w32e (x := p + A (19 + w).toNat) (by omega) (by omega), w32e (x := st + 1) (by omega) (by omega)]
        refine mOk_mono (ih n (p + A (19 + w).toNat) (A (45 + w).toNat) (st + 1) (c0 + 1) m1 (mTR_same (fun q i hq => fr1 q i (by omega) (by omega) (by omega)) hr c4.2) ⟨(fr1 _ _ (by omega) (by omega) (by omega)).trans hC.1, fun i w a b c dd => (fr1 _ _ (by omega) (by omega) (by omega)).trans (hC.2 i w a b c dd)⟩ ((fr1 _ _ (by omega) (by omega) (by omega)).trans h5) (fun q k a b c dd => (fr1 _ _ (by omega) (by omega) (by omega)).trans (hT q k a b c dd)) (by omega) (by omega) (by omega) (by omega) (by omega) (by omega) e8 (by omega) (by omega) (by omega)) (fun m' k => ?_)
        rcases k with ⟨k1, k2, k3⟩ | ⟨k1, c, k2, k3, k4, k5⟩
        · exact absurd k2 nx.2.1
        · have f0 : m' (t + 4) c0 = w := (k5 _ _ (by omega) (by omega) (by omega)).trans e4
          have f5 : m' (t + 5) c0 = p := (k5 _ _ (by omega) (by omega) (by omega)).trans e5
          have sh : (fun i => m' (t + 4) (c0 + 1 + i)) = fun i => m' (t + 4) (c0 + (i + 1)) := funext fun i => by rw [show c0 + 1 + i = c0 + (i + 1) by omega]
          refine Or.inr ⟨Or.inr zf, c + 1, ⟨by omega, zf, ?_, ?_⟩, ?_, ?_, ?_⟩
          · have ff : (fun i => m' (t + 4) (c0 + i)) 0 = w := f0
            rw [ff]
            exact ⟨w0, w1, hw, hf⟩
          · have ff : (fun i => m' (t + 4) (c0 + i)) 0 = w := f0
            rw [ff]
            rw [sh] at k2
            exact k2
          · rw [k3]; omega
          · intro i hi
            cases i with
            | zero => exact f5
            | succ i =>
              have h4 := k4 i (by omega)
              rw [sh] at h4
              have ms := mPl_shift A p (fun i => m' (t + 4) (c0 + i)) i
              have z0 : m' (t + 4) (c0 + 0) = w := f0
              simp only [z0] at ms
              rw [← ms, show c0 + (i + 1) = c0 + 1 + i by omega]
              exact h4
          · intro q i a b c'
            rw [k5 q i a (by omega) (by omega), fr1 q i a (by omega) (by omega)]
      refine mL1 (fun f w => Cutter_chooseFrom_28 (Cutter_chooseFrom_6 t n) t p kd st (mPv A L Mi pi p kd) f w m) (fun w => 0 ≤ w ∧ w < A 18 ∧ ∀ v : Int, 0 ≤ v → v < w → mTh A L Mi pi p kd v ≠ mPv A L Mi pi p kd) (fun w => (13 - w).toNat) ?_ 0 ⟨by omega, by omega, fun v a b => by omega⟩ (by omega)
      rintro fu w ⟨w0, w2, w3⟩ ih2
      show mOk (Cutter_chooseFrom_28 (Cutter_chooseFrom_6 t n) t p kd st (mPv A L Mi pi p kd) (fu + 1) w m) _
      rw [Cutter_chooseFrom_28, hr.1.2.2.1, w32e (x := A 18 - 1) (by omega) (by omega)]
      by_cases g : w < A 18 - 1
      · rw [if_pos g]
        refine mOk_bind (priceThrough_ok ht hr ht1 hM hC L1 h5 p0 (by omega) k0 k1 w0 w2 (fun q k a b c dd => hT q k (by omega) b c dd)) (fun r kr => ?_)
        by_cases z : r = mPv A L Mi pi p kd
        · rw [if_pos z]
          exact take w w0 w2 (by rw [← kr]; exact z) w3
        · rw [if_neg z, w32e (by omega) (by omega)]
          refine ih2 _ ⟨by omega, by omega, fun v a b => ?_⟩ (by omega)
          by_cases ev : v = w
          · rw [ev, ← kr]; exact z
          · exact w3 v a (by omega)
      · rw [if_neg g]
        have ew : w1 = w := by
          rcases Int.lt_trichotomy w1 w with q | q | q
          · exact absurd x2.symm (w3 w1 x0 q)
          · exact q
          · omega
        rw [ew] at x2
        exact take w w0 w2 x2.symm w3
