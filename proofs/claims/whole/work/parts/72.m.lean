/-! THE REFERENCE'S FIRST AND SECOND -/
def mSt (A : Nat → Int) (L : Int) (Mi : Int → Int → Int) (m : aM) : Prop := ∀ p a : Int, 0 ≤ p → p ≤ L → 0 ≤ a → (a < A 18 ∨ a = 13) → m 187 (p * 14 + a).toNat = mC2 (mNn A L Mi p (mKo A a))
theorem mNw_f {A : Nat → Int} {L : Int} {Mi : Int → Int → Int} {p kd w : Int} (h : ¬ mFc A Mi p kd 0 w) : mC2 (mNw A L Mi p kd w) = 0 := by
  unfold mNw; rw [mI_f h, Int.zero_mul]; rfl
theorem mNw_t {A : Nat → Int} {L : Int} {Mi : Int → Int → Int} {p kd w : Int} (h : mFc A Mi p kd 0 w) : mNw A L Mi p kd w = mNn A L Mi (p + A (19 + w).toNat) (A (45 + w).toNat) := by
  unfold mNw; rw [mI_t h, Int.one_mul]
theorem laysSome_ok {A : Nat → Int} {L : Int} {Mi : Int → Int → Int} {m : aM} {Q : aM → Prop} (ht : mTok A) (hk : mRk A L Mi m) (hM : mMok A L Mi) (L0 : 0 ≤ L) (L1 : L ≤ 40)
    (fin : ∀ m' : aM, mSt A L Mi m' → (∀ q i, q ≠ 187 → m' q i = m q i) → Q m') : mOk (R_laysSome m) Q := by
  have c4 := ht.2.2.2.2.1
  have hL : m 176 17 = L := hk.2.1
  have keep : ∀ mm : aM, (∀ q i, q ≠ 187 → mm q i = m q i) → mRk A L Mi mm := fun mm fr => mRk_same hk (fun q i hq => fr q i (by omega))
  unfold R_laysSome
  rw [hL]
  refine mL2 R_laysSome_3 (fun p mm => -1 ≤ p ∧ p ≤ L ∧ (∀ q a : Int, p < q → q ≤ L → 0 ≤ a → (a < A 18 ∨ a = 13) → mm 187 (q * 14 + a).toNat = mC2 (mNn A L Mi q (mKo A a))) ∧ ∀ q i, q ≠ 187 → mm q i = m q i) (fun p _ => (p + 1).toNat) ?_ L m ⟨by omega, by omega, fun q a x y => by omega, fun _ _ _ => rfl⟩ (by omega)
  rintro fu p mm ⟨p0, p1, hT, fr⟩ ih
  rw [R_laysSome_3]
  by_cases d : p < 0
  · rw [if_pos d]
    exact mOk_some (fin mm (fun q a x y z u => hT q a (by omega) y z u) fr)
  rw [if_neg d]
  refine mL2 (R_laysSome_7 (R_laysSome_3 fu) p) (fun a' mm => 0 ≤ a' ∧ a' ≤ 14 ∧ (∀ q a : Int, (p < q ∨ (p = q ∧ a < a')) → q ≤ L → 0 ≤ a → (a < A 18 ∨ a = 13) → mm 187 (q * 14 + a).toNat = mC2 (mNn A L Mi q (mKo A a))) ∧ ∀ q i, q ≠ 187 → mm q i = m q i) (fun a' _ => (15 - a').toNat) ?_ 0 mm ⟨by omega, by omega, fun q a x y z u => hT q a (by omega) y z u, fr⟩ (by omega)
  rintro fu2 a mm2 ⟨a0, a1, hT2, fr2⟩ ih2
  have hk2 := keep mm2 fr2
  rw [R_laysSome_7, hk2.1]
  by_cases e : a < 14
  rotate_left
  · rw [if_neg e, w32e (by omega) (by omega)]
    exact ih _ _ ⟨by omega, by omega, fun q a x y z u => hT2 q a (by omega) y z u, fr2⟩ (by omega)
  rw [if_pos e]
  have one : (a < A 18 ∨ a = 13) → mOk (R_laysSome_20 (R_laysSome_3 fu) (R_laysSome_7 (R_laysSome_3 fu) p fu2) p a mm2) Q := by
    intro ha
    have kin := mKo_in ht a0 ha
    have store : ∀ x : Int, 0 ≤ x → mC2 x = mC2 (mNn A L Mi p (mKo A a)) → mOk (R_laysSome_79 (R_laysSome_3 fu) (R_laysSome_7 (R_laysSome_3 fu) p fu2) p a x mm2) Q := by
      intro x x0 hx
      have go : ∀ y : Int, y = mC2 x → mOk (R_laysSome_92 (R_laysSome_3 fu) (R_laysSome_7 (R_laysSome_3 fu) p fu2) p a y (p * 14 + a) mm2) Q := by
        intro y hy
        unfold R_laysSome_92 R_laysSome_93
        simp (disch := omega) only [w32e, if_pos, st1e]
        refine ih2 _ _ ⟨by omega, by omega, fun q a' u yy z v => ?_, fun q i hq => by rw [aup_of (by omega)]; exact fr2 q i hq⟩ (by omega)
        by_cases eq : q = p ∧ a' = a
        · obtain ⟨rfl, rfl⟩ := eq
          rw [aup_self, hy]; exact hx
        · rw [aup_of (by omega)]
          exact hT2 q a' (by omega) yy z v
      unfold R_laysSome_79
      rw [w32e (x := p * 14) (by omega) (by omega), w32e (x := p * 14 + a) (by omega) (by omega)]
      by_cases g : 2 < x
      · rw [if_pos g]; exact go 2 (by unfold mC2; rw [if_pos g])
      · rw [if_neg g]; exact go x (by unfold mC2; rw [if_neg g])
    have sum : ∀ x0 : Int, (p = L → x0 = mI (mKe A (mKo A a))) → (p ≠ L → x0 = 0) → mOk (R_laysSome_34 (R_laysSome_3 fu) (R_laysSome_7 (R_laysSome_3 fu) p fu2) p a x0 mm2) Q := by
      intro x0 hx1 hx2
      unfold R_laysSome_34
      by_cases pl : p = L
      · have hx := hx1 pl
        have hI := mI_01 (mKe A (mKo A a))
        unfold FU
        rw [show (1000000 : Nat) = 999999 + 1 from rfl, R_laysSome_37, hk2.1, hk2.2.1]
        have fin := store x0 (by omega) (by unfold mNn; rw [pl, mWv_end, hx])
        by_cases z : 0 < A 18
        · rw [if_pos z, if_neg (by omega)]; exact fin
        · rw [if_neg z]; exact fin
      · have hx := hx2 pl
        subst hx
        refine mL2 (fun f x w => R_laysSome_37 (R_laysSome_3 fu) (R_laysSome_7 (R_laysSome_3 fu) p fu2) p a f x w mm2) (fun x w => 0 ≤ w ∧ w ≤ A 18 ∧ x = mS2 A L Mi p (mKo A a) w) (fun _ w => (13 - w).toNat) ?_ 0 0 ⟨by omega, by omega, rfl⟩ (by omega)
        rintro fu4 x w ⟨w0, w1, ex⟩ ih4
        show mOk (R_laysSome_37 (R_laysSome_3 fu) (R_laysSome_7 (R_laysSome_3 fu) p fu2) p a (fu4 + 1) x w mm2) _
        have bd : 0 ≤ x ∧ x ≤ 24 := by
          have := mSum_bd (f := fun v => mC2 (mNw A L Mi p (mKo A a) v)) (c := 2) (by omega) (n := w.toNat) (fun i _ _ => by
            have := mC2_bd (mNw_nn (A := A) (L := L) (Mi := Mi) p (mKo A a) i)
            omega)
          unfold mS2 at ex
          omega
        rw [R_laysSome_37, hk2.1, hk2.2.1]
        by_cases dw : w < A 18
        rotate_left
        · rw [if_neg dw]
          refine store x bd.1 ?_
          rw [mNn_step ht hM (by omega) (by omega), ex, show w = A 18 by omega]
          exact mC2_sum (mNw_nn p (mKo A a)) _
        have hm := hM p w (by omega) (by omega) w0 dw
        have hl := ht.2.2.2.2.2.1 w w0 dw
        rw [if_pos dw, if_pos (by omega)]
        have nx : ∀ y : Int, y = mC2 (mNw A L Mi p (mKo A a) w) → mOk (R_laysSome_75 (R_laysSome_3 fu) (R_laysSome_7 (R_laysSome_3 fu) p fu2) (R_laysSome_37 (R_laysSome_3 fu) (R_laysSome_7 (R_laysSome_3 fu) p fu2) p a fu4) p a w y x mm2) Q := by
          intro y hy
          have := mC2_bd (mNw_nn (A := A) (L := L) (Mi := Mi) p (mKo A a) w)
          unfold R_laysSome_75
          rw [w32e (by omega) (by omega), w32e (by omega) (by omega)]
          refine ih4 _ _ ⟨by omega, by omega, ?_⟩ (by omega)
          unfold mS2 at ex ⊢
          rw [mSum_s w0, ← ex, hy]
        refine mOk_bind (mayBe_ok (m := mm2) (by rw [hk2.1]; exact ht) a0 (by rw [hk2.1]; exact ha) w0 (by rw [hk2.1]; exact dw)) (fun r kr => ?_)
        rw [hk2.1] at kr
        unfold R_laysSome_74
        by_cases z3 : r = 0
        · rw [if_pos z3]
          exact nx 0 (by rw [mNw_f (fun h => (kr.2.mpr h.2.2) z3)])
        rw [if_neg z3]
        refine mOk_bind (mistakesAt_ok (m := mm2) (by rw [hk2.1]; exact ht) w0 (by rw [hk2.1]; exact dw) (by omega) (by omega) (by rw [hk2.2.1]; exact L1)) (fun off ko => ?_)
        rw [hk2.1, hk2.2.1, hk2.2.2 p w (by omega) (by omega) w0 dw] at ko
        by_cases z1 : Mi p w = 0
        · rw [if_neg (by omega)] at ko
          have hpl := hm.2 (by omega)
          rw [if_pos (by omega)]
          simp (disch := omega) only [w32e, if_pos]
          refine nx _ ?_
          rw [hT2 _ _ (by omega) hpl w0 (Or.inl dw), mKo_w (by omega), mNw_t ⟨by omega, by omega, kr.2.mp z3⟩]
        · have : off ≠ 0 := by
            rw [ko]; split <;> omega
          rw [if_neg this]
          refine nx 0 ?_
          rw [mNw_f (fun h => by have := h.1; have := h.2.1; omega)]
    unfold R_laysSome_20 R_laysSome_33
    rw [hk2.2.1]
    by_cases pl : p = L
    · rw [if_pos pl]
      by_cases a13 : a < 13
      · rw [if_pos a13]
        have hko : mKo A a = A (45 + a).toNat := mKo_w a13
        refine mOk_bind (RmayEnd_ok (m := mm2) (by rw [hk2.1]; exact ht) a0 (by rw [hk2.1]; omega)) (fun r kr => ?_)
        rw [hk2.1, ← hko] at kr
        by_cases z : r = 0
        · rw [if_pos z]
          exact sum 0 (fun _ => by rw [mI_f (fun h => (kr.2.mpr h) z)]) (fun _ => rfl)
        · rw [if_neg z]
          exact sum 1 (fun _ => by rw [mI_t (kr.2.mp z)]) (fun h => absurd pl h)
      · rw [if_neg a13]
        have hko : mKo A a = 4 := by unfold mKo; rw [if_pos (by omega)]
        exact sum 0 (fun _ => by rw [mI_f (fun h => h.1 hko)]) (fun _ => rfl)
    · rw [if_neg pl]
      exact sum 0 (fun h => absurd h pl) (fun _ => rfl)
  by_cases a13 : a < 13
  · rw [if_pos a13]
    by_cases an : a < A 18
    · rw [if_pos an]; exact one (Or.inl an)
    · rw [if_neg an]
      unfold R_laysSome_93
      rw [w32e (by omega) (by omega)]
      exact ih2 _ _ ⟨by omega, by omega, fun q a x y z u => hT2 q a (by omega) y z u, fr2⟩ (by omega)
  · rw [if_neg a13]; exact one (Or.inr (by omega))
theorem firstFrom_ok {A : Nat → Int} {L pi : Int} {Mi : Int → Int → Int} (ht : mTok A) (hM : mMok A L Mi) (L1 : L ≤ 40) (q2 : pi ≠ 2) (q3 : pi ≠ 3) : ∀ (d n : Nat) (x p a : Int) (c0 : Nat) (m : aM), mRk A L Mi m → mSt A L Mi m → 0 ≤ p → p ≤ L → 0 ≤ a → (a < A 18 ∨ a = 13) → (x = 0 ∨ x = 1) → x < mNn A L Mi p (mKo A a) → m 176 22 = (c0 : Int) → c0 + (L - p) ≤ 40 → (L - p).toNat ≤ d → d < n → mOk (R_findsFirst_19 n x p a m) (fun r => r.1 = 1 ∧ ∃ c : Nat, (x = 0 → mGp A L Mi pi c p (mKo A a) (fun i => r.2 186 (c0 + i))) ∧ (x = 1 → mSp A L Mi pi c p (mKo A a) (fun i => r.2 186 (c0 + i))) ∧ r.2 176 22 = ((c0 + c : Nat) : Int) ∧ ∀ q i, ¬(q = 176 ∧ i = 22) → ¬(q = 186 ∧ c0 ≤ i) → r.2 q i = m q i) := by
  have c4 := ht.2.2.2.2.1
  intro d
  have atL : ∀ n x p a (c0 : Nat) (m : aM), mRk A L Mi m → p = L → (x = 0 ∨ x = 1) → x < mNn A L Mi p (mKo A a) → m 176 22 = (c0 : Int) → mOk (R_findsFirst_19 (n + 1) x p a m) (fun r => r.1 = 1 ∧ ∃ c : Nat, (x = 0 → mGp A L Mi pi c p (mKo A a) (fun i => r.2 186 (c0 + i))) ∧ (x = 1 → mSp A L Mi pi c p (mKo A a) (fun i => r.2 186 (c0 + i))) ∧ r.2 176 22 = ((c0 + c : Nat) : Int) ∧ ∀ q i, ¬(q = 176 ∧ i = 22) → ¬(q = 186 ∧ c0 ≤ i) → r.2 q i = m q i) := by
    intro n x p a c0 m hk e hx hN h22
    rw [R_findsFirst_19, hk.2.1, if_neg (by omega)]
    refine mOk_some ⟨rfl, 0, fun _ => e, fun h => ?_, h22, fun _ _ _ _ => rfl⟩
    unfold mNn at hN
    rw [e, mWv_end] at hN
    have := mI_01 (mKe A (mKo A a))
    omega
  induction d with
  | zero =>
    intro n x p a c0 m hk hT p0 p1 a0 ha hx hN h22 hc hd hn
    cases n with
    | zero => omega
    | succ n => exact atL n x p a c0 m hk (by omega) hx hN h22
  | succ d ih =>
    intro n x p a c0 m hk hT p0 p1 a0 ha hx hN h22 hc hd hn
    cases n with
    | zero => omega
    | succ n =>
      by_cases e : p = L
      · exact atL n x p a c0 m hk e hx hN h22
      rw [R_findsFirst_19, hk.2.1, if_pos (by omega)]
      have hS : x < mS2 A L Mi p (mKo A a) (A 18) := by
        rw [mNn_step ht hM p0 (by omega)] at hN
        have := mC2_sum (f := mNw A L Mi p (mKo A a)) (mNw_nn p (mKo A a)) (A 18).toNat
        have b1 := mC2_bd (mSum_nn (f := mNw A L Mi p (mKo A a)) (mNw_nn p (mKo A a)) (A 18).toNat)
        have b2 := mC2_bd (mS2_nn (A := A) (L := L) (Mi := Mi) (p := p) (kd := mKo A a) (w := A 18))
        unfold mS2 at b2 ⊢
        rw [this] at b2
        omega
      -- taking the word w with x2 left
      have take : ∀ (x2 w : Int), 0 ≤ w → w < A 18 → 0 ≤ x2 → x2 + mS2 A L Mi p (mKo A a) w = x → x2 < mC2 (mNw A L Mi p (mKo A a) w) → ∀ fu s : Int → Nat, ∀ k, mOk (R_findsFirst_27 (R_findsFirst_19 n) p a (k + 1) x2 w 1 m) (fun r => r.1 = 1 ∧ ∃ c : Nat, (x = 0 → mGp A L Mi pi c p (mKo A a) (fun i => r.2 186 (c0 + i))) ∧ (x = 1 → mSp A L Mi pi c p (mKo A a) (fun i => r.2 186 (c0 + i))) ∧ r.2 176 22 = ((c0 + c : Nat) : Int) ∧ ∀ q i, ¬(q = 176 ∧ i = 22) → ¬(q = 186 ∧ c0 ≤ i) → r.2 q i = m q i) := by
        intro x2 w w0 w1 y0 y1 y2 _ _ k
        have nb := mC2_bd (mNw_nn (A := A) (L := L) (Mi := Mi) p (mKo A a) w)
        have sn := mS2_nn (A := A) (L := L) (Mi := Mi) (p := p) (kd := mKo A a) (w := w)
        have hfc : mFc A Mi p (mKo A a) 0 w := by
          by_cases z : mFc A Mi p (mKo A a) 0 w
          · exact z
          · rw [mNw_f z] at y2; omega
        have hpf := (mFc_pf (pi := pi) hM q3 p0 (by omega) w0 w1).mpr hfc
        have hin := mPf_in ht hM p0 (by omega) w0 w1 hpf
        have hl := ht.2.2.2.2.2.1 w w0 w1
        have eN := mNw_t (L := L) hfc
        rw [R_findsFirst_27, if_neg (by omega), h22, if_pos (by omega), st1e, st1e, Int.toNat_natCast]
        generalize hm1 : aup (aup m 186 c0 w) 176 22 (w32 (aup m 186 c0 w 176 22 + 1)) = m1
        have fr1 : ∀ q i, ¬(q = 176 ∧ i = 22) → ¬(q = 186 ∧ i = c0) → m1 q i = m q i := by
          intro q i a b
          rw [← hm1, aup_of (by omega), aup_of (by omega)]
        have e8 : m1 176 22 = ((c0 + 1 : Nat) : Int) := by
          rw [← hm1, aup_self, aup_of (by omega), h22, w32e (by omega) (by omega)]; omega
        have e4 : m1 186 c0 = w := by rw [← hm1, aup_of (by omega), aup_self]
        clear hm1
        have hk1 : mRk A L Mi m1 := mRk_same hk (fun q i hq => fr1 q i (by omega) (by omega))
        rw [hk1.1]
        simp (disch := omega) only [w32e, if_pos]
        refine mOk_mono (ih n x2 (p + A (19 + w).toNat) w (c0 + 1) m1 hk1 (fun p a x y z u => by rw [fr1 _ _ (by omega) (by omega)]; exact hT p a x y z u) (by omega) (by omega) w0 (Or.inl (by omega)) (by omega) (by rw [mKo_w (by omega), ← eN]; omega) e8 (by omega) (by omega) (by omega)) (fun r k => ?_)
        obtain ⟨k0, c, k1, k2, k3, k5⟩ := k
        rw [mKo_w (by omega)] at k1 k2
        have f0 : r.2 186 c0 = w := (k5 _ _ (by omega) (by omega)).trans e4
        have sh : (fun i => r.2 186 (c0 + 1 + i)) = fun i => r.2 186 (c0 + (i + 1)) := funext fun i => by rw [show c0 + 1 + i = c0 + (i + 1) by omega]
        rw [sh] at k1 k2
        have ff : (fun i => r.2 186 (c0 + i)) 0 = w := f0
        have hT1 := mTh_N (pi := pi) (kd := mKo A a) ht hM q2 q3 p0 (by omega) w0 w1
        have hP1 := mPv_N (pi := pi) ht hM q2 q3 _ p (mKo A a) p0 p1 (Nat.le_refl _)
        rw [if_pos (by omega)] at hT1
        rw [if_pos (by omega)] at hP1
        refine ⟨k0, c + 1, fun hx0 => ⟨by omega, by omega, ?_, ?_⟩, fun hx1 => ⟨by omega, ?_, ?_⟩, ?_, ?_⟩
        · rw [ff]
          refine ⟨w0, w1, by rw [hT1, hP1], fun v v0 v1 => ?_⟩
          have lt := mS2_lt (A := A) (L := L) (Mi := Mi) (p := p) (kd := mKo A a) v0 v1
          have vb := mC2_bd (mNw_nn (A := A) (L := L) (Mi := Mi) p (mKo A a) v)
          have vs := mS2_nn (A := A) (L := L) (Mi := Mi) (p := p) (kd := mKo A a) (w := v)
          rw [mTh_N ht hM q2 q3 p0 (by omega) v0 (by omega), if_neg (by omega), hP1]
          omega
        · rw [ff]
          exact k1 (by omega)
        · rw [ff]; exact ⟨w0, w1⟩
        · rw [ff]
          by_cases xx : x2 = 1
          · exact Or.inl ⟨by omega, by omega, k2 xx⟩
          · exact Or.inr ⟨by omega, by omega, k1 (by omega)⟩
        · rw [k3]; omega
        · intro q i a b
          rw [k5 q i a (by omega), fr1 q i a (by omega)]
      refine mL3 (fun f x2 w b => R_findsFirst_27 (R_findsFirst_19 n) p a f x2 w b m) (fun x2 w b => 0 ≤ w ∧ w < A 18 ∧ 0 ≤ x2 ∧ x2 + mS2 A L Mi p (mKo A a) w = x ∧ (b = 0 ∨ (b = 1 ∧ x2 < mC2 (mNw A L Mi p (mKo A a) w)))) (fun x2 w b => (2 * (13 - w) - b).toNat) ?_ x 0 0 ?_ (by omega)
      rotate_left
      · refine ⟨by omega, ?_, by omega, ?_, Or.inl rfl⟩
        · by_cases z : 0 < A 18
          · exact z
          · rw [show A 18 = 0 by omega] at hS
            have : mS2 A L Mi p (mKo A a) 0 = 0 := rfl
            omega
        · have : mS2 A L Mi p (mKo A a) 0 = 0 := rfl
          omega
      rintro fu x2 w b ⟨w0, w1, y0, y1, hb⟩ ih2
      show mOk (R_findsFirst_27 (R_findsFirst_19 n) p a (fu + 1) x2 w b m) _
      rcases hb with hb | ⟨hb, y2⟩
      rotate_left
      · rw [hb]
        exact take x2 w w0 w1 y0 y1 y2 (fun _ => 0) (fun _ => 0) fu
      rw [hb, R_findsFirst_27, if_pos rfl]
      have hl := ht.2.2.2.2.2.1 w w0 w1
      have hm := hM p w p0 (by omega) w0 w1
      have ss : mS2 A L Mi p (mKo A a) (w + 1) = mS2 A L Mi p (mKo A a) w + mC2 (mNw A L Mi p (mKo A a) w) := by
        unfold mS2; rw [mSum_s w0]
      have nb := mC2_bd (mNw_nn (A := A) (L := L) (Mi := Mi) p (mKo A a) w)
      have on : ∀ s : Int, s = mC2 (mNw A L Mi p (mKo A a) w) → mOk (R_findsFirst_56 (R_findsFirst_19 n) (R_findsFirst_27 (R_findsFirst_19 n) p a fu) x2 p a w s m) (fun r => r.1 = 1 ∧ ∃ c : Nat, (x = 0 → mGp A L Mi pi c p (mKo A a) (fun i => r.2 186 (c0 + i))) ∧ (x = 1 → mSp A L Mi pi c p (mKo A a) (fun i => r.2 186 (c0 + i))) ∧ r.2 176 22 = ((c0 + c : Nat) : Int) ∧ ∀ q i, ¬(q = 176 ∧ i = 22) → ¬(q = 186 ∧ c0 ≤ i) → r.2 q i = m q i) := by
        intro s hs
        have sn := mS2_nn (A := A) (L := L) (Mi := Mi) (p := p) (kd := mKo A a) (w := w)
        unfold R_findsFirst_56 R_findsFirst_63
        by_cases g : x2 < s
        · rw [if_pos g, if_neg (by omega)]
          exact ih2 _ _ _ ⟨w0, w1, y0, y1, Or.inr ⟨rfl, by omega⟩⟩ (by omega)
        · rw [if_neg g, if_pos rfl, w32e (x := x2 - s) (by omega) (by omega), w32e (x := w + 1) (by omega) (by omega)]
          refine ih2 _ _ _ ⟨by omega, ?_, by omega, by omega, Or.inl rfl⟩ (by omega)
          by_cases z : w + 1 = A 18
          · rw [z] at ss; omega
          · omega
      unfold R_findsFirst_55
      refine mOk_bind (mayBe_ok (m := m) (by rw [hk.1]; exact ht) a0 (by rw [hk.1]; exact ha) w0 (by rw [hk.1]; exact w1)) (fun r kr => ?_)
      rw [hk.1] at kr
      by_cases z3 : r = 0
      · rw [if_pos z3]
        exact on 0 (by rw [mNw_f (fun h => (kr.2.mpr h.2.2) z3)])
      rw [if_neg z3]
      refine mOk_bind (mistakesAt_ok (m := m) (by rw [hk.1]; exact ht) w0 (by rw [hk.1]; exact w1) (by omega) (by omega) (by rw [hk.2.1]; exact L1)) (fun off ko => ?_)
      rw [hk.1, hk.2.1, hk.2.2 p w p0 (by omega) w0 w1] at ko
      by_cases z1 : Mi p w = 0
      · rw [if_neg (by omega)] at ko
        have hpl := hm.2 (by omega)
        rw [if_pos (by omega), hk.1]
        simp (disch := omega) only [w32e, if_pos]
        refine on _ ?_
        rw [hT _ _ (by omega) hpl w0 (Or.inl w1), mKo_w (by omega), mNw_t ⟨by omega, by omega, kr.2.mp z3⟩]
      · have : off ≠ 0 := by
          rw [ko]; split <;> omega
        rw [if_neg this]
        refine on 0 ?_
        rw [mNw_f (fun h => by have := h.1; have := h.2.1; omega)]
theorem findsFirst_ok {A : Nat → Int} {L x : Int} {Mi : Int → Int → Int} {m : aM} (ht : mTok A) (hM : mMok A L Mi) (hk : mRk A L Mi m) (L0 : 0 ≤ L) (L1 : L ≤ 40) (hx : x = 0 ∨ x = 1) : mOk (R_findsFirst x m) (fun r => ((r.1 = 0 ∧ mNn A L Mi 0 4 ≤ x) ∨ (r.1 = 1 ∧ x < mNn A L Mi 0 4 ∧ ∃ c : Nat, (x = 0 → mGp A L Mi x c 0 4 (fun i => r.2 186 i)) ∧ (x = 1 → mSp A L Mi x c 0 4 (fun i => r.2 186 i)) ∧ r.2 176 22 = (c : Int))) ∧ ∀ q i, ¬(q = 176 ∧ i = 22) → q ≠ 186 → q ≠ 187 → r.2 q i = m q i) := by
  unfold R_findsFirst
  refine mOk_bind (P := fun m' => mSt A L Mi m' ∧ ∀ q i, q ≠ 187 → m' q i = m q i) (laysSome_ok ht hk hM L0 L1 (fun m' a b => ⟨a, b⟩)) (fun m' km => ?_)
  obtain ⟨k1, k2⟩ := km
  rw [st1e, aup_of (q' := 187) (by omega)]
  have e13 : mKo A 13 = 4 := by unfold mKo; rw [if_pos rfl]
  have rep := k1 0 13 (by omega) L0 (by omega) (Or.inr rfl)
  rw [e13, show ((0 : Int) * 14 + 13).toNat = 13 by omega] at rep
  have nb := mC2_bd (mNn_nn (A := A) (L := L) (Mi := Mi) 0 4)
  rw [rep]
  by_cases z : x < mC2 (mNn A L Mi 0 4)
  · rw [if_pos z]
    refine mOk_mono (firstFrom_ok (pi := x) ht hM L1 (by omega) (by omega) L.toNat FU x 0 13 0 (aup m' 176 22 0) (mRk_same hk (fun q i hq => by rw [aup_of (by omega)]; exact k2 _ _ (by omega))) (fun p a x y zz u => by rw [aup_of (by omega)]; exact k1 p a x y zz u) (by omega) L0 (by omega) (Or.inr rfl) hx (by rw [e13]; omega) (aup_self _ _ _ _) (by omega) (by omega) (by unfold FU; omega)) (fun r kr => ?_)
    obtain ⟨r1, c, r2, r3, r4, r5⟩ := kr
    rw [e13] at r2 r3
    refine ⟨Or.inr ⟨r1, by omega, c, by simpa using r2, by simpa using r3, by simpa using r4⟩, fun q i a b c' => ?_⟩
    rw [r5 _ _ a (by omega), aup_of (by omega)]; exact k2 _ _ c'
  · rw [if_neg z]
    refine mOk_some ⟨Or.inl ⟨rfl, by omega⟩, fun q i a b c' => ?_⟩
    dsimp only
    rw [aup_of (by omega)]; exact k2 _ _ c'
