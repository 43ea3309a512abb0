/-! HOW MANY SENTENCES FIT -/
/-- a word may stand at p behind the kind kd, with b mistakes left -/
def mFc (A : Nat → Int) (Mi : Int → Int → Int) (p kd b w : Int) : Prop := Mi p w ≠ -1 ∧ Mi p w ≤ b ∧ mKs A kd w
noncomputable def mWx (A : Nat → Int) (L : Int) (Mi : Int → Int → Int) : Nat → Int → Int → Int → Int
  | 0, _, kd, _ => mI (mKe A kd)
  | d + 1, p, kd, b => if p = L then mI (mKe A kd) else mSum (fun w => mI (mFc A Mi p kd b w) * mWx A L Mi d (p + A (19 + w).toNat) (A (45 + w).toNat) (b - Mi p w)) (A 18).toNat
noncomputable def mWv (A : Nat → Int) (L : Int) (Mi : Int → Int → Int) (p kd b : Int) : Int := mWx A L Mi (L - p).toNat p kd b
/-- what a table of fits keeps to -/
def mMok (A : Nat → Int) (L : Int) (Mi : Int → Int → Int) : Prop := ∀ p w : Int, 0 ≤ p → p < L → 0 ≤ w → w < A 18 → (-1 ≤ Mi p w ∧ Mi p w ≤ 6) ∧ (Mi p w ≠ -1 → p + A (19 + w).toNat ≤ L)
theorem mI_mul {p : Prop} {x y : Int} (h : p → x = y) : mI p * x = mI p * y := by
  by_cases c : p
  · rw [h c]
  · rw [mI_f c, Int.zero_mul, Int.zero_mul]
theorem mWx_fuel {A : Nat → Int} {L : Int} {Mi : Int → Int → Int} (ht : mTok A) (hM : mMok A L Mi) : ∀ (d : Nat) (p kd b : Int), 0 ≤ p → p ≤ L → (L - p).toNat ≤ d → mWx A L Mi d p kd b = mWv A L Mi p kd b := by
  intro d
  induction d using Nat.strongRecOn with
  | ind d ih =>
    intro p kd b p0 p1 hd
    unfold mWv
    by_cases c : p = L
    · rw [show (L - p).toNat = 0 by omega]
      cases d with
      | zero => rfl
      | succ d => rw [mWx, mWx, if_pos c]
    · obtain ⟨e, he⟩ : ∃ e, (L - p).toNat = e + 1 := ⟨(L - p).toNat - 1, by omega⟩
      cases d with
      | zero => omega
      | succ d =>
        rw [he, mWx, mWx, if_neg c, if_neg c]
        refine mSum_congr (fun w w0 w1 => mI_mul (fun h => ?_))
        have hm := hM p w p0 (by omega) w0 (by omega)
        have hl := (ht.2.2.2.2.2.1 w w0 (by omega)).1
        have := hm.2 h.1
        rw [ih d (by omega) _ _ _ (by omega) (by omega) (by omega), ih e (by omega) _ _ _ (by omega) (by omega) (by omega)]
theorem mWv_end (A : Nat → Int) (L : Int) (Mi : Int → Int → Int) (kd b : Int) : mWv A L Mi L kd b = mI (mKe A kd) := by
  unfold mWv
  rw [show (L - L).toNat = 0 by omega, mWx]
theorem mWv_step {A : Nat → Int} {L : Int} {Mi : Int → Int → Int} (ht : mTok A) (hM : mMok A L Mi) {p kd b : Int} (p0 : 0 ≤ p) (p1 : p < L) : mWv A L Mi p kd b = mSum (fun w => mI (mFc A Mi p kd b w) * mWv A L Mi (p + A (19 + w).toNat) (A (45 + w).toNat) (b - Mi p w)) (A 18).toNat := by
  obtain ⟨e, he⟩ : ∃ e, (L - p).toNat = e + 1 := ⟨(L - p).toNat - 1, by omega⟩
  rw [show mWv A L Mi p kd b = mWx A L Mi (L - p).toNat p kd b from rfl, he, mWx, if_neg (by omega)]
  refine mSum_congr (fun w w0 w1 => mI_mul (fun h => ?_))
  have hm := hM p w p0 (by omega) w0 (by omega)
  have hl := (ht.2.2.2.2.2.1 w w0 (by omega)).1
  have := hm.2 h.1
  exact mWx_fuel ht hM _ _ _ _ (by omega) (by omega) (by omega)
theorem mSum_mod {f g : Int → Int} {B : Int} : ∀ {n : Nat}, (∀ i : Int, 0 ≤ i → i < n → f i % B = g i % B) → mSum f n % B = mSum g n % B := by
  intro n
  induction n with
  | zero => intro _; rfl
  | succ n ih =>
    intro h
    show (mSum f n + f n) % B = (mSum g n + g n) % B
    rw [Int.add_emod, ih (fun i a b => h i a (by omega)), h n (by omega) (by omega), ← Int.add_emod]
/-- the class's tables: fits at t + 1, ways at t + 3 -/
def mCt (t : Nat) (A : Nat → Int) (L : Int) (Mi : Int → Int → Int) (m : aM) : Prop := m t 1 = L ∧ ∀ i w : Int, 0 ≤ i → i < L → 0 ≤ w → w < A 18 → m (t + 1) (i * 12 + w).toNat = Mi i w
theorem mayFollow_A {kd w : Int} {m : aM} {A : Nat → Int} (ht : mTok A) (hr : mTR 25 47 A m) (k0 : 0 ≤ kd) (k1 : kd ≤ 4) (w0 : 0 ≤ w) (w1 : w < A 18) : mOk (Tongue_mayFollow 25 kd w m) (fun r => (r = 0 ∨ r = 1) ∧ (r ≠ 0 ↔ mKs A kd w)) := by
  have h := mayFollow_ok (m := aupr m 177 A) (kd := kd) (w := w) (by rw [aupr_self]; exact ht) (by rw [aupr_self]; exact mTR_same (fun q i hq => by rw [aupr_of (by omega)]) hr ht.2.2.2.2.1.2) k0 k1 w0 (by rw [aupr_self]; exact w1)
  rw [aupr_self] at h
  have e : Tongue_mayFollow 25 kd w (aupr m 177 A) = Tongue_mayFollow 25 kd w m := by
    unfold Tongue_mayFollow Tongue_mayFollow_15
    rw [aupr_of (by decide), aupr_of (by decide)]
  rw [e] at h
  exact h
theorem mayEnd_A {kd : Int} {m : aM} {A : Nat → Int} (ht : mTok A) (hr : mTR 25 47 A m) (k0 : 0 ≤ kd) (k1 : kd ≤ 4) : mOk (Tongue_mayEnd 25 kd m) (fun r => (r = 0 ∨ r = 1) ∧ (r ≠ 0 ↔ mKe A kd)) := by
  have h := mayEnd_ok (m := aupr m 177 A) (kd := kd) (by rw [aupr_self]; exact ht) (by rw [aupr_self]; exact mTR_same (fun q i hq => by rw [aupr_of (by omega)]) hr ht.2.2.2.2.1.2) k0 k1
  rw [aupr_self] at h
  have e : Tongue_mayEnd 25 kd (aupr m 177 A) = Tongue_mayEnd 25 kd m := by
    unfold Tongue_mayEnd
    rw [aupr_of (by decide)]
  rw [e] at h
  exact h
theorem waysFrom_ok {t : Nat} {A : Nat → Int} {L p kd b bm : Int} {Mi : Int → Int → Int} {m : aM} (ht : mTok A) (hr : mTR 25 47 A m) (ht1 : t = 61 ∨ t = 67) (hM : mMok A L Mi) (hC : mCt t A L Mi m) (L1 : L ≤ 60) (p0 : 0 ≤ p) (p1 : p ≤ L) (k0 : 0 ≤ kd) (k1 : kd ≤ 4) (b0 : 0 ≤ b) (b1 : b ≤ bm) (b2 : bm ≤ 2)
    (hT : ∀ q k c : Int, p < q → q ≤ L → 0 ≤ k → k ≤ 4 → 0 ≤ c → c ≤ bm → m (t + 3) ((q * 5 + k) * 3 + c).toNat = mWv A L Mi q k c % 1000000007) : mOk (Cutter_waysFrom t p kd b m) (fun r => r = mWv A L Mi p kd b % 1000000007) := by
  have c4 := ht.2.2.2.2.1
  unfold Cutter_waysFrom
  rw [hC.1]
  by_cases c : p = L
  · rw [if_pos c]
    refine mOk_bind (mayEnd_A ht hr k0 k1) (fun r kr => ?_)
    rw [c, mWv_end]
    by_cases z : r = 0
    · rw [if_pos z, mI_f (fun h => (kr.2.mpr h) z)]
      exact mOk_some rfl
    · rw [if_neg z, mI_t (kr.2.mp z)]
      exact mOk_some rfl
  rw [if_neg c]
  have hbd : ∀ x : Int, 0 ≤ x → x ≤ A 18 → 0 ≤ mSum (fun w => mI (mFc A Mi p kd b w) * (mWv A L Mi (p + A (19 + w).toNat) (A (45 + w).toNat) (b - Mi p w) % 1000000007)) x.toNat ∧ mSum (fun w => mI (mFc A Mi p kd b w) * (mWv A L Mi (p + A (19 + w).toNat) (A (45 + w).toNat) (b - Mi p w) % 1000000007)) x.toNat ≤ 12 * 1000000007 := by
    intro x x0 x1
    have := mSum_bd (f := fun w => mI (mFc A Mi p kd b w) * (mWv A L Mi (p + A (19 + w).toNat) (A (45 + w).toNat) (b - Mi p w) % 1000000007)) (c := 1000000007) (by omega) (n := x.toNat) (fun i i0 i1 => by
      by_cases z : mFc A Mi p kd b i
      · rw [mI_t z, Int.one_mul]; omega
      · rw [mI_f z, Int.zero_mul]; omega)
    omega
  refine mL2 (Cutter_waysFrom_17 m t p kd b) (fun a w => 0 ≤ w ∧ w ≤ A 18 ∧ a = mSum (fun w => mI (mFc A Mi p kd b w) * (mWv A L Mi (p + A (19 + w).toNat) (A (45 + w).toNat) (b - Mi p w) % 1000000007)) w.toNat) (fun _ w => (13 - w).toNat) ?_ 0 0 ⟨by omega, by omega, rfl⟩ (by omega)
  rintro fu a w ⟨w0, w1, ea⟩ ih
  rw [Cutter_waysFrom_17, hr.1.2.2.1]
  by_cases d : w < A 18
  · have hm := hM p w p0 (by omega) w0 d
    have hl := ht.2.2.2.2.2.1 w w0 d
    have g := hr.2.2.2.1 w w0 d
    have bd := hbd w w0 w1
    rw [← ea] at bd
    have skip : ¬ mFc A Mi p kd b w → mOk (Cutter_waysFrom_65 m (Cutter_waysFrom_17 m t p kd b fu) t p kd b a w) (fun r => r = mWv A L Mi p kd b % 1000000007) := by
      intro hno
      unfold Cutter_waysFrom_65
      rw [w32e (by omega) (by omega)]
      refine ih _ _ ⟨by omega, by omega, ?_⟩ (by omega)
      rw [mSum_s w0, mI_f hno, Int.zero_mul, ea]; omega
    rw [if_pos d, w32e (x := p * 12) (by omega) (by omega), w32e (x := p * 12 + w) (by omega) (by omega), if_pos (by omega), hC.2 p w p0 (by omega) w0 d]
    by_cases z1 : Mi p w = -1
    · rw [if_pos z1]
      exact skip (fun h => h.1 z1)
    rw [if_neg z1]
    by_cases z2 : b < Mi p w
    · rw [if_pos z2]
      exact skip (fun h => by have := h.2.1; omega)
    rw [if_neg z2]
    refine mOk_bind (mayFollow_A ht hr k0 k1 w0 d) (fun r kr => ?_)
    by_cases z3 : r = 0
    · rw [if_pos z3]
      exact skip (fun h => (kr.2.mpr h.2.2) z3)
    rw [if_neg z3, if_pos (by omega), show m 41 w.toNat = _ from g.1, show m 43 w.toNat = _ from g.2.2.1]
    have hpl := hm.2 z1
    unfold Cutter_wayIndex
    simp (disch := omega) only [w32e, Option.bind_some, if_pos]
    rw [hT (p + A (19 + w).toNat) (A (45 + w).toNat) (b - Mi p w) (by omega) hpl (by omega) (by omega) (by omega) (by omega)]
    unfold Cutter_waysFrom_65
    have hv : 0 ≤ mWv A L Mi (p + A (19 + w).toNat) (A (45 + w).toNat) (b - Mi p w) % 1000000007 ∧ mWv A L Mi (p + A (19 + w).toNat) (A (45 + w).toNat) (b - Mi p w) % 1000000007 < 1000000007 := by omega
    rw [w64e (by omega) (by omega), w32e (by omega) (by omega)]
    refine ih _ _ ⟨by omega, by omega, ?_⟩ (by omega)
    rw [mSum_s w0, mI_t ⟨z1, by omega, kr.2.mp z3⟩, Int.one_mul, ea]
  · rw [if_neg d]
    have bd := hbd w w0 w1
    rw [← ea] at bd
    refine mOk_some ?_
    rw [Int.tmod_eq_emod_of_nonneg bd.1, mWv_step ht hM p0 (by omega), ea, show w = A 18 by omega]
    refine mSum_mod (fun i i0 i1 => ?_)
    by_cases z : mFc A Mi p kd b i
    · rw [mI_t z, Int.one_mul, Int.one_mul, Int.emod_emod_of_dvd _ (Int.dvd_refl _)]
    · rw [mI_f z, Int.zero_mul, Int.zero_mul]
theorem countWays_ok {t : Nat} {A : Nat → Int} {L bm : Int} {Mi : Int → Int → Int} {m : aM} (ht : mTok A) (hr : mTR 25 47 A m) (ht1 : t = 61 ∨ t = 67) (hM : mMok A L Mi) (hC : mCt t A L Mi m) (L0 : 0 ≤ L) (L1 : L ≤ 60) (b1 : 0 ≤ bm) (b2 : bm ≤ 2) : mOk (Cutter_countWays t bm m) (fun r => r.1 = mWv A L Mi 0 4 bm % 1000000007 ∧ ∀ q i, q ≠ t + 3 → r.2 q i = m q i) := by
  unfold Cutter_countWays
  rw [hC.1]
  have keep : ∀ mm : aM, (∀ q i, q ≠ t + 3 → mm q i = m q i) → mTR 25 47 A mm ∧ mCt t A L Mi mm := fun mm fr => ⟨mTR_same (fun q i hq => fr q i (by omega)) hr ht.2.2.2.2.1.2, (fr _ _ (by omega)).trans hC.1, fun i w a b c d => (fr _ _ (by omega)).trans (hC.2 i w a b c d)⟩
  refine mL2 (Cutter_countWays_3 t bm) (fun p mm => -1 ≤ p ∧ p ≤ L ∧ (∀ q k c : Int, p < q → q ≤ L → 0 ≤ k → k ≤ 4 → 0 ≤ c → c ≤ bm → mm (t + 3) ((q * 5 + k) * 3 + c).toNat = mWv A L Mi q k c % 1000000007) ∧ ∀ q i, q ≠ t + 3 → mm q i = m q i) (fun p _ => (p + 1).toNat) ?_ L m ⟨by omega, by omega, fun q k c a b => by omega, fun _ _ _ => rfl⟩ (by omega)
  rintro fu p mm ⟨p0, p1, hT, fr⟩ ih
  rw [Cutter_countWays_3]
  by_cases d : p < 0
  · rw [if_pos d]
    unfold Cutter_wayIndex
    simp (disch := omega) only [w32e, Option.bind_some, if_pos]
    refine mOk_some ⟨?_, fr⟩
    have := hT 0 4 bm (by omega) (by omega) (by omega) (by omega) b1 (by omega)
    rw [show ((0 : Int) * 5 + 4) * 3 + bm = (0 * 5 + 4) * 3 + bm by omega] at this
    dsimp only
    rw [this, w32e (by omega) (by omega)]
  · rw [if_neg d]
    refine mL2 (Cutter_countWays_7 (Cutter_countWays_3 t bm fu) t bm p) (fun kd mm => 0 ≤ kd ∧ kd ≤ 5 ∧ (∀ q k c : Int, (p < q ∨ (p = q ∧ k < kd)) → q ≤ L → 0 ≤ k → k ≤ 4 → 0 ≤ c → c ≤ bm → mm (t + 3) ((q * 5 + k) * 3 + c).toNat = mWv A L Mi q k c % 1000000007) ∧ ∀ q i, q ≠ t + 3 → mm q i = m q i) (fun kd _ => (6 - kd).toNat) ?_ 0 mm ⟨by omega, by omega, fun q k c a b e f g h => hT q k c (by omega) b e f g h, fr⟩ (by omega)
    rintro fu2 kd mm2 ⟨k0, k1, hT2, fr2⟩ ih2
    rw [Cutter_countWays_7]
    by_cases e : kd < 5
    · rw [if_pos e]
      refine mL2 (Cutter_countWays_12 (Cutter_countWays_3 t bm fu) (Cutter_countWays_7 (Cutter_countWays_3 t bm fu) t bm p fu2) t bm p kd) (fun b mm => 0 ≤ b ∧ b ≤ bm + 1 ∧ (∀ q k c : Int, (p < q ∨ (p = q ∧ (k < kd ∨ (k = kd ∧ c < b)))) → q ≤ L → 0 ≤ k → k ≤ 4 → 0 ≤ c → c ≤ bm → mm (t + 3) ((q * 5 + k) * 3 + c).toNat = mWv A L Mi q k c % 1000000007) ∧ ∀ q i, q ≠ t + 3 → mm q i = m q i) (fun b _ => (4 - b).toNat) ?_ 0 mm2 ⟨by omega, by omega, fun q k c a b e f g h => hT2 q k c (by omega) b e f g h, fr2⟩ (by omega)
      rintro fu3 b mm3 ⟨c0, c1, hT3, fr3⟩ ih3
      rw [Cutter_countWays_12]
      by_cases g : bm < b
      · rw [if_pos g, w32e (by omega) (by omega)]
        exact ih2 _ _ ⟨by omega, by omega, fun q k c a b e f g h => hT3 q k c (by omega) b e f g h, fr3⟩ (by omega)
      · obtain ⟨hr3, hC3⟩ := keep mm3 fr3
        rw [if_neg g]
        unfold Cutter_wayIndex
        simp (disch := omega) only [w32e, Option.bind_some]
        refine mOk_bind (waysFrom_ok (bm := bm) ht hr3 ht1 hM hC3 L1 (by omega) p1 k0 (by omega) c0 (by omega) b2 (fun q k c a b e f g h => hT3 q k c (by omega) b e f g h)) (fun r kr => ?_)
        rw [if_pos (by omega)]
        refine mOk_st1 (ih3 _ _ ⟨by omega, by omega, fun q k c a b' e f g' h => ?_, fun q i a => by rw [aup_of (by omega)]; exact fr3 q i a⟩ (by omega))
        by_cases eq : q = p ∧ k = kd ∧ c = b
        · obtain ⟨rfl, rfl, rfl⟩ := eq
          rw [aup_self]; exact kr
        · rw [aup_of (by omega)]
          exact hT3 q k c (by omega) b' e f g' h
    · rw [if_neg e, w32e (by omega) (by omega)]
      exact ih _ _ ⟨by omega, by omega, fun q k c a b e f g h => hT2 q k c (by omega) b e f g h, fr2⟩ (by omega)
