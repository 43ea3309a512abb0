/-! bound -/
def mBr (A : Nat → Int) (Mi : Int → Int → Int) (x p w : Int) : Int := if p < x ∧ x < p + A (19 + w).toNat then -1 else Mi p w
theorem mBr_ok {A : Nat → Int} {L x : Int} {Mi : Int → Int → Int} (hM : mMok A L Mi) : mMok A L (mBr A Mi x) := by
  intro p w p0 p1 w0 w1
  have := hM p w p0 p1 w0 w1
  unfold mBr
  by_cases c : p < x ∧ x < p + A (19 + w).toNat
  · rw [if_pos c]; exact ⟨by omega, fun h => absurd rfl h⟩
  · rw [if_neg c]; exact this
theorem break_ok {x L : Int} {Mi : Int → Int → Int} {m : aM} {A : Nat → Int} (ht : mTok A) (hr : mTR 25 47 A m) (hC : mCt 67 A L Mi m) (x0 : 1 ≤ x) (x1 : x ≤ L) (L1 : L ≤ 40) : mOk (Cutter_breakBehind 67 x m) (fun m' => mCt 67 A L (mBr A Mi x) m' ∧ ∀ q i, q ≠ 68 → m' q i = m q i) := by
  have c4 := ht.2.2.2.2.1
  unfold Cutter_breakBehind
  rw [jmax_eq, w32e (by omega) (by omega)]
  simp only [Option.bind_some]
  have far : ∀ i w : Int, i < x - 6 → 0 ≤ w → w < A 18 → mBr A Mi x i w = Mi i w := by
    intro i w hi w0 w1
    have hl := (ht.2.2.2.2.2.1 w w0 w1).1
    unfold mBr
    rw [if_neg (by omega)]
  refine mL2 (Cutter_breakBehind_6 67 x) (fun p mm => 0 ≤ p ∧ p ≤ x ∧ mm 67 1 = L ∧ (∀ i w : Int, 0 ≤ i → i < L → 0 ≤ w → w < A 18 → mm 68 (i * 12 + w).toNat = if i < p then mBr A Mi x i w else Mi i w) ∧ ∀ q i, q ≠ 68 → mm q i = m q i) (fun p _ => (61 - p).toNat) ?_ _ m ⟨by split <;> omega, by split <;> omega, hC.1, fun i w a b c d => ?_, fun _ _ _ => rfl⟩ (by split <;> omega)
  rotate_left
  · have e := hC.2 i w a b c d
    by_cases z : i < (if 0 < x - 6 then x - 6 else 0)
    · rw [if_pos z, far i w (by split at z <;> omega) c d]; exact e
    · rw [if_neg z]; exact e
  rintro fu p mm ⟨p0, p1, s1, s2, fr⟩ ih
  rw [Cutter_breakBehind_6, s1]
  by_cases d : p < x
  · rw [if_pos d, if_pos (by omega)]
    refine mL2 (Cutter_breakBehind_15 (Cutter_breakBehind_6 67 x fu) 67 x p) (fun v mm => 0 ≤ v ∧ v ≤ A 18 ∧ mm 67 1 = L ∧ (∀ i w : Int, 0 ≤ i → i < L → 0 ≤ w → w < A 18 → mm 68 (i * 12 + w).toNat = if i < p ∨ (i = p ∧ w < v) then mBr A Mi x i w else Mi i w) ∧ ∀ q i, q ≠ 68 → mm q i = m q i) (fun v _ => (13 - v).toNat) ?_ 0 mm ⟨by omega, by omega, s1, fun i w a b c e => ?_, fr⟩ (by omega)
    rotate_left
    · rw [s2 i w a b c e]
      by_cases z : i < p
      · rw [if_pos z, if_pos (Or.inl z)]
      · rw [if_neg z, if_neg (by omega)]
    rintro fu2 v mm2 ⟨v0, v1, t1, t2, fr2⟩ ih2
    rw [Cutter_breakBehind_15, show mm2 25 2 = A 18 from (fr2 _ _ (by omega)).trans hr.1.2.2.1]
    by_cases e : v < A 18
    · have g := hr.2.2.2.1 v v0 e
      have hl := (ht.2.2.2.2.2.1 v v0 e).1
      rw [if_pos e, if_pos (by omega), show mm2 41 v.toNat = _ from (fr2 _ _ (by omega)).trans g.1, w32e (x := p + A (19 + v).toNat) (by omega) (by omega)]
      unfold Cutter_breakBehind_38
      rw [w32e (x := v + 1) (by omega) (by omega)]
      by_cases z : x < p + A (19 + v).toNat
      · rw [if_pos z]
        simp (disch := omega) only [w32e, if_pos, w8e, st1e]
        refine ih2 _ _ ⟨by omega, by omega, by rw [aup_of (by omega)]; exact t1, fun i w a b c dd => ?_, fun q i a => by rw [aup_of (by omega)]; exact fr2 q i a⟩ (by omega)
        by_cases ei : i = p ∧ w = v
        · rw [ei.1, ei.2, show (68 : Nat) = 67 + 1 from rfl, aup_self, if_pos (by omega)]
          unfold mBr
          rw [if_pos ⟨d, z⟩]
        · rw [aup_of (by omega), t2 i w a b c dd]
          by_cases y : i < p ∨ (i = p ∧ w < v)
          · rw [if_pos y, if_pos (by omega)]
          · rw [if_neg y, if_neg (by omega)]
      · rw [if_neg z]
        refine ih2 _ _ ⟨by omega, by omega, t1, fun i w a b c dd => ?_, fr2⟩ (by omega)
        rw [t2 i w a b c dd]
        by_cases ei : i = p ∧ w = v
        · rw [if_neg (by omega), if_pos (by omega), ei.1, ei.2]
          unfold mBr
          rw [if_neg (by omega)]
        · by_cases y : i < p ∨ (i = p ∧ w < v)
          · rw [if_pos y, if_pos (by omega)]
          · rw [if_neg y, if_neg (by omega)]
    · rw [if_neg e, w32e (by omega) (by omega)]
      refine ih _ _ ⟨by omega, by omega, t1, fun i w a b c dd => ?_, fr2⟩ (by omega)
      rw [t2 i w a b c dd]
      by_cases y : i < p ∨ (i = p ∧ w < v)
      · rw [if_pos y, if_pos (by omega)]
      · rw [if_neg y, if_neg (by omega)]
  · rw [if_neg d]
    refine mOk_some ⟨⟨s1, fun i w a b c e => ?_⟩, fr⟩
    show mm 68 (i * 12 + w).toNat = _
    rw [s2 i w a b c e]
    by_cases z : i < p
    · rw [if_pos z]
    · rw [if_neg z]
      unfold mBr
      rw [if_neg (by omega)]
theorem mWv_cg2 {A : Nat → Int} {L x0 : Int} {Mi Mi' : Int → Int → Int} (ht : mTok A) (hM : mMok A L Mi) (hM' : mMok A L Mi') (h : ∀ p w : Int, x0 ≤ p → 0 ≤ p → p < L → 0 ≤ w → w < A 18 → Mi p w = Mi' p w) : ∀ (d : Nat) (p kd b : Int), x0 ≤ p → 0 ≤ p → p ≤ L → (L - p).toNat ≤ d → mWv A L Mi p kd b = mWv A L Mi' p kd b := by
  intro d
  induction d with
  | zero =>
    intro p kd b px p0 p1 hd
    rw [show p = L by omega, mWv_end, mWv_end]
  | succ d ih =>
    intro p kd b px p0 p1 hd
    by_cases c : p = L
    · rw [c, mWv_end, mWv_end]
    · rw [mWv_step ht hM p0 (by omega), mWv_step ht hM' p0 (by omega)]
      refine mSum_congr (fun w w0 w1 => ?_)
      have e := h p w px p0 (by omega) w0 (by omega)
      have ec : mFc A Mi p kd b w ↔ mFc A Mi' p kd b w := by unfold mFc; rw [e]
      by_cases z : mFc A Mi p kd b w
      · have hl := (ht.2.2.2.2.2.1 w w0 (by omega)).1
        have hm := (hM p w p0 (by omega) w0 (by omega)).2 z.1
        rw [mI_t z, mI_t (ec.mp z), e, ih _ _ _ (by omega) (by omega) (by omega) (by omega)]
      · rw [mI_f z, mI_f (fun hh => z (ec.mpr hh)), Int.zero_mul, Int.zero_mul]
theorem mHv_no {A : Nat → Int} {fit : Int → Int → Prop} (ht : mTok A) {r v : Int} (r0 : 1 ≤ r) (v0 : 0 ≤ v) (v1 : v < A 18) (h : ¬ (A (19 + v).toNat ≤ r ∧ fit (r - A (19 + v).toNat) v)) : mHv A fit r v = 0 := by
  rw [mHv_step ht r0 v0 v1, mI_f h, Int.zero_mul]
theorem R_bound_ok {x : Int} {m : aM} {fit : Int → Int → Prop} {V : Int → Int} (ht : mTok (m 177)) (x0 : 1 ≤ x) (x1 : x ≤ 40) (L1 : m 176 17 ≤ 40) (hf : ∀ p v : Int, 0 ≤ p → p + m 177 (19 + v).toNat ≤ x → (fit p v ↔ mMis (m 177) (fun i => m 182 i.toNat) (m 176 17) v p = 0)) (hV : ∀ v : Int, 0 ≤ v → v < m 177 18 → m 183 ((x * 14 + v) * 3).toNat = V v % 1000000007) : mOk (R_bound_23 x FU 0 1 m) (fun r => r.1 = mSum (fun v => mHv (m 177) fit x v * V v) (m 177 18).toNat % 1000000007 ∧ ∀ q i, q ≠ 188 → r.2 q i = m q i) := by
  have c4 := ht.2.2.2.2.1
  have sq : ∀ a b : Int, 0 ≤ a % 1000000007 * (b % 1000000007) ∧ a % 1000000007 * (b % 1000000007) ≤ 1000000007 * 1000000007 := fun a b => mul_bd (by omega) (by omega) (by omega) (by omega)
  have tbd : ∀ y : Nat, 0 ≤ mSum (fun v => mHv (m 177) fit x v % 1000000007 * (V v % 1000000007) % 1000000007) y ∧ mSum (fun v => mHv (m 177) fit x v % 1000000007 * (V v % 1000000007) % 1000000007) y ≤ y * 1000000007 := fun y => mSum_bd (by omega) (fun i i0 i1 => by omega)
  refine mL3 (R_bound_23 x) (fun s k mm => 1 ≤ k ∧ k ≤ x + 1 ∧ (k ≤ x → s = 0) ∧ (k = x + 1 → s = mSum (fun v => mHv (m 177) fit x v % 1000000007 * (V v % 1000000007) % 1000000007) (m 177 18).toNat) ∧ (∀ r v : Int, 1 ≤ r → r < k → 0 ≤ v → v < m 177 18 → mm 188 (13 * r + v).toNat = mHv (m 177) fit r v % 1000000007) ∧ ∀ q i, q ≠ 188 → mm q i = m q i) (fun _ k _ => (62 - k).toNat) ?_ 0 1 m ⟨by omega, by omega, fun _ => rfl, fun h => by omega, fun r v a b => by omega, fun _ _ _ => rfl⟩ (by omega)
  rintro fu s k mm ⟨k0, k1, s1, s2, s3, fr⟩ ih
  rw [R_bound_23]
  by_cases d : x < k
  · rw [if_pos d]
    have es := s2 (by omega)
    refine mOk_some ⟨?_, fr⟩
    have tb := tbd (m 177 18).toNat
    rw [← es] at tb
    dsimp only
    rw [Int.tmod_eq_emod_of_nonneg tb.1, w32e (by omega) (by omega), es]
    refine mSum_mod (fun i i0 i1 => ?_)
    rw [Int.emod_emod_of_dvd _ (Int.dvd_refl _), ← Int.mul_emod]
  · rw [if_neg d]
    refine mL3 (R_bound_28 (R_bound_23 x fu) x k) (fun s w mm => 0 ≤ w ∧ w ≤ m 177 18 ∧ s = (if k = x then mSum (fun v => mHv (m 177) fit x v % 1000000007 * (V v % 1000000007) % 1000000007) w.toNat else 0) ∧ (∀ r v : Int, 1 ≤ r → (r < k ∨ (r = k ∧ v < w)) → 0 ≤ v → v < m 177 18 → mm 188 (13 * r + v).toNat = mHv (m 177) fit r v % 1000000007) ∧ ∀ q i, q ≠ 188 → mm q i = m q i) (fun _ w _ => (13 - w).toNat) ?_ s 0 mm ⟨by omega, by omega, by rw [s1 (by omega)]; split <;> rfl, fun r v a b c e => s3 r v a (by omega) c e, fr⟩ (by omega)
    rintro fu2 s w mm2 ⟨w0, w1, es, t3, fr2⟩ ih2
    have e177 : mm2 177 = m 177 := funext fun i => fr2 _ _ (by omega)
    have ht2 : mTok (mm2 177) := by rw [e177]; exact ht
    rw [R_bound_28, e177]
    by_cases e : w < m 177 18
    · have hl := (ht.2.2.2.2.2.1 w w0 e).1
      rw [if_pos e, w32e (x := 19 + w) (by omega) (by omega), if_pos (by omega), w32e (x := k - m 177 (19 + w).toNat) (by omega) (by omega)]
      -- storing
      have store : ∀ y : Int, 0 ≤ y → y % 1000000007 = mHv (m 177) fit k w % 1000000007 → mOk (R_bound_88 (R_bound_23 x fu) (R_bound_28 (R_bound_23 x fu) x k fu2) x s k w y mm2) (fun r => r.1 = mSum (fun v => mHv (m 177) fit x v * V v) (m 177 18).toNat % 1000000007 ∧ ∀ q i, q ≠ 188 → r.2 q i = m q i) := by
        intro y y0 hy
        unfold R_bound_88
        simp (disch := omega) only [w32e, if_pos, st1e]
        rw [Int.tmod_eq_emod_of_nonneg y0]
        have tab : ∀ r v : Int, 1 ≤ r → (r < k ∨ (r = k ∧ v < w + 1)) → 0 ≤ v → v < m 177 18 → aup mm2 188 (13 * k + w).toNat (y % 1000000007) 188 (13 * r + v).toNat = mHv (m 177) fit r v % 1000000007 := by
          intro r v a b c dd
          by_cases eq : r = k ∧ v = w
          · rw [eq.1, eq.2, aup_self]; exact hy
          · rw [aup_of (by omega)]; exact t3 r v a (by omega) c dd
        have fr3 : ∀ q i, q ≠ 188 → aup mm2 188 (13 * k + w).toNat (y % 1000000007) q i = m q i := fun q i hq => by rw [aup_of (by omega)]; exact fr2 q i hq
        unfold R_bound_121
        rw [w32e (x := w + 1) (by omega) (by omega)]
        by_cases kn : k = x
        · rw [if_pos kn] at es ⊢
          have tb := tbd w.toNat
          rw [← es] at tb
          have q1 := sq y (V w)
          rw [fr3 183 _ (by omega)]
          subst kn
          rw [hV w w0 e, w64e (x := y % 1000000007 * (V w % 1000000007)) (by omega) (by omega), Int.tmod_eq_emod_of_nonneg q1.1, w64e (by omega) (by omega)]
          refine ih2 _ _ _ ⟨by omega, by omega, ?_, tab, fr3⟩ (by omega)
          rw [if_pos rfl, mSum_s w0, es, hy]
        · rw [if_neg kn] at es ⊢
          rw [es, w64e (by omega) (by omega)]
          exact ih2 _ _ _ ⟨by omega, by omega, by rw [if_neg kn]; rfl, tab, fr3⟩ (by omega)
      -- the sum over the words ahead
      have sum : fit (k - m 177 (19 + w).toNat) w → m 177 (19 + w).toNat ≤ k → ∀ y0 : Int, y0 = mI (k = m 177 (19 + w).toNat) → mOk (R_bound_57 (R_bound_23 x fu) (R_bound_28 (R_bound_23 x fu) x k fu2) x s k w (k - m 177 (19 + w).toNat) y0 mm2) (fun r => r.1 = mSum (fun v => mHv (m 177) fit x v * V v) (m 177 18).toNat % 1000000007 ∧ ∀ q i, q ≠ 188 → r.2 q i = m q i) := by
        intro hfit hle y0 hy0
        have hmod := mHv_mod (fit := fit) ht k0 w0 e (fun _ => hfit)
        have hI := mI_01 (k = m 177 (19 + w).toNat)
        unfold R_bound_57
        refine mL2 (fun f y a => R_bound_60 (R_bound_23 x fu) (R_bound_28 (R_bound_23 x fu) x k fu2) x s k w (k - m 177 (19 + w).toNat) f y a mm2) (fun y a => 0 ≤ a ∧ a ≤ m 177 18 ∧ y = y0 + mI (m 177 (19 + w).toNat < k) * mHs (m 177) fit (k - m 177 (19 + w).toNat) w a.toNat) (fun _ a => (13 - a).toNat) ?_ y0 0 ⟨by omega, by omega, by rw [show mHs (m 177) fit (k - m 177 (19 + w).toNat) w (0 : Int).toNat = 0 from rfl, Int.mul_zero]; omega⟩ (by omega)
        rintro fu3 y a ⟨a0, a1, ey⟩ ih3
        show mOk (R_bound_60 (R_bound_23 x fu) (R_bound_28 (R_bound_23 x fu) x k fu2) x s k w (k - m 177 (19 + w).toNat) (fu3 + 1) y a mm2) _
        have hb := mHs_bd (m 177) fit (k - m 177 (19 + w).toNat) w a.toNat
        have fin : (m 177 18 ≤ a ∨ k - m 177 (19 + w).toNat ≤ 0) → mOk (R_bound_88 (R_bound_23 x fu) (R_bound_28 (R_bound_23 x fu) x k fu2) x s k w y mm2) (fun r => r.1 = mSum (fun v => mHv (m 177) fit x v * V v) (m 177 18).toNat % 1000000007 ∧ ∀ q i, q ≠ 188 → r.2 q i = m q i) := by
          intro hfin
          by_cases z : m 177 (19 + w).toNat < k
          · rw [mI_t z, Int.one_mul] at ey
            refine store y (by omega) ?_
            rw [hmod, ey, hy0, mI_t z, Int.one_mul, show a = m 177 18 by omega]
          · rw [mI_f z, Int.zero_mul] at ey
            refine store y (by omega) ?_
            rw [hmod, ey, hy0, mI_f z, Int.zero_mul]
        rw [R_bound_60, e177]
        by_cases g : a < m 177 18
        · rw [if_pos g]
          by_cases gp : 0 < k - m 177 (19 + w).toNat
          · rw [if_pos gp]
            have zk : m 177 (19 + w).toNat < k := by omega
            rw [mI_t zk, Int.one_mul] at ey
            refine mOk_bind (mayStand_ok ht2 a0 (by rw [e177]; exact g) w0 (by rw [e177]; exact e)) (fun r kr => ?_)
            rw [e177] at kr
            have stp : mHs (m 177) fit (k - m 177 (19 + w).toNat) w (a + 1).toNat = mHs (m 177) fit (k - m 177 (19 + w).toNat) w a.toNat + mI (mKs (m 177) (m 177 (45 + a).toNat) w) * (mHv (m 177) fit (k - m 177 (19 + w).toNat) a % 1000000007) := by
              unfold mHs
              rw [mSum_s a0]
            by_cases z : r = 0
            · rw [if_pos z]
              unfold R_bound_84
              rw [w64e (by omega) (by omega), w32e (by omega) (by omega)]
              refine ih3 _ _ ⟨by omega, by omega, ?_⟩ (by omega)
              rw [mI_t zk, Int.one_mul, stp, mI_f (fun h => (kr.2.mpr h) z), Int.zero_mul]; omega
            · rw [if_neg z]
              simp (disch := omega) only [w32e, if_pos]
              rw [t3 (k - m 177 (19 + w).toNat) a (by omega) (by omega) a0 g]
              unfold R_bound_84
              rw [w64e (by omega) (by omega), w32e (by omega) (by omega)]
              refine ih3 _ _ ⟨by omega, by omega, ?_⟩ (by omega)
              rw [mI_t zk, Int.one_mul, stp, mI_t (kr.2.mp z), Int.one_mul]; omega
          · rw [if_neg gp]
            exact fin (Or.inr (by omega))
        · rw [if_neg g]
          exact fin (Or.inl (by omega))
      by_cases z0 : k - m 177 (19 + w).toNat < 0
      · rw [if_pos z0]
        exact store 0 (by omega) (by rw [mHv_no ht k0 w0 e (fun h => by have := h.1; omega)])
      · rw [if_neg z0]
        refine mOk_bind (mistakesAt_ok ht2 w0 (by rw [e177]; exact e) (by omega) (by omega) (by rw [fr2 _ _ (by omega)]; exact L1)) (fun off ko => ?_)
        have eMi : mMis (mm2 177) (fun i => mm2 182 i.toNat) (mm2 176 17) w (k - m 177 (19 + w).toNat) = mMis (m 177) (fun i => m 182 i.toNat) (m 176 17) w (k - m 177 (19 + w).toNat) := by
          rw [e177, fr2 176 17 (by omega)]
          exact mMis_cg (by omega) (fun i _ _ => fr2 _ _ (by omega))
        rw [eMi] at ko
        have hfq := hf (k - m 177 (19 + w).toNat) w (by omega) (by omega)
        have bnd := (mMis_bd (A := m 177) (S := fun i => m 182 i.toNat) (L := m 176 17) (w := w) (p := k - m 177 (19 + w).toNat) hl.2).1
        by_cases zo : off = 0
        · rw [if_pos zo]
          have hz : mMis (m 177) (fun i => m 182 i.toNat) (m 176 17) w (k - m 177 (19 + w).toNat) = 0 := by
            split at ko <;> omega
          by_cases z : k - m 177 (19 + w).toNat = 0
          · rw [if_pos z]
            exact sum (hfq.mpr hz) (by omega) 1 (by rw [mI_t (by omega)])
          · rw [if_neg z]
            exact sum (hfq.mpr hz) (by omega) 0 (by rw [mI_f (by omega)])
        · rw [if_neg zo]
          refine store 0 (by omega) ?_
          rw [mHv_no ht k0 w0 e (fun h => zo ?_)]
          rw [ko, if_neg (by have := hfq.mp h.2; omega)]
          exact hfq.mp h.2
    · rw [if_neg e, w32e (by omega) (by omega)]
      refine ih _ _ _ ⟨by omega, by omega, fun h => ?_, fun h => ?_, fun r v a b c dd => t3 r v a (by omega) c dd, fr2⟩ (by omega)
      · rw [es, if_neg (by omega)]
      · rw [es, if_pos (by omega), show w = m 177 18 by omega]
theorem st_bound {n : Nat} {m : aM} (h : mInv n m) (x1 : Int) : ∃ r m1 m2, B_bound x1 m = some (r, m1) ∧ R_bound x1 m1 = some (r, m2) ∧ mInv (n + 1) m2 := by
  have hi := mInv_0 h
  have htk := h.2.2.1
  have hr := h.2.2.2.1
  have c12 := htk.2.2.2.2.2.2.2.2.2.2.2.2.1
  have b6 := hr.2.2.2.2.2.2.1
  have b7 := hr.2.2.2.2.2.2.2
  by_cases c : 1 ≤ x1 ∧ x1 ≤ m 177 155
  · obtain ⟨mA, kA, a9, aL, aM, frA⟩ := lay_ok (t := 67) (x1 := 47) htk hr (Or.inr rfl) (Or.inl rfl) (by rw [b6]; omega) (by rw [b6]; omega)
    rw [b6] at aL aM
    have hrA : mTR 25 47 (m 177) mA := mTR_same (fun q i hq => frA q i (by omega) (by omega)) hr htk.2.2.2.2.1.2
    generalize hS : mRl (m 177) (m 177 155) (fun i => m (47 + 1) i.toNat) = Mi
    have hM : mMok (m 177) (m 177 155) Mi := by rw [← hS]; exact mRl_ok htk
    have aC : mCt 67 (m 177) (m 177 155) Mi mA := ⟨aL, fun i w a b c d => by rw [← hS]; exact aM i w a b c d⟩
    obtain ⟨mB, kB, bC, frB⟩ := break_ok htk hrA aC c.1 c.2 (by omega)
    have hrB : mTR 25 47 (m 177) mB := mTR_same (fun q i hq => frB q i (by omega)) hrA htk.2.2.2.2.1.2
    have hM' := mBr_ok (x := x1) hM
    obtain ⟨⟨r, m1⟩, k1, p1, p2⟩ := countWays_ok (t := 67) (L := m 177 155) (Mi := mBr (m 177) Mi x1) (bm := 0) htk hrB (Or.inr rfl) hM' bC (by omega) (by omega) (by omega) (by omega)
    dsimp only at p1 p2
    have fr1 : ∀ q i, ¬(q = 67 ∧ (i = 1 ∨ i = 9)) → q ≠ 68 → q ≠ 70 → m1 q i = m q i := fun q i a b d => by rw [p2 q i (by omega), frB q i (by omega)]; exact frA q i a (by omega)
    have hs : mSame m (aup m1 176 0 0) := by
      intro q i hd
      unfold mDep at hd
      rw [aup_of (by omega), fr1 _ _ (by omega) (by omega) (by omega)]
    have hi2 := mInv_same (Nat.le_succ n) hs h
    have f177 : aup m1 176 0 0 177 = m 177 := funext fun i => hs 177 i (by unfold mDep; omega)
    obtain ⟨m2, k2, q1, q2, q3⟩ := looks_ok (m := aup m1 176 0 0) (by rw [f177]; omega) (by rw [f177]; omega)
    rw [f177] at q1 q2
    have g177 : m2 177 = m 177 := by rw [← f177]; exact funext fun i => q3 _ _ (by omega) (by omega)
    obtain ⟨m3, k3, u1, u2⟩ := laysWays_ok (m := m2) (by rw [g177]; exact htk) (by rw [q1]; omega) (by rw [q1]; omega)
    rw [q1, g177] at u1
    have eMi : ∀ p w : Int, 0 ≤ p → mMis (m 177) (fun i => m2 182 i.toNat) (m 177 155) w p = Mi p w := fun p w p0 => by
      rw [← hS]
      exact mMis_cg p0 (fun i i0 i1 => by rw [q2 i i0 i1]; exact (b7 i i0 i1).symm)
    have g3 : m3 177 = m 177 := by rw [← g177]; exact funext fun i => u2 _ _ (by omega)
    have e17 : m3 176 17 = m 177 155 := by rw [u2 _ _ (by omega)]; exact q1
    have hokR : mMok (m 177) (m 177 155) (mRl (m 177) (m 177 155) (fun i => m2 182 i.toNat)) := mRl_ok htk
    obtain ⟨⟨r', m4⟩, k4, v1, v2⟩ := R_bound_ok (x := x1) (m := m3) (fit := fun p v => Mi p v = 0 ∧ p + m 177 (19 + v).toNat ≤ x1) (V := fun v => mWv (m 177) (m 177 155) Mi x1 (m 177 (45 + v).toNat) 0) (by rw [g3]; exact htk) c.1 (by omega) (by rw [e17]; omega) (fun p v p0 pv => by
      rw [g3] at pv ⊢
      rw [e17]
      have : mMis (m 177) (fun i => m3 182 i.toNat) (m 177 155) v p = Mi p v := by
        rw [← eMi p v p0]
        exact mMis_cg p0 (fun i _ _ => u2 _ _ (by omega))
      rw [this]
      exact ⟨fun hh => hh.1, fun hh => ⟨hh, pv⟩⟩) (fun v v0 v1 => by
      rw [g3] at v1
      have := u1 x1 v 0 (by omega) (by omega) v0 (Or.inl v1) (by omega) (by omega)
      rw [show (x1 * 14 + v) * 3 + 0 = (x1 * 14 + v) * 3 by omega] at this
      rw [this]
      have eko : mKo (m 177) v = m 177 (45 + v).toNat := by unfold mKo; rw [if_neg (by have := htk.2.2.2.2.1; omega)]
      rw [eko, mWv_cg htk hokR hM (fun p w p0 _ _ _ => eMi p w p0) (m 177 155).toNat x1 _ 0 (by omega) (by omega) (by omega)])
    dsimp only at v1 v2
    rw [g3] at v1
    have key : r = r' := by
      rw [p1, v1]
      congr 1
      have fb := front_back htk (q := x1) c.1 (fit := fun p v => Mi p v = 0 ∧ p + m 177 (19 + v).toNat ≤ x1) (X := fun p kd => mWv (m 177) (m 177 155) (mBr (m 177) Mi x1) p kd 0) (H := mHv (m 177) (fun p v => Mi p v = 0 ∧ p + m 177 (19 + v).toNat ≤ x1)) (fun p v hf => hf.2) (fun p kd p0 p1 => by
        rw [mWv_step htk hM' p0 (by omega)]
        refine mSum_congr (fun v v0 v1 => ?_)
        rw [← Int.mul_assoc, ← mI_and]
        have hmp := (hM p v p0 (by omega) v0 (by omega)).1
        by_cases y : p + m 177 (19 + v).toNat ≤ x1
        · have e0 : mBr (m 177) Mi x1 p v = Mi p v := by unfold mBr; rw [if_neg (by omega)]
          rw [e0]
          by_cases z : Mi p v = 0
          · rw [z, Int.sub_zero]
            congr 1
            refine mI_cg ⟨fun hh => ⟨⟨rfl, y⟩, hh.2.2⟩, fun hh => ⟨by rw [e0, z]; omega, by rw [e0, z]; omega, hh.2⟩⟩
          · rw [mI_f (fun hh => z (by have a := hh.1; have b := hh.2.1; rw [e0] at a b; omega)), mI_f (fun hh => z hh.1.1), Int.zero_mul, Int.zero_mul]
        · have e1 : mBr (m 177) Mi x1 p v = -1 := by unfold mBr; rw [if_pos (by omega)]
          rw [mI_f (fun hh => hh.1 e1), mI_f (fun hh => y hh.1.2), Int.zero_mul, Int.zero_mul]) (fun r v r1 r2 v0 v1 => mHv_step htk r1 v0 v1)
      rw [fb]
      refine mSum_congr (fun v _ _ => ?_)
      congr 1
      exact mWv_cg2 htk hM' hM (x0 := x1) (fun p w px _ _ _ _ => by unfold mBr; rw [if_neg (by omega)]) (m 177 155).toNat x1 _ 0 (Int.le_refl _) (by omega) (by omega) (by omega)
    refine ⟨r, m1, m4, ?_, ?_, ?_⟩
    · unfold B_bound
      rw [if_neg (by omega), b6, if_neg (by omega), kA]
      simp only [Option.bind_some, kB, k1]
    · unfold R_bound
      rw [st1e, within_eq, f177]
      simp (disch := omega) only [Option.bind_some, reduceIte, if_pos, if_neg, k2, k3]
      rw [k4, key]
    · refine mInv_same (Nat.le_refl _) (fun q i hd => ?_) hi2
      unfold mDep at hd
      rw [v2 _ _ (by omega), u2 _ _ (by omega), q3 _ _ (by omega) (by omega)]
  · refine ⟨-3, m, aup m 176 0 0, ?_, ?_, hi⟩
    · unfold B_bound
      rw [b6]
      by_cases d : x1 < 1
      · rw [if_pos d]
      · rw [if_neg d, if_pos (by omega)]
    · unfold R_bound
      rw [st1e, within_eq, show aup m 176 0 0 177 155 = m 177 155 from aup_of (by omega)]
      simp (disch := omega) only [Option.bind_some, reduceIte, if_pos, if_neg]
