/-! said -/
noncomputable def mHx (A : Nat → Int) (fit : Int → Int → Prop) : Nat → Int → Int → Int
  | 0, _, _ => 0
  | d + 1, r, v => mI (A (19 + v).toNat ≤ r ∧ fit (r - A (19 + v).toNat) v) * (mI (r = A (19 + v).toNat) + mI (A (19 + v).toNat < r) * mSum (fun a => mI (mKs A (A (45 + a).toNat) v) * mHx A fit d (r - A (19 + v).toNat) a) (A 18).toNat)
noncomputable def mHv (A : Nat → Int) (fit : Int → Int → Prop) (r v : Int) : Int := mHx A fit r.toNat r v
theorem mHx_fuel {A : Nat → Int} {fit : Int → Int → Prop} (ht : mTok A) : ∀ (d : Nat) (r v : Int), 0 ≤ r → 0 ≤ v → v < A 18 → r.toNat ≤ d → mHx A fit d r v = mHv A fit r v := by
  intro d
  induction d using Nat.strongRecOn with
  | ind d ih =>
    intro r v r0 v0 v1 hd
    have hl := (ht.2.2.2.2.2.1 v v0 v1).1
    unfold mHv
    by_cases c : r = 0
    · rw [c]
      show mHx A fit d 0 v = 0
      cases d with
      | zero => rfl
      | succ d => rw [mHx, mI_f (fun h => by have := h.1; omega), Int.zero_mul]
    · obtain ⟨e, he⟩ : ∃ e, r.toNat = e + 1 := ⟨r.toNat - 1, by omega⟩
      cases d with
      | zero => omega
      | succ d =>
        rw [he, mHx, mHx]
        congr 2
        refine mI_mul (fun hlt => ?_)
        refine mSum_congr (fun a a0 a1 => ?_)
        rw [ih d (by omega) _ _ (by omega) a0 (by omega) (by omega), ih e (by omega) _ _ (by omega) a0 (by omega) (by omega)]
theorem mHv_step {A : Nat → Int} {fit : Int → Int → Prop} (ht : mTok A) {r v : Int} (r0 : 1 ≤ r) (v0 : 0 ≤ v) (v1 : v < A 18) : mHv A fit r v = mI (A (19 + v).toNat ≤ r ∧ fit (r - A (19 + v).toNat) v) * (mI (r = A (19 + v).toNat) + mI (A (19 + v).toNat < r) * mSum (fun a => mI (mKs A (A (45 + a).toNat) v) * mHv A fit (r - A (19 + v).toNat) a) (A 18).toNat) := by
  have hl := (ht.2.2.2.2.2.1 v v0 v1).1
  obtain ⟨e, he⟩ : ∃ e, r.toNat = e + 1 := ⟨r.toNat - 1, by omega⟩
  rw [show mHv A fit r v = mHx A fit r.toNat r v from rfl, he, mHx]
  congr 2
  refine mI_mul (fun hlt => mSum_congr (fun a a0 a1 => ?_))
  rw [mHx_fuel ht e _ _ (by omega) a0 (by omega) (by omega)]
def mAny (A : Nat → Int) (n p w : Int) : Int := if n < p + A (19 + w).toNat then -1 else 0
theorem mAny_ok {A : Nat → Int} {n : Int} : mMok A n (mAny A n) := by
  intro p w p0 p1 w0 w1
  unfold mAny
  by_cases c : n < p + A (19 + w).toNat
  · rw [if_pos c]; omega
  · rw [if_neg c]; omega
theorem layAny_ok {n : Int} {m : aM} {A : Nat → Int} (ht : mTok A) (hr : mTR 25 47 A m) (n0 : 0 ≤ n) (n1 : n ≤ 60) : mOk (Cutter_layAny 67 n m) (fun m' => m' 67 9 = -1 ∧ mCt 67 A n (mAny A n) m' ∧ ∀ q i, ¬(q = 67 ∧ (i = 1 ∨ i = 9)) → q ≠ 68 → m' q i = m q i) := by
  have c4 := ht.2.2.2.2.1
  unfold Cutter_layAny Cutter_forget
  rw [st1e]
  simp only [Option.bind_some, jmin_eq]
  have emin : mMin n 60 = n := by unfold mMin; rw [if_neg (by omega)]
  rw [emin]
  refine mOk_st1 ?_
  refine mL2 (Cutter_layAny_9 67) (fun p mm => 0 ≤ p ∧ p ≤ n ∧ mm 67 9 = -1 ∧ mm 67 1 = n ∧ (∀ i w : Int, 0 ≤ i → i < p → 0 ≤ w → w < A 18 → mm 68 (i * 12 + w).toNat = mAny A n i w) ∧ ∀ q i, ¬(q = 67 ∧ (i = 1 ∨ i = 9)) → q ≠ 68 → mm q i = m q i) (fun p _ => (61 - p).toNat) ?_ 0 _ ⟨by omega, by omega, by rw [aup_of (by omega), aup_self], aup_self _ _ _ _, fun i w a b => by omega, fun q i a b => by rw [aup_of (by omega), aup_of (by omega)]⟩ (by omega)
  rintro fu p mm ⟨p0, p1, s9, s1, s2, fr⟩ ih
  rw [Cutter_layAny_9, s1]
  by_cases d : p < n
  · rw [if_pos d]
    refine mL2 (Cutter_layAny_15 (Cutter_layAny_9 67 fu) 67 p) (fun v mm => 0 ≤ v ∧ v ≤ A 18 ∧ mm 67 9 = -1 ∧ mm 67 1 = n ∧ (∀ i w : Int, 0 ≤ i → (i < p ∨ (i = p ∧ w < v)) → 0 ≤ w → w < A 18 → mm 68 (i * 12 + w).toNat = mAny A n i w) ∧ ∀ q i, ¬(q = 67 ∧ (i = 1 ∨ i = 9)) → q ≠ 68 → mm q i = m q i) (fun v _ => (13 - v).toNat) ?_ 0 mm ⟨by omega, by omega, s9, s1, fun i w a b c e => s2 i w a (by omega) c e, fr⟩ (by omega)
    rintro fu2 v mm2 ⟨v0, v1, t9, t1, t2, fr2⟩ ih2
    rw [Cutter_layAny_15, show mm2 25 2 = A 18 from (fr2 _ _ (by omega) (by omega)).trans hr.1.2.2.1]
    by_cases e : v < A 18
    · have g := hr.2.2.2.1 v v0 e
      have hl := (ht.2.2.2.2.2.1 v v0 e).1
      rw [if_pos e, if_pos (by omega), t1, show mm2 41 v.toNat = _ from (fr2 _ _ (by omega) (by omega)).trans g.1, w32e (x := p + A (19 + v).toNat) (by omega) (by omega)]
      have put : ∀ x : Int, x = mAny A n p v → mOk (Cutter_layAny_40 (Cutter_layAny_9 67 fu) (Cutter_layAny_15 (Cutter_layAny_9 67 fu) 67 p fu2) 67 p v x (w32 ((w32 (p * 12)) + v)) mm2) (fun m' => m' 67 9 = -1 ∧ mCt 67 A n (mAny A n) m' ∧ ∀ q i, ¬(q = 67 ∧ (i = 1 ∨ i = 9)) → q ≠ 68 → m' q i = m q i) := by
        intro x hx
        have bx := (mAny_ok (A := A) (n := n) p v p0 d v0 e).1
        unfold Cutter_layAny_40
        simp (disch := omega) only [w32e, if_pos, w8e, st1e]
        refine ih2 _ _ ⟨by omega, by omega, by rw [aup_of (by omega)]; exact t9, by rw [aup_of (by omega)]; exact t1, fun i w a b c dd => ?_, fun q i a b => by rw [aup_of (by omega)]; exact fr2 q i a b⟩ (by omega)
        by_cases ei : i = p ∧ w = v
        · rw [ei.1, ei.2, show (68 : Nat) = 67 + 1 from rfl, aup_self]; exact hx
        · rw [aup_of (by omega)]; exact t2 i w a (by omega) c dd
      by_cases z : n < p + A (19 + v).toNat
      · rw [if_pos z]
        exact put _ (by unfold mAny; rw [if_pos z])
      · rw [if_neg z]
        exact put _ (by unfold mAny; rw [if_neg z])
    · rw [if_neg e, w32e (by omega) (by omega)]
      exact ih _ _ ⟨by omega, by omega, t9, t1, fun i w a b c dd => t2 i w a (by omega) c dd, fr2⟩ (by omega)
  · rw [if_neg d]
    exact mOk_some ⟨s9, ⟨s1, fun i w a b c e => s2 i w a (by omega) c e⟩, fr⟩
/-- the words behind which a word may stand, counted -/
noncomputable def mHs (A : Nat → Int) (fit : Int → Int → Prop) (r v : Int) (x : Nat) : Int := mSum (fun a => mI (mKs A (A (45 + a).toNat) v) * (mHv A fit r a % 1000000007)) x
theorem mHs_bd (A : Nat → Int) (fit : Int → Int → Prop) (r v : Int) (x : Nat) : 0 ≤ mHs A fit r v x ∧ mHs A fit r v x ≤ x * 1000000007 := by
  unfold mHs
  exact mSum_bd (by omega) (fun i i0 i1 => by
    by_cases z : mKs A (A (45 + i).toNat) v
    · rw [mI_t z, Int.one_mul]; omega
    · rw [mI_f z, Int.zero_mul]; omega)
theorem mHv_mod {A : Nat → Int} {fit : Int → Int → Prop} (ht : mTok A) {r v : Int} (r0 : 1 ≤ r) (v0 : 0 ≤ v) (v1 : v < A 18) (hf : A (19 + v).toNat ≤ r → fit (r - A (19 + v).toNat) v) : mHv A fit r v % 1000000007 = (mI (r = A (19 + v).toNat) + mI (A (19 + v).toNat < r) * mHs A fit (r - A (19 + v).toNat) v (A 18).toNat) % 1000000007 := by
  rw [mHv_step ht r0 v0 v1]
  by_cases z : A (19 + v).toNat ≤ r
  · rw [mI_t ⟨z, hf z⟩, Int.one_mul, Int.add_emod, Int.mul_emod]
    rw [Int.add_emod (mI (r = A (19 + v).toNat)) (mI (A (19 + v).toNat < r) * mHs A fit (r - A (19 + v).toNat) v (A 18).toNat), Int.mul_emod (mI (A (19 + v).toNat < r)) (mHs A fit (r - A (19 + v).toNat) v (A 18).toNat)]
    congr 4
    unfold mHs
    refine mSum_mod (fun i i0 i1 => ?_)
    by_cases y : mKs A (A (45 + i).toNat) v
    · rw [mI_t y, Int.one_mul, Int.one_mul, Int.emod_emod_of_dvd _ (Int.dvd_refl _)]
    · rw [mI_f y, Int.zero_mul, Int.zero_mul]
  · rw [mI_f (fun h => z h.1), Int.zero_mul, mI_f (by omega), mI_f (by omega), Int.zero_mul]
    rfl
theorem R_said_ok {n : Int} {m : aM} {fit : Int → Int → Prop} (ht : mTok (m 177)) (n0 : 0 ≤ n) (n1 : n ≤ 60) (hf : ∀ p v : Int, 0 ≤ p → p + m 177 (19 + v).toNat ≤ n → fit p v) : mOk (R_said_15 n FU 0 1 m) (fun r => r.1 = (if n = 0 then 0 else mSum (fun v => mHv (m 177) fit n v * mI (mKe (m 177) (m 177 (45 + v).toNat))) (m 177 18).toNat % 1000000007) ∧ ∀ q i, q ≠ 201 → r.2 q i = m q i) := by
  have c4 := ht.2.2.2.2.1
  have tbd : ∀ x : Nat, 0 ≤ mSum (fun v => mHv (m 177) fit n v % 1000000007 * mI (mKe (m 177) (m 177 (45 + v).toNat))) x ∧ mSum (fun v => mHv (m 177) fit n v % 1000000007 * mI (mKe (m 177) (m 177 (45 + v).toNat))) x ≤ x * 1000000007 := fun x => mSum_bd (by omega) (fun i i0 i1 => by
    by_cases z : mKe (m 177) (m 177 (45 + i).toNat)
    · rw [mI_t z, Int.mul_one]; omega
    · rw [mI_f z, Int.mul_zero]; omega)
  refine mL3 (R_said_15 n) (fun s k mm => 1 ≤ k ∧ k ≤ n + 1 ∧ (k ≤ n → s = 0) ∧ (k = n + 1 → s = if n = 0 then 0 else mSum (fun v => mHv (m 177) fit n v % 1000000007 * mI (mKe (m 177) (m 177 (45 + v).toNat))) (m 177 18).toNat) ∧ (∀ r v : Int, 1 ≤ r → r < k → 0 ≤ v → v < m 177 18 → mm 201 (13 * r + v).toNat = mHv (m 177) fit r v % 1000000007) ∧ ∀ q i, q ≠ 201 → mm q i = m q i) (fun _ k _ => (62 - k).toNat) ?_ 0 1 m ⟨by omega, by omega, fun _ => rfl, fun h => by rw [if_pos (by omega)], fun r v a b => by omega, fun _ _ _ => rfl⟩ (by omega)
  rintro fu s k mm ⟨k0, k1, s1, s2, s3, fr⟩ ih
  rw [R_said_15]
  by_cases d : n < k
  · rw [if_pos d]
    have es := s2 (by omega)
    refine mOk_some ⟨?_, fr⟩
    by_cases z : n = 0
    · rw [if_pos z] at es
      rw [es, if_pos z]
      rfl
    · rw [if_neg z] at es
      have tb := tbd (m 177 18).toNat
      rw [← es] at tb
      dsimp only
      rw [if_neg z, Int.tmod_eq_emod_of_nonneg tb.1, w32e (by omega) (by omega), es]
      refine mSum_mod (fun i i0 i1 => ?_)
      by_cases y : mKe (m 177) (m 177 (45 + i).toNat)
      · rw [mI_t y, Int.mul_one, Int.mul_one, Int.emod_emod_of_dvd _ (Int.dvd_refl _)]
      · rw [mI_f y, Int.mul_zero, Int.mul_zero]
  · rw [if_neg d]
    refine mL3 (R_said_20 (R_said_15 n fu) n k) (fun s w mm => 0 ≤ w ∧ w ≤ m 177 18 ∧ s = (if k = n then mSum (fun v => mHv (m 177) fit n v % 1000000007 * mI (mKe (m 177) (m 177 (45 + v).toNat))) w.toNat else 0) ∧ (∀ r v : Int, 1 ≤ r → (r < k ∨ (r = k ∧ v < w)) → 0 ≤ v → v < m 177 18 → mm 201 (13 * r + v).toNat = mHv (m 177) fit r v % 1000000007) ∧ ∀ q i, q ≠ 201 → mm q i = m q i) (fun _ w _ => (13 - w).toNat) ?_ s 0 mm ⟨by omega, by omega, by rw [s1 (by omega)]; split <;> rfl, fun r v a b c e => s3 r v a (by omega) c e, fr⟩ (by omega)
    rintro fu2 s w mm2 ⟨w0, w1, es, t3, fr2⟩ ih2
    have e177 : mm2 177 = m 177 := funext fun i => fr2 _ _ (by omega)
    have ht2 : mTok (mm2 177) := by rw [e177]; exact ht
    rw [R_said_20, e177]
    by_cases e : w < m 177 18
    · have hl := (ht.2.2.2.2.2.1 w w0 e).1
      rw [if_pos e, w32e (x := 19 + w) (by omega) (by omega), if_pos (by omega), w32e (x := k - m 177 (19 + w).toNat) (by omega) (by omega)]
      have hmod := mHv_mod (fit := fit) ht k0 w0 e (fun hle => hf _ _ (by omega) (by omega))
      -- storing
      have store : ∀ x : Int, 0 ≤ x → x % 1000000007 = mHv (m 177) fit k w % 1000000007 → mOk (R_said_71 (R_said_15 n fu) (R_said_20 (R_said_15 n fu) n k fu2) n s k w x mm2) (fun r => r.1 = (if n = 0 then 0 else mSum (fun v => mHv (m 177) fit n v * mI (mKe (m 177) (m 177 (45 + v).toNat))) (m 177 18).toNat % 1000000007) ∧ ∀ q i, q ≠ 201 → r.2 q i = m q i) := by
        intro x x0 hx
        unfold R_said_71
        simp (disch := omega) only [w32e, if_pos, st1e]
        rw [Int.tmod_eq_emod_of_nonneg x0]
        have tab : ∀ r v : Int, 1 ≤ r → (r < k ∨ (r = k ∧ v < w + 1)) → 0 ≤ v → v < m 177 18 → aup mm2 201 (13 * k + w).toNat (x % 1000000007) 201 (13 * r + v).toNat = mHv (m 177) fit r v % 1000000007 := by
          intro r v a b c dd
          by_cases eq : r = k ∧ v = w
          · rw [eq.1, eq.2, aup_self]; exact hx
          · rw [aup_of (by omega)]; exact t3 r v a (by omega) c dd
        have fr3 : ∀ q i, q ≠ 201 → aup mm2 201 (13 * k + w).toNat (x % 1000000007) q i = m q i := fun q i hq => by rw [aup_of (by omega)]; exact fr2 q i hq
        have f177 : aup mm2 201 (13 * k + w).toNat (x % 1000000007) 177 = m 177 := funext fun i => fr3 _ _ (by omega)
        unfold R_said_94 R_said_95
        rw [w32e (x := w + 1) (by omega) (by omega)]
        by_cases kn : k = n
        · rw [if_pos kn] at es ⊢
          have tb := tbd w.toNat
          rw [← es] at tb
          refine mOk_bind (RmayEnd_ok (m := aup mm2 201 (13 * k + w).toNat (x % 1000000007)) (by rw [f177]; exact ht) w0 (by rw [f177]; exact e)) (fun r kr => ?_)
          rw [f177] at kr
          by_cases z : r = 0
          · rw [if_pos z, w64e (by omega) (by omega)]
            refine ih2 _ _ _ ⟨by omega, by omega, ?_, tab, fr3⟩ (by omega)
            rw [if_pos kn, mSum_s w0, mI_f (fun h => (kr.2.mpr h) z), Int.mul_zero, es]
          · rw [if_neg z, w64e (by omega) (by omega)]
            refine ih2 _ _ _ ⟨by omega, by omega, ?_, tab, fr3⟩ (by omega)
            rw [if_pos kn, mSum_s w0, mI_t (kr.2.mp z), Int.mul_one, es, hx, kn]
        · rw [if_neg kn] at es ⊢
          rw [es, w64e (by omega) (by omega)]
          exact ih2 _ _ _ ⟨by omega, by omega, by rw [if_neg kn]; rfl, tab, fr3⟩ (by omega)
      -- the sum over the words ahead
      have sum : ∀ x0 : Int, x0 = mI (k = m 177 (19 + w).toNat) → mOk (R_said_40 (R_said_15 n fu) (R_said_20 (R_said_15 n fu) n k fu2) n s k w (k - m 177 (19 + w).toNat) x0 mm2) (fun r => r.1 = (if n = 0 then 0 else mSum (fun v => mHv (m 177) fit n v * mI (mKe (m 177) (m 177 (45 + v).toNat))) (m 177 18).toNat % 1000000007) ∧ ∀ q i, q ≠ 201 → r.2 q i = m q i) := by
        intro x0 hx0
        have hI := mI_01 (k = m 177 (19 + w).toNat)
        unfold R_said_40
        refine mL2 (fun f x a => R_said_43 (R_said_15 n fu) (R_said_20 (R_said_15 n fu) n k fu2) n s k w (k - m 177 (19 + w).toNat) f x a mm2) (fun x a => 0 ≤ a ∧ a ≤ m 177 18 ∧ x = x0 + mI (m 177 (19 + w).toNat < k) * mHs (m 177) fit (k - m 177 (19 + w).toNat) w a.toNat) (fun _ a => (13 - a).toNat) ?_ x0 0 ⟨by omega, by omega, by rw [show mHs (m 177) fit (k - m 177 (19 + w).toNat) w (0 : Int).toNat = 0 from rfl, Int.mul_zero]; omega⟩ (by omega)
        rintro fu3 x a ⟨a0, a1, ex⟩ ih3
        show mOk (R_said_43 (R_said_15 n fu) (R_said_20 (R_said_15 n fu) n k fu2) n s k w (k - m 177 (19 + w).toNat) (fu3 + 1) x a mm2) _
        have hb := mHs_bd (m 177) fit (k - m 177 (19 + w).toNat) w a.toNat
        have fin : (m 177 18 ≤ a ∨ k - m 177 (19 + w).toNat ≤ 0) → mOk (R_said_71 (R_said_15 n fu) (R_said_20 (R_said_15 n fu) n k fu2) n s k w x mm2) (fun r => r.1 = (if n = 0 then 0 else mSum (fun v => mHv (m 177) fit n v * mI (mKe (m 177) (m 177 (45 + v).toNat))) (m 177 18).toNat % 1000000007) ∧ ∀ q i, q ≠ 201 → r.2 q i = m q i) := by
          intro hfin
          by_cases z : m 177 (19 + w).toNat < k
          · rw [mI_t z, Int.one_mul] at ex
            refine store x (by omega) ?_
            rw [hmod, ex, hx0, mI_t z, Int.one_mul, show a = m 177 18 by omega]
          · rw [mI_f z, Int.zero_mul] at ex
            refine store x (by omega) ?_
            rw [hmod, ex, hx0, mI_f z, Int.zero_mul]
        rw [R_said_43, e177]
        by_cases g : a < m 177 18
        · rw [if_pos g]
          by_cases gp : 0 < k - m 177 (19 + w).toNat
          · rw [if_pos gp]
            have zk : m 177 (19 + w).toNat < k := by omega
            rw [mI_t zk, Int.one_mul] at ex
            refine mOk_bind (mayStand_ok ht2 a0 (by rw [e177]; exact g) w0 (by rw [e177]; exact e)) (fun r kr => ?_)
            rw [e177] at kr
            have stp : mHs (m 177) fit (k - m 177 (19 + w).toNat) w (a + 1).toNat = mHs (m 177) fit (k - m 177 (19 + w).toNat) w a.toNat + mI (mKs (m 177) (m 177 (45 + a).toNat) w) * (mHv (m 177) fit (k - m 177 (19 + w).toNat) a % 1000000007) := by
              unfold mHs
              rw [mSum_s a0]
            by_cases z : r = 0
            · rw [if_pos z]
              unfold R_said_67
              rw [w64e (by omega) (by omega), w32e (by omega) (by omega)]
              refine ih3 _ _ ⟨by omega, by omega, ?_⟩ (by omega)
              rw [mI_t zk, Int.one_mul, stp, mI_f (fun h => (kr.2.mpr h) z), Int.zero_mul]; omega
            · rw [if_neg z]
              simp (disch := omega) only [w32e, if_pos]
              rw [t3 (k - m 177 (19 + w).toNat) a (by omega) (by omega) a0 g]
              unfold R_said_67
              rw [w64e (by omega) (by omega), w32e (by omega) (by omega)]
              refine ih3 _ _ ⟨by omega, by omega, ?_⟩ (by omega)
              rw [mI_t zk, Int.one_mul, stp, mI_t (kr.2.mp z), Int.one_mul]; omega
          · rw [if_neg gp]
            exact fin (Or.inr (by omega))
        · rw [if_neg g]
          exact fin (Or.inl (by omega))
      by_cases z : k - m 177 (19 + w).toNat = 0
      · rw [if_pos z]
        exact sum 1 (by rw [mI_t (by omega)])
      · rw [if_neg z]
        exact sum 0 (by rw [mI_f (by omega)])
    · rw [if_neg e, w32e (by omega) (by omega)]
      refine ih _ _ _ ⟨by omega, by omega, fun h => ?_, fun h => ?_, fun r v a b c dd => t3 r v a (by omega) c dd, fr2⟩ (by omega)
      · rw [es, if_neg (by omega)]
      · rw [es, if_pos (by omega), if_neg (by omega), show w = m 177 18 by omega]
theorem st_said {n : Nat} {m : aM} (h : mInv n m) (x1 : Int) : ∃ r m1 m2, B_said x1 m = some (r, m1) ∧ R_said x1 m1 = some (r, m2) ∧ mInv (n + 1) m2 := by
  have hi := mInv_0 h
  by_cases c : 0 ≤ x1 ∧ x1 ≤ 60
  · have htk := h.2.2.1
    have hr := h.2.2.2.1
    obtain ⟨mA, kA, a9, aC, frA⟩ := layAny_ok htk hr c.1 c.2
    have hrA : mTR 25 47 (m 177) mA := mTR_same (fun q i hq => frA q i (by omega) (by omega)) hr htk.2.2.2.2.1.2
    obtain ⟨⟨r, m1⟩, k1, p1, p2⟩ := countWays_ok (t := 67) (L := x1) (Mi := mAny (m 177) x1) (bm := 0) htk hrA (Or.inr rfl) mAny_ok aC c.1 c.2 (by omega) (by omega)
    dsimp only at p1 p2
    have fr1 : ∀ q i, ¬(q = 67 ∧ (i = 1 ∨ i = 9)) → q ≠ 68 → q ≠ 70 → m1 q i = m q i := fun q i a b d => by rw [p2 q i (by omega)]; exact frA q i a b
    have hs : mSame m (aup m1 176 0 0) := by
      intro q i hd
      unfold mDep at hd
      rw [aup_of (by omega), fr1 _ _ (by omega) (by omega) (by omega)]
    have hi2 := mInv_same (Nat.le_succ n) hs h
    have f177 : aup m1 176 0 0 177 = m 177 := funext fun i => hs 177 i (by unfold mDep; omega)
    obtain ⟨⟨r', m2⟩, k2, q1, q2⟩ := R_said_ok (n := x1) (m := aup m1 176 0 0) (fit := fun p v => p + m 177 (19 + v).toNat ≤ x1) hi2.2.2.1 c.1 c.2 (fun p v _ hp => by rw [f177] at hp; exact hp)
    dsimp only at q1 q2
    rw [f177] at q1
    have key : r = r' := by
      rw [p1, q1]
      by_cases z : x1 = 0
      · rw [if_pos z, z, mWv_end, mI_f (fun hh => hh.1 rfl)]
        rfl
      · rw [if_neg z]
        congr 1
        have fb := front_back htk (q := x1) (by omega) (fit := fun p v => p + m 177 (19 + v).toNat ≤ x1) (X := fun p kd => mWv (m 177) x1 (mAny (m 177) x1) p kd 0) (H := mHv (m 177) (fun p v => p + m 177 (19 + v).toNat ≤ x1)) (fun p v hf => hf) (fun p kd p0 p1 => by
          rw [mWv_step htk mAny_ok p0 p1]
          refine mSum_congr (fun v v0 v1 => ?_)
          rw [← Int.mul_assoc, ← mI_and]
          by_cases y : p + m 177 (19 + v).toNat ≤ x1
          · have e0 : mAny (m 177) x1 p v = 0 := by unfold mAny; rw [if_neg (by omega)]
            rw [e0, Int.sub_zero]
            congr 1
            refine mI_cg ⟨fun hh => ⟨y, hh.2.2⟩, fun hh => ⟨by rw [e0]; omega, by rw [e0]; omega, hh.2⟩⟩
          · have e1 : mAny (m 177) x1 p v = -1 := by unfold mAny; rw [if_pos (by omega)]
            rw [mI_f (fun hh => hh.1 e1), mI_f (fun hh => y hh.1), Int.zero_mul, Int.zero_mul]) (fun r v r1 r2 v0 v1 => mHv_step htk r1 v0 v1)
        rw [fb]
        refine mSum_congr (fun v _ _ => ?_)
        rw [mWv_end]
    refine ⟨r, m1, m2, ?_, ?_, ?_⟩
    · unfold B_said
      rw [if_neg (by omega), if_neg (by omega), kA]
      simp only [Option.bind_some, k1]
    · unfold R_said
      rw [st1e, within_eq]
      simp (disch := omega) only [Option.bind_some, reduceIte, if_pos, if_neg]
      rw [k2, key]
    · refine mInv_same (Nat.le_refl _) (fun q i hd => ?_) hi2
      unfold mDep at hd
      exact q2 _ _ (by omega)
  · refine ⟨-3, m, aup m 176 0 0, ?_, ?_, hi⟩
    · unfold B_said
      by_cases d : x1 < 0
      · rw [if_pos d]
      · rw [if_neg d, if_pos (by omega)]
    · unfold R_said
      simp (disch := omega) only [st1e, within_eq, Option.bind_some, reduceIte, if_pos, if_neg]
