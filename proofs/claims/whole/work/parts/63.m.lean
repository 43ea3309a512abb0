/-! cuts -/
theorem looks_ok {m : aM} (L0 : 0 ≤ m 177 155) (L1 : m 177 155 ≤ 40) : mOk (R_looksAtLine m) (fun m' => m' 176 17 = m 177 155 ∧ (∀ k : Int, 0 ≤ k → k < m 177 155 → m' 182 k.toNat = m 177 (156 + k).toNat) ∧ ∀ q i, ¬(q = 176 ∧ i = 17) → q ≠ 182 → m' q i = m q i) := by
  unfold R_looksAtLine
  refine mOk_st1 ?_
  refine mL2 R_looksAtLine_8 (fun a mm => 0 ≤ a ∧ a ≤ m 177 155 ∧ mm 176 17 = m 177 155 ∧ (∀ k : Int, 0 ≤ k → k < a → mm 182 k.toNat = m 177 (156 + k).toNat) ∧ ∀ q i, ¬(q = 176 ∧ i = 17) → q ≠ 182 → mm q i = m q i) (fun a _ => (41 - a).toNat) ?_ 0 _ ⟨by omega, by omega, aup_self _ _ _ _, fun k a b => by omega, fun q i a b => aup_of (by omega)⟩ (by omega)
  rintro fu a mm ⟨a0, a1, s1, s2, fr⟩ ih
  rw [R_looksAtLine_8, s1]
  by_cases d : a < m 177 155
  · simp (disch := omega) only [if_pos, w32e, st1e]
    refine ih _ _ ⟨by omega, by omega, by rw [aup_of (by omega)]; exact s1, fun k k0 k1 => ?_, fun q i x y => by rw [aup_of (by omega)]; exact fr q i x y⟩ (by omega)
    by_cases e : k = a
    · rw [e, aup_self, fr _ _ (by omega) (by omega)]
    · rw [aup_of (by omega)]; exact s2 k k0 (by omega)
  · rw [if_neg d]
    exact mOk_some ⟨s1, fun k k0 k1 => s2 k k0 (by omega), fr⟩
def mKo (A : Nat → Int) (a : Int) : Int := if a = 13 then 4 else A (45 + a).toNat
theorem mKo_in {A : Nat → Int} (ht : mTok A) {a : Int} (a0 : 0 ≤ a) (ha : a < A 18 ∨ a = 13) : 0 ≤ mKo A a ∧ mKo A a ≤ 4 := by
  unfold mKo
  by_cases c : a = 13
  · rw [if_pos c]; omega
  · rw [if_neg c]
    have := (ht.2.2.2.2.2.1 a a0 (by omega)).2.2.1
    omega
theorem mayBe_ok {a w : Int} {m : aM} (ht : mTok (m 177)) (a0 : 0 ≤ a) (ha : a < m 177 18 ∨ a = 13) (w0 : 0 ≤ w) (w1 : w < m 177 18) : mOk (R_mayBe a w m) (fun r => (r = 0 ∨ r = 1) ∧ (r ≠ 0 ↔ mKs (m 177) (mKo (m 177) a) w)) := by
  have c4 := ht.2.2.2.2.1
  unfold R_mayBe R_mayBe_8 mKo
  by_cases c : a = 13
  · rw [if_pos c, if_pos c]
    exact mOk_some ⟨Or.inr rfl, by simp; exact Or.inl rfl⟩
  · rw [if_neg c, if_neg c]
    refine mOk_bind (mayStand_ok ht a0 (by omega) w0 w1) (fun r kr => ?_)
    by_cases z : r = 0
    · rw [if_pos z]
      exact mOk_some ⟨Or.inl rfl, by simp; exact fun h => (kr.2.mpr h) z⟩
    · rw [if_neg z]
      exact mOk_some ⟨Or.inr rfl, by simp; exact kr.2.mp z⟩
/-- the reference's line -/
def mRl (A : Nat → Int) (L : Int) (S : Int → Int) (p w : Int) : Int := mMis A S L w p
theorem mRl_ok {A : Nat → Int} {L : Int} {S : Int → Int} (ht : mTok A) : mMok A L (mRl A L S) := fun p w p0 p1 w0 w1 => mMis_bd (ht.2.2.2.2.2.1 w w0 w1).1.2
theorem laysWays_ok {m : aM} (ht : mTok (m 177)) (L0 : 0 ≤ m 176 17) (L1 : m 176 17 ≤ 40) : mOk (R_laysWays m) (fun m' => (∀ p a c : Int, 0 ≤ p → p ≤ m 176 17 → 0 ≤ a → (a < m 177 18 ∨ a = 13) → 0 ≤ c → c < 3 → m' 183 ((p * 14 + a) * 3 + c).toNat = mWv (m 177) (m 176 17) (mRl (m 177) (m 176 17) (fun i => m 182 i.toNat)) p (mKo (m 177) a) c % 1000000007) ∧ ∀ q i, q ≠ 183 → m' q i = m q i) := by
  have c4 := ht.2.2.2.2.1
  generalize hL : m 176 17 = L at *
  generalize hMi : mRl (m 177) L (fun i => m 182 i.toNat) = Mi
  have hM : mMok (m 177) L Mi := by rw [← hMi]; exact mRl_ok ht
  unfold R_laysWays
  rw [hL]
  refine mL2 R_laysWays_3 (fun p mm => -1 ≤ p ∧ p ≤ L ∧ (∀ q a c : Int, p < q → q ≤ L → 0 ≤ a → (a < m 177 18 ∨ a = 13) → 0 ≤ c → c < 3 → mm 183 ((q * 14 + a) * 3 + c).toNat = mWv (m 177) L Mi q (mKo (m 177) a) c % 1000000007) ∧ ∀ q i, q ≠ 183 → mm q i = m q i) (fun p _ => (p + 1).toNat) ?_ L m ⟨by omega, by omega, fun q a c x y => by omega, fun _ _ _ => rfl⟩ (by omega)
  rintro fu p mm ⟨p0, p1, hT, fr⟩ ih
  rw [R_laysWays_3]
  by_cases d : p < 0
  · rw [if_pos d]
    exact mOk_some ⟨fun q a c x y z u v w => hT q a c (by omega) y z u v w, fr⟩
  rw [if_neg d]
  refine mL2 (R_laysWays_7 (R_laysWays_3 fu) p) (fun a' mm => 0 ≤ a' ∧ a' ≤ 14 ∧ (∀ q a c : Int, (p < q ∨ (p = q ∧ a < a')) → q ≤ L → 0 ≤ a → (a < m 177 18 ∨ a = 13) → 0 ≤ c → c < 3 → mm 183 ((q * 14 + a) * 3 + c).toNat = mWv (m 177) L Mi q (mKo (m 177) a) c % 1000000007) ∧ ∀ q i, q ≠ 183 → mm q i = m q i) (fun a' _ => (15 - a').toNat) ?_ 0 mm ⟨by omega, by omega, fun q a c x y z u v w => hT q a c (by omega) y z u v w, fr⟩ (by omega)
  rintro fu2 a mm2 ⟨a0, a1, hT2, fr2⟩ ih2
  have e177 : mm2 177 = m 177 := funext fun i => fr2 _ _ (by omega)
  rw [R_laysWays_7, e177]
  have skip : mOk (R_laysWays_3 fu (w32 (p + -1)) mm2) (fun m' => (∀ p a c : Int, 0 ≤ p → p ≤ L → 0 ≤ a → (a < m 177 18 ∨ a = 13) → 0 ≤ c → c < 3 → m' 183 ((p * 14 + a) * 3 + c).toNat = mWv (m 177) L Mi p (mKo (m 177) a) c % 1000000007) ∧ ∀ q i, q ≠ 183 → m' q i = m q i) ∨ True := Or.inr trivial
  by_cases e : a < 14
  · rw [if_pos e]
    have one : (a < m 177 18 ∨ a = 13) → mOk (R_laysWays_20 (R_laysWays_3 fu) (R_laysWays_7 (R_laysWays_3 fu) p fu2) p a mm2) (fun m' => (∀ p a c : Int, 0 ≤ p → p ≤ L → 0 ≤ a → (a < m 177 18 ∨ a = 13) → 0 ≤ c → c < 3 → m' 183 ((p * 14 + a) * 3 + c).toNat = mWv (m 177) L Mi p (mKo (m 177) a) c % 1000000007) ∧ ∀ q i, q ≠ 183 → m' q i = m q i) := by
      intro ha
      have kin := mKo_in ht a0 ha
      unfold R_laysWays_20
      refine mL2 (R_laysWays_22 (R_laysWays_3 fu) (R_laysWays_7 (R_laysWays_3 fu) p fu2) p a) (fun b mm => 0 ≤ b ∧ b ≤ 3 ∧ (∀ q a' c : Int, (p < q ∨ (p = q ∧ (a' < a ∨ (a' = a ∧ c < b)))) → q ≤ L → 0 ≤ a' → (a' < m 177 18 ∨ a' = 13) → 0 ≤ c → c < 3 → mm 183 ((q * 14 + a') * 3 + c).toNat = mWv (m 177) L Mi q (mKo (m 177) a') c % 1000000007) ∧ ∀ q i, q ≠ 183 → mm q i = m q i) (fun b _ => (4 - b).toNat) ?_ 0 mm2 ⟨by omega, by omega, fun q a c x y z u v w => hT2 q a c (by omega) y z u v w, fr2⟩ (by omega)
      rintro fu3 b mm3 ⟨b0, b1, hT3, fr3⟩ ih3
      have f177 : mm3 177 = m 177 := funext fun i => fr3 _ _ (by omega)
      have ht3 : mTok (mm3 177) := by rw [f177]; exact ht
      have f17 : mm3 176 17 = L := (fr3 _ _ (by omega)).trans hL
      rw [R_laysWays_22]
      by_cases g : b < 3
      · rw [if_pos g, f17]
        -- storing
        have store : ∀ x : Int, 0 ≤ x → x % 1000000007 = mWv (m 177) L Mi p (mKo (m 177) a) b % 1000000007 → mOk (R_laysWays_93 (R_laysWays_3 fu) (R_laysWays_7 (R_laysWays_3 fu) p fu2) (R_laysWays_22 (R_laysWays_3 fu) (R_laysWays_7 (R_laysWays_3 fu) p fu2) p a fu3) p a b x mm3) (fun m' => (∀ p a c : Int, 0 ≤ p → p ≤ L → 0 ≤ a → (a < m 177 18 ∨ a = 13) → 0 ≤ c → c < 3 → m' 183 ((p * 14 + a) * 3 + c).toNat = mWv (m 177) L Mi p (mKo (m 177) a) c % 1000000007) ∧ ∀ q i, q ≠ 183 → m' q i = m q i) := by
          intro x x0 hx
          unfold R_laysWays_93
          simp (disch := omega) only [w32e, if_pos, st1e]
          refine ih3 _ _ ⟨by omega, by omega, fun q a' c u y z v w s => ?_, fun q i hq => by rw [aup_of (by omega)]; exact fr3 q i hq⟩ (by omega)
          by_cases eq : q = p ∧ a' = a ∧ c = b
          · obtain ⟨rfl, rfl, rfl⟩ := eq
            rw [aup_self, Int.tmod_eq_emod_of_nonneg x0]; exact hx
          · rw [aup_of (by omega)]
            exact hT3 q a' c (by omega) y z v w s
        -- the sum over the words
        have sum : ∀ x0 : Int, (p = L → x0 = mI (mKe (m 177) (mKo (m 177) a))) → (p ≠ L → x0 = 0) → mOk (R_laysWays_39 (R_laysWays_3 fu) (R_laysWays_7 (R_laysWays_3 fu) p fu2) (R_laysWays_22 (R_laysWays_3 fu) (R_laysWays_7 (R_laysWays_3 fu) p fu2) p a fu3) p a b x0 mm3) (fun m' => (∀ p a c : Int, 0 ≤ p → p ≤ L → 0 ≤ a → (a < m 177 18 ∨ a = 13) → 0 ≤ c → c < 3 → m' 183 ((p * 14 + a) * 3 + c).toNat = mWv (m 177) L Mi p (mKo (m 177) a) c % 1000000007) ∧ ∀ q i, q ≠ 183 → m' q i = m q i) := by
          intro x0 hx1 hx2
          unfold R_laysWays_39
          by_cases pl : p = L
          · have hx := hx1 pl
            have hI := mI_01 (mKe (m 177) (mKo (m 177) a))
            unfold FU
            rw [show (1000000 : Nat) = 999999 + 1 from rfl, R_laysWays_42, f177, f17]
            have fin := store x0 (by omega) (by rw [pl, mWv_end, hx])
            by_cases z : 0 < m 177 18
            · rw [if_pos z, if_neg (by omega)]; exact fin
            · rw [if_neg z]; exact fin
          · have hx := hx2 pl
            subst hx
            have hbd : ∀ x : Int, 0 ≤ x → x ≤ m 177 18 → 0 ≤ mSum (fun w => mI (mFc (m 177) Mi p (mKo (m 177) a) b w) * (mWv (m 177) L Mi (p + m 177 (19 + w).toNat) (m 177 (45 + w).toNat) (b - Mi p w) % 1000000007)) x.toNat ∧ mSum (fun w => mI (mFc (m 177) Mi p (mKo (m 177) a) b w) * (mWv (m 177) L Mi (p + m 177 (19 + w).toNat) (m 177 (45 + w).toNat) (b - Mi p w) % 1000000007)) x.toNat ≤ 12 * 1000000007 := by
              intro x x0 x1
              have := mSum_bd (f := fun w => mI (mFc (m 177) Mi p (mKo (m 177) a) b w) * (mWv (m 177) L Mi (p + m 177 (19 + w).toNat) (m 177 (45 + w).toNat) (b - Mi p w) % 1000000007)) (c := 1000000007) (by omega) (n := x.toNat) (fun i i0 i1 => by
                by_cases z : mFc (m 177) Mi p (mKo (m 177) a) b i
                · rw [mI_t z, Int.one_mul]; omega
                · rw [mI_f z, Int.zero_mul]; omega)
              omega
            refine mL2 (fun f x w => R_laysWays_42 (R_laysWays_3 fu) (R_laysWays_7 (R_laysWays_3 fu) p fu2) (R_laysWays_22 (R_laysWays_3 fu) (R_laysWays_7 (R_laysWays_3 fu) p fu2) p a fu3) p a b f x w mm3) (fun x w => 0 ≤ w ∧ w ≤ m 177 18 ∧ x = mSum (fun w => mI (mFc (m 177) Mi p (mKo (m 177) a) b w) * (mWv (m 177) L Mi (p + m 177 (19 + w).toNat) (m 177 (45 + w).toNat) (b - Mi p w) % 1000000007)) w.toNat) (fun _ w => (13 - w).toNat) ?_ 0 0 ⟨by omega, by omega, rfl⟩ (by omega)
            rintro fu4 x w ⟨w0, w1, ex⟩ ih4
            show mOk (R_laysWays_42 (R_laysWays_3 fu) (R_laysWays_7 (R_laysWays_3 fu) p fu2) (R_laysWays_22 (R_laysWays_3 fu) (R_laysWays_7 (R_laysWays_3 fu) p fu2) p a fu3) p a b (fu4 + 1) x w mm3) _
            have bd := hbd w w0 w1
            rw [← ex] at bd
            rw [R_laysWays_42, f177, f17]
            by_cases dw : w < m 177 18
            · have hm := hM p w (by omega) (by omega) w0 dw
              have hl := ht.2.2.2.2.2.1 w w0 dw
              rw [if_pos dw, if_pos (by omega)]
              have nx : ¬ mFc (m 177) Mi p (mKo (m 177) a) b w → mOk (R_laysWays_91 (R_laysWays_3 fu) (R_laysWays_7 (R_laysWays_3 fu) p fu2) (R_laysWays_22 (R_laysWays_3 fu) (R_laysWays_7 (R_laysWays_3 fu) p fu2) p a fu3) (R_laysWays_42 (R_laysWays_3 fu) (R_laysWays_7 (R_laysWays_3 fu) p fu2) (R_laysWays_22 (R_laysWays_3 fu) (R_laysWays_7 (R_laysWays_3 fu) p fu2) p a fu3) p a b fu4) p a b x w mm3) (fun m' => (∀ p a c : Int, 0 ≤ p → p ≤ L → 0 ≤ a → (a < m 177 18 ∨ a = 13) → 0 ≤ c → c < 3 → m' 183 ((p * 14 + a) * 3 + c).toNat = mWv (m 177) L Mi p (mKo (m 177) a) c % 1000000007) ∧ ∀ q i, q ≠ 183 → m' q i = m q i) := by
                intro hno
                unfold R_laysWays_91
                rw [w32e (by omega) (by omega)]
                refine ih4 _ _ ⟨by omega, by omega, ?_⟩ (by omega)
                rw [mSum_s w0, mI_f hno, Int.zero_mul, ex]; omega
              refine mOk_bind (mayBe_ok ht3 a0 (by rw [f177]; exact ha) w0 (by rw [f177]; exact dw)) (fun r kr => ?_)
              rw [f177] at kr
              by_cases z3 : r = 0
              · rw [if_pos z3]
                unfold R_laysWays_63
                rw [if_pos (by omega)]
                exact nx (fun h => (kr.2.mpr h.2.2) z3)
              rw [if_neg z3]
              refine mOk_bind (mistakesAt_ok ht3 w0 (by rw [f177]; exact dw) (by omega) (by omega) (by rw [f17]; exact L1)) (fun off ko => ?_)
              have eMi : mMis (mm3 177) (fun i => mm3 182 i.toNat) (mm3 176 17) w p = Mi p w := by
                rw [← hMi, f177, f17]
                exact mMis_cg (by omega) (fun i _ _ => fr3 _ _ (by omega))
              rw [eMi] at ko
              unfold R_laysWays_63
              by_cases z1 : Mi p w = -1
              · rw [if_pos z1] at ko
                rw [if_pos (by omega)]
                exact nx (fun h => h.1 z1)
              rw [if_neg z1] at ko
              by_cases z2 : b < off
              · rw [if_pos z2]
                exact nx (fun h => by have := h.2.1; omega)
              have hpl := hm.2 z1
              rw [if_neg z2, f177]
              simp (disch := omega) only [w32e, if_pos]
              have hent := hT3 (p + m 177 (19 + w).toNat) w (b - off) (by omega) hpl w0 (Or.inl dw) (by omega) (by omega)
              rw [show ((p + m 177 (19 + w).toNat) * 14 + w) * 3 + (b - off) = ((p + m 177 (19 + w).toNat) * 14 + w) * 3 + b - off by omega] at hent
              have eko : mKo (m 177) w = m 177 (45 + w).toNat := by unfold mKo; rw [if_neg (by omega)]
              rw [hent, eko, ko]
              unfold R_laysWays_91
              have hv : 0 ≤ mWv (m 177) L Mi (p + m 177 (19 + w).toNat) (m 177 (45 + w).toNat) (b - Mi p w) % 1000000007 ∧ mWv (m 177) L Mi (p + m 177 (19 + w).toNat) (m 177 (45 + w).toNat) (b - Mi p w) % 1000000007 < 1000000007 := by omega
              rw [w64e (by omega) (by omega), w32e (by omega) (by omega)]
              refine ih4 _ _ ⟨by omega, by omega, ?_⟩ (by omega)
              rw [mSum_s w0, mI_t ⟨z1, by omega, kr.2.mp z3⟩, Int.one_mul, ex]
            · rw [if_neg dw]
              refine store x bd.1 ?_
              rw [mWv_step ht hM (by omega) (by omega), ex, show w = m 177 18 by omega]
              refine mSum_mod (fun i i0 i1 => ?_)
              by_cases z : mFc (m 177) Mi p (mKo (m 177) a) b i
              · rw [mI_t z, Int.one_mul, Int.one_mul, Int.emod_emod_of_dvd _ (Int.dvd_refl _)]
              · rw [mI_f z, Int.zero_mul, Int.zero_mul]
        unfold R_laysWays_38
        by_cases pl : p = L
        · rw [if_pos pl]
          by_cases a13 : a < 13
          · rw [if_pos a13]
            have hko : mKo (m 177) a = m 177 (45 + a).toNat := by unfold mKo; rw [if_neg (by omega)]
            refine mOk_bind (RmayEnd_ok ht3 a0 (by rw [f177]; omega)) (fun r kr => ?_)
            rw [f177, ← hko] at kr
            by_cases z : r = 0
            · rw [if_pos z]
              exact sum 0 (fun _ => by rw [mI_f (fun h => (kr.2.mpr h) z)]) (fun _ => rfl)
            · rw [if_neg z]
              exact sum 1 (fun _ => by rw [mI_t (kr.2.mp z)]) (fun h => absurd pl h)
          · rw [if_neg a13]
            have hko : mKo (m 177) a = 4 := by unfold mKo; rw [if_pos (by omega)]
            exact sum 0 (fun _ => by rw [mI_f (fun h => h.1 hko)]) (fun _ => rfl)
        · rw [if_neg pl]
          exact sum 0 (fun h => absurd h pl) (fun _ => rfl)
      · rw [if_neg g]
        unfold R_laysWays_110
        rw [w32e (by omega) (by omega)]
        exact ih2 _ _ ⟨by omega, by omega, fun q a c x y z u v w => hT3 q a c (by omega) y z u v w, fr3⟩ (by omega)
    by_cases a13 : a < 13
    · rw [if_pos a13]
      by_cases an : a < m 177 18
      · rw [if_pos an]; exact one (Or.inl an)
      · rw [if_neg an]
        unfold R_laysWays_110
        rw [w32e (by omega) (by omega)]
        exact ih2 _ _ ⟨by omega, by omega, fun q a c x y z u v w => hT2 q a c (by omega) y z u v w, fr2⟩ (by omega)
    · rw [if_neg a13]; exact one (Or.inr (by omega))
  · rw [if_neg e, w32e (by omega) (by omega)]
    exact ih _ _ ⟨by omega, by omega, fun q a c x y z u v w => hT2 q a c (by omega) y z u v w, fr2⟩ (by omega)
/-- the same number, whatever is beyond the line's end -/
theorem mWv_cg {A : Nat → Int} {L : Int} {Mi Mi' : Int → Int → Int} (ht : mTok A) (hM : mMok A L Mi) (hM' : mMok A L Mi') (h : ∀ p w : Int, 0 ≤ p → p < L → 0 ≤ w → w < A 18 → Mi p w = Mi' p w) : ∀ (d : Nat) (p kd b : Int), 0 ≤ p → p ≤ L → (L - p).toNat ≤ d → mWv A L Mi p kd b = mWv A L Mi' p kd b := by
  intro d
  induction d with
  | zero =>
    intro p kd b p0 p1 hd
    rw [show p = L by omega, mWv_end, mWv_end]
  | succ d ih =>
    intro p kd b p0 p1 hd
    by_cases c : p = L
    · rw [c, mWv_end, mWv_end]
    · rw [mWv_step ht hM p0 (by omega), mWv_step ht hM' p0 (by omega)]
      refine mSum_congr (fun w w0 w1 => ?_)
      have e := h p w p0 (by omega) w0 (by omega)
      have ec : mFc A Mi p kd b w ↔ mFc A Mi' p kd b w := by unfold mFc; rw [e]
      by_cases z : mFc A Mi p kd b w
      · have hl := (ht.2.2.2.2.2.1 w w0 (by omega)).1
        have hm := (hM p w p0 (by omega) w0 (by omega)).2 z.1
        rw [mI_t z, mI_t (ec.mp z), e, ih _ _ _ (by omega) (by omega) (by omega)]
      · rw [mI_f z, mI_f (fun hh => z (ec.mpr hh)), Int.zero_mul, Int.zero_mul]
theorem st_cuts {n : Nat} {m : aM} (h : mInv n m) (x1 : Int) : ∃ r m1 m2, B_cuts x1 m = some (r, m1) ∧ R_cuts x1 m1 = some (r, m2) ∧ mInv (n + 1) m2 := by
  have hi := mInv_0 h
  by_cases c : 0 ≤ x1 ∧ x1 ≤ 2
  · have htk := h.2.2.1
    have hr := h.2.2.2.1
    have c12 := htk.2.2.2.2.2.2.2.2.2.2.2.2.1
    have b6 := hr.2.2.2.2.2.2.1
    have b7 := hr.2.2.2.2.2.2.2
    obtain ⟨mA, kA, a9, aL, aM, frA⟩ := lay_ok (t := 67) (x1 := 47) htk hr (Or.inr rfl) (Or.inl rfl) (by rw [b6]; omega) (by rw [b6]; omega)
    rw [b6] at aL aM
    have hrA : mTR 25 47 (m 177) mA := mTR_same (fun q i hq => frA q i (by omega) (by omega)) hr htk.2.2.2.2.1.2
    have hok1 : mMok (m 177) (m 177 155) (mRl (m 177) (m 177 155) (fun i => m (47 + 1) i.toNat)) := mRl_ok htk
    obtain ⟨⟨r, m1⟩, k1, p1, p2⟩ := countWays_ok (t := 67) (L := m 177 155) (Mi := mRl (m 177) (m 177 155) (fun i => m (47 + 1) i.toNat)) (bm := x1) htk hrA (Or.inr rfl) hok1 ⟨aL, aM⟩ (by omega) (by omega) c.1 c.2
    dsimp only at p1 p2
    have fr1 : ∀ q i, ¬(q = 67 ∧ (i = 1 ∨ i = 9)) → q ≠ 68 → q ≠ 70 → m1 q i = m q i := fun q i a b d => by rw [p2 q i (by omega)]; exact frA q i a (by omega)
    have hs : mSame m (aup m1 176 0 0) := by
      intro q i hd
      unfold mDep at hd
      rw [aup_of (by omega), fr1 _ _ (by omega) (by omega) (by omega)]
    have hi2 := mInv_same (Nat.le_succ n) hs h
    have f177 : aup m1 176 0 0 177 = m 177 := funext fun i => hs 177 i (by unfold mDep; omega)
    obtain ⟨m2, k2, q1, q2, q3⟩ := looks_ok (m := aup m1 176 0 0) (by rw [f177]; omega) (by rw [f177]; omega)
    rw [f177] at q1 q2
    have g177 : m2 177 = m 177 := by rw [← f177]; exact funext fun i => q3 _ _ (by omega) (by omega)
    obtain ⟨m3, k3, u1, u2⟩ := laysWays_ok (m := m2) (by rw [g177]; exact htk) (by rw [q1]; omega) (by rw [q1]; omega)
    rw [q1, g177] at u1
    have ans := u1 0 13 x1 (by omega) (by omega) (by omega) (Or.inr rfl) c.1 (by omega)
    have eko : mKo (m 177) 13 = 4 := by unfold mKo; rw [if_pos rfl]
    rw [eko] at ans
    have hok2 : mMok (m 177) (m 177 155) (mRl (m 177) (m 177 155) (fun i => m2 182 i.toNat)) := mRl_ok htk
    have eqW := mWv_cg htk hok1 hok2 (fun p w p0 p1 w0 w1 => mMis_cg p0 (fun i i0 i1 => by
      rw [q2 i i0 i1]
      exact b7 i i0 i1)) (m 177 155).toNat 0 4 x1 (by omega) (by omega) (by omega)
    refine ⟨r, m1, m3, ?_, ?_, ?_⟩
    · unfold B_cuts
      rw [if_neg (by omega), if_neg (by omega), kA]
      simp only [Option.bind_some, k1]
    · unfold R_cuts
      rw [st1e, within_eq]
      simp (disch := omega) only [Option.bind_some, reduceIte, if_pos, if_neg, k2, k3, w32e]
      rw [show ((0 : Int) * 14 + 13) * 3 + x1 = 39 + x1 by omega] at ans
      rw [ans, p1, ← eqW, w32e (by omega) (by omega)]
    · refine mInv_same (Nat.le_refl _) (fun q i hd => ?_) hi2
      unfold mDep at hd
      rw [u2 _ _ (by omega), q3 _ _ (by omega) (by omega)]
  · refine ⟨-3, m, aup m 176 0 0, ?_, ?_, hi⟩
    · unfold B_cuts
      by_cases d : x1 < 0
      · rw [if_pos d]
      · rw [if_neg d, if_pos (by omega)]
    · unfold R_cuts
      simp (disch := omega) only [st1e, within_eq, Option.bind_some, reduceIte, if_pos, if_neg]
