/-! THE REFERENCE'S TABLES OF THE BEST -/
def mRk (A : Nat → Int) (L : Int) (Mi : Int → Int → Int) (m : aM) : Prop := m 177 = A ∧ m 176 17 = L ∧ ∀ p w : Int, 0 ≤ p → p < L → 0 ≤ w → w < A 18 → mMis A (fun i => m 182 i.toNat) L w p = Mi p w
theorem mRk_same {A : Nat → Int} {L : Int} {Mi : Int → Int → Int} {m m' : aM} (h : mRk A L Mi m) (e : ∀ q i, q = 177 ∨ q = 182 ∨ (q = 176 ∧ i = 17) → m' q i = m q i) : mRk A L Mi m' := by
  obtain ⟨h1, h2, h3⟩ := h
  refine ⟨(funext fun i => e _ _ (by omega)).trans h1, (e _ _ (by omega)).trans h2, fun p w a b c d => ?_⟩
  rw [show (fun i : Int => m' 182 i.toNat) = fun i : Int => m 182 i.toNat from funext fun i => e _ _ (by omega)]
  exact h3 p w a b c d
theorem offBy_ok {A : Nat → Int} {L pi x4 a w p : Int} {Mi : Int → Int → Int} {m : aM} (ht : mTok A) (hk : mRk A L Mi m) (hM : mMok A L Mi) (L1 : L ≤ 40) (hpi : (pi = 2 ∧ x4 = 0) ∨ (pi = 3 ∧ x4 = 1)) (a0 : 0 ≤ a) (ha : a < A 18 ∨ a = 13) (p0 : 0 ≤ p) (p1 : p < L) (w0 : 0 ≤ w) (w1 : w < A 18) : mOk (R_offBy a w p x4 m) (fun r => (mPf A Mi pi p (mKo A a) w ∧ r = Mi p w ∧ 0 ≤ r ∧ r ≤ 6) ∨ (¬ mPf A Mi pi p (mKo A a) w ∧ r = 1000)) := by
  obtain ⟨h1, h2, h3⟩ := hk
  have hm := hM p w p0 p1 w0 w1
  have ht' : mTok (m 177) := by rw [h1]; exact ht
  unfold R_offBy
  refine mOk_bind (mayBe_ok (m := m) ht' a0 (by rw [h1]; exact ha) w0 (by rw [h1]; exact w1)) (fun r kr => ?_)
  rw [h1] at kr
  have far : ∀ s : Int, s = 1000 → mOk (R_offBy_11 m x4 s) (fun r => r = 1000) := by
    intro s hs
    unfold R_offBy_11
    by_cases z : x4 = 0
    · rw [if_pos z, if_pos (by omega)]; exact mOk_some rfl
    · rw [if_neg z]; exact mOk_some hs
  by_cases z : r = 0
  · rw [if_pos z]
    exact mOk_mono (far _ rfl) (fun r h => Or.inr ⟨fun hh => (kr.2.mpr hh.2) z, h⟩)
  rw [if_neg z]
  have ks := kr.2.mp z
  refine mOk_bind (mistakesAt_ok ht' w0 (by rw [h1]; exact w1) p0 (by omega) (by rw [h2]; exact L1)) (fun off ko => ?_)
  rw [h1, h2, h3 p w p0 p1 w0 w1] at ko
  unfold mPf
  by_cases z1 : Mi p w = -1
  · rw [if_pos z1] at ko
    refine mOk_mono (far _ ko) (fun r h => Or.inr ⟨fun hh => ?_, h⟩)
    have := hh.1
    by_cases q : pi = 3
    · rw [if_pos q] at this; exact this z1
    · rw [if_neg q] at this; omega
  rw [if_neg z1] at ko
  unfold R_offBy_11
  rcases hpi with ⟨q, q4⟩ | ⟨q, q4⟩
  · rw [if_pos q4, if_neg (show ¬ pi = 3 by omega)]
    by_cases g : 0 < off
    · rw [if_pos g]
      exact mOk_some (Or.inr ⟨fun hh => by have := hh.1; omega, rfl⟩)
    · rw [if_neg g]
      exact mOk_some (Or.inl ⟨⟨by omega, ks⟩, ko, by omega, by omega⟩)
  · rw [if_neg (show ¬ x4 = 0 by omega), if_pos q]
    exact mOk_some (Or.inl ⟨⟨z1, ks⟩, ko, by omega, by omega⟩)
def mRep (d P F U : Int) : Prop := (P = 268435456 ∧ F = 1000 ∧ U = 0) ∨ (P ≠ 268435456 ∧ P = F * 10000 - U ∧ 0 ≤ F ∧ F ≤ 6 * d ∧ 0 ≤ U ∧ U ≤ 99 * d)
theorem laysBest_ok {A : Nat → Int} {L pi x1 : Int} {Mi : Int → Int → Int} {m : aM} {Q : aM → Prop} (ht : mTok A) (hk : mRk A L Mi m) (hM : mMok A L Mi) (L0 : 0 ≤ L) (L1 : L ≤ 40) (hpi : (pi = 2 ∧ x1 = 0) ∨ (pi = 3 ∧ x1 = 1))
    (fin : ∀ m' : aM, (∀ p a : Int, 0 ≤ p → p ≤ L → 0 ≤ a → (a < A 18 ∨ a = 13) → mRep (L - p) (mPv A L Mi pi p (mKo A a)) (m' 184 (p * 14 + a).toNat) (m' 185 (p * 14 + a).toNat)) → (∀ q i, q ≠ 184 → q ≠ 185 → m' q i = m q i) → Q m') : mOk (R_laysBest x1 m) Q := by
  have c4 := ht.2.2.2.2.1
  have hL : m 176 17 = L := hk.2.1
  have keep : ∀ mm : aM, (∀ q i, q ≠ 184 → q ≠ 185 → mm q i = m q i) → mRk A L Mi mm := fun mm fr => mRk_same hk (fun q i hq => fr q i (by omega) (by omega))
  unfold R_laysBest
  rw [hL]
  refine mL2 (R_laysBest_3 x1) (fun p mm => -1 ≤ p ∧ p ≤ L ∧ (∀ q a : Int, p < q → q ≤ L → 0 ≤ a → (a < A 18 ∨ a = 13) → mRep (L - q) (mPv A L Mi pi q (mKo A a)) (mm 184 (q * 14 + a).toNat) (mm 185 (q * 14 + a).toNat)) ∧ ∀ q i, q ≠ 184 → q ≠ 185 → mm q i = m q i) (fun p _ => (p + 1).toNat) ?_ L m ⟨by omega, by omega, fun q a x y => by omega, fun _ _ _ _ => rfl⟩ (by omega)
  rintro fu p mm ⟨p0, p1, hT, fr⟩ ih
  rw [R_laysBest_3]
  by_cases d : p < 0
  · rw [if_pos d]
    exact mOk_some (fin mm (fun q a x y z u => hT q a (by omega) y z u) fr)
  rw [if_neg d]
  refine mL2 (R_laysBest_7 (R_laysBest_3 x1 fu) x1 p) (fun a' mm => 0 ≤ a' ∧ a' ≤ 14 ∧ (∀ q a : Int, (p < q ∨ (p = q ∧ a < a')) → q ≤ L → 0 ≤ a → (a < A 18 ∨ a = 13) → mRep (L - q) (mPv A L Mi pi q (mKo A a)) (mm 184 (q * 14 + a).toNat) (mm 185 (q * 14 + a).toNat)) ∧ ∀ q i, q ≠ 184 → q ≠ 185 → mm q i = m q i) (fun a' _ => (15 - a').toNat) ?_ 0 mm ⟨by omega, by omega, fun q a x y z u => hT q a (by omega) y z u, fr⟩ (by omega)
  rintro fu2 a mm2 ⟨a0, a1, hT2, fr2⟩ ih2
  have hk2 := keep mm2 fr2
  rw [R_laysBest_7, hk2.1]
  by_cases e : a < 14
  rotate_left
  · rw [if_neg e, w32e (by omega) (by omega)]
    exact ih _ _ ⟨by omega, by omega, fun q a x y z u => hT2 q a (by omega) y z u, fr2⟩ (by omega)
  rw [if_pos e]
  have one : (a < A 18 ∨ a = 13) → mOk (R_laysBest_20 (R_laysBest_3 x1 fu) (R_laysBest_7 (R_laysBest_3 x1 fu) x1 p fu2) x1 p a mm2) Q := by
    intro ha
    have kin := mKo_in ht a0 ha
    -- the row is filled
    have body : ∀ s0 : Int, (p = L → mRep 0 (mPv A L Mi pi p (mKo A a)) s0 0) → (p ≠ L → s0 = 1000) → mOk (R_laysBest_43 (R_laysBest_3 x1 fu) (R_laysBest_7 (R_laysBest_3 x1 fu) x1 p fu2) x1 p a (p * 14 + a) s0 (p * 14 + a) mm2) Q := by
      intro s0 hs1 hs2
      unfold R_laysBest_43
      simp (disch := omega) only [if_pos, st1e]
      generalize hm3 : aup (aup mm2 184 (p * 14 + a).toNat s0) 185 (p * 14 + a).toNat 0 = mm3
      have e1 : mm3 184 (p * 14 + a).toNat = s0 := by rw [← hm3, aup_of (by omega), aup_self]
      have e2 : mm3 185 (p * 14 + a).toNat = 0 := by rw [← hm3, aup_self]
      have fr3 : ∀ q i, ¬(q = 184 ∧ i = (p * 14 + a).toNat) → ¬(q = 185 ∧ i = (p * 14 + a).toNat) → mm3 q i = mm2 q i := fun q i x y => by rw [← hm3, aup_of (by omega), aup_of (by omega)]
      clear hm3
      -- the loop over the words
      have done : ∀ mm4 : aM, mRep (L - p) (mPv A L Mi pi p (mKo A a)) (mm4 184 (p * 14 + a).toNat) (mm4 185 (p * 14 + a).toNat) → (∀ q i, ¬(q = 184 ∧ i = (p * 14 + a).toNat) → ¬(q = 185 ∧ i = (p * 14 + a).toNat) → mm4 q i = mm2 q i) → mOk (R_laysBest_141 (R_laysBest_3 x1 fu) (R_laysBest_7 (R_laysBest_3 x1 fu) x1 p fu2) x1 p a mm4) Q := by
        intro mm4 hrep fr4
        unfold R_laysBest_141
        rw [w32e (by omega) (by omega)]
        refine ih2 _ _ ⟨by omega, by omega, fun q a' x y z u => ?_, fun q i x y => (fr4 q i (by omega) (by omega)).trans (fr2 q i x y)⟩ (by omega)
        by_cases eq : q = p ∧ a' = a
        · rw [eq.1, eq.2]; exact hrep
        · rw [fr4 _ _ (by omega) (by omega), fr4 _ _ (by omega) (by omega)]
          exact hT2 q a' (by omega) y z u
      refine mL2 (R_laysBest_51 (R_laysBest_3 x1 fu) (R_laysBest_7 (R_laysBest_3 x1 fu) x1 p fu2) x1 p a (p * 14 + a)) (fun w mm => 0 ≤ w ∧ w ≤ A 18 ∧ (p = L → mRep (L - p) (mPv A L Mi pi p (mKo A a)) (mm 184 (p * 14 + a).toNat) (mm 185 (p * 14 + a).toNat)) ∧ (p ≠ L → mRep (L - p) (mMn (mTh A L Mi pi p (mKo A a)) w.toNat) (mm 184 (p * 14 + a).toNat) (mm 185 (p * 14 + a).toNat)) ∧ ∀ q i, ¬(q = 184 ∧ i = (p * 14 + a).toNat) → ¬(q = 185 ∧ i = (p * 14 + a).toNat) → mm q i = mm2 q i) (fun w _ => (13 - w).toNat) ?_ 0 mm3 ⟨by omega, by omega, fun h => by rw [e1, e2, show L - p = 0 by omega]; exact hs1 h, fun h => by rw [e1, e2]; exact Or.inl ⟨rfl, hs2 h, rfl⟩, fr3⟩ (by omega)
      rintro fu4 w mm4 ⟨w0, w1, i1, i2, fr4⟩ ih4
      have hk4 := keep mm4 (fun q i x y => (fr4 q i (by omega) (by omega)).trans (fr2 q i x y))
      rw [R_laysBest_51, hk4.1, hk4.2.1]
      by_cases dw : w < A 18
      rotate_left
      · rw [if_neg dw]
        refine done mm4 ?_ fr4
        by_cases pl : p = L
        · exact i1 pl
        · have := i2 pl
          rw [show w = A 18 by omega, ← mPv_step ht hM (by omega) (by omega)] at this
          exact this
      rw [if_pos dw]
      by_cases pl : p = L
      · rw [if_neg (by omega)]
        exact done mm4 (i1 pl) fr4
      rw [if_pos (by omega)]
      have hl := ht.2.2.2.2.2.1 w w0 dw
      have hcur := i2 pl
      have hm := hM p w (by omega) (by omega) w0 dw
      have nx : mRep (L - p) (mMin (mMn (mTh A L Mi pi p (mKo A a)) w.toNat) (mTh A L Mi pi p (mKo A a) w)) (mm4 184 (p * 14 + a).toNat) (mm4 185 (p * 14 + a).toNat) → mOk (R_laysBest_139 (R_laysBest_3 x1 fu) (R_laysBest_7 (R_laysBest_3 x1 fu) x1 p fu2) (R_laysBest_51 (R_laysBest_3 x1 fu) (R_laysBest_7 (R_laysBest_3 x1 fu) x1 p fu2) x1 p a (p * 14 + a) fu4) x1 p a (p * 14 + a) w mm4) Q := by
        intro hh
        unfold R_laysBest_139
        rw [w32e (by omega) (by omega)]
        exact ih4 _ _ ⟨by omega, by omega, fun h => absurd h pl, fun _ => by rw [mMn_s w0]; exact hh, fr4⟩ (by omega)
      have put : ∀ f u : Int, mRep (L - p) (mMin (mMn (mTh A L Mi pi p (mKo A a)) w.toNat) (mTh A L Mi pi p (mKo A a) w)) f u → mOk (R_laysBest_129 (R_laysBest_3 x1 fu) (R_laysBest_7 (R_laysBest_3 x1 fu) x1 p fu2) (R_laysBest_51 (R_laysBest_3 x1 fu) (R_laysBest_7 (R_laysBest_3 x1 fu) x1 p fu2) x1 p a (p * 14 + a) fu4) x1 p a (p * 14 + a) w f u mm4) Q := by
        intro f u hh
        unfold R_laysBest_129 R_laysBest_139
        simp (disch := omega) only [if_pos, st1e]
        rw [w32e (x := w + 1) (by omega) (by omega)]
        refine ih4 _ _ ⟨by omega, by omega, fun h => absurd h pl, fun _ => ?_, fun q i x y => by rw [aup_of (by omega), aup_of (by omega)]; exact fr4 q i x y⟩ (by omega)
        rw [mMn_s w0, aup_self, aup_of (by omega), aup_self]; exact hh
      have hin0 : ∀ x : Int, mTh A L Mi pi p (mKo A a) w = x → x = 268435456 ∨ True := fun _ _ => Or.inr trivial
      have mle := mMin_le (mMn (mTh A L Mi pi p (mKo A a)) w.toNat) (mTh A L Mi pi p (mKo A a) w)
      have mno : mTh A L Mi pi p (mKo A a) w = 268435456 → mMin (mMn (mTh A L Mi pi p (mKo A a)) w.toNat) (mTh A L Mi pi p (mKo A a) w) = mMn (mTh A L Mi pi p (mKo A a)) w.toNat := by
        intro h
        have b := (mMn_le (f := mTh A L Mi pi p (mKo A a)) (n := w.toNat)).1
        rw [h] at mle ⊢
        omega
      refine mOk_bind (offBy_ok (m := mm4) ht hk4 hM L1 hpi a0 ha (by omega) (by omega) w0 dw) (fun off ko => ?_)
      simp (disch := omega) only [w32e, if_pos]
      rcases ko with ⟨k1, k2, k3, k4⟩ | ⟨k1, k2⟩
      rotate_left
      · rw [if_neg (by omega)]
        refine nx ?_
        rw [mno (by unfold mTh mPt1; rw [if_neg (fun h => k1 h.1)])]
        exact hcur
      rw [if_pos (by omega)]
      have hin := mPf_in ht hM (by omega) (by omega) w0 dw k1
      have hent := hT2 (p + A (19 + w).toNat) w (by omega) hin.2.1 w0 (Or.inl dw)
      have eko : mKo A w = A (45 + w).toNat := by unfold mKo; rw [if_neg (by omega)]
      rw [eko] at hent
      have f1 : mm4 184 ((p + A (19 + w).toNat) * 14 + w).toNat = mm2 184 ((p + A (19 + w).toNat) * 14 + w).toNat := fr4 _ _ (by omega) (by omega)
      have f2 : mm4 185 ((p + A (19 + w).toNat) * 14 + w).toNat = mm2 185 ((p + A (19 + w).toNat) * 14 + w).toNat := fr4 _ _ (by omega) (by omega)
      rw [f1, f2]
      generalize mm2 184 ((p + A (19 + w).toNat) * 14 + w).toNat = F at *
      generalize mm2 185 ((p + A (19 + w).toNat) * 14 + w).toNat = U at *
      rcases hent with ⟨r1, r2, r3⟩ | ⟨r1, r2, r3, r4, r5, r6⟩
      · rw [if_neg (by omega)]
        refine nx ?_
        rw [mno (by unfold mTh mPt1; rw [if_neg (fun h => h.2 r1)])]
        exact hcur
      rw [if_pos (by omega)]
      have eth : mTh A L Mi pi p (mKo A a) w = F * 10000 - U + (off * 10000 - A (32 + w).toNat) := by
        unfold mTh mPt1 mPc
        rw [if_pos ⟨k1, r1⟩, if_pos (by omega), r2, k2]
      generalize mTh A L Mi pi p (mKo A a) w = T at *
      generalize mMn (mTh A L Mi pi p (mKo A a)) w.toNat = G at *
      generalize hcF : mm4 184 (p * 14 + a).toNat = F0 at *
      generalize hcU : mm4 185 (p * 14 + a).toNat = U0 at *
      rw [w32e (x := off + F) (by omega) (by omega), w32e (x := A (32 + w).toNat + U) (by omega) (by omega)]
      have cur : (G = 268435456 ∧ F0 = 1000 ∧ U0 = 0) ∨ (G ≠ 268435456 ∧ G = F0 * 10000 - U0 ∧ 0 ≤ F0 ∧ F0 ≤ 6 * (L - p) ∧ 0 ≤ U0 ∧ U0 ≤ 99 * (L - p)) := hcur
      by_cases g1 : F0 < off + F
      · rw [if_pos g1]
        refine nx ?_
        rw [show mMin G T = G by rcases mle.2.2 with q | q <;> omega]
        exact cur
      rw [if_neg g1]
      by_cases g2 : off + F = F0
      · rw [if_pos g2]
        by_cases g3 : U0 < A (32 + w).toNat + U
        · rw [if_pos g3]
          refine put _ _ ?_
          rw [show mMin G T = T by rcases mle.2.2 with q | q <;> omega]
          right; omega
        · rw [if_neg g3]
          refine nx ?_
          rw [show mMin G T = G by rcases mle.2.2 with q | q <;> omega]
          exact cur
      · rw [if_neg g2]
        refine put _ _ ?_
        rw [show mMin G T = T by rcases mle.2.2 with q | q <;> omega]
        right; omega
    unfold R_laysBest_20 R_laysBest_42
    rw [hk2.2.1, w32e (x := p * 14) (by omega) (by omega), w32e (x := p * 14 + a) (by omega) (by omega)]
    by_cases pl : p = L
    · rw [if_pos pl]
      by_cases a13 : a < 13
      · rw [if_pos a13]
        have hko : mKo A a = A (45 + a).toNat := by unfold mKo; rw [if_neg (by omega)]
        refine mOk_bind (RmayEnd_ok (m := mm2) (by rw [hk2.1]; exact ht) a0 (by rw [hk2.1]; omega)) (fun r kr => ?_)
        rw [hk2.1, ← hko] at kr
        by_cases z : r = 0
        · rw [if_pos z]
          refine body 1000 (fun _ => ?_) (fun _ => rfl)
          rw [pl, mPv_end, if_neg (fun h => (kr.2.mpr h) z)]
          exact Or.inl ⟨rfl, rfl, rfl⟩
        · rw [if_neg z]
          refine body 0 (fun _ => ?_) (fun h => absurd pl h)
          rw [pl, mPv_end, if_pos (kr.2.mp z)]
          right; omega
      · rw [if_neg a13]
        refine body 1000 (fun _ => ?_) (fun _ => rfl)
        have hko : mKo A a = 4 := by unfold mKo; rw [if_pos (by omega)]
        rw [pl, mPv_end, if_neg (fun h => h.1 hko)]
        exact Or.inl ⟨rfl, rfl, rfl⟩
    · rw [if_neg pl]
      exact body 1000 (fun h => absurd h pl) (fun _ => rfl)
  by_cases a13 : a < 13
  · rw [if_pos a13]
    by_cases an : a < A 18
    · rw [if_pos an]; exact one (Or.inl an)
    · rw [if_neg an]
      unfold R_laysBest_141
      rw [w32e (by omega) (by omega)]
      exact ih2 _ _ ⟨by omega, by omega, fun q a x y z u => hT2 q a (by omega) y z u, fr2⟩ (by omega)
  · rw [if_neg a13]; exact one (Or.inr (by omega))
