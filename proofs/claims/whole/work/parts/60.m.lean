/-- sentences of c + 1 words begun with w -/
def mSw (A : Nat → Int) (c : Nat) (w t : Int) : Prop := ∃ kd, mCh A c w kd t ∧ mKe A kd
theorem mostSounds_ok {n : Int} {m : aM} (ht : mTok (m 177)) (n0 : 1 ≤ n) (n1 : n ≤ 13) : mOk (R_mostSounds n m) (fun r => mX (mSe (m 177) (n.toNat - 1)) r.1 ∧ ∀ q i, q ≠ 202 → q ≠ 203 → r.2 q i = m q i) := by
  have c4 := ht.2.2.2.2.1
  have c5 := ht.2.2.2.2.2.1
  have bnd : ∀ (c : Nat) (w v : Int), c ≤ 13 → mX (mSw (m 177) c w) v → 0 ≤ v ∧ v ≤ 84 := by
    intro c w v hc h
    rcases h with ⟨h1, -⟩ | ⟨h1, ⟨kd, h2, -⟩, -⟩
    · omega
    · have := mCh_bd ht h2; omega
  unfold R_mostSounds
  refine mL2 (R_mostSounds_2 n) (fun k mm => 0 ≤ k ∧ k ≤ n ∧ (1 ≤ k → ∀ w : Int, 0 ≤ w → w < m 177 18 → mX (mSw (m 177) (k.toNat - 1) w) (mm 202 w.toNat)) ∧ ∀ q i, q ≠ 202 → q ≠ 203 → mm q i = m q i) (fun k _ => (14 - k).toNat) ?_ 0 m ⟨by omega, by omega, fun h => by omega, fun _ _ _ _ => rfl⟩ (by omega)
  rintro fu k mm ⟨k0, k1, s1, fr⟩ ih
  rw [R_mostSounds_2]
  by_cases d : k < n
  · rw [if_pos d]
    refine mL2 (R_mostSounds_7 (R_mostSounds_2 n fu) n k) (fun w mm => 0 ≤ w ∧ w ≤ m 177 18 ∧ (1 ≤ k → ∀ u : Int, 0 ≤ u → u < m 177 18 → mX (mSw (m 177) (k.toNat - 1) u) (mm 202 u.toNat)) ∧ (∀ u : Int, 0 ≤ u → u < w → mX (mSw (m 177) k.toNat u) (mm 203 u.toNat)) ∧ ∀ q i, q ≠ 202 → q ≠ 203 → mm q i = m q i) (fun w _ => (13 - w).toNat) ?_ 0 mm ⟨by omega, by omega, s1, fun u a b => by omega, fr⟩ (by omega)
    rintro fu2 w mm2 ⟨w0, w1, t1, t2, fr2⟩ ih2
    have e177 : mm2 177 = m 177 := funext fun i => fr2 _ _ (by omega) (by omega)
    have ht2 : mTok (mm2 177) := by rw [e177]; exact ht
    rw [R_mostSounds_7, e177]
    by_cases e : w < m 177 18
    · rw [if_pos e]
      have fl := c5 w w0 e
      -- the words that may stand behind w
      have go : ∀ v0 : Int, mX (fun t => k = 0 ∧ mSw (m 177) 0 w t) v0 → mOk (R_mostSounds_30 (R_mostSounds_2 n fu) (R_mostSounds_7 (R_mostSounds_2 n fu) n k fu2) n k w v0 w mm2) (fun r => mX (mSe (m 177) (n.toNat - 1)) r.1 ∧ ∀ q i, q ≠ 202 → q ≠ 203 → r.2 q i = m q i) := by
        intro v0 hv0
        unfold R_mostSounds_30
        rw [if_pos (by omega)]
        refine mOk_st1 ?_
        refine mL2 (R_mostSounds_33 (R_mostSounds_2 n fu) (R_mostSounds_7 (R_mostSounds_2 n fu) n k fu2) n k w) (fun v mm => 0 ≤ v ∧ v ≤ m 177 18 ∧ (k = 0 → mX (fun t => mSw (m 177) 0 w t) (mm 203 w.toNat)) ∧ (1 ≤ k → mX (fun t => ∃ u : Int, 0 ≤ u ∧ u < v ∧ mKs (m 177) (m 177 (45 + w).toNat) u ∧ 0 < mm 202 u.toNat ∧ t = m 177 (19 + w).toNat + mm 202 u.toNat) (mm 203 w.toNat)) ∧ (1 ≤ k → ∀ u : Int, 0 ≤ u → u < m 177 18 → mX (mSw (m 177) (k.toNat - 1) u) (mm 202 u.toNat)) ∧ (∀ u : Int, 0 ≤ u → u < w → mX (mSw (m 177) k.toNat u) (mm 203 u.toNat)) ∧ ∀ q i, q ≠ 202 → q ≠ 203 → mm q i = m q i) (fun v _ => (14 - v).toNat) ?_ 0 _ ⟨by omega, by omega, fun hk => ?_, fun hk => ?_, fun hk u a b => ?_, fun u a b => ?_, fun q i a b => ?_⟩ (by omega)
        rotate_left
        · rw [aup_self]; exact mX_congr (fun t => ⟨fun h => h.2, fun h => ⟨hk, h⟩⟩) hv0
        · rw [aup_self]
          rcases hv0 with ⟨q1, -⟩ | ⟨-, q2, -⟩
          · exact Or.inl ⟨q1, fun t ⟨u, a, b, _⟩ => by omega⟩
          · have := q2.1; omega
        · rw [aup_of (by omega)]; exact t1 hk u a b
        · rw [aup_of (by omega)]; exact t2 u a b
        · rw [aup_of (by omega)]; exact fr2 q i a b
        rintro fu3 v mm3 ⟨v0', v1, u0, u1, u2, u3, fr3⟩ ih3
        have f177 : mm3 177 = m 177 := funext fun i => fr3 _ _ (by omega) (by omega)
        have ht3 : mTok (mm3 177) := by rw [f177]; exact ht
        have fin : (k = 0 ∨ v = m 177 18) → mOk (R_mostSounds_84 (R_mostSounds_2 n fu) (R_mostSounds_7 (R_mostSounds_2 n fu) n k fu2) n k w mm3) (fun r => mX (mSe (m 177) (n.toNat - 1)) r.1 ∧ ∀ q i, q ≠ 202 → q ≠ 203 → r.2 q i = m q i) := by
          intro hfin
          unfold R_mostSounds_84
          rw [w32e (by omega) (by omega)]
          refine ih2 _ _ ⟨by omega, by omega, u2, fun u a b => ?_, fr3⟩ (by omega)
          by_cases eu : u = w
          · subst eu
            by_cases k00 : k = 0
            · rw [show k.toNat = 0 by omega]
              exact u0 k00
            · have ev : v = m 177 18 := by omega
              subst ev
              have hu := u1 (by omega)
              have ek : k.toNat = (k.toNat - 1) + 1 := by omega
              have dom : ∀ t, mSw (m 177) k.toNat u t → ∃ x : Int, 0 ≤ x ∧ x < m 177 18 ∧ mKs (m 177) (m 177 (45 + u).toNat) x ∧ 0 < mm3 202 x.toNat ∧ t ≤ m 177 (19 + u).toNat + mm3 202 x.toNat := by
                rintro t ⟨kd, hc, he⟩
                rw [ek] at hc
                obtain ⟨h1, x, t', h2, h3, h4⟩ := hc
                have hx : mIw (m 177) x := by
                  cases hq : k.toNat - 1 with
                  | zero => rw [hq] at h3; exact h3.1
                  | succ z => rw [hq] at h3; exact h3.1
                refine ⟨x, hx.1, hx.2, h2, ?_⟩
                rcases u2 (by omega) x hx.1 hx.2 with ⟨-, q2⟩ | ⟨q1, -, q3⟩
                · exact absurd ⟨kd, h3, he⟩ (q2 t')
                · have := q3 t' ⟨kd, h3, he⟩
                  exact ⟨q1, by omega⟩
              rcases hu with ⟨r1, r2⟩ | ⟨r1, ⟨x, x0, x1, x2, x3, x4⟩, r3⟩
              · refine Or.inl ⟨r1, fun t htt => ?_⟩
                obtain ⟨x, x0, x1, x2, x3, x4⟩ := dom t htt
                exact r2 _ ⟨x, x0, x1, x2, x3, rfl⟩
              · refine Or.inr ⟨r1, ?_, fun t htt => ?_⟩
                · rcases u2 (by omega) x x0 x1 with ⟨q1, -⟩ | ⟨-, ⟨kd, q2, q3⟩, -⟩
                  · omega
                  · refine ⟨kd, ?_, q3⟩
                    rw [ek, x4]
                    exact ⟨⟨w0, e⟩, x, _, x2, q2, rfl⟩
                · obtain ⟨y, y0, y1, y2, y3, y4⟩ := dom t htt
                  have := r3 _ ⟨y, y0, y1, y2, y3, rfl⟩
                  omega
          · exact u3 u a (by omega)
        rw [R_mostSounds_33, f177]
        by_cases g : v < m 177 18
        · rw [if_pos g]
          by_cases kp : 0 < k
          · rw [if_pos kp]
            have nx : ¬ (mKs (m 177) (m 177 (45 + w).toNat) v ∧ 0 < mm3 202 v.toNat) → mOk (R_mostSounds_82 (R_mostSounds_2 n fu) (R_mostSounds_7 (R_mostSounds_2 n fu) n k fu2) (R_mostSounds_33 (R_mostSounds_2 n fu) (R_mostSounds_7 (R_mostSounds_2 n fu) n k fu2) n k w fu3) n k w v mm3) (fun r => mX (mSe (m 177) (n.toNat - 1)) r.1 ∧ ∀ q i, q ≠ 202 → q ≠ 203 → r.2 q i = m q i) := by
              intro hno
              unfold R_mostSounds_82
              rw [w32e (by omega) (by omega)]
              refine ih3 _ _ ⟨by omega, by omega, fun hk => by omega, fun hk => mX_congr (fun t => ?_) (u1 hk), u2, u3, fr3⟩ (by omega)
              constructor
              · rintro ⟨u, a, b, c⟩; exact ⟨u, a, by omega, c⟩
              · rintro ⟨u, a, b, c⟩
                refine ⟨u, a, ?_, c⟩
                by_cases eu : u = v
                · rw [eu] at c; exact absurd ⟨c.1, c.2.1⟩ hno
                · omega
            refine mOk_bind (mayStand_ok ht3 w0 (by rw [f177]; exact e) v0' (by rw [f177]; exact g)) (fun s ks => ?_)
            rw [f177] at ks
            by_cases z : s = 0
            · rw [if_pos z]
              exact nx (fun h => (ks.2.mpr h.1) z)
            · rw [if_neg z, if_pos (by omega)]
              by_cases zp : 0 < mm3 202 v.toNat
              · have b1 := bnd _ v _ (by omega) (u2 (by omega) v v0' g)
                rw [if_pos zp, w32e (x := 19 + w) (by omega) (by omega), if_pos (by omega), if_pos (by omega), w32e (by omega) (by omega)]
                have base := mX_add (u1 (by omega)) (v := m 177 (19 + w).toNat + mm3 202 v.toNat) (by omega)
                have cg : ∀ t, ((∃ u : Int, 0 ≤ u ∧ u < v ∧ mKs (m 177) (m 177 (45 + w).toNat) u ∧ 0 < mm3 202 u.toNat ∧ t = m 177 (19 + w).toNat + mm3 202 u.toNat) ∨ t = m 177 (19 + w).toNat + mm3 202 v.toNat) ↔ ∃ u : Int, 0 ≤ u ∧ u < v + 1 ∧ mKs (m 177) (m 177 (45 + w).toNat) u ∧ 0 < mm3 202 u.toNat ∧ t = m 177 (19 + w).toNat + mm3 202 u.toNat := by
                  intro t
                  constructor
                  · rintro (⟨u, a, b, c⟩ | h)
                    · exact ⟨u, a, by omega, c⟩
                    · exact ⟨v, v0', by omega, ks.2.mp z, zp, h⟩
                  · rintro ⟨u, a, b, c⟩
                    by_cases eu : u = v
                    · right; rw [eu] at c; exact c.2.2
                    · exact Or.inl ⟨u, a, by omega, c⟩
                by_cases zl : mm3 203 w.toNat < m 177 (19 + w).toNat + mm3 202 v.toNat
                · rw [if_pos zl] at base ⊢
                  unfold R_mostSounds_82
                  rw [w32e (by omega) (by omega)]
                  have e2 : ∀ u : Nat, aup mm3 203 w.toNat (m 177 (19 + w).toNat + mm3 202 v.toNat) 202 u = mm3 202 u := fun u => aup_of (by omega)
                  refine mOk_st1 (ih3 _ _ ⟨by omega, by omega, fun hk => by omega, fun hk => ?_, fun hk u a b => by rw [e2]; exact u2 hk u a b, fun u a b => by rw [aup_of (by omega)]; exact u3 u a b, fun q i a b => by rw [aup_of (by omega)]; exact fr3 q i a b⟩ (by omega))
                  simp only [e2, aup_self]
                  exact mX_congr cg base
                · rw [if_neg zl] at base ⊢
                  unfold R_mostSounds_82
                  rw [w32e (by omega) (by omega)]
                  exact ih3 _ _ ⟨by omega, by omega, fun hk => by omega, fun hk => mX_congr cg base, u2, u3, fr3⟩ (by omega)
              · rw [if_neg zp]
                exact nx (fun h => zp h.2)
          · rw [if_neg kp]
            exact fin (Or.inl (by omega))
        · rw [if_neg g]
          exact fin (Or.inr (by omega))
      by_cases kz : k = 0
      · rw [if_pos kz]
        refine mOk_bind (RmayEnd_ok ht2 w0 (by rw [e177]; exact e)) (fun s ks => ?_)
        rw [e177] at ks
        by_cases z : s = 0
        · rw [if_pos z]
          unfold R_mostSounds_29
          refine go 0 (Or.inl ⟨rfl, ?_⟩)
          rintro t ⟨-, kd, ⟨h1, h2, h3⟩, h4⟩
          rw [← h2] at h4
          exact (ks.2.mpr h4) z
        · rw [if_neg z, w32e (x := 19 + w) (by omega) (by omega), if_pos (by omega)]
          refine go _ (Or.inr ⟨by omega, ⟨kz, _, ⟨⟨w0, e⟩, rfl, rfl⟩, ks.2.mp z⟩, ?_⟩)
          rintro t ⟨-, kd, ⟨h1, h2, h3⟩, h4⟩
          omega
      · rw [if_neg kz]
        unfold R_mostSounds_29
        exact go 0 (Or.inl ⟨rfl, fun t h => kz h.1⟩)
    · rw [if_neg e]
      have ew : w = m 177 18 := by omega
      subst ew
      refine mL2 (R_mostSounds_88 (R_mostSounds_2 n fu) n k) (fun w mm => 0 ≤ w ∧ w ≤ m 177 18 ∧ (∀ u : Int, 0 ≤ u → u < w → mX (mSw (m 177) k.toNat u) (mm 202 u.toNat)) ∧ (∀ u : Int, 0 ≤ u → u < m 177 18 → mX (mSw (m 177) k.toNat u) (mm 203 u.toNat)) ∧ ∀ q i, q ≠ 202 → q ≠ 203 → mm q i = m q i) (fun w _ => (13 - w).toNat) ?_ 0 mm2 ⟨by omega, by omega, fun u a b => by omega, t2, fr2⟩ (by omega)
      rintro fu3 w mm3 ⟨w0, w1, u1, u2, fr3⟩ ih3
      rw [R_mostSounds_88, show mm3 177 18 = m 177 18 from fr3 _ _ (by omega) (by omega)]
      by_cases g : w < m 177 18
      · rw [if_pos g, if_pos (by omega), w32e (by omega) (by omega)]
        refine mOk_st1 (ih3 _ _ ⟨by omega, by omega, fun u a b => ?_, fun u a b => by rw [aup_of (by omega)]; exact u2 u a b, fun q i a b => by rw [aup_of (by omega)]; exact fr3 q i a b⟩ (by omega))
        by_cases eu : u = w
        · rw [eu, aup_self]; exact u2 w w0 g
        · rw [aup_of (by omega)]; exact u1 u a (by omega)
      · rw [if_neg g, w32e (by omega) (by omega)]
        refine ih _ _ ⟨by omega, by omega, fun hk u a b => ?_, fr3⟩ (by omega)
        rw [show (k + 1).toNat - 1 = k.toNat by omega]
        exact u1 u a (by omega)
  · rw [if_neg d]
    have ek : k = n := by omega
    subst ek
    have hs := s1 (by omega)
    refine mL2 (fun f b w => R_mostSounds_110 f b w mm) (fun b w => 0 ≤ w ∧ w ≤ m 177 18 ∧ mX (fun t => ∃ u : Int, 0 ≤ u ∧ u < w ∧ mSw (m 177) (k.toNat - 1) u t) b) (fun _ w => (13 - w).toNat) ?_ 0 0 ⟨by omega, by omega, Or.inl ⟨rfl, fun t ⟨u, a, b, _⟩ => by omega⟩⟩ (by omega)
    rintro fu2 b w ⟨w0, w1, hb⟩ ih2
    show mOk (R_mostSounds_110 (fu2 + 1) b w mm) _
    rw [R_mostSounds_110, show mm 177 18 = m 177 18 from fr _ _ (by omega) (by omega)]
    by_cases g : w < m 177 18
    · rw [if_pos g, if_pos (by omega)]
      have hw := hs w w0 g
      have nb := mX_nn hb
      have step : mX (fun t => ∃ u : Int, 0 ≤ u ∧ u < w + 1 ∧ mSw (m 177) (k.toNat - 1) u t) (if b < mm 202 w.toNat then mm 202 w.toNat else b) := by
        rcases hw with ⟨q1, q2⟩ | ⟨q1, q2, q3⟩
        · rw [if_neg (by omega)]
          refine mX_congr (fun t => ?_) hb
          constructor
          · rintro ⟨u, a, b, c⟩; exact ⟨u, a, by omega, c⟩
          · rintro ⟨u, a, b, c⟩
            refine ⟨u, a, ?_, c⟩
            by_cases eu : u = w
            · rw [eu] at c; exact absurd c (q2 t)
            · omega
        · rcases mX_add hb q1 with ⟨r1, r2⟩ | ⟨r1, r2, r3⟩
          · exact absurd (Or.inr rfl) (r2 _)
          · refine Or.inr ⟨r1, ?_, ?_⟩
            · rcases r2 with ⟨u, a, b, c⟩ | h
              · exact ⟨u, a, by omega, c⟩
              · exact ⟨w, w0, by omega, by rw [h]; exact q2⟩
            · rintro t ⟨u, a, b, c⟩
              by_cases eu : u = w
              · rw [eu] at c
                have h1 := q3 t c
                have h2 := r3 _ (Or.inr rfl)
                omega
              · exact r3 t (Or.inl ⟨u, a, by omega, c⟩)
      unfold R_mostSounds_128
      rw [w32e (by omega) (by omega)]
      by_cases z : b < mm 202 w.toNat
      · rw [if_pos z] at step ⊢
        exact ih2 _ _ ⟨by omega, by omega, step⟩ (by omega)
      · rw [if_neg z] at step ⊢
        exact ih2 _ _ ⟨by omega, by omega, step⟩ (by omega)
    · rw [if_neg g]
      refine mOk_some ⟨mX_congr (fun t => ?_) hb, fr⟩
      constructor
      · rintro ⟨u, a, b, kd, c, d⟩; exact ⟨u, kd, c, d⟩
      · rintro ⟨u, kd, c, d⟩
        have hu : mIw (m 177) u := by
          cases hq : k.toNat - 1 with
          | zero => rw [hq] at c; exact c.1
          | succ z => rw [hq] at c; exact c.1
        exact ⟨u, hu.1, by have := hu.2; omega, kd, c, d⟩
theorem isEndless_ok {m : aM} (ht : mTok (m 177)) : mOk (R_isEndless m) (fun r => (r.1 = 0 ∨ r.1 = 1) ∧ (r.1 ≠ 0 ↔ ∃ t, mSe (m 177) (m 177 18).toNat t) ∧ ∀ q i, q ≠ 202 → q ≠ 203 → r.2 q i = m q i) := by
  have c4 := ht.2.2.2.2.1
  unfold R_isEndless
  rw [w32e (by omega) (by omega)]
  refine mOk_bind (mostSounds_ok ht (by omega) (by omega)) (fun r k => ?_)
  rw [show (m 177 18 + 1).toNat - 1 = (m 177 18).toNat by omega] at k
  by_cases z : 0 < r.1
  · rw [if_pos z]
    refine mOk_some ⟨Or.inr rfl, ⟨fun _ => ?_, fun _ => by show (1 : Int) ≠ 0; omega⟩, k.2⟩
    rcases k.1 with ⟨q1, -⟩ | ⟨-, q2, -⟩
    · omega
    · exact ⟨_, q2⟩
  · rw [if_neg z]
    refine mOk_some ⟨Or.inl rfl, ⟨fun h => absurd rfl h, fun ⟨t, h⟩ => ?_⟩, k.2⟩
    rcases k.1 with ⟨-, q2⟩ | ⟨q1, -⟩
    · exact absurd h (q2 t)
    · omega
theorem R_longest_ok {m : aM} (ht : mTok (m 177)) : mOk (R_longest_12 FU 0 1 m) (fun r => (∃ v, mX (fun t => ∃ c, c < (m 177 18).toNat ∧ mSe (m 177) c t) v ∧ r.1 = if v = 0 then -1 else v) ∧ ∀ q i, q ≠ 202 → q ≠ 203 → r.2 q i = m q i) := by
  have c4 := ht.2.2.2.2.1
  refine mL3 R_longest_12 (fun b x mm => 1 ≤ x ∧ x ≤ m 177 18 + 1 ∧ mX (fun t => ∃ c, c < x.toNat - 1 ∧ mSe (m 177) c t) b ∧ ∀ q i, q ≠ 202 → q ≠ 203 → mm q i = m q i) (fun _ x _ => (14 - x).toNat) ?_ 0 1 m ⟨by omega, by omega, Or.inl ⟨rfl, fun t ⟨c, a, _⟩ => by have : (1 : Int).toNat = 1 := rfl; omega⟩, fun _ _ _ _ => rfl⟩ (by omega)
  rintro fu b x mm ⟨x0, x1, hb, fr⟩ ih
  have e177 : mm 177 = m 177 := funext fun i => fr _ _ (by omega) (by omega)
  rw [R_longest_12, e177]
  by_cases d : m 177 18 < x
  · rw [if_pos d]
    have hv : mX (fun t => ∃ c, c < (m 177 18).toNat ∧ mSe (m 177) c t) b := by
      rw [show (m 177 18).toNat = x.toNat - 1 by omega]; exact hb
    by_cases z : b = 0
    · rw [if_pos z]
      exact mOk_some ⟨⟨b, hv, by rw [if_pos z]⟩, fr⟩
    · rw [if_neg z]
      exact mOk_some ⟨⟨b, hv, by rw [if_neg z]⟩, fr⟩
  · rw [if_neg d]
    refine mOk_bind (mostSounds_ok (m := mm) (by rw [e177]; exact ht) x0 (by omega)) (fun r k => ?_)
    rw [e177] at k
    have nb := mX_nn hb
    have fr2 : ∀ q i, q ≠ 202 → q ≠ 203 → r.2 q i = m q i := fun q i a b => by rw [k.2 q i a b]; exact fr q i a b
    have step : mX (fun t => ∃ c, c < (x + 1).toNat - 1 ∧ mSe (m 177) c t) (if b < r.1 then r.1 else b) := by
      rcases k.1 with ⟨q1, q2⟩ | ⟨q1, q2, q3⟩
      · rw [if_neg (by omega)]
        refine mX_congr (fun t => ?_) hb
        constructor
        · rintro ⟨c, a, h⟩; exact ⟨c, by omega, h⟩
        · rintro ⟨c, a, h⟩
          refine ⟨c, ?_, h⟩
          by_cases ec : c = x.toNat - 1
          · rw [ec] at h; exact absurd h (q2 t)
          · omega
      · rcases mX_add hb q1 with ⟨r1, r2⟩ | ⟨r1, r2, r3⟩
        · exact absurd (Or.inr rfl) (r2 _)
        · refine Or.inr ⟨r1, ?_, ?_⟩
          · rcases r2 with ⟨c, a, h⟩ | h
            · exact ⟨c, by omega, h⟩
            · exact ⟨x.toNat - 1, by omega, by rw [h]; exact q2⟩
          · rintro t ⟨c, a, h⟩
            by_cases ec : c = x.toNat - 1
            · rw [ec] at h
              have h1 := q3 t h
              have h2 := r3 _ (Or.inr rfl)
              omega
            · exact r3 t (Or.inl ⟨c, by omega, h⟩)
    unfold R_longest_28
    rw [w32e (by omega) (by omega)]
    by_cases z : b < r.1
    · rw [if_pos z] at step ⊢
      exact ih _ _ _ ⟨by omega, by omega, step, fr2⟩ (by omega)
    · rw [if_neg z] at step ⊢
      exact ih _ _ _ ⟨by omega, by omega, step, fr2⟩ (by omega)
theorem mSame_sounds {m m1 : aM} (h : ∀ q i, q ≠ 120 → q ≠ 122 → q ≠ 123 → q ≠ 124 → m1 q i = m q i) : mSame m (aup m1 176 0 0) := by
  intro q i hd
  unfold mDep at hd
  rw [aup_of (by omega), h _ _ (by omega) (by omega) (by omega) (by omega)]
theorem st_endless {n : Nat} {m : aM} (h : mInv n m) : ∃ r m1 m2, B_endless m = some (r, m1) ∧ R_endless m1 = some (r, m2) ∧ mInv (n + 1) m2 := by
  obtain ⟨m1, k1, ⟨v, v1, v2, v3, v4⟩, fr⟩ := measure_ok h.2.2.1 rfl h.2.2.2.1
  have hs := mSame_sounds fr
  have hi2 := mInv_same (Nat.le_succ n) hs h
  have f177 : aup m1 176 0 0 177 = m 177 := funext fun i => hs 177 i (by unfold mDep; omega)
  obtain ⟨⟨e, m2⟩, k2, q1, q2, q3⟩ := isEndless_ok (m := aup m1 176 0 0) hi2.2.2.1
  dsimp only at q1 q2 q3
  rw [f177] at q2
  have hiff : m1 120 6 ≠ 0 ↔ e ≠ 0 := by rw [v3, q2]; exact endless_iff h.2.2.1
  have hi3 : mInv (n + 1) m2 := mInv_same (Nat.le_refl _) (fun q i hd => q3 _ _ (by unfold mDep at hd; omega) (by unfold mDep at hd; omega)) hi2
  by_cases z : m1 120 6 = 0
  · have ze : e = 0 := Classical.byContradiction (fun hh => (hiff.mpr hh) z)
    refine ⟨0, m1, m2, ?_, ?_, hi3⟩
    · unfold B_endless; rw [k1]; show (if m1 120 6 = 0 then _ else _) = _; rw [if_pos z]
    · unfold R_endless; rw [st1e, k2]; show (if e = 0 then _ else _) = _; rw [if_pos ze]
  · have ze := hiff.mp z
    refine ⟨1, m1, m2, ?_, ?_, hi3⟩
    · unfold B_endless; rw [k1]; show (if m1 120 6 = 0 then _ else _) = _; rw [if_neg z]
    · unfold R_endless; rw [st1e, k2]; show (if e = 0 then _ else _) = _; rw [if_neg ze]
theorem st_longest {n : Nat} {m : aM} (h : mInv n m) : ∃ r m1 m2, B_longest m = some (r, m1) ∧ R_longest m1 = some (r, m2) ∧ mInv (n + 1) m2 := by
  obtain ⟨m1, k1, ⟨v, v1, v2, v3, v4⟩, fr⟩ := measure_ok h.2.2.1 rfl h.2.2.2.1
  have hs := mSame_sounds fr
  have hi2 := mInv_same (Nat.le_succ n) hs h
  have f177 : aup m1 176 0 0 177 = m 177 := funext fun i => hs 177 i (by unfold mDep; omega)
  obtain ⟨⟨e, m2⟩, k2, q1, q2, q3⟩ := isEndless_ok (m := aup m1 176 0 0) hi2.2.2.1
  dsimp only at q1 q2 q3
  rw [f177] at q2
  have hei := endless_iff h.2.2.1
  have hiff : m1 120 6 ≠ 0 ↔ e ≠ 0 := by rw [v3, q2]; exact hei
  have hi3 : mInv (n + 1) m2 := mInv_same (Nat.le_refl _) (fun q i hd => q3 _ _ (by unfold mDep at hd; omega) (by unfold mDep at hd; omega)) hi2
  by_cases z : m1 120 6 = 0
  · have ze : e = 0 := Classical.byContradiction (fun hh => (hiff.mpr hh) z)
    have g177 : m2 177 = m 177 := by rw [← f177]; exact funext fun i => q3 _ _ (by omega) (by omega)
    obtain ⟨⟨r, m3⟩, k3, ⟨u, u1, u2⟩, u3⟩ := R_longest_ok (m := m2) (by rw [g177]; exact h.2.2.1)
    dsimp only at u2 u3
    rw [g177] at u1
    have no4 : ¬ ∃ t, mSe (m 177) 4 t := fun hh => (v3.mpr hh) z
    have noN : ¬ ∃ t, mSe (m 177) (m 177 18).toNat t := fun hh => no4 (hei.mpr hh)
    have ev : v = u := mX_uni (fun t => ⟨fun ⟨c, a, b⟩ => ⟨c, Classical.byContradiction (fun hc => noN (mSe_le (by omega) ⟨t, b⟩)), b⟩, fun ⟨c, a, b⟩ => ⟨c, Classical.byContradiction (fun hc => no4 (mSe_le (by omega) ⟨t, b⟩)), b⟩⟩) v1 u1
    refine ⟨m1 120 7, m1, m3, ?_, ?_, mInv_same (Nat.le_refl _) (fun q i hd => u3 _ _ (by unfold mDep at hd; omega) (by unfold mDep at hd; omega)) hi3⟩
    · unfold B_longest; rw [k1]; show (if m1 120 6 = 0 then _ else _) = _; rw [if_pos z]
    · unfold R_longest; rw [st1e, k2]; show (if e = 0 then _ else _) = _; rw [if_pos ze, k3, u2, v4, ev]
  · have ze := hiff.mp z
    refine ⟨-1, m1, m2, ?_, ?_, hi3⟩
    · unfold B_longest; rw [k1]; show (if m1 120 6 = 0 then _ else _) = _; rw [if_neg z]
    · unfold R_longest; rw [st1e, k2]; show (if e = 0 then _ else _) = _; rw [if_neg ze]
