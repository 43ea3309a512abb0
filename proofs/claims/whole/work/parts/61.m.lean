/-! HOW A WORD STANDS AT A PLACE of a row of sounds -/
def mMc (A : Nat → Int) (S : Int → Int) (w p : Int) : Nat → Int
  | 0 => 0
  | k + 1 => if mMc A S w p k = -1 then -1 else if A (58 + 6 * w + (k : Int)).toNat = S (p + k) then mMc A S w p k else if iand (ishr (A (10 + A (58 + 6 * w + (k : Int)).toNat).toNat) (S (p + k))) 1 = 0 then -1 else mMc A S w p k + 1
theorem mMc_bd (A : Nat → Int) (S : Int → Int) (w p : Int) : ∀ k : Nat, -1 ≤ mMc A S w p k ∧ mMc A S w p k ≤ k := by
  intro k
  induction k with
  | zero => unfold mMc; omega
  | succ k ih =>
    rw [mMc]
    split
    · omega
    split
    · omega
    split
    · omega
    · omega
theorem mMc_un {A : Nat → Int} {S : Int → Int} {w p : Int} {k : Nat} (h : mMc A S w p k = -1) : ∀ d : Nat, mMc A S w p (k + d) = -1 := by
  intro d
  induction d with
  | zero => exact h
  | succ d ih => rw [show k + (d + 1) = (k + d) + 1 by omega, mMc, if_pos ih]
theorem mMc_cg {A : Nat → Int} {S S' : Int → Int} {w p : Int} : ∀ k : Nat, (∀ i : Nat, i < k → S (p + i) = S' (p + i)) → mMc A S w p k = mMc A S' w p k := by
  intro k
  induction k with
  | zero => intro _; rfl
  | succ k ih =>
    intro h
    rw [mMc, mMc, ih (fun i hi => h i (by omega)), h k (by omega)]
def mMis (A : Nat → Int) (S : Int → Int) (L w p : Int) : Int := if L < p + A (19 + w).toNat then -1 else mMc A S w p (A (19 + w).toNat).toNat
theorem mMis_cg {A : Nat → Int} {S S' : Int → Int} {L w p : Int} (p0 : 0 ≤ p) (h : ∀ i : Int, 0 ≤ i → i < L → S i = S' i) : mMis A S L w p = mMis A S' L w p := by
  unfold mMis
  by_cases c : L < p + A (19 + w).toNat
  · rw [if_pos c, if_pos c]
  · rw [if_neg c, if_neg c]
    exact mMc_cg _ (fun i hi => h _ (by omega) (by omega))
theorem mMis_bd {A : Nat → Int} {S : Int → Int} {L w p : Int} (hl : A (19 + w).toNat ≤ 6) : (-1 ≤ mMis A S L w p ∧ mMis A S L w p ≤ 6) ∧ (mMis A S L w p ≠ -1 → p + A (19 + w).toNat ≤ L) := by
  unfold mMis
  have := mMc_bd A S w p (A (19 + w).toNat).toNat
  by_cases c : L < p + A (19 + w).toNat
  · rw [if_pos c]; omega
  · rw [if_neg c]; omega
theorem missesAt_ok {t x1 : Nat} {w p : Int} {m : aM} {A : Nat → Int} (ht : mTok A) (w0 : 0 ≤ w) (w1 : w < A 18) (h41 : m 41 w.toNat = A (19 + w).toNat) (hsp : ∀ k : Int, 0 ≤ k → k < A (19 + w).toNat → m (25 + 4 + w.toNat) k.toNat = A (58 + 6 * w + k).toNat) (hl : ∀ s : Int, 0 ≤ s → s < 8 → m 27 s.toNat = A (10 + s).toNat) (p0 : 0 ≤ p) (p1 : p ≤ 60) (L1 : m x1 1 ≤ 40) : mOk (Cutter_missesAt t x1 p w m) (fun r => r = mMis A (fun i => m (x1 + 1) i.toNat) (m x1 1) w p) := by
  have c0 := ht.1
  have c4 := ht.2.2.2.2.1
  obtain ⟨d1, d2, d3, d4⟩ := ht.2.2.2.2.2.1 w w0 w1
  unfold Cutter_missesAt mMis
  rw [if_pos (by omega), h41, w32e (by omega) (by omega)]
  by_cases c : m x1 1 < p + A (19 + w).toNat
  · rw [if_pos c, if_pos c]
    exact mOk_some rfl
  rw [if_neg c, if_neg c]
  refine mL2 (Cutter_missesAt_18 m t x1 p w (A (19 + w).toNat)) (fun a k => 0 ≤ k ∧ k ≤ A (19 + w).toNat ∧ a = mMc A (fun i => m (x1 + 1) i.toNat) w p k.toNat ∧ a ≠ -1) (fun _ k => (7 - k).toNat) ?_ 0 0 ⟨by omega, by omega, rfl, by omega⟩ (by omega)
  rintro fu a k ⟨k0, k1, ea, ne⟩ ih
  have bd := mMc_bd A (fun i => m (x1 + 1) i.toNat) w p k.toNat
  rw [Cutter_missesAt_18]
  by_cases d : k < A (19 + w).toNat
  · have sb := d4 k k0 d
    rw [if_pos d, if_pos (by omega), if_pos (by omega), w32e (x := p + k) (by omega) (by omega), if_pos (by omega), hsp k k0 d]
    have step : mMc A (fun i => m (x1 + 1) i.toNat) w p (k.toNat + 1) = if A (58 + 6 * w + k).toNat = m (x1 + 1) (p + k).toNat then a else if iand (ishr (A (10 + A (58 + 6 * w + k).toNat).toNat) (m (x1 + 1) (p + k).toNat)) 1 = 0 then -1 else a + 1 := by
      rw [mMc, if_neg (by rw [← ea]; exact ne), show ((k.toNat : Nat) : Int) = k by omega, ← ea]
    by_cases e : A (58 + 6 * w + k).toNat = m (x1 + 1) (p + k).toNat
    · rw [if_pos e]
      rw [if_pos e] at step
      unfold Cutter_missesAt_52
      rw [w32e (by omega) (by omega)]
      exact ih _ _ ⟨by omega, by omega, by rw [show (k + 1).toNat = k.toNat + 1 by omega, step], ne⟩ (by omega)
    · rw [if_neg e, if_pos (by omega), hl _ sb.1 (by omega)]
      rw [if_neg e] at step
      by_cases f : iand (ishr (A (10 + A (58 + 6 * w + k).toNat).toNat) (m (x1 + 1) (p + k).toNat)) 1 = 0
      · rw [if_pos f]
        rw [if_pos f] at step
        refine mOk_some ?_
        have := mMc_un step ((A (19 + w).toNat).toNat - (k.toNat + 1))
        rw [show k.toNat + 1 + ((A (19 + w).toNat).toNat - (k.toNat + 1)) = (A (19 + w).toNat).toNat by omega] at this
        exact this.symm
      · rw [if_neg f]
        rw [if_neg f] at step
        unfold Cutter_missesAt_52
        rw [w32e (x := k + 1) (by omega) (by omega), w32e (by omega) (by omega)]
        exact ih _ _ ⟨by omega, by omega, by rw [show (k + 1).toNat = k.toNat + 1 by omega, step], by omega⟩ (by omega)
  · rw [if_neg d]
    exact mOk_some (by rw [ea, show k = A (19 + w).toNat by omega])
theorem mistakesAt_ok {w p : Int} {m : aM} (ht : mTok (m 177)) (w0 : 0 ≤ w) (w1 : w < m 177 18) (p0 : 0 ≤ p) (p1 : p ≤ 60) (L1 : m 176 17 ≤ 40) : mOk (R_mistakesAt w p m) (fun r => r = if mMis (m 177) (fun i => m 182 i.toNat) (m 176 17) w p = -1 then 1000 else mMis (m 177) (fun i => m 182 i.toNat) (m 176 17) w p) := by
  have c0 := ht.1
  have c4 := ht.2.2.2.2.1
  obtain ⟨d1, d2, d3, d4⟩ := ht.2.2.2.2.2.1 w w0 w1
  unfold R_mistakesAt mMis
  rw [w32e (x := 19 + w) (by omega) (by omega), if_pos (by omega), w32e (by omega) (by omega)]
  by_cases c : m 176 17 < p + m 177 (19 + w).toNat
  · rw [if_pos c, if_pos c, if_pos rfl]
    exact mOk_some rfl
  rw [if_neg c, if_neg c]
  refine mL2 (R_mistakesAt_17 m w p) (fun a k => 0 ≤ k ∧ k ≤ m 177 (19 + w).toNat ∧ a = mMc (m 177) (fun i => m 182 i.toNat) w p k.toNat ∧ a ≠ -1) (fun _ k => (7 - k).toNat) ?_ 0 0 ⟨by omega, by omega, rfl, by omega⟩ (by omega)
  rintro fu a k ⟨k0, k1, ea, ne⟩ ih
  have bd := mMc_bd (m 177) (fun i => m 182 i.toNat) w p k.toNat
  rw [R_mistakesAt_17, w32e (x := 19 + w) (by omega) (by omega), if_pos (by omega)]
  by_cases d : k < m 177 (19 + w).toNat
  · have sb := d4 k k0 d
    simp (disch := omega) only [if_pos, w32e]
    have step : mMc (m 177) (fun i => m 182 i.toNat) w p (k.toNat + 1) = if m 177 (58 + 6 * w + k).toNat = m 182 (p + k).toNat then a else if iand (ishr (m 177 (10 + m 177 (58 + 6 * w + k).toNat).toNat) (m 182 (p + k).toNat)) 1 = 0 then -1 else a + 1 := by
      rw [mMc, if_neg (by rw [← ea]; exact ne), show ((k.toNat : Nat) : Int) = k by omega, ← ea]
    by_cases e : m 177 (58 + 6 * w + k).toNat = m 182 (p + k).toNat
    · rw [if_pos e]
      rw [if_pos e] at step
      unfold R_mistakesAt_58
      rw [w32e (by omega) (by omega)]
      exact ih _ _ ⟨by omega, by omega, by rw [show (k + 1).toNat = k.toNat + 1 by omega, step], ne⟩ (by omega)
    · rw [if_neg e, isLike_eq sb.1 (by omega)]
      rw [if_neg e] at step
      simp only [Option.bind_some]
      have b01 := bt_01 (a := m 177 (10 + m 177 (58 + 6 * w + k).toNat).toNat) (k := m 182 (p + k).toNat)
      by_cases f : iand (ishr (m 177 (10 + m 177 (58 + 6 * w + k).toNat).toNat) (m 182 (p + k).toNat)) 1 = 0
      · rw [if_pos (if_neg (by omega))]
        rw [if_pos f] at step
        refine mOk_some ?_
        have := mMc_un step ((m 177 (19 + w).toNat).toNat - (k.toNat + 1))
        rw [show k.toNat + 1 + ((m 177 (19 + w).toNat).toNat - (k.toNat + 1)) = (m 177 (19 + w).toNat).toNat by omega] at this
        rw [if_pos this]
      · rw [if_neg (by rw [if_pos (by omega)]; omega)]
        rw [if_neg f] at step
        unfold R_mistakesAt_58
        rw [w32e (x := k + 1) (by omega) (by omega)]
        exact ih _ _ ⟨by omega, by omega, by rw [show (k + 1).toNat = k.toNat + 1 by omega, step], by omega⟩ (by omega)
  · rw [if_neg d]
    have ek : k.toNat = (m 177 (19 + w).toNat).toNat := by omega
    rw [ek] at ea
    exact mOk_some (by rw [← ea, if_neg ne])
theorem lay_ok {t x1 : Nat} {m : aM} {A : Nat → Int} (ht : mTok A) (hr : mTR 25 47 A m) (ht1 : t = 61 ∨ t = 67) (hx1 : x1 = 47 ∨ x1 = 74) (L0 : 0 ≤ m x1 1) (L1 : m x1 1 ≤ 40) : mOk (Cutter_lay t x1 m) (fun m' => m' t 9 = -1 ∧ m' t 1 = m x1 1 ∧ (∀ i w : Int, 0 ≤ i → i < m x1 1 → 0 ≤ w → w < A 18 → m' (t + 1) (i * 12 + w).toNat = mMis A (fun i => m (x1 + 1) i.toNat) (m x1 1) w i) ∧ ∀ q i, ¬(q = t ∧ (i = 1 ∨ i = 9)) → q ≠ t + 1 → m' q i = m q i) := by
  have c4 := ht.2.2.2.2.1
  unfold Cutter_lay Cutter_forget
  simp only [st1e, Option.bind_some]
  rw [aup_of (q' := x1) (by omega)]
  refine mL2 (Cutter_lay_8 t x1) (fun p mm => 0 ≤ p ∧ p ≤ m x1 1 ∧ mm t 9 = -1 ∧ mm t 1 = m x1 1 ∧ (∀ i w : Int, 0 ≤ i → i < p → 0 ≤ w → w < A 18 → mm (t + 1) (i * 12 + w).toNat = mMis A (fun i => m (x1 + 1) i.toNat) (m x1 1) w i) ∧ ∀ q i, ¬(q = t ∧ (i = 1 ∨ i = 9)) → q ≠ t + 1 → mm q i = m q i) (fun p _ => (41 - p).toNat) ?_ 0 _ ⟨by omega, by omega, by rw [aup_of (by omega), aup_self], aup_self _ _ _ _, fun i w a b => by omega, fun q i a b => by rw [aup_of (by omega), aup_of (by omega)]⟩ (by omega)
  rintro fu p mm ⟨p0, p1, s9, s1, s2, fr⟩ ih
  rw [Cutter_lay_8, s1]
  by_cases d : p < m x1 1
  · rw [if_pos d]
    refine mL2 (Cutter_lay_14 (Cutter_lay_8 t x1 fu) t x1 p) (fun v mm => 0 ≤ v ∧ v ≤ A 18 ∧ mm t 9 = -1 ∧ mm t 1 = m x1 1 ∧ (∀ i w : Int, 0 ≤ i → (i < p ∨ (i = p ∧ w < v)) → 0 ≤ w → w < A 18 → mm (t + 1) (i * 12 + w).toNat = mMis A (fun i => m (x1 + 1) i.toNat) (m x1 1) w i) ∧ ∀ q i, ¬(q = t ∧ (i = 1 ∨ i = 9)) → q ≠ t + 1 → mm q i = m q i) (fun v _ => (13 - v).toNat) ?_ 0 mm ⟨by omega, by omega, s9, s1, fun i w a b c e => s2 i w a (by omega) c e, fr⟩ (by omega)
    rintro fu2 v mm2 ⟨v0, v1, t9, t1, t2, fr2⟩ ih2
    rw [Cutter_lay_14, show mm2 25 2 = A 18 from (fr2 _ _ (by omega) (by omega)).trans hr.1.2.2.1]
    by_cases e : v < A 18
    · have g := hr.2.2.2.1 v v0 e
      have eL : mm2 x1 1 = m x1 1 := fr2 _ _ (by omega) (by omega)
      rw [if_pos e]
      refine mOk_bind (missesAt_ok (t := t) (x1 := x1) (w := v) (p := p) (m := mm2) ht v0 e ((fr2 _ _ (by omega) (by omega)).trans g.1) (fun k a b => (fr2 _ _ (by omega) (by omega)).trans (g.2.2.2 k a b)) (fun s a b => (fr2 _ _ (by omega) (by omega)).trans (hr.2.2.1 s a b)) p0 (by omega) (by rw [eL]; exact L1)) (fun r kr => ?_)
      rw [eL] at kr
      have eS : mMis A (fun i => mm2 (x1 + 1) i.toNat) (m x1 1) v p = mMis A (fun i => m (x1 + 1) i.toNat) (m x1 1) v p := mMis_cg p0 (fun i _ _ => fr2 _ _ (by omega) (by omega))
      rw [eS] at kr
      have bd := mMis_bd (A := A) (S := fun i => m (x1 + 1) i.toNat) (L := m x1 1) (w := v) (p := p) (ht.2.2.2.2.2.1 v v0 e).1.2
      simp (disch := omega) only [w32e, if_pos, w8e, st1e]
      refine ih2 _ _ ⟨by omega, by omega, by rw [aup_of (by omega)]; exact t9, by rw [aup_of (by omega)]; exact t1, fun i w a b c dd => ?_, fun q i a b => by rw [aup_of (by omega)]; exact fr2 q i a b⟩ (by omega)
      by_cases ei : i = p ∧ w = v
      · rw [ei.1, ei.2, aup_self]; exact kr
      · rw [aup_of (by omega)]; exact t2 i w a (by omega) c dd
    · rw [if_neg e, w32e (by omega) (by omega)]
      exact ih _ _ ⟨by omega, by omega, t9, t1, fun i w a b c dd => t2 i w a (by omega) c dd, fr2⟩ (by omega)
  · rw [if_neg d]
    exact mOk_some ⟨s9, s1, fun i w a b c e => s2 i w a (by omega) c e, fr⟩
