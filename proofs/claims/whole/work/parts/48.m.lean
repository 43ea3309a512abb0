/-! tree -/
noncomputable def mI (p : Prop) : Int := @ite Int p (Classical.propDecidable p) 1 0
theorem mI_t {p : Prop} (h : p) : mI p = 1 := by unfold mI; exact if_pos h
theorem mI_f {p : Prop} (h : ¬ p) : mI p = 0 := by unfold mI; exact if_neg h
theorem mI_01 (p : Prop) : 0 ≤ mI p ∧ mI p ≤ 1 := by
  by_cases h : p
  · rw [mI_t h]; omega
  · rw [mI_f h]; omega
theorem mI_sum (f : Int → Prop) (n : Nat) : 0 ≤ mSum (fun k => mI (f k)) n ∧ mSum (fun k => mI (f k)) n ≤ n := by
  have := mSum_bd (f := fun k => mI (f k)) (c := 1) (by omega) (n := n) (fun i _ _ => mI_01 _)
  omega
def mNew (A : Nat → Int) (w n : Int) : Prop := ∀ v : Int, 0 ≤ v → v < w → ¬ mAl A w v n
noncomputable def mTreeW (A : Nat → Int) (w : Int) : Int := mSum (fun k => mI (mNew A w (k + 1))) (A (19 + w).toNat).toNat
theorem mTree_bd {A : Nat → Int} (h : mTok A) {x : Int} (h0 : 0 ≤ x) (h1 : x ≤ A 18) : 0 ≤ mSum (mTreeW A) x.toNat ∧ mSum (mTreeW A) x.toNat ≤ 72 := by
  obtain ⟨c0, c1, c2, c3, c4, c5, -⟩ := h
  have := mSum_bd (f := mTreeW A) (c := 6) (by omega) (n := x.toNat) (fun i i0 i1 => by
    have d1 := (c5 i i0 (by omega)).1
    have := mI_sum (fun k => mNew A i (k + 1)) (A (19 + i).toNat).toNat
    unfold mTreeW
    omega)
  omega
theorem isNew_ok {w n : Int} {m : aM} (ht : mTok (m 177)) (hr : mTR 25 47 (m 177) m) (w0 : 0 ≤ w) (w1 : w < m 177 18) (hn : n ≤ m 177 (19 + w).toNat) : mOk (Census_isNewBeginning w n m) (fun r => (r = 0 ∨ r = 1) ∧ (r ≠ 0 ↔ mNew (m 177) w n)) := by
  have c4 := ht.2.2.2.2.1
  unfold Census_isNewBeginning
  refine mL1 (Census_isNewBeginning_2 m w n) (fun a => 0 ≤ a ∧ a ≤ w ∧ ∀ v : Int, 0 ≤ v → v < a → ¬ mAl (m 177) w v n) (fun a => (12 - a).toNat) ?_ 0 ⟨by omega, by omega, fun i a b => by omega⟩ (by omega)
  rintro f a ⟨a0, a1, a2⟩ ih
  rw [Census_isNewBeginning_2]
  by_cases c : a < w
  · rw [if_pos c, if_pos (by omega)]
    refine mOk_bind (begins_al ht hr w0 w1 a0 (by omega) hn) (fun r k => ?_)
    by_cases z : r = 0
    · rw [if_pos z, w32e (by omega) (by omega)]
      refine ih _ ⟨by omega, by omega, ?_⟩ (by omega)
      intro i i0 i1
      by_cases e : i = a
      · rw [e]; exact fun h => (k.2.mpr h) z
      · exact a2 i i0 (by omega)
    · rw [if_neg z]
      exact mOk_some ⟨Or.inl rfl, by simp; intro h; exact h a a0 c (k.2.mp z)⟩
  · rw [if_neg c]
    exact mOk_some ⟨Or.inr rfl, by simp; exact fun i i0 i1 => a2 i i0 (by omega)⟩
theorem B_tree_ok {m : aM} (ht : mTok (m 177)) (hr : mTR 25 47 (m 177) m) : mOk (B_tree m) (fun r => r = mSum (mTreeW (m 177)) (m 177 18).toNat + 1) := by
  have c4 := ht.2.2.2.2.1
  have c5 := ht.2.2.2.2.2.1
  have bd := fun x h0 h1 => mTree_bd ht (x := x) h0 h1
  have key : mOk (Census_countBeginnings m) (fun r => r = mSum (mTreeW (m 177)) (m 177 18).toNat) := by
    unfold Census_countBeginnings
    refine mL2 (Census_countBeginnings_4 m) (fun acc w => 0 ≤ w ∧ w ≤ m 177 18 ∧ acc = mSum (mTreeW (m 177)) w.toNat) (fun _ w => (12 - w).toNat) ?_ 0 0 ⟨by omega, by omega, rfl⟩ (by omega)
    rintro n acc w ⟨w0, w1, e⟩ ih
    rw [Census_countBeginnings_4, hr.1.2.2.1]
    by_cases c : w < m 177 18
    · rw [if_pos c]
      have f := (c5 w w0 c).1
      have g := (hr.2.2.2.1 w w0 c).1
      have b1 := bd w w0 w1
      refine mL2 (Census_countBeginnings_11 m (Census_countBeginnings_4 m n) w) (fun a k => 1 ≤ k ∧ k ≤ m 177 (19 + w).toNat + 1 ∧ a = acc + mSum (fun j => mI (mNew (m 177) w (j + 1))) (k - 1).toNat) (fun _ k => (8 - k).toNat) ?_ acc 1 ⟨by omega, by omega, by rw [show ((1 : Int) - 1).toNat = 0 by omega]; simp [mSum]⟩ (by omega)
      rintro n2 a k ⟨k0, k1, ea⟩ ih2
      rw [Census_countBeginnings_11, if_pos (by omega), show m 41 w.toNat = _ from g]
      have b2 := mI_sum (fun j => mNew (m 177) w (j + 1)) (k - 1).toNat
      by_cases d : m 177 (19 + w).toNat < k
      · rw [if_pos d, w32e (by omega) (by omega)]
        refine ih _ _ ⟨by omega, by omega, ?_⟩ (by omega)
        rw [mSum_s w0, ea, e, show (k - 1).toNat = (m 177 (19 + w).toNat).toNat by omega]
        rfl
      · rw [if_neg d]
        refine mOk_bind (isNew_ok ht hr w0 c (n := k) (by omega)) (fun r kk => ?_)
        have e5 : (k + 1 - 1).toNat = ((k - 1) + 1).toNat := by omega
        have e6 := mSum_s (f := fun j => mI (mNew (m 177) w (j + 1))) (x := k - 1) (by omega)
        simp only [show k - 1 + 1 = k by omega] at e6
        by_cases z : r = 0
        · rw [if_pos z]
          unfold Census_countBeginnings_24
          rw [w32e (by omega) (by omega)]
          refine ih2 _ _ ⟨by omega, by omega, ?_⟩ (by omega)
          rw [show k + 1 - 1 = k by omega, e6, mI_f (fun h => (kk.2.mpr h) z), ea]
          omega
        · rw [if_neg z]
          unfold Census_countBeginnings_24
          rw [w32e (x := k + 1) (by omega) (by omega), w32e (by omega) (by omega)]
          refine ih2 _ _ ⟨by omega, by omega, ?_⟩ (by omega)
          rw [show k + 1 - 1 = k by omega, e6, mI_t (kk.2.mp z), ea]
          omega
    · rw [if_neg c]
      exact mOk_some (by rw [e, show w = m 177 18 by omega])
  unfold B_tree
  refine mOk_bind key (fun r k => mOk_some ?_)
  have := bd (m 177 18) (by omega) (by omega)
  rw [w32e (by omega) (by omega), k]
theorem R_tree_ok {m : aM} (ht : mTok (m 177)) : mOk (R_tree_7 FU 1 0 m) (fun r => r.1 = mSum (mTreeW (m 177)) (m 177 18).toNat + 1 ∧ r.2 = m) := by
  have c4 := ht.2.2.2.2.1
  have c5 := ht.2.2.2.2.2.1
  have bd := fun x h0 h1 => mTree_bd ht (x := x) h0 h1
  refine mL2 (fun n acc w => R_tree_7 n acc w m) (fun acc w => 0 ≤ w ∧ w ≤ m 177 18 ∧ acc = mSum (mTreeW (m 177)) w.toNat + 1) (fun _ w => (12 - w).toNat) ?_ 1 0 ⟨by omega, by omega, rfl⟩ (by omega)
  rintro n acc w ⟨w0, w1, e⟩ ih
  show mOk (R_tree_7 (n + 1) acc w m) _
  rw [R_tree_7]
  by_cases c : w < m 177 18
  · rw [if_pos c]
    have f := (c5 w w0 c).1
    have b1 := bd w w0 w1
    refine mL2 (fun n2 a k => R_tree_15 (R_tree_7 n) w n2 a k m) (fun a k => 1 ≤ k ∧ k ≤ m 177 (19 + w).toNat + 1 ∧ a = acc + mSum (fun j => mI (mNew (m 177) w (j + 1))) (k - 1).toNat) (fun _ k => (8 - k).toNat) ?_ acc 1 ⟨by omega, by omega, by rw [show ((1 : Int) - 1).toNat = 0 by omega]; simp [mSum]⟩ (by omega)
    rintro n2 a k ⟨k0, k1, ea⟩ ih2
    show mOk (R_tree_15 (R_tree_7 n) w (n2 + 1) a k m) _
    rw [R_tree_15, w32e (x := 19 + w) (by omega) (by omega), if_pos (by omega)]
    have b2 := mI_sum (fun j => mNew (m 177) w (j + 1)) (k - 1).toNat
    by_cases d : m 177 (19 + w).toNat < k
    · rw [if_pos d, w32e (by omega) (by omega)]
      refine ih _ _ ⟨by omega, by omega, ?_⟩ (by omega)
      rw [mSum_s w0, ea, e, show (k - 1).toNat = (m 177 (19 + w).toNat).toNat by omega]
      unfold mTreeW
      omega
    · rw [if_neg d]
      have e6 := mSum_s (f := fun j => mI (mNew (m 177) w (j + 1))) (x := k - 1) (by omega)
      simp only [show k - 1 + 1 = k by omega] at e6
      refine mL2 (fun n3 was v => R_tree_27 (R_tree_7 n) (R_tree_15 (R_tree_7 n) w n2) a w k n3 was v m) (fun was v => 0 ≤ v ∧ v ≤ w ∧ (was = 0 ∨ was = 1) ∧ (was = 0 ↔ ∀ i : Int, 0 ≤ i → i < v → ¬ mAl (m 177) w i k)) (fun _ v => (12 - v).toNat) ?_ 0 0 ⟨by omega, by omega, Or.inl rfl, by simp; intro i i0 i1; omega⟩ (by omega)
      rintro n3 was v ⟨v0, v1, v2, v3⟩ ih3
      show mOk (R_tree_27 (R_tree_7 n) (R_tree_15 (R_tree_7 n) w n2) a w k (n3 + 1) was v m) _
      rw [R_tree_27]
      by_cases cv : v < w
      · rw [if_pos cv]
        by_cases z : was = 0
        · rw [if_pos z]
          refine mOk_bind (beginAlike_ok w0 (by omega) v0 (by omega) (by omega)) (fun r kk => ?_)
          by_cases zz : r = 0
          · rw [if_pos zz]
            unfold R_tree_41
            rw [w32e (by omega) (by omega)]
            refine ih3 _ _ ⟨by omega, by omega, Or.inl rfl, ?_⟩ (by omega)
            simp
            intro i i0 i1
            by_cases ei : i = v
            · rw [ei]; exact fun h => (kk.2.mpr h) zz
            · exact v3.mp z i i0 (by omega)
          · rw [if_neg zz]
            unfold R_tree_38 R_tree_41
            rw [w32e (by omega) (by omega)]
            refine ih3 _ _ ⟨by omega, by omega, Or.inr rfl, ?_⟩ (by omega)
            simp
            exact ⟨v, v0, by omega, kk.2.mp zz⟩
        · rw [if_neg z]
          unfold R_tree_38 R_tree_41
          rw [w32e (by omega) (by omega)]
          refine ih3 _ _ ⟨by omega, by omega, Or.inr rfl, ?_⟩ (by omega)
          constructor
          · intro h; omega
          · intro h
            exact absurd (v3.mpr (fun i i0 i1 => h i i0 (by omega))) z
      · rw [if_neg cv]
        have ev : v = w := by omega
        subst ev
        by_cases z : was = 0
        · rw [if_pos z]
          unfold R_tree_50
          rw [w32e (x := k + 1) (by omega) (by omega), w32e (by omega) (by omega)]
          refine ih2 _ _ ⟨by omega, by omega, ?_⟩ (by omega)
          have hN : mNew (m 177) v k := v3.mp z
          rw [show k + 1 - 1 = k by omega, e6, mI_t hN, ea]
          omega
        · rw [if_neg z]
          unfold R_tree_50
          rw [w32e (x := k + 1) (by omega) (by omega), w32e (by omega) (by omega)]
          refine ih2 _ _ ⟨by omega, by omega, ?_⟩ (by omega)
          have hN : ¬ mNew (m 177) v k := fun h => z (v3.mpr h)
          rw [show k + 1 - 1 = k by omega, e6, mI_f hN, ea]
          omega
  · rw [if_neg c]
    exact mOk_some ⟨by rw [e, show w = m 177 18 by omega], rfl⟩
theorem st_tree {n : Nat} {m : aM} (h : mInv n m) : ∃ r m2, B_tree m = some r ∧ R_tree m = some (r, m2) ∧ mInv (n + 1) m2 := by
  have hi := mInv_0 h
  obtain ⟨r, k, hr⟩ := B_tree_ok h.2.2.1 h.2.2.2.1
  obtain ⟨⟨r', m2⟩, k', hr', e⟩ := R_tree_ok (m := aup m 176 0 0) hi.2.2.1
  have e2 : aup m 176 0 0 177 = m 177 := funext fun i => aup_of (by omega)
  dsimp only at hr' e
  rw [e2] at hr'
  refine ⟨r, aup m 176 0 0, k, ?_, hi⟩
  unfold R_tree
  rw [st1e, k', hr, hr', e]
