/-! THE REFERENCE'S SEARCH: spreading, goals -/
/-- the states behind a state; -1: the start -/
def mSu (A : Nat → Int) (O M Z s s' : Int) : Prop :=
  (s < 78 ∧ (mNx A O s s' ∨ ∃ p1 p2 e f, mNx A O s p1 ∧ mNx A O s p2 ∧ p1 ≠ p2 ∧ mHr A M Z p1 p2 0 0 e f ∧ s' = mPr p1 p2 e f)) ∨
  (∃ a b e f, s = mPr a b e f ∧ (mPv3 A a ∧ mPv3 A b ∧ (0 ≤ e ∧ e ≤ M) ∧ (0 ≤ f ∧ f ≤ M)) ∧ ∃ p1 p2 e' f', mNx A O a p1 ∧ mNx A O b p2 ∧ mHr A M Z p1 p2 e f e' f' ∧ s' = mPr p1 p2 e' f')
def mSv (A : Nat → Int) (M s : Int) : Prop := mPv3 A s ∨ ∃ a b e f, s = mPr a b e f ∧ (mPv3 A a ∧ mPv3 A b ∧ (0 ≤ e ∧ e ≤ M) ∧ (0 ≤ f ∧ f ≤ M))
theorem mHr_bd {A : Nat → Int} {M Z a b e f e' f' : Int} (e0 : 0 ≤ e ∧ e ≤ M) (f0 : 0 ≤ f ∧ f ≤ M) (h : mHr A M Z a b e f e' f') : (0 ≤ e' ∧ e' ≤ M) ∧ (0 ≤ f' ∧ f' ≤ M) := by
  rcases h.2 with ⟨-, h1, h2⟩ | ⟨-, -, ⟨h1, h2, h3⟩ | ⟨h1, h2, h3⟩⟩ | ⟨-, -, -, h3, h4, h1, h2⟩ <;> omega
theorem mSv_bd {A : Nat → Int} {M s : Int} (h : mVx A) (M2 : M ≤ 2) (hs : mSv A M s) : 0 ≤ s ∧ s < 54834 := by
  rcases hs with hs | ⟨a, b, e, f, rfl, h1, h2, h3, h4⟩
  · have := mPv3_bd h hs; omega
  · have := mPr_bd (mPv3_bd h h1) (mPv3_bd h h2) (e := e) (f := f) (by omega) (by omega); omega
theorem mSu_v {A : Nat → Int} {O M Z s s' : Int} (h : mVx A) (M0 : 0 ≤ M) (hs : s = -1 ∨ mSv A M s) (k : mSu A O M Z s s') : mSv A M s' := by
  rcases k with ⟨s78, k⟩ | ⟨a, b, e, f, rfl, ⟨ha, hb, he, hf⟩, p1, p2, e', f', k1, k2, k3, rfl⟩
  · have hp : s = -1 ∨ mPv3 A s := by
      rcases hs with hs | hs | ⟨a, b, e, f, rfl, h1, h2, h3, h4⟩
      · exact Or.inl hs
      · exact Or.inr hs
      · exfalso
        have := mPv3_bd h h1
        have := mPv3_bd h h2
        unfold mPr at s78
        omega
    rcases k with k | ⟨p1, p2, e, f, k1, k2, -, k3, rfl⟩
    · exact Or.inl (mNx_v h hp k)
    · exact Or.inr ⟨p1, p2, e, f, rfl, mNx_v h hp k1, mNx_v h hp k2, mHr_bd (by omega) (by omega) k3⟩
  · exact Or.inr ⟨p1, p2, e', f', rfl, mNx_v h (Or.inr ha) k1, mNx_v h (Or.inr hb) k2, mHr_bd he hf k3⟩
theorem spreadsSame_ok {p M its : Int} {m : aM} (h : mVx (m 177)) (hq : mQu m) (hp : p = -1 ∨ mPv3 (m 177) p) (M0 : 0 ≤ M) (M2 : M ≤ 2) : mOk (R_spreadsSame p M its m) (fun m' => ∃ m1 : aM, (∀ q i, q ≠ 194 → m1 q i = m q i) ∧ mAdd its (mSu (m 177) (m 176 32) M (m 176 33) p) m1 m' ∧ ∀ s, mSu (m 177) (m 176 32) M (m 176 33) p s → mMk m' s) := by
  have p78 : p < 78 := by
    rcases hp with hp | hp
    · omega
    · have := mPv3_bd h hp; omega
  unfold R_spreadsSame
  refine mOk_bind (follows_ok (Or.inl rfl) h hp) (fun r k => ?_)
  obtain ⟨n, m1⟩ := r
  obtain ⟨k1, k2, k3, k4, fr⟩ := k
  dsimp only at k1 k2 k3 k4 fr ⊢
  have e177 : m1 177 = m 177 := funext fun i => fr _ _ (by omega)
  have hq1 : mQu m1 := by
    unfold mQu mMk at *
    rw [fr 176 29 (by omega), fr 176 30 (by omega), show m1 190 = m 190 from funext fun i => fr _ _ (by omega), show m1 193 = m 193 from funext fun i => fr _ _ (by omega)]
    exact hq
  generalize hS : mSu (m 177) (m 176 32) M (m 176 33) p = S at *
  -- what stands when all is done
  have fin : ∀ mm : aM, mAdd its S m1 mm → (∀ i : Int, 0 ≤ i → i < n → mMk mm (m1 194 i.toNat) ∧ ∀ j : Int, 0 ≤ j → j < n → i ≠ j → ∀ e f, mHr (m 177) M (m 176 33) (m1 194 i.toNat) (m1 194 j.toNat) 0 0 e f → mMk mm (mPr (m1 194 i.toNat) (m1 194 j.toNat) e f)) → ∃ m1 : aM, (∀ q i, q ≠ 194 → m1 q i = m q i) ∧ mAdd its S m1 mm ∧ ∀ s, S s → mMk mm s := by
    intro mm a1 g
    refine ⟨m1, fr, a1, fun s hs => ?_⟩
    rw [← hS] at hs
    rcases hs with ⟨-, hs | ⟨p1, p2, e, f, q1, q2, q3, q4, rfl⟩⟩ | ⟨a, b, e, f, e1, ⟨ha, hb, he, hf⟩, -⟩
    · obtain ⟨i, i0, i1, rfl⟩ := k3 s hs
      exact (g i i0 i1).1
    · obtain ⟨i, i0, i1, rfl⟩ := k3 p1 q1
      obtain ⟨j, j0, j1, rfl⟩ := k3 p2 q2
      exact (g i i0 i1).2 j j0 j1 (fun h => q3 (by rw [h])) e f q4
    · exfalso
      have := mPv3_bd h ha
      have := mPv3_bd h hb
      unfold mPr at e1
      omega
  have pv : ∀ i : Int, 0 ≤ i → i < n → mPv3 (m 177) (m1 194 i.toNat) := fun i a b => mNx_v h hp (k2 i a b)
  refine mL2 (R_spreadsSame_8 M its n) (fun i mm => (0 ≤ i ∧ i ≤ n) ∧ mAdd its S m1 mm ∧ ∀ i' : Int, 0 ≤ i' → i' < i → mMk mm (m1 194 i'.toNat) ∧ ∀ j : Int, 0 ≤ j → j < n → i' ≠ j → ∀ e f, mHr (m 177) M (m 176 33) (m1 194 i'.toNat) (m1 194 j.toNat) 0 0 e f → mMk mm (mPr (m1 194 i'.toNat) (m1 194 j.toNat) e f)) (fun i _ => (14 - i).toNat) ?_ 0 m1 ⟨by omega, mAdd.refl hq1, fun i a b => by omega⟩ (by omega)
  rintro fu i mm ⟨i1, a1, g⟩ ih
  rw [R_spreadsSame_8]
  by_cases d : i < n
  rotate_left
  · rw [if_neg d]
    exact mOk_some (fin mm a1 (fun i' a b => g i' a (by omega)))
  rw [if_pos d, if_pos (by omega), a1.fr 194 _ (by omega) (by omega) (by omega) (by omega)]
  have vi := pv i i1.1 d
  have bi := mPv3_bd h vi
  have Si : S (m1 194 i.toNat) := by rw [← hS]; exact Or.inl ⟨p78, Or.inl (k2 i i1.1 d)⟩
  refine mOk_bind (adds1_ok (S := S) a1.1 bi.1 (by omega) Si) (fun m2 k2' => ?_)
  obtain ⟨a2, mk2⟩ := k2'
  refine mL2 (R_spreadsSame_20 (R_spreadsSame_8 M its n fu) M its n i) (fun j mm2 => (0 ≤ j ∧ j ≤ n) ∧ mAdd its S m2 mm2 ∧ ∀ j' : Int, 0 ≤ j' → j' < j → i ≠ j' → ∀ e f, mHr (m 177) M (m 176 33) (m1 194 i.toNat) (m1 194 j'.toNat) 0 0 e f → mMk mm2 (mPr (m1 194 i.toNat) (m1 194 j'.toNat) e f)) (fun j _ => (14 - j).toNat) ?_ 0 m2 ⟨by omega, mAdd.refl a2.1, fun j a b => by omega⟩ (by omega)
  rintro fu2 j mm2 ⟨j1, b1, g2⟩ ih2
  have b12 := (a1.trans a2).trans b1
  rw [R_spreadsSame_20]
  by_cases dj : j < n
  · rw [if_pos dj]
    by_cases ij : i = j
    · rw [if_pos ij]
      unfold R_spreadsSame_40
      rw [w32e (by omega) (by omega)]
      refine ih2 _ _ ⟨by omega, b1, fun j' a b c => ?_⟩ (by omega)
      by_cases ej : j' = j
      · rw [ej] at c; exact absurd ij c
      · exact g2 j' a (by omega) c
    · rw [if_neg ij, if_pos (by omega), if_pos (by omega), b12.fr 194 _ (by omega) (by omega) (by omega) (by omega), b12.fr 194 _ (by omega) (by omega) (by omega) (by omega)]
      have e2 : mm2 177 = m 177 := (b12.row (by omega) (by omega) (by omega) (by omega)).trans e177
      have e3 : mm2 176 33 = m 176 33 := by rw [b12.fr _ _ (by omega) (by omega) (by omega) (by omega), fr _ _ (by omega)]
      have vj := pv j j1.1 dj
      have gt := goesTo_ok (a := m1 194 i.toNat) (b := m1 194 j.toNat) (e := 0) (f := 0) (M := M) (its := its) (m := mm2) (by rw [e2]; exact h) b1.1 (by rw [e2]; exact vi) (by rw [e2]; exact vj) M2 (by omega) (by omega)
      rw [e2, e3] at gt
      refine mOk_bind gt (fun m3 k3' => ?_)
      obtain ⟨c1, c2⟩ := k3'
      have c1' : mAdd its S mm2 m3 := c1.mono (fun s hs => by
        obtain ⟨e, f, q1, q2⟩ := hs
        rw [← hS]
        exact Or.inl ⟨p78, Or.inr ⟨_, _, e, f, k2 i i1.1 d, k2 j j1.1 dj, by
          rcases Int.lt_or_gt_of_ne ij with l | l
          · exact k4 i j i1.1 l dj
          · exact (k4 j i j1.1 l d).symm, q1, q2⟩⟩)
      unfold R_spreadsSame_40
      rw [w32e (by omega) (by omega)]
      refine ih2 _ _ ⟨by omega, b1.trans c1', fun j' a b c e f q => ?_⟩ (by omega)
      by_cases ej : j' = j
      · rw [ej] at q ⊢; exact c2 e f q
      · have bd := mHr_bd (M := M) (by omega) (by omega) q
        have := mPr_bd bi (mPv3_bd h (pv j' a (by omega))) (e := e) (f := f) (by omega) (by omega)
        exact c1'.mk (by omega) this.2 (g2 j' a (by omega) c e f q)
  · rw [if_neg dj, w32e (by omega) (by omega)]
    refine ih _ _ ⟨by omega, b12, fun i' a b => ?_⟩ (by omega)
    by_cases ei : i' = i
    · rw [ei]
      exact ⟨b1.mk bi.1 (by omega) mk2, fun j' a b c => g2 j' a (by omega) c⟩
    · have gi := g i' a (by omega)
      have bi' := mPv3_bd h (pv i' a (by omega))
      refine ⟨(a2.trans b1).mk bi'.1 (by omega) gi.1, fun j' a' b' c e f q => ?_⟩
      have bd := mHr_bd (M := M) (by omega) (by omega) q
      have := mPr_bd bi' (mPv3_bd h (pv j' a' b')) (e := e) (f := f) (by omega) (by omega)
      exact (a2.trans b1).mk (by omega) this.2 (gi.2 j' a' b' c e f q)
theorem mPr_dec {a b e f : Int} (a0 : 0 ≤ a ∧ a < 78) (b0 : 0 ≤ b ∧ b < 78) (e0 : 0 ≤ e ∧ e ≤ 2) (f0 : 0 ≤ f ∧ f ≤ 2) : (mPr a b e f - 78) % 3 = f ∧ (mPr a b e f - 78) / 3 % 3 = e ∧ (mPr a b e f - 78) / 9 / 78 = a ∧ (mPr a b e f - 78) / 9 % 78 = b := by
  unfold mPr
  omega
theorem mPr_inj {a b e f a' b' e' f' : Int} (a0 : 0 ≤ a ∧ a < 78) (b0 : 0 ≤ b ∧ b < 78) (e0 : 0 ≤ e ∧ e ≤ 2) (f0 : 0 ≤ f ∧ f ≤ 2) (a0' : 0 ≤ a' ∧ a' < 78) (b0' : 0 ≤ b' ∧ b' < 78) (e0' : 0 ≤ e' ∧ e' ≤ 2) (f0' : 0 ≤ f' ∧ f' ≤ 2) (h : mPr a b e f = mPr a' b' e' f') : a = a' ∧ b = b' ∧ e = e' ∧ f = f' := by
  have d := mPr_dec a0 b0 e0 f0
  have d' := mPr_dec a0' b0' e0' f0'
  rw [h] at d
  exact ⟨d.2.2.1.symm.trans d'.2.2.1, d.2.2.2.symm.trans d'.2.2.2, d.2.1.symm.trans d'.2.1, d.1.symm.trans d'.1⟩
theorem spreadsPair_ok {a b e f M its : Int} {m : aM} (h : mVx (m 177)) (hq : mQu m) (M0 : 0 ≤ M) (M2 : M ≤ 2) (ha : mPv3 (m 177) a) (hb : mPv3 (m 177) b) (e0 : 0 ≤ e ∧ e ≤ M) (f0 : 0 ≤ f ∧ f ≤ M) : mOk (R_spreadsPair (mPr a b e f) M its m) (fun m' => ∃ m1 : aM, (∀ q i, q ≠ 194 → q ≠ 195 → m1 q i = m q i) ∧ mAdd its (mSu (m 177) (m 176 32) M (m 176 33) (mPr a b e f)) m1 m' ∧ ∀ s, mSu (m 177) (m 176 32) M (m 176 33) (mPr a b e f) s → mMk m' s) := by
  have ba := mPv3_bd h ha
  have bb := mPv3_bd h hb
  have pb := mPr_bd ba bb (e := e) (f := f) (by omega) (by omega)
  obtain ⟨d1, d2, d3, d4⟩ := mPr_dec ba bb (e := e) (f := f) (by omega) (by omega)
  unfold R_spreadsPair
  rw [w32e (x := mPr a b e f - 78) (by omega) (by omega), tdiv_nn (a := mPr a b e f - 78) (b := 9) (by omega), tdiv_nn (a := mPr a b e f - 78) (b := 3) (by omega), tmod_nn (a := mPr a b e f - 78) (by omega), w32e (x := (mPr a b e f - 78) / 9) (by omega) (by omega), w32e (x := (mPr a b e f - 78) / 3) (by omega) (by omega), tdiv_nn (by omega), tmod_nn (a := (mPr a b e f - 78) / 9) (by omega), tmod_nn (by omega), d1, d2, d3, d4, w32e (by omega) (by omega)]
  refine mOk_bind (follows_ok (Or.inl rfl) h (Or.inr ha)) (fun r k => ?_)
  obtain ⟨n, m0⟩ := r
  obtain ⟨k1, k2, k3, -, fr0⟩ := k
  dsimp only at k1 k2 k3 fr0 ⊢
  have e177 : m0 177 = m 177 := funext fun i => fr0 _ _ (by omega)
  have fo := follows_ok (p := b) (m := m0) (Or.inr rfl) (by rw [e177]; exact h) (Or.inr (by rw [e177]; exact hb))
  rw [e177, fr0 176 32 (by omega)] at fo
  refine mOk_bind fo (fun r k => ?_)
  obtain ⟨l, m1⟩ := r
  obtain ⟨l1, l2, l3, -, fr1⟩ := k
  dsimp only at l1 l2 l3 fr1 ⊢
  have fr : ∀ q i, q ≠ 194 → q ≠ 195 → m1 q i = m q i := fun q i x y => by rw [fr1 q i y, fr0 q i x]
  have e194 : m1 194 = m0 194 := funext fun i => fr1 _ _ (by omega)
  rw [← e194] at k2 k3
  have e177' : m1 177 = m 177 := funext fun i => fr _ _ (by omega) (by omega)
  have hq1 : mQu m1 := by
    unfold mQu mMk at *
    rw [fr 176 29 (by omega) (by omega), fr 176 30 (by omega) (by omega), show m1 190 = m 190 from funext fun i => fr _ _ (by omega) (by omega), show m1 193 = m 193 from funext fun i => fr _ _ (by omega) (by omega)]
    exact hq
  generalize hS : mSu (m 177) (m 176 32) M (m 176 33) (mPr a b e f) = S at *
  have pv : ∀ i : Int, 0 ≤ i → i < n → mPv3 (m 177) (m1 194 i.toNat) := fun i x y => mNx_v h (Or.inr ha) (k2 i x y)
  have pw : ∀ i : Int, 0 ≤ i → i < l → mPv3 (m 177) (m1 195 i.toNat) := fun i x y => mNx_v h (Or.inr hb) (l2 i x y)
  have fin : ∀ mm : aM, mAdd its S m1 mm → (∀ i j : Int, 0 ≤ i → i < n → 0 ≤ j → j < l → ∀ e' f', mHr (m 177) M (m 176 33) (m1 194 i.toNat) (m1 195 j.toNat) e f e' f' → mMk mm (mPr (m1 194 i.toNat) (m1 195 j.toNat) e' f')) → ∃ m1 : aM, (∀ q i, q ≠ 194 → q ≠ 195 → m1 q i = m q i) ∧ mAdd its S m1 mm ∧ ∀ s, S s → mMk mm s := by
    intro mm a1 g
    refine ⟨m1, fr, a1, fun s hs => ?_⟩
    rw [← hS] at hs
    rcases hs with ⟨x, -⟩ | ⟨a', b', e', f', e1, ⟨ha', hb', he', hf'⟩, p1, p2, e2, f2, q1, q2, q3, rfl⟩
    · exfalso; omega
    · obtain ⟨x1, x2, x3, x4⟩ := mPr_inj ba bb (by omega) (by omega) (mPv3_bd h ha') (mPv3_bd h hb') (by omega) (by omega) e1
      subst x1 x2 x3 x4
      obtain ⟨i, i0, i1, rfl⟩ := k3 p1 q1
      obtain ⟨j, j0, j1, rfl⟩ := l3 p2 q2
      exact g i j i0 i1 j0 j1 e2 f2 q3
  refine mL2 (R_spreadsPair_40 M its f e n l) (fun i mm => (0 ≤ i ∧ i ≤ n) ∧ mAdd its S m1 mm ∧ ∀ i' j : Int, 0 ≤ i' → i' < i → 0 ≤ j → j < l → ∀ e' f', mHr (m 177) M (m 176 33) (m1 194 i'.toNat) (m1 195 j.toNat) e f e' f' → mMk mm (mPr (m1 194 i'.toNat) (m1 195 j.toNat) e' f')) (fun i _ => (14 - i).toNat) ?_ 0 m1 ⟨by omega, mAdd.refl hq1, fun i j x y => by omega⟩ (by omega)
  rintro fu i mm ⟨i1, a1, g⟩ ih
  rw [R_spreadsPair_40]
  by_cases d : i < n
  rotate_left
  · rw [if_neg d]
    exact mOk_some (fin mm a1 (fun i' j x y z w => g i' j x (by omega) z w))
  rw [if_pos d]
  have vi := pv i i1.1 d
  have bi := mPv3_bd h vi
  refine mL2 (R_spreadsPair_45 (R_spreadsPair_40 M its f e n l fu) M its f e n l i) (fun j mm2 => (0 ≤ j ∧ j ≤ l) ∧ mAdd its S mm mm2 ∧ ∀ j' : Int, 0 ≤ j' → j' < j → ∀ e' f', mHr (m 177) M (m 176 33) (m1 194 i.toNat) (m1 195 j'.toNat) e f e' f' → mMk mm2 (mPr (m1 194 i.toNat) (m1 195 j'.toNat) e' f')) (fun j _ => (14 - j).toNat) ?_ 0 mm ⟨by omega, mAdd.refl a1.1, fun j x y => by omega⟩ (by omega)
  rintro fu2 j mm2 ⟨j1, b1, g2⟩ ih2
  have b12 := a1.trans b1
  rw [R_spreadsPair_45]
  by_cases dj : j < l
  · rw [if_pos dj, if_pos (by omega), if_pos (by omega), b12.fr 194 _ (by omega) (by omega) (by omega) (by omega), b12.fr 195 _ (by omega) (by omega) (by omega) (by omega)]
    have e2 : mm2 177 = m 177 := (b12.row (by omega) (by omega) (by omega) (by omega)).trans e177'
    have e3 : mm2 176 33 = m 176 33 := by rw [b12.fr _ _ (by omega) (by omega) (by omega) (by omega), fr _ _ (by omega) (by omega)]
    have vj := pw j j1.1 dj
    have gt := goesTo_ok (a := m1 194 i.toNat) (b := m1 195 j.toNat) (e := e) (f := f) (M := M) (its := its) (m := mm2) (by rw [e2]; exact h) b1.1 (by rw [e2]; exact vi) (by rw [e2]; exact vj) M2 e0 f0
    rw [e2, e3] at gt
    refine mOk_bind gt (fun m3 k3' => ?_)
    obtain ⟨c1, c2⟩ := k3'
    have c1' : mAdd its S mm2 m3 := c1.mono (fun s hs => by
      obtain ⟨e', f', q1, q2⟩ := hs
      rw [← hS]
      exact Or.inr ⟨a, b, e, f, rfl, ⟨ha, hb, e0, f0⟩, _, _, e', f', k2 i i1.1 d, l2 j j1.1 dj, q1, q2⟩)
    rw [w32e (by omega) (by omega)]
    refine ih2 _ _ ⟨by omega, b1.trans c1', fun j' x y e' f' q => ?_⟩ (by omega)
    by_cases ej : j' = j
    · rw [ej] at q ⊢; exact c2 e' f' q
    · have bd := mHr_bd (M := M) e0 f0 q
      have := mPr_bd bi (mPv3_bd h (pw j' x (by omega))) (e := e') (f := f') (by omega) (by omega)
      exact c1'.mk (by omega) this.2 (g2 j' x (by omega) e' f' q)
  · rw [if_neg dj, w32e (by omega) (by omega)]
    refine ih _ _ ⟨by omega, b12, fun i' j' x y z w e' f' q => ?_⟩ (by omega)
    by_cases ei : i' = i
    · rw [ei] at q ⊢; exact g2 j' z (by omega) e' f' q
    · have bd := mHr_bd (M := M) e0 f0 q
      have := mPr_bd (mPv3_bd h (pv i' x (by omega))) (mPv3_bd h (pw j' z w)) (e := e') (f := f') (by omega) (by omega)
      exact b1.mk (by omega) this.2 (g i' j' x (by omega) z w e' f' q)
/-- two sentences have come to their ends -/
def mGl (A : Nat → Int) (M s : Int) : Prop := ∃ a b e f, s = mPr a b e f ∧ (mPv3 A a ∧ mPv3 A b ∧ (0 ≤ e ∧ e ≤ M) ∧ (0 ≤ f ∧ f ≤ M)) ∧ (mEn A a ∧ mKe A (A (45 + a / 6).toNat)) ∧ (mEn A b ∧ mKe A (A (45 + b / 6).toNat))
theorem canEnd_ok {p : Int} {m : aM} (h : mVx (m 177)) (hp : mPv3 (m 177) p) : mOk (R_canEnd p m) (fun r => (r = 0 ∨ r = 1) ∧ (r ≠ 0 ↔ mEn (m 177) p ∧ mKe (m 177) (m 177 (45 + p / 6).toNat))) := by
  have bd := mPv3_bd h hp
  have d3 := (h.2.1 (p / 6) (by omega) hp.2.1).2.1
  unfold R_canEnd
  refine mOk_bind (isEnd_eq h hp) (fun r kr => ?_)
  by_cases c : r = 0
  · rw [if_pos c]
    exact mOk_some ⟨Or.inl rfl, ⟨fun g => absurd rfl g, fun g => absurd c (kr.2.mpr g.1)⟩⟩
  · rw [if_neg c, tdiv_nn bd.1, w32e (x := p / 6) (by omega) (by omega)]
    unfold R_mayEnd mKe
    rw [w32e (x := 45 + p / 6) (by omega) (by omega), if_pos (by omega)]
    by_cases d : iand (ishr (m 177 140) (m 177 (45 + p / 6).toNat)) 1 = 0
    · rw [if_pos d, Option.bind_some, if_neg (by decide)]
      exact mOk_some ⟨Or.inr rfl, ⟨fun _ => ⟨kr.2.mp c, by omega, d⟩, fun _ => by decide⟩⟩
    · rw [if_neg d, Option.bind_some, if_pos rfl]
      exact mOk_some ⟨Or.inl rfl, ⟨fun g => absurd rfl g, fun g => absurd g.2.2 d⟩⟩
theorem isGoal_ok {s M : Int} {m : aM} (h : mVx (m 177)) (M2 : M ≤ 2) (hs : mSv (m 177) M s) : mOk (R_isGoal s m) (fun r => (r = 0 ∨ r = 1) ∧ (r ≠ 0 ↔ mGl (m 177) M s)) := by
  unfold R_isGoal
  by_cases c : s < 78
  · rw [if_pos c]
    refine mOk_some ⟨Or.inl rfl, ⟨fun g => absurd rfl g, fun g => ?_⟩⟩
    obtain ⟨a, b, e, f, rfl, ⟨h1, h2, h3, h4⟩, -⟩ := g
    have := mPr_bd (mPv3_bd h h1) (mPv3_bd h h2) (e := e) (f := f) (by omega) (by omega)
    omega
  rw [if_neg c]
  rcases hs with hs | ⟨a, b, e, f, rfl, h1, h2, h3, h4⟩
  · have := mPv3_bd h hs; omega
  have ba := mPv3_bd h h1
  have bb := mPv3_bd h h2
  have pb := mPr_bd ba bb (e := e) (f := f) (by omega) (by omega)
  obtain ⟨d1, d2, d3, d4⟩ := mPr_dec ba bb (e := e) (f := f) (by omega) (by omega)
  rw [w32e (x := mPr a b e f - 78) (by omega) (by omega), tdiv_nn (a := mPr a b e f - 78) (by omega), w32e (x := (mPr a b e f - 78) / 9) (by omega) (by omega), tdiv_nn (by omega), tmod_nn (by omega), d3, d4, w32e (by omega) (by omega)]
  have un : ∀ P Q : Prop, (mGl (m 177) M (mPr a b e f) ↔ (mEn (m 177) a ∧ mKe (m 177) (m 177 (45 + a / 6).toNat)) ∧ (mEn (m 177) b ∧ mKe (m 177) (m 177 (45 + b / 6).toNat))) := by
    intro _ _
    constructor
    · rintro ⟨a', b', e', f', e1, ⟨g1, g2, g3, g4⟩, g5, g6⟩
      obtain ⟨x1, x2, x3, x4⟩ := mPr_inj ba bb (by omega) (by omega) (mPv3_bd h g1) (mPv3_bd h g2) (by omega) (by omega) e1
      subst x1 x2
      exact ⟨g5, g6⟩
    · rintro ⟨g5, g6⟩
      exact ⟨a, b, e, f, rfl, ⟨h1, h2, h3, h4⟩, g5, g6⟩
  have un' := un True True
  refine mOk_bind (canEnd_ok h h1) (fun r kr => ?_)
  by_cases d : r = 0
  · rw [if_pos d]
    exact mOk_some ⟨Or.inl rfl, ⟨fun g => absurd rfl g, fun g => absurd d (kr.2.mpr (un'.mp g).1)⟩⟩
  rw [if_neg d]
  refine mOk_bind (canEnd_ok h h2) (fun r' kr' => ?_)
  by_cases d' : r' = 0
  · rw [if_pos d']
    exact mOk_some ⟨Or.inl rfl, ⟨fun g => absurd rfl g, fun g => absurd d' (kr'.2.mpr (un'.mp g).2)⟩⟩
  · rw [if_neg d']
    exact mOk_some ⟨Or.inr rfl, ⟨fun _ => un'.mpr ⟨kr.2.mp d, kr'.2.mp d'⟩, fun _ => by decide⟩⟩
