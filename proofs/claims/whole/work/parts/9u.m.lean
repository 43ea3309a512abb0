/-! the words of a row, as the class holds them -/
def mLv (A : Nat → Int) (X : aM) : Prop := ((0 ≤ X 80 1 ∧ X 80 1 < 8192) ∧ ∀ w : Int, 0 ≤ w → w < 13 → ((X 80 1).toNat.testBit w.toNat = true ↔ w < A 18)) ∧ X 80 2 = 15 - A 140 ∧ (∀ x : Int, 0 ≤ x → x < 8 → X 98 x.toNat = A (10 + x).toNat) ∧ (∀ k : Int, 0 ≤ k → k < 4 → X 97 k.toNat = 15 - A (136 + k).toNat) ∧ ∀ w : Int, 0 ≤ w → w < A 18 → X 96 w.toNat = A (45 + w).toNat ∧ X 95 w.toNat = A (19 + w).toNat ∧ ∀ k : Int, 0 ≤ k → k < A (19 + w).toNat → X (82 + w.toNat) k.toNat = A (58 + 6 * w + k).toNat
theorem lv_ok {A : Nat → Int} {X : aM} (hA : mVx A) (h : mLv A X) : mTv X ∧ mXA X A 0 := by
  obtain ⟨a1, a2, a3, a4, a5⟩ := hA
  obtain ⟨⟨b0, b1⟩, b2, b3, b4, b5⟩ := h
  have xa1 : ∀ w, xa X w ↔ 0 ≤ w ∧ w < A 18 := by
    intro w
    unfold xa
    constructor
    · rintro ⟨p, q, r⟩; exact ⟨p, (b1 w p q).mp r⟩
    · rintro ⟨p, q⟩; exact ⟨p, by omega, (b1 w p (by omega)).mpr q⟩
  have ac : ∀ w, mAc A 0 w ↔ 0 ≤ w ∧ w < A 18 := by
    intro w
    unfold mAc
    constructor
    · rintro ⟨a, b, -⟩; exact ⟨a, b⟩
    · rintro ⟨a, b⟩
      have := bt_0 (k := w) a (by omega)
      exact ⟨a, b, by omega⟩
  refine ⟨⟨b0, fun w aw => ?_, fun k k0 k1 => ?_, by rw [b2]; omega⟩, fun w => (xa1 w).trans (ac w).symm, fun w aw => ?_, fun k w k0 k1 aw => ?_, fun k k0 k1 => ?_, b3⟩
  · obtain ⟨w0, w1⟩ := (xa1 w).mp aw
    obtain ⟨c1, c2, c3⟩ := b5 w w0 w1
    obtain ⟨d1, d2, d3⟩ := a2 w w0 w1
    refine ⟨by unfold xl; omega, by unfold xk; omega, fun k k0 k1 => ?_⟩
    unfold xl at k1
    unfold xs
    have := d3 k k0 (by omega)
    rw [c3 k k0 (by omega)]
    omega
  · have := a3 k k0 k1
    rw [b4 k k0 k1]; omega
  · obtain ⟨w0, w1⟩ := (ac w).mp aw
    obtain ⟨c1, c2, c3⟩ := b5 w w0 w1
    exact ⟨c1, c2, c3⟩
  · obtain ⟨w0, w1⟩ := (ac w).mp aw
    have c7 := a3 k k0 (by omega)
    have d3 := (a2 w w0 w1).2.1
    have b := bt_neg4 c7.1 c7.2 d3.1 d3.2
    have b1 := bt_01 (a := A (136 + k).toNat) (k := A (45 + w).toNat)
    unfold xf mKs
    rw [b4 k k0 (by omega), (b5 w w0 w1).1, b]
    constructor
    · intro g; right; omega
    · rintro (g | g) <;> omega
  · have b := bt_neg4 a4.1 a4.2 k0 k1
    have b1 := bt_01 (a := A 140) (k := k)
    unfold xe mKe
    rw [b2, b]
    constructor
    · intro g; exact ⟨by omega, by omega⟩
    · rintro ⟨-, g⟩; omega
theorem lv_of {A A' : Nat → Int} {X : aM} (ht : mTok A) (ha : mAeqT A A') (h : mLd A 0 X) : mLv A' X := by
  have c4 := ht.2.2.2.2.1
  have e18 := ha.w c4.1
  have ob := ones_bits (W := A 18) c4.1 (by omega)
  refine ⟨⟨by rw [h.2.1]; exact ob.1, fun w w0 w1 => ?_⟩, ?_, fun x x0 x1 => ?_, fun k k0 k1 => ?_, fun w w0 w1 => ?_⟩
  · rw [h.2.1, ob.2, decide_eq_true_eq, e18]; omega
  · rw [h.2.2.1, ha 140 (by omega) (by omega) (by omega) (by omega)]
  · rw [h.2.2.2.1 x x0 x1, ha (10 + x).toNat (by omega) (by omega) (by omega) (by omega)]
  · rw [h.2.2.2.2.1 k k0 k1, ha (136 + k).toNat (by omega) (by omega) (by omega) (by omega)]
  · rw [e18] at w1
    have d1 := (ht.2.2.2.2.2.1 w w0 w1).1
    have a19 : A' (19 + w).toNat = A (19 + w).toNat := ha _ (by omega) (by omega) (by omega) (by omega)
    obtain ⟨g1, g2, -⟩ := h.2.2.2.2.2 w w0 w1
    rw [a19, ha (45 + w).toNat (by omega) (by omega) (by omega) (by omega)]
    refine ⟨g1, ld_l ht h w0 w1, fun k k0 k1 => ?_⟩
    rw [ha (58 + 6 * w + k).toNat (by omega) (by omega) (by omega) (by omega)]
    exact g2 k k0 k1
/-- what the class says of words that a row tells -/
theorem shv_ok {X : aM} {M : Int} {A : Nat → Int} (hA : mVx A) (h : mLv A X) (hM : mM3 M) : mOk (Twins_shortest M X) (fun r => mFt X r.2 ∧ ∀ A', mVx A' → mLv A' X → (r.1 = -1 ↔ mSur A' 0 M 0)) := by
  refine mOk_mono (shs_ok (lv_ok hA h).1 hM) (fun r k => ⟨k.1, fun A' hA' h' => k.2 A' 0 hA' (lv_ok hA' h').2⟩)
/-! whether a word is there twice -/
def mTwi (A : Nat → Int) (w v : Int) : Prop := v ≠ w ∧ A (19 + v).toNat = A (19 + w).toNat ∧ ∀ k : Int, 0 ≤ k → k < A (19 + w).toNat → A (58 + 6 * v + k).toNat = A (58 + 6 * w + k).toNat
theorem isThere_ok {w : Int} {m : aM} (a0 : 0 ≤ m 177 18 ∧ m 177 18 ≤ 13) (w0 : 0 ≤ w) (w1 : w ≤ 12) (l0 : 1 ≤ m 177 (19 + w).toNat ∧ m 177 (19 + w).toNat ≤ 6) : mOk (R_isThere w m) (fun r => (r = 1 ∧ ∃ v, 0 ≤ v ∧ v < m 177 18 ∧ mTwi (m 177) w v) ∨ (r = 0 ∧ ∀ v, 0 ≤ v → v < m 177 18 → ¬ mTwi (m 177) w v)) := by
  unfold R_isThere
  refine mL1 (R_isThere_2 m w) (fun v => (0 ≤ v ∧ v ≤ m 177 18) ∧ ∀ u, 0 ≤ u → u < v → ¬ mTwi (m 177) w u) (fun v => (14 - v).toNat) ?_ 0 ⟨by omega, fun u a b => by omega⟩ (by omega)
  rintro fu v ⟨v1, hv⟩ ih
  rw [R_isThere_2]
  by_cases c : v < m 177 18
  rotate_left
  · rw [if_neg c]
    exact mOk_some (Or.inr ⟨rfl, fun u a b => hv u a (by omega)⟩)
  rw [if_pos c]
  have hit : mTwi (m 177) w v → mOk (R_isThere_67 m (R_isThere_2 m w fu) w v 1) (fun r => (r = 1 ∧ ∃ v, 0 ≤ v ∧ v < m 177 18 ∧ mTwi (m 177) w v) ∨ (r = 0 ∧ ∀ v, 0 ≤ v → v < m 177 18 → ¬ mTwi (m 177) w v)) := by
    intro g
    unfold R_isThere_67
    rw [if_neg (by decide)]
    exact mOk_some (Or.inl ⟨rfl, v, v1.1, c, g⟩)
  have miss : ¬ mTwi (m 177) w v → mOk (R_isThere_67 m (R_isThere_2 m w fu) w v 0) (fun r => (r = 1 ∧ ∃ v, 0 ≤ v ∧ v < m 177 18 ∧ mTwi (m 177) w v) ∨ (r = 0 ∧ ∀ v, 0 ≤ v → v < m 177 18 → ¬ mTwi (m 177) w v)) := by
    intro g
    unfold R_isThere_67
    rw [if_pos rfl, w32e (by omega) (by omega)]
    refine ih _ ⟨by omega, fun u a b => ?_⟩ (by omega)
    by_cases e : u = v
    · rw [e]; exact g
    · exact hv u a (by omega)
  have i19 : w32 (19 + w) = 19 + w := w32e (by omega) (by omega)
  have no : ¬ (v ≠ w ∧ m 177 (19 + v).toNat = m 177 (19 + w).toNat) → mOk (R_isThere_26 m (R_isThere_2 m w fu) w v) (fun r => (r = 1 ∧ ∃ v, 0 ≤ v ∧ v < m 177 18 ∧ mTwi (m 177) w v) ∨ (r = 0 ∧ ∀ v, 0 ≤ v → v < m 177 18 → ¬ mTwi (m 177) w v)) := by
    intro g
    unfold R_isThere_26 R_isThere_27
    show mOk (R_isThere_30 m (R_isThere_2 m w fu) w v (999999 + 1) 0 0) _
    rw [R_isThere_30, i19, if_pos (by omega), if_pos (by omega), if_pos rfl]
    exact miss (fun t => g ⟨t.1, t.2.1⟩)
  by_cases e : v = w
  · rw [if_pos e]
    exact no (fun g => g.1 e)
  rw [if_neg e, w32e (x := 19 + v) (by omega) (by omega), if_pos (by omega), i19, if_pos (by omega)]
  by_cases l : m 177 (19 + v).toNat = m 177 (19 + w).toNat
  rotate_left
  · rw [if_neg l]
    exact no (fun g => l g.2)
  rw [if_pos l]
  unfold R_isThere_27
  refine mL2 (R_isThere_30 m (R_isThere_2 m w fu) w v) (fun is k => (0 ≤ k ∧ k ≤ m 177 (19 + w).toNat) ∧ ((is = 1 ∧ ∀ j : Int, 0 ≤ j → j < k → m 177 (58 + 6 * v + j).toNat = m 177 (58 + 6 * w + j).toNat) ∨ (is = 0 ∧ ¬ mTwi (m 177) w v))) (fun _ k => (7 - k).toNat) ?_ 1 0 ⟨by omega, Or.inl ⟨rfl, fun j a b => by omega⟩⟩ (by omega)
  rintro fu2 is k ⟨k1, hk⟩ ih2
  rw [R_isThere_30, i19, if_pos (by omega)]
  by_cases d : k < m 177 (19 + w).toNat
  · rw [if_pos d]
    by_cases z : is = 0
    · rw [if_pos z, z]
      exact miss (hk.resolve_left (fun g => by omega)).2
    rw [if_neg z, w32e (x := 6 * v) (by omega) (by omega), w32e (x := 58 + 6 * v) (by omega) (by omega), w32e (x := 58 + 6 * v + k) (by omega) (by omega), if_pos (by omega), w32e (x := 6 * w) (by omega) (by omega), w32e (x := 58 + 6 * w) (by omega) (by omega), w32e (x := 58 + 6 * w + k) (by omega) (by omega), if_pos (by omega)]
    unfold R_isThere_64
    rw [w32e (by omega) (by omega)]
    have hk' := (hk.resolve_right (fun g => z g.1)).2
    by_cases y : m 177 (58 + 6 * v + k).toNat = m 177 (58 + 6 * w + k).toNat
    · rw [if_pos y]
      refine ih2 _ _ ⟨by omega, Or.inl ⟨rfl, fun j a b => ?_⟩⟩ (by omega)
      by_cases ej : j = k
      · rw [ej]; exact y
      · exact hk' j a (by omega)
    · rw [if_neg y]
      exact ih2 _ _ ⟨by omega, Or.inr ⟨rfl, fun g => y (g.2.2 k k1.1 d)⟩⟩ (by omega)
  · rw [if_neg d]
    rcases hk with ⟨z, g⟩ | ⟨z, g⟩
    · rw [z]; exact hit ⟨e, l, fun j a b => g j a (by omega)⟩
    · rw [z]; exact miss g
