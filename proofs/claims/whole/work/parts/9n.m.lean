/-! THE WORDS OF A TONGUE, as both searches ask them -/
theorem mVx_of {A A' : Nat → Int} (ht : mTok A) (ha : mAeqT A A') : mVx A' := by
  obtain ⟨c0, c1, c2, c3, c4, c5, c6, c7, c8, -⟩ := ht
  have e18 := ha.w c4.1
  unfold mVx
  rw [e18, ha 140 (by omega) (by omega) (by omega) (by omega)]
  refine ⟨by omega, fun w w0 w1 => ?_, fun k k0 k1 => ?_, c8, fun s s0 s1 => ?_⟩
  · obtain ⟨d1, -, d3, d4⟩ := c5 w w0 w1
    rw [ha (19 + w).toNat (by omega) (by omega) (by omega) (by omega), ha (45 + w).toNat (by omega) (by omega) (by omega) (by omega)]
    refine ⟨d1, d3, fun k k0 k1 => ?_⟩
    rw [ha (58 + 6 * w + k).toNat (by omega) (by omega) (by omega) (by omega)]
    have := d4 k k0 k1
    omega
  · rw [ha (136 + k).toNat (by omega) (by omega) (by omega) (by omega)]; exact c7 k k0 k1
  · rw [ha (10 + s).toNat (by omega) (by omega) (by omega) (by omega)]
    refine ⟨(c3 s s0 s1).1, (c3 s s0 s1).2.1, fun b b0 b1 hb => ?_⟩
    rw [ha (10 + b).toNat (by omega) (by omega) (by omega) (by omega)]
    exact ((c3 s s0 s1).2.2 b b0 b1 hb).2.2.2
theorem ones_bits {W : Int} (w0 : 0 ≤ W) (w1 : W ≤ 13) : (0 ≤ w32 (ishl 1 W - 1) ∧ w32 (ishl 1 W - 1) < 8192) ∧ ∀ i : Nat, (w32 (ishl 1 W - 1)).toNat.testBit i = decide (i < W.toNat) := by
  have hp : (2 : Nat) ^ W.toNat ≤ 2 ^ 13 := Nat.pow_le_pow_right (by omega) (by omega)
  have hq : 0 < (2 : Nat) ^ W.toNat := Nat.two_pow_pos _
  have hi : ((2 ^ W.toNat : Nat) : Int) ≤ 8192 := Int.ofNat_le.mpr hp
  have hj : (1 : Int) ≤ ((2 ^ W.toNat : Nat) : Int) := Int.ofNat_le.mpr hq
  rw [ishl_one w0 (by omega), w32e (by omega) (by omega), show (((2 ^ W.toNat : Nat) : Int) - 1).toNat = 2 ^ W.toNat - 1 by omega]
  exact ⟨by omega, fun i => Nat.testBit_two_pow_sub_one _ _⟩
theorem ld_a {A : Nat → Int} {Z w : Int} {X : aM} (ht : mTok A) (h : mLd A Z X) : xa X w ↔ 0 ≤ w ∧ w < A 18 := by
  have c4 := ht.2.2.2.2.1
  have ob := ones_bits (W := A 18) c4.1 (by omega)
  unfold xa
  rw [h.2.1, ob.2, decide_eq_true_eq]
  omega
theorem ld_f {A : Nat → Int} {Z k w : Int} {X : aM} (ht : mTok A) (h : mLd A Z X) (k0 : 0 ≤ k) (k1 : k ≤ 3) (w0 : 0 ≤ w) (w1 : w < A 18) : xf X k w ↔ mKs A k w := by
  have c7 := ht.2.2.2.2.2.2.2.1 k k0 (by omega)
  have d3 := (ht.2.2.2.2.2.1 w w0 w1).2.2.1
  have b := bt_neg4 c7.1 c7.2 d3.1 d3.2
  have b1 := bt_01 (a := A (136 + k).toNat) (k := A (45 + w).toNat)
  unfold xf mKs
  rw [h.2.2.2.2.1 k k0 (by omega), (h.2.2.2.2.2 w w0 w1).1, b]
  constructor
  · intro g; right; omega
  · rintro (g | g) <;> omega
theorem ld_e {A : Nat → Int} {Z k : Int} {X : aM} (ht : mTok A) (h : mLd A Z X) (k0 : 0 ≤ k) (k1 : k ≤ 3) : xe X k ↔ mKe A k := by
  have c8 := ht.2.2.2.2.2.2.2.2.1
  have b := bt_neg4 c8.1 c8.2 k0 k1
  have b1 := bt_01 (a := A 140) (k := k)
  unfold xe mKe
  rw [h.2.2.1, b]
  constructor
  · intro g; exact ⟨by omega, by omega⟩
  · rintro ⟨-, g⟩; omega
theorem ld_l {A : Nat → Int} {w : Int} {X : aM} (ht : mTok A) (h : mLd A 0 X) (w0 : 0 ≤ w) (w1 : w < A 18) : xl X w = A (19 + w).toNat := by
  have d3 := (ht.2.2.2.2.2.1 w w0 w1).2.2.1
  have z := bt_0 (k := A (45 + w).toNat) (by omega) (by omega)
  rcases (h.2.2.2.2.2 w w0 w1).2.2 with g | g
  · exact g.2
  · exact absurd z g.1
theorem ld_v {A : Nat → Int} {X : aM} (ht : mTok A) (h : mLd A 0 X) : mTv X := by
  have c0 := ht.1
  have c4 := ht.2.2.2.2.1
  have ob := ones_bits (W := A 18) c4.1 (by omega)
  have c8 := ht.2.2.2.2.2.2.2.2.1
  refine ⟨by rw [h.2.1]; exact ob.1, fun w aw => ?_, fun k k0 k1 => ?_, by rw [h.2.2.1]; omega⟩
  · obtain ⟨w0, w1⟩ := (ld_a ht h).mp aw
    obtain ⟨d1, -, d3, d4⟩ := ht.2.2.2.2.2.1 w w0 w1
    have el := ld_l ht h w0 w1
    obtain ⟨g1, g2, -⟩ := h.2.2.2.2.2 w w0 w1
    refine ⟨by omega, by unfold xk; omega, fun k k0 k1 => ?_⟩
    rw [el] at k1
    unfold xs
    rw [g2 k k0 k1]
    have := d4 k k0 k1
    omega
  · have := ht.2.2.2.2.2.2.2.1 k k0 k1
    rw [h.2.2.2.2.1 k k0 k1]
    omega
theorem ld_xa {A A' : Nat → Int} {X : aM} (ht : mTok A) (ha : mAeqT A A') (h : mLd A 0 X) : mXA X A' 0 := by
  have c4 := ht.2.2.2.2.1
  have c9 := ht.2.2.2.2.2.2.2.1
  have e18 := ha.w c4.1
  have ac : ∀ w, mAc A' 0 w ↔ 0 ≤ w ∧ w < A 18 := by
    intro w
    unfold mAc
    rw [e18]
    constructor
    · rintro ⟨a, b, -⟩; exact ⟨a, b⟩
    · rintro ⟨a, b⟩
      have := bt_0 (k := w) a (by omega)
      exact ⟨a, b, by omega⟩
  have a45 : ∀ w : Int, 0 ≤ w → w < A 18 → A' (45 + w).toNat = A (45 + w).toNat := fun w w0 w1 => ha _ (by omega) (by omega) (by omega) (by omega)
  have a136 : ∀ k : Int, 0 ≤ k → k ≤ 3 → A' (136 + k).toNat = A (136 + k).toNat := fun k k0 k1 => ha _ (by omega) (by omega) (by omega) (by omega)
  refine ⟨fun w => (ld_a ht h).trans (ac w).symm, fun w aw => ?_, fun k w k0 k1 aw => ?_, fun k k0 k1 => ?_, fun x x0 x1 => ?_⟩
  · obtain ⟨w0, w1⟩ := (ac w).mp aw
    have d1 := (ht.2.2.2.2.2.1 w w0 w1).1
    have a19 : A' (19 + w).toNat = A (19 + w).toNat := ha _ (by omega) (by omega) (by omega) (by omega)
    obtain ⟨g1, g2, -⟩ := h.2.2.2.2.2 w w0 w1
    rw [a45 w w0 w1, a19]
    refine ⟨g1, ld_l ht h w0 w1, fun k k0 k1 => ?_⟩
    rw [ha (58 + 6 * w + k).toNat (by omega) (by omega) (by omega) (by omega)]
    exact g2 k k0 k1
  · obtain ⟨w0, w1⟩ := (ac w).mp aw
    rw [ld_f ht h k0 k1 w0 w1]
    unfold mKs
    rw [a45 w w0 w1, a136 k k0 k1]
  · rw [ld_e ht h k0 k1]
    unfold mKe
    rw [ha 140 (by omega) (by omega) (by omega) (by omega)]
  · rw [h.2.2.2.1 x x0 x1]
    exact (ha _ (by omega) (by omega) (by omega) (by omega)).symm
theorem xa_sym {X : aM} {A : Nat → Int} {O M : Int} (hA : mVx A) (h : mXA X A O) : xSym X M := by
  refine Or.inr (fun w i v j aw i0 i1 av j0 j1 g => ?_)
  have aw' := (h.1 w).mp aw
  have av' := (h.1 v).mp av
  obtain ⟨-, l1, s1⟩ := h.2.1 w aw'
  obtain ⟨-, l2, s2⟩ := h.2.1 v av'
  have b1 := (hA.2.1 w aw'.1 aw'.2.1).2.2 i i0 (by omega)
  have b2 := (hA.2.1 v av'.1 av'.2.1).2.2 j j0 (by omega)
  rw [s1 i i0 (by omega), s2 j j0 (by omega)] at g ⊢
  unfold xi at *
  rw [h.2.2.2.2 _ b1.1 b1.2] at g
  rw [h.2.2.2.2 _ b2.1 b2.2]
  exact (hA.2.2.2.2 _ b1.1 b1.2).2.2 _ b2.1 b2.2 g
