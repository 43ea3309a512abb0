/-! SURE OR NOT: what both searches say, without the length -/
/-- the reference finds no two: words out O, stops Z, M mistakes -/
def mSur (A : Nat → Int) (O M Z : Int) : Prop := ∀ (n : Nat) (s : Int), mRq A O M Z n s → ¬ mGl A M s
theorem mLst_ex (P : Nat → Prop) : ∃ r, mLst P r := by
  by_cases h : ∃ n, P n
  · obtain ⟨n, hn⟩ := h
    induction n using Nat.strongRecOn with
    | ind n ih =>
      by_cases c : ∃ k, k < n ∧ P k
      · obtain ⟨k, k1, k2⟩ := c
        exact ih k k1 k2
      · exact ⟨(n : Int), Or.inr ⟨n, rfl, hn, fun n' g => Nat.le_of_not_lt (fun l => c ⟨n', l, g⟩)⟩⟩
  · exact ⟨-1, Or.inl ⟨rfl, fun n g => h ⟨n, g⟩⟩⟩
theorem mLst_no {P : Nat → Prop} {r : Int} (h : mLst P r) : r = -1 ↔ ∀ n, ¬ P n := by
  rcases h with ⟨a, b⟩ | ⟨n, a, b, -⟩
  · exact ⟨fun _ => b, fun _ => a⟩
  · exact ⟨fun g => by omega, fun g => absurd b (g n)⟩
theorem isSure_ok {M : Int} {m : aM} (h : mVx (m 177)) (M0 : 0 ≤ M) (M2 : M ≤ 2) (mk : 0 ≤ m 176 30 ∧ m 176 30 ≤ 2000000) (mb : ∀ s : Nat, m 193 s ≤ m 176 30) : mOk (R_isSure M m) (fun r => ((r.1 = 1 ∧ mSur (m 177) (m 176 32) M (m 176 33)) ∨ (r.1 = 0 ∧ ¬ mSur (m 177) (m 176 32) M (m 176 33))) ∧ (∀ q i, ¬(189 ≤ q ∧ q ≤ 195) → ¬(q = 176 ∧ (29 ≤ i ∧ i ≤ 31)) → r.2 q i = m q i) ∧ r.2 176 30 = m 176 30 + 1 ∧ ∀ s : Nat, r.2 193 s ≤ r.2 176 30) := by
  unfold R_isSure
  refine mOk_bind (unsureOf_ok h M0 M2 mk mb) (fun r k => ?_)
  obtain ⟨k1, k2, k3, kk, bf, ans⟩ := k
  have l := mLst_no (unsureOf_ans h M0 M2 bf ans)
  have fr : ∀ q i, ¬(189 ≤ q ∧ q ≤ 195) → ¬(q = 176 ∧ (29 ≤ i ∧ i ≤ 31)) → r.2 q i = m q i := fun q i a b => k1 q i (by omega) (by omega) (by omega) (by omega) (by omega) (by omega)
  by_cases c : r.1 = -1
  · rw [if_pos c]
    exact mOk_some ⟨Or.inl ⟨rfl, fun n s a b => l.mp c n ⟨s, a, b⟩⟩, fr, k2, k3⟩
  · rw [if_neg c]
    exact mOk_some ⟨Or.inr ⟨rfl, fun g => c (l.mpr (fun n ⟨s, a, b⟩ => g n s a b))⟩, fr, k2, k3⟩
theorem shs_ok {X : aM} {M : Int} (hv : mTv X) (hM : mM3 M) : mOk (Twins_shortest M X) (fun r => mFt X r.2 ∧ ∀ A O, mVx A → mXA X A O → (r.1 = -1 ↔ mSur A O M 0)) := by
  refine mOk_mono (shortest_ok hM hv) (fun r k => ?_)
  refine ⟨k.1, fun A O hA xa => ?_⟩
  obtain ⟨r', hr'⟩ := mLst_ex (fun n => ∃ s, mRq A O M 0 n s ∧ mGl A M s)
  rw [search_eq hA hv (xa_sym hA xa) xa hM (shortest_ans hv hM k.2) hr', mLst_no hr']
  exact ⟨fun g n s a b => g n ⟨s, a, b⟩, fun g n ⟨s, a, b⟩ => g n s a b⟩
/-- how many of thirteen bits -/
def pcn (x : Int) : Int := mSum (fun k => iand (ishr x k) 1) 13
theorem pcn_nn (x : Int) : 0 ≤ pcn x := mSum_nn (fun i => bt_nn x i) 13
theorem pcn_R (x : Int) (m : aM) : R_bitsOf x m = some (pcn x) := by
  have key : mOk (R_bitsOf x m) (fun r => r = pcn x) := by
    unfold R_bitsOf
    refine mL2 (R_bitsOf_4 m x) (fun c k => (0 ≤ k ∧ k ≤ 13) ∧ c = mSum (fun k => iand (ishr x k) 1) k.toNat ∧ (0 ≤ c ∧ c ≤ k)) (fun _ k => (14 - k).toNat) ?_ 0 0 ⟨by omega, rfl, by omega⟩ (by omega)
    rintro fu c k ⟨k1, e, c1⟩ ih
    have b := bt_01 (a := x) (k := k)
    rw [R_bitsOf_4]
    by_cases d : k < 13
    · rw [if_pos d, w32e (by omega) (by omega), w32e (by omega) (by omega)]
      exact ih _ _ ⟨by omega, by rw [mSum_s k1.1, e], by omega⟩ (by omega)
    · rw [if_neg d]
      refine mOk_some ?_
      rw [e, show k = 13 by omega]; rfl
  obtain ⟨r, a, b⟩ := key
  rw [a, b]
set_option maxRecDepth 100000 in
theorem bc_all : ∀ a b c : Fin 16, Jint_bitCount (((256 * a.val + 16 * b.val + c.val : Nat)) : Int) (fun _ _ => 0) = some (pcn ((256 * a.val + 16 * b.val + c.val : Nat) : Int)) := by decide +kernel
theorem pcn_J {x : Int} (x0 : 0 ≤ x) (x1 : x < 4096) (m : aM) : Jint_bitCount x m = some (pcn x) := by
  have k := bc_all ⟨x.toNat / 256, by omega⟩ ⟨x.toNat / 16 % 16, by omega⟩ ⟨x.toNat % 16, by omega⟩
  dsimp only at k
  rw [show 256 * (x.toNat / 256) + 16 * (x.toNat / 16 % 16) + x.toNat % 16 = x.toNat by omega, Int.toNat_of_nonneg x0] at k
  exact k
theorem andnot_bits {o b : Int} (o0 : 0 ≤ o) (o1 : o < 8192) (b0 : 0 ≤ b) (b1 : b < 8192) : (0 ≤ iand o (ixor b (-1)) ∧ iand o (ixor b (-1)) < 8192) ∧ ∀ i, (iand o (ixor b (-1))).toNat.testBit i = (o.toNat.testBit i && !b.toNat.testBit i) := by
  have e : (Int32.ofInt o &&& Int32.ofInt (ixor b (-1))).toBitVec.toNat = o.toNat &&& (b.toNat ^^^ 4294967295) := by
    unfold ixor
    rw [Int32.ofInt_toInt, Int32.toBitVec_and, BitVec.toNat_and, Int32.toBitVec_xor, BitVec.toNat_xor, ofI_nat o0 (by omega), ofI_nat b0 (by omega)]
    rfl
  have h : o.toNat &&& (b.toNat ^^^ 4294967295) ≤ o.toNat := Nat.and_le_left
  have e2 : iand o (ixor b (-1)) = ((o.toNat &&& (b.toNat ^^^ 4294967295) : Nat) : Int) := by
    unfold iand
    rw [toInt_nat (by rw [e]; omega), e]
  rw [e2, Int.toNat_natCast]
  refine ⟨by omega, fun i => ?_⟩
  rw [Nat.testBit_and, Nat.testBit_xor, show (4294967295 : Nat) = 2 ^ 32 - 1 from rfl, Nat.testBit_two_pow_sub_one]
  by_cases c : i < 32
  · rw [decide_eq_true c, Bool.xor_true]
  · have : o.toNat.testBit i = false := Nat.testBit_lt_two_pow (Nat.lt_of_lt_of_le (show o.toNat < 2 ^ 32 by omega) (Nat.pow_le_pow_right (by omega) (by omega)))
    rw [this, Bool.false_and, Bool.false_and]
/-- some words are left out -/
theorem lo_v {A : Nat → Int} {X X1 : aM} {s : Int} (ht : mTok A) (h : mLd A 0 X) (s0 : 0 ≤ s) (s1 : s < 4096) (f : ∀ q i, 82 ≤ q → q ≤ 98 → X1 q i = X q i) (e1 : X1 80 1 = iand (w32 (ishl 1 (A 18) - 1)) (ixor s (-1))) (e2 : X1 80 2 = X 80 2) : mTv X1 ∧ ∀ A', mAeqT A A' → mXA X1 A' s := by
  have c4 := ht.2.2.2.2.1
  have ob := ones_bits (W := A 18) c4.1 (by omega)
  have an := andnot_bits (o := w32 (ishl 1 (A 18) - 1)) (b := s) ob.1.1 ob.1.2 s0 (by omega)
  have xa1 : ∀ w, xa X1 w ↔ xa X w ∧ s.toNat.testBit w.toNat = false := by
    intro w
    unfold xa
    rw [e1, an.2, h.2.1, Bool.and_eq_true, Bool.not_eq_true']
    constructor
    · rintro ⟨a, b, c, d⟩; exact ⟨⟨a, b, c⟩, d⟩
    · rintro ⟨⟨a, b, c⟩, d⟩; exact ⟨a, b, c, d⟩
  have l1 : ∀ w, xl X1 w = xl X w := fun w => f _ _ (by omega) (by omega)
  have k1 : ∀ w, xk X1 w = xk X w := fun w => f _ _ (by omega) (by omega)
  have f1 : ∀ k w, xf X1 k w ↔ xf X k w := fun k w => by unfold xf; rw [f 97 _ (by omega) (by omega), f 96 _ (by omega) (by omega)]
  have g1 : ∀ k, xe X1 k ↔ xe X k := fun k => by unfold xe; rw [e2]
  have hv := ld_v ht h
  refine ⟨⟨by rw [e1]; exact an.1, fun w aw => ?_, fun k k0 k1 => ?_, by rw [e2]; exact hv.2.2.2⟩, fun A' ha => ?_⟩
  · have aw' := (xa1 w).mp aw
    have := hv.2.1 w aw'.1
    rw [l1, k1]
    refine ⟨this.1, this.2.1, fun k k0 k1 => ?_⟩
    have e : xs X1 w k = xs X w k := f _ _ (by omega) (by have := aw.1; have := aw.2.1; omega)
    rw [e]; exact this.2.2 k k0 k1
  · rw [f 97 _ (by omega) (by omega)]; exact hv.2.2.1 k k0 k1
  · have xx := ld_xa ht ha h
    have ac : ∀ w, mAc A' s w ↔ mAc A' 0 w ∧ s.toNat.testBit w.toNat = false := by
      intro w
      have e18 := ha.w c4.1
      unfold mAc
      rw [e18]
      constructor
      · rintro ⟨a, b, c⟩
        have z := bt_0 (k := w) a (by omega)
        refine ⟨⟨a, b, by omega⟩, ?_⟩
        have bb := bt_eq (a := s) (k := w) s0 (by omega) a (by omega)
        cases d : s.toNat.testBit w.toNat with
        | false => rfl
        | true => rw [d, if_pos rfl] at bb; exact absurd bb c
      · rintro ⟨⟨a, b, c⟩, d⟩
        have bb := bt_eq (a := s) (k := w) s0 (by omega) a (by omega)
        rw [d] at bb
        exact ⟨a, b, by rw [bb]; decide⟩
    refine ⟨fun w => by rw [xa1, ac, xx.1], fun w aw => ?_, fun k w k0 k1 aw => by rw [f1]; exact xx.2.2.1 k w k0 k1 ((ac w).mp aw).1, fun k k0 k1 => by rw [g1]; exact xx.2.2.2.1 k k0 k1, fun x x0 x1 => by rw [f 98 _ (by omega) (by omega)]; exact xx.2.2.2.2 x x0 x1⟩
    obtain ⟨y1, y2, y3⟩ := xx.2.1 w ((ac w).mp aw).1
    rw [k1, l1]
    refine ⟨y1, y2, fun k k0 k1 => ?_⟩
    have e18 := ha.w c4.1
    have e : xs X1 w k = xs X w k := f _ _ (by omega) (by have := aw.1; have := aw.2.1; omega)
    rw [e]; exact y3 k k0 k1
