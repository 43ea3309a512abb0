/-! BITS of numbers that are not negative -/
theorem sh_amt {k : Int} (h0 : 0 ≤ k) (h1 : k ≤ 31) : ((Int32.ofInt k &&& 31).toBitVec.smod 32).toNat = k.toNat := by
  have aux : ∀ k : Fin 32, ((Int32.ofInt ((k.val : Nat) : Int) &&& 31).toBitVec.smod 32).toNat = k.val := by decide +kernel
  have := aux ⟨k.toNat, by omega⟩
  simp only [Int.toNat_of_nonneg h0] at this
  exact this
theorem ishr_eq {a k : Int} (ha : in32 a) (h0 : 0 ≤ k) (h1 : k ≤ 31) : ishr a k = a / ((2 ^ k.toNat : Nat) : Int) := by
  unfold ishr
  rw [← Int32.toInt_toBitVec, Int32.toBitVec_shiftRight]
  show ((Int32.ofInt a).toBitVec.sshiftRight _).toInt = _
  rw [sh_amt h0 h1, BitVec.toInt_sshiftRight, Int32.toInt_toBitVec, ofI_in ha, Int.shiftRight_eq_div_pow]
theorem ofI_nat {a : Int} (h0 : 0 ≤ a) (h1 : a < 4294967296) : (Int32.ofInt a).toBitVec.toNat = a.toNat := by
  rw [Int32.toBitVec_ofInt, BitVec.toNat_ofInt, Int.emod_eq_of_lt h0 (by omega)]
theorem toInt_nat {x : Int32} (h : x.toBitVec.toNat < 2147483648) : x.toInt = (x.toBitVec.toNat : Int) := by
  rw [← Int32.toInt_toBitVec]
  exact BitVec.toInt_eq_toNat_of_lt (by omega)
theorem and_lt' {a b n : Nat} (h : a < 2 ^ n) : a &&& b < 2 ^ n := Nat.lt_of_le_of_lt Nat.and_le_left h
theorem iand_nn {a b : Int} (a0 : 0 ≤ a) (a1 : a < 2147483648) (b0 : 0 ≤ b) (b1 : b < 2147483648) : iand a b = ((a.toNat &&& b.toNat : Nat) : Int) := by
  unfold iand
  have e : (Int32.ofInt a &&& Int32.ofInt b).toBitVec.toNat = a.toNat &&& b.toNat := by
    rw [Int32.toBitVec_and, BitVec.toNat_and, ofI_nat a0 (by omega), ofI_nat b0 (by omega)]
  have h : a.toNat &&& b.toNat ≤ a.toNat := Nat.and_le_left
  rw [toInt_nat (by rw [e]; omega), e]
theorem ior_nn {a b : Int} (a0 : 0 ≤ a) (a1 : a < 2147483648) (b0 : 0 ≤ b) (b1 : b < 2147483648) : ior a b = ((a.toNat ||| b.toNat : Nat) : Int) := by
  unfold ior
  have e : (Int32.ofInt a ||| Int32.ofInt b).toBitVec.toNat = a.toNat ||| b.toNat := by
    rw [Int32.toBitVec_or, BitVec.toNat_or, ofI_nat a0 (by omega), ofI_nat b0 (by omega)]
  have h : a.toNat ||| b.toNat < 2 ^ 31 := Nat.or_lt_two_pow (by omega) (by omega)
  rw [toInt_nat (by rw [e]; omega), e]
theorem ishl_one {k : Int} (h0 : 0 ≤ k) (h1 : k ≤ 30) : ishl 1 k = ((2 ^ k.toNat : Nat) : Int) := by
  have aux : ∀ k : Fin 31, ishl 1 ((k.val : Nat) : Int) = ((2 ^ k.val : Nat) : Int) := by decide +kernel
  have := aux ⟨k.toNat, by omega⟩
  simp only [Int.toNat_of_nonneg h0] at this
  exact this
/-- the bit at k -/
theorem bt_eq {a k : Int} (a0 : 0 ≤ a) (a1 : a < 2147483648) (h0 : 0 ≤ k) (h1 : k ≤ 31) : iand (ishr a k) 1 = if a.toNat.testBit k.toNat then 1 else 0 := by
  rw [ishr_eq ⟨by omega, a1⟩ h0 h1]
  have hp : 0 < (2 ^ k.toNat : Nat) := Nat.two_pow_pos _
  have e : a / ((2 ^ k.toNat : Nat) : Int) = ((a.toNat / 2 ^ k.toNat : Nat) : Int) := by
    rw [Int.natCast_ediv, Int.toNat_of_nonneg a0]
  have hl : a.toNat / 2 ^ k.toNat ≤ a.toNat := Nat.div_le_self _ _
  rw [e, Nat.testBit_eq_decide_div_mod_eq]
  generalize a.toNat / 2 ^ k.toNat = d at *
  rw [iand_nn (by omega) (by omega) (by omega) (by omega), Int.toNat_natCast, show (1 : Int).toNat = 1 from rfl, Nat.and_one_is_mod]
  have : d % 2 = 0 ∨ d % 2 = 1 := by omega
  rcases this with h | h <;> rw [h] <;> rfl
theorem bt_ne {a k : Int} (a0 : 0 ≤ a) (a1 : a < 2147483648) (h0 : 0 ≤ k) (h1 : k ≤ 31) : iand (ishr a k) 1 ≠ 0 ↔ a.toNat.testBit k.toNat = true := by
  rw [bt_eq a0 a1 h0 h1]
  cases a.toNat.testBit k.toNat <;> simp
/-- a byte of an int, cut out in two ways -/
theorem w8_mod (x : Int) : w8 (x % 256) = w8 x := by
  unfold w8
  show (x % ((256 : Nat) : Int)).bmod 256 = _
  rw [Int.emod_bmod]
theorem iand255 {a : Int} (h : in32 a) : iand a 255 = a % 256 := by
  unfold iand
  have e : (Int32.ofInt a &&& Int32.ofInt 255).toBitVec.toNat = (a % 256).toNat := by
    rw [Int32.toBitVec_and, BitVec.toNat_and, Int32.toBitVec_ofInt, BitVec.toNat_ofInt]
    rw [show (Int32.ofInt 255).toBitVec.toNat = 2 ^ 8 - 1 from rfl, Nat.and_two_pow_sub_one_eq_mod]
    omega
  rw [toInt_nat (by rw [e]; omega), e]
  omega
theorem byte_cut {v : Int} (h : in32 v) {s : Int} (hs : s = 0 ∨ s = 8 ∨ s = 16 ∨ s = 24) : (0 ≤ iand (ishr v s) 255 ∧ iand (ishr v s) 255 ≤ 255) ∧ w8 (w8 (iushr v s)) = w8 (iand (ishr v s) 255) := by
  have hi : in32 (ishr v s) := toInt_in32 _
  rw [iand255 hi, w8_mod]
  refine ⟨by omega, ?_⟩
  rw [w8_id (w8_in _)]
  have hsh : s = 0 ∨ s ≠ 0 := by omega
  -- the logical shift differs from the other by a multiple of 256
  have key : ∃ q : Int, iushr v s = ishr v s + 256 * q := by
    rw [ishr_eq h (by omega) (by omega)]
    have e : ∀ k : Nat, k < 32 → ((Int32.ofInt v).toUInt32 >>> ((Int32.ofInt (k : Int)).toUInt32 &&& Int32.toUInt32 31)).toInt32.toBitVec.toNat = (v % 4294967296).toNat / 2 ^ k := by
      intro k hk
      have a1 : ((Int32.ofInt (k : Int)).toUInt32 &&& Int32.toUInt32 31).toBitVec % 32 = BitVec.ofNat 32 k := by
        have aux : ∀ k : Fin 32, ((Int32.ofInt ((k.val : Nat) : Int)).toUInt32 &&& Int32.toUInt32 31).toBitVec % 32 = BitVec.ofNat 32 k.val := by decide +kernel
        exact aux ⟨k, hk⟩
      show ((Int32.ofInt v).toUInt32 >>> ((Int32.ofInt (k : Int)).toUInt32 &&& Int32.toUInt32 31)).toBitVec.toNat = _
      rw [UInt32.toBitVec_shiftRight, a1, BitVec.ushiftRight_eq', BitVec.toNat_ushiftRight]
      show ((Int32.ofInt v).toBitVec).toNat >>> (BitVec.ofNat 32 k).toNat = _
      rw [Int32.toBitVec_ofInt, BitVec.toNat_ofInt, BitVec.toNat_ofNat, Nat.mod_eq_of_lt (by omega), Nat.shiftRight_eq_div_pow]
      rfl
    unfold in32 at h
    rcases hs with rfl | rfl | rfl | rfl
    · have e0 := e 0 (by omega)
      refine ⟨0, ?_⟩
      unfold iushr
      rw [← Int32.toInt_toBitVec]
      have : ((Int32.ofInt v).toUInt32 >>> ((Int32.ofInt 0).toUInt32 &&& Int32.toUInt32 31)).toInt32 = Int32.ofInt v := by
        apply Int32.toBitVec_inj.mp
        apply BitVec.eq_of_toNat_eq
        refine e0.trans ?_
        rw [Int32.toBitVec_ofInt, BitVec.toNat_ofInt]
        simp
      rw [this, Int32.toInt_toBitVec, ofI_in h]
      simp
    · have e0 := e 8 (by omega)
      refine ⟨if v < 0 then 65536 else 0, ?_⟩
      unfold iushr
      have e1 : (v % 4294967296).toNat / 2 ^ 8 < 2147483648 := by omega
      rw [toInt_nat (by rw [show (8 : Int) = ((8 : Nat) : Int) from rfl, e0]; exact e1)]
      rw [show (8 : Int) = ((8 : Nat) : Int) from rfl, e0]
      show (((v % 4294967296).toNat / 256 : Nat) : Int) = v / 256 + _
      split <;> omega
    · have e0 := e 16 (by omega)
      refine ⟨if v < 0 then 256 else 0, ?_⟩
      unfold iushr
      have e1 : (v % 4294967296).toNat / 2 ^ 16 < 2147483648 := by omega
      rw [toInt_nat (by rw [show (16 : Int) = ((16 : Nat) : Int) from rfl, e0]; exact e1)]
      rw [show (16 : Int) = ((16 : Nat) : Int) from rfl, e0]
      show (((v % 4294967296).toNat / 65536 : Nat) : Int) = v / 65536 + _
      split <;> omega
    · have e0 := e 24 (by omega)
      refine ⟨if v < 0 then 1 else 0, ?_⟩
      unfold iushr
      have e1 : (v % 4294967296).toNat / 2 ^ 24 < 2147483648 := by omega
      rw [toInt_nat (by rw [show (24 : Int) = ((24 : Nat) : Int) from rfl, e0]; exact e1)]
      rw [show (24 : Int) = ((24 : Nat) : Int) from rfl, e0]
      show (((v % 4294967296).toNat / 16777216 : Nat) : Int) = v / 16777216 + _
      split <;> omega
  obtain ⟨q, hq⟩ := key
  rw [hq]
  unfold w8
  rw [show (256 : Int) * q = ((256 : Nat) : Int) * q from rfl, Int.add_mul_bmod_self_left]
