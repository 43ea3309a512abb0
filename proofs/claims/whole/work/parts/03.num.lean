/-! NUMBERS OF THE ABSTRACT MACHINE: an int and a long are Ints in their range -/
def w32 (x : Int) : Int := x.bmod 4294967296
def w64 (x : Int) : Int := x.bmod 18446744073709551616
def w16 (x : Int) : Int := x.bmod 65536
def w8 (x : Int) : Int := x.bmod 256
def in32 (x : Int) : Prop := -2147483648 ≤ x ∧ x < 2147483648
def in64 (x : Int) : Prop := -9223372036854775808 ≤ x ∧ x < 9223372036854775808
theorem w32_in (x : Int) : in32 (w32 x) := by
  unfold in32 w32
  have h1 := Int.le_bmod (x := x) (m := 4294967296) (by decide)
  have h2 := Int.bmod_lt (x := x) (m := 4294967296) (by decide)
  omega
theorem w64_in (x : Int) : in64 (w64 x) := by
  unfold in64 w64
  have h1 := Int.le_bmod (x := x) (m := 18446744073709551616) (by decide)
  have h2 := Int.bmod_lt (x := x) (m := 18446744073709551616) (by decide)
  omega
theorem w16_in (x : Int) : -32768 ≤ w16 x ∧ w16 x < 32768 := by
  unfold w16
  have h1 := Int.le_bmod (x := x) (m := 65536) (by decide)
  have h2 := Int.bmod_lt (x := x) (m := 65536) (by decide)
  omega
theorem w8_in (x : Int) : -128 ≤ w8 x ∧ w8 x < 128 := by
  unfold w8
  have h1 := Int.le_bmod (x := x) (m := 256) (by decide)
  have h2 := Int.bmod_lt (x := x) (m := 256) (by decide)
  omega
theorem w32_id {x : Int} (h : in32 x) : w32 x = x := by
  unfold in32 at h
  unfold w32
  rw [Int.bmod_eq_of_le] <;> omega
theorem w64_id {x : Int} (h : in64 x) : w64 x = x := by
  unfold in64 at h
  unfold w64
  rw [Int.bmod_eq_of_le] <;> omega
theorem w16_id {x : Int} (h : -32768 ≤ x ∧ x < 32768) : w16 x = x := by
  unfold w16
  rw [Int.bmod_eq_of_le] <;> omega
theorem w8_id {x : Int} (h : -128 ≤ x ∧ x < 128) : w8 x = x := by
  unfold w8
  rw [Int.bmod_eq_of_le] <;> omega
theorem toInt_in32 (x : Int32) : in32 x.toInt := ⟨by have := x.le_toInt; omega, by have := x.toInt_lt; omega⟩
theorem toInt_in64 (x : Int64) : in64 x.toInt := ⟨by have := x.le_toInt; omega, by have := x.toInt_lt; omega⟩
theorem ofI_toInt (x : Int) : (Int32.ofInt x).toInt = w32 x := Int32.toInt_ofInt
theorem ofL_toInt (x : Int) : (Int64.ofInt x).toInt = w64 x := Int64.toInt_ofInt
theorem ofI_w (x : Int) : Int32.ofInt (w32 x) = Int32.ofInt x := by
  apply Int32.toInt_inj.mp
  rw [ofI_toInt, ofI_toInt]
  exact w32_id (w32_in x)
theorem ofL_w (x : Int) : Int64.ofInt (w64 x) = Int64.ofInt x := by
  apply Int64.toInt_inj.mp
  rw [ofL_toInt, ofL_toInt]
  exact w64_id (w64_in x)
theorem ofI_in {x : Int} (h : in32 x) : (Int32.ofInt x).toInt = x := by rw [ofI_toInt, w32_id h]
theorem ofL_in {x : Int} (h : in64 x) : (Int64.ofInt x).toInt = x := by rw [ofL_toInt, w64_id h]
theorem ofI_lt {a b : Int} (ha : in32 a) (hb : in32 b) : Int32.ofInt a < Int32.ofInt b ↔ a < b := by
  rw [Int32.lt_iff_toInt_lt, ofI_in ha, ofI_in hb]
theorem ofI_le {a b : Int} (ha : in32 a) (hb : in32 b) : Int32.ofInt a ≤ Int32.ofInt b ↔ a ≤ b := by
  rw [Int32.le_iff_toInt_le, ofI_in ha, ofI_in hb]
theorem ofI_eq {a b : Int} (ha : in32 a) (hb : in32 b) : Int32.ofInt a = Int32.ofInt b ↔ a = b := by
  rw [← Int32.toInt_inj, ofI_in ha, ofI_in hb]
theorem ofL_lt {a b : Int} (ha : in64 a) (hb : in64 b) : Int64.ofInt a < Int64.ofInt b ↔ a < b := by
  rw [Int64.lt_iff_toInt_lt, ofL_in ha, ofL_in hb]
theorem ofL_eq {a b : Int} (ha : in64 a) (hb : in64 b) : Int64.ofInt a = Int64.ofInt b ↔ a = b := by
  rw [← Int64.toInt_inj, ofL_in ha, ofL_in hb]
/-- the operations that are no sums: through the machine's own -/
def iand (a b : Int) : Int := (Int32.ofInt a &&& Int32.ofInt b).toInt
def ior (a b : Int) : Int := (Int32.ofInt a ||| Int32.ofInt b).toInt
def ixor (a b : Int) : Int := (Int32.ofInt a ^^^ Int32.ofInt b).toInt
def ishl (a b : Int) : Int := (Int32.ofInt a <<< (Int32.ofInt b &&& 31)).toInt
def ishr (a b : Int) : Int := (Int32.ofInt a >>> (Int32.ofInt b &&& 31)).toInt
def iushr (a b : Int) : Int := ((Int32.ofInt a).toUInt32 >>> ((Int32.ofInt b).toUInt32 &&& Int32.toUInt32 31)).toInt32.toInt
def land (a b : Int) : Int := (Int64.ofInt a &&& Int64.ofInt b).toInt
def lor (a b : Int) : Int := (Int64.ofInt a ||| Int64.ofInt b).toInt
def lxor (a b : Int) : Int := (Int64.ofInt a ^^^ Int64.ofInt b).toInt
def lshl (a b : Int) : Int := (Int64.ofInt a <<< ((Int32.ofInt b).toInt64 &&& 63)).toInt
def lushr (a b : Int) : Int := ((Int64.ofInt a).toUInt64 >>> ((Int32.ofInt b).toInt64.toUInt64 &&& Int64.toUInt64 63)).toInt64.toInt
def i2c (a : Int) : Int := ((Int32.ofInt a).toUInt32 % 65536).toInt32.toInt
theorem ofI_div (a b : Int) (ha : in32 a) (hb : in32 b) : Int32.ofInt a / Int32.ofInt b = Int32.ofInt (a.tdiv b) := by
  apply Int32.toInt_inj.mp
  rw [Int32.toInt_div, ofI_in ha, ofI_in hb, ofI_toInt]
  rfl
theorem ofL_div (a b : Int) (ha : in64 a) (hb : in64 b) : Int64.ofInt a / Int64.ofInt b = Int64.ofInt (a.tdiv b) := by
  apply Int64.toInt_inj.mp
  rw [Int64.toInt_div, ofL_in ha, ofL_in hb, ofL_toInt]
  rfl
theorem tmod_abs {a b : Int} (h0 : b ≠ 0) : (a.tmod b).natAbs < b.natAbs := by
  rw [Int.natAbs_tmod]
  exact Nat.mod_lt _ (by omega)
theorem tmod_in32 {a b : Int} (hb : in32 b) (h0 : b ≠ 0) : in32 (a.tmod b) := by
  have := tmod_abs (a := a) h0
  unfold in32 at *
  omega
theorem tmod_in64 {a b : Int} (hb : in64 b) (h0 : b ≠ 0) : in64 (a.tmod b) := by
  have := tmod_abs (a := a) h0
  unfold in64 at *
  omega
theorem ofI_rem {a b : Int} (ha : in32 a) (hb : in32 b) : Int32.ofInt a - Int32.ofInt a / Int32.ofInt b * Int32.ofInt b = Int32.ofInt (a.tmod b) := by
  rw [ofI_div a b ha hb, ← Int32.ofInt_mul, ← Int32.ofInt_sub, Int.tmod_def, Int.mul_comm b]
theorem ofL_rem {a b : Int} (ha : in64 a) (hb : in64 b) : Int64.ofInt a - Int64.ofInt a / Int64.ofInt b * Int64.ofInt b = Int64.ofInt (a.tmod b) := by
  rw [ofL_div a b ha hb, ← Int64.ofInt_mul, ← Int64.ofInt_sub, Int.tmod_def, Int.mul_comm b]
theorem ofI_ne0 {b : Int} (hb : in32 b) (h0 : b ≠ 0) : ¬ Int32.ofInt b = 0 := fun h => h0 ((ofI_eq hb (by unfold in32; omega)).mp (h.trans rfl))
theorem ofL_ne0 {b : Int} (hb : in64 b) (h0 : b ≠ 0) : ¬ Int64.ofInt b = 0 := fun h => h0 ((ofL_eq hb (by unfold in64; omega)).mp (h.trans rfl))
theorem ofI_l {a : Int} (ha : in32 a) : (Int32.ofInt a).toInt64 = Int64.ofInt a := by
  apply Int64.toInt_inj.mp
  rw [Int32.toInt_toInt64, ofI_in ha, ofL_in (by unfold in32 at ha; unfold in64; omega)]
theorem ofL_i {a : Int} (ha : in64 a) : (Int64.ofInt a).toInt32 = Int32.ofInt (w32 a) := by
  apply Int32.toInt_inj.mp
  rw [Int64.toInt_toInt32, ofL_in ha, ofI_w, ofI_toInt]
  rfl
theorem ofI_b {a : Int} (ha : in32 a) : (Int32.ofInt a).toInt8.toInt32 = Int32.ofInt (w8 a) := by
  apply Int32.toInt_inj.mp
  rw [Int8.toInt_toInt32, Int32.toInt_toInt8, ofI_in ha, ofI_in (by have := w8_in a; unfold in32; omega)]
  rfl
theorem ofI_s {a : Int} (ha : in32 a) : (Int32.ofInt a).toInt16.toInt32 = Int32.ofInt (w16 a) := by
  apply Int32.toInt_inj.mp
  rw [Int16.toInt_toInt32, Int32.toInt_toInt16, ofI_in ha, ofI_in (by have := w16_in a; unfold in32; omega)]
  rfl
theorem of8_b (a : Int) : (Int8.ofInt a).toInt32 = Int32.ofInt (w8 a) := by
  apply Int32.toInt_inj.mp
  rw [Int8.toInt_toInt32, Int8.toInt_ofInt, ofI_in (by have := w8_in a; unfold in32; omega)]
  rfl
theorem of16_s (a : Int) : (Int16.ofInt a).toInt32 = Int32.ofInt (w16 a) := by
  apply Int32.toInt_inj.mp
  rw [Int16.toInt_toInt32, Int16.toInt_ofInt, ofI_in (by have := w16_in a; unfold in32; omega)]
  rfl
theorem ofI_vp {i : Int} {n : Nat} (hi : in32 i) (h : 0 ≤ i ∧ i < n) : vp_in (Int32.ofInt i) n := by
  rw [vp_in_iff, ofI_in hi]
  exact h
theorem ofI_clamp {i : Int} (hi : in32 i) : (Int32.ofInt i).toNatClampNeg = i.toNat := by
  show (Int32.ofInt i).toInt.toNat = i.toNat
  rw [ofI_in hi]
theorem in32_0 : in32 0 := by unfold in32; omega
theorem in64_0 : in64 0 := by unfold in64; omega
