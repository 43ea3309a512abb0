/-! HOW MANY BITS -/
def mPop (x : Int) : Int := mSum (fun i => iand (ishr x i) 1) 13
def mBc (x : Int) : Int := match Jint_bitCount x (fun _ _ => 0) with | some r => r | none => 0
set_option maxRecDepth 100000 in
theorem pop_all : ∀ a b : Fin 64, mBc ((64 * a.val + b.val : Nat) : Int) = mPop ((64 * a.val + b.val : Nat) : Int) := by decide +kernel
theorem bitCount_eq {x : Int} (m : aM) (h0 : 0 ≤ x) (h1 : x < 4096) : Jint_bitCount x m = some (mPop x) := by
  have e : Jint_bitCount x m = some (mBc x) := rfl
  have k := pop_all ⟨x.toNat / 64, by omega⟩ ⟨x.toNat % 64, by omega⟩
  dsimp only at k
  rw [show ((64 * (x.toNat / 64) + x.toNat % 64 : Nat) : Int) = x by omega] at k
  rw [e, k]
theorem ushr16 (a : Int) : 0 ≤ iushr a 16 ∧ iushr a 16 < 65536 := by
  unfold iushr
  have : (Int32.ofInt 16).toUInt32 &&& Int32.toUInt32 31 = 16 := by decide
  rw [this]
  generalize (Int32.ofInt a).toUInt32 = u
  have h : (u >>> 16).toNat < 65536 := by
    rw [UInt32.toNat_shiftRight]
    have := u.toNat_lt
    simp [Nat.shiftRight_eq_div_pow]
    omega
  have e : (u >>> 16).toInt32.toInt = ((u >>> 16).toNat : Int) := by
    generalize u >>> 16 = v at *
    rw [← Int32.toInt_toBitVec, UInt32.toBitVec_toInt32, BitVec.toInt_eq_toNat_of_lt]
    · rfl
    · show 2 * v.toNat < 2 ^ 32
      omega
  rw [e]; omega
theorem bitsOf_eq {x : Int} (m : aM) : R_bitsOf x m = some (mPop x) := by
  unfold R_bitsOf
  have k : mOk (R_bitsOf_4 m x FU 0 0) (fun r => r = mPop x) := by
    refine mL2 (R_bitsOf_4 m x) (fun s i => 0 ≤ i ∧ i ≤ 13 ∧ s = mSum (fun i => iand (ishr x i) 1) i.toNat ∧ 0 ≤ s ∧ s ≤ i) (fun _ i => (14 - i).toNat) ?_ 0 0 ⟨by omega, by omega, rfl, by omega, by omega⟩ (by omega)
    rintro fu s i ⟨i0, i1, es, s0, s1⟩ ih
    rw [R_bitsOf_4]
    have b := bt_01 (a := x) (k := i)
    by_cases d : i < 13
    · rw [if_pos d, w32e (by omega) (by omega), w32e (by omega) (by omega)]
      refine ih _ _ ⟨by omega, by omega, ?_, by omega, by omega⟩ (by omega)
      rw [mSum_s i0, es]
    · rw [if_neg d]
      exact mOk_some (by rw [es, show i.toNat = 13 by omega]; rfl)
  obtain ⟨r, k1, k2⟩ := k
  rw [k1, k2]
