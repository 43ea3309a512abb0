/-! BITS OF A LONG; the lowest bit -/
theorem pred_bits : ∀ (j X : Nat), X.testBit j = true → (∀ i, i < j → X.testBit i = false) → ∀ i, (X - 1).testBit i = if i < j then true else if i = j then false else X.testBit i := by
  intro j
  induction j with
  | zero =>
    intro X h _ i
    rw [Nat.testBit_zero] at h
    have h1 : X % 2 = 1 := of_decide_eq_true h
    rw [if_neg (by omega)]
    cases i with
    | zero =>
      rw [if_pos rfl, Nat.testBit_zero]
      exact decide_eq_false (by omega)
    | succ i =>
      rw [if_neg (by omega), Nat.testBit_succ, Nat.testBit_succ, show (X - 1) / 2 = X / 2 by omega]
  | succ j ih =>
    intro X h hl i
    have h0 := hl 0 (by omega)
    rw [Nat.testBit_zero] at h0
    have h1 : X % 2 = 0 := by have := of_decide_eq_false h0; omega
    rw [Nat.testBit_succ] at h
    have xp : 0 < X / 2 := by
      by_cases c : X / 2 = 0
      · rw [c, Nat.zero_testBit] at h; exact absurd h (by decide)
      · omega
    cases i with
    | zero =>
      rw [if_pos (by omega), Nat.testBit_zero]
      exact decide_eq_true (by omega)
    | succ i =>
      rw [Nat.testBit_succ, Nat.testBit_succ, show (X - 1) / 2 = X / 2 - 1 by omega, ih (X / 2) h (fun k hk => by have := hl (k + 1) (by omega); rw [Nat.testBit_succ] at this; exact this) i]
      by_cases c : i < j
      · rw [if_pos c, if_pos (show i + 1 < j + 1 by omega)]
      · rw [if_neg c, if_neg (show ¬ i + 1 < j + 1 by omega)]
        by_cases d : i = j
        · rw [if_pos d, if_pos (show i + 1 = j + 1 by omega)]
        · rw [if_neg d, if_neg (show ¬ i + 1 = j + 1 by omega)]
theorem low_of {X : Nat} : ∀ n : Nat, X.testBit n = true → ∃ j, j ≤ n ∧ X.testBit j = true ∧ ∀ i, i < j → X.testBit i = false := by
  intro n
  induction n using Nat.strongRecOn with
  | _ n ih =>
    intro h
    by_cases c : ∃ i, i < n ∧ X.testBit i = true
    · obtain ⟨i, i1, i2⟩ := c
      obtain ⟨j, j1, j2, j3⟩ := ih i i1 i2
      exact ⟨j, by omega, j2, j3⟩
    · refine ⟨n, by omega, h, fun i hi => ?_⟩
      cases e : X.testBit i with
      | false => rfl
      | true => exact absurd ⟨i, hi, e⟩ c
theorem low_ex {X : Nat} (h : X ≠ 0) : ∃ j, X.testBit j = true ∧ ∀ i, i < j → X.testBit i = false := by
  obtain ⟨n, hn⟩ := Nat.exists_testBit_of_ne_zero h
  obtain ⟨j, -, j2, j3⟩ := low_of n hn
  exact ⟨j, j2, j3⟩
/-- the bits of a long -/
def mLb (x : Int) : Nat := (Int64.ofInt x).toBitVec.toNat
theorem mLb_lt (x : Int) : mLb x < 2 ^ 64 := (Int64.ofInt x).toBitVec.isLt
theorem mLb_land (x y : Int) : mLb (land x y) = mLb x &&& mLb y := by
  unfold mLb land
  rw [Int64.ofInt_toInt, Int64.toBitVec_and, BitVec.toNat_and]
theorem mLb_lor (x y : Int) : mLb (lor x y) = mLb x ||| mLb y := by
  unfold mLb lor
  rw [Int64.ofInt_toInt, Int64.toBitVec_or, BitVec.toNat_or]
theorem mLb_lxor (x y : Int) : mLb (lxor x y) = mLb x ^^^ mLb y := by
  unfold mLb lxor
  rw [Int64.ofInt_toInt, Int64.toBitVec_xor, BitVec.toNat_xor]
theorem i64_ext {a b : Int64} (h : a.toBitVec.toNat = b.toBitVec.toNat) : a = b := Int64.toBitVec_inj.mp (BitVec.eq_of_toNat_eq h)
theorem land_0 (x y : Int) : land x y = 0 ↔ mLb x &&& mLb y = 0 := by
  rw [← mLb_land]
  constructor
  · intro h; rw [h]; rfl
  · intro h
    unfold mLb at h
    unfold land at h ⊢
    rw [Int64.ofInt_toInt] at h
    have : Int64.ofInt x &&& Int64.ofInt y = 0 := i64_ext h
    rw [this]; rfl
theorem mLb_pow : ∀ j : Fin 64, mLb (lshl 1 ((j.val : Nat) : Int)) = 2 ^ j.val := by decide +kernel
theorem mLb_m1 : mLb (-1) = 2 ^ 64 - 1 := by decide +kernel
theorem ntz_pow : ∀ j : Fin 64, Jlong_numberOfTrailingZeros (lshl 1 ((j.val : Nat) : Int)) (fun _ _ => 0) = some ((j.val : Nat) : Int) := by decide +kernel
theorem mLb_shl {j : Int} (h0 : 0 ≤ j) (h1 : j < 64) : mLb (lshl 1 j) = 2 ^ j.toNat := by
  have := mLb_pow ⟨j.toNat, by omega⟩
  simp only [Int.toNat_of_nonneg h0] at this
  exact this
theorem ntz_shl {j : Int} {m : aM} (h0 : 0 ≤ j) (h1 : j < 64) : Jlong_numberOfTrailingZeros (lshl 1 j) m = some j := by
  have := ntz_pow ⟨j.toNat, by omega⟩
  simp only [Int.toNat_of_nonneg h0] at this
  have e : Jlong_numberOfTrailingZeros (lshl 1 j) m = Jlong_numberOfTrailingZeros (lshl 1 j) (fun _ _ => 0) := rfl
  rw [e]; exact this
theorem land_shl {x j : Int} (h0 : 0 ≤ j) (h1 : j < 64) : land x (lshl 1 j) = 0 ↔ (mLb x).testBit j.toNat = false := by
  rw [land_0, mLb_shl h0 h1, and_pow]
theorem lor_shl {x j : Int} (h0 : 0 ≤ j) (h1 : j < 64) (i : Nat) : (mLb (lor x (lshl 1 j))).testBit i = ((mLb x).testBit i || decide (j.toNat = i)) := by
  rw [mLb_lor, mLb_shl h0 h1, Nat.testBit_or, Nat.testBit_two_pow]
theorem land_not {x j : Int} (h0 : 0 ≤ j) (h1 : j < 64) (i : Nat) : (mLb (land x (lxor (lshl 1 j) (-1)))).testBit i = ((mLb x).testBit i && !decide (j.toNat = i)) := by
  rw [mLb_land, mLb_lxor, mLb_shl h0 h1, mLb_m1, Nat.testBit_and, Nat.testBit_xor, Nat.testBit_two_pow, Nat.testBit_two_pow_sub_one]
  by_cases c : i < 64
  · rw [decide_eq_true c]; simp
  · have : (mLb x).testBit i = false := Nat.testBit_lt_two_pow (Nat.lt_of_lt_of_le (mLb_lt x) (Nat.pow_le_pow_right (by omega) (by omega)))
    rw [this]; simp
/-- the lowest bit of a long -/
theorem lowest {x : Int} {m : aM} : (mLb x = 0 ∧ Jlong_lowestOneBit x m = some 0) ∨ ∃ j : Int, 0 ≤ j ∧ j < 64 ∧ (mLb x).testBit j.toNat = true ∧ (∀ i, i < j.toNat → (mLb x).testBit i = false) ∧ Jlong_lowestOneBit x m = some (lshl 1 j) ∧ lshl 1 j ≠ 0 := by
  unfold Jlong_lowestOneBit
  have neg : mLb (w64 (-x)) = (2 ^ 64 - mLb x) % 2 ^ 64 := by
    unfold mLb
    rw [ofL_w, Int64.ofInt_neg, Int64.toBitVec_neg, BitVec.toNat_neg]
  by_cases c : mLb x = 0
  · refine Or.inl ⟨c, ?_⟩
    rw [(land_0 x (w64 (-x))).mpr (by rw [c]; exact Nat.zero_and _)]
  · obtain ⟨j, j1, j2⟩ := low_ex c
    have hl := mLb_lt x
    have j64 : j < 64 := by
      refine Classical.byContradiction (fun hc => ?_)
      have : (mLb x).testBit j = false := Nat.testBit_lt_two_pow (Nat.lt_of_lt_of_le hl (Nat.pow_le_pow_right (by omega) (by omega)))
      rw [j1] at this
      exact absurd this (by decide)
    have pj := pred_bits j (mLb x) j1 j2
    have e : mLb (land x (w64 (-x))) = 2 ^ j := by
      rw [mLb_land, neg, Nat.mod_eq_of_lt (by omega)]
      apply Nat.eq_of_testBit_eq
      intro i
      have hs := Nat.testBit_two_pow_sub_succ (x := mLb x - 1) (n := 64) (by omega) i
      rw [show mLb x - 1 + 1 = mLb x by omega] at hs
      rw [Nat.testBit_and, hs, pj i, Nat.testBit_two_pow]
      by_cases d : i < j
      · rw [j2 i d, if_pos d]; simp; omega
      · rw [if_neg d]
        by_cases g : i = j
        · rw [if_pos g, g, j1, decide_eq_true j64]; simp
        · rw [if_neg g]
          cases (mLb x).testBit i <;> simp <;> omega
    have ej : land x (w64 (-x)) = lshl 1 (j : Int) := by
      have e2 : mLb (land x (w64 (-x))) = mLb (lshl 1 (j : Int)) := by rw [e, mLb_shl (by omega) (by omega), Int.toNat_natCast]
      unfold mLb land lshl at e2
      rw [Int64.ofInt_toInt, Int64.ofInt_toInt] at e2
      have := i64_ext e2
      unfold land lshl
      rw [this]
    refine Or.inr ⟨j, by omega, by omega, by rw [Int.toNat_natCast]; exact j1, by rw [Int.toNat_natCast]; exact j2, by rw [ej], fun h => ?_⟩
    have e3 := mLb_shl (j := (j : Int)) (by omega) (by omega)
    rw [h] at e3
    have : 0 < 2 ^ ((j : Int)).toNat := Nat.two_pow_pos _
    have z : mLb 0 = 0 := rfl
    omega
/-- the lowest of thirteen bits of an int -/
def ntzOk (x : Nat) : Bool := x == 0 || (match Jint_numberOfTrailingZeros ((x : Nat) : Int) (fun _ _ => 0) with | some r => decide (0 ≤ r) && decide (r < 13) && x.testBit r.toNat && (List.range r.toNat).all (fun i => !x.testBit i) | none => false)
set_option maxRecDepth 100000 in
theorem ntz_all : ∀ a b c : Fin 32, a.val < 8 → ntzOk (1024 * a.val + 32 * b.val + c.val) = true := by decide +kernel
theorem ntz_low {x : Int} {m : aM} (h0 : 0 < x) (h1 : x < 8192) : ∃ j : Int, 0 ≤ j ∧ j < 13 ∧ Jint_numberOfTrailingZeros x m = some j ∧ x.toNat.testBit j.toNat = true ∧ ∀ i, i < j.toNat → x.toNat.testBit i = false := by
  have k := ntz_all ⟨x.toNat / 1024, by omega⟩ ⟨x.toNat / 32 % 32, by omega⟩ ⟨x.toNat % 32, by omega⟩ (by dsimp only; omega)
  dsimp only at k
  rw [show 1024 * (x.toNat / 1024) + 32 * (x.toNat / 32 % 32) + x.toNat % 32 = x.toNat by omega] at k
  unfold ntzOk at k
  rw [Int.toNat_of_nonneg (by omega)] at k
  have e : Jint_numberOfTrailingZeros x m = Jint_numberOfTrailingZeros x (fun _ _ => 0) := rfl
  rw [e]
  have z : (x.toNat == 0) = false := by
    cases h : (x.toNat == 0) with
    | false => rfl
    | true => have := eq_of_beq h; omega
  rw [z, Bool.false_or] at k
  cases h : Jint_numberOfTrailingZeros x (fun _ _ => 0) with
  | none => rw [h] at k; exact Bool.noConfusion k
  | some r =>
    rw [h] at k
    simp only [Bool.and_eq_true, decide_eq_true_eq, List.all_eq_true, List.mem_range, Bool.not_eq_true'] at k
    exact ⟨r, k.1.1.1, k.1.1.2, rfl, k.1.2, k.2⟩
/-- the lowest bit is taken away -/
theorem drop_low {x j : Int} (h0 : 0 < x) (h1 : x < 8192) (j0 : 0 ≤ j) (jb : x.toNat.testBit j.toNat = true) (jl : ∀ i, i < j.toNat → x.toNat.testBit i = false) : (0 ≤ iand x (w32 (x - 1)) ∧ iand x (w32 (x - 1)) < x) ∧ ∀ i, (iand x (w32 (x - 1))).toNat.testBit i = (x.toNat.testBit i && !decide (i = j.toNat)) := by
  rw [w32e (by omega) (by omega), iand_nn (by omega) (by omega) (by omega) (by omega), Int.toNat_natCast, show (x - 1).toNat = x.toNat - 1 by omega]
  have hle : x.toNat &&& (x.toNat - 1) ≤ x.toNat - 1 := Nat.and_le_right
  refine ⟨by omega, fun i => ?_⟩
  rw [Nat.testBit_and, pred_bits j.toNat x.toNat jb jl i]
  by_cases d : i < j.toNat
  · rw [jl i d, Bool.false_and, Bool.false_and]
  · rw [if_neg d]
    by_cases g : i = j.toNat
    · rw [if_pos g, decide_eq_true g]; rfl
    · rw [if_neg g, decide_eq_false g, Bool.and_self]
      cases x.toNat.testBit i <;> rfl
