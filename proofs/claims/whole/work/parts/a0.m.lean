/-! added: candidates, by number -/
theorem ixor_nn {a b : Int} (a0 : 0 ≤ a) (a1 : a < 2147483648) (b0 : 0 ≤ b) (b1 : b < 2147483648) : ixor a b = ((a.toNat ^^^ b.toNat : Nat) : Int) := by
  unfold ixor
  have e : (Int32.ofInt a ^^^ Int32.ofInt b).toBitVec.toNat = a.toNat ^^^ b.toNat := by
    rw [Int32.toBitVec_xor, BitVec.toNat_xor, ofI_nat a0 (by omega), ofI_nat b0 (by omega)]
  have h : a.toNat ^^^ b.toNat < 2 ^ 31 := Nat.xor_lt_two_pow (by omega) (by omega)
  rw [toInt_nat (by rw [e]; omega), e]
theorem div_bd {c S : Int} (c0 : 0 ≤ c) (s0 : 0 < S) : 0 ≤ c / S ∧ c / S ≤ c := ⟨Int.ediv_nonneg c0 (by omega), Int.ediv_le_self _ c0⟩
theorem mod_bd {c S : Int} (s0 : 0 < S) : 0 ≤ c % S ∧ c % S < S := ⟨Int.emod_nonneg _ (by omega), Int.emod_lt_of_pos _ s0⟩
theorem fmod_eq {c S : Int} (c0 : 0 ≤ c) (c1 : c < 1000000) (s0 : 0 < S) (s1 : S ≤ 8) (m : aM) : Jmath_floorMod c S m = some (c % S) := by
  unfold Jmath_floorMod
  have := ixor_nn c0 (by omega) (show 0 ≤ S by omega) (by omega)
  rw [if_pos (by omega), if_neg (by omega), tmod_nn c0]
theorem fdiv_eq {c S : Int} (c0 : 0 ≤ c) (c1 : c < 1000000) (s0 : 0 < S) (s1 : S ≤ 8) (m : aM) : Jmath_floorDiv c S m = some (c / S) := by
  unfold Jmath_floorDiv
  have := ixor_nn c0 (by omega) (show 0 ≤ S by omega) (by omega)
  have := div_bd c0 s0
  rw [if_pos (by omega), if_neg (by omega), tdiv_nn c0, w32e (by omega) (by omega)]
/-- what is left of c behind the sounds from k + 1 on -/
def yDv (S c n k : Int) : Int := if k = n - 1 then c else if k = n - 2 then c / S else if k = n - 3 then c / S / S else c / S / S / S
def yD (S c n : Int) : Nat → Int := fun k => yDv S c n k % S
theorem yDv_s {S c n k : Int} (h : n - 3 ≤ k) (h1 : k ≤ n - 1) : yDv S c n k / S = yDv S c n (k - 1) := by
  unfold yDv
  by_cases a : k = n - 1
  · rw [if_pos a, if_neg (by omega), if_pos (by omega)]
  · by_cases b : k = n - 2
    · rw [if_neg a, if_pos b, if_neg (by omega), if_neg (by omega), if_pos (by omega)]
    · rw [if_neg a, if_neg b, if_pos (by omega), if_neg (by omega), if_neg (by omega), if_neg (by omega)]
theorem yDv_bd {S c n k : Int} (c0 : 0 ≤ c) (s0 : 0 < S) : 0 ≤ yDv S c n k ∧ yDv S c n k ≤ c := by
  have a := div_bd c0 s0
  have b := div_bd a.1 s0
  have d := div_bd b.1 s0
  unfold yDv
  split
  · omega
  · split
    · omega
    · split <;> omega
theorem spellNumber_ok {A : Nat → Int} {c n : Int} {m : aM} (hs : m 25 1 = A 0) (s0 : 0 < A 0) (s1 : A 0 ≤ 8) (c0 : 0 ≤ c) (c1 : c < 1000000) (n0 : 1 ≤ n ∧ n ≤ 3) : mOk (Mender_spellNumber c n m) (fun m' => m' 105 1 = n ∧ (∀ k : Int, 0 ≤ k → k < n → m' 106 k.toNat = yD (A 0) c n k.toNat) ∧ ∀ q i, q ≠ 106 → ¬(q = 105 ∧ i = 1) → m' q i = m q i) := by
  unfold Mender_spellNumber
  rw [st1e, w32e (by omega) (by omega)]
  refine mL3 Mender_spellNumber_10 (fun r k mm => (-1 ≤ k ∧ k ≤ n - 1) ∧ r = yDv (A 0) c n k ∧ mm 105 1 = n ∧ (∀ j : Int, k < j → 0 ≤ j → j < n → mm 106 j.toNat = yD (A 0) c n j.toNat) ∧ ∀ q i, q ≠ 106 → ¬(q = 105 ∧ i = 1) → mm q i = m q i) (fun _ k _ => (k + 2).toNat) ?_ c (n - 1) _ ⟨by omega, by unfold yDv; rw [if_pos rfl], aup_self _ _ _ _, fun j a b d => by omega, fun q i a b => aup_of (by omega)⟩ (by omega)
  rintro fu r k mm ⟨k1, er, e105, hj, fr⟩ ih
  rw [Mender_spellNumber_10]
  by_cases d : k < 0
  · rw [if_pos d]
    exact mOk_some ⟨e105, fun j a b => hj j (by omega) a b, fr⟩
  have bd := yDv_bd (S := A 0) (c := c) (n := n) (k := k) c0 s0
  have mb := mod_bd (c := r) s0
  have e25 : mm 25 1 = A 0 := by rw [fr _ _ (by omega) (by omega)]; exact hs
  have f25 : ∀ v, aup mm 106 k.toNat v 25 1 = A 0 := fun v => by rw [aup_of (by omega)]; exact e25
  have mx : (if 1 < A 0 then A 0 else 1) = A 0 := by split <;> omega
  rw [if_neg d, jmax_eq, Option.bind_some, e25, mx, fmod_eq (by omega) (by omega) s0 s1, Option.bind_some, if_pos (by omega), st1e, w88 mb.1 (by omega), jmax_eq, Option.bind_some, f25, mx, fdiv_eq (by omega) (by omega) s0 s1, Option.bind_some, w32e (by omega) (by omega)]
  refine ih _ _ _ ⟨by omega, ?_, by rw [aup_of (by omega)]; exact e105, fun j a b e => ?_, fun q i a b => by rw [aup_of (by omega)]; exact fr q i a b⟩ (by omega)
  · rw [er, yDv_s (by omega) (by omega)]; rfl
  · by_cases z : j = k
    · rw [z, aup_self, er]; unfold yD; rw [Int.toNat_of_nonneg (by omega)]
    · rw [aup_of (by omega)]; exact hj j (by omega) b e
/-- the least of f 0 .. f (n - 1), as both count it -/
def yMin (f : Int → Int) : Nat → Int
  | 0 => -1
  | n + 1 => if yMin f n = -1 ∨ f n < yMin f n then f n else yMin f n
theorem yMin_s {f : Int → Int} {v : Int} (h : 0 ≤ v) : yMin f (v + 1).toNat = if yMin f v.toNat = -1 ∨ f v < yMin f v.toNat then f v else yMin f v.toNat := by
  rw [show (v + 1).toNat = v.toNat + 1 by omega]
  show (if yMin f v.toNat = -1 ∨ f (v.toNat : Int) < yMin f v.toNat then f (v.toNat : Int) else yMin f v.toNat) = _
  rw [Int.toNat_of_nonneg h]
def yF (A D : Nat → Int) (n : Int) : Int → Int := fun v => mEd (fun i j => mSub A (D i) (A (58 + 6 * v + (j : Int)).toNat)) n.toNat (A (19 + v).toNat).toNat
def yCost (A D : Nat → Int) (n : Int) : Int := yMin (yF A D n) (A 18).toNat
def yE (A D : Nat → Int) (n : Int) : Prop := ∃ v, (0 ≤ v ∧ v < A 18) ∧ A (19 + v).toNat = n ∧ ∀ k : Int, 0 ≤ k → k < n → D k.toNat = A (58 + 6 * v + k).toNat
def yS (A D : Nat → Int) (n : Int) : Prop := A 141 = 0 ∨ ∃ s, (0 ≤ s ∧ s < A 141) ∧ A (142 + s).toNat = n ∧ ∀ k : Int, 0 ≤ k → k < n → iand (ishr (A (148 + s).toNat) k) 1 = iand (ishr (A 9) (D k.toNat)) 1
