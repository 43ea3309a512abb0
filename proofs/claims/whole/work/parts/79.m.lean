/-! NOISE -/
/-- the k-th bit of M -/
def mNth (M k r : Int) : Prop := 0 ≤ r ∧ r < 8 ∧ iand (ishr M r) 1 ≠ 0 ∧ mSum (fun i => iand (ishr M i) 1) r.toNat = k
theorem bt_nn (M i : Int) : 0 ≤ iand (ishr M i) 1 := by have := bt_01 (a := M) (k := i); omega
theorem mNth_uni {M k r r' : Int} (h : mNth M k r) (h' : mNth M k r') : r = r' := by
  obtain ⟨a0, a1, a2, a3⟩ := h
  obtain ⟨b0, b1, b2, b3⟩ := h'
  have n1 := bt_nn M r
  have n2 := bt_nn M r'
  rcases Int.lt_trichotomy r r' with d | d | d
  · have := mSum_ge (f := fun i => iand (ishr M i) 1) (bt_nn M) (j := r'.toNat) a0 (by omega)
    omega
  · exact d
  · have := mSum_ge (f := fun i => iand (ishr M i) 1) (bt_nn M) (j := r.toNat) b0 (by omega)
    omega
/-- bits of a small number -/
theorem bt_hi {M i : Int} (h0 : 0 ≤ M) (h1 : M < 256) (i0 : 8 ≤ i) (i1 : i ≤ 31) : iand (ishr M i) 1 = 0 := by
  rw [bt_eq h0 (by omega) (by omega) i1, if_neg]
  have : M.toNat < 2 ^ i.toNat := Nat.lt_of_lt_of_le (show M.toNat < 2 ^ 8 by omega) (Nat.pow_le_pow_right (by omega) (by omega))
  rw [Nat.testBit_lt_two_pow this]; simp
theorem mPop8 {M : Int} (h0 : 0 ≤ M) (h1 : M < 256) : mPop M = mSum (fun i => iand (ishr M i) 1) 8 := by
  unfold mPop
  show mSum (fun i => iand (ishr M i) 1) 8 + iand (ishr M 8) 1 + iand (ishr M 9) 1 + iand (ishr M 10) 1 + iand (ishr M 11) 1 + iand (ishr M 12) 1 = _
  rw [bt_hi h0 h1 (by omega) (by omega), bt_hi h0 h1 (by omega) (by omega), bt_hi h0 h1 (by omega) (by omega), bt_hi h0 h1 (by omega) (by omega), bt_hi h0 h1 (by omega) (by omega)]
  omega
theorem mPop_pos {M : Int} (h0 : 0 ≤ M) (h1 : M < 256) (hn : M ≠ 0) : 1 ≤ mPop M ∧ mPop M ≤ 8 := by
  rw [mPop8 h0 h1]
  have bd := mSum_bd (f := fun i => iand (ishr M i) 1) (c := 1) (by omega) (n := 8) (fun i _ _ => by have := bt_01 (a := M) (k := i); omega)
  refine ⟨?_, by omega⟩
  obtain ⟨i, hi⟩ : ∃ i, M.toNat.testBit i = true := by
    refine Classical.byContradiction (fun hc => hn ?_)
    have : M.toNat = 0 := Nat.eq_of_testBit_eq (fun i => by
      rw [Nat.zero_testBit]
      cases hb : M.toNat.testBit i with
      | false => rfl
      | true => exact absurd ⟨i, hb⟩ hc)
    omega
  have i8 : i < 8 := by
    refine Classical.byContradiction (fun hc => ?_)
    have : M.toNat < 2 ^ i := Nat.lt_of_lt_of_le (show M.toNat < 2 ^ 8 by omega) (Nat.pow_le_pow_right (by omega) (by omega))
    rw [Nat.testBit_lt_two_pow this] at hi
    exact absurd hi (by simp)
  have b := (bt_ne (k := (i : Int)) h0 (by omega) (by omega) (by omega)).mpr (by rw [Int.toNat_natCast]; exact hi)
  have := mSum_ge (f := fun i => iand (ishr M i) 1) (bt_nn M) (j := 8) (i := (i : Int)) (by omega) (by omega)
  have n0 := mSum_nn (f := fun i => iand (ishr M i) 1) (bt_nn M) (i : Int).toNat
  have nn := bt_nn M i
  omega
noncomputable def mPick (M k : Int) : Int := Classical.epsilon (fun r => mNth M k r)
theorem mPick_of {M k r : Int} (h : mNth M k r) : mPick M k = r := mNth_uni (Classical.epsilon_spec (p := fun r => mNth M k r) ⟨r, h⟩) h
theorem pick_ok {M k : Int} {m : aM} (h0 : 0 ≤ M) (h1 : M < 256) (k0 : 0 ≤ k) (k1 : k < mPop M) : mOk (Noise_pick M k m) (fun r => mNth M k r) := by
  rw [mPop8 h0 h1] at k1
  have bd := mSum_bd (f := fun i => iand (ishr M i) 1) (c := 1) (by omega) (n := 8) (fun i _ _ => by have := bt_01 (a := M) (k := i); omega)
  unfold Noise_pick
  refine mL2 (Noise_pick_4 m M) (fun x i => 0 ≤ i ∧ i ≤ 8 ∧ 0 ≤ x ∧ x + mSum (fun i => iand (ishr M i) 1) i.toNat = k) (fun _ i => (9 - i).toNat) ?_ k 0 ⟨by omega, by omega, k0, by show k + 0 = k; omega⟩ (by omega)
  rintro fu x i ⟨i0, i1, x0, ex⟩ ih
  rw [Noise_pick_4]
  have b := bt_01 (a := M) (k := i)
  have sn := mSum_nn (f := fun i => iand (ishr M i) 1) (bt_nn M) i.toNat
  by_cases d : i < 8
  · have ss := mSum_s (f := fun i => iand (ishr M i) 1) i0
    rw [if_pos d]
    unfold Noise_pick_18
    by_cases z : iand (ishr M i) 1 = 0
    · rw [if_pos z, w32e (by omega) (by omega)]
      exact ih _ _ ⟨by omega, by omega, x0, by rw [ss, z]; omega⟩ (by omega)
    · rw [if_neg z]
      by_cases y : x = 0
      · rw [if_pos y]
        exact mOk_some ⟨i0, d, z, by omega⟩
      · rw [if_neg y, w32e (x := x + -1) (by omega) (by omega), w32e (x := i + 1) (by omega) (by omega)]
        exact ih _ _ ⟨by omega, by omega, by omega, by rw [ss]; omega⟩ (by omega)
  · rw [show i.toNat = 8 by omega] at ex
    omega
/-- the draws -/
def nD (s : Int) : Int := w32 ((w32 (1103515245 * s)) + 12345)
def nV (s b : Int) : Int := Int.tmod (iushr s 16) b
theorem nV_bd (s : Int) {b : Int} (h : 1 ≤ b) : 0 ≤ nV s b ∧ nV s b < b := by
  unfold nV
  have := ushr16 s
  rw [Int.tmod_eq_emod_of_nonneg this.1]
  exact ⟨Int.emod_nonneg _ (by omega), Int.emod_lt_of_pos _ (by omega)⟩
/-- seed, sound, and whether it was changed -/
def nSe (A : Nat → Int) (h s x : Int) : Int := if A (10 + x).toNat = 0 then s else if nV (nD s) 100 < h then nD (nD s) else nD s
noncomputable def nOu (A : Nat → Int) (h s x : Int) : Int := if A (10 + x).toNat = 0 then x else if nV (nD s) 100 < h then mPick (A (10 + x).toNat) (nV (nD (nD s)) (mPop (A (10 + x).toNat))) else x
def nCh (A : Nat → Int) (h s x : Int) : Int := if A (10 + x).toNat = 0 then 0 else if nV (nD s) 100 < h then 1 else 0
def nS (A : Nat → Int) (h : Int) (S : Int → Int) (s0 : Int) : Nat → Int
  | 0 => s0
  | i + 1 => nSe A h (nS A h S s0 i) (S i)
noncomputable def nO (A : Nat → Int) (h : Int) (S : Int → Int) (s0 : Int) (i : Nat) : Int := nOu A h (nS A h S s0 i) (S i)
def nC (A : Nat → Int) (h : Int) (S : Int → Int) (s0 : Int) : Nat → Int
  | 0 => 0
  | i + 1 => nC A h S s0 i + nCh A h (nS A h S s0 i) (S i)
theorem nC_bd {A : Nat → Int} {h : Int} {S : Int → Int} {s0 : Int} : ∀ i, 0 ≤ nC A h S s0 i ∧ nC A h S s0 i ≤ i := by
  intro i
  induction i with
  | zero => exact ⟨Int.le_refl _, Int.le_refl _⟩
  | succ i ih =>
    show 0 ≤ nC A h S s0 i + nCh A h (nS A h S s0 i) (S i) ∧ nC A h S s0 i + nCh A h (nS A h S s0 i) (S i) ≤ _
    have : 0 ≤ nCh A h (nS A h S s0 i) (S i) ∧ nCh A h (nS A h S s0 i) (S i) ≤ 1 := by
      unfold nCh
      split
      · omega
      · split <;> omega
    omega
theorem nO_bd {A : Nat → Int} {h : Int} {S : Int → Int} {s0 : Int} {i : Nat} (ht : mTok A) (hS : 0 ≤ S i ∧ S i < 8) : 0 ≤ nO A h S s0 i ∧ nO A h S s0 i < 8 := by
  unfold nO nOu
  have hm := ht.2.2.2.1 (S i) hS.1 hS.2
  split
  · exact hS
  · split
    · rename_i z _
      have pp := mPop_pos hm.1 hm.2.1 z
      have nb := nV_bd (nD (nD (nS A h S s0 i))) pp.1
      obtain ⟨r, _, k⟩ := pick_ok (m := fun _ _ => 0) hm.1 hm.2.1 nb.1 nb.2
      rw [mPick_of k]
      exact ⟨k.1, k.2.1⟩
    · exact hS
theorem carry_ok {A : Nat → Int} {h L s0 : Int} {S : Int → Int} {m : aM} (ht : mTok A) (h27 : ∀ s : Int, 0 ≤ s → s < 8 → m 27 s.toNat = A (10 + s).toNat) (h49 : m 49 1 = L) (L0 : 0 ≤ L) (L1 : L ≤ 40) (hS : ∀ i : Nat, (i : Int) < L → m 50 i = S i ∧ 0 ≤ S i ∧ S i < 8) (hs : m 73 3 = s0) : mOk (Noise_carry h m) (fun m' => m' 73 3 = nS A h S s0 L.toNat ∧ m' 73 4 = nC A h S s0 L.toNat ∧ m' 74 1 = L ∧ (∀ i : Nat, (i : Int) < L → m' 75 i = nO A h S s0 i) ∧ ∀ q i, ¬(q = 73 ∧ (i = 3 ∨ i = 4)) → ¬(q = 74 ∧ i = 1) → q ≠ 75 → m' q i = m q i) := by
  unfold Noise_carry
  rw [st1e, st1e]
  refine mL2 (Noise_carry_9 h) (fun i mm => 0 ≤ i ∧ i ≤ L ∧ mm 73 3 = nS A h S s0 i.toNat ∧ mm 73 4 = nC A h S s0 i.toNat ∧ mm 74 1 = i ∧ (∀ j : Nat, (j : Int) < i → mm 75 j = nO A h S s0 j) ∧ ∀ q i, ¬(q = 73 ∧ (i = 3 ∨ i = 4)) → ¬(q = 74 ∧ i = 1) → q ≠ 75 → mm q i = m q i) (fun i _ => (41 - i).toNat) ?_ 0 _ ⟨by omega, by omega, by rw [aup_of (by omega), aup_of (by omega)]; exact hs, by rw [aup_of (by omega), aup_self]; rfl, aup_self _ _ _ _, fun j hj => by omega, fun q i a b c => by rw [aup_of (by omega), aup_of (by omega)]⟩ (by omega)
  rintro fu ii mm ⟨i0, i1, e3, e4, e1, e5, fr⟩ ih
  rw [Noise_carry_9, fr 49 1 (by omega) (by omega) (by omega), h49]
  by_cases d : ii < L
  rotate_left
  · rw [if_neg d]
    have : ii = L := by omega
    subst this
    exact mOk_some ⟨e3, e4, e1, e5, fr⟩
  obtain ⟨i, hi⟩ : ∃ i : Nat, ii = i := ⟨ii.toNat, by omega⟩
  subst hi
  rw [Int.toNat_natCast] at e3 e4
  obtain ⟨s1, s2, s3⟩ := hS i d
  have m27 := h27 (S i) s2 s3
  have hm := ht.2.2.2.1 (S i) s2 s3
  have cb := nC_bd (A := A) (h := h) (S := S) (s0 := s0) i
  rw [if_pos d, if_pos (by omega), Int.toNat_natCast, fr 50 i (by omega) (by omega) (by omega), s1, if_pos (by omega), fr 27 _ (by omega) (by omega) (by omega), m27]
  -- putting the sound down
  have put : ∀ (x : Int) (m2 : aM), x = nO A h S s0 i → m2 73 3 = nS A h S s0 (i + 1) → m2 73 4 = nC A h S s0 (i + 1) → (∀ q l, ¬(q = 73 ∧ (l = 3 ∨ l = 4)) → m2 q l = mm q l) → mOk (Noise_carry_46 (Noise_carry_9 h fu) h i x m2) (fun m' => m' 73 3 = nS A h S s0 L.toNat ∧ m' 73 4 = nC A h S s0 L.toNat ∧ m' 74 1 = L ∧ (∀ i : Nat, (i : Int) < L → m' 75 i = nO A h S s0 i) ∧ ∀ q i, ¬(q = 73 ∧ (i = 3 ∨ i = 4)) → ¬(q = 74 ∧ i = 1) → q ≠ 75 → m' q i = m q i) := by
    intro x m2 hx f3 f4 ff
    have xb := nO_bd (A := A) (h := h) (S := S) (s0 := s0) (i := i) ht ⟨s2, s3⟩
    rw [← hx] at xb
    have g1 : m2 74 1 = i := (ff _ _ (by omega)).trans e1
    unfold Noise_carry_46 Sounds_add
    rw [g1, if_pos (by omega), if_pos (by omega), st1e, st1e, w8e (x := x) (by omega) (by omega), w8e (x := x) (by omega) (by omega), Int.toNat_natCast]
    simp only [Option.bind_some]
    rw [w32e (x := (i : Int) + 1) (by omega) (by omega), aup_of (q' := 74) (q := 74 + 1) (by omega), g1, w32e (by omega) (by omega)]
    refine ih _ _ ⟨by omega, by omega, ?_, ?_, aup_self _ _ _ _, fun j hj => ?_, fun q l a b c => ?_⟩ (by omega)
    · rw [aup_of (by omega), aup_of (by omega), show ((i : Int) + 1).toNat = i + 1 by omega]; exact f3
    · rw [aup_of (by omega), aup_of (by omega), show ((i : Int) + 1).toNat = i + 1 by omega]; exact f4
    · rw [aup_of (by omega)]
      by_cases ej : j = i
      · rw [ej, show (75 : Nat) = 74 + 1 from rfl, aup_self]; exact hx
      · rw [aup_of (by omega), ff _ _ (by omega)]; exact e5 j (by omega)
    · rw [aup_of (by omega), aup_of (by omega), ff _ _ (by omega)]; exact fr q l a b c
  by_cases z : A (10 + S i).toNat = 0
  · rw [if_pos z]
    refine put _ mm ?_ ?_ ?_ (fun _ _ _ => rfl)
    · unfold nO nOu; rw [if_pos z]
    · show mm 73 3 = nSe A h (nS A h S s0 i) (S i)
      unfold nSe; rw [if_pos z]; exact e3
    · show mm 73 4 = nC A h S s0 i + nCh A h (nS A h S s0 i) (S i)
      unfold nCh; rw [if_pos z, e4]; omega
  rw [if_neg z]
  have pp := mPop_pos hm.1 hm.2.1 z
  unfold Noise_draw
  rw [st1e]
  simp only [Option.bind_some]
  have ed : aup mm 73 3 (w32 ((w32 (1103515245 * (mm 73 3))) + 12345)) 73 3 = nD (nS A h S s0 i) := by rw [aup_self, e3]; rfl
  rw [ed]
  generalize hm1 : aup mm 73 3 (w32 ((w32 (1103515245 * (mm 73 3))) + 12345)) = m1
  rw [hm1] at ed
  have ff1 : ∀ q l, ¬(q = 73 ∧ l = 3) → m1 q l = mm q l := fun q l a => by rw [← hm1, aup_of (by omega)]
  clear hm1
  by_cases y : nV (nD (nS A h S s0 i)) 100 < h
  · rw [if_pos (show Int.tmod (iushr (nD (nS A h S s0 i)) 16) 100 < h from y), st1e]
    simp only [Option.bind_some]
    have ed2 : aup m1 73 3 (w32 ((w32 (1103515245 * nD (nS A h S s0 i))) + 12345)) 73 3 = nD (nD (nS A h S s0 i)) := by rw [aup_self]; rfl
    rw [ed2]
    generalize hm2 : aup m1 73 3 (w32 ((w32 (1103515245 * nD (nS A h S s0 i))) + 12345)) = m2
    rw [hm2] at ed2
    have ff2 : ∀ q l, ¬(q = 73 ∧ l = 3) → m2 q l = mm q l := fun q l a => by rw [← hm2, aup_of (by omega)]; exact ff1 q l a
    clear hm2
    rw [bitCount_eq m2 hm.1 (by omega)]
    simp only [Option.bind_some]
    rw [if_pos (by omega)]
    have nb := nV_bd (nD (nD (nS A h S s0 i))) pp.1
    obtain ⟨r, k1, k2⟩ := pick_ok (m := m2) hm.1 hm.2.1 nb.1 nb.2
    unfold nV at k1
    rw [k1]
    simp only [Option.bind_some]
    rw [st1e, ff2 73 4 (by omega), e4, w32e (by omega) (by omega)]
    refine put r _ ?_ ?_ ?_ (fun q l a => by rw [aup_of (by omega)]; exact ff2 q l (by omega))
    · unfold nO nOu; rw [if_neg z, if_pos y, mPick_of k2]
    · rw [aup_of (by omega), ed2]
      show _ = nSe A h (nS A h S s0 i) (S i)
      unfold nSe; rw [if_neg z, if_pos y]
    · rw [aup_self]
      show _ = nC A h S s0 i + nCh A h (nS A h S s0 i) (S i)
      unfold nCh; rw [if_neg z, if_pos y]
  · rw [if_neg (show ¬ Int.tmod (iushr (nD (nS A h S s0 i)) 16) 100 < h from y)]
    refine put _ m1 ?_ ?_ ?_ (fun q l a => ff1 q l (by omega))
    · unfold nO nOu; rw [if_neg z, if_neg y]
    · rw [ed]
      show _ = nSe A h (nS A h S s0 i) (S i)
      unfold nSe; rw [if_neg z, if_neg y]
    · rw [ff1 _ _ (by omega), e4]
      show _ = nC A h S s0 i + nCh A h (nS A h S s0 i) (S i)
      unfold nCh; rw [if_neg z, if_neg y]; omega
theorem noises_ok {A : Nat → Int} {h L s0 : Int} {S : Int → Int} {m : aM} (ht : mTok A) (h177 : m 177 = A) (h17 : m 176 17 = L) (L0 : 0 ≤ L) (L1 : L ≤ 40) (hS : ∀ i : Nat, (i : Int) < L → m 182 i = S i ∧ 0 ≤ S i ∧ S i < 8) (hs : m 176 50 = s0) : mOk (R_noises h m) (fun m' => m' 176 50 = nS A h S s0 L.toNat ∧ m' 176 51 = nC A h S s0 L.toNat ∧ (∀ i : Nat, (i : Int) < L → m' 182 i = nO A h S s0 i) ∧ ∀ q i, ¬(q = 176 ∧ (i = 50 ∨ i = 51)) → q ≠ 182 → m' q i = m q i) := by
  unfold R_noises
  rw [st1e]
  refine mL2 (R_noises_5 h) (fun i mm => 0 ≤ i ∧ i ≤ L ∧ mm 176 50 = nS A h S s0 i.toNat ∧ mm 176 51 = nC A h S s0 i.toNat ∧ (∀ j : Nat, (j : Int) < i → mm 182 j = nO A h S s0 j) ∧ (∀ j : Nat, i ≤ (j : Int) → mm 182 j = m 182 j) ∧ ∀ q i, ¬(q = 176 ∧ (i = 50 ∨ i = 51)) → q ≠ 182 → mm q i = m q i) (fun i _ => (41 - i).toNat) ?_ 0 _ ⟨by omega, by omega, by rw [aup_of (by omega)]; exact hs, aup_self _ _ _ _, fun j hj => by omega, fun j hj => aup_of (by omega), fun q i a b => aup_of (by omega)⟩ (by omega)
  rintro fu ii mm ⟨i0, i1, e3, e4, e5, e6, fr⟩ ih
  rw [R_noises_5, fr 176 17 (by omega) (by omega), h17]
  by_cases d : ii < L
  rotate_left
  · rw [if_neg d]
    have : ii = L := by omega
    subst this
    exact mOk_some ⟨e3, e4, e5, fr⟩
  obtain ⟨i, hi⟩ : ∃ i : Nat, ii = i := ⟨ii.toNat, by omega⟩
  subst hi
  rw [Int.toNat_natCast] at e3 e4
  obtain ⟨s1, s2, s3⟩ := hS i d
  have hm := ht.2.2.2.1 (S i) s2 s3
  have cb := nC_bd (A := A) (h := h) (S := S) (s0 := s0) i
  have e177 : mm 177 = A := (funext fun l => fr _ _ (by omega) (by omega)).trans h177
  rw [if_pos d, if_pos (by omega), Int.toNat_natCast, e6 i (by omega), s1, e177, w32e (x := 10 + S i) (by omega) (by omega), if_pos (by omega)]
  -- going on
  have put : ∀ (m2 : aM), m2 182 i = nO A h S s0 i → m2 176 50 = nS A h S s0 (i + 1) → m2 176 51 = nC A h S s0 (i + 1) → (∀ q l, ¬(q = 176 ∧ (l = 50 ∨ l = 51)) → ¬(q = 182 ∧ l = i) → m2 q l = mm q l) → mOk (R_noises_63 (R_noises_5 h fu) h i m2) (fun m' => m' 176 50 = nS A h S s0 L.toNat ∧ m' 176 51 = nC A h S s0 L.toNat ∧ (∀ i : Nat, (i : Int) < L → m' 182 i = nO A h S s0 i) ∧ ∀ q i, ¬(q = 176 ∧ (i = 50 ∨ i = 51)) → q ≠ 182 → m' q i = m q i) := by
    intro m2 hx f3 f4 ff
    unfold R_noises_63
    rw [w32e (x := (i : Int) + 1) (by omega) (by omega)]
    refine ih _ _ ⟨by omega, by omega, by rw [show ((i : Int) + 1).toNat = i + 1 by omega]; exact f3, by rw [show ((i : Int) + 1).toNat = i + 1 by omega]; exact f4, fun j hj => ?_, fun j hj => by rw [ff _ _ (by omega) (by omega)]; exact e6 j (by omega), fun q l a b => by rw [ff _ _ (by omega) (by omega)]; exact fr q l a b⟩ (by omega)
    by_cases ej : j = i
    · rw [ej]; exact hx
    · rw [ff _ _ (by omega) (by omega)]; exact e5 j (by omega)
  by_cases z : A (10 + S i).toNat = 0
  · rw [if_pos z]
    refine put mm ?_ ?_ ?_ (fun _ _ _ _ => rfl)
    · unfold nO nOu; rw [if_pos z, e6 i (by omega), s1]
    · show mm 176 50 = nSe A h (nS A h S s0 i) (S i)
      unfold nSe; rw [if_pos z]; exact e3
    · show mm 176 51 = nC A h S s0 i + nCh A h (nS A h S s0 i) (S i)
      unfold nCh; rw [if_pos z, e4]; omega
  rw [if_neg z]
  have pp := mPop_pos hm.1 hm.2.1 z
  unfold R_draw
  rw [st1e, if_pos (by omega)]
  simp only [Option.bind_some]
  have ed : aup mm 176 50 (w32 ((w32 (1103515245 * (mm 176 50))) + 12345)) 176 50 = nD (nS A h S s0 i) := by rw [aup_self, e3]; rfl
  rw [ed]
  generalize hm1 : aup mm 176 50 (w32 ((w32 (1103515245 * (mm 176 50))) + 12345)) = m1
  rw [hm1] at ed
  have ff1 : ∀ q l, ¬(q = 176 ∧ l = 50) → m1 q l = mm q l := fun q l a => by rw [← hm1, aup_of (by omega)]
  clear hm1
  by_cases y : nV (nD (nS A h S s0 i)) 100 < h
  rotate_left
  · rw [if_neg (show ¬ Int.tmod (iushr (nD (nS A h S s0 i)) 16) 100 < h from y)]
    refine put m1 ?_ ?_ ?_ (fun q l a b => ff1 q l (by omega))
    · unfold nO nOu; rw [if_neg z, if_neg y, ff1 _ _ (by omega), e6 i (by omega), s1]
    · rw [ed]
      show _ = nSe A h (nS A h S s0 i) (S i)
      unfold nSe; rw [if_neg z, if_neg y]
    · rw [ff1 _ _ (by omega), e4]
      show _ = nC A h S s0 i + nCh A h (nS A h S s0 i) (S i)
      unfold nCh; rw [if_neg z, if_neg y]; omega
  rw [if_pos (show Int.tmod (iushr (nD (nS A h S s0 i)) 16) 100 < h from y), bitsOf_eq]
  simp only [Option.bind_some]
  rw [st1e, if_pos (by omega)]
  simp only [Option.bind_some]
  have ed2 : aup m1 176 50 (w32 ((w32 (1103515245 * nD (nS A h S s0 i))) + 12345)) 176 50 = nD (nD (nS A h S s0 i)) := by rw [aup_self]; rfl
  rw [ed2]
  generalize hm2 : aup m1 176 50 (w32 ((w32 (1103515245 * nD (nS A h S s0 i))) + 12345)) = m2
  rw [hm2] at ed2
  have ff2 : ∀ q l, ¬(q = 176 ∧ l = 50) → m2 q l = mm q l := fun q l a => by rw [← hm2, aup_of (by omega)]; exact ff1 q l a
  clear hm2
  have nb := nV_bd (nD (nD (nS A h S s0 i))) pp.1
  obtain ⟨r, _, k2⟩ := pick_ok (m := m2) hm.1 hm.2.1 nb.1 nb.2
  have hk : Int.tmod (iushr (nD (nD (nS A h S s0 i))) 16) (mPop (A (10 + S i).toNat)) = nV (nD (nD (nS A h S s0 i))) (mPop (A (10 + S i).toNat)) := rfl
  rw [hk]
  generalize hkk : nV (nD (nD (nS A h S s0 i))) (mPop (A (10 + S i).toNat)) = k at *
  refine mL2 (fun f x b => R_noises_34 (R_noises_5 h fu) h i (A (10 + S i).toNat) f x b m2) (fun x b => 0 ≤ b ∧ b ≤ r ∧ x + mSum (fun j => iand (ishr (A (10 + S i).toNat) j) 1) b.toNat = k) (fun _ b => (9 - b).toNat) ?_ k 0 ⟨by omega, k2.1, by show k + 0 = k; omega⟩ (by omega)
  rintro fu2 x b ⟨b0, b1, ex⟩ ih2
  show mOk (R_noises_34 (R_noises_5 h fu) h i (A (10 + S i).toNat) (fu2 + 1) x b m2) _
  rw [R_noises_34]
  unfold R_noises_42
  have bb := bt_01 (a := A (10 + S i).toNat) (k := b)
  have r8 := k2.2.1
  have rb := k2.2.2.1
  have rs := k2.2.2.2
  have sn := mSum_nn (f := fun j => iand (ishr (A (10 + S i).toNat) j) 1) (bt_nn _) b.toNat
  have lt : b < r → mSum (fun j => iand (ishr (A (10 + S i).toNat) j) 1) b.toNat + iand (ishr (A (10 + S i).toNat) b) 1 ≤ k := by
    intro hb
    have := mSum_ge (f := fun j => iand (ishr (A (10 + S i).toNat) j) 1) (bt_nn _) (j := r.toNat) b0 (by omega)
    rw [rs] at this
    exact this
  have ss := mSum_s (f := fun j => iand (ishr (A (10 + S i).toNat) j) 1) b0
  have eqr : b = r → x = 0 := by
    intro hb
    rw [hb, rs] at ex
    omega
  by_cases g : iand (ishr (A (10 + S i).toNat) b) 1 = 0
  · rw [if_pos g, g, w32e (x := x - 0) (by omega) (by omega), w32e (x := b + 1) (by omega) (by omega)]
    have : b ≠ r := fun hb => rb (by rw [← hb]; exact g)
    exact ih2 _ _ ⟨by omega, by omega, by rw [ss, g]; omega⟩ (by omega)
  rw [if_neg g]
  by_cases gx : 0 < x
  · rw [if_pos gx, w32e (x := x - _) (by omega) (by omega), w32e (x := b + 1) (by omega) (by omega)]
    have : b ≠ r := fun hb => by have := eqr hb; omega
    exact ih2 _ _ ⟨by omega, by omega, by rw [ss]; omega⟩ (by omega)
  · have er : b = r := by
      by_cases hb : b < r
      · have := lt hb; omega
      · omega
    rw [if_neg gx, if_pos (by omega), st1e, st1e, Int.toNat_natCast, aup_of (q' := 176) (by omega), ff2 176 51 (by omega), e4, w32e (by omega) (by omega)]
    refine put _ ?_ ?_ ?_ (fun q l a c => by rw [aup_of (by omega), aup_of (by omega)]; exact ff2 q l (by omega))
    · rw [aup_of (by omega), aup_self]
      unfold nO nOu; rw [if_neg z, if_pos y, hkk, mPick_of k2, er]
    · rw [aup_of (by omega), aup_of (by omega), ed2]
      show _ = nSe A h (nS A h S s0 i) (S i)
      unfold nSe; rw [if_neg z, if_pos y]
    · rw [aup_self]
      show _ = nC A h S s0 i + nCh A h (nS A h S s0 i) (S i)
      unfold nCh; rw [if_neg z, if_pos y]
