/-! LETTERS OF A TOKEN: twice, sounds, words -/
theorem iand_bit {x c : Int} (x0 : 0 ≤ x) (x1 : x < 2147483648) (c0 : 0 ≤ c) (c1 : c ≤ 30) : iand x (ishl 1 c) = 0 ↔ x.toNat.testBit c.toNat = false := by
  have hp : (2 : Nat) ^ c.toNat ≤ 2 ^ 30 := Nat.pow_le_pow_right (by omega) (by omega)
  have hq : ((2 ^ c.toNat : Nat) : Int) < 2147483648 := Int.ofNat_lt.mpr (Nat.lt_of_le_of_lt hp (by decide))
  rw [ishl_one c0 c1, iand_nn x0 x1 (Int.natCast_nonneg _) hq, Int.toNat_natCast, ← and_pow]
  generalize x.toNat &&& 2 ^ c.toNat = t
  omega
theorem ior_bit {x c : Int} {B : Nat} (x0 : 0 ≤ x) (x1 : x.toNat < 2 ^ B) (c0 : 0 ≤ c) (c1 : c < B) (hB : B ≤ 30) : (0 ≤ ior x (ishl 1 c) ∧ (ior x (ishl 1 c)).toNat < 2 ^ B) ∧ ∀ k : Nat, (ior x (ishl 1 c)).toNat.testBit k = (x.toNat.testBit k || decide (c.toNat = k)) := by
  have hB2 : (2 : Nat) ^ B ≤ 2 ^ 30 := Nat.pow_le_pow_right (by omega) hB
  have hp : (2 : Nat) ^ c.toNat < 2 ^ B := Nat.pow_lt_pow_right (by omega) (by omega)
  have hq : ((2 ^ c.toNat : Nat) : Int) < 2147483648 := Int.ofNat_lt.mpr (Nat.lt_of_lt_of_le hp (Nat.le_trans hB2 (by decide)))
  have hx : x < 2147483648 := by
    have : x.toNat < 2147483648 := Nat.lt_of_lt_of_le x1 (Nat.le_trans hB2 (by decide))
    omega
  rw [ishl_one c0 (by omega), ior_nn x0 hx (Int.natCast_nonneg _) hq, Int.toNat_natCast, Int.toNat_natCast]
  refine ⟨⟨Int.natCast_nonneg _, Nat.or_lt_two_pow x1 hp⟩, fun k => ?_⟩
  rw [Nat.testBit_or, Nat.testBit_two_pow]
def mTw (T : Int → Int) (q e : Int) : Prop := ∃ i j : Int, q ≤ i ∧ i < j ∧ j < e ∧ T i = T j
theorem hasTwice_ok {T : Int → Int} {n q e : Int} {b : aM} (hx : mTx T n b) (n1 : n ≤ 500) (h5 : b 1 5 = q) (h6 : b 1 6 = e) (q0 : 0 ≤ q) (qe : q ≤ e) (e1 : e ≤ n) (sm : ∀ j : Int, q ≤ j → j < e → mSml (T j)) : mOk (Tape_hasTwice b) (fun r => (r = 0 ∨ r = 1) ∧ (r ≠ 0 ↔ mTw T q e)) := by
  unfold Tape_hasTwice
  refine mL2 (Tape_hasTwice_5 b) (fun x i => (q ≤ i ∧ i ≤ e) ∧ (0 ≤ x ∧ x.toNat < 2 ^ 26) ∧ (∀ c : Nat, x.toNat.testBit c = true ↔ ∃ j : Int, q ≤ j ∧ j < i ∧ T j = 97 + c) ∧ ¬ mTw T q i) (fun _ i => (501 - i).toNat) ?_ 0 (b 1 5) ⟨by omega, ⟨by omega, by decide⟩, fun c => ?_, ?_⟩ (by omega)
  · rintro fu x i ⟨i1, x1, hb, nt⟩ ih
    rw [Tape_hasTwice_5, h6]
    by_cases c : i < e
    · have s := sm i i1.1 c
      unfold mSml at s
      have xl : x < 2147483648 := by
        have : x.toNat < 67108864 := x1.2
        omega
      rw [if_pos c, if_pos (by omega), (hx.2 i (by omega) (by omega)).2, w8e (by omega) (by omega), w32e (x := T i - 97) (by omega) (by omega)]
      have ib := iand_bit (x := x) (c := T i - 97) x1.1 xl (by omega) (by omega)
      by_cases z : iand x (ishl 1 (T i - 97)) = 0
      · rw [if_pos z, w32e (by omega) (by omega)]
        have zb := ib.mp z
        have ob := ior_bit (x := x) (c := T i - 97) (B := 26) x1.1 x1.2 (by omega) (by omega) (by omega)
        have no : ∀ j : Int, q ≤ j → j < i → T j ≠ T i := by
          intro j a b' e2
          have := (hb (T i - 97).toNat).mpr ⟨j, a, b', by omega⟩
          rw [zb] at this
          exact absurd this (by decide)
        refine ih _ _ ⟨by omega, ob.1, fun c' => ?_, ?_⟩ (by omega)
        · rw [ob.2, Bool.or_eq_true, hb, decide_eq_true_eq]
          constructor
          · rintro (⟨j, a, b', d⟩ | h)
            · exact ⟨j, a, by omega, d⟩
            · exact ⟨i, i1.1, by omega, by omega⟩
          · rintro ⟨j, a, b', d⟩
            by_cases ej : j = i
            · right; rw [ej] at d; omega
            · left; exact ⟨j, a, by omega, d⟩
        · rintro ⟨a, b', h1, h2, h3, h4⟩
          by_cases eb : b' = i
          · rw [eb] at h2 h4; exact no a h1 h2 h4
          · exact nt ⟨a, b', h1, h2, by omega, h4⟩
      · rw [if_neg z]
        have zb : x.toNat.testBit (T i - 97).toNat = true := by
          cases h : x.toNat.testBit (T i - 97).toNat with
          | true => rfl
          | false => exact absurd (ib.mpr h) z
        obtain ⟨j, a, b', d⟩ := (hb _).mp zb
        exact mOk_some ⟨Or.inr rfl, ⟨fun _ => ⟨j, i, a, b', c, by omega⟩, fun _ => by decide⟩⟩
    · rw [if_neg c]
      have : i = e := by omega
      subst this
      exact mOk_some ⟨Or.inl rfl, ⟨fun h => absurd rfl h, fun h => absurd h nt⟩⟩
  · constructor
    · intro h
      rw [show (0 : Int).toNat = 0 from rfl, Nat.zero_testBit] at h
      exact absurd h (by decide)
    · rintro ⟨j, a, b', d⟩; omega
  · rintro ⟨a, b', h1, h2, h3, h4⟩; omega
theorem isTwice_ok {T : Int → Int} {n q e : Int} {m : aM} (hx : mTxR T n m) (n1 : n ≤ 500) (h6 : m 176 6 = q) (h7 : m 176 7 = e) (q0 : 0 ≤ q) (qe : q ≤ e) (e1 : e ≤ n) : mOk (R_isTwice m) (fun r => (r = 0 ∨ r = 1) ∧ (r ≠ 0 ↔ mTw T q e)) := by
  unfold R_isTwice
  refine mL1 (R_isTwice_3 m) (fun i => (q ≤ i ∧ i ≤ e) ∧ ¬ mTw T q i) (fun i => (501 - i).toNat) ?_ (m 176 6) ⟨by omega, ?_⟩ (by omega)
  · rintro fu i ⟨i1, nt⟩ ih
    rw [R_isTwice_3, h7]
    by_cases c : i < e
    · rw [if_pos c]
      refine mL1 (R_isTwice_10 m (R_isTwice_3 m fu) i) (fun j => (q ≤ j ∧ j ≤ i) ∧ ∀ a : Int, q ≤ a → a < j → T a ≠ T i) (fun j => (501 - j).toNat) ?_ (m 176 6) ⟨by omega, fun a a1 a2 => by omega⟩ (by omega)
      rintro fu2 j ⟨j1, hj⟩ ih2
      rw [R_isTwice_10]
      by_cases d : j < i
      · rw [if_pos d, if_pos (by omega), if_pos (by omega), (hx.2 j (by omega) (by omega)).2, (hx.2 i (by omega) (by omega)).2]
        by_cases z : T j = T i
        · rw [if_pos z]
          exact mOk_some ⟨Or.inr rfl, ⟨fun _ => ⟨j, i, j1.1, d, c, z⟩, fun _ => by decide⟩⟩
        · rw [if_neg z, w32e (by omega) (by omega)]
          refine ih2 _ ⟨by omega, fun a a1 a2 => ?_⟩ (by omega)
          by_cases ea : a = j
          · rw [ea]; exact z
          · exact hj a a1 (by omega)
      · rw [if_neg d, w32e (by omega) (by omega)]
        refine ih _ ⟨by omega, ?_⟩ (by omega)
        rintro ⟨a, b', h1, h2, h3, h4⟩
        by_cases eb : b' = i
        · rw [eb] at h2 h4; exact hj a h1 (by omega) h4
        · exact nt ⟨a, b', h1, h2, by omega, h4⟩
    · rw [if_neg c]
      have : i = e := by omega
      subst this
      exact mOk_some ⟨Or.inl rfl, ⟨fun h => absurd rfl h, fun h => absurd h nt⟩⟩
  · rintro ⟨a, b', h1, h2, h3, h4⟩; omega
/-- the sound that a letter tells, or -1 -/
noncomputable def mSi (A : Nat → Int) (y : Int) : Int := @Classical.epsilon Int ⟨0⟩ (fun s => mSnd A y s)
theorem mSi_eq {A : Nat → Int} {y s : Int} (h : mSnd A y s) : mSi A y = s := by
  have : mSnd A y (mSi A y) := @Classical.epsilon_spec Int (fun s => mSnd A y s) ⟨s, h⟩
  exact mSnd_uni this h
theorem findSound_d {A : Nat → Int} {b : aM} (c0 : 0 ≤ A 0 ∧ A 0 ≤ 8) (c1 : ∀ s : Int, 0 ≤ s → s < A 0 → 97 ≤ A (1 + s).toNat ∧ A (1 + s).toNat ≤ 122) (a1 : b 3 1 = A 0) (b1 : ∀ s : Int, 0 ≤ s → s < A 0 → b (3 + 1) s.toNat = A (1 + s).toNat) {x y : Int} (y0 : 0 ≤ y) (y1 : y ≤ 255) (hx : x = w8 y) : Tongue_findSound 3 x b = some (mSi A y) ∧ mSnd A y (mSi A y) := by
  have k : mOk (Tongue_findSound 3 x b) (mSnd A y) := by
    refine mOk_mono (findSound_ok (by rw [a1]; omega) (by rw [a1]; omega)) (fun r k => ?_)
    rw [a1] at k
    have key : ∀ i : Int, 0 ≤ i → i < A 0 → (b (3 + 1) i.toNat = x ↔ A (1 + i).toNat = y) := by
      intro i i0 i1
      have := c1 i i0 i1
      rw [b1 i i0 i1, hx]
      exact w8_letter this.1 this.2 y0 y1
    rcases k with ⟨k1, k2⟩ | ⟨k1, k2, k3, k4⟩
    · exact Or.inl ⟨k1, fun i i0 i1 h => k2 i i0 i1 ((key i i0 i1).mpr h)⟩
    · exact Or.inr ⟨k1, k2, (key r k1 k2).mp k3, fun i i0 i1 h => k4 i i0 i1 ((key i i0 (by omega)).mpr h)⟩
  obtain ⟨r, k1, k2⟩ := k
  rw [mSi_eq k2]
  exact ⟨k1, k2⟩
theorem soundOf_d {m : aM} (c0 : 0 ≤ m 180 0 ∧ m 180 0 ≤ 8) (y : Int) : R_soundOf 180 y m = some (mSi (m 180) y) ∧ mSnd (m 180) y (mSi (m 180) y) := by
  obtain ⟨r, k1, k2⟩ := soundOf_ok (t := 180) (x := y) (m := m) (by decide) c0.1 c0.2
  have k3 : mSnd (m 180) y r := k2
  rw [mSi_eq k3]
  exact ⟨k1, k3⟩
theorem ofSounds_ok {T : Int → Int} {n q e : Int} {A : Nat → Int} {b : aM} (hx : mTx T n b) (n1 : n ≤ 500) (h5 : b 1 5 = q) (h6 : b 1 6 = e) (q0 : 0 ≤ q) (qe : q ≤ e) (e1 : e ≤ n) (c0 : 0 ≤ A 0 ∧ A 0 ≤ 8) (c1 : ∀ s : Int, 0 ≤ s → s < A 0 → 97 ≤ A (1 + s).toNat ∧ A (1 + s).toNat ≤ 122) (a1 : b 3 1 = A 0) (b1 : ∀ s : Int, 0 ≤ s → s < A 0 → b (3 + 1) s.toNat = A (1 + s).toNat) : mOk (Tape_isOfSounds b) (fun r => (r = 0 ∨ r = 1) ∧ (r ≠ 0 ↔ ∀ j : Int, q ≤ j → j < e → mSi A (T j) ≠ -1)) := by
  unfold Tape_isOfSounds
  refine mL1 (Tape_isOfSounds_3 b) (fun i => (q ≤ i ∧ i ≤ e) ∧ ∀ j : Int, q ≤ j → j < i → mSi A (T j) ≠ -1) (fun i => (501 - i).toNat) ?_ (b 1 5) ⟨by omega, fun j a c => by omega⟩ (by omega)
  rintro fu i ⟨i1, hj⟩ ih
  rw [Tape_isOfSounds_3, h6]
  by_cases c : i < e
  · have tv := hx.2 i (by omega) (by omega)
    rw [if_pos c, if_pos (by omega), (findSound_d c0 c1 a1 b1 tv.1.1 tv.1.2 tv.2).1, Option.bind_some]
    by_cases z : mSi A (T i) = -1
    · rw [if_pos z]
      exact mOk_some ⟨Or.inl rfl, ⟨fun h => absurd rfl h, fun h => absurd z (h i i1.1 c)⟩⟩
    · rw [if_neg z, w32e (by omega) (by omega)]
      refine ih _ ⟨by omega, fun j a d => ?_⟩ (by omega)
      by_cases ej : j = i
      · rw [ej]; exact z
      · exact hj j a (by omega)
  · rw [if_neg c]
    exact mOk_some ⟨Or.inr rfl, ⟨fun _ j a d => hj j a (by omega), fun _ => by decide⟩⟩
theorem areSounds_d {T : Int → Int} {n q e : Int} {m : aM} (hx : mTxR T n m) (n1 : n ≤ 500) (h6 : m 176 6 = q) (h7 : m 176 7 = e) (q0 : 0 ≤ q) (qe : q ≤ e) (e1 : e ≤ n) (c0 : 0 ≤ m 180 0 ∧ m 180 0 ≤ 8) : mOk (R_areSounds m) (fun r => (r = 0 ∨ r = 1) ∧ (r ≠ 0 ↔ ∀ j : Int, q ≤ j → j < e → mSi (m 180) (T j) ≠ -1)) := by
  unfold R_areSounds
  refine mL1 (R_areSounds_3 m) (fun i => (q ≤ i ∧ i ≤ e) ∧ ∀ j : Int, q ≤ j → j < i → mSi (m 180) (T j) ≠ -1) (fun i => (501 - i).toNat) ?_ (m 176 6) ⟨by omega, fun j a c => by omega⟩ (by omega)
  rintro fu i ⟨i1, hj⟩ ih
  rw [R_areSounds_3, h7]
  by_cases c : i < e
  · rw [if_pos c, if_pos (by omega), (hx.2 i (by omega) (by omega)).2, (soundOf_d c0 (T i)).1, Option.bind_some]
    by_cases z : mSi (m 180) (T i) = -1
    · rw [if_pos z]
      exact mOk_some ⟨Or.inl rfl, ⟨fun h => absurd rfl h, fun h => absurd z (h i i1.1 c)⟩⟩
    · rw [if_neg z, w32e (by omega) (by omega)]
      refine ih _ ⟨by omega, fun j a d => ?_⟩ (by omega)
      by_cases ej : j = i
      · rw [ej]; exact z
      · exact hj j a (by omega)
  · rw [if_neg c]
    exact mOk_some ⟨Or.inr rfl, ⟨fun _ j a d => hj j a (by omega), fun _ => by decide⟩⟩
/-- the word w is what stands from q to e -/
def mWq (A : Nat → Int) (T : Int → Int) (q l w : Int) : Prop := A (19 + w).toNat = l ∧ ∀ k : Int, 0 ≤ k → k < l → A (58 + 6 * w + k).toNat = mSi A (T (q + k))
theorem wordOf_d {T : Int → Int} {n q l : Int} {m : aM} (hx : mTxR T n m) (n1 : n ≤ 500) (q0 : 0 ≤ q) (l1 : q + l ≤ n) (l6 : l ≤ 6) (c0 : 0 ≤ m 180 0 ∧ m 180 0 ≤ 8) (c4 : 0 ≤ m 180 18 ∧ m 180 18 ≤ 12) : mOk (R_wordOf 180 q l m) (mFst (mWq (m 180) T q l) (m 180 18)) := by
  have al : aln 180 = 155 := by decide
  unfold R_wordOf
  refine mL1 (R_wordOf_2 m 180 q l) (fun a => 0 ≤ a ∧ a ≤ m 180 18 ∧ ∀ w : Int, 0 ≤ w → w < a → ¬ mWq (m 180) T q l w) (fun a => (12 - a).toNat) ?_ 0 ⟨by omega, by omega, fun k a b => by omega⟩ (by omega)
  rintro f a ⟨a0, a1, a2⟩ ih
  rw [R_wordOf_2, al, if_pos (by omega)]
  by_cases c : a < m 180 18
  · have nx : ¬ mWq (m 180) T q l a → mOk (R_wordOf_2 m 180 q l f (w32 (a + 1))) (mFst (mWq (m 180) T q l) (m 180 18)) := by
      intro d
      rw [w32e (by omega) (by omega)]
      refine ih _ ⟨by omega, by omega, ?_⟩ (by omega)
      intro i i0 i1
      by_cases e : i = a
      · rw [e]; exact d
      · exact a2 i i0 (by omega)
    rw [if_pos c, w32e (x := 19 + a) (by omega) (by omega), if_pos (by omega)]
    by_cases d : m 180 (19 + a).toNat = l
    · rw [if_pos d]
      unfold R_wordOf_17
      refine mL2 (R_wordOf_20 m (R_wordOf_2 m 180 q l f) 180 q l a) (fun is k => 0 ≤ k ∧ (k ≤ l ∨ k = 0) ∧ ((is = 1 ∧ ∀ j : Int, 0 ≤ j → j < k → m 180 (58 + 6 * a + j).toNat = mSi (m 180) (T (q + j))) ∨ (is = 0 ∧ ¬ mWq (m 180) T q l a))) (fun _ k => (7 - k).toNat) ?_ 1 0 ⟨by omega, by omega, Or.inl ⟨rfl, fun j j0 j1 => by omega⟩⟩ (by omega)
      rintro f2 is k ⟨k0, k1, k2⟩ ih2
      rw [R_wordOf_20, al]
      by_cases ck : k < l
      · rw [if_pos ck]
        rcases k2 with ⟨is1, k3⟩ | ⟨is0, k3⟩
        · rw [if_neg (by omega), w32e (x := 6 * a) (by omega) (by omega), w32e (x := 58 + 6 * a) (by omega) (by omega), w32e (x := 58 + 6 * a + k) (by omega) (by omega), if_pos (by omega), w32e (x := q + k) (by omega) (by omega), if_pos (by omega), (hx.2 (q + k) (by omega) (by omega)).2, (soundOf_d c0 (T (q + k))).1, Option.bind_some]
          unfold R_wordOf_47
          rw [w32e (x := k + 1) (by omega) (by omega)]
          by_cases z : m 180 (58 + 6 * a + k).toNat = mSi (m 180) (T (q + k))
          · rw [if_pos z]
            refine ih2 _ _ ⟨by omega, by omega, Or.inl ⟨rfl, fun j j0 j1 => ?_⟩⟩ (by omega)
            by_cases e : j = k
            · rw [e, z]
            · exact k3 j j0 (by omega)
          · rw [if_neg z]
            refine ih2 _ _ ⟨by omega, by omega, Or.inr ⟨rfl, fun h => z ?_⟩⟩ (by omega)
            exact h.2 k k0 ck
        · rw [if_pos is0]
          unfold R_wordOf_50
          rw [if_pos is0]
          exact nx k3
      · rw [if_neg ck]
        unfold R_wordOf_50
        rcases k2 with ⟨is1, k3⟩ | ⟨is0, k3⟩
        · rw [if_neg (by omega)]
          exact mOk_some (Or.inr ⟨a0, c, ⟨d, fun j j0 j1 => k3 j j0 (by omega)⟩, a2⟩)
        · rw [if_pos is0]
          exact nx k3
    · rw [if_neg d]
      have hn : ¬ mWq (m 180) T q l a := fun h => d h.1
      unfold R_wordOf_17 FU
      rw [show (1000000 : Nat) = 999999 + 1 from rfl, R_wordOf_20]
      unfold R_wordOf_50
      by_cases ck : 0 < l
      · rw [if_pos ck, if_pos rfl, if_pos rfl]
        exact nx hn
      · rw [if_neg ck, if_pos rfl]
        exact nx hn
  · rw [if_neg c]
    exact mOk_some (Or.inl ⟨rfl, fun i i0 i1 => a2 i i0 (by omega)⟩)
