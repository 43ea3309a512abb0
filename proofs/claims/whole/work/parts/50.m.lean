/-! THE TAPE READ AS SOUNDS: spelt, line -/
def mSnd (A : Nat → Int) (y s : Int) : Prop := mFst (fun i => A (1 + i).toNat = y) (A 0) s
theorem mSnd_uni {A : Nat → Int} {y s s' : Int} (h : mSnd A y s) (h' : mSnd A y s') : s = s' := mFst_uni (fun _ _ _ => Iff.rfl) h h'
theorem mSnd_bd {A : Nat → Int} {y s : Int} (h : mSnd A y s) : -1 ≤ s ∧ (s < A 0 ∨ s = -1) := mFst_lt h
theorem w8_letter {x y : Int} (x0 : 97 ≤ x) (x1 : x ≤ 122) (y0 : 0 ≤ y) (y1 : y ≤ 255) : x = w8 y ↔ x = y := by
  by_cases c : y < 128
  · rw [w8e (by omega) c]
  · have e : w8 y = y - 256 := by
      unfold w8
      have : y = (y - 256) + ((256 : Nat) : Int) * 1 := by omega
      rw [this, Int.add_mul_bmod_self_left]
      rw [Int.bmod_eq_of_le] <;> omega
    rw [e]
    constructor <;> intro h <;> omega
theorem findSound_tape {m : aM} (ht : mTok (m 177)) (hr : mTR 25 47 (m 177) m) {x y : Int} (y0 : 0 ≤ y) (y1 : y ≤ 255) (hx : x = w8 y) : mOk (Tongue_findSound 25 x m) (mSnd (m 177) y) := by
  obtain ⟨c0, c1, -⟩ := ht
  have a1 := hr.1.2.1
  have b1 := hr.2.1
  refine mOk_mono (findSound_ok (by rw [a1]; omega) (by rw [a1]; omega)) (fun r k => ?_)
  rw [a1] at k
  unfold mSnd
  unfold mFst at *
  have key : ∀ i : Int, 0 ≤ i → i < m 177 0 → (m (25 + 1) i.toNat = x ↔ m 177 (1 + i).toNat = y) := by
    intro i i0 i1
    have := c1 i i0 i1
    rw [b1 i i0 i1, hx]
    exact w8_letter this.1 this.2 y0 y1
  rcases k with ⟨k1, k2⟩ | ⟨k1, k2, k3, k4⟩
  · exact Or.inl ⟨k1, fun i i0 i1 h => k2 i i0 i1 ((key i i0 i1).mpr h)⟩
  · exact Or.inr ⟨k1, k2, (key r k1 k2).mp k3, fun i i0 i1 h => k4 i i0 i1 ((key i i0 (by omega)).mpr h)⟩
theorem spellInto_ok {n : Int} {m : aM} (ht : mTok (m 177)) (hr : mTR 25 47 (m 177) m) (hp : mTape m) (n0 : 0 ≤ n) (n1 : n ≤ m 1 1) : mOk (Tape_spellInto n m) (fun r => ((r.1 = 0 ∧ (40 < n ∨ ∃ k : Int, 0 ≤ k ∧ k < n ∧ mSnd (m 177) (m 179 k.toNat) (-1))) ∨ (r.1 = 1 ∧ n ≤ 40 ∧ r.2 49 1 = n ∧ ∀ k : Int, 0 ≤ k → k < n → 0 ≤ r.2 50 k.toNat ∧ mSnd (m 177) (m 179 k.toNat) (r.2 50 k.toNat))) ∧ ∀ q i, ¬(q = 49 ∧ i = 1) → q ≠ 50 → r.2 q i = m q i) := by
  have c0 := ht.1
  unfold Tape_spellInto
  refine mOk_st1 ?_
  by_cases c : 40 < n
  · rw [if_pos c]
    exact mOk_some ⟨Or.inl ⟨rfl, Or.inl c⟩, fun q i h1 h2 => aup_of (by omega)⟩
  rw [if_neg c, aup_of (by omega), if_neg (by omega)]
  refine mL2 (Tape_spellInto_14 n) (fun a mm => 0 ≤ a ∧ a ≤ n ∧ mm 49 1 = a ∧ (∀ k : Int, 0 ≤ k → k < a → 0 ≤ mm 50 k.toNat ∧ mSnd (m 177) (m 179 k.toNat) (mm 50 k.toNat)) ∧ ∀ q i, ¬(q = 49 ∧ i = 1) → q ≠ 50 → mm q i = m q i) (fun a _ => (41 - a).toNat) ?_ 0 _ ⟨by omega, by omega, aup_self _ _ _ _, fun k a b => by omega, fun q i h1 h2 => aup_of (by omega)⟩ (by omega)
  rintro f a mm ⟨a0, a1, a2, a3, a4⟩ ih
  rw [Tape_spellInto_14]
  by_cases d : a < n
  · rw [if_pos d, if_pos (by have := hp.1; omega)]
    have e177 : mm 177 = m 177 := funext fun i => a4 _ _ (by omega) (by omega)
    have ht2 : mTok (mm 177) := by rw [e177]; exact ht
    have hr2 : mTR 25 47 (mm 177) mm := by rw [e177]; exact mTR_same (fun q j hq => a4 q j (by omega) (by omega)) hr ht.2.2.2.2.1.2
    have tp := hp.2.2 a a0 (by omega)
    refine mOk_bind (findSound_tape ht2 hr2 tp.1.1 tp.1.2 (by rw [a4 _ _ (by omega) (by omega)]; exact tp.2)) (fun s ks => ?_)
    rw [e177] at ks
    have bd := mSnd_bd ks
    by_cases z : s = -1
    · rw [if_pos z]
      exact mOk_some ⟨Or.inl ⟨rfl, Or.inr ⟨a, a0, d, by rw [← z]; exact ks⟩⟩, a4⟩
    · rw [if_neg z]
      unfold Sounds_add
      simp (disch := omega) only [a2, if_pos, if_neg, st1e, Option.bind_some, w8e, aup_of, w32e]
      refine ih _ _ ⟨by omega, by omega, aup_self _ _ _ _, ?_, ?_⟩ (by omega)
      · intro k k0 k1
        by_cases e : k = a
        · rw [e, aup_of (by omega), aup_self]
          exact ⟨by omega, ks⟩
        · rw [aup_of (by omega), aup_of (by omega)]
          exact a3 k k0 (by omega)
      · intro q i h1 h2
        rw [aup_of (by omega), aup_of (by omega)]
        exact a4 q i h1 h2
  · rw [if_neg d]
    have : a = n := by omega
    subst this
    exact mOk_some ⟨Or.inr ⟨rfl, by omega, a2, a3⟩, a4⟩
theorem areSounds_ok {n : Int} {m : aM} (ht : mTok (m 177)) (n1 : n ≤ 500) : mOk (R_areSoundsOnTape n m) (fun r => (r = 0 ∧ ∃ k : Int, 0 ≤ k ∧ k < n ∧ mSnd (m 177) (m 179 k.toNat) (-1)) ∨ (r = 1 ∧ ∀ k : Int, 0 ≤ k → k < n → ¬ mSnd (m 177) (m 179 k.toNat) (-1))) := by
  have c0 := ht.1
  unfold R_areSoundsOnTape
  refine mL1 (R_areSoundsOnTape_2 m n) (fun a => 0 ≤ a ∧ ∀ k : Int, 0 ≤ k → k < a → ¬ mSnd (m 177) (m 179 k.toNat) (-1)) (fun a => (501 - a).toNat) ?_ 0 ⟨by omega, fun k a b => by omega⟩ (by omega)
  rintro f a ⟨a0, a1⟩ ih
  rw [R_areSoundsOnTape_2]
  by_cases d : a < n
  · rw [if_pos d, if_pos (by omega)]
    refine mOk_bind (soundOf_ok (by decide) c0.1 c0.2) (fun s ks => ?_)
    by_cases z : s = -1
    · rw [if_pos z]
      exact mOk_some (Or.inl ⟨rfl, a, a0, d, by rw [← z]; exact ks⟩)
    · rw [if_neg z, w32e (by omega) (by omega)]
      refine ih _ ⟨by omega, ?_⟩ (by omega)
      intro k k0 k1
      by_cases e : k = a
      · rw [e]; exact fun h => z (mSnd_uni ks h)
      · exact a1 k k0 (by omega)
  · rw [if_neg d]
    exact mOk_some (Or.inr ⟨rfl, fun k k0 k1 => a1 k k0 (by omega)⟩)
theorem findWord_ok {t x1 : Nat} {n : Int} {m : aM} (hl : 6 ≤ aln x1) (h0 : 0 ≤ m t 2) (h1 : m t 2 ≤ 12) (h2 : ∀ w : Int, 0 ≤ w → w < m t 2 → m (t + 16) w.toNat ≤ 6) : mOk (Tongue_findWord t x1 n m) (mFst (fun w => m (t + 16) w.toNat = n ∧ ∀ k : Int, 0 ≤ k → k < n → m x1 k.toNat = m (t + 4 + w.toNat) k.toNat) (m t 2)) := by
  unfold Tongue_findWord
  refine mL1 (Tongue_findWord_2 m t x1 n) (fun a => 0 ≤ a ∧ a ≤ m t 2 ∧ ∀ w : Int, 0 ≤ w → w < a → ¬ (m (t + 16) w.toNat = n ∧ ∀ k : Int, 0 ≤ k → k < n → m x1 k.toNat = m (t + 4 + w.toNat) k.toNat)) (fun a => (12 - a).toNat) ?_ 0 ⟨by omega, by omega, fun k a b => by omega⟩ (by omega)
  rintro f a ⟨a0, a1, a2⟩ ih
  have nx : a < m t 2 → ¬ (m (t + 16) a.toNat = n ∧ ∀ k : Int, 0 ≤ k → k < n → m x1 k.toNat = m (t + 4 + a.toNat) k.toNat) → mOk (Tongue_findWord_20 m (Tongue_findWord_2 m t x1 n f) t x1 n a) (mFst (fun w => m (t + 16) w.toNat = n ∧ ∀ k : Int, 0 ≤ k → k < n → m x1 k.toNat = m (t + 4 + w.toNat) k.toNat) (m t 2)) := by
    intro c d
    unfold Tongue_findWord_20
    rw [w32e (by omega) (by omega)]
    refine ih _ ⟨by omega, by omega, ?_⟩ (by omega)
    intro i i0 i1
    by_cases e : i = a
    · rw [e]; exact d
    · exact a2 i i0 (by omega)
  rw [Tongue_findWord_2]
  by_cases c : a < m t 2
  · rw [if_pos c, if_pos (by omega)]
    by_cases d : m (t + 16) a.toNat = n
    · rw [if_pos d]
      refine mOk_bind (begins_ok hl a0 (by omega) (h2 a a0 c)) (fun r k => ?_)
      by_cases z : r = 0
      · rw [if_pos z]
        exact nx c (fun h => (k.2.mpr ⟨by omega, h.2⟩) z)
      · rw [if_neg z]
        exact mOk_some (Or.inr ⟨a0, c, ⟨d, (k.2.mp z).2⟩, a2⟩)
    · rw [if_neg d]
      exact nx c (fun h => d h.1)
  · rw [if_neg c]
    exact mOk_some (Or.inl ⟨rfl, fun i i0 i1 => a2 i i0 (by omega)⟩)
/-- the word w is the first n of the tape -/
def mWt (A T : Nat → Int) (n w : Int) : Prop := A (19 + w).toNat = n ∧ ∀ k : Int, 0 ≤ k → k < n → mSnd A (T k.toNat) (A (58 + 6 * w + k).toNat)
theorem wordOf_ok {n : Int} {m : aM} (ht : mTok (m 177)) : mOk (R_wordOf 177 0 n m) (mFst (mWt (m 177) (m 179) n) (m 177 18)) := by
  have c0 := ht.1
  have c4 := ht.2.2.2.2.1
  have c5 := ht.2.2.2.2.2.1
  have al : aln 177 = 588 := by decide
  unfold R_wordOf
  refine mL1 (R_wordOf_2 m 177 0 n) (fun a => 0 ≤ a ∧ a ≤ m 177 18 ∧ ∀ w : Int, 0 ≤ w → w < a → ¬ mWt (m 177) (m 179) n w) (fun a => (12 - a).toNat) ?_ 0 ⟨by omega, by omega, fun k a b => by omega⟩ (by omega)
  rintro f a ⟨a0, a1, a2⟩ ih
  rw [R_wordOf_2, al, if_pos (by omega)]
  by_cases c : a < m 177 18
  · have fl := (c5 a a0 c).1
    have nx : ¬ mWt (m 177) (m 179) n a → mOk (R_wordOf_2 m 177 0 n f (w32 (a + 1))) (mFst (mWt (m 177) (m 179) n) (m 177 18)) := by
      intro d
      rw [w32e (by omega) (by omega)]
      refine ih _ ⟨by omega, by omega, ?_⟩ (by omega)
      intro i i0 i1
      by_cases e : i = a
      · rw [e]; exact d
      · exact a2 i i0 (by omega)
    rw [if_pos c, w32e (x := 19 + a) (by omega) (by omega), if_pos (by omega)]
    by_cases d : m 177 (19 + a).toNat = n
    · rw [if_pos d]
      unfold R_wordOf_17
      refine mL2 (R_wordOf_20 m (R_wordOf_2 m 177 0 n f) 177 0 n a) (fun is k => 0 ≤ k ∧ k ≤ n ∧ ((is = 1 ∧ ∀ j : Int, 0 ≤ j → j < k → mSnd (m 177) (m 179 j.toNat) (m 177 (58 + 6 * a + j).toNat)) ∨ (is = 0 ∧ ¬ mWt (m 177) (m 179) n a))) (fun _ k => (7 - k).toNat) ?_ 1 0 ⟨by omega, by omega, Or.inl ⟨rfl, fun j j0 j1 => by omega⟩⟩ (by omega)
      rintro f2 is k ⟨k0, k1, k2⟩ ih2
      rw [R_wordOf_20, al]
      by_cases ck : k < n
      · rw [if_pos ck]
        rcases k2 with ⟨is1, k3⟩ | ⟨is0, k3⟩
        · rw [if_neg (by omega)]
          simp (disch := omega) only [if_pos, w32e, Int.zero_add]
          refine mOk_bind (soundOf_ok (by decide) c0.1 c0.2) (fun s ks => ?_)
          by_cases z : m 177 (58 + 6 * a + k).toNat = s
          · rw [if_pos z]
            unfold R_wordOf_47
            rw [w32e (by omega) (by omega)]
            refine ih2 _ _ ⟨by omega, by omega, Or.inl ⟨rfl, fun j j0 j1 => ?_⟩⟩ (by omega)
            by_cases e : j = k
            · rw [e, z]; exact ks
            · exact k3 j j0 (by omega)
          · rw [if_neg z]
            unfold R_wordOf_47
            rw [w32e (by omega) (by omega)]
            refine ih2 _ _ ⟨by omega, by omega, Or.inr ⟨rfl, fun h => z ?_⟩⟩ (by omega)
            exact mSnd_uni (h.2 k k0 ck) ks
        · rw [if_pos is0]
          unfold R_wordOf_50
          rw [if_pos is0]
          exact nx k3
      · rw [if_neg ck]
        unfold R_wordOf_50
        rcases k2 with ⟨is1, k3⟩ | ⟨is0, k3⟩
        · rw [if_neg (by omega)]
          exact mOk_some (Or.inr ⟨a0, c, ⟨d, fun j j0 j1 => k3 j j0 (by omega)⟩, a2⟩)
        · rw [if_pos is0]
          exact nx k3
    · rw [if_neg d]
      unfold R_wordOf_17 FU
      rw [show (1000000 : Nat) = 999999 + 1 from rfl, R_wordOf_20]
      unfold R_wordOf_50
      have hn : ¬ mWt (m 177) (m 179) n a := fun h => d h.1
      by_cases ck : 0 < n
      · rw [if_pos ck, if_pos rfl, if_pos rfl]
        exact nx hn
      · rw [if_neg ck, if_pos rfl]
        exact nx hn
  · rw [if_neg c]
    exact mOk_some (Or.inl ⟨rfl, fun i i0 i1 => a2 i i0 (by omega)⟩)
/-- the word that the class finds in its row of sounds is the one that the reference finds on the tape -/
theorem findWord_tape {n : Int} {m : aM} (ht : mTok (m 177)) (hr : mTR 25 47 (m 177) m) (T : Nat → Int) (hs : ∀ k : Int, 0 ≤ k → k < n → mSnd (m 177) (T k.toNat) (m 50 k.toNat)) : mOk (Tongue_findWord 25 50 n m) (mFst (mWt (m 177) T n) (m 177 18)) := by
  have c4 := ht.2.2.2.2.1
  have c5 := ht.2.2.2.2.2.1
  have a2 := hr.1.2.2.1
  have b3 := hr.2.2.2.1
  refine mOk_mono (findWord_ok (by decide) (by rw [a2]; omega) (by rw [a2]; omega) (fun w w0 w1 => ?_)) (fun r k => ?_)
  · rw [a2] at w1
    rw [(b3 w w0 w1).1]
    exact (c5 w w0 w1).1.2
  rw [a2] at k
  have key : ∀ w : Int, 0 ≤ w → w < m 177 18 → ((m (25 + 16) w.toNat = n ∧ ∀ k : Int, 0 ≤ k → k < n → m 50 k.toNat = m (25 + 4 + w.toNat) k.toNat) ↔ mWt (m 177) T n w) := by
    intro w w0 w1
    obtain ⟨d1, -, -, d4⟩ := b3 w w0 w1
    rw [d1]
    constructor
    · rintro ⟨h1, h2⟩
      refine ⟨h1, fun k k0 k1 => ?_⟩
      rw [← d4 k k0 (by omega), ← h2 k k0 k1]
      exact hs k k0 k1
    · rintro ⟨h1, h2⟩
      refine ⟨h1, fun k k0 k1 => ?_⟩
      rw [d4 k k0 (by omega)]
      exact mSnd_uni (hs k k0 k1) (h2 k k0 k1)
  rcases k with ⟨k1, k2⟩ | ⟨k1, k2, k3, k4⟩
  · exact Or.inl ⟨k1, fun i i0 i1 h => k2 i i0 i1 ((key i i0 i1).mpr h)⟩
  · exact Or.inr ⟨k1, k2, (key r k1 k2).mp k3, fun i i0 i1 h => k4 i i0 i1 ((key i i0 (by omega)).mpr h)⟩
theorem noWord_tape {n : Int} {A T : Nat → Int} (ht : mTok A) (h : 40 < n ∨ ∃ k : Int, 0 ≤ k ∧ k < n ∧ mSnd A (T k.toNat) (-1)) : mFst (mWt A T n) (A 18) (-1) := by
  refine Or.inl ⟨rfl, fun w w0 w1 hw => ?_⟩
  obtain ⟨d1, -, -, d4⟩ := ht.2.2.2.2.2.1 w w0 w1
  rcases h with h | ⟨k, k0, k1, k2⟩
  · have := hw.1; omega
  · have e := mSnd_uni (hw.2 k k0 k1) k2
    have := d4 k k0 (by have := hw.1; omega)
    omega
theorem mTape_0 {m : aM} (h1 : m 1 1 = 0) (h2 : m 176 5 = 0) : mTape m := ⟨by omega, by omega, fun k k0 k1 => by omega⟩
theorem holds_eq (x : Int) (m : aM) : Tape_holds x m = some (if 0 ≤ x ∧ x ≤ m 1 1 then 1 else 0) := by
  unfold Tape_holds
  by_cases h1 : x < 0
  · rw [if_pos h1, if_neg (by omega)]
  · by_cases h2 : m 1 1 < x
    · rw [if_neg h1, if_pos h2, if_neg (by omega)]
    · rw [if_neg h1, if_neg h2, if_pos (by omega)]
theorem st_spelt {n : Nat} {m : aM} (h : mInv n m) (x1 : Int) : ∃ r m1 m2, B_spelt x1 m = some (r, m1) ∧ R_spelt x1 m1 = some (r, m2) ∧ mInv (n + 1) m2 := by
  have hi := mInv_0 h
  obtain ⟨⟨t0, t1⟩, t2, t3⟩ := h.1
  by_cases c : 0 ≤ x1 ∧ x1 ≤ m 1 1
  · obtain ⟨⟨f, mA⟩, kA, hA, frA⟩ := spellInto_ok h.2.2.1 h.2.2.2.1 h.1 c.1 c.2
    dsimp only at hA frA
    have fr : ∀ q i, ¬(q = 49 ∧ i = 1) → q ≠ 50 → ¬(q = 1 ∧ i = 1) → aup mA 1 1 0 q i = m q i := fun q i a b d => by rw [aup_of (by omega), frA q i a b]
    have e177 : aup mA 1 1 0 177 = m 177 := funext fun i => fr _ _ (by omega) (by omega) (by omega)
    have hr2 : mTR 25 47 (aup mA 1 1 0 177) (aup mA 1 1 0) := by rw [e177]; exact mTR_same (fun q j hq => fr q j (by omega) (by omega) (by omega)) h.2.2.2.1 h.2.2.1.2.2.2.2.1.2
    have key : ∃ r, B_spelt x1 m = some (r, aup mA 1 1 0) ∧ mFst (mWt (m 177) (m 179) x1) (m 177 18) r := by
      rcases hA with ⟨f0, hno⟩ | ⟨f1, n40, l49, hs⟩
      · refine ⟨-1, ?_, noWord_tape h.2.2.1 hno⟩
        unfold B_spelt
        simp (disch := omega) only [holds_eq, Option.bind_some, reduceIte, if_pos, if_neg, kA, st1e]
      · obtain ⟨r, kr, hr⟩ := findWord_tape (n := x1) (m := aup mA 1 1 0) (by rw [e177]; exact h.2.2.1) hr2 (m 179) (fun k k0 k1 => by rw [e177, aup_of (by omega)]; exact (hs k k0 k1).2)
        rw [e177] at hr
        refine ⟨r, ?_, hr⟩
        unfold B_spelt
        have e49 : aup mA 1 1 0 49 1 = x1 := by rw [aup_of (by omega)]; exact l49
        simp (disch := omega) only [holds_eq, Option.bind_some, reduceIte, if_pos, if_neg, kA, st1e, e49, kr]
    obtain ⟨r, kB, hB⟩ := key
    have e5 : aup (aup mA 1 1 0) 176 0 0 176 5 = m 1 1 := by rw [aup_of (by omega), fr _ _ (by omega) (by omega) (by omega)]; exact t2
    have f177 : aup (aup (aup mA 1 1 0) 176 0 0) 176 5 0 177 = m 177 := funext fun i => by rw [aup_of (by omega), aup_of (by omega), e177]
    have f179 : aup (aup (aup mA 1 1 0) 176 0 0) 176 5 0 179 = m 179 := funext fun i => by rw [aup_of (by omega), aup_of (by omega)]; exact fr _ _ (by omega) (by omega) (by omega)
    obtain ⟨r', kR, hR⟩ := wordOf_ok (n := x1) (m := aup (aup (aup mA 1 1 0) 176 0 0) 176 5 0) (by rw [f177]; exact h.2.2.1)
    rw [f177, f179] at hR
    refine ⟨r, _, aup (aup (aup mA 1 1 0) 176 0 0) 176 5 0, kB, ?_, ?_⟩
    · unfold R_spelt
      rw [st1e, within_eq, e5]
      simp (disch := omega) only [Option.bind_some, reduceIte, if_pos, if_neg, st1e, kR]
      rw [mFst_uni (fun _ _ _ => Iff.rfl) hB hR]
    · refine mInv_tape (Nat.le_succ n) ?_ (mTape_0 ?_ (aup_self _ _ _ _)) h
      · intro q i hd g1 g2 g3 g4
        unfold mDep at hd
        rw [aup_of (by omega), aup_of (by omega)]
        exact fr _ _ (by omega) (by omega) (by omega)
      · rw [aup_of (by omega), aup_of (by omega), aup_self]
  · refine ⟨-3, m, aup m 176 0 0, ?_, ?_, hi⟩
    · unfold B_spelt
      simp (disch := omega) only [holds_eq, Option.bind_some, reduceIte, if_pos, if_neg]
    · unfold R_spelt
      have e5 : aup m 176 0 0 176 5 = m 1 1 := by rw [aup_of (by omega)]; exact t2
      simp (disch := omega) only [st1e, within_eq, e5, Option.bind_some, reduceIte, if_pos, if_neg]
