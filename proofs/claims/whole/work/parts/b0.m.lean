/-! unsureAt: the reference's places in their order -/
theorem follows_s {p : Int} {x2 : Nat} {m : aM} (hx : x2 = 194 ∨ x2 = 195) (h : mVx (m 177)) (hp : p = -1 ∨ mPv3 (m 177) p) : mOk (R_follows p x2 m) (fun r => (0 ≤ r.1 ∧ r.1 ≤ 13) ∧ (∀ i : Int, 0 ≤ i → i < r.1 → mNx (m 177) (m 176 32) p (r.2 x2 i.toNat)) ∧ (∀ p', mNx (m 177) (m 176 32) p p' → ∃ i : Int, 0 ≤ i ∧ i < r.1 ∧ r.2 x2 i.toNat = p') ∧ (∀ i j : Int, 0 ≤ i → i < j → j < r.1 → r.2 x2 i.toNat < r.2 x2 j.toNat) ∧ ∀ q i, q ≠ x2 → r.2 q i = m q i) := by
  have al : aln x2 = 13 := by rcases hx with h | h <;> subst h <;> decide
  have c4 := h.1
  -- the words that may follow
  have many : ∀ (E : Int → Prop), (∀ w, E w ↔ mAc (m 177) (m 176 32) w ∧ (p = -1 ∨ mKs (m 177) (m 177 (45 + p / 6).toNat) w)) → mOk (R_follows_15 x2 p m) (fun r => (0 ≤ r.1 ∧ r.1 ≤ 13) ∧ (∀ i : Int, 0 ≤ i → i < r.1 → ∃ w, E w ∧ r.2 x2 i.toNat = 6 * w) ∧ (∀ w, E w → ∃ i : Int, 0 ≤ i ∧ i < r.1 ∧ r.2 x2 i.toNat = 6 * w) ∧ (∀ i j : Int, 0 ≤ i → i < j → j < r.1 → r.2 x2 i.toNat < r.2 x2 j.toNat) ∧ ∀ q i, q ≠ x2 → r.2 q i = m q i) := by
    intro E hE
    unfold R_follows_15
    refine mL3 (R_follows_19 x2 p) (fun c w mm => (0 ≤ w ∧ w ≤ m 177 18) ∧ (0 ≤ c ∧ c ≤ w) ∧ (∀ i : Int, 0 ≤ i → i < c → ∃ u, E u ∧ u < w ∧ mm x2 i.toNat = 6 * u) ∧ (∀ u, E u → u < w → ∃ i : Int, 0 ≤ i ∧ i < c ∧ mm x2 i.toNat = 6 * u) ∧ (∀ i j : Int, 0 ≤ i → i < j → j < c → mm x2 i.toNat < mm x2 j.toNat) ∧ ∀ q i, q ≠ x2 → mm q i = m q i) (fun _ w _ => (14 - w).toNat) ?_ 0 0 m ⟨by omega, by omega, fun i a b => by omega, fun u a b => by have := ((hE u).mp a).1.1; omega, fun i j a b c => by omega, fun _ _ _ => rfl⟩ (by omega)
    rintro fu c w mm ⟨w1, c1, h1, h2, h3, fr⟩ ih
    have e177 : mm 177 = m 177 := funext fun i => fr _ _ (by omega)
    rw [R_follows_19]
    unfold R_slots
    rw [Option.bind_some, fr 177 18 (by omega)]
    by_cases d : w < m 177 18
    · -- the word goes in
      have put : E w → mOk (R_follows_38 (R_follows_19 x2 p fu) x2 p c w mm) (fun r => (0 ≤ r.1 ∧ r.1 ≤ 13) ∧ (∀ i : Int, 0 ≤ i → i < r.1 → ∃ w, E w ∧ r.2 x2 i.toNat = 6 * w) ∧ (∀ w, E w → ∃ i : Int, 0 ≤ i ∧ i < r.1 ∧ r.2 x2 i.toNat = 6 * w) ∧ (∀ i j : Int, 0 ≤ i → i < j → j < r.1 → r.2 x2 i.toNat < r.2 x2 j.toNat) ∧ ∀ q i, q ≠ x2 → r.2 q i = m q i) := by
        intro he
        unfold R_follows_38 R_follows_45
        rw [al, if_pos (by omega), st1e, w32e (x := 6 * w) (by omega) (by omega), w32e (x := c + 1) (by omega) (by omega), w32e (x := w + 1) (by omega) (by omega)]
        refine ih _ _ _ ⟨by omega, by omega, fun i a b => ?_, fun u a b => ?_, fun i j a b g => ?_, fun q i a => by rw [aup_of (by omega)]; exact fr q i a⟩ (by omega)
        · by_cases ei : i = c
          · rw [ei, aup_self]; exact ⟨w, he, by omega, rfl⟩
          · rw [aup_of (by omega)]
            obtain ⟨u, u1, u2, u3⟩ := h1 i a (by omega)
            exact ⟨u, u1, by omega, u3⟩
        · by_cases eu : u = w
          · exact ⟨c, by omega, by omega, by rw [aup_self, eu]⟩
          · obtain ⟨i, i0, i1, i2⟩ := h2 u a (by omega)
            exact ⟨i, i0, by omega, by rw [aup_of (by omega)]; exact i2⟩
        · by_cases ej : j = c
          · rw [ej, aup_self, aup_of (by omega)]
            obtain ⟨u, u1, u2, u3⟩ := h1 i a (by omega)
            omega
          · rw [aup_of (by omega), aup_of (by omega)]; exact h3 i j a b (by omega)
      have skip : ¬ E w → mOk (R_follows_45 (R_follows_19 x2 p fu) x2 p c w mm) (fun r => (0 ≤ r.1 ∧ r.1 ≤ 13) ∧ (∀ i : Int, 0 ≤ i → i < r.1 → ∃ w, E w ∧ r.2 x2 i.toNat = 6 * w) ∧ (∀ w, E w → ∃ i : Int, 0 ≤ i ∧ i < r.1 ∧ r.2 x2 i.toNat = 6 * w) ∧ (∀ i j : Int, 0 ≤ i → i < j → j < r.1 → r.2 x2 i.toNat < r.2 x2 j.toNat) ∧ ∀ q i, q ≠ x2 → r.2 q i = m q i) := by
        intro he
        unfold R_follows_45
        rw [w32e (x := w + 1) (by omega) (by omega)]
        refine ih _ _ _ ⟨by omega, by omega, fun i a b => ?_, fun u a b => ?_, h3, fr⟩ (by omega)
        · obtain ⟨u, u1, u2, u3⟩ := h1 i a b
          exact ⟨u, u1, by omega, u3⟩
        · by_cases eu : u = w
          · rw [eu] at a; exact absurd a he
          · exact h2 u a (by omega)
      rw [if_pos d]
      unfold R_isOut
      rw [fr 176 32 (by omega)]
      by_cases o : iand (ishr (m 176 32) w) 1 = 1
      · rw [if_pos o, Option.bind_some, if_neg (by decide)]
        exact skip (fun he => ((hE w).mp he).1.2.2 o)
      · rw [if_neg o, Option.bind_some, if_pos rfl]
        by_cases z : p = -1
        · rw [if_pos z]
          exact put ((hE w).mpr ⟨⟨w1.1, d, o⟩, Or.inl z⟩)
        · rw [if_neg z]
          have hp' := hp.resolve_left z
          have bd := mPv3_bd h hp'
          rw [tdiv_nn bd.1, w32e (x := p / 6) (by omega) (by omega)]
          refine mOk_bind (mayStand_v (a := p / 6) (by rw [e177]; exact h) (by omega) (by rw [e177]; exact hp'.2.1) w1.1 (by rw [e177]; exact d)) (fun r kr => ?_)
          rw [e177] at kr
          by_cases y : r = 0
          · rw [if_pos y]
            exact skip (fun he => by
              rcases ((hE w).mp he).2 with g | g
              · exact z g
              · exact (kr.2.mpr g) y)
          · rw [if_neg y]
            exact put ((hE w).mpr ⟨⟨w1.1, d, o⟩, Or.inr (kr.2.mp y)⟩)
    · rw [if_neg d]
      refine mOk_some ⟨by dsimp only; omega, fun i a b => ?_, fun u a => ?_, h3, fr⟩
      · obtain ⟨u, u1, u2, u3⟩ := h1 i a b
        exact ⟨u, u1, u3⟩
      · exact h2 u a (by have := ((hE u).mp a).1.2.1; omega)
  unfold R_follows
  by_cases z : p = -1
  · rw [if_pos z]
    refine mOk_mono (many (fun w => mAc (m 177) (m 176 32) w) (fun w => ⟨fun a => ⟨a, Or.inl z⟩, fun a => a.1⟩)) (fun r k => ?_)
    obtain ⟨k1, k2, k3, k4, k5⟩ := k
    refine ⟨k1, fun i a b => Or.inl ⟨z, k2 i a b⟩, fun p' hp' => ?_, k4, k5⟩
    rcases hp' with ⟨-, w, hw, rfl⟩ | ⟨n1, -⟩
    · exact k3 w hw
    · exact absurd z n1
  · rw [if_neg z]
    have hp' := hp.resolve_left z
    have bd := mPv3_bd h hp'
    refine mOk_bind (isEnd_eq h hp') (fun r kr => ?_)
    by_cases y : r = 0
    · rw [if_pos y, al, if_pos (by omega), st1e, w32e (by omega) (by omega)]
      have ne : ¬ mEn (m 177) p := fun g => (kr.2.mpr g) y
      refine mOk_some ⟨by dsimp only; omega, fun i a b => ?_, fun p' hp2 => ?_, fun i j a b c => ?_, fun q i a => aup_of (by omega)⟩
      · dsimp only at b ⊢
        rw [show i.toNat = 0 by omega, aup_self]
        exact Or.inr ⟨z, Or.inl ⟨ne, rfl⟩⟩
      · rcases hp2 with ⟨g, -⟩ | ⟨-, ⟨-, rfl⟩ | ⟨g, -⟩⟩
        · exact absurd g z
        · exact ⟨0, by omega, by dsimp only; omega, aup_self _ _ _ _⟩
        · exact absurd g ne
      · dsimp only at c; omega
    · rw [if_neg y]
      have en := kr.2.mp y
      refine mOk_mono (many (fun w => mAc (m 177) (m 176 32) w ∧ mKs (m 177) (m 177 (45 + p / 6).toNat) w) (fun w => ⟨fun a => ⟨a.1, Or.inr a.2⟩, fun a => ⟨a.1, a.2.resolve_left z⟩⟩)) (fun r k => ?_)
      obtain ⟨k1, k2, k3, k4, k5⟩ := k
      refine ⟨k1, fun i a b => ?_, fun p' hp2 => ?_, k4, k5⟩
      · obtain ⟨w, hw, e⟩ := k2 i a b
        exact Or.inr ⟨z, Or.inr ⟨en, w, hw.1, hw.2, e⟩⟩
      · rcases hp2 with ⟨g, -⟩ | ⟨-, ⟨g, -⟩ | ⟨-, w, hw, hk, rfl⟩⟩
        · exact absurd g z
        · exact absurd en g
        · exact k3 w ⟨hw, hk⟩
/-- two rows that rise and hold the same are one -/
theorem rise_eq {f g : Int → Int} {n n' : Int} (n0 : 0 ≤ n) (n1 : 0 ≤ n') (hf : ∀ i j : Int, 0 ≤ i → i < j → j < n → f i < f j) (hg : ∀ i j : Int, 0 ≤ i → i < j → j < n' → g i < g j) (h1 : ∀ i : Int, 0 ≤ i → i < n → ∃ j : Int, 0 ≤ j ∧ j < n' ∧ g j = f i) (h2 : ∀ i : Int, 0 ≤ i → i < n' → ∃ j : Int, 0 ≤ j ∧ j < n ∧ f j = g i) : n = n' ∧ ∀ i : Int, 0 ≤ i → i < n → f i = g i := by
  have key : ∀ (k : Nat) (i : Int), i = k → 0 ≤ i → i < n → i < n' → f i = g i := by
    intro k
    induction k using Nat.strongRecOn with
    | ind k ih =>
      intro i ek i0 i1 i2
      obtain ⟨j, j0, j1, ej⟩ := h1 i i0 i1
      obtain ⟨j', j0', j1', ej'⟩ := h2 i i0 i2
      have a : i ≤ j := by
        refine Int.not_lt.mp (fun lt => ?_)
        have := ih j.toNat (by omega) j (by omega) j0 (by omega) j1
        have := hf j i j0 lt i1
        omega
      have b : i ≤ j' := by
        refine Int.not_lt.mp (fun lt => ?_)
        have := ih j'.toNat (by omega) j' (by omega) j0' j1' (by omega)
        have := hg j' i j0' lt i2
        omega
      by_cases c : j = i
      · rw [c] at ej; omega
      · by_cases d : j' = i
        · rw [d] at ej'; omega
        · have := hg i j i0 (by omega) j1
          have := hf i j' i0 (by omega) j1'
          omega
  have e : n = n' := by
    by_cases c : n < n'
    · exfalso
      obtain ⟨j, j0, j1, ej⟩ := h2 n n0 c
      have := key j.toNat j (by omega) j0 j1 (by omega)
      have := hg j n j0 j1 c
      omega
    · by_cases d : n' < n
      · exfalso
        obtain ⟨j, j0, j1, ej⟩ := h1 n' n1 d
        have := key j.toNat j (by omega) j0 (by omega) j1
        have := hf j n' j0 j1 d
        omega
      · omega
  exact ⟨e, fun i i0 i1 => key i.toNat i (by omega) i0 i1 (by omega)⟩
