/-! added: what the class asks of a candidate -/
theorem leastUnlike_ok {A D : Nat → Int} {n : Int} {m : aM} (ht : mTok A) (hr : mTR 25 47 A m) (n0 : 1 ≤ n ∧ n ≤ 3) (e105 : m 105 1 = n) (hD : ∀ k : Int, 0 ≤ k → k < n → m 106 k.toNat = D k.toNat ∧ 0 ≤ D k.toNat ∧ D k.toNat < 8) : mOk (Mender_leastUnlike m) (fun r => r.1 = yCost A D n ∧ ∀ q i, q ≠ 77 → q ≠ 78 → r.2 q i = m q i) := by
  have c4 := ht.2.2.2.2.1
  unfold Mender_leastUnlike
  refine mL3 Mender_leastUnlike_4 (fun x v mm => (0 ≤ v ∧ v ≤ A 18) ∧ x = yMin (yF A D n) v.toNat ∧ ∀ q i, q ≠ 77 → q ≠ 78 → mm q i = m q i) (fun _ v _ => (13 - v).toNat) ?_ (-1) 0 m ⟨by omega, rfl, fun _ _ _ _ => rfl⟩ (by omega)
  rintro fu x v mm ⟨v1, ex, fr⟩ ih
  have e2 : mm 25 2 = A 18 := by rw [fr _ _ (by omega) (by omega)]; exact hr.1.2.2.1
  rw [Mender_leastUnlike_4, e2]
  by_cases c : v < A 18
  rotate_left
  · rw [if_neg c]
    refine mOk_some ⟨?_, fr⟩
    dsimp only
    rw [ex, show v = A 18 by omega]; rfl
  obtain ⟨d1, -, -, d4⟩ := hr.2.2.2.1 v v1.1 c
  have dl := (ht.2.2.2.2.2.1 v v1.1 c).1
  rw [if_pos c, fr 105 1 (by omega) (by omega), e105]
  refine mOk_bind (toWord_ok (x2 := 106) (n := n) (w := v) (m := mm) ht (by omega) (by omega) (by omega) (by rw [show aln 106 = 40 by decide]; omega) (by omega) v1.1 c (fun s s0 s1 => by rw [fr _ _ (by omega) (by omega)]; exact hr.2.2.1 s s0 s1) (by rw [fr _ _ (by omega) (by omega)]; exact d1) (fun k k0 k1 => by rw [fr _ _ (by omega) (by omega)]; exact d4 k k0 k1) (fun k k0 k1 => by rw [fr _ _ (by omega) (by omega), (hD k k0 k1).1]; exact (hD k k0 k1).2)) (fun r kr => ?_)
  obtain ⟨k1, k2⟩ := kr
  have er : r.1 = yF A D n v := by
    rw [k1]
    refine mEd_congr (fun i j hi hj => ?_) _ _ (Nat.le_refl _) (Nat.le_refl _)
    have := (hD i (by omega) (by omega)).1
    rw [Int.toNat_natCast] at this
    rw [fr _ _ (by omega) (by omega), this]
  have fr2 : ∀ q i, q ≠ 77 → q ≠ 78 → r.2 q i = m q i := fun q i a b => by rw [k2 q i a b]; exact fr q i a b
  have es := yMin_s (f := yF A D n) v1.1
  rw [← ex] at es
  unfold Mender_leastUnlike_28 Mender_leastUnlike_30
  rw [w32e (by omega) (by omega), er]
  by_cases d : x = -1
  · rw [if_pos d]
    rw [if_pos (Or.inl d)] at es
    exact ih _ _ _ ⟨by omega, es.symm, fr2⟩ (by omega)
  · rw [if_neg d]
    by_cases e : yF A D n v < x
    · rw [if_pos e]
      rw [if_pos (Or.inr e)] at es
      exact ih _ _ _ ⟨by omega, es.symm, fr2⟩ (by omega)
    · rw [if_neg e]
      rw [if_neg (by omega)] at es
      exact ih _ _ _ ⟨by omega, es.symm, fr2⟩ (by omega)
theorem ior_b {x b k : Int} (x0 : 0 ≤ x) (x1 : x.toNat < 2 ^ 6) (b0 : b = 0 ∨ b = 1) (k0 : 0 ≤ k) (k1 : k < 6) : (0 ≤ ior x (ishl b k) ∧ (ior x (ishl b k)).toNat < 2 ^ 6) ∧ ∀ j : Nat, (ior x (ishl b k)).toNat.testBit j = (x.toNat.testBit j || (decide (k.toNat = j) && decide (b = 1))) := by
  rcases b0 with b0 | b0
  · have z : ishl 0 k = 0 := by
      have aux : ∀ k : Fin 6, ishl 0 ((k.val : Nat) : Int) = 0 := by decide +kernel
      have := aux ⟨k.toNat, by omega⟩
      simp only [Int.toNat_of_nonneg k0] at this
      exact this
    rw [b0, z, ior_nn x0 (by omega) (by omega) (by omega), Int.toNat_natCast, show (0 : Int).toNat = 0 from rfl, Nat.or_zero]
    refine ⟨by omega, fun j => ?_⟩
    rw [show decide ((0 : Int) = 1) = false from rfl, Bool.and_false, Bool.or_false]
  · rw [b0]
    obtain ⟨a, b⟩ := ior_bit (x := x) (c := k) (B := 6) x0 x1 k0 (by omega) (by omega)
    refine ⟨a, fun j => ?_⟩
    rw [b, show decide ((1 : Int) = 1) = true from rfl, Bool.and_true]
theorem mayBeWord_ok {A D : Nat → Int} {n : Int} {m : aM} (ht : mTok A) (hr : mTR 25 47 A m) (n0 : 1 ≤ n ∧ n ≤ 3) (e105 : m 105 1 = n) (hD : ∀ k : Int, 0 ≤ k → k < n → m 106 k.toNat = D k.toNat ∧ 0 ≤ D k.toNat ∧ D k.toNat < 8) : mOk (Mender_mayBeWord m) (fun r => (r = 1 ∧ ¬ yE A D n ∧ yS A D n) ∨ (r = 0 ∧ ¬ (¬ yE A D n ∧ yS A D n))) := by
  have c4 := ht.2.2.2.2.1
  have c2 := ht.2.2.1
  have c9 := ht.2.2.2.2.2.2.2.2.2.1
  have c10 := ht.2.2.2.2.2.2.2.2.2.2.1
  have e2 : m 25 2 = A 18 := hr.1.2.2.1
  have e3 : m 25 3 = A 141 := hr.1.2.2.2.1
  have e4 : m 25 4 = A 9 := hr.1.2.2.2.2.1
  have b3 := hr.2.2.2.1
  unfold Mender_mayBeWord
  rw [e105]
  refine mOk_bind (findWord_ok (t := 25) (x1 := 106) (n := n) (m := m) (by decide) (by omega) (by omega) (fun v a b => by rw [e2] at b; rw [(b3 v a b).1]; exact (ht.2.2.2.2.2.1 v a b).1.2)) (fun r kr => ?_)
  rw [e2] at kr
  by_cases c : r = -1
  rotate_left
  · rw [if_neg c]
    refine mOk_some (Or.inr ⟨rfl, fun g => g.1 ?_⟩)
    rcases kr with ⟨b, -⟩ | ⟨a, b, g, -⟩
    · exact absurd b c
    · have g1 := g.1
      rw [(b3 r a b).1] at g1
      refine ⟨r, ⟨a, b⟩, g1, fun j j0 j1 => ?_⟩
      rw [← (hD j j0 j1).1, ← (b3 r a b).2.2.2 j j0 (by omega)]
      exact g.2 j j0 j1
  have ne : ¬ yE A D n := by
    rintro ⟨v, v1, e, g⟩
    rcases kr with ⟨-, b⟩ | ⟨a, -⟩
    · refine b v v1.1 v1.2 ⟨by rw [(b3 v v1.1 v1.2).1]; exact e, fun j j0 j1 => ?_⟩
      rw [(hD j j0 j1).1, (b3 v v1.1 v1.2).2.2.2 j j0 (by omega)]
      exact g j j0 j1
    · omega
  rw [if_pos c, e3]
  by_cases z : A 141 = 0
  · rw [if_pos z]
    exact mOk_some (Or.inl ⟨rfl, ne, Or.inl z⟩)
  rw [if_neg z]
  refine mL2 (Mender_mayBeWord_23 m) (fun x k => (0 ≤ k ∧ k ≤ n) ∧ (0 ≤ x ∧ x.toNat < 2 ^ 6) ∧ ∀ j : Nat, x.toNat.testBit j = (decide (j < k.toNat) && decide (iand (ishr (A 9) (D j)) 1 = 1))) (fun _ k => (4 - k).toNat) ?_ 0 0 ⟨by omega, by decide, fun j => by rw [show (0 : Int).toNat = 0 from rfl, Nat.zero_testBit, decide_eq_false (by omega), Bool.false_and]⟩ (by omega)
  rintro fu x k ⟨k1, x1, hb⟩ ih
  rw [Mender_mayBeWord_23, e105]
  by_cases d : k < n
  · rw [if_pos d, if_pos (by omega), w32e (by omega) (by omega), e4, (hD k k1.1 d).1]
    have b01 := bt_01 (a := A 9) (k := D k.toNat)
    obtain ⟨i1, i2⟩ := ior_b (x := x) (b := iand (ishr (A 9) (D k.toNat)) 1) (k := k) x1.1 x1.2 b01 k1.1 (by omega)
    refine ih _ _ ⟨by omega, i1, fun j => ?_⟩ (by omega)
    rw [i2, hb]
    by_cases e : k.toNat = j
    · rw [decide_eq_true e, ← e, decide_eq_false (by omega), Bool.false_and, Bool.false_or, Bool.true_and, decide_eq_true (show k.toNat < (k + 1).toNat by omega), Bool.true_and]
    · rw [decide_eq_false e, Bool.false_and, Bool.or_false]
      by_cases g : j < k.toNat
      · rw [decide_eq_true g, decide_eq_true (show j < (k + 1).toNat by omega)]
      · rw [decide_eq_false g, decide_eq_false (show ¬ j < (k + 1).toNat by omega)]
  rw [if_neg d]
  have ek : k = n := by omega
  rw [ek] at hb
  -- a shape is the row of bits
  have key : ∀ s : Int, 0 ≤ s → s < A 141 → A (142 + s).toNat = n → (A (148 + s).toNat = x ↔ ∀ k : Int, 0 ≤ k → k < n → iand (ishr (A (148 + s).toNat) k) 1 = iand (ishr (A 9) (D k.toNat)) 1) := by
    intro s s0 s1 sl
    obtain ⟨g1, g2, g3⟩ := c10 s s0 s1
    have xb : ∀ k : Int, 0 ≤ k → k < n → iand (ishr x k) 1 = iand (ishr (A 9) (D k.toNat)) 1 := fun k k0 k1 => by
      have b01 := bt_01 (a := A 9) (k := D k.toNat)
      rw [bt_eq x1.1 (by omega) k0 (by omega), hb, decide_eq_true (show k.toNat < n.toNat by omega), Bool.true_and]
      rcases b01 with g | g <;> rw [g] <;> rfl
    constructor
    · intro e k k0 k1
      rw [e]; exact xb k k0 k1
    · intro h
      have : (A (148 + s).toNat).toNat = x.toNat := by
        refine Nat.eq_of_testBit_eq (fun j => ?_)
        by_cases q : j < n.toNat
        · have a1 := h j (by omega) (by omega)
          rw [← xb j (by omega) (by omega), bt_eq g2.1 (by omega) (by omega) (by omega), bt_eq x1.1 (by omega) (by omega) (by omega), Int.toNat_natCast] at a1
          cases u : (A (148 + s).toNat).toNat.testBit j <;> cases w : x.toNat.testBit j <;> rw [u, w] at a1 <;> first | rfl | exact absurd a1 (by decide)
        · rw [hb, decide_eq_false q, Bool.false_and]
          by_cases q6 : j < 6
          · have a1 := g3 j (by omega) (by omega)
            rw [bt_eq g2.1 (by omega) (by omega) (by omega), Int.toNat_natCast] at a1
            cases u : (A (148 + s).toNat).toNat.testBit j with
            | false => rfl
            | true => rw [u] at a1; exact absurd a1 (by decide)
          · exact Nat.testBit_lt_two_pow (Nat.lt_of_lt_of_le (show (A (148 + s).toNat).toNat < 2 ^ 6 by omega) (Nat.pow_le_pow_right (by omega) (by omega)))
      omega
  refine mL1 (Mender_mayBeWord_48 m x) (fun s => (0 ≤ s ∧ s ≤ A 141) ∧ ∀ u : Int, 0 ≤ u → u < s → ¬(A (142 + u).toNat = n ∧ A (148 + u).toNat = x)) (fun s => (7 - s).toNat) ?_ 0 ⟨by omega, fun u a b => by omega⟩ (by omega)
  rintro fu2 s ⟨s1, hs⟩ ih2
  rw [Mender_mayBeWord_48, e3]
  unfold Mender_mayBeWord_71
  by_cases g : s < A 141
  rotate_left
  · rw [if_neg g]
    refine mOk_some (Or.inr ⟨rfl, fun q => ?_⟩)
    rcases q.2 with q | ⟨u, u1, u2, u3⟩
    · exact z q
    · exact hs u u1.1 (by omega) ⟨u2, (key u u1.1 u1.2 u2).mpr u3⟩
  obtain ⟨h45, h46⟩ := hr.2.2.2.2.2.1 s s1.1 g
  rw [if_pos g, if_pos (by omega), show m 45 s.toNat = A (142 + s).toNat from h45, show m 46 s.toNat = A (148 + s).toNat from h46, e105, w32e (by omega) (by omega)]
  have nx : ¬(A (142 + s).toNat = n ∧ A (148 + s).toNat = x) → mOk (Mender_mayBeWord_48 m x fu2 (s + 1)) (fun r => (r = 1 ∧ ¬ yE A D n ∧ yS A D n) ∨ (r = 0 ∧ ¬ (¬ yE A D n ∧ yS A D n))) := by
    intro no
    refine ih2 _ ⟨by omega, fun u a b => ?_⟩ (by omega)
    by_cases e : u = s
    · rw [e]; exact no
    · exact hs u a (by omega)
  by_cases y : A (142 + s).toNat = n
  · rw [if_pos y]
    by_cases y2 : A (148 + s).toNat = x
    · rw [if_pos y2]
      exact mOk_some (Or.inl ⟨rfl, ne, Or.inr ⟨s, ⟨s1.1, g⟩, y, (key s s1.1 g y).mp y2⟩⟩)
    · rw [if_neg y2]; exact nx (fun q => y2 q.2)
  · rw [if_neg y]; exact nx (fun q => y q.1)
