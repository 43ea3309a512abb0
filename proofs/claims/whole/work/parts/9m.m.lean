/-! THE CLASS TAKES THE WORDS OF A TONGUE -/
theorem put_ok {w n kd : Int} {x : Nat} {m : aM} (w0 : 0 ≤ w) (w1 : w < 13) (n0 : 0 ≤ n) (n1 : n ≤ (aln x : Nat)) (n7 : n ≤ 7) (hx : x < 82 ∨ 94 < x) : mOk (Twins_put w x n kd m) (fun m' => (∀ k : Int, 0 ≤ k → k < n → m' (82 + w.toNat) k.toNat = m x k.toNat) ∧ m' 95 w.toNat = n ∧ m' 96 w.toNat = kd ∧ ∀ q i, q ≠ 82 + w.toNat → ¬((q = 95 ∨ q = 96) ∧ i = w.toNat) → m' q i = m q i) := by
  unfold Twins_put
  rw [if_pos ⟨w0, w1⟩, if_pos n0, if_pos (by omega), if_pos (by omega), st1e, st1e, st1e]
  refine mOk_some ⟨fun k k0 k1 => ?_, ?_, ?_, fun q i a b => ?_⟩
  · rw [aup_of (by omega), aup_of (by omega), aupr_self, aCpy_lt (by omega)]
  · rw [aup_of (by omega), aup_self]
  · rw [aup_self]
  · rw [aup_of (by omega), aup_of (by omega), aupr_of a]
/-- what load leaves: the words, with a stop behind some kinds -/
def mLd (A : Nat → Int) (Z : Int) (X : aM) : Prop := X 80 0 = A 18 ∧ X 80 1 = w32 (ishl 1 (A 18) - 1) ∧ X 80 2 = 15 - A 140 ∧ (∀ x : Int, 0 ≤ x → x < 8 → X 98 x.toNat = A (10 + x).toNat) ∧ (∀ k : Int, 0 ≤ k → k < 4 → X 97 k.toNat = 15 - A (136 + k).toNat) ∧ ∀ w : Int, 0 ≤ w → w < A 18 → X 96 w.toNat = A (45 + w).toNat ∧ (∀ k : Int, 0 ≤ k → k < A (19 + w).toNat → X (82 + w.toNat) k.toNat = A (58 + 6 * w + k).toNat) ∧ ((iand (ishr Z (A (45 + w).toNat)) 1 = 0 ∧ X 95 w.toNat = A (19 + w).toNat) ∨ (iand (ishr Z (A (45 + w).toNat)) 1 ≠ 0 ∧ X 95 w.toNat = A (19 + w).toNat + 1 ∧ X (82 + w.toNat) (A (19 + w).toNat).toNat = 8))
def mFl3 (m m' : aM) : Prop := ∀ q i, ¬(82 ≤ q ∧ q ≤ 98) → ¬(q = 80 ∧ i ≤ 2) → m' q i = m q i
theorem load_ok {A : Nat → Int} {Z : Int} {m : aM} (ht : mTok A) (hr : mTR 25 47 A m) : mOk (Twins_load Z m) (fun X => mLd A Z X ∧ mFl3 m X) := by
  have c4 := ht.2.2.2.2.1
  have c5 := ht.2.2.2.2.2.1
  obtain ⟨⟨a0, a1, a2, a3, a4, a5⟩, b1, b2, b3, b4, -⟩ := hr
  unfold Twins_load
  rw [st1e, aup_self, st1e, st1e, st1e, st1e, a2]
  generalize hm : aupr (aupr (aup (aup (aup m 80 0 (A 18)) 80 1 (w32 (ishl 1 (A 18) - 1))) 80 2 (aup (aup m 80 0 (A 18)) 80 1 (w32 (ishl 1 (A 18) - 1)) 25 5)) 98 (aCpy (aup (aup (aup m 80 0 (A 18)) 80 1 (w32 (ishl 1 (A 18) - 1))) 80 2 (aup (aup m 80 0 (A 18)) 80 1 (w32 (ishl 1 (A 18) - 1)) 25 5) 27) (aup (aup (aup m 80 0 (A 18)) 80 1 (w32 (ishl 1 (A 18) - 1))) 80 2 (aup (aup m 80 0 (A 18)) 80 1 (w32 (ishl 1 (A 18) - 1)) 25 5) 98) 0 0 8)) 97 (aCpy (aupr (aup (aup (aup m 80 0 (A 18)) 80 1 (w32 (ishl 1 (A 18) - 1))) 80 2 (aup (aup m 80 0 (A 18)) 80 1 (w32 (ishl 1 (A 18) - 1)) 25 5)) 98 (aCpy (aup (aup (aup m 80 0 (A 18)) 80 1 (w32 (ishl 1 (A 18) - 1))) 80 2 (aup (aup m 80 0 (A 18)) 80 1 (w32 (ishl 1 (A 18) - 1)) 25 5) 27) (aup (aup (aup m 80 0 (A 18)) 80 1 (w32 (ishl 1 (A 18) - 1))) 80 2 (aup (aup m 80 0 (A 18)) 80 1 (w32 (ishl 1 (A 18) - 1)) 25 5) 98) 0 0 8) 44) (aupr (aup (aup (aup m 80 0 (A 18)) 80 1 (w32 (ishl 1 (A 18) - 1))) 80 2 (aup (aup m 80 0 (A 18)) 80 1 (w32 (ishl 1 (A 18) - 1)) 25 5)) 98 (aCpy (aup (aup (aup m 80 0 (A 18)) 80 1 (w32 (ishl 1 (A 18) - 1))) 80 2 (aup (aup m 80 0 (A 18)) 80 1 (w32 (ishl 1 (A 18) - 1)) 25 5) 27) (aup (aup (aup m 80 0 (A 18)) 80 1 (w32 (ishl 1 (A 18) - 1))) 80 2 (aup (aup m 80 0 (A 18)) 80 1 (w32 (ishl 1 (A 18) - 1)) 25 5) 98) 0 0 8) 97) 0 0 4) = m5
  have f5 : ∀ q i, q ≠ 97 → q ≠ 98 → ¬(q = 80 ∧ i ≤ 2) → m5 q i = m q i := fun q i a b c => by rw [← hm, aupr_of a, aupr_of b, aup_of (by omega), aup_of (by omega), aup_of (by omega)]
  have v0 : m5 80 0 = A 18 := by rw [← hm, aupr_of (by omega), aupr_of (by omega), aup_of (by omega), aup_of (by omega), aup_self]
  have v1 : m5 80 1 = w32 (ishl 1 (A 18) - 1) := by rw [← hm, aupr_of (by omega), aupr_of (by omega), aup_of (by omega), aup_self]
  have v2 : m5 80 2 = 15 - A 140 := by rw [← hm, aupr_of (by omega), aupr_of (by omega), aup_self, aup_of (by omega), aup_of (by omega)]; exact a5
  have v98 : ∀ x : Int, 0 ≤ x → x < 8 → m5 98 x.toNat = A (10 + x).toNat := fun x x0 x1 => by rw [← hm, aupr_of (by omega), aupr_self, aCpy_lt (by omega), aup_of (by omega), aup_of (by omega), aup_of (by omega)]; exact b2 x x0 x1
  have v97 : ∀ k : Int, 0 ≤ k → k < 4 → m5 97 k.toNat = 15 - A (136 + k).toNat := fun k k0 k1 => by rw [← hm, aupr_self, aCpy_lt (by omega), aupr_of (by omega), aup_of (by omega), aup_of (by omega), aup_of (by omega)]; exact b4 k k0 k1
  clear hm
  refine mL2 (Twins_load_34 Z) (fun w mm => (0 ≤ w ∧ w ≤ A 18) ∧ (∀ v : Int, 0 ≤ v → v < w → mm 96 v.toNat = A (45 + v).toNat ∧ (∀ k : Int, 0 ≤ k → k < A (19 + v).toNat → mm (82 + v.toNat) k.toNat = A (58 + 6 * v + k).toNat) ∧ ((iand (ishr Z (A (45 + v).toNat)) 1 = 0 ∧ mm 95 v.toNat = A (19 + v).toNat) ∨ (iand (ishr Z (A (45 + v).toNat)) 1 ≠ 0 ∧ mm 95 v.toNat = A (19 + v).toNat + 1 ∧ mm (82 + v.toNat) (A (19 + v).toNat).toNat = 8))) ∧ ∀ q i, ¬(82 ≤ q ∧ q ≤ 96) → mm q i = m5 q i) (fun w _ => (13 - w).toNat) ?_ 0 m5 ⟨by omega, fun v a b => by omega, fun _ _ _ => rfl⟩ (by omega)
  rintro fu w mm ⟨w1, hw, fr⟩ ih
  rw [Twins_load_34, fr 80 0 (by omega), v0]
  by_cases c : w < A 18
  · obtain ⟨d1, d2, d3, d4⟩ := b3 w w1.1 c
    obtain ⟨e1, -, e3, -⟩ := c5 w w1.1 c
    have l41 : mm 41 w.toNat = A (19 + w).toNat := by rw [fr _ _ (by omega), f5 _ _ (by omega) (by omega) (by omega)]; exact d1
    have l43 : mm 43 w.toNat = A (45 + w).toNat := by rw [fr _ _ (by omega), f5 _ _ (by omega) (by omega) (by omega)]; exact d3
    have lsp : ∀ k : Int, 0 ≤ k → k < A (19 + w).toNat → mm (25 + 4 + w.toNat) k.toNat = A (58 + 6 * w + k).toNat := fun k k0 k1 => by rw [fr _ _ (by omega), f5 _ _ (by omega) (by omega) (by omega)]; exact d4 k k0 k1
    rw [if_pos c, if_pos (by omega), l41, l43]
    refine mOk_bind (put_ok w1.1 (by omega) (by omega) (by rw [aln_sp w1.1 (by omega)]; omega) (by omega) (by omega)) (fun m8 k8 => ?_)
    obtain ⟨p1, p2, p3, p4⟩ := k8
    rw [if_pos (by omega), p3]
    unfold Twins_load_80
    rw [w32e (by omega) (by omega)]
    by_cases y : iand (ishr Z (A (45 + w).toNat)) 1 = 0
    · rw [if_pos y]
      refine ih _ _ ⟨by omega, fun v a b => ?_, fun q i a => by rw [p4 q i (by omega) (by omega)]; exact fr q i a⟩ (by omega)
      by_cases ev : v = w
      · rw [ev]
        exact ⟨p3, fun k k0 k1 => by rw [p1 k k0 k1]; exact lsp k k0 k1, Or.inl ⟨y, p2⟩⟩
      · rw [p4 96 _ (by omega) (by omega), p4 95 _ (by omega) (by omega), show m8 (82 + v.toNat) = mm (82 + v.toNat) from funext fun i => p4 _ _ (by omega) (by omega)]
        exact hw v a (by omega)
    · rw [if_neg y, p2, if_pos (by omega), st1e, st1e, aup_of (by omega), p2, w32e (by omega) (by omega), w8e (by omega) (by omega)]
      have fo : ∀ q i, ¬(q = 95 ∧ i = w.toNat) → ¬(q = 82 + w.toNat ∧ i = (A (19 + w).toNat).toNat) → aup (aup m8 (82 + w.toNat) (A (19 + w).toNat).toNat 8) 95 w.toNat (A (19 + w).toNat + 1) q i = m8 q i := fun q i a b => by rw [aup_of (by omega), aup_of (by omega)]
      refine ih _ _ ⟨by omega, fun v a b => ?_, fun q i a => by rw [fo q i (by omega) (by omega), p4 q i (by omega) (by omega)]; exact fr q i a⟩ (by omega)
      by_cases ev : v = w
      · rw [ev]
        refine ⟨by rw [fo _ _ (by omega) (by omega)]; exact p3, fun k k0 k1 => by rw [fo _ _ (by omega) (by omega), p1 k k0 k1]; exact lsp k k0 k1, Or.inr ⟨y, aup_self _ _ _ _, ?_⟩⟩
        rw [aup_of (by omega), aup_self]
      · rw [fo 96 _ (by omega) (by omega), fo 95 _ (by omega) (by omega), show aup (aup m8 (82 + w.toNat) (A (19 + w).toNat).toNat 8) 95 w.toNat (A (19 + w).toNat + 1) (82 + v.toNat) = m8 (82 + v.toNat) from funext fun i => fo _ _ (by omega) (by omega), p4 96 _ (by omega) (by omega), p4 95 _ (by omega) (by omega), show m8 (82 + v.toNat) = mm (82 + v.toNat) from funext fun i => p4 _ _ (by omega) (by omega)]
        exact hw v a (by omega)
  · rw [if_neg c]
    refine mOk_some ⟨⟨by rw [fr _ _ (by omega)]; exact v0, by rw [fr _ _ (by omega)]; exact v1, by rw [fr _ _ (by omega)]; exact v2, fun x x0 x1 => by rw [fr _ _ (by omega)]; exact v98 x x0 x1, fun k k0 k1 => by rw [fr _ _ (by omega)]; exact v97 k k0 k1, fun w' a b => hw w' a (by omega)⟩, fun q i a b => by rw [fr _ _ (by omega)]; exact f5 q i (by omega) (by omega) b⟩
