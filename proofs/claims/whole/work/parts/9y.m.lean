/-! ONE WORD MORE -/
/-- A1 is A with a word more, of kind kd and n sounds S -/
def yO (A A1 : Nat → Int) (kd n : Int) (S : Nat → Int) : Prop := A1 18 = A 18 + 1 ∧ (∀ k : Nat, k < 155 → k ≠ 18 → 19 + A 18 ≠ k → 45 + A 18 ≠ k → ¬(58 + 6 * A 18 ≤ k ∧ (k : Int) < 64 + 6 * A 18) → A1 k = A k) ∧ A1 (19 + A 18).toNat = n ∧ A1 (45 + A 18).toNat = kd ∧ ∀ k : Int, 0 ≤ k → k < n → A1 (58 + 6 * A 18 + k).toNat = S k.toNat
theorem yO_v {A A1 : Nat → Int} {kd n : Int} {S : Nat → Int} (ht : mTok A) (h : yO A A1 kd n S) (n1 : 1 ≤ n ∧ n ≤ 6) (k1 : 0 ≤ kd ∧ kd ≤ 3) (hs : ∀ k : Int, 0 ≤ k → k < n → 0 ≤ S k.toNat ∧ S k.toNat < 8) : mVx A1 := by
  obtain ⟨c0, c1, c2, c3, c4, c5, c6, c7, c8, -⟩ := ht
  obtain ⟨h1, h2, h3, h4, h5⟩ := h
  unfold mVx
  rw [h1, h2 140 (by omega) (by omega) (by omega) (by omega) (by omega)]
  refine ⟨by omega, fun w w0 w1 => ?_, fun k k0 k1 => ?_, c8, fun s s0 s1 => ?_⟩
  · by_cases c : w = A 18
    · rw [c, h3, h4]
      refine ⟨n1, k1, fun k k0 k1 => ?_⟩
      rw [h5 k k0 k1]; exact hs k k0 k1
    · obtain ⟨d1, -, d3, d4⟩ := c5 w w0 (by omega)
      rw [h2 (19 + w).toNat (by omega) (by omega) (by omega) (by omega) (by omega), h2 (45 + w).toNat (by omega) (by omega) (by omega) (by omega) (by omega)]
      refine ⟨d1, d3, fun k k0 k1 => ?_⟩
      rw [h2 (58 + 6 * w + k).toNat (by omega) (by omega) (by omega) (by omega) (by omega)]
      have := d4 k k0 k1
      omega
  · rw [h2 (136 + k).toNat (by omega) (by omega) (by omega) (by omega) (by omega)]; exact c7 k k0 k1
  · rw [h2 (10 + s).toNat (by omega) (by omega) (by omega) (by omega) (by omega)]
    refine ⟨(c3 s s0 s1).1, (c3 s s0 s1).2.1, fun b b0 b1 hb => ?_⟩
    rw [h2 (10 + b).toNat (by omega) (by omega) (by omega) (by omega) (by omega)]
    exact ((c3 s s0 s1).2.2 b b0 b1 hb).2.2.2
theorem yO_ex {A : Nat → Int} {kd n : Int} {S : Nat → Int} (c4 : 0 ≤ A 18 ∧ A 18 ≤ 12) (n1 : 1 ≤ n ∧ n ≤ 6) : ∃ A1, yO A A1 kd n S := by
  refine ⟨fun i => if i = 18 then A 18 + 1 else if i = (19 + A 18).toNat then n else if i = (45 + A 18).toNat then kd else if (58 + 6 * A 18).toNat ≤ i ∧ i < (64 + 6 * A 18).toNat then S (i - (58 + 6 * A 18).toNat) else A i, ?_, ?_, ?_, ?_, ?_⟩
  · exact if_pos rfl
  · intro k a b c d e
    dsimp only
    rw [if_neg b, if_neg (by omega), if_neg (by omega), if_neg (by omega)]
  · dsimp only
    rw [if_neg (by omega), if_pos rfl]
  · dsimp only
    rw [if_neg (by omega), if_neg (by omega), if_pos rfl]
  · intro k k0 k1
    dsimp only
    rw [if_neg (by omega), if_neg (by omega), if_neg (by omega), if_pos (by omega), show (58 + 6 * A 18 + k).toNat - (58 + 6 * A 18).toNat = k.toNat by omega]
/-- the class's words are those of A; the slot behind them is free -/
def yB (A : Nat → Int) (X : aM) : Prop := ((0 ≤ X 80 1 ∧ X 80 1 < 8192) ∧ ∀ w : Int, 0 ≤ w → w < 13 → w ≠ A 18 → ((X 80 1).toNat.testBit w.toNat = true ↔ w < A 18)) ∧ X 80 0 = A 18 ∧ X 80 2 = 15 - A 140 ∧ (∀ x : Int, 0 ≤ x → x < 8 → X 98 x.toNat = A (10 + x).toNat) ∧ (∀ k : Int, 0 ≤ k → k < 4 → X 97 k.toNat = 15 - A (136 + k).toNat) ∧ ∀ w : Int, 0 ≤ w → w < A 18 → X 96 w.toNat = A (45 + w).toNat ∧ X 95 w.toNat = A (19 + w).toNat ∧ ∀ k : Int, 0 ≤ k → k < A (19 + w).toNat → X (82 + w.toNat) k.toNat = A (58 + 6 * w + k).toNat
theorem yB_ld {A : Nat → Int} {X : aM} (ht : mTok A) (h : mLd A 0 X) : yB A X := by
  obtain ⟨⟨b0, b1⟩, b2, b3, b4, b5⟩ := lv_of ht (mAeqT.refl A) h
  exact ⟨⟨b0, fun w w0 w1 _ => b1 w w0 w1⟩, h.1, b2, b3, b4, b5⟩
theorem yB_fr {A : Nat → Int} {X X' : aM} (c4 : 0 ≤ A 18 ∧ A 18 ≤ 12) (f : ∀ q i, (82 ≤ q ∧ q ≤ 98) ∨ (q = 80 ∧ i ≤ 2) → X' q i = X q i) (h : yB A X) : yB A X' := by
  unfold yB at *
  rw [f 80 0 (by omega), f 80 1 (by omega), f 80 2 (by omega)]
  obtain ⟨a1, a2, a3, a4, a5, a6⟩ := h
  refine ⟨a1, a2, a3, fun x x0 x1 => by rw [f 98 _ (by omega)]; exact a4 x x0 x1, fun k k0 k1 => by rw [f 97 _ (by omega)]; exact a5 k k0 k1, fun w w0 w1 => ?_⟩
  rw [f 96 _ (by omega), f 95 _ (by omega), show X' (82 + w.toNat) = X (82 + w.toNat) from funext fun i => f _ _ (by omega)]
  exact a6 w w0 w1
theorem om_ok {A : Nat → Int} {kd n : Int} {x : Nat} {m : aM} (ht : mTok A) (h : yB A m) (n1 : 1 ≤ n ∧ n ≤ 6) (nx : n ≤ (aln x : Nat)) (hx : x < 80 ∨ 98 < x) : mOk (Twins_putOneMore x n kd m) (fun X => yB A X ∧ (∀ A1, yO A A1 kd n (m x) → mLv A1 X) ∧ ∀ q i, ¬(80 ≤ q ∧ q ≤ 98) → X q i = m q i) := by
  have c4 := ht.2.2.2.2.1
  obtain ⟨⟨b0, b1⟩, b2, b3, b4, b5, b6⟩ := h
  unfold Twins_putOneMore
  rw [b2]
  refine mOk_bind (put_ok (w := A 18) (x := x) (n := n) (kd := kd) (m := m) c4.1 (by omega) (by omega) nx (by omega) (by omega)) (fun r k => ?_)
  obtain ⟨p1, p2, p3, p4⟩ := k
  rw [st1e, p4 80 1 (by omega) (by omega), p4 80 0 (by omega) (by omega), b2]
  obtain ⟨i1, i2⟩ := ior_bit (x := m 80 1) (c := A 18) (B := 13) b0.1 (by omega) c4.1 (by omega) (by omega)
  have f5 : ∀ q i, ¬(q = 80 ∧ i = 1) → aup r 80 1 (ior (m 80 1) (ishl 1 (A 18))) q i = r q i := fun q i a => aup_of (by omega)
  have v5 : aup r 80 1 (ior (m 80 1) (ishl 1 (A 18))) 80 1 = ior (m 80 1) (ishl 1 (A 18)) := aup_self _ _ _ _
  generalize aup r 80 1 (ior (m 80 1) (ishl 1 (A 18))) = X at f5 v5 ⊢
  have bits : ∀ w : Int, 0 ≤ w → w < 13 → ((ior (m 80 1) (ishl 1 (A 18))).toNat.testBit w.toNat = true ↔ w < A 18 + 1) := by
    intro w w0 w1
    rw [i2, Bool.or_eq_true, decide_eq_true_eq]
    by_cases c : w = A 18
    · rw [c]; exact ⟨fun _ => by omega, fun _ => Or.inr rfl⟩
    · rw [b1 w w0 w1 c]
      constructor
      · rintro (g | g) <;> omega
      · intro g; left; omega
  have e95 : ∀ w : Int, 0 ≤ w → w < A 18 → X 95 w.toNat = m 95 w.toNat := fun w a b => by rw [f5 _ _ (by omega)]; exact p4 _ _ (by omega) (by omega)
  have e96 : ∀ w : Int, 0 ≤ w → w < A 18 → X 96 w.toNat = m 96 w.toNat := fun w a b => by rw [f5 _ _ (by omega)]; exact p4 _ _ (by omega) (by omega)
  have e82 : ∀ w : Int, 0 ≤ w → w < A 18 → X (82 + w.toNat) = m (82 + w.toNat) := fun w a b => funext fun i => by rw [f5 _ _ (by omega)]; exact p4 _ _ (by omega) (by omega)
  have e97 : ∀ q i, q = 97 ∨ q = 98 → X q i = m q i := fun q i a => by rw [f5 _ _ (by omega)]; exact p4 _ _ (by omega) (by omega)
  have e0 : X 80 0 = A 18 := by rw [f5 _ _ (by omega), p4 _ _ (by omega) (by omega)]; exact b2
  have e2 : X 80 2 = 15 - A 140 := by rw [f5 _ _ (by omega), p4 _ _ (by omega) (by omega)]; exact b3
  refine mOk_some ⟨⟨⟨by rw [v5]; omega, fun w w0 w1 ne => ?_⟩, e0, e2, fun x x0 x1 => by rw [e97 _ _ (by omega)]; exact b4 x x0 x1, fun k k0 k1 => by rw [e97 _ _ (by omega)]; exact b5 k k0 k1, fun w w0 w1 => ?_⟩, fun A1 hO => ?_, fun q i a => ?_⟩
  · rw [v5, bits w w0 w1]; omega
  · rw [e96 w w0 w1, e95 w w0 w1, e82 w w0 w1]; exact b6 w w0 w1
  · obtain ⟨h1, h2, h3, h4, h5⟩ := hO
    unfold mLv
    rw [h1, v5, e2, h2 140 (by omega) (by omega) (by omega) (by omega) (by omega)]
    refine ⟨⟨by omega, bits⟩, rfl, fun x x0 x1 => ?_, fun k k0 k1 => ?_, fun w w0 w1 => ?_⟩
    · rw [e97 _ _ (by omega), h2 (10 + x).toNat (by omega) (by omega) (by omega) (by omega) (by omega)]; exact b4 x x0 x1
    · rw [e97 _ _ (by omega), h2 (136 + k).toNat (by omega) (by omega) (by omega) (by omega) (by omega)]; exact b5 k k0 k1
    · by_cases c : w = A 18
      · rw [c, h3, h4, f5 96 _ (by omega), f5 95 _ (by omega), p2, p3]
        refine ⟨rfl, rfl, fun k k0 k1 => ?_⟩
        rw [f5 _ _ (by omega), p1 k k0 k1, h5 k k0 k1]
      · have w2 : w < A 18 := by omega
        have d1 := (ht.2.2.2.2.2.1 w w0 w2).1
        rw [e96 w w0 w2, e95 w w0 w2, e82 w w0 w2, h2 (19 + w).toNat (by omega) (by omega) (by omega) (by omega) (by omega), h2 (45 + w).toNat (by omega) (by omega) (by omega) (by omega) (by omega)]
        obtain ⟨g1, g2, g3⟩ := b6 w w0 w2
        refine ⟨g1, g2, fun k k0 k1 => ?_⟩
        rw [h2 (58 + 6 * w + k).toNat (by omega) (by omega) (by omega) (by omega) (by omega)]
        exact g3 k k0 k1
  · rw [f5 _ _ (by omega)]; exact p4 q i (by omega) (by omega)
/-- put and search -/
theorem os_ok {A : Nat → Int} {kd n M : Int} {x : Nat} {m : aM} (ht : mTok A) (h : yB A m) (hM : mM3 M) (n1 : 1 ≤ n ∧ n ≤ 6) (k1 : 0 ≤ kd ∧ kd ≤ 3) (nx : n ≤ (aln x : Nat)) (hx : x < 80 ∨ 98 < x) (hs : ∀ k : Int, 0 ≤ k → k < n → 0 ≤ m x k.toNat ∧ m x k.toNat < 8) : mOk ((Twins_putOneMore x n kd m).bind fun r => Twins_shortest M r) (fun r => yB A r.2 ∧ (∀ A1, yO A A1 kd n (m x) → (r.1 = -1 ↔ mSur A1 0 M 0)) ∧ ∀ q i, ¬(80 ≤ q ∧ q ≤ 103) → r.2 q i = m q i) := by
  have c4 := ht.2.2.2.2.1
  refine mOk_bind (om_ok ht h n1 nx hx) (fun X k => ?_)
  obtain ⟨p1, p2, p3⟩ := k
  obtain ⟨A0, hA0⟩ := yO_ex (A := A) (kd := kd) (n := n) (S := m x) c4 n1
  refine mOk_mono (shv_ok (yO_v ht hA0 n1 k1 hs) (p2 A0 hA0) hM) (fun r k => ?_)
  obtain ⟨ft, an⟩ := k
  refine ⟨yB_fr c4 (fun q i a => ft q i (by omega) (by omega)) p1, fun A1 hA1 => an A1 (yO_v ht hA1 n1 k1 hs) (p2 A1 hA1), fun q i a => ?_⟩
  rw [ft q i (by omega) (by omega)]; exact p3 q i (by omega)
theorem R_sureWith_ok {M : Int} {m : aM} (w1 : 0 ≤ m 177 18 ∧ m 177 18 ≤ 12) (h : mVx (aup m 177 18 (m 177 18 + 1) 177)) (M0 : 0 ≤ M) (M2 : M ≤ 2) (mk : 0 ≤ m 176 30 ∧ m 176 30 ≤ 2000000) (mb : ∀ s : Nat, m 193 s ≤ m 176 30) : mOk (R_isSureWith M m) (fun r => ((r.1 = 1 ∧ mSur (aup m 177 18 (m 177 18 + 1) 177) (m 176 32) M (m 176 33)) ∨ (r.1 = 0 ∧ ¬ mSur (aup m 177 18 (m 177 18 + 1) 177) (m 176 32) M (m 176 33))) ∧ (∀ q i, ¬(189 ≤ q ∧ q ≤ 195) → ¬(q = 176 ∧ (29 ≤ i ∧ i ≤ 31)) → r.2 q i = m q i) ∧ r.2 176 30 = m 176 30 + 1 ∧ ∀ s : Nat, r.2 193 s ≤ r.2 176 30) := by
  unfold R_isSureWith
  rw [st1e, w32e (by omega) (by omega)]
  have f1 : ∀ q i, ¬(q = 177 ∧ i = 18) → aup m 177 18 (m 177 18 + 1) q i = m q i := fun q i a => aup_of (by omega)
  have v1 : aup m 177 18 (m 177 18 + 1) 177 18 = m 177 18 + 1 := aup_self _ _ _ _
  generalize aup m 177 18 (m 177 18 + 1) = m1 at f1 v1 h ⊢
  refine mOk_bind (isSure_ok h M0 M2 (by rw [f1 _ _ (by omega)]; exact mk) (fun s => by rw [f1 _ _ (by omega), f1 _ _ (by omega)]; exact mb s)) (fun r k => ?_)
  obtain ⟨k1, k2, k3, k4⟩ := k
  rw [f1 176 32 (by omega), f1 176 33 (by omega)] at k1
  rw [f1 176 30 (by omega)] at k3
  rw [st1e, if_pos (by rcases k1 with g | g <;> omega), k2 177 18 (by omega) (by omega), v1, w32e (by omega) (by omega)]
  refine mOk_some ⟨k1, fun q i a b => ?_, ?_, fun s => ?_⟩
  · dsimp only
    by_cases c : q = 177 ∧ i = 18
    · rw [c.1, c.2, aup_self]; omega
    · rw [aup_of (by omega), k2 q i a b]; exact f1 q i c
  · dsimp only; rw [aup_of (by omega)]; exact k3
  · dsimp only; rw [aup_of (by omega), aup_of (by omega)]; exact k4 s
/-- the slot behind the last word has changed -/
theorem mInv_slot {n : Nat} {m m2 : aM} (h : mInv n m) (fr : ∀ q i, mDep q i → q ≠ 107 → q ≠ 79 → ¬(108 ≤ q ∧ q ≤ 119) → ¬(q = 176 ∧ i = 30) → q ≠ 193 → q ≠ 177 → ¬(q = 1 ∧ i = 1) → ¬(q = 176 ∧ i = 5) → m2 q i = m q i) (a : mAeq (m 177) (m2 177)) (im : ∀ i, 196 ≤ i → m2 177 i = m 177 i) (tp : mTape m2) (mk : mMark (n + 1) m2) (hm : mMendC m2) : mInv (n + 1) m2 := by
  obtain ⟨k1, k2, k3, k4, k5, k6, k7, k8, k9⟩ := h
  have f : ∀ q, (∀ i, mDep q i) → q ≠ 107 → q ≠ 79 → ¬(108 ≤ q ∧ q ≤ 119) → q ≠ 176 → q ≠ 193 → q ≠ 177 → q ≠ 1 → m2 q = m q := fun q a b c d e g i j => rowEq fun k => fr q k (a k) b c d (by omega) g i (by omega) (by omega)
  refine ⟨tp, ?_, mTok_aeq a k3, ?_, mRows_c (fun q hq => f q (fun i => by unfold mDep; omega) (by omega) (by omega) (by omega) (by omega) (by omega) (by omega) (by omega)) k5, mImg_c (fun q hq => f q (fun i => by unfold mDep; omega) (by omega) (by omega) (by omega) (by omega) (by omega) (by omega) (by omega)) im k6, mk, ?_, hm⟩
  · rw [fr 176 13 (by unfold mDep; omega) (by omega) (by omega) (by omega) (by omega) (by omega) (by omega) (by omega) (by omega), fr 176 14 (by unfold mDep; omega) (by omega) (by omega) (by omega) (by omega) (by omega) (by omega) (by omega) (by omega), fr 1 7 (by unfold mDep; omega) (by omega) (by omega) (by omega) (by omega) (by omega) (by omega) (by omega) (by omega), fr 1 8 (by unfold mDep; omega) (by omega) (by omega) (by omega) (by omega) (by omega) (by omega) (by omega) (by omega)]
    exact k2
  · exact mTR_aeq a k3 (mTR_same (fun q j hq => fr q j (by unfold mDep; omega) (by omega) (by omega) (by omega) (by omega) (by omega) (by omega) (by omega) (by omega)) k4 k3.2.2.2.2.1.2)
  · exact mCutC_of a k3.2.2.2.2.1.1 (fr _ _ (by unfold mDep; omega) (by omega) (by omega) (by omega) (by omega) (by omega) (by omega) (by omega) (by omega)) (fr _ _ (by unfold mDep; omega) (by omega) (by omega) (by omega) (by omega) (by omega) (by omega) (by omega) (by omega)) (f _ (fun i => by unfold mDep; omega) (by omega) (by omega) (by omega) (by omega) (by omega) (by omega) (by omega)) (f _ (fun i => by unfold mDep; omega) (by omega) (by omega) (by omega) (by omega) (by omega) (by omega) (by omega)) (f _ (fun i => by unfold mDep; omega) (by omega) (by omega) (by omega) (by omega) (by omega) (by omega) (by omega)) k8
