/-! fitted -/
noncomputable def mFit (A : Nat → Int) (s want : Int) : Int := if iand (ishr (A 9) s) 1 = want then 0 else @ite Int (∃ t : Int, 0 ≤ t ∧ t < A 0 ∧ iand (ishr (A (10 + s).toNat) t) 1 = 1 ∧ iand (ishr (A 9) t) 1 = want) (Classical.propDecidable _) 1 2
theorem mFit_bd (A : Nat → Int) (s want : Int) : 0 ≤ mFit A s want ∧ mFit A s want ≤ 2 := by
  unfold mFit
  split
  · omega
  · split <;> omega
theorem fits_ok {s want : Int} {m : aM} (ht : mTok (m 177)) (s0 : 0 ≤ s) (s1 : s < 8) : mOk (R_fits s want m) (fun r => r = mFit (m 177) s want) := by
  have c0 := ht.1
  unfold R_fits
  by_cases c : iand (ishr (m 177 9) s) 1 = want
  · rw [if_pos c]
    exact mOk_some (by unfold mFit; rw [if_pos c])
  rw [if_neg c]
  refine mL1 (R_fits_14 m s want) (fun t => 0 ≤ t ∧ t ≤ m 177 0 ∧ ∀ u : Int, 0 ≤ u → u < t → ¬ (iand (ishr (m 177 (10 + s).toNat) u) 1 = 1 ∧ iand (ishr (m 177 9) u) 1 = want)) (fun t => (9 - t).toNat) ?_ 0 ⟨by omega, by omega, fun u a b => by omega⟩ (by omega)
  rintro fu t ⟨t0, t1, t2⟩ ih
  rw [R_fits_14]
  by_cases d : t < m 177 0
  · rw [if_pos d, isLike_eq s0 s1]
    simp only [Option.bind_some]
    have nx : ¬ (iand (ishr (m 177 (10 + s).toNat) t) 1 = 1 ∧ iand (ishr (m 177 9) t) 1 = want) → mOk (R_fits_37 m (R_fits_14 m s want fu) s want t) (fun r => r = mFit (m 177) s want) := by
      intro hn
      unfold R_fits_37
      rw [w32e (by omega) (by omega)]
      refine ih _ ⟨by omega, by omega, fun u u0 u1 => ?_⟩ (by omega)
      by_cases e : u = t
      · rw [e]; exact hn
      · exact t2 u u0 (by omega)
    by_cases e : iand (ishr (m 177 (10 + s).toNat) t) 1 = 1
    · rw [if_pos e, if_neg (by omega)]
      by_cases f : iand (ishr (m 177 9) t) 1 = want
      · rw [if_pos f]
        refine mOk_some ?_
        unfold mFit
        rw [if_neg c]
        exact (if_pos ⟨t, t0, d, e, f⟩).symm
      · rw [if_neg f]
        exact nx (fun h => f h.2)
    · rw [if_neg e, if_pos rfl]
      exact nx (fun h => e h.1)
  · rw [if_neg d]
    refine mOk_some ?_
    unfold mFit
    rw [if_neg c]
    exact (if_neg (fun ⟨u, u0, u1, u2, u3⟩ => t2 u u0 (by omega) ⟨u2, u3⟩)).symm
theorem and_ne {a b : Nat} (ha : a < 256) : a &&& b ≠ 0 ↔ ∃ i, i < 8 ∧ a.testBit i = true ∧ b.testBit i = true := by
  constructor
  · intro h
    obtain ⟨i, hi⟩ := Nat.exists_testBit_of_ne_zero h
    rw [Nat.testBit_and, Bool.and_eq_true] at hi
    refine ⟨i, ?_, hi⟩
    rcases Nat.lt_or_ge i 8 with c | c
    · exact c
    · have : a < 2 ^ i := Nat.lt_of_lt_of_le ha (show 2 ^ 8 ≤ 2 ^ i from Nat.pow_le_pow_right (by omega) c)
      rw [Nat.testBit_lt_two_pow this] at hi
      exact absurd hi.1 (by simp)
  · rintro ⟨i, -, h1, h2⟩ h
    have := congrArg (fun x => x.testBit i) h
    simp only [Nat.testBit_and, h1, h2, Nat.zero_testBit] at this
    exact absurd this (by simp)
/-- the class's cost of a sound against a set of sounds -/
theorem costInstead_s {s M want : Int} {m : aM} {A : Nat → Int} (ht : mTok A) (hl : ∀ s : Int, 0 ≤ s → s < 8 → m 27 s.toNat = A (10 + s).toNat) (s0 : 0 ≤ s) (s1 : s < A 0) (M0 : 0 ≤ M) (M1 : M < 256) (hM : ∀ t : Int, 0 ≤ t → t < A 0 → (iand (ishr M t) 1 = 1 ↔ iand (ishr (A 9) t) 1 = want)) : Measure_costInstead s M m = some (mFit A s want) := by
  have c0 := ht.1
  have c3 := ht.2.2.2.1 s s0 (by omega)
  unfold Measure_costInstead mFit
  have b01 := bt_01 (a := M) (k := s)
  have h1 := hM s s0 s1
  by_cases e : iand (ishr M s) 1 = 0
  · have hne : ¬ (iand (ishr (A 9) s) 1 = want) := fun h => by have := h1.mpr h; omega
    rw [if_pos e, if_pos (by omega), if_neg hne, hl s s0 (by omega), iand_nn c3.1 (by omega) M0 (by omega)]
    by_cases z : (A (10 + s).toNat).toNat &&& M.toNat = 0
    · rw [if_pos (by rw [z]; rfl)]
      refine congrArg some (if_neg ?_).symm
      rintro ⟨t, t0, t1, t2, t3⟩
      refine (and_ne (a := (A (10 + s).toNat).toNat) (b := M.toNat) (by omega)).mpr ⟨t.toNat, by omega, ?_, ?_⟩ z
      · exact (bt_ne c3.1 (by omega) t0 (by omega)).mp (by omega)
      · have := (hM t t0 t1).mpr t3
        exact (bt_ne M0 (by omega) t0 (by omega)).mp (by omega)
    · rw [if_neg (by omega)]
      refine congrArg some (if_pos ?_).symm
      obtain ⟨i, i1, i2, i3⟩ := (and_ne (a := (A (10 + s).toNat).toNat) (b := M.toNat) (by omega)).mp z
      have g1 : iand (ishr (A (10 + s).toNat) (i : Int)) 1 ≠ 0 := (bt_ne c3.1 (by omega) (by omega) (by omega)).mpr (by rw [Int.toNat_natCast]; exact i2)
      have g2 : iand (ishr M (i : Int)) 1 ≠ 0 := (bt_ne M0 (by omega) (by omega) (by omega)).mpr (by rw [Int.toNat_natCast]; exact i3)
      have g3 := c3.2.2 (i : Int) (by omega) (by omega) g1
      have b1 := bt_01 (a := A (10 + s).toNat) (k := (i : Int))
      have b2 := bt_01 (a := M) (k := (i : Int))
      exact ⟨i, by omega, g3.2.1, by omega, (hM i (by omega) g3.2.1).mp (by omega)⟩
  · rw [if_neg e, if_pos (h1.mp (by omega))]
theorem shut_ok {o n : Int} (o0 : 0 ≤ o) (o1 : o < 256) (n0 : 0 ≤ n) (n1 : n ≤ 8) : (0 ≤ iand (ixor o (-1)) (w32 ((ishl 1 n) - 1)) ∧ iand (ixor o (-1)) (w32 ((ishl 1 n) - 1)) < 256) ∧ ∀ t : Int, 0 ≤ t → t < n → iand (ishr (iand (ixor o (-1)) (w32 ((ishl 1 n) - 1))) t) 1 = 1 - iand (ishr o t) 1 := by
  have aux : ∀ o : Fin 256, ∀ n : Fin 9, (decide (0 ≤ iand (ixor ((o.val : Nat) : Int) (-1)) (w32 ((ishl 1 ((n.val : Nat) : Int)) - 1))) && decide (iand (ixor ((o.val : Nat) : Int) (-1)) (w32 ((ishl 1 ((n.val : Nat) : Int)) - 1)) < 256) && (List.range n.val).all (fun t => iand (ishr (iand (ixor ((o.val : Nat) : Int) (-1)) (w32 ((ishl 1 ((n.val : Nat) : Int)) - 1))) (t : Int)) 1 == 1 - iand (ishr ((o.val : Nat) : Int) (t : Int)) 1)) = true := by decide +kernel
  have h := aux ⟨o.toNat, by omega⟩ ⟨n.toNat, by omega⟩
  simp only [Int.toNat_of_nonneg o0, Int.toNat_of_nonneg n0, Bool.and_eq_true, decide_eq_true_eq, List.all_eq_true, List.mem_range, beq_iff_eq] at h
  refine ⟨⟨h.1.1, h.1.2⟩, fun t t0 t1 => ?_⟩
  have := h.2 t.toNat (by omega)
  rw [Int.toNat_of_nonneg t0] at this
  exact this
/-- what a row of sounds costs to be of a shape -/
noncomputable def mSh (A S : Nat → Int) (n s : Int) : Int := mEd (fun i j => mFit A (S i) (iand (ishr (A (148 + s).toNat) (j : Int)) 1)) n.toNat (A (142 + s).toNat).toNat
theorem toShape_ok {n s : Int} {m : aM} {A : Nat → Int} (ht : mTok A) (hr : mTR 25 47 A m) (n0 : 0 ≤ n) (n1 : n ≤ 12) (s0 : 0 ≤ s) (s1 : s < A 141) (hs : ∀ k : Int, 0 ≤ k → k < n → 0 ≤ m 50 k.toNat ∧ m 50 k.toNat < A 0) : mOk (Measure_toShape 50 n s m) (fun r => r.1 = mSh A (m 50) n s ∧ ∀ q i, q ≠ 77 → q ≠ 78 → r.2 q i = m q i) := by
  have c0 := ht.1
  have c2 := ht.2.2.1
  have c9 := ht.2.2.2.2.2.2.2.2.2.1
  have c10 := ht.2.2.2.2.2.2.2.2.2.2.1 s s0 s1
  have b5 := hr.2.2.2.2.2.1 s s0 s1
  have a1 := hr.1.2.1
  have a4 := hr.1.2.2.2.2.1
  unfold Measure_toShape
  rw [a4, a1]
  obtain ⟨sh1, sh2⟩ := shut_ok c2.1 c2.2 c0.1 c0.2
  generalize iand (ixor (A 9) (-1)) (w32 ((ishl 1 (A 0)) - 1)) = shut at sh1 sh2
  refine mL2 (Measure_toShape_14 50 n s shut) (fun j mm => 0 ≤ j ∧ j ≤ A (142 + s).toNat ∧ (∀ k : Nat, (k : Int) < j → mm 77 k = if iand (ishr (A (148 + s).toNat) (k : Int)) 1 = 0 then shut else A 9) ∧ ∀ q i, q ≠ 77 → mm q i = m q i) (fun j _ => (7 - j).toNat) ?_ 0 m ⟨by omega, by omega, fun k a => by omega, fun _ _ _ => rfl⟩ (by omega)
  rintro fu j mm ⟨j0, j1, t1, fr⟩ ih
  rw [Measure_toShape_14, if_pos (by omega), show mm 45 s.toNat = _ from (fr _ _ (by omega)).trans b5.1, show mm 46 s.toNat = _ from (fr _ _ (by omega)).trans b5.2, show mm 25 4 = A 9 from (fr _ _ (by omega)).trans a4]
  by_cases c : j < A (142 + s).toNat
  · rw [if_pos c]
    have put : ∀ v : Int, v = (if iand (ishr (A (148 + s).toNat) j) 1 = 0 then shut else A 9) → mOk (Measure_toShape_36 (Measure_toShape_14 50 n s shut fu) 50 n s shut j v j mm) (fun r => r.1 = mSh A (m 50) n s ∧ ∀ q i, q ≠ 77 → q ≠ 78 → r.2 q i = m q i) := by
      intro v hv
      unfold Measure_toShape_36
      rw [if_pos (by omega), w32e (by omega) (by omega)]
      refine mOk_st1 (ih _ _ ⟨by omega, by omega, fun k hk => ?_, fun q i hq => by rw [aup_of (by omega)]; exact fr q i hq⟩ (by omega))
      by_cases e : (k : Int) = j
      · rw [aup_at rfl (by omega), hv, e]
      · rw [aup_of (by omega)]; exact t1 k (by omega)
    by_cases z : iand (ishr (A (148 + s).toNat) j) 1 = 0
    · rw [if_pos z]
      exact put _ (by rw [if_pos z])
    · rw [if_neg z]
      exact put _ (by rw [if_neg z])
  · rw [if_neg c]
    refine mOk_bind (leastCost_ok (c := fun i j => mFit A (m 50 i) (iand (ishr (A (148 + s).toNat) (j : Int)) 1)) (by decide) n0 (by rw [show aln 50 = 40 by decide]; omega) (by omega) (by omega) c10.1.2 ?_) (fun r k => mOk_some ⟨k.1, fun q i q1 q2 => by rw [k.2 q i q2]; exact fr q i q1⟩)
    intro i j hi hj
    refine ⟨mFit_bd _ _ _, fun mm2 h27 => ?_⟩
    rw [t1 j (by omega), fr 50 _ (by omega)]
    have hsi := hs i (by omega) hi
    rw [Int.toNat_natCast] at hsi
    have b01 := bt_01 (a := A (148 + s).toNat) (k := (j : Int))
    refine costInstead_s ht (fun x x0 x1 => by rw [h27, fr _ _ (by omega)]; exact hr.2.2.1 x x0 x1) hsi.1 hsi.2 ?_ ?_ ?_
    · split <;> omega
    · split <;> omega
    · intro t t0 tn
      have bo := bt_01 (a := A 9) (k := t)
      by_cases z : iand (ishr (A (148 + s).toNat) (j : Int)) 1 = 0
      · rw [if_pos z, sh2 t t0 tn, z]; omega
      · rw [if_neg z]
        have z1 : iand (ishr (A (148 + s).toNat) (j : Int)) 1 = 1 := by omega
        rw [z1]
theorem fittedTo_ok {n s : Int} {m : aM} {S : Nat → Int} (ht : mTok (m 177)) (n0 : 0 ≤ n) (n1 : n ≤ 12) (s0 : 0 ≤ s) (s1 : s < m 177 141) (hs : ∀ k : Int, 0 ≤ k → k < n → mSnd (m 177) (m 179 k.toNat) (S k.toNat) ∧ 0 ≤ S k.toNat) : mOk (R_fittedTo s n m) (fun r => r.1 = mSh (m 177) S n s ∧ ∀ q i, q ≠ 181 → r.2 q i = m q i) := by
  have c0 := ht.1
  have c9 := ht.2.2.2.2.2.2.2.2.2.1
  have c10 := ht.2.2.2.2.2.2.2.2.2.2.1 s s0 s1
  unfold R_fittedTo mSh
  rw [w32e (x := 142 + s) (by omega) (by omega), if_pos (by omega), w32e (x := m 177 (142 + s).toNat + 1) (by omega) (by omega)]
  generalize hk : m 177 (142 + s).toNat + 1 = k
  generalize hc : (fun i j : Nat => mFit (m 177) (S i) (iand (ishr (m 177 (148 + s).toNat) (j : Int)) 1)) = c
  have hcb : ∀ i j : Nat, 0 ≤ c i j ∧ c i j ≤ 2 := fun i j => by rw [← hc]; exact mFit_bd _ _ _
  have bd : ∀ i j : Nat, 0 ≤ mEd c i j ∧ mEd c i j ≤ 2 * ((i : Int) + j) := fun i j => mEd_bd (n := i) (k := j) (fun i j _ _ => hcb i j) i j (by omega) (by omega)
  refine mL2 (R_fittedTo_11 s n k) (fun i mm => 0 ≤ i ∧ i ≤ n + 1 ∧ mTb c k i 0 mm ∧ ∀ q i, q ≠ 181 → mm q i = m q i) (fun i _ => (14 - i).toNat) ?_ 0 m ⟨by omega, by omega, fun a b x y => by omega, fun _ _ _ => rfl⟩ (by omega)
  rintro fu i mm ⟨i0, i1, t1, fr⟩ ih
  rw [R_fittedTo_11]
  by_cases d : n < i
  · rw [if_pos d]
    have b2 := idx_bd (i := n) (j := k - 1) (k := k) (by omega) (by omega) (by omega) (by omega) (by omega) (by omega)
    simp (disch := omega) only [w32e, if_pos]
    refine mOk_some ⟨?_, fr⟩
    have := t1 n.toNat (m 177 (142 + s).toNat).toNat (by omega) (by omega)
    rw [Int.toNat_of_nonneg n0, Int.toNat_of_nonneg (by omega), show n * k + m 177 (142 + s).toNat = n * k + k - 1 by omega] at this
    exact this
  · rw [if_neg d]
    refine mL2 (R_fittedTo_16 (R_fittedTo_11 s n k fu) s n k i) (fun j mm => 0 ≤ j ∧ j ≤ k ∧ mTb c k i j mm ∧ ∀ q i, q ≠ 181 → mm q i = m q i) (fun j _ => (8 - j).toNat) ?_ 0 mm ⟨by omega, by omega, t1, fr⟩ (by omega)
    rintro fu2 j mm2 ⟨j0, j1, t1, fr2⟩ ih2
    have f177 : ∀ a, mm2 177 a = m 177 a := fun a => fr2 _ _ (by omega)
    have ht2 : mTok (mm2 177) := by rw [funext f177]; exact ht
    rw [R_fittedTo_16]
    by_cases e : j < k
    · rw [if_pos e]
      have b2 := idx_bd (i := i) (j := j) (k := k) (by omega) (by omega) j0 e i0 (by omega)
      have store : ∀ x : Int, x = mEd c i.toNat j.toNat → mOk (R_fittedTo_125 (R_fittedTo_11 s n k fu) (R_fittedTo_16 (R_fittedTo_11 s n k fu) s n k i fu2) s n k i j x mm2) (fun r => r.1 = mEd c n.toNat (m 177 (142 + s).toNat).toNat ∧ ∀ q i, q ≠ 181 → r.2 q i = m q i) := by
        intro x hx
        unfold R_fittedTo_125
        simp (disch := omega) only [w32e, if_pos, st1e]
        refine ih2 _ _ ⟨by omega, by omega, mTb_up (by omega) (by omega) i0 (by omega) j0 e t1 hx, fun q p hq => ?_⟩ (by omega)
        rw [aup_of (by omega)]
        exact fr2 q p hq
      have go : ∀ x : Int, (i = 0 → x = 2 * j) → (0 < i → x = 2 * i) → mOk (R_fittedTo_28 (R_fittedTo_11 s n k fu) (R_fittedTo_16 (R_fittedTo_11 s n k fu) s n k i fu2) s n k i j x mm2) (fun r => r.1 = mEd c n.toNat (m 177 (142 + s).toNat).toNat ∧ ∀ q i, q ≠ 181 → r.2 q i = m q i) := by
        intro x hx0 hx1
        unfold R_fittedTo_28
        by_cases ci : 0 < i
        · rw [if_pos ci]
          by_cases cj : 0 < j
          · rw [if_pos cj]
            have b3 := b2.2.2 (by omega)
            have hi1 : i.toNat = (i - 1).toNat + 1 := by omega
            have hj1 : j.toNat = (j - 1).toNat + 1 := by omega
            have u1 : mm2 181 (i * k - k + j).toNat = mEd c (i - 1).toNat j.toNat := by
              have := t1 (i - 1).toNat j.toNat (by omega) (by omega)
              rw [show ((i - 1).toNat : Int) = i - 1 by omega, show (j.toNat : Int) = j by omega, b3.1] at this
              exact this
            have u2 : mm2 181 (i * k + j - 1).toNat = mEd c i.toNat (j - 1).toNat := by
              have := t1 i.toNat (j - 1).toNat (by omega) (by omega)
              rw [show (i.toNat : Int) = i by omega, show ((j - 1).toNat : Int) = j - 1 by omega, show i * k + (j - 1) = i * k + j - 1 by omega] at this
              exact this
            have u3 : mm2 181 (i * k - k + j - 1).toNat = mEd c (i - 1).toNat (j - 1).toNat := by
              have := t1 (i - 1).toNat (j - 1).toNat (by omega) (by omega)
              rw [show ((i - 1).toNat : Int) = i - 1 by omega, show ((j - 1).toNat : Int) = j - 1 by omega, b3.1, show i * k - k + (j - 1) = i * k - k + j - 1 by omega] at this
              exact this
            have g1 := bd (i - 1).toNat j.toNat
            have g2 := bd i.toNat (j - 1).toNat
            have g3 := bd (i - 1).toNat (j - 1).toNat
            have hcv : c (i - 1).toNat (j - 1).toNat = mFit (m 177) (S (i - 1).toNat) (iand (ishr (m 177 (148 + s).toNat) (j - 1)) 1) := by
              rw [← hc]
              show mFit _ _ _ = _
              rw [show ((j - 1).toNat : Int) = j - 1 by omega]
            have hcq := hcb (i - 1).toNat (j - 1).toNat
            have fin : ∀ side : Int, side = mMin (mEd c i.toNat (j - 1).toNat) (mEd c (i - 1).toNat j.toNat) → mOk (R_fittedTo_75 (R_fittedTo_11 s n k fu) (R_fittedTo_16 (R_fittedTo_11 s n k fu) s n k i fu2) s n k i j side mm2) (fun r => r.1 = mEd c n.toNat (m 177 (142 + s).toNat).toNat ∧ ∀ q i, q ≠ 181 → r.2 q i = m q i) := by
              intro side hside
              have gm := mMin_le (mEd c i.toNat (j - 1).toNat) (mEd c (i - 1).toNat j.toNat)
              unfold R_fittedTo_75
              simp (disch := omega) only [w32e, b3.1, if_pos, u3]
              refine mOk_bind (soundOf_tape (A := m 177) ht (fun a _ => f177 a)) (fun sd ksd => ?_)
              have hsd := hs (i - 1) (by omega) (by omega)
              rw [fr2 179 _ (by omega)] at ksd
              have esd := mSnd_uni hsd.1 ksd
              have bsd := mSnd_bd ksd
              refine mOk_bind (fits_ok ht2 (s := sd) (want := iand (ishr (mm2 177 (148 + s).toNat) (j - 1)) 1) (by omega) (by omega)) (fun cost kc => ?_)
              have hcost : cost = c (i - 1).toNat (j - 1).toNat := by
                rw [kc, hcv, funext f177, ← esd]
              have hm : mEd c i.toNat j.toNat = mMin (mEd c (i - 1).toNat (j - 1).toNat + c (i - 1).toNat (j - 1).toNat) (mMin (mEd c i.toNat (j - 1).toNat) (mEd c (i - 1).toNat j.toNat) + 2) := by
                rw [hi1, hj1, mEd]
              have gq := mMin_le (mEd c (i - 1).toNat (j - 1).toNat + c (i - 1).toNat (j - 1).toNat) (mMin (mEd c i.toNat (j - 1).toNat) (mEd c (i - 1).toNat j.toNat) + 2)
              unfold R_fittedTo_124
              rw [w32e (by omega) (by omega)]
              by_cases z : mEd c (i - 1).toNat (j - 1).toNat + cost < side + 2
              · rw [if_pos z]
                exact store _ (by rw [hm]; omega)
              · rw [if_neg z]
                exact store _ (by rw [hm]; omega)
            simp (disch := omega) only [w32e, b3.1, if_pos, u1, u2, f177]
            by_cases z : mEd c (i - 1).toNat j.toNat < mEd c i.toNat (j - 1).toNat
            · rw [if_pos z]
              exact fin _ (by unfold mMin; rw [if_pos z])
            · rw [if_neg z]
              exact fin _ (by unfold mMin; rw [if_neg z])
          · rw [if_neg cj]
            refine store x ?_
            rw [show j.toNat = 0 by omega, show i.toNat = (i - 1).toNat + 1 by omega, mEd, hx1 ci]
            omega
        · rw [if_neg ci]
          refine store x ?_
          rw [show i.toNat = 0 by omega, mEd, hx0 (by omega)]
          omega
      by_cases ci : i = 0
      · rw [if_pos ci, w32e (by omega) (by omega)]
        exact go _ (fun _ => rfl) (fun h => by omega)
      · rw [if_neg ci, w32e (by omega) (by omega)]
        exact go _ (fun h => by omega) (fun _ => rfl)
    · rw [if_neg e, w32e (by omega) (by omega)]
      refine ih _ _ ⟨by omega, by omega, fun a b x y => t1 a b x (by omega), fr2⟩ (by omega)
theorem B_fitted_ok {x1 x2 : Int} {m : aM} {A : Nat → Int} (ht : mTok A) (hr : mTR 25 47 A m) (n0 : 0 ≤ x1) (n1 : x1 ≤ 12) (hs : ∀ k : Int, 0 ≤ k → k < x1 → 0 ≤ m 50 k.toNat ∧ m 50 k.toNat < A 0) : mOk (B_fitted_40 x1 x2 FU (-1) (-1) 0 m) (fun r => (∃ b l, mNe (mSh A (m 50) x1) (-5) (A 141) b l ∧ r.1 = (if b = -1 then -1 else if x2 = 0 then l else b)) ∧ ∀ q i, q ≠ 77 → q ≠ 78 → r.2 q i = m q i) := by
  have c9 := ht.2.2.2.2.2.2.2.2.2.1
  refine mL4 (B_fitted_40 x1 x2) (fun b l v mm => 0 ≤ v ∧ v ≤ A 141 ∧ mNe (mSh A (m 50) x1) (-5) v b l ∧ (b = -1 → l = -1) ∧ ∀ q i, q ≠ 77 → q ≠ 78 → mm q i = m q i) (fun _ _ v _ => (7 - v).toNat) ?_ (-1) (-1) 0 m ⟨by omega, by omega, Or.inl ⟨rfl, fun u a b => by omega⟩, fun _ => rfl, fun _ _ _ _ => rfl⟩ (by omega)
  rintro fu b l v mm ⟨v0, v1, s1, s2, fr⟩ ih
  have hr2 : mTR 25 47 A mm := mTR_same (fun q j hq => fr q j (by omega) (by omega)) hr ht.2.2.2.2.1.2
  rw [B_fitted_40, hr2.1.2.2.2.1]
  by_cases c : v < A 141
  · rw [if_pos c]
    have e50 : mm 50 = m 50 := funext fun i => fr _ _ (by omega) (by omega)
    refine mOk_bind (toShape_ok ht hr2 n0 n1 v0 c (by rw [e50]; exact hs)) (fun r k => ?_)
    rw [e50] at k
    have fr2 : ∀ q i, q ≠ 77 → q ≠ 78 → r.2 q i = m q i := fun q i a b => by rw [k.2 q i a b]; exact fr q i a b
    rw [k.1]
    unfold B_fitted_62 B_fitted_66
    rw [w32e (by omega) (by omega)]
    by_cases eb : b = -1
    · rw [if_pos eb]
      exact ih _ _ _ _ ⟨by omega, by omega, mNe_take v0 s1 (by omega) (Or.inl eb), fun h => by omega, fr2⟩ (by omega)
    · rw [if_neg eb]
      by_cases el : mSh A (m 50) x1 v < l
      · rw [if_pos el]
        exact ih _ _ _ _ ⟨by omega, by omega, mNe_take v0 s1 (by omega) (Or.inr el), fun h => by omega, fr2⟩ (by omega)
      · rw [if_neg el]
        exact ih _ _ _ _ ⟨by omega, by omega, mNe_skip s1 (Or.inr ⟨eb, by omega⟩), s2, fr2⟩ (by omega)
  · rw [if_neg c]
    have ev : v = A 141 := by omega
    subst ev
    by_cases z : x2 = 0
    · rw [if_pos z]
      refine mOk_some ⟨⟨b, l, s1, ?_⟩, fr⟩
      by_cases eb : b = -1
      · rw [if_pos eb]; exact s2 eb
      · rw [if_neg eb, if_pos z]
    · rw [if_neg z]
      refine mOk_some ⟨⟨b, l, s1, ?_⟩, fr⟩
      by_cases eb : b = -1
      · rw [if_pos eb]; exact eb
      · rw [if_neg eb, if_neg z]
theorem R_fitted_ok {x1 x2 : Int} {m : aM} {S : Nat → Int} (ht : mTok (m 177)) (n0 : 0 ≤ x1) (n1 : x1 ≤ 12) (hx : x2 = 0 ∨ x2 = 1) (hs : ∀ k : Int, 0 ≤ k → k < x1 → mSnd (m 177) (m 179 k.toNat) (S k.toNat) ∧ 0 ≤ S k.toNat) : mOk (R_fitted_39 x1 x2 FU (-1) 0 0 m) (fun r => (∃ b l, mNe (mSh (m 177) S x1) (-5) (m 177 141) b l ∧ r.1 = (if b = -1 then -1 else if x2 = 0 then l else b)) ∧ ∀ q i, q ≠ 181 → r.2 q i = m q i) := by
  have c9 := ht.2.2.2.2.2.2.2.2.2.1
  refine mL4 (R_fitted_39 x1 x2) (fun b l v mm => 0 ≤ v ∧ v ≤ m 177 141 ∧ mNe (mSh (m 177) S x1) (-5) v b l ∧ ∀ q i, q ≠ 181 → mm q i = m q i) (fun _ _ v _ => (7 - v).toNat) ?_ (-1) 0 0 m ⟨by omega, by omega, Or.inl ⟨rfl, fun u a b => by omega⟩, fun _ _ _ => rfl⟩ (by omega)
  rintro fu b l v mm ⟨v0, v1, s1, fr⟩ ih
  have e177 : mm 177 = m 177 := funext fun i => fr _ _ (by omega)
  rw [R_fitted_39, e177]
  by_cases c : v < m 177 141
  · rw [if_pos c]
    refine mOk_bind (fittedTo_ok (m := mm) (S := S) (by rw [e177]; exact ht) n0 n1 v0 (by rw [e177]; exact c) (fun k k0 k1 => by rw [e177, fr 179 _ (by omega)]; exact hs k k0 k1)) (fun r k => ?_)
    rw [e177] at k
    have fr2 : ∀ q i, q ≠ 181 → r.2 q i = m q i := fun q i a => by rw [k.2 q i a]; exact fr q i a
    rw [k.1]
    unfold R_fitted_57 R_fitted_61
    rw [w32e (by omega) (by omega)]
    by_cases eb : b = -1
    · rw [if_pos eb]
      exact ih _ _ _ _ ⟨by omega, by omega, mNe_take v0 s1 (by omega) (Or.inl eb), fr2⟩ (by omega)
    · rw [if_neg eb]
      by_cases el : mSh (m 177) S x1 v < l
      · rw [if_pos el]
        exact ih _ _ _ _ ⟨by omega, by omega, mNe_take v0 s1 (by omega) (Or.inr el), fr2⟩ (by omega)
      · rw [if_neg el]
        exact ih _ _ _ _ ⟨by omega, by omega, mNe_skip s1 (Or.inr ⟨eb, by omega⟩), fr2⟩ (by omega)
  · rw [if_neg c]
    have ev : v = m 177 141 := by omega
    subst ev
    unfold R_fitted_69
    by_cases eb : b = -1
    · rw [if_pos eb]
      exact mOk_some ⟨⟨b, l, s1, by rw [if_pos eb]; exact eb⟩, fr⟩
    · rw [if_neg eb]
      by_cases z : x2 = 1
      · rw [if_pos z]
        exact mOk_some ⟨⟨b, l, s1, by rw [if_neg eb, if_neg (by omega)]⟩, fr⟩
      · rw [if_neg z]
        exact mOk_some ⟨⟨b, l, s1, by rw [if_neg eb, if_pos (by omega)]⟩, fr⟩
theorem mNe_uni2 {D : Int → Int} {w v b l b' l' : Int} (h : mNe D w v b l) (h' : mNe D w v b' l') (hb : b ≠ -1) : l = l' := by
  have e := mNe_uni h h'
  subst e
  rcases h with ⟨h1, -⟩ | ⟨-, -, -, h4, -⟩
  · exact absurd h1 hb
  · rcases h' with ⟨h1, -⟩ | ⟨-, -, -, g4, -⟩
    · exact absurd h1 hb
    · rw [h4, g4]
theorem mSh_congr {A S S' : Nat → Int} {n : Int} (h : ∀ k : Int, 0 ≤ k → k < n → S k.toNat = S' k.toNat) (s : Int) : mSh A S n s = mSh A S' n s := by
  unfold mSh
  refine mEd_congr (fun i j hi hj => ?_) _ _ (Nat.le_refl _) (Nat.le_refl _)
  have := h (i : Int) (by omega) (by omega)
  rw [Int.toNat_natCast] at this
  rw [this]
theorem st_fitted {n : Nat} {m : aM} (h : mInv n m) (x1 x2 : Int) : ∃ r m1 m2, B_fitted x1 x2 m = some (r, m1) ∧ R_fitted x1 x2 m1 = some (r, m2) ∧ mInv (n + 1) m2 := by
  have hi := mInv_0 h
  obtain ⟨⟨t0, t1⟩, t2, t3⟩ := h.1
  by_cases cx : x2 = 0 ∨ x2 = 1
  · have eB : B_fitted x1 x2 m = B_fitted_7 x1 x2 m := by
      unfold B_fitted
      rcases cx with cx | cx
      · rw [if_pos cx]
      · rw [if_neg (by omega), if_pos cx]
    by_cases c : 0 ≤ x1 ∧ x1 ≤ m 1 1
    · obtain ⟨⟨f, mA⟩, kA, hA, frA⟩ := spellInto_ok h.2.2.1 h.2.2.2.1 h.1 c.1 c.2
      dsimp only at hA frA
      have fr : ∀ q i, ¬(q = 49 ∧ i = 1) → q ≠ 50 → ¬(q = 1 ∧ i = 1) → aup mA 1 1 0 q i = m q i := fun q i a b d => by rw [aup_of (by omega), frA q i a b]
      have e5 : ∀ mm : aM, mm 176 5 = m 176 5 → aup mm 176 0 0 176 5 = m 1 1 := fun mm hm => by rw [aup_of (by omega), hm]; exact t2
      -- the refusal
      have refuse : (f = 0 ∨ 12 < x1) → ∃ r m1 m2, B_fitted x1 x2 m = some (r, m1) ∧ R_fitted x1 x2 m1 = some (r, m2) ∧ mInv (n + 1) m2 := by
        intro hno
        have f177 : aup (aup (aup mA 1 1 0) 176 0 0) 176 5 0 177 = m 177 := funext fun i => by rw [aup_of (by omega), aup_of (by omega)]; exact fr _ _ (by omega) (by omega) (by omega)
        have f179 : aup (aup (aup mA 1 1 0) 176 0 0) 176 5 0 179 = m 179 := funext fun i => by rw [aup_of (by omega), aup_of (by omega)]; exact fr _ _ (by omega) (by omega) (by omega)
        refine ⟨-9, aup mA 1 1 0, aup (aup (aup mA 1 1 0) 176 0 0) 176 5 0, ?_, ?_, ?_⟩
        · rw [eB]
          unfold B_fitted_7
          rw [holds_eq]
          by_cases z : f = 0
          · simp (disch := omega) only [Option.bind_some, reduceIte, if_pos, if_neg, kA, st1e]
          · simp (disch := omega) only [Option.bind_some, reduceIte, if_pos, if_neg, kA, st1e]
        · unfold R_fitted
          have hx2 : 0 ≤ x2 ∧ x2 ≤ 1 := by rcases cx with hq | hq <;> rw [hq] <;> decide
          rw [st1e, within_eq, within_eq, e5 _ (fr _ _ (by omega) (by omega) (by omega)), if_pos hx2, if_pos c]
          by_cases z : 12 < x1
          · simp (disch := omega) only [Option.bind_some, reduceIte, if_pos, if_neg, st1e]
          · obtain ⟨r', kR, hR⟩ := areSounds_ok (n := x1) (m := aup (aup (aup mA 1 1 0) 176 0 0) 176 5 0) (by rw [f177]; exact h.2.2.1) (by omega)
            rw [f177, f179] at hR
            have hr0 : r' = 0 := by
              rcases hR with ⟨hh, -⟩ | ⟨-, hh⟩
              · exact hh
              · rcases hA with ⟨-, g | ⟨k, k0, k1, k2⟩⟩ | ⟨g1, -⟩
                · omega
                · exact absurd k2 (hh k k0 k1)
                · omega
            simp (disch := omega) only [Option.bind_some, reduceIte, if_pos, if_neg, st1e, kR]
        · refine mInv_tape (Nat.le_succ n) ?_ (mTape_0 ?_ (aup_self _ _ _ _)) h
          · intro q i hd g1 g2 g3 g4
            unfold mDep at hd
            rw [aup_of (by omega), aup_of (by omega)]
            exact fr _ _ (by omega) (by omega) (by omega)
          · rw [aup_of (by omega), aup_of (by omega), aup_self]
      by_cases z12 : 12 < x1
      · exact refuse (Or.inr z12)
      rcases hA with ⟨f0, hno⟩ | ⟨f1, n40, l49, hs⟩
      · exact refuse (Or.inl f0)
      have e177 : aup mA 1 1 0 177 = m 177 := funext fun i => fr _ _ (by omega) (by omega) (by omega)
      have hr2 : mTR 25 47 (m 177) (aup mA 1 1 0) := mTR_same (fun q j hq => fr q j (by omega) (by omega) (by omega)) h.2.2.2.1 h.2.2.1.2.2.2.2.1.2
      obtain ⟨⟨r, mB⟩, kB, ⟨b, l, hne, hrv⟩, frB⟩ := B_fitted_ok (x1 := x1) (x2 := x2) (m := aup mA 1 1 0) h.2.2.1 hr2 c.1 (by omega) (fun k k0 k1 => by
        rw [aup_of (by omega)]
        have := hs k k0 k1
        have := mSnd_bd this.2
        omega)
      dsimp only at hrv frB
      have gB : ∀ q i, ¬(q = 49 ∧ i = 1) → q ≠ 50 → ¬(q = 1 ∧ i = 1) → q ≠ 77 → q ≠ 78 → mB q i = m q i := fun q i a b d e f => by rw [frB q i e f]; exact fr q i a b d
      have f177 : aup (aup mB 176 0 0) 176 5 0 177 = m 177 := funext fun i => by rw [aup_of (by omega), aup_of (by omega)]; exact gB _ _ (by omega) (by omega) (by omega) (by omega) (by omega)
      have f179 : aup (aup mB 176 0 0) 176 5 0 179 = m 179 := funext fun i => by rw [aup_of (by omega), aup_of (by omega)]; exact gB _ _ (by omega) (by omega) (by omega) (by omega) (by omega)
      obtain ⟨r', kR, hR⟩ := areSounds_ok (n := x1) (m := aup (aup mB 176 0 0) 176 5 0) (by rw [f177]; exact h.2.2.1) (by omega)
      rw [f177, f179] at hR
      have hr1 : r' = 1 := by
        rcases hR with ⟨-, k, k0, k1, k2⟩ | ⟨hh, -⟩
        · have := mSnd_uni (hs k k0 k1).2 k2
          have := (hs k k0 k1).1
          omega
        · exact hh
      obtain ⟨⟨r2, m2⟩, k2, ⟨b', l', hne', hrv'⟩, fr2⟩ := R_fitted_ok (x1 := x1) (x2 := x2) (m := aup (aup mB 176 0 0) 176 5 0) (S := aup mA 1 1 0 50) (by rw [f177]; exact h.2.2.1) c.1 (by omega) cx (fun k k0 k1 => by
        rw [f177, f179, aup_of (by omega)]
        exact ⟨(hs k k0 k1).2, (hs k k0 k1).1⟩)
      dsimp only at hrv' fr2
      rw [f177] at hne'
      refine ⟨r, mB, m2, ?_, ?_, ?_⟩
      · rw [eB]
        unfold B_fitted_7
        rw [holds_eq]
        simp (disch := omega) only [Option.bind_some, reduceIte, if_pos, if_neg, kA, st1e]
        exact kB
      · unfold R_fitted
        rw [st1e, within_eq, within_eq, e5 _ (gB _ _ (by omega) (by omega) (by omega) (by omega) (by omega))]
        simp (disch := omega) only [Option.bind_some, reduceIte, if_pos, if_neg, st1e, kR]
        rw [k2, hrv, hrv']
        have eb := mNe_uni hne hne'
        subst eb
        by_cases zb : b = -1
        · rw [if_pos zb, if_pos zb]
        · rw [mNe_uni2 hne hne' zb]
      · refine mInv_tape (Nat.le_succ n) ?_ (mTape_0 ?_ ?_) h
        · intro q i hd g1 g2 g3 g4
          unfold mDep at hd
          rw [fr2 _ _ (by omega), aup_of (by omega), aup_of (by omega)]
          exact gB _ _ (by omega) (by omega) (by omega) (by omega) (by omega)
        · rw [fr2 _ _ (by omega), aup_of (by omega), aup_of (by omega), frB _ _ (by omega) (by omega), aup_self]
        · rw [fr2 _ _ (by omega), aup_self]
    · refine ⟨-3, m, aup m 176 0 0, ?_, ?_, hi⟩
      · rw [eB]
        unfold B_fitted_7
        rw [holds_eq]
        simp (disch := omega) only [Option.bind_some, reduceIte, if_pos, if_neg]
      · unfold R_fitted
        have e5 : aup m 176 0 0 176 5 = m 1 1 := by rw [aup_of (by omega)]; exact t2
        simp (disch := omega) only [st1e, within_eq, e5, Option.bind_some, reduceIte, if_pos, if_neg]
  · refine ⟨-2, m, aup m 176 0 0, ?_, ?_, hi⟩
    · unfold B_fitted
      rw [if_neg (by omega), if_neg (by omega)]
    · unfold R_fitted
      simp (disch := omega) only [st1e, within_eq, Option.bind_some, reduceIte, if_pos, if_neg]
