/-! unsureAt: both -/
theorem R_at_ok {x1 : Int} {m : aM} (hA : mVx (m 177)) (rd : mRdy m) : mOk (R_unsureAt x1 m) (fun r => (∀ q i, ¬(189 ≤ q ∧ q ≤ 197) → ¬(q = 176 ∧ (i = 0 ∨ (29 ≤ i ∧ i ≤ 31) ∨ i = 39 ∨ i = 40)) → r.2 q i = m q i) ∧ r.2 176 30 = m 176 30 + 1 ∧ (∀ s : Nat, r.2 193 s ≤ r.2 176 30) ∧ ∃ R : Int, mLst (fun n => ∃ s, mRq (m 177) 0 0 0 n s ∧ mGl (m 177) 0 s) R ∧ ((r.1 = -1 ∧ ¬(0 ≤ x1 ∧ x1 < R)) ∨ ((0 ≤ x1 ∧ x1 < R) ∧ ∃ L : Nat → Int, (∀ k, k ≤ x1.toNat → LxAt (rG (m 177) R.toNat) L k) ∧ r.1 = L x1.toNat))) := by
  have f0 : ∀ q i, ¬(q = 176 ∧ i = 0) → aup m 176 0 0 q i = m q i := fun q i a => aup_of (by omega)
  unfold R_unsureAt
  rw [st1e]
  generalize aup m 176 0 0 = m1 at f0 ⊢
  have e177 : m1 177 = m 177 := funext fun i => f0 _ _ (by omega)
  have e193 : m1 193 = m 193 := funext fun i => f0 _ _ (by omega)
  refine mOk_bind (unsureOf_ok (M := 0) (m := m1) (by rw [e177]; exact hA) (by omega) (by omega) (by rw [f0 _ _ (by omega)]; have := rd.1; omega) (fun s => by rw [e193, f0 176 30 (by omega)]; exact rd.2.1 s)) (fun r2 k2 => ?_)
  obtain ⟨g1, g2, g3, k, bf, ans⟩ := k2
  rw [e177, f0 176 32 (by omega), f0 176 33 (by omega), rd.2.2.1, rd.2.2.2] at bf
  rw [e177] at ans
  have fr2 : ∀ q i, ¬(189 ≤ q ∧ q ≤ 197) → ¬(q = 176 ∧ (i = 0 ∨ (29 ≤ i ∧ i ≤ 31) ∨ i = 39 ∨ i = 40)) → r2.2 q i = m q i := fun q i a b => by rw [g1 q i (by omega) (by omega) (by omega) (by omega) (by omega) (by omega)]; exact f0 q i (by omega)
  have m30 : r2.2 176 30 = m 176 30 + 1 := by rw [g2, f0 _ _ (by omega)]
  have lst := unsureOf_ans hA (by omega) (by omega) bf ans
  by_cases c : r2.1 = -1
  · rw [if_pos c]
    exact mOk_some ⟨fr2, m30, g3, r2.1, lst, Or.inl ⟨rfl, by omega⟩⟩
  rw [if_neg c]
  obtain ⟨a1, a2, a3⟩ := ans.resolve_left (fun g => c g.1)
  have k0 := bf.1
  obtain ⟨n, l1, l2, l3, l4⟩ := bf.2.2.1 k k0.1 a1
  have b29 := bf.2.1.1
  have eN : r2.1 = (n : Int) := by rw [a3]; exact l1
  rw [within_eq, Option.bind_some, w32e (x := r2.1 - 1) (by omega) (by omega)]
  by_cases d : 0 ≤ x1 ∧ x1 ≤ r2.1 - 1
  rotate_left
  · rw [if_neg d, if_pos rfl]
    exact mOk_some ⟨fr2, m30, g3, r2.1, lst, Or.inl ⟨rfl, by omega⟩⟩
  rw [if_pos d, if_neg (by decide)]
  have e177' : r2.2 177 = m 177 := funext fun i => fr2 _ _ (by omega) (by omega)
  have hB : rB (m 177) n r2.2 := rB_of hA bf a1 a2 a3 eN
  rw [eN]
  refine leads_ok e177' hA (by rw [fr2 _ _ (by omega) (by omega)]; exact rd.2.2.1) hB (by omega) (fun mm hL fm => ?_)
  rw [st1e, st1e]
  have f8 : ∀ q i, ¬(q = 196 ∧ i = 0) → ¬(q = 176 ∧ i = 39) → aup (aup mm 176 39 1) 196 0 (-1) q i = mm q i := fun q i a b => by rw [aup_of (by omega), aup_of (by omega)]
  have v39 : aup (aup mm 176 39 1) 196 0 (-1) 176 39 = 1 := by rw [aup_of (by omega), aup_self]
  have v196 : aup (aup mm 176 39 1) 196 0 (-1) 196 0 = -1 := aup_self _ _ _ _
  have hB' : rB (m 177) n mm := rB_c (funext fun k => fm _ _ (by omega) (by omega) (by omega) (by omega)) (funext fun k => fm _ _ (by omega) (by omega) (by omega) (by omega)) (funext fun k => fm _ _ (by omega) (by omega) (by omega) (by omega)) (fm _ _ (by omega) (by omega) (by omega) (by omega)) (fm _ _ (by omega) (by omega) (by omega) (by omega)) hB
  have em177 : mm 177 = m 177 := by rw [← e177']; exact funext fun i => fm _ _ (by omega) (by omega) (by omega) (by omega)
  refine mOk_mono (front_ok (A := m 177) (N := n) (m := mm) em177 hA (by rw [fm _ _ (by omega) (by omega) (by omega) (by omega), fr2 _ _ (by omega) (by omega)]; exact rd.2.2.1) hB' hL (by omega) (by omega) ⟨_, l4, a2⟩ f8 v39 v196) (fun r kr => ?_)
  obtain ⟨⟨L, hl, er⟩, fr⟩ := kr
  have fr3 : ∀ q i, ¬(189 ≤ q ∧ q ≤ 197) → ¬(q = 176 ∧ (i = 0 ∨ (29 ≤ i ∧ i ≤ 31) ∨ i = 39 ∨ i = 40)) → r.2 q i = m q i := fun q i a b => by rw [fr q i (by omega) (by omega), fm q i (by omega) (by omega) (by omega) (by omega)]; exact fr2 q i a b
  have t30 : r.2 176 30 = r2.2 176 30 := by rw [fr _ _ (by omega) (by omega), fm _ _ (by omega) (by omega) (by omega) (by omega)]
  refine ⟨fr3, by rw [t30]; exact m30, fun s => ?_, r2.1, lst, Or.inr ⟨by omega, L, fun k hk => ?_, er⟩⟩
  · rw [t30, fr 193 s (by omega) (by omega), fm 193 s (by omega) (by omega) (by omega) (by omega)]
    exact g3 s
  · rw [eN, Int.toNat_natCast]
    exact hl k hk
/-- the line, once it is found, is what the reference answers -/
theorem unsureSound_ok {m : aM} {x1 : Int} (ht : mTok (m 177)) (hr : mTR 25 47 (m 177) m) (hm : mMendC m) : mOk (Mender_unsureSound x1 m) (fun r => (∀ (m' : aM) (r' : Int × aM), mAeqT (m 177) (m' 177) → mRdy m' → R_unsureAt x1 m' = some r' → r'.1 = r.1) ∧ mMendC r.2 ∧ ∀ q i, ¬(80 ≤ q ∧ q ≤ 104) → q ≠ 107 → q ≠ 108 → ¬(q = 79 ∧ i = 6) → r.2 q i = m q i) := by
  -- the answer, out of what is kept
  have fin : ∀ mm : aM, mm 177 = m 177 → mMendC mm → mm 79 6 ≠ 0 → (∀ q i, ¬(80 ≤ q ∧ q ≤ 104) → q ≠ 107 → q ≠ 108 → ¬(q = 79 ∧ i = 6) → mm q i = m q i) → mOk (Mender_unsureSound_36 x1 mm) (fun r => (∀ (m' : aM) (r' : Int × aM), mAeqT (m 177) (m' 177) → mRdy m' → R_unsureAt x1 m' = some r' → r'.1 = r.1) ∧ mMendC r.2 ∧ ∀ q i, ¬(80 ≤ q ∧ q ≤ 104) → q ≠ 107 → q ≠ 108 → ¬(q = 79 ∧ i = 6) → r.2 q i = m q i) := by
    intro mm e177 hmm nz fr
    obtain ⟨k1, k2, k3, k4⟩ := hmm.2.1.resolve_left nz
    rw [e177] at k4
    unfold Mender_unsureSound_36
    by_cases c : x1 < 0
    · rw [if_pos c]
      refine mOk_some ⟨fun m' r' ha rd' kr => ?_, hmm, fr⟩
      rw [k4 m' x1 r' ha rd' kr, if_neg (by omega)]
    rw [if_neg c]
    by_cases d : x1 < mm 107 0
    · rw [if_pos d, if_pos (by omega), if_pos (by omega)]
      refine mOk_some ⟨fun m' r' ha rd' kr => ?_, hmm, fr⟩
      rw [k4 m' x1 r' ha rd' kr, if_pos (by omega)]
    · rw [if_neg d]
      refine mOk_some ⟨fun m' r' ha rd' kr => ?_, hmm, fr⟩
      rw [k4 m' x1 r' ha rd' kr, if_neg (by omega)]
  unfold Mender_unsureSound
  by_cases c : m 79 6 = 0
  rotate_left
  · rw [if_neg c]
    exact fin m rfl hm c (fun _ _ _ _ _ _ => rfl)
  rw [if_pos c]
  refine mOk_bind (load_ok ht hr) (fun X kX => ?_)
  obtain ⟨ld, fl⟩ := kX
  have hv := ld_v ht ld
  refine mOk_bind (shortest_so mM0 hv) (fun r7 k7 => ?_)
  obtain ⟨ft, jo'⟩ := k7
  obtain ⟨cnt, po, dd, hF, c471, dN, hM, N1, hg⟩ := jF_of hv jo'
  have l := shortest_ans hv mM0 (mJo_e jo')
  have h6 : ∀ w, xa X w → xl X w ≤ 6 := fun w aw => by
    obtain ⟨a, b⟩ := (ld_a ht ld).mp aw
    have hA0 := mVx_of ht (mAeqT.refl (m 177))
    rw [ld_l ht ld a b]
    exact (hA0.2.1 w a b).1.2
  have N2 : r7.1 ≤ 2820 := by
    by_cases z : r7.1 = -1
    · omega
    · obtain ⟨n, s, q, zz⟩ := hg z
      exact jN_bd hv h6 hF.2.2.2.1 q zz
  have gl : 0 < r7.1 → ∃ σ, jG X r7.1 σ := fun z => by
    obtain ⟨n, s, q, zz⟩ := hg (by omega)
    obtain ⟨σ, q'⟩ := jQ_of hv q
    exact ⟨σ, n, s, q', zz⟩
  rw [st1e]
  have f8 : ∀ q i, ¬(q = 107 ∧ i = 0) → aup r7.2 107 0 r7.1 q i = r7.2 q i := fun q i a => aup_of (by omega)
  have v8 : aup r7.2 107 0 r7.1 107 0 = r7.1 := aup_self _ _ _ _
  generalize aup r7.2 107 0 r7.1 = m8 at f8 v8 ⊢
  have hM8 : jM X cnt po dd m8 := by
    obtain ⟨⟨g1, g2, g3, g4, g5, g7, g6⟩, h2, h3⟩ := hM
    exact ⟨⟨by rw [f8 _ _ (by omega)]; exact g1, by rw [f8 _ _ (by omega)]; exact g2, fun q i a b => by rw [f8 _ _ (by omega)]; exact g3 q i a b, by rw [f8 _ _ (by omega)]; exact g4, by rw [f8 _ _ (by omega)]; exact g5, by rw [f8 _ _ (by omega)]; exact g7, fun k a b => by rw [f8 99 _ (by omega)]; exact g6 k a b⟩, by rw [f8 _ _ (by omega)]; exact h2, fun i hi => by rw [f8 102 _ (by omega), f8 103 _ (by omega)]; exact h3 i hi⟩
  rw [v8]
  refine mOk_bind (markUseful_ok hv hF c471 hM8 dN) (fun m9 k9 => ?_)
  obtain ⟨f9, hH⟩ := k9
  have hM9 : jM X cnt po dd m9 := jM_fr (fun q i a _ => f9 q i a) hM8
  rw [f9 107 0 (by omega), v8]
  refine mOk_bind (firstLine_ok hv hF c471 hM9 N2 dN gl hH) (fun m10 k10 => ?_)
  obtain ⟨f10, L, hL, v108⟩ := k10
  rw [st1e]
  have f11 : ∀ q i, ¬(q = 79 ∧ i = 6) → aup m10 79 6 1 q i = m10 q i := fun q i a => aup_of (by omega)
  have v11 : aup m10 79 6 1 79 6 = 1 := aup_self _ _ _ _
  generalize aup m10 79 6 1 = m11 at f11 v11 ⊢
  have fr : ∀ q i, ¬(80 ≤ q ∧ q ≤ 104) → q ≠ 107 → q ≠ 108 → ¬(q = 79 ∧ i = 6) → m11 q i = m q i := fun q i a b d e => by
    rw [f11 q i e, f10 q i (by omega) d, f9 q i (by omega), f8 q i (by omega), ft q i (by omega) (by omega)]
    exact fl q i (by omega) (by omega)
  have r107 : m11 107 0 = r7.1 := by rw [f11 _ _ (by omega), f10 _ _ (by omega) (by omega), f9 _ _ (by omega)]; exact v8
  have o107 : ∀ i : Nat, i ≠ 0 → m11 107 i = m 107 i := fun i a => by
    rw [f11 _ _ (by omega), f10 _ _ (by omega) (by omega), f9 _ _ (by omega), f8 _ _ (by omega), ft _ _ (by omega) (by omega)]
    exact fl _ _ (by omega) (by omega)
  have r108 : ∀ k : Nat, (k : Int) < r7.1 → m11 108 k = L k := fun k hk => by rw [f11 _ _ (by omega)]; exact v108 k hk
  have rw11 : ∀ q, ¬(79 ≤ q ∧ q ≤ 104) → q ≠ 107 → q ≠ 108 → m11 q = m q := fun q a b d => rowEq fun i => fr q i (by omega) b d (by omega)
  have e177 := rw11 177 (by omega) (by omega) (by omega)
  refine fin m11 e177 ?_ (by rw [v11]; decide) fr
  obtain ⟨k1, k2, k3, k4, k5', k6⟩ := hm
  unfold mMendC
  rw [e177, rw11 109 (by omega) (by omega) (by omega), rw11 111 (by omega) (by omega) (by omega), fr 79 10 (by omega) (by omega) (by omega) (by omega), fr 79 11 (by omega) (by omega) (by omega) (by omega), fr 79 15 (by omega) (by omega) (by omega) (by omega)]
  -- both least lengths are one
  have same : ∀ (A' : Nat → Int) (R : Int), mAeqT (m 177) A' → mLst (fun n => ∃ s, mRq A' 0 0 0 n s ∧ mGl A' 0 s) R → r7.1 = R := fun A' R ha lR => by
    have hA := mVx_of ht ha
    have xa' := ld_xa ht ha ld
    exact search_eq hA hv (xa_sym hA xa') xa' mM0 l lR
  refine ⟨fun i i0 i1 => ?_, Or.inr ⟨v11, by rw [r107]; omega, by rw [r107]; omega, fun m' i r ha rd kr => ?_⟩, fun i i0 i1 => ?_, k4, ?_, k6⟩
  · by_cases e : i = 0
    · rw [e, show (0 : Int).toNat = 0 from rfl, r107]
      refine Or.inr (fun m' r' ha rd kr => ?_)
      have hA := mVx_of ht ha
      obtain ⟨⟨y1, y2⟩, kx, -, -, -, kk, bf, ans⟩ := unsureOf_ok (M := 0) (m := m') hA (by omega) (by omega) ⟨rd.1.1, by have := rd.1.2; omega⟩ rd.2.1
      rw [kr] at kx
      have ex := Option.some.inj kx
      rw [rd.2.2.1, rd.2.2.2] at bf
      have l' := unsureOf_ans hA (by omega) (by omega) bf ans
      rw [ex]
      exact (same _ _ ha l').symm
    · rw [o107 _ (by omega)]; exact k1 i i0 i1
  · have hA := mVx_of ht ha
    obtain ⟨r', kx, -, -, -, R, lR, ans⟩ := R_at_ok (x1 := i) (m := m') hA rd
    rw [kr] at kx
    have ex := Option.some.inj kx
    rw [ex, r107]
    have eR := same _ _ ha lR
    rcases ans with ⟨e, no⟩ | ⟨yes, L', hL', e⟩
    · rw [e, if_neg (by omega)]
    · rw [e, if_pos (by omega), r108 i.toNat (by omega)]
      have xa' := ld_xa ht ha ld
      have hN : ∀ (n : Nat) (s L : Int), mCq X 0 n s L → xz X 0 s → ((R.toNat : Nat) : Int) ≤ L := fun n s L q z => by
        have := hF.2.2.2.1 n s L q z
        omega
      have u := Lx_uni (n := i.toNat + 1) (fun σ => jG_rG (σ := σ) (N := R.toNat) hA hv xa' hN) (fun k hk => by
        have := hL k (by omega)
        rw [show r7.1 = ((R.toNat : Nat) : Int) by omega] at this
        exact this) (fun k hk => hL' k (by omega))
      exact (u i.toNat (by omega)).symm
  · rw [rw11 (112 + 2 * i.toNat) (by omega) (by omega) (by omega), rw11 (113 + 2 * i.toNat) (by omega) (by omega) (by omega)]
    exact k3 i i0 i1
  · rcases k5' with g | ⟨g1, g2⟩
    · exact Or.inl g
    · refine Or.inr ⟨g1, fun m' j r j0 j1 ha rd kr => ?_⟩
      rw [fr 79 _ (by omega) (by omega) (by omega) (by omega)]
      exact g2 m' j r j0 j1 ha rd kr
theorem st_unsureAt {n : Nat} {m : aM} (hn : n < 64) (h : mInv n m) (x1 : Int) : ∃ r m1 m2, B_unsureAt x1 m = some (r, m1) ∧ R_unsureAt x1 m1 = some (r, m2) ∧ mInv (n + 1) m2 := by
  obtain ⟨⟨r, m1⟩, kB, q1, q2, q3⟩ := unsureSound_ok (x1 := x1) h.2.2.1 h.2.2.2.1 h.2.2.2.2.2.2.2.2
  dsimp only at q1 q2 q3
  have mk := h.2.2.2.2.2.2.1
  have rd : mRdy m1 := by
    have r0 := mRdy_of (by omega) mk
    unfold mRdy at *
    rw [q3 176 30 (by omega) (by omega) (by omega) (by omega), q3 176 32 (by omega) (by omega) (by omega) (by omega), q3 176 33 (by omega) (by omega) (by omega) (by omega), show m1 193 = m 193 from funext fun i => q3 _ _ (by omega) (by omega) (by omega) (by omega)]
    exact r0
  have e177 : m1 177 = m 177 := funext fun i => q3 _ _ (by omega) (by omega) (by omega) (by omega)
  have ha : mAeqT (m 177) (m1 177) := by rw [e177]; exact mAeqT.refl _
  obtain ⟨⟨r', m2⟩, kR, g1, g2, g3, -⟩ := R_at_ok (x1 := x1) (m := m1) (mVx_of h.2.2.1 ha) rd
  dsimp only at g1 g2 g3
  have er : r' = r := q1 _ _ ha rd kR
  refine ⟨r, m1, m2, ?_, ?_, ?_⟩
  · unfold B_unsureAt
    rw [kB, Option.bind_some]
  · rw [kR, er]
  · have f2 : ∀ q i, ¬(80 ≤ q ∧ q ≤ 104) → q ≠ 107 → q ≠ 108 → ¬(q = 79 ∧ i = 6) → ¬(189 ≤ q ∧ q ≤ 197) → ¬(q = 176 ∧ (i = 0 ∨ (29 ≤ i ∧ i ≤ 31) ∨ i = 39 ∨ i = 40)) → m2 q i = m q i := fun q i a b c d e f => by rw [g1 q i e f]; exact q3 q i a b c d
    have f3 : ∀ q, 79 ≤ q → q ≤ 119 → m2 q = m1 q := fun q a b => rowEq fun i => g1 q i (by omega) (by omega)
    refine mInv_srch h (fun q i hd a b e g g' => f2 q i (by unfold mDep at hd; omega) a (by omega) (by omega) (by unfold mDep at hd; omega) (by unfold mDep at hd; omega)) ?_ ?_
    · refine ⟨?_, g3, by rw [f2 _ _ (by omega) (by omega) (by omega) (by omega) (by omega) (by omega)]; exact mk.2.2.1, by rw [f2 _ _ (by omega) (by omega) (by omega) (by omega) (by omega) (by omega)]; exact mk.2.2.2⟩
      rw [g2, q3 _ _ (by omega) (by omega) (by omega) (by omega)]
      have := mk.1
      omega
    · exact mMendC_of (by rw [show m2 177 = m 177 from rowEq fun i => f2 _ _ (by omega) (by omega) (by omega) (by omega) (by omega) (by omega), e177]; exact mAeqT.refl _) (by rw [e177]; exact h.2.2.1.2.2.2.2.1.1) (f3 79 (by omega) (by omega)) (fun q a b => f3 q (by omega) b) q2
