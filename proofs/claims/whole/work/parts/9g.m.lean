/-! THE CLASS'S SEARCH: its loops -/
theorem mTq_fr {X : aM} {M : Int} {m m' : aM} (f : ∀ q i, q ≠ 100 → q ≠ 101 → q ≠ 102 → q ≠ 103 → ¬(q = 80 ∧ (i = 12 ∨ i = 13 ∨ i = 16)) → m' q i = m q i) (h : mTq X M m) : mTq X M m' := by
  obtain ⟨g1, g2, g3, g4, g5, g7, g6⟩ := h
  refine ⟨by rw [f _ _ (by omega) (by omega) (by omega) (by omega) (by omega)]; exact g1, by rw [f _ _ (by omega) (by omega) (by omega) (by omega) (by omega)]; exact g2, fun q i a b => by rw [f _ _ (by omega) (by omega) (by omega) (by omega) (by omega)]; exact g3 q i a b, by rw [f _ _ (by omega) (by omega) (by omega) (by omega) (by omega)]; exact g4, by rw [f _ _ (by omega) (by omega) (by omega) (by omega) (by omega)]; exact g5, by rw [f _ _ (by omega) (by omega) (by omega) (by omega) (by omega)]; exact g7, fun k a b => ?_⟩
  rw [f 99 _ (by omega) (by omega) (by omega) (by omega) (by omega)]
  exact g6 k a b
theorem sp_lt {X : aM} {M s : Int} {m : aM} (hv : mTv X) (hM : mM3 M) (hq : mTq X M m) (h : mCv X M s) : (0 ≤ s ∧ s < 4288) ∧ s / 64 < m 80 11 := by
  have cb := mC_bd hM
  have sb := mCv_bd hv hM h
  rw [hq.2.2.2.2.2.1]
  omega
/-- the state that a pop gives -/
theorem mJ_pop {X : aM} {M l s : Int} {cnt : Nat} {po : Nat → Int} {dd : Int → Int} {m m1 : aM} (hv : mTv X) (hM : mM3 M) (l0 : 0 ≤ l) (h : mJ X M l cnt po dd m) (p : mPop3 (l % 8) m (s, m1)) (s0 : s ≠ -1) : mCv X M s ∧ l ≤ 7 * cnt ∧ (∃ n, mCq X M n s l) ∧ ¬ mSn m s := by
  obtain ⟨b1, b2, b3, b4, b5, b6, b7, b8, b9, b10⟩ := h
  obtain ⟨-, -, -, -, p5⟩ := p
  rcases p5 with p5 | ⟨q0, q1, q2, q3, -⟩
  · exact absurd p5.1 s0
  · dsimp only at q0 q1 q2 q3
    obtain ⟨g1, L, g2, g3, g4, g5, g6⟩ := b6 (l % 8) s (by omega) (by omega) q0 q1 q2
    have e : L = l := by omega
    subst e
    exact ⟨g1, g5, g6, q3⟩
theorem mJ_visit {X : aM} {M l s : Int} {cnt : Nat} {po : Nat → Int} {dd : Int → Int} {m m1 ma m2 : aM} (hv : mTv X) (hM : mM3 M) (l0 : 0 ≤ l) (h : mJ X M l cnt po dd m) (p : mPop3 (l % 8) m (s, m1)) (s0 : s ≠ -1) (nl : ¬ xz X M s)
    (fa : ∀ q i, q ≠ 102 → q ≠ 103 → ¬(q = 80 ∧ i = 16) → ma q i = m1 q i) (fm : M = 0 → ma 80 16 = m1 80 16 + 1 ∧ ma 102 (m1 80 16).toNat = s ∧ ma 103 s.toNat = l ∧ (∀ i : Nat, i ≠ (m1 80 16).toNat → ma 102 i = m1 102 i) ∧ ∀ i : Nat, i ≠ s.toNat → ma 103 i = m1 103 i)
    (ps : mPs3 (fun s' L' => mCu X M s (L' - l) s') ma m2) (al : ∀ s' c, mCu X M s c s' → mSn m2 s' ∨ mPd m2 ((l + c) % 8) s') :
    mJ X M l (cnt + 1) (fun i => if i = cnt then s else po i) (fun t => if t = s then l else dd t) m2 ∧ (m2 80 13 = m1 80 13) ∧ ∀ t : Int, 0 ≤ t → t / 64 < m2 80 13 → ¬ mPd m2 (l % 8) t := by
  have cb := mC_bd hM
  obtain ⟨sv, sl, ⟨ns, sq⟩, sn0⟩ := mJ_pop hv hM l0 h p s0
  obtain ⟨b1, b2, b3, b4, b5, b6, b7, b8, b9, b10⟩ := h
  obtain ⟨p1, p2, p3, p4, p5⟩ := p
  dsimp only at p1 p2 p3 p4 p5
  obtain ⟨q0, q1, q2, q3, q4, q5, q6, q7⟩ := p5.resolve_left (fun g => s0 g.1)
  have f2 : ∀ q i, q ≠ 100 → q ≠ 101 → q ≠ 102 → q ≠ 103 → ¬(q = 80 ∧ (i = 12 ∨ i = 13 ∨ i = 16)) → m2 q i = m q i := fun q i a b c d e => by rw [ps.2.2.2 q i a (by omega), fa q i c d (by omega), p4 q i a b (by omega)]
  have tq2 : mTq X M m2 := mTq_fr f2 b1
  have e13 : m2 80 13 = m1 80 13 := by rw [ps.2.2.2 _ _ (by omega) (by omega), fa _ _ (by omega) (by omega) (by omega)]
  have e11 : m2 80 11 = m 80 11 := f2 _ _ (by omega) (by omega) (by omega) (by omega) (by omega)
  have pda : ∀ j t, mPd ma j t ↔ mPd m1 j t := fun j t => by unfold mPd; rw [fa 100 _ (by omega) (by omega) (by omega)]
  have sna : ∀ t, mSn ma t ↔ mSn m1 t := fun t => by unfold mSn; rw [fa 101 _ (by omega) (by omega) (by omega)]
  have sn2 : ∀ t : Int, 0 ≤ t → t < 4288 → (mSn m2 t ↔ mSn m t ∨ t = s) := fun t a b => (ps.sn t).trans ((sna t).trans (q4 t a b))
  have st := fun {t : Int} (ht : mCv X M t) => sp_lt hv hM b1 ht
  -- what was seen and is another
  have dse : ∀ t, mCv X M t → mSn m t → t ≠ s := fun t ht k e => sn0 (e ▸ k)
  have dle : ∀ t, mCv X M t → mSn m2 t → (if t = s then l else dd t) ≤ l := by
    intro t ht k
    have bt := (st ht).1
    by_cases e : t = s
    · rw [if_pos e]; omega
    · rw [if_neg e]
      obtain ⟨i, i1, i2⟩ := b5 t ht (((sn2 t bt.1 bt.2).mp k).resolve_right e)
      have := (b3 i i1).2.2.1
      rw [i2] at this
      omega
  have pn : ∀ i : Nat, i < cnt → po i ≠ s := fun i hi e => sn0 (e ▸ (b3 i hi).2.1)
  refine ⟨⟨tq2, ps.2.2.1, fun i hi => ?_, fun i j hij hj => ?_, fun t ht k => ?_, fun j t a b c d k => ?_, fun i hi c s' k => ?_, fun w aw => ?_, fun i hi => ?_, fun hM0 => ?_⟩, e13, fun t a b k => ?_⟩
  · dsimp only
    by_cases e : i = cnt
    · rw [if_pos e, if_pos rfl]
      have bt := (st sv).1
      exact ⟨sv, (sn2 s bt.1 bt.2).mpr (Or.inr rfl), by omega, ns, sq⟩
    · rw [if_neg e, if_neg (pn i (by omega))]
      obtain ⟨x1, x2, x3, x4⟩ := b3 i (by omega)
      have bt := (st x1).1
      exact ⟨x1, (sn2 _ bt.1 bt.2).mpr (Or.inl x2), x3, x4⟩
  · dsimp only
    rw [if_neg (show ¬ i = cnt by omega)]
    by_cases e : j = cnt
    · rw [if_pos e]; exact pn i (by omega)
    · rw [if_neg e]; exact b4 i j hij (by omega)
  · have bt := (st ht).1
    rcases (sn2 t bt.1 bt.2).mp k with k | k
    · obtain ⟨i, i1, i2⟩ := b5 t ht k
      exact ⟨i, by omega, by dsimp only; rw [if_neg (by omega)]; exact i2⟩
    · exact ⟨cnt, by omega, by dsimp only; rw [if_pos rfl]; exact k.symm⟩
  · rw [e11] at d
    have t4 : t < 4288 := by
      have := b1.2.2.2.2.2.1
      rw [this] at d
      omega
    rcases ps.2.1 j t a b c t4 k with k | ⟨L', k1, k2⟩
    · have k' := p1 j t a b c t4 ((pda j t).mp k)
      obtain ⟨g1, L, g2, g3, g4, g5, g6⟩ := b6 j t a b c d k'
      exact ⟨g1, L, g2, g3, g4, by omega, g6⟩
    · have cu := mCu_v hv k1
      exact ⟨cu.1, L', k2.symm, by omega, by omega, by omega, ns + 1, s, l, L' - l, sq, k1, by omega⟩
  · dsimp only at k ⊢
    by_cases e : i = cnt
    · rw [if_pos e] at k ⊢
      rw [if_pos rfl]
      have cu := mCu_v hv k
      rcases al s' c k with g | g
      · left
        have := dle s' cu.1 g
        exact ⟨g, by omega⟩
      · right; exact ⟨by omega, g⟩
    · rw [if_neg e] at k ⊢
      rw [if_neg (pn i (by omega))]
      have cu := mCu_v hv k
      have bt := (st cu.1).1
      have di := (b3 i (by omega)).2.2.1
      rcases b7 i (by omega) c s' k with ⟨g1, g2⟩ | ⟨g1, g2⟩
      · left
        refine ⟨(sn2 _ bt.1 bt.2).mpr (Or.inl g1), ?_⟩
        rw [if_neg (dse s' cu.1 g1)]; exact g2
      · rcases p2 _ s' (by omega) (by omega) bt.1 bt.2 g2 with g3 | ⟨g3, g4⟩
        · right
          exact ⟨g1, ps.1 _ _ (by omega) (by omega) bt.1 bt.2 ((pda _ _).mpr g3)⟩
        · left
          have k2 : mSn m2 s' := (ps.sn s').mpr ((sna s').mpr g4)
          have := dle s' cu.1 k2
          exact ⟨k2, by omega⟩
  · dsimp only
    have bt := (st (mSt3_v hv hM aw)).1
    rcases b8 w aw with ⟨g1, g2⟩ | ⟨g1, g2⟩
    · left
      refine ⟨(sn2 _ bt.1 bt.2).mpr (Or.inl g1), ?_⟩
      rw [if_neg (dse _ (mSt3_v hv hM aw) g1)]; exact g2
    · rcases p2 0 _ (by omega) (by omega) bt.1 bt.2 g2 with g3 | ⟨g3, g4⟩
      · right
        exact ⟨g1, ps.1 _ _ (by omega) (by omega) bt.1 bt.2 ((pda _ _).mpr g3)⟩
      · left
        have k2 : mSn m2 (mSt3 X M w) := (ps.sn _).mpr ((sna _).mpr g4)
        have := dle _ (mSt3_v hv hM aw) k2
        exact ⟨k2, by omega⟩
  · dsimp only
    by_cases e : i = cnt
    · rw [if_pos e]; exact nl
    · rw [if_neg e]; exact b9 i (by omega)
  · obtain ⟨a1, a2, a3, a4, a5⟩ := fm hM0
    obtain ⟨c1, c2⟩ := b10 hM0
    have e16 : m1 80 16 = cnt := by rw [p4 _ _ (by omega) (by omega) (by omega)]; exact c1
    have n16 : (m1 80 16).toNat = cnt := by omega
    refine ⟨by rw [ps.2.2.2 _ _ (by omega) (by omega), a1, e16]; omega, fun i hi => ?_⟩
    dsimp only
    rw [ps.2.2.2 102 _ (by omega) (by omega), ps.2.2.2 103 _ (by omega) (by omega)]
    by_cases e : i = cnt
    · rw [if_pos e, if_pos rfl, a3, e, ← n16]; exact ⟨a2, rfl⟩
    · have bt := (st (b3 i (by omega)).1).1
      have bs := (st sv).1
      have np := pn i (by omega)
      rw [if_neg e, if_neg np, a4 i (by omega), a5 _ (by omega), p4 102 _ (by omega) (by omega) (by omega), p4 103 _ (by omega) (by omega) (by omega)]
      exact c2 i (by omega)
  · rw [e13, q5] at b
    have t4 : t < 4288 := by have := b1.2.2.2.2.2.1; rw [this] at q1; omega
    rcases ps.2.1 (l % 8) t (by omega) (by omega) a t4 k with k | ⟨L', k1, k2⟩
    · exact q7 t a b ((pda _ _).mp k)
    · have cu := mCu_v hv k1
      have eL : L' = l := by omega
      subst eL
      rw [Int.sub_self] at k1
      rcases k1 with ⟨k1', k2', e, f, w, h1, ⟨g1, g2, g3, g4⟩, aw, -, -, h2⟩ | ⟨w, out, kb, e, f, v, h1, ⟨aw, hb, hg, hc, hd⟩, nw, mt⟩
      · have := mEv_bd hM g1 g2 g3 g4
        have lw := (hv.2.1 w aw).1
        have := mOd_bd hM ⟨aw.1, aw.2.1⟩ (out := xl X w) (kb := k2') (e := e) (f := f) (by omega) (by omega) g3 g4
        omega
      · have := mMt_c hv aw nw.1 hb mt
        omega
/-- a length is done -/
theorem mJ_next {X : aM} {M l : Int} {cnt : Nat} {po : Nat → Int} {dd : Int → Int} {m m1 : aM} (hv : mTv X) (hM : mM3 M) (l0 : 0 ≤ l) (h : mJ X M l cnt po dd m) (p : mPop3 (l % 8) m (-1, m1)) : mJ X M (l + 1) cnt po dd m1 := by
  have cb := mC_bd hM
  obtain ⟨b1, b2, b3, b4, b5, b6, b7, b8, b9, b10⟩ := h
  obtain ⟨p1, p2, p3, p4, p5⟩ := p
  dsimp only at p1 p2 p3 p4 p5
  obtain ⟨-, q4, q7⟩ := p5.resolve_right (fun g => by omega)
  have f2 : ∀ q i, q ≠ 100 → q ≠ 101 → q ≠ 102 → q ≠ 103 → ¬(q = 80 ∧ (i = 12 ∨ i = 13 ∨ i = 16)) → m1 q i = m q i := fun q i a b c d e => p4 q i a b (by omega)
  have e11 : m1 80 11 = m 80 11 := f2 _ _ (by omega) (by omega) (by omega) (by omega) (by omega)
  have st := fun {t : Int} (ht : mCv X M t) => sp_lt hv hM b1 ht
  have dle : ∀ t, mCv X M t → mSn m t → dd t ≤ l := by
    intro t ht k
    obtain ⟨i, i1, i2⟩ := b5 t ht k
    have := (b3 i i1).2.2.1
    rw [i2] at this
    omega
  refine ⟨mTq_fr f2 b1, p3, fun i hi => ?_, b4, fun t ht k => ?_, fun j t a b c d k => ?_, fun i hi c s' k => ?_, fun w aw => ?_, b9, fun hM0 => ?_⟩
  · obtain ⟨x1, x2, x3, x4⟩ := b3 i hi
    have bt := (st x1).1
    exact ⟨x1, (q4 _ bt.1 bt.2).mpr x2, by omega, x4⟩
  · have bt := (st ht).1
    exact b5 t ht ((q4 _ bt.1 bt.2).mp k)
  · rw [e11] at d
    have t4 : t < 4288 := by
      have := b1.2.2.2.2.2.1
      rw [this] at d
      omega
    obtain ⟨g1, L, g2, g3, g4, g5, g6⟩ := b6 j t a b c d (p1 j t a b c t4 k)
    have nL : L ≠ l := fun e => by
      rw [e] at g2
      rw [← g2] at k
      exact q7 t c d k
    exact ⟨g1, L, g2, by omega, by omega, g5, g6⟩
  · have cu := mCu_v hv k
    have bt := st cu.1
    have di := (b3 i hi).2.2.1
    rcases b7 i hi c s' k with ⟨g1, g2⟩ | ⟨g1, g2⟩
    · exact Or.inl ⟨(q4 _ bt.1.1 bt.1.2).mpr g1, g2⟩
    · rcases p2 _ s' (by omega) (by omega) bt.1.1 bt.1.2 g2 with g3 | ⟨g3, g4⟩
      · right
        refine ⟨?_, g3⟩
        have : dd (po i) + c ≠ l := fun e => by
          rw [e] at g3
          exact q7 s' bt.1.1 bt.2 g3
        omega
      · have k2 := (q4 _ bt.1.1 bt.1.2).mp g4
        have := dle s' cu.1 k2
        exact Or.inl ⟨g4, by omega⟩
  · have bt := st (mSt3_v hv hM aw)
    rcases b8 w aw with ⟨g1, g2⟩ | ⟨g1, g2⟩
    · exact Or.inl ⟨(q4 _ bt.1.1 bt.1.2).mpr g1, g2⟩
    · rcases p2 0 _ (by omega) (by omega) bt.1.1 bt.1.2 g2 with g3 | ⟨g3, g4⟩
      · exfalso
        rw [g1] at q7
        exact q7 _ bt.1.1 bt.2 g3
      · have k2 := (q4 _ bt.1.1 bt.1.2).mp g4
        have := dle _ (mSt3_v hv hM aw) k2
        exact Or.inl ⟨g4, by omega⟩
  · rw [p4 _ _ (by omega) (by omega) (by omega), show m1 102 = m 102 from funext fun i => p4 _ _ (by omega) (by omega) (by omega), show m1 103 = m 103 from funext fun i => p4 _ _ (by omega) (by omega) (by omega)]
    exact b10 hM0
