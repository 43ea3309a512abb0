/-! THE CLASS'S SEARCH: the least -/
def mFt (m m' : aM) : Prop := ∀ q i, ¬(99 ≤ q ∧ q ≤ 103) → ¬(q = 80 ∧ ((9 ≤ i ∧ i ≤ 13) ∨ i = 16)) → m' q i = m q i
/-- where the search ends -/
def mJe (X : aM) (M : Int) (r : Int × aM) : Prop := ∃ (l : Int) (cnt : Nat) (po : Nat → Int) (dd : Int → Int) (m0 : aM), 0 ≤ l ∧ mJ X M l cnt po dd m0 ∧
  ((r = (-1, m0) ∧ ∀ (j s : Int), 0 ≤ j → j < 8 → mCv X M s → mPd m0 j s → mSn m0 s) ∨ (∃ s, s ≠ -1 ∧ mPop3 (l % 8) m0 (s, r.2) ∧ xz X M s ∧ r.1 = l))
theorem shortest_ok {M : Int} {m : aM} (hM : mM3 M) (hv : mTv m) : mOk (Twins_shortest M m) (fun r => mFt m r.2 ∧ mJe m M r) := by
  have cb := mC_bd hM
  unfold Twins_shortest
  refine mOk_bind (begin_ok hM hv) (fun mb kb => ?_)
  obtain ⟨tq, wt, v16, ns, pd, st, fb⟩ := kb
  have sp : mb 80 11 = (471 * ((M + 1) * (M + 1)) + 63) / 64 := tq.2.2.2.2.2.1
  have j0 : mJ m M 0 0 (fun _ => 0) (fun _ => 0) mb := by
    refine ⟨tq, wt, fun i hi => by omega, fun i j _ hj => by omega, fun s hs k => ?_, fun j s a b c d k => ?_, fun i hi => by omega, fun w aw => Or.inr ⟨rfl, st w aw⟩, fun i hi => by omega, fun _ => ⟨v16, fun i hi => by omega⟩⟩
    · have := sp_lt hv hM tq hs
      exact absurd k (ns s this.1.1 this.2)
    · obtain ⟨rfl, w, aw, rfl⟩ := pd j s a b c d k
      exact ⟨mSt3_v hv hM aw, 0, by omega, by omega, by omega, by omega, 0, rfl, w, aw, rfl⟩
  refine mL2 Twins_shortest_5 (fun l mm => (0 ≤ l ∧ l ≤ 29673) ∧ mFt m mm ∧ ∃ cnt po dd, mJ m M l cnt po dd mm) (fun l _ => (29674 - l).toNat) ?_ 0 mb ⟨by omega, fun q i a b => fb q i (by omega) (by omega) (by omega) (by omega), 0, _, _, j0⟩ (by omega)
  rintro fu l mm ⟨l1, ft, cnt, po, dd, jm⟩ ih
  rw [Twins_shortest_5]
  -- nothing more to come
  have done : (∀ (j s : Int), 0 ≤ j → j < 8 → mCv m M s → mPd mm j s → mSn mm s) → mOk (some ((-1 : Int), mm)) (fun r => mFt m r.2 ∧ mJe m M r) := fun h => mOk_some ⟨ft, l, cnt, po, dd, mm, l1.1, jm, Or.inl ⟨rfl, h⟩⟩
  by_cases c : l < 29673
  rotate_left
  · rw [if_neg c]
    refine done (fun j s a b hs k => ?_)
    refine Classical.byContradiction (fun nk => ?_)
    have sl := sp_lt hv hM jm.1 hs
    have ct := mJ_cnt hv hM jm hs nk
    obtain ⟨-, L, g2, g3, g4, g5, -⟩ := jm.2.2.2.2.2.1 j s a b sl.1.1 sl.2 k
    omega
  rw [if_pos c]
  by_cases d : 0 < mm 80 12
  rotate_left
  · rw [if_neg d]
    refine done (fun j s a b hs k => ?_)
    have sl := sp_lt hv hM jm.1 hs
    have pb := mPb_bd mm
    have e : mPb mm = 0 := by have := jm.2.1; omega
    exact absurd k (mPb_none e a b sl.1.1 sl.1.2 sl.2)
  rw [if_pos d, st1e]
  have f4 : ∀ q i, ¬(q = 80 ∧ i = 13) → aup mm 80 13 0 q i = mm q i := fun q i a => aup_of (by omega)
  have e13 : aup mm 80 13 0 80 13 = 0 := aup_self _ _ _ _
  generalize aup mm 80 13 0 = m4 at f4 e13 ⊢
  have j4 : mJ m M l cnt po dd m4 := mJ_13 f4 jm
  have sp4 : m4 80 11 = (471 * ((M + 1) * (M + 1)) + 63) / 64 := j4.1.2.2.2.2.2.1
  have ft4 : mFt m m4 := fun q i a b => by rw [f4 q i (by omega)]; exact ft q i a b
  refine mOk_bind (pop_ok l1.1 j4.2.1 (by omega) (by omega) (fun t a b => by omega)) (fun r5 k5 => ?_)
  obtain ⟨s5, m5⟩ := r5
  have fpop : ∀ (ma : aM) (r : Int × aM), mPop3 (l % 8) ma r → mFt m ma → mFt m r.2 := fun ma r p f q i a b => by rw [p.2.2.2.1 q i (by omega) (by omega) (by omega)]; exact f q i a b
  refine mL3 (Twins_shortest_20 (Twins_shortest_5 fu) l) (fun s x m2 => (0 ≤ x ∧ x ≤ 5000) ∧ mFt m m2 ∧ ∃ cnt po dd m0, mJ m M l cnt po dd m0 ∧ mPop3 (l % 8) m0 (s, m2) ∧ x ≤ (cnt : Int)) (fun _ x _ => (5000 - x).toNat) ?_ s5 0 m5 ⟨by omega, fpop m4 _ k5 ft4, cnt, po, dd, m4, j4, k5, by omega⟩ (by omega)
  rintro fu2 s x m2 ⟨x1, ft2, cnt2, po2, dd2, m0, jm0, pp, xc⟩ ih2
  rw [Twins_shortest_20]
  by_cases z : s = -1
  · have nx : mOk (Twins_shortest_42 (Twins_shortest_5 fu) l m2) (fun r => mFt m r.2 ∧ mJe m M r) := by
      unfold Twins_shortest_42
      rw [w32e (by omega) (by omega)]
      rw [z] at pp
      exact ih _ _ ⟨by omega, ft2, cnt2, po2, dd2, mJ_next hv hM l1.1 jm0 pp⟩ (by omega)
    by_cases y : x < 4239
    · rw [if_pos y, if_pos z]; exact nx
    · rw [if_neg y]; exact nx
  · obtain ⟨sv, sl, sq, sn⟩ := mJ_pop hv hM l1.1 jm0 pp z
    have ct := mJ_cnt hv hM jm0 sv sn
    have tq2 : mTq m M m2 := mTq_fr (fun q i a b c d e => pp.2.2.2.1 q i a b (by omega)) jm0.1
    rw [if_pos (by omega), if_neg z]
    refine mOk_bind (isLast_ok hv hM tq2 sv) (fun r kr => ?_)
    by_cases y : r = 0
    rotate_left
    · rw [if_neg y]
      exact mOk_some ⟨ft2, l, cnt2, po2, dd2, m0, l1.1, jm0, Or.inr ⟨s, z, pp, kr.2.mp y, rfl⟩⟩
    rw [if_pos y]
    have nl : ¬ xz m M s := fun g => (kr.2.mpr g) y
    have h16 : M = 0 → 0 ≤ m2 80 16 ∧ m2 80 16 < 471 := fun h0 => by
      have := (jm0.2.2.2.2.2.2.2.2.2 h0).1
      have e16 : m2 80 16 = m0 80 16 := pp.2.2.2.1 80 16 (by omega) (by omega) (by omega)
      rw [e16, this]
      rw [h0] at ct
      omega
    refine mOk_bind (visit_ok hv hM tq2 pp.2.2.1 l1.1 (by omega) sv h16) (fun m3 k3 => ?_)
    obtain ⟨ma, fa, fm, ps, al⟩ := k3
    obtain ⟨j3, e3, z3⟩ := mJ_visit hv hM l1.1 jm0 pp z nl fa fm ps al
    have ft3 : mFt m m3 := fun q i a b => by rw [ps.2.2.2 q i (by omega) (by omega), fa q i (by omega) (by omega) (by omega)]; exact ft2 q i a b
    have sc : 0 ≤ m3 80 13 ∧ m3 80 13 ≤ m3 80 11 := by
      have q5 := pp.2.2.2.2.resolve_left (fun g => z g.1)
      dsimp only at q5
      have e11 : m3 80 11 = m0 80 11 := by rw [j3.1.2.2.2.2.2.1, jm0.1.2.2.2.2.2.1]
      rw [e3, q5.2.2.2.2.2.1, e11]
      have := q5.1
      have := q5.2.1
      omega
    have sp3 : m3 80 11 = (471 * ((M + 1) * (M + 1)) + 63) / 64 := j3.1.2.2.2.2.2.1
    refine mOk_bind (pop_ok l1.1 j3.2.1 (by omega) sc z3) (fun r6 k6 => ?_)
    obtain ⟨s6, m6⟩ := r6
    dsimp only
    rw [w32e (by omega) (by omega)]
    exact ih2 _ _ _ ⟨by omega, fpop m3 _ k6 ft3, cnt2 + 1, _, _, m3, j3, k6, by omega⟩ (by omega)
theorem shortest_ans {X : aM} {M : Int} {r : Int × aM} (hv : mTv X) (hM : mM3 M) (h : mJe X M r) : mLst (fun L => ∃ n s, mCq X M n s (L : Nat) ∧ xz X M s) r.1 := by
  obtain ⟨l, cnt, po, dd, m0, l0, jm, h⟩ := h
  have no : ∀ s, mCv X M s → mSn m0 s → ¬ xz X M s := by
    intro s hs k
    obtain ⟨i, i1, i2⟩ := jm.2.2.2.2.1 s hs k
    have := jm.2.2.2.2.2.2.2.2.1 i i1
    rw [i2] at this
    exact this
  rcases h with ⟨e, hc⟩ | ⟨s, z, pp, la, e⟩
  · refine Or.inl ⟨by rw [e], fun L => ?_⟩
    rintro ⟨n, s, h1, h2⟩
    exact no s (mCq_v hv hM h1).1 (mJ_closed hv hM jm hc n s L h1) h2
  · obtain ⟨sv, sl, ⟨n, sq⟩, sn⟩ := mJ_pop hv hM l0 jm pp z
    refine Or.inr ⟨l.toNat, by omega, ⟨n, s, by rw [Int.toNat_of_nonneg l0]; exact sq, la⟩, ?_⟩
    rintro L' ⟨n', s', h1, h2⟩
    refine Classical.byContradiction (fun hc => ?_)
    have g := mJ_all hv hM jm n' s' L' h1 (by omega)
    exact no s' (mCq_v hv hM h1).1 g.1 h2
