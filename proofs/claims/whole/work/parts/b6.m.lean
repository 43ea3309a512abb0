/-! THE CLASS'S SEARCH: in which order the states come -/
def mPlo (j : Int) (r : Int × aM) : Prop := r.1 = -1 ∨ ∀ t : Int, 0 ≤ t → t < r.1 → ¬ mPd r.2 j t
theorem pop_lo {L : Int} {m : aM} (L0 : 0 ≤ L) (hw : m 80 12 = mPb m) (sp : 0 ≤ m 80 11 ∧ m 80 11 ≤ 67) (sc : 0 ≤ m 80 13 ∧ m 80 13 ≤ m 80 11) (hz : ∀ t : Int, 0 ≤ t → t / 64 < m 80 13 → ¬ mPd m (L % 8) t) : mOk (Twins_pop L m) (fun r => mPop3 (L % 8) m r ∧ mPlo (L % 8) r) := by
  unfold Twins_pop
  rw [tmod_nn L0, w32e (by omega) (by omega), show L % 8 * 67 = 67 * (L % 8) by omega]
  generalize hj : L % 8 = j at *
  have j0 : 0 ≤ j ∧ j < 8 := by omega
  refine mL2 (Twins_pop_8 (67 * j)) (fun x mm => (0 ≤ x ∧ x + 65 * (67 - mm 80 13) + mBp (mm 100 (67 * j + mm 80 13).toNat) ≤ 4419) ∧ (m 80 13 ≤ mm 80 13 ∧ mm 80 13 ≤ m 80 11) ∧ (∀ jj t : Int, 0 ≤ jj → jj < 8 → 0 ≤ t → t < 4288 → mPd mm jj t → mPd m jj t) ∧ (∀ jj t : Int, 0 ≤ jj → jj < 8 → 0 ≤ t → t < 4288 → mPd m jj t → mPd mm jj t ∨ (jj = j ∧ mSn m t)) ∧ (∀ t : Int, 0 ≤ t → t / 64 < mm 80 13 → ¬ mPd mm j t) ∧ mm 80 12 = mPb mm ∧ ∀ q i, q ≠ 100 → ¬(q = 80 ∧ (i = 12 ∨ i = 13)) → mm q i = m q i) (fun x _ => (9000 - x).toNat) ?_ 0 m ⟨by have := mBp_bd (m 100 (67 * j + m 80 13).toNat); omega, by omega, fun _ _ _ _ _ _ h => h, fun _ _ _ _ _ _ h => Or.inl h, hz, hw, fun _ _ _ _ => rfl⟩ (by omega)
  rintro fu x mm ⟨x1, c1, p1, p2, z1, w1, fr⟩ ih
  have pb := mPb_bd mm
  have bpx := mBp_bd (mm 100 (67 * j + mm 80 13).toNat)
  have e11 : mm 80 11 = m 80 11 := fr _ _ (by omega) (by omega)
  have sn : ∀ t, mSn mm t ↔ mSn m t := fun t => by unfold mSn; rw [fr 101 _ (by omega) (by omega)]
  rw [Twins_pop_8, if_pos (by omega), e11]
  by_cases d : mm 80 13 < m 80 11
  rotate_left
  · rw [if_neg d]
    have ec : mm 80 13 = m 80 11 := by omega
    refine mOk_some ⟨⟨p1, fun jj t a b c e g => ?_, w1, fun q i a b c => fr q i a c, Or.inl ⟨rfl, fun t _ _ => sn t, fun t a b => z1 t a (by omega)⟩⟩, Or.inl rfl⟩
    rcases p2 jj t a b c e g with h | h
    · exact Or.inl h
    · exact Or.inr ⟨h.1, (sn t).mpr h.2⟩
  rw [if_pos d, w32e (x := 67 * j + mm 80 13) (by omega) (by omega), if_pos (by omega)]
  rcases lowest (x := mm 100 (67 * j + mm 80 13).toNat) (m := mm) with ⟨x0, k⟩ | ⟨b, b0, b1, bt, bl, k, nz⟩
  · -- an empty word
    rw [k, Option.bind_some, if_pos rfl, st1e, w32e (by omega) (by omega)]
    unfold Twins_pop_82
    rw [w32e (by omega) (by omega)]
    have f2 : ∀ q i, ¬(q = 80 ∧ i = 13) → aup mm 80 13 (mm 80 13 + 1) q i = mm q i := fun q i a => aup_of (by omega)
    have e13 : aup mm 80 13 (mm 80 13 + 1) 80 13 = mm 80 13 + 1 := aup_self _ _ _ _
    generalize aup mm 80 13 (mm 80 13 + 1) = m2 at f2 e13 ⊢
    have pd : ∀ jj t, mPd m2 jj t ↔ mPd mm jj t := fun jj t => by unfold mPd; rw [f2 100 _ (by omega)]
    have bp2 := mBp_bd (m2 100 (67 * j + m2 80 13).toNat)
    refine ih _ _ ⟨by omega, by omega, fun jj t a b c e g => p1 jj t a b c e ((pd jj t).mp g), fun jj t a b c e g => ?_, fun t a b g => ?_, ?_, fun q i a c => ?_⟩ (by omega)
    · rcases p2 jj t a b c e g with h | h
      · exact Or.inl ((pd jj t).mpr h)
      · exact Or.inr h
    · rw [e13] at b
      have g' := (pd j t).mp g
      by_cases et : t / 64 < mm 80 13
      · exact z1 t a et g'
      · unfold mPd at g'
        rw [show t / 64 = mm 80 13 by omega, x0, Nat.zero_testBit] at g'
        exact absurd g' (by decide)
    · rw [f2 _ _ (by omega), mPb_c (m := mm) (funext fun i => f2 _ _ (by omega)) (f2 _ _ (by omega))]
      exact w1
    · rw [f2 q i (by omega)]; exact fr q i a c
  · rw [k, Option.bind_some, if_neg nz, st1e, st1e, aup_of (i' := 12) (by omega), w32e (by omega) (by omega)]
    have f2 : ∀ q i, ¬(q = 80 ∧ i = 12) → ¬(q = 100 ∧ i = (67 * j + mm 80 13).toNat) → aup (aup mm 100 (67 * j + mm 80 13).toNat (land (mm 100 (67 * j + mm 80 13).toNat) (lxor (lshl 1 b) (-1)))) 80 12 (mm 80 12 - 1) q i = mm q i := fun q i a c => by rw [aup_of (by omega), aup_of (by omega)]
    have e12 : aup (aup mm 100 (67 * j + mm 80 13).toNat (land (mm 100 (67 * j + mm 80 13).toNat) (lxor (lshl 1 b) (-1)))) 80 12 (mm 80 12 - 1) 80 12 = mm 80 12 - 1 := aup_self _ _ _ _
    have e100 : aup (aup mm 100 (67 * j + mm 80 13).toNat (land (mm 100 (67 * j + mm 80 13).toNat) (lxor (lshl 1 b) (-1)))) 80 12 (mm 80 12 - 1) 100 (67 * j + mm 80 13).toNat = land (mm 100 (67 * j + mm 80 13).toNat) (lxor (lshl 1 b) (-1)) := by rw [aup_of (by omega), aup_self]
    generalize aup (aup mm 100 (67 * j + mm 80 13).toNat (land (mm 100 (67 * j + mm 80 13).toNat) (lxor (lshl 1 b) (-1)))) 80 12 (mm 80 12 - 1) = m2 at f2 e12 e100 ⊢
    have bit : ∀ i, (mLb (m2 100 (67 * j + mm 80 13).toNat)).testBit i = ((mLb (mm 100 (67 * j + mm 80 13).toNat)).testBit i && !decide (b.toNat = i)) := fun i => by rw [e100]; exact land_not b0 b1 i
    have bc := mBp_clr (x := mm 100 (67 * j + mm 80 13).toNat) (y := m2 100 (67 * j + mm 80 13).toNat) b0 b1 bt bit
    have e13 : m2 80 13 = mm 80 13 := f2 _ _ (by omega) (by omega)
    have w2 : m2 80 12 = mPb m2 := by
      rw [mPb_upd (m := mm) (m' := m2) (k := (67 * j + mm 80 13).toNat) (d := -1) (by omega) (by omega) (f2 _ _ (by omega) (by omega)) (fun i a => f2 _ _ (by omega) (by omega)) (by rw [bc]; omega), e12, w1]
      omega
    -- the state that goes
    have sS : mPd mm j (64 * mm 80 13 + b) := by
      unfold mPd
      rw [show (64 * mm 80 13 + b) / 64 = mm 80 13 by omega, show (64 * mm 80 13 + b) % 64 = b by omega]
      exact bt
    have key : ∀ jj t : Int, 0 ≤ jj → jj < 8 → 0 ≤ t → t < 4288 → (mPd m2 jj t ↔ mPd mm jj t ∧ ¬(jj = j ∧ t = 64 * mm 80 13 + b)) := by
      intro jj t a1 a2 a3 a4
      unfold mPd
      by_cases e : (67 * jj + t / 64).toNat = (67 * j + mm 80 13).toNat
      · rw [e, bit, Bool.and_eq_true, Bool.not_eq_true', decide_eq_false_iff_not]
        constructor
        · rintro ⟨g1, g2⟩; exact ⟨g1, fun g => g2 (by omega)⟩
        · rintro ⟨g1, g2⟩; exact ⟨g1, fun g => g2 (by omega)⟩
      · rw [f2 _ _ (by omega) (by omega)]
        exact ⟨fun g => ⟨g, fun h => e (by rw [h.1, h.2]; congr 1; omega)⟩, fun g => g.1⟩
    have zz : ∀ t : Int, 0 ≤ t → t / 64 < mm 80 13 → ¬ mPd m2 j t := fun t a c g => z1 t a c ((key j t j0.1 j0.2 a (by omega)).mp g).1
    rw [e13, if_pos (by omega), f2 101 _ (by omega) (by omega), fr 101 _ (by omega) (by omega)]
    by_cases y : land (m 101 (mm 80 13).toNat) (lshl 1 b) = 0
    · rw [if_pos y, st1e, ntz_shl b0 b1, Option.bind_some, aup_of (by omega), e13, w32e (x := mm 80 13 * 64) (by omega) (by omega), w32e (by omega) (by omega), show mm 80 13 * 64 + b = 64 * mm 80 13 + b by omega]
      have ys := (land_shl b0 b1).mp y
      have ns : ¬ mSn m (64 * mm 80 13 + b) := fun g => by
        unfold mSn at g
        rw [show (64 * mm 80 13 + b) / 64 = mm 80 13 by omega, show (64 * mm 80 13 + b) % 64 = b by omega, ys] at g
        exact absurd g (by decide)
      have f3 : ∀ q i, ¬(q = 101 ∧ i = (mm 80 13).toNat) → aup m2 101 (mm 80 13).toNat (lor (m 101 (mm 80 13).toNat) (lshl 1 b)) q i = m2 q i := fun q i a => aup_of (by omega)
      have e101 : aup m2 101 (mm 80 13).toNat (lor (m 101 (mm 80 13).toNat) (lshl 1 b)) 101 (mm 80 13).toNat = lor (m 101 (mm 80 13).toNat) (lshl 1 b) := aup_self _ _ _ _
      generalize aup m2 101 (mm 80 13).toNat (lor (m 101 (mm 80 13).toNat) (lshl 1 b)) = m3 at f3 e101 ⊢
      have pd3 : ∀ jj t, mPd m3 jj t ↔ mPd m2 jj t := fun jj t => by unfold mPd; rw [f3 100 _ (by omega)]
      have sn3 : ∀ t : Int, 0 ≤ t → t < 4288 → (mSn m3 t ↔ mSn m t ∨ t = 64 * mm 80 13 + b) := by
        intro t t0 t1
        unfold mSn
        by_cases e : (t / 64).toNat = (mm 80 13).toNat
        · rw [e, e101, lor_shl b0 b1, Bool.or_eq_true, decide_eq_true_eq]
          constructor
          · rintro (g | g)
            · exact Or.inl g
            · exact Or.inr (by omega)
          · rintro (g | g)
            · exact Or.inl g
            · exact Or.inr (by omega)
        · rw [f3 _ _ (by omega), f2 _ _ (by omega) (by omega), fr _ _ (by omega) (by omega)]
          exact ⟨Or.inl, fun g => g.elim id (fun g => absurd (by rw [g]; congr 1; omega) e)⟩
      refine mOk_some ⟨⟨fun jj t a1 a2 a3 a4 g => ?_, fun jj t a1 a2 a3 a4 g => ?_, ?_, fun q i a1 a2 a3 => ?_, Or.inr ⟨by dsimp only; omega, by dsimp only; omega, ?_, ns, sn3, ?_, by dsimp only; omega, fun t a1 a2 g => ?_⟩⟩, Or.inr (fun t a1 a2 g => ?_)⟩
      · exact p1 jj t a1 a2 a3 a4 ((key jj t a1 a2 a3 a4).mp ((pd3 jj t).mp g)).1
      · dsimp only
        rcases p2 jj t a1 a2 a3 a4 g with h | h
        · by_cases u : jj = j ∧ t = 64 * mm 80 13 + b
          · exact Or.inr ⟨u.1, (sn3 t a3 a4).mpr (Or.inr u.2)⟩
          · exact Or.inl ((pd3 jj t).mpr ((key jj t a1 a2 a3 a4).mpr ⟨h, u⟩))
        · exact Or.inr ⟨h.1, (sn3 t a3 a4).mpr (Or.inl h.2)⟩
      · dsimp only
        rw [f3 _ _ (by omega), mPb_c (m := m2) (funext fun i => f3 _ _ (by omega)) (f3 _ _ (by omega))]
        exact w2
      · dsimp only
        rw [f3 _ _ (by omega), f2 _ _ (by omega) (by omega)]; exact fr q i a1 (by omega)
      · exact p1 j _ j0.1 j0.2 (by dsimp only; omega) (by dsimp only; omega) sS
      · dsimp only
        rw [f3 _ _ (by omega), e13]; omega
      · dsimp only at a2
        exact zz t a1 (by omega) ((pd3 j t).mp g)
      · dsimp only at a2 g
        have g2 := (pd3 j t).mp g
        by_cases lw : t / 64 < mm 80 13
        · exact zz t a1 lw g2
        · have g3 := ((key j t j0.1 j0.2 a1 (by omega)).mp g2).1
          unfold mPd at g3
          rw [show t / 64 = mm 80 13 by omega, bl (t % 64).toNat (by omega)] at g3
          exact absurd g3 (by decide)
    · rw [if_neg y]
      unfold Twins_pop_82
      rw [w32e (by omega) (by omega)]
      have ys : mSn m (64 * mm 80 13 + b) := by
        unfold mSn
        rw [show (64 * mm 80 13 + b) / 64 = mm 80 13 by omega, show (64 * mm 80 13 + b) % 64 = b by omega]
        cases e : (mLb (m 101 (mm 80 13).toNat)).testBit b.toNat with
        | true => rfl
        | false => exact absurd ((land_shl b0 b1).mpr e) y
      refine ih _ _ ⟨by rw [e13, bc]; omega, by omega, fun jj t a1 a2 a3 a4 g => p1 jj t a1 a2 a3 a4 ((key jj t a1 a2 a3 a4).mp g).1, fun jj t a1 a2 a3 a4 g => ?_, fun t a1 a2 => zz t a1 (by omega), w2, fun q i a c => by rw [f2 q i (by omega) (by omega)]; exact fr q i a c⟩ (by omega)
      rcases p2 jj t a1 a2 a3 a4 g with h | h
      · by_cases u : jj = j ∧ t = 64 * mm 80 13 + b
        · exact Or.inr ⟨u.1, by rw [u.2]; exact ys⟩
        · exact Or.inl ((key jj t a1 a2 a3 a4).mpr ⟨h, u⟩)
      · exact Or.inr h
/-- by their lengths, and the even ones first -/
def mOr (cnt : Nat) (po : Nat → Int) (dd : Int → Int) : Prop := ∀ i j : Nat, i < j → j < cnt → dd (po i) ≤ dd (po j) ∧ (dd (po i) = dd (po j) → po j < 16 → po i < 16)
def mOw (l : Int) (cnt : Nat) (po : Nat → Int) (dd : Int → Int) (m : aM) : Prop := (∃ i : Nat, i < cnt ∧ dd (po i) = l ∧ ¬ po i < 16) → ∀ t : Int, 0 ≤ t → t < 16 → mPd m (l % 8) t → mSn m t
theorem mOw_c {l : Int} {cnt : Nat} {po : Nat → Int} {dd : Int → Int} {m m' : aM} (h1 : m' 100 = m 100) (h2 : m' 101 = m 101) (h : mOw l cnt po dd m) : mOw l cnt po dd m' := by
  intro a t b c d
  unfold mPd at d
  unfold mSn
  rw [h1] at d
  rw [h2]
  exact h a t b c d
theorem mOr_visit {X : aM} {M l s : Int} {cnt : Nat} {po : Nat → Int} {dd : Int → Int} {m m1 ma m2 : aM} (hv : mTv X) (hM : mM3 M) (l0 : 0 ≤ l) (h : mJ X M l cnt po dd m) (ho : mOr cnt po dd) (hw : mOw l cnt po dd m) (p : mPop3 (l % 8) m (s, m1)) (pl : mPlo (l % 8) (s, m1)) (s0 : s ≠ -1)
    (fa : ∀ q i, q ≠ 102 → q ≠ 103 → ¬(q = 80 ∧ i = 16) → ma q i = m1 q i) (ps : mPs3 (fun s' L' => mCu X M s (L' - l) s') ma m2) :
    mOr (cnt + 1) (fun i => if i = cnt then s else po i) (fun t => if t = s then l else dd t) ∧ mOw l (cnt + 1) (fun i => if i = cnt then s else po i) (fun t => if t = s then l else dd t) m2 := by
  have cb := mC_bd hM
  obtain ⟨sv, sl, ⟨ns, sq⟩, sn0⟩ := mJ_pop hv hM l0 h p s0
  obtain ⟨b1, b2, b3, b4, b5, b6, b7, b8, b9, b10⟩ := h
  obtain ⟨p1, p2, p3, p4, p5⟩ := p
  dsimp only at p1 p2 p3 p4 p5
  obtain ⟨q0, q1, q2, q3, q4, q5, q6, q7⟩ := p5.resolve_left (fun g => s0 g.1)
  have pn : ∀ i : Nat, i < cnt → po i ≠ s := fun i hi e => sn0 (e ▸ (b3 i hi).2.1)
  have pda : ∀ j t, mPd ma j t ↔ mPd m1 j t := fun j t => by unfold mPd; rw [fa 100 _ (by omega) (by omega) (by omega)]
  have sna : ∀ t, mSn ma t ↔ mSn m1 t := fun t => by unfold mSn; rw [fa 101 _ (by omega) (by omega) (by omega)]
  constructor
  · intro i j hij hj
    dsimp only
    rw [if_neg (show ¬ i = cnt by omega), if_neg (pn i (by omega))]
    by_cases e : j = cnt
    · rw [if_pos e, if_pos rfl]
      refine ⟨(b3 i (by omega)).2.2.1.2.1, fun g1 g2 => ?_⟩
      refine Classical.byContradiction (fun no => ?_)
      exact q3 (hw ⟨i, by omega, g1, no⟩ s q0 g2 q2)
    · rw [if_neg e, if_neg (pn j (by omega))]
      exact ho i j hij (by omega)
  · rintro ⟨i, hi, e1, e2⟩ t t0 t1 pt
    dsimp only at e1 e2
    have t4 : t < 4288 := by omega
    have pm : mPd m1 (l % 8) t := by
      rcases ps.2.1 (l % 8) t (by omega) (by omega) t0 t4 pt with k | ⟨L', k1, k2⟩
      · exact (pda _ _).mp k
      · exfalso
        have cu := mCu_v hv k1
        have eL : L' = l := by omega
        subst eL
        rw [Int.sub_self] at k1
        rcases k1 with ⟨k1', k2', e, f, w, h1, ⟨g1, g2, g3, g4⟩, aw, -, -, h2⟩ | ⟨w, out, kb, e, f, v, h1, ⟨aw, hb, hg, hc, hd⟩, nw, mt⟩
        · have lw := (hv.2.1 w aw).1
          have := mOd_bd hM ⟨aw.1, aw.2.1⟩ (out := xl X w) (kb := k2') (e := e) (f := f) (by omega) (by omega) g3 g4
          omega
        · have := mMt_c hv aw nw.1 hb mt
          omega
    by_cases e : i = cnt
    · rw [if_pos e] at e2
      rcases pl with g | g
      · exact absurd g s0
      · exact absurd pm (g t t0 (by dsimp only; omega))
    · rw [if_neg e] at e1 e2
      rw [if_neg (pn i (by omega))] at e1
      have := hw ⟨i, by omega, e1, e2⟩ t t0 t1 (p1 _ t (by omega) (by omega) t0 t4 pm)
      exact (ps.sn t).mpr ((sna t).mpr ((q4 t t0 t4).mpr (Or.inl this)))
def mJo (X : aM) (M : Int) (r : Int × aM) : Prop := ∃ (l : Int) (cnt : Nat) (po : Nat → Int) (dd : Int → Int) (m0 : aM), 0 ≤ l ∧ mJ X M l cnt po dd m0 ∧ mOr cnt po dd ∧
  ((r = (-1, m0) ∧ ∀ (j s : Int), 0 ≤ j → j < 8 → mCv X M s → mPd m0 j s → mSn m0 s) ∨ (∃ s, s ≠ -1 ∧ mPop3 (l % 8) m0 (s, r.2) ∧ xz X M s ∧ r.1 = l))
theorem mJo_e {X : aM} {M : Int} {r : Int × aM} (h : mJo X M r) : mJe X M r := by
  obtain ⟨l, cnt, po, dd, m0, a, b, -, c⟩ := h
  exact ⟨l, cnt, po, dd, m0, a, b, c⟩
theorem shortest_so {M : Int} {m : aM} (hM : mM3 M) (hv : mTv m) : mOk (Twins_shortest M m) (fun r => mFt m r.2 ∧ mJo m M r) := by
  have cb := mC_bd hM
  unfold Twins_shortest
  refine mOk_bind (begin_ok hM hv) (fun mb kb => ?_)
  obtain ⟨tq, wt, v16, ns, pd, st, fb⟩ := kb
  have sp : mb 80 11 = (471 * ((M + 1) * (M + 1)) + 63) / 64 := tq.2.2.2.2.2.1
  have j0 : mJ m M 0 0 (fun _ => 0) (fun _ => 0) mb := by
    refine ⟨tq, wt, fun i hi => by omega, fun i j _ hj => by omega, fun s hs k => ?_, fun j s a b c d k => ?_, fun i hi => by omega, fun w aw => Or.inr ⟨rfl, st w aw⟩, fun i hi => by omega, fun _ => ⟨v16, fun i hi => by omega⟩⟩
    · have := sp_lt hv hM tq hs
      exact absurd k (ns s this.1.1 this.2)
    · obtain ⟨rfl, w, aw, rfl⟩ := pd j s a b c d k
      exact ⟨mSt3_v hv hM aw, 0, by omega, by omega, by omega, by omega, 0, rfl, w, aw, rfl⟩
  refine mL2 Twins_shortest_5 (fun l mm => (0 ≤ l ∧ l ≤ 29673) ∧ mFt m mm ∧ ∃ cnt po dd, mJ m M l cnt po dd mm ∧ mOr cnt po dd ∧ mOw l cnt po dd mm) (fun l _ => (29674 - l).toNat) ?_ 0 mb ⟨by omega, fun q i a b => fb q i (by omega) (by omega) (by omega) (by omega), 0, _, _, j0, fun i j _ hj => by omega, fun h => by obtain ⟨i, hi, -⟩ := h; omega⟩ (by omega)
  rintro fu l mm ⟨l1, ft, cnt, po, dd, jm, orm, owm⟩ ih
  rw [Twins_shortest_5]
  -- nothing more to come
  have done : (∀ (j s : Int), 0 ≤ j → j < 8 → mCv m M s → mPd mm j s → mSn mm s) → mOk (some ((-1 : Int), mm)) (fun r => mFt m r.2 ∧ mJo m M r) := fun h => mOk_some ⟨ft, l, cnt, po, dd, mm, l1.1, jm, orm, Or.inl ⟨rfl, h⟩⟩
  by_cases c : l < 29673
  rotate_left
  · rw [if_neg c]
    refine done (fun j s a b hs k => ?_)
    refine Classical.byContradiction (fun nk => ?_)
    have sl := sp_lt hv hM jm.1 hs
    have ct := mJ_cnt hv hM jm hs nk
    obtain ⟨-, L, g2, g3, g4, g5, -⟩ := jm.2.2.2.2.2.1 j s a b sl.1.1 sl.2 k
    omega
  rw [if_pos c]
  by_cases d : 0 < mm 80 12
  rotate_left
  · rw [if_neg d]
    refine done (fun j s a b hs k => ?_)
    have sl := sp_lt hv hM jm.1 hs
    have pb := mPb_bd mm
    have e : mPb mm = 0 := by have := jm.2.1; omega
    exact absurd k (mPb_none e a b sl.1.1 sl.1.2 sl.2)
  rw [if_pos d, st1e]
  have f4 : ∀ q i, ¬(q = 80 ∧ i = 13) → aup mm 80 13 0 q i = mm q i := fun q i a => aup_of (by omega)
  have e13 : aup mm 80 13 0 80 13 = 0 := aup_self _ _ _ _
  generalize aup mm 80 13 0 = m4 at f4 e13 ⊢
  have j4 : mJ m M l cnt po dd m4 := mJ_13 f4 jm
  have sp4 : m4 80 11 = (471 * ((M + 1) * (M + 1)) + 63) / 64 := j4.1.2.2.2.2.2.1
  have ft4 : mFt m m4 := fun q i a b => by rw [f4 q i (by omega)]; exact ft q i a b
  refine mOk_bind (pop_lo l1.1 j4.2.1 (by omega) (by omega) (fun t a b => by omega)) (fun r5 k5 => ?_)
  obtain ⟨s5, m5⟩ := r5
  obtain ⟨k5, l5⟩ := k5
  have ow4 : mOw l cnt po dd m4 := mOw_c (funext fun i => f4 _ _ (by omega)) (funext fun i => f4 _ _ (by omega)) owm
  have fpop : ∀ (ma : aM) (r : Int × aM), mPop3 (l % 8) ma r → mFt m ma → mFt m r.2 := fun ma r p f q i a b => by rw [p.2.2.2.1 q i (by omega) (by omega) (by omega)]; exact f q i a b
  refine mL3 (Twins_shortest_20 (Twins_shortest_5 fu) l) (fun s x m2 => (0 ≤ x ∧ x ≤ 5000) ∧ mFt m m2 ∧ ∃ cnt po dd m0, mJ m M l cnt po dd m0 ∧ mOr cnt po dd ∧ mOw l cnt po dd m0 ∧ mPop3 (l % 8) m0 (s, m2) ∧ mPlo (l % 8) (s, m2) ∧ x ≤ (cnt : Int)) (fun _ x _ => (5000 - x).toNat) ?_ s5 0 m5 ⟨by omega, fpop m4 _ k5 ft4, cnt, po, dd, m4, j4, orm, ow4, k5, l5, by omega⟩ (by omega)
  rintro fu2 s x m2 ⟨x1, ft2, cnt2, po2, dd2, m0, jm0, or0, ow0, pp, pl, xc⟩ ih2
  rw [Twins_shortest_20]
  by_cases z : s = -1
  · have nx : mOk (Twins_shortest_42 (Twins_shortest_5 fu) l m2) (fun r => mFt m r.2 ∧ mJo m M r) := by
      unfold Twins_shortest_42
      rw [w32e (by omega) (by omega)]
      rw [z] at pp
      exact ih _ _ ⟨by omega, ft2, cnt2, po2, dd2, mJ_next hv hM l1.1 jm0 pp, or0, fun h => by obtain ⟨i, hi, hd, -⟩ := h; have := (jm0.2.2.1 i hi).2.2.1; omega⟩ (by omega)
    by_cases y : x < 4239
    · rw [if_pos y, if_pos z]; exact nx
    · rw [if_neg y]; exact nx
  · obtain ⟨sv, sl, sq, sn⟩ := mJ_pop hv hM l1.1 jm0 pp z
    have ct := mJ_cnt hv hM jm0 sv sn
    have tq2 : mTq m M m2 := mTq_fr (fun q i a b c d e => pp.2.2.2.1 q i a b (by omega)) jm0.1
    rw [if_pos (by omega), if_neg z]
    refine mOk_bind (isLast_ok hv hM tq2 sv) (fun r kr => ?_)
    by_cases y : r = 0
    rotate_left
    · rw [if_neg y]
      exact mOk_some ⟨ft2, l, cnt2, po2, dd2, m0, l1.1, jm0, or0, Or.inr ⟨s, z, pp, kr.2.mp y, rfl⟩⟩
    rw [if_pos y]
    have nl : ¬ xz m M s := fun g => (kr.2.mpr g) y
    have h16 : M = 0 → 0 ≤ m2 80 16 ∧ m2 80 16 < 471 := fun h0 => by
      have := (jm0.2.2.2.2.2.2.2.2.2 h0).1
      have e16 : m2 80 16 = m0 80 16 := pp.2.2.2.1 80 16 (by omega) (by omega) (by omega)
      rw [e16, this]
      rw [h0] at ct
      omega
    refine mOk_bind (visit_ok hv hM tq2 pp.2.2.1 l1.1 (by omega) sv h16) (fun m3 k3 => ?_)
    obtain ⟨ma, fa, fm, ps, al⟩ := k3
    obtain ⟨j3, e3, z3⟩ := mJ_visit hv hM l1.1 jm0 pp z nl fa fm ps al
    have ft3 : mFt m m3 := fun q i a b => by rw [ps.2.2.2 q i (by omega) (by omega), fa q i (by omega) (by omega) (by omega)]; exact ft2 q i a b
    have sc : 0 ≤ m3 80 13 ∧ m3 80 13 ≤ m3 80 11 := by
      have q5 := pp.2.2.2.2.resolve_left (fun g => z g.1)
      dsimp only at q5
      have e11 : m3 80 11 = m0 80 11 := by rw [j3.1.2.2.2.2.2.1, jm0.1.2.2.2.2.2.1]
      rw [e3, q5.2.2.2.2.2.1, e11]
      have := q5.1
      have := q5.2.1
      omega
    have sp3 : m3 80 11 = (471 * ((M + 1) * (M + 1)) + 63) / 64 := j3.1.2.2.2.2.2.1
    obtain ⟨or3, ow3⟩ := mOr_visit hv hM l1.1 jm0 or0 ow0 pp pl z fa ps
    refine mOk_bind (pop_lo l1.1 j3.2.1 (by omega) sc z3) (fun r6 k6 => ?_)
    obtain ⟨s6, m6⟩ := r6
    obtain ⟨k6, l6⟩ := k6
    dsimp only
    rw [w32e (by omega) (by omega)]
    exact ih2 _ _ _ ⟨by omega, fpop m3 _ k6 ft3, cnt2 + 1, _, _, m3, j3, or3, ow3, k6, l6, by omega⟩ (by omega)
