/-! THE CLASS'S SEARCH, to its end -/
def mCq (X : aM) (M : Int) : Nat → Int → Int → Prop
  | 0, s, L => L = 0 ∧ ∃ w, xa X w ∧ s = mSt3 X M w
  | n + 1, s, L => ∃ t L' c, mCq X M n t L' ∧ mCu X M t c s ∧ L = L' + c
def xz (X : aM) (M s : Int) : Prop := ∃ k1 k2 e f, s = mEv M k1 k2 e f ∧ ((0 ≤ k1 ∧ k1 ≤ 3) ∧ (0 ≤ k2 ∧ k2 ≤ 3) ∧ (0 ≤ e ∧ e ≤ M) ∧ (0 ≤ f ∧ f ≤ M)) ∧ xe X k1 ∧ xe X k2
theorem mSt3_v {X : aM} {M w : Int} (hv : mTv X) (hM : mM3 M) (aw : xa X w) : mCv X M (mSt3 X M w) := by
  have hm : M = 0 ∨ M = 1 ∨ M = 2 := hM
  have l := (hv.2.1 w aw).1
  exact Or.inr ⟨w, xl X w, 4, 0, 0, rfl, aw, by omega, by omega, by omega, by omega⟩
theorem mCq_v {X : aM} {M : Int} (hv : mTv X) (hM : mM3 M) : ∀ {n : Nat} {s L : Int}, mCq X M n s L → mCv X M s ∧ 0 ≤ L := by
  intro n
  induction n with
  | zero => rintro s L ⟨rfl, w, aw, rfl⟩; exact ⟨mSt3_v hv hM aw, by omega⟩
  | succ n ih =>
    rintro s L ⟨t, L', c, h1, h2, rfl⟩
    have := (ih h1).2
    have g := mCu_v hv h2
    exact ⟨g.1, by omega⟩
theorem last_bits {E k1 k2 : Int} (e0 : 0 ≤ E) (e1 : E ≤ 15) (a0 : 0 ≤ k1) (a1 : k1 ≤ 3) (b0 : 0 ≤ k2) (b1 : k2 ≤ 3) : iand (iand (ishr E k1) (ishr E k2)) 1 ≠ 0 ↔ iand (ishr E k1) 1 ≠ 0 ∧ iand (ishr E k2) 1 ≠ 0 := by
  have aux : ∀ E : Fin 16, ∀ a b : Fin 4, (iand (iand (ishr ((E.val : Nat) : Int) ((a.val : Nat) : Int)) (ishr ((E.val : Nat) : Int) ((b.val : Nat) : Int))) 1 ≠ 0 ↔ iand (ishr ((E.val : Nat) : Int) ((a.val : Nat) : Int)) 1 ≠ 0 ∧ iand (ishr ((E.val : Nat) : Int) ((b.val : Nat) : Int)) 1 ≠ 0) := by decide +kernel
  have := aux ⟨E.toNat, by omega⟩ ⟨k1.toNat, by omega⟩ ⟨k2.toNat, by omega⟩
  simp only [Int.toNat_of_nonneg e0, Int.toNat_of_nonneg a0, Int.toNat_of_nonneg b0] at this
  exact this
theorem isLast_ok {X : aM} {M s : Int} {m : aM} (hv : mTv X) (hM : mM3 M) (hq : mTq X M m) (hs : mCv X M s) : mOk (Twins_isLast s m) (fun r => (r = 0 ∨ r = 1) ∧ (r ≠ 0 ↔ xz X M s)) := by
  have cb := mC_bd hM
  have h10 : m 80 10 = (M + 1) * (M + 1) := hq.2.2.2.2.1
  have h2 : m 80 2 = X 80 2 := hq.2.1
  have eb := hv.2.2.2
  unfold Twins_isLast
  rw [isEven_eq hM h10, Option.bind_some, h10, if_pos (by omega)]
  rcases hs with ⟨k1, k2, e, f, rfl, a, b, c, d⟩ | ⟨w, out, kb, e, f, rfl, aw, b, g, c, d⟩
  · have bd := mEv_bd hM a b c d
    obtain ⟨d1, d2, d3, d4⟩ := mEv_dec hM a b c d
    rw [if_pos bd.2, if_neg (by decide), tdiv_nn bd.1, d1, w32e (x := 4 * k1 + k2) (by omega) (by omega), tdiv_nn (by omega), tmod_nn (by omega), show (4 * k1 + k2) / 4 = k1 by omega, show (4 * k1 + k2) % 4 = k2 by omega, w32e (x := k1) (by omega) (by omega), h2]
    have lb := last_bits eb.1 eb.2 a.1 a.2 b.1 b.2
    have un : xz X M (mEv M k1 k2 e f) ↔ xe X k1 ∧ xe X k2 := by
      constructor
      · rintro ⟨k1', k2', e', f', h1, ⟨g1, g2, g3, g4⟩, g5, g6⟩
        obtain ⟨d1', -, -, -⟩ := mEv_dec hM g1 g2 g3 g4
        rw [← h1] at d1'
        have x1 : k1' = k1 ∧ k2' = k2 := by omega
        rw [x1.1] at g5
        rw [x1.2] at g6
        exact ⟨g5, g6⟩
      · rintro ⟨g5, g6⟩; exact ⟨k1, k2, e, f, rfl, ⟨a, b, c, d⟩, g5, g6⟩
    by_cases y : iand (iand (ishr (X 80 2) k1) (ishr (X 80 2) k2)) 1 = 0
    · rw [if_pos y]
      exact mOk_some ⟨Or.inl rfl, ⟨fun h => absurd rfl h, fun h => absurd y (lb.mpr (un.mp h))⟩⟩
    · rw [if_neg y]
      exact mOk_some ⟨Or.inr rfl, ⟨fun _ => un.mpr (lb.mp y), fun _ => by decide⟩⟩
  · have lw := (hv.2.1 w aw).1
    have bd := mOd_bd hM ⟨aw.1, aw.2.1⟩ (out := out) (by omega) g c d
    rw [if_neg (show ¬ mOd M w out kb e f < 16 * ((M + 1) * (M + 1)) by omega), if_pos rfl]
    refine mOk_some ⟨Or.inl rfl, ⟨fun h => absurd rfl h, ?_⟩⟩
    rintro ⟨k1', k2', e', f', h1, ⟨g1, g2, g3, g4⟩, -⟩
    have := mEv_bd hM g1 g2 g3 g4
    omega
/-- visit: the order of coming is written, where no mistakes are allowed -/
theorem visit_ok {X : aM} {M s L : Int} {m : aM} (hv : mTv X) (hM : mM3 M) (hq : mTq X M m) (hw : m 80 12 = mPb m) (L0 : 0 ≤ L) (L1 : L < 32000) (hs : mCv X M s) (h16 : M = 0 → 0 ≤ m 80 16 ∧ m 80 16 < 471) : mOk (Twins_visit s L m) (fun m' => ∃ m1 : aM, (∀ q i, q ≠ 102 → q ≠ 103 → ¬(q = 80 ∧ i = 16) → m1 q i = m q i) ∧ (M = 0 → m1 80 16 = m 80 16 + 1 ∧ m1 102 (m 80 16).toNat = s ∧ m1 103 s.toNat = L ∧ (∀ i : Nat, i ≠ (m 80 16).toNat → m1 102 i = m 102 i) ∧ ∀ i : Nat, i ≠ s.toNat → m1 103 i = m 103 i) ∧ mPs3 (fun s' L' => mCu X M s (L' - L) s') m1 m' ∧ ∀ s' c, mCu X M s c s' → mSn m' s' ∨ mPd m' ((L + c) % 8) s') := by
  have sb := mCv_bd hv hM hs
  have h9 : m 80 9 = M := hq.2.2.2.1
  unfold Twins_visit
  rw [h9]
  by_cases c : M = 0
  · rw [if_pos c, if_pos (h16 c).2, if_pos (h16 c), st1e, if_pos (by rw [c] at sb; omega), st1e, st1e, w16e (x := s) (by rw [c] at sb; omega) (by rw [c] at sb; omega), w16e (x := s) (by rw [c] at sb; omega) (by rw [c] at sb; omega), w16e (x := L) (by omega) (by omega), w16e (x := L) (by omega) (by omega), aup_of (q' := 80) (by omega), aup_of (q' := 80) (by omega), w32e (by have := h16 c; omega) (by have := h16 c; omega)]
    generalize hm1 : aup (aup (aup m 102 (m 80 16).toNat s) 103 s.toNat L) 80 16 (m 80 16 + 1) = m1
    have f1 : ∀ q i, q ≠ 102 → q ≠ 103 → ¬(q = 80 ∧ i = 16) → m1 q i = m q i := fun q i a b d => by rw [← hm1, aup_of (by omega), aup_of (by omega), aup_of (by omega)]
    have tq1 : mTq X M m1 := by
      obtain ⟨g1, g2, g3, g4, g5, g7, g6⟩ := hq
      refine ⟨by rw [f1 _ _ (by omega) (by omega) (by omega)]; exact g1, by rw [f1 _ _ (by omega) (by omega) (by omega)]; exact g2, fun q i a b => by rw [f1 _ _ (by omega) (by omega) (by omega)]; exact g3 q i a b, by rw [f1 _ _ (by omega) (by omega) (by omega)]; exact g4, by rw [f1 _ _ (by omega) (by omega) (by omega)]; exact g5, by rw [f1 _ _ (by omega) (by omega) (by omega)]; exact g7, fun k a b => ?_⟩
      rw [f1 99 _ (by omega) (by omega) (by omega)]
      exact g6 k a b
    have hw1 : m1 80 12 = mPb m1 := by rw [f1 _ _ (by omega) (by omega) (by omega), mPb_c (m := m) (funext fun i => f1 _ _ (by omega) (by omega) (by omega)) (f1 _ _ (by omega) (by omega) (by omega))]; exact hw
    refine mOk_mono (visit26_ok hv hM tq1 hw1 L0 (by omega) hs) (fun m' k => ⟨m1, f1, fun _ => ⟨?_, ?_, ?_, fun i a => ?_, fun i a => ?_⟩, k⟩)
    · rw [← hm1, aup_self]
    · rw [← hm1, aup_of (by omega), aup_of (by omega), aup_self]
    · rw [← hm1, aup_of (by omega), aup_self]
    · rw [← hm1, aup_of (by omega), aup_of (by omega), aup_of (by omega)]
    · rw [← hm1, aup_of (by omega), aup_of (by omega), aup_of (by omega)]
  · rw [if_neg c]
    exact mOk_mono (visit26_ok hv hM hq hw L0 (by omega) hs) (fun m' k => ⟨m, fun _ _ _ _ _ => rfl, fun h => absurd h c, k⟩)
/-- between two visits, at the length l: cnt states have come, po in their order, dd their lengths -/
def mJ (X : aM) (M l : Int) (cnt : Nat) (po : Nat → Int) (dd : Int → Int) (m : aM) : Prop :=
  mTq X M m ∧ m 80 12 = mPb m ∧
  (∀ i : Nat, i < cnt → mCv X M (po i) ∧ mSn m (po i) ∧ (0 ≤ dd (po i) ∧ dd (po i) ≤ l ∧ dd (po i) ≤ 7 * i) ∧ ∃ n, mCq X M n (po i) (dd (po i))) ∧
  (∀ i j : Nat, i < j → j < cnt → po i ≠ po j) ∧
  (∀ s : Int, mCv X M s → mSn m s → ∃ i : Nat, i < cnt ∧ po i = s) ∧
  (∀ j s : Int, 0 ≤ j → j < 8 → 0 ≤ s → s / 64 < m 80 11 → mPd m j s → mCv X M s ∧ ∃ L, L % 8 = j ∧ l ≤ L ∧ L < l + 8 ∧ L ≤ 7 * cnt ∧ ∃ n, mCq X M n s L) ∧
  (∀ i : Nat, i < cnt → ∀ c s', mCu X M (po i) c s' → (mSn m s' ∧ dd s' ≤ dd (po i) + c) ∨ (l ≤ dd (po i) + c ∧ mPd m ((dd (po i) + c) % 8) s')) ∧
  (∀ w, xa X w → (mSn m (mSt3 X M w) ∧ dd (mSt3 X M w) ≤ 0) ∨ (l = 0 ∧ mPd m 0 (mSt3 X M w))) ∧
  (∀ i : Nat, i < cnt → ¬ xz X M (po i)) ∧
  (M = 0 → m 80 16 = cnt ∧ ∀ i : Nat, i < cnt → m 102 i = po i ∧ m 103 (po i).toNat = dd (po i))
theorem mJ_cnt {X : aM} {M l : Int} {cnt : Nat} {po : Nat → Int} {dd : Int → Int} {m : aM} (hv : mTv X) (hM : mM3 M) (h : mJ X M l cnt po dd m) {s : Int} (hs : mCv X M s) (ns : ¬ mSn m s) : (cnt : Int) < 471 * ((M + 1) * (M + 1)) := by
  have cb := mC_bd hM
  obtain ⟨-, -, b3, b4, -⟩ := h
  refine Classical.byContradiction (fun hc => ?_)
  have sb := mCv_bd hv hM hs
  generalize hN : 471 * ((M + 1) * (M + 1)) = N at *
  obtain ⟨i, j, h1, h2, h3⟩ := pigeon N.toNat (fun i => if i = N.toNat then s else po i) (fun i hi => by
    by_cases c : i = N.toNat
    · rw [if_pos c]; omega
    · rw [if_neg c]
      have := mCv_bd hv hM (b3 i (by omega)).1
      omega)
  rw [if_neg (show ¬ i = N.toNat by omega)] at h3
  by_cases c : j = N.toNat
  · rw [if_pos c] at h3
    have := (b3 i (by omega)).2.1
    rw [h3] at this
    exact ns this
  · rw [if_neg c] at h3
    exact b4 i j h1 (by omega) h3
/-- what may be reached by less than l sounds is seen -/
theorem mJ_all {X : aM} {M l : Int} {cnt : Nat} {po : Nat → Int} {dd : Int → Int} {m : aM} (hv : mTv X) (hM : mM3 M) (h : mJ X M l cnt po dd m) : ∀ (n : Nat) (s L : Int), mCq X M n s L → L < l → mSn m s ∧ dd s ≤ L := by
  obtain ⟨b1, b2, b3, b4, b5, b6, b7, b8, b9, b10⟩ := h
  intro n
  induction n with
  | zero =>
    rintro s L ⟨rfl, w, aw, rfl⟩ hl
    rcases b8 w aw with g | g
    · exact g
    · omega
  | succ n ih =>
    rintro s L ⟨t, L', c, h1, h2, rfl⟩ hl
    have cb := mCu_v hv h2
    have g := ih t L' h1 (by omega)
    obtain ⟨i, i1, i2⟩ := b5 t (mCq_v hv hM h1).1 g.1
    have k := b7 i i1 c s
    rw [i2] at k
    rcases k h2 with k | k
    · exact ⟨k.1, by omega⟩
    · omega
/-- nothing that is not seen waits: all that may be reached is seen -/
theorem mJ_closed {X : aM} {M l : Int} {cnt : Nat} {po : Nat → Int} {dd : Int → Int} {m : aM} (hv : mTv X) (hM : mM3 M) (h : mJ X M l cnt po dd m) (hc : ∀ j s : Int, 0 ≤ j → j < 8 → mCv X M s → mPd m j s → mSn m s) : ∀ (n : Nat) (s L : Int), mCq X M n s L → mSn m s := by
  obtain ⟨b1, b2, b3, b4, b5, b6, b7, b8, b9, b10⟩ := h
  intro n
  induction n with
  | zero =>
    rintro s L ⟨rfl, w, aw, rfl⟩
    rcases b8 w aw with g | g
    · exact g.1
    · exact hc 0 _ (by omega) (by omega) (mSt3_v hv hM aw) g.2
  | succ n ih =>
    rintro s L ⟨t, L', c, h1, h2, rfl⟩
    have cb := mCu_v hv h2
    have g := ih t L' h1
    obtain ⟨i, i1, i2⟩ := b5 t (mCq_v hv hM h1).1 g
    have k := b7 i i1 c s
    rw [i2] at k
    rcases k h2 with k | k
    · exact k.1
    · exact hc _ _ (by omega) (by omega) cb.1 k.2
theorem mJ_13 {X : aM} {M l : Int} {cnt : Nat} {po : Nat → Int} {dd : Int → Int} {m m' : aM} (f : ∀ q i, ¬(q = 80 ∧ i = 13) → m' q i = m q i) (h : mJ X M l cnt po dd m) : mJ X M l cnt po dd m' := by
  have e1 : m' 100 = m 100 := funext fun i => f _ _ (by omega)
  have e2 : m' 101 = m 101 := funext fun i => f _ _ (by omega)
  obtain ⟨⟨g1, g2, g3, g4, g5, g7, g6⟩, b2, b3, b4, b5, b6, b7, b8, b9, b10⟩ := h
  have pd : ∀ j s, mPd m' j s ↔ mPd m j s := fun j s => by unfold mPd; rw [e1]
  have sn : ∀ s, mSn m' s ↔ mSn m s := fun s => by unfold mSn; rw [e2]
  refine ⟨⟨by rw [f _ _ (by omega)]; exact g1, by rw [f _ _ (by omega)]; exact g2, fun q i a b => by rw [f _ _ (by omega)]; exact g3 q i a b, by rw [f _ _ (by omega)]; exact g4, by rw [f _ _ (by omega)]; exact g5, by rw [f _ _ (by omega)]; exact g7, fun k a b => by rw [f 99 _ (by omega)]; exact g6 k a b⟩, by rw [f _ _ (by omega), mPb_c e1 (f _ _ (by omega))]; exact b2, fun i hi => ?_, b4, fun s hs k => b5 s hs ((sn s).mp k), fun j s a b c d k => ?_, fun i hi c s' k => ?_, fun w aw => ?_, b9, fun hM => ?_⟩
  · obtain ⟨x1, x2, x3, x4⟩ := b3 i hi
    exact ⟨x1, (sn _).mpr x2, x3, x4⟩
  · rw [f _ _ (by omega)] at d
    exact b6 j s a b c d ((pd j s).mp k)
  · rcases b7 i hi c s' k with x | x
    · exact Or.inl ⟨(sn _).mpr x.1, x.2⟩
    · exact Or.inr ⟨x.1, (pd _ _).mpr x.2⟩
  · rcases b8 w aw with x | x
    · exact Or.inl ⟨(sn _).mpr x.1, x.2⟩
    · exact Or.inr ⟨x.1, (pd _ _).mpr x.2⟩
  · rw [f _ _ (by omega), show m' 102 = m 102 from funext fun i => f _ _ (by omega), show m' 103 = m 103 from funext fun i => f _ _ (by omega)]
    exact b10 hM
