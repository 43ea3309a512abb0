/-! WITHOUT MISTAKES: what the search leaves; how long the least is -/
def jF (X : aM) (N : Int) (cnt : Nat) (po : Nat → Int) (dd : Int → Int) : Prop :=
  (∀ i : Nat, i < cnt → mCv X 0 (po i) ∧ 0 ≤ dd (po i) ∧ (∃ n, mCq X 0 n (po i) (dd (po i))) ∧ ¬ xz X 0 (po i)) ∧
  (∀ i j : Nat, i < j → j < cnt → po i ≠ po j) ∧
  (∀ (n : Nat) (s L : Int), mCq X 0 n s L → L < N → ∃ i : Nat, i < cnt ∧ po i = s ∧ dd s ≤ L) ∧
  (∀ (n : Nat) (s L : Int), mCq X 0 n s L → xz X 0 s → N ≤ L) ∧ mOr cnt po dd
def jM (X : aM) (cnt : Nat) (po : Nat → Int) (dd : Int → Int) (m : aM) : Prop := mTq X 0 m ∧ m 80 16 = (cnt : Int) ∧ ∀ i : Nat, i < cnt → m 102 i = po i ∧ m 103 (po i).toNat = dd (po i)
theorem jF_of {X : aM} {r : Int × aM} (hv : mTv X) (h : mJo X 0 r) : ∃ (cnt : Nat) (po : Nat → Int) (dd : Int → Int), jF X r.1 cnt po dd ∧ cnt ≤ 471 ∧ (∀ i : Nat, i < cnt → dd (po i) ≤ 100000) ∧ jM X cnt po dd r.2 ∧ -1 ≤ r.1 ∧ (r.1 ≠ -1 → ∃ n s, mCq X 0 n s r.1 ∧ xz X 0 s) := by
  obtain ⟨l, cnt, po, dd, m0, l0, jm, ord, h⟩ := h
  have jm' := jm
  obtain ⟨b1, b2, b3, b4, b5, b6, b7, b8, b9, b10⟩ := jm
  have c471 : cnt ≤ 471 := by
    refine Nat.not_lt.mp (fun lt => ?_)
    obtain ⟨i, j, h1, h2, h3⟩ := pigeon 471 po (fun i hi => by
      have := mCv_0 hv (b3 i (by omega)).1
      omega)
    exact b4 i j h1 (by omega) h3
  have dN : ∀ i : Nat, i < cnt → dd (po i) ≤ 100000 := fun i hi => by
    have := (b3 i hi).2.2.1
    omega
  rcases h with ⟨e, -⟩ | ⟨s, z, pp, la, e⟩
  · have e1 : r.1 = -1 := by rw [e]
    have e2 : r.2 = m0 := by rw [e]
    rw [e1, e2]
    refine ⟨cnt, po, dd, ⟨fun i hi => ?_, b4, fun n s L q lt => ?_, fun n s L q g => ?_, ord⟩, c471, dN, ⟨b1, (b10 rfl).1, (b10 rfl).2⟩, by omega, fun g => absurd rfl g⟩
    · obtain ⟨x1, x2, x3, x4⟩ := b3 i hi
      exact ⟨x1, x3.1, x4, b9 i hi⟩
    · have := (mCq_v hv mM0 q).2
      omega
    · have := (mCq_v hv mM0 q).2
      omega
  obtain ⟨sv, sl, ⟨n, sq⟩, sn⟩ := mJ_pop hv mM0 l0 jm' pp z
  have no : ∀ s, mCv X 0 s → mSn m0 s → ¬ xz X 0 s := by
    intro s hs k
    obtain ⟨i, i1, i2⟩ := b5 s hs k
    have := b9 i i1
    rw [i2] at this
    exact this
  rw [e]
  refine ⟨cnt, po, dd, ⟨fun i hi => ?_, b4, fun n s L q lt => ?_, fun n s L q g => ?_, ord⟩, c471, dN, ⟨mTq_fr (fun q i a b c d e => pp.2.2.2.1 q i a b (by omega)) b1, ?_, fun i hi => ?_⟩, by omega, fun _ => ⟨n, s, sq, la⟩⟩
  · obtain ⟨x1, x2, x3, x4⟩ := b3 i hi
    exact ⟨x1, x3.1, x4, b9 i hi⟩
  · obtain ⟨g1, g2⟩ := mJ_all hv mM0 jm' n s L q lt
    obtain ⟨i, i1, i2⟩ := b5 s (mCq_v hv mM0 q).1 g1
    exact ⟨i, i1, i2, g2⟩
  · refine Int.not_lt.mp (fun lt => ?_)
    have k := mJ_all hv mM0 jm' n s L q lt
    exact no s (mCq_v hv mM0 q).1 k.1 g
  · have := (b10 rfl).1
    rw [← this]
    exact pp.2.2.2.1 80 16 (by omega) (by omega) (by omega)
  · have := (b10 rfl).2 i hi
    have f102 : r.2 102 i = m0 102 i := pp.2.2.2.1 102 i (by omega) (by omega) (by omega)
    have f103 : r.2 103 (po i).toNat = m0 103 (po i).toNat := pp.2.2.2.1 103 _ (by omega) (by omega) (by omega)
    rw [f102, f103]
    exact this
/-- what leads to an end is seen, at its length -/
theorem jF_at {X : aM} {N : Int} {cnt : Nat} {po : Nat → Int} {dd : Int → Int} (hv : mTv X) (h : jF X N cnt po dd) {n k : Nat} {t L : Int} (q : mCq X 0 n t L) (p : jP X k t (N - L)) (nz : ¬ xz X 0 t) : (∃ i : Nat, i < cnt ∧ po i = t) ∧ dd t = L ∧ L < N := by
  have lt := jP_pos hv p nz
  obtain ⟨i, i1, i2, i3⟩ := h.2.2.1 n t L q (by omega)
  obtain ⟨n', q'⟩ := (h.1 i i1).2.2.1
  rw [i2] at q'
  obtain ⟨n2, s2, q2, z2⟩ := mCq_P hv q' p
  have := h.2.2.2.1 _ _ _ q2 z2
  exact ⟨⟨i, i1, i2⟩, by omega, by omega⟩
theorem least_ex {P : Nat → Prop} {n : Nat} (h : P n) : ∃ k, P k ∧ ∀ j, j < k → ¬ P j := by
  induction n using Nat.strongRecOn with
  | ind n ih =>
    by_cases c : ∃ j, j < n ∧ P j
    · obtain ⟨j, j1, j2⟩ := c
      exact ih j j1 j2
    · exact ⟨n, h, fun j hj pj => c ⟨j, hj, pj⟩⟩
/-- from a state to another -/
def jW (X : aM) : Nat → Int → Int → Int → Prop
  | 0, t, s, d => t = s ∧ d = 0
  | n + 1, t, s, d => ∃ u d' c, jW X n t u d' ∧ mCu X 0 u c s ∧ d = d' + c
theorem jW_cut {X : aM} : ∀ {k : Nat} {s L : Int}, mCq X 0 k s L → ∀ i, i ≤ k → ∃ t L', mCq X 0 i t L' ∧ jW X (k - i) t s (L - L') := by
  intro k
  induction k with
  | zero => intro s L h i hi; exact ⟨s, L, by rw [show i = 0 by omega]; exact h, by rw [show 0 - i = 0 by omega]; exact ⟨rfl, by omega⟩⟩
  | succ k ih =>
    intro s L h i hi
    by_cases e : i = k + 1
    · exact ⟨s, L, by rw [e]; exact h, by rw [show k + 1 - i = 0 by omega]; exact ⟨rfl, by omega⟩⟩
    · obtain ⟨t, L1, c, h1, h2, h3⟩ := h
      obtain ⟨u, L', q, w⟩ := ih h1 i (by omega)
      exact ⟨u, L', q, by rw [show k + 1 - i = (k - i) + 1 by omega]; exact ⟨t, L1 - L', c, w, h2, by omega⟩⟩
theorem jW_glue {X : aM} : ∀ {n i : Nat} {t s L d : Int}, mCq X 0 i t L → jW X n t s d → mCq X 0 (i + n) s (L + d) := by
  intro n
  induction n with
  | zero => rintro i t s L d q ⟨rfl, rfl⟩; rw [Int.add_zero]; exact q
  | succ n ih =>
    rintro i t s L d q ⟨u, d', c, h1, h2, rfl⟩
    exact ⟨u, L + d', c, ih q h1, h2, by omega⟩
theorem jN_bd {X : aM} {N : Int} {k0 : Nat} {s0 : Int} (hv : mTv X) (h6 : ∀ w, xa X w → xl X w ≤ 6) (hN : ∀ (n : Nat) (s L : Int), mCq X 0 n s L → xz X 0 s → N ≤ L) (hq : mCq X 0 k0 s0 N) (hz : xz X 0 s0) : N ≤ 2820 := by
  have six : ∀ (k : Nat) (s L : Int), mCq X 0 k s L → L ≤ 6 * k := by
    intro k
    induction k with
    | zero => rintro s L ⟨rfl, -⟩; omega
    | succ k ih =>
      rintro s L ⟨t, L', c, h1, h2, rfl⟩
      have := ih t L' h1
      have c6 : c ≤ 6 := by
        rcases (mCu_ju hv).mp h2 with ⟨k1, k2, w, -, -, -, -, c0, -⟩ | ⟨w, out, kb, v, -, ⟨aw, b, g⟩, nw, c0, -⟩
        · omega
        · have := jC_bd (X := X) (out := out) (v := v) b.1 (hv.2.1 v nw.1).1.1
          have := h6 v nw.1
          omega
      omega
  obtain ⟨k, ⟨s, q, z⟩, lk⟩ := least_ex (P := fun k => ∃ s, mCq X 0 k s N ∧ xz X 0 s) ⟨s0, hq, hz⟩
  have := six k s N q
  refine Int.not_lt.mp (fun big => ?_)
  obtain ⟨f, hf⟩ := Classical.skolem.mp (show ∀ i : Nat, ∃ p : Int × Int, (i ≤ k → mCq X 0 i p.1 p.2 ∧ jW X (k - i) p.1 s (N - p.2)) from fun i => by
    by_cases c : i ≤ k
    · obtain ⟨t, L', a, b⟩ := jW_cut q i c
      exact ⟨(t, L'), fun _ => ⟨a, b⟩⟩
    · exact ⟨(0, 0), fun g => absurd g c⟩)
  obtain ⟨i, j, h1, h2, h3⟩ := pigeon 471 (fun i => (f i).1) (fun i hi => by
    have := mCv_0 hv (mCq_v hv mM0 (hf i (by omega)).1).1
    omega)
  obtain ⟨qi, wi⟩ := hf i (by omega)
  obtain ⟨qj, wj⟩ := hf j (by omega)
  have g1 := jW_glue (h3 ▸ qi) wj
  have g2 := jW_glue (h3 ▸ qj) wi
  have l1 := hN _ _ _ g1 z
  have l2 := hN _ _ _ g2 z
  have e : (f i).2 = (f j).2 := by omega
  rw [e, show (f j).2 + (N - (f j).2) = N by omega] at g1
  exact lk _ (by omega) ⟨s, g1, z⟩
