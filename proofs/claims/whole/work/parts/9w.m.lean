/-! changed: the class's -/
def yCC (A : Nat → Int) (w k s : Int) : Prop := yCh (fun w k s => ∀ A', mAeqT A A' → yQ A' w k s) (fun w k s => ∀ A', mAeqT A A' → ¬ yQ A' w k s) A w k s
def yCR (A : Nat → Int) (w k s : Int) : Prop := yCh (yQ A) (fun w k s => ¬ yQ A w k s) A w k s
theorem findChange_ok {m : aM} (ht : mTok (m 177)) (hr : mTR 25 47 (m 177) m) (c : m 79 11 = 0) : mOk (Mender_findChange m) (fun mm => yCC (m 177) (mm 79 12) (mm 79 13) (mm 79 14) ∧ mm 79 11 = 1 ∧ ∀ q i, ¬(80 ≤ q ∧ q ≤ 106) → ¬(q = 79 ∧ (11 ≤ i ∧ i ≤ 14)) → mm q i = m q i) := by
  have c0 := ht.1
  have c4 := ht.2.2.2.2.1
  have c5 := ht.2.2.2.2.2.1
  unfold Mender_findChange
  rw [if_pos c, st1e, st1e, st1e, st1e]
  have f0 : ∀ q i, ¬(q = 79 ∧ (11 ≤ i ∧ i ≤ 14)) → aup (aup (aup (aup m 79 11 1) 79 12 (-1)) 79 13 (-1)) 79 14 (-1) q i = m q i := fun q i a => by rw [aup_of (by omega), aup_of (by omega), aup_of (by omega), aup_of (by omega)]
  have v11 : aup (aup (aup (aup m 79 11 1) 79 12 (-1)) 79 13 (-1)) 79 14 (-1) 79 11 = 1 := by rw [aup_of (by omega), aup_of (by omega), aup_of (by omega), aup_self]
  have v12 : aup (aup (aup (aup m 79 11 1) 79 12 (-1)) 79 13 (-1)) 79 14 (-1) 79 12 = -1 := by rw [aup_of (by omega), aup_of (by omega), aup_self]
  have v13 : aup (aup (aup (aup m 79 11 1) 79 12 (-1)) 79 13 (-1)) 79 14 (-1) 79 13 = -1 := by rw [aup_of (by omega), aup_self]
  have v14 : aup (aup (aup (aup m 79 11 1) 79 12 (-1)) 79 13 (-1)) 79 14 (-1) 79 14 = -1 := by rw [aup_self]
  generalize aup (aup (aup (aup m 79 11 1) 79 12 (-1)) 79 13 (-1)) 79 14 (-1) = m5 at f0 v11 v12 v13 v14 ⊢
  refine mOk_bind (load_ok (m := m5) (A := m 177) ht (mTR_same (fun q j hq => f0 q j (by omega)) hr c4.2)) (fun X kX => ?_)
  obtain ⟨ld, fl⟩ := kX
  have fX : ∀ q i, ¬(80 ≤ q ∧ q ≤ 106) → ¬(q = 79 ∧ (11 ≤ i ∧ i ≤ 14)) → X q i = m q i := fun q i a b => by rw [fl q i (by omega) (by omega)]; exact f0 q i b
  have x79 : ∀ i, X 79 i = m5 79 i := fun i => fl _ _ (by omega) (by omega)
  -- the tongue in a memory that kept it
  have tr : ∀ (mm : aM) (w k : Int), (∀ q i, ¬(99 ≤ q ∧ q ≤ 103) → ¬(q = 80 ∧ 9 ≤ i) → q ≠ 106 → ¬(q = 82 + w.toNat ∧ i = k.toNat) → mm q i = X q i) → 0 ≤ w → mTR 25 47 (m 177) mm := fun mm w k fr w0 => mTR_same (fun q j hq => by rw [fr q j (by omega) (by omega) (by omega) (by omega)]; exact fX q j (by omega) (by omega)) hr c4.2
  refine mL2 Mender_findChange_24 (fun w mm => (0 ≤ w ∧ w ≤ m 177 18) ∧ (∀ w' k' s', yV (m 177) w' k' s' → w' < w → ∀ A', mAeqT (m 177) A' → ¬ yQ A' w' k' s') ∧ ∀ q i, ¬(99 ≤ q ∧ q ≤ 103) → ¬(q = 80 ∧ 9 ≤ i) → q ≠ 106 → mm q i = X q i) (fun w _ => (13 - w).toNat) ?_ 0 X ⟨by omega, fun w' k' s' g l => by have := g.1.1; omega, fun _ _ _ _ _ => rfl⟩ (by omega)
  rintro fu w mm ⟨w1, hw, fr⟩ ih
  have e2 : mm 25 2 = m 177 18 := by rw [fr _ _ (by omega) (by omega) (by omega), fX _ _ (by omega) (by omega)]; exact hr.1.2.2.1
  rw [Mender_findChange_24, e2]
  by_cases d : w < m 177 18
  rotate_left
  · rw [if_neg d]
    have e79 : ∀ i, mm 79 i = m5 79 i := fun i => by rw [fr _ _ (by omega) (by omega) (by omega)]; exact x79 i
    refine mOk_some ⟨?_, by rw [e79]; exact v11, fun q i a b => by rw [fr q i (by omega) (by omega) (by omega)]; exact fX q i a b⟩
    rw [e79, e79, e79, v12, v13, v14]
    exact Or.inl ⟨⟨rfl, rfl, rfl⟩, fun w' k' s' g => hw w' k' s' g (by have := g.1.2; omega)⟩
  rw [if_pos d]
  have dl := (c5 w w1.1 d).1
  refine mL2 (Mender_findChange_31 (Mender_findChange_24 fu) w) (fun k mm => (0 ≤ k ∧ k ≤ m 177 (19 + w).toNat) ∧ (∀ w' k' s', yV (m 177) w' k' s' → (w' < w ∨ (w' = w ∧ k' < k)) → ∀ A', mAeqT (m 177) A' → ¬ yQ A' w' k' s') ∧ ∀ q i, ¬(99 ≤ q ∧ q ≤ 103) → ¬(q = 80 ∧ 9 ≤ i) → q ≠ 106 → mm q i = X q i) (fun k _ => (7 - k).toNat) ?_ 0 mm ⟨by omega, fun w' k' s' g l => hw w' k' s' g (by have := g.2.1.1; omega), fr⟩ (by omega)
  clear hw fr e2 mm
  rintro fu2 k mm ⟨k1, hw, fr⟩ ih2
  have e41 : mm 41 w.toNat = m 177 (19 + w).toNat := by rw [fr _ _ (by omega) (by omega) (by omega), fX _ _ (by omega) (by omega)]; exact (hr.2.2.2.1 w w1.1 d).1
  rw [Mender_findChange_31, if_pos (by omega), e41]
  by_cases e : k < m 177 (19 + w).toNat
  rotate_left
  · rw [if_neg e, w32e (by omega) (by omega)]
    exact ih _ _ ⟨by omega, fun w' k' s' g l => hw w' k' s' g (by
      by_cases z : w' = w
      · have := g.2.1.2; rw [z] at this; omega
      · omega), fr⟩ (by omega)
  rw [if_pos e]
  refine mL2 (Mender_findChange_40 (Mender_findChange_24 fu) (Mender_findChange_31 (Mender_findChange_24 fu) w fu2) w k) (fun s mm => (0 ≤ s ∧ s ≤ m 177 0) ∧ (∀ w' k' s', yV (m 177) w' k' s' → yL w' k' s' w k s → ∀ A', mAeqT (m 177) A' → ¬ yQ A' w' k' s') ∧ ∀ q i, ¬(99 ≤ q ∧ q ≤ 103) → ¬(q = 80 ∧ 9 ≤ i) → q ≠ 106 → ¬(q = 82 + w.toNat ∧ i = k.toNat) → mm q i = X q i) (fun s _ => (9 - s).toNat) ?_ 0 mm ⟨by omega, fun w' k' s' g l => hw w' k' s' g (by have := g.2.2.1; unfold yL at l; omega), fun q i a b c _ => fr q i a b c⟩ (by omega)
  clear hw fr e41 mm
  rintro fu3 s mm ⟨s1, hw, fr⟩ ih3
  have tm := tr mm w k fr w1.1
  rw [Mender_findChange_40, tm.1.2.1]
  unfold Mender_findChange_73
  by_cases g : s < m 177 0
  rotate_left
  · have esp : mm (25 + 4 + w.toNat) k.toNat = m 177 (58 + 6 * w + k).toNat := (tm.2.2.2.1 w w1.1 d).2.2.2 k k1.1 e
    have sd := (c5 w w1.1 d).2.2.2 k k1.1 e
    rw [if_neg g, if_pos (by omega), if_pos (by omega), esp]
    unfold Twins_putSound
    rw [if_pos (by omega), if_pos (by omega), st1e, Option.bind_some, w88 sd.1 (by omega), w32e (by omega) (by omega)]
    refine ih2 _ _ ⟨by omega, fun w' k' s' g' l => hw w' k' s' g' (by have := g'.2.2.2; unfold yL; omega), fun q i a b c' => ?_⟩ (by omega)
    by_cases z : q = 82 + w.toNat ∧ i = k.toNat
    · rw [z.1, z.2, aup_self]
      exact ((ld.2.2.2.2.2 w w1.1 d).2.1 k k1.1 e).symm
    · rw [aup_of (by omega)]; exact fr q i a b c' z
  have yv : yV (m 177) w k s := ⟨⟨w1.1, d⟩, ⟨k1.1, e⟩, ⟨s1.1, g⟩⟩
  rw [if_pos g, w32e (x := s + 1) (by omega) (by omega)]
  refine mOk_bind (isThereWith_ok ht tm yv) (fun r kr => ?_)
  obtain ⟨kr, fr2⟩ := kr
  have nxt : ∀ mm', (∀ q i, ¬(99 ≤ q ∧ q ≤ 103) → ¬(q = 80 ∧ 9 ≤ i) → q ≠ 106 → ¬(q = 82 + w.toNat ∧ i = k.toNat) → mm' q i = X q i) → (∀ A', mAeqT (m 177) A' → ¬ yQ A' w k s) → mOk (Mender_findChange_40 (Mender_findChange_24 fu) (Mender_findChange_31 (Mender_findChange_24 fu) w fu2) w k fu3 (s + 1) mm') (fun mm => yCC (m 177) (mm 79 12) (mm 79 13) (mm 79 14) ∧ mm 79 11 = 1 ∧ ∀ q i, ¬(80 ≤ q ∧ q ≤ 106) → ¬(q = 79 ∧ (11 ≤ i ∧ i ≤ 14)) → mm q i = m q i) := by
    intro mm' fr' no
    refine ih3 _ _ ⟨by omega, fun w' k' s' g' l => ?_, fr'⟩ (by omega)
    by_cases z : w' = w ∧ k' = k ∧ s' = s
    · rw [z.1, z.2.1, z.2.2]; exact no
    · exact hw w' k' s' g' (by unfold yL at *; omega)
  rcases kr with ⟨kr, t⟩ | ⟨kr, t⟩
  · rw [if_neg (by omega)]
    exact nxt _ (fun q i a b c' z => by rw [fr2 q i c']; exact fr q i a b c' z) (fun A' ha n => n.1 ((yT_T ht ha w1.1 d).mp t))
  rw [if_pos kr]
  unfold Twins_putSound
  rw [if_pos (by omega), if_pos (by omega), st1e, Option.bind_some, w88 s1.1 (by omega)]
  have f3 : ∀ q i, ¬(99 ≤ q ∧ q ≤ 103) → ¬(q = 80 ∧ 9 ≤ i) → q ≠ 106 → ¬(q = 82 + w.toNat ∧ i = k.toNat) → aup r.2 (82 + w.toNat) k.toNat s q i = X q i := fun q i a b c' z => by rw [aup_of (by omega), fr2 q i c']; exact fr q i a b c' z
  have v3 : aup r.2 (82 + w.toNat) k.toNat s (82 + w.toNat) k.toNat = s := aup_self _ _ _ _
  generalize aup r.2 (82 + w.toNat) k.toNat s = m3 at f3 v3 ⊢
  have lv3 : ∀ A', mAeqT (m 177) A' → mVx (yU A' w k s) ∧ mLv (yU A' w k s) m3 := fun A' ha => by
    have wA : 0 ≤ w ∧ w < A' 18 := by rw [ha.w c4.1]; omega
    exact ⟨yVx (mVx_of ht ha) wA (by omega) (by omega), yLv (mVx_of ht ha) (lv_of ht ha ld) wA (by omega) (fun q i a b => f3 q i (by omega) (by omega) (by omega) b) v3⟩
  refine mOk_bind (shv_ok (lv3 _ (mAeqT.refl _)).1 (lv3 _ (mAeqT.refl _)).2 (Or.inl rfl)) (fun r2 k2 => ?_)
  obtain ⟨ft, an⟩ := k2
  have f4 : ∀ q i, ¬(99 ≤ q ∧ q ≤ 103) → ¬(q = 80 ∧ 9 ≤ i) → q ≠ 106 → ¬(q = 82 + w.toNat ∧ i = k.toNat) → r2.2 q i = X q i := fun q i a b c' z => by rw [ft q i a (by omega)]; exact f3 q i a b c' z
  by_cases u : r2.1 = -1
  rotate_left
  · rw [if_neg u]
    exact nxt _ f4 (fun A' ha n => u ((an _ (lv3 A' ha).1 (lv3 A' ha).2).mpr n.2))
  rw [if_pos u, st1e, st1e, st1e]
  have f5 : ∀ q i, ¬(q = 79 ∧ (12 ≤ i ∧ i ≤ 14)) → aup (aup (aup r2.2 79 12 w) 79 13 k) 79 14 s q i = r2.2 q i := fun q i a => by rw [aup_of (by omega), aup_of (by omega), aup_of (by omega)]
  have w12 : aup (aup (aup r2.2 79 12 w) 79 13 k) 79 14 s 79 12 = w := by rw [aup_of (by omega), aup_of (by omega), aup_self]
  have w13 : aup (aup (aup r2.2 79 12 w) 79 13 k) 79 14 s 79 13 = k := by rw [aup_of (by omega), aup_self]
  have w14 : aup (aup (aup r2.2 79 12 w) 79 13 k) 79 14 s 79 14 = s := by rw [aup_self]
  refine mOk_some ⟨?_, ?_, fun q i a b => ?_⟩
  · rw [w12, w13, w14]
    exact Or.inr ⟨yv, fun A' ha => ⟨fun t' => t ((yT_T ht ha w1.1 d).mpr t'), (an _ (lv3 A' ha).1 (lv3 A' ha).2).mp u⟩, hw⟩
  · rw [f5 _ _ (by omega), f4 _ _ (by omega) (by omega) (by omega) (by omega), x79]; exact v11
  · rw [f5 _ _ (by omega), f4 _ _ (by omega) (by omega) (by omega) (by omega)]; exact fX q i a b
/-! the reference's -/
theorem yT_ref {A : Nat → Int} {w k s : Int} (hA : mVx A) (w0 : 0 ≤ w ∧ w < A 18) (k0 : 0 ≤ k ∧ k < A (19 + w).toNat) (ne : s ≠ A (58 + 6 * w + k).toNat) : yT A w k s ↔ ∃ v, 0 ≤ v ∧ v < A 18 ∧ mTwi (yU A w k s) w v := by
  have dl := (hA.2.1 w w0.1 w0.2).1
  have a1 := hA.1
  have e : ∀ i : Nat, i ≠ (58 + 6 * w + k).toNat → yU A w k s i = A i := fun i a => if_neg a
  have es : ∀ j : Int, 0 ≤ j → j < 6 → yU A w k s (58 + 6 * w + j).toNat = if j = k then s else A (58 + 6 * w + j).toNat := fun j a b => by
    by_cases c : j = k
    · rw [if_pos c, c]; exact if_pos rfl
    · rw [if_neg c]; exact e _ (by omega)
  unfold yT mTwi
  constructor
  · rintro ⟨v, v1, l, g⟩
    have nv : v ≠ w := by
      intro ev
      have := g k k0.1 k0.2
      rw [if_pos rfl, ev] at this
      exact ne this
    refine ⟨v, v1.1, v1.2, nv, by rw [e _ (by omega), e _ (by omega)]; exact l, fun j j0 j1 => ?_⟩
    rw [e _ (by omega)] at j1
    rw [es j j0 (by omega), e _ (by omega)]
    exact (g j j0 j1).symm
  · rintro ⟨v, v0, v1, nv, l, g⟩
    rw [e _ (by omega), e _ (by omega)] at l
    refine ⟨v, ⟨v0, v1⟩, l, fun j j0 j1 => ?_⟩
    have := g j j0 (by rw [e _ (by omega)]; exact j1)
    rw [es j j0 (by omega), e _ (by omega)] at this
    exact this.symm
