/-! added: what the reference asks of a candidate -/
/-- words that the class could hold, out of a row alone -/
def yX (A D : Nat → Int) : aM := fun q i => if q = 80 then (if i = 0 then A 18 else if i = 1 then w32 (ishl 1 (A 18) - 1) else 15 - A 140) else if q = 95 then A (19 + i) else if q = 96 then A (45 + i) else if q = 97 then 15 - A (136 + i) else if q = 98 then A (10 + i) else if q = 106 then D i else A (58 + 6 * (q - 82) + i)
theorem yX_b {A D : Nat → Int} (ht : mTok A) : yB A (yX A D) := by
  have c4 := ht.2.2.2.2.1
  have ob := ones_bits (W := A 18) c4.1 (by omega)
  have e1 : yX A D 80 1 = w32 (ishl 1 (A 18) - 1) := rfl
  refine ⟨⟨by rw [e1]; exact ob.1, fun w w0 w1 ne => ?_⟩, rfl, rfl, fun x x0 x1 => ?_, fun k k0 k1 => ?_, fun w w0 w1 => ⟨?_, ?_, fun k k0 k1 => ?_⟩⟩
  · rw [e1, ob.2, decide_eq_true_eq]; omega
  · show A (10 + x.toNat) = _
    rw [show 10 + x.toNat = (10 + x).toNat by omega]
  · show 15 - A (136 + k.toNat) = _
    rw [show 136 + k.toNat = (136 + k).toNat by omega]
  · show A (45 + w.toNat) = _
    rw [show 45 + w.toNat = (45 + w).toNat by omega]
  · show A (19 + w.toNat) = _
    rw [show 19 + w.toNat = (19 + w).toNat by omega]
  · unfold yX
    have dl := (ht.2.2.2.2.2.1 w w0 w1).1
    rw [if_neg (by omega), if_neg (by omega), if_neg (by omega), if_neg (by omega), if_neg (by omega), if_neg (by omega), show 58 + 6 * (82 + w.toNat - 82) + k.toNat = (58 + 6 * w + k).toNat by omega]
theorem yO_sur {A D A1 : Nat → Int} {kd n M : Int} (ht : mTok A) (hM : mM3 M) (n1 : 1 ≤ n ∧ n ≤ 6) (k1 : 0 ≤ kd ∧ kd ≤ 3) (hD : ∀ k : Int, 0 ≤ k → k < n → 0 ≤ D k.toNat ∧ D k.toNat < 8) (h1 : yO A A1 kd n D) : mSur A1 0 M 0 ↔ ∀ A2, yO A A2 kd n D → mSur A2 0 M 0 := by
  obtain ⟨r, -, -, q, -⟩ := os_ok (kd := kd) (n := n) (M := M) (x := 106) (m := yX A D) ht (yX_b ht) hM n1 k1 (by rw [show aln 106 = 40 by decide]; omega) (by omega) hD
  have q' : ∀ A2, yO A A2 kd n D → (r.1 = -1 ↔ mSur A2 0 M 0) := q
  exact ⟨fun g A2 h2 => (q' A2 h2).mp ((q' A1 h1).mpr g), fun g => g A1 h1⟩
/-- the row holds A, and behind its words one of n sounds D -/
def yRw (A D R : Nat → Int) (n : Int) : Prop := (∀ i : Nat, i < 155 → 19 + A 18 ≠ i → 45 + A 18 ≠ i → ¬(58 + 6 * A 18 ≤ i ∧ (i : Int) < 64 + 6 * A 18) → R i = A i) ∧ R (19 + A 18).toNat = n ∧ ∀ k : Int, 0 ≤ k → k < n → R (58 + 6 * A 18 + k).toNat = D k.toNat ∧ 0 ≤ D k.toNat ∧ D k.toNat < 8
theorem isThere_a {A D : Nat → Int} {n : Int} {m : aM} (ht : mTok A) (h : yRw A D (m 177) n) (n0 : 1 ≤ n ∧ n ≤ 6) : mOk (R_isThere (A 18) m) (fun r => (r = 1 ∧ yE A D n) ∨ (r = 0 ∧ ¬ yE A D n)) := by
  have c4 := ht.2.2.2.2.1
  obtain ⟨h1, h2, h3⟩ := h
  have e18 : m 177 18 = A 18 := h1 18 (by omega) (by omega) (by omega) (by omega)
  have l : ∀ v : Int, 0 ≤ v → v < A 18 → m 177 (19 + v).toNat = A (19 + v).toNat := fun v a b => h1 _ (by omega) (by omega) (by omega) (by omega)
  have sd : ∀ v j : Int, 0 ≤ v → v < A 18 → 0 ≤ j → j < 6 → m 177 (58 + 6 * v + j).toNat = A (58 + 6 * v + j).toNat := fun v j a b c d => h1 _ (by omega) (by omega) (by omega) (by omega)
  have key : ∀ v, 0 ≤ v → v < A 18 → (mTwi (m 177) (A 18) v ↔ A (19 + v).toNat = n ∧ ∀ k : Int, 0 ≤ k → k < n → D k.toNat = A (58 + 6 * v + k).toNat) := by
    intro v v0 v1
    unfold mTwi
    rw [h2, l v v0 v1]
    constructor
    · rintro ⟨-, b, g⟩
      refine ⟨b, fun k k0 k1 => ?_⟩
      have := g k k0 k1
      rw [sd v k v0 v1 k0 (by omega), (h3 k k0 k1).1] at this
      exact this.symm
    · rintro ⟨b, g⟩
      refine ⟨by omega, b, fun k k0 k1 => ?_⟩
      rw [sd v k v0 v1 k0 (by omega), (h3 k k0 k1).1]
      exact (g k k0 k1).symm
  refine mOk_mono (isThere_ok (w := A 18) (m := m) (by omega) c4.1 c4.2 (by omega)) (fun r k => ?_)
  rw [e18] at k
  rcases k with ⟨a, v, v0, v1, t⟩ | ⟨a, t⟩
  · exact Or.inl ⟨a, v, ⟨v0, v1⟩, (key v v0 v1).mp t⟩
  · exact Or.inr ⟨a, fun ⟨v, v1, g⟩ => t v v1.1 v1.2 ((key v v1.1 v1.2).mpr g)⟩
theorem isShaped_ok {A D : Nat → Int} {n : Int} {m : aM} (ht : mTok A) (h : yRw A D (m 177) n) (n0 : 1 ≤ n ∧ n ≤ 6) : mOk (R_isShaped (A 18) m) (fun r => (r = 1 ∧ yS A D n) ∨ (r = 0 ∧ ¬ yS A D n)) := by
  have c4 := ht.2.2.2.2.1
  have c9 := ht.2.2.2.2.2.2.2.2.2.1
  obtain ⟨h1, h2, h3⟩ := h
  have e141 : m 177 141 = A 141 := h1 _ (by omega) (by omega) (by omega) (by omega)
  have e9 : m 177 9 = A 9 := h1 _ (by omega) (by omega) (by omega) (by omega)
  have e142 : ∀ s : Int, 0 ≤ s → s < A 141 → m 177 (142 + s).toNat = A (142 + s).toNat := fun s a b => h1 _ (by omega) (by omega) (by omega) (by omega)
  have e148 : ∀ s : Int, 0 ≤ s → s < A 141 → m 177 (148 + s).toNat = A (148 + s).toNat := fun s a b => h1 _ (by omega) (by omega) (by omega) (by omega)
  unfold R_isShaped
  refine mL1 (R_isShaped_2 m (A 18)) (fun s => (0 ≤ s ∧ s ≤ A 141) ∧ ∀ u : Int, 0 ≤ u → u < s → ¬(A (142 + u).toNat = n ∧ ∀ k : Int, 0 ≤ k → k < n → iand (ishr (A (148 + u).toNat) k) 1 = iand (ishr (A 9) (D k.toNat)) 1)) (fun s => (7 - s).toNat) ?_ 0 ⟨by omega, fun u a b => by omega⟩ (by omega)
  rintro fu s ⟨s1, hs⟩ ih
  have i19 : w32 (19 + A 18) = 19 + A 18 := w32e (by omega) (by omega)
  rw [R_isShaped_2, e141]
  by_cases c : s < A 141
  rotate_left
  · rw [if_neg c]
    by_cases z : A 141 = 0
    · rw [if_pos z]; exact mOk_some (Or.inl ⟨rfl, Or.inl z⟩)
    · rw [if_neg z]
      refine mOk_some (Or.inr ⟨rfl, fun g => ?_⟩)
      rcases g with g | ⟨u, u1, u2⟩
      · exact z g
      · exact hs u u1.1 (by omega) u2
  have hit : (A (142 + s).toNat = n ∧ ∀ k : Int, 0 ≤ k → k < n → iand (ishr (A (148 + s).toNat) k) 1 = iand (ishr (A 9) (D k.toNat)) 1) → mOk (R_isShaped_71 m (R_isShaped_2 m (A 18) fu) (A 18) s 1) (fun r => (r = 1 ∧ yS A D n) ∨ (r = 0 ∧ ¬ yS A D n)) := by
    intro g
    unfold R_isShaped_71
    rw [if_neg (by decide)]
    exact mOk_some (Or.inl ⟨rfl, Or.inr ⟨s, ⟨s1.1, c⟩, g⟩⟩)
  have miss : ¬(A (142 + s).toNat = n ∧ ∀ k : Int, 0 ≤ k → k < n → iand (ishr (A (148 + s).toNat) k) 1 = iand (ishr (A 9) (D k.toNat)) 1) → mOk (R_isShaped_71 m (R_isShaped_2 m (A 18) fu) (A 18) s 0) (fun r => (r = 1 ∧ yS A D n) ∨ (r = 0 ∧ ¬ yS A D n)) := by
    intro g
    unfold R_isShaped_71
    rw [if_pos rfl, w32e (by omega) (by omega)]
    refine ih _ ⟨by omega, fun u a b => ?_⟩ (by omega)
    by_cases e : u = s
    · rw [e]; exact g
    · exact hs u a (by omega)
  rw [if_pos c, w32e (x := 142 + s) (by omega) (by omega), if_pos (by omega), i19, if_pos (by omega), e142 s s1.1 c, h2]
  unfold R_isShaped_24
  by_cases l : A (142 + s).toNat = n
  rotate_left
  · rw [if_neg l]
    show mOk (R_isShaped_27 m (R_isShaped_2 m (A 18) fu) (A 18) s (999999 + 1) 0 0) _
    rw [R_isShaped_27, i19, if_pos (by omega), h2, if_pos (by omega), if_pos rfl]
    exact miss (fun g => l g.1)
  rw [if_pos l]
  refine mL2 (R_isShaped_27 m (R_isShaped_2 m (A 18) fu) (A 18) s) (fun is k => (0 ≤ k ∧ k ≤ n) ∧ ((is = 1 ∧ ∀ j : Int, 0 ≤ j → j < k → iand (ishr (A (148 + s).toNat) j) 1 = iand (ishr (A 9) (D j.toNat)) 1) ∨ (is = 0 ∧ ¬(∀ k : Int, 0 ≤ k → k < n → iand (ishr (A (148 + s).toNat) k) 1 = iand (ishr (A 9) (D k.toNat)) 1)))) (fun _ k => (7 - k).toNat) ?_ 1 0 ⟨by omega, Or.inl ⟨rfl, fun j a b => by omega⟩⟩ (by omega)
  rintro fu2 is k ⟨k1, hk⟩ ih2
  rw [R_isShaped_27, i19, if_pos (by omega), h2]
  by_cases d : k < n
  · rw [if_pos d]
    by_cases z : is = 0
    · rw [if_pos z, z]
      exact miss (fun g => (hk.resolve_left (fun q => by omega)).2 g.2)
    rw [if_neg z, w32e (x := 148 + s) (by omega) (by omega), if_pos (by omega), w32e (x := 6 * A 18) (by omega) (by omega), w32e (x := 58 + 6 * A 18) (by omega) (by omega), w32e (x := 58 + 6 * A 18 + k) (by omega) (by omega), if_pos (by omega), e148 s s1.1 c, e9, (h3 k k1.1 d).1]
    unfold R_isShaped_68
    rw [w32e (by omega) (by omega)]
    have hk' := (hk.resolve_right (fun g => z g.1)).2
    by_cases y : iand (ishr (A (148 + s).toNat) k) 1 = iand (ishr (A 9) (D k.toNat)) 1
    · rw [if_pos y]
      refine ih2 _ _ ⟨by omega, Or.inl ⟨rfl, fun j a b => ?_⟩⟩ (by omega)
      by_cases ej : j = k
      · rw [ej]; exact y
      · exact hk' j a (by omega)
    · rw [if_neg y]
      exact ih2 _ _ ⟨by omega, Or.inr ⟨rfl, fun g => y (g k k1.1 d)⟩⟩ (by omega)
  · rw [if_neg d]
    rcases hk with ⟨z, g⟩ | ⟨z, g⟩
    · rw [z]; exact hit ⟨l, fun j a b => g j a (by omega)⟩
    · rw [z]; exact miss (fun q => g q.2)
theorem R_leastUnlike_ok {A D : Nat → Int} {n : Int} {m : aM} (ht : mTok A) (h : yRw A D (m 177) n) (n0 : 1 ≤ n ∧ n ≤ 6) : mOk (R_leastUnlike (A 18) m) (fun r => r.1 = yCost A D n ∧ ∀ q i, q ≠ 181 → r.2 q i = m q i) := by
  have c4 := ht.2.2.2.2.1
  obtain ⟨h1, h2, h3⟩ := h
  unfold R_leastUnlike
  refine mL3 (R_leastUnlike_4 (A 18)) (fun x v mm => (0 ≤ v ∧ v ≤ A 18) ∧ x = yMin (yF A D n) v.toNat ∧ ∀ q i, q ≠ 181 → mm q i = m q i) (fun _ v _ => (13 - v).toNat) ?_ (-1) 0 m ⟨by omega, rfl, fun _ _ _ => rfl⟩ (by omega)
  rintro fu x v mm ⟨v1, ex, fr⟩ ih
  have e177 : mm 177 = m 177 := funext fun i => fr _ _ (by omega)
  rw [R_leastUnlike_4]
  by_cases c : v < A 18
  rotate_left
  · rw [if_neg c]
    refine mOk_some ⟨?_, fr⟩
    dsimp only
    rw [ex, show v = A 18 by omega]; rfl
  have dl := ht.2.2.2.2.2.1 v v1.1 c
  have lv : m 177 (19 + v).toNat = A (19 + v).toNat := h1 _ (by omega) (by omega) (by omega) (by omega)
  rw [if_pos c]
  refine mOk_bind (unlikeOf_ok (w := A 18) (v := v) (m := mm) c4.1 (by omega) v1.1 (by omega) (by rw [e177, h2]; omega) (by rw [e177, h2]; omega) (by rw [e177, lv]; omega) (by rw [e177, lv]; omega) (fun k a b => by rw [e177] at b ⊢; rw [h2] at b; rw [(h3 k a b).1]; exact (h3 k a b).2)) (fun r kr => ?_)
  obtain ⟨k1, k2⟩ := kr
  have er : r.1 = yF A D n v := by
    rw [k1, e177, h2, lv]
    refine mEd_congr (fun i j hi hj => ?_) _ _ (Nat.le_refl _) (Nat.le_refl _)
    obtain ⟨g1, g2, g3⟩ := h3 i (by omega) (by omega)
    rw [Int.toNat_natCast] at g1 g2 g3
    rw [g1, h1 (58 + 6 * v + (j : Int)).toNat (by omega) (by omega) (by omega) (by omega)]
    unfold mSub
    rw [h1 (10 + D i).toNat (by omega) (by omega) (by omega) (by omega)]
  have fr2 : ∀ q i, q ≠ 181 → r.2 q i = m q i := fun q i a => by rw [k2 q i a]; exact fr q i a
  have es := yMin_s (f := yF A D n) v1.1
  rw [← ex] at es
  unfold R_leastUnlike_18 R_leastUnlike_21
  rw [w32e (by omega) (by omega), er]
  by_cases d : x = -1
  · rw [if_pos d]
    rw [if_pos (Or.inl d)] at es
    exact ih _ _ _ ⟨by omega, es.symm, fr2⟩ (by omega)
  · rw [if_neg d]
    by_cases e : yF A D n v < x
    · rw [if_pos e]
      rw [if_pos (Or.inr e)] at es
      exact ih _ _ _ ⟨by omega, es.symm, fr2⟩ (by omega)
    · rw [if_neg e]
      rw [if_neg (by omega)] at es
      exact ih _ _ _ ⟨by omega, es.symm, fr2⟩ (by omega)
