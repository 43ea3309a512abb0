/-! THE CLASS'S SEARCH: states, and a word that meets another -/
def xa (X : aM) (w : Int) : Prop := 0 ≤ w ∧ w < 13 ∧ (X 80 1).toNat.testBit w.toNat = true
def xl (X : aM) (w : Int) : Int := X 95 w.toNat
def xk (X : aM) (w : Int) : Int := X 96 w.toNat
def xs (X : aM) (w k : Int) : Int := X (82 + w.toNat) k.toNat
def xf (X : aM) (k w : Int) : Prop := iand (ishr (X 97 k.toNat) (X 96 w.toNat)) 1 ≠ 0
def xi (X : aM) (x y : Int) : Prop := iand (ishr (X 98 x.toNat) y) 1 ≠ 0
def xc (X : aM) (x y : Int) : Prop := iand (X 98 x.toNat) (X 98 y.toNat) ≠ 0
def xe (X : aM) (k : Int) : Prop := iand (ishr (X 80 2) k) 1 ≠ 0
def mTv (X : aM) : Prop := (0 ≤ X 80 1 ∧ X 80 1 < 8192) ∧ (∀ w, xa X w → (1 ≤ xl X w ∧ xl X w ≤ 7) ∧ (0 ≤ xk X w ∧ xk X w ≤ 3) ∧ ∀ k : Int, 0 ≤ k → k < xl X w → 0 ≤ xs X w k ∧ xs X w k ≤ 8) ∧ (∀ k : Int, 0 ≤ k → k < 4 → 0 ≤ X 97 k.toNat ∧ X 97 k.toNat ≤ 15) ∧ (0 ≤ X 80 2 ∧ X 80 2 ≤ 15)
/-- m has the words of X -/
def mTq (X : aM) (M : Int) (m : aM) : Prop := m 80 1 = X 80 1 ∧ m 80 2 = X 80 2 ∧ (∀ q i, 82 ≤ q → q ≤ 98 → m q i = X q i) ∧ m 80 9 = M ∧ m 80 10 = (M + 1) * (M + 1) ∧ m 80 11 = (471 * ((M + 1) * (M + 1)) + 63) / 64 ∧ ∀ k : Int, 0 ≤ k → k < 4 → (0 ≤ m 99 k.toNat ∧ m 99 k.toNat < 8192) ∧ ∀ w : Int, 0 ≤ w → w < 13 → ((m 99 k.toNat).toNat.testBit w.toNat = true ↔ xa X w ∧ xf X k w)
def mEv (M k1 k2 e f : Int) : Int := (4 * k1 + k2) * ((M + 1) * (M + 1)) + (e * (M + 1) + f)
def mOd (M w out kb e f : Int) : Int := (16 + (7 * w + out - 1) * 5 + kb) * ((M + 1) * (M + 1)) + (e * (M + 1) + f)
def mM3 (M : Int) : Prop := M = 0 ∨ M = 1 ∨ M = 2
theorem mEv_bd {M k1 k2 e f : Int} (hM : mM3 M) (a : 0 ≤ k1 ∧ k1 ≤ 3) (b : 0 ≤ k2 ∧ k2 ≤ 3) (c : 0 ≤ e ∧ e ≤ M) (d : 0 ≤ f ∧ f ≤ M) : 0 ≤ mEv M k1 k2 e f ∧ mEv M k1 k2 e f < 16 * ((M + 1) * (M + 1)) := by
  unfold mEv
  rcases hM with rfl | rfl | rfl <;> omega
theorem mOd_bd {M w out kb e f : Int} (hM : mM3 M) (a : 0 ≤ w ∧ w < 13) (b : 1 ≤ out ∧ out ≤ 7) (g : 0 ≤ kb ∧ kb ≤ 4) (c : 0 ≤ e ∧ e ≤ M) (d : 0 ≤ f ∧ f ≤ M) : 16 * ((M + 1) * (M + 1)) ≤ mOd M w out kb e f ∧ mOd M w out kb e f < 471 * ((M + 1) * (M + 1)) := by
  unfold mOd
  rcases hM with rfl | rfl | rfl <;> omega
theorem mC_bd {M : Int} (hM : mM3 M) : 1 ≤ (M + 1) * (M + 1) ∧ (M + 1) * (M + 1) ≤ 9 := by
  rcases hM with rfl | rfl | rfl <;> omega
theorem mEv_dec {M k1 k2 e f : Int} (hM : mM3 M) (a : 0 ≤ k1 ∧ k1 ≤ 3) (b : 0 ≤ k2 ∧ k2 ≤ 3) (c : 0 ≤ e ∧ e ≤ M) (d : 0 ≤ f ∧ f ≤ M) : mEv M k1 k2 e f / ((M + 1) * (M + 1)) = 4 * k1 + k2 ∧ mEv M k1 k2 e f % ((M + 1) * (M + 1)) = e * (M + 1) + f ∧ (e * (M + 1) + f) / (M + 1) = e ∧ (e * (M + 1) + f) % (M + 1) = f := by
  unfold mEv
  rcases hM with rfl | rfl | rfl <;> omega
theorem mOd_dec {M w out kb e f : Int} (hM : mM3 M) (a : 0 ≤ w ∧ w < 13) (b : 1 ≤ out ∧ out ≤ 7) (g : 0 ≤ kb ∧ kb ≤ 4) (c : 0 ≤ e ∧ e ≤ M) (d : 0 ≤ f ∧ f ≤ M) : mOd M w out kb e f / ((M + 1) * (M + 1)) = 16 + (7 * w + out - 1) * 5 + kb ∧ mOd M w out kb e f % ((M + 1) * (M + 1)) = e * (M + 1) + f ∧ (e * (M + 1) + f) / (M + 1) = e ∧ (e * (M + 1) + f) % (M + 1) = f := by
  unfold mOd
  rcases hM with rfl | rfl | rfl <;> omega
theorem wordOut_eq {M w out kb e f : Int} {m : aM} (hM : mM3 M) (h10 : m 80 10 = (M + 1) * (M + 1)) (a : 0 ≤ w ∧ w < 13) (b : 1 ≤ out ∧ out ≤ 7) (g : 0 ≤ kb ∧ kb ≤ 4) (c : 0 ≤ e ∧ e ≤ M) (d : 0 ≤ f ∧ f ≤ M) : Twins_wordOut (mOd M w out kb e f) m = some w ∧ Twins_lengthOut (mOd M w out kb e f) m = some out ∧ Twins_kindBehind (mOd M w out kb e f) m = some kb := by
  have bd := mOd_bd hM a b g c d
  have cb := mC_bd hM
  obtain ⟨d1, -, -, -⟩ := mOd_dec hM a b g c d
  unfold Twins_wordOut Twins_lengthOut Twins_kindBehind
  rw [h10, if_pos (by omega), if_pos (by omega), if_pos (by omega), tdiv_nn (a := mOd M w out kb e f) (by omega), d1, w32e (x := 16 + (7 * w + out - 1) * 5 + kb) (by omega) (by omega), w32e (x := 16 + (7 * w + out - 1) * 5 + kb - 16) (by omega) (by omega), tdiv_nn (b := 35) (by omega), tdiv_nn (b := 5) (by omega), tmod_nn (b := 5) (by omega), w32e (x := (16 + (7 * w + out - 1) * 5 + kb - 16) / 35) (by omega) (by omega), w32e (x := (16 + (7 * w + out - 1) * 5 + kb - 16) / 5) (by omega) (by omega), tmod_nn (b := 7) (by omega), w32e (by omega) (by omega)]
  refine ⟨?_, ?_, ?_⟩
  · congr 1; omega
  · congr 1; omega
  · congr 1; omega
theorem oddState_eq {M w out kb e f : Int} {m : aM} (hM : mM3 M) (h10 : m 80 10 = (M + 1) * (M + 1)) (a : 0 ≤ w ∧ w < 13) (b : 1 ≤ out ∧ out ≤ 7) (g : 0 ≤ kb ∧ kb ≤ 4) (c : 0 ≤ e ∧ e ≤ M) (d : 0 ≤ f ∧ f ≤ M) : Twins_oddState w out kb (e * (M + 1) + f) m = some (mOd M w out kb e f) := by
  have bd := mOd_bd hM a b g c d
  unfold mOd at *
  unfold Twins_oddState
  rw [h10, w32e (x := w * 7) (by omega) (by omega), w32e (x := w * 7 + out) (by omega) (by omega), w32e (x := w * 7 + out - 1) (by omega) (by omega), w32e (x := (w * 7 + out - 1) * 5) (by omega) (by omega), w32e (x := 16 + (w * 7 + out - 1) * 5) (by omega) (by omega), w32e (x := 16 + (w * 7 + out - 1) * 5 + kb) (by omega) (by omega), show 16 + (w * 7 + out - 1) * 5 + kb = 16 + (7 * w + out - 1) * 5 + kb by omega]
  have hp : 0 ≤ (16 + (7 * w + out - 1) * 5 + kb) * ((M + 1) * (M + 1)) ∧ (16 + (7 * w + out - 1) * 5 + kb) * ((M + 1) * (M + 1)) < 100000 := by
    rcases hM with rfl | rfl | rfl <;> omega
  have he : 0 ≤ e * (M + 1) + f ∧ e * (M + 1) + f < 100 := by
    rcases hM with rfl | rfl | rfl <;> omega
  rw [w32e (x := (16 + (7 * w + out - 1) * 5 + kb) * ((M + 1) * (M + 1))) (by omega) (by omega), w32e (by omega) (by omega)]
theorem evenState_eq {M k1 k2 e f : Int} {m : aM} (hM : mM3 M) (h10 : m 80 10 = (M + 1) * (M + 1)) (a : 0 ≤ k1 ∧ k1 ≤ 3) (b : 0 ≤ k2 ∧ k2 ≤ 3) (c : 0 ≤ e ∧ e ≤ M) (d : 0 ≤ f ∧ f ≤ M) : Twins_evenState k1 k2 (e * (M + 1) + f) m = some (mEv M k1 k2 e f) := by
  unfold Twins_evenState mEv
  rw [h10, w32e (x := k1 * 4) (by omega) (by omega), w32e (x := k1 * 4 + k2) (by omega) (by omega), show k1 * 4 + k2 = 4 * k1 + k2 by omega]
  have hp : 0 ≤ (4 * k1 + k2) * ((M + 1) * (M + 1)) ∧ (4 * k1 + k2) * ((M + 1) * (M + 1)) < 100000 := by
    rcases hM with rfl | rfl | rfl <;> omega
  have he : 0 ≤ e * (M + 1) + f ∧ e * (M + 1) + f < 100 := by
    rcases hM with rfl | rfl | rfl <;> omega
  rw [w32e (x := (4 * k1 + k2) * ((M + 1) * (M + 1))) (by omega) (by omega), w32e (by omega) (by omega)]
/-- of the first t sounds: so many of which either is a mistake, so many of which both are -/
def mTl (X : aM) (w off v : Int) : Nat → Int → Int → Prop
  | 0, ei, bo => ei = 0 ∧ bo = 0
  | t + 1, ei, bo => ∃ ei' bo', mTl X w off v t ei' bo' ∧
    ((xs X w (off + t) = xs X v t ∧ ei = ei' ∧ bo = bo') ∨
     (xs X w (off + t) ≠ xs X v t ∧ xi X (xs X w (off + t)) (xs X v t) ∧ ei = ei' + 1 ∧ bo = bo') ∨
     (xs X w (off + t) ≠ xs X v t ∧ ¬ xi X (xs X w (off + t)) (xs X v t) ∧ xc X (xs X w (off + t)) (xs X v t) ∧ ei = ei' ∧ bo = bo' + 1))
theorem mTl_bd {X : aM} {w off v : Int} : ∀ {t : Nat} {ei bo : Int}, mTl X w off v t ei bo → 0 ≤ ei ∧ 0 ≤ bo ∧ ei + bo ≤ t := by
  intro t
  induction t with
  | zero => rintro ei bo ⟨a, b⟩; omega
  | succ t ih =>
    rintro ei bo ⟨ei', bo', h, k⟩
    have := ih h
    rcases k with ⟨-, a, b⟩ | ⟨-, -, a, b⟩ | ⟨-, -, -, a, b⟩ <;> omega
theorem mTl_uni {X : aM} {w off v : Int} : ∀ {t : Nat} {ei bo ei2 bo2 : Int}, mTl X w off v t ei bo → mTl X w off v t ei2 bo2 → ei = ei2 ∧ bo = bo2 := by
  intro t
  induction t with
  | zero => rintro ei bo ei2 bo2 ⟨a, b⟩ ⟨c, d⟩; omega
  | succ t ih =>
    rintro ei bo ei2 bo2 ⟨ei', bo', h, k⟩ ⟨ei2', bo2', h2, k2⟩
    have := ih h h2
    rcases k with ⟨a, b, c⟩ | ⟨a, b, c, d⟩ | ⟨a, b, c, d, e⟩ <;> rcases k2 with ⟨a', b', c'⟩ | ⟨a', b', c', d'⟩ | ⟨a', b', c', d', e'⟩
    · omega
    · exact absurd a a'
    · exact absurd a a'
    · exact absurd a' a
    · omega
    · exact absurd b b'
    · exact absurd a' a
    · exact absurd b' b
    · omega
theorem mTl_mono {X : aM} {w off v : Int} {t : Nat} {ei bo : Int} (h : mTl X w off v t ei bo) : ∀ {d : Nat} {ei2 bo2 : Int}, mTl X w off v (t + d) ei2 bo2 → ei ≤ ei2 ∧ bo ≤ bo2 := by
  intro d
  induction d with
  | zero => intro ei2 bo2 k; have := mTl_uni h k; omega
  | succ d ih =>
    rintro ei2 bo2 ⟨ei', bo', k1, k2⟩
    have := ih k1
    rcases k2 with ⟨-, a, b⟩ | ⟨-, -, a, b⟩ | ⟨-, -, -, a, b⟩ <;> omega
theorem mTl_down {X : aM} {w off v : Int} {t : Nat} : ∀ {d : Nat} {ei bo : Int}, mTl X w off v (t + d) ei bo → ∃ ei' bo', mTl X w off v t ei' bo' := by
  intro d
  induction d with
  | zero => intro ei bo h; exact ⟨ei, bo, h⟩
  | succ d ih => rintro ei bo ⟨ei', bo', k, -⟩; exact ih k
/-- the state behind a word that was put to the one behind -/
noncomputable def mJn (X : aM) (M w out v e f : Int) : Int := if xl X v < out then mOd M w (out - xl X v) (xk X v) e f else if out < xl X v then mOd M v (xl X v - out) (xk X w) f e else if xk X v < xk X w then mEv M (xk X v) (xk X w) f e else mEv M (xk X w) (xk X v) e f
theorem mJn_bd {X : aM} {M w out v e f : Int} (hv : mTv X) (hM : mM3 M) (aw : xa X w) (av : xa X v) (b : 1 ≤ out ∧ out ≤ xl X w) (c : 0 ≤ e ∧ e ≤ M) (d : 0 ≤ f ∧ f ≤ M) : 0 ≤ mJn X M w out v e f ∧ mJn X M w out v e f < 471 * ((M + 1) * (M + 1)) := by
  have hw := hv.2.1 w aw
  have hv' := hv.2.1 v av
  have cb := mC_bd hM
  unfold mJn
  by_cases x : xl X v < out
  · rw [if_pos x]
    have := mOd_bd hM ⟨aw.1, aw.2.1⟩ (out := out - xl X v) (kb := xk X v) (by omega) (by omega) c d
    omega
  · rw [if_neg x]
    by_cases y : out < xl X v
    · rw [if_pos y]
      have := mOd_bd hM ⟨av.1, av.2.1⟩ (out := xl X v - out) (kb := xk X w) (by omega) (by omega) d c
      omega
    · rw [if_neg y]
      by_cases z : xk X v < xk X w
      · rw [if_pos z]
        have := mEv_bd hM hv'.2.1 hw.2.1 d c
        omega
      · rw [if_neg z]
        have := mEv_bd hM hw.2.1 hv'.2.1 c d
        omega
theorem joined_eq {X : aM} {M w out v e f : Int} {m : aM} (hv : mTv X) (hM : mM3 M) (hq : mTq X M m) (aw : xa X w) (av : xa X v) (b : 1 ≤ out ∧ out ≤ xl X w) (c : 0 ≤ e ∧ e ≤ M) (d : 0 ≤ f ∧ f ≤ M) : Twins_joined w out v e f m = some (mJn X M w out v e f) := by
  obtain ⟨q1, q2, q3, q4, q5, -, -⟩ := hq
  have hw := hv.2.1 w aw
  have hv' := hv.2.1 v av
  have l95 : m 95 v.toNat = xl X v := q3 _ _ (by omega) (by omega)
  have k96 : m 96 v.toNat = xk X v := q3 _ _ (by omega) (by omega)
  have k96w : m 96 w.toNat = xk X w := q3 _ _ (by omega) (by omega)
  have hm : M = 0 ∨ M = 1 ∨ M = 2 := hM
  have em : w32 (M + 1) = M + 1 := w32e (by omega) (by omega)
  have ee : w32 (w32 (e * (M + 1)) + f) = e * (M + 1) + f := by
    rcases hm with rfl | rfl | rfl <;> rw [w32e (x := _ * _) (by omega) (by omega), w32e (by omega) (by omega)]
  have ef : w32 (w32 (f * (M + 1)) + e) = f * (M + 1) + e := by
    rcases hm with rfl | rfl | rfl <;> rw [w32e (x := _ * _) (by omega) (by omega), w32e (by omega) (by omega)]
  unfold Twins_joined mJn
  rw [if_pos ⟨av.1, av.2.1⟩, l95, k96, k96w, q4, em, ee, ef, w32e (x := out - xl X v) (by omega) (by omega), w32e (x := -(out - xl X v)) (by omega) (by omega), if_pos (c := 0 ≤ w ∧ w < 13) ⟨aw.1, aw.2.1⟩]
  by_cases x : xl X v < out
  · rw [if_pos (by omega), if_pos x, oddState_eq hM q5 ⟨aw.1, aw.2.1⟩ (by omega) (by omega) c d, Option.bind_some]
  · rw [if_neg (by omega), if_neg x]
    by_cases y : out < xl X v
    · rw [if_pos (by omega), if_pos y, oddState_eq hM q5 ⟨av.1, av.2.1⟩ (by omega) (by omega) d c, Option.bind_some, show -(out - xl X v) = xl X v - out by omega]
    · rw [if_neg (by omega), if_neg y]
      by_cases z : xk X v < xk X w
      · rw [if_pos z, if_pos ⟨aw.1, aw.2.1⟩, if_pos z, evenState_eq hM q5 hv'.2.1 hw.2.1 d c, Option.bind_some]
      · rw [if_neg z, if_pos ⟨aw.1, aw.2.1⟩, if_neg z, evenState_eq hM q5 hw.2.1 hv'.2.1 c d, Option.bind_some]
