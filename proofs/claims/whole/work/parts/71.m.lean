/-! THE FIRST CUT AND THE SECOND -/
theorem mSum_ge {f : Int → Int} (h : ∀ i : Int, 0 ≤ f i) : ∀ {j : Nat} {i : Int}, 0 ≤ i → i < j → mSum f i.toNat + f i ≤ mSum f j := by
  intro j
  induction j with
  | zero => intro i a b; omega
  | succ j ih =>
    intro i a b
    show _ ≤ mSum f j + f (j : Int)
    by_cases e : i = j
    · rw [e, Int.toNat_natCast]; omega
    · have := ih a (by omega); have := h j; omega
theorem mSum_nn {f : Int → Int} (h : ∀ i : Int, 0 ≤ f i) : ∀ n : Nat, 0 ≤ mSum f n := by
  intro n
  induction n with
  | zero => exact Int.le_refl _
  | succ n ih => show 0 ≤ mSum f n + f (n : Int); have := h n; omega
theorem mSum_le2 {f g : Int → Int} (h : ∀ i : Int, f i ≤ g i) : ∀ n : Nat, mSum f n ≤ mSum g n := by
  intro n
  induction n with
  | zero => exact Int.le_refl _
  | succ n ih => show mSum f n + f (n : Int) ≤ mSum g n + g n; have := h n; omega
theorem mSum_single {f : Int → Int} {k : Int} (k0 : 0 ≤ k) : ∀ {n : Nat}, k < n → (∀ i : Int, 0 ≤ i → i < n → i ≠ k → f i = 0) → mSum f n = f k := by
  intro n
  induction n with
  | zero => intro a _; omega
  | succ n ih =>
    intro a h
    show mSum f n + f (n : Int) = f k
    by_cases e : k = n
    · have : mSum f n = 0 := by
        rw [mSum_congr (g := fun _ => 0) (fun i a b => h i a (by omega) (by omega))]; exact mSum_zero n
      rw [this, e]; omega
    · rw [ih (by omega) (fun i a b c => h i a (by omega) c), h n (by omega) (by omega) (fun hh => e hh.symm)]; omega
def mC2 (x : Int) : Int := if 2 < x then 2 else x
theorem mC2_bd {x : Int} (h : 0 ≤ x) : 0 ≤ mC2 x ∧ mC2 x ≤ 2 ∧ mC2 x ≤ x ∧ (mC2 x = x ∨ (mC2 x = 2 ∧ 2 < x)) := by
  unfold mC2
  split <;> omega
theorem mC2_sum {f : Int → Int} (h : ∀ i : Int, 0 ≤ f i) : ∀ n : Nat, mC2 (mSum (fun i => mC2 (f i)) n) = mC2 (mSum f n) := by
  intro n
  induction n with
  | zero => rfl
  | succ n ih =>
    show mC2 (mSum (fun i => mC2 (f i)) n + mC2 (f n)) = mC2 (mSum f n + f n)
    have a := mSum_nn h n
    have b := mSum_nn (f := fun i => mC2 (f i)) (fun i => (mC2_bd (h i)).1) n
    have c := h n
    unfold mC2 at *
    split <;> split at ih <;> split at ih <;> split <;> (try split) <;> omega
theorem mWv_nn {A : Nat → Int} {L : Int} {Mi : Int → Int → Int} : ∀ (d : Nat) (p kd b : Int), 0 ≤ mWx A L Mi d p kd b := by
  intro d
  induction d with
  | zero => intro p kd b; exact (mI_01 _).1
  | succ d ih =>
    intro p kd b
    rw [mWx]
    split
    · exact (mI_01 _).1
    · exact mSum_nn (fun w => Int.mul_nonneg (mI_01 _).1 (ih _ _ _)) _
noncomputable def mNn (A : Nat → Int) (L : Int) (Mi : Int → Int → Int) (p kd : Int) : Int := mWv A L Mi p kd 0
noncomputable def mNw (A : Nat → Int) (L : Int) (Mi : Int → Int → Int) (p kd w : Int) : Int := mI (mFc A Mi p kd 0 w) * mNn A L Mi (p + A (19 + w).toNat) (A (45 + w).toNat)
theorem mNn_nn {A : Nat → Int} {L : Int} {Mi : Int → Int → Int} (p kd : Int) : 0 ≤ mNn A L Mi p kd := mWv_nn _ _ _ _
theorem mNw_nn {A : Nat → Int} {L : Int} {Mi : Int → Int → Int} (p kd w : Int) : 0 ≤ mNw A L Mi p kd w := Int.mul_nonneg (mI_01 _).1 (mNn_nn _ _)
theorem mNn_step {A : Nat → Int} {L : Int} {Mi : Int → Int → Int} (ht : mTok A) (hM : mMok A L Mi) {p kd : Int} (p0 : 0 ≤ p) (p1 : p < L) : mNn A L Mi p kd = mSum (mNw A L Mi p kd) (A 18).toNat := by
  unfold mNn
  rw [mWv_step ht hM p0 p1]
  refine mSum_congr (fun w w0 w1 => mI_mul (fun h => ?_))
  have := hM p w p0 p1 w0 (by omega)
  have h1 := h.1
  have h2 := h.2.1
  unfold mNn
  rw [show 0 - Mi p w = 0 by omega]
theorem mFc_pf {A : Nat → Int} {L : Int} {Mi : Int → Int → Int} {p kd w pi : Int} (hM : mMok A L Mi) (q : pi ≠ 3) (p0 : 0 ≤ p) (p1 : p < L) (w0 : 0 ≤ w) (w1 : w < A 18) : mPf A Mi pi p kd w ↔ mFc A Mi p kd 0 w := by
  have := hM p w p0 p1 w0 w1
  unfold mPf mFc
  rw [if_neg q]
  constructor
  · rintro ⟨a, b⟩; exact ⟨by omega, by omega, b⟩
  · rintro ⟨a, b, c⟩; exact ⟨by omega, c⟩
theorem mTh_N' {A : Nat → Int} {L : Int} {Mi : Int → Int → Int} {p kd w pi : Int} (hM : mMok A L Mi) (q2 : pi ≠ 2) (q3 : pi ≠ 3) (p0 : 0 ≤ p) (p1 : p < L) (w0 : 0 ≤ w) (w1 : w < A 18) (ih : mPf A Mi pi p kd w → mPv A L Mi pi (p + A (19 + w).toNat) (A (45 + w).toNat) = if 1 ≤ mNn A L Mi (p + A (19 + w).toNat) (A (45 + w).toNat) then 0 else 268435456) : mTh A L Mi pi p kd w = if 1 ≤ mNw A L Mi p kd w then 0 else 268435456 := by
  have e := mFc_pf (p := p) (kd := kd) (w := w) hM q3 p0 p1 w0 w1
  unfold mTh mPt1 mPc mNw
  rw [if_neg (show ¬(pi = 2 ∨ pi = 3) by omega)]
  by_cases z : mPf A Mi pi p kd w
  · rw [mI_t (e.mp z), Int.one_mul, ih z]
    by_cases g : 1 ≤ mNn A L Mi (p + A (19 + w).toNat) (A (45 + w).toNat)
    · rw [if_pos g, if_pos ⟨z, by omega⟩]; rfl
    · rw [if_neg g, if_neg (fun h => h.2 rfl)]
  · rw [mI_f (fun h => z (e.mpr h)), Int.zero_mul, if_neg (fun h => z h.1), if_neg (by omega)]
theorem mPv_N {A : Nat → Int} {L : Int} {Mi : Int → Int → Int} {pi : Int} (ht : mTok A) (hM : mMok A L Mi) (q2 : pi ≠ 2) (q3 : pi ≠ 3) : ∀ (d : Nat) (p kd : Int), 0 ≤ p → p ≤ L → (L - p).toNat ≤ d → mPv A L Mi pi p kd = if 1 ≤ mNn A L Mi p kd then 0 else 268435456 := by
  intro d
  have fin : ∀ kd : Int, mPv A L Mi pi L kd = if 1 ≤ mNn A L Mi L kd then 0 else 268435456 := by
    intro kd
    unfold mNn
    rw [mPv_end, mWv_end]
    by_cases z : mKe A kd
    · rw [if_pos z, mI_t z, if_pos (by omega)]
    · rw [if_neg z, mI_f z, if_neg (by omega)]
  induction d with
  | zero =>
    intro p kd p0 p1 hd
    rw [show p = L by omega]; exact fin kd
  | succ d ih =>
    intro p kd p0 p1 hd
    by_cases c : p = L
    · rw [c]; exact fin kd
    · rw [mPv_step ht hM p0 (by omega), mNn_step ht hM p0 (by omega)]
      have th : ∀ w : Int, 0 ≤ w → w < A 18 → mTh A L Mi pi p kd w = if 1 ≤ mNw A L Mi p kd w then 0 else 268435456 := fun w w0 w1 => mTh_N' hM q2 q3 p0 (by omega) w0 w1 (fun h => by
        have hin := mPf_in ht hM p0 (by omega) w0 w1 h
        exact ih _ _ (by omega) (by omega) (by omega))
      have c4 := ht.2.2.2.2.1
      obtain ⟨b1, b2, b3⟩ := mMn_le (f := mTh A L Mi pi p kd) (n := (A 18).toNat)
      by_cases z : 1 ≤ mSum (mNw A L Mi p kd) (A 18).toNat
      · rw [if_pos z]
        by_cases ex : ∃ w : Int, 0 ≤ w ∧ w < A 18 ∧ 1 ≤ mNw A L Mi p kd w
        · obtain ⟨w, w0, w1, w2⟩ := ex
          have := b2 w w0 (by omega)
          rw [th w w0 w1, if_pos w2] at this
          rcases b3 with b3 | ⟨v, v0, v1, v2⟩
          · omega
          · rw [th v v0 (by omega)] at v2
            split at v2 <;> omega
        · have : mSum (mNw A L Mi p kd) (A 18).toNat = 0 := by
            rw [mSum_congr (g := fun _ => 0) (fun i a b => ?_)]
            · exact mSum_zero _
            · have := mNw_nn (A := A) (L := L) (Mi := Mi) p kd i
              have : ¬ 1 ≤ mNw A L Mi p kd i := fun h => ex ⟨i, a, by omega, h⟩
              omega
          omega
      · rw [if_neg z]
        rcases b3 with b3 | ⟨v, v0, v1, v2⟩
        · exact b3
        · rw [v2, th v v0 (by omega), if_neg]
          intro h
          have := mSum_ge (f := mNw A L Mi p kd) (mNw_nn p kd) (j := (A 18).toNat) v0 (by omega)
          have := mSum_nn (f := mNw A L Mi p kd) (mNw_nn p kd) v.toNat
          omega
theorem mTh_N {A : Nat → Int} {L : Int} {Mi : Int → Int → Int} {p kd w pi : Int} (ht : mTok A) (hM : mMok A L Mi) (q2 : pi ≠ 2) (q3 : pi ≠ 3) (p0 : 0 ≤ p) (p1 : p < L) (w0 : 0 ≤ w) (w1 : w < A 18) : mTh A L Mi pi p kd w = if 1 ≤ mNw A L Mi p kd w then 0 else 268435456 :=
  mTh_N' hM q2 q3 p0 p1 w0 w1 (fun h => by
    have hin := mPf_in ht hM p0 p1 w0 w1 h
    exact mPv_N ht hM q2 q3 _ _ _ (by omega) (by omega) (Nat.le_refl _))
noncomputable def mS2 (A : Nat → Int) (L : Int) (Mi : Int → Int → Int) (p kd w : Int) : Int := mSum (fun v => mC2 (mNw A L Mi p kd v)) w.toNat
/-- the second cut -/
def mSp (A : Nat → Int) (L : Int) (Mi : Int → Int → Int) (pi : Int) : Nat → Int → Int → (Nat → Int) → Prop
  | 0, _, _, _ => False
  | c + 1, p, kd, g => p < L ∧ (0 ≤ g 0 ∧ g 0 < A 18) ∧ ((2 ≤ mNw A L Mi p kd (g 0) ∧ mS2 A L Mi p kd (g 0) = 0 ∧ mSp A L Mi pi c (p + A (19 + g 0).toNat) (A (45 + g 0).toNat) (fun i => g (i + 1))) ∨ (1 ≤ mNw A L Mi p kd (g 0) ∧ mS2 A L Mi p kd (g 0) = 1 ∧ mGp A L Mi pi c (p + A (19 + g 0).toNat) (A (45 + g 0).toNat) (fun i => g (i + 1))))
theorem mS2_lt {A : Nat → Int} {L : Int} {Mi : Int → Int → Int} {p kd v w : Int} (v0 : 0 ≤ v) (h : v < w) : mS2 A L Mi p kd v + mC2 (mNw A L Mi p kd v) ≤ mS2 A L Mi p kd w :=
  mSum_ge (f := fun v => mC2 (mNw A L Mi p kd v)) (fun i => (mC2_bd (mNw_nn p kd i)).1) v0 (by omega)
theorem mS2_nn {A : Nat → Int} {L : Int} {Mi : Int → Int → Int} {p kd w : Int} : 0 ≤ mS2 A L Mi p kd w := mSum_nn (f := fun v => mC2 (mNw A L Mi p kd v)) (fun i => (mC2_bd (mNw_nn p kd i)).1) _
theorem mSp_uni {A : Nat → Int} {L : Int} {Mi : Int → Int → Int} {pi : Int} : ∀ {c c' : Nat} {p kd : Int} {f g : Nat → Int}, mSp A L Mi pi c p kd f → mSp A L Mi pi c' p kd g → c = c' ∧ ∀ i, i < c → f i = g i := by
  intro c
  induction c with
  | zero => intro c' p kd f g h h'; exact absurd h (fun h => h)
  | succ c ih =>
    intro c' p kd f g h h'
    cases c' with
    | zero => exact absurd h' (fun h => h)
    | succ c' =>
      obtain ⟨h1, ⟨a0, a1⟩, h3⟩ := h
      obtain ⟨g1, ⟨b0, b1⟩, g3⟩ := h'
      have n1 := mC2_bd (mNw_nn (A := A) (L := L) (Mi := Mi) p kd (f 0))
      have n2 := mC2_bd (mNw_nn (A := A) (L := L) (Mi := Mi) p kd (g 0))
      have l1 : f 0 < g 0 → _ := fun q => mS2_lt (A := A) (L := L) (Mi := Mi) (p := p) (kd := kd) a0 q
      have l2 : g 0 < f 0 → _ := fun q => mS2_lt (A := A) (L := L) (Mi := Mi) (p := p) (kd := kd) b0 q
      have s1 := mS2_nn (A := A) (L := L) (Mi := Mi) (p := p) (kd := kd) (w := f 0)
      have s2 := mS2_nn (A := A) (L := L) (Mi := Mi) (p := p) (kd := kd) (w := g 0)
      have e : f 0 = g 0 := by
        rcases Int.lt_trichotomy (f 0) (g 0) with d | d | d
        · have := l1 d
          rcases h3 with ⟨x1, x2, x3⟩ | ⟨x1, x2, x3⟩ <;> rcases g3 with ⟨y1, y2, y3⟩ | ⟨y1, y2, y3⟩ <;> omega
        · exact d
        · have := l2 d
          rcases h3 with ⟨x1, x2, x3⟩ | ⟨x1, x2, x3⟩ <;> rcases g3 with ⟨y1, y2, y3⟩ | ⟨y1, y2, y3⟩ <;> omega
      rw [e] at h3
      have key : c = c' ∧ ∀ i, i < c → f (i + 1) = g (i + 1) := by
        rcases h3 with ⟨x1, x2, x3⟩ | ⟨x1, x2, x3⟩ <;> rcases g3 with ⟨y1, y2, y3⟩ | ⟨y1, y2, y3⟩
        · exact ih x3 y3
        · omega
        · omega
        · exact mGp_uni x3 y3
      refine ⟨by omega, fun i hi => ?_⟩
      cases i with
      | zero => exact e
      | succ i => exact key.2 i (by omega)
theorem mSp_N {A : Nat → Int} {L : Int} {Mi : Int → Int → Int} {pi : Int} (ht : mTok A) (hM : mMok A L Mi) {c : Nat} {p kd : Int} {g : Nat → Int} (p0 : 0 ≤ p) (h : mSp A L Mi pi c p kd g) : p < L ∧ 2 ≤ mNn A L Mi p kd := by
  cases c with
  | zero => exact absurd h (fun h => h)
  | succ c =>
    obtain ⟨h1, ⟨a0, a1⟩, h3⟩ := h
    refine ⟨h1, ?_⟩
    rw [mNn_step ht hM p0 h1]
    have x := mSum_ge (f := mNw A L Mi p kd) (mNw_nn p kd) (j := (A 18).toNat) a0 (by omega)
    have y := mSum_nn (f := mNw A L Mi p kd) (mNw_nn p kd) (g 0).toNat
    have z := mSum_le2 (f := fun v => mC2 (mNw A L Mi p kd v)) (g := mNw A L Mi p kd) (fun i => (mC2_bd (mNw_nn p kd i)).2.2.1) (g 0).toNat
    unfold mS2 at h3
    rcases h3 with ⟨x1, x2, x3⟩ | ⟨x1, x2, x3⟩ <;> omega
