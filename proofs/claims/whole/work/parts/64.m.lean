/-! COUNTED FROM THE FRONT, AND FROM THE BACK -/
theorem mSum_add (f g : Int → Int) : ∀ n : Nat, mSum (fun i => f i + g i) n = mSum f n + mSum g n := by
  intro n
  induction n with
  | zero => rfl
  | succ n ih =>
    show mSum (fun i => f i + g i) n + (f n + g n) = (mSum f n + f n) + (mSum g n + g n)
    rw [ih]; omega
theorem mSum_mul (c : Int) (f : Int → Int) : ∀ n : Nat, mSum (fun i => c * f i) n = c * mSum f n := by
  intro n
  induction n with
  | zero => show (0 : Int) = c * 0; omega
  | succ n ih =>
    show mSum (fun i => c * f i) n + c * f n = c * (mSum f n + f n)
    rw [ih, Int.mul_add]
theorem mSum_zero : ∀ n : Nat, mSum (fun _ => 0) n = 0 := by
  intro n
  induction n with
  | zero => rfl
  | succ n ih => show mSum (fun _ => 0) n + 0 = 0; rw [ih]; rfl
theorem mSum_comm (f : Int → Int → Int) (k : Nat) : ∀ n : Nat, mSum (fun i => mSum (fun j => f i j) k) n = mSum (fun j => mSum (fun i => f i j) n) k := by
  intro n
  induction n with
  | zero => exact (mSum_zero k).symm
  | succ n ih =>
    show mSum (fun i => mSum (fun j => f i j) k) n + mSum (fun j => f n j) k = mSum (fun j => mSum (fun i => f i j) n + f n j) k
    rw [ih, mSum_add]
theorem mSum_one {g : Int → Int} {p0 : Int} : ∀ n : Nat, mSum (fun p => mI (p = p0) * g p) n = if 0 ≤ p0 ∧ p0 < n then g p0 else 0 := by
  intro n
  induction n with
  | zero => rw [if_neg (by omega)]; rfl
  | succ n ih =>
    show mSum (fun p => mI (p = p0) * g p) n + mI ((n : Int) = p0) * g n = _
    rw [ih]
    by_cases e : (n : Int) = p0
    · rw [mI_t e, if_neg (by omega), if_pos (by omega), e]; omega
    · rw [mI_f e, Int.zero_mul]
      by_cases c : 0 ≤ p0 ∧ p0 < n
      · rw [if_pos c, if_pos (by omega)]; omega
      · rw [if_neg c, if_neg (by omega)]; rfl
theorem mI_and {p q : Prop} : mI (p ∧ q) = mI p * mI q := by
  by_cases a : p
  · by_cases b : q
    · rw [mI_t a, mI_t b, mI_t ⟨a, b⟩]; rfl
    · rw [mI_t a, mI_f b, mI_f (fun h => b h.2)]; rfl
  · rw [mI_f a, mI_f (fun h => a h.1), Int.zero_mul]
theorem mI_cg {p q : Prop} (h : p ↔ q) : mI p = mI q := by
  by_cases a : p
  · rw [mI_t a, mI_t (h.mp a)]
  · rw [mI_f a, mI_f (fun hh => a (h.mpr hh))]
theorem front_back {A : Nat → Int} (ht : mTok A) {q : Int} (q0 : 1 ≤ q) {fit : Int → Int → Prop} {X H : Int → Int → Int} (hfit : ∀ p v, fit p v → p + A (19 + v).toNat ≤ q)
    (hX : ∀ p kd : Int, 0 ≤ p → p < q → X p kd = mSum (fun v => mI (fit p v) * (mI (mKs A kd v) * X (p + A (19 + v).toNat) (A (45 + v).toNat))) (A 18).toNat)
    (hH : ∀ r v : Int, 1 ≤ r → r ≤ q → 0 ≤ v → v < A 18 → H r v = mI (A (19 + v).toNat ≤ r ∧ fit (r - A (19 + v).toNat) v) * (mI (r = A (19 + v).toNat) + mI (A (19 + v).toNat < r) * mSum (fun a => mI (mKs A (A (45 + a).toNat) v) * H (r - A (19 + v).toNat) a) (A 18).toNat)) :
    X 0 4 = mSum (fun v => H q v * X q (A (45 + v).toNat)) (A 18).toNat := by
  have c4 := ht.2.2.2.2.1
  have hl : ∀ v : Int, 0 ≤ v → v < (A 18).toNat → 1 ≤ A (19 + v).toNat := fun v a b => (ht.2.2.2.2.2.1 v a (by omega)).1.1
  generalize hE : (fun p v : Int => mI (fit p v) * (H (p + A (19 + v).toNat) v * X (p + A (19 + v).toNat) (A (45 + v).toNat))) = E
  have eE : ∀ p v, E p v = mI (fit p v) * (H (p + A (19 + v).toNat) v * X (p + A (19 + v).toNat) (A (45 + v).toNat)) := fun p v => by rw [← hE]
  -- the words that end at s
  have hB : ∀ s : Int, 1 ≤ s → s ≤ q → mSum (fun p => mSum (fun v => mI (p + A (19 + v).toNat = s) * E p v) (A 18).toNat) s.toNat = mSum (fun v => H s v * X s (A (45 + v).toNat)) (A 18).toNat := by
    intro s s1 s2
    rw [mSum_comm]
    refine mSum_congr (fun v v0 v1 => ?_)
    have l1 := hl v v0 v1
    have e1 : mSum (fun p => mI (p + A (19 + v).toNat = s) * E p v) s.toNat = mSum (fun p => mI (p = s - A (19 + v).toNat) * E p v) s.toNat := mSum_congr (fun p _ _ => by rw [mI_cg (show (p + A (19 + v).toNat = s) ↔ (p = s - A (19 + v).toNat) by omega)])
    rw [e1, mSum_one]
    by_cases z : A (19 + v).toNat ≤ s
    · rw [if_pos (by omega), eE, show s - A (19 + v).toNat + A (19 + v).toNat = s by omega]
      by_cases f : fit (s - A (19 + v).toNat) v
      · rw [mI_t f, Int.one_mul]
      · have h0 : H s v = 0 := by rw [hH s v s1 s2 v0 (by omega), mI_f (fun h => f h.2), Int.zero_mul]
        rw [mI_f f, h0, Int.zero_mul, Int.zero_mul]
    · have h0 : H s v = 0 := by rw [hH s v s1 s2 v0 (by omega), mI_f (fun h => z h.1), Int.zero_mul]
      rw [if_neg (by omega), h0, Int.zero_mul]
  -- the words that begin at s
  have hS : ∀ s : Int, 1 ≤ s → s < q → mSum (fun v => E s v) (A 18).toNat = mSum (fun v => H s v * X s (A (45 + v).toNat)) (A 18).toNat := by
    intro s s1 s2
    have e1 : mSum (fun v => E s v) (A 18).toNat = mSum (fun v => mSum (fun a => H s a * (mI (fit s v) * (mI (mKs A (A (45 + a).toNat) v) * X (s + A (19 + v).toNat) (A (45 + v).toNat)))) (A 18).toNat) (A 18).toNat := by
      refine mSum_congr (fun v v0 v1 => ?_)
      have l1 := hl v v0 v1
      rw [eE]
      by_cases f : fit s v
      · have hq := hfit s v f
        rw [hH (s + A (19 + v).toNat) v (by omega) hq v0 (by omega), show s + A (19 + v).toNat - A (19 + v).toNat = s by omega, mI_t f, mI_t ⟨by omega, f⟩, mI_f (show ¬ (s + A (19 + v).toNat = A (19 + v).toNat) by omega), mI_t (show A (19 + v).toNat < s + A (19 + v).toNat by omega), Int.one_mul, Int.one_mul, Int.one_mul, Int.zero_add, Int.mul_comm, ← mSum_mul]
        refine mSum_congr (fun a _ _ => ?_)
        rw [Int.one_mul, ← Int.mul_assoc, Int.mul_comm, ← Int.mul_assoc, ← Int.mul_assoc]
        exact Int.mul_right_comm _ _ _
      · rw [mI_f f, Int.zero_mul]
        have : mSum (fun a => H s a * (0 * (mI (mKs A (A (45 + a).toNat) v) * X (s + A (19 + v).toNat) (A (45 + v).toNat)))) (A 18).toNat = mSum (fun _ => 0) (A 18).toNat := mSum_congr (fun a _ _ => by rw [Int.zero_mul, Int.mul_zero])
        rw [this, mSum_zero]
    rw [e1, mSum_comm]
    refine mSum_congr (fun a _ _ => ?_)
    rw [mSum_mul, ← hX s _ (by omega) s2]
  -- what crosses s
  have hP : ∀ d : Nat, 1 + (d : Int) ≤ q → mSum (fun p => mSum (fun v => mI (1 + (d : Int) ≤ p + A (19 + v).toNat) * E p v) (A 18).toNat) (1 + d) = X 0 4 := by
    intro d
    induction d with
    | zero =>
      intro _
      show mSum (fun p => mSum (fun v => mI (1 + ((0 : Nat) : Int) ≤ p + A (19 + v).toNat) * E p v) (A 18).toNat) 0 + mSum (fun v => mI (1 + ((0 : Nat) : Int) ≤ ((0 : Nat) : Int) + A (19 + v).toNat) * E ((0 : Nat) : Int) v) (A 18).toNat = _
      rw [show mSum (fun p => mSum (fun v => mI (1 + ((0 : Nat) : Int) ≤ p + A (19 + v).toNat) * E p v) (A 18).toNat) 0 = 0 from rfl, Int.zero_add, hX 0 4 (by omega) (by omega)]
      refine mSum_congr (fun v v0 v1 => ?_)
      have l1 := hl v v0 v1
      rw [mI_t (show 1 + ((0 : Nat) : Int) ≤ ((0 : Nat) : Int) + A (19 + v).toNat by omega), Int.one_mul, eE, show ((0 : Nat) : Int) = 0 from rfl, Int.zero_add, mI_t (show mKs A 4 v from Or.inl rfl), Int.one_mul]
      by_cases f : fit 0 v
      · have hq := hfit 0 v f
        rw [mI_t f, hH (A (19 + v).toNat) v (by omega) (by omega) v0 (by omega), Int.sub_self, mI_t (show A (19 + v).toNat ≤ A (19 + v).toNat ∧ fit 0 v from ⟨Int.le_refl _, f⟩), mI_t (show A (19 + v).toNat = A (19 + v).toNat from rfl), mI_f (show ¬ (A (19 + v).toNat < A (19 + v).toNat) by omega), Int.zero_mul, Int.one_mul, Int.add_zero, Int.one_mul]
      · rw [mI_f f, Int.zero_mul, Int.zero_mul]
    | succ d ih =>
      intro hq
      rw [← ih (by omega)]
      show mSum (fun p => mSum (fun v => mI (1 + ((d + 1 : Nat) : Int) ≤ p + A (19 + v).toNat) * E p v) (A 18).toNat) (1 + d) + mSum (fun v => mI (1 + ((d + 1 : Nat) : Int) ≤ ((1 + d : Nat) : Int) + A (19 + v).toNat) * E ((1 + d : Nat) : Int) v) (A 18).toNat = _
      have e1 : mSum (fun v => mI (1 + ((d + 1 : Nat) : Int) ≤ ((1 + d : Nat) : Int) + A (19 + v).toNat) * E ((1 + d : Nat) : Int) v) (A 18).toNat = mSum (fun v => E (1 + d) v) (A 18).toNat := mSum_congr (fun v v0 v1 => by
        have l1 := hl v v0 v1
        rw [mI_t (by omega), Int.one_mul]
        rfl)
      rw [e1, hS (1 + d) (by omega) (by omega), ← hB (1 + d) (by omega) (by omega), show (1 + (d : Int)).toNat = 1 + d by omega, ← mSum_add]
      refine mSum_congr (fun p _ _ => ?_)
      rw [← mSum_add]
      refine mSum_congr (fun v v0 v1 => ?_)
      rw [← Int.add_mul]
      congr 1
      by_cases z : p + A (19 + v).toNat = 1 + d
      · rw [mI_t z, mI_f (by omega), mI_t (by omega)]; rfl
      · rw [mI_f z]
        by_cases y : 1 + (d : Int) ≤ p + A (19 + v).toNat
        · rw [mI_t (show 1 + ((d + 1 : Nat) : Int) ≤ p + A (19 + v).toNat by omega), mI_t y]; rfl
        · rw [mI_f (show ¬ (1 + ((d + 1 : Nat) : Int) ≤ p + A (19 + v).toNat) by omega), mI_f y]; rfl
  have fin := hP (q - 1).toNat (by omega)
  rw [← fin, ← hB q q0 (Int.le_refl _), show (1 : Nat) + (q - 1).toNat = q.toNat by omega]
  refine mSum_congr (fun p p0 p1 => mSum_congr (fun v v0 v1 => ?_))
  rw [eE]
  by_cases f : fit p v
  · have := hfit p v f
    rw [mI_cg (show (1 + ((q - 1).toNat : Int) ≤ p + A (19 + v).toNat) ↔ (p + A (19 + v).toNat = q) by omega)]
  · rw [mI_f f, Int.zero_mul, Int.mul_zero, Int.mul_zero]
