/-! THE CLASS'S SEARCH: what waits, what is seen -/
def mPd (m : aM) (j s : Int) : Prop := (mLb (m 100 (67 * j + s / 64).toNat)).testBit (s % 64).toNat = true
def mSn (m : aM) (s : Int) : Prop := (mLb (m 101 (s / 64).toNat)).testBit (s % 64).toNat = true
def mBp (x : Int) : Int := mSum (fun i => if (mLb x).testBit i.toNat = true then 1 else 0) 64
/-- how many wait, in the words that are in use -/
def mPb (m : aM) : Int := mSum (fun i => if i % 67 < m 80 11 then mBp (m 100 i.toNat) else 0) 536
theorem mBp_bd (x : Int) : 0 ≤ mBp x ∧ mBp x ≤ 64 := by
  have := mSum_bd (f := fun i => if (mLb x).testBit i.toNat = true then 1 else 0) (c := 1) (by omega) (n := 64) (fun i _ _ => by split <;> omega)
  unfold mBp
  omega
theorem mPb_bd (m : aM) : 0 ≤ mPb m ∧ mPb m ≤ 34304 := by
  have := mSum_bd (f := fun i => if i % 67 < m 80 11 then mBp (m 100 i.toNat) else 0) (c := 64) (by omega) (n := 536) (fun i _ _ => by
    have := mBp_bd (m 100 i.toNat)
    split <;> omega)
  unfold mPb
  omega
theorem mSum_upd {f g : Int → Int} {k d : Int} (k0 : 0 ≤ k) (h : ∀ i : Int, 0 ≤ i → i ≠ k → g i = f i) (hk : g k = f k + d) : ∀ {n : Nat}, k < n → mSum g n = mSum f n + d := by
  intro n
  induction n with
  | zero => intro c; omega
  | succ n ih =>
    intro c
    by_cases e : k = n
    · show mSum g n + g n = mSum f n + f n + d
      rw [mSum_congr (f := g) (g := f) (fun i a b => h i a (by omega)), ← e, hk]
      omega
    · show mSum g n + g n = mSum f n + f n + d
      rw [ih (by omega), h n (by omega) (by omega)]
      omega
theorem mBp_set {x y j : Int} (j0 : 0 ≤ j) (j1 : j < 64) (hx : (mLb x).testBit j.toNat = false) (hy : ∀ i, (mLb y).testBit i = ((mLb x).testBit i || decide (j.toNat = i))) : mBp y = mBp x + 1 := by
  unfold mBp
  refine mSum_upd (k := j) j0 (fun i i0 ne => ?_) ?_ (by omega)
  · rw [hy, decide_eq_false (by omega), Bool.or_false]
  · rw [hy, hx, decide_eq_true rfl]
    rfl
theorem mBp_clr {x y j : Int} (j0 : 0 ≤ j) (j1 : j < 64) (hx : (mLb x).testBit j.toNat = true) (hy : ∀ i, (mLb y).testBit i = ((mLb x).testBit i && !decide (j.toNat = i))) : mBp y = mBp x - 1 := by
  unfold mBp
  rw [Int.sub_eq_add_neg]
  refine mSum_upd (k := j) j0 (fun i i0 ne => ?_) ?_ (by omega)
  · rw [hy, decide_eq_false (by omega), Bool.not_false, Bool.and_true]
  · rw [hy, hx, decide_eq_true rfl]
    rfl
theorem mPb_upd {m m' : aM} {k : Nat} {d : Int} (hk : k < 536) (ks : (k : Int) % 67 < m 80 11) (h11 : m' 80 11 = m 80 11) (h : ∀ i : Nat, i ≠ k → m' 100 i = m 100 i) (hd : mBp (m' 100 k) = mBp (m 100 k) + d) : mPb m' = mPb m + d := by
  unfold mPb
  rw [h11]
  refine mSum_upd (k := (k : Int)) (by omega) (fun i i0 ne => ?_) ?_ (by omega)
  · rw [h _ (by omega)]
  · rw [if_pos ks, if_pos ks, Int.toNat_natCast]; exact hd
/-- nothing waits where the count is 0 -/
theorem mPb_none {m : aM} (h : mPb m = 0) {j s : Int} (j0 : 0 ≤ j) (j1 : j < 8) (s0 : 0 ≤ s) (s1 : s < 4288) (s2 : s / 64 < m 80 11) : ¬ mPd m j s := by
  intro hp
  have nn : ∀ i : Int, 0 ≤ (fun i => if i % 67 < m 80 11 then mBp (m 100 i.toNat) else 0) i := fun i => by
    have := mBp_bd (m 100 i.toNat)
    dsimp only
    split <;> omega
  have a := mSum_ge nn (j := 536) (i := 67 * j + s / 64) (by omega) (by omega)
  have b := mSum_nn nn (67 * j + s / 64).toNat
  have nc : ∀ i : Int, 0 ≤ (fun i : Int => if (mLb (m 100 (67 * j + s / 64).toNat)).testBit i.toNat = true then (1 : Int) else 0) i := fun i => by
    dsimp only
    split <;> omega
  have c := mSum_ge nc (j := 64) (i := s % 64) (by omega) (by omega)
  have d := mSum_nn nc (s % 64).toNat
  unfold mPd at hp
  rw [if_pos hp] at c
  rw [if_pos (show (67 * j + s / 64) % 67 < m 80 11 by omega)] at a
  unfold mPb at h
  have e : mBp (m 100 (67 * j + s / 64).toNat) = mSum (fun i => if (mLb (m 100 (67 * j + s / 64).toNat)).testBit i.toNat = true then 1 else 0) 64 := rfl
  omega
theorem mPb_c {m m' : aM} (h1 : m' 100 = m 100) (h2 : m' 80 11 = m 80 11) : mPb m' = mPb m := by
  unfold mPb
  rw [h1, h2]
theorem iand63 {s : Int} (s0 : 0 ≤ s) (s1 : s < 2147483648) : iand s 63 = s % 64 := by
  rw [iand_nn s0 s1 (by omega) (by omega), show (63 : Int).toNat = 2 ^ 6 - 1 from rfl, Nat.and_two_pow_sub_one_eq_mod]
  omega
theorem ishr6 {s : Int} (s0 : 0 ≤ s) (s1 : s < 2147483648) : ishr s 6 = s / 64 := by
  rw [ishr_eq ⟨by omega, s1⟩ (by omega) (by omega)]
  rfl
theorem push_ok {s L : Int} {m : aM} (s0 : 0 ≤ s) (s1 : s < 4288) (s2 : s / 64 < m 80 11) (L0 : 0 ≤ L) (hw : m 80 12 = mPb m) : mOk (Twins_push s L m) (fun m' => (mSn m s ∨ mPd m' (L % 8) s) ∧ (∀ j t : Int, 0 ≤ j → j < 8 → 0 ≤ t → t < 4288 → (mPd m' j t ↔ mPd m j t ∨ (j = L % 8 ∧ t = s ∧ ¬ mSn m s))) ∧ m' 80 12 = mPb m' ∧ ∀ q i, q ≠ 100 → ¬(q = 80 ∧ i = 12) → m' q i = m q i) := by
  have pb := mPb_bd m
  unfold Twins_push
  rw [ishr6 s0 (by omega), iand63 s0 (by omega), if_pos (by omega), tmod_nn L0, w32e (x := L % 8 * 67) (by omega) (by omega), w32e (x := L % 8 * 67 + s / 64) (by omega) (by omega), show L % 8 * 67 + s / 64 = 67 * (L % 8) + s / 64 by omega]
  by_cases c : land (m 101 (s / 64).toNat) (lshl 1 (s % 64)) = 0
  rotate_left
  · rw [if_neg c]
    have sn : mSn m s := by
      unfold mSn
      cases e : (mLb (m 101 (s / 64).toNat)).testBit (s % 64).toNat with
      | true => rfl
      | false => exact absurd ((land_shl (by omega) (by omega)).mpr e) c
    exact mOk_some ⟨Or.inl sn, fun j t _ _ _ _ => ⟨Or.inl, fun g => g.elim id (fun g => absurd sn g.2.2)⟩, hw, fun _ _ _ _ => rfl⟩
  have ns : ¬ mSn m s := fun g => by
    have := (land_shl (by omega) (by omega)).mp c
    unfold mSn at g
    rw [this] at g
    exact absurd g (by decide)
  rw [if_pos c, if_pos (by omega)]
  by_cases d : land (m 100 (67 * (L % 8) + s / 64).toNat) (lshl 1 (s % 64)) = 0
  rotate_left
  · rw [if_neg d]
    have pn : mPd m (L % 8) s := by
      unfold mPd
      cases e : (mLb (m 100 (67 * (L % 8) + s / 64).toNat)).testBit (s % 64).toNat with
      | true => rfl
      | false => exact absurd ((land_shl (by omega) (by omega)).mpr e) d
    exact mOk_some ⟨Or.inr pn, fun j t _ _ _ _ => ⟨Or.inl, fun g => g.elim id (fun g => by rw [g.1, g.2.1]; exact pn)⟩, hw, fun _ _ _ _ => rfl⟩
  rw [if_pos d, st1e, st1e, aup_of (by omega), w32e (by omega) (by omega)]
  have db := (land_shl (by omega) (by omega)).mp d
  have fo : ∀ q i, ¬(q = 100 ∧ i = (67 * (L % 8) + s / 64).toNat) → ¬(q = 80 ∧ i = 12) → aup (aup m 100 (67 * (L % 8) + s / 64).toNat (lor (m 100 (67 * (L % 8) + s / 64).toNat) (lshl 1 (s % 64)))) 80 12 (m 80 12 + 1) q i = m q i := fun q i a b => by rw [aup_of (by omega), aup_of (by omega)]
  have fn : aup (aup m 100 (67 * (L % 8) + s / 64).toNat (lor (m 100 (67 * (L % 8) + s / 64).toNat) (lshl 1 (s % 64)))) 80 12 (m 80 12 + 1) 100 (67 * (L % 8) + s / 64).toNat = lor (m 100 (67 * (L % 8) + s / 64).toNat) (lshl 1 (s % 64)) := by rw [aup_of (by omega), aup_self]
  have fw : aup (aup m 100 (67 * (L % 8) + s / 64).toNat (lor (m 100 (67 * (L % 8) + s / 64).toNat) (lshl 1 (s % 64)))) 80 12 (m 80 12 + 1) 80 12 = m 80 12 + 1 := aup_self _ _ _ _
  generalize aup (aup m 100 (67 * (L % 8) + s / 64).toNat (lor (m 100 (67 * (L % 8) + s / 64).toNat) (lshl 1 (s % 64)))) 80 12 (m 80 12 + 1) = m' at fo fn fw ⊢
  have bit : ∀ i, (mLb (m' 100 (67 * (L % 8) + s / 64).toNat)).testBit i = ((mLb (m 100 (67 * (L % 8) + s / 64).toNat)).testBit i || decide ((s % 64).toNat = i)) := fun i => by rw [fn]; exact lor_shl (by omega) (by omega) i
  have key : ∀ j t : Int, 0 ≤ j → j < 8 → 0 ≤ t → t < 4288 → (mPd m' j t ↔ mPd m j t ∨ (j = L % 8 ∧ t = s ∧ ¬ mSn m s)) := by
    intro j t j0 j1 t0 t1
    unfold mPd
    by_cases e : (67 * j + t / 64).toNat = (67 * (L % 8) + s / 64).toNat
    · rw [e, bit, Bool.or_eq_true, decide_eq_true_eq]
      constructor
      · rintro (g | g)
        · exact Or.inl g
        · exact Or.inr ⟨by omega, by omega, ns⟩
      · rintro (g | g)
        · exact Or.inl g
        · exact Or.inr (by omega)
    · rw [fo _ _ (by omega) (by omega)]
      exact ⟨Or.inl, fun g => g.elim id (fun g => absurd (by rw [g.1, g.2.1]) e)⟩
  refine mOk_some ⟨Or.inr ((key _ _ (by omega) (by omega) s0 s1).mpr (Or.inr ⟨rfl, rfl, ns⟩)), key, ?_, fun q i a b => fo q i (by omega) b⟩
  rw [fw, hw, mPb_upd (m := m) (m' := m') (k := (67 * (L % 8) + s / 64).toNat) (d := 1) (by omega) (by omega) (fo _ _ (by omega) (by omega)) (fun i a => fo _ _ (by omega) (by omega)) (mBp_set (j := s % 64) (by omega) (by omega) db bit)]
/-- what a pop leaves; j: the slot -/
def mPop3 (j : Int) (m : aM) (r : Int × aM) : Prop :=
  (∀ jj t : Int, 0 ≤ jj → jj < 8 → 0 ≤ t → t < 4288 → mPd r.2 jj t → mPd m jj t) ∧
  (∀ jj t : Int, 0 ≤ jj → jj < 8 → 0 ≤ t → t < 4288 → mPd m jj t → mPd r.2 jj t ∨ (jj = j ∧ mSn r.2 t)) ∧
  r.2 80 12 = mPb r.2 ∧ (∀ q i, q ≠ 100 → q ≠ 101 → ¬(q = 80 ∧ (i = 12 ∨ i = 13)) → r.2 q i = m q i) ∧
  ((r.1 = -1 ∧ (∀ t : Int, 0 ≤ t → t < 4288 → (mSn r.2 t ↔ mSn m t)) ∧ ∀ t : Int, 0 ≤ t → t / 64 < m 80 11 → ¬ mPd r.2 j t) ∨
   (0 ≤ r.1 ∧ r.1 / 64 < m 80 11 ∧ mPd m j r.1 ∧ ¬ mSn m r.1 ∧ (∀ t : Int, 0 ≤ t → t < 4288 → (mSn r.2 t ↔ mSn m t ∨ t = r.1)) ∧ r.2 80 13 = r.1 / 64 ∧ m 80 13 ≤ r.1 / 64 ∧ ∀ t : Int, 0 ≤ t → t / 64 < r.1 / 64 → ¬ mPd r.2 j t))
theorem pop_ok {L : Int} {m : aM} (L0 : 0 ≤ L) (hw : m 80 12 = mPb m) (sp : 0 ≤ m 80 11 ∧ m 80 11 ≤ 67) (sc : 0 ≤ m 80 13 ∧ m 80 13 ≤ m 80 11) (hz : ∀ t : Int, 0 ≤ t → t / 64 < m 80 13 → ¬ mPd m (L % 8) t) : mOk (Twins_pop L m) (mPop3 (L % 8) m) := by
  unfold Twins_pop
  rw [tmod_nn L0, w32e (by omega) (by omega), show L % 8 * 67 = 67 * (L % 8) by omega]
  generalize hj : L % 8 = j at *
  have j0 : 0 ≤ j ∧ j < 8 := by omega
  refine mL2 (Twins_pop_8 (67 * j)) (fun x mm => (0 ≤ x ∧ x + 65 * (67 - mm 80 13) + mBp (mm 100 (67 * j + mm 80 13).toNat) ≤ 4419) ∧ (m 80 13 ≤ mm 80 13 ∧ mm 80 13 ≤ m 80 11) ∧ (∀ jj t : Int, 0 ≤ jj → jj < 8 → 0 ≤ t → t < 4288 → mPd mm jj t → mPd m jj t) ∧ (∀ jj t : Int, 0 ≤ jj → jj < 8 → 0 ≤ t → t < 4288 → mPd m jj t → mPd mm jj t ∨ (jj = j ∧ mSn m t)) ∧ (∀ t : Int, 0 ≤ t → t / 64 < mm 80 13 → ¬ mPd mm j t) ∧ mm 80 12 = mPb mm ∧ ∀ q i, q ≠ 100 → ¬(q = 80 ∧ (i = 12 ∨ i = 13)) → mm q i = m q i) (fun x _ => (9000 - x).toNat) ?_ 0 m ⟨by have := mBp_bd (m 100 (67 * j + m 80 13).toNat); omega, by omega, fun _ _ _ _ _ _ h => h, fun _ _ _ _ _ _ h => Or.inl h, hz, hw, fun _ _ _ _ => rfl⟩ (by omega)
  rintro fu x mm ⟨x1, c1, p1, p2, z1, w1, fr⟩ ih
  have pb := mPb_bd mm
  have bpx := mBp_bd (mm 100 (67 * j + mm 80 13).toNat)
  have e11 : mm 80 11 = m 80 11 := fr _ _ (by omega) (by omega)
  have sn : ∀ t, mSn mm t ↔ mSn m t := fun t => by unfold mSn; rw [fr 101 _ (by omega) (by omega)]
  rw [Twins_pop_8, if_pos (by omega), e11]
  by_cases d : mm 80 13 < m 80 11
  rotate_left
  · rw [if_neg d]
    have ec : mm 80 13 = m 80 11 := by omega
    refine mOk_some ⟨p1, fun jj t a b c e g => ?_, w1, fun q i a b c => fr q i a c, Or.inl ⟨rfl, fun t _ _ => sn t, fun t a b => z1 t a (by omega)⟩⟩
    rcases p2 jj t a b c e g with h | h
    · exact Or.inl h
    · exact Or.inr ⟨h.1, (sn t).mpr h.2⟩
  rw [if_pos d, w32e (x := 67 * j + mm 80 13) (by omega) (by omega), if_pos (by omega)]
  rcases lowest (x := mm 100 (67 * j + mm 80 13).toNat) (m := mm) with ⟨x0, k⟩ | ⟨b, b0, b1, bt, bl, k, nz⟩
  · -- an empty word
    rw [k, Option.bind_some, if_pos rfl, st1e, w32e (by omega) (by omega)]
    unfold Twins_pop_82
    rw [w32e (by omega) (by omega)]
    have f2 : ∀ q i, ¬(q = 80 ∧ i = 13) → aup mm 80 13 (mm 80 13 + 1) q i = mm q i := fun q i a => aup_of (by omega)
    have e13 : aup mm 80 13 (mm 80 13 + 1) 80 13 = mm 80 13 + 1 := aup_self _ _ _ _
    generalize aup mm 80 13 (mm 80 13 + 1) = m2 at f2 e13 ⊢
    have pd : ∀ jj t, mPd m2 jj t ↔ mPd mm jj t := fun jj t => by unfold mPd; rw [f2 100 _ (by omega)]
    have bp2 := mBp_bd (m2 100 (67 * j + m2 80 13).toNat)
    refine ih _ _ ⟨by omega, by omega, fun jj t a b c e g => p1 jj t a b c e ((pd jj t).mp g), fun jj t a b c e g => ?_, fun t a b g => ?_, ?_, fun q i a c => ?_⟩ (by omega)
    · rcases p2 jj t a b c e g with h | h
      · exact Or.inl ((pd jj t).mpr h)
      · exact Or.inr h
    · rw [e13] at b
      have g' := (pd j t).mp g
      by_cases et : t / 64 < mm 80 13
      · exact z1 t a et g'
      · unfold mPd at g'
        rw [show t / 64 = mm 80 13 by omega, x0, Nat.zero_testBit] at g'
        exact absurd g' (by decide)
    · rw [f2 _ _ (by omega), mPb_c (m := mm) (funext fun i => f2 _ _ (by omega)) (f2 _ _ (by omega))]
      exact w1
    · rw [f2 q i (by omega)]; exact fr q i a c
  · rw [k, Option.bind_some, if_neg nz, st1e, st1e, aup_of (i' := 12) (by omega), w32e (by omega) (by omega)]
    have f2 : ∀ q i, ¬(q = 80 ∧ i = 12) → ¬(q = 100 ∧ i = (67 * j + mm 80 13).toNat) → aup (aup mm 100 (67 * j + mm 80 13).toNat (land (mm 100 (67 * j + mm 80 13).toNat) (lxor (lshl 1 b) (-1)))) 80 12 (mm 80 12 - 1) q i = mm q i := fun q i a c => by rw [aup_of (by omega), aup_of (by omega)]
    have e12 : aup (aup mm 100 (67 * j + mm 80 13).toNat (land (mm 100 (67 * j + mm 80 13).toNat) (lxor (lshl 1 b) (-1)))) 80 12 (mm 80 12 - 1) 80 12 = mm 80 12 - 1 := aup_self _ _ _ _
    have e100 : aup (aup mm 100 (67 * j + mm 80 13).toNat (land (mm 100 (67 * j + mm 80 13).toNat) (lxor (lshl 1 b) (-1)))) 80 12 (mm 80 12 - 1) 100 (67 * j + mm 80 13).toNat = land (mm 100 (67 * j + mm 80 13).toNat) (lxor (lshl 1 b) (-1)) := by rw [aup_of (by omega), aup_self]
    generalize aup (aup mm 100 (67 * j + mm 80 13).toNat (land (mm 100 (67 * j + mm 80 13).toNat) (lxor (lshl 1 b) (-1)))) 80 12 (mm 80 12 - 1) = m2 at f2 e12 e100 ⊢
    have bit : ∀ i, (mLb (m2 100 (67 * j + mm 80 13).toNat)).testBit i = ((mLb (mm 100 (67 * j + mm 80 13).toNat)).testBit i && !decide (b.toNat = i)) := fun i => by rw [e100]; exact land_not b0 b1 i
    have bc := mBp_clr (x := mm 100 (67 * j + mm 80 13).toNat) (y := m2 100 (67 * j + mm 80 13).toNat) b0 b1 bt bit
    have e13 : m2 80 13 = mm 80 13 := f2 _ _ (by omega) (by omega)
    have w2 : m2 80 12 = mPb m2 := by
      rw [mPb_upd (m := mm) (m' := m2) (k := (67 * j + mm 80 13).toNat) (d := -1) (by omega) (by omega) (f2 _ _ (by omega) (by omega)) (fun i a => f2 _ _ (by omega) (by omega)) (by rw [bc]; omega), e12, w1]
      omega
    -- the state that goes
    have sS : mPd mm j (64 * mm 80 13 + b) := by
      unfold mPd
      rw [show (64 * mm 80 13 + b) / 64 = mm 80 13 by omega, show (64 * mm 80 13 + b) % 64 = b by omega]
      exact bt
    have key : ∀ jj t : Int, 0 ≤ jj → jj < 8 → 0 ≤ t → t < 4288 → (mPd m2 jj t ↔ mPd mm jj t ∧ ¬(jj = j ∧ t = 64 * mm 80 13 + b)) := by
      intro jj t a1 a2 a3 a4
      unfold mPd
      by_cases e : (67 * jj + t / 64).toNat = (67 * j + mm 80 13).toNat
      · rw [e, bit, Bool.and_eq_true, Bool.not_eq_true', decide_eq_false_iff_not]
        constructor
        · rintro ⟨g1, g2⟩; exact ⟨g1, fun g => g2 (by omega)⟩
        · rintro ⟨g1, g2⟩; exact ⟨g1, fun g => g2 (by omega)⟩
      · rw [f2 _ _ (by omega) (by omega)]
        exact ⟨fun g => ⟨g, fun h => e (by rw [h.1, h.2]; congr 1; omega)⟩, fun g => g.1⟩
    have zz : ∀ t : Int, 0 ≤ t → t / 64 < mm 80 13 → ¬ mPd m2 j t := fun t a c g => z1 t a c ((key j t j0.1 j0.2 a (by omega)).mp g).1
    rw [e13, if_pos (by omega), f2 101 _ (by omega) (by omega), fr 101 _ (by omega) (by omega)]
    by_cases y : land (m 101 (mm 80 13).toNat) (lshl 1 b) = 0
    · rw [if_pos y, st1e, ntz_shl b0 b1, Option.bind_some, aup_of (by omega), e13, w32e (x := mm 80 13 * 64) (by omega) (by omega), w32e (by omega) (by omega), show mm 80 13 * 64 + b = 64 * mm 80 13 + b by omega]
      have ys := (land_shl b0 b1).mp y
      have ns : ¬ mSn m (64 * mm 80 13 + b) := fun g => by
        unfold mSn at g
        rw [show (64 * mm 80 13 + b) / 64 = mm 80 13 by omega, show (64 * mm 80 13 + b) % 64 = b by omega, ys] at g
        exact absurd g (by decide)
      have f3 : ∀ q i, ¬(q = 101 ∧ i = (mm 80 13).toNat) → aup m2 101 (mm 80 13).toNat (lor (m 101 (mm 80 13).toNat) (lshl 1 b)) q i = m2 q i := fun q i a => aup_of (by omega)
      have e101 : aup m2 101 (mm 80 13).toNat (lor (m 101 (mm 80 13).toNat) (lshl 1 b)) 101 (mm 80 13).toNat = lor (m 101 (mm 80 13).toNat) (lshl 1 b) := aup_self _ _ _ _
      generalize aup m2 101 (mm 80 13).toNat (lor (m 101 (mm 80 13).toNat) (lshl 1 b)) = m3 at f3 e101 ⊢
      have pd3 : ∀ jj t, mPd m3 jj t ↔ mPd m2 jj t := fun jj t => by unfold mPd; rw [f3 100 _ (by omega)]
      have sn3 : ∀ t : Int, 0 ≤ t → t < 4288 → (mSn m3 t ↔ mSn m t ∨ t = 64 * mm 80 13 + b) := by
        intro t t0 t1
        unfold mSn
        by_cases e : (t / 64).toNat = (mm 80 13).toNat
        · rw [e, e101, lor_shl b0 b1, Bool.or_eq_true, decide_eq_true_eq]
          constructor
          · rintro (g | g)
            · exact Or.inl g
            · exact Or.inr (by omega)
          · rintro (g | g)
            · exact Or.inl g
            · exact Or.inr (by omega)
        · rw [f3 _ _ (by omega), f2 _ _ (by omega) (by omega), fr _ _ (by omega) (by omega)]
          exact ⟨Or.inl, fun g => g.elim id (fun g => absurd (by rw [g]; congr 1; omega) e)⟩
      refine mOk_some ⟨fun jj t a1 a2 a3 a4 g => ?_, fun jj t a1 a2 a3 a4 g => ?_, ?_, fun q i a1 a2 a3 => ?_, Or.inr ⟨by dsimp only; omega, by dsimp only; omega, ?_, ns, sn3, ?_, by dsimp only; omega, fun t a1 a2 g => ?_⟩⟩
      · exact p1 jj t a1 a2 a3 a4 ((key jj t a1 a2 a3 a4).mp ((pd3 jj t).mp g)).1
      · dsimp only
        rcases p2 jj t a1 a2 a3 a4 g with h | h
        · by_cases u : jj = j ∧ t = 64 * mm 80 13 + b
          · exact Or.inr ⟨u.1, (sn3 t a3 a4).mpr (Or.inr u.2)⟩
          · exact Or.inl ((pd3 jj t).mpr ((key jj t a1 a2 a3 a4).mpr ⟨h, u⟩))
        · exact Or.inr ⟨h.1, (sn3 t a3 a4).mpr (Or.inl h.2)⟩
      · dsimp only
        rw [f3 _ _ (by omega), mPb_c (m := m2) (funext fun i => f3 _ _ (by omega)) (f3 _ _ (by omega))]
        exact w2
      · dsimp only
        rw [f3 _ _ (by omega), f2 _ _ (by omega) (by omega)]; exact fr q i a1 (by omega)
      · exact p1 j _ j0.1 j0.2 (by dsimp only; omega) (by dsimp only; omega) sS
      · dsimp only
        rw [f3 _ _ (by omega), e13]; omega
      · dsimp only at a2
        exact zz t a1 (by omega) ((pd3 j t).mp g)
    · rw [if_neg y]
      unfold Twins_pop_82
      rw [w32e (by omega) (by omega)]
      have ys : mSn m (64 * mm 80 13 + b) := by
        unfold mSn
        rw [show (64 * mm 80 13 + b) / 64 = mm 80 13 by omega, show (64 * mm 80 13 + b) % 64 = b by omega]
        cases e : (mLb (m 101 (mm 80 13).toNat)).testBit b.toNat with
        | true => rfl
        | false => exact absurd ((land_shl b0 b1).mpr e) y
      refine ih _ _ ⟨by rw [e13, bc]; omega, by omega, fun jj t a1 a2 a3 a4 g => p1 jj t a1 a2 a3 a4 ((key jj t a1 a2 a3 a4).mp g).1, fun jj t a1 a2 a3 a4 g => ?_, fun t a1 a2 => zz t a1 (by omega), w2, fun q i a c => by rw [f2 q i (by omega) (by omega)]; exact fr q i a c⟩ (by omega)
      rcases p2 jj t a1 a2 a3 a4 g with h | h
      · by_cases u : jj = j ∧ t = 64 * mm 80 13 + b
        · exact Or.inr ⟨u.1, by rw [u.2]; exact ys⟩
        · exact Or.inl ((key jj t a1 a2 a3 a4).mpr ⟨h, u⟩)
      · exact Or.inr h
