/-! STOPS: both say the same, and stops behind all kinds are enough -/
theorem zG_eq {X : aM} {A : Nat → Int} {Z : Int} (hA : mVx A) (h : mZA X A Z) : (∃ n, xG X 0 n) ↔ ¬ mSur A 0 0 Z := by
  have h' := h
  obtain ⟨h1, h2, h3, h4⟩ := h
  have gl : ∀ w i : Int, (0 ≤ w ∧ w < A 18) → 0 ≤ i → i < 6 → i + 1 = A (19 + w).toNat → xe X (xk X w) → mPv3 A (6 * w + i) ∧ mEn A (6 * w + i) ∧ mKe A (A (45 + (6 * w + i) / 6).toNat) := by
    intro w i w0 i0 i6 el e
    have kk := hA.2.1 w w0.1 w0.2
    refine ⟨pv_z w0 (by omega) i6, ?_, ?_⟩
    · unfold mEn; rw [show (6 * w + i) / 6 = w by omega, show (6 * w + i) % 6 = i by omega]; exact el
    · rw [show (6 * w + i) / 6 = w by omega]
      rw [(h2 w w0.1 w0.2).1] at e
      exact (h4 _ kk.2.1.1 kk.2.1.2).mp e
  constructor
  · rintro ⟨n, w, i, v, j, e, f, hx, hi, hj, e1, e2⟩ su
    obtain ⟨-, w0, v0, cs⟩ := zR_to hA h' n w i v j e f hx
    have lw := (hA.2.1 w w0.1 w0.2).1
    have lv := (hA.2.1 v v0.1 v0.2).1
    obtain ⟨-, -, a3⟩ := h2 w w0.1 w0.2
    obtain ⟨-, -, b3⟩ := h2 v v0.1 v0.2
    rcases cs with ⟨⟨ci, cj, zw, zv⟩, n', q⟩ | ⟨⟨i0, j0⟩, q⟩
    · obtain ⟨g1, g2⟩ := gl w (i - 1) w0 (by omega) (by omega) (by omega) e1
      obtain ⟨k1, k2⟩ := gl v (j - 1) v0 (by omega) (by omega) (by omega) e2
      exact su n' _ q ⟨_, _, 0, 0, rfl, ⟨g1, k1, by omega, by omega⟩, g2, k2⟩
    · have nw : ¬ zS A Z w ∧ i + 1 = A (19 + w).toNat := by
        rcases a3 with c | c
        · exact ⟨c.1, by omega⟩
        · omega
      have nv : ¬ zS A Z v ∧ j + 1 = A (19 + v).toNat := by
        rcases b3 with c | c
        · exact ⟨c.1, by omega⟩
        · omega
      obtain ⟨n', q'⟩ := q ⟨fun g => absurd ((sp_z w0.1 (by omega)).mp g).2 nw.1, fun g => absurd ((sp_z v0.1 (by omega)).mp g).2 nv.1⟩
      obtain ⟨g1, g2⟩ := gl w i w0 (by omega) (by omega) nw.2 e1
      obtain ⟨k1, k2⟩ := gl v j v0 (by omega) (by omega) nv.2 e2
      exact su n' _ q' ⟨_, _, 0, 0, rfl, ⟨g1, k1, by omega, by omega⟩, g2, k2⟩
  · intro ns
    refine Classical.byContradiction (fun no => ns (fun n s q g => no ?_))
    obtain ⟨a, b, e, f, rfl, ⟨pa, pb, he, hf⟩, ⟨ea, ka⟩, ⟨eb, kb⟩⟩ := g
    have ba := mPv3_bd hA pa
    have bb := mPv3_bd hA pb
    have pr := mPr_bd ba bb (e := e) (f := f) (by omega) (by omega)
    rcases zR_of hA h' n _ q with g | g | ⟨w, i, v, j, i', j', n', es, ⟨w0, v0, i0, j0⟩, sp, hx, hi⟩
    · omega
    · have := mPv3_bd hA g
      omega
    · have lw := hA.2.1 w w0.1 w0.2
      have lv := hA.2.1 v v0.1 v0.2
      obtain ⟨y1, y2, -, -⟩ := mPr_inj ba bb (by omega) (by omega) (mPv3_bd hA (pv_z w0 i0 (by omega))) (mPv3_bd hA (pv_z v0 j0 (by omega))) (by omega) (by omega) es
      obtain ⟨a1, -, a3⟩ := h2 w w0.1 w0.2
      obtain ⟨b1, -, b3⟩ := h2 v v0.1 v0.2
      unfold mEn at ea eb
      rw [y1, show (6 * w + i) / 6 = w by omega] at ea ka
      rw [y2, show (6 * v + j) / 6 = v by omega] at eb kb
      rw [show (6 * w + i) % 6 = i by omega] at ea
      rw [show (6 * v + j) % 6 = j by omega] at eb
      rw [sp_z w0.1 (by omega), sp_z v0.1 (by omega)] at sp
      rw [sp_z w0.1 (by omega)] at hi
      refine ⟨n', w, i', v, j', 0, 0, hx, ?_, ?_, ?_, ?_⟩
      · rcases hi with g | g
        · rcases a3 with c | c
          · exact absurd g.1.2 c.1
          · omega
        · rcases a3 with c | c
          · omega
          · exact absurd ⟨ea, c.1⟩ g.1
      · rcases hi with g | g
        · rcases b3 with c | c
          · exact absurd (sp.mp g.1).2 c.1
          · omega
        · rcases b3 with c | c
          · omega
          · exact absurd (sp.mpr ⟨eb, c.1⟩) g.1
      · rw [a1]; exact (h4 _ lw.2.1.1 lw.2.1.2).mpr ka
      · rw [b1]; exact (h4 _ lv.2.1.1 lv.2.1.2).mpr kb
theorem z15 {X : aM} {A : Nat → Int} (ht : mTok A) (h : mZA X A 15) : ∀ (n : Nat) (w i v j e f : Int), xR X 0 n w i v j e f → (w ≠ v ∧ (0 ≤ w ∧ w < A 18) ∧ (0 ≤ v ∧ v < A 18)) ∧ i = j ∧ (0 ≤ i ∧ i < A (19 + w).toNat ∧ i < A (19 + v).toNat) ∧ (e = 0 ∧ f = 0) ∧ ∀ k : Int, 0 ≤ k → k ≤ i → xs X w k = xs X v k := by
  have c5 := ht.2.2.2.2.2.1
  have c6 := ht.2.2.2.2.2.2.1
  have c0 := ht.1
  obtain ⟨h1, h2, -, -⟩ := h
  have z : ∀ w : Int, 0 ≤ w → w < A 18 → zS A 15 w := fun w a b => by
    have d3 := (c5 w a b).2.2.1
    have b1 := bt_neg4 (a := 0) (k := A (45 + w).toNat) (by omega) (by omega) d3.1 d3.2
    have b2 := bt_0 (k := A (45 + w).toNat) d3.1 (by omega)
    unfold zS
    rw [show (15 : Int) - 0 = 15 by omega] at b1
    omega
  have xlw : ∀ w : Int, 0 ≤ w → w < A 18 → xl X w = A (19 + w).toNat + 1 ∧ xs X w (A (19 + w).toNat) = 8 := fun w a b => by
    rcases (h2 w a b).2.2 with g | g
    · exact absurd (z w a b) g.1
    · exact g.2
  have snd : ∀ w i : Int, 0 ≤ w → w < A 18 → 0 ≤ i → i < A (19 + w).toNat → xs X w i < 8 := fun w i a b c d => by
    rw [(h2 w a b).2.1 i c d]
    have := (c5 w a b).2.2.2 i c d
    omega
  intro n
  induction n with
  | zero =>
    rintro w i v j e f ⟨aw, av, ne, rfl, rfl, hr⟩
    have w0 := (h1 w).mp aw
    have v0 := (h1 v).mp av
    have lw := (c5 w w0.1 w0.2).1
    have lv := (c5 v v0.1 v0.2).1
    obtain ⟨r1, r2, r3⟩ := xHr_0.mp hr
    refine ⟨⟨ne, w0, v0⟩, rfl, ⟨by omega, by omega, by omega⟩, ⟨r2, r3⟩, fun k k0 k1 => ?_⟩
    rw [show k = 0 by omega]; exact r1
  | succ n ih =>
    rintro w1 i1 v1 j1 e1 f1 ⟨w, i, v, j, e, f, hx, sw, sv, hr⟩
    obtain ⟨⟨ne, w0, v0⟩, rfl, ⟨i0, iw, iv⟩, ⟨rfl, rfl⟩, eq⟩ := ih w i v j e f hx
    obtain ⟨r1, r2, r3⟩ := xHr_0.mp hr
    have lw := xlw w w0.1 w0.2
    have lv := xlw v v0.1 v0.2
    rcases sw with ⟨-, rfl, rfl⟩ | ⟨g, -⟩
    rotate_left
    · omega
    rcases sv with ⟨-, rfl, rfl⟩ | ⟨g, -⟩
    rotate_left
    · omega
    have same : ∀ w v : Int, (0 ≤ w ∧ w < A 18) → (0 ≤ v ∧ v < A 18) → w < v → i + 1 = A (19 + w).toNat → i + 1 = A (19 + v).toNat → (∀ k : Int, 0 ≤ k → k ≤ i → xs X w k = xs X v k) → False := by
      intro w v w0 v0 lt e1 e2 eq
      obtain ⟨k, k0, k1, k2⟩ := c6 w v w0.1 lt v0.2 (by omega)
      have := eq k k0 (by omega)
      rw [(h2 w w0.1 w0.2).2.1 k k0 k1, (h2 v v0.1 v0.2).2.1 k k0 (by omega)] at this
      exact k2 this
    have key : i + 1 < A (19 + w1).toNat ∧ i + 1 < A (19 + v1).toNat := by
      by_cases a : i + 1 = A (19 + w1).toNat
      · exfalso
        rw [a, lw.2] at r1
        by_cases b : i + 1 = A (19 + v1).toNat
        · have : w1 < v1 ∨ v1 < w1 := by omega
          rcases this with g | g
          · exact same w1 v1 w0 v0 g a b eq
          · exact same v1 w1 v0 w0 g b a (fun k k0 k1 => (eq k k0 k1).symm)
        · have := snd v1 (i + 1) v0.1 v0.2 (by omega) (by omega)
          rw [a] at this
          omega
      · by_cases b : i + 1 = A (19 + v1).toNat
        · exfalso
          have := snd w1 (i + 1) w0.1 w0.2 (by omega) (by omega)
          rw [r1, b, lv.2] at this
          omega
        · omega
    refine ⟨⟨ne, w0, v0⟩, rfl, ⟨by omega, key.1, key.2⟩, ⟨r2, r3⟩, fun k k0 k1 => ?_⟩
    by_cases a : k = i + 1
    · rw [a]; exact r1
    · exact eq k k0 (by omega)
theorem ldz_v {A : Nat → Int} {Z : Int} {X : aM} (ht : mTok A) (h : mLd A Z X) : mTv X := by
  have c0 := ht.1
  have c4 := ht.2.2.2.2.1
  have ob := ones_bits (W := A 18) c4.1 (by omega)
  have c8 := ht.2.2.2.2.2.2.2.2.1
  refine ⟨by rw [h.2.1]; exact ob.1, fun w aw => ?_, fun k k0 k1 => ?_, by rw [h.2.2.1]; omega⟩
  · obtain ⟨w0, w1⟩ := (ld_a ht h).mp aw
    obtain ⟨d1, -, d3, d4⟩ := ht.2.2.2.2.2.1 w w0 w1
    obtain ⟨g1, g2, g3⟩ := h.2.2.2.2.2 w w0 w1
    refine ⟨by unfold xl; rcases g3 with g | g <;> omega, by unfold xk; omega, fun k k0 k1 => ?_⟩
    unfold xl at k1
    unfold xs
    by_cases c : k < A (19 + w).toNat
    · rw [g2 k k0 c]
      have := d4 k k0 c
      omega
    · rcases g3 with g | g
      · omega
      · rw [show k = A (19 + w).toNat by omega, g.2.2]; omega
  · have := ht.2.2.2.2.2.2.2.1 k k0 k1
    rw [h.2.2.2.2.1 k k0 k1]
    omega
theorem ldz_a {A A' : Nat → Int} {Z : Int} {X : aM} (ht : mTok A) (ha : mAeqT A A') (h : mLd A Z X) : mZA X A' Z := by
  have c4 := ht.2.2.2.2.1
  have e18 := ha.w c4.1
  have a45 : ∀ w : Int, 0 ≤ w → w < A 18 → A' (45 + w).toNat = A (45 + w).toNat := fun w w0 w1 => ha _ (by omega) (by omega) (by omega) (by omega)
  have a19 : ∀ w : Int, 0 ≤ w → w < A 18 → A' (19 + w).toNat = A (19 + w).toNat := fun w w0 w1 => ha _ (by omega) (by omega) (by omega) (by omega)
  unfold mZA zS
  rw [e18]
  refine ⟨fun w => ld_a ht h, fun w w0 w1 => ?_, fun k w k0 k1 w0 w1 => ?_, fun k k0 k1 => ?_⟩
  · have d1 := (ht.2.2.2.2.2.1 w w0 w1).1
    rw [a45 w w0 w1, a19 w w0 w1]
    obtain ⟨g1, g2, g3⟩ := h.2.2.2.2.2 w w0 w1
    have b01 := bt_01 (a := Z) (k := A (45 + w).toNat)
    refine ⟨g1, fun k k0 k1 => ?_, ?_⟩
    · rw [ha (58 + 6 * w + k).toNat (by omega) (by omega) (by omega) (by omega)]; exact g2 k k0 k1
    · rcases g3 with g | g
      · exact Or.inl ⟨by omega, g.2⟩
      · exact Or.inr ⟨by omega, g.2.1, g.2.2⟩
  · rw [ld_f ht h k0 k1 w0 w1]
    unfold mKs
    rw [a45 w w0 w1, ha (136 + k).toNat (by omega) (by omega) (by omega) (by omega)]
  · rw [ld_e ht h k0 k1]
    unfold mKe
    rw [ha 140 (by omega) (by omega) (by omega) (by omega)]
/-- what the class says with stops -/
theorem shz_ok {A : Nat → Int} {Z : Int} {X : aM} (ht : mTok A) (h : mLd A Z X) : mOk (Twins_shortest 0 X) (fun r => mFt X r.2 ∧ ∀ A', mAeqT A A' → (r.1 = -1 ↔ mSur A' 0 0 Z)) := by
  have hv := ldz_v ht h
  refine mOk_mono (shortest_ok (Or.inl rfl) hv) (fun r k => ⟨k.1, fun A' ha => ?_⟩)
  have l := mLst_no (shortest_ans hv (Or.inl rfl) k.2)
  have g := zG_eq (mVx_of ht ha) (ldz_a ht ha h)
  have : (∃ n, xG X 0 n) ↔ ¬ r.1 = -1 := by
    rw [l]
    constructor
    · rintro ⟨n, hn⟩ no
      obtain ⟨k, s, q, z⟩ := xG_to hv (Or.inl rfl) (Or.inl rfl) hn
      exact no (n + 1) ⟨k, s, by rw [Int.natCast_add]; exact q, z⟩
    · intro no
      refine Classical.byContradiction (fun n2 => no (fun L ⟨k, s, q, z⟩ => n2 ?_))
      obtain ⟨n, -, hn⟩ := xG_of hv (Or.inl rfl) (Or.inl rfl) q z
      exact ⟨n, hn⟩
  rw [this] at g
  constructor
  · intro e; exact Classical.byContradiction (fun q => (g.mpr q) e)
  · intro q; exact Classical.byContradiction (fun e => (g.mp e) q)
theorem sure15 {A : Nat → Int} {m : aM} (ht : mTok A) (hr : mTR 25 47 A m) : ∀ A', mAeqT A A' → mSur A' 0 0 15 := by
  intro A' ha
  obtain ⟨X, -, ld, -⟩ := load_ok (Z := 15) ht hr
  refine Classical.byContradiction (fun ns => ?_)
  obtain ⟨n, w, i, v, j, e, f, hx, hi, hj, -, -⟩ := (zG_eq (mVx_of ht ha) (ldz_a ht ha ld)).mpr ns
  have za := ldz_a ht (mAeqT.refl A) ld
  obtain ⟨⟨ne, w0, v0⟩, -, ⟨i0, i1, -⟩, -⟩ := z15 ht za n w i v j e f hx
  have d3 := (ht.2.2.2.2.2.1 w w0.1 w0.2).2.2.1
  have b1 := bt_neg4 (a := 0) (k := A (45 + w).toNat) (by omega) (by omega) d3.1 d3.2
  have b2 := bt_0 (k := A (45 + w).toNat) d3.1 (by omega)
  rw [show (15 : Int) - 0 = 15 by omega] at b1
  rcases (za.2.1 w w0.1 w0.2).2.2 with g | g
  · exact g.1 (by unfold zS; omega)
  · omega
