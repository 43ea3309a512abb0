/-! THE CLASS'S SEARCH: its begin -/
theorem fillLR_ok {x0 : Nat} {a b v : Int} {m : aM} (a0 : 0 ≤ a) (ab : a ≤ b) (bl : b ≤ (aln x0 : Nat)) (hl : aln x0 < 100000) : mOk (Jarr_fillLR x0 a b v m) (fun m' => (∀ k : Int, a ≤ k → k < b → m' x0 k.toNat = v) ∧ ∀ (q i : Nat), ¬(q = x0 ∧ a ≤ (i : Int) ∧ (i : Int) < b) → m' q i = m q i) := by
  unfold Jarr_fillLR Jarr_rangeCheck
  rw [if_neg (by omega), if_neg (by omega), if_neg (by omega), Option.bind_some]
  refine mL2 (Jarr_fillLR_7 x0 b v) (fun x mm => (a ≤ x ∧ x ≤ b) ∧ (∀ k : Int, a ≤ k → k < x → mm x0 k.toNat = v) ∧ ∀ (q i : Nat), ¬(q = x0 ∧ a ≤ (i : Int) ∧ (i : Int) < b) → mm q i = m q i) (fun x _ => (b - x).toNat) ?_ a m ⟨by omega, fun k x y => by omega, fun _ _ _ => rfl⟩ (by omega)
  rintro fu x mm ⟨x1, h1, fr⟩ ih
  rw [Jarr_fillLR_7]
  by_cases c : x < b
  · rw [if_pos c, if_pos (by omega), st1e, w32e (by omega) (by omega)]
    refine ih _ _ ⟨by omega, fun k k0 k1 => ?_, fun q i h => by rw [aup_of (by omega)]; exact fr q i h⟩ (by omega)
    by_cases e : k = x
    · rw [e, aup_self]
    · rw [aup_of (by omega)]; exact h1 k k0 (by omega)
  · rw [if_neg c]
    exact mOk_some ⟨fun k k0 k1 => h1 k k0 (by omega), fr⟩
theorem allow_ok {w : Int} {m : aM} (w0 : 0 ≤ w) (w1 : w < 13) (hb : ∀ k : Int, 0 ≤ k → k < 4 → 0 ≤ m 99 k.toNat ∧ m 99 k.toNat < 8192) : mOk (Twins_allow w m) (fun m' => (∀ k : Int, 0 ≤ k → k < 4 → (0 ≤ m' 99 k.toNat ∧ m' 99 k.toNat < 8192) ∧ ∀ i : Nat, (m' 99 k.toNat).toNat.testBit i = true ↔ (m 99 k.toNat).toNat.testBit i = true ∨ ((i : Int) = w ∧ xf m k w)) ∧ ∀ q i, q ≠ 99 → m' q i = m q i) := by
  unfold Twins_allow
  refine mL2 (Twins_allow_2 w) (fun x mm => (0 ≤ x ∧ x ≤ 4) ∧ (∀ k : Int, 0 ≤ k → k < x → (0 ≤ mm 99 k.toNat ∧ mm 99 k.toNat < 8192) ∧ ∀ i : Nat, (mm 99 k.toNat).toNat.testBit i = true ↔ (m 99 k.toNat).toNat.testBit i = true ∨ ((i : Int) = w ∧ xf m k w)) ∧ (∀ k : Int, x ≤ k → k < 4 → mm 99 k.toNat = m 99 k.toNat) ∧ ∀ q i, q ≠ 99 → mm q i = m q i) (fun x _ => (5 - x).toNat) ?_ 0 m ⟨by omega, fun k a b => by omega, fun k a b => rfl, fun _ _ _ => rfl⟩ (by omega)
  rintro fu x mm ⟨x1, h1, h2, fr⟩ ih
  rw [Twins_allow_2]
  by_cases c : x < 4
  · rw [if_pos c, if_pos (by omega), if_pos ⟨w0, w1⟩, fr 97 _ (by omega), fr 96 _ (by omega), h2 x (by omega) c]
    unfold Twins_allow_27
    rw [w32e (by omega) (by omega)]
    have bx := hb x x1.1 c
    by_cases y : iand (ishr (m 97 x.toNat) (m 96 w.toNat)) 1 = 0
    · rw [if_pos y]
      refine ih _ _ ⟨by omega, fun k a b => ?_, fun k a b => h2 k (by omega) b, fr⟩ (by omega)
      by_cases e : k = x
      · rw [e, h2 x (by omega) c]
        refine ⟨bx, fun i => ⟨Or.inl, fun g => g.elim id (fun g => absurd y g.2)⟩⟩
      · exact h1 k a (by omega)
    · rw [if_neg y, st1e]
      obtain ⟨⟨o1, o2⟩, o3⟩ := ior_bit (x := m 99 x.toNat) (c := w) (B := 13) bx.1 (show (m 99 x.toNat).toNat < 8192 by omega) w0 (by omega) (by omega)
      have o2' : (ior (m 99 x.toNat) (ishl 1 w)).toNat < 8192 := o2
      refine ih _ _ ⟨by omega, fun k a b => ?_, fun k a b => by rw [aup_of (by omega)]; exact h2 k (by omega) b, fun q i a => by rw [aup_of (by omega)]; exact fr q i a⟩ (by omega)
      by_cases e : k = x
      · rw [e, aup_self]
        refine ⟨by omega, fun i => ?_⟩
        rw [o3, Bool.or_eq_true, decide_eq_true_eq]
        constructor
        · rintro (g | g)
          · exact Or.inl g
          · exact Or.inr ⟨by omega, y⟩
        · rintro (g | g)
          · exact Or.inl g
          · exact Or.inr (by omega)
      · rw [aup_of (by omega)]; exact h1 k a (by omega)
  · rw [if_neg c]
    exact mOk_some ⟨fun k a b => h1 k a (by omega), fr⟩
def mSt3 (X : aM) (M w : Int) : Int := mOd M w (xl X w) 4 0 0
theorem begin_ok {M : Int} {m : aM} (hM : mM3 M) (hv : mTv m) : mOk (Twins_begin M m) (fun m' => mTq m M m' ∧ m' 80 12 = mPb m' ∧ m' 80 16 = 0 ∧ (∀ s : Int, 0 ≤ s → s / 64 < m' 80 11 → ¬ mSn m' s) ∧ (∀ j s : Int, 0 ≤ j → j < 8 → 0 ≤ s → s / 64 < m' 80 11 → mPd m' j s → j = 0 ∧ ∃ w, xa m w ∧ s = mSt3 m M w) ∧ (∀ w, xa m w → mPd m' 0 (mSt3 m M w)) ∧ ∀ q i, q ≠ 99 → q ≠ 100 → q ≠ 101 → ¬(q = 80 ∧ (i = 9 ∨ i = 10 ∨ i = 11 ∨ i = 12 ∨ i = 16)) → m' q i = m q i) := by
  have cb := mC_bd hM
  have hm : M = 0 ∨ M = 1 ∨ M = 2 := hM
  unfold Twins_begin
  have e1 : w32 (w32 (M + 1) * w32 (M + 1)) = (M + 1) * (M + 1) := by rw [w32e (x := M + 1) (by omega) (by omega), w32e (by omega) (by omega)]
  rw [st1e, aup_self, e1, st1e, aup_self, w32e (x := 471 * ((M + 1) * (M + 1))) (by omega) (by omega), w32e (x := 471 * ((M + 1) * (M + 1)) + 63) (by omega) (by omega), tdiv_nn (by omega), w32e (x := (471 * ((M + 1) * (M + 1)) + 63) / 64) (by omega) (by omega), st1e, st1e, st1e]
  generalize hC : (M + 1) * (M + 1) = C at *
  generalize hm5 : aup (aup (aup (aup (aup m 80 9 M) 80 10 C) 80 11 ((471 * C + 63) / 64)) 80 12 0) 80 16 0 = m5
  have f5 : ∀ q i, ¬(q = 80 ∧ (i = 9 ∨ i = 10 ∨ i = 11 ∨ i = 12 ∨ i = 16)) → m5 q i = m q i := fun q i a => by rw [← hm5, aup_of (by omega), aup_of (by omega), aup_of (by omega), aup_of (by omega), aup_of (by omega)]
  have v9 : m5 80 9 = M := by rw [← hm5, aup_of (by omega), aup_of (by omega), aup_of (by omega), aup_of (by omega), aup_self]
  have v10 : m5 80 10 = C := by rw [← hm5, aup_of (by omega), aup_of (by omega), aup_of (by omega), aup_self]
  have v11 : m5 80 11 = (471 * C + 63) / 64 := by rw [← hm5, aup_of (by omega), aup_of (by omega), aup_self]
  have v12 : m5 80 12 = 0 := by rw [← hm5, aup_of (by omega), aup_self]
  have v16 : m5 80 16 = 0 := by rw [← hm5, aup_self]
  clear hm5
  rw [v11]
  generalize hsp : (471 * C + 63) / 64 = sp at *
  have spb : 8 ≤ sp ∧ sp ≤ 67 := by omega
  refine mOk_bind (fillLR_ok (by omega) (by omega) (by rw [show aln 101 = 67 by decide]; omega) (by decide)) (fun m6 k6 => ?_)
  obtain ⟨z6, f6⟩ := k6
  -- what waits is cleared
  refine mL2 Twins_begin_39 (fun x mm => (0 ≤ x ∧ x ≤ 8) ∧ (∀ j c : Int, 0 ≤ j → j < x → 0 ≤ c → c < sp → mm 100 (67 * j + c).toNat = 0) ∧ ∀ q i, q ≠ 100 → mm q i = m6 q i) (fun x _ => (9 - x).toNat) ?_ 0 m6 ⟨by omega, fun j c a b => by omega, fun _ _ _ => rfl⟩ (by omega)
  rintro fu x mm ⟨x1, zx, fx⟩ ih
  rw [Twins_begin_39]
  by_cases c : x < 8
  · rw [if_pos c, fx 80 11 (by omega), f6 80 11 (by omega), v11, w32e (x := x * 67) (by omega) (by omega), w32e (x := x * 67 + sp) (by omega) (by omega)]
    refine mOk_bind (fillLR_ok (by omega) (by omega) (by rw [show aln 100 = 536 by decide]; omega) (by decide)) (fun m7 k7 => ?_)
    obtain ⟨z7, f7⟩ := k7
    rw [w32e (by omega) (by omega)]
    refine ih _ _ ⟨by omega, fun j c' a b d e => ?_, fun q i a => by rw [f7 q i (by omega)]; exact fx q i a⟩ (by omega)
    by_cases ej : j = x
    · exact z7 _ (by omega) (by omega)
    · rw [f7 _ _ (by omega)]; exact zx j c' a (by omega) d e
  rw [if_neg c]
  refine mOk_bind (fillI_ok (by decide)) (fun m8 k8 => ?_)
  obtain ⟨z8, f8⟩ := k8
  rw [show aln 99 = 4 by decide] at z8 f8
  have f8' : ∀ q i, q ≠ 99 → q ≠ 100 → q ≠ 101 → m8 q i = m5 q i := fun q i a b d => by rw [f8 q i (by omega), fx q i b, f6 q i (by omega)]
  have w11 : m8 80 11 = sp := by rw [f8' _ _ (by omega) (by omega) (by omega)]; exact v11
  have z100 : ∀ j c' : Int, 0 ≤ j → j < 8 → 0 ≤ c' → c' < sp → m8 100 (67 * j + c').toNat = 0 := fun j c' a b d e => by rw [f8 _ _ (by omega)]; exact zx j c' a (by omega) d e
  have lb0 : mLb 0 = 0 := rfl
  have np : ∀ j s : Int, 0 ≤ j → j < 8 → 0 ≤ s → s / 64 < sp → ¬ mPd m8 j s := by
    intro j s a b d e h
    unfold mPd at h
    rw [z100 j (s / 64) a b (by omega) e, lb0, Nat.zero_testBit] at h
    exact absurd h (by decide)
  have ns : ∀ s : Int, 0 ≤ s → s / 64 < sp → ¬ mSn m8 s := by
    intro s a b h
    unfold mSn at h
    rw [f8 _ _ (by omega), fx _ _ (by omega), z6 (s / 64) (by omega) b, lb0, Nat.zero_testBit] at h
    exact absurd h (by decide)
  have bp0 : mBp 0 = 0 := by decide +kernel
  have w12 : m8 80 12 = mPb m8 := by
    rw [f8' _ _ (by omega) (by omega) (by omega), v12]
    unfold mPb
    rw [w11, mSum_congr (g := fun _ => 0) (fun i i0 i1 => ?_), mSum_zero]
    by_cases y : i % 67 < sp
    · have := z100 (i / 67) (i % 67) (by omega) (by omega) (by omega) y
      rw [show 67 * (i / 67) + i % 67 = i by omega] at this
      rw [if_pos y, this, bp0]
    · rw [if_neg y]
  have fe8 : ∀ q i, q ≠ 99 → q ≠ 100 → q ≠ 101 → ¬(q = 80 ∧ (i = 9 ∨ i = 10 ∨ i = 11 ∨ i = 12 ∨ i = 16)) → m8 q i = m q i := fun q i a b d e => by rw [f8' q i a b d, f5 q i e]
  have stb : ∀ w, xa m w → 0 ≤ mSt3 m M w ∧ mSt3 m M w < 471 * C := by
    intro w aw
    have l := (hv.2.1 w aw).1
    have hM' : mM3 M := hM
    have := mOd_bd hM' ⟨aw.1, aw.2.1⟩ (out := xl m w) (kb := 4) (e := 0) (f := 0) (by omega) (by omega) (by omega) (by omega)
    unfold mSt3
    omega
  -- word by word
  refine mL2 Twins_begin_63 (fun x mm => (0 ≤ x ∧ x ≤ 13) ∧ (∀ k : Int, 0 ≤ k → k < 4 → (0 ≤ mm 99 k.toNat ∧ mm 99 k.toNat < 8192) ∧ ∀ i : Nat, (mm 99 k.toNat).toNat.testBit i = true ↔ ((i : Int) < x ∧ xa m i ∧ xf m k i)) ∧ mm 80 12 = mPb mm ∧ (∀ j s : Int, 0 ≤ j → j < 8 → 0 ≤ s → s < 4288 → s / 64 < sp → mPd mm j s → j = 0 ∧ ∃ w, xa m w ∧ s = mSt3 m M w) ∧ (∀ w, xa m w → w < x → mPd mm 0 (mSt3 m M w)) ∧ ∀ q i, q ≠ 99 → q ≠ 100 → ¬(q = 80 ∧ i = 12) → mm q i = m8 q i) (fun x _ => (14 - x).toNat) ?_ 0 m8 ⟨by omega, fun k a b => ?_, w12, fun j s a b d _ e h => absurd h (np j s a b d e), fun w aw a => by have := aw.1; omega, fun _ _ _ _ _ => rfl⟩ (by omega)
  · rintro fu2 w mm ⟨w1, af, wt, pd, st, fr⟩ ih2
    have frm : ∀ q i, q ≠ 99 → q ≠ 100 → q ≠ 101 → ¬(q = 80 ∧ (i = 9 ∨ i = 10 ∨ i = 11 ∨ i = 12 ∨ i = 16)) → mm q i = m q i := fun q i a b d e => by rw [fr q i a b (by omega), fe8 q i a b d e]
    have mm11 : mm 80 11 = sp := by rw [fr _ _ (by omega) (by omega) (by omega)]; exact w11
    rw [Twins_begin_63]
    by_cases d : w < 13
    · rw [if_pos d, frm 80 1 (by omega) (by omega) (by omega) (by omega)]
      have bn := bt_ne (a := m 80 1) (k := w) hv.1.1 (by have := hv.1.2; omega) w1.1 (by omega)
      unfold Twins_begin_88
      rw [w32e (by omega) (by omega)]
      by_cases y : iand (ishr (m 80 1) w) 1 = 0
      · rw [if_pos y]
        have na : ¬ xa m w := fun h => (bn.mpr h.2.2) y
        refine ih2 _ _ ⟨by omega, fun k a b => ⟨(af k a b).1, fun i => ?_⟩, wt, pd, fun v av a => ?_, fr⟩ (by omega)
        · rw [(af k a b).2 i]
          constructor
          · rintro ⟨h1, h2⟩; exact ⟨by omega, h2⟩
          · rintro ⟨h1, h2, h3⟩
            refine ⟨?_, h2, h3⟩
            by_cases ei : (i : Int) = w
            · rw [ei] at h2; exact absurd h2 na
            · omega
        · by_cases ev : v = w
          · rw [ev] at av; exact absurd av na
          · exact st v av (by omega)
      · rw [if_neg y]
        have aw : xa m w := ⟨w1.1, d, bn.mp y⟩
        have lw := (hv.2.1 w aw).1
        refine mOk_bind (allow_ok w1.1 d (fun k a b => (af k a b).1)) (fun m9 k9 => ?_)
        obtain ⟨af9, f9⟩ := k9
        have l95 : m9 95 w.toNat = xl m w := by rw [f9 _ _ (by omega), frm _ _ (by omega) (by omega) (by omega) (by omega)]; rfl
        have h10 : m9 80 10 = (M + 1) * (M + 1) := by rw [f9 _ _ (by omega), fr _ _ (by omega) (by omega) (by omega), f8' _ _ (by omega) (by omega) (by omega), v10, hC]
        have od := oddState_eq (M := M) (w := w) (out := xl m w) (kb := 4) (e := 0) (f := 0) (m := m9) hM h10 ⟨w1.1, d⟩ (by omega) (by omega) (by omega) (by omega)
        rw [show (0 : Int) * (M + 1) + 0 = 0 by omega] at od
        rw [if_pos ⟨w1.1, d⟩, l95, od, Option.bind_some]
        have sb := stb w aw
        have wt9 : m9 80 12 = mPb m9 := by rw [f9 _ _ (by omega), mPb_c (m := mm) (funext fun i => f9 _ _ (by omega)) (f9 _ _ (by omega))]; exact wt
        refine mOk_bind (push_ok (s := mSt3 m M w) (L := 0) sb.1 (by omega) (by rw [f9 _ _ (by omega), mm11]; omega) (by omega) wt9) (fun m10 k10 => ?_)
        obtain ⟨h1, h2, h3, h4⟩ := k10
        have fr10 : ∀ q i, q ≠ 99 → q ≠ 100 → ¬(q = 80 ∧ i = 12) → m10 q i = m8 q i := fun q i a b e => by rw [h4 q i b e, f9 q i a, fr q i a b e]
        have xf9 : ∀ k v, xf mm k v ↔ xf m k v := fun k v => by unfold xf; rw [frm _ _ (by omega) (by omega) (by omega) (by omega), frm _ _ (by omega) (by omega) (by omega) (by omega)]
        have ns9 : ¬ mSn m9 (mSt3 m M w) := fun g => ns _ sb.1 (by omega) (by unfold mSn at *; rw [f9 _ _ (by omega), fr _ _ (by omega) (by omega) (by omega)] at g; exact g)
        have pd9 : ∀ j s, mPd m9 j s ↔ mPd mm j s := fun j s => by unfold mPd; rw [f9 100 _ (by omega)]
        refine ih2 _ _ ⟨by omega, fun k a b => ?_, h3, fun j s a b c' e' g hp => ?_, fun v av a => ?_, fr10⟩ (by omega)
        · rw [h4 99 _ (by omega) (by omega)]
          refine ⟨(af9 k a b).1, fun i => ?_⟩
          rw [(af9 k a b).2 i, (af k a b).2 i, xf9]
          constructor
          · rintro (⟨g1, g2⟩ | ⟨g1, g2⟩)
            · exact ⟨by omega, g2⟩
            · rw [g1]; exact ⟨by omega, aw, g2⟩
          · rintro ⟨g1, g2, g3⟩
            by_cases ei : (i : Int) = w
            · right; rw [ei] at g3; exact ⟨ei, g3⟩
            · left; exact ⟨by omega, g2, g3⟩
        · rcases (h2 j s a b c' e').mp hp with k | k
          · exact pd j s a b c' e' g ((pd9 j s).mp k)
          · exact ⟨by omega, w, aw, k.2.1⟩
        · have sv := stb v av
          by_cases ev : v = w
          · rw [ev]
            rcases h1 with k | k
            · exact absurd k ns9
            · exact k
          · exact (h2 0 _ (by omega) (by omega) sv.1 (by omega)).mpr (Or.inl ((pd9 _ _).mpr (st v av (by omega))))
    · rw [if_neg d]
      refine mOk_some ⟨⟨frm _ _ (by omega) (by omega) (by omega) (by omega), frm _ _ (by omega) (by omega) (by omega) (by omega), fun q i a b => frm q i (by omega) (by omega) (by omega) (by omega), ?_, ?_, ?_, fun k a b => ⟨(af k a b).1, fun v v0 v1 => ?_⟩⟩, wt, ?_, fun s a b => ?_, fun j s a b e g => pd j s a b e (by rw [mm11] at g; omega) (by rw [mm11] at g; exact g), fun v av => st v av (by have := av.2.1; omega), fun q i a b e g => frm q i a b e g⟩
      · rw [fr _ _ (by omega) (by omega) (by omega), f8' _ _ (by omega) (by omega) (by omega)]; exact v9
      · rw [fr _ _ (by omega) (by omega) (by omega), f8' _ _ (by omega) (by omega) (by omega), v10, hC]
      · rw [mm11, hC, hsp]
      · rw [(af k a b).2 v.toNat, Int.toNat_of_nonneg v0]
        constructor
        · rintro ⟨-, h⟩; exact h
        · intro h; exact ⟨by omega, h⟩
      · rw [fr _ _ (by omega) (by omega) (by omega), f8' _ _ (by omega) (by omega) (by omega)]; exact v16
      · rw [mm11] at b
        intro g
        exact ns s a b (by unfold mSn at *; rw [fr _ _ (by omega) (by omega) (by omega)] at g; exact g)
  · rw [z8 k.toNat (by omega)]
    refine ⟨by omega, fun i => ?_⟩
    rw [show (0 : Int).toNat = 0 from rfl, Nat.zero_testBit]
    constructor
    · intro h; exact absurd h (by decide)
    · rintro ⟨h1, -⟩; omega
