/-! A LINE, ALL LINES -/
theorem eats_bad {x : Int} {m : aM} (h : m 176 11 = 0) (c : m 176 9 ≠ x) : R_eats x m = some (0, m) := by
  unfold R_eats
  rw [is_eq h, if_neg c, Option.bind_some, if_pos rfl]
theorem eats_next {x : Int} {m m1 : aM} (h : m 176 11 = 0) (c : m 176 9 = x) (k : R_next m = some m1) : R_eats x m = some (1, m1) := by
  unfold R_eats
  rw [is_eq h, if_pos c, Option.bind_some, if_neg (by decide), k, Option.bind_some]
theorem line_R {m : aM} (m11 : m 176 11 = 0) (c0 : m 176 9 ≠ 0) (c6 : m 176 9 ≠ 6) (c7 : m 176 9 ≠ 7) : R_readLine m = (if m 180 0 = 0 then ((R_fails 2 m).bind fun r24 => (R_readLine_106 r24)) else (if m 176 9 = 1 then ((R_readOpen m).bind fun r23 => (R_readLine_106 r23)) else (if m 176 9 = 2 then ((R_readLike m).bind fun r22 => (R_readLine_106 r22)) else (if m 176 9 = 3 then ((R_readWord m).bind fun r21 => (R_readLine_106 r21)) else (if m 176 9 = 8 then ((R_readShape m).bind fun r20 => (R_readLine_106 r20)) else ((R_fails 2 m).bind fun r17 => (R_readLine_106 r17))))))) := by
  have aux : ∀ s : Int, R_readLine_8 s m = (if s = 0 then (if m 176 9 = 1 then ((R_readOpen m).bind fun r23 => (R_readLine_106 r23)) else (if m 176 9 = 2 then ((R_readLike m).bind fun r22 => (R_readLine_106 r22)) else (if m 176 9 = 3 then ((R_readWord m).bind fun r21 => (R_readLine_106 r21)) else (if m 176 9 = 8 then ((R_readShape m).bind fun r20 => (R_readLine_106 r20)) else ((R_fails 2 m).bind fun r17 => (R_readLine_106 r17)))))) else ((R_fails 2 m).bind fun r24 => (R_readLine_106 r24))) := by
    intro s
    unfold R_readLine_8
    rw [is_eq m11, if_neg c0, Option.bind_some, if_pos rfl, eats_bad m11 c6, Option.bind_some]
    dsimp only
    rw [if_pos rfl, eats_bad m11 c7, Option.bind_some]
    dsimp only
    rw [if_pos rfl, is_eq m11, Option.bind_some, is_eq m11, Option.bind_some, is_eq m11, Option.bind_some, is_eq m11, Option.bind_some]
    have ff : ∀ (c : Prop) [Decidable c] (x y : Option aM), (if (if c then (1 : Int) else 0) = 0 then x else y) = if c then y else x := by
      intro c _ x y
      by_cases h : c
      · rw [if_pos h, if_pos h, if_neg (by decide)]
      · rw [if_neg h, if_neg h, if_pos rfl]
    rw [ff, ff, ff, ff]
  unfold R_readLine
  rw [aux, aux]
  by_cases c : m 180 0 = 0
  · rw [if_pos c, if_pos c, if_neg (by decide)]
  · rw [if_neg c, if_neg c, if_pos rfl]
theorem line_8 {m : aM} {X : Option aM} (h : ∀ s : Int, R_readLine_8 s m = X) : R_readLine m = X := by
  unfold R_readLine
  by_cases c : m 180 0 = 0
  · rw [if_pos c]; exact h 1
  · rw [if_neg c]; exact h 0
/-- both stand at a line's first token -/
def mHd3 (T : Int → Int) (n : Int) (b m : aM) : Prop := mTx T n b ∧ mTxR T n m ∧ b 1 7 = 0 ∧ m 176 11 = 0 ∧ b 1 8 = -1 ∧ (∃ p, mTn T n p (b 1 4) m) ∧ b 1 5 = m 176 6 ∧ b 1 6 = m 176 7
theorem ln_line {T : Int → Int} {n : Int} {b m : aM} (n1 : n ≤ 500) (hh : mHd3 T n b m) (tg : mTg (m 180) b) : ∃ b' m', Tape_readLine b = some b' ∧ R_readLine m = R_readLine_106 m' ∧ mFb1 b b' ∧ mFr1 m m' ∧ mLe T n (b 1 6) b' m' := by
  obtain ⟨hx, hxr, b7, m11, b8, ⟨p, tn⟩, e5, e6⟩ := hh
  have kk := mTn_k tn
  have rn := mTk_rng tn.1
  have x1 := tg.2.1.2.1
  -- a fault of kind 2, or 1 where it is no token
  have bad : ∀ g : Int, (1 ≤ g ∧ g ≤ 4) → g = (if m 176 9 = 13 then 1 else 2) → Tape_readLine b = some (aup (aup b 1 7 g) 1 8 (b 1 5)) → R_readLine m = ((R_fails 2 m).bind fun r17 => (R_readLine_106 r17)) → ∃ b' m', Tape_readLine b = some b' ∧ R_readLine m = R_readLine_106 m' ∧ mFb1 b b' ∧ mFr1 m m' ∧ mLe T n (b 1 6) b' m' := by
    intro g g1 hg h1 h2
    rw [fails_eq m11, Option.bind_some, ← hg] at h2
    exact ⟨_, _, h1, h2, mFb1.of (mFb_fail (mFb.refl b)), mFr1.of (mFr_fail (mFr.refl m)), Or.inr (mFl_fail g1 rfl e5)⟩
  by_cases k4 : b 1 4 = 4
  · have k13 := kk.2.2.2.2.1.mp k4
    refine bad 1 (by omega) (by rw [if_pos k13]) ?_ ?_
    · unfold Tape_readLine
      rw [if_pos k4, fail_eq b7, Option.bind_some]
    · rw [line_R m11 (by omega) (by omega) (by omega), if_neg (show ¬ m 176 9 = 1 by omega), if_neg (show ¬ m 176 9 = 2 by omega), if_neg (show ¬ m 176 9 = 3 by omega), if_neg (show ¬ m 176 9 = 8 by omega), ite_self]
  have k13 : m 176 9 ≠ 13 := fun h => k4 (kk.2.2.2.2.1.mpr h)
  by_cases k1 : b 1 4 = 1
  rotate_left
  · have n9 : ¬ m 176 9 ≤ 9 := fun h => k1 (kk.1.mpr h)
    refine bad 2 (by omega) (by rw [if_neg k13]) ?_ ?_
    · unfold Tape_readLine
      rw [if_neg k4, if_neg k1, fail_eq b7, Option.bind_some]
    · rw [line_R m11 (by omega) (by omega) (by omega), if_neg (show ¬ m 176 9 = 1 by omega), if_neg (show ¬ m 176 9 = 2 by omega), if_neg (show ¬ m 176 9 = 3 by omega), if_neg (show ¬ m 176 9 = 8 by omega), ite_self]
  have key : mKey T (m 176 6) (m 176 7) (m 176 9) := by
    rw [k1] at tn
    exact mTn_key tn
  have nmB : ∀ x : Nat, x < 9 → ∃ r, Tape_isNamed x b = some r ∧ (r ≠ 0 ↔ m 176 9 = mKx x) := by
    intro x hx9
    obtain ⟨r, k2, -, k3⟩ := isNamed_ok hx9 hx n1 e5 e6 rn.1 rn.2.1 rn.2.2.1
    exact ⟨r, k2, k3.trans (key.2 x hx9)⟩
  have ss : mSs T n b m := ⟨hx, hxr, b7, m11, b8, e5, e6, rn.1, rn.2.1, rn.2.2.1, k13⟩
  obtain ⟨r0, n0, h0⟩ := nmB 0 (by omega)
  obtain ⟨r1, nn1, h1⟩ := nmB 1 (by omega)
  obtain ⟨r2, n2, h2⟩ := nmB 2 (by omega)
  obtain ⟨r3, n3, h3⟩ := nmB 3 (by omega)
  obtain ⟨r4, n4, h4⟩ := nmB 4 (by omega)
  obtain ⟨r5, n5, h5⟩ := nmB 5 (by omega)
  obtain ⟨r6, n6, h6⟩ := nmB 6 (by omega)
  have h0' : r0 ≠ 0 ↔ m 176 9 = 0 := h0
  have h1' : r1 ≠ 0 ↔ m 176 9 = 6 := h1
  have h2' : r2 ≠ 0 ↔ m 176 9 = 7 := h2
  have h3' : r3 ≠ 0 ↔ m 176 9 = 1 := h3
  have h4' : r4 ≠ 0 ↔ m 176 9 = 2 := h4
  have h5' : r5 ≠ 0 ↔ m 176 9 = 3 := h5
  have h6' : r6 ≠ 0 ↔ m 176 9 = 8 := h6
  clear h0 h1 h2 h3 h4 h5 h6 nmB
  have clB : Tape_readLine b = (if r0 = 0 then (if r1 = 0 then (if r2 = 0 then (if (b 3 1) = 0 then ((Tape_fail 2 b).bind fun r23 => (some r23)) else (if r3 = 0 then (if r4 = 0 then (if r5 = 0 then (if r6 = 0 then ((Tape_fail 2 b).bind fun r18 => (some r18)) else ((Tape_readShape b).bind fun r19 => (some r19))) else ((Tape_readWord b).bind fun r20 => (some r20))) else ((Tape_readLike b).bind fun r21 => (some r21))) else ((Tape_readOpen b).bind fun r22 => (some r22)))) else ((Tape_readLast b).bind fun r24 => (some r24))) else ((Tape_readNever b).bind fun r25 => (some r25))) else ((Tape_readSounds b).bind fun r26 => (some r26))) := by
    unfold Tape_readLine
    rw [if_neg k4, if_pos k1, n0, Option.bind_some, nn1, Option.bind_some, n2, Option.bind_some, n3, Option.bind_some, n4, Option.bind_some, n5, Option.bind_some, n6, Option.bind_some]
  by_cases c0 : m 176 9 = 0
  · obtain ⟨b', m', kB, kR, fb, fr, le⟩ := ln_sounds n1 ss tg
    refine ⟨b', m', ?_, ?_, fb, fr, le⟩
    · rw [clB, if_neg (h0'.mpr c0), kB, Option.bind_some]
    · refine line_8 (fun s => ?_)
      unfold R_readLine_8
      rw [is_eq m11, if_pos c0, Option.bind_some, if_neg (by decide), kR, Option.bind_some]
  have z0 : r0 = 0 := Classical.byContradiction (fun h => c0 (h0'.mp h))
  rw [if_pos z0] at clB
  by_cases c6 : m 176 9 = 6
  · obtain ⟨m1, kn, ⟨k, hs1⟩, fr1⟩ := sy_next hx hxr n1 b7 b8 m11 e6 (by omega) rn.2.2.1
    obtain ⟨b', m', kB, kR, fb, fr, le⟩ := ln_never n1 hs1 (by rw [r180 fr1]; exact tg)
    refine ⟨b', m', ?_, ?_, fb, (mFr1.of fr1).trans fr, le⟩
    · rw [clB, if_neg (h1'.mpr c6), kB, Option.bind_some]
    · rw [← kR]
      refine line_8 (fun s => ?_)
      unfold R_readLine_8
      rw [is_eq m11, if_neg c0, Option.bind_some, if_pos rfl, eats_next m11 c6 kn, Option.bind_some]
      rfl
  have z1 : r1 = 0 := Classical.byContradiction (fun h => c6 (h1'.mp h))
  rw [if_pos z1] at clB
  by_cases c7 : m 176 9 = 7
  · obtain ⟨m1, kn, ⟨k, hs1⟩, fr1⟩ := sy_next hx hxr n1 b7 b8 m11 e6 (by omega) rn.2.2.1
    obtain ⟨b', m', kB, kR, fb, fr, le⟩ := ln_last n1 hs1 (by rw [r180 fr1]; exact tg)
    refine ⟨b', m', ?_, ?_, fb, (mFr1.of fr1).trans fr, le⟩
    · rw [clB, if_neg (h2'.mpr c7), kB, Option.bind_some]
    · rw [← kR]
      refine line_8 (fun s => ?_)
      unfold R_readLine_8
      rw [is_eq m11, if_neg c0, Option.bind_some, if_pos rfl, eats_bad m11 c6, Option.bind_some]
      dsimp only
      rw [if_pos rfl, eats_next m11 c7 kn, Option.bind_some]
      rfl
  have z2 : r2 = 0 := Classical.byContradiction (fun h => c7 (h2'.mp h))
  rw [if_pos z2, x1] at clB
  have clR := line_R m11 c0 c6 c7
  by_cases cs : m 180 0 = 0
  · rw [if_pos cs] at clB clR
    refine bad 2 (by omega) (by rw [if_neg k13]) ?_ clR
    rw [clB, fail_eq b7, Option.bind_some]
  rw [if_neg cs] at clB clR
  by_cases c1 : m 176 9 = 1
  · obtain ⟨b', m', kB, kR, fb, fr, le⟩ := ln_open n1 ss tg
    exact ⟨b', m', by rw [clB, if_neg (h3'.mpr c1), kB, Option.bind_some], by rw [clR, if_pos c1, kR, Option.bind_some], fb, fr, le⟩
  have z3 : r3 = 0 := Classical.byContradiction (fun h => c1 (h3'.mp h))
  rw [if_pos z3] at clB
  rw [if_neg c1] at clR
  by_cases c2 : m 176 9 = 2
  · obtain ⟨b', m', kB, kR, fb, fr, le⟩ := ln_like n1 ss tg
    exact ⟨b', m', by rw [clB, if_neg (h4'.mpr c2), kB, Option.bind_some], by rw [clR, if_pos c2, kR, Option.bind_some], fb, fr, le⟩
  have z4 : r4 = 0 := Classical.byContradiction (fun h => c2 (h4'.mp h))
  rw [if_pos z4] at clB
  rw [if_neg c2] at clR
  by_cases c3 : m 176 9 = 3
  · obtain ⟨b', m', kB, kR, fb, fr, le⟩ := ln_word n1 ss tg
    exact ⟨b', m', by rw [clB, if_neg (h5'.mpr c3), kB, Option.bind_some], by rw [clR, if_pos c3, kR, Option.bind_some], fb, fr, le⟩
  have z5 : r5 = 0 := Classical.byContradiction (fun h => c3 (h5'.mp h))
  rw [if_pos z5] at clB
  rw [if_neg c3] at clR
  by_cases c8 : m 176 9 = 8
  · obtain ⟨b', m', kB, kR, fb, fr, le⟩ := ln_shape n1 ss tg
    exact ⟨b', m', by rw [clB, if_neg (h6'.mpr c8), kB, Option.bind_some], by rw [clR, if_pos c8, kR, Option.bind_some], fb, fr, le⟩
  have z6 : r6 = 0 := Classical.byContradiction (fun h => c8 (h6'.mp h))
  rw [if_pos z6] at clB
  rw [if_neg c8] at clR
  refine bad 2 (by omega) (by rw [if_neg k13]) ?_ clR
  rw [clB, fail_eq b7, Option.bind_some]
/-- the text read to its end, or to its first fault -/
def mEd3 (b m : aM) : Prop := mFl b m ∨ (b 1 7 = 0 ∧ b 1 8 = -1 ∧ m 176 11 = 0 ∧ mTg (m 180) b ∧ 0 ≤ m 180 154 ∧ m 180 154 ≤ 500)
def mFr2 (m m' : aM) : Prop := ∀ q i, ¬(q = 176 ∧ (i = 6 ∨ i = 7 ∨ i = 9 ∨ i = 10 ∨ i = 11 ∨ i = 12)) → q ≠ 180 → m' q i = m q i
theorem lines_ok {T : Int → Int} {n : Int} (n1 : n ≤ 500) : ∀ (d fB fR : Nat) (x : Int) (b m : aM), mHd3 T n b m → mTg (m 180) b → m 180 154 = x → 0 ≤ x → x ≤ m 176 6 → (n - b 1 6).toNat < d → d < fB → d < fR → ∃ b' m', Tape_readTongue_22 fB x b = some b' ∧ R_tongue_39 fR m = R_tongue_49 m' ∧ mFb1 b b' ∧ mFr2 m m' ∧ mEd3 b' m' := by
  intro d
  induction d with
  | zero => intro fB fR x b m _ _ _ _ _ h; omega
  | succ d ih =>
    intro fB fR x b m hh tg hx x0 x1 hd hB hR
    obtain ⟨fB, rfl⟩ : ∃ g, fB = g + 1 := ⟨fB - 1, by omega⟩
    obtain ⟨fR, rfl⟩ : ∃ g, fR = g + 1 := ⟨fR - 1, by omega⟩
    have hh' := hh
    obtain ⟨hx', hxr, b7, m11, b8, ⟨p, tn⟩, e5, e6⟩ := hh'
    have kk := mTn_k tn
    have rn := mTk_rng tn.1
    rw [Tape_readTongue_22, R_tongue_39, if_pos m11]
    by_cases k0 : b 1 4 = 0
    · refine ⟨b, m, ?_, ?_, fun _ _ _ _ => rfl, fun _ _ _ _ => rfl, Or.inr ⟨b7, b8, m11, tg, by omega, by omega⟩⟩
      · rw [if_pos k0]
        split <;> rfl
      · rw [if_pos (kk.2.2.2.1.mp k0)]
    have qn : m 176 6 < n := by
      rcases tn.1.2.2.2 with ⟨h, -⟩ | ⟨-, h1, h2, -⟩ | ⟨-, h1, h2, -⟩ | ⟨-, h1, -⟩
      · exact absurd h k0
      · omega
      · omega
      · exact h1
    rw [if_pos (by omega), if_neg k0, if_pos b7, if_neg (fun h => k0 (kk.2.2.2.1.mpr h))]
    obtain ⟨b1, m1, kB, kR, fb, fr, le⟩ := ln_line n1 hh tg
    rw [kB, Option.bind_some, kR]
    -- what a fault leads to
    have out : ∀ (bb mm : aM) (y : Int), mFl bb mm → Tape_readTongue_22 fB y bb = some bb ∧ R_tongue_39 fR mm = R_tongue_49 mm := by
      intro bb mm y hf
      have ne := mFl_ne hf
      obtain ⟨fB', rfl⟩ : ∃ g, fB = g + 1 := ⟨fB - 1, by omega⟩
      obtain ⟨fR', rfl⟩ : ∃ g, fR = g + 1 := ⟨fR - 1, by omega⟩
      rw [Tape_readTongue_22, R_tongue_39, if_neg ne.1, if_neg ne.2]
      refine ⟨?_, rfl⟩
      split
      · split <;> rfl
      · rfl
    rcases le with ⟨⟨k, hs⟩, tg1, p1⟩ | fl
    rotate_left
    · have ne := mFl_ne fl
      have fl2 : mFl b1 (aup m1 180 154 (w32 ((m1 180 154) + 1))) := mFl_fr fl (fun _ _ _ => rfl) (fun q i a => aup_of (by omega))
      have o := out b1 _ (w32 (x + 1)) fl2
      refine ⟨b1, _, ?_, ?_, fb, ?_, Or.inl fl2⟩
      · rw [if_neg ne.1]
        exact o.1
      · unfold R_readLine_106
        rw [needs_no ne.2, Option.bind_some, st1e, Option.bind_some]
        exact o.2
      · intro q i a c
        rw [aup_of (by omega)]
        exact fr q i a (by omega)
    · have e154 : m1 180 154 = x := by rw [fr 180 154 (by omega) (by omega)]; exact hx
      have b17 : b1 1 7 = 0 := hs.2.2.1
      obtain ⟨v, b2, m2, kB2, kR2, fb2, fr2, h2⟩ := stop_ok n1 hs
      have e2 : m2 180 154 = x := by rw [fr2 180 154 (by omega)]; exact e154
      have kR3 : R_readLine_106 m1 = some (aup m2 180 154 (x + 1)) := by
        unfold R_readLine_106
        rw [kR2, Option.bind_some, st1e, e2, w32e (x := x + 1) (by omega) (by omega)]
      rw [if_pos b17, kB2, Option.bind_some, kR3, Option.bind_some]
      dsimp only
      rcases h2 with ⟨v1, ⟨k2, hs2⟩, p2⟩ | ⟨v0, fl⟩
      rotate_left
      · have fl2 : mFl b2 (aup m2 180 154 (x + 1)) := mFl_fr fl (fun _ _ _ => rfl) (fun q i a => aup_of (by omega))
        have o := out b2 _ (x + 1) fl2
        refine ⟨b2, _, ?_, o.2, fb.trans (mFb1.of fb2), ?_, Or.inl fl2⟩
        · rw [if_pos v0]
          unfold Tape_readTongue_49
          rw [w32e (by omega) (by omega)]
          exact o.1
        · intro q i a c
          rw [aup_of (by omega), fr2 q i a]
          exact fr q i a (by omega)
      · have tg2 : mTg (m2 180) b2 := by rw [r180 fr2]; exact mTg_fb tg1 (fun q i a c => fb2 q i (by omega))
        have b30 : b2 3 0 = x := by rw [tg2.2.1.1]; exact e2
        rw [if_neg (by omega), st1e, b30, w32e (by omega) (by omega)]
        obtain ⟨hx2, hxr2, b27, m211, b28, tn2⟩ := hs2
        have rg2 := tn2.1.1
        have rn2 := mTk_rng tn2.1
        have t6 : aup b2 3 0 (x + 1) 1 6 = b2 1 6 := aup_of (by omega)
        obtain ⟨b3, k3, ht3, f3⟩ := advance_ok (m := aup b2 3 0 (x + 1)) (mTx_same hx2 (aup_of (by omega)) (fun i => aup_of (by omega))) n1 t6 rg2.1 (by omega)
        rw [k3, Option.bind_some]
        unfold Tape_readTongue_49
        rw [w32e (x := x + 1) (by omega) (by omega)]
        obtain ⟨u4, u5, u6⟩ := mTk_uni ht3 tn2.1
        have em : ∀ q i, q ≠ 180 → aup m2 180 154 (x + 1) q i = m2 q i := fun q i a => aup_of (by omega)
        have e176 : aup m2 180 154 (x + 1) 176 = m2 176 := funext fun i => em _ _ (by omega)
        have f3' : ∀ q i, ¬(q = 1 ∧ (i = 4 ∨ i = 5 ∨ i = 6)) → ¬(q = 3 ∧ i = 0) → b3 q i = b2 q i := fun q i a c => by rw [f3 q i a, aup_of (by omega)]
        have hh3 : mHd3 T n b3 (aup m2 180 154 (x + 1)) := by
          refine ⟨mTx_same hx2 (f3' _ _ (by omega) (by omega)) (fun i => f3' _ _ (by omega) (by omega)), mTxR_same hxr2 (em _ _ (by omega)) (fun i => em _ _ (by omega)), by rw [f3' _ _ (by omega) (by omega)]; exact b27, by rw [e176]; exact m211, by rw [f3' _ _ (by omega) (by omega)]; exact b28, ⟨b2 1 6, ?_⟩, by rw [e176]; exact u5, by rw [e176]; exact u6⟩
          unfold mTn
          rw [e176, u4]
          exact tn2
        have tg3 : mTg (aup m2 180 154 (x + 1) 180) b3 := mTg_line tg2 (by rw [aup_self, e2]) (fun i a => aup_of (by omega)) (by rw [f3 _ _ (by omega), aup_self, b30]) (fun q i a c e => f3' q i (by omega) e)
        obtain ⟨b4, m4, k4, k5, f4, f5, ed⟩ := ih fB fR (x + 1) b3 (aup m2 180 154 (x + 1)) hh3 tg3 (aup_self _ _ _ _) (by omega) (by rw [e176]; omega) (by omega) (by omega) (by omega)
        refine ⟨b4, m4, k4, k5, ?_, ?_, ed⟩
        · intro q i a c
          rw [f4 q i a c, f3' q i (by omega) (by omega), fb2 q i a]
          exact fb q i a c
        · intro q i a c
          rw [f5 q i a c, em q i c, fr2 q i a]
          exact fr q i a (by omega)
