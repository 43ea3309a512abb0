/-! TWO READERS, TOKEN BY TOKEN -/
/-- the class has read up to a token's end; the reference stands at the next token, of kind k -/
def mSy (T : Int → Int) (n k : Int) (b m : aM) : Prop := mTx T n b ∧ mTxR T n m ∧ b 1 7 = 0 ∧ m 176 11 = 0 ∧ b 1 8 = -1 ∧ mTn T n (b 1 6) k m
/-- both have found the same fault -/
def mFl (b m : aM) : Prop := (1 ≤ b 1 7 ∧ b 1 7 ≤ 4) ∧ m 176 11 = b 1 7 ∧ m 176 12 = b 1 8
def mFb (b b' : aM) : Prop := ∀ q i, ¬(q = 1 ∧ 4 ≤ i ∧ i ≤ 8) → b' q i = b q i
def mFr (m m' : aM) : Prop := ∀ q i, ¬(q = 176 ∧ (i = 6 ∨ i = 7 ∨ i = 9 ∨ i = 10 ∨ i = 11 ∨ i = 12)) → m' q i = m q i
theorem mFb.refl (b : aM) : mFb b b := fun _ _ _ => rfl
theorem mFr.refl (m : aM) : mFr m m := fun _ _ _ => rfl
theorem mFb.trans {b b' b'' : aM} (h : mFb b b') (g : mFb b' b'') : mFb b b'' := fun q i a => (g q i a).trans (h q i a)
theorem mFr.trans {b b' b'' : aM} (h : mFr b b') (g : mFr b' b'') : mFr b b'' := fun q i a => (g q i a).trans (h q i a)
theorem mTx_fb {T : Int → Int} {n : Int} {b b' : aM} (h : mTx T n b) (f : mFb b b') : mTx T n b' := mTx_same h (f 1 2 (by omega)) (fun i => f 2 i (by omega))
theorem mTxR_fr {T : Int → Int} {n : Int} {b b' : aM} (h : mTxR T n b) (f : mFr b b') : mTxR T n b' := mTxR_same h (f 176 8 (by omega)) (fun i => f 179 i (by omega))
theorem fail_eq {x : Int} {b : aM} (h : b 1 7 = 0) : Tape_fail x b = some (aup (aup b 1 7 x) 1 8 (b 1 5)) := by
  unfold Tape_fail
  rw [if_pos h, st1e, st1e, aup_of (by omega)]
theorem fail_no {x : Int} {b : aM} (h : b 1 7 ≠ 0) : Tape_fail x b = some b := by
  unfold Tape_fail
  rw [if_neg h]
theorem fails_eq {x : Int} {m : aM} (h : m 176 11 = 0) : R_fails x m = some (aup (aup m 176 11 (if m 176 9 = 13 then 1 else x)) 176 12 (m 176 6)) := by
  unfold R_fails R_fails_12
  rw [if_pos h]
  by_cases c : m 176 9 = 13
  · rw [if_pos c, if_pos c, st1e, st1e, aup_of (by omega)]
  · rw [if_neg c, if_neg c, st1e, st1e, aup_of (by omega)]
theorem fails_no {x : Int} {m : aM} (h : m 176 11 ≠ 0) : R_fails x m = some m := by
  unfold R_fails
  rw [if_neg h]
theorem mFb_fail {b b' : aM} {f q : Int} (h : mFb b b') : mFb b (aup (aup b' 1 7 f) 1 8 q) := fun r i a => by rw [aup_of (by omega), aup_of (by omega)]; exact h r i a
theorem mFr_fail {b b' : aM} {f q : Int} (h : mFr b b') : mFr b (aup (aup b' 176 11 f) 176 12 q) := fun r i a => by rw [aup_of (by omega), aup_of (by omega)]; exact h r i a
theorem mFl_fail {b m : aM} {f g p q : Int} (h : 1 ≤ f ∧ f ≤ 4) (e : f = g) (e2 : p = q) : mFl (aup (aup b 1 7 f) 1 8 p) (aup (aup m 176 11 g) 176 12 q) := by
  unfold mFl
  rw [aup_of (i' := 7) (by omega), aup_self, aup_of (i' := 11) (by omega), aup_self, aup_self, aup_self]
  exact ⟨h, e.symm, e2.symm⟩
theorem mTn_k {T : Int → Int} {n p k : Int} {m : aM} (h : mTn T n p k m) : (k = 1 ↔ m 176 9 ≤ 9) ∧ (k = 2 ↔ m 176 9 = 10) ∧ (k = 3 ↔ m 176 9 = 11) ∧ (k = 0 ↔ m 176 9 = 12) ∧ (k = 4 ↔ m 176 9 = 13) ∧ 0 ≤ m 176 9 := by
  rcases h.2 with ⟨a, b⟩ | ⟨a, b⟩ | ⟨a, b, -⟩ | ⟨a, b⟩ | ⟨a, b⟩
  · omega
  · have := b.1; omega
  · omega
  · omega
  · omega
theorem mTn_key {T : Int → Int} {n p : Int} {m : aM} (h : mTn T n p 1 m) : mKey T (m 176 6) (m 176 7) (m 176 9) := by
  rcases h.2 with ⟨a, b⟩ | ⟨a, b⟩ | ⟨a, b, -⟩ | ⟨a, b⟩ | ⟨a, b⟩
  · omega
  · exact b
  · omega
  · omega
  · omega
theorem mTn_num {T : Int → Int} {n p : Int} {m : aM} (h : mTn T n p 2 m) : m 176 10 = mVal T (m 176 6) (m 176 7 - m 176 6).toNat := by
  rcases h.2 with ⟨a, b⟩ | ⟨a, b⟩ | ⟨a, b, c⟩ | ⟨a, b⟩ | ⟨a, b⟩
  · omega
  · omega
  · exact c
  · omega
  · omega
theorem is_eq {x : Int} {m : aM} (h : m 176 11 = 0) : R_is x m = some (if m 176 9 = x then 1 else 0) := by
  unfold R_is
  rw [if_pos h]
  by_cases c : m 176 9 = x
  · rw [if_pos c, if_pos c]
  · rw [if_neg c, if_neg c]
theorem is_no {x : Int} {m : aM} (h : m 176 11 ≠ 0) : R_is x m = some 0 := by
  unfold R_is
  rw [if_neg h]
theorem wants_ok {T : Int → Int} {n k q e s : Int} {b : aM} (hx : mTx T n b) (n1 : n ≤ 500) (h7 : b 1 7 = 0) (hk : mTk T n (b 1 6) k q e) : mOk (Tape_wants s b) (fun r => mFb b r.2 ∧ r.2 1 4 = k ∧ r.2 1 5 = q ∧ r.2 1 6 = e ∧ ((k = s ∧ r.1 = 1 ∧ r.2 1 7 = 0 ∧ r.2 1 8 = b 1 8) ∨ (k ≠ s ∧ r.1 = 0 ∧ r.2 1 7 = (if k = 4 then 1 else 2) ∧ r.2 1 8 = q))) := by
  have rg := hk.1
  have rn := mTk_rng hk
  unfold Tape_wants
  rw [if_pos h7]
  refine mOk_bind (advance_ok hx n1 rfl rg.1 (by omega)) (fun b1 kb => ?_)
  obtain ⟨k1, fr⟩ := kb
  obtain ⟨e4, e5, e6⟩ := mTk_uni k1 hk
  have g7 : b1 1 7 = 0 := by rw [fr 1 7 (by omega)]; exact h7
  have g8 : b1 1 8 = b 1 8 := fr 1 8 (by omega)
  have fb : mFb b b1 := fun q i a => fr q i (by omega)
  by_cases c : b1 1 4 = s
  · rw [if_pos c]
    unfold Tape_wants_20
    rw [if_pos g7]
    exact mOk_some ⟨fb, e4, e5, e6, Or.inl ⟨by omega, rfl, g7, g8⟩⟩
  · rw [if_neg c]
    have fin : ∀ f : Int, f ≠ 0 → f = (if k = 4 then 1 else 2) → mOk (Tape_wants_19 f b1) (fun r => mFb b r.2 ∧ r.2 1 4 = k ∧ r.2 1 5 = q ∧ r.2 1 6 = e ∧ ((k = s ∧ r.1 = 1 ∧ r.2 1 7 = 0 ∧ r.2 1 8 = b 1 8) ∨ (k ≠ s ∧ r.1 = 0 ∧ r.2 1 7 = (if k = 4 then 1 else 2) ∧ r.2 1 8 = q))) := by
      intro f f0 hf
      unfold Tape_wants_19
      rw [fail_eq g7, Option.bind_some]
      unfold Tape_wants_20
      rw [aup_of (by omega), aup_self, if_neg f0]
      refine mOk_some ?_
      dsimp only
      refine ⟨mFb_fail fb, ?_, ?_, ?_, Or.inr ⟨by omega, rfl, ?_, ?_⟩⟩
      · rw [aup_of (by omega), aup_of (by omega)]; exact e4
      · rw [aup_of (by omega), aup_of (by omega)]; exact e5
      · rw [aup_of (by omega), aup_of (by omega)]; exact e6
      · rw [aup_of (by omega), aup_self]; exact hf
      · rw [aup_self]; exact e5
    by_cases d : b1 1 4 = 4
    · rw [if_pos d]; exact fin 1 (by decide) (by rw [if_pos (by omega)])
    · rw [if_neg d]; exact fin 2 (by decide) (by rw [if_neg (by omega)])
theorem wants_no {s : Int} {b : aM} (h7 : b 1 7 ≠ 0) : Tape_wants s b = some (0, b) := by
  unfold Tape_wants
  rw [if_neg h7]
/-- the reference goes on to the next token, behind the one that the class has now read -/
theorem sy_next {T : Int → Int} {n : Int} {b m : aM} (hx : mTx T n b) (hxr : mTxR T n m) (n1 : n ≤ 500) (b7 : b 1 7 = 0) (b8 : b 1 8 = -1) (m11 : m 176 11 = 0) (e6 : b 1 6 = m 176 7) (p0 : 0 ≤ m 176 7) (p1 : m 176 7 ≤ n) : mOk (R_next m) (fun m' => (∃ k, mSy T n k b m') ∧ mFr m m') := by
  refine mOk_mono (next_ok hxr n1 rfl p0 p1) (fun m' h => ?_)
  obtain ⟨⟨k, hk⟩, fr⟩ := h
  have f : mFr m m' := fun q i a => fr q i (by omega)
  exact ⟨⟨k, hx, mTxR_fr hxr f, b7, by rw [fr 176 11 (by omega)]; exact m11, b8, by rw [e6]; exact hk⟩, f⟩
theorem wantNum_loop {T : Int → Int} {n q e most : Int} {b : aM} (hx : mTx T n b) (n1 : n ≤ 500) (h5 : b 1 5 = q) (h6 : b 1 6 = e) (q0 : 0 ≤ q) (qe : q ≤ e) (e1 : e ≤ n) (l3 : e - q ≤ 3) (dg : ∀ j : Int, q ≤ j → j < e → mDig (T j)) (h7 : b 1 7 = 0) : Tape_wantNumber_11 most FU 0 (b 1 5) b = some (if most < mVal T q (e - q).toNat then (0, aup (aup b 1 7 3) 1 8 q) else (mVal T q (e - q).toNat, b)) := by
  have k : mOk (Tape_wantNumber_11 most FU 0 (b 1 5) b) (fun r => r = if most < mVal T q (e - q).toNat then (0, aup (aup b 1 7 3) 1 8 q) else (mVal T q (e - q).toNat, b)) := by
    refine mL3 (Tape_wantNumber_11 most) (fun a x mm => mm = b ∧ (q ≤ x ∧ x ≤ e) ∧ a = mVal T q (x - q).toNat) (fun _ x _ => (e - x).toNat) ?_ 0 (b 1 5) b ⟨rfl, by omega, by rw [h5, show (q - q).toNat = 0 by omega]; rfl⟩ (by omega)
    rintro fu a x mm ⟨rfl, x1, ha⟩ ih
    have vb := mVal_999 (T := T) (q := q) (i := (x - q).toNat) (by omega) (fun j a b => dg j a (by omega))
    rw [← ha] at vb
    rw [Tape_wantNumber_11, h6]
    by_cases c : x < e
    · have d := dg x x1.1 c
      unfold mDig at d
      rw [if_pos c, if_pos (by omega), (hx.2 x (by omega) (by omega)).2, w8e (by omega) (by omega), w32e (x := a * 10) (by omega) (by omega), w32e (x := T x - 48) (by omega) (by omega), w32e (by omega) (by omega), w32e (x := x + 1) (by omega) (by omega)]
      refine ih _ _ _ ⟨rfl, by omega, ?_⟩ (by omega)
      rw [show (x + 1 - q).toNat = (x - q).toNat + 1 by omega, mVal, ← ha, show q + (((x - q).toNat : Nat) : Int) = x by omega]
      omega
    · rw [if_neg c]
      have ex : x = e := by omega
      subst ex
      rw [← ha]
      by_cases d : most < a
      · rw [if_pos d, if_pos d, fail_eq h7, Option.bind_some, h5]
        exact mOk_some rfl
      · rw [if_neg d, if_neg d]
        exact mOk_some rfl
  obtain ⟨r, k1, k2⟩ := k
  rw [k1, k2]
/-- a number -/
theorem num_ok {T : Int → Int} {n k most : Int} {b m : aM} (n1 : n ≤ 500) (h : mSy T n k b m) (m0 : 0 ≤ most) : ∃ v b' v' m', Tape_wantNumber most b = some (v, b') ∧ R_takes 0 most m = some (v', m') ∧ mFb b b' ∧ mFr m m' ∧ ((v = v' ∧ 0 ≤ v ∧ v ≤ most ∧ (∃ k', mSy T n k' b' m') ∧ b 1 6 < b' 1 6) ∨ mFl b' m') := by
  obtain ⟨hx, hxr, b7, m11, b8, tn⟩ := h
  obtain ⟨⟨f, b1⟩, kw, fb, w4, w5, w6, hw⟩ := wants_ok (s := 2) hx n1 b7 tn.1
  dsimp only at fb w4 w5 w6 hw
  have kk := mTn_k tn
  have rn := mTk_rng tn.1
  by_cases c : k = 2
  · subst c
    rcases hw with ⟨-, f1, g7, g8⟩ | ⟨hh, -⟩
    · have tm := mTk_num tn.1
      have hv := mTn_num tn
      have vb := mVal_999 (T := T) (q := m 176 6) (i := (m 176 7 - m 176 6).toNat) (by omega) (fun j a b => tm.2.2 j a (by omega))
      have cl : Tape_wantNumber most b = some (if most < mVal T (m 176 6) (m 176 7 - m 176 6).toNat then (0, aup (aup b1 1 7 3) 1 8 (m 176 6)) else (mVal T (m 176 6) (m 176 7 - m 176 6).toNat, b1)) := by
        unfold Tape_wantNumber
        rw [kw, Option.bind_some]
        dsimp only
        rw [f1, if_neg (by decide)]
        exact wantNum_loop (mTx_fb hx fb) n1 w5 w6 rn.1 rn.2.1 rn.2.2.1 tm.2.1 tm.2.2 g7
      rw [← hv] at cl vb
      have e10 : m 176 9 = 10 := kk.2.1.mp rfl
      by_cases d : most < m 176 10
      · rw [if_pos d] at cl
        refine ⟨_, _, m 176 10, aup (aup m 176 11 3) 176 12 (m 176 6), cl, ?_, mFb_fail fb, mFr_fail (mFr.refl m), Or.inr (mFl_fail (by omega) rfl rfl)⟩
        unfold R_takes
        rw [is_eq m11, if_pos e10, Option.bind_some, if_neg (by decide), within_eq, if_neg (by omega), Option.bind_some, if_pos rfl, fails_eq m11, if_neg (by omega), Option.bind_some]
        unfold R_takes_20
        rw [aup_of (by omega), aup_self, if_neg (by decide), aup_of (by omega), aup_of (by omega)]
      · rw [if_neg d] at cl
        obtain ⟨m', kn, ⟨k', hs⟩, fr⟩ := sy_next (b := b1) (mTx_fb hx fb) hxr n1 g7 (by rw [g8]; exact b8) m11 w6 (by omega) rn.2.2.1
        refine ⟨_, _, m 176 10, m', cl, ?_, fb, fr, Or.inl ⟨rfl, by omega, by omega, ⟨k', hs⟩, ?_⟩⟩
        · unfold R_takes
          rw [is_eq m11, if_pos e10, Option.bind_some, if_neg (by decide), within_eq, if_pos (by omega), Option.bind_some, if_neg (by decide)]
          unfold R_takes_20
          rw [if_pos m11, kn, Option.bind_some]
        · rw [w6]; exact rn.2.2.2.2.1 (by decide)
    · exact absurd rfl hh
  · rcases hw with ⟨hh, -⟩ | ⟨-, f0, g7, g8⟩
    · exact absurd hh c
    · have e9 : ¬ m 176 9 = 10 := fun h => c (kk.2.1.mpr h)
      refine ⟨0, b1, m 176 10, aup (aup m 176 11 (if m 176 9 = 13 then 1 else 2)) 176 12 (m 176 6), ?_, ?_, fb, mFr_fail (mFr.refl m), Or.inr ?_⟩
      · unfold Tape_wantNumber
        rw [kw, Option.bind_some]
        dsimp only
        rw [f0, if_pos rfl]
      · unfold R_takes
        rw [is_eq m11, if_neg e9, Option.bind_some, if_pos rfl, fails_eq m11, Option.bind_some]
        unfold R_takes_20
        rw [aup_of (by omega), aup_self, if_neg (by split <;> decide), aup_of (by omega), aup_of (by omega)]
      · unfold mFl
        rw [g7, g8, aup_of (by omega), aup_self, aup_self]
        by_cases d : k = 4
        · rw [if_pos d, if_pos (kk.2.2.2.2.1.mp d)]; exact ⟨by omega, rfl, rfl⟩
        · rw [if_neg d, if_neg (fun h => d (kk.2.2.2.2.1.mpr h))]; exact ⟨by omega, rfl, rfl⟩
theorem num_no {most : Int} {b m : aM} (h : mFl b m) : Tape_wantNumber most b = some (0, b) ∧ R_takes 0 most m = some (m 176 10, m) := by
  have b7 : b 1 7 ≠ 0 := by have := h.1; omega
  have m11 : m 176 11 ≠ 0 := by rw [h.2.1]; exact b7
  constructor
  · unfold Tape_wantNumber
    rw [wants_no b7, Option.bind_some, if_pos rfl]
  · unfold R_takes
    rw [is_no m11, Option.bind_some, if_pos rfl, fails_no m11, Option.bind_some]
    unfold R_takes_20
    rw [if_neg m11]
/-- a token that the class fails at, and the reference too -/
theorem eats_no {x : Int} {m : aM} (h : m 176 11 ≠ 0) : R_eats x m = some (0, m) := by
  unfold R_eats
  rw [is_no h, Option.bind_some, if_pos rfl]
theorem needs_no {x : Int} {m : aM} (h : m 176 11 ≠ 0) : R_needs x m = some m := by
  unfold R_needs
  rw [eats_no h, Option.bind_some]
  dsimp only
  rw [if_pos rfl, fails_no h, Option.bind_some]
theorem needs_bad {x : Int} {m : aM} (h : m 176 11 = 0) (c : m 176 9 ≠ x) : R_needs x m = some (aup (aup m 176 11 (if m 176 9 = 13 then 1 else 2)) 176 12 (m 176 6)) := by
  unfold R_needs R_eats
  rw [is_eq h, if_neg c, Option.bind_some, if_pos rfl, Option.bind_some]
  dsimp only
  rw [if_pos rfl, fails_eq h, Option.bind_some]
theorem needs_next {x : Int} {m : aM} (h : m 176 11 = 0) (c : m 176 9 = x) : R_needs x m = R_next m := by
  unfold R_needs R_eats
  rw [is_eq h, if_pos c, Option.bind_some, if_neg (by decide)]
  cases R_next m with
  | none => rfl
  | some r =>
    rw [Option.bind_some, Option.bind_some]
    dsimp only
    rw [if_neg (by decide)]
theorem mFl_bad {k : Int} {b m : aM} (kk : k = 4 ↔ m 176 9 = 13) (g7 : b 1 7 = (if k = 4 then 1 else 2)) (g8 : b 1 8 = m 176 6) : mFl b (aup (aup m 176 11 (if m 176 9 = 13 then 1 else 2)) 176 12 (m 176 6)) := by
  unfold mFl
  rw [g7, g8, aup_of (by omega), aup_self, aup_self]
  by_cases d : k = 4
  · rw [if_pos d, if_pos (kk.mp d)]; exact ⟨by omega, rfl, rfl⟩
  · rw [if_neg d, if_neg (fun h => d (kk.mpr h))]; exact ⟨by omega, rfl, rfl⟩
/-- a stop -/
theorem stop_ok {T : Int → Int} {n k : Int} {b m : aM} (n1 : n ≤ 500) (h : mSy T n k b m) : ∃ v b' m', Tape_wants 3 b = some (v, b') ∧ R_needs 11 m = some m' ∧ mFb b b' ∧ mFr m m' ∧ ((v = 1 ∧ (∃ k', mSy T n k' b' m') ∧ b 1 6 < b' 1 6) ∨ (v = 0 ∧ mFl b' m')) := by
  obtain ⟨hx, hxr, b7, m11, b8, tn⟩ := h
  obtain ⟨⟨f, b1⟩, kw, fb, w4, w5, w6, hw⟩ := wants_ok (s := 3) hx n1 b7 tn.1
  dsimp only at fb w4 w5 w6 hw
  have kk := mTn_k tn
  have rn := mTk_rng tn.1
  rcases hw with ⟨hk, f1, g7, g8⟩ | ⟨hk, f0, g7, g8⟩
  · obtain ⟨m', kn, ⟨k', hs⟩, fr⟩ := sy_next (b := b1) (mTx_fb hx fb) hxr n1 g7 (by rw [g8]; exact b8) m11 w6 (by omega) rn.2.2.1
    refine ⟨f, b1, m', kw, ?_, fb, fr, Or.inl ⟨f1, ⟨k', hs⟩, ?_⟩⟩
    · rw [needs_next m11 (kk.2.2.1.mp hk)]; exact kn
    · rw [w6]; exact rn.2.2.2.2.1 (by omega)
  · refine ⟨f, b1, _, kw, needs_bad m11 (fun h => hk (kk.2.2.1.mpr h)), fb, mFr_fail (mFr.refl m), Or.inr ⟨f0, mFl_bad kk.2.2.2.2.1 g7 g8⟩⟩
/-- a name that must stand there -/
theorem name_ok {T : Int → Int} {n k : Int} {b m : aM} {x : Nat} (hx9 : x < 9) (n1 : n ≤ 500) (h : mSy T n k b m) : ∃ b' m', Tape_wantName x b = some b' ∧ R_needs (mKx x) m = some m' ∧ mFb b b' ∧ mFr m m' ∧ (((∃ k', mSy T n k' b' m') ∧ b 1 6 < b' 1 6) ∨ mFl b' m') := by
  obtain ⟨hx, hxr, b7, m11, b8, tn⟩ := h
  obtain ⟨⟨f, b1⟩, kw, fb, w4, w5, w6, hw⟩ := wants_ok (s := 1) hx n1 b7 tn.1
  dsimp only at fb w4 w5 w6 hw
  have kk := mTn_k tn
  have rn := mTk_rng tn.1
  have xb := mKx_bd ⟨x, hx9⟩
  dsimp only at xb
  rcases hw with ⟨hk, f1, g7, g8⟩ | ⟨hk, f0, g7, g8⟩
  · subst hk
    have key := mTn_key tn
    obtain ⟨r, ki, -, hi⟩ := isNamed_ok hx9 (mTx_fb hx fb) n1 w5 w6 rn.1 rn.2.1 rn.2.2.1
    have iff := key.2 x hx9
    by_cases c : m 176 9 = mKx x
    · obtain ⟨m', kn, ⟨k', hs⟩, fr⟩ := sy_next (b := b1) (mTx_fb hx fb) hxr n1 g7 (by rw [g8]; exact b8) m11 w6 (by omega) rn.2.2.1
      refine ⟨b1, m', ?_, ?_, fb, fr, Or.inl ⟨⟨k', hs⟩, ?_⟩⟩
      · unfold Tape_wantName
        rw [kw, Option.bind_some]
        dsimp only
        rw [f1, if_neg (by decide), ki, Option.bind_some, if_neg (hi.mpr (iff.mpr c))]
      · rw [needs_next m11 c]; exact kn
      · rw [w6]; exact rn.2.2.2.2.1 (by decide)
    · refine ⟨aup (aup b1 1 7 2) 1 8 (b1 1 5), _, ?_, needs_bad m11 c, mFb_fail fb, mFr_fail (mFr.refl m), Or.inr (mFl_fail (by omega) ?_ w5)⟩
      · have r0 : r = 0 := by
          by_cases z : r = 0
          · exact z
          · exact absurd (iff.mp (hi.mp z)) c
        unfold Tape_wantName
        rw [kw, Option.bind_some]
        dsimp only
        rw [f1, if_neg (by decide), ki, Option.bind_some, if_pos r0, fail_eq g7, Option.bind_some]
      · have := kk.1.mp rfl
        rw [if_neg (by omega)]
  · have c : m 176 9 ≠ mKx x := fun h => hk (kk.1.mpr (by omega))
    refine ⟨b1, _, ?_, needs_bad m11 c, fb, mFr_fail (mFr.refl m), Or.inr (mFl_bad kk.2.2.2.2.1 g7 g8)⟩
    unfold Tape_wantName
    rw [kw, Option.bind_some]
    dsimp only
    rw [f0, if_pos rfl]
theorem name_no {x : Nat} {y : Int} {b m : aM} (h : mFl b m) : Tape_wantName x b = some b ∧ R_needs y m = some m := by
  have b7 : b 1 7 ≠ 0 := by have := h.1; omega
  have m11 : m 176 11 ≠ 0 := by rw [h.2.1]; exact b7
  refine ⟨?_, needs_no m11⟩
  unfold Tape_wantName
  rw [wants_no b7, Option.bind_some, if_pos rfl]
