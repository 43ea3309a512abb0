/-! A LINE OF THE TEXT: sounds, open -/
/-- both stand at the same token -/
def mSs (T : Int → Int) (n : Int) (b m : aM) : Prop := mTx T n b ∧ mTxR T n m ∧ b 1 7 = 0 ∧ m 176 11 = 0 ∧ b 1 8 = -1 ∧ b 1 5 = m 176 6 ∧ b 1 6 = m 176 7 ∧ 0 ≤ m 176 6 ∧ m 176 6 ≤ m 176 7 ∧ m 176 7 ≤ n ∧ m 176 9 ≠ 13
def mFb1 (b b' : aM) : Prop := ∀ q i, ¬(q = 1 ∧ 4 ≤ i ∧ i ≤ 8) → ¬(3 ≤ q ∧ q ≤ 24) → b' q i = b q i
def mFr1 (m m' : aM) : Prop := ∀ q i, ¬(q = 176 ∧ (i = 6 ∨ i = 7 ∨ i = 9 ∨ i = 10 ∨ i = 11 ∨ i = 12)) → ¬(q = 180 ∧ i < 154) → m' q i = m q i
theorem mFb1.of {b b' : aM} (h : mFb b b') : mFb1 b b' := fun q i a _ => h q i a
theorem mFr1.of {b b' : aM} (h : mFr b b') : mFr1 b b' := fun q i a _ => h q i a
theorem mFb1.trans {b b' b'' : aM} (h : mFb1 b b') (g : mFb1 b' b'') : mFb1 b b'' := fun q i a c => (g q i a c).trans (h q i a c)
theorem mFr1.trans {b b' b'' : aM} (h : mFr1 b b') (g : mFr1 b' b'') : mFr1 b b'' := fun q i a c => (g q i a c).trans (h q i a c)
theorem mTx_fb1 {T : Int → Int} {n : Int} {b b' : aM} (h : mTx T n b) (f : mFb1 b b') : mTx T n b' := mTx_same h (f 1 2 (by omega) (by omega)) (fun i => f 2 i (by omega) (by omega))
theorem mTxR_fr1 {T : Int → Int} {n : Int} {b b' : aM} (h : mTxR T n b) (f : mFr1 b b') : mTxR T n b' := mTxR_same h (f 176 8 (by omega) (by omega)) (fun i => f 179 i (by omega) (by omega))
/-- behind a line without its stop -/
def mLe (T : Int → Int) (n p : Int) (b m : aM) : Prop := ((∃ k, mSy T n k b m) ∧ mTg (m 180) b ∧ p ≤ b 1 6) ∨ mFl b m
theorem r180 {m m' : aM} (f : mFr m m') : m' 180 = m 180 := funext fun i => f 180 i (by omega)
/-- the token is asked to be letters, so many -/
theorem lett_ok {T : Int → Int} {n k lo hi : Int} {b m : aM} (n1 : n ≤ 500) (h : mSy T n k b m) : ∃ f b1, Tape_wants 1 b = some (f, b1) ∧ mFb b b1 ∧ b 1 6 ≤ b1 1 6 ∧
    ((f = 0 ∧ ∃ m', R_isLetters lo hi m = some (0, m') ∧ mFr m m' ∧ mFl b1 m') ∨
     (f = 1 ∧ mSs T n b1 m ∧ m 176 6 < m 176 7 ∧ (∀ j : Int, m 176 6 ≤ j → j < m 176 7 → mSml (T j)) ∧
       ((lo ≤ m 176 7 - m 176 6 ∧ m 176 7 - m 176 6 ≤ hi ∧ R_isLetters lo hi m = some (1, m)) ∨
        (¬(lo ≤ m 176 7 - m 176 6 ∧ m 176 7 - m 176 6 ≤ hi) ∧ R_isLetters lo hi m = some (0, aup (aup m 176 11 3) 176 12 (m 176 6)))))) := by
  obtain ⟨hx, hxr, b7, m11, b8, tn⟩ := h
  obtain ⟨⟨f, b1⟩, kw, fb, w4, w5, w6, hw⟩ := wants_ok (s := 1) hx n1 b7 tn.1
  dsimp only at fb w4 w5 w6 hw
  have kk := mTn_k tn
  have rn := mTk_rng tn.1
  refine ⟨f, b1, kw, fb, by omega, ?_⟩
  rcases hw with ⟨hk, f1, g7, g8⟩ | ⟨hk, f0, g7, g8⟩
  · subst hk
    have nm := mTk_name tn.1
    have k9 := kk.1.mp rfl
    refine Or.inr ⟨f1, ⟨mTx_fb hx fb, hxr, g7, m11, by rw [g8]; exact b8, w5, w6, rn.1, rn.2.1, rn.2.2.1, by omega⟩, nm.1, nm.2, ?_⟩
    by_cases c : lo ≤ m 176 7 - m 176 6 ∧ m 176 7 - m 176 6 ≤ hi
    · refine Or.inl ⟨c.1, c.2, ?_⟩
      unfold R_isLetters
      rw [if_pos m11, if_neg (by omega), w32e (by omega) (by omega), within_eq, if_pos c, Option.bind_some, if_neg (by decide)]
      unfold R_isLetters_29
      rw [if_pos m11]
    · refine Or.inr ⟨c, ?_⟩
      unfold R_isLetters
      rw [if_pos m11, if_neg (by omega), w32e (by omega) (by omega), within_eq, if_neg c, Option.bind_some, if_pos rfl, fails_eq m11, if_neg (by omega), Option.bind_some]
      unfold R_isLetters_29
      rw [aup_of (by omega), aup_self, if_neg (by decide)]
  · refine Or.inl ⟨f0, _, ?_, mFr_fail (mFr.refl m), mFl_bad kk.2.2.2.2.1 g7 g8⟩
    unfold R_isLetters
    rw [if_pos m11, if_pos (by omega), fails_eq m11, Option.bind_some]
theorem ln_sounds {T : Int → Int} {n : Int} {b m : aM} (n1 : n ≤ 500) (hs : mSs T n b m) (tg : mTg (m 180) b) : ∃ b' m', Tape_readSounds b = some b' ∧ R_readSounds m = some m' ∧ mFb1 b b' ∧ mFr1 m m' ∧ mLe T n (b 1 6) b' m' := by
  obtain ⟨hx, hxr, b7, m11, b8, e5, e6, q0, qe, e1, k13⟩ := hs
  have c0 := tg.1.1
  have x1 := tg.2.1.2.1
  by_cases c : 0 < m 180 0
  · refine ⟨_, _, ?_, ?_, mFb1.of (mFb_fail (mFb.refl b)), mFr1.of (mFr_fail (mFr.refl m)), Or.inr (mFl_fail (f := 4) (g := 4) (by omega) rfl e5)⟩
    · unfold Tape_readSounds
      rw [x1, if_pos c, fail_eq b7, Option.bind_some]
    · unfold R_readSounds
      rw [if_pos c, fails_eq m11, if_neg k13, Option.bind_some]
      unfold R_readSounds_8
      rw [aup_of (by omega), aup_self, if_neg (by decide)]
  have z : m 180 0 = 0 := by omega
  obtain ⟨m1, kn, ⟨k, hs1⟩, fr1⟩ := sy_next hx hxr n1 b7 b8 m11 e6 (by omega) e1
  obtain ⟨f, b1, kw, fb, p1, hl⟩ := lett_ok (lo := 2) (hi := 8) n1 hs1
  have clB : Tape_readSounds b = (if f = 0 then (some b1) else (if (w32 ((b1 1 6) - (b1 1 5))) < 2 then (Tape_readSounds_28 b1) else (if 8 < (w32 ((b1 1 6) - (b1 1 5))) then (Tape_readSounds_28 b1) else ((Tape_hasTwice b1).bind fun r7 => (if r7 = 0 then (Tape_readSounds_34 (w32 ((b1 1 6) - (b1 1 5))) FU 0 b1) else (Tape_readSounds_28 b1)))))) := by
    unfold Tape_readSounds
    rw [x1, if_neg c, kw, Option.bind_some]
  have clR : ∀ v m', R_isLetters 2 8 m1 = some (v, m') → R_readSounds m = (if v = 0 then (some m') else ((R_isTwice m').bind fun r6 => (if r6 = 0 then (R_readSounds_26 m') else ((R_fails 3 m').bind fun r15 => (R_readSounds_26 r15))))) := by
    intro v m' hv
    unfold R_readSounds
    rw [if_neg c]
    unfold R_readSounds_8
    rw [if_pos m11, kn, Option.bind_some, hv, Option.bind_some]
  rcases hl with ⟨f0, m', kl, fr2, fl⟩ | ⟨f1, ss, lt, sm, hl⟩
  · refine ⟨b1, m', ?_, ?_, mFb1.of fb, mFr1.of (fr1.trans fr2), Or.inr fl⟩
    · rw [clB, if_pos f0]
    · rw [clR 0 m' kl, if_pos rfl]
  obtain ⟨hx1, hxr1, b71, m111, b81, e51, e61, q01, qe1, e11, k131⟩ := ss
  have dl : w32 (b1 1 6 - b1 1 5) = m1 176 7 - m1 176 6 := by rw [e51, e61]; exact w32e (by omega) (by omega)
  rw [f1, if_neg (by decide), dl] at clB
  have failB : Tape_readSounds_28 b1 = some (aup (aup b1 1 7 3) 1 8 (b1 1 5)) := by
    unfold Tape_readSounds_28
    rw [fail_eq b71, Option.bind_some]
  rcases hl with ⟨l2, l8, kl⟩ | ⟨nl, kl⟩
  · rw [if_neg (by omega), if_neg (by omega)] at clB
    have clR1 := clR 1 m1 kl
    rw [if_neg (by decide)] at clR1
    obtain ⟨r, kt, -, ht⟩ := hasTwice_ok hx1 n1 e51 e61 q01 qe1 e11 sm
    obtain ⟨r', kt', -, ht'⟩ := isTwice_ok hxr1 n1 rfl rfl q01 qe1 e11
    rw [kt, Option.bind_some] at clB
    rw [kt', Option.bind_some] at clR1
    by_cases tw : mTw T (m1 176 6) (m1 176 7)
    · rw [if_neg (ht.mpr tw), failB] at clB
      rw [if_neg (ht'.mpr tw), fails_eq m111, if_neg k131, Option.bind_some] at clR1
      refine ⟨_, _, clB, ?_, mFb1.of (mFb_fail fb), mFr1.of (mFr_fail fr1), Or.inr (mFl_fail (f := 3) (g := 3) (by omega) rfl e51)⟩
      rw [clR1]
      unfold R_readSounds_26
      rw [aup_of (by omega), aup_self, if_neg (by decide)]
    · have r0 : r = 0 := Classical.byContradiction (fun h => tw (ht.mp h))
      have r0' : r' = 0 := Classical.byContradiction (fun h => tw (ht'.mp h))
      rw [if_pos r0] at clB
      rw [if_pos r0'] at clR1
      -- the class writes the letters
      have wB : mOk (Tape_readSounds_34 (m1 176 7 - m1 176 6) FU 0 b1) (fun b2 => b2 3 1 = m1 176 7 - m1 176 6 ∧ (∀ j : Int, 0 ≤ j → j < m1 176 7 - m1 176 6 → b2 4 j.toNat = T (m1 176 6 + j)) ∧ ∀ q i, ¬(q = 3 ∧ i = 1) → q ≠ 4 → b2 q i = b1 q i) := by
        refine mL2 (Tape_readSounds_34 (m1 176 7 - m1 176 6)) (fun x mm => (0 ≤ x ∧ x ≤ m1 176 7 - m1 176 6) ∧ (∀ j : Int, 0 ≤ j → j < x → mm 4 j.toNat = T (m1 176 6 + j)) ∧ ∀ q i, q ≠ 4 → mm q i = b1 q i) (fun x _ => (9 - x).toNat) ?_ 0 b1 ⟨by omega, fun j a d => by omega, fun _ _ _ => rfl⟩ (by omega)
        rintro fu x mm ⟨x1', hj, fr⟩ ih
        rw [Tape_readSounds_34, fr 1 5 (by omega), e51]
        by_cases d : x < m1 176 7 - m1 176 6
        · have tv := hx1.2 (m1 176 6 + x) (by omega) (by omega)
          have ts := sm (m1 176 6 + x) (by omega) (by omega)
          unfold mSml at ts
          rw [if_pos d, w32e (x := m1 176 6 + x) (by omega) (by omega), if_pos (by omega), if_pos (by omega), st1e, fr 2 _ (by omega), tv.2, w8e (x := T (m1 176 6 + x)) (by omega) (by omega), w8e (by omega) (by omega), w32e (by omega) (by omega)]
          refine ih _ _ ⟨by omega, fun j a g => ?_, fun q i a => by rw [aup_of (by omega)]; exact fr q i a⟩ (by omega)
          by_cases ej : j = x
          · rw [ej, aup_self]
          · rw [aup_of (by omega)]; exact hj j a (by omega)
        · rw [if_neg d, st1e]
          refine mOk_some ⟨aup_self _ _ _ _, fun j a g => ?_, fun q i a g => ?_⟩
          · rw [aup_of (by omega)]; exact hj j a (by omega)
          · rw [aup_of (by omega)]; exact fr q i g
      obtain ⟨b2, kb, g1, g2, g3⟩ := wB
      -- the reference too
      have wR : mOk (R_readSounds_26 m1) (fun m2 => (∃ k, mSy T n k b2 m2) ∧ m2 180 0 = m1 176 7 - m1 176 6 ∧ (∀ j : Int, 0 ≤ j → j < m1 176 7 - m1 176 6 → m2 180 (1 + j).toNat = T (m1 176 6 + j)) ∧ (∀ i : Nat, ¬(i ≤ 8) → m2 180 i = m1 180 i) ∧ mFr1 m1 m2) := by
        unfold R_readSounds_26
        rw [if_pos m111, w32e (x := m1 176 7 - m1 176 6) (by omega) (by omega), st1e, aup_of (by omega)]
        refine mL2 R_readSounds_42 (fun x mm => (m1 176 6 ≤ x ∧ x ≤ m1 176 7) ∧ mm 180 0 = m1 176 7 - m1 176 6 ∧ (∀ j : Int, m1 176 6 ≤ j → j < x → mm 180 (1 + j - m1 176 6).toNat = T j) ∧ (∀ i : Nat, ¬(i ≤ 8) → mm 180 i = m1 180 i) ∧ ∀ q i, q ≠ 180 → mm q i = m1 q i) (fun x _ => (501 - x).toNat) ?_ (m1 176 6) _ ⟨by omega, aup_self _ _ _ _, fun j a d => by omega, fun i a => aup_of (by omega), fun q i a => aup_of (by omega)⟩ (by omega)
        rintro fu x mm ⟨x1', h0, hj, hi, fr⟩ ih
        rw [R_readSounds_42, fr 176 7 (by omega), fr 176 6 (by omega)]
        by_cases d : x < m1 176 7
        · rw [if_pos d, if_pos (by omega), w32e (x := 1 + x) (by omega) (by omega), w32e (x := 1 + x - m1 176 6) (by omega) (by omega), if_pos (by omega), st1e, fr 179 _ (by omega), (hxr1.2 x (by omega) (by omega)).2, w32e (x := x + 1) (by omega) (by omega)]
          refine ih _ _ ⟨by omega, by rw [aup_of (by omega)]; exact h0, fun j a g => ?_, fun i a => by rw [aup_of (by omega)]; exact hi i a, fun q i a => by rw [aup_of (by omega)]; exact fr q i a⟩ (by omega)
          by_cases ej : j = x
          · rw [ej, aup_self]
          · rw [aup_of (by omega)]; exact hj j a (by omega)
        · rw [if_neg d]
          have frm : mFr1 m1 mm := fun q i _ a => if h : q = 180 then by subst h; exact hi i (by omega) else fr q i h
          have fb2 : mFb1 b1 b2 := fun q i a g => g3 q i (by omega) (by omega)
          refine mOk_bind (sy_next (b := b2) (mTx_fb1 hx1 fb2) (mTxR_fr1 hxr1 frm) n1 (by rw [g3 _ _ (by omega) (by omega)]; exact b71) (by rw [g3 _ _ (by omega) (by omega)]; exact b81) (by rw [fr _ _ (by omega)]; exact m111) (by rw [g3 _ _ (by omega) (by omega), fr _ _ (by omega)]; exact e61) (by rw [fr _ _ (by omega)]; omega) (by rw [fr _ _ (by omega)]; exact e11)) (fun m2 k2 => ?_)
          obtain ⟨hk, f2⟩ := k2
          have e180 := r180 f2
          refine mOk_some ⟨hk, by rw [e180]; exact h0, fun j a g => ?_, fun i a => by rw [e180]; exact hi i a, frm.trans (mFr1.of f2)⟩
          rw [e180, show (1 + j).toNat = (1 + (m1 176 6 + j) - m1 176 6).toNat by omega]
          exact hj _ (by omega) (by omega)
      obtain ⟨m2, km, hk, g4, g5, g6, g7⟩ := wR
      refine ⟨b2, m2, clB.trans kb, clR1.trans km, fun q i a g => by rw [g3 q i (by omega) (by omega)]; exact fb q i a, (mFr1.of fr1).trans g7, Or.inl ⟨hk, ?_, ?_⟩⟩
      · rw [r180 fr1] at g6
        refine mTg_sounds (l := m1 176 7 - m1 176 6) (S := fun j => T (m1 176 6 + j)) tg z (by omega) (fun j a d => sm _ (by omega) (by omega)) g4 g5 g6 g1 g2 (fun q i a d e g => ?_)
        rw [g3 q i e g]
        exact fb q i (by omega)
      · rw [g3 _ _ (by omega) (by omega)]; exact p1
  · have cB : Tape_readSounds b = some (aup (aup b1 1 7 3) 1 8 (b1 1 5)) := by
      rw [clB]
      by_cases d : m1 176 7 - m1 176 6 < 2
      · rw [if_pos d, failB]
      · rw [if_neg d, if_pos (by omega), failB]
    refine ⟨_, _, cB, ?_, mFb1.of (mFb_fail fb), mFr1.of (mFr_fail fr1), Or.inr (mFl_fail (f := 3) (g := 3) (by omega) rfl e51)⟩
    rw [clR 0 _ kl, if_pos rfl]
