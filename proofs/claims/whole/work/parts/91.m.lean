/-! A LINE OF THE TEXT: word, shape -/
theorem mTo {σ α : Type} (F : Nat → σ → Option α) (I : σ → Prop) (μ : σ → Nat) {P : Option α → Prop} (step : ∀ n s, I s → (∀ s', I s' → μ s' < μ s → P (F n s')) → P (F (n + 1) s)) : ∀ n s, I s → μ s < n → P (F n s) := by
  intro n
  induction n with
  | zero => intro s _ h; omega
  | succ n ih =>
    intro s hs hm
    exact step n s hs (fun s' hs' hl => ih s' hs' (by omega))
theorem mTo2 {σ τ α : Type} (F : Nat → σ → τ → Option α) (I : σ → τ → Prop) (μ : σ → τ → Nat) {P : Option α → Prop} (step : ∀ n a b, I a b → (∀ a' b', I a' b' → μ a' b' < μ a b → P (F n a' b')) → P (F (n + 1) a b)) (a : σ) (b : τ) (hs : I a b) (hm : μ a b < 1000000) : P (F FU a b) :=
  mTo (fun n s => F n s.1 s.2) (fun s => I s.1 s.2) (fun s => μ s.1 s.2) (fun n s hs ih => step n s.1 s.2 hs (fun a' b' h1 h2 => ih (a', b') h1 h2)) FU (a, b) hs hm
theorem mTo3 {σ τ υ α : Type} (F : Nat → σ → τ → υ → Option α) (I : σ → τ → υ → Prop) (μ : σ → τ → υ → Nat) {P : Option α → Prop} (step : ∀ n a b c, I a b c → (∀ a' b' c', I a' b' c' → μ a' b' c' < μ a b c → P (F n a' b' c')) → P (F (n + 1) a b c)) (a : σ) (b : τ) (c : υ) (hs : I a b c) (hm : μ a b c < 1000000) : P (F FU a b c) :=
  mTo (fun n s => F n s.1 s.2.1 s.2.2) (fun s => I s.1 s.2.1 s.2.2) (fun s => μ s.1 s.2.1 s.2.2) (fun n s hs ih => step n s.1 s.2.1 s.2.2 hs (fun a' b' c' h1 h2 => ih (a', b', c') h1 h2)) FU (a, b, c) hs hm
/-- in step, or both at the same fault -/
def mStp (T : Int → Int) (n p : Int) (b m : aM) : Prop := ((∃ k, mSy T n k b m) ∧ p ≤ b 1 6) ∨ mFl b m
theorem mFl_fr {b m b' m' : aM} (h : mFl b m) (fb : ∀ q i, q = 1 → b' q i = b q i) (fm : ∀ q i, q = 176 → m' q i = m q i) : mFl b' m' := by
  unfold mFl
  rw [fb 1 7 rfl, fb 1 8 rfl, fm 176 11 rfl, fm 176 12 rfl]
  exact h
theorem mStp_fr {T : Int → Int} {n p : Int} {b m b' m' : aM} (h : mStp T n p b m) (fb : ∀ q i, q = 1 ∨ q = 2 → b' q i = b q i) (fm : ∀ q i, q = 176 ∨ q = 179 → m' q i = m q i) : mStp T n p b' m' := by
  rcases h with ⟨⟨k, hk⟩, hp⟩ | h
  · exact Or.inl ⟨⟨k, mSy_fr hk fb fm⟩, by rw [fb _ _ (Or.inl rfl)]; exact hp⟩
  · exact Or.inr (mFl_fr h (fun q i a => fb q i (Or.inl a)) (fun q i a => fm q i (Or.inl a)))
theorem name_st {T : Int → Int} {n p : Int} {b m : aM} {x : Nat} (hx9 : x < 9) (n1 : n ≤ 500) (h : mStp T n p b m) : ∃ b' m', Tape_wantName x b = some b' ∧ R_needs (mKx x) m = some m' ∧ mFb b b' ∧ mFr m m' ∧ mStp T n p b' m' := by
  rcases h with ⟨⟨k, hk⟩, hp⟩ | h
  · obtain ⟨b', m', k1, k2, k3, k4, k5⟩ := name_ok hx9 n1 hk
    refine ⟨b', m', k1, k2, k3, k4, ?_⟩
    rcases k5 with ⟨k5, k6⟩ | k5
    · exact Or.inl ⟨k5, by omega⟩
    · exact Or.inr k5
  · have nn := name_no (x := x) (y := mKx x) h
    exact ⟨b, m, nn.1, nn.2, mFb.refl b, mFr.refl m, Or.inr h⟩
theorem num_st {T : Int → Int} {n p most : Int} {b m : aM} (m0 : 0 ≤ most) (n1 : n ≤ 500) (h : mStp T n p b m) : ∃ v b' v' m', Tape_wantNumber most b = some (v, b') ∧ R_takes 0 most m = some (v', m') ∧ mFb b b' ∧ mFr m m' ∧ mStp T n p b' m' ∧ ((v = v' ∧ 0 ≤ v ∧ v ≤ most) ∨ mFl b' m') := by
  rcases h with ⟨⟨k, hk⟩, hp⟩ | h
  · obtain ⟨v, b', v', m', k1, k2, k3, k4, k5⟩ := num_ok n1 hk m0
    refine ⟨v, b', v', m', k1, k2, k3, k4, ?_⟩
    rcases k5 with ⟨k5, k6, k7, k8, k9⟩ | k5
    · exact ⟨Or.inl ⟨k8, by omega⟩, Or.inl ⟨k5, k6, k7⟩⟩
    · exact ⟨Or.inr k5, Or.inr k5⟩
  · have nn := num_no (most := most) h
    exact ⟨0, b, m 176 10, m, nn.1, nn.2, mFb.refl b, mFr.refl m, Or.inr h, Or.inr h⟩
theorem aln_sp3 {w : Int} (h0 : 0 ≤ w) (h1 : w < 12) : aln (3 + 4 + w.toNat) = 6 := by
  have aux : ∀ r : Fin 12, aln (3 + 4 + r.val) = 6 := by decide
  exact aux ⟨w.toNat, by omega⟩
def mWtB (w l : Int) (mm : aM) : Option aM := (Tongue_findWord 3 (3 + 4 + w.toNat) l mm).bind fun r10 => (if r10 = (-1) then (st1 (aup mm 19 w.toNat l) fun mm12 => ((Tape_wantName 7 mm12).bind fun r13 => ((Tape_wantNumber 99 r13).bind fun r14 => (st1 (aup r14.2 20 w.toNat r14.1) fun mm15 => ((Tape_wantName 8 mm15).bind fun r16 => ((Tape_wantNumber 3 r16).bind fun r17 => (st1 (aup r17.2 21 w.toNat r17.1) fun mm18 => (st1 (aup mm18 3 2 (w32 ((mm18 3 2) + 1))) fun mm19 => (some mm19))))))))) else ((Tape_fail 3 mm).bind fun r20 => (some r20)))
def mWtR (w : Int) (mm : aM) : Option aM := (R_next mm).bind fun r13 => ((R_needs 4 r13).bind fun r14 => ((R_takes 0 99 r14).bind fun r15 => (if 0 ≤ (w32 (32 + w)) ∧ (w32 (32 + w)) < 155 then (st1 (aup r15.2 180 (w32 (32 + w)).toNat r15.1) fun mm17 => ((R_needs 5 mm17).bind fun r18 => ((R_takes 0 3 r18).bind fun r19 => (if 0 ≤ (w32 (45 + w)) ∧ (w32 (45 + w)) < 155 then (st1 (aup r19.2 180 (w32 (45 + w)).toNat r19.1) fun mm21 => (st1 (aup mm21 180 18 (w32 ((mm21 180 18) + 1))) fun mm22 => (some mm22))) else none)))) else none)))
theorem ln_word {T : Int → Int} {n : Int} {b m : aM} (n1 : n ≤ 500) (hs : mSs T n b m) (tg : mTg (m 180) b) : ∃ b' m', Tape_readWord b = some b' ∧ R_readWord m = some m' ∧ mFb1 b b' ∧ mFr1 m m' ∧ mLe T n (b 1 6) b' m' := by
  obtain ⟨hx, hxr, b7, m11, b8, e5, e6, q0, qe, e1, k13⟩ := hs
  have x2 := tg.2.1.2.2.1
  have c4 := tg.1.2.2.2.2.1
  generalize hw : m 180 18 = w at *
  by_cases c : w = 12
  · refine ⟨aup (aup b 1 7 4) 1 8 (b 1 5), aup (aup m 176 11 4) 176 12 (m 176 6), ?_, ?_, mFb1.of (mFb_fail (mFb.refl b)), mFr1.of (mFr_fail (mFr.refl m)), Or.inr (mFl_fail (by omega) rfl e5)⟩
    · unfold Tape_readWord
      rw [x2, if_neg (by omega), fail_eq b7, Option.bind_some]
    · unfold R_readWord
      rw [hw, if_pos c, fails_eq m11, if_neg k13, Option.bind_some]
      unfold R_readWord_11
      rw [aup_of (by omega), aup_self, if_neg (by decide)]
  obtain ⟨m1, kn, ⟨k, hs1⟩, fr1⟩ := sy_next hx hxr n1 b7 b8 m11 e6 (by omega) e1
  obtain ⟨f, b1, kw, fb, p1, hl⟩ := lett_ok (lo := 1) (hi := 6) n1 hs1
  have e180 : m1 180 = m 180 := r180 fr1
  rw [← e180] at tg hw
  have c0 := tg.1.1
  have c1 := tg.1.2.1
  have c5 := tg.1.2.2.2.2.2.1
  have clB : Tape_readWord b = (if f = 0 then (some b1) else (if 6 < (w32 ((b1 1 6) - (b1 1 5))) then (Tape_readWord_28 b1) else ((Tape_isOfSounds b1).bind fun r6 => (if r6 = 0 then (Tape_readWord_28 b1) else (Tape_readWord_34 w (w32 ((b1 1 6) - (b1 1 5))) FU 0 b1))))) := by
    unfold Tape_readWord
    rw [x2, if_pos (by omega), kw, Option.bind_some]
  have clR : ∀ v m', R_isLetters 1 6 m1 = some (v, m') → R_readWord m = (if v = 0 then (some m') else ((R_areSounds m').bind fun r6 => (if r6 = 0 then (R_readWord_39 w m') else ((R_wordOf 180 (m' 176 6) (w32 ((m' 176 7) - (m' 176 6))) m').bind fun r27 => (if r27 = (-1) then (R_readWord_42 w m') else (R_readWord_39 w m')))))) := by
    intro v m' hv
    unfold R_readWord
    rw [← e180, hw, if_neg c]
    unfold R_readWord_11
    rw [if_pos m11, kn, Option.bind_some, hv, Option.bind_some]
  rcases hl with ⟨f0, m', kl, fr2, fl⟩ | ⟨f1, ss, lt, sm, hl⟩
  · refine ⟨b1, m', ?_, ?_, mFb1.of fb, mFr1.of (fr1.trans fr2), Or.inr fl⟩
    · rw [clB, if_pos f0]
    · rw [clR 0 m' kl, if_pos rfl]
  obtain ⟨hx1, hxr1, b71, m111, b81, e51, e61, q01, qe1, e11, k131⟩ := ss
  have tg1 : mTg (m1 180) b1 := mTg_fb tg (fun q i a d => fb q i (by omega))
  have a1 := tg1.2.1.2.1
  have b1' := tg1.2.2.1
  have dl : w32 (b1 1 6 - b1 1 5) = m1 176 7 - m1 176 6 := by rw [e51, e61]; exact w32e (by omega) (by omega)
  rw [f1, if_neg (by decide), dl] at clB
  have failB : ∀ bb : aM, bb 1 7 = 0 → Tape_fail 3 bb = some (aup (aup bb 1 7 3) 1 8 (bb 1 5)) := fun bb h => fail_eq h
  have failR : R_readWord_39 w m1 = some (aup (aup m1 176 11 3) 176 12 (m1 176 6)) := by
    unfold R_readWord_39
    rw [fails_eq m111, if_neg k131, Option.bind_some]
    unfold R_readWord_42
    rw [aup_of (by omega), aup_self, if_neg (by decide)]
  have fail28 : Tape_readWord_28 b1 = some (aup (aup b1 1 7 3) 1 8 (b1 1 5)) := by
    unfold Tape_readWord_28
    rw [fail_eq b71, Option.bind_some]
  rcases hl with ⟨l1, l6, kl⟩ | ⟨nl, kl⟩
  rotate_left
  · refine ⟨_, _, ?_, ?_, mFb1.of (mFb_fail fb), mFr1.of (mFr_fail fr1), Or.inr (mFl_fail (f := 3) (g := 3) (by omega) rfl e51)⟩
    · rw [clB, if_pos (by omega), fail28]
    · rw [clR 0 _ kl, if_pos rfl]
  have clR1 := clR 1 m1 kl
  rw [if_neg (by decide), w32e (by omega) (by omega)] at clR1
  rw [if_neg (by omega)] at clB
  obtain ⟨u, ku, -, hu⟩ := ofSounds_ok (A := m1 180) hx1 n1 e51 e61 q01 qe1 e11 c0 c1 a1 b1'
  obtain ⟨u', ku', -, hu'⟩ := areSounds_d hxr1 n1 rfl rfl q01 qe1 e11 c0
  rw [ku, Option.bind_some] at clB
  rw [ku', Option.bind_some] at clR1
  by_cases all : ∀ j : Int, m1 176 6 ≤ j → j < m1 176 7 → mSi (m1 180) (T j) ≠ -1
  rotate_left
  · have z : u = 0 := Classical.byContradiction (fun h => all (hu.mp h))
    have z' : u' = 0 := Classical.byContradiction (fun h => all (hu'.mp h))
    refine ⟨_, _, ?_, ?_, mFb1.of (mFb_fail fb), mFr1.of (mFr_fail fr1), Or.inr (mFl_fail (f := 3) (g := 3) (by omega) rfl e51)⟩
    · rw [clB, if_pos z, fail28]
    · rw [clR1, if_pos z', failR]
  rw [if_neg (hu.mpr all)] at clB
  rw [if_neg (hu'.mpr all)] at clR1
  have rg : ∀ j : Int, m1 176 6 ≤ j → j < m1 176 7 → 0 ≤ mSi (m1 180) (T j) ∧ mSi (m1 180) (T j) < m1 180 0 := by
    intro j a d
    have := mSi_bd c0 (T j)
    have := all j a d
    omega
  -- the class writes the sounds
  have wB : ∃ b2 : aM, (∀ j : Int, 0 ≤ j → j < m1 176 7 - m1 176 6 → b2 (3 + 4 + w.toNat) j.toNat = mSi (m1 180) (T (m1 176 6 + j))) ∧ (∀ q i, q ≠ 3 + 4 + w.toNat → b2 q i = b1 q i) ∧ Tape_readWord_34 w (m1 176 7 - m1 176 6) FU 0 b1 = mWtB w (m1 176 7 - m1 176 6) b2 := by
    refine mTo2 (P := fun o => ∃ b2 : aM, (∀ j : Int, 0 ≤ j → j < m1 176 7 - m1 176 6 → b2 (3 + 4 + w.toNat) j.toNat = mSi (m1 180) (T (m1 176 6 + j))) ∧ (∀ q i, q ≠ 3 + 4 + w.toNat → b2 q i = b1 q i) ∧ o = mWtB w (m1 176 7 - m1 176 6) b2) (Tape_readWord_34 w (m1 176 7 - m1 176 6)) (fun x mm => (0 ≤ x ∧ x ≤ m1 176 7 - m1 176 6) ∧ (∀ j : Int, 0 ≤ j → j < x → mm (3 + 4 + w.toNat) j.toNat = mSi (m1 180) (T (m1 176 6 + j))) ∧ ∀ q i, q ≠ 3 + 4 + w.toNat → mm q i = b1 q i) (fun x _ => (7 - x).toNat) ?_ 0 b1 ⟨by omega, fun j a d => by omega, fun _ _ _ => rfl⟩ (by omega)
    rintro fu x mm ⟨x1', hj, fr⟩ ih
    rw [Tape_readWord_34, fr 1 5 (by omega), e51]
    by_cases d : x < m1 176 7 - m1 176 6
    · have tv := hx1.2 (m1 176 6 + x) (by omega) (by omega)
      have fs := findSound_d (b := mm) (A := m1 180) (x := w8 (T (m1 176 6 + x))) (y := T (m1 176 6 + x)) c0 c1 (by rw [fr _ _ (by omega)]; exact a1) (fun s h0 h1 => by rw [fr _ _ (by omega)]; exact b1' s h0 h1) tv.1.1 tv.1.2 rfl
      have rx := rg (m1 176 6 + x) (by omega) (by omega)
      rw [if_pos d, if_pos (by omega), w32e (x := m1 176 6 + x) (by omega) (by omega), if_pos (by omega), fr 2 _ (by omega), tv.2, fs.1, Option.bind_some, if_pos (by omega), st1e, w8e (x := mSi (m1 180) (T (m1 176 6 + x))) (by omega) (by omega), w8e (by omega) (by omega), w32e (by omega) (by omega)]
      refine ih _ _ ⟨by omega, fun j a g => ?_, fun q i a => by rw [aup_of (by omega)]; exact fr q i a⟩ (by omega)
      by_cases ej : j = x
      · rw [ej, aup_self]
      · rw [aup_of (by omega)]; exact hj j a (by omega)
    · rw [if_neg d, if_pos (by omega)]
      exact ⟨mm, fun j a g => hj j a (by omega), fr, rfl⟩
  obtain ⟨b2, g1, g2, g3⟩ := wB
  rw [g3] at clB
  have fb12 : mFb1 b1 b2 := fun q i a d => g2 q i (by omega)
  -- whether the word is there
  have kf := findWord_ok (t := 3) (x1 := 3 + 4 + w.toNat) (n := m1 176 7 - m1 176 6) (m := b2) (by rw [aln_sp3 (by omega) (by omega)]; omega) (by rw [g2 _ _ (by omega), tg1.2.1.2.2.1]; omega) (by rw [g2 _ _ (by omega), tg1.2.1.2.2.1]; omega) (fun v v0 v1 => by
    rw [g2 _ _ (by omega), tg1.2.1.2.2.1] at v1
    rw [g2 _ _ (by omega)]
    have := (tg1.2.2.2.2.1 v v0 v1).1
    have h2 := (c5 v v0 v1).1
    show b1 19 v.toNat ≤ 6
    omega)
  have kf' := wordOf_d (T := T) (q := m1 176 6) (l := m1 176 7 - m1 176 6) hxr1 n1 q01 (by omega) l6 c0 (by omega)
  obtain ⟨r, kf1, kf2⟩ := kf
  obtain ⟨r', kf1', kf2'⟩ := kf'
  have er : r = r' := by
    rw [g2 _ _ (by omega), tg1.2.1.2.2.1] at kf2
    refine mFst_uni (fun v v0 v1 => ?_) kf2 kf2'
    obtain ⟨d1, -, -, d4⟩ := tg1.2.2.2.2.1 v v0 v1
    have e19 : b2 (3 + 16) v.toNat = m1 180 (19 + v).toNat := by rw [g2 _ _ (by omega)]; exact d1
    unfold mWq
    rw [e19]
    have l6' := (c5 v v0 v1).1
    constructor
    · rintro ⟨h1, h2⟩
      refine ⟨h1, fun j j0 j1 => ?_⟩
      have := h2 j j0 j1
      rw [g1 j j0 j1, g2 _ _ (by omega), d4 j j0 (by omega)] at this
      exact this.symm
    · rintro ⟨h1, h2⟩
      refine ⟨h1, fun j j0 j1 => ?_⟩
      rw [g1 j j0 j1, g2 _ _ (by omega), d4 j j0 (by omega)]
      exact (h2 j j0 j1).symm
  subst er
  unfold mWtB at clB
  rw [kf1, Option.bind_some] at clB
  rw [kf1', Option.bind_some] at clR1
  by_cases z : r = -1
  rotate_left
  · rw [if_neg z, fail_eq (by rw [g2 _ _ (by omega)]; exact b71), Option.bind_some] at clB
    rw [if_neg z, failR] at clR1
    refine ⟨_, _, clB, clR1, ?_, mFr1.of (mFr_fail fr1), Or.inr (mFl_fail (f := 3) (g := 3) (by omega) rfl (by rw [g2 _ _ (by omega)]; exact e51))⟩
    intro q i a d
    rw [aup_of (by omega), aup_of (by omega), g2 _ _ (by omega)]
    exact fb q i a
  rw [if_pos z, st1e] at clB
  rw [if_pos z] at clR1
  -- the reference writes length and sounds
  have wR : ∃ m2 : aM, m2 180 (19 + w).toNat = m1 176 7 - m1 176 6 ∧ (∀ j : Int, 0 ≤ j → j < m1 176 7 - m1 176 6 → m2 180 (58 + 6 * w + j).toNat = mSi (m1 180) (T (m1 176 6 + j))) ∧ (∀ q i, q ≠ 180 → m2 q i = m1 q i) ∧ (∀ i : Nat, (i : Int) ≠ 19 + w → ¬(58 + 6 * w ≤ (i : Int) ∧ (i : Int) < 64 + 6 * w) → m2 180 i = m1 180 i) ∧ R_readWord_42 w m1 = mWtR w m2 := by
    unfold R_readWord_42
    rw [if_pos m111, w32e (x := 19 + w) (by omega) (by omega), if_pos (by omega), st1e, w32e (x := m1 176 7 - m1 176 6) (by omega) (by omega), aup_of (by omega)]
    refine mTo2 (P := fun o => ∃ m2 : aM, m2 180 (19 + w).toNat = m1 176 7 - m1 176 6 ∧ (∀ j : Int, 0 ≤ j → j < m1 176 7 - m1 176 6 → m2 180 (58 + 6 * w + j).toNat = mSi (m1 180) (T (m1 176 6 + j))) ∧ (∀ q i, q ≠ 180 → m2 q i = m1 q i) ∧ (∀ i : Nat, (i : Int) ≠ 19 + w → ¬(58 + 6 * w ≤ (i : Int) ∧ (i : Int) < 64 + 6 * w) → m2 180 i = m1 180 i) ∧ o = mWtR w m2) (R_readWord_60 w) (fun x mm => (m1 176 6 ≤ x ∧ x ≤ m1 176 7) ∧ mm 180 (19 + w).toNat = m1 176 7 - m1 176 6 ∧ (∀ j : Int, 0 ≤ j → j < x - m1 176 6 → mm 180 (58 + 6 * w + j).toNat = mSi (m1 180) (T (m1 176 6 + j))) ∧ (∀ q i, q ≠ 180 → mm q i = m1 q i) ∧ (∀ i : Nat, (i : Int) ≠ 19 + w → ¬(58 + 6 * w ≤ (i : Int) ∧ (i : Int) < 64 + 6 * w) → mm 180 i = m1 180 i)) (fun x _ => (501 - x).toNat) ?_ (m1 176 6) _ ⟨by omega, aup_self _ _ _ _, fun j a d => by omega, fun q i a => aup_of (by omega), fun i a d => aup_of (by omega)⟩ (by omega)
    rintro fu x mm ⟨x1', h19, hj, fr, fi⟩ ih
    rw [R_readWord_60, fr 176 7 (by omega)]
    by_cases d : x < m1 176 7
    · have cg : mSi (mm 180) (T x) = mSi (m1 180) (T x) := mSi_cg (fun i a => fi i (by omega) (by omega)) c0.2
      have so := soundOf_d (m := mm) (by rw [fi 0 (by omega) (by omega)]; exact c0) (T x)
      rw [if_pos d, if_pos (by omega), fr 179 _ (by omega), (hxr1.2 x (by omega) (by omega)).2, so.1, Option.bind_some, fr 176 6 (by omega), w32e (x := 6 * w) (by omega) (by omega), w32e (x := 58 + 6 * w) (by omega) (by omega), w32e (x := 58 + 6 * w + x) (by omega) (by omega), w32e (x := 58 + 6 * w + x - m1 176 6) (by omega) (by omega), if_pos (by omega), st1e, w32e (x := x + 1) (by omega) (by omega), cg]
      refine ih _ _ ⟨by omega, by rw [aup_of (by omega)]; exact h19, fun j a g => ?_, fun q i a => by rw [aup_of (by omega)]; exact fr q i a, fun i a g => by rw [aup_of (by omega)]; exact fi i a g⟩ (by omega)
      by_cases ej : j = x - m1 176 6
      · rw [aup_at rfl (by omega), ej, show m1 176 6 + (x - m1 176 6) = x by omega]
      · rw [aup_of (by omega)]; exact hj j a (by omega)
    · rw [if_neg d]
      exact ⟨mm, h19, fun j a g => hj j a (by omega), fr, fi, rfl⟩
  obtain ⟨m2, r1, r2, r3, r4, r5⟩ := wR
  rw [r5] at clR1
  unfold mWtR at clR1
  -- use and kind
  have frm : mFr1 m1 m2 := fun q i _ a => if h : q = 180 then by subst h; exact r4 i (by omega) (by omega) else r3 q i h
  obtain ⟨m3, kn3, ⟨k3, hs3⟩, fr3⟩ := sy_next (b := aup b2 19 w.toNat (m1 176 7 - m1 176 6)) (m := m2) (mTx_fb1 hx1 (fun q i a d => by rw [aup_of (by omega)]; exact fb12 q i a d)) (mTxR_fr1 hxr1 frm) n1 (by rw [aup_of (by omega), g2 _ _ (by omega)]; exact b71) (by rw [aup_of (by omega), g2 _ _ (by omega)]; exact b81) (by rw [r3 _ _ (by omega)]; exact m111) (by rw [aup_of (by omega), g2 _ _ (by omega), r3 _ _ (by omega)]; exact e61) (by rw [r3 _ _ (by omega)]; omega) (by rw [r3 _ _ (by omega)]; exact e11)
  have st3 : mStp T n (b 1 6) (aup b2 19 w.toNat (m1 176 7 - m1 176 6)) m3 := Or.inl ⟨⟨k3, hs3⟩, by rw [aup_of (by omega), g2 _ _ (by omega)]; exact p1⟩
  obtain ⟨b4, m4, kb4, km4, fb4, fr4, st4⟩ := name_st (x := 7) (by omega) n1 st3
  obtain ⟨v, b5, v', m5, kb5, km5, fb5, fr5, st5, hv⟩ := num_st (most := 99) (by omega) n1 st4
  have st6 : mStp T n (b 1 6) (aup b5 20 w.toNat v) (aup m5 180 (32 + w).toNat v') := mStp_fr st5 (fun q i a => aup_of (by omega)) (fun q i a => aup_of (by omega))
  obtain ⟨b7', m7, kb7, km7, fb7, fr7, st7⟩ := name_st (x := 8) (by omega) n1 st6
  obtain ⟨y, b8', y', m8, kb8, km8, fb8, fr8, st8, hy⟩ := num_st (most := 3) (by omega) n1 st7
  have km4' : R_needs 4 m3 = some m4 := km4
  have km7' : R_needs 5 (aup m5 180 (32 + w).toNat v') = some m7 := km7
  rw [kn3, Option.bind_some, km4', Option.bind_some, km5, Option.bind_some, w32e (x := 32 + w) (by omega) (by omega), if_pos (by omega), st1e, km7', Option.bind_some, km8, Option.bind_some, w32e (x := 45 + w) (by omega) (by omega), if_pos (by omega), st1e, st1e] at clR1
  rw [kb4, Option.bind_some, kb5, Option.bind_some, st1e, kb7, Option.bind_some, kb8, Option.bind_some, st1e, st1e] at clB
  dsimp only at clR1 clB
  have q32 : b8' 3 2 = w := by
    rw [fb8 _ _ (by omega), fb7 _ _ (by omega), aup_of (by omega), fb5 _ _ (by omega), fb4 _ _ (by omega), aup_of (by omega), g2 _ _ (by omega), tg1.2.1.2.2.1]; exact hw
  have q18 : m8 180 18 = w := by
    rw [fr8 _ _ (by omega), fr7 _ _ (by omega), aup_of (by omega), fr5 _ _ (by omega), fr4 _ _ (by omega), fr3 _ _ (by omega), r4 _ (by omega) (by omega)]; exact hw
  rw [aup_of (q' := 3) (by omega), q32, w32e (by omega) (by omega)] at clB
  rw [aup_of (i' := 18) (by omega), q18, w32e (by omega) (by omega)] at clR1
  refine ⟨_, _, clB, clR1, ?_, ?_, ?_⟩
  · intro q i a d
    rw [aup_of (by omega), aup_of (by omega), fb8 _ _ a, fb7 _ _ a, aup_of (by omega), fb5 _ _ a, fb4 _ _ a, aup_of (by omega), g2 _ _ (by omega)]
    exact fb q i a
  · intro q i a d
    rw [aup_of (by omega), aup_of (by omega), fr8 _ _ a, fr7 _ _ a, aup_of (by omega), fr5 _ _ a, fr4 _ _ a, fr3 _ _ a, frm _ _ a d]
    exact fr1 q i a
  · have st9 : mStp T n (b 1 6) (aup (aup b8' 21 w.toNat y) 3 2 (w + 1)) (aup (aup m8 180 (45 + w).toNat y') 180 18 (w + 1)) := mStp_fr st8 (fun q i a => by rw [aup_of (by omega), aup_of (by omega)]) (fun q i a => by rw [aup_of (by omega), aup_of (by omega)])
    rcases st9 with ⟨hk, hp⟩ | fl
    rotate_left
    · exact Or.inr fl
    refine Or.inl ⟨hk, ?_, hp⟩
    obtain ⟨k9, hk9⟩ := hk
    have nf8 : ¬ mFl b8' m8 := fun h => by
      have := (mFl_ne h).1
      have := hk9.2.2.1
      rw [aup_of (by omega), aup_of (by omega)] at this
      omega
    have nf5 : ¬ mFl b5 m5 := fun h => by
      have h6 : mFl (aup b5 20 w.toNat v) (aup m5 180 (32 + w).toNat v') := mFl_fr h (fun q i a => aup_of (by omega)) (fun q i a => aup_of (by omega))
      have n7 := name_no (x := 8) (y := mKx 8) h6
      rw [n7.1] at kb7
      rw [n7.2] at km7
      have e7 : b7' = aup b5 20 w.toNat v := (Option.some.inj kb7).symm
      have e7' : m7 = aup m5 180 (32 + w).toNat v' := (Option.some.inj km7).symm
      rw [← e7, ← e7'] at h6
      have n8 := num_no (most := 3) h6
      rw [n8.1] at kb8
      rw [n8.2] at km8
      have e8 : b7' = b8' := (Prod.mk.inj (Option.some.inj kb8)).2
      have e8' : m7 = m8 := (Prod.mk.inj (Option.some.inj km8)).2
      rw [e8, e8'] at h6
      exact nf8 h6
    obtain ⟨ev, v0, v9⟩ := hv.resolve_right nf5
    obtain ⟨ey, y0, y3⟩ := hy.resolve_right nf8
    subst ev ey
    refine mTg_word (w := w) (l := m1 176 7 - m1 176 6) (u := v) (kd := y) (S := fun j => mSi (m1 180) (T (m1 176 6 + j))) tg1 hw (by omega) (by omega) ⟨v0, v9⟩ ⟨y0, y3⟩ (fun j a d => rg _ (by omega) (by omega)) ?_ (aup_self _ _ _ _) ?_ ?_ ?_ ?_ ?_ (aup_self _ _ _ _) ?_ ?_ ?_ ?_ ?_
    · intro x x0 xw hl
      rcases kf2' with ⟨-, h2⟩ | ⟨h0, -⟩
      · refine Classical.byContradiction (fun hc => h2 x x0 (by omega) ⟨hl, fun j j0 j1 => ?_⟩)
        exact Classical.byContradiction (fun hd => hc ⟨j, j0, j1, hd⟩)
      · omega
    · rw [aup_of (by omega), aup_of (by omega), fr8 _ _ (by omega), fr7 _ _ (by omega), aup_of (by omega), fr5 _ _ (by omega), fr4 _ _ (by omega), fr3 _ _ (by omega)]; exact r1
    · rw [aup_of (by omega), aup_of (by omega), fr8 _ _ (by omega), fr7 _ _ (by omega), aup_self]
    · rw [aup_of (by omega), aup_self]
    · intro j j0 j1
      rw [aup_of (by omega), aup_of (by omega), fr8 _ _ (by omega), fr7 _ _ (by omega), aup_of (by omega), fr5 _ _ (by omega), fr4 _ _ (by omega), fr3 _ _ (by omega)]; exact r2 j j0 j1
    · intro i i1 i2 i3 i4 i5
      rw [aup_of (by omega), aup_of (by omega), fr8 _ _ (by omega), fr7 _ _ (by omega), aup_of (by omega), fr5 _ _ (by omega), fr4 _ _ (by omega), fr3 _ _ (by omega)]; exact r4 i i2 i5
    · rw [aup_of (by omega), aup_of (by omega), fb8 _ _ (by omega), fb7 _ _ (by omega), aup_of (by omega), fb5 _ _ (by omega), fb4 _ _ (by omega), aup_self]
    · rw [aup_of (by omega), aup_of (by omega), fb8 _ _ (by omega), fb7 _ _ (by omega), aup_self]
    · rw [aup_of (by omega), aup_self]
    · intro j j0 j1
      rw [aup_of (by omega), aup_of (by omega), fb8 _ _ (by omega), fb7 _ _ (by omega), aup_of (by omega), fb5 _ _ (by omega), fb4 _ _ (by omega), aup_of (by omega)]; exact g1 j j0 j1
    · intro q i i1 i2 i3 i4 i5
      rw [aup_of (by omega), aup_of (by omega), fb8 _ _ (by omega), fb7 _ _ (by omega), aup_of (by omega), fb5 _ _ (by omega), fb4 _ _ (by omega), aup_of (by omega)]; exact g2 q i i5
