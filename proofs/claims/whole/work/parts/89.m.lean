/-! A LINE OF THE TEXT: open, like -/
theorem mSnd_cg {A A' : Nat → Int} {y s : Int} (h : ∀ i : Nat, i ≤ 8 → A' i = A i) (c0 : A 0 ≤ 8) : mSnd A' y s ↔ mSnd A y s := by
  have e0 : A' 0 = A 0 := h 0 (by omega)
  have e1 : ∀ i : Int, 0 ≤ i → i < A 0 → A' (1 + i).toNat = A (1 + i).toNat := fun i a b => h _ (by omega)
  unfold mSnd mFst
  rw [e0]
  constructor
  · rintro (⟨a, b⟩ | ⟨a, b, c, d⟩)
    · exact Or.inl ⟨a, fun i i0 i1 e => b i i0 i1 ((e1 i i0 i1).trans e)⟩
    · exact Or.inr ⟨a, b, (e1 s a b).symm.trans c, fun i i0 i1 e => d i i0 i1 ((e1 i i0 (by omega)).trans e)⟩
  · rintro (⟨a, b⟩ | ⟨a, b, c, d⟩)
    · exact Or.inl ⟨a, fun i i0 i1 e => b i i0 i1 ((e1 i i0 i1).symm.trans e)⟩
    · exact Or.inr ⟨a, b, (e1 s a b).trans c, fun i i0 i1 e => d i i0 i1 ((e1 i i0 (by omega)).symm.trans e)⟩
theorem mSi_cg {A A' : Nat → Int} {y : Int} (h : ∀ i : Nat, i ≤ 8 → A' i = A i) (c0 : A 0 ≤ 8) : mSi A' y = mSi A y := by
  unfold mSi
  have : (fun s => mSnd A' y s) = (fun s => mSnd A y s) := funext fun s => propext (mSnd_cg h c0)
  rw [this]
theorem mSi_bd {m : aM} (c0 : 0 ≤ m 180 0 ∧ m 180 0 ≤ 8) (y : Int) : -1 ≤ mSi (m 180) y ∧ (mSi (m 180) y < m 180 0 ∨ mSi (m 180) y = -1) := mSnd_bd (soundOf_d c0 y).2
theorem mSi_at {m : aM} (c0 : 0 ≤ m 180 0 ∧ m 180 0 ≤ 8) {y : Int} (h : mSi (m 180) y ≠ -1) : m 180 (1 + mSi (m 180) y).toNat = y := by
  rcases (soundOf_d c0 y).2 with ⟨a, -⟩ | ⟨-, -, c, -⟩
  · exact absurd a h
  · exact c
/-- open sounds as bits -/
noncomputable def mOp (A : Nat → Int) (T : Int → Int) (q : Int) : Nat → Int
  | 0 => 0
  | i + 1 => ior (mOp A T q i) (ishl 1 (mSi A (T (q + i))))
theorem mOp_bd {A : Nat → Int} {T : Int → Int} {q : Int} : ∀ {i : Nat}, (∀ j : Int, q ≤ j → j < q + i → 0 ≤ mSi A (T j) ∧ mSi A (T j) < 8) → 0 ≤ mOp A T q i ∧ (mOp A T q i).toNat < 2 ^ 8 := by
  intro i
  induction i with
  | zero => intro _; exact ⟨Int.le_refl _, (by decide : (0 : Int).toNat < 2 ^ 8)⟩
  | succ i ih =>
    intro h
    have h1 := ih (fun j a b => h j a (by omega))
    have h2 := h (q + i) (by omega) (by omega)
    exact (ior_bit (B := 8) h1.1 h1.2 h2.1 (by omega) (by omega)).1
theorem mTg_open {A A' : Nat → Int} {b b' : aM} {o : Int} (h : mTg A b) (o1 : 0 ≤ o ∧ o < 256) (a9 : A' 9 = o) (af : ∀ i : Nat, i ≠ 9 → A' i = A i) (b9 : b' 3 4 = o) (bf : ∀ q i, 3 ≤ q → q ≤ 24 → ¬(q = 3 ∧ i = 4) → b' q i = b q i) : mTg A' b' := by
  have t := h.1
  have r := h.2
  refine mTg_small h (fun i a _ _ => af i a) (by omega) ?_ ?_ ?_ (by omega) ?_ ?_ ?_ (fun q i a c d _ _ => bf q i a c (by omega))
  · intro s h0 h1
    rw [af (10 + s).toNat (by omega)]
    refine ⟨(t.2.2.2.1 s h0 h1).1, (t.2.2.2.1 s h0 h1).2.1, fun y y0 y1 hy => ?_⟩
    rw [af (10 + y).toNat (by omega)]
    exact (t.2.2.2.1 s h0 h1).2.2 y y0 y1 hy
  · intro k h0 h1; rw [af _ (by omega)]; exact t.2.2.2.2.2.2.2.1 k h0 h1
  · rw [af _ (by omega)]; exact t.2.2.2.2.2.2.2.2.1
  · intro s h0 h1; rw [bf _ _ (by omega) (by omega) (by omega), af _ (by omega)]; exact r.2.2.1 s h0 h1
  · intro k h0 h1; rw [bf _ _ (by omega) (by omega) (by omega), af _ (by omega)]; exact r.2.2.2.2.1 k h0 h1
  · rw [bf _ _ (by omega) (by omega) (by omega), af _ (by omega)]; exact r.1.2.2.2.2.2
/-- nine sounds of eight: one is there twice -/
theorem tw_of_many {T : Int → Int} {q e : Int} {m : aM} (c0 : 0 ≤ m 180 0 ∧ m 180 0 ≤ 8) (hl : 8 < e - q) (hs : ∀ j : Int, q ≤ j → j < e → mSi (m 180) (T j) ≠ -1) : mTw T q e := by
  obtain ⟨i, j, h1, h2, h3⟩ := pigeon 8 (fun i => mSi (m 180) (T (q + i))) (fun i hi => by
    have := mSi_bd c0 (T (q + i))
    have := hs (q + i) (by omega) (by omega)
    omega)
  have a1 := mSi_at c0 (hs (q + i) (by omega) (by omega))
  have a2 := mSi_at c0 (hs (q + j) (by omega) (by omega))
  rw [h3] at a1
  exact ⟨q + i, q + j, by omega, by omega, by omega, a1.symm.trans a2⟩
theorem ln_open {T : Int → Int} {n : Int} {b m : aM} (n1 : n ≤ 500) (hs : mSs T n b m) (tg : mTg (m 180) b) : ∃ b' m', Tape_readOpen b = some b' ∧ R_readOpen m = some m' ∧ mFb1 b b' ∧ mFr1 m m' ∧ mLe T n (b 1 6) b' m' := by
  obtain ⟨hx, hxr, b7, m11, b8, e5, e6, q0, qe, e1, k13⟩ := hs
  obtain ⟨m1, kn, ⟨k, hs1⟩, fr1⟩ := sy_next hx hxr n1 b7 b8 m11 e6 (by omega) e1
  obtain ⟨f, b1, kw, fb, p1, hl⟩ := lett_ok (lo := 1) (hi := 8) n1 hs1
  rw [← r180 fr1] at tg
  have c0 := tg.1.1
  have c1 := tg.1.2.1
  have clB : Tape_readOpen b = (if f = 0 then (some b1) else ((Tape_isOfSounds b1).bind fun r3 => (if r3 = 0 then (Tape_readOpen_11 b1) else ((Tape_hasTwice b1).bind fun r6 => (if r6 = 0 then (st1 (aup b1 3 4 0) fun mm8 => (Tape_readOpen_22 FU (mm8 1 5) mm8)) else (Tape_readOpen_11 b1)))))) := by
    unfold Tape_readOpen
    rw [kw, Option.bind_some]
  have clR : ∀ v m', R_isLetters 1 8 m1 = some (v, m') → R_readOpen m = (if v = 0 then (some m') else ((R_areSounds m').bind fun r4 => (if r4 = 0 then (R_readOpen_14 m') else ((R_isTwice m').bind fun r14 => (if r14 = 0 then (R_readOpen_17 m') else (R_readOpen_14 m')))))) := by
    intro v m' hv
    unfold R_readOpen
    rw [kn, Option.bind_some, hv, Option.bind_some]
  rcases hl with ⟨f0, m', kl, fr2, fl⟩ | ⟨f1, ss, lt, sm, hl⟩
  · refine ⟨b1, m', ?_, ?_, mFb1.of fb, mFr1.of (fr1.trans fr2), Or.inr fl⟩
    · rw [clB, if_pos f0]
    · rw [clR 0 m' kl, if_pos rfl]
  obtain ⟨hx1, hxr1, b71, m111, b81, e51, e61, q01, qe1, e11, k131⟩ := ss
  have tg1 : mTg (m1 180) b1 := mTg_fb tg (fun q i a d => fb q i (by omega))
  have a1 := tg1.2.1.2.1
  have b1' := tg1.2.2.1
  rw [f1, if_neg (by decide)] at clB
  have failB : Tape_readOpen_11 b1 = some (aup (aup b1 1 7 3) 1 8 (b1 1 5)) := by
    unfold Tape_readOpen_11
    rw [fail_eq b71, Option.bind_some]
  have failR : R_readOpen_14 m1 = some (aup (aup m1 176 11 3) 176 12 (m1 176 6)) := by
    unfold R_readOpen_14
    rw [fails_eq m111, if_neg k131, Option.bind_some]
    unfold R_readOpen_17
    rw [aup_of (by omega), aup_self, if_neg (by decide)]
  obtain ⟨r, kt, -, ht⟩ := hasTwice_ok hx1 n1 e51 e61 q01 qe1 e11 sm
  obtain ⟨u, ku, -, hu⟩ := ofSounds_ok (A := m1 180) hx1 n1 e51 e61 q01 qe1 e11 c0 c1 a1 b1'
  rw [ku, Option.bind_some, kt, Option.bind_some] at clB
  have bad : (¬ (∀ j : Int, m1 176 6 ≤ j → j < m1 176 7 → mSi (m1 180) (T j) ≠ -1) ∨ mTw T (m1 176 6) (m1 176 7)) → Tape_readOpen b = some (aup (aup b1 1 7 3) 1 8 (b1 1 5)) := by
    intro h
    rw [clB, failB]
    by_cases d : u = 0
    · rw [if_pos d]
    · rw [if_neg d, if_neg (ht.mpr (h.resolve_left (fun g => g (hu.mp d))))]
  rcases hl with ⟨l2, l8, kl⟩ | ⟨nl, kl⟩
  · have clR1 := clR 1 m1 kl
    rw [if_neg (by decide)] at clR1
    obtain ⟨r', kt', -, ht'⟩ := isTwice_ok hxr1 n1 rfl rfl q01 qe1 e11
    obtain ⟨u', ku', -, hu'⟩ := areSounds_d hxr1 n1 rfl rfl q01 qe1 e11 c0
    rw [ku', Option.bind_some, kt', Option.bind_some] at clR1
    by_cases tw : ¬ (∀ j : Int, m1 176 6 ≤ j → j < m1 176 7 → mSi (m1 180) (T j) ≠ -1) ∨ mTw T (m1 176 6) (m1 176 7)
    · refine ⟨_, _, bad tw, ?_, mFb1.of (mFb_fail fb), mFr1.of (mFr_fail fr1), Or.inr (mFl_fail (f := 3) (g := 3) (by omega) rfl e51)⟩
      rw [clR1, failR]
      by_cases d : u' = 0
      · rw [if_pos d]
      · rw [if_neg d, if_neg (ht'.mpr (tw.resolve_left (fun g => g (hu'.mp d))))]
    · have all : ∀ j : Int, m1 176 6 ≤ j → j < m1 176 7 → mSi (m1 180) (T j) ≠ -1 := Classical.byContradiction (fun h => tw (Or.inl h))
      have ntw : ¬ mTw T (m1 176 6) (m1 176 7) := fun h => tw (Or.inr h)
      have r0 : r = 0 := Classical.byContradiction (fun h => ntw (ht.mp h))
      have r0' : r' = 0 := Classical.byContradiction (fun h => ntw (ht'.mp h))
      rw [if_neg (hu.mpr all), if_pos r0, st1e, aup_of (by omega), e51] at clB
      rw [if_neg (hu'.mpr all), if_pos r0'] at clR1
      have rg : ∀ j : Int, m1 176 6 ≤ j → j < m1 176 7 → 0 ≤ mSi (m1 180) (T j) ∧ mSi (m1 180) (T j) < 8 := by
        intro j a d
        have := mSi_bd c0 (T j)
        have := all j a d
        omega
      have wB : mOk (Tape_readOpen_22 FU (m1 176 6) (aup b1 3 4 0)) (fun b2 => b2 3 4 = mOp (m1 180) T (m1 176 6) (m1 176 7 - m1 176 6).toNat ∧ ∀ q i, ¬(q = 3 ∧ i = 4) → b2 q i = b1 q i) := by
        refine mL2 Tape_readOpen_22 (fun x mm => (m1 176 6 ≤ x ∧ x ≤ m1 176 7) ∧ mm 3 4 = mOp (m1 180) T (m1 176 6) (x - m1 176 6).toNat ∧ ∀ q i, ¬(q = 3 ∧ i = 4) → mm q i = b1 q i) (fun x _ => (501 - x).toNat) ?_ (m1 176 6) _ ⟨by omega, by rw [aup_self, show (m1 176 6 - m1 176 6).toNat = 0 by omega]; rfl, fun q i a => aup_of (by omega)⟩ (by omega)
        rintro fu x mm ⟨x1', ho, fr⟩ ih
        rw [Tape_readOpen_22, fr 1 6 (by omega), e61]
        by_cases d : x < m1 176 7
        · have tv := hx1.2 x (by omega) (by omega)
          have fs := findSound_d (b := mm) (A := m1 180) (x := w8 (T x)) (y := T x) c0 c1 (by rw [fr _ _ (by omega)]; exact a1) (fun s h0 h1 => by rw [fr _ _ (by omega)]; exact b1' s h0 h1) tv.1.1 tv.1.2 rfl
          rw [if_pos d, if_pos (by omega), fr 2 _ (by omega), tv.2, fs.1, Option.bind_some, st1e, w32e (by omega) (by omega), ho]
          refine ih _ _ ⟨by omega, ?_, fun q i a => by rw [aup_of (by omega)]; exact fr q i a⟩ (by omega)
          rw [aup_self, show (x + 1 - m1 176 6).toNat = (x - m1 176 6).toNat + 1 by omega, mOp, show m1 176 6 + (((x - m1 176 6).toNat : Nat) : Int) = x by omega]
        · rw [if_neg d]
          exact mOk_some ⟨by rw [ho, show x = m1 176 7 by omega], fr⟩
      obtain ⟨b2, kb, g1, g3⟩ := wB
      have wR : mOk (R_readOpen_17 m1) (fun m2 => (∃ k, mSy T n k b2 m2) ∧ m2 180 9 = mOp (m1 180) T (m1 176 6) (m1 176 7 - m1 176 6).toNat ∧ (∀ i : Nat, i ≠ 9 → m2 180 i = m1 180 i) ∧ mFr1 m1 m2) := by
        unfold R_readOpen_17
        rw [if_pos m111, st1e, aup_of (by omega)]
        refine mL2 R_readOpen_29 (fun x mm => (m1 176 6 ≤ x ∧ x ≤ m1 176 7) ∧ mm 180 9 = mOp (m1 180) T (m1 176 6) (x - m1 176 6).toNat ∧ ∀ q i, ¬(q = 180 ∧ i = 9) → mm q i = m1 q i) (fun x _ => (501 - x).toNat) ?_ (m1 176 6) _ ⟨by omega, by rw [aup_self, show (m1 176 6 - m1 176 6).toNat = 0 by omega]; rfl, fun q i a => aup_of (by omega)⟩ (by omega)
        rintro fu x mm ⟨x1', ho, fr⟩ ih
        rw [R_readOpen_29, fr 176 7 (by omega)]
        by_cases d : x < m1 176 7
        · have cg : mSi (mm 180) (T x) = mSi (m1 180) (T x) := mSi_cg (fun i a => fr 180 i (by omega)) c0.2
          have so := soundOf_d (m := mm) (by rw [fr 180 0 (by omega)]; exact c0) (T x)
          rw [if_pos d, if_pos (by omega), fr 179 _ (by omega), (hxr1.2 x (by omega) (by omega)).2, so.1, Option.bind_some, st1e, w32e (by omega) (by omega), ho, cg]
          refine ih _ _ ⟨by omega, ?_, fun q i a => by rw [aup_of (by omega)]; exact fr q i a⟩ (by omega)
          rw [aup_self, show (x + 1 - m1 176 6).toNat = (x - m1 176 6).toNat + 1 by omega, mOp, show m1 176 6 + (((x - m1 176 6).toNat : Nat) : Int) = x by omega]
        · rw [if_neg d]
          have frm : mFr1 m1 mm := fun q i _ a => fr q i (by omega)
          have fb2 : mFb1 b1 b2 := fun q i a g => g3 q i (by omega)
          refine mOk_bind (sy_next (b := b2) (mTx_fb1 hx1 fb2) (mTxR_fr1 hxr1 frm) n1 (by rw [g3 _ _ (by omega)]; exact b71) (by rw [g3 _ _ (by omega)]; exact b81) (by rw [fr _ _ (by omega)]; exact m111) (by rw [g3 _ _ (by omega), fr _ _ (by omega)]; exact e61) (by rw [fr _ _ (by omega)]; omega) (by rw [fr _ _ (by omega)]; exact e11)) (fun m2 k2 => ?_)
          obtain ⟨hk, f2⟩ := k2
          have e180 := r180 f2
          exact mOk_some ⟨hk, by rw [e180, ho, show x = m1 176 7 by omega], fun i a => by rw [e180]; exact fr 180 i (by omega), frm.trans (mFr1.of f2)⟩
      obtain ⟨m2, km, hk, g4, g6, g7⟩ := wR
      refine ⟨b2, m2, clB.trans kb, clR1.trans km, fun q i a g => by rw [g3 q i (by omega)]; exact fb q i a, (mFr1.of fr1).trans g7, Or.inl ⟨hk, ?_, ?_⟩⟩
      · have ob := mOp_bd (A := m1 180) (T := T) (q := m1 176 6) (i := (m1 176 7 - m1 176 6).toNat) (fun j a d => rg j a (by omega))
        refine mTg_open tg1 (o := mOp (m1 180) T (m1 176 6) (m1 176 7 - m1 176 6).toNat) ?_ g4 g6 g1 (fun q i a d e => g3 q i e)
        have : (mOp (m1 180) T (m1 176 6) (m1 176 7 - m1 176 6).toNat).toNat < 256 := ob.2
        omega
      · rw [g3 _ _ (by omega)]; exact p1
  · refine ⟨_, _, bad ?_, ?_, mFb1.of (mFb_fail fb), mFr1.of (mFr_fail fr1), Or.inr (mFl_fail (f := 3) (g := 3) (by omega) rfl e51)⟩
    · by_cases all : ∀ j : Int, m1 176 6 ≤ j → j < m1 176 7 → mSi (m1 180) (T j) ≠ -1
      · exact Or.inr (tw_of_many c0 (by omega) all)
      · exact Or.inl all
    · rw [clR 0 _ kl, if_pos rfl]
