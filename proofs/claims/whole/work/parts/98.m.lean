/-! THE REFERENCE'S SEARCH, to its end -/
def mRq (A : Nat → Int) (O M Z : Int) : Nat → Int → Prop
  | 0, s => s = -1
  | n + 1, s => ∃ t, mRq A O M Z n t ∧ mSu A O M Z t s
theorem mRq_v {A : Nat → Int} {O M Z : Int} (h : mVx A) (M0 : 0 ≤ M) : ∀ {n : Nat} {s : Int}, mRq A O M Z n s → (n = 0 ∧ s = -1) ∨ (1 ≤ n ∧ mSv A M s) := by
  intro n
  induction n with
  | zero => intro s k; exact Or.inl ⟨rfl, k⟩
  | succ n ih =>
    rintro s ⟨t, k1, k2⟩
    refine Or.inr ⟨by omega, mSu_v h M0 ?_ k2⟩
    rcases ih k1 with ⟨-, k⟩ | ⟨-, k⟩
    · exact Or.inl k
    · exact Or.inr k
/-- the queue up to k is done -/
def mBf (A : Nat → Int) (O M Z k : Int) (m : aM) : Prop :=
  (0 ≤ k ∧ k ≤ m 176 29) ∧ mQu m ∧
  (∀ i : Int, 0 ≤ i → i < m 176 29 → ∃ n : Nat, m 189 (m 190 i.toNat).toNat = (n : Int) ∧ 1 ≤ n ∧ (n : Int) ≤ i + 1 ∧ mRq A O M Z n (m 190 i.toNat)) ∧
  (∀ i j : Int, 0 ≤ i → i ≤ j → j < m 176 29 → m 189 (m 190 i.toNat).toNat ≤ m 189 (m 190 j.toNat).toNat) ∧
  (∀ i j : Int, k ≤ i → i < m 176 29 → 0 ≤ j → j < m 176 29 → m 189 (m 190 j.toNat).toNat ≤ m 189 (m 190 i.toNat).toNat + 1) ∧
  (∀ i : Int, 0 ≤ i → i < k → ¬ mGl A M (m 190 i.toNat) ∧ ∀ s, mSu A O M Z (m 190 i.toNat) s → mMk m s ∧ m 189 s.toNat ≤ m 189 (m 190 i.toNat).toNat + 1) ∧
  (∀ s, mSu A O M Z (-1) s → mMk m s ∧ m 189 s.toNat ≤ 1)
theorem mBf_c {A : Nat → Int} {O M Z k : Int} {m m' : aM} (h1 : m' 189 = m 189) (h2 : m' 190 = m 190) (h3 : m' 193 = m 193) (h4 : m' 176 29 = m 176 29) (h5 : m' 176 30 = m 176 30) (h : mBf A O M Z k m) : mBf A O M Z k m' := by
  unfold mBf mQu mMk at *
  rw [h1, h2, h3, h4, h5]
  exact h
theorem mBf_step {A : Nat → Int} {O M Z k : Int} {m m1 m2 : aM} (hv : mVx A) (M0 : 0 ≤ M) (M2 : M ≤ 2) (h : mBf A O M Z k m) (hk : k < m 176 29) (f1 : ∀ q i, q ≠ 194 → q ≠ 195 → m1 q i = m q i) (ad : mAdd (m 189 (m 190 k.toNat).toNat + 1) (mSu A O M Z (m 190 k.toNat)) m1 m2) (all : ∀ s, mSu A O M Z (m 190 k.toNat) s → mMk m2 s) (ng : ¬ mGl A M (m 190 k.toNat)) : mBf A O M Z (k + 1) m2 := by
  obtain ⟨b1, b2, b3, b4, b5, b6, b7⟩ := h
  obtain ⟨q1, q2, q3, q4, q5, q6, q7⟩ := ad
  have e29 := f1 176 29 (by omega) (by omega)
  rw [e29] at q2 q3 q5
  have e190 : m1 190 = m 190 := funext fun i => f1 _ _ (by omega) (by omega)
  have e189 : m1 189 = m 189 := funext fun i => f1 _ _ (by omega) (by omega)
  have emk : ∀ s, mMk m1 s ↔ mMk m s := fun s => by unfold mMk; rw [f1 193 _ (by omega) (by omega), f1 176 30 (by omega) (by omega)]
  rw [e190] at q3
  rw [e189] at q4
  -- found and level of what was there
  have fo : ∀ i : Int, 0 ≤ i → i < m 176 29 → m2 190 i.toNat = m 190 i.toNat := q3
  have lo : ∀ i : Int, 0 ≤ i → i < m 176 29 → m2 189 (m 190 i.toNat).toNat = m 189 (m 190 i.toNat).toNat := fun i a b => by
    have g := b2.2.1 i a b
    exact (q4 _ g.1.1 g.1.2 ((emk _).mpr g.2)).2
  have lv : ∀ i : Int, 0 ≤ i → i < m 176 29 → m2 189 (m2 190 i.toNat).toNat = m 189 (m 190 i.toNat).toNat := fun i a b => by rw [fo i a b]; exact lo i a b
  obtain ⟨nk, ek, nk1, nk2, rk⟩ := b3 k b1.1 hk
  refine ⟨by omega, q1, fun i a b => ?_, fun i j a b c => ?_, fun i j a b c d => ?_, fun i a b => ?_, fun s hs => ?_⟩
  · by_cases c : i < m 176 29
    · rw [lv i a c, fo i a c]; exact b3 i a c
    · have g := q5 i a (by omega) b
      refine ⟨nk + 1, ?_, by omega, by omega, ⟨_, rk, g.1⟩⟩
      rw [g.2, ek]; omega
  · by_cases cj : j < m 176 29
    · rw [lv i a (by omega), lv j (by omega) cj]; exact b4 i j a b cj
    · have gj := q5 j (by omega) (by omega) c
      rw [gj.2]
      by_cases ci : i < m 176 29
      · rw [lv i a ci]; exact b5 k i (by omega) hk a ci
      · rw [(q5 i a (by omega) (by omega)).2]; omega
  · by_cases ci : i < m 176 29
    · rw [lv i (by omega) ci]
      by_cases cj : j < m 176 29
      · rw [lv j c cj]; exact b5 i j (by omega) ci c cj
      · rw [(q5 j c (by omega) d).2]
        have := b4 k i b1.1 (by omega) ci
        omega
    · rw [(q5 i (by omega) (by omega) b).2]
      by_cases cj : j < m 176 29
      · rw [lv j c cj]
        have := b5 k j (by omega) hk c cj
        omega
      · rw [(q5 j c (by omega) d).2]; omega
  · by_cases e : i = k
    · subst e
      rw [lv i a hk, fo i a hk]
      refine ⟨ng, fun s hs => ⟨all s hs, ?_⟩⟩
      have sv : mSv A M s := mSu_v hv M0 ((mRq_v hv M0 rk).elim (fun g => by omega) (fun g => Or.inr g.2)) hs
      have bd := mSv_bd hv M2 sv
      obtain ⟨j, j0, j1, j2⟩ := q1.2.2.1 s bd.1 bd.2 (all s hs)
      by_cases cj : j < m 176 29
      · have := b5 i j (by omega) hk j0 cj
        rw [← lv j j0 cj, j2] at this
        exact this
      · have := (q5 j j0 (by omega) j1).2
        rw [j2] at this
        omega
    · have g := b6 i a (by omega)
      rw [lv i a (by omega), fo i a (by omega)]
      refine ⟨g.1, fun s hs => ?_⟩
      have g2 := g.2 s hs
      obtain ⟨ni, -, ni1, -, ri⟩ := b3 i a (by omega)
      have sv : mSv A M s := mSu_v hv M0 ((mRq_v hv M0 ri).elim (fun g => by omega) (fun g => Or.inr g.2)) hs
      have bd := mSv_bd hv M2 sv
      have g3 := q4 s bd.1 bd.2 ((emk s).mpr g2.1)
      exact ⟨g3.1, by rw [g3.2]; exact g2.2⟩
  · have g2 := b7 s hs
    have sv : mSv A M s := mSu_v hv M0 (Or.inl rfl) hs
    have bd := mSv_bd hv M2 sv
    have g3 := q4 s bd.1 bd.2 ((emk s).mpr g2.1)
    exact ⟨g3.1, by rw [g3.2]; exact g2.2⟩
theorem unsureOf_ok {M : Int} {m : aM} (h : mVx (m 177)) (M0 : 0 ≤ M) (M2 : M ≤ 2) (mk : 0 ≤ m 176 30 ∧ m 176 30 ≤ 2000000) (mb : ∀ s : Nat, m 193 s ≤ m 176 30) : mOk (R_unsureOf M m) (fun r => (∀ q i, q ≠ 189 → q ≠ 190 → q ≠ 193 → q ≠ 194 → q ≠ 195 → ¬(q = 176 ∧ (i = 29 ∨ i = 30 ∨ i = 31)) → r.2 q i = m q i) ∧ r.2 176 30 = m 176 30 + 1 ∧ (∀ s : Nat, r.2 193 s ≤ r.2 176 30) ∧ ∃ k, mBf (m 177) (m 176 32) M (m 176 33) k r.2 ∧ ((r.1 = -1 ∧ k = r.2 176 29) ∨ (k < r.2 176 29 ∧ mGl (m 177) M (r.2 190 k.toNat) ∧ r.1 = r.2 189 (r.2 190 k.toNat).toNat))) := by
  unfold R_unsureOf
  rw [w32e (by omega) (by omega)]
  simp only [st1e]
  generalize hm : aup (aup (aup m 176 30 (m 176 30 + 1)) 176 29 0) 176 31 (-1) = m3
  have f3 : ∀ q i, ¬(q = 176 ∧ (i = 29 ∨ i = 30 ∨ i = 31)) → m3 q i = m q i := fun q i a => by rw [← hm, aup_of (by omega), aup_of (by omega), aup_of (by omega)]
  have e29 : m3 176 29 = 0 := by rw [← hm, aup_of (by omega), aup_self]
  have e30 : m3 176 30 = m 176 30 + 1 := by rw [← hm, aup_of (by omega), aup_of (by omega), aup_self]
  clear hm
  have e177 : m3 177 = m 177 := funext fun i => f3 _ _ (by omega)
  have nomk : ∀ s : Int, ¬ mMk m3 s := fun s k => by
    unfold mMk at k
    rw [f3 193 _ (by omega), e30] at k
    have := mb s.toNat
    omega
  have hq : mQu m3 := ⟨by omega, fun i a b => by omega, fun s a b k => absurd k (nomk s), fun i j a b c => by omega⟩
  have ss := spreadsSame_ok (p := -1) (M := M) (its := 1) (m := m3) (by rw [e177]; exact h) hq (Or.inl rfl) M0 M2
  rw [e177, f3 176 32 (by omega), f3 176 33 (by omega)] at ss
  refine mOk_bind ss (fun m4 k4 => ?_)
  obtain ⟨m1, g1, g2, g3⟩ := k4
  have e29' : m1 176 29 = 0 := by rw [g1 _ _ (by omega)]; exact e29
  have nomk1 : ∀ s : Int, ¬ mMk m1 s := fun s k => nomk s (by unfold mMk at *; rw [g1 _ _ (by omega), g1 _ _ (by omega)] at k; exact k)
  have fr4 : ∀ q i, q ≠ 189 → q ≠ 190 → q ≠ 193 → q ≠ 194 → ¬(q = 176 ∧ (i = 29 ∨ i = 30 ∨ i = 31)) → m4 q i = m q i := fun q i a b c d e => by rw [g2.fr q i a b c (by omega), g1 q i d, f3 q i e]
  have e430 : m4 176 30 = m 176 30 + 1 := by rw [g2.fr _ _ (by omega) (by omega) (by omega) (by omega), g1 _ _ (by omega)]; exact e30
  have mb4 : ∀ s : Nat, m4 193 s ≤ m4 176 30 := fun s => by
    rw [e430]
    rcases g2.2.2.2.2.2.1 s with k | k
    · rw [k, g1 _ _ (by omega), f3 _ _ (by omega)]; have := mb s; omega
    · rw [k, g1 _ _ (by omega), e30]; omega
  have new4 : ∀ i : Int, 0 ≤ i → i < m4 176 29 → mSu (m 177) (m 176 32) M (m 176 33) (-1) (m4 190 i.toNat) ∧ m4 189 (m4 190 i.toNat).toNat = 1 := fun i a b => g2.2.2.2.2.1 i a (by omega) b
  have bf0 : mBf (m 177) (m 176 32) M (m 176 33) 0 m4 := by
    refine ⟨by have := g2.2.1; omega, g2.1, fun i a b => ?_, fun i j a b c => ?_, fun i j a b c d => ?_, fun i a b => by omega, fun s hs => ⟨g3 s hs, ?_⟩⟩
    · have g := new4 i a b
      exact ⟨1, g.2, by omega, by omega, ⟨-1, rfl, g.1⟩⟩
    · rw [(new4 i a (by omega)).2, (new4 j (by omega) c).2]; omega
    · rw [(new4 i (by omega) b).2, (new4 j c d).2]; omega
    · have sv : mSv (m 177) M s := mSu_v h M0 (Or.inl rfl) hs
      have bd := mSv_bd h M2 sv
      obtain ⟨j, j0, j1, j2⟩ := g2.1.2.2.1 s bd.1 bd.2 (g3 s hs)
      have := (new4 j j0 j1).2
      rw [j2] at this
      omega
  refine mL2 (R_unsureOf_19 M) (fun k mm => mBf (m 177) (m 176 32) M (m 176 33) k mm ∧ (∀ q i, q ≠ 189 → q ≠ 190 → q ≠ 193 → q ≠ 194 → q ≠ 195 → ¬(q = 176 ∧ (i = 29 ∨ i = 30 ∨ i = 31)) → mm q i = m q i) ∧ mm 176 30 = m 176 30 + 1 ∧ ∀ s : Nat, mm 193 s ≤ mm 176 30) (fun k _ => (54835 - k).toNat) ?_ 0 m4 ⟨bf0, fun q i a b c d _ e => fr4 q i a b c d e, e430, mb4⟩ (by omega)
  rintro fu k mm ⟨bf, fr, e30k, mbk⟩ ih
  have e177k : mm 177 = m 177 := funext fun i => fr _ _ (by omega) (by omega) (by omega) (by omega) (by omega) (by omega)
  have kb := bf.1
  have nb := bf.2.1.1
  rw [R_unsureOf_19]
  by_cases d : k < mm 176 29
  rotate_left
  · rw [if_neg d]
    exact mOk_some ⟨fr, e30k, mbk, k, bf, Or.inl ⟨rfl, by dsimp only; omega⟩⟩
  rw [if_pos d, if_pos (by omega)]
  obtain ⟨n, en, n1, n2, rn⟩ := bf.2.2.1 k kb.1 d
  have sv : mSv (m 177) M (mm 190 k.toNat) := (mRq_v h M0 rn).elim (fun g => by omega) (fun g => g.2)
  have bd := mSv_bd h M2 sv
  have ig := isGoal_ok (s := mm 190 k.toNat) (M := M) (m := mm) (by rw [e177k]; exact h) M2 (by rw [e177k]; exact sv)
  rw [e177k] at ig
  refine mOk_bind ig (fun r kr => ?_)
  by_cases z : r = 0
  rotate_left
  · rw [if_neg z, if_pos bd, st1e, aup_self]
    have fa : ∀ q i, ¬(q = 176 ∧ i = 31) → aup mm 176 31 (mm 189 (mm 190 k.toNat).toNat) q i = mm q i := fun q i a => aup_of (by omega)
    refine mOk_some ⟨fun q i a b c e f g => ?_, ?_, fun s => ?_, k, ?_, Or.inr ⟨?_, ?_, ?_⟩⟩
    · dsimp only
      rw [fa q i (by omega)]; exact fr q i a b c e f g
    · dsimp only
      rw [fa _ _ (by omega)]; exact e30k
    · dsimp only
      rw [fa _ _ (by omega), fa _ _ (by omega)]; exact mbk s
    · exact mBf_c (rowEq fun i => fa 189 i (by omega)) (rowEq fun i => fa 190 i (by omega)) (rowEq fun i => fa 193 i (by omega)) (fa 176 29 (by omega)) (fa 176 30 (by omega)) bf
    · dsimp only
      rw [fa _ _ (by omega)]; exact d
    · dsimp only
      rw [fa _ _ (by omega)]; exact kr.2.mp z
    · dsimp only
      rw [fa 190 _ (by omega), fa 189 _ (by omega)]
  rw [if_pos z]
  have ng : ¬ mGl (m 177) M (mm 190 k.toNat) := fun g => (kr.2.mpr g) z
  have e32 : mm 176 32 = m 176 32 := fr _ _ (by omega) (by omega) (by omega) (by omega) (by omega) (by omega)
  have e33 : mm 176 33 = m 176 33 := fr _ _ (by omega) (by omega) (by omega) (by omega) (by omega) (by omega)
  -- one state more is done
  have next : ∀ m1 m2 : aM, (∀ q i, q ≠ 194 → q ≠ 195 → m1 q i = mm q i) → mAdd (mm 189 (mm 190 k.toNat).toNat + 1) (mSu (m 177) (m 176 32) M (m 176 33) (mm 190 k.toNat)) m1 m2 → (∀ s, mSu (m 177) (m 176 32) M (m 176 33) (mm 190 k.toNat) s → mMk m2 s) → mOk (R_unsureOf_65 (R_unsureOf_19 M fu) M k m2) (fun r => (∀ q i, q ≠ 189 → q ≠ 190 → q ≠ 193 → q ≠ 194 → q ≠ 195 → ¬(q = 176 ∧ (i = 29 ∨ i = 30 ∨ i = 31)) → r.2 q i = m q i) ∧ r.2 176 30 = m 176 30 + 1 ∧ (∀ s : Nat, r.2 193 s ≤ r.2 176 30) ∧ ∃ k, mBf (m 177) (m 176 32) M (m 176 33) k r.2 ∧ ((r.1 = -1 ∧ k = r.2 176 29) ∨ (k < r.2 176 29 ∧ mGl (m 177) M (r.2 190 k.toNat) ∧ r.1 = r.2 189 (r.2 190 k.toNat).toNat))) := by
    intro m1 m2 f1 ad all
    unfold R_unsureOf_65
    rw [w32e (by omega) (by omega)]
    have e30' : m2 176 30 = m 176 30 + 1 := by rw [ad.mark, f1 _ _ (by omega) (by omega)]; exact e30k
    refine ih _ _ ⟨mBf_step h M0 M2 bf d f1 ad all ng, fun q i a b c e f g => ?_, e30', fun s => ?_⟩ (by omega)
    · rw [ad.fr q i a b c (by omega), f1 q i e f]; exact fr q i a b c e f g
    · rw [e30', ← e30k]
      rcases ad.2.2.2.2.2.1 s with g | g
      · rw [g, f1 _ _ (by omega) (by omega)]; exact mbk s
      · rw [g, f1 _ _ (by omega) (by omega)]; exact Int.le_refl _
  by_cases y : mm 190 k.toNat < 78
  · rw [if_pos y, if_pos bd, w32e (by omega) (by omega)]
    have pv : mPv3 (m 177) (mm 190 k.toNat) := by
      rcases sv with sv | ⟨a, b, e, f, e1, h1, h2, h3, h4⟩
      · exact sv
      · have := mPr_bd (mPv3_bd h h1) (mPv3_bd h h2) (e := e) (f := f) (by omega) (by omega)
        omega
    have sp := spreadsSame_ok (p := mm 190 k.toNat) (M := M) (its := mm 189 (mm 190 k.toNat).toNat + 1) (m := mm) (by rw [e177k]; exact h) bf.2.1 (Or.inr (by rw [e177k]; exact pv)) M0 M2
    rw [e177k, e32, e33] at sp
    refine mOk_bind sp (fun m2 k2 => ?_)
    obtain ⟨m1, f1, ad, all⟩ := k2
    exact next m1 m2 (fun q i a _ => f1 q i a) ad all
  · rw [if_neg y, if_pos bd, w32e (by omega) (by omega)]
    rcases sv with sv | ⟨a, b, e, f, e1, h1, h2, h3, h4⟩
    · have := mPv3_bd h sv; omega
    · have sp := spreadsPair_ok (a := a) (b := b) (e := e) (f := f) (M := M) (its := mm 189 (mm 190 k.toNat).toNat + 1) (m := mm) (by rw [e177k]; exact h) bf.2.1 M0 M2 (by rw [e177k]; exact h1) (by rw [e177k]; exact h2) h3 h4
      rw [e177k, e32, e33, ← e1] at sp
      refine mOk_bind sp (fun m2 k2 => ?_)
      obtain ⟨m1, f1, ad, all⟩ := k2
      exact next m1 m2 f1 ad all
/-- the least number of sounds: what the search answers -/
def mLst (P : Nat → Prop) (r : Int) : Prop := (r = -1 ∧ ∀ n, ¬ P n) ∨ (∃ n : Nat, r = n ∧ P n ∧ ∀ n', P n' → n ≤ n')
theorem mLst_uni {P Q : Nat → Prop} {r r' : Int} (h1 : ∀ n, P n → ∃ n', n' ≤ n ∧ Q n') (h2 : ∀ n, Q n → ∃ n', n' ≤ n ∧ P n') (h : mLst P r) (g : mLst Q r') : r = r' := by
  rcases h with ⟨a, b⟩ | ⟨n, a, b, c⟩ <;> rcases g with ⟨a', b'⟩ | ⟨n', a', b', c'⟩
  · omega
  · obtain ⟨x, -, hx⟩ := h2 _ b'; exact absurd hx (b x)
  · obtain ⟨x, -, hx⟩ := h1 _ b; exact absurd hx (b' x)
  · obtain ⟨x, x1, hx⟩ := h1 _ b
    obtain ⟨y, y1, hy⟩ := h2 _ b'
    have := c' x hx
    have := c y hy
    omega
/-- all that may be reached ahead of the place where the search stands is in the queue -/
theorem mBf_all {A : Nat → Int} {O M Z k : Int} {m : aM} (hv : mVx A) (M0 : 0 ≤ M) (M2 : M ≤ 2) (h : mBf A O M Z k m) : ∀ (n : Nat) (s : Int), 1 ≤ n → (k < m 176 29 → (n : Int) ≤ m 189 (m 190 k.toNat).toNat) → mRq A O M Z n s → mMk m s ∧ m 189 s.toNat ≤ n := by
  obtain ⟨b1, b2, b3, b4, b5, b6, b7⟩ := h
  intro n
  induction n with
  | zero => intro s h; omega
  | succ n ih =>
    rintro s - hk ⟨t, rt, st⟩
    by_cases c : n = 0
    · subst c
      have rt' : t = -1 := rt
      subst rt'
      have g := b7 s st
      exact ⟨g.1, by omega⟩
    · obtain ⟨g1, g2⟩ := ih t (by omega) (fun d => by have := hk d; omega) rt
      have sv : mSv A M t := (mRq_v hv M0 rt).elim (fun g => by omega) (fun g => g.2)
      have bd := mSv_bd hv M2 sv
      obtain ⟨i, i0, i1, i2⟩ := b2.2.2.1 t bd.1 bd.2 g1
      have ik : i < k := by
        refine Classical.byContradiction (fun hc => ?_)
        have := b4 k i b1.1 (by omega) i1
        rw [i2] at this
        have := hk (by omega)
        omega
      have g := (b6 i i0 ik).2
      rw [i2] at g
      have g3 := g s st
      exact ⟨g3.1, by omega⟩
theorem unsureOf_ans {A : Nat → Int} {O M Z k r : Int} {m : aM} (hv : mVx A) (M0 : 0 ≤ M) (M2 : M ≤ 2) (h : mBf A O M Z k m) (hr : (r = -1 ∧ k = m 176 29) ∨ (k < m 176 29 ∧ mGl A M (m 190 k.toNat) ∧ r = m 189 (m 190 k.toNat).toNat)) : mLst (fun n => ∃ s, mRq A O M Z n s ∧ mGl A M s) r := by
  have all := mBf_all hv M0 M2 h
  obtain ⟨b1, b2, b3, b4, b5, b6, b7⟩ := h
  have g0 : ∀ (n : Nat) (s : Int), mRq A O M Z n s → mGl A M s → 1 ≤ n ∧ mSv A M s := by
    intro n s r1 r2
    rcases mRq_v hv M0 r1 with ⟨-, e⟩ | e
    · exfalso
      obtain ⟨a, b, e', f, e1, ⟨h1, h2, h3, h4⟩, -⟩ := r2
      have := mPr_bd (mPv3_bd hv h1) (mPv3_bd hv h2) (e := e') (f := f) (by omega) (by omega)
      omega
    · exact e
  rcases hr with ⟨e, ek⟩ | ⟨kl, gl, e⟩
  · refine Or.inl ⟨e, fun n => ?_⟩
    rintro ⟨s, r1, r2⟩
    obtain ⟨n1, sv⟩ := g0 n s r1 r2
    have g := all n s n1 (fun d => by omega) r1
    have bd := mSv_bd hv M2 sv
    obtain ⟨i, i0, i1, i2⟩ := b2.2.2.1 s bd.1 bd.2 g.1
    have := (b6 i i0 (by omega)).1
    rw [i2] at this
    exact this r2
  · obtain ⟨n, en, n1, n2, rn⟩ := b3 k b1.1 kl
    refine Or.inr ⟨n, by omega, ⟨_, rn, gl⟩, ?_⟩
    rintro n' ⟨s, r1, r2⟩
    refine Classical.byContradiction (fun hc => ?_)
    obtain ⟨n1', sv⟩ := g0 n' s r1 r2
    have g := all n' s n1' (fun d => by omega) r1
    have bd := mSv_bd hv M2 sv
    obtain ⟨i, i0, i1, i2⟩ := b2.2.2.1 s bd.1 bd.2 g.1
    have ik : i < k := by
      refine Classical.byContradiction (fun hd => ?_)
      have := b4 k i b1.1 (by omega) i1
      rw [i2] at this
      omega
    have := (b6 i i0 ik).1
    rw [i2] at this
    exact this r2
