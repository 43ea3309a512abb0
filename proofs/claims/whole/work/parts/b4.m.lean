/-! unsureAt: which states lead to a goal -/
/-- what the search of the reference left: N is the least, all up to N are known by their levels -/
def rB (A : Nat → Int) (N : Nat) (m : aM) : Prop := mQu m ∧ (∀ s, 0 ≤ s → s < 54834 → mMk m s → ∃ n : Nat, m 189 s.toNat = (n : Int) ∧ 1 ≤ n ∧ mRq A 0 0 0 n s) ∧ (∀ i j : Int, 0 ≤ i → i ≤ j → j < m 176 29 → m 189 (m 190 i.toNat).toNat ≤ m 189 (m 190 j.toNat).toNat) ∧ (∀ (n : Nat) (s : Int), 1 ≤ n → n ≤ N → mRq A 0 0 0 n s → mMk m s ∧ m 189 s.toNat ≤ n) ∧ (∀ (n : Nat) (s : Int), mRq A 0 0 0 n s → mGl A 0 s → N ≤ n)
theorem rB_of {A : Nat → Int} {k r : Int} {m : aM} {N : Nat} (hA : mVx A) (h : mBf A 0 0 0 k m) (hk : k < m 176 29) (g : mGl A 0 (m 190 k.toNat)) (er : r = m 189 (m 190 k.toNat).toNat) (eN : r = N) : rB A N m := by
  have h' := h
  obtain ⟨b1, b2, b3, b4, b5, b6, b7⟩ := h
  refine ⟨b2, fun s s0 s1 ms => ?_, b4, fun n s n1 n2 q => ?_, fun n s q gl => ?_⟩
  · obtain ⟨i, i0, i1, ei⟩ := b2.2.2.1 s s0 s1 ms
    obtain ⟨n, a1, a2, a3, a4⟩ := b3 i i0 i1
    rw [ei] at a1 a4
    exact ⟨n, a1, a2, a4⟩
  · exact mBf_all hA (by omega) (by omega) h' n s n1 (fun _ => by omega) q
  · have l := unsureOf_ans hA (by omega) (by omega) h' (r := r) (Or.inr ⟨hk, g, er⟩)
    rcases l with ⟨a, b⟩ | ⟨n', a, b, c⟩
    · exact absurd ⟨s, q, gl⟩ (b n)
    · have := c n ⟨s, q, gl⟩
      omega
/-- on a way of N sounds the levels are the places -/
theorem rB_lv {A : Nat → Int} {N n k : Nat} {s : Int} {m : aM} (hA : mVx A) (h : rB A N m) (q : mRq A 0 0 0 n s) (p : rP A k s) (e : n + k = N) (n1 : 1 ≤ n) : mMk m s ∧ m 189 s.toNat = n := by
  obtain ⟨h1, h2, h3, h4, h5⟩ := h
  have sv : 0 ≤ s ∧ s < 54834 := by
    rcases mRq_v hA (by omega) q with g | g
    · omega
    · exact mSv_bd hA (by omega) g.2
  obtain ⟨a, b⟩ := h4 n s n1 (by omega) q
  refine ⟨a, ?_⟩
  obtain ⟨n', c1, c2, c3⟩ := h2 s sv.1 sv.2 a
  obtain ⟨s', d1, d2⟩ := rP_goal c3 p
  have := h5 _ _ d1 d2
  omega
theorem rB_c {A : Nat → Int} {N : Nat} {m m' : aM} (h1 : m' 189 = m 189) (h2 : m' 190 = m 190) (h3 : m' 193 = m 193) (h4 : m' 176 29 = m 176 29) (h5 : m' 176 30 = m 176 30) (h : rB A N m) : rB A N m' := by
  unfold rB mQu mMk at *
  rw [h1, h2, h3, h4, h5]
  exact h
/-- which lead is known -/
def rLd (A : Nat → Int) (N : Nat) (m : aM) : Prop := ∀ s : Int, 0 ≤ s → s < 54834 → mMk m s → m 192 s.toNat = 0 ∧ ∀ n : Nat, m 189 s.toNat = (n : Int) → n ≤ N → (m 191 s.toNat ≠ 0 ↔ rP A (N - n) s)
theorem leads_ok {A : Nat → Int} {x1 : Int} {N : Nat} {m : aM} {Q : Int × aM → Prop} (eA : m 177 = A) (hA : mVx A) (o : m 176 32 = 0) (hB : rB A N m) (N1 : N ≤ 54834)
    (K : ∀ mm : aM, rLd A N mm → (∀ q i, q ≠ 191 → q ≠ 192 → q ≠ 194 → q ≠ 195 → mm q i = m q i) → mOk (st1 (aup mm 176 39 1) fun mm7 => (st1 (aup mm7 196 0 (-1)) fun mm8 => (R_unsureAt_86 x1 FU (-1) 0 mm8))) Q) : mOk (R_unsureAt_26 x1 (N : Int) FU (w32 (m 176 29 - 1)) m) Q := by
  obtain ⟨h1, h2, h3, h4, h5⟩ := hB
  have b29 := h1.1
  rw [w32e (by omega) (by omega)]
  refine mL2 (R_unsureAt_26 x1 (N : Int)) (fun i mm => (-1 ≤ i ∧ i < m 176 29) ∧ (∀ j : Int, i < j → 0 ≤ j → j < m 176 29 → mm 192 (m 190 j.toNat).toNat = 0 ∧ ∀ n : Nat, m 189 (m 190 j.toNat).toNat = (n : Int) → n ≤ N → (mm 191 (m 190 j.toNat).toNat ≠ 0 ↔ rP A (N - n) (m 190 j.toNat))) ∧ ∀ q i, q ≠ 191 → q ≠ 192 → q ≠ 194 → q ≠ 195 → mm q i = m q i) (fun i _ => (i + 2).toNat) ?_ (m 176 29 - 1) m ⟨by omega, fun j a b c => by omega, fun _ _ _ _ _ _ => rfl⟩ (by omega)
  rintro fu i mm ⟨i1, hi, fr⟩ ih
  rw [R_unsureAt_26]
  by_cases c : i < 0
  · rw [if_pos c]
    refine K mm (fun s s0 s1 ms => ?_) fr
    have ms' : mMk m s := by unfold mMk at *; rw [fr 193 _ (by omega) (by omega) (by omega) (by omega), fr 176 30 (by omega) (by omega) (by omega) (by omega)] at ms; exact ms
    obtain ⟨j, j0, j1, ej⟩ := h1.2.2.1 s s0 s1 ms'
    have := hi j (by omega) j0 j1
    rw [ej] at this
    rw [fr 189 _ (by omega) (by omega) (by omega) (by omega)]
    exact this
  rw [if_neg c, if_pos (by omega), fr 190 _ (by omega) (by omega) (by omega) (by omega)]
  obtain ⟨s01, ms⟩ := h1.2.1 i (by omega) i1.2
  generalize hs : m 190 i.toNat = s at s01 ms
  rw [if_pos s01, st1e]
  have f1 : ∀ q i, ¬(q = 192 ∧ i = s.toNat) → aup mm 192 s.toNat 0 q i = mm q i := fun q i a => aup_of (by omega)
  have v1 : aup mm 192 s.toNat 0 192 s.toNat = 0 := aup_self _ _ _ _
  generalize aup mm 192 s.toNat 0 = m3 at f1 v1 ⊢
  have fr3 : ∀ q i, q ≠ 191 → q ≠ 192 → q ≠ 194 → q ≠ 195 → m3 q i = m q i := fun q i a b c d => by rw [f1 q i (by omega)]; exact fr q i a b c d
  have e177 : m3 177 = A := by rw [← eA]; exact funext fun i => fr3 _ _ (by omega) (by omega) (by omega) (by omega)
  obtain ⟨n, l1, l2, l3⟩ := h2 s s01.1 s01.2 ms
  have sv : mSv A 0 s := by
    rcases mRq_v hA (by omega) l3 with g | g
    · omega
    · exact g.2
  rw [fr3 189 _ (by omega) (by omega) (by omega) (by omega), l1]
  -- the answer is put down
  have put : ∀ (v : Int) (m4 : aM), (v = 0 ∨ v = 1) → (n ≤ N → (v ≠ 0 ↔ rP A (N - n) s)) → (∀ q i, q ≠ 194 → q ≠ 195 → m4 q i = m3 q i) → mOk (R_unsureAt_71 (R_unsureAt_26 x1 (N : Int) fu) x1 (N : Int) i v s m4) Q := by
    intro v m4 hv hp f4
    unfold R_unsureAt_71
    rw [if_pos s01, if_pos hv, st1e, w32e (by omega) (by omega)]
    refine ih _ _ ⟨by omega, fun j a b d => ?_, fun q k a b c d => by rw [aup_of (by omega), f4 q k c d]; exact fr3 q k a b c d⟩ (by omega)
    by_cases e : j = i
    · rw [e, hs, aup_self, aup_of (by omega), f4 192 _ (by omega) (by omega)]
      refine ⟨v1, fun n' hn' hle => ?_⟩
      rw [l1] at hn'
      have : n' = n := by omega
      rw [this]; exact hp (by omega)
    · have ne : m 190 j.toNat ≠ s := by rw [← hs]; exact fun g => h1.2.2.2 i j (by omega) (by omega) d g.symm
      have sj := (h1.2.1 j b d).1
      rw [aup_of (by omega), aup_of (by omega), f4 192 _ (by omega) (by omega), f4 191 _ (by omega) (by omega), f1 192 _ (by omega), f1 191 _ (by omega)]
      exact hi j (by omega) b d
  by_cases c1 : (n : Int) = N
  · rw [if_pos c1]
    refine mOk_bind (isGoal_ok (M := 0) (m := m3) (s := s) (by rw [e177]; exact hA) (by omega) (by rw [e177]; exact sv)) (fun r k => ?_)
    rw [e177] at k
    refine put r m3 k.1 (fun _ => ?_) (fun _ _ _ _ => rfl)
    rw [show N - n = 0 by omega]; exact k.2
  rw [if_neg c1]
  by_cases c2 : (n : Int) < N
  rotate_left
  · rw [if_neg c2]
    unfold R_unsureAt_70
    exact put 0 m3 (Or.inl rfl) (fun g => by omega) (fun _ _ _ _ => rfl)
  rw [if_pos c2, w32e (by omega) (by omega)]
  refine mOk_bind (gathers_ok (s := s) (its := (n : Int) + 1) (x := -1) (m := m3) (by rw [e177]; exact hA) (by rw [fr3 _ _ (by omega) (by omega) (by omega) (by omega)]; exact o) (Or.inr (by rw [e177]; exact sv)) (Or.inl rfl)) (fun r k => ?_)
  obtain ⟨kf, m1, km, ka⟩ := k
  have f4 : ∀ q i, q ≠ 194 → q ≠ 195 → r.2 q i = m3 q i := fun q i a b => by
    rcases ka.2 with g | g
    · rw [g.2 q i]; exact km q i a b
    · exact absurd rfl g.1
  have B3 : rB A N m3 := rB_c (funext fun k => fr3 _ _ (by omega) (by omega) (by omega) (by omega)) (funext fun k => fr3 _ _ (by omega) (by omega) (by omega) (by omega)) (funext fun k => fr3 _ _ (by omega) (by omega) (by omega) (by omega)) (fr3 _ _ (by omega) (by omega) (by omega) (by omega)) (fr3 _ _ (by omega) (by omega) (by omega) (by omega)) ⟨h1, h2, h3, h4, h5⟩
  have key : (∃ t, gG m3 s ((n : Int) + 1) (-1) t) ↔ rP A (N - n) s := by
    rw [show N - n = (N - n - 1) + 1 by omega]
    unfold gG
    rw [e177]
    -- a state at the next level is further on in the queue: it is known already
    have kn : ∀ t, mMk m3 t → 0 ≤ t → t < 54834 → m3 189 t.toNat = (n : Int) + 1 → (m3 191 t.toNat ≠ 0 ↔ rP A (N - n - 1) t) := by
      intro t mt t0 t1 lt
      have mt' : mMk m t := by unfold mMk at *; rw [fr3 193 _ (by omega) (by omega) (by omega) (by omega), fr3 176 30 (by omega) (by omega) (by omega) (by omega)] at mt; exact mt
      rw [fr3 189 _ (by omega) (by omega) (by omega) (by omega)] at lt
      obtain ⟨j, j0, j1, ej⟩ := h1.2.2.1 t t0 t1 mt'
      have gt : i < j := by
        refine Int.not_le.mp (fun le => ?_)
        have := h3 j i j0 le i1.2
        rw [ej, hs, lt, l1] at this
        omega
      have := (hi j gt j0 j1).2 (n + 1) (by rw [ej, lt]; rfl) (by omega)
      rw [ej] at this
      rw [f1 191 _ (by omega), this, show N - (n + 1) = N - n - 1 by omega]
    constructor
    · rintro ⟨t, a1, a2, a3, a4, -⟩
      have tv := mSv_bd hA (by omega) (mSu_v hA (by omega) (Or.inr sv) a1)
      exact ⟨t, a1, (kn t a2 tv.1 tv.2 a3).mp a4⟩
    · rintro ⟨t, a1, a2⟩
      have tv := mSv_bd hA (by omega) (mSu_v hA (by omega) (Or.inr sv) a1)
      obtain ⟨g1, g2⟩ := rB_lv hA B3 (n := n + 1) (k := N - n - 1) ⟨s, l3, a1⟩ a2 (by omega) (by omega)
      exact ⟨t, a1, g1, by rw [g2]; rfl, (kn t g1 tv.1 tv.2 (by rw [g2]; rfl)).mpr a2, Or.inl rfl⟩
  rcases kf with ⟨a, b⟩ | ⟨a, b⟩
  · rw [if_neg (by omega)]
    exact put 1 r.2 (Or.inr rfl) (fun _ => ⟨fun _ => key.mp b, fun _ => by decide⟩) f4
  · rw [if_pos a]
    unfold R_unsureAt_70
    exact put 0 r.2 (Or.inl rfl) (fun _ => ⟨fun g => absurd rfl g, fun g => by obtain ⟨t, ht⟩ := key.mpr g; exact absurd ht (b t)⟩) f4
