/-! unsureAt: the first line, as the reference finds it -/
def rG (A : Nat → Int) (N : Nat) (σ : Nat → Int) : Prop := ∃ s, rQ A σ N s ∧ mGl A 0 s
/-- L has the least sound at k, of the lines that begin as L does -/
def LxAt (G : (Nat → Int) → Prop) (L : Nat → Int) (k : Nat) : Prop := (∃ σ, G σ ∧ (∀ j, j < k → σ j = L j) ∧ σ k = L k) ∧ ∀ σ, G σ → (∀ j, j < k → σ j = L j) → L k ≤ σ k
theorem LxAt_cg {G : (Nat → Int) → Prop} {L L' : Nat → Int} {k : Nat} (e : ∀ j, j ≤ k → L' j = L j) (h : LxAt G L k) : LxAt G L' k := by
  obtain ⟨⟨σ, a, b, c⟩, d⟩ := h
  exact ⟨⟨σ, a, fun j hj => by rw [e j (by omega)]; exact b j hj, by rw [e k (by omega)]; exact c⟩, fun τ t1 t2 => by rw [e k (by omega)]; exact d τ t1 (fun j hj => by rw [t2 j hj]; exact e j (by omega))⟩
theorem Lx_uni {G G' : (Nat → Int) → Prop} {L L' : Nat → Int} {n : Nat} (hG : ∀ σ, G σ ↔ G' σ) (h : ∀ k, k < n → LxAt G L k) (h' : ∀ k, k < n → LxAt G' L' k) : ∀ k, k < n → L k = L' k := by
  intro k
  induction k using Nat.strongRecOn with
  | ind k ih =>
    intro hk
    obtain ⟨⟨σ, a, b, c⟩, d⟩ := h k hk
    obtain ⟨⟨τ, a', b', c'⟩, d'⟩ := h' k hk
    have x1 := d τ ((hG τ).mpr a') (fun j hj => by rw [b' j hj]; exact (ih j hj (by omega)).symm)
    have x2 := d' σ ((hG σ).mp a) (fun j hj => by rw [b j hj]; exact ih j hj (by omega))
    omega
theorem front_ok {A : Nat → Int} {x1 : Int} {N : Nat} {m mm0 : aM} (eA : m 177 = A) (hA : mVx A) (o : m 176 32 = 0) (hB : rB A N m) (hL : rLd A N m) (N1 : N ≤ 54834) (x0 : 0 ≤ x1 ∧ x1 < N) (gN : ∃ s, mRq A 0 0 0 N s ∧ mGl A 0 s)
    (f0 : ∀ q i, ¬(q = 196 ∧ i = 0) → ¬(q = 176 ∧ i = 39) → mm0 q i = m q i) (v39 : mm0 176 39 = 1) (v196 : mm0 196 0 = -1) : mOk (R_unsureAt_86 x1 FU (-1) 0 mm0) (fun r => (∃ L : Nat → Int, (∀ k, k ≤ x1.toNat → LxAt (rG A N) L k) ∧ r.1 = L x1.toNat) ∧ ∀ q i, ¬(192 ≤ q ∧ q ≤ 197 ∧ q ≠ 193) → ¬(q = 176 ∧ (i = 39 ∨ i = 40)) → r.2 q i = m q i) := by
  -- lines to a goal pass by states that lead there
  have hB' := hB
  obtain ⟨h1, h2, h3, h4, h5⟩ := hB
  -- what may come next behind f, by a sound
  have nx_iff : ∀ (mm : aM) (k : Nat) (L : Nat → Int) (f y t : Int), (∀ q i, ¬(192 ≤ q ∧ q ≤ 197 ∧ q ≠ 193) → ¬(q = 176 ∧ (i = 39 ∨ i = 40)) → mm q i = m q i) → k < N → 0 ≤ y → rQ A L k f → (gG mm f ((k : Int) + 1) y t ↔ mSu A 0 0 0 f t ∧ rP A (N - k - 1) t ∧ rS A t = y) := by
    intro mm k L f y t fr kN y0 qf
    have e177 : mm 177 = A := by rw [← eA]; exact funext fun i => fr _ _ (by omega) (by omega)
    unfold gG mMk
    rw [e177, fr 193 _ (by omega) (by omega), fr 176 30 (by omega) (by omega), fr 189 _ (by omega) (by omega), fr 191 _ (by omega) (by omega)]
    constructor
    · rintro ⟨a1, a2, a3, a4, a5⟩
      have tv := mSv_bd hA (by omega) (mSu_v hA (by omega) (rQ_v hA qf) a1)
      have := ((hL t tv.1 tv.2 a2).2 (k + 1) (by rw [a3]; rfl) (by omega)).mp a4
      rw [show N - (k + 1) = N - k - 1 by omega] at this
      exact ⟨a1, this, a5.resolve_left (by omega)⟩
    · rintro ⟨a1, a2, a3⟩
      have tv := mSv_bd hA (by omega) (mSu_v hA (by omega) (rQ_v hA qf) a1)
      obtain ⟨g1, g2⟩ := rB_lv hA hB' (n := k + 1) (k := N - k - 1) ⟨f, rQ_q qf, a1⟩ a2 (by omega) (by omega)
      refine ⟨a1, g1, by rw [g2]; rfl, ((hL t tv.1 tv.2 g1).2 (k + 1) (by rw [g2]) (by omega)).mpr ?_, Or.inr a3⟩
      rw [show N - (k + 1) = N - k - 1 by omega]; exact a2
  refine mL3 (R_unsureAt_86 x1) (fun snd k mm => (0 ≤ k ∧ k ≤ x1 + 1) ∧ ∃ L : Nat → Int, (∀ j, j < k.toNat → LxAt (rG A N) L j) ∧ (1 ≤ k → snd = L (k - 1).toNat) ∧ (0 ≤ mm 176 39 ∧ mm 176 39 ≤ 54834) ∧ (∀ j : Int, 0 ≤ j → j < mm 176 39 → rQ A L k.toNat (mm 196 j.toNat) ∧ rP A (N - k.toNat) (mm 196 j.toNat)) ∧ (∀ s, rQ A L k.toNat s → rP A (N - k.toNat) s → ∃ j : Int, 0 ≤ j ∧ j < mm 176 39 ∧ mm 196 j.toNat = s) ∧ (∃ s, rQ A L k.toNat s ∧ rP A (N - k.toNat) s) ∧ (∀ s : Int, 0 ≤ s → s < 54834 → mMk m s → mm 192 s.toNat = 0) ∧ ∀ q i, ¬(192 ≤ q ∧ q ≤ 197 ∧ q ≠ 193) → ¬(q = 176 ∧ (i = 39 ∨ i = 40)) → mm q i = m q i) (fun _ k _ => (x1 + 2 - k).toNat) ?_ (-1) 0 mm0 ⟨by omega, fun _ => 0, fun j a => by omega, fun a => by omega, by omega, fun j a b => ?_, fun s a b => ?_, ?_, fun s a b c => ?_, fun q i a b => f0 q i (by omega) (by omega)⟩ (by omega)
  rotate_left
  · have e : j = 0 := by omega
    obtain ⟨s, q, g⟩ := gN
    have up : ∀ (d e : Nat) (s : Int), mRq A 0 0 0 d s → rP A e s → rP A (d + e) (-1) := by
      intro d
      induction d with
      | zero => intro e s q p; rw [Nat.zero_add]; rw [show (-1 : Int) = s from Eq.symm q]; exact p
      | succ d ihd =>
        rintro e s ⟨t, q1, q2⟩ p
        have := ihd (e + 1) t q1 ⟨s, q2, p⟩
        rw [show d + 1 + e = d + (e + 1) by omega]; exact this
    rw [e]
    refine ⟨v196, ?_⟩
    rw [show (0 : Int).toNat = 0 from rfl, v196, Nat.sub_zero]
    exact up N 0 s q g
  · have : s = -1 := a
    exact ⟨0, by omega, by omega, by rw [this]; exact v196⟩
  · obtain ⟨s, q, g⟩ := gN
    have up : ∀ (d e : Nat) (s : Int), mRq A 0 0 0 d s → rP A e s → rP A (d + e) (-1) := by
      intro d
      induction d with
      | zero => intro e s q p; rw [Nat.zero_add]; rw [show (-1 : Int) = s from Eq.symm q]; exact p
      | succ d ihd =>
        rintro e s ⟨t, q1, q2⟩ p
        have := ihd (e + 1) t q1 ⟨s, q2, p⟩
        rw [show d + 1 + e = d + (e + 1) by omega]; exact this
    exact ⟨-1, rfl, by rw [show (0 : Int).toNat = 0 from rfl, Nat.sub_zero]; exact up N 0 s q g⟩
  · rw [f0 _ _ (by omega) (by omega)]; exact (hL s a b c).1
  rintro fu snd k mm ⟨k1, L, hLx, hsnd, b39, hF1, hF2, ⟨s0, q0, p0⟩, hfl, fr⟩ ih
  rw [R_unsureAt_86]
  by_cases c : x1 < k
  · rw [if_pos c]
    have ek : k = x1 + 1 := by omega
    refine mOk_some ⟨⟨L, fun j hj => hLx j (by omega), ?_⟩, fr⟩
    dsimp only
    rw [hsnd (by omega), show k - 1 = x1 by omega]
  rw [if_neg c, st1e]
  generalize hkk : k.toNat = kk at *
  have ekk : (kk : Int) = k := by omega
  have kN : kk < N := by omega
  -- those that may come next
  generalize hNx : (fun (y t : Int) => ∃ f, rQ A L kk f ∧ rP A (N - kk) f ∧ mSu A 0 0 0 f t ∧ rP A (N - kk - 1) t ∧ rS A t = y) = Nx
  have iN : ∀ y t, Nx y t ↔ ∃ f, rQ A L kk f ∧ rP A (N - kk) f ∧ mSu A 0 0 0 f t ∧ rP A (N - kk - 1) t ∧ rS A t = y := fun y t => by rw [← hNx]
  clear hNx
  have some1 : ∃ y t, (0 ≤ y ∧ y < 8) ∧ Nx y t := by
    have p0' := p0
    rw [show N - kk = (N - kk - 1) + 1 by omega] at p0'
    obtain ⟨t, t1, t2⟩ := p0'
    exact ⟨rS A t, t, rS_bd hA (mSu_v hA (by omega) (rQ_v hA q0) t1), (iN _ _).mpr ⟨s0, q0, p0, t1, t2, rfl⟩⟩
  have fr0 : ∀ q i, ¬(192 ≤ q ∧ q ≤ 197 ∧ q ≠ 193) → ¬(q = 176 ∧ (i = 39 ∨ i = 40)) → aup mm 176 40 0 q i = m q i := fun q i a b => by rw [aup_of (by omega)]; exact fr q i a b
  have mkm : ∀ mm' : aM, (∀ q i, ¬(192 ≤ q ∧ q ≤ 197 ∧ q ≠ 193) → ¬(q = 176 ∧ (i = 39 ∨ i = 40)) → mm' q i = m q i) → ∀ s, mMk mm' s ↔ mMk m s := fun mm' f s => by unfold mMk; rw [f 193 _ (by omega) (by omega), f 176 30 (by omega) (by omega)]
  refine mL2 (R_unsureAt_94 (R_unsureAt_86 x1 fu) x1 k) (fun x mm' => (-1 ≤ x ∧ x ≤ 7) ∧ (∀ q i, ¬(192 ≤ q ∧ q ≤ 197 ∧ q ≠ 193) → ¬(q = 176 ∧ (i = 39 ∨ i = 40)) → mm' q i = m q i) ∧ mm' 196 = mm 196 ∧ mm' 176 39 = mm 176 39 ∧ gQ mm' ∧ (∀ y t, 0 ≤ y → y < x → ¬ Nx y t) ∧ ((mm' 176 40 = 0 ∧ ∀ t, ¬ Nx x t) ∨ (mm' 176 40 ≠ 0 ∧ 0 ≤ x ∧ (∀ j : Int, 0 ≤ j → j < mm' 176 40 → Nx x (mm' 197 j.toNat)) ∧ ∀ t, Nx x t → ∃ j : Int, 0 ≤ j ∧ j < mm' 176 40 ∧ mm' 197 j.toNat = t))) (fun x _ => (9 - x).toNat) ?_ (-1) (aup mm 176 40 0) ⟨by omega, fr0, funext fun i => aup_of (by omega), aup_of (by omega), ?_, fun y t a b => by omega, Or.inl ⟨aup_self _ _ _ _, fun t ht => ?_⟩⟩ (by omega)
  rotate_left
  · refine ⟨by rw [aup_self]; omega, fun i a b => by rw [aup_self] at b; omega, fun s a b d e => ?_, fun i j a b d => by rw [aup_self] at d; omega⟩
    rw [aup_of (by omega)] at e
    exact absurd (hfl s a b ((mkm _ fr0 s).mp d)) e
  · obtain ⟨f, f1, f2, f3, f4, f5⟩ := (iN _ _).mp ht
    have := rS_bd hA (mSu_v hA (by omega) (rQ_v hA f1) f3)
    omega
  rintro fu2 x mm' ⟨x1', fr', e196, e39, gq, lo, cs⟩ ih2
  rw [R_unsureAt_94]
  by_cases d : mm' 176 40 = 0
  · -- a sound more
    rw [if_pos d]
    have no := (cs.resolve_right (fun g => g.1 d)).2
    have x7 : x ≤ 6 := by
      refine Int.not_lt.mp (fun g => ?_)
      obtain ⟨y, t, y1, hy⟩ := some1
      by_cases e : y = x
      · rw [e] at hy; exact no t hy
      · exact lo y t y1.1 (by omega) hy
    rw [w32e (by omega) (by omega)]
    refine mL2 (R_unsureAt_100 (R_unsureAt_86 x1 fu) (R_unsureAt_94 (R_unsureAt_86 x1 fu) x1 k fu2) x1 (x + 1) k) (fun j m4 => (0 ≤ j ∧ j ≤ mm 176 39) ∧ (∀ q i, ¬(192 ≤ q ∧ q ≤ 197 ∧ q ≠ 193) → ¬(q = 176 ∧ (i = 39 ∨ i = 40)) → m4 q i = m q i) ∧ m4 196 = mm 196 ∧ m4 176 39 = mm 176 39 ∧ gQ m4 ∧ (∀ i : Int, 0 ≤ i → i < m4 176 40 → ∃ j' : Int, 0 ≤ j' ∧ j' < j ∧ mSu A 0 0 0 (mm 196 j'.toNat) (m4 197 i.toNat) ∧ rP A (N - kk - 1) (m4 197 i.toNat) ∧ rS A (m4 197 i.toNat) = x + 1) ∧ ∀ (j' t : Int), 0 ≤ j' → j' < j → mSu A 0 0 0 (mm 196 j'.toNat) t → rP A (N - kk - 1) t → rS A t = x + 1 → ∃ i : Int, 0 ≤ i ∧ i < m4 176 40 ∧ m4 197 i.toNat = t) (fun j _ => (54836 - j).toNat) ?_ 0 mm' ⟨by omega, fr', e196, e39, gq, fun i a b => by omega, fun j' t a b => by omega⟩ (by omega)
    rintro fu3 j m4 ⟨j1, fr4, e1964, e394, gq4, in4, all4⟩ ih3
    rw [R_unsureAt_100, e394]
    by_cases e : j < mm 176 39
    · rw [if_pos e, if_pos (by omega), e1964, w32e (x := k + 1) (by omega) (by omega), w32e (x := j + 1) (by omega) (by omega)]
      obtain ⟨qf, pf⟩ := hF1 j j1.1 e
      have e177 : m4 177 = A := by rw [← eA]; exact funext fun i => fr4 _ _ (by omega) (by omega)
      refine mOk_bind (gathers_ok (s := mm 196 j.toNat) (its := k + 1) (x := x + 1) (m := m4) (by rw [e177]; exact hA) (by rw [fr4 _ _ (by omega) (by omega)]; exact o) (by rw [e177]; exact rQ_v hA qf) (Or.inr gq4)) (fun r kr => ?_)
      obtain ⟨-, m5, km, ka⟩ := kr
      obtain ⟨fa, gg⟩ := ka
      obtain ⟨-, g1, g2, g3, g4, g5⟩ := gg.resolve_left (fun g => by omega)
      have sg : ∀ t, gG m4 (mm 196 j.toNat) (k + 1) (x + 1) t ↔ mSu A 0 0 0 (mm 196 j.toNat) t ∧ rP A (N - kk - 1) t ∧ rS A t = x + 1 := fun t => by
        rw [← ekk]; exact nx_iff m4 kk L _ _ t fr4 kN (by omega) qf
      rw [km 176 40 (by omega) (by omega)] at g2 g3 g4
      refine ih3 _ _ ⟨by omega, fun q i a b => ?_, ?_, ?_, g1, fun i a b => ?_, fun j' t a b s1 s2 s3 => ?_⟩ (by omega)
      · by_cases z : q = 192 ∨ q = 197 ∨ (q = 176 ∧ i = 40)
        · omega
        · rw [fa q i (by omega) (by omega) (by omega)]
          rw [km q i (by omega) (by omega)]; exact fr4 q i a b
      · refine funext fun i => ?_
        rw [fa 196 i (by omega) (by omega) (by omega), km 196 i (by omega) (by omega), e1964]
      · rw [fa 176 39 (by omega) (by omega) (by omega), km 176 39 (by omega) (by omega)]; exact e394
      · by_cases z : i < m4 176 40
        · rw [g3 i a z, km 197 _ (by omega) (by omega)]
          obtain ⟨j', y1, y2, y3⟩ := in4 i a z
          exact ⟨j', y1, by omega, y3⟩
        · exact ⟨j, j1.1, by omega, (sg _).mp (g4 i a (by omega) b)⟩
      · by_cases z : j' = j
        · rw [z] at s1
          exact g5 t ((sg t).mpr ⟨s1, s2, s3⟩)
        · obtain ⟨i, i0, i1, ei⟩ := all4 j' t a (by omega) s1 s2 s3
          exact ⟨i, i0, by omega, by rw [g3 i i0 i1, km 197 _ (by omega) (by omega)]; exact ei⟩
    · rw [if_neg e]
      have ej : j = mm 176 39 := by omega
      have n1 : ∀ i : Int, 0 ≤ i → i < m4 176 40 → Nx (x + 1) (m4 197 i.toNat) := fun i a b => by
        obtain ⟨j', y1, y2, y3, y4, y5⟩ := in4 i a b
        obtain ⟨qf, pf⟩ := hF1 j' y1 (by omega)
        exact (iN _ _).mpr ⟨_, qf, pf, y3, y4, y5⟩
      have n2 : ∀ t, Nx (x + 1) t → ∃ i : Int, 0 ≤ i ∧ i < m4 176 40 ∧ m4 197 i.toNat = t := fun t ht => by
        obtain ⟨f, f1, f2, f3, f4, f5⟩ := (iN _ _).mp ht
        obtain ⟨j', y1, y2, rfl⟩ := hF2 f f1 f2
        exact all4 j' t y1 (by omega) f3 f4 f5
      refine ih2 _ _ ⟨by omega, fr4, e1964, e394, gq4, fun y t a b => ?_, ?_⟩ (by omega)
      · by_cases z : y = x
        · rw [z]; exact no t
        · exact lo y t a (by omega)
      · by_cases z : m4 176 40 = 0
        · exact Or.inl ⟨z, fun t ht => by obtain ⟨i, a, b, -⟩ := n2 t ht; omega⟩
        · exact Or.inr ⟨z, by omega, n1, n2⟩
  · -- the least sound is found
    rw [if_neg d, st1e]
    obtain ⟨-, x0', n1, n2⟩ := cs.resolve_left (fun g => d g.1)
    have b40 := gq.1
    have e40 : aup mm' 176 39 (mm' 176 40) 176 40 = mm' 176 40 := aup_of (by omega)
    have v39' : aup mm' 176 39 (mm' 176 40) 176 39 = mm' 176 40 := aup_self _ _ _ _
    have f5 : ∀ q i, ¬(q = 176 ∧ i = 39) → aup mm' 176 39 (mm' 176 40) q i = mm' q i := fun q i a => aup_of (by omega)
    generalize aup mm' 176 39 (mm' 176 40) = m5 at e40 v39' f5 ⊢
    refine mL2 (R_unsureAt_124 (R_unsureAt_86 x1 fu) x1 x k) (fun j m6 => (0 ≤ j ∧ j ≤ mm' 176 40) ∧ (∀ i : Int, 0 ≤ i → i < j → m6 196 i.toNat = mm' 197 i.toNat ∧ m6 192 (mm' 197 i.toNat).toNat = 0) ∧ (∀ i, m6 192 i = mm' 192 i ∨ m6 192 i = 0) ∧ ∀ q i, q ≠ 196 → q ≠ 192 → m6 q i = m5 q i) (fun j _ => (54836 - j).toNat) ?_ 0 m5 ⟨by omega, fun i a b => by omega, fun i => Or.inl (f5 _ _ (by omega)), fun _ _ _ _ => rfl⟩ (by omega)
    rintro fu3 j m6 ⟨j1, hj, h192, fr6⟩ ih3
    rw [R_unsureAt_124, fr6 176 40 (by omega) (by omega), e40]
    by_cases e : j < mm' 176 40
    · have s01 := (gq.2.1 j j1.1 e).1
      rw [if_pos e, if_pos (by omega), st1e, fr6 197 _ (by omega) (by omega), f5 197 _ (by omega), aup_self, if_pos s01, st1e, w32e (by omega) (by omega)]
      refine ih3 _ _ ⟨by omega, fun i a b => ?_, fun i => ?_, fun q i a b => by rw [aup_of (by omega), aup_of (by omega)]; exact fr6 q i a b⟩ (by omega)
      · by_cases z : i = j
        · rw [z, aup_self, aup_of (by omega), aup_self]; exact ⟨rfl, rfl⟩
        · obtain ⟨y1, y2⟩ := hj i a (by omega)
          refine ⟨by rw [aup_of (by omega), aup_of (by omega)]; exact y1, ?_⟩
          by_cases w : (mm' 197 i.toNat).toNat = (mm' 197 j.toNat).toNat
          · rw [w, aup_self]
          · rw [aup_of (by omega), aup_of (by omega)]; exact y2
      · by_cases w : i = (mm' 197 j.toNat).toNat
        · right; rw [w, aup_self]
        · rw [aup_of (by omega), aup_of (by omega)]; exact h192 i
    · rw [if_neg e, w32e (by omega) (by omega)]
      have ej : j = mm' 176 40 := by omega
      have e39' : m6 176 39 = mm' 176 40 := by rw [fr6 _ _ (by omega) (by omega)]; exact v39'
      have fr7 : ∀ q i, ¬(192 ≤ q ∧ q ≤ 197 ∧ q ≠ 193) → ¬(q = 176 ∧ (i = 39 ∨ i = 40)) → m6 q i = m q i := fun q i a b => by rw [fr6 q i (by omega) (by omega), f5 q i (by omega)]; exact fr' q i a b
      -- the line goes on with x
      generalize hL' : (fun j : Nat => if j = kk then x else L j) = L'
      have eL1 : ∀ j, j < kk → L' j = L j := fun j hj => by rw [← hL']; exact if_neg (by omega)
      have eL2 : L' kk = x := by rw [← hL']; exact if_pos rfl
      have nq : ∀ t, Nx x t ↔ rQ A L' (kk + 1) t ∧ rP A (N - (kk + 1)) t := by
        intro t
        rw [iN, show N - (kk + 1) = N - kk - 1 by omega]
        constructor
        · rintro ⟨f, f1, f2, f3, f4, f5⟩
          exact ⟨⟨f, rQ_cg (fun j hj => (eL1 j hj).symm) f1, f3, by rw [eL2]; exact f5⟩, f4⟩
        · rintro ⟨⟨f, f1, f3, f5⟩, f4⟩
          refine ⟨f, rQ_cg (fun j hj => eL1 j hj) f1, ?_, f3, f4, by rw [f5]; exact eL2⟩
          rw [show N - kk = (N - kk - 1) + 1 by omega]; exact ⟨t, f3, f4⟩
      have ek1 : (k + 1).toNat = kk + 1 := by omega
      refine ih _ _ _ ⟨by omega, L', fun j hj => ?_, fun _ => by rw [show (k + 1 - 1).toNat = kk by omega]; exact eL2.symm, by omega, fun i a b => ?_, fun s a b => ?_, ?_, fun s a b ms => ?_, fr7⟩ (by omega)
      · by_cases z : j = kk
        · rw [z]
          refine ⟨?_, fun σ g pre => ?_⟩
          · have t0 := n1 0 (by omega) (by omega)
            obtain ⟨t1, t2⟩ := (nq _).mp t0
            obtain ⟨τ, y1, s', y2, y3⟩ := rQ_ext t1 t2
            rw [show kk + 1 + (N - (kk + 1)) = N by omega] at y2
            exact ⟨τ, ⟨s', y2, y3⟩, fun j hj => y1 j (by omega), y1 kk (by omega)⟩
          · rw [eL2]
            refine Int.not_lt.mp (fun lt => ?_)
            obtain ⟨s', g1, g2⟩ := g
            rw [show N = kk + 1 + (N - kk - 1) by omega] at g1
            obtain ⟨u, u1, u2⟩ := rQ_at (N - kk - 1) 0 g1 g2
            rw [Nat.add_zero] at u2
            obtain ⟨f, f1, f3, f5⟩ := u1
            have f1' := rQ_cg (fun j hj => (pre j hj).trans (eL1 j hj)) f1
            have sb := rS_bd hA (mSu_v hA (by omega) (rQ_v hA f1) f3)
            refine lo (σ kk) u (by rw [← f5]; exact sb.1) lt ((iN _ _).mpr ⟨f, f1', ?_, f3, u2, f5⟩)
            rw [show N - kk = (N - kk - 1) + 1 by omega]; exact ⟨u, f3, u2⟩
        · exact LxAt_cg (fun i hi => eL1 i (by omega)) (hLx j (by omega))
      · rw [e39'] at b
        rw [ek1, (hj i a (by omega)).1]
        exact (nq _).mp (n1 i a b)
      · rw [ek1] at a b
        obtain ⟨i, i0, i1, ei⟩ := n2 s ((nq s).mpr ⟨a, b⟩)
        exact ⟨i, i0, by omega, by rw [(hj i i0 (by omega)).1]; exact ei⟩
      · rw [ek1]
        exact ⟨_, (nq _).mp (n1 0 (by omega) (by omega))⟩
      · rcases h192 s.toNat with g | g
        · by_cases z : mm' 192 s.toNat = 0
          · rw [g]; exact z
          · obtain ⟨i, i0, i1, ei⟩ := gq.2.2.1 s a b ((mkm _ fr' s).mpr ms) z
            have := (hj i i0 (by omega)).2
            rw [ei] at this
            exact this
        · exact g
