/-! A LINE OF THE TEXT: like, never, last -/
theorem mSy_fr {T : Int → Int} {n k : Int} {b m b' m' : aM} (h : mSy T n k b m) (fb : ∀ q i, q = 1 ∨ q = 2 → b' q i = b q i) (fm : ∀ q i, q = 176 ∨ q = 179 → m' q i = m q i) : mSy T n k b' m' := by
  obtain ⟨hx, hxr, b7, m11, b8, tn⟩ := h
  have e : m' 176 = m 176 := funext fun i => fm 176 i (Or.inl rfl)
  refine ⟨mTx_same hx (fb _ _ (Or.inl rfl)) (fun i => fb _ _ (Or.inr rfl)), mTxR_same hxr (fm _ _ (Or.inl rfl)) (fun i => fm _ _ (Or.inr rfl)), by rw [fb _ _ (Or.inl rfl)]; exact b7, by rw [e]; exact m11, by rw [fb _ _ (Or.inl rfl)]; exact b8, ?_⟩
  unfold mTn
  rw [e, fb _ _ (Or.inl rfl)]
  exact tn
theorem or_bt {x c : Int} (x0 : 0 ≤ x) (x1 : x < 256) (c0 : 0 ≤ c) (c1 : c < 8) : (0 ≤ ior x (ishl 1 c) ∧ ior x (ishl 1 c) < 256) ∧ ∀ y : Int, 0 ≤ y → y < 8 → (iand (ishr (ior x (ishl 1 c)) y) 1 ≠ 0 ↔ iand (ishr x y) 1 ≠ 0 ∨ y = c) := by
  obtain ⟨⟨h0, h1⟩, h2⟩ := ior_bit (x := x) (c := c) (B := 8) x0 (show x.toNat < 256 by omega) c0 (by omega) (by omega)
  have h1' : (ior x (ishl 1 c)).toNat < 256 := h1
  refine ⟨by omega, fun y y0 y1 => ?_⟩
  rw [bt_ne h0 (by omega) y0 (by omega), bt_ne x0 (by omega) y0 (by omega), h2, Bool.or_eq_true, decide_eq_true_eq]
  constructor
  · rintro (h | h)
    · exact Or.inl h
    · exact Or.inr (by omega)
  · rintro (h | h)
    · exact Or.inl h
    · exact Or.inr (by omega)
theorem mTg_like {A A' : Nat → Int} {b b' : aM} {x y : Int} (h : mTg A b) (x0 : 0 ≤ x) (x1 : x < A 0) (y0 : 0 ≤ y) (y1 : y < A 0) (xy : x ≠ y) (ax : A' (10 + x).toNat = ior (A (10 + x).toNat) (ishl 1 y)) (ay : A' (10 + y).toNat = ior (A (10 + y).toNat) (ishl 1 x)) (af : ∀ i : Nat, i ≠ (10 + x).toNat → i ≠ (10 + y).toNat → A' i = A i) (bx : b' 5 x.toNat = ior (b 5 x.toNat) (ishl 1 y)) (bY : b' 5 y.toNat = ior (b 5 y.toNat) (ishl 1 x)) (bf : ∀ q i, 3 ≤ q → q ≤ 24 → ¬(q = 5 ∧ (i = x.toNat ∨ i = y.toNat)) → b' q i = b q i) : mTg A' b' := by
  have t := h.1
  have r := h.2
  have c0 := t.1
  have c3 := t.2.2.2.1
  have sx := c3 x x0 (by omega)
  have sy := c3 y y0 (by omega)
  have ox := or_bt (c := y) sx.1 sx.2.1 y0 (by omega)
  have oy := or_bt (c := x) sy.1 sy.2.1 x0 (by omega)
  have hb : ∀ s u : Int, 0 ≤ s → s < 8 → 0 ≤ u → u < 8 → (iand (ishr (A' (10 + s).toNat) u) 1 ≠ 0 ↔ (iand (ishr (A (10 + s).toNat) u) 1 ≠ 0 ∨ (s = x ∧ u = y) ∨ (s = y ∧ u = x))) := by
    intro s u s0 s1 u0 u1
    by_cases e1 : s = x
    · subst e1
      rw [ax, ox.2 u u0 u1]
      constructor
      · rintro (k | k)
        · exact Or.inl k
        · exact Or.inr (Or.inl ⟨rfl, k⟩)
      · rintro (k | k | k)
        · exact Or.inl k
        · exact Or.inr k.2
        · exact absurd k.1 xy
    · by_cases e2 : s = y
      · subst e2
        rw [ay, oy.2 u u0 u1]
        constructor
        · rintro (k | k)
          · exact Or.inl k
          · exact Or.inr (Or.inr ⟨rfl, k⟩)
        · rintro (k | k | k)
          · exact Or.inl k
          · exact absurd k.1 e1
          · exact Or.inr k.2
      · rw [af (10 + s).toNat (by omega) (by omega)]
        constructor
        · exact fun k => Or.inl k
        · rintro (k | k | k)
          · exact k
          · exact absurd k.1 e1
          · exact absurd k.1 e2
  refine mTg_small h (fun i a d e => af i (by omega) (by omega)) ?_ ?_ ?_ ?_ ?_ ?_ ?_ ?_ (fun q i a c d e _ => bf q i a c (by omega))
  · rw [af _ (by omega) (by omega)]; exact t.2.2.1
  · intro s h0 h1
    have bd : 0 ≤ A' (10 + s).toNat ∧ A' (10 + s).toNat < 256 := by
      by_cases e1 : s = x
      · rw [e1, ax]; exact ox.1
      · by_cases e2 : s = y
        · rw [e2, ay]; exact oy.1
        · rw [af (10 + s).toNat (by omega) (by omega)]; exact ⟨(c3 s h0 h1).1, (c3 s h0 h1).2.1⟩
    refine ⟨bd.1, bd.2, fun u u0 u1 hu => ?_⟩
    rcases (hb s u h0 h1 u0 u1).mp hu with k | k | k
    · have g := (c3 s h0 h1).2.2 u u0 u1 k
      exact ⟨g.1, g.2.1, g.2.2.1, (hb u s u0 u1 h0 h1).mpr (Or.inl g.2.2.2)⟩
    · exact ⟨by omega, by omega, by omega, (hb u s u0 u1 h0 h1).mpr (Or.inr (Or.inr ⟨k.2, k.1⟩))⟩
    · exact ⟨by omega, by omega, by omega, (hb u s u0 u1 h0 h1).mpr (Or.inr (Or.inl ⟨k.2, k.1⟩))⟩
  · intro k h0 h1; rw [af _ (by omega) (by omega)]; exact t.2.2.2.2.2.2.2.1 k h0 h1
  · rw [af _ (by omega) (by omega)]; exact t.2.2.2.2.2.2.2.2.1
  · rw [bf _ _ (by omega) (by omega) (by omega), af _ (by omega) (by omega)]; exact r.1.2.2.2.2.1
  · intro s h0 h1
    by_cases e1 : s = x
    · rw [e1, bx, ax, r.2.2.1 x x0 (by omega)]
    · by_cases e2 : s = y
      · rw [e2, bY, ay, r.2.2.1 y y0 (by omega)]
      · rw [bf _ _ (by omega) (by omega) (by omega), af (10 + s).toNat (by omega) (by omega)]; exact r.2.2.1 s h0 h1
  · intro k h0 h1; rw [bf _ _ (by omega) (by omega) (by omega), af _ (by omega) (by omega)]; exact r.2.2.2.2.1 k h0 h1
  · rw [bf _ _ (by omega) (by omega) (by omega), af _ (by omega) (by omega)]; exact r.1.2.2.2.2.2
theorem never_bt {a c : Int} (a0 : 0 ≤ a) (a1 : a ≤ 15) (c0 : 0 ≤ c) (c1 : c ≤ 3) : iand (15 - a) (ixor (ishl 1 c) (-1)) = 15 - ior a (ishl 1 c) ∧ 0 ≤ ior a (ishl 1 c) ∧ ior a (ishl 1 c) ≤ 15 := by
  have aux : ∀ a : Fin 16, ∀ c : Fin 4, iand (15 - ((a.val : Nat) : Int)) (ixor (ishl 1 ((c.val : Nat) : Int)) (-1)) = 15 - ior ((a.val : Nat) : Int) (ishl 1 ((c.val : Nat) : Int)) ∧ 0 ≤ ior ((a.val : Nat) : Int) (ishl 1 ((c.val : Nat) : Int)) ∧ ior ((a.val : Nat) : Int) (ishl 1 ((c.val : Nat) : Int)) ≤ 15 := by decide +kernel
  have := aux ⟨a.toNat, by omega⟩ ⟨c.toNat, by omega⟩
  simp only [Int.toNat_of_nonneg a0, Int.toNat_of_nonneg c0] at this
  exact this
theorem mTg_never {A A' : Nat → Int} {b b' : aM} {x y : Int} (h : mTg A b) (x0 : 0 ≤ x) (x1 : x ≤ 3) (y0 : 0 ≤ y) (y1 : y ≤ 3) (ax : A' (136 + x).toNat = ior (A (136 + x).toNat) (ishl 1 y)) (af : ∀ i : Nat, i ≠ (136 + x).toNat → A' i = A i) (bx : b' 22 x.toNat = iand (b 22 x.toNat) (ixor (ishl 1 y) (-1))) (bf : ∀ q i, 3 ≤ q → q ≤ 24 → ¬(q = 22 ∧ i = x.toNat) → b' q i = b q i) : mTg A' b' := by
  have t := h.1
  have r := h.2
  have nx := t.2.2.2.2.2.2.2.1 x x0 (by omega)
  have nb := never_bt nx.1 nx.2 y0 y1
  refine mTg_small h (fun i a d e => af i (by omega)) ?_ ?_ ?_ ?_ ?_ ?_ ?_ ?_ (fun q i a c d _ e => bf q i a c (by omega))
  · rw [af _ (by omega)]; exact t.2.2.1
  · intro s h0 h1
    rw [af (10 + s).toNat (by omega)]
    refine ⟨(t.2.2.2.1 s h0 h1).1, (t.2.2.2.1 s h0 h1).2.1, fun u u0 u1 hu => ?_⟩
    rw [af (10 + u).toNat (by omega)]
    exact (t.2.2.2.1 s h0 h1).2.2 u u0 u1 hu
  · intro k h0 h1
    by_cases e : k = x
    · rw [e, ax]; exact nb.2
    · rw [af _ (by omega)]; exact t.2.2.2.2.2.2.2.1 k h0 h1
  · rw [af _ (by omega)]; exact t.2.2.2.2.2.2.2.2.1
  · rw [bf _ _ (by omega) (by omega) (by omega), af _ (by omega)]; exact r.1.2.2.2.2.1
  · intro s h0 h1; rw [bf _ _ (by omega) (by omega) (by omega), af (10 + s).toNat (by omega)]; exact r.2.2.1 s h0 h1
  · intro k h0 h1
    by_cases e : k = x
    · rw [e, bx, ax, r.2.2.2.2.1 x x0 (by omega)]; exact nb.1
    · rw [bf _ _ (by omega) (by omega) (by omega), af _ (by omega)]; exact r.2.2.2.2.1 k h0 h1
  · rw [bf _ _ (by omega) (by omega) (by omega), af _ (by omega)]; exact r.1.2.2.2.2.2
theorem mTg_last {A A' : Nat → Int} {b b' : aM} {y : Int} (h : mTg A b) (y0 : 0 ≤ y) (y1 : y ≤ 3) (ax : A' 140 = ior (A 140) (ishl 1 y)) (af : ∀ i : Nat, i ≠ 140 → A' i = A i) (bx : b' 3 5 = iand (b 3 5) (ixor (ishl 1 y) (-1))) (bf : ∀ q i, 3 ≤ q → q ≤ 24 → ¬(q = 3 ∧ i = 5) → b' q i = b q i) : mTg A' b' := by
  have t := h.1
  have r := h.2
  have nx := t.2.2.2.2.2.2.2.2.1
  have nb := never_bt nx.1 nx.2 y0 y1
  refine mTg_small h (fun i a d e => af i (by omega)) ?_ ?_ ?_ ?_ ?_ ?_ ?_ ?_ (fun q i a c d _ e => bf q i a c (by omega))
  · rw [af _ (by omega)]; exact t.2.2.1
  · intro s h0 h1
    rw [af (10 + s).toNat (by omega)]
    refine ⟨(t.2.2.2.1 s h0 h1).1, (t.2.2.2.1 s h0 h1).2.1, fun u u0 u1 hu => ?_⟩
    rw [af (10 + u).toNat (by omega)]
    exact (t.2.2.2.1 s h0 h1).2.2 u u0 u1 hu
  · intro k h0 h1; rw [af _ (by omega)]; exact t.2.2.2.2.2.2.2.1 k h0 h1
  · rw [ax]; exact nb.2
  · rw [bf _ _ (by omega) (by omega) (by omega), af _ (by omega)]; exact r.1.2.2.2.2.1
  · intro s h0 h1; rw [bf _ _ (by omega) (by omega) (by omega), af (10 + s).toNat (by omega)]; exact r.2.2.1 s h0 h1
  · intro k h0 h1; rw [bf _ _ (by omega) (by omega) (by omega), af _ (by omega)]; exact r.2.2.2.2.1 k h0 h1
  · rw [bx, ax, r.1.2.2.2.2.2]; exact nb.1
/-- a letter that tells a sound -/
theorem one_ok {T : Int → Int} {n k but : Int} {b m : aM} (n1 : n ≤ 500) (h : mSy T n k b m) (tg : mTg (m 180) b) : ∃ s b1 s' m1, Tape_wantSound b = some (s, b1) ∧ R_readOne but m = some (s', m1) ∧ mFb b b1 ∧ mFr m m1 ∧ b 1 6 ≤ b1 1 6 ∧
    ((s = -1 ∧ mFl b1 m1) ∨ ((0 ≤ s ∧ s < m 180 0) ∧ s = but ∧ b1 1 7 = 0 ∧ m1 176 11 = 3 ∧ m1 176 12 = b1 1 5) ∨ ((0 ≤ s ∧ s < m 180 0) ∧ s ≠ but ∧ s' = s ∧ ∃ k', mSy T n k' b1 m1)) := by
  obtain ⟨f, b1, kw, fb, p1, hl⟩ := lett_ok (lo := 1) (hi := 1) n1 h
  have c0 := tg.1.1
  have c1 := tg.1.2.1
  rcases hl with ⟨f0, m', kl, fr2, fl⟩ | ⟨f1, ss, lt, sm, hl⟩
  · refine ⟨-1, b1, 0, m', ?_, ?_, fb, fr2, p1, Or.inl ⟨rfl, fl⟩⟩
    · unfold Tape_wantSound
      rw [kw, Option.bind_some]
      dsimp only
      rw [if_pos f0]
    · unfold R_readOne
      rw [kl, Option.bind_some]
      dsimp only
      rw [if_pos rfl]
  obtain ⟨hx1, hxr1, b71, m111, b81, e51, e61, q01, qe1, e11, k131⟩ := ss
  have tg1 : mTg (m 180) b1 := mTg_fb tg (fun q i a d => fb q i (by omega))
  have clB : Tape_wantSound b = (if m 176 7 - m 176 6 = 1 then (if 0 ≤ m 176 6 ∧ m 176 6 < 500 then ((Tongue_findSound 3 (b1 2 (m 176 6).toNat) b1).bind fun r7 => (Tape_wantSound_23 r7 b1)) else none) else (Tape_wantSound_23 (-1) b1)) := by
    unfold Tape_wantSound
    rw [kw, Option.bind_some]
    show (if f = 0 then (some ((-1), b1)) else (if (w32 ((b1 1 6) - (b1 1 5))) = 1 then (if 0 ≤ (b1 1 5) ∧ (b1 1 5) < 500 then ((Tongue_findSound 3 (b1 2 (b1 1 5).toNat) b1).bind fun r7 => (Tape_wantSound_23 r7 b1)) else none) else (Tape_wantSound_23 (-1) b1))) = _
    rw [f1, if_neg (by decide), e51, e61, w32e (by omega) (by omega)]
  have failB : Tape_wantSound_23 (-1) b1 = some (-1, aup (aup b1 1 7 3) 1 8 (b1 1 5)) := by
    unfold Tape_wantSound_23
    rw [if_pos rfl, fail_eq b71, Option.bind_some]
  rcases hl with ⟨l1, l2, kl⟩ | ⟨nl, kl⟩
  · have tv := hx1.2 (m 176 6) q01 (by omega)
    have fs := findSound_d (b := b1) (A := m 180) c0 c1 tg1.2.1.2.1 tg1.2.2.1 tv.1.1 tv.1.2 tv.2
    have so := soundOf_d (m := m) c0 (T (m 176 6))
    have bd := mSi_bd c0 (T (m 176 6))
    rw [if_pos (by omega), if_pos (by omega), fs.1, Option.bind_some] at clB
    have clR : R_readOne but m = (if mSi (m 180) (T (m 176 6)) = (-1) then (R_readOne_23 (mSi (m 180) (T (m 176 6))) m) else (if mSi (m 180) (T (m 176 6)) = but then (R_readOne_23 (mSi (m 180) (T (m 176 6))) m) else (R_readOne_26 (mSi (m 180) (T (m 176 6))) m))) := by
      unfold R_readOne
      rw [kl, Option.bind_some]
      dsimp only
      rw [if_neg (by decide), if_pos (by omega), (hxr1.2 _ q01 (by omega)).2, so.1, Option.bind_some]
    have failR : ∀ s : Int, R_readOne_23 s m = some (s, aup (aup m 176 11 3) 176 12 (m 176 6)) := by
      intro s
      unfold R_readOne_23
      rw [fails_eq m111, if_neg k131, Option.bind_some]
      unfold R_readOne_26
      rw [aup_of (by omega), aup_self, if_neg (by decide)]
    generalize mSi (m 180) (T (m 176 6)) = s at *
    by_cases z : s = -1
    · rw [z, failB] at clB
      rw [if_pos z, failR] at clR
      exact ⟨_, _, _, _, clB, clR, mFb_fail fb, mFr_fail (mFr.refl m), by rw [aup_of (by omega), aup_of (by omega)]; exact p1, Or.inl ⟨rfl, mFl_fail (by omega) rfl e51⟩⟩
    · rw [if_neg z] at clR
      unfold Tape_wantSound_23 at clB
      rw [if_neg z] at clB
      by_cases y : s = but
      · rw [if_pos y, failR] at clR
        refine ⟨_, _, _, _, clB, clR, fb, mFr_fail (mFr.refl m), p1, Or.inr (Or.inl ⟨by omega, y, b71, ?_, ?_⟩)⟩
        · rw [aup_of (by omega), aup_self]
        · rw [aup_self]; exact e51.symm
      · rw [if_neg y] at clR
        unfold R_readOne_26 at clR
        rw [if_pos m111] at clR
        obtain ⟨m2, kn, hk, fr2⟩ := sy_next (b := b1) hx1 hxr1 n1 b71 b81 m111 e61 (by omega) e11
        rw [kn, Option.bind_some] at clR
        exact ⟨_, _, _, _, clB, clR, fb, fr2, p1, Or.inr (Or.inr ⟨by omega, y, rfl, hk⟩)⟩
  · rw [if_neg (by omega), failB] at clB
    refine ⟨_, _, 0, _, clB, ?_, mFb_fail fb, mFr_fail (mFr.refl m), by rw [aup_of (by omega), aup_of (by omega)]; exact p1, Or.inl ⟨rfl, mFl_fail (f := 3) (g := 3) (by omega) rfl e51⟩⟩
    unfold R_readOne
    rw [kl, Option.bind_some]
    dsimp only
    rw [if_pos rfl]
theorem mFl_ne {b m : aM} (h : mFl b m) : b 1 7 ≠ 0 ∧ m 176 11 ≠ 0 := by
  have := h.1
  have e := h.2.1
  exact ⟨by omega, by omega⟩
theorem ln_like {T : Int → Int} {n : Int} {b m : aM} (n1 : n ≤ 500) (hs : mSs T n b m) (tg : mTg (m 180) b) : ∃ b' m', Tape_readLike b = some b' ∧ R_readLike m = some m' ∧ mFb1 b b' ∧ mFr1 m m' ∧ mLe T n (b 1 6) b' m' := by
  obtain ⟨hx, hxr, b7, m11, b8, e5, e6, q0, qe, e1, k13⟩ := hs
  obtain ⟨m1, kn, ⟨k, hs1⟩, fr1⟩ := sy_next hx hxr n1 b7 b8 m11 e6 (by omega) e1
  rw [← r180 fr1] at tg
  have c0 := tg.1.1
  obtain ⟨s, b1, s', m2, kB, kR, fb1, fr2, p1, h1⟩ := one_ok (but := -1) n1 hs1 tg
  have clB : Tape_readLike b = (if s = (-1) then (some b1) else ((Tape_wantSound b1).bind fun r3 => (if r3.1 = (-1) then (some r3.2) else (if r3.1 = s then ((Tape_fail 3 r3.2).bind fun r10 => (some r10)) else (if 0 ≤ s ∧ s < 8 then (st1 (aup r3.2 5 s.toNat (ior (r3.2 5 s.toNat) (ishl 1 r3.1))) fun mm7 => (if 0 ≤ r3.1 ∧ r3.1 < 8 then (st1 (aup mm7 5 r3.1.toNat (ior (mm7 5 r3.1.toNat) (ishl 1 s))) fun mm9 => (some mm9)) else none)) else none))))) := by
    unfold Tape_readLike
    rw [kB, Option.bind_some]
  have clR : R_readLike m = (if (m2 176 11) = 0 then ((R_readOne s' m2).bind fun r4 => (if (r4.2 176 11) = 0 then (if 0 ≤ (w32 (10 + s')) ∧ (w32 (10 + s')) < 155 then (st1 (aup r4.2 180 (w32 (10 + s')).toNat (ior (r4.2 180 (w32 (10 + s')).toNat) (ishl 1 r4.1))) fun mm7 => (if 0 ≤ (w32 (10 + r4.1)) ∧ (w32 (10 + r4.1)) < 155 then (st1 (aup mm7 180 (w32 (10 + r4.1)).toNat (ior (mm7 180 (w32 (10 + r4.1)).toNat) (ishl 1 s'))) fun mm9 => (some mm9)) else none)) else none) else (some r4.2))) else (some m2)) := by
    unfold R_readLike
    rw [kn, Option.bind_some, kR, Option.bind_some]
  rcases h1 with ⟨z, fl⟩ | ⟨z, y, -⟩ | ⟨z, y, es, ⟨k2, hs2⟩⟩
  · refine ⟨b1, m2, ?_, ?_, mFb1.of fb1, mFr1.of (fr1.trans fr2), Or.inr fl⟩
    · rw [clB, if_pos z]
    · rw [clR, if_neg (mFl_ne fl).2]
  · omega
  subst es
  have m211 : m2 176 11 = 0 := hs2.2.2.2.1
  have tg2 : mTg (m2 180) b1 := by rw [r180 fr2]; exact mTg_fb tg (fun q i a d => fb1 q i (by omega))
  obtain ⟨t, b2, t', m3, kB2, kR2, fb2, fr3, p2, h2⟩ := one_ok (but := s') n1 hs2 tg2
  rw [if_neg (by omega), kB2, Option.bind_some] at clB
  rw [if_pos m211, kR2, Option.bind_some] at clR
  dsimp only at clB clR
  have e180 : m2 180 = m1 180 := r180 fr2
  rw [e180] at h2
  rcases h2 with ⟨z2, fl⟩ | ⟨z2, y2, g7, g11, g12⟩ | ⟨z2, y2, et, ⟨k3, hs3⟩⟩
  · refine ⟨b2, m3, ?_, ?_, mFb1.of (fb1.trans fb2), mFr1.of ((fr1.trans fr2).trans fr3), Or.inr fl⟩
    · rw [clB, if_pos z2]
    · rw [clR, if_neg (mFl_ne fl).2]
  · refine ⟨aup (aup b2 1 7 3) 1 8 (b2 1 5), m3, ?_, ?_, mFb1.of (mFb_fail (fb1.trans fb2)), mFr1.of ((fr1.trans fr2).trans fr3), Or.inr ?_⟩
    · rw [clB, if_neg (by omega), if_pos y2, fail_eq g7, Option.bind_some]
    · rw [clR, if_neg (by omega)]
    · unfold mFl
      rw [aup_of (i' := 7) (by omega), aup_self, aup_self, g11, g12]
      exact ⟨by omega, rfl, rfl⟩
  · subst et
    have m311 : m3 176 11 = 0 := hs3.2.2.2.1
    refine ⟨aup (aup b2 5 s'.toNat (ior (b2 5 s'.toNat) (ishl 1 t'))) 5 t'.toNat (ior (b2 5 t'.toNat) (ishl 1 s')), aup (aup m3 180 (10 + s').toNat (ior (m3 180 (10 + s').toNat) (ishl 1 t'))) 180 (10 + t').toNat (ior (m3 180 (10 + t').toNat) (ishl 1 s')), ?_, ?_, ?_, ?_, Or.inl ⟨⟨k3, mSy_fr hs3 (fun q i a => by rw [aup_of (by omega), aup_of (by omega)]) (fun q i a => by rw [aup_of (by omega), aup_of (by omega)])⟩, ?_, ?_⟩⟩
    · rw [clB, if_neg (by omega), if_neg y2, if_pos (by omega), st1e, if_pos (by omega), st1e, aup_of (i' := t'.toNat) (by omega)]
    · rw [clR, if_pos m311, w32e (x := 10 + s') (by omega) (by omega), w32e (x := 10 + t') (by omega) (by omega), if_pos (by omega), st1e, if_pos (by omega), st1e, aup_of (i' := (10 + t').toNat) (by omega)]
    · intro q i a d
      rw [aup_of (by omega), aup_of (by omega)]
      exact (fb1.trans fb2) q i a
    · intro q i a d
      rw [aup_of (by omega), aup_of (by omega)]
      exact ((fr1.trans fr2).trans fr3) q i a
    · have e183 : m3 180 = m1 180 := (r180 fr3).trans e180
      have tg3 : mTg (m3 180) b2 := by rw [e183]; exact mTg_fb tg (fun q i a d => (fb1.trans fb2) q i (by omega))
      refine mTg_like (x := s') (y := t') tg3 z.1 (by rw [e183]; exact z.2) z2.1 (by rw [e183]; exact z2.2) (fun h => y2 h.symm) ?_ (aup_self _ _ _ _) ?_ ?_ (aup_self _ _ _ _) ?_
      · rw [aup_of (by omega), aup_self]
      · intro i a d; rw [aup_of (by omega), aup_of (by omega)]
      · rw [aup_of (by omega), aup_self]
      · intro q i a d g; rw [aup_of (by omega), aup_of (by omega)]
    · rw [aup_of (by omega), aup_of (by omega)]; omega
theorem ln_never {T : Int → Int} {n k : Int} {b m : aM} (n1 : n ≤ 500) (hs : mSy T n k b m) (tg : mTg (m 180) b) : ∃ b' m', Tape_readNever b = some b' ∧ ((R_takes 0 3 m).bind fun r28 => ((R_takes 0 3 r28.2).bind fun r29 => (if (r29.2 176 11) = 0 then (if 0 ≤ (w32 (136 + r28.1)) ∧ (w32 (136 + r28.1)) < 155 then (st1 (aup r29.2 180 (w32 (136 + r28.1)).toNat (ior (r29.2 180 (w32 (136 + r28.1)).toNat) (ishl 1 r29.1))) fun mm32 => (R_readLine_45 mm32)) else none) else (R_readLine_45 r29.2)))) = R_readLine_106 m' ∧ mFb1 b b' ∧ mFr1 m m' ∧ mLe T n (b 1 6) b' m' := by
  obtain ⟨v, b1, v', m1, kB, kR, fb1, fr1, h1⟩ := num_ok (most := 3) n1 hs (by omega)
  rw [kR, Option.bind_some]
  dsimp only
  unfold Tape_readNever
  rw [kB, Option.bind_some]
  dsimp only
  rcases h1 with ⟨ev, v0, v3, ⟨k1, hs1⟩, p1⟩ | fl
  · subst ev
    obtain ⟨w, b2, w', m2, kB2, kR2, fb2, fr2, h2⟩ := num_ok (most := 3) n1 hs1 (by omega)
    rw [kR2, Option.bind_some, kB2, Option.bind_some]
    dsimp only
    rcases h2 with ⟨ew, w0, w3, ⟨k2, hs2⟩, p2⟩ | fl
    · subst ew
      have m211 : m2 176 11 = 0 := hs2.2.2.2.1
      have b27 : b2 1 7 = 0 := hs2.2.2.1
      refine ⟨aup b2 22 v.toNat (iand (b2 22 v.toNat) (ixor (ishl 1 w) (-1))), aup m2 180 (136 + v).toNat (ior (m2 180 (136 + v).toNat) (ishl 1 w)), ?_, ?_, ?_, ?_, Or.inl ⟨⟨k2, mSy_fr hs2 (fun q i a => aup_of (by omega)) (fun q i a => aup_of (by omega))⟩, ?_, ?_⟩⟩
      · rw [if_pos b27, if_pos (by omega), st1e]
      · rw [if_pos m211, w32e (by omega) (by omega), if_pos (by omega), st1e]
        rfl
      · intro q i a d; rw [aup_of (by omega)]; exact (fb1.trans fb2) q i a
      · intro q i a d; rw [aup_of (by omega)]; exact (fr1.trans fr2) q i a
      · have tg2 : mTg (m2 180) b2 := by rw [r180 (fr1.trans fr2)]; exact mTg_fb tg (fun q i a d => (fb1.trans fb2) q i (by omega))
        exact mTg_never (x := v) (y := w) tg2 v0 v3 w0 w3 (aup_self _ _ _ _) (fun i a => aup_of (by omega)) (aup_self _ _ _ _) (fun q i a d g => aup_of (by omega))
      · rw [aup_of (by omega)]; omega
    · have ne := mFl_ne fl
      exact ⟨b2, m2, by rw [if_neg ne.1], by rw [if_neg ne.2]; rfl, mFb1.of (fb1.trans fb2), mFr1.of (fr1.trans fr2), Or.inr fl⟩
  · have ne := mFl_ne fl
    have nn := num_no (most := 3) fl
    rw [nn.1, nn.2, Option.bind_some, Option.bind_some]
    dsimp only
    exact ⟨b1, m1, by rw [if_neg ne.1], by rw [if_neg ne.2]; rfl, mFb1.of fb1, mFr1.of fr1, Or.inr fl⟩
theorem ln_last {T : Int → Int} {n k : Int} {b m : aM} (n1 : n ≤ 500) (hs : mSy T n k b m) (tg : mTg (m 180) b) : ∃ b' m', Tape_readLast b = some b' ∧ ((R_takes 0 3 m).bind fun r25 => (if (r25.2 176 11) = 0 then (st1 (aup r25.2 180 140 (ior (r25.2 180 140) (ishl 1 r25.1))) fun mm27 => (R_readLine_68 mm27)) else (R_readLine_68 r25.2))) = R_readLine_106 m' ∧ mFb1 b b' ∧ mFr1 m m' ∧ mLe T n (b 1 6) b' m' := by
  obtain ⟨v, b1, v', m1, kB, kR, fb1, fr1, h1⟩ := num_ok (most := 3) n1 hs (by omega)
  rw [kR, Option.bind_some]
  dsimp only
  unfold Tape_readLast
  rw [kB, Option.bind_some]
  dsimp only
  rcases h1 with ⟨ev, v0, v3, ⟨k1, hs1⟩, p1⟩ | fl
  · subst ev
    have m111 : m1 176 11 = 0 := hs1.2.2.2.1
    have b17 : b1 1 7 = 0 := hs1.2.2.1
    refine ⟨aup b1 3 5 (iand (b1 3 5) (ixor (ishl 1 v) (-1))), aup m1 180 140 (ior (m1 180 140) (ishl 1 v)), ?_, ?_, ?_, ?_, Or.inl ⟨⟨k1, mSy_fr hs1 (fun q i a => aup_of (by omega)) (fun q i a => aup_of (by omega))⟩, ?_, ?_⟩⟩
    · rw [if_pos b17, st1e]
    · rw [if_pos m111, st1e]
      rfl
    · intro q i a d; rw [aup_of (by omega)]; exact fb1 q i a
    · intro q i a d; rw [aup_of (by omega)]; exact fr1 q i a
    · have tg2 : mTg (m1 180) b1 := by rw [r180 fr1]; exact mTg_fb tg (fun q i a d => fb1 q i (by omega))
      exact mTg_last (y := v) tg2 v0 v3 (aup_self _ _ _ _) (fun i a => aup_of (by omega)) (aup_self _ _ _ _) (fun q i a d g => aup_of (by omega))
    · rw [aup_of (by omega)]; omega
  · have ne := mFl_ne fl
    exact ⟨b1, m1, by rw [if_neg ne.1], by rw [if_neg ne.2]; rfl, mFb1.of fb1, mFr1.of fr1, Or.inr fl⟩
