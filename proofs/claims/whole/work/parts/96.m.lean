/-! THE REFERENCE'S SEARCH: the queue -/
def mMk (m : aM) (s : Int) : Prop := m 193 s.toNat = m 176 30
def mQu (m : aM) : Prop := (0 ≤ m 176 29 ∧ m 176 29 ≤ 54834) ∧ (∀ i : Int, 0 ≤ i → i < m 176 29 → (0 ≤ m 190 i.toNat ∧ m 190 i.toNat < 54834) ∧ mMk m (m 190 i.toNat)) ∧ (∀ s : Int, 0 ≤ s → s < 54834 → mMk m s → ∃ i : Int, 0 ≤ i ∧ i < m 176 29 ∧ m 190 i.toNat = s) ∧ (∀ i j : Int, 0 ≤ i → i < j → j < m 176 29 → m 190 i.toNat ≠ m 190 j.toNat)
/-- states of S have come into the queue, at the level its; nothing else has changed -/
def mAdd (its : Int) (S : Int → Prop) (m m' : aM) : Prop := mQu m' ∧ m 176 29 ≤ m' 176 29 ∧ (∀ i : Int, 0 ≤ i → i < m 176 29 → m' 190 i.toNat = m 190 i.toNat) ∧ (∀ s : Int, 0 ≤ s → s < 54834 → mMk m s → mMk m' s ∧ m' 189 s.toNat = m 189 s.toNat) ∧ (∀ i : Int, 0 ≤ i → m 176 29 ≤ i → i < m' 176 29 → S (m' 190 i.toNat) ∧ m' 189 (m' 190 i.toNat).toNat = its) ∧ (∀ s : Nat, m' 193 s = m 193 s ∨ m' 193 s = m 176 30) ∧ ∀ q i, q ≠ 189 → q ≠ 190 → q ≠ 193 → ¬(q = 176 ∧ i = 29) → m' q i = m q i
theorem mAdd.refl {its : Int} {S : Int → Prop} {m : aM} (h : mQu m) : mAdd its S m m := ⟨h, Int.le_refl _, fun _ _ _ => rfl, fun _ _ _ k => ⟨k, rfl⟩, fun i _ a b => by omega, fun _ => Or.inl rfl, fun _ _ _ _ _ _ => rfl⟩
theorem mAdd.mark {its : Int} {S : Int → Prop} {m m' : aM} (h : mAdd its S m m') : m' 176 30 = m 176 30 := h.2.2.2.2.2.2 _ _ (by omega) (by omega) (by omega) (by omega)
theorem mAdd.trans {its : Int} {S : Int → Prop} {m m' m'' : aM} (h : mAdd its S m m') (g : mAdd its S m' m'') : mAdd its S m m'' := by
  have em := h.mark
  obtain ⟨h1, h2, h3, h4, h5, h6, h7⟩ := h
  obtain ⟨g1, g2, g3, g4, g5, g6, g7⟩ := g
  have n0 := h1.1
  refine ⟨g1, by omega, fun i a b => ?_, fun s a b k => ?_, fun i i0 a b => ?_, fun s => ?_, fun q i a b c d => (g7 q i a b c d).trans (h7 q i a b c d)⟩
  · rw [g3 i a (by omega)]; exact h3 i a b
  · have k1 := h4 s a b k
    have k2 := g4 s a b k1.1
    exact ⟨k2.1, k2.2.trans k1.2⟩
  · by_cases c : i < m' 176 29
    · have k := h5 i i0 a c
      have e := g3 i i0 c
      have q := h1.2.1 i i0 c
      rw [e]
      exact ⟨k.1, by rw [(g4 _ q.1.1 q.1.2 q.2).2]; exact k.2⟩
    · exact g5 i i0 (by omega) b
  · rcases g6 s with k | k
    · rcases h6 s with l | l
      · exact Or.inl (k.trans l)
      · exact Or.inr (k.trans l)
    · exact Or.inr (by rw [k, em])
theorem mAdd.mono {its : Int} {S S' : Int → Prop} {m m' : aM} (h : mAdd its S m m') (k : ∀ s, S s → S' s) : mAdd its S' m m' := by
  obtain ⟨h1, h2, h3, h4, h5, h6, h7⟩ := h
  exact ⟨h1, h2, h3, h4, fun i z a b => ⟨k _ (h5 i z a b).1, (h5 i z a b).2⟩, h6, h7⟩
theorem mAdd.mk {its : Int} {S : Int → Prop} {m m' : aM} (h : mAdd its S m m') {s : Int} (s0 : 0 ≤ s) (s1 : s < 54834) (k : mMk m s) : mMk m' s := (h.2.2.2.1 s s0 s1 k).1
theorem mAdd.fr {its : Int} {S : Int → Prop} {m m' : aM} (h : mAdd its S m m') (q i : Nat) (a : q ≠ 189) (b : q ≠ 190) (c : q ≠ 193) (d : ¬(q = 176 ∧ i = 29)) : m' q i = m q i := h.2.2.2.2.2.2 q i a b c d
theorem mAdd.row {its : Int} {S : Int → Prop} {m m' : aM} (h : mAdd its S m m') {q : Nat} (a : q ≠ 189) (b : q ≠ 190) (c : q ≠ 193) (d : q ≠ 176) : m' q = m q := funext fun i => h.fr q i a b c (by omega)
/-- there is room for one that is not in the queue -/
theorem room {m : aM} (h : mQu m) {s : Int} (s0 : 0 ≤ s) (s1 : s < 54834) (n : ¬ mMk m s) : m 176 29 < 54834 := by
  refine Classical.byContradiction (fun hc => ?_)
  have b := h.1
  have e : m 176 29 = 54834 := by omega
  obtain ⟨i, j, h1, h2, h3⟩ := pigeon 54834 (fun i => if i = 54834 then s else m 190 i) (fun i hi => by
    by_cases c : i = 54834
    · simp only [c, if_true]; omega
    · rw [if_neg c]
      have := (h.2.1 i (by omega) (by omega)).1
      rw [Int.toNat_natCast] at this
      omega)
  have ni : ¬ i = 54834 := by omega
  rw [if_neg ni] at h3
  by_cases c : j = 54834
  · rw [if_pos c] at h3
    have := (h.2.1 i (by omega) (by omega)).2
    rw [Int.toNat_natCast, h3] at this
    exact n this
  · rw [if_neg c] at h3
    have := h.2.2.2 i j (by omega) (by omega) (by omega)
    rw [Int.toNat_natCast, Int.toNat_natCast] at this
    exact this h3
theorem adds1_ok {its s : Int} {S : Int → Prop} {m : aM} (h : mQu m) (s0 : 0 ≤ s) (s1 : s < 54834) (hs : S s) : mOk (R_adds1 s its m) (fun m' => mAdd its S m m' ∧ mMk m' s) := by
  unfold R_adds1
  rw [if_pos ⟨s0, s1⟩]
  by_cases c : m 193 s.toNat = m 176 30
  · rw [if_pos c]
    exact mOk_some ⟨mAdd.refl h, c⟩
  rw [if_neg c]
  have r := room h s0 s1 c
  obtain ⟨q1, q2, q3, q4⟩ := h
  simp only [st1e]
  have e29 : aup (aup m 193 s.toNat (m 176 30)) 189 s.toNat its 176 29 = m 176 29 := by rw [aup_of (by omega), aup_of (by omega)]
  rw [e29, if_pos (by omega), aup_of (q' := 176) (by omega), e29, w32e (by omega) (by omega)]
  generalize hm : aup (aup (aup (aup m 193 s.toNat (m 176 30)) 189 s.toNat its) 190 (m 176 29).toNat s) 176 29 (m 176 29 + 1) = m'
  have f29 : m' 176 29 = m 176 29 + 1 := by rw [← hm, aup_self]
  have f30 : m' 176 30 = m 176 30 := by rw [← hm, aup_of (by omega), aup_of (by omega), aup_of (by omega), aup_of (by omega)]
  have f190 : ∀ i : Int, 0 ≤ i → i < m 176 29 → m' 190 i.toNat = m 190 i.toNat := fun i a b => by rw [← hm, aup_of (by omega), aup_of (by omega), aup_of (by omega), aup_of (by omega)]
  have f190n : m' 190 (m 176 29).toNat = s := by rw [← hm, aup_of (by omega), aup_self]
  have f193 : ∀ i : Nat, i ≠ s.toNat → m' 193 i = m 193 i := fun i a => by rw [← hm, aup_of (by omega), aup_of (by omega), aup_of (by omega), aup_of (by omega)]
  have f193s : m' 193 s.toNat = m 176 30 := by rw [← hm, aup_of (by omega), aup_of (by omega), aup_of (by omega), aup_self]
  have f189 : ∀ i : Nat, i ≠ s.toNat → m' 189 i = m 189 i := fun i a => by rw [← hm, aup_of (by omega), aup_of (by omega), aup_of (by omega), aup_of (by omega)]
  have f189s : m' 189 s.toNat = its := by rw [← hm, aup_of (by omega), aup_of (by omega), aup_self]
  have fr : ∀ q i, q ≠ 189 → q ≠ 190 → q ≠ 193 → ¬(q = 176 ∧ i = 29) → m' q i = m q i := fun q i a b d e => by rw [← hm, aup_of (by omega), aup_of (by omega), aup_of (by omega), aup_of (by omega)]
  clear hm
  have mks : mMk m' s := by unfold mMk; rw [f193s, f30]
  have mko : ∀ t : Int, 0 ≤ t → mMk m t → mMk m' t := by
    intro t t0 k
    unfold mMk at *
    by_cases e : t.toNat = s.toNat
    · rw [e, f193s, f30]
    · rw [f193 _ e, f30]; exact k
  refine mOk_some ⟨⟨⟨by omega, fun i a b => ?_, fun t a b k => ?_, fun i j a b d => ?_⟩, by omega, f190, fun t a b k => ⟨mko t a k, ?_⟩, fun i _ a b => ?_, fun t => ?_, fr⟩, mks⟩
  · by_cases e : i = m 176 29
    · rw [e, f190n]; exact ⟨⟨s0, s1⟩, mks⟩
    · rw [f190 i a (by omega)]
      have := q2 i a (by omega)
      exact ⟨this.1, mko _ this.1.1 this.2⟩
  · by_cases e : t = s
    · exact ⟨m 176 29, by omega, by omega, by rw [f190n, e]⟩
    · unfold mMk at k
      rw [f193 _ (by omega), f30] at k
      obtain ⟨i, i0, i1, i2⟩ := q3 t a b k
      exact ⟨i, i0, by omega, by rw [f190 i i0 i1]; exact i2⟩
  · by_cases e : j = m 176 29
    · rw [e, f190n, f190 i a (by omega)]
      intro h
      have := (q2 i a (by omega)).2
      rw [h] at this
      exact c this
    · rw [f190 i a (by omega), f190 j (by omega) (by omega)]
      exact q4 i j a b (by omega)
  · by_cases e : t.toNat = s.toNat
    · exact absurd (by unfold mMk at k; rw [e] at k; exact k) c
    · exact f189 _ e
  · have e : i = m 176 29 := by omega
    rw [e, f190n, f189s]; exact ⟨hs, rfl⟩
  · by_cases e : t = s.toNat
    · rw [e, f193s]; exact Or.inr rfl
    · rw [f193 _ e]; exact Or.inl rfl
/-- both are heard so: x and y the sounds, the mistakes ahead and behind -/
def mSp3 (A : Nat → Int) (Z p : Int) : Prop := mEn A p ∧ iand (ishr Z (A (45 + p / 6).toNat)) 1 = 1
def mHr (A : Nat → Int) (M Z a b e f e' f' : Int) : Prop := (mSp3 A Z a ↔ mSp3 A Z b) ∧
  ((A (58 + a).toNat = A (58 + b).toNat ∧ e' = e ∧ f' = f) ∨
   (A (58 + a).toNat ≠ A (58 + b).toNat ∧ iand (ishr (A (10 + A (58 + a).toNat).toNat) (A (58 + b).toNat)) 1 = 1 ∧ ((e' = e ∧ f' = f + 1 ∧ f < M) ∨ (e' = e + 1 ∧ f' = f ∧ e < M))) ∨
   (A (58 + a).toNat ≠ A (58 + b).toNat ∧ iand (ishr (A (10 + A (58 + a).toNat).toNat) (A (58 + b).toNat)) 1 ≠ 1 ∧ iand (A (10 + A (58 + a).toNat).toNat) (A (10 + A (58 + b).toNat).toNat) ≠ 0 ∧ e < M ∧ f < M ∧ e' = e + 1 ∧ f' = f + 1))
def mPr (a b e f : Int) : Int := 78 + (a * 78 + b) * 9 + 3 * e + f
theorem mPr_bd {a b e f : Int} (a0 : 0 ≤ a ∧ a < 78) (b0 : 0 ≤ b ∧ b < 78) (e0 : 0 ≤ e ∧ e ≤ 2) (f0 : 0 ≤ f ∧ f ≤ 2) : 78 ≤ mPr a b e f ∧ mPr a b e f < 54834 := by
  unfold mPr
  omega
theorem pairOf_eq {a b e f : Int} {m : aM} (a0 : 0 ≤ a ∧ a < 78) (b0 : 0 ≤ b ∧ b < 78) (e0 : 0 ≤ e ∧ e ≤ 2) (f0 : 0 ≤ f ∧ f ≤ 2) : R_pairOf a b e f m = some (mPr a b e f) := by
  unfold R_pairOf mPr
  rw [w32e (x := a * 78) (by omega) (by omega), w32e (x := a * 78 + b) (by omega) (by omega), w32e (x := (a * 78 + b) * 9) (by omega) (by omega), w32e (x := 78 + (a * 78 + b) * 9) (by omega) (by omega), w32e (x := 3 * e) (by omega) (by omega), w32e (x := 78 + (a * 78 + b) * 9 + 3 * e) (by omega) (by omega), w32e (by omega) (by omega)]
theorem pl_sound {A : Nat → Int} (h : mVx A) {p : Int} (hp : mPv3 A p) : 0 ≤ A (58 + p).toNat ∧ A (58 + p).toNat < 8 := by
  have := (h.2.1 (p / 6) (by have := hp.1; omega) hp.2.1).2.2 (p % 6) (by omega) hp.2.2
  rw [show (58 + 6 * (p / 6) + p % 6).toNat = (58 + p).toNat by congr 1; omega] at this
  exact this
theorem soundAt_eq {p : Int} {m : aM} (h : mVx (m 177)) (hp : mPv3 (m 177) p) : R_soundAt p m = some (m 177 (58 + p).toNat) := by
  have bd := mPv3_bd h hp
  unfold R_soundAt
  rw [w32e (by omega) (by omega), if_pos (by omega)]
theorem hasStop_ok {p : Int} {m : aM} (h : mVx (m 177)) (hp : mPv3 (m 177) p) : mOk (R_hasStop p m) (fun r => (r = 0 ∨ r = 1) ∧ (r ≠ 0 ↔ mSp3 (m 177) (m 176 33) p)) := by
  have bd := mPv3_bd h hp
  unfold R_hasStop mSp3
  refine mOk_bind (isEnd_eq h hp) (fun r kr => ?_)
  by_cases c : r = 0
  · rw [if_pos c]
    exact mOk_some ⟨Or.inl rfl, ⟨fun g => absurd rfl g, fun g => absurd c (kr.2.mpr g.1)⟩⟩
  · rw [if_neg c, tdiv_nn bd.1, w32e (x := p / 6) (by omega) (by omega), w32e (x := 45 + p / 6) (by omega) (by omega), if_pos (by omega)]
    by_cases d : iand (ishr (m 176 33) (m 177 (45 + p / 6).toNat)) 1 = 1
    · rw [if_pos d]; exact mOk_some ⟨Or.inr rfl, ⟨fun _ => ⟨kr.2.mp c, d⟩, fun _ => by decide⟩⟩
    · rw [if_neg d]; exact mOk_some ⟨Or.inl rfl, ⟨fun g => absurd rfl g, fun g => absurd g.2 d⟩⟩
theorem goesTo_ok {a b e f M its : Int} {m : aM} (h : mVx (m 177)) (hq : mQu m) (ha : mPv3 (m 177) a) (hb : mPv3 (m 177) b) (M2 : M ≤ 2) (e0 : 0 ≤ e ∧ e ≤ M) (f0 : 0 ≤ f ∧ f ≤ M) : mOk (R_goesTo a b e f M its m) (fun m' => mAdd its (fun s => ∃ e' f', mHr (m 177) M (m 176 33) a b e f e' f' ∧ s = mPr a b e' f') m m' ∧ ∀ e' f', mHr (m 177) M (m 176 33) a b e f e' f' → mMk m' (mPr a b e' f')) := by
  have ba := mPv3_bd h ha
  have bb := mPv3_bd h hb
  have sa := pl_sound h ha
  have sb := pl_sound h hb
  unfold R_goesTo
  rw [soundAt_eq h ha, Option.bind_some, soundAt_eq h hb, Option.bind_some]
  refine mOk_bind (hasStop_ok h ha) (fun r3 k3 => ?_)
  refine mOk_bind (hasStop_ok h hb) (fun r4 k4 => ?_)
  have st : r3 = r4 ↔ (mSp3 (m 177) (m 176 33) a ↔ mSp3 (m 177) (m 176 33) b) := by
    rw [← k3.2, ← k4.2]
    have := k3.1
    have := k4.1
    omega
  by_cases c : r3 = r4
  rotate_left
  · rw [if_neg c]
    exact mOk_some ⟨mAdd.refl hq, fun e' f' g => absurd (st.mpr g.1) c⟩
  rw [if_pos c]
  have st' := st.mp c
  by_cases x : m 177 (58 + a).toNat = m 177 (58 + b).toNat
  · rw [if_pos x, pairOf_eq ba bb (by omega) (by omega), Option.bind_some]
    have bd := mPr_bd ba bb (e := e) (f := f) (by omega) (by omega)
    have hr : mHr (m 177) M (m 176 33) a b e f e f := ⟨st', Or.inl ⟨x, rfl, rfl⟩⟩
    refine mOk_bind (adds1_ok (S := fun s => ∃ e' f', mHr (m 177) M (m 176 33) a b e f e' f' ∧ s = mPr a b e' f') hq (by omega) bd.2 ⟨e, f, hr, rfl⟩) (fun m1 k1 => ?_)
    refine mOk_some ⟨k1.1, fun e' f' g => ?_⟩
    rcases g.2 with ⟨-, g1, g2⟩ | ⟨g, -⟩ | ⟨g, -⟩
    · rw [g1, g2]; exact k1.2
    · exact absurd x g
    · exact absurd x g
  rw [if_neg x, isLike_eq sa.1 sa.2, Option.bind_some]
  by_cases y : iand (ishr (m 177 (10 + m 177 (58 + a).toNat).toNat) (m 177 (58 + b).toNat)) 1 = 1
  · rw [if_pos y, if_neg (by decide)]
    -- the second's mistake, then the first's
    have h46 : ∀ m1 : aM, mAdd its (fun s => ∃ e' f', mHr (m 177) M (m 176 33) a b e f e' f' ∧ s = mPr a b e' f') m m1 → (f < M → mMk m1 (mPr a b e (f + 1))) → mOk (R_goesTo_46 a b e f M its m1) (fun m' => mAdd its (fun s => ∃ e' f', mHr (m 177) M (m 176 33) a b e f e' f' ∧ s = mPr a b e' f') m m' ∧ ∀ e' f', mHr (m 177) M (m 176 33) a b e f e' f' → mMk m' (mPr a b e' f')) := by
      intro m1 a1 k1
      unfold R_goesTo_46
      by_cases z : e < M
      · rw [if_pos z, w32e (by omega) (by omega), pairOf_eq ba bb (by omega) (by omega), Option.bind_some]
        have bd := mPr_bd ba bb (e := e + 1) (f := f) (by omega) (by omega)
        refine mOk_bind (adds1_ok (S := fun s => ∃ e' f', mHr (m 177) M (m 176 33) a b e f e' f' ∧ s = mPr a b e' f') a1.1 (by omega) bd.2 ⟨e + 1, f, ⟨st', Or.inr (Or.inl ⟨x, y, Or.inr ⟨rfl, rfl, z⟩⟩)⟩, rfl⟩) (fun m2 k2 => ?_)
        refine mOk_some ⟨a1.trans k2.1, fun e' f' g => ?_⟩
        rcases g.2 with ⟨g1, -⟩ | ⟨-, -, ⟨g1, g2, g3⟩ | ⟨g1, g2, -⟩⟩ | ⟨-, g1, -⟩
        · exact absurd g1 x
        · rw [g1, g2]
          have bd2 := mPr_bd ba bb (e := e) (f := f + 1) (by omega) (by omega)
          exact k2.1.mk (by omega) bd2.2 (k1 g3)
        · rw [g1, g2]; exact k2.2
        · exact absurd y g1
      · rw [if_neg z]
        refine mOk_some ⟨a1, fun e' f' g => ?_⟩
        rcases g.2 with ⟨g1, -⟩ | ⟨-, -, ⟨g1, g2, g3⟩ | ⟨g1, g2, g3⟩⟩ | ⟨-, g1, -⟩
        · exact absurd g1 x
        · rw [g1, g2]; exact k1 g3
        · exact absurd g3 z
        · exact absurd y g1
    by_cases z : f < M
    · rw [if_pos z, w32e (by omega) (by omega), pairOf_eq ba bb (by omega) (by omega), Option.bind_some]
      have bd := mPr_bd ba bb (e := e) (f := f + 1) (by omega) (by omega)
      refine mOk_bind (adds1_ok (S := fun s => ∃ e' f', mHr (m 177) M (m 176 33) a b e f e' f' ∧ s = mPr a b e' f') hq (by omega) bd.2 ⟨e, f + 1, ⟨st', Or.inr (Or.inl ⟨x, y, Or.inl ⟨rfl, rfl, z⟩⟩)⟩, rfl⟩) (fun m1 k1 => ?_)
      exact h46 m1 k1.1 (fun _ => k1.2)
    · rw [if_neg z]
      exact h46 m (mAdd.refl hq) (fun g => absurd g z)
  · rw [if_neg y, if_pos rfl, w32e (x := 10 + m 177 (58 + a).toNat) (by omega) (by omega), w32e (x := 10 + m 177 (58 + b).toNat) (by omega) (by omega), if_pos (by omega), if_pos (by omega)]
    by_cases z : iand (m 177 (10 + m 177 (58 + a).toNat).toNat) (m 177 (10 + m 177 (58 + b).toNat).toNat) = 0
    · rw [if_pos z]
      refine mOk_some ⟨mAdd.refl hq, fun e' f' g => ?_⟩
      rcases g.2 with ⟨g1, -⟩ | ⟨-, g1, -⟩ | ⟨-, -, g1, -⟩
      · exact absurd g1 x
      · exact absurd g1 y
      · exact absurd z g1
    · rw [if_neg z]
      by_cases u : e < M
      · rw [if_pos u]
        by_cases v : f < M
        · rw [if_pos v, w32e (by omega) (by omega), w32e (by omega) (by omega), pairOf_eq ba bb (by omega) (by omega), Option.bind_some]
          have bd := mPr_bd ba bb (e := e + 1) (f := f + 1) (by omega) (by omega)
          refine mOk_bind (adds1_ok (S := fun s => ∃ e' f', mHr (m 177) M (m 176 33) a b e f e' f' ∧ s = mPr a b e' f') hq (by omega) bd.2 ⟨e + 1, f + 1, ⟨st', Or.inr (Or.inr ⟨x, y, z, u, v, rfl, rfl⟩)⟩, rfl⟩) (fun m1 k1 => ?_)
          refine mOk_some ⟨k1.1, fun e' f' g => ?_⟩
          rcases g.2 with ⟨g1, -⟩ | ⟨-, g1, -⟩ | ⟨-, -, -, -, -, g1, g2⟩
          · exact absurd g1 x
          · exact absurd g1 y
          · rw [g1, g2]; exact k1.2
        · rw [if_neg v]
          refine mOk_some ⟨mAdd.refl hq, fun e' f' g => ?_⟩
          rcases g.2 with ⟨g1, -⟩ | ⟨-, g1, -⟩ | ⟨-, -, -, -, g1, -⟩
          · exact absurd g1 x
          · exact absurd g1 y
          · exact absurd g1 v
      · rw [if_neg u]
        refine mOk_some ⟨mAdd.refl hq, fun e' f' g => ?_⟩
        rcases g.2 with ⟨g1, -⟩ | ⟨-, g1, -⟩ | ⟨-, -, -, g1, -⟩
        · exact absurd g1 x
        · exact absurd g1 y
        · exact absurd g1 u
