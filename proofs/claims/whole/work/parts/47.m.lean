/-! WORDS AND SOUNDS: find, begin -/
theorem findSound_ok {t : Nat} {x : Int} {m : aM} (h0 : 0 ≤ m t 1) (h1 : m t 1 ≤ 8) : mOk (Tongue_findSound t x m) (mFst (fun i => m (t + 1) i.toNat = x) (m t 1)) := by
  unfold Tongue_findSound
  refine mL1 (Tongue_findSound_2 m t x) (fun a => 0 ≤ a ∧ a ≤ m t 1 ∧ ∀ i : Int, 0 ≤ i → i < a → ¬ m (t + 1) i.toNat = x) (fun a => (8 - a).toNat) ?_ 0 ⟨by omega, by omega, fun i a b => by omega⟩ (by omega)
  rintro n a ⟨a0, a1, a2⟩ ih
  rw [Tongue_findSound_2]
  by_cases c : a < m t 1
  · rw [if_pos c, if_pos (by omega)]
    by_cases d : m (t + 1) a.toNat = x
    · rw [if_pos d]
      exact mOk_some (Or.inr ⟨a0, c, d, a2⟩)
    · rw [if_neg d, w32e (by omega) (by omega)]
      refine ih _ ⟨by omega, by omega, ?_⟩ (by omega)
      intro i i0 i1
      by_cases e : i = a
      · rw [e]; exact d
      · exact a2 i i0 (by omega)
  · rw [if_neg c]
    exact mOk_some (Or.inl ⟨rfl, fun i i0 i1 => a2 i i0 (by omega)⟩)
theorem soundOf_ok {t : Nat} {x : Int} {m : aM} (hl : 155 ≤ aln t) (h0 : 0 ≤ m t 0) (h1 : m t 0 ≤ 8) : mOk (R_soundOf t x m) (mFst (fun i => m t (1 + i).toNat = x) (m t 0)) := by
  unfold R_soundOf
  refine mL1 (R_soundOf_2 m t x) (fun a => 0 ≤ a ∧ a ≤ m t 0 ∧ ∀ i : Int, 0 ≤ i → i < a → ¬ m t (1 + i).toNat = x) (fun a => (8 - a).toNat) ?_ 0 ⟨by omega, by omega, fun i a b => by omega⟩ (by omega)
  rintro n a ⟨a0, a1, a2⟩ ih
  rw [R_soundOf_2, if_pos (by omega)]
  by_cases c : a < m t 0
  · rw [if_pos c, w32e (by omega) (by omega), if_pos (by omega)]
    by_cases d : m t (1 + a).toNat = x
    · rw [if_pos d]
      exact mOk_some (Or.inr ⟨a0, c, d, a2⟩)
    · rw [if_neg d, w32e (by omega) (by omega)]
      refine ih _ ⟨by omega, by omega, ?_⟩ (by omega)
      intro i i0 i1
      by_cases e : i = a
      · rw [e]; exact d
      · exact a2 i i0 (by omega)
  · rw [if_neg c]
    exact mOk_some (Or.inl ⟨rfl, fun i i0 i1 => a2 i i0 (by omega)⟩)
theorem begins_ok {t x1 : Nat} {n w : Int} {m : aM} (hl : 6 ≤ aln x1) (w0 : 0 ≤ w) (w1 : w < 12) (hw : m (t + 16) w.toNat ≤ 6) : mOk (Tongue_begins t x1 n w m) (fun r => (r = 0 ∨ r = 1) ∧ (r ≠ 0 ↔ n ≤ m (t + 16) w.toNat ∧ ∀ k : Int, 0 ≤ k → k < n → m x1 k.toNat = m (t + 4 + w.toNat) k.toNat)) := by
  unfold Tongue_begins
  rw [if_pos ⟨w0, w1⟩]
  by_cases c : m (t + 16) w.toNat < n
  · rw [if_pos c]
    exact mOk_some ⟨Or.inl rfl, by simp; intro h; omega⟩
  rw [if_neg c]
  refine mL1 (Tongue_begins_10 m t x1 n w) (fun a => 0 ≤ a ∧ ∀ k : Int, 0 ≤ k → k < a → k < n → m x1 k.toNat = m (t + 4 + w.toNat) k.toNat) (fun a => (7 - a).toNat) ?_ 0 ⟨by omega, fun i a b => by omega⟩ (by omega)
  rintro f a ⟨a0, a2⟩ ih
  rw [Tongue_begins_10]
  by_cases d : a < n
  · rw [if_pos d, if_pos (by omega), if_pos ⟨w0, w1⟩, if_pos (by omega)]
    by_cases e : m x1 a.toNat = m (t + 4 + w.toNat) a.toNat
    · rw [if_pos e, w32e (by omega) (by omega)]
      refine ih _ ⟨by omega, ?_⟩ (by omega)
      intro k k0 k1 k2
      by_cases e2 : k = a
      · rw [e2]; exact e
      · exact a2 k k0 (by omega) k2
    · rw [if_neg e]
      exact mOk_some ⟨Or.inl rfl, by simp; intro h1; exact ⟨a, a0, d, e⟩⟩
  · rw [if_neg d]
    exact mOk_some ⟨Or.inr rfl, by simp; exact ⟨by omega, fun k k0 k1 => a2 k k0 (by omega) k1⟩⟩
/-- the words w and v begin alike, n sounds long -/
def mAl (A : Nat → Int) (w v n : Int) : Prop := n ≤ A (19 + w).toNat ∧ n ≤ A (19 + v).toNat ∧ ∀ k : Int, 0 ≤ k → k < n → A (58 + 6 * w + k).toNat = A (58 + 6 * v + k).toNat
theorem beginAlike_ok {w v n : Int} {m : aM} (w0 : 0 ≤ w) (w1 : w < 13) (v0 : 0 ≤ v) (v1 : v < 13) (hw : m 177 (19 + w).toNat ≤ 6) : mOk (R_beginAlike w v n m) (fun r => (r = 0 ∨ r = 1) ∧ (r ≠ 0 ↔ mAl (m 177) w v n)) := by
  unfold R_beginAlike mAl
  rw [w32e (by omega) (by omega), w32e (by omega) (by omega), if_pos (by omega)]
  by_cases c : m 177 (19 + w).toNat < n
  · rw [if_pos c]
    exact mOk_some ⟨Or.inl rfl, by simp; intro h; omega⟩
  rw [if_neg c, if_pos (by omega)]
  by_cases c2 : m 177 (19 + v).toNat < n
  · rw [if_pos c2]
    exact mOk_some ⟨Or.inl rfl, by simp; intro h1 h2; omega⟩
  rw [if_neg c2]
  refine mL1 (R_beginAlike_20 m w v n) (fun a => 0 ≤ a ∧ ∀ k : Int, 0 ≤ k → k < a → k < n → m 177 (58 + 6 * w + k).toNat = m 177 (58 + 6 * v + k).toNat) (fun a => (7 - a).toNat) ?_ 0 ⟨by omega, fun i a b => by omega⟩ (by omega)
  rintro f a ⟨a0, a2⟩ ih
  rw [R_beginAlike_20]
  by_cases d : a < n
  · simp (disch := omega) only [if_pos, w32e]
    by_cases e : m 177 (58 + 6 * w + a).toNat = m 177 (58 + 6 * v + a).toNat
    · rw [if_pos e]
      refine ih _ ⟨by omega, ?_⟩ (by omega)
      intro k k0 k1 k2
      by_cases e2 : k = a
      · rw [e2]; exact e
      · exact a2 k k0 (by omega) k2
    · rw [if_neg e]
      exact mOk_some ⟨Or.inl rfl, by simp; intro h1 h2; exact ⟨a, a0, d, e⟩⟩
  · rw [if_neg d]
    exact mOk_some ⟨Or.inr rfl, by simp; exact ⟨by omega, by omega, fun k k0 k1 => a2 k k0 (by omega) k1⟩⟩
theorem aln_sp {w : Int} (h0 : 0 ≤ w) (h1 : w < 12) : aln (25 + 4 + w.toNat) = 6 := by
  have aux : ∀ r : Fin 12, aln (25 + 4 + r.val) = 6 := by decide
  exact aux ⟨w.toNat, by omega⟩
/-- begins of the class, over the main tongue, for two words -/
theorem begins_al {n w v : Int} {m : aM} (ht : mTok (m 177)) (hr : mTR 25 47 (m 177) m) (w0 : 0 ≤ w) (w1 : w < m 177 18) (v0 : 0 ≤ v) (v1 : v < m 177 18) (hn : n ≤ m 177 (19 + w).toNat) : mOk (Tongue_begins 25 (25 + 4 + w.toNat) n v m) (fun r => (r = 0 ∨ r = 1) ∧ (r ≠ 0 ↔ mAl (m 177) w v n)) := by
  obtain ⟨-, -, -, -, c4, c5, -⟩ := ht
  obtain ⟨-, -, -, b3, -⟩ := hr
  obtain ⟨d1, -, -, d4⟩ := b3 w w0 w1
  obtain ⟨e1, -, -, e4⟩ := b3 v v0 v1
  have f := (c5 w w0 w1).1
  have g := (c5 v v0 v1).1
  refine mOk_mono (begins_ok (by rw [aln_sp w0 (by omega)]; omega) v0 (by omega) (by rw [e1]; omega)) (fun r h => ⟨h.1, h.2.trans ?_⟩)
  unfold mAl
  rw [e1]
  constructor
  · rintro ⟨h1, h2⟩
    refine ⟨hn, h1, fun k k0 k1 => ?_⟩
    have := h2 k k0 k1
    rw [d4 k k0 (by omega), e4 k k0 (by omega)] at this
    exact this
  · rintro ⟨-, h1, h2⟩
    refine ⟨h1, fun k k0 k1 => ?_⟩
    rw [d4 k k0 (by omega), e4 k k0 (by omega)]
    exact h2 k k0 k1
/-! begun -/
def mBg (A : Nat → Int) (w v : Int) : Prop := v ≠ w ∧ mAl A w v (A (19 + w).toNat)
def mBegun (A : Nat → Int) (a r : Int) : Prop := (r = -1 ∧ ∀ w, 0 ≤ w → w < A 18 → ∀ v, 0 ≤ v → v < A 18 → ¬ mBg A w v) ∨ ∃ w v, 0 ≤ w ∧ w < A 18 ∧ (∀ w', 0 ≤ w' → w' < w → ∀ v, 0 ≤ v → v < A 18 → ¬ mBg A w' v) ∧ 0 ≤ v ∧ v < A 18 ∧ mBg A w v ∧ (∀ v', 0 ≤ v' → v' < v → ¬ mBg A w v') ∧ r = if a = 0 then w else v
theorem mBegun_uni {A : Nat → Int} {a r r' : Int} (h : mBegun A a r) (h' : mBegun A a r') : r = r' := by
  rcases h with ⟨h1, h2⟩ | ⟨w, v, w0, w1, w2, v0, v1, v2, v3, e⟩ <;> rcases h' with ⟨h1', h2'⟩ | ⟨w', v', w0', w1', w2', v0', v1', v2', v3', e'⟩
  · rw [h1, h1']
  · exact absurd v2' (h2 w' w0' w1' v' v0' v1')
  · exact absurd v2 (h2' w w0 w1 v v0 v1)
  · have hw : w = w' := by
      rcases Int.lt_trichotomy w w' with h | h | h
      · exact absurd v2 (w2' w w0 h v v0 v1)
      · exact h
      · exact absurd v2' (w2 w' w0' h v' v0' v1')
    subst hw
    have hv : v = v' := by
      rcases Int.lt_trichotomy v v' with h | h | h
      · exact absurd v2 (v3' v v0 h)
      · exact h
      · exact absurd v2' (v3 v' v0' h)
    rw [e, e', hv]
theorem firstBegunBy_ok {w : Int} {m : aM} (ht : mTok (m 177)) (hr : mTR 25 47 (m 177) m) (w0 : 0 ≤ w) (w1 : w < m 177 18) : mOk (Census_firstBegunBy w m) (mFst (mBg (m 177) w) (m 177 18)) := by
  have c4 := ht.2.2.2.2.1
  have e1 := (hr.2.2.2.1 w w0 w1).1
  unfold Census_firstBegunBy
  refine mL1 (Census_firstBegunBy_2 m w) (fun a => 0 ≤ a ∧ a ≤ m 177 18 ∧ ∀ i : Int, 0 ≤ i → i < a → ¬ mBg (m 177) w i) (fun a => (12 - a).toNat) ?_ 0 ⟨by omega, by omega, fun i a b => by omega⟩ (by omega)
  rintro n a ⟨a0, a1, a2⟩ ih
  have nx : a < m 177 18 → ¬ mBg (m 177) w a → mOk (Census_firstBegunBy_27 m (Census_firstBegunBy_2 m w n) w a) (mFst (mBg (m 177) w) (m 177 18)) := by
    intro c d
    unfold Census_firstBegunBy_27
    rw [w32e (by omega) (by omega)]
    refine ih _ ⟨by omega, by omega, ?_⟩ (by omega)
    intro i i0 i1
    by_cases e : i = a
    · rw [e]; exact d
    · exact a2 i i0 (by omega)
  rw [Census_firstBegunBy_2, hr.1.2.2.1]
  by_cases c : a < m 177 18
  · rw [if_pos c]
    by_cases d : a = w
    · rw [if_pos d]
      exact nx c (fun h => h.1 d)
    · rw [if_neg d, if_pos (by omega), show m 41 w.toNat = _ from e1]
      refine mOk_bind (begins_al ht hr w0 w1 a0 c (Int.le_refl _)) (fun r k => ?_)
      by_cases z : r = 0
      · rw [if_pos z]
        exact nx c (fun h => (k.2.mpr h.2) z)
      · rw [if_neg z]
        exact mOk_some (Or.inr ⟨a0, c, ⟨d, k.2.mp z⟩, a2⟩)
  · rw [if_neg c]
    exact mOk_some (Or.inl ⟨rfl, fun i i0 i1 => a2 i i0 (by omega)⟩)
theorem B_begun_ok {x : Int} {m : aM} (ht : mTok (m 177)) (hr : mTR 25 47 (m 177) m) : mOk (B_begun_7 m x) (mBegun (m 177) x) := by
  have c4 := ht.2.2.2.2.1
  unfold B_begun_7
  refine mL1 (B_begun_9 m x) (fun a => 0 ≤ a ∧ a ≤ m 177 18 ∧ ∀ w : Int, 0 ≤ w → w < a → ∀ v, 0 ≤ v → v < m 177 18 → ¬ mBg (m 177) w v) (fun a => (12 - a).toNat) ?_ 0 ⟨by omega, by omega, fun i a b => by omega⟩ (by omega)
  rintro n a ⟨a0, a1, a2⟩ ih
  rw [B_begun_9, hr.1.2.2.1]
  by_cases c : a < m 177 18
  · rw [if_pos c]
    refine mOk_bind (firstBegunBy_ok ht hr a0 c) (fun r k => ?_)
    rcases k with ⟨k1, k2⟩ | ⟨k1, k2, k3, k4⟩
    · rw [if_pos k1, w32e (by omega) (by omega)]
      refine ih _ ⟨by omega, by omega, ?_⟩ (by omega)
      intro i i0 i1 v v0 v1
      by_cases e : i = a
      · rw [e]; exact k2 v v0 v1
      · exact a2 i i0 (by omega) v v0 v1
    · rw [if_neg (by omega)]
      by_cases z : x = 0
      · rw [if_pos z]
        exact mOk_some (Or.inr ⟨a, r, a0, c, a2, k1, k2, k3, k4, by rw [if_pos z]⟩)
      · rw [if_neg z]
        exact mOk_some (Or.inr ⟨a, r, a0, c, a2, k1, k2, k3, k4, by rw [if_neg z]⟩)
  · rw [if_neg c]
    exact mOk_some (Or.inl ⟨rfl, fun i i0 i1 => a2 i i0 (by omega)⟩)
theorem R_begun_ok {x : Int} {m : aM} (ht : mTok (m 177)) : mOk (R_begun_13 x FU 0 m) (fun r => mBegun (m 177) x r.1 ∧ r.2 = m) := by
  have c4 := ht.2.2.2.2.1
  have c5 := ht.2.2.2.2.2.1
  refine mL1 (fun n a => R_begun_13 x n a m) (fun a => 0 ≤ a ∧ a ≤ m 177 18 ∧ ∀ w : Int, 0 ≤ w → w < a → ∀ v, 0 ≤ v → v < m 177 18 → ¬ mBg (m 177) w v) (fun a => (12 - a).toNat) ?_ 0 ⟨by omega, by omega, fun i a b => by omega⟩ (by omega)
  rintro n a ⟨a0, a1, a2⟩ ih
  show mOk (R_begun_13 x (n + 1) a m) _
  rw [R_begun_13]
  by_cases c : a < m 177 18
  · rw [if_pos c]
    refine mL1 (fun n v => R_begun_21 (R_begun_13 x _) x a n v m) (fun v => 0 ≤ v ∧ v ≤ m 177 18 ∧ ∀ i : Int, 0 ≤ i → i < v → ¬ mBg (m 177) a i) (fun v => (12 - v).toNat) ?_ 0 ⟨by omega, by omega, fun i a b => by omega⟩ (by omega)
    rintro n2 v ⟨v0, v1, v2⟩ ih2
    have nx : v < m 177 18 → ¬ mBg (m 177) a v → mOk (R_begun_47 (R_begun_13 x n) (R_begun_21 (R_begun_13 x n) x a n2) x a v m) (fun r => mBegun (m 177) x r.1 ∧ r.2 = m) := by
      intro c d
      unfold R_begun_47
      rw [w32e (by omega) (by omega)]
      refine ih2 _ ⟨by omega, by omega, ?_⟩ (by omega)
      intro i i0 i1
      by_cases e : i = v
      · rw [e]; exact d
      · exact v2 i i0 (by omega)
    show mOk (R_begun_21 (R_begun_13 x n) x a (n2 + 1) v m) _
    rw [R_begun_21]
    by_cases cv : v < m 177 18
    · rw [if_pos cv]
      by_cases d : v = a
      · rw [if_pos d]
        exact nx cv (fun h => h.1 d)
      · have f := (c5 a a0 c).1
        rw [if_neg d, w32e (by omega) (by omega), if_pos (by omega)]
        refine mOk_bind (beginAlike_ok a0 (by omega) v0 (by omega) (by omega)) (fun r k => ?_)
        by_cases z : r = 0
        · rw [if_pos z]
          exact nx cv (fun h => (k.2.mpr h.2) z)
        · rw [if_neg z]
          by_cases zz : x = 0
          · rw [if_pos zz]
            exact mOk_some ⟨Or.inr ⟨a, v, a0, c, a2, v0, cv, ⟨d, k.2.mp z⟩, v2, by rw [if_pos zz]⟩, rfl⟩
          · rw [if_neg zz]
            exact mOk_some ⟨Or.inr ⟨a, v, a0, c, a2, v0, cv, ⟨d, k.2.mp z⟩, v2, by rw [if_neg zz]⟩, rfl⟩
    · rw [if_neg cv, w32e (by omega) (by omega)]
      refine ih _ ⟨by omega, by omega, ?_⟩ (by omega)
      intro w w0 w1 i i0 i1
      by_cases e : w = a
      · rw [e]; exact v2 i i0 (by omega)
      · exact a2 w w0 (by omega) i i0 i1
  · rw [if_neg c]
    exact mOk_some ⟨Or.inl ⟨rfl, fun i i0 i1 => a2 i i0 (by omega)⟩, rfl⟩
theorem st_begun {n : Nat} {m : aM} (h : mInv n m) (x1 : Int) : ∃ r m2, B_begun x1 m = some r ∧ R_begun x1 m = some (r, m2) ∧ mInv (n + 1) m2 := by
  have hi := mInv_0 h
  unfold B_begun R_begun
  by_cases c : x1 = 0 ∨ x1 = 1
  · obtain ⟨r, k, hr⟩ := B_begun_ok (x := x1) h.2.2.1 h.2.2.2.1
    obtain ⟨⟨r', m2⟩, k', hr', e⟩ := R_begun_ok (x := x1) (m := aup m 176 0 0) hi.2.2.1
    have e2 : aup m 176 0 0 177 = m 177 := funext fun i => aup_of (by omega)
    dsimp only at hr' e
    rw [e2] at hr'
    refine ⟨r, aup m 176 0 0, ?_, ?_, hi⟩
    · rw [k]
      rcases c with c | c
      · rw [if_pos c]
      · rw [if_neg (by omega), if_pos c]
    · simp (disch := omega) only [st1e, within_eq, Option.bind_some, reduceIte, if_pos, if_neg]
      rw [k', mBegun_uni hr hr', e]
  · refine ⟨-2, aup m 176 0 0, by rw [if_neg (by omega), if_neg (by omega)], ?_, hi⟩
    simp (disch := omega) only [st1e, within_eq, Option.bind_some, reduceIte, if_pos, if_neg]
