/-! THE REFERENCE'S TOKENS -/
def mTxR (T : Int → Int) (n : Int) (m : aM) : Prop := m 176 8 = n ∧ ∀ k : Int, 0 ≤ k → k < n → (0 ≤ T k ∧ T k ≤ 255) ∧ m 179 k.toNat = T k
theorem mTxR_same {T : Int → Int} {n : Int} {m m' : aM} (h : mTxR T n m) (h1 : m' 176 8 = m 176 8) (h2 : ∀ i, m' 179 i = m 179 i) : mTxR T n m' := ⟨h1.trans h.1, fun k a b => ⟨(h.2 k a b).1, (h2 _).trans (h.2 k a b).2⟩⟩
theorem see_eq {T : Int → Int} {n k : Int} {m : aM} (h : mTxR T n m) (n1 : n ≤ 500) (k0 : 0 ≤ k) : R_see k m = some (if k < n then T k else -1) := by
  unfold R_see
  rw [h.1]
  by_cases c : k < n
  · rw [if_pos c, if_pos (by omega), if_pos c, (h.2 k k0 c).2]
  · rw [if_neg c, if_neg c]
theorem isSmall_eq (x : Int) (m : aM) : R_isSmall x m = some (if 97 ≤ x ∧ x ≤ 122 then 1 else 0) := by
  unfold R_isSmall
  by_cases h1 : x < 97
  · rw [if_pos h1, if_neg (by omega)]
  · by_cases h2 : 122 < x
    · rw [if_neg h1, if_pos h2, if_neg (by omega)]
    · rw [if_neg h1, if_neg h2, if_pos (by omega)]
theorem isDigit_eq (x : Int) (m : aM) : R_isDigit x m = some (if 48 ≤ x ∧ x ≤ 57 then 1 else 0) := by
  unfold R_isDigit
  by_cases h1 : x < 48
  · rw [if_pos h1, if_neg (by omega)]
  · by_cases h2 : 57 < x
    · rw [if_neg h1, if_pos h2, if_neg (by omega)]
    · rw [if_neg h1, if_neg h2, if_pos (by omega)]
/-- the number that i digits from q on tell -/
def mVal (T : Int → Int) (q : Int) : Nat → Int
  | 0 => 0
  | i + 1 => 10 * mVal T q i + (T (q + i) - 48)
theorem mVal_bd {T : Int → Int} {q : Int} : ∀ {i : Nat}, (∀ j : Int, q ≤ j → j < q + i → mDig (T j)) → 0 ≤ mVal T q i ∧ mVal T q i + 1 ≤ (10 : Int) ^ i := by
  intro i
  induction i with
  | zero => intro _; exact ⟨Int.le_refl _, Int.le_refl 1⟩
  | succ i ih =>
    intro h
    have h1 := ih (fun j a b => h j a (by omega))
    have h2 := h (q + i) (by omega) (by omega)
    unfold mDig at h2
    rw [mVal, Int.pow_succ]
    generalize (10 : Int) ^ i = t at *
    omega
theorem mVal_999 {T : Int → Int} {q : Int} {i : Nat} (hi : i ≤ 3) (h : ∀ j : Int, q ≤ j → j < q + i → mDig (T j)) : 0 ≤ mVal T q i ∧ mVal T q i ≤ 999 := by
  have h1 := mVal_bd h
  have : (10 : Int) ^ i ≤ 1000 := by
    have : i = 0 ∨ i = 1 ∨ i = 2 ∨ i = 3 := by omega
    rcases this with c | c | c | c <;> subst c <;> decide
  omega
/-- the reference stands at the token behind p, which is of kind k -/
def mTn (T : Int → Int) (n p k : Int) (m : aM) : Prop := mTk T n p k (m 176 6) (m 176 7) ∧
  ((k = 0 ∧ m 176 9 = 12) ∨ (k = 1 ∧ mKey T (m 176 6) (m 176 7) (m 176 9)) ∨ (k = 2 ∧ m 176 9 = 10 ∧ m 176 10 = mVal T (m 176 6) (m 176 7 - m 176 6).toNat) ∨ (k = 3 ∧ m 176 9 = 11) ∨ (k = 4 ∧ m 176 9 = 13))
theorem next_ok {T : Int → Int} {n p : Int} {m : aM} (hx : mTxR T n m) (n1 : n ≤ 500) (hp : m 176 7 = p) (p0 : 0 ≤ p) (p1 : p ≤ n) : mOk (R_next m) (fun m' => (∃ k, mTn T n p k m') ∧ ∀ q i, ¬(q = 176 ∧ (i = 6 ∨ i = 7 ∨ i = 9 ∨ i = 10)) → m' q i = m q i) := by
  unfold R_next
  rw [st1e, hp]
  refine mL1 R_next_4 (fun mm => (p ≤ mm 176 6 ∧ mm 176 6 ≤ n) ∧ (∀ j : Int, p ≤ j → j < mm 176 6 → T j = 10 ∨ T j = 32) ∧ ∀ q i, ¬(q = 176 ∧ (i = 6 ∨ i = 7 ∨ i = 9 ∨ i = 10)) → mm q i = m q i) (fun mm => (501 - mm 176 6).toNat) ?_ _ ⟨by rw [aup_self]; omega, fun j a b => by rw [aup_self] at b; omega, fun q i a => aup_of (by omega)⟩ (by rw [aup_self]; omega)
  rintro fu mm ⟨⟨q0, q1⟩, hj, fr⟩ ih
  have hx1 := mTxR_same hx (fr 176 8 (by omega)) (fun i => fr 179 i (by omega))
  rw [R_next_4]
  generalize hq : mm 176 6 = q at *
  have h6 : ∀ v : Int, aup mm 176 7 v 176 6 = q := fun v => by rw [aup_of (by omega)]; exact hq
  have fr7 : ∀ v : Int, ∀ q i, ¬(q = 176 ∧ (i = 6 ∨ i = 7 ∨ i = 9 ∨ i = 10)) → aup mm 176 7 v q i = m q i := fun v q i a => by rw [aup_of (by omega)]; exact fr q i a
  have hx7 : ∀ v : Int, mTxR T n (aup mm 176 7 v) := fun v => mTxR_same hx (fr7 v 176 8 (by omega)) (fun i => fr7 v 179 i (by omega))
  rw [see_eq hx1 n1 (by omega), Option.bind_some, Option.bind_some]
  by_cases d : q < n
  · rw [if_pos d]
    have blank : (T q = 10 ∨ T q = 32) → mOk (R_next_16 (R_next_4 fu) mm) (fun m' => (∃ k, mTn T n p k m') ∧ ∀ q i, ¬(q = 176 ∧ (i = 6 ∨ i = 7 ∨ i = 9 ∨ i = 10)) → m' q i = m q i) := by
      intro hb
      unfold R_next_16
      rw [st1e, hq, w32e (by omega) (by omega)]
      refine ih _ ⟨by rw [aup_self]; omega, fun j a b => ?_, fun q i a => by rw [aup_of (by omega)]; exact fr q i a⟩ (by rw [aup_self]; omega)
      rw [aup_self] at b
      by_cases ej : j = q
      · rw [ej]; exact hb
      · exact hj j a (by omega)
    by_cases u : T q = 10
    · rw [if_pos u]; exact blank (Or.inl u)
    rw [if_neg u]
    by_cases v : T q = 32
    · rw [if_pos v]; exact blank (Or.inr v)
    rw [if_neg v, st1e]
    have hnb : q < n → T q ≠ 10 ∧ T q ≠ 32 := fun _ => ⟨u, v⟩
    have e8 : aup mm 176 7 q 176 8 = n := (hx7 q).1
    rw [h6, e8, if_pos d, see_eq (hx7 q) n1 (by omega), if_pos d, Option.bind_some, isSmall_eq, Option.bind_some]
    by_cases sm : 97 ≤ T q ∧ T q ≤ 122
    · rw [if_pos sm, if_neg (by decide)]
      refine mL1 R_next_42 (fun mm2 => mm2 176 6 = q ∧ (q ≤ mm2 176 7 ∧ mm2 176 7 ≤ n) ∧ (∀ j : Int, q ≤ j → j < mm2 176 7 → mSml (T j)) ∧ ∀ q i, ¬(q = 176 ∧ (i = 6 ∨ i = 7 ∨ i = 9 ∨ i = 10)) → mm2 q i = m q i) (fun mm2 => (501 - mm2 176 7).toNat) ?_ _ ⟨h6 q, by rw [aup_self]; omega, fun j a b => by rw [aup_self] at b; omega, fr7 q⟩ (by rw [aup_self]; omega)
      rintro fu2 mm2 ⟨g5, g6, gd, fr2⟩ ih2
      have hx2 := mTxR_same hx (fr2 176 8 (by omega)) (fun i => fr2 179 i (by omega))
      rw [R_next_42, see_eq hx2 n1 (by omega), Option.bind_some, isSmall_eq, Option.bind_some]
      have fin : (mm2 176 7 < n → ¬ mSml (T (mm2 176 7))) → mOk ((R_keyAt mm2).bind fun r32 => (st1 (aup mm2 176 9 r32) fun mm33 => (some mm33))) (fun m' => (∃ k, mTn T n p k m') ∧ ∀ q i, ¬(q = 176 ∧ (i = 6 ∨ i = 7 ∨ i = 9 ∨ i = 10)) → m' q i = m q i) := by
        intro he
        refine mOk_bind (keyAt_ok (fun j a b => (hx2.2 j a b).2) n1 g5 rfl (by omega) g6.1 g6.2) (fun r kr => ?_)
        rw [st1e]
        have lt : q < mm2 176 7 := by
          by_cases z : mm2 176 7 = q
          · rw [z] at he; exact absurd sm (he d)
          · omega
        refine mOk_some ⟨⟨1, ?_, Or.inr (Or.inl ⟨rfl, ?_⟩)⟩, fun q i a => by rw [aup_of (by omega)]; exact fr2 q i a⟩
        · rw [aup_of (by omega), aup_of (by omega), g5]
          exact ⟨⟨p0, q0, q1⟩, hj, hnb, Or.inr (Or.inl ⟨rfl, lt, g6.2, gd, he⟩)⟩
        · rw [aup_of (i' := 6) (by omega), aup_of (i' := 7) (by omega), aup_self, g5]
          exact kr
      by_cases y : mm2 176 7 < n
      · rw [if_pos y]
        by_cases w : 97 ≤ T (mm2 176 7) ∧ T (mm2 176 7) ≤ 122
        · rw [if_pos w, if_neg (by decide), st1e, w32e (by omega) (by omega)]
          refine ih2 _ ⟨by rw [aup_of (by omega)]; exact g5, by rw [aup_self]; omega, fun j a b => ?_, fun q i a => by rw [aup_of (by omega)]; exact fr2 q i a⟩ (by rw [aup_self]; omega)
          rw [aup_self] at b
          by_cases ej : j = mm2 176 7
          · rw [ej]; exact w
          · exact gd j a (by omega)
        · rw [if_neg w, if_pos rfl]
          exact fin (fun _ h => w h)
      · rw [if_neg y, if_neg (show ¬ (97 ≤ (-1 : Int) ∧ (-1 : Int) ≤ 122) by omega), if_pos rfl]
        exact fin (fun h => absurd h y)
    rw [if_neg sm, if_pos rfl, Option.bind_some, isDigit_eq, Option.bind_some]
    by_cases dg : 48 ≤ T q ∧ T q ≤ 57
    · rw [if_pos dg, if_neg (by decide), st1e]
      refine mL1 R_next_69 (fun mm2 => mm2 176 6 = q ∧ (q ≤ mm2 176 7 ∧ mm2 176 7 ≤ n) ∧ (∀ j : Int, q ≤ j → j < mm2 176 7 → mDig (T j)) ∧ mm2 176 10 = mVal T q (if mm2 176 7 - q ≤ 3 then (mm2 176 7 - q).toNat else 3) ∧ ∀ q i, ¬(q = 176 ∧ (i = 6 ∨ i = 7 ∨ i = 9 ∨ i = 10)) → mm2 q i = m q i) (fun mm2 => (501 - mm2 176 7).toNat) ?_ _ ⟨by rw [aup_of (by omega)]; exact h6 q, by rw [aup_of (by omega), aup_self]; omega, fun j a b => by rw [aup_of (by omega), aup_self] at b; omega, ?_, fun q' i a => by rw [aup_of (by omega)]; exact fr7 q q' i a⟩ (by rw [aup_of (by omega), aup_self]; omega)
      · rintro fu2 mm2 ⟨g5, g6, gd, gv, fr2⟩ ih2
        have hx2 := mTxR_same hx (fr2 176 8 (by omega)) (fun i => fr2 179 i (by omega))
        rw [R_next_69, see_eq hx2 n1 (by omega), Option.bind_some, isDigit_eq, Option.bind_some, g5, w32e (x := mm2 176 7 - q) (by omega) (by omega)]
        have fin : (mm2 176 7 < n → ¬ mDig (T (mm2 176 7))) → mOk (if 3 < mm2 176 7 - q then R_next_113 13 mm2 else R_next_113 10 mm2) (fun m' => (∃ k, mTn T n p k m') ∧ ∀ q i, ¬(q = 176 ∧ (i = 6 ∨ i = 7 ∨ i = 9 ∨ i = 10)) → m' q i = m q i) := by
          intro he
          have lt : q < mm2 176 7 := by
            by_cases z : mm2 176 7 = q
            · rw [z] at he; exact absurd dg (he d)
            · omega
          unfold R_next_113
          by_cases w : 3 < mm2 176 7 - q
          · rw [if_pos w, st1e]
            refine mOk_some ⟨⟨4, ?_, Or.inr (Or.inr (Or.inr (Or.inr ⟨rfl, aup_self _ _ _ _⟩)))⟩, fun q i a => by rw [aup_of (by omega)]; exact fr2 q i a⟩
            rw [aup_of (by omega), aup_of (by omega), g5]
            exact ⟨⟨p0, q0, q1⟩, hj, hnb, Or.inr (Or.inr (Or.inl ⟨Or.inr rfl, lt, g6.2, gd, he, ⟨fun _ => w, fun _ => rfl⟩⟩))⟩
          · rw [if_neg w, st1e]
            refine mOk_some ⟨⟨2, ?_, Or.inr (Or.inr (Or.inl ⟨rfl, aup_self _ _ _ _, ?_⟩))⟩, fun q i a => by rw [aup_of (by omega)]; exact fr2 q i a⟩
            · rw [aup_of (by omega), aup_of (by omega), g5]
              exact ⟨⟨p0, q0, q1⟩, hj, hnb, Or.inr (Or.inr (Or.inl ⟨Or.inl rfl, lt, g6.2, gd, he, ⟨fun h => by omega, fun h => absurd h w⟩⟩))⟩
            · rw [aup_of (by omega), aup_of (i' := 6) (by omega), aup_of (i' := 7) (by omega), g5, gv, if_pos (by omega)]
        by_cases y : mm2 176 7 < n
        · rw [if_pos y]
          by_cases w : 48 ≤ T (mm2 176 7) ∧ T (mm2 176 7) ≤ 57
          · rw [if_pos w, if_neg (by decide)]
            have gd' : ∀ j : Int, q ≤ j → j < mm2 176 7 + 1 → mDig (T j) := by
              intro j a b
              by_cases ej : j = mm2 176 7
              · rw [ej]; exact w
              · exact gd j a (by omega)
            by_cases x : mm2 176 7 - q < 3
            · rw [if_pos x, Option.bind_some, st1e]
              unfold R_next_95
              rw [st1e]
              rw [if_pos (by omega)] at gv
              have vb := mVal_999 (T := T) (q := q) (i := (mm2 176 7 - q).toNat) (by omega) (fun j a b => gd j a (by omega))
              rw [← gv] at vb
              refine ih2 _ ⟨?_, ?_, ?_, ?_, ?_⟩ ?_
              · rw [aup_of (by omega), aup_of (by omega)]; exact g5
              · rw [aup_self, aup_of (by omega), w32e (by omega) (by omega)]; omega
              · rw [aup_self, aup_of (by omega), w32e (by omega) (by omega)]; exact gd'
              · rw [aup_self, aup_of (i' := 7) (by omega), aup_of (i' := 10) (by omega), aup_self, w32e (x := mm2 176 7 + 1) (by omega) (by omega), w32e (x := 10 * mm2 176 10) (by omega) (by omega), w32e (x := 10 * mm2 176 10 + _) (by omega) (by omega), w32e (by omega) (by omega), if_pos (by omega), show (mm2 176 7 + 1 - q).toNat = (mm2 176 7 - q).toNat + 1 by omega, mVal, ← gv, show q + (((mm2 176 7 - q).toNat : Nat) : Int) = mm2 176 7 by omega]
                omega
              · intro q' i a
                rw [aup_of (by omega), aup_of (by omega)]
                exact fr2 q' i a
              · rw [aup_self, aup_of (by omega), w32e (by omega) (by omega)]; omega
            · rw [if_neg x]
              unfold R_next_95
              rw [st1e, w32e (by omega) (by omega)]
              refine ih2 _ ⟨by rw [aup_of (by omega)]; exact g5, by rw [aup_self]; omega, by rw [aup_self]; exact gd', ?_, fun q' i a => by rw [aup_of (by omega)]; exact fr2 q' i a⟩ (by rw [aup_self]; omega)
              rw [aup_of (by omega), aup_self, gv, if_neg (show ¬ mm2 176 7 + 1 - q ≤ 3 by omega)]
              by_cases t : mm2 176 7 - q ≤ 3
              · rw [if_pos t, show (mm2 176 7 - q).toNat = 3 by omega]
              · rw [if_neg t]
          · rw [if_neg w, if_pos rfl]
            exact fin (fun _ h => w h)
        · rw [if_neg y, if_neg (show ¬ (48 ≤ (-1 : Int) ∧ (-1 : Int) ≤ 57) by omega), if_pos rfl]
          exact fin (fun h => absurd h y)
      · rw [aup_self, aup_of (by omega), aup_self, if_pos (by omega), show (q - q).toNat = 0 by omega]
        rfl
    · rw [if_neg dg, if_pos rfl, st1e, aup_self]
      have h66 : ∀ v : Int, aup (aup mm 176 7 q) 176 7 v 176 6 = q := fun v => by rw [aup_of (by omega)]; exact h6 q
      have fr8 : ∀ v : Int, ∀ q' i, ¬(q' = 176 ∧ (i = 6 ∨ i = 7 ∨ i = 9 ∨ i = 10)) → aup (aup mm 176 7 q) 176 7 v q' i = m q' i := fun v q' i a => by rw [aup_of (by omega)]; exact fr7 q q' i a
      have hx8 : ∀ v : Int, mTxR T n (aup (aup mm 176 7 q) 176 7 v) := fun v => mTxR_same hx (fr8 v 176 8 (by omega)) (fun i => fr8 v 179 i (by omega))
      rw [h66, see_eq (hx8 _) n1 (by omega), if_pos d, Option.bind_some]
      unfold R_next_131
      by_cases w : T q = 59
      · rw [if_pos w, st1e]
        refine mOk_some ⟨⟨3, ?_, Or.inr (Or.inr (Or.inr (Or.inl ⟨rfl, aup_self _ _ _ _⟩)))⟩, fun q' i a => by rw [aup_of (by omega)]; exact fr8 _ q' i a⟩
        rw [aup_of (by omega), h66, aup_of (by omega), aup_self, w32e (by omega) (by omega)]
        exact ⟨⟨p0, q0, q1⟩, hj, hnb, Or.inr (Or.inr (Or.inr ⟨Or.inl rfl, d, rfl, sm, dg, ⟨fun _ => w, fun _ => rfl⟩⟩))⟩
      · rw [if_neg w, st1e]
        refine mOk_some ⟨⟨4, ?_, Or.inr (Or.inr (Or.inr (Or.inr ⟨rfl, aup_self _ _ _ _⟩)))⟩, fun q' i a => by rw [aup_of (by omega)]; exact fr8 _ q' i a⟩
        rw [aup_of (by omega), h66, aup_of (by omega), aup_self, w32e (by omega) (by omega)]
        exact ⟨⟨p0, q0, q1⟩, hj, hnb, Or.inr (Or.inr (Or.inr ⟨Or.inr rfl, d, rfl, sm, dg, ⟨fun h => by omega, fun h => absurd h w⟩⟩))⟩
  · rw [if_neg d, if_neg (by decide), if_neg (by decide), st1e, h6, (hx7 q).1, if_neg d, st1e]
    refine mOk_some ⟨⟨0, ?_, Or.inl ⟨rfl, aup_self _ _ _ _⟩⟩, fun q' i a => by rw [aup_of (by omega)]; exact fr7 q q' i a⟩
    rw [aup_of (by omega), h6, aup_of (by omega), aup_self]
    exact ⟨⟨p0, q0, q1⟩, hj, fun h => absurd h d, Or.inl ⟨rfl, by omega, rfl⟩⟩
