/-! A LINE OF THE TEXT: shape; the line -/
def mSb (T : Int → Int) (q : Int) : Nat → Int
  | 0 => 0
  | i + 1 => ior (mSb T q i) (if T (q + i) = 111 then ishl 1 i else 0)
theorem mSb_bd {T : Int → Int} {q : Int} : ∀ {i : Nat}, i ≤ 29 → 0 ≤ mSb T q i ∧ (mSb T q i).toNat < 2 ^ i := by
  intro i
  induction i with
  | zero => intro _; exact ⟨Int.le_refl _, (by decide : (0 : Int).toNat < 2 ^ 0)⟩
  | succ i ih =>
    intro h
    have h1 := ih (by omega)
    have hl : (mSb T q i).toNat < 2 ^ (i + 1) := Nat.lt_of_lt_of_le h1.2 (Nat.pow_le_pow_right (by omega) (by omega))
    rw [mSb]
    by_cases c : T (q + i) = 111
    · rw [if_pos c]
      exact (ior_bit (B := i + 1) h1.1 hl (by omega) (by omega) (by omega)).1
    · rw [if_neg c]
      have hb : (2 : Nat) ^ (i + 1) ≤ 2 ^ 30 := Nat.pow_le_pow_right (by omega) (by omega)
      have h3 : mSb T q i < 2147483648 := by
        have : (mSb T q i).toNat < 1073741824 := Nat.lt_of_lt_of_le hl hb
        omega
      rw [ior_nn h1.1 h3 (by omega) (by omega), show (0 : Int).toNat = 0 from rfl, Nat.or_zero, Int.toNat_natCast]
      exact ⟨Int.natCast_nonneg _, hl⟩
theorem mSb_hi {T : Int → Int} {q : Int} {i : Nat} (hi : i ≤ 6) {k : Int} (k0 : (i : Int) ≤ k) (k1 : k < 6) : iand (ishr (mSb T q i) k) 1 = 0 := by
  have h := mSb_bd (T := T) (q := q) (i := i) (by omega)
  have hb : (2 : Nat) ^ i ≤ 2 ^ 6 := Nat.pow_le_pow_right (by omega) (by omega)
  have h3 : (mSb T q i).toNat < 64 := Nat.lt_of_lt_of_le h.2 hb
  rw [bt_eq h.1 (by omega) (by omega) (by omega), if_neg]
  have : (mSb T q i).toNat < 2 ^ k.toNat := Nat.lt_of_lt_of_le h.2 (Nat.pow_le_pow_right (by omega) (by omega))
  rw [Nat.testBit_lt_two_pow this]
  decide
def mAs (T : Int → Int) (q e : Int) : Prop := ∀ j : Int, q ≤ j → j < e → T j = 111 ∨ T j = 115
theorem ln_shape {T : Int → Int} {n : Int} {b m : aM} (n1 : n ≤ 500) (hs : mSs T n b m) (tg : mTg (m 180) b) : ∃ b' m', Tape_readShape b = some b' ∧ R_readShape m = some m' ∧ mFb1 b b' ∧ mFr1 m m' ∧ mLe T n (b 1 6) b' m' := by
  obtain ⟨hx, hxr, b7, m11, b8, e5, e6, q0, qe, e1, k13⟩ := hs
  have x3 := tg.2.1.2.2.2.1
  have c9 := tg.1.2.2.2.2.2.2.2.2.2.1
  generalize hw : m 180 141 = w at *
  by_cases c : w = 6
  · refine ⟨aup (aup b 1 7 4) 1 8 (b 1 5), aup (aup m 176 11 4) 176 12 (m 176 6), ?_, ?_, mFb1.of (mFb_fail (mFb.refl b)), mFr1.of (mFr_fail (mFr.refl m)), Or.inr (mFl_fail (by omega) rfl e5)⟩
    · unfold Tape_readShape
      rw [x3, if_neg (by omega), fail_eq b7, Option.bind_some]
    · unfold R_readShape
      rw [hw, if_pos c, fails_eq m11, if_neg k13, Option.bind_some]
      unfold R_readShape_11
      rw [aup_of (by omega), aup_self, if_neg (by decide)]
  obtain ⟨m1, kn, ⟨k, hs1⟩, fr1⟩ := sy_next hx hxr n1 b7 b8 m11 e6 (by omega) e1
  obtain ⟨f, b1, kw, fb, p1, hl⟩ := lett_ok (lo := 1) (hi := 6) n1 hs1
  have e180 : m1 180 = m 180 := r180 fr1
  rw [← e180] at tg hw
  have clB : Tape_readShape b = (if f = 0 then (some b1) else (if 6 < (w32 ((b1 1 6) - (b1 1 5))) then ((Tape_fail 3 b1).bind fun r16 => (some r16)) else (Tape_readShape_31 (w32 ((b1 1 6) - (b1 1 5))) FU 0 0 b1))) := by
    unfold Tape_readShape
    rw [x3, if_pos (by omega), kw, Option.bind_some]
  have clR : ∀ v m', R_isLetters 1 6 m1 = some (v, m') → R_readShape m = (if v = 0 then (some m') else (R_readShape_28 w FU 0 (m' 176 6) m')) := by
    intro v m' hv
    unfold R_readShape
    rw [← e180, hw, if_neg c]
    unfold R_readShape_11
    rw [if_pos m11, kn, Option.bind_some, hv, Option.bind_some]
  rcases hl with ⟨f0, m', kl, fr2, fl⟩ | ⟨f1, ss, lt, sm, hl⟩
  · refine ⟨b1, m', ?_, ?_, mFb1.of fb, mFr1.of (fr1.trans fr2), Or.inr fl⟩
    · rw [clB, if_pos f0]
    · rw [clR 0 m' kl, if_pos rfl]
  obtain ⟨hx1, hxr1, b71, m111, b81, e51, e61, q01, qe1, e11, k131⟩ := ss
  have tg1 : mTg (m1 180) b1 := mTg_fb tg (fun q i a d => fb q i (by omega))
  have dl : w32 (b1 1 6 - b1 1 5) = m1 176 7 - m1 176 6 := by rw [e51, e61]; exact w32e (by omega) (by omega)
  rw [f1, if_neg (by decide), dl] at clB
  rcases hl with ⟨l1, l6, kl⟩ | ⟨nl, kl⟩
  rotate_left
  · refine ⟨_, _, ?_, ?_, mFb1.of (mFb_fail fb), mFr1.of (mFr_fail fr1), Or.inr (mFl_fail (f := 3) (g := 3) (by omega) rfl e51)⟩
    · rw [clB, if_pos (by omega), fail_eq b71, Option.bind_some]
    · rw [clR 0 _ kl, if_pos rfl]
  have clR1 := clR 1 m1 kl
  rw [if_neg (by decide)] at clR1
  rw [if_neg (by omega)] at clB
  have x31 : b1 3 3 = w := by rw [tg1.2.1.2.2.2.1]; exact hw
  generalize hl : m1 176 7 - m1 176 6 = l at *
  generalize hq : m1 176 6 = q at *
  have eq7 : m1 176 7 = q + l := by omega
  have wB : (mAs T q (q + l) → Tape_readShape_31 l FU 0 0 b1 = some (aup (aup (aup b1 23 w.toNat l) 24 w.toNat (mSb T q l.toNat)) 3 3 (w + 1))) ∧ (¬ mAs T q (q + l) → Tape_readShape_31 l FU 0 0 b1 = some (aup (aup b1 1 7 3) 1 8 q)) := by
    refine mTo3 (P := fun o => (mAs T q (q + l) → o = some (aup (aup (aup b1 23 w.toNat l) 24 w.toNat (mSb T q l.toNat)) 3 3 (w + 1))) ∧ (¬ mAs T q (q + l) → o = some (aup (aup b1 1 7 3) 1 8 q))) (Tape_readShape_31 l) (fun o x mm => mm = b1 ∧ (0 ≤ x ∧ x ≤ l) ∧ o = mSb T q x.toNat ∧ mAs T q (q + x)) (fun _ x _ => (7 - x).toNat) ?_ 0 0 b1 ⟨rfl, by omega, rfl, fun j a d => by omega⟩ (by omega)
    rintro fu o x mm ⟨rfl, x1, ho, as⟩ ih
    rw [Tape_readShape_31, e51]
    by_cases d : x < l
    · have tv := hx1.2 (q + x) (by omega) (by omega)
      have ts := sm (q + x) (by omega) (by omega)
      unfold mSml at ts
      rw [if_pos d, w32e (x := q + x) (by omega) (by omega), if_pos (by omega), tv.2, w8e (by omega) (by omega)]
      have go : (T (q + x) = 111 ∨ T (q + x) = 115) → (mAs T q (q + l) → Tape_readShape_52 (Tape_readShape_31 l fu) l o x (T (q + x)) mm = some (aup (aup (aup mm 23 w.toNat l) 24 w.toNat (mSb T q l.toNat)) 3 3 (w + 1))) ∧ (¬ mAs T q (q + l) → Tape_readShape_52 (Tape_readShape_31 l fu) l o x (T (q + x)) mm = some (aup (aup mm 1 7 3) 1 8 q)) := by
        intro hh
        have e : Tape_readShape_52 (Tape_readShape_31 l fu) l o x (T (q + x)) mm = Tape_readShape_31 l fu (mSb T q (x + 1).toNat) (x + 1) mm := by
          unfold Tape_readShape_52 Tape_readShape_61
          rw [w32e (by omega) (by omega), show (x + 1).toNat = x.toNat + 1 by omega, mSb, ← ho, Int.toNat_of_nonneg x1.1]
          by_cases g : T (q + x) = 111
          · rw [if_pos g, if_pos g]
          · rw [if_neg g, if_neg g]
        rw [e]
        refine ih _ _ _ ⟨rfl, by omega, rfl, fun j a g => ?_⟩ (by omega)
        by_cases ej : j = q + x
        · rw [ej]; exact hh
        · exact as j a (by omega)
      by_cases u : T (q + x) = 111
      · rw [if_pos u]
        exact go (Or.inl u)
      · rw [if_neg u]
        by_cases v : T (q + x) = 115
        · rw [if_pos v]
          exact go (Or.inr v)
        · rw [if_neg v, fail_eq b71, Option.bind_some, e51]
          refine ⟨fun h => ?_, fun _ => rfl⟩
          have := h (q + x) (by omega) (by omega)
          omega
    · have ex : x = l := by omega
      subst ex
      rw [if_neg d, x31, if_pos (by omega), st1e, aup_of (by omega), x31, if_pos (by omega), st1e, st1e, aup_of (by omega), aup_of (by omega), x31, w32e (by omega) (by omega), ho]
      exact ⟨fun _ => rfl, fun h => absurd as h⟩
  have wR : (mAs T q (q + l) → R_readShape_28 w FU 0 q m1 = R_next (aup (aup (aup m1 180 (142 + w).toNat l) 180 (148 + w).toNat (mSb T q l.toNat)) 180 141 (w + 1))) ∧ (¬ mAs T q (q + l) → R_readShape_28 w FU 0 q m1 = some (aup (aup m1 176 11 3) 176 12 q)) := by
    refine mTo3 (P := fun o => (mAs T q (q + l) → o = R_next (aup (aup (aup m1 180 (142 + w).toNat l) 180 (148 + w).toNat (mSb T q l.toNat)) 180 141 (w + 1))) ∧ (¬ mAs T q (q + l) → o = some (aup (aup m1 176 11 3) 176 12 q))) (R_readShape_28 w) (fun o x mm => (q ≤ x ∧ x ≤ q + l) ∧ o = mSb T q (x - q).toNat ∧ ((mm = m1 ∧ mAs T q x) ∨ (mm = aup (aup m1 176 11 3) 176 12 q ∧ ¬ mAs T q x))) (fun _ x _ => (501 - x).toNat) ?_ 0 q m1 ⟨by omega, by rw [show (q - q).toNat = 0 by omega]; rfl, Or.inl ⟨rfl, fun j a d => by omega⟩⟩ (by omega)
    rintro fu o x mm ⟨x1, ho, hm⟩ ih
    have fm : ∀ r i, ¬(r = 176 ∧ (i = 11 ∨ i = 12)) → mm r i = m1 r i := by
      intro r i a
      rcases hm with ⟨h, -⟩ | ⟨h, -⟩
      · rw [h]
      · rw [h, aup_of (by omega), aup_of (by omega)]
    rw [R_readShape_28, fm 176 7 (by omega), eq7]
    by_cases d : x < q + l
    · have tv := (hxr1.2 x (by omega) (by omega)).2
      rw [if_pos d, if_pos (by omega), fm 179 _ (by omega), tv]
      -- one letter more
      have go : ∀ mm' : aM, ((mm' = m1 ∧ mAs T q (x + 1)) ∨ (mm' = aup (aup m1 176 11 3) 176 12 q ∧ ¬ mAs T q (x + 1))) → (mAs T q (q + l) → R_readShape_47 (R_readShape_28 w fu) w o x mm' = R_next (aup (aup (aup m1 180 (142 + w).toNat l) 180 (148 + w).toNat (mSb T q l.toNat)) 180 141 (w + 1))) ∧ (¬ mAs T q (q + l) → R_readShape_47 (R_readShape_28 w fu) w o x mm' = some (aup (aup m1 176 11 3) 176 12 q)) := by
        intro mm' hm'
        have fm' : ∀ r i, ¬(r = 176 ∧ (i = 11 ∨ i = 12)) → mm' r i = m1 r i := by
          intro r i a
          rcases hm' with ⟨h, -⟩ | ⟨h, -⟩
          · rw [h]
          · rw [h, aup_of (by omega), aup_of (by omega)]
        have e : R_readShape_47 (R_readShape_28 w fu) w o x mm' = R_readShape_28 w fu (mSb T q (x + 1 - q).toNat) (x + 1) mm' := by
          unfold R_readShape_47 R_readShape_62
          rw [if_pos (by omega), fm' 179 _ (by omega), tv, fm' 176 6 (by omega), hq, w32e (x := x - q) (by omega) (by omega), w32e (x := x + 1) (by omega) (by omega), show (x + 1 - q).toNat = (x - q).toNat + 1 by omega, mSb, ← ho, Int.toNat_of_nonneg (show 0 ≤ x - q by omega), show q + (x - q) = x by omega]
          by_cases g : T x = 111
          · rw [if_pos g, if_pos g]
          · rw [if_neg g, if_neg g]
        rw [e]
        exact ih _ _ _ ⟨by omega, rfl, hm'⟩ (by omega)
      have nx : (T x = 111 ∨ T x = 115) → ((mm = m1 ∧ mAs T q (x + 1)) ∨ (mm = aup (aup m1 176 11 3) 176 12 q ∧ ¬ mAs T q (x + 1))) := by
        intro hh
        rcases hm with ⟨h, as⟩ | ⟨h, as⟩
        · refine Or.inl ⟨h, fun j a g => ?_⟩
          by_cases ej : j = x
          · rw [ej]; exact hh
          · exact as j a (by omega)
        · exact Or.inr ⟨h, fun g => as (fun j a e => g j a (by omega))⟩
      by_cases u : T x = 111
      · rw [if_pos u]; exact go mm (nx (Or.inl u))
      · rw [if_neg u]
        by_cases v : T x = 115
        · rw [if_pos v]; exact go mm (nx (Or.inr v))
        · rw [if_neg v]
          have na : ¬ mAs T q (x + 1) := fun h => by
            have := h x (by omega) (by omega)
            omega
          rcases hm with ⟨h, as⟩ | ⟨h, as⟩
          · rw [h, fails_eq m111, if_neg k131, Option.bind_some, hq]
            exact go _ (Or.inr ⟨rfl, na⟩)
          · rw [fails_no (by rw [h, aup_of (by omega), aup_self]; decide), Option.bind_some]
            exact go _ (Or.inr ⟨h, na⟩)
    · have ex : x = q + l := by omega
      subst ex
      rw [if_neg d]
      rcases hm with ⟨h, as⟩ | ⟨h, as⟩
      · subst h
        rw [if_pos m111, w32e (x := 142 + w) (by omega) (by omega), if_pos (by omega), st1e, w32e (x := 148 + w) (by omega) (by omega), if_pos (by omega), st1e, st1e, hq, w32e (x := q + l - q) (by omega) (by omega), aup_of (i' := 141) (by omega), aup_of (i' := 141) (by omega), hw, w32e (x := w + 1) (by omega) (by omega), ho, show q + l - q = l by omega]
        refine ⟨fun _ => ?_, fun h => absurd as h⟩
        cases R_next (aup (aup (aup mm 180 (142 + w).toNat l) 180 (148 + w).toNat (mSb T q l.toNat)) 180 141 (w + 1)) <;> rfl
      · have n11 : mm 176 11 ≠ 0 := by rw [h, aup_of (by omega), aup_self]; decide
        rw [if_neg n11, h]
        exact ⟨fun g => absurd g as, fun _ => rfl⟩
  by_cases as : mAs T q (q + l)
  · have kB := clB.trans (wB.1 as)
    have kR := clR1.trans (wR.1 as)
    obtain ⟨m3, kn3, hk, fr3⟩ := sy_next (b := aup (aup (aup b1 23 w.toNat l) 24 w.toNat (mSb T q l.toNat)) 3 3 (w + 1)) (m := aup (aup (aup m1 180 (142 + w).toNat l) 180 (148 + w).toNat (mSb T q l.toNat)) 180 141 (w + 1)) (mTx_same hx1 (by rw [aup_of (by omega), aup_of (by omega), aup_of (by omega)]) (fun i => by rw [aup_of (by omega), aup_of (by omega), aup_of (by omega)])) (mTxR_same hxr1 (by rw [aup_of (by omega), aup_of (by omega), aup_of (by omega)]) (fun i => by rw [aup_of (by omega), aup_of (by omega), aup_of (by omega)])) n1 (by rw [aup_of (by omega), aup_of (by omega), aup_of (by omega)]; exact b71) (by rw [aup_of (by omega), aup_of (by omega), aup_of (by omega)]; exact b81) (by rw [aup_of (by omega), aup_of (by omega), aup_of (by omega)]; exact m111) (by rw [aup_of (by omega), aup_of (by omega), aup_of (by omega), aup_of (by omega), aup_of (by omega), aup_of (by omega)]; exact e61) (by rw [aup_of (by omega), aup_of (by omega), aup_of (by omega)]; omega) (by rw [aup_of (by omega), aup_of (by omega), aup_of (by omega)]; exact e11)
    refine ⟨_, m3, kB, kR.trans kn3, ?_, ?_, Or.inl ⟨hk, ?_, ?_⟩⟩
    · intro r i a d
      rw [aup_of (by omega), aup_of (by omega), aup_of (by omega)]
      exact fb r i a
    · intro r i a d
      rw [fr3 r i a, aup_of (by omega), aup_of (by omega), aup_of (by omega)]
      exact fr1 r i a
    · have sb := mSb_bd (T := T) (q := q) (i := l.toNat) (by omega)
      have h64 : (mSb T q l.toNat).toNat < 64 := Nat.lt_of_lt_of_le sb.2 (show 2 ^ l.toNat ≤ 2 ^ 6 from Nat.pow_le_pow_right (by omega) (by omega))
      rw [r180 fr3]
      refine mTg_shape (s := w) (l := l) (o := mSb T q l.toNat) tg1 hw (by omega) (by omega) (by omega) (fun k k0 k1 => mSb_hi (by omega) (by omega) k1) (aup_self _ _ _ _) ?_ ?_ ?_ (aup_self _ _ _ _) ?_ ?_ ?_
      · rw [aup_of (by omega), aup_of (by omega), aup_self]
      · rw [aup_of (by omega), aup_self]
      · intro i a d e; rw [aup_of (by omega), aup_of (by omega), aup_of (by omega)]
      · rw [aup_of (by omega), aup_of (by omega), aup_self]
      · rw [aup_of (by omega), aup_self]
      · intro r i a d e g; rw [aup_of (by omega), aup_of (by omega), aup_of (by omega)]
    · rw [aup_of (by omega), aup_of (by omega), aup_of (by omega)]; exact p1
  · exact ⟨_, _, clB.trans (wB.2 as), clR1.trans (wR.2 as), mFb1.of (mFb_fail fb), mFr1.of (mFr_fail fr1), Or.inr (mFl_fail (f := 3) (g := 3) (by omega) rfl rfl)⟩
