/-! NAMES AND KEYS -/
def mNm (T : Int → Int) (q e : Int) (x : Nat) : Prop := e - q = (aLen.getD x 0 : Nat) ∧ ∀ i : Int, 0 ≤ i → i < (aLen.getD x 0 : Nat) → T (q + i) = aChr x i.toNat
set_option maxRecDepth 100000 in
theorem nm_diff : ∀ x y : Fin 9, x ≠ y → aLen.getD x.val 0 ≠ aLen.getD y.val 0 ∨ ∃ i : Fin 6, i.val < aLen.getD x.val 0 ∧ aChr x.val i.val ≠ aChr y.val i.val := by decide +kernel
set_option maxRecDepth 100000 in
theorem nm_lt : ∀ x : Fin 9, ∀ i : Fin 6, i.val < aLen.getD x.val 0 → 97 ≤ aChr x.val i.val ∧ aChr x.val i.val ≤ 122 := by decide +kernel
set_option maxRecDepth 100000 in
theorem nm_le : ∀ x : Fin 9, 1 ≤ aLen.getD x.val 0 ∧ aLen.getD x.val 0 ≤ 6 := by decide +kernel
theorem mNm_uni {T : Int → Int} {q e : Int} {x y : Nat} (hx : x < 9) (hy : y < 9) (h : mNm T q e x) (g : mNm T q e y) : x = y := by
  by_cases d : x = y
  · exact d
  · exfalso
    have h1 := h.1
    have g1 := g.1
    rcases nm_diff ⟨x, hx⟩ ⟨y, hy⟩ (fun h => d (Fin.mk.inj h)) with k | ⟨i, k1, k2⟩
    · dsimp only at k; omega
    · dsimp only at k1 k2
      have a := h.2 i.val (by omega) (by omega)
      have b := g.2 i.val (by omega) (by omega)
      rw [Int.toNat_natCast] at a b
      exact k2 (a.symm.trans b)
theorem isNamed_ok {T : Int → Int} {n q e : Int} {m : aM} {x : Nat} (hx : x < 9) (ht : mTx T n m) (n1 : n ≤ 500) (hq : m 1 5 = q) (he : m 1 6 = e) (q0 : 0 ≤ q) (q1 : q ≤ e) (e1 : e ≤ n) : mOk (Tape_isNamed x m) (fun r => (r = 0 ∨ r = 1) ∧ (r ≠ 0 ↔ mNm T q e x)) := by
  unfold Tape_isNamed
  rw [if_pos (by omega)]
  unfold sLen
  rw [Option.bind_some, hq, he, w32e (by omega) (by omega)]
  have l6 := nm_le ⟨x, hx⟩
  dsimp only at l6
  by_cases c : e - q = (aLen.getD x 0 : Nat)
  · rw [if_pos c]
    refine mL1 (Tape_isNamed_12 m x) (fun i => 0 ≤ i ∧ i ≤ (aLen.getD x 0 : Nat) ∧ ∀ j : Int, 0 ≤ j → j < i → T (q + j) = aChr x j.toNat) (fun i => (501 - i).toNat) ?_ 0 ⟨by omega, by omega, fun j a b => by omega⟩ (by omega)
    rintro fu i ⟨i0, i1, hj⟩ ih
    rw [Tape_isNamed_12, if_pos (by omega)]
    unfold sLen sChr
    rw [Option.bind_some]
    by_cases d : i < (aLen.getD x 0 : Nat)
    · have tv := ht.2 (q + i) (by omega) (by omega)
      rw [if_pos d, hq, w32e (x := q + i) (by omega) (by omega), if_pos (by omega), if_pos ⟨i0, d⟩, Option.bind_some, tv.2]
      have lt := nm_lt ⟨x, hx⟩ ⟨i.toNat, by omega⟩ (by dsimp only; omega)
      dsimp only at lt
      by_cases z : w8 (T (q + i)) = aChr x i.toNat
      · rw [if_pos z, w32e (by omega) (by omega)]
        refine ih _ ⟨by omega, by omega, fun j a b => ?_⟩ (by omega)
        by_cases ej : j = i
        · rw [ej]; exact ((w8_letter lt.1 lt.2 tv.1.1 tv.1.2).mp z.symm).symm
        · exact hj j a (by omega)
      · rw [if_neg z]
        refine mOk_some ⟨Or.inl rfl, ⟨fun h => absurd rfl h, fun h => ?_⟩⟩
        exact absurd ((w8_letter lt.1 lt.2 tv.1.1 tv.1.2).mpr (h.2 i i0 d).symm).symm z
    · rw [if_neg d]
      exact mOk_some ⟨Or.inr rfl, ⟨fun _ => ⟨c, fun j a b => hj j a (by omega)⟩, fun _ => by decide⟩⟩
  · rw [if_neg c]
    exact mOk_some ⟨Or.inl rfl, ⟨fun h => absurd rfl h, fun h => absurd h.1 c⟩⟩
/-- the reference's number of a name -/
def mKx (x : Nat) : Int := ([0, 6, 7, 1, 2, 3, 8, 4, 5] : List Int).getD x 9
theorem mKx_inj : ∀ x y : Fin 9, mKx x.val = mKx y.val → x = y := by decide
theorem mKx_bd : ∀ x : Fin 9, 0 ≤ mKx x.val ∧ mKx x.val ≤ 8 := by decide
def mKey (T : Int → Int) (q e kk : Int) : Prop := (0 ≤ kk ∧ kk ≤ 9) ∧ ∀ x : Nat, x < 9 → (mNm T q e x ↔ kk = mKx x)
theorem mKey_hit {T : Int → Int} {q e : Int} {x : Nat} (hx : x < 9) (h : mNm T q e x) {kk : Int} (hk : kk = mKx x) : mKey T q e kk := by
  subst hk
  have b := mKx_bd ⟨x, hx⟩
  dsimp only at b
  refine ⟨by omega, fun y hy => ⟨fun g => by rw [mNm_uni hx hy h g], fun g => ?_⟩⟩
  have := mKx_inj ⟨x, hx⟩ ⟨y, hy⟩ g
  rw [← Fin.mk.inj this]
  exact h
theorem mKey_miss {T : Int → Int} {q e : Int} (h : ∀ x : Nat, x < 9 → ¬ mNm T q e x) : mKey T q e 9 := by
  refine ⟨by omega, fun y hy => ⟨fun g => absurd g (h y hy), fun g => ?_⟩⟩
  have b := mKx_bd ⟨y, hy⟩
  dsimp only at b
  omega
theorem key_len : aLen.getD 9 0 = 49 := by decide +kernel
theorem key_chr {j : Int} (a : 0 ≤ j) (b : j < 49) : sChr 9 j = some (aChr 9 j.toNat) := by
  unfold sChr
  rw [key_len, if_pos ⟨a, by omega⟩]
theorem key_step {T : Int → Int} {n q e : Int} {m : aM} {x : Nat} {k len k' x1 x1' : Int} {K : Int → Int → Option Int} {Q : Int → Prop} (hx : x < 9) (hl : ((aLen.getD x 0 : Nat) : Int) = len) (k0 : 0 ≤ k) (h1 : k + len < 49) (h2 : ∀ i : Fin 6, (i.val : Int) < len → aChr 9 (k + (i.val : Int)).toNat = aChr x i.val ∧ aChr 9 (k + (i.val : Int)).toNat ≠ 32) (h3 : aChr 9 (k + len).toNat = 32) (ht : ∀ j : Int, 0 ≤ j → j < n → m 179 j.toNat = T j) (n1 : n ≤ 500) (hq : m 176 6 = q) (he : m 176 7 = e) (q0 : 0 ≤ q) (q1 : q ≤ e) (e1 : e ≤ n) (x1b : 0 ≤ x1 ∧ x1 ≤ 1000) (ex : x1 + 1 = x1') (ek : k + len + 1 = k') (y : mNm T q e x → Q x1) (z : ¬ mNm T q e x → mOk (K x1' k') Q) : mOk (R_keyAt_10 m K x1 k FU 0) Q := by
  have l6 := nm_le ⟨x, hx⟩
  dsimp only at l6
  subst ex ek
  have l55 : ¬ mNm T q e x → mOk (R_keyAt_55 m K x1 FU k) Q := by
    intro hn
    refine mL1 (R_keyAt_55 m K x1) (fun j => k ≤ j ∧ j ≤ k + len) (fun j => (100 - j).toNat) ?_ k ⟨by omega, by omega⟩ (by omega)
    rintro fu j ⟨j0, j1⟩ ih
    rw [R_keyAt_55, key_chr (by omega) (by omega), Option.bind_some]
    by_cases d : j = k + len
    · rw [d, h3, if_pos rfl, w32e (by omega) (by omega), w32e (by omega) (by omega)]
      exact z hn
    · have c := h2 ⟨(j - k).toNat, by omega⟩ (by dsimp only; omega)
      dsimp only at c
      rw [show k + (((j - k).toNat : Nat) : Int) = j by omega] at c
      rw [if_neg c.2, w32e (by omega) (by omega)]
      exact ih _ ⟨by omega, by omega⟩ (by omega)
  refine mL1 (R_keyAt_10 m K x1 k) (fun i => (0 ≤ i ∧ i ≤ len) ∧ q + i ≤ e ∧ ∀ j : Int, 0 ≤ j → j < i → T (q + j) = aChr x j.toNat) (fun i => (100 - i).toNat) ?_ 0 ⟨by omega, by omega, fun j a b => by omega⟩ (by omega)
  rintro fu i ⟨⟨i0, i1⟩, i2, hj⟩ ih
  have l39 : ((i = len ∧ q + i = e) → mNm T q e x) → (¬ (i = len ∧ q + i = e) → ¬ mNm T q e x) → mOk (R_keyAt_39 m K x1 k i) Q := by
    intro g1 g2
    unfold R_keyAt_39
    rw [w32e (x := k + i) (by omega) (by omega), key_chr (by omega) (by omega), Option.bind_some, hq, he, w32e (x := q + i) (by omega) (by omega)]
    by_cases d : i = len
    · rw [d, h3, if_pos rfl]
      by_cases u : q + i = e
      · rw [← d, if_pos u]
        exact mOk_some (y (g1 ⟨d, u⟩))
      · rw [← d, if_neg u]
        exact l55 (g2 (fun h => u h.2))
    · have c := h2 ⟨i.toNat, by omega⟩ (by dsimp only; omega)
      dsimp only at c
      rw [show k + ((i.toNat : Nat) : Int) = k + i by omega] at c
      rw [if_neg c.2]
      exact l55 (g2 (fun h => d h.1))
  rw [R_keyAt_10, w32e (x := k + i) (by omega) (by omega), key_chr (by omega) (by omega), Option.bind_some, hq, he, w32e (x := q + i) (by omega) (by omega)]
  by_cases d : i = len
  · rw [d, h3, if_pos rfl, ← d]
    refine l39 (fun h => ⟨by omega, fun j a b => hj j a (by omega)⟩) (fun h g => h ⟨d, ?_⟩)
    have := g.1
    omega
  · have c := h2 ⟨i.toNat, by omega⟩ (by dsimp only; omega)
    dsimp only at c
    rw [show k + ((i.toNat : Nat) : Int) = k + i by omega] at c
    rw [if_neg c.2]
    by_cases u : q + i < e
    · rw [if_pos u, if_pos (by omega), Option.bind_some, ht (q + i) (by omega) (by omega), c.1]
      by_cases v : T (q + i) = aChr x i.toNat
      · rw [if_pos v, w32e (by omega) (by omega)]
        refine ih _ ⟨by omega, by omega, fun j a b => ?_⟩ (by omega)
        by_cases ej : j = i
        · rw [ej]; exact v
        · exact hj j a (by omega)
      · rw [if_neg v]
        exact l39 (fun h => absurd h.1 d) (fun _ g => v (g.2 i i0 (by omega)))
    · rw [if_neg u]
      refine l39 (fun h => absurd h.1 d) (fun _ g => ?_)
      have := g.1
      omega
theorem key_go {m : aM} {x1 x2 : Int} {f : Nat} {Q : Int → Prop} (h : x2 < 49) (k : mOk (R_keyAt_10 m (R_keyAt_4 m f) x1 x2 FU 0) Q) : mOk (R_keyAt_4 m (f + 1) x1 x2) Q := by
  rw [R_keyAt_4]
  unfold sLen
  rw [Option.bind_some, key_len, if_pos (show x2 < ((49 : Nat) : Int) by omega)]
  exact k
theorem key_end {m : aM} {x1 x2 : Int} {f : Nat} {Q : Int → Prop} (h : ¬ x2 < 49) (k : Q 9) : mOk (R_keyAt_4 m (f + 1) x1 x2) Q := by
  rw [R_keyAt_4]
  unfold sLen
  rw [Option.bind_some, key_len, if_neg (show ¬ x2 < ((49 : Nat) : Int) by omega)]
  exact mOk_some k
set_option maxRecDepth 100000 in
theorem keyAt_ok {T : Int → Int} {n q e : Int} {m : aM} (ht : ∀ j : Int, 0 ≤ j → j < n → m 179 j.toNat = T j) (n1 : n ≤ 500) (hq : m 176 6 = q) (he : m 176 7 = e) (q0 : 0 ≤ q) (q1 : q ≤ e) (e1 : e ≤ n) : mOk (R_keyAt m) (mKey T q e) := by
  unfold R_keyAt
  refine key_go (f := 999999) (by decide) (key_step (x := 0) (k := 1) (len := 6) (x1' := 1) (k' := 8) (by decide) (by decide +kernel) (by decide) (by decide) (by decide +kernel) (by decide +kernel) ht n1 hq he q0 q1 e1 (by decide) (by decide) (by decide) (fun y => mKey_hit (by decide) y (by decide)) (fun z0 => ?_))
  refine key_go (f := 999998) (by decide) (key_step (x := 3) (k := 8) (len := 4) (x1' := 2) (k' := 13) (by decide) (by decide +kernel) (by decide) (by decide) (by decide +kernel) (by decide +kernel) ht n1 hq he q0 q1 e1 (by decide) (by decide) (by decide) (fun y => mKey_hit (by decide) y (by decide)) (fun z1 => ?_))
  refine key_go (f := 999997) (by decide) (key_step (x := 4) (k := 13) (len := 4) (x1' := 3) (k' := 18) (by decide) (by decide +kernel) (by decide) (by decide) (by decide +kernel) (by decide +kernel) ht n1 hq he q0 q1 e1 (by decide) (by decide) (by decide) (fun y => mKey_hit (by decide) y (by decide)) (fun z2 => ?_))
  refine key_go (f := 999996) (by decide) (key_step (x := 5) (k := 18) (len := 4) (x1' := 4) (k' := 23) (by decide) (by decide +kernel) (by decide) (by decide) (by decide +kernel) (by decide +kernel) ht n1 hq he q0 q1 e1 (by decide) (by decide) (by decide) (fun y => mKey_hit (by decide) y (by decide)) (fun z3 => ?_))
  refine key_go (f := 999995) (by decide) (key_step (x := 7) (k := 23) (len := 3) (x1' := 5) (k' := 27) (by decide) (by decide +kernel) (by decide) (by decide) (by decide +kernel) (by decide +kernel) ht n1 hq he q0 q1 e1 (by decide) (by decide) (by decide) (fun y => mKey_hit (by decide) y (by decide)) (fun z4 => ?_))
  refine key_go (f := 999994) (by decide) (key_step (x := 8) (k := 27) (len := 4) (x1' := 6) (k' := 32) (by decide) (by decide +kernel) (by decide) (by decide) (by decide +kernel) (by decide +kernel) ht n1 hq he q0 q1 e1 (by decide) (by decide) (by decide) (fun y => mKey_hit (by decide) y (by decide)) (fun z5 => ?_))
  refine key_go (f := 999993) (by decide) (key_step (x := 1) (k := 32) (len := 5) (x1' := 7) (k' := 38) (by decide) (by decide +kernel) (by decide) (by decide) (by decide +kernel) (by decide +kernel) ht n1 hq he q0 q1 e1 (by decide) (by decide) (by decide) (fun y => mKey_hit (by decide) y (by decide)) (fun z6 => ?_))
  refine key_go (f := 999992) (by decide) (key_step (x := 2) (k := 38) (len := 4) (x1' := 8) (k' := 43) (by decide) (by decide +kernel) (by decide) (by decide) (by decide +kernel) (by decide +kernel) ht n1 hq he q0 q1 e1 (by decide) (by decide) (by decide) (fun y => mKey_hit (by decide) y (by decide)) (fun z7 => ?_))
  refine key_go (f := 999991) (by decide) (key_step (x := 6) (k := 43) (len := 5) (x1' := 9) (k' := 49) (by decide) (by decide +kernel) (by decide) (by decide) (by decide +kernel) (by decide +kernel) ht n1 hq he q0 q1 e1 (by decide) (by decide) (by decide) (fun y => mKey_hit (by decide) y (by decide)) (fun z8 => ?_))
  refine key_end (f := 999990) (by decide) (mKey_miss (fun x hx => ?_))
  have : x = 0 ∨ x = 1 ∨ x = 2 ∨ x = 3 ∨ x = 4 ∨ x = 5 ∨ x = 6 ∨ x = 7 ∨ x = 8 := by omega
  rcases this with h | h | h | h | h | h | h | h | h <;> subst h <;> assumption
