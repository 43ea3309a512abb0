/-! changed: the reference's, and the step -/
theorem R_changed_ok {x : Int} {m : aM} (hx : 0 ≤ x ∧ x ≤ 2) (hA : mVx (m 177)) (w1 : m 177 18 ≤ 12) (a0 : 0 ≤ m 177 0 ∧ m 177 0 ≤ 8) (rd : mRdy m) : mOk (R_changed x m) (fun r => (∃ w k s, yCR (m 177) w k s ∧ r.1 = if x = 0 then w else if x = 1 then k else s) ∧ (∀ q i, ¬(189 ≤ q ∧ q ≤ 195) → ¬(q = 176 ∧ (i = 0 ∨ (29 ≤ i ∧ i ≤ 31))) → r.2 q i = m q i) ∧ (m 176 30 ≤ r.2 176 30 ∧ r.2 176 30 ≤ m 176 30 + 700) ∧ ∀ s : Nat, r.2 193 s ≤ r.2 176 30) := by
  obtain ⟨rd1, rd2, rd3, rd4⟩ := rd
  unfold R_changed
  rw [st1e, within_eq, if_pos (by omega), Option.bind_some, if_neg (by decide)]
  have f0 : ∀ q i, ¬(q = 176 ∧ i = 0) → aup m 176 0 0 q i = m q i := fun q i a => aup_of (by omega)
  generalize aup m 176 0 0 = m1 at f0 ⊢
  refine mL2 (R_changed_13 x) (fun w mm => (0 ≤ w ∧ w ≤ m 177 18) ∧ (∀ w' k' s', yV (m 177) w' k' s' → w' < w → ¬ yQ (m 177) w' k' s') ∧ (∀ q i, ¬(189 ≤ q ∧ q ≤ 195) → ¬(q = 176 ∧ (i = 0 ∨ (29 ≤ i ∧ i ≤ 31))) → mm q i = m q i) ∧ (m 176 30 ≤ mm 176 30 ∧ mm 176 30 ≤ m 176 30 + 48 * w) ∧ ∀ s : Nat, mm 193 s ≤ mm 176 30) (fun w _ => (13 - w).toNat) ?_ 0 m1 ⟨by have := hA.1; omega, fun w' k' s' g l => by have := g.1.1; omega, fun q i a b => f0 q i (by omega), by rw [f0 _ _ (by omega)]; omega, fun s => by rw [f0 _ _ (by omega), f0 _ _ (by omega)]; exact rd2 s⟩ (by omega)
  rintro fu w mm ⟨w2, hw, fr, mk, mb⟩ ih
  rw [R_changed_13, show mm 177 18 = m 177 18 from fr _ _ (by omega) (by omega)]
  by_cases d : w < m 177 18
  rotate_left
  · rw [if_neg d]
    refine mOk_some ⟨⟨-1, -1, -1, Or.inl ⟨⟨rfl, rfl, rfl⟩, fun w' k' s' g => hw w' k' s' g (by have := g.1.2; omega)⟩, ?_⟩, fr, by dsimp only; omega, mb⟩
    dsimp only
    split <;> first | rfl | (split <;> rfl)
  rw [if_pos d]
  have dl := (hA.2.1 w w2.1 d).1
  refine mL2 (R_changed_21 (R_changed_13 x fu) x w) (fun k mm => (0 ≤ k ∧ k ≤ m 177 (19 + w).toNat) ∧ (∀ w' k' s', yV (m 177) w' k' s' → (w' < w ∨ (w' = w ∧ k' < k)) → ¬ yQ (m 177) w' k' s') ∧ (∀ q i, ¬(189 ≤ q ∧ q ≤ 195) → ¬(q = 176 ∧ (i = 0 ∨ (29 ≤ i ∧ i ≤ 31))) → mm q i = m q i) ∧ (m 176 30 ≤ mm 176 30 ∧ mm 176 30 ≤ m 176 30 + 48 * w + 8 * k) ∧ ∀ s : Nat, mm 193 s ≤ mm 176 30) (fun k _ => (7 - k).toNat) ?_ 0 mm ⟨by omega, fun w' k' s' g l => hw w' k' s' g (by have := g.2.1.1; omega), fr, by omega, mb⟩ (by omega)
  clear hw fr mk mb mm
  rintro fu2 k mm ⟨k1, hw, fr, mk, mb⟩ ih2
  have e177 : mm 177 = m 177 := rowEq fun i => fr _ _ (by omega) (by omega)
  rw [R_changed_21, w32e (x := 19 + w) (by omega) (by omega), if_pos (by omega), e177]
  by_cases e : k < m 177 (19 + w).toNat
  rotate_left
  · rw [if_neg e, w32e (by omega) (by omega)]
    exact ih _ _ ⟨by omega, fun w' k' s' g l => hw w' k' s' g (by
      by_cases z : w' = w
      · have := g.2.1.2; rw [z] at this; omega
      · omega), fr, by omega, mb⟩ (by omega)
  have ix : w32 (w32 (58 + w32 (6 * w)) + k) = 58 + 6 * w + k := by rw [w32e (x := 6 * w) (by omega) (by omega), w32e (x := 58 + 6 * w) (by omega) (by omega), w32e (by omega) (by omega)]
  rw [if_pos e, ix, if_pos (by omega)]
  refine mL2 (R_changed_42 (R_changed_13 x fu) (R_changed_21 (R_changed_13 x fu) x w fu2) x w k (m 177 (58 + 6 * w + k).toNat)) (fun s mm => (0 ≤ s ∧ s ≤ m 177 0) ∧ (∀ w' k' s', yV (m 177) w' k' s' → yL w' k' s' w k s → ¬ yQ (m 177) w' k' s') ∧ (∀ q i, ¬(189 ≤ q ∧ q ≤ 195) → ¬(q = 176 ∧ (i = 0 ∨ (29 ≤ i ∧ i ≤ 31))) → mm q i = m q i) ∧ (m 176 30 ≤ mm 176 30 ∧ mm 176 30 ≤ m 176 30 + 48 * w + 8 * k + s) ∧ ∀ s : Nat, mm 193 s ≤ mm 176 30) (fun s _ => (9 - s).toNat) ?_ 0 mm ⟨by omega, fun w' k' s' g l => hw w' k' s' g (by have := g.2.2.1; unfold yL at l; omega), fr, by omega, mb⟩ (by omega)
  clear hw fr mk mb e177 mm
  rintro fu3 s mm ⟨s1, hw, fr, mk, mb⟩ ih3
  have e177 : mm 177 = m 177 := rowEq fun i => fr _ _ (by omega) (by omega)
  rw [R_changed_42, e177, ix]
  by_cases g : s < m 177 0
  rotate_left
  · rw [if_neg g, w32e (by omega) (by omega)]
    exact ih2 _ _ ⟨by omega, fun w' k' s' g' l => hw w' k' s' g' (by have := g'.2.2.2; unfold yL; omega), fr, by omega, mb⟩ (by omega)
  rw [if_pos g]
  have yv : yV (m 177) w k s := ⟨⟨w2.1, d⟩, ⟨k1.1, e⟩, ⟨s1.1, g⟩⟩
  have nxt : ∀ mm', (∀ q i, ¬(189 ≤ q ∧ q ≤ 195) → ¬(q = 176 ∧ (i = 0 ∨ (29 ≤ i ∧ i ≤ 31))) → mm' q i = m q i) → (m 176 30 ≤ mm' 176 30 ∧ mm' 176 30 ≤ m 176 30 + 48 * w + 8 * k + s + 1) → (∀ s : Nat, mm' 193 s ≤ mm' 176 30) → ¬ yQ (m 177) w k s → mOk (R_changed_99 (R_changed_13 x fu) (R_changed_21 (R_changed_13 x fu) x w fu2) (R_changed_42 (R_changed_13 x fu) (R_changed_21 (R_changed_13 x fu) x w fu2) x w k (m 177 (58 + 6 * w + k).toNat) fu3) x w k (m 177 (58 + 6 * w + k).toNat) s mm') (fun r => (∃ w k s, yCR (m 177) w k s ∧ r.1 = if x = 0 then w else if x = 1 then k else s) ∧ (∀ q i, ¬(189 ≤ q ∧ q ≤ 195) → ¬(q = 176 ∧ (i = 0 ∨ (29 ≤ i ∧ i ≤ 31))) → r.2 q i = m q i) ∧ (m 176 30 ≤ r.2 176 30 ∧ r.2 176 30 ≤ m 176 30 + 700) ∧ ∀ s : Nat, r.2 193 s ≤ r.2 176 30) := by
    intro mm' fr' mk' mb' no
    unfold R_changed_99
    rw [w32e (by omega) (by omega)]
    refine ih3 _ _ ⟨by omega, fun w' k' s' g' l => ?_, fr', by omega, mb'⟩ (by omega)
    by_cases z : w' = w ∧ k' = k ∧ s' = s
    · rw [z.1, z.2.1, z.2.2]; exact no
    · exact hw w' k' s' g' (by unfold yL at *; omega)
  by_cases z : s = m 177 (58 + 6 * w + k).toNat
  · rw [if_pos z]
    refine nxt mm fr (by omega) mb (fun n => n.1 ⟨w, ⟨w2.1, d⟩, rfl, fun j j0 j1 => ?_⟩)
    by_cases c : j = k
    · rw [if_pos c, z, c]
    · rw [if_neg c]
  rw [if_neg z, if_pos (by omega), st1e]
  have f1 : ∀ q i, ¬(q = 177 ∧ i = (58 + 6 * w + k).toNat) → aup mm 177 (58 + 6 * w + k).toNat s q i = mm q i := fun q i a => aup_of (by omega)
  have u1 : aup mm 177 (58 + 6 * w + k).toNat s 177 = yU (m 177) w k s := by
    funext i
    unfold yU
    by_cases c : i = (58 + 6 * w + k).toNat
    · rw [if_pos c, c, aup_self]
    · rw [if_neg c, aup_of (by omega), e177]
  generalize aup mm 177 (58 + 6 * w + k).toNat s = m3 at f1 u1 ⊢
  have vx3 : mVx (m3 177) := by rw [u1]; exact yVx hA ⟨w2.1, d⟩ (by omega) (by omega)
  have u19 : yU (m 177) w k s (19 + w).toNat = m 177 (19 + w).toNat := if_neg (by omega)
  have u18 : yU (m 177) w k s 18 = m 177 18 := if_neg (by omega)
  -- the sound is put back
  have bk : ∀ (m4 : aM), (∀ q i, ¬(189 ≤ q ∧ q ≤ 195) → ¬(q = 176 ∧ (29 ≤ i ∧ i ≤ 31)) → m4 q i = m3 q i) → ∀ q i, ¬(189 ≤ q ∧ q ≤ 195) → ¬(q = 176 ∧ (i = 0 ∨ (29 ≤ i ∧ i ≤ 31))) → aup m4 177 (58 + 6 * w + k).toNat (m 177 (58 + 6 * w + k).toNat) q i = m q i := by
    intro m4 f4 q i a b
    by_cases c : q = 177 ∧ i = (58 + 6 * w + k).toNat
    · rw [c.1, c.2, aup_self]
    · rw [aup_of (by omega), f4 q i a (by omega), f1 q i c]; exact fr q i a b
  have bk30 : ∀ (m4 : aM) (v : Int), aup m4 177 (58 + 6 * w + k).toNat v 176 30 = m4 176 30 := fun m4 v => aup_of (by omega)
  have bk193 : ∀ (m4 : aM) (v : Int) (j : Nat), aup m4 177 (58 + 6 * w + k).toNat v 193 j = m4 193 j := fun m4 v j => aup_of (by omega)
  have f30 : m3 176 30 = mm 176 30 := f1 _ _ (by omega)
  have f193 : ∀ j, m3 193 j = mm 193 j := fun j => f1 _ _ (by omega)
  refine mOk_bind (isThere_ok (w := w) (m := m3) (by rw [u1, u18]; have := hA.1; omega) w2.1 (by omega) (by rw [u1, u19]; exact dl)) (fun r kr => ?_)
  rw [u1, u18] at kr
  unfold R_changed_73
  rcases kr with ⟨kr, v, v0, v1, t⟩ | ⟨kr, t⟩
  · rw [if_neg (by omega)]
    unfold R_changed_74
    rw [ix, if_pos (by omega), st1e, if_pos rfl]
    exact nxt _ (bk m3 (fun _ _ _ _ => rfl)) (by rw [bk30, f30]; omega) (fun j => by rw [bk193, bk30, f30, f193]; exact mb j) (fun n => n.1 ((yT_ref hA ⟨w2.1, d⟩ ⟨k1.1, e⟩ z).mpr ⟨v, v0, v1, t⟩))
  rw [if_pos kr]
  have nt : ¬ yT (m 177) w k s := fun t' => by
    obtain ⟨v, v0, v1, t''⟩ := (yT_ref hA ⟨w2.1, d⟩ ⟨k1.1, e⟩ z).mp t'
    exact t v v0 v1 t''
  have e32 : m3 176 32 = 0 := by rw [f1 _ _ (by omega), fr _ _ (by omega) (by omega)]; exact rd3
  have e33 : m3 176 33 = 0 := by rw [f1 _ _ (by omega), fr _ _ (by omega) (by omega)]; exact rd4
  refine mOk_bind (isSure_ok (m := m3) (M := 0) vx3 (by omega) (by omega) (by rw [f30]; omega) (fun s => by rw [f193, f30]; exact mb s)) (fun r2 k2 => ?_)
  obtain ⟨q1, q2, q3, q4⟩ := k2
  rw [u1, e32, e33] at q1
  rcases q1 with ⟨u, su⟩ | ⟨u, su⟩
  · rw [if_neg (show ¬ r2.1 = 0 by omega)]
    unfold R_changed_74
    rw [ix, if_pos (by omega), st1e, if_neg (by decide)]
    have hit : ∀ v : Int, (v = if x = 0 then w else if x = 1 then k else s) → mOk (some (v, aup r2.2 177 (58 + 6 * w + k).toNat (m 177 (58 + 6 * w + k).toNat))) (fun r => (∃ w k s, yCR (m 177) w k s ∧ r.1 = if x = 0 then w else if x = 1 then k else s) ∧ (∀ q i, ¬(189 ≤ q ∧ q ≤ 195) → ¬(q = 176 ∧ (i = 0 ∨ (29 ≤ i ∧ i ≤ 31))) → r.2 q i = m q i) ∧ (m 176 30 ≤ r.2 176 30 ∧ r.2 176 30 ≤ m 176 30 + 700) ∧ ∀ s : Nat, r.2 193 s ≤ r.2 176 30) := by
      intro v ev
      refine mOk_some ⟨⟨w, k, s, Or.inr ⟨yv, ⟨nt, su⟩, hw⟩, ev⟩, bk r2.2 q2, ?_, fun j => ?_⟩
      · dsimp only; rw [bk30, q3, f30]; omega
      · dsimp only; rw [bk193, bk30]; exact q4 j
    by_cases x0 : x = 0
    · rw [if_pos x0]; exact hit _ (by rw [if_pos x0])
    · rw [if_neg x0]
      by_cases x1 : x = 1
      · rw [if_pos x1]; exact hit _ (by rw [if_neg x0, if_pos x1])
      · rw [if_neg x1]; exact hit _ (by rw [if_neg x0, if_neg x1])
  · rw [if_pos u]
    unfold R_changed_74
    rw [ix, if_pos (by omega), st1e, if_pos rfl]
    exact nxt _ (bk r2.2 q2) (by rw [bk30, q3, f30]; omega) (fun j => by rw [bk193, bk30]; exact q4 j) (fun n => su n.2)
theorem changed_c {A : Nat → Int} {w k s : Int} (ht : mTok A) (h : yCC A w k s) : ∀ (m' : aM) (j : Int) (r : Int × aM), 0 ≤ j → j < 3 → mAeqT A (m' 177) → mRdy m' → R_changed j m' = some r → r.1 = if j = 0 then w else if j = 1 then k else s := by
  intro m' j r j0 j1 ha rd kr
  have c4 := ht.2.2.2.2.1
  have e0 : m' 177 0 = A 0 := ha 0 (by omega) (by omega) (by omega) (by omega)
  obtain ⟨r0, k0, ⟨w', k', s', md, e⟩, -⟩ := R_changed_ok (x := j) (m := m') ⟨j0, by omega⟩ (mVx_of ht ha) (by rw [ha.w c4.1]; exact c4.2) (by rw [e0]; exact ht.1) rd
  rw [kr] at k0
  obtain ⟨e1, e2, e3⟩ := yCh_uni (fun w k s a b => b (a _ ha)) (fun w k s a b => b _ ha a) (yV_T ht ha) h md
  rw [Option.some.inj k0, e, e1, e2, e3]
theorem findChange_all {m : aM} (ht : mTok (m 177)) (hr : mTR 25 47 (m 177) m) (hm : mMendC m) : mOk (Mender_findChange m) (fun mm => (∀ (m' : aM) (j : Int) (r : Int × aM), 0 ≤ j → j < 3 → mAeqT (m 177) (m' 177) → mRdy m' → R_changed j m' = some r → r.1 = mm 79 (12 + j).toNat) ∧ mMendC mm ∧ ∀ q i, ¬(80 ≤ q ∧ q ≤ 106) → ¬(q = 79 ∧ (11 ≤ i ∧ i ≤ 14)) → mm q i = m q i) := by
  obtain ⟨k1, k2, k3, k4, k5, k6⟩ := hm
  by_cases c : m 79 11 = 0
  · refine mOk_mono (findChange_ok ht hr c) (fun mm k => ?_)
    obtain ⟨b1, b2, fr⟩ := k
    have cc : ∀ (m' : aM) (j : Int) (r : Int × aM), 0 ≤ j → j < 3 → mAeqT (m 177) (m' 177) → mRdy m' → R_changed j m' = some r → r.1 = mm 79 (12 + j).toNat := by
      intro m' j r j0 j1 ha rd kr
      rw [changed_c ht b1 m' j r j0 j1 ha rd kr]
      have : j = 0 ∨ j = 1 ∨ j = 2 := by omega
      rcases this with h | h | h <;> subst h <;> rfl
    refine ⟨cc, ?_, fr⟩
    have row : ∀ q, ¬(79 ≤ q ∧ q ≤ 106) → mm q = m q := fun q a => rowEq fun i => fr q i (by omega) (by omega)
    unfold mMendC
    rw [row 177 (by omega), row 107 (by omega), row 108 (by omega), row 109 (by omega), row 111 (by omega), fr 79 6 (by omega) (by omega), fr 79 10 (by omega) (by omega), fr 79 15 (by omega) (by omega)]
    refine ⟨k1, k2, fun j j0 j1 => ?_, k4, Or.inr ⟨b2, cc⟩, k6⟩
    rw [row (112 + 2 * j.toNat) (by omega), row (113 + 2 * j.toNat) (by omega)]
    exact k3 j j0 j1
  · unfold Mender_findChange
    rw [if_neg c]
    exact mOk_some ⟨(k5.resolve_left c).2, ⟨k1, k2, k3, k4, k5, k6⟩, fun _ _ _ _ => rfl⟩
theorem st_changed {n : Nat} {m : aM} (hn : n < 64) (h : mInv n m) (x1 : Int) : ∃ r m1 m2, B_changed x1 m = some (r, m1) ∧ R_changed x1 m1 = some (r, m2) ∧ mInv (n + 1) m2 := by
  by_cases c : 0 ≤ x1 ∧ x1 ≤ 2
  rotate_left
  · refine ⟨-2, m, aup m 176 0 0, ?_, ?_, mInv_0 h⟩
    · unfold B_changed
      by_cases d : x1 < 0
      · rw [if_pos d]
      · rw [if_neg d, if_pos (by omega)]
    · unfold R_changed
      rw [st1e, within_eq, if_neg (by omega), Option.bind_some, if_pos rfl]
  obtain ⟨m1, kB, q1, q2, q3⟩ := findChange_all h.2.2.1 h.2.2.2.1 h.2.2.2.2.2.2.2.2
  have mk := h.2.2.2.2.2.2.1
  have c4 := h.2.2.1.2.2.2.2.1
  have r0 := mRdy_of (by omega) mk
  have e177 : m1 177 = m 177 := rowEq fun i => q3 _ _ (by omega) (by omega)
  have rd : mRdy m1 := by
    unfold mRdy at *
    rw [q3 176 30 (by omega) (by omega), q3 176 32 (by omega) (by omega), q3 176 33 (by omega) (by omega), show m1 193 = m 193 from funext fun i => q3 _ _ (by omega) (by omega)]
    exact r0
  have ha : mAeqT (m 177) (m1 177) := by rw [e177]; exact mAeqT.refl _
  obtain ⟨⟨r', m2⟩, kR, -, g1, g3, g4⟩ := R_changed_ok (x := x1) (m := m1) c (mVx_of h.2.2.1 ha) (by rw [e177]; exact c4.2) (by rw [e177]; exact h.2.2.1.1) rd
  dsimp only at g1 g3 g4
  have er : r' = m1 79 (12 + x1).toNat := q1 m1 x1 _ c.1 (by omega) ha rd kR
  refine ⟨r', m1, m2, ?_, kR, ?_⟩
  · unfold B_changed
    rw [if_neg (by omega), if_neg (by omega), kB, Option.bind_some, er]
    have : x1 = 0 ∨ x1 = 1 ∨ x1 = 2 := by omega
    rcases this with h | h | h <;> subst h <;> rfl
  · have f2 : ∀ q i, ¬(79 ≤ q ∧ q ≤ 106) → ¬(189 ≤ q ∧ q ≤ 195) → ¬(q = 176 ∧ (i = 0 ∨ (29 ≤ i ∧ i ≤ 31))) → m2 q i = m q i := fun q i a b e => by rw [g1 q i b e]; exact q3 q i (by omega) (by omega)
    have f3 : ∀ q, 79 ≤ q → q ≤ 119 → m2 q = m1 q := fun q a b => rowEq fun i => g1 q i (by omega) (by omega)
    have e30 : m1 176 30 = m 176 30 := q3 _ _ (by omega) (by omega)
    refine mInv_srch h (fun q i hd a b e g g' => f2 q i (by unfold mDep at hd; omega) (by unfold mDep at hd; omega) (by unfold mDep at hd; omega)) ?_ ?_
    · exact ⟨by have := mk.1; omega, g4, by rw [f2 _ _ (by omega) (by omega) (by omega)]; exact mk.2.2.1, by rw [f2 _ _ (by omega) (by omega) (by omega)]; exact mk.2.2.2⟩
    · exact mMendC_of (by rw [show m2 177 = m1 177 from rowEq fun i => g1 _ _ (by omega) (by omega)]; exact mAeqT.refl _) (by rw [e177]; exact c4.1) (f3 79 (by omega) (by omega)) (fun q a b => f3 q (by omega) b) q2
