/-! added: the reference's -/
/-- what holds between two candidates -/
def yJ (A : Nat → Int) (kd : Int) (m : aM) (s : Int × Int × Int) (mm : aM) : Prop := (0 ≤ s.1 ∧ s.1 ≤ 3) ∧ ((s.1 = 0 ∧ mm 176 42 = -1) ∨ (1 ≤ s.1 ∧ mm 176 42 = s.1 ∧ mm 176 43 = s.2.1 ∧ ∀ k : Int, 0 ≤ k → k < s.1 → mm 198 k.toNat = yD (A 0) s.2.2 s.1 k.toNat)) ∧ mm 177 (45 + A 18).toNat = kd ∧ (∀ i : Nat, mm 193 i ≤ mm 176 30) ∧ ∀ q i : Nat, q ≠ 181 → ¬(189 ≤ q ∧ q ≤ 195) → q ≠ 198 → ¬(q = 176 ∧ (i = 0 ∨ (29 ≤ i ∧ i ≤ 31) ∨ i = 42 ∨ i = 43)) → ¬(q = 177 ∧ (19 + A 18 = i ∨ 45 + A 18 = i ∨ (58 + 6 * A 18 ≤ i ∧ (i : Int) < 64 + 6 * A 18))) → mm q i = m q i
theorem findsAdded_ok {A : Nat → Int} {kd : Int} {m : aM} (ht : mTok A) (ha : mAeqT A (m 177)) (k0 : 0 ≤ kd ∧ kd ≤ 3) (rd : mRdy m) : mOk (R_findsAdded kd m) (fun mm => ∃ s, yRn A kd 3 s ∧ yJ A kd m s mm ∧ (m 176 30 ≤ mm 176 30 ∧ mm 176 30 ≤ m 176 30 + 1536)) := by
  have c0 := ht.1
  have c4 := ht.2.2.2.2.1
  have e18 := ha.w c4.1
  obtain ⟨rd1, rd2, rd3, rd4⟩ := rd
  unfold R_findsAdded
  rw [st1e, st1e, aup_of (by omega), aup_of (by omega), e18, w32e (by omega) (by omega), if_pos (by omega), st1e]
  have f0 : ∀ q i, ¬(q = 176 ∧ (i = 42 ∨ i = 43)) → ¬(q = 177 ∧ i = (45 + A 18).toNat) → aup (aup (aup m 176 42 (-1)) 176 43 (-1)) 177 (45 + A 18).toNat kd q i = m q i := fun q i a b => by rw [aup_of (by omega), aup_of (by omega), aup_of (by omega)]
  have v42 : aup (aup (aup m 176 42 (-1)) 176 43 (-1)) 177 (45 + A 18).toNat kd 176 42 = -1 := by rw [aup_of (by omega), aup_of (by omega), aup_self]
  have v45 : aup (aup (aup m 176 42 (-1)) 176 43 (-1)) 177 (45 + A 18).toNat kd 177 (45 + A 18).toNat = kd := by rw [aup_self]
  generalize aup (aup (aup m 176 42 (-1)) 176 43 (-1)) 177 (45 + A 18).toNat kd = m1 at f0 v42 v45 ⊢
  have J0 : yJ A kd m (0, -1, 0) m1 := ⟨by decide, Or.inl ⟨rfl, v42⟩, v45, fun i => by rw [f0 _ _ (by omega) (by omega), f0 _ _ (by omega) (by omega)]; exact rd2 i, fun q i a b c d e => f0 q i (by omega) (by omega)⟩
  -- the row of a tongue in a memory that kept it
  have rA : ∀ s mm, yJ A kd m s mm → ∀ i : Nat, i < 155 → 19 + A 18 ≠ i → 45 + A 18 ≠ i → ¬(58 + 6 * A 18 ≤ i ∧ (i : Int) < 64 + 6 * A 18) → mm 177 i = A i := fun s mm h i a b c d => by
    rw [h.2.2.2.2 177 i (by omega) (by omega) (by omega) (by omega) (by omega)]; exact ha i a b c d
  refine mL3 (R_findsAdded_22 (A 18)) (fun W n mm => (1 ≤ n ∧ n ≤ 4) ∧ W = yW (A 0) (n - 1).toNat ∧ ∃ s, yRn A kd (n - 1).toNat s ∧ yJ A kd m s mm ∧ (m 176 30 ≤ mm 176 30 ∧ mm 176 30 ≤ m 176 30 + 512 * (n - 1))) (fun _ n _ => (6 - n).toNat) ?_ 1 1 m1 ⟨by omega, rfl, (0, -1, 0), rfl, J0, by rw [f0 _ _ (by omega) (by omega)]; omega⟩ (by omega)
  rintro fu W n mm ⟨n1, eW, s0, hs0, hJ0, mk0⟩ ih
  rw [R_findsAdded_22]
  by_cases d : 3 < n
  · rw [if_pos d]
    rw [show (n - 1).toNat = 3 by omega] at hs0
    exact mOk_some ⟨s0, hs0, hJ0, by omega⟩
  have e0 : mm 177 0 = A 0 := rA _ _ hJ0 0 (by omega) (by omega) (by omega) (by omega)
  have wb := yW_bd (n := n) c0.1 c0.2 (by omega) (by omega)
  rw [if_neg d, w32e (x := 19 + A 18) (by omega) (by omega), if_pos (by omega), st1e, e0, eW, yW_s n1.1, w32e (by omega) (by omega)]
  have J1 : yJ A kd m s0 (aup mm 177 (19 + A 18).toNat n) := by
    obtain ⟨j1, j2, j3, j4, j5⟩ := hJ0
    refine ⟨j1, ?_, by rw [aup_of (by omega)]; exact j3, fun i => by rw [aup_of (by omega), aup_of (by omega)]; exact j4 i, fun q i a b c d e => by rw [aup_of (by omega)]; exact j5 q i a b c d e⟩
    rw [aup_of (by omega), aup_of (by omega), show aup mm 177 (19 + A 18).toNat n 198 = mm 198 from funext fun i => aup_of (by omega)]
    exact j2
  refine mL2 (R_findsAdded_41 (R_findsAdded_22 (A 18) fu) (A 18) (yW (A 0) n.toNat) n) (fun c mm => (0 ≤ c ∧ c ≤ yW (A 0) n.toNat) ∧ mm 177 (19 + A 18).toNat = n ∧ ∃ s, yRc A kd n s0 c.toNat s ∧ yJ A kd m s mm ∧ (m 176 30 ≤ mm 176 30 ∧ mm 176 30 ≤ m 176 30 + 512 * (n - 1) + c)) (fun c _ => (513 - c).toNat) ?_ 0 _ ⟨by omega, aup_self _ _ _ _, s0, rfl, J1, by rw [aup_of (by omega)]; omega⟩ (by omega)
  clear hJ0 mk0 J1 e0 mm
  rintro fu2 c mm ⟨c1, hl, s, hs, hJ, mk⟩ ih2
  rw [R_findsAdded_41]
  by_cases e : c < yW (A 0) n.toNat
  rotate_left
  · rw [if_neg e, w32e (by omega) (by omega)]
    refine ih _ _ _ ⟨by omega, by rw [show n + 1 - 1 = n by omega], s, ?_, hJ, by omega⟩ (by omega)
    rw [show n + 1 - 1 = n by omega]
    rw [show c = yW (A 0) n.toNat by omega] at hs
    exact yRn_s n1.1 hs0 hs
  have sp := yW_pos c0.1 n1.1 c1.1 e
  rw [if_pos e, w32e (by omega) (by omega)]
  have nxt : ∀ s' mm', yNx A kd n c s s' → yJ A kd m s' mm' → mm' 177 (19 + A 18).toNat = n → (m 176 30 ≤ mm' 176 30 ∧ mm' 176 30 ≤ m 176 30 + 512 * (n - 1) + c + 1) → mOk (R_findsAdded_130 (R_findsAdded_22 (A 18) fu) (R_findsAdded_41 (R_findsAdded_22 (A 18) fu) (A 18) (yW (A 0) n.toNat) n fu2) (A 18) (yW (A 0) n.toNat) n c mm') (fun mm => ∃ s, yRn A kd 3 s ∧ yJ A kd m s mm ∧ (m 176 30 ≤ mm 176 30 ∧ mm 176 30 ≤ m 176 30 + 1536)) := by
    intro s' mm' h1 h2 h3 h4
    unfold R_findsAdded_130
    rw [w32e (by omega) (by omega)]
    exact ih2 _ _ ⟨by omega, h3, s', yRc_s c1.1 hs h1, h2, by omega⟩ (by omega)
  refine mL3 (R_findsAdded_50 (R_findsAdded_22 (A 18) fu) (R_findsAdded_41 (R_findsAdded_22 (A 18) fu) (A 18) (yW (A 0) n.toNat) n fu2) (A 18) (yW (A 0) n.toNat) n c) (fun r k mm => (-1 ≤ k ∧ k ≤ n - 1) ∧ r = yDv (A 0) c n k ∧ mm 177 (19 + A 18).toNat = n ∧ yJ A kd m s mm ∧ (m 176 30 ≤ mm 176 30 ∧ mm 176 30 ≤ m 176 30 + 512 * (n - 1) + c) ∧ ∀ j : Int, k < j → 0 ≤ j → j < n → mm 177 (58 + 6 * A 18 + j).toNat = yD (A 0) c n j.toNat) (fun _ k _ => (k + 2).toNat) ?_ c (n - 1) mm ⟨by omega, by unfold yDv; rw [if_pos rfl], hl, hJ, mk, fun j a b d => by omega⟩ (by omega)
  clear hl hJ mk mm
  rintro fu3 r k mm ⟨k1, er, hl, hJ, mk, hj⟩ ih3
  have hA := rA _ _ hJ
  rw [R_findsAdded_50]
  by_cases g : k < 0
  rotate_left
  · have bd := yDv_bd (S := A 0) (c := c) (n := n) (k := k) c1.1 sp
    have dv := div_bd (c := r) (S := A 0) (by omega) sp
    have e0 : mm 177 0 = A 0 := hA 0 (by omega) (by omega) (by omega) (by omega)
    rw [if_neg g, e0, if_pos (by omega), w32e (x := 6 * A 18) (by omega) (by omega), w32e (x := 58 + 6 * A 18) (by omega) (by omega), w32e (x := 58 + 6 * A 18 + k) (by omega) (by omega), if_pos (by omega), st1e, aup_of (by omega), e0, if_pos (by omega), tmod_nn (by omega), tdiv_nn (by omega), w32e (x := r / A 0) (by omega) (by omega), w32e (by omega) (by omega)]
    refine ih3 _ _ _ ⟨by omega, ?_, by rw [aup_of (by omega)]; exact hl, ?_, by rw [aup_of (by omega)]; exact mk, fun j a b e => ?_⟩ (by omega)
    · rw [er, yDv_s (by omega) (by omega)]; rfl
    · obtain ⟨j1, j2, j3, j4, j5⟩ := hJ
      refine ⟨j1, ?_, by rw [aup_of (by omega)]; exact j3, fun i => by rw [aup_of (by omega), aup_of (by omega)]; exact j4 i, fun q i a b c d e => by rw [aup_of (by omega)]; exact j5 q i a b c d e⟩
      rw [aup_of (by omega), aup_of (by omega), show aup mm 177 (58 + 6 * A 18 + k).toNat (r % A 0) 198 = mm 198 from funext fun i => aup_of (by omega)]
      exact j2
    · by_cases z : j = k
      · rw [z, aup_self, er]; unfold yD; rw [Int.toNat_of_nonneg (by omega)]
      · rw [aup_of (by omega)]; exact hj j (by omega) b e
  rw [if_pos g]
  have rw1 : yRw A (yD (A 0) c n) (mm 177) n := ⟨hA, hl, fun j a b => ⟨hj j (by omega) a b, (yD_bd sp _).1, by have := (yD_bd (S := A 0) (c := c) (n := n) sp j.toNat).2; omega⟩⟩
  refine mOk_bind (isThere_a ht rw1 (by omega)) (fun r10 k10 => ?_)
  rcases k10 with ⟨a1, a2⟩ | ⟨a1, a2⟩
  · rw [if_neg (by omega)]
    exact nxt s mm (Or.inr ⟨fun q => q.1.1.1 a2, rfl⟩) hJ hl (by omega)
  rw [if_pos a1]
  refine mOk_bind (isShaped_ok ht rw1 (by omega)) (fun r12 k12 => ?_)
  rcases k12 with ⟨b1, b2⟩ | ⟨b1, b2⟩
  rotate_left
  · rw [if_pos b1]
    exact nxt s mm (Or.inr ⟨fun q => b2 q.1.1.2, rfl⟩) hJ hl (by omega)
  rw [if_neg (by omega)]
  refine mOk_bind (R_leastUnlike_ok ht rw1 (by omega)) (fun r14 k14 => ?_)
  obtain ⟨p1, p2⟩ := k14
  have J14 : yJ A kd m s r14.2 := by
    obtain ⟨j1, j2, j3, j4, j5⟩ := hJ
    refine ⟨j1, ?_, by rw [p2 _ _ (by omega)]; exact j3, fun i => by rw [p2 _ _ (by omega), p2 _ _ (by omega)]; exact j4 i, fun q i a b c d e => by rw [p2 _ _ a]; exact j5 q i a b c d e⟩
    rw [p2 _ _ (by omega), p2 _ _ (by omega), show r14.2 198 = mm 198 from funext fun i => p2 _ _ (by omega)]
    exact j2
  have e177 : r14.2 177 = mm 177 := funext fun i => p2 _ _ (by omega)
  have mk14 : r14.2 176 30 = mm 176 30 := p2 _ _ (by omega)
  have go : (s.1 = 0 ∨ s.2.1 < yCost A (yD (A 0) c n) n) → mOk (R_findsAdded_98 (R_findsAdded_22 (A 18) fu) (R_findsAdded_41 (R_findsAdded_22 (A 18) fu) (A 18) (yW (A 0) n.toNat) n fu2) (A 18) (yW (A 0) n.toNat) n c r14.1 r14.2) (fun mm => ∃ s, yRn A kd 3 s ∧ yJ A kd m s mm ∧ (m 176 30 ≤ mm 176 30 ∧ mm 176 30 ≤ m 176 30 + 1536)) := by
    intro hc
    unfold R_findsAdded_98
    obtain ⟨j1, j2, j3, j4, j5⟩ := J14
    have e18' : r14.2 177 18 = A 18 := by rw [e177]; exact hA 18 (by omega) (by omega) (by omega) (by omega)
    have hO : yO A (aup r14.2 177 18 (r14.2 177 18 + 1) 177) kd n (yD (A 0) c n) := by
      refine ⟨by rw [aup_self, e18'], fun i a b c d e => ?_, ?_, ?_, fun j j0 j1 => ?_⟩
      · rw [aup_of (by omega), e177]; exact hA i a c d e
      · rw [aup_of (by omega), e177]; exact hl
      · rw [aup_of (by omega)]; exact j3
      · rw [aup_of (by omega), e177]; exact hj j (by omega) j0 j1
    have dd := fun k a b => (rw1.2.2 k a b).2
    refine mOk_bind (R_sureWith_ok (M := 0) (m := r14.2) (by rw [e18']; exact c4) (yO_v ht hO (by omega) k0 dd) (by omega) (by omega) (by omega) j4) (fun r16 k16 => ?_)
    obtain ⟨g1, g2, g3, g4⟩ := k16
    rw [j5 176 32 (by omega) (by omega) (by omega) (by omega) (by omega), rd3, j5 176 33 (by omega) (by omega) (by omega) (by omega) (by omega), rd4, yO_sur ht (Or.inl rfl) (by omega) k0 dd hO] at g1
    have l16 : r16.2 177 (19 + A 18).toNat = n := by rw [g2 _ _ (by omega) (by omega), e177]; exact hl
    have f16 : ∀ q i : Nat, q ≠ 181 → ¬(189 ≤ q ∧ q ≤ 195) → q ≠ 198 → ¬(q = 176 ∧ (i = 0 ∨ (29 ≤ i ∧ i ≤ 31) ∨ i = 42 ∨ i = 43)) → ¬(q = 177 ∧ (19 + A 18 = i ∨ 45 + A 18 = i ∨ (58 + 6 * A 18 ≤ i ∧ (i : Int) < 64 + 6 * A 18))) → r16.2 q i = m q i := fun q i a b c d e => by rw [g2 q i b (by omega)]; exact j5 q i a b c d e
    rcases g1 with ⟨u, su⟩ | ⟨u, su⟩
    rotate_left
    · rw [if_pos u]
      refine nxt s _ (Or.inr ⟨fun q => su q.1.2, rfl⟩) ⟨j1, ?_, by rw [g2 _ _ (by omega) (by omega)]; exact j3, g4, f16⟩ l16 (by omega)
      rw [g2 _ _ (by omega) (by omega), g2 _ _ (by omega) (by omega), show r16.2 198 = r14.2 198 from funext fun i => g2 _ _ (by omega) (by omega)]
      exact j2
    rw [if_neg (by omega), st1e, st1e]
    have f5 : ∀ q i, ¬(q = 176 ∧ (i = 42 ∨ i = 43)) → aup (aup r16.2 176 42 n) 176 43 r14.1 q i = r16.2 q i := fun q i a => by rw [aup_of (by omega), aup_of (by omega)]
    have w42 : aup (aup r16.2 176 42 n) 176 43 r14.1 176 42 = n := by rw [aup_of (by omega), aup_self]
    have w43 : aup (aup r16.2 176 42 n) 176 43 r14.1 176 43 = r14.1 := by rw [aup_self]
    generalize aup (aup r16.2 176 42 n) 176 43 r14.1 = m5 at f5 w42 w43 ⊢
    refine mL2 (R_findsAdded_111 (R_findsAdded_22 (A 18) fu) (R_findsAdded_41 (R_findsAdded_22 (A 18) fu) (A 18) (yW (A 0) n.toNat) n fu2) (A 18) (yW (A 0) n.toNat) n c) (fun k mm => (0 ≤ k ∧ k ≤ n) ∧ (∀ j : Int, 0 ≤ j → j < k → mm 198 j.toNat = yD (A 0) c n j.toNat) ∧ ∀ q i, q ≠ 198 → mm q i = m5 q i) (fun k _ => (4 - k).toNat) ?_ 0 m5 ⟨by omega, fun j a b => by omega, fun _ _ _ => rfl⟩ (by omega)
    rintro fu4 k' m6 ⟨k2, hk, fr⟩ ih4
    rw [R_findsAdded_111]
    by_cases y : k' < n
    · rw [if_pos y, w32e (x := 6 * A 18) (by omega) (by omega), w32e (x := 58 + 6 * A 18) (by omega) (by omega), w32e (x := 58 + 6 * A 18 + k') (by omega) (by omega), if_pos (by omega), if_pos (by omega), st1e, fr _ _ (by omega), f5 _ _ (by omega), g2 _ _ (by omega) (by omega), e177, hj k' (by omega) k2.1 y, w32e (by omega) (by omega)]
      refine ih4 _ _ ⟨by omega, fun j a b => ?_, fun q i a => by rw [aup_of (by omega)]; exact fr q i a⟩ (by omega)
      by_cases z : j = k'
      · rw [z, aup_self]
      · rw [aup_of (by omega)]; exact hk j a (by omega)
    · rw [if_neg y]
      have f6 : ∀ q i, q ≠ 198 → ¬(q = 176 ∧ (i = 42 ∨ i = 43)) → m6 q i = r16.2 q i := fun q i a b => by rw [fr q i a]; exact f5 q i b
      refine nxt (n, yCost A (yD (A 0) c n) n, c) _ (Or.inl ⟨⟨⟨⟨a2, b2⟩, su⟩, hc⟩, rfl⟩) ⟨by dsimp only; omega, Or.inr ⟨by dsimp only; omega, ?_, ?_, fun j a b => ?_⟩, ?_, fun i => ?_, fun q i a b c d e => ?_⟩ ?_ ?_
      · rw [fr _ _ (by omega)]; exact w42
      · rw [fr _ _ (by omega), w43]; exact p1
      · dsimp only at b ⊢; exact hk j a (by omega)
      · rw [f6 _ _ (by omega) (by omega), g2 _ _ (by omega) (by omega)]; exact j3
      · rw [f6 _ _ (by omega) (by omega), f6 _ _ (by omega) (by omega)]; exact g4 i
      · rw [f6 _ _ c (by omega)]; exact f16 q i a b c d e
      · rw [f6 _ _ (by omega) (by omega)]; exact l16
      · rw [f6 _ _ (by omega) (by omega)]; omega
  rw [p1] at go ⊢
  rcases J14.2.1 with ⟨y1, y2⟩ | ⟨y1, y2, y3, -⟩
  · rw [if_pos y2]; exact go (Or.inl y1)
  · rw [if_neg (by omega), y3]
    by_cases z : s.2.1 < yCost A (yD (A 0) c n) n
    · rw [if_pos z]; exact go (Or.inr z)
    · rw [if_neg z]
      exact nxt s _ (Or.inr ⟨fun q => by rcases q.2 with q | q <;> omega, rfl⟩) J14 (by rw [e177]; exact hl) (by omega)
