/-! paused -/
def yPd (Y N : Int → Prop) (b : Int) : Prop := (0 ≤ b ∧ b < 16) ∧ Y b ∧ ∀ s : Int, 0 ≤ s → s < 16 → (pcn s < pcn b ∨ (pcn s = pcn b ∧ s < b)) → N s
def yPC (A : Nat → Int) (b : Int) : Prop := yPd (fun s => ∀ A', mAeqT A A' → mSur A' 0 0 s) (fun s => ∀ A', mAeqT A A' → ¬ mSur A' 0 0 s) b
def yPR (A : Nat → Int) (b : Int) : Prop := yPd (fun s => mSur A 0 0 s) (fun s => ¬ mSur A 0 0 s) b
theorem yPd_uni {Y N Y' N' : Int → Prop} {b b' : Int} (h1 : ∀ s, Y s → ¬ N' s) (h2 : ∀ s, Y' s → ¬ N s) (h : yPd Y N b) (h' : yPd Y' N' b') : b = b' := by
  obtain ⟨a1, a2, a3⟩ := h
  obtain ⟨b1, b2, b3⟩ := h'
  refine Classical.byContradiction (fun ne => ?_)
  by_cases c : pcn b < pcn b' ∨ (pcn b = pcn b' ∧ b < b')
  · exact absurd (b3 b a1.1 a1.2 c) (h1 _ a2)
  · exact absurd (a3 b' b1.1 b1.2 (by omega)) (h2 _ b2)
theorem pcn_4 {s : Int} (s0 : 0 ≤ s) (s1 : s < 16) : pcn s ≤ 4 := by
  have aux : ∀ s : Fin 16, pcn ((s.val : Nat) : Int) ≤ 4 := by decide +kernel
  have := aux ⟨s.toNat, by omega⟩
  simp only [Int.toNat_of_nonneg s0] at this
  exact this
theorem stops_ok {m : aM} (ht : mTok (m 177)) (hr : mTR 25 47 (m 177) m) (c : m 79 15 = -2) : mOk (Mender_stops m) (fun r => r.1 = r.2 79 15 ∧ yPC (m 177) r.1 ∧ ∀ q i, ¬(80 ≤ q ∧ q ≤ 103) → ¬(q = 79 ∧ i = 15) → r.2 q i = m q i) := by
  have c4 := ht.2.2.2.2.1
  have s15 := sure15 ht hr
  unfold Mender_stops
  rw [if_pos c, st1e]
  have f0 : ∀ q i, ¬(q = 79 ∧ i = 15) → aup m 79 15 (-1) q i = m q i := fun q i a => aup_of (by omega)
  have v0 : aup m 79 15 (-1) 79 15 = -1 := aup_self _ _ _ _
  generalize aup m 79 15 (-1) = m2 at f0 v0 ⊢
  have fin : ∀ (mm : aM), ((mm 79 15 = -1 ∧ ∀ s : Int, 0 ≤ s → s < 16 → ∀ A', mAeqT (m 177) A' → ¬ mSur A' 0 0 s) ∨ (0 ≤ mm 79 15 ∧ yPC (m 177) (mm 79 15))) → (∀ q i, ¬(80 ≤ q ∧ q ≤ 103) → ¬(q = 79 ∧ i = 15) → mm q i = m q i) → mOk (Mender_stops_51 mm) (fun r => r.1 = r.2 79 15 ∧ yPC (m 177) r.1 ∧ ∀ q i, ¬(80 ≤ q ∧ q ≤ 103) → ¬(q = 79 ∧ i = 15) → r.2 q i = m q i) := by
    intro mm hd fr
    unfold Mender_stops_51
    rcases hd with ⟨a, b⟩ | ⟨a, b⟩
    · exact absurd (s15 _ (mAeqT.refl _)) (b 15 (by omega) (by omega) _ (mAeqT.refl _))
    · exact mOk_some ⟨rfl, b, fr⟩
  refine mL2 Mender_stops_12 (fun x mm => (0 ≤ x ∧ x ≤ 5) ∧ ((mm 79 15 = -1 ∧ ∀ s : Int, 0 ≤ s → s < 16 → pcn s < x → ∀ A', mAeqT (m 177) A' → ¬ mSur A' 0 0 s) ∨ (0 ≤ mm 79 15 ∧ yPC (m 177) (mm 79 15))) ∧ ∀ q i, ¬(80 ≤ q ∧ q ≤ 103) → ¬(q = 79 ∧ i = 15) → mm q i = m q i) (fun x _ => (7 - x).toNat) ?_ 0 m2 ⟨by omega, Or.inl ⟨v0, fun s _ _ g => by have := pcn_nn s; omega⟩, fun q i _ b => f0 q i b⟩ (by omega)
  rintro fu x mm ⟨x1, hx, fr⟩ ih
  rw [Mender_stops_12]
  by_cases d : 4 < x
  · rw [if_pos d]
    refine fin mm ?_ fr
    rcases hx with ⟨a, b⟩ | g
    · exact Or.inl ⟨a, fun s s0 s1 => b s s0 s1 (by have := pcn_4 s0 s1; omega)⟩
    · exact Or.inr g
  rw [if_neg d]
  by_cases y : mm 79 15 = -1
  rotate_left
  · rw [if_neg y]
    exact fin mm (Or.inr (hx.resolve_left (fun g => y g.1))) fr
  rw [if_pos y]
  have b0 := (hx.resolve_right (fun g => by omega)).2
  refine mL2 (Mender_stops_21 (Mender_stops_12 fu) x) (fun s mm => (0 ≤ s ∧ s ≤ 16) ∧ ((mm 79 15 = -1 ∧ ∀ s' : Int, 0 ≤ s' → s' < 16 → (pcn s' < x ∨ (pcn s' = x ∧ s' < s)) → ∀ A', mAeqT (m 177) A' → ¬ mSur A' 0 0 s') ∨ (0 ≤ mm 79 15 ∧ yPC (m 177) (mm 79 15))) ∧ ∀ q i, ¬(80 ≤ q ∧ q ≤ 103) → ¬(q = 79 ∧ i = 15) → mm q i = m q i) (fun s _ => (17 - s).toNat) ?_ 0 mm ⟨by omega, Or.inl ⟨y, fun s s0 s1 g => b0 s s0 s1 (by omega)⟩, fr⟩ (by omega)
  clear hx fr y b0 mm
  rintro fu2 s mm ⟨s1, hx, fr⟩ ih2
  rw [Mender_stops_21]
  unfold Mender_stops_49 Mender_stops_47
  rw [w32e (x := x + 1) (by omega) (by omega), w32e (x := s + 1) (by omega) (by omega)]
  by_cases e : s < 16
  rotate_left
  · rw [if_neg e]
    refine ih _ _ ⟨by omega, ?_, fr⟩ (by omega)
    rcases hx with ⟨a, b⟩ | g
    · exact Or.inl ⟨a, fun s' a1 a2 a3 => b s' a1 a2 (by omega)⟩
    · exact Or.inr g
  rw [if_pos e]
  by_cases y : mm 79 15 = -1
  rotate_left
  · rw [if_neg y]
    exact ih _ _ ⟨by omega, Or.inr (hx.resolve_left (fun g => y g.1)), fr⟩ (by omega)
  rw [if_pos y, pcn_J s1.1 (by omega), Option.bind_some]
  have b0 := (hx.resolve_right (fun g => by omega)).2
  by_cases z : pcn s = x
  rotate_left
  · rw [if_neg z]
    refine ih2 _ _ ⟨by omega, Or.inl ⟨y, fun s' a1 a2 a3 => b0 s' a1 a2 ?_⟩, fr⟩ (by omega)
    by_cases g : s' = s
    · rw [g] at a3 ⊢; omega
    · omega
  rw [if_pos z]
  refine mOk_bind (load_ok (m := mm) (A := m 177) (Z := s) ht (mTR_same (fun q j hq => fr q j (by omega) (by omega)) hr c4.2)) (fun X kX => ?_)
  obtain ⟨ld, fl⟩ := kX
  refine mOk_bind (shz_ok ht ld) (fun r k => ?_)
  obtain ⟨ft, an⟩ := k
  have fr4 : ∀ q i, ¬(80 ≤ q ∧ q ≤ 103) → ¬(q = 79 ∧ i = 15) → r.2 q i = m q i := fun q i a b => by rw [ft q i (by omega) (by omega), fl q i (by omega) (by omega)]; exact fr q i a b
  by_cases u : r.1 = -1
  · rw [if_pos u, st1e]
    refine ih2 _ _ ⟨by omega, Or.inr ?_, fun q i a b => by rw [aup_of (by omega)]; exact fr4 q i a b⟩ (by omega)
    rw [aup_self]
    exact ⟨s1.1, ⟨s1.1, e⟩, fun A' ha => (an A' ha).mp u, fun s' a1 a2 a3 => b0 s' a1 a2 (by rw [z] at a3; exact a3)⟩
  · rw [if_neg u]
    refine ih2 _ _ ⟨by omega, Or.inl ⟨?_, fun s' a1 a2 a3 => ?_⟩, fr4⟩ (by omega)
    · rw [ft _ _ (by omega) (by omega), fl _ _ (by omega) (by omega)]; exact y
    · by_cases g : s' = s
      · rw [g]; exact fun A' ha g' => u ((an A' ha).mpr g')
      · exact b0 s' a1 a2 (by omega)
theorem R_paused_ok {x : Int} {m : aM} (hx : x = 0 ∨ x = 1) (hA : mVx (m 177)) (s15 : mSur (m 177) 0 0 15) (rd : mRdy m) : mOk (R_paused x m) (fun r => (∃ b, yPR (m 177) b ∧ r.1 = if x = 0 then pcn b else b) ∧ (∀ q i, ¬(189 ≤ q ∧ q ≤ 195) → ¬(q = 176 ∧ (i = 0 ∨ (29 ≤ i ∧ i ≤ 31) ∨ i = 33)) → r.2 q i = m q i) ∧ r.2 176 33 = 0 ∧ (m 176 30 ≤ r.2 176 30 ∧ r.2 176 30 ≤ m 176 30 + 16) ∧ ∀ s : Nat, r.2 193 s ≤ r.2 176 30) := by
  obtain ⟨rd1, rd2, rd3, rd4⟩ := rd
  unfold R_paused
  rw [st1e, within_eq, if_pos (by omega), Option.bind_some, if_neg (by decide)]
  have f0 : ∀ q i, ¬(q = 176 ∧ i = 0) → aup m 176 0 0 q i = m q i := fun q i a => aup_of (by omega)
  generalize aup m 176 0 0 = m1 at f0 ⊢
  refine mL3 (R_paused_15 x) (fun b s mm => (0 ≤ s ∧ s ≤ 16) ∧ ((b = -1 ∧ ∀ s' : Int, 0 ≤ s' → s' < s → ¬ mSur (m 177) 0 0 s') ∨ ((0 ≤ b ∧ b < s) ∧ mSur (m 177) 0 0 b ∧ ∀ s' : Int, 0 ≤ s' → s' < s → (pcn s' < pcn b ∨ (pcn s' = pcn b ∧ s' < b)) → ¬ mSur (m 177) 0 0 s')) ∧ (∀ q i, ¬(189 ≤ q ∧ q ≤ 195) → ¬(q = 176 ∧ (i = 0 ∨ (29 ≤ i ∧ i ≤ 31) ∨ i = 33)) → mm q i = m q i) ∧ (m 176 30 ≤ mm 176 30 ∧ mm 176 30 ≤ m 176 30 + s) ∧ ∀ s : Nat, mm 193 s ≤ mm 176 30) (fun _ s _ => (17 - s).toNat) ?_ (-1) 0 m1 ⟨by omega, Or.inl ⟨rfl, fun s' a b => by omega⟩, fun q i a b => f0 q i (by omega), by rw [f0 _ _ (by omega)]; omega, fun s => by rw [f0 _ _ (by omega), f0 _ _ (by omega)]; exact rd2 s⟩ (by omega)
  rintro fu b s mm ⟨s1, hb, fr, mk, mb⟩ ih
  rw [R_paused_15]
  by_cases d : s < 16
  rotate_left
  · rw [if_neg d, st1e]
    have hb' := hb.resolve_left (fun g => g.2 15 (by omega) (by omega) s15)
    have pr : yPR (m 177) b := ⟨by omega, hb'.2.1, fun s' a1 a2 a3 => hb'.2.2 s' a1 (by omega) a3⟩
    have g : ∀ r : Int, (r = if x = 0 then pcn b else b) → mOk (some (r, aup mm 176 33 0)) (fun r => (∃ b, yPR (m 177) b ∧ r.1 = if x = 0 then pcn b else b) ∧ (∀ q i, ¬(189 ≤ q ∧ q ≤ 195) → ¬(q = 176 ∧ (i = 0 ∨ (29 ≤ i ∧ i ≤ 31) ∨ i = 33)) → r.2 q i = m q i) ∧ r.2 176 33 = 0 ∧ (m 176 30 ≤ r.2 176 30 ∧ r.2 176 30 ≤ m 176 30 + 16) ∧ ∀ s : Nat, r.2 193 s ≤ r.2 176 30) := by
      intro r e
      refine mOk_some ⟨⟨b, pr, e⟩, fun q i a c => ?_, by dsimp only; exact aup_self _ _ _ _, ?_, fun s => ?_⟩
      · dsimp only; rw [aup_of (by omega)]; exact fr q i a c
      · dsimp only; rw [aup_of (by omega)]; omega
      · dsimp only; rw [aup_of (by omega), aup_of (by omega)]; exact mb s
    by_cases e : x = 0
    · rw [if_pos e, pcn_R, Option.bind_some]; exact g _ (by rw [if_pos e])
    · rw [if_neg e]; exact g _ (by rw [if_neg e])
  rw [if_pos d]
  -- the set is tried
  have go : (b = -1 ∨ pcn s < pcn b) → mOk (R_paused_27 (R_paused_15 x fu) x b s mm) (fun r => (∃ b, yPR (m 177) b ∧ r.1 = if x = 0 then pcn b else b) ∧ (∀ q i, ¬(189 ≤ q ∧ q ≤ 195) → ¬(q = 176 ∧ (i = 0 ∨ (29 ≤ i ∧ i ≤ 31) ∨ i = 33)) → r.2 q i = m q i) ∧ r.2 176 33 = 0 ∧ (m 176 30 ≤ r.2 176 30 ∧ r.2 176 30 ≤ m 176 30 + 16) ∧ ∀ s : Nat, r.2 193 s ≤ r.2 176 30) := by
    intro hc
    unfold R_paused_27 R_paused_37 R_paused_38
    rw [st1e, w32e (by omega) (by omega)]
    have f1 : ∀ q i, ¬(q = 176 ∧ i = 33) → aup mm 176 33 s q i = mm q i := fun q i a => aup_of (by omega)
    have v1 : aup mm 176 33 s 176 33 = s := aup_self _ _ _ _
    generalize aup mm 176 33 s = m3 at f1 v1 ⊢
    have e177 : m3 177 = m 177 := funext fun i => by rw [f1 _ _ (by omega)]; exact fr _ _ (by omega) (by omega)
    have e32 : m3 176 32 = 0 := by rw [f1 _ _ (by omega), fr _ _ (by omega) (by omega)]; exact rd3
    refine mOk_bind (isSure_ok (m := m3) (M := 0) (by rw [e177]; exact hA) (by omega) (by omega) (by rw [f1 _ _ (by omega)]; omega) (fun s => by rw [f1 _ _ (by omega), f1 _ _ (by omega)]; exact mb s)) (fun r k => ?_)
    obtain ⟨k1, k2, k3, k4⟩ := k
    rw [e177, v1, e32] at k1
    have f30 : m3 176 30 = mm 176 30 := f1 _ _ (by omega)
    have fr4 : ∀ q i, ¬(189 ≤ q ∧ q ≤ 195) → ¬(q = 176 ∧ (i = 0 ∨ (29 ≤ i ∧ i ≤ 31) ∨ i = 33)) → r.2 q i = m q i := fun q i a b => by rw [k2 q i a (by omega), f1 q i (by omega)]; exact fr q i a b
    rcases k1 with ⟨u, su⟩ | ⟨u, su⟩
    · rw [if_neg (by omega)]
      refine ih _ _ _ ⟨by omega, Or.inr ⟨by omega, su, fun s' a1 a2 a3 => ?_⟩, fr4, by omega, k4⟩ (by omega)
      rcases hb with ⟨g1, g2⟩ | ⟨g1, g2, g3⟩
      · exact g2 s' a1 (by
          by_cases q : s' = s
          · rw [q] at a3; omega
          · omega)
      · exact g3 s' a1 (by
          by_cases q : s' = s
          · rw [q] at a3; omega
          · omega) (by omega)
    · rw [if_pos u]
      refine ih _ _ _ ⟨by omega, ?_, fr4, by omega, k4⟩ (by omega)
      rcases hb with ⟨g1, g2⟩ | ⟨g1, g2, g3⟩
      · refine Or.inl ⟨g1, fun s' a1 a2 => ?_⟩
        by_cases q : s' = s
        · rw [q]; exact su
        · exact g2 s' a1 (by omega)
      · refine Or.inr ⟨by omega, g2, fun s' a1 a2 a3 => ?_⟩
        by_cases q : s' = s
        · rw [q]; exact su
        · exact g3 s' a1 (by omega) a3
  by_cases y : b = -1
  · rw [if_pos y]; exact go (Or.inl y)
  rw [if_neg y, pcn_R, Option.bind_some, pcn_R, Option.bind_some]
  by_cases z : pcn s < pcn b
  · rw [if_pos z]; exact go (Or.inr z)
  rw [if_neg z]
  unfold R_paused_38
  rw [w32e (by omega) (by omega)]
  obtain ⟨g1, g2, g3⟩ := hb.resolve_left (fun g => y g.1)
  refine ih _ _ _ ⟨by omega, Or.inr ⟨by omega, g2, fun s' a1 a2 a3 => ?_⟩, fr, by omega, mb⟩ (by omega)
  by_cases q : s' = s
  · rw [q] at a3; omega
  · exact g3 s' a1 (by omega) a3
theorem stops_all {m : aM} (ht : mTok (m 177)) (hr : mTR 25 47 (m 177) m) (hm : mMendC m) : mOk (Mender_stops m) (fun r => (0 ≤ r.1 ∧ r.1 < 16) ∧ (∀ (m' : aM) (r' : Int × aM), mAeqT (m 177) (m' 177) → mRdy m' → R_paused 1 m' = some r' → r'.1 = r.1) ∧ mMendC r.2 ∧ ∀ q i, ¬(80 ≤ q ∧ q ≤ 103) → ¬(q = 79 ∧ i = 15) → r.2 q i = m q i) := by
  have s15 := sure15 ht hr
  obtain ⟨k1, k2, k3, k4, k5, k6⟩ := hm
  by_cases c : m 79 15 = -2
  · refine mOk_mono (stops_ok ht hr c) (fun r k => ?_)
    obtain ⟨b2, b3, fr⟩ := k
    have cc : ∀ (m' : aM) (r' : Int × aM), mAeqT (m 177) (m' 177) → mRdy m' → R_paused 1 m' = some r' → r'.1 = r.1 := by
      intro m' r' ha rd kr
      obtain ⟨r0, k0, ⟨b', md, e⟩, -⟩ := R_paused_ok (x := 1) (m := m') (Or.inr rfl) (mVx_of ht ha) (s15 _ ha) rd
      rw [kr] at k0
      rw [Option.some.inj k0, e, if_neg (by decide)]
      exact (yPd_uni (fun s a b => b (a _ ha)) (fun s a b => b _ ha a) b3 md).symm
    refine ⟨b3.1, cc, ?_, fr⟩
    have row : ∀ q, ¬(79 ≤ q ∧ q ≤ 103) → r.2 q = m q := fun q a => rowEq fun i => fr q i (by omega) (by omega)
    unfold mMendC
    rw [row 177 (by omega), row 107 (by omega), row 108 (by omega), row 109 (by omega), row 111 (by omega), fr 79 6 (by omega) (by omega), fr 79 10 (by omega) (by omega), fr 79 11 (by omega) (by omega), ← b2]
    refine ⟨k1, k2, fun j j0 j1 => ?_, k4, ?_, Or.inr ⟨b3.1.1, b3.1.2, cc⟩⟩
    · rw [row (112 + 2 * j.toNat) (by omega), row (113 + 2 * j.toNat) (by omega)]
      exact k3 j j0 j1
    · rcases k5 with g | ⟨g1, g2⟩
      · exact Or.inl g
      · refine Or.inr ⟨g1, fun m' j r' j0 j1 ha rd kr => ?_⟩
        rw [fr 79 (12 + j).toNat (by omega) (by omega)]
        exact g2 m' j r' j0 j1 ha rd kr
  · unfold Mender_stops
    rw [if_neg c]
    obtain ⟨g1, g2, g3⟩ := k6.resolve_left c
    exact mOk_some ⟨⟨g1, g2⟩, g3, ⟨k1, k2, k3, k4, k5, k6⟩, fun _ _ _ _ => rfl⟩
theorem st_paused {n : Nat} {m : aM} (hn : n < 64) (h : mInv n m) (x1 : Int) : ∃ r m1 m2, B_paused x1 m = some (r, m1) ∧ R_paused x1 m1 = some (r, m2) ∧ mInv (n + 1) m2 := by
  by_cases c : x1 = 0 ∨ x1 = 1
  rotate_left
  · refine ⟨-2, m, aup m 176 0 0, ?_, ?_, mInv_0 h⟩
    · unfold B_paused
      rw [if_neg (by omega), if_neg (by omega)]
    · unfold R_paused
      rw [st1e, within_eq, if_neg (by omega), Option.bind_some, if_pos rfl]
  obtain ⟨⟨v, m1⟩, kB, q0, q1, q2, q3⟩ := stops_all h.2.2.1 h.2.2.2.1 h.2.2.2.2.2.2.2.2
  dsimp only at q0 q1 q2 q3
  have mk := h.2.2.2.2.2.2.1
  have c4 := h.2.2.1.2.2.2.2.1
  have r0 := mRdy_of (by omega) mk
  have e177 : m1 177 = m 177 := rowEq fun i => q3 _ _ (by omega) (by omega)
  have rd : mRdy m1 := by
    unfold mRdy at *
    rw [q3 176 30 (by omega) (by omega), q3 176 32 (by omega) (by omega), q3 176 33 (by omega) (by omega), show m1 193 = m 193 from funext fun i => q3 _ _ (by omega) (by omega)]
    exact r0
  have ha : mAeqT (m 177) (m1 177) := by rw [e177]; exact mAeqT.refl _
  have hA : mVx (m1 177) := mVx_of h.2.2.1 ha
  have s15 := sure15 h.2.2.1 h.2.2.2.1 _ ha
  obtain ⟨r1, kr1, ⟨b1, md1, e1⟩, -⟩ := R_paused_ok (x := 1) (m := m1) (Or.inr rfl) hA s15 rd
  have ev : b1 = v := by
    rw [← q1 m1 r1 ha rd kr1, e1, if_neg (by decide)]
  obtain ⟨⟨r', m2⟩, kR, ⟨b2, md2, e2⟩, g1, g2, g3, g4⟩ := R_paused_ok (x := x1) (m := m1) c hA s15 rd
  dsimp only at e2 g1 g2 g3 g4
  have eb : b2 = v := by rw [← ev]; exact yPd_uni (fun _ a b => b a) (fun _ a b => b a) md2 md1
  rw [eb] at e2
  refine ⟨r', m1, m2, ?_, kR, ?_⟩
  · have key : B_paused_7 x1 m = some (r', m1) := by
      unfold B_paused_7 B_paused_17
      rw [kB, Option.bind_some, e2]
      dsimp only
      rw [if_neg (by omega)]
      by_cases d1 : x1 = 1
      · rw [if_pos d1, if_neg (by omega)]
      · rw [if_neg d1, if_pos (by omega), pcn_J q0.1 (by omega), Option.bind_some]
    unfold B_paused
    by_cases d : x1 = 0
    · rw [if_pos d]; exact key
    · rw [if_neg d, if_pos (by omega)]; exact key
  · have f2 : ∀ q i, ¬(79 ≤ q ∧ q ≤ 103) → ¬(189 ≤ q ∧ q ≤ 195) → ¬(q = 176 ∧ (i = 0 ∨ (29 ≤ i ∧ i ≤ 31) ∨ i = 33)) → m2 q i = m q i := fun q i a b e => by rw [g1 q i b (by omega)]; exact q3 q i (by omega) (by omega)
    have f3 : ∀ q, 79 ≤ q → q ≤ 119 → m2 q = m1 q := fun q a b => rowEq fun i => g1 q i (by omega) (by omega)
    have e30 : m1 176 30 = m 176 30 := q3 _ _ (by omega) (by omega)
    refine mInv_srch h (fun q i hd a b e g g' => ?_) ?_ ?_
    · by_cases z : q = 176 ∧ i = 33
      · rw [z.1, z.2, g2]; exact mk.2.2.2.symm
      · exact f2 q i (by unfold mDep at hd; omega) (by unfold mDep at hd; omega) (by unfold mDep at hd; omega)
    · exact ⟨by have := mk.1; omega, g4, by rw [f2 _ _ (by omega) (by omega) (by omega)]; exact mk.2.2.1, g2⟩
    · exact mMendC_of (by rw [show m2 177 = m1 177 from rowEq fun i => g1 _ _ (by omega) (by omega)]; exact mAeqT.refl _) (by rw [e177]; exact c4.1) (f3 79 (by omega) (by omega)) (fun q a b => f3 q (by omega) b) q2
