/-! mended -/
/-- the fewest words out, then the least set; Y: sure without them, N: not -/
def mMd (Y N : Int → Prop) (W b : Int) : Prop := (b = -1 ∧ ∀ s : Int, 0 ≤ s → s < W → pcn s ≤ 3 → N s) ∨ ((0 ≤ b ∧ b < W) ∧ pcn b ≤ 3 ∧ Y b ∧ ∀ s : Int, 0 ≤ s → s < W → (pcn s < pcn b ∨ (pcn s = pcn b ∧ s < b)) → N s)
theorem mMd_uni {Y N Y' N' : Int → Prop} {W b b' : Int} (h1 : ∀ s, Y s → ¬ N' s) (h2 : ∀ s, Y' s → ¬ N s) (h : mMd Y N W b) (h' : mMd Y' N' W b') : b = b' := by
  rcases h with ⟨e, a⟩ | ⟨a1, a2, a3, a4⟩
  · rcases h' with ⟨e', a'⟩ | ⟨b1, b2, b3, b4⟩
    · omega
    · exact absurd (a b' b1.1 b1.2 b2) (h2 _ b3)
  · rcases h' with ⟨e', a'⟩ | ⟨b1, b2, b3, b4⟩
    · exact absurd (a' b a1.1 a1.2 a2) (h1 _ a3)
    · refine Classical.byContradiction (fun ne => ?_)
      by_cases c : pcn b < pcn b' ∨ (pcn b = pcn b' ∧ b < b')
      · exact absurd (b4 b a1.1 a1.2 c) (h1 _ a3)
      · exact absurd (a4 b' b1.1 b1.2 (by omega)) (h2 _ b3)
theorem w_pow {W : Int} (w0 : 0 ≤ W) (w1 : W ≤ 12) : 1 ≤ ishl 1 W ∧ ishl 1 W ≤ 4096 := by
  have hp : (2 : Nat) ^ W.toNat ≤ 2 ^ 12 := Nat.pow_le_pow_right (by omega) (by omega)
  have hq : 0 < (2 : Nat) ^ W.toNat := Nat.two_pow_pos _
  rw [ishl_one w0 (by omega)]
  omega
def mMdC (A : Nat → Int) (b : Int) : Prop := mMd (fun s => ∀ A', mAeqT A A' → mSur A' s 0 0) (fun s => ∀ A', mAeqT A A' → ¬ mSur A' s 0 0) (ishl 1 (A 18)) b
def mMdR (A : Nat → Int) (b : Int) : Prop := mMd (fun s => mSur A s 0 0) (fun s => ¬ mSur A s 0 0) (ishl 1 (A 18)) b
theorem mMd_eq {A A' : Nat → Int} {b b' : Int} (h0 : 0 ≤ A 18) (ha : mAeqT A A') (h : mMdC A b) (h' : mMdR A' b') : b' = b := by
  unfold mMdC at h
  unfold mMdR at h'
  rw [ha.w h0] at h'
  exact (mMd_uni (fun s a b => b (a A' ha)) (fun s a b => b A' ha a) h h').symm
theorem leftOut_ok {m : aM} (ht : mTok (m 177)) (hr : mTR 25 47 (m 177) m) (c : m 79 10 = -2) : mOk (Mender_leftOut m) (fun r => (-1 ≤ r.1 ∧ r.1 < 4096) ∧ r.1 = r.2 79 10 ∧ mMdC (m 177) r.1 ∧ ∀ q i, ¬(80 ≤ q ∧ q ≤ 103) → ¬(q = 79 ∧ i = 10) → r.2 q i = m q i) := by
  have c4 := ht.2.2.2.2.1
  have wp := w_pow c4.1 c4.2
  unfold Mender_leftOut
  rw [if_pos c, st1e]
  have f0 : ∀ q i, ¬(q = 79 ∧ i = 10) → aup m 79 10 (-1) q i = m q i := fun q i a => aup_of (by omega)
  have v0 : aup m 79 10 (-1) 79 10 = -1 := aup_self _ _ _ _
  generalize aup m 79 10 (-1) = m2 at f0 v0 ⊢
  refine mOk_bind (load_ok (m := m2) (A := m 177) ht (mTR_same (fun q j hq => f0 q j (by omega)) hr c4.2)) (fun X kX => ?_)
  obtain ⟨ld, fl⟩ := kX
  have fin : ∀ (mm : aM), ((mm 79 10 = -1 ∧ ∀ s : Int, 0 ≤ s → s < ishl 1 (m 177 18) → pcn s ≤ 3 → ∀ A', mAeqT (m 177) A' → ¬ mSur A' s 0 0) ∨ (0 ≤ mm 79 10 ∧ mMdC (m 177) (mm 79 10))) → (∀ q i, ¬(99 ≤ q ∧ q ≤ 103) → ¬(q = 80 ∧ i ≠ 0 ∧ i ≠ 2) → ¬(q = 79 ∧ i = 10) → mm q i = X q i) → mOk (Mender_leftOut_59 mm) (fun r => (-1 ≤ r.1 ∧ r.1 < 4096) ∧ r.1 = r.2 79 10 ∧ mMdC (m 177) r.1 ∧ ∀ q i, ¬(80 ≤ q ∧ q ≤ 103) → ¬(q = 79 ∧ i = 10) → r.2 q i = m q i) := by
    intro mm hd fr
    unfold Mender_leftOut_59
    have md : mMdC (m 177) (mm 79 10) := by
      rcases hd with ⟨a, b⟩ | ⟨a, b⟩
      · exact Or.inl ⟨a, b⟩
      · exact b
    refine mOk_some ⟨?_, rfl, md, fun q i a b => ?_⟩
    · dsimp only
      rcases md with ⟨a, -⟩ | ⟨a, -⟩ <;> omega
    · dsimp only
      rw [fr q i (by omega) (by omega) b, fl q i (by omega) (by omega)]
      exact f0 q i b
  have e25 : ∀ (mm : aM), (∀ q i, ¬(99 ≤ q ∧ q ≤ 103) → ¬(q = 80 ∧ i ≠ 0 ∧ i ≠ 2) → ¬(q = 79 ∧ i = 10) → mm q i = X q i) → mm 25 2 = m 177 18 := fun mm fr => by
    rw [fr 25 2 (by omega) (by omega) (by omega), fl _ _ (by omega) (by omega), f0 _ _ (by omega)]; exact hr.1.2.2.1
  refine mL2 Mender_leftOut_18 (fun x mm => (0 ≤ x ∧ x ≤ 4) ∧ ((mm 79 10 = -1 ∧ ∀ s : Int, 0 ≤ s → s < ishl 1 (m 177 18) → pcn s < x → ∀ A', mAeqT (m 177) A' → ¬ mSur A' s 0 0) ∨ (0 ≤ mm 79 10 ∧ mMdC (m 177) (mm 79 10))) ∧ ∀ q i, ¬(99 ≤ q ∧ q ≤ 103) → ¬(q = 80 ∧ i ≠ 0 ∧ i ≠ 2) → ¬(q = 79 ∧ i = 10) → mm q i = X q i) (fun x _ => (6 - x).toNat) ?_ 0 X ⟨by omega, Or.inl ⟨by rw [fl _ _ (by omega) (by omega)]; exact v0, fun s _ _ g => by have := pcn_nn s; omega⟩, fun _ _ _ _ _ => rfl⟩ (by omega)
  rintro fu x mm ⟨x1, hx, fr⟩ ih
  rw [Mender_leftOut_18]
  by_cases d : 3 < x
  · rw [if_pos d]
    refine fin mm ?_ fr
    rcases hx with ⟨a, b⟩ | g
    · exact Or.inl ⟨a, fun s s0 s1 s3 => b s s0 s1 (by omega)⟩
    · exact Or.inr g
  rw [if_neg d]
  by_cases y : mm 79 10 = -1
  rotate_left
  · rw [if_neg y]
    exact fin mm (Or.inr (hx.resolve_left (fun g => y g.1))) fr
  rw [if_pos y]
  have b0 := (hx.resolve_right (fun g => by omega)).2
  refine mL2 (Mender_leftOut_27 (Mender_leftOut_18 fu) x) (fun s mm => (0 ≤ s ∧ s ≤ ishl 1 (m 177 18)) ∧ ((mm 79 10 = -1 ∧ ∀ s' : Int, 0 ≤ s' → s' < ishl 1 (m 177 18) → (pcn s' < x ∨ (pcn s' = x ∧ s' < s)) → ∀ A', mAeqT (m 177) A' → ¬ mSur A' s' 0 0) ∨ (0 ≤ mm 79 10 ∧ mMdC (m 177) (mm 79 10))) ∧ ∀ q i, ¬(99 ≤ q ∧ q ≤ 103) → ¬(q = 80 ∧ i ≠ 0 ∧ i ≠ 2) → ¬(q = 79 ∧ i = 10) → mm q i = X q i) (fun s _ => (4097 - s).toNat) ?_ 0 mm ⟨by omega, Or.inl ⟨y, fun s s0 s1 g => b0 s s0 s1 (by omega)⟩, fr⟩ (by omega)
  clear hx fr y b0 mm
  rintro fu2 s mm ⟨s1, hx, fr⟩ ih2
  rw [Mender_leftOut_27, e25 mm fr]
  unfold Mender_leftOut_57 Mender_leftOut_55
  rw [w32e (x := x + 1) (by omega) (by omega), w32e (x := s + 1) (by omega) (by omega)]
  by_cases e : s < ishl 1 (m 177 18)
  rotate_left
  · rw [if_neg e]
    refine ih _ _ ⟨by omega, ?_, fr⟩ (by omega)
    rcases hx with ⟨a, b⟩ | g
    · exact Or.inl ⟨a, fun s' a1 a2 a3 => b s' a1 a2 (by omega)⟩
    · exact Or.inr g
  rw [if_pos e]
  by_cases y : mm 79 10 = -1
  rotate_left
  · rw [if_neg y]
    exact ih _ _ ⟨by omega, Or.inr (hx.resolve_left (fun g => y g.1)), fr⟩ (by omega)
  rw [if_pos y, pcn_J s1.1 (by omega), Option.bind_some]
  have b0 := (hx.resolve_right (fun g => by omega)).2
  by_cases z : pcn s = x
  rotate_left
  · rw [if_neg z]
    refine ih2 _ _ ⟨by omega, Or.inl ⟨y, fun s' a1 a2 a3 => b0 s' a1 a2 ?_⟩, fr⟩ (by omega)
    by_cases g : s' = s
    · rw [g] at a3 ⊢; omega
    · omega
  rw [if_pos z]
  unfold Twins_leaveOut
  rw [st1e, Option.bind_some, fr 80 0 (by omega) (by omega) (by omega), ld.1]
  have f1 : ∀ q i, ¬(q = 80 ∧ i = 1) → aup mm 80 1 (iand (w32 (ishl 1 (m 177 18) - 1)) (ixor s (-1))) q i = mm q i := fun q i a => aup_of (by omega)
  have v1 : aup mm 80 1 (iand (w32 (ishl 1 (m 177 18) - 1)) (ixor s (-1))) 80 1 = iand (w32 (ishl 1 (m 177 18) - 1)) (ixor s (-1)) := aup_self _ _ _ _
  generalize aup mm 80 1 (iand (w32 (ishl 1 (m 177 18) - 1)) (ixor s (-1))) = m3 at f1 v1 ⊢
  have fr3 : ∀ q i, ¬(99 ≤ q ∧ q ≤ 103) → ¬(q = 80 ∧ i ≠ 0 ∧ i ≠ 2) → ¬(q = 79 ∧ i = 10) → m3 q i = X q i := fun q i a b c => by rw [f1 q i (by omega)]; exact fr q i a b c
  obtain ⟨hv3, xa3⟩ := lo_v (X1 := m3) ht ld s1.1 (by omega) (fun q i a b => fr3 q i (by omega) (by omega) (by omega)) v1 (fr3 80 2 (by omega) (by omega) (by omega))
  refine mOk_bind (shs_ok hv3 (Or.inl rfl)) (fun r k => ?_)
  obtain ⟨ft, an⟩ := k
  have an' : ∀ A', mAeqT (m 177) A' → (r.1 = -1 ↔ mSur A' s 0 0) := fun A' ha => an A' s (mVx_of ht ha) (xa3 A' ha)
  have fr4 : ∀ q i, ¬(99 ≤ q ∧ q ≤ 103) → ¬(q = 80 ∧ i ≠ 0 ∧ i ≠ 2) → ¬(q = 79 ∧ i = 10) → r.2 q i = X q i := fun q i a b c => by rw [ft q i a (by omega)]; exact fr3 q i a b c
  by_cases u : r.1 = -1
  · rw [if_pos u, st1e]
    refine ih2 _ _ ⟨by omega, Or.inr ?_, fun q i a b c => by rw [aup_of (by omega)]; exact fr4 q i a b c⟩ (by omega)
    rw [aup_self]
    refine ⟨s1.1, Or.inr ⟨⟨s1.1, e⟩, by omega, fun A' ha => (an' A' ha).mp u, fun s' a1 a2 a3 => b0 s' a1 a2 (by rw [z] at a3; exact a3)⟩⟩
  · rw [if_neg u]
    refine ih2 _ _ ⟨by omega, Or.inl ⟨?_, fun s' a1 a2 a3 => ?_⟩, fr4⟩ (by omega)
    · rw [ft _ _ (by omega) (by omega), f1 _ _ (by omega)]; exact y
    · by_cases g : s' = s
      · rw [g]; exact fun A' ha g' => u ((an' A' ha).mpr g')
      · exact b0 s' a1 a2 (by omega)
