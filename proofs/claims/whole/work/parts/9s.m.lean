/-! how many sets of words there are of a size -/
def smN (f : Nat → Nat) : Nat → Nat
  | 0 => 0
  | n + 1 => smN f n + f n
def pcN (s : Nat) : Nat := smN (fun k => s / 2 ^ k % 2) 13
theorem bt_nat {s k : Int} (s0 : 0 ≤ s) (s1 : s < 8192) (k0 : 0 ≤ k) (k1 : k ≤ 31) : iand (ishr s k) 1 = ((s.toNat / 2 ^ k.toNat % 2 : Nat) : Int) := by
  rw [bt_eq s0 (by omega) k0 k1, Nat.testBit_eq_decide_div_mod_eq]
  have : s.toNat / 2 ^ k.toNat % 2 = 0 ∨ s.toNat / 2 ^ k.toNat % 2 = 1 := by omega
  rcases this with h | h <;> rw [h] <;> rfl
theorem pcn_N {s : Int} (s0 : 0 ≤ s) (s1 : s < 8192) : pcn s = (pcN s.toNat : Int) := by
  have b : ∀ n : Nat, n ≤ 13 → mSum (fun k => iand (ishr s k) 1) n = (smN (fun k => s.toNat / 2 ^ k % 2) n : Nat) := by
    intro n
    induction n with
    | zero => intro _; rfl
    | succ n ih =>
      intro h
      show mSum (fun k => iand (ishr s k) 1) n + iand (ishr s (n : Int)) 1 = ((smN (fun k => s.toNat / 2 ^ k % 2) n + s.toNat / 2 ^ n % 2 : Nat) : Int)
      rw [ih (by omega), bt_nat s0 s1 (by omega) (by omega), Int.toNat_natCast, Int.natCast_add]
  exact b 13 (Nat.le_refl _)
def ctN (P : Nat → Bool) : Nat → Nat
  | 0 => 0
  | n + 1 => ctN P n + (if P n then 1 else 0)
theorem ctN_add (P : Nat → Bool) (k : Nat) : ∀ j, ctN P (k + j) = ctN P k + ctN (fun b => P (k + b)) j
  | 0 => rfl
  | j + 1 => by
    show ctN P (k + j) + (if P (k + j) then 1 else 0) = ctN P k + (ctN (fun b => P (k + b)) j + (if P (k + j) then 1 else 0))
    rw [ctN_add P k j, Nat.add_assoc]
theorem ctN_mono (P : Nat → Bool) {n n' : Nat} (h : n ≤ n') : ctN P n ≤ ctN P n' := by
  obtain ⟨d, rfl⟩ := Nat.exists_eq_add_of_le h
  rw [ctN_add]; omega
theorem ctN_blk (P : Nat → Bool) : ∀ n, ctN P (64 * n) = smN (fun a => ctN (fun b => P (64 * a + b)) 64) n
  | 0 => rfl
  | n + 1 => by
    rw [show 64 * (n + 1) = 64 * n + 64 by omega, ctN_add, ctN_blk P n]; rfl
set_option maxRecDepth 100000 in
theorem ct_all : ∀ x : Fin 4, smN (fun a => ctN (fun b => pcN (64 * a + b) == x.val) 64) 64 ≤ 220 := by decide +kernel
theorem ct_le {x : Int} (x0 : 0 ≤ x) (x1 : x ≤ 3) {n : Nat} (h : n ≤ 4096) : ctN (fun b => pcN b == x.toNat) n ≤ 220 := by
  have k := ct_all ⟨x.toNat, by omega⟩
  rw [← ctN_blk (fun b => pcN b == x.toNat) 64] at k
  exact Nat.le_trans (ctN_mono _ h) k
theorem ct_s {x s : Int} (x0 : 0 ≤ x) (s0 : 0 ≤ s) (s1 : s < 4096) : ctN (fun b => pcN b == x.toNat) (s + 1).toNat = ctN (fun b => pcN b == x.toNat) s.toNat + if pcn s = x then 1 else 0 := by
  rw [show (s + 1).toNat = s.toNat + 1 by omega, pcn_N s0 (by omega)]
  show ctN (fun b => pcN b == x.toNat) s.toNat + (if (pcN s.toNat == x.toNat) = true then 1 else 0) = _
  by_cases c : (pcN s.toNat : Int) = x
  · rw [if_pos c, if_pos (by rw [beq_iff_eq]; omega)]
  · rw [if_neg c, if_neg (by rw [beq_iff_eq]; omega)]
/-- the reference's -/
theorem R_mended_ok {x : Int} {m : aM} (hx : x = 0 ∨ x = 1) (hA : mVx (m 177)) (w1 : m 177 18 ≤ 12) (rd : mRdy m) : mOk (R_mended x m) (fun r => (∃ b, (-1 ≤ b ∧ b < 4096) ∧ mMdR (m 177) b ∧ r.1 = if b = -1 then -1 else if x = 0 then pcn b else b) ∧ (∀ q i, ¬(189 ≤ q ∧ q ≤ 195) → ¬(q = 176 ∧ (i = 0 ∨ (29 ≤ i ∧ i ≤ 32))) → r.2 q i = m q i) ∧ r.2 176 32 = 0 ∧ (m 176 30 ≤ r.2 176 30 ∧ r.2 176 30 ≤ m 176 30 + 880) ∧ ∀ s : Nat, r.2 193 s ≤ r.2 176 30) := by
  have wp := w_pow hA.1.1 w1
  obtain ⟨rd1, rd2, rd3, rd4⟩ := rd
  unfold R_mended
  rw [st1e, within_eq, if_pos (by omega), Option.bind_some, if_neg (by decide)]
  have f0 : ∀ q i, ¬(q = 176 ∧ i = 0) → aup m 176 0 0 q i = m q i := fun q i a => aup_of (by omega)
  generalize aup m 176 0 0 = m1 at f0 ⊢
  have fin : ∀ (b : Int) (mm : aM), ((b = -1 ∧ ∀ s : Int, 0 ≤ s → s < ishl 1 (m 177 18) → pcn s ≤ 3 → ¬ mSur (m 177) s 0 0) ∨ (0 ≤ b ∧ mMdR (m 177) b)) → (∀ q i, ¬(189 ≤ q ∧ q ≤ 195) → ¬(q = 176 ∧ (i = 0 ∨ (29 ≤ i ∧ i ≤ 32))) → mm q i = m q i) → (m 176 30 ≤ mm 176 30 ∧ mm 176 30 ≤ m 176 30 + 880) → (∀ s : Nat, mm 193 s ≤ mm 176 30) → mOk (R_mended_54 x b mm) (fun r => (∃ b, (-1 ≤ b ∧ b < 4096) ∧ mMdR (m 177) b ∧ r.1 = if b = -1 then -1 else if x = 0 then pcn b else b) ∧ (∀ q i, ¬(189 ≤ q ∧ q ≤ 195) → ¬(q = 176 ∧ (i = 0 ∨ (29 ≤ i ∧ i ≤ 32))) → r.2 q i = m q i) ∧ r.2 176 32 = 0 ∧ (m 176 30 ≤ r.2 176 30 ∧ r.2 176 30 ≤ m 176 30 + 880) ∧ ∀ s : Nat, r.2 193 s ≤ r.2 176 30) := by
    intro b mm hd fr mk mb
    have md : mMdR (m 177) b := by
      rcases hd with ⟨a, b⟩ | ⟨a, b⟩
      · exact Or.inl ⟨a, b⟩
      · exact b
    have bb : -1 ≤ b ∧ b < 4096 := by
      rcases md with ⟨a, -⟩ | ⟨a, -⟩ <;> omega
    unfold R_mended_54
    rw [st1e]
    have g : ∀ r : Int, (r = if b = -1 then -1 else if x = 0 then pcn b else b) → mOk (some (r, aup mm 176 32 0)) (fun r => (∃ b, (-1 ≤ b ∧ b < 4096) ∧ mMdR (m 177) b ∧ r.1 = if b = -1 then -1 else if x = 0 then pcn b else b) ∧ (∀ q i, ¬(189 ≤ q ∧ q ≤ 195) → ¬(q = 176 ∧ (i = 0 ∨ (29 ≤ i ∧ i ≤ 32))) → r.2 q i = m q i) ∧ r.2 176 32 = 0 ∧ (m 176 30 ≤ r.2 176 30 ∧ r.2 176 30 ≤ m 176 30 + 880) ∧ ∀ s : Nat, r.2 193 s ≤ r.2 176 30) := by
      intro r e
      refine mOk_some ⟨⟨b, bb, md, e⟩, fun q i a c => ?_, by dsimp only; exact aup_self _ _ _ _, ?_, fun s => ?_⟩
      · dsimp only; rw [aup_of (by omega)]; exact fr q i a c
      · dsimp only; rw [aup_of (by omega)]; exact mk
      · dsimp only; rw [aup_of (by omega), aup_of (by omega)]; exact mb s
    by_cases c : b = -1
    · rw [if_pos c]; exact g _ (by rw [if_pos c])
    · rw [if_neg c]
      by_cases d : x = 0
      · rw [if_pos d, pcn_R, Option.bind_some]; exact g _ (by rw [if_neg c, if_pos d])
      · rw [if_neg d]; exact g _ (by rw [if_neg c, if_neg d])
  refine mL3 (R_mended_15 x) (fun b n mm => (0 ≤ n ∧ n ≤ 4) ∧ ((b = -1 ∧ ∀ s : Int, 0 ≤ s → s < ishl 1 (m 177 18) → pcn s < n → ¬ mSur (m 177) s 0 0) ∨ (0 ≤ b ∧ mMdR (m 177) b)) ∧ (∀ q i, ¬(189 ≤ q ∧ q ≤ 195) → ¬(q = 176 ∧ (i = 0 ∨ (29 ≤ i ∧ i ≤ 32))) → mm q i = m q i) ∧ (m 176 30 ≤ mm 176 30 ∧ mm 176 30 ≤ m 176 30 + 220 * n) ∧ ∀ s : Nat, mm 193 s ≤ mm 176 30) (fun _ n _ => (6 - n).toNat) ?_ (-1) 0 m1 ⟨by omega, Or.inl ⟨rfl, fun s _ _ g => by have := pcn_nn s; omega⟩, fun q i a b => f0 q i (by omega), by rw [f0 _ _ (by omega)]; omega, fun s => by rw [f0 _ _ (by omega), f0 _ _ (by omega)]; exact rd2 s⟩ (by omega)
  rintro fu b n mm ⟨n1, hb, fr, mk, mb⟩ ih
  rw [R_mended_15]
  by_cases d : 3 < n
  · rw [if_pos d]
    refine fin b mm ?_ fr (by omega) mb
    rcases hb with ⟨a, b⟩ | g
    · exact Or.inl ⟨a, fun s s0 s1 s3 => b s s0 s1 (by omega)⟩
    · exact Or.inr g
  rw [if_neg d]
  by_cases y : b = -1
  rotate_left
  · rw [if_neg y]
    exact fin b mm (Or.inr (hb.resolve_left (fun g => y g.1))) fr (by omega) mb
  rw [if_pos y]
  have b0 := (hb.resolve_right (fun g => by omega)).2
  refine mL3 (R_mended_23 (R_mended_15 x fu) x n) (fun b s mm => (0 ≤ s ∧ s ≤ ishl 1 (m 177 18)) ∧ ((b = -1 ∧ ∀ s' : Int, 0 ≤ s' → s' < ishl 1 (m 177 18) → (pcn s' < n ∨ (pcn s' = n ∧ s' < s)) → ¬ mSur (m 177) s' 0 0) ∨ (0 ≤ b ∧ mMdR (m 177) b)) ∧ (∀ q i, ¬(189 ≤ q ∧ q ≤ 195) → ¬(q = 176 ∧ (i = 0 ∨ (29 ≤ i ∧ i ≤ 32))) → mm q i = m q i) ∧ (m 176 30 ≤ mm 176 30 ∧ mm 176 30 ≤ m 176 30 + 220 * n + (ctN (fun b => pcN b == n.toNat) s.toNat : Nat)) ∧ ∀ s : Nat, mm 193 s ≤ mm 176 30) (fun _ s _ => (4097 - s).toNat) ?_ b 0 mm ⟨by omega, Or.inl ⟨y, fun s s0 s1 g => b0 s s0 s1 (by omega)⟩, fr, ⟨mk.1, by show mm 176 30 ≤ m 176 30 + 220 * n + ((0 : Nat) : Int); omega⟩, mb⟩ (by omega)
  clear hb fr y b0 mk mb mm b
  rintro fu2 b s mm ⟨s1, hb, fr, mk, mb⟩ ih2
  have cl := ct_le n1.1 (show n ≤ 3 by omega) (n := s.toNat) (by omega)
  rw [R_mended_23, show mm 177 18 = m 177 18 from fr _ _ (by omega) (by omega)]
  unfold R_mended_49 R_mended_52 R_mended_50
  rw [w32e (x := n + 1) (by omega) (by omega), w32e (x := s + 1) (by omega) (by omega)]
  by_cases e : s < ishl 1 (m 177 18)
  rotate_left
  · rw [if_neg e]
    refine ih _ _ _ ⟨by omega, ?_, fr, by omega, mb⟩ (by omega)
    rcases hb with ⟨a, b⟩ | g
    · exact Or.inl ⟨a, fun s' a1 a2 a3 => b s' a1 a2 (by omega)⟩
    · exact Or.inr g
  rw [if_pos e]
  by_cases y : b = -1
  rotate_left
  · rw [if_neg y]
    exact ih _ _ _ ⟨by omega, Or.inr (hb.resolve_left (fun g => y g.1)), fr, by omega, mb⟩ (by omega)
  have cs := ct_s (x := n) (s := s) n1.1 s1.1 (by omega)
  rw [if_pos y, pcn_R, Option.bind_some]
  have b0 := (hb.resolve_right (fun g => by omega)).2
  by_cases z : pcn s = n
  rotate_left
  · rw [if_neg z] at cs ⊢
    refine ih2 _ _ _ ⟨by omega, Or.inl ⟨y, fun s' a1 a2 a3 => b0 s' a1 a2 ?_⟩, fr, by omega, mb⟩ (by omega)
    by_cases g : s' = s
    · rw [g] at a3 ⊢; omega
    · omega
  rw [if_pos z] at cs ⊢
  rw [st1e]
  have f1 : ∀ q i, ¬(q = 176 ∧ i = 32) → aup mm 176 32 s q i = mm q i := fun q i a => aup_of (by omega)
  have v1 : aup mm 176 32 s 176 32 = s := aup_self _ _ _ _
  generalize aup mm 176 32 s = m3 at f1 v1 ⊢
  have e177 : m3 177 = m 177 := funext fun i => by rw [f1 _ _ (by omega)]; exact fr _ _ (by omega) (by omega)
  have e33 : m3 176 33 = 0 := by rw [f1 _ _ (by omega), fr _ _ (by omega) (by omega)]; exact rd4
  refine mOk_bind (isSure_ok (m := m3) (M := 0) (by rw [e177]; exact hA) (by omega) (by omega) (by rw [f1 _ _ (by omega)]; omega) (fun s => by rw [f1 _ _ (by omega), f1 _ _ (by omega)]; exact mb s)) (fun r k => ?_)
  obtain ⟨k1, k2, k3, k4⟩ := k
  rw [e177, v1, e33] at k1
  have f30 : m3 176 30 = mm 176 30 := f1 _ _ (by omega)
  have fr4 : ∀ q i, ¬(189 ≤ q ∧ q ≤ 195) → ¬(q = 176 ∧ (i = 0 ∨ (29 ≤ i ∧ i ≤ 32))) → r.2 q i = m q i := fun q i a b => by rw [k2 q i a (by omega), f1 q i (by omega)]; exact fr q i a b
  rcases k1 with ⟨u, su⟩ | ⟨u, su⟩
  · rw [if_neg (by omega)]
    refine ih2 _ _ _ ⟨by omega, Or.inr ⟨s1.1, Or.inr ⟨⟨s1.1, e⟩, by omega, su, fun s' a1 a2 a3 => b0 s' a1 a2 (by rw [z] at a3; exact a3)⟩⟩, fr4, by omega, k4⟩ (by omega)
  · rw [if_pos u]
    refine ih2 _ _ _ ⟨by omega, Or.inl ⟨rfl, fun s' a1 a2 a3 => ?_⟩, fr4, by omega, k4⟩ (by omega)
    by_cases g : s' = s
    · rw [g]; exact su
    · exact b0 s' a1 a2 (by omega)
/-- what stands in the cache is what the reference would answer -/
theorem mended_c {A : Nat → Int} {b : Int} (ht : mTok A) (h : mMdC A b) : ∀ (m' : aM) (r : Int × aM), mAeqT A (m' 177) → mRdy m' → R_mended 1 m' = some r → r.1 = b := by
  intro m' r ha rd kr
  obtain ⟨r0, k0, ⟨b', bb, md, e⟩, -⟩ := R_mended_ok (x := 1) (m := m') (Or.inr rfl) (mVx_of ht ha) (by rw [ha.w ht.2.2.2.2.1.1]; exact ht.2.2.2.2.1.2) rd
  rw [kr] at k0
  have eb := mMd_eq ht.2.2.2.2.1.1 ha h md
  rw [Option.some.inj k0, e, eb]
  split <;> omega
