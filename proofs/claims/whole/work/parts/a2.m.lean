/-! added: the course of the search, and the class's -/
def yP (A : Nat → Int) (kd n c : Int) : Prop := (¬ yE A (yD (A 0) c n) n ∧ yS A (yD (A 0) c n) n) ∧ ∀ A1, yO A A1 kd n (yD (A 0) c n) → mSur A1 0 0 0
/-- what is kept: how many sounds, how unlike, the number -/
def yNx (A : Nat → Int) (kd n c : Int) (s s' : Int × Int × Int) : Prop := ((yP A kd n c ∧ (s.1 = 0 ∨ s.2.1 < yCost A (yD (A 0) c n) n)) ∧ s' = (n, yCost A (yD (A 0) c n) n, c)) ∨ (¬(yP A kd n c ∧ (s.1 = 0 ∨ s.2.1 < yCost A (yD (A 0) c n) n)) ∧ s' = s)
theorem yNx_uni {A : Nat → Int} {kd n c : Int} {s s1 s2 : Int × Int × Int} (h : yNx A kd n c s s1) (h' : yNx A kd n c s s2) : s1 = s2 := by
  rcases h with ⟨a, b⟩ | ⟨a, b⟩ <;> rcases h' with ⟨a', b'⟩ | ⟨a', b'⟩
  · rw [b, b']
  · exact absurd a a'
  · exact absurd a' a
  · rw [b, b']
def yRc (A : Nat → Int) (kd n : Int) (s0 : Int × Int × Int) : Nat → Int × Int × Int → Prop
  | 0, s => s = s0
  | c + 1, s => ∃ s1, yRc A kd n s0 c s1 ∧ yNx A kd n (c : Int) s1 s
theorem yRc_uni {A : Nat → Int} {kd n : Int} {s0 : Int × Int × Int} : ∀ (c : Nat) {s s' : Int × Int × Int}, yRc A kd n s0 c s → yRc A kd n s0 c s' → s = s'
  | 0, _, _, h, h' => h.trans h'.symm
  | c + 1, _, _, ⟨a, h1, h2⟩, ⟨b, g1, g2⟩ => by
    have := yRc_uni c h1 g1
    rw [this] at h2
    exact yNx_uni h2 g2
def yW (S : Int) : Nat → Int
  | 0 => 1
  | n + 1 => yW S n * S
theorem yW_s {S n : Int} (h : 1 ≤ n) : yW S (n - 1).toNat * S = yW S n.toNat := by
  rw [show n.toNat = (n - 1).toNat + 1 by omega]; rfl
theorem yW_bd {S n : Int} (s0 : 0 ≤ S) (s1 : S ≤ 8) (n0 : 0 ≤ n) (n1 : n ≤ 3) : 0 ≤ yW S n.toNat ∧ yW S n.toNat ≤ 512 := by
  have hs : S = 0 ∨ S = 1 ∨ S = 2 ∨ S = 3 ∨ S = 4 ∨ S = 5 ∨ S = 6 ∨ S = 7 ∨ S = 8 := by omega
  have hn : n = 0 ∨ n = 1 ∨ n = 2 ∨ n = 3 := by omega
  rcases hs with h | h | h | h | h | h | h | h | h <;> rcases hn with g | g | g | g <;> subst h <;> subst g <;> decide
theorem yW_pos {S n c : Int} (s0 : 0 ≤ S) (n0 : 1 ≤ n) (c0 : 0 ≤ c) (h : c < yW S n.toNat) : 0 < S := by
  refine Classical.byContradiction (fun g => ?_)
  have : S = 0 := by omega
  rw [← yW_s n0, this, Int.mul_zero] at h
  omega
def yRn (A : Nat → Int) (kd : Int) : Nat → Int × Int × Int → Prop
  | 0, s => s = (0, -1, 0)
  | n + 1, s => ∃ s1, yRn A kd n s1 ∧ yRc A kd ((n : Int) + 1) s1 (yW (A 0) (n + 1)).toNat s
theorem yRn_uni {A : Nat → Int} {kd : Int} : ∀ (n : Nat) {s s' : Int × Int × Int}, yRn A kd n s → yRn A kd n s' → s = s'
  | 0, _, _, h, h' => h.trans h'.symm
  | n + 1, _, _, ⟨a, h1, h2⟩, ⟨b, g1, g2⟩ => by
    have := yRn_uni n h1 g1
    rw [this] at h2
    exact yRc_uni _ h2 g2
theorem yRc_s {A : Nat → Int} {kd n c : Int} {s0 s1 s : Int × Int × Int} (c0 : 0 ≤ c) (h : yRc A kd n s0 c.toNat s1) (h' : yNx A kd n c s1 s) : yRc A kd n s0 (c + 1).toNat s := by
  rw [show (c + 1).toNat = c.toNat + 1 by omega]
  refine ⟨s1, h, ?_⟩
  rw [Int.toNat_of_nonneg c0]; exact h'
theorem yRn_s {A : Nat → Int} {kd n : Int} {s1 s : Int × Int × Int} (n0 : 1 ≤ n) (h : yRn A kd (n - 1).toNat s1) (h' : yRc A kd n s1 (yW (A 0) n.toNat).toNat s) : yRn A kd n.toNat s := by
  rw [show n.toNat = (n - 1).toNat + 1 by omega] at h' ⊢
  refine ⟨s1, h, ?_⟩
  rw [show ((n - 1).toNat : Int) + 1 = n by omega]; exact h'
theorem yO_row {A A1 D D' : Nat → Int} {kd n : Int} (h : ∀ k : Int, 0 ≤ k → k < n → D k.toNat = D' k.toNat) (g : yO A A1 kd n D) : yO A A1 kd n D' := ⟨g.1, g.2.1, g.2.2.1, g.2.2.2.1, fun k k0 k1 => by rw [g.2.2.2.2 k k0 k1]; exact h k k0 k1⟩
theorem yD_bd {S c n : Int} (s0 : 0 < S) (k : Nat) : 0 ≤ yD S c n k ∧ yD S c n k < S := mod_bd s0
theorem findAdded_ok {kd : Int} {m : aM} (ht : mTok (m 177)) (hr : mTR 25 47 (m 177) m) (k0 : 0 ≤ kd ∧ kd < 4) (c : m 109 kd.toNat = 0) : mOk (Mender_findAdded kd m) (fun mm => (∃ s, yRn (m 177) kd 3 s ∧ (0 ≤ s.1 ∧ s.1 ≤ 3) ∧ mm (112 + 2 * kd.toNat) 1 = s.1 ∧ mm 111 kd.toNat = s.2.1 ∧ ∀ k : Int, 0 ≤ k → k < s.1 → mm (113 + 2 * kd.toNat) k.toNat = yD (m 177 0) s.2.2 s.1 k.toNat) ∧ mm 109 kd.toNat = 1 ∧ ∀ q i, ¬(77 ≤ q ∧ q ≤ 78) → ¬(80 ≤ q ∧ q ≤ 106) → ¬(q = 112 + 2 * kd.toNat ∧ i = 1) → q ≠ 113 + 2 * kd.toNat → ¬((q = 111 ∨ q = 109) ∧ i = kd.toNat) → mm q i = m q i) := by
  have c0 := ht.1
  have c4 := ht.2.2.2.2.1
  unfold Mender_findAdded
  rw [if_pos k0, if_pos c, st1e, st1e, st1e]
  have f0 : ∀ q i, ¬(q = 112 + 2 * kd.toNat ∧ i = 1) → ¬((q = 111 ∨ q = 109) ∧ i = kd.toNat) → aup (aup (aup m 109 kd.toNat 1) (112 + 2 * kd.toNat) 1 0) 111 kd.toNat (-1) q i = m q i := fun q i a b => by rw [aup_of (by omega), aup_of (by omega), aup_of (by omega)]
  have v1 : aup (aup (aup m 109 kd.toNat 1) (112 + 2 * kd.toNat) 1 0) 111 kd.toNat (-1) 109 kd.toNat = 1 := by rw [aup_of (by omega), aup_of (by omega), aup_self]
  have v2 : aup (aup (aup m 109 kd.toNat 1) (112 + 2 * kd.toNat) 1 0) 111 kd.toNat (-1) (112 + 2 * kd.toNat) 1 = 0 := by rw [aup_of (by omega), aup_self]
  have v3 : aup (aup (aup m 109 kd.toNat 1) (112 + 2 * kd.toNat) 1 0) 111 kd.toNat (-1) 111 kd.toNat = -1 := by rw [aup_self]
  generalize aup (aup (aup m 109 kd.toNat 1) (112 + 2 * kd.toNat) 1 0) 111 kd.toNat (-1) = m5 at f0 v1 v2 v3 ⊢
  refine mOk_bind (load_ok (m := m5) (A := m 177) ht (mTR_same (fun q j hq => f0 q j (by omega) (by omega)) hr c4.2)) (fun X kX => ?_)
  obtain ⟨ld, fl⟩ := kX
  have fX : ∀ q i, ¬(80 ≤ q ∧ q ≤ 106) → X q i = m5 q i := fun q i a => fl q i (by omega) (by omega)
  -- what holds between two candidates
  generalize hI : (fun (s : Int × Int × Int) (mm : aM) => (0 ≤ s.1 ∧ s.1 ≤ 3) ∧ mm (112 + 2 * kd.toNat) 1 = s.1 ∧ mm 111 kd.toNat = s.2.1 ∧ (∀ k : Int, 0 ≤ k → k < s.1 → mm (113 + 2 * kd.toNat) k.toNat = yD (m 177 0) s.2.2 s.1 k.toNat) ∧ yB (m 177) mm ∧ ∀ q i, ¬(77 ≤ q ∧ q ≤ 78) → ¬(80 ≤ q ∧ q ≤ 106) → ¬(q = 112 + 2 * kd.toNat ∧ i = 1) → q ≠ 113 + 2 * kd.toNat → ¬(q = 111 ∧ i = kd.toNat) → mm q i = m5 q i) = I
  have iI : ∀ s mm, I s mm ↔ ((0 ≤ s.1 ∧ s.1 ≤ 3) ∧ mm (112 + 2 * kd.toNat) 1 = s.1 ∧ mm 111 kd.toNat = s.2.1 ∧ (∀ k : Int, 0 ≤ k → k < s.1 → mm (113 + 2 * kd.toNat) k.toNat = yD (m 177 0) s.2.2 s.1 k.toNat) ∧ yB (m 177) mm ∧ ∀ q i, ¬(77 ≤ q ∧ q ≤ 78) → ¬(80 ≤ q ∧ q ≤ 106) → ¬(q = 112 + 2 * kd.toNat ∧ i = 1) → q ≠ 113 + 2 * kd.toNat → ¬(q = 111 ∧ i = kd.toNat) → mm q i = m5 q i) := fun s mm => by rw [← hI]
  clear hI
  refine mL3 (Mender_findAdded_34 kd (112 + 2 * kd.toNat)) (fun W n mm => (1 ≤ n ∧ n ≤ 4) ∧ W = yW (m 177 0) (n - 1).toNat ∧ ∃ s, yRn (m 177) kd (n - 1).toNat s ∧ I s mm) (fun _ n _ => (6 - n).toNat) ?_ 1 1 X ⟨by omega, rfl, (0, -1, 0), rfl, (iI _ _).mpr ⟨by decide, by rw [fX _ _ (by omega)]; exact v2, by rw [fX _ _ (by omega)]; exact v3, fun k a b => by dsimp only at b; omega, yB_ld ht ld, fun q i _ a _ _ _ => fX q i a⟩⟩ (by omega)
  rintro fu W n mm ⟨n1, eW, s0, hs0, hI0⟩ ih
  rw [Mender_findAdded_34]
  by_cases d : 3 < n
  · rw [if_pos d]
    obtain ⟨i1, i2, i3, i4, i5, i6⟩ := (iI _ _).mp hI0
    rw [show (n - 1).toNat = 3 by omega] at hs0
    exact mOk_some ⟨⟨s0, hs0, i1, i2, i3, i4⟩, by rw [i6 _ _ (by omega) (by omega) (by omega) (by omega) (by omega)]; exact v1, fun q i a b e g h => by rw [i6 q i a b e g (by omega)]; exact f0 q i e h⟩
  rw [if_neg d]
  have e25 : ∀ s mm, I s mm → mm 25 1 = m 177 0 := fun s mm h => by
    obtain ⟨-, -, -, -, -, i6⟩ := (iI _ _).mp h
    rw [i6 _ _ (by omega) (by omega) (by omega) (by omega) (by omega), f0 _ _ (by omega) (by omega)]; exact hr.1.2.1
  have wb := yW_bd (n := n) c0.1 c0.2 (by omega) (by omega)
  rw [e25 _ _ hI0, eW, yW_s n1.1, w32e (by omega) (by omega)]
  refine mL2 (Mender_findAdded_45 (Mender_findAdded_34 kd (112 + 2 * kd.toNat) fu) kd (112 + 2 * kd.toNat) (yW (m 177 0) n.toNat) n) (fun c mm => (0 ≤ c ∧ c ≤ yW (m 177 0) n.toNat) ∧ ∃ s, yRc (m 177) kd n s0 c.toNat s ∧ I s mm) (fun c _ => (513 - c).toNat) ?_ 0 mm ⟨by omega, s0, rfl, hI0⟩ (by omega)
  clear hI0 mm
  rintro fu2 c mm ⟨c1, s, hs, hI⟩ ih2
  rw [Mender_findAdded_45]
  by_cases e : c < yW (m 177 0) n.toNat
  rotate_left
  · rw [if_neg e, w32e (by omega) (by omega)]
    refine ih _ _ _ ⟨by omega, by rw [show n + 1 - 1 = n by omega], s, ?_, hI⟩ (by omega)
    rw [show n + 1 - 1 = n by omega]
    rw [show c = yW (m 177 0) n.toNat by omega] at hs
    exact yRn_s n1.1 hs0 hs
  have sp := yW_pos c0.1 n1.1 c1.1 e
  rw [if_pos e]
  obtain ⟨i1, i2, i3, i4, i5, i6⟩ := (iI _ _).mp hI
  refine mOk_bind (spellNumber_ok (A := m 177) (c := c) (n := n) (m := mm) (e25 _ _ hI) sp c0.2 c1.1 (by omega) (by omega)) (fun m9 k9 => ?_)
  obtain ⟨p1, p2, p3⟩ := k9
  have tr9 : mTR 25 47 (m 177) m9 := mTR_same (fun q j hq => by rw [p3 q j (by omega) (by omega), i6 q j (by omega) (by omega) (by omega) (by omega) (by omega)]; exact f0 q j (by omega) (by omega)) hr c4.2
  have dd : ∀ k : Int, 0 ≤ k → k < n → m9 106 k.toNat = yD (m 177 0) c n k.toNat ∧ 0 ≤ yD (m 177 0) c n k.toNat ∧ yD (m 177 0) c n k.toNat < 8 := fun k a b => ⟨p2 k a b, (yD_bd sp _).1, by have := (yD_bd (S := m 177 0) (c := c) (n := n) sp k.toNat).2; omega⟩
  refine mOk_bind (leastUnlike_ok ht tr9 (by omega) p1 dd) (fun r10 k10 => ?_)
  obtain ⟨p4, p5⟩ := k10
  have f10 : ∀ q i, ¬(77 ≤ q ∧ q ≤ 78) → q ≠ 106 → ¬(q = 105 ∧ i = 1) → r10.2 q i = mm q i := fun q i a b e => by rw [p5 q i (by omega) (by omega)]; exact p3 q i b e
  have I10 : I s r10.2 := (iI _ _).mpr ⟨i1, by rw [f10 _ _ (by omega) (by omega) (by omega)]; exact i2, by rw [f10 _ _ (by omega) (by omega) (by omega)]; exact i3, fun k a b => by rw [f10 _ _ (by omega) (by omega) (by omega)]; exact i4 k a b, yB_fr c4 (fun q i a => f10 q i (by omega) (by omega) (by omega)) i5, fun q i a b e g h => by rw [f10 q i a (by omega) (by omega)]; exact i6 q i a b e g h⟩
  have b10 : yB (m 177) r10.2 := ((iI _ _).mp I10).2.2.2.2.1
  have nxt : ∀ s' mm', yNx (m 177) kd n c s s' → I s' mm' → mOk (Mender_findAdded_90 (Mender_findAdded_34 kd (112 + 2 * kd.toNat) fu) (Mender_findAdded_45 (Mender_findAdded_34 kd (112 + 2 * kd.toNat) fu) kd (112 + 2 * kd.toNat) (yW (m 177 0) n.toNat) n fu2) kd (112 + 2 * kd.toNat) (yW (m 177 0) n.toNat) n c mm') (fun mm => (∃ s, yRn (m 177) kd 3 s ∧ (0 ≤ s.1 ∧ s.1 ≤ 3) ∧ mm (112 + 2 * kd.toNat) 1 = s.1 ∧ mm 111 kd.toNat = s.2.1 ∧ ∀ k : Int, 0 ≤ k → k < s.1 → mm (113 + 2 * kd.toNat) k.toNat = yD (m 177 0) s.2.2 s.1 k.toNat) ∧ mm 109 kd.toNat = 1 ∧ ∀ q i, ¬(77 ≤ q ∧ q ≤ 78) → ¬(80 ≤ q ∧ q ≤ 106) → ¬(q = 112 + 2 * kd.toNat ∧ i = 1) → q ≠ 113 + 2 * kd.toNat → ¬((q = 111 ∨ q = 109) ∧ i = kd.toNat) → mm q i = m q i) := by
    intro s' mm' h1 h2
    unfold Mender_findAdded_90
    rw [w32e (by omega) (by omega)]
    exact ih2 _ _ ⟨by omega, s', yRc_s c1.1 hs h1, h2⟩ (by omega)
  have go : (s.1 = 0 ∨ s.2.1 < yCost (m 177) (yD (m 177 0) c n) n) → mOk (Mender_findAdded_64 (Mender_findAdded_34 kd (112 + 2 * kd.toNat) fu) (Mender_findAdded_45 (Mender_findAdded_34 kd (112 + 2 * kd.toNat) fu) kd (112 + 2 * kd.toNat) (yW (m 177 0) n.toNat) n fu2) kd (112 + 2 * kd.toNat) (yW (m 177 0) n.toNat) n c r10.1 r10.2) (fun mm => (∃ s, yRn (m 177) kd 3 s ∧ (0 ≤ s.1 ∧ s.1 ≤ 3) ∧ mm (112 + 2 * kd.toNat) 1 = s.1 ∧ mm 111 kd.toNat = s.2.1 ∧ ∀ k : Int, 0 ≤ k → k < s.1 → mm (113 + 2 * kd.toNat) k.toNat = yD (m 177 0) s.2.2 s.1 k.toNat) ∧ mm 109 kd.toNat = 1 ∧ ∀ q i, ¬(77 ≤ q ∧ q ≤ 78) → ¬(80 ≤ q ∧ q ≤ 106) → ¬(q = 112 + 2 * kd.toNat ∧ i = 1) → q ≠ 113 + 2 * kd.toNat → ¬((q = 111 ∨ q = 109) ∧ i = kd.toNat) → mm q i = m q i) := by
    intro hc
    unfold Mender_findAdded_64
    have tr10 : mTR 25 47 (m 177) r10.2 := mTR_same (fun q j hq => p5 q j (by omega) (by omega)) tr9 c4.2
    have d10 : ∀ k : Int, 0 ≤ k → k < n → r10.2 106 k.toNat = yD (m 177 0) c n k.toNat ∧ 0 ≤ yD (m 177 0) c n k.toNat ∧ yD (m 177 0) c n k.toNat < 8 := fun k a b => by rw [p5 106 _ (by omega) (by omega)]; exact dd k a b
    refine mOk_bind (mayBeWord_ok ht tr10 (by omega) (by rw [p5 _ _ (by omega) (by omega)]; exact p1) d10) (fun r12 k12 => ?_)
    rcases k12 with ⟨a1, a2⟩ | ⟨a1, a2⟩
    rotate_left
    · rw [if_pos a1]
      exact nxt s _ (Or.inr ⟨fun g => a2 g.1.1, rfl⟩) I10
    rw [if_neg (by omega)]
    obtain ⟨⟨v, m3⟩, kS, q1, q2, q3⟩ := os_ok (kd := kd) (n := n) (M := 0) (x := 106) (m := r10.2) ht b10 (Or.inl rfl) (by omega) (by omega) (by rw [show aln 106 = 40 by decide]; omega) (by omega) (fun k a b => by rw [(d10 k a b).1]; exact (d10 k a b).2)
    dsimp only at q1 q2 q3
    rw [← Option.bind_assoc, kS, Option.bind_some]
    dsimp only
    obtain ⟨j1, j2, j3, j4, j5, j6⟩ := (iI _ _).mp I10
    by_cases u : v = -1
    rotate_left
    · rw [if_neg u]
      refine nxt s _ (Or.inr ⟨fun g => ?_, rfl⟩) ((iI _ _).mpr ⟨j1, by rw [q3 _ _ (by omega)]; exact j2, by rw [q3 _ _ (by omega)]; exact j3, fun k a b => by rw [q3 _ _ (by omega)]; exact j4 k a b, q1, fun q i a b e g h => by rw [q3 _ _ (by omega)]; exact j6 q i a b e g h⟩)
      obtain ⟨A1, hA1⟩ := yO_ex (A := m 177) (kd := kd) (n := n) (S := r10.2 106) c4 (by omega)
      exact u ((q2 A1 hA1).mpr (g.1.2 A1 (yO_row (fun k a b => (d10 k a b).1) hA1)))
    rw [if_pos u]
    refine mOk_bind (Sounds_become_ok (t := 112 + 2 * kd.toNat) (x := 105) (m := m3) (by omega)) (fun m17 k17 => ?_)
    obtain ⟨g1, g2, g3⟩ := k17
    rw [if_pos k0, st1e]
    refine nxt (n, yCost (m 177) (yD (m 177 0) c n) n, c) _ (Or.inl ⟨⟨⟨a2, fun A1 hA1 => (q2 A1 (yO_row (fun k a b => (d10 k a b).1.symm) hA1)).mp u⟩, hc⟩, rfl⟩) ((iI _ _).mpr ⟨by dsimp only; omega, ?_, ?_, fun k a b => ?_, ?_, fun q i a b e g h => ?_⟩)
    · rw [aup_of (by omega), g1, q3 _ _ (by omega)]
      dsimp only
      rw [p5 _ _ (by omega) (by omega)]; exact p1
    · rw [aup_self]; exact p4
    · dsimp only at b ⊢
      rw [aup_of (by omega), show 113 + 2 * kd.toNat = 112 + 2 * kd.toNat + 1 by omega, g2 _ (by omega), q3 _ _ (by omega)]
      exact (d10 k a b).1
    · exact yB_fr c4 (fun q i a => by rw [aup_of (by omega), g3 q i (by omega) (by omega)]) q1
    · rw [aup_of (by omega), g3 q i (by omega) (by omega), q3 _ _ (by omega)]; exact j6 q i a b e g h
  have e2 : r10.2 (112 + 2 * kd.toNat) 1 = s.1 := ((iI _ _).mp I10).2.1
  have e3 : r10.2 111 kd.toNat = s.2.1 := ((iI _ _).mp I10).2.2.1
  rw [e2, e3, p4]
  rw [p4] at go
  by_cases y : s.1 = 0
  · rw [if_pos y]; exact go (Or.inl y)
  rw [if_neg y, if_pos k0]
  by_cases y2 : s.2.1 < yCost (m 177) (yD (m 177 0) c n) n
  · rw [if_pos y2]; exact go (Or.inr y2)
  · rw [if_neg y2]
    exact nxt s _ (Or.inr ⟨fun g => by rcases g.2 with g | g <;> omega, rfl⟩) I10
