/-! unsureAt: gathering behind one state -/
/-- the sound by which a state is come to -/
def rS (A : Nat → Int) (s : Int) : Int := A (58 + (if s < 78 then s else (s - 78) / 9 / 78)).toNat
def gC (m : aM) (its x : Int) (sm : Int) (p1 p2 t : Int) : Prop := m 177 (58 + p1).toNat = m 177 (58 + p2).toNat ∧ (x = -1 ∨ m 177 (58 + p1).toNat = x) ∧ t = (if sm ≠ 0 ∧ p1 = p2 then p1 else mPr p1 p2 0 0) ∧ mMk m t ∧ m 189 t.toNat = its ∧ m 191 t.toNat ≠ 0
theorem gathers_44 {a b its x sm : Int} {m : aM} (hA : mVx (m 177)) (o : m 176 32 = 0) (ha : a = -1 ∨ mPv3 (m 177) a) (hb : b = -1 ∨ mPv3 (m 177) b) (hs : sm = 0 ∨ (sm = 1 ∧ a = b)) (hx : x = -1 ∨ gQ m) : mOk (R_gathers_44 its x 0 a b sm m) (fun r => gFl r.1 (fun t => ∃ p1 p2, mNx (m 177) 0 a p1 ∧ mNx (m 177) 0 b p2 ∧ gC m its x sm p1 p2 t) ∧ ∃ m1 : aM, (∀ q i, q ≠ 194 → q ≠ 195 → m1 q i = m q i) ∧ gAc m1 r.2 x (fun t => ∃ p1 p2, mNx (m 177) 0 a p1 ∧ mNx (m 177) 0 b p2 ∧ gC m its x sm p1 p2 t)) := by
  unfold R_gathers_44
  refine mOk_bind (follows_s (Or.inl rfl) hA ha) (fun r6 k6 => ?_)
  obtain ⟨a1, a2, a3, a4, a5⟩ := k6
  rw [o] at a2 a3
  have e177 : r6.2 177 = m 177 := funext fun i => a5 _ _ (by omega)
  refine mOk_bind (follows_s (x2 := 195) (m := r6.2) (Or.inr rfl) (by rw [e177]; exact hA) (by rw [e177]; exact hb)) (fun r7 k7 => ?_)
  obtain ⟨b1, b2, b3, b4, b5⟩ := k7
  rw [e177, a5 176 32 (by omega), o] at b2 b3
  have f7 : ∀ q i, q ≠ 194 → q ≠ 195 → r7.2 q i = m q i := fun q i x y => by rw [b5 q i y]; exact a5 q i x
  have e194 : ∀ i, r7.2 194 i = r6.2 194 i := fun i => b5 _ _ (by omega)
  generalize hf : (fun i : Int => r7.2 194 i.toNat) = f
  generalize hg : (fun i : Int => r7.2 195 i.toNat) = g
  have hf' : ∀ i : Int, r7.2 194 i.toNat = f i := fun i => by rw [← hf]
  have hg' : ∀ i : Int, r7.2 195 i.toNat = g i := fun i => by rw [← hg]
  have fN : ∀ i : Int, 0 ≤ i → i < r6.1 → mNx (m 177) 0 a (f i) := fun i x y => by rw [← hf', e194]; exact a2 i x y
  have gN : ∀ i : Int, 0 ≤ i → i < r7.1 → mNx (m 177) 0 b (g i) := fun i x y => by rw [← hg']; exact b2 i x y
  have fA : ∀ p, mNx (m 177) 0 a p → ∃ i : Int, 0 ≤ i ∧ i < r6.1 ∧ f i = p := fun p hp => by
    obtain ⟨i, x, y, z⟩ := a3 p hp
    exact ⟨i, x, y, by rw [← hf', e194]; exact z⟩
  have gA : ∀ p, mNx (m 177) 0 b p → ∃ i : Int, 0 ≤ i ∧ i < r7.1 ∧ g i = p := fun p hp => by
    obtain ⟨i, x, y, z⟩ := b3 p hp
    exact ⟨i, x, y, by rw [← hg']; exact z⟩
  have fR : ∀ i j : Int, 0 ≤ i → i < j → j < r6.1 → f i < f j := fun i j x y z => by rw [← hf', ← hf', e194, e194]; exact a4 i j x y z
  have gR : ∀ i j : Int, 0 ≤ i → i < j → j < r7.1 → g i < g j := fun i j x y z => by rw [← hg', ← hg']; exact b4 i j x y z
  have sj : sm ≠ 0 → ∀ i j : Int, 0 ≤ i → i < r6.1 → 0 ≤ j → j < r7.1 → (i = j ↔ f i = g j) := by
    intro hsm i j i0 i1 j0 j1
    have eab : a = b := by
      rcases hs with h | h
      · exact absurd h hsm
      · exact h.2
    obtain ⟨en, ef⟩ := rise_eq a1.1 b1.1 fR gR (fun i x y => gA _ (by rw [← eab]; exact fN i x y)) (fun i x y => fA _ (by rw [eab]; exact gN i x y))
    constructor
    · intro e; rw [← e]; exact ef i i0 i1
    · intro e
      rw [← ef j j0 (by omega)] at e
      by_cases c : i < j
      · have := fR i j i0 c (by omega); omega
      · by_cases d : j < i
        · have := fR j i j0 d i1; omega
        · omega
  have pf : ∀ i : Int, 0 ≤ i → i < r6.1 → mPv3 (m 177) (f i) := fun i x y => mNx_v hA ha (fN i x y)
  have pg : ∀ i : Int, 0 ≤ i → i < r7.1 → mPv3 (m 177) (g i) := fun i x y => mNx_v hA hb (gN i x y)
  -- what was met ahead of (i, j)
  generalize hSd : (fun (i j t : Int) => ∃ i' j' : Int, (0 ≤ i' ∧ i' < r6.1) ∧ (0 ≤ j' ∧ j' < r7.1) ∧ (i' < i ∨ (i' = i ∧ j' < j)) ∧ gC m its x sm (f i') (g j') t) = Sd
  have iS : ∀ i j t, Sd i j t ↔ ∃ i' j' : Int, (0 ≤ i' ∧ i' < r6.1) ∧ (0 ≤ j' ∧ j' < r7.1) ∧ (i' < i ∨ (i' = i ∧ j' < j)) ∧ gC m its x sm (f i') (g j') t := fun i j t => by rw [← hSd]
  clear hSd
  have all : ∀ t, Sd r6.1 0 t ↔ ∃ p1 p2, mNx (m 177) 0 a p1 ∧ mNx (m 177) 0 b p2 ∧ gC m its x sm p1 p2 t := by
    intro t
    rw [iS]
    constructor
    · rintro ⟨i', j', x, y, -, z⟩
      exact ⟨_, _, fN i' x.1 x.2, gN j' y.1 y.2, z⟩
    · rintro ⟨p1, p2, x, y, z⟩
      obtain ⟨i', i0, i1, rfl⟩ := fA p1 x
      obtain ⟨j', j0, j1, rfl⟩ := gA p2 y
      exact ⟨i', j', ⟨i0, i1⟩, ⟨j0, j1⟩, Or.inl i1, z⟩
  have ac0 : gAc r7.2 r7.2 x (Sd 0 0) := by
    refine ⟨fun _ _ _ _ _ => rfl, ?_⟩
    rcases hx with h | h
    · exact Or.inl ⟨h, fun _ _ => rfl⟩
    · by_cases c : x = -1
      · exact Or.inl ⟨c, fun _ _ => rfl⟩
      · refine Or.inr ⟨c, ?_, Int.le_refl _, fun _ _ _ => rfl, fun i _ x y => by omega, fun t ht => ?_⟩
        · unfold gQ mMk at *
          rw [f7 176 40 (by omega) (by omega), f7 176 30 (by omega) (by omega), show r7.2 197 = m 197 from funext fun i => f7 _ _ (by omega) (by omega), show r7.2 192 = m 192 from funext fun i => f7 _ _ (by omega) (by omega), show r7.2 193 = m 193 from funext fun i => f7 _ _ (by omega) (by omega)]
          exact h
        · obtain ⟨i', j', y1, y2, y3, -⟩ := (iS 0 0 t).mp ht
          omega
  have fl0 : gFl 0 (Sd 0 0) := Or.inr ⟨rfl, fun t ht => by
    obtain ⟨i', j', y1, y2, y3, -⟩ := (iS 0 0 t).mp ht
    omega⟩
  refine mL3 (R_gathers_59 its x sm r6.1 r7.1) (fun is i mm => (0 ≤ i ∧ i ≤ r6.1) ∧ gFl is (Sd i 0) ∧ gAc r7.2 mm x (Sd i 0)) (fun _ i _ => (14 - i).toNat) ?_ 0 0 r7.2 ⟨by omega, fl0, ac0⟩ (by omega)
  rintro fu is i mm ⟨i1, fl, ac⟩ ih
  rw [R_gathers_59]
  by_cases c : i < r6.1
  rotate_left
  · rw [if_neg c, if_pos (by rcases fl with g | g <;> omega)]
    have e : i = r6.1 := by omega
    rw [e] at fl ac
    exact mOk_some ⟨gFl_iff all fl, r7.2, f7, gAc_iff all ac⟩
  rw [if_pos c]
  refine mL3 (R_gathers_64 (R_gathers_59 its x sm r6.1 r7.1 fu) its x sm r6.1 r7.1 i) (fun is j mm => (0 ≤ j ∧ j ≤ r7.1) ∧ gFl is (Sd i j) ∧ gAc r7.2 mm x (Sd i j)) (fun _ j _ => (14 - j).toNat) ?_ is 0 mm ⟨by omega, fl, ac⟩ (by omega)
  clear fl ac is mm
  rintro fu2 is j mm ⟨j1, fl, ac⟩ ih2
  rw [R_gathers_64]
  by_cases d : j < r7.1
  rotate_left
  · rw [if_neg d, w32e (by omega) (by omega)]
    have e : ∀ t, Sd i j t ↔ Sd (i + 1) 0 t := by
      intro t
      rw [iS, iS]
      constructor
      · rintro ⟨i', j', x, y, z, w⟩; exact ⟨i', j', x, y, by omega, w⟩
      · rintro ⟨i', j', x, y, z, w⟩; exact ⟨i', j', x, y, by omega, w⟩
    exact ih _ _ _ ⟨by omega, gFl_iff e fl, gAc_iff e ac⟩ (by omega)
  have fr := ac.1
  have m194 : mm 194 i.toNat = f i := by rw [fr _ _ (by omega) (by omega) (by omega)]; exact hf' i
  have m195 : mm 195 j.toNat = g j := by rw [fr _ _ (by omega) (by omega) (by omega)]; exact hg' j
  have m177 : mm 177 = m 177 := funext fun k => by rw [fr _ _ (by omega) (by omega) (by omega)]; exact f7 _ _ (by omega) (by omega)
  have P1 := pf i i1.1 c
  have P2 := pg j j1.1 d
  rw [if_pos d, if_pos (by omega), m194, soundAt_eq (by rw [m177]; exact hA) (by rw [m177]; exact P1), Option.bind_some, if_pos (by omega), m195, soundAt_eq (by rw [m177]; exact hA) (by rw [m177]; exact P2), Option.bind_some, m177]
  -- the next one
  have nxt : ∀ is' mm', gFl is' (Sd i (j + 1)) → gAc r7.2 mm' x (Sd i (j + 1)) → mOk (R_gathers_158 (R_gathers_59 its x sm r6.1 r7.1 fu) (R_gathers_64 (R_gathers_59 its x sm r6.1 r7.1 fu) its x sm r6.1 r7.1 i fu2) its x is' sm r6.1 r7.1 i j mm') (fun r => gFl r.1 (fun t => ∃ p1 p2, mNx (m 177) 0 a p1 ∧ mNx (m 177) 0 b p2 ∧ gC m its x sm p1 p2 t) ∧ ∃ m1 : aM, (∀ q i, q ≠ 194 → q ≠ 195 → m1 q i = m q i) ∧ gAc m1 r.2 x (fun t => ∃ p1 p2, mNx (m 177) 0 a p1 ∧ mNx (m 177) 0 b p2 ∧ gC m its x sm p1 p2 t)) := by
    intro is' mm' h1 h2
    unfold R_gathers_158
    rw [w32e (by omega) (by omega)]
    exact ih2 _ _ _ ⟨by omega, h1, h2⟩ (by omega)
  have snx : ∀ t, Sd i (j + 1) t ↔ (Sd i j t ∨ gC m its x sm (f i) (g j) t) := by
    intro t
    rw [iS, iS]
    constructor
    · rintro ⟨i', j', x, y, z, w⟩
      by_cases e : i' = i ∧ j' = j
      · rw [e.1, e.2] at w; exact Or.inr w
      · exact Or.inl ⟨i', j', x, y, by omega, w⟩
    · rintro (⟨i', j', x, y, z, w⟩ | w)
      · exact ⟨i', j', x, y, by omega, w⟩
      · exact ⟨i, j, ⟨i1.1, c⟩, ⟨j1.1, d⟩, by omega, w⟩
  have skip : (∀ t, ¬ gC m its x sm (f i) (g j) t) → mOk (R_gathers_158 (R_gathers_59 its x sm r6.1 r7.1 fu) (R_gathers_64 (R_gathers_59 its x sm r6.1 r7.1 fu) its x sm r6.1 r7.1 i fu2) its x is sm r6.1 r7.1 i j mm) (fun r => gFl r.1 (fun t => ∃ p1 p2, mNx (m 177) 0 a p1 ∧ mNx (m 177) 0 b p2 ∧ gC m its x sm p1 p2 t) ∧ ∃ m1 : aM, (∀ q i, q ≠ 194 → q ≠ 195 → m1 q i = m q i) ∧ gAc m1 r.2 x (fun t => ∃ p1 p2, mNx (m 177) 0 a p1 ∧ mNx (m 177) 0 b p2 ∧ gC m its x sm p1 p2 t)) := by
    intro no
    have e : ∀ t, Sd i j t ↔ Sd i (j + 1) t := fun t => by
      rw [snx]; exact ⟨Or.inl, fun g => g.elim id (fun g => absurd g (no t))⟩
    exact nxt is mm (gFl_iff e fl) (gAc_iff e ac)
  by_cases c1 : m 177 (58 + f i).toNat = m 177 (58 + g j).toNat
  rotate_left
  · rw [if_neg c1]; exact skip (fun t w => c1 w.1)
  rw [if_pos c1]
  have bf := mPv3_bd hA P1
  have bg := mPv3_bd hA P2
  have pr := mPr_bd bf bg (e := 0) (f := 0) (by omega) (by omega)
  have go : (x = -1 ∨ m 177 (58 + f i).toNat = x) → mOk (R_gathers_89 (R_gathers_59 its x sm r6.1 r7.1 fu) (R_gathers_64 (R_gathers_59 its x sm r6.1 r7.1 fu) its x sm r6.1 r7.1 i fu2) its x is sm r6.1 r7.1 i j mm) (fun r => gFl r.1 (fun t => ∃ p1 p2, mNx (m 177) 0 a p1 ∧ mNx (m 177) 0 b p2 ∧ gC m its x sm p1 p2 t) ∧ ∃ m1 : aM, (∀ q i, q ≠ 194 → q ≠ 195 → m1 q i = m q i) ∧ gAc m1 r.2 x (fun t => ∃ p1 p2, mNx (m 177) 0 a p1 ∧ mNx (m 177) 0 b p2 ∧ gC m its x sm p1 p2 t)) := by
    intro hc
    have fin : ∀ t, (t = if sm ≠ 0 ∧ f i = g j then f i else mPr (f i) (g j) 0 0) → (0 ≤ t ∧ t < 54834) → mOk (R_gathers_110 (R_gathers_59 its x sm r6.1 r7.1 fu) (R_gathers_64 (R_gathers_59 its x sm r6.1 r7.1 fu) its x sm r6.1 r7.1 i fu2) its x is sm r6.1 r7.1 i j t mm) (fun r => gFl r.1 (fun t => ∃ p1 p2, mNx (m 177) 0 a p1 ∧ mNx (m 177) 0 b p2 ∧ gC m its x sm p1 p2 t) ∧ ∃ m1 : aM, (∀ q i, q ≠ 194 → q ≠ 195 → m1 q i = m q i) ∧ gAc m1 r.2 x (fun t => ∃ p1 p2, mNx (m 177) 0 a p1 ∧ mNx (m 177) 0 b p2 ∧ gC m its x sm p1 p2 t)) := by
      intro t et tb
      refine g110 tb fl ac (fun is' mm' h1 h2 => ?_)
      have e : ∀ u, (Sd i j u ∨ (u = t ∧ mMk r7.2 t ∧ r7.2 189 t.toNat = its ∧ r7.2 191 t.toNat ≠ 0)) ↔ Sd i (j + 1) u := by
        intro u
        rw [snx]
        unfold gC mMk
        rw [f7 193 _ (by omega) (by omega), f7 176 30 (by omega) (by omega), f7 189 _ (by omega) (by omega), f7 191 _ (by omega) (by omega), ← et]
        constructor
        · rintro (g | ⟨rfl, g1, g2, g3⟩)
          · exact Or.inl g
          · exact Or.inr ⟨c1, hc, rfl, g1, g2, g3⟩
        · rintro (g | ⟨-, -, rfl, g1, g2, g3⟩)
          · exact Or.inl g
          · exact Or.inr ⟨rfl, g1, g2, g3⟩
      exact nxt is' mm' (gFl_iff e h1) (gAc_iff e h2)
    have pair : ¬(sm ≠ 0 ∧ f i = g j) → mOk (R_gathers_99 (R_gathers_59 its x sm r6.1 r7.1 fu) (R_gathers_64 (R_gathers_59 its x sm r6.1 r7.1 fu) its x sm r6.1 r7.1 i fu2) its x is sm r6.1 r7.1 i j mm) (fun r => gFl r.1 (fun t => ∃ p1 p2, mNx (m 177) 0 a p1 ∧ mNx (m 177) 0 b p2 ∧ gC m its x sm p1 p2 t) ∧ ∃ m1 : aM, (∀ q i, q ≠ 194 → q ≠ 195 → m1 q i = m q i) ∧ gAc m1 r.2 x (fun t => ∃ p1 p2, mNx (m 177) 0 a p1 ∧ mNx (m 177) 0 b p2 ∧ gC m its x sm p1 p2 t)) := by
      intro np
      unfold R_gathers_99
      rw [if_pos (by omega), if_pos (by omega), m194, m195, pairOf_eq bf bg (by omega) (by omega), Option.bind_some]
      exact fin _ (by rw [if_neg np]) (by omega)
    unfold R_gathers_89
    by_cases y : sm = 0
    · rw [if_pos y]; exact pair (fun g => g.1 y)
    · rw [if_neg y]
      have e := sj y i j i1.1 c j1.1 d
      by_cases w : i = j
      · rw [if_pos w, if_pos (by omega), m194]
        exact fin _ (by rw [if_pos ⟨y, e.mp w⟩]) (by omega)
      · rw [if_neg w]; exact pair (fun g => w (e.mpr g.2))
  by_cases c2 : x = -1
  · rw [if_pos c2]; exact go (Or.inl c2)
  · rw [if_neg c2]
    by_cases c3 : m 177 (58 + f i).toNat = x
    · rw [if_pos c3]; exact go (Or.inr c3)
    · rw [if_neg c3]; exact skip (fun t w => by rcases w.2.1 with g | g; exact c2 g; exact c3 g)
