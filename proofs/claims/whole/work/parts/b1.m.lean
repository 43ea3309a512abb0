/-! unsureAt: what the reference gathers -/
/-- the row of those that come next -/
def gQ (m : aM) : Prop := (0 ≤ m 176 40 ∧ m 176 40 ≤ 54834) ∧ (∀ i : Int, 0 ≤ i → i < m 176 40 → (0 ≤ m 197 i.toNat ∧ m 197 i.toNat < 54834) ∧ m 192 (m 197 i.toNat).toNat ≠ 0 ∧ mMk m (m 197 i.toNat)) ∧ (∀ s : Int, 0 ≤ s → s < 54834 → mMk m s → m 192 s.toNat ≠ 0 → ∃ i : Int, 0 ≤ i ∧ i < m 176 40 ∧ m 197 i.toNat = s) ∧ (∀ i j : Int, 0 ≤ i → i < j → j < m 176 40 → m 197 i.toNat ≠ m 197 j.toNat)
theorem gQ_room {m : aM} (h : gQ m) {s : Int} (s0 : 0 ≤ s) (s1 : s < 54834) (n : m 192 s.toNat = 0) : m 176 40 < 54834 := by
  refine Classical.byContradiction (fun hc => ?_)
  have b := h.1
  have e : m 176 40 = 54834 := by omega
  obtain ⟨i, j, h1, h2, h3⟩ := pigeon 54834 (fun i => if i = 54834 then s else m 197 i) (fun i hi => by
    by_cases c : i = 54834
    · simp only [c, if_true]; omega
    · rw [if_neg c]
      have := (h.2.1 i (by omega) (by omega)).1
      rw [Int.toNat_natCast] at this
      omega)
  have ni : ¬ i = 54834 := by omega
  rw [if_neg ni] at h3
  by_cases c : j = 54834
  · rw [if_pos c] at h3
    have := (h.2.1 i (by omega) (by omega)).2.1
    rw [Int.toNat_natCast, h3] at this
    exact this n
  · rw [if_neg c] at h3
    have := h.2.2.2 i j (by omega) (by omega) (by omega)
    rw [Int.toNat_natCast, Int.toNat_natCast] at this
    exact this h3
/-- behind a part of the gathering: S are those that were met -/
def gAc (m0 mm : aM) (x : Int) (S : Int → Prop) : Prop := (∀ q i, q ≠ 192 → q ≠ 197 → ¬(q = 176 ∧ i = 40) → mm q i = m0 q i) ∧ ((x = -1 ∧ ∀ q i, mm q i = m0 q i) ∨ (x ≠ -1 ∧ gQ mm ∧ m0 176 40 ≤ mm 176 40 ∧ (∀ i : Int, 0 ≤ i → i < m0 176 40 → mm 197 i.toNat = m0 197 i.toNat) ∧ (∀ i : Int, 0 ≤ i → m0 176 40 ≤ i → i < mm 176 40 → S (mm 197 i.toNat)) ∧ ∀ t, S t → ∃ i : Int, 0 ≤ i ∧ i < mm 176 40 ∧ mm 197 i.toNat = t))
theorem gAc_iff {m0 mm : aM} {x : Int} {S S' : Int → Prop} (h : ∀ t, S t ↔ S' t) (g : gAc m0 mm x S) : gAc m0 mm x S' := by
  refine ⟨g.1, ?_⟩
  rcases g.2 with g | ⟨a, b, c, d, e, f⟩
  · exact Or.inl g
  · exact Or.inr ⟨a, b, c, d, fun i i0 i1 i2 => (h _).mp (e i i0 i1 i2), fun t ht => f t ((h t).mpr ht)⟩
def gFl (is : Int) (S : Int → Prop) : Prop := (is = 1 ∧ ∃ t, S t) ∨ (is = 0 ∧ ∀ t, ¬ S t)
theorem gFl_iff {is : Int} {S S' : Int → Prop} (h : ∀ t, S t ↔ S' t) (g : gFl is S) : gFl is S' := by
  rcases g with ⟨a, t, b⟩ | ⟨a, b⟩
  · exact Or.inl ⟨a, t, (h t).mp b⟩
  · exact Or.inr ⟨a, fun t ht => b t ((h t).mpr ht)⟩
theorem g110 {k59 k64 : Int → Int → aM → Option (Int × aM)} {its x is x7 x8 x9 x10 x11 t : Int} {m0 mm : aM} {S : Int → Prop} {Q : Int × aM → Prop} (t0 : 0 ≤ t ∧ t < 54834) (hf : gFl is S) (ha : gAc m0 mm x S)
    (K : ∀ is' mm', gFl is' (fun u => S u ∨ (u = t ∧ mMk m0 t ∧ m0 189 t.toNat = its ∧ m0 191 t.toNat ≠ 0)) → gAc m0 mm' x (fun u => S u ∨ (u = t ∧ mMk m0 t ∧ m0 189 t.toNat = its ∧ m0 191 t.toNat ≠ 0)) → mOk (R_gathers_158 k59 k64 its x is' x7 x8 x9 x10 x11 mm') Q) : mOk (R_gathers_110 k59 k64 its x is x7 x8 x9 x10 x11 t mm) Q := by
  have fr := ha.1
  have skip : ¬(mMk m0 t ∧ m0 189 t.toNat = its ∧ m0 191 t.toNat ≠ 0) → mOk (R_gathers_158 k59 k64 its x is x7 x8 x9 x10 x11 mm) Q := fun no => by
    have e : ∀ u, S u ↔ (S u ∨ (u = t ∧ mMk m0 t ∧ m0 189 t.toNat = its ∧ m0 191 t.toNat ≠ 0)) := fun u => ⟨Or.inl, fun g => g.elim id (fun g => absurd g.2 no)⟩
    exact K is mm (gFl_iff e hf) (gAc_iff e ha)
  unfold R_gathers_110
  rw [if_pos t0, fr 193 _ (by omega) (by omega) (by omega), fr 176 30 (by omega) (by omega) (by omega), fr 189 _ (by omega) (by omega) (by omega), fr 191 _ (by omega) (by omega) (by omega)]
  by_cases c1 : m0 193 t.toNat = m0 176 30
  rotate_left
  · rw [if_neg c1]; exact skip (fun g => c1 g.1)
  rw [if_pos c1]
  by_cases c2 : m0 189 t.toNat = its
  rotate_left
  · rw [if_neg c2]; exact skip (fun g => c2 g.2.1)
  rw [if_pos c2]
  by_cases c3 : m0 191 t.toNat = 0
  · rw [if_pos c3]; exact skip (fun g => g.2.2 c3)
  rw [if_neg c3]
  have good : mMk m0 t ∧ m0 189 t.toNat = its ∧ m0 191 t.toNat ≠ 0 := ⟨c1, c2, c3⟩
  have fl : gFl 1 (fun u => S u ∨ (u = t ∧ mMk m0 t ∧ m0 189 t.toNat = its ∧ m0 191 t.toNat ≠ 0)) := Or.inl ⟨rfl, t, Or.inr ⟨rfl, good⟩⟩
  by_cases c4 : x = -1
  · rw [if_pos c4]
    refine K 1 mm fl ⟨fr, ?_⟩
    rcases ha.2 with g | g
    · exact Or.inl g
    · exact absurd c4 g.1
  rw [if_neg c4]
  obtain ⟨-, q1, q2, q3, q4, q5⟩ := ha.2.resolve_left (fun g => c4 g.1)
  have mk : ∀ s, mMk mm s ↔ mMk m0 s := fun s => by unfold mMk; rw [fr 193 _ (by omega) (by omega) (by omega), fr 176 30 (by omega) (by omega) (by omega)]
  by_cases c5 : mm 192 t.toNat = 0
  rotate_left
  · rw [if_neg c5]
    refine K 1 mm fl ⟨fr, Or.inr ⟨c4, q1, q2, q3, fun i a b c => Or.inl (q4 i a b c), fun u hu => ?_⟩⟩
    rcases hu with hu | ⟨rfl, -⟩
    · exact q5 u hu
    · exact q1.2.2.1 u t0.1 t0.2 ((mk u).mpr c1) c5
  rw [if_pos c5, st1e]
  have rm := gQ_room q1 t0.1 t0.2 c5
  have b40 := q1.1
  rw [aup_of (by omega), if_pos (by omega), st1e, aup_of (by omega), aup_of (by omega), st1e, w32e (by omega) (by omega)]
  have f6 : ∀ q i, ¬(q = 192 ∧ i = t.toNat) → ¬(q = 197 ∧ i = (mm 176 40).toNat) → ¬(q = 176 ∧ i = 40) → aup (aup (aup mm 192 t.toNat 1) 197 (mm 176 40).toNat t) 176 40 (mm 176 40 + 1) q i = mm q i := fun q i a b c => by rw [aup_of (by omega), aup_of (by omega), aup_of (by omega)]
  have v1 : aup (aup (aup mm 192 t.toNat 1) 197 (mm 176 40).toNat t) 176 40 (mm 176 40 + 1) 192 t.toNat = 1 := by rw [aup_of (by omega), aup_of (by omega), aup_self]
  have v2 : aup (aup (aup mm 192 t.toNat 1) 197 (mm 176 40).toNat t) 176 40 (mm 176 40 + 1) 197 (mm 176 40).toNat = t := by rw [aup_of (by omega), aup_self]
  have v3 : aup (aup (aup mm 192 t.toNat 1) 197 (mm 176 40).toNat t) 176 40 (mm 176 40 + 1) 176 40 = mm 176 40 + 1 := by rw [aup_self]
  generalize aup (aup (aup mm 192 t.toNat 1) 197 (mm 176 40).toNat t) 176 40 (mm 176 40 + 1) = m6 at f6 v1 v2 v3 ⊢
  have e197 : ∀ i : Int, 0 ≤ i → i < mm 176 40 → m6 197 i.toNat = mm 197 i.toNat := fun i a b => f6 _ _ (by omega) (by omega) (by omega)
  have mk6 : ∀ s, mMk m6 s ↔ mMk mm s := fun s => by unfold mMk; rw [f6 193 _ (by omega) (by omega) (by omega), f6 176 30 (by omega) (by omega) (by omega)]
  refine K 1 m6 fl ⟨fun q i a b c => by rw [f6 q i (by omega) (by omega) c]; exact fr q i a b c, Or.inr ⟨c4, ⟨by omega, fun i a b => ?_, fun s s0 s1 ms fs => ?_, fun i j a b c => ?_⟩, by omega, fun i a b => by rw [e197 i a (by omega)]; exact q3 i a b, fun i a b c => ?_, fun u hu => ?_⟩⟩
  · by_cases e : i = mm 176 40
    · rw [e, v2]
      exact ⟨t0, by rw [v1]; decide, (mk6 t).mpr ((mk t).mpr c1)⟩
    · rw [e197 i a (by omega)]
      obtain ⟨g1, g2, g3⟩ := q1.2.1 i a (by omega)
      refine ⟨g1, ?_, (mk6 _).mpr g3⟩
      rw [f6 192 _ (by intro z; rw [z.2] at g2; exact g2 c5) (by omega) (by omega)]
      exact g2
  · by_cases e : s = t
    · exact ⟨mm 176 40, by omega, by omega, by rw [v2, e]⟩
    · rw [f6 192 _ (by omega) (by omega) (by omega)] at fs
      obtain ⟨i, i0, i1, ei⟩ := q1.2.2.1 s s0 s1 ((mk6 s).mp ms) fs
      exact ⟨i, i0, by omega, by rw [e197 i i0 i1]; exact ei⟩
  · by_cases e : j = mm 176 40
    · rw [e, v2, e197 i a (by omega)]
      intro g
      have := (q1.2.1 i a (by omega)).2.1
      rw [g] at this
      exact this c5
    · rw [e197 i a (by omega), e197 j (by omega) (by omega)]
      exact q1.2.2.2 i j a b (by omega)
  · by_cases e : i = mm 176 40
    · rw [e, v2]; exact Or.inr ⟨rfl, good⟩
    · rw [e197 i a (by omega)]; exact Or.inl (q4 i a b (by omega))
  · rcases hu with hu | ⟨rfl, -⟩
    · obtain ⟨i, i0, i1, ei⟩ := q5 u hu
      exact ⟨i, i0, by omega, by rw [e197 i i0 i1]; exact ei⟩
    · exact ⟨mm 176 40, by omega, by omega, v2⟩
