/-! unsureAt: gathering, by the steps of the search -/
def gG (m : aM) (s its x t : Int) : Prop := mSu (m 177) 0 0 0 s t ∧ mMk m t ∧ m 189 t.toNat = its ∧ m 191 t.toNat ≠ 0 ∧ (x = -1 ∨ rS (m 177) t = x)
theorem rS_pl {A : Nat → Int} {p : Int} (h : p < 78) : rS A p = A (58 + p).toNat := by unfold rS; rw [if_pos h]
theorem rS_pr {A : Nat → Int} {a b : Int} (a0 : 0 ≤ a ∧ a < 78) (b0 : 0 ≤ b ∧ b < 78) : rS A (mPr a b 0 0) = A (58 + a).toNat := by
  have := mPr_bd a0 b0 (e := 0) (f := 0) (by omega) (by omega)
  have d := mPr_dec a0 b0 (e := 0) (f := 0) (by omega) (by omega)
  unfold rS
  rw [if_neg (by omega), d.2.2.1]
theorem noS {A : Nat → Int} {a b : Int} (hA : mVx A) (ha : mPv3 A a) (hb : mPv3 A b) : mSp3 A 0 a ↔ mSp3 A 0 b := ⟨fun g => absurd g (nostop hA ha), fun g => absurd g (nostop hA hb)⟩
theorem gC_same {m : aM} {s its x t : Int} (hA : mVx (m 177)) (hs : s = -1 ∨ mPv3 (m 177) s) : (∃ p1 p2, mNx (m 177) 0 s p1 ∧ mNx (m 177) 0 s p2 ∧ gC m its x 1 p1 p2 t) ↔ gG m s its x t := by
  have s78 : s < 78 := by
    rcases hs with h | h
    · omega
    · have := mPv3_bd hA h; omega
  constructor
  · rintro ⟨p1, p2, n1, n2, c1, c2, c3, c4, c5, c6⟩
    have q1 := mNx_v hA hs n1
    have q2 := mNx_v hA hs n2
    have b1 := mPv3_bd hA q1
    have b2 := mPv3_bd hA q2
    by_cases e : p1 = p2
    · rw [if_pos ⟨by decide, e⟩] at c3
      exact ⟨Or.inl ⟨s78, Or.inl (by rw [c3]; exact n1)⟩, c4, c5, c6, by rw [c3, rS_pl b1.2]; exact c2⟩
    · rw [if_neg (fun g => e g.2)] at c3
      exact ⟨Or.inl ⟨s78, Or.inr ⟨p1, p2, 0, 0, n1, n2, e, mHr_0.mpr ⟨noS hA q1 q2, c1, rfl, rfl⟩, c3⟩⟩, c4, c5, c6, by rw [c3, rS_pr b1 b2]; exact c2⟩
  · rintro ⟨su, c4, c5, c6, c7⟩
    rcases su with ⟨-, n1 | ⟨p1, p2, e, f, n1, n2, ne, hr, rfl⟩⟩ | ⟨a, b, e, f, rfl, ⟨ha, hb, he, hf⟩, -⟩
    · have b1 := mPv3_bd hA (mNx_v hA hs n1)
      rw [rS_pl b1.2] at c7
      exact ⟨t, t, n1, n1, rfl, c7, by rw [if_pos ⟨by decide, rfl⟩], c4, c5, c6⟩
    · obtain ⟨-, r1, rfl, rfl⟩ := mHr_0.mp hr
      rw [rS_pr (mPv3_bd hA (mNx_v hA hs n1)) (mPv3_bd hA (mNx_v hA hs n2))] at c7
      exact ⟨p1, p2, n1, n2, r1, c7, by rw [if_neg (fun g => ne g.2)], c4, c5, c6⟩
    · exfalso
      have := mPr_bd (mPv3_bd hA ha) (mPv3_bd hA hb) (e := e) (f := f) (by omega) (by omega)
      omega
theorem gC_pair {m : aM} {a b its x t : Int} (hA : mVx (m 177)) (ha : mPv3 (m 177) a) (hb : mPv3 (m 177) b) : (∃ p1 p2, mNx (m 177) 0 a p1 ∧ mNx (m 177) 0 b p2 ∧ gC m its x 0 p1 p2 t) ↔ gG m (mPr a b 0 0) its x t := by
  have ba := mPv3_bd hA ha
  have bb := mPv3_bd hA hb
  have pr := mPr_bd ba bb (e := 0) (f := 0) (by omega) (by omega)
  constructor
  · rintro ⟨p1, p2, n1, n2, c1, c2, c3, c4, c5, c6⟩
    have q1 := mNx_v hA (Or.inr ha) n1
    have q2 := mNx_v hA (Or.inr hb) n2
    rw [if_neg (fun g => g.1 rfl)] at c3
    exact ⟨Or.inr ⟨a, b, 0, 0, rfl, ⟨ha, hb, by omega, by omega⟩, p1, p2, 0, 0, n1, n2, mHr_0.mpr ⟨noS hA q1 q2, c1, rfl, rfl⟩, c3⟩, c4, c5, c6, by rw [c3, rS_pr (mPv3_bd hA q1) (mPv3_bd hA q2)]; exact c2⟩
  · rintro ⟨su, c4, c5, c6, c7⟩
    rcases su with ⟨g, -⟩ | ⟨a', b', e, f, es, ⟨ha', hb', he, hf⟩, p1, p2, e', f', n1, n2, hr, rfl⟩
    · omega
    · obtain ⟨rfl, rfl, rfl, rfl⟩ := mPr_inj ba bb (by omega) (by omega) (mPv3_bd hA ha') (mPv3_bd hA hb') (by omega) (by omega) es
      obtain ⟨-, r1, rfl, rfl⟩ := mHr_0.mp hr
      rw [rS_pr (mPv3_bd hA (mNx_v hA (Or.inr ha) n1)) (mPv3_bd hA (mNx_v hA (Or.inr hb) n2))] at c7
      exact ⟨p1, p2, n1, n2, r1, c7, by rw [if_neg (fun g => g.1 rfl)], c4, c5, c6⟩
theorem gathers_ok {s its x : Int} {m : aM} (hA : mVx (m 177)) (o : m 176 32 = 0) (hs : s = -1 ∨ mSv (m 177) 0 s) (hx : x = -1 ∨ gQ m) : mOk (R_gathers s its x m) (fun r => gFl r.1 (gG m s its x) ∧ ∃ m1 : aM, (∀ q i, q ≠ 194 → q ≠ 195 → m1 q i = m q i) ∧ gAc m1 r.2 x (gG m s its x)) := by
  unfold R_gathers R_gathers_19 R_gathers_37
  by_cases c : s = -1
  · rw [if_pos c, if_pos c, if_pos (by omega)]
    refine mOk_mono (gathers_44 (a := -1) (b := -1) (sm := 1) hA o (Or.inl rfl) (Or.inl rfl) (Or.inr ⟨rfl, rfl⟩) hx) (fun r k => ?_)
    have e : ∀ t, (∃ p1 p2, mNx (m 177) 0 (-1) p1 ∧ mNx (m 177) 0 (-1) p2 ∧ gC m its x 1 p1 p2 t) ↔ gG m s its x t := fun t => by rw [c]; exact gC_same hA (Or.inl rfl)
    exact ⟨gFl_iff e k.1, k.2.choose, k.2.choose_spec.1, gAc_iff e k.2.choose_spec.2⟩
  have hs' := hs.resolve_left c
  rcases hs' with hp | ⟨a, b, e, f, rfl, ha, hb, he, hf⟩
  · have bd := mPv3_bd hA hp
    rw [if_neg c, if_pos (by omega), if_neg c, if_pos (by omega), if_pos (by omega)]
    refine mOk_mono (gathers_44 (a := s) (b := s) (sm := 1) hA o (Or.inr hp) (Or.inr hp) (Or.inr ⟨rfl, rfl⟩) hx) (fun r k => ?_)
    have e : ∀ t, (∃ p1 p2, mNx (m 177) 0 s p1 ∧ mNx (m 177) 0 s p2 ∧ gC m its x 1 p1 p2 t) ↔ gG m s its x t := fun t => gC_same hA (Or.inr hp)
    exact ⟨gFl_iff e k.1, k.2.choose, k.2.choose_spec.1, gAc_iff e k.2.choose_spec.2⟩
  · have e0 : e = 0 := by omega
    have f0 : f = 0 := by omega
    subst e0 f0
    have ba := mPv3_bd hA ha
    have bb := mPv3_bd hA hb
    have pr := mPr_bd ba bb (e := 0) (f := 0) (by omega) (by omega)
    obtain ⟨-, -, d3, d4⟩ := mPr_dec ba bb (e := 0) (f := 0) (by omega) (by omega)
    rw [if_neg c, if_neg (by omega), if_neg c, if_neg (by omega), if_neg (by omega), w32e (x := mPr a b 0 0 - 78) (by omega) (by omega), tdiv_nn (a := mPr a b 0 0 - 78) (b := 9) (by omega), w32e (x := (mPr a b 0 0 - 78) / 9) (by omega) (by omega), tdiv_nn (a := (mPr a b 0 0 - 78) / 9) (b := 78) (by omega), tmod_nn (a := (mPr a b 0 0 - 78) / 9) (b := 78) (by omega), d3, d4, w32e (by omega) (by omega)]
    refine mOk_mono (gathers_44 (a := a) (b := b) (sm := 0) hA o (Or.inr ha) (Or.inr hb) (Or.inl rfl) hx) (fun r k => ?_)
    have e : ∀ t, (∃ p1 p2, mNx (m 177) 0 a p1 ∧ mNx (m 177) 0 b p2 ∧ gC m its x 0 p1 p2 t) ↔ gG m (mPr a b 0 0) its x t := fun t => gC_pair hA ha hb
    exact ⟨gFl_iff e k.1, k.2.choose, k.2.choose_spec.1, gAc_iff e k.2.choose_spec.2⟩
/-! ways to a goal, and lines -/
def rP (A : Nat → Int) : Nat → Int → Prop
  | 0, s => mGl A 0 s
  | n + 1, s => ∃ t, mSu A 0 0 0 s t ∧ rP A n t
def rQ (A : Nat → Int) (σ : Nat → Int) : Nat → Int → Prop
  | 0, s => s = -1
  | n + 1, s => ∃ t, rQ A σ n t ∧ mSu A 0 0 0 t s ∧ rS A s = σ n
theorem rQ_q {A σ : Nat → Int} : ∀ {n : Nat} {s : Int}, rQ A σ n s → mRq A 0 0 0 n s
  | 0, _, h => h
  | n + 1, s, ⟨t, h1, h2, _⟩ => ⟨t, rQ_q h1, h2⟩
theorem rP_goal {A : Nat → Int} : ∀ {k n : Nat} {s : Int}, mRq A 0 0 0 n s → rP A k s → ∃ s', mRq A 0 0 0 (n + k) s' ∧ mGl A 0 s'
  | 0, n, s, h, g => ⟨s, h, g⟩
  | k + 1, n, s, h, ⟨t, g1, g2⟩ => by
    have := rP_goal (n := n + 1) ⟨s, h, g1⟩ g2
    rw [show n + 1 + k = n + (k + 1) by omega] at this
    exact this
theorem rQ_cg {A σ τ : Nat → Int} : ∀ {n : Nat} {s : Int}, (∀ j, j < n → σ j = τ j) → rQ A σ n s → rQ A τ n s
  | 0, _, _, h => h
  | n + 1, s, e, ⟨t, h1, h2, h3⟩ => ⟨t, rQ_cg (fun j hj => e j (by omega)) h1, h2, by rw [h3]; exact e n (by omega)⟩
/-- a way can be told on to a line -/
theorem rQ_ext {A : Nat → Int} : ∀ {k n : Nat} {σ : Nat → Int} {s : Int}, rQ A σ n s → rP A k s → ∃ τ : Nat → Int, (∀ j, j < n → τ j = σ j) ∧ ∃ s', rQ A τ (n + k) s' ∧ mGl A 0 s'
  | 0, n, σ, s, h, g => ⟨σ, fun _ _ => rfl, s, h, g⟩
  | k + 1, n, σ, s, h, ⟨t, g1, g2⟩ => by
    have h' : rQ A (fun j => if j = n then rS A t else σ j) (n + 1) t := ⟨s, rQ_cg (fun j hj => by rw [if_neg (by omega)]) h, g1, (if_pos rfl).symm⟩
    obtain ⟨τ, t1, s', t2, t3⟩ := rQ_ext h' g2
    refine ⟨τ, fun j hj => ?_, s', ?_, t3⟩
    · rw [t1 j (by omega)]; exact if_neg (by omega)
    · rw [show n + (k + 1) = n + 1 + k by omega]; exact t2
/-- a line goes by a state at each place -/
theorem rQ_at {A σ : Nat → Int} : ∀ (d e : Nat) {k : Nat} {s : Int}, rQ A σ (k + d) s → rP A e s → ∃ u, rQ A σ k u ∧ rP A (d + e) u
  | 0, e, k, s, h, g => ⟨s, h, by rw [Nat.zero_add]; exact g⟩
  | d + 1, e, k, s, ⟨t, h1, h2, _⟩, g => by
    obtain ⟨u, u1, u2⟩ := rQ_at d (e + 1) (k := k) h1 ⟨s, h2, g⟩
    exact ⟨u, u1, by rw [show d + 1 + e = d + (e + 1) by omega]; exact u2⟩
theorem rQ_v {A σ : Nat → Int} (hA : mVx A) {n : Nat} {s : Int} (h : rQ A σ n s) : s = -1 ∨ mSv A 0 s := by
  rcases mRq_v hA (by omega) (rQ_q h) with ⟨-, g⟩ | ⟨-, g⟩
  · exact Or.inl g
  · exact Or.inr g
theorem rS_bd {A : Nat → Int} (hA : mVx A) {s : Int} (h : mSv A 0 s) : 0 ≤ rS A s ∧ rS A s < 8 := by
  rcases h with hp | ⟨a, b, e, f, rfl, ha, hb, he, hf⟩
  · rw [rS_pl (mPv3_bd hA hp).2]; exact pl_sound hA hp
  · rw [show e = 0 by omega, show f = 0 by omega, rS_pr (mPv3_bd hA ha) (mPv3_bd hA hb)]; exact pl_sound hA ha
