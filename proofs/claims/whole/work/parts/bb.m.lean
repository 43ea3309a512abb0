/-! firstLine: taking, waking, telling -/
def jTk (m m' : aM) (S : Int → Prop) : Prop := (∀ q i, q ≠ 104 → m' q i = m q i) ∧ ∀ t : Int, 0 ≤ t → t < 471 → (S t ∧ m' 104 t.toNat = 2) ∨ (¬ S t ∧ m' 104 t.toNat = m 104 t.toNat)
theorem jTk_none {m : aM} {S : Int → Prop} (h : ∀ t, ¬ S t) : jTk m m S := ⟨fun _ _ _ => rfl, fun t _ _ => Or.inr ⟨h t, rfl⟩⟩
theorem jTk_iff {m m' : aM} {S S' : Int → Prop} (h : ∀ t, S t ↔ S' t) (k : jTk m m' S) : jTk m m' S' := by
  refine ⟨k.1, fun t a b => ?_⟩
  rcases k.2 t a b with ⟨g, e⟩ | ⟨g, e⟩
  · exact Or.inl ⟨(h t).mp g, e⟩
  · exact Or.inr ⟨fun z => g ((h t).mpr z), e⟩
theorem mTq_104 {X m m' : aM} (f : ∀ q i, q ≠ 104 → m' q i = m q i) (h : mTq X 0 m) : mTq X 0 m' := by
  obtain ⟨g1, g2, g3, g4, g5, g7, g6⟩ := h
  exact ⟨by rw [f _ _ (by omega)]; exact g1, by rw [f _ _ (by omega)]; exact g2, fun q i a b => by rw [f _ _ (by omega)]; exact g3 q i a b, by rw [f _ _ (by omega)]; exact g4, by rw [f _ _ (by omega)]; exact g5, by rw [f _ _ (by omega)]; exact g7, fun k a b => by rw [f 99 _ (by omega)]; exact g6 k a b⟩
theorem take_S {m mm : aM} {S : Int → Prop} {t L : Int} (h : jTk m mm S) (hS : ∀ u, S u → m 104 u.toNat ≠ 0) (t0 : 0 ≤ t ∧ t < 471) : mOk (Twins_take t L mm) (fun m' => jTk m m' (fun u => S u ∨ (u = t ∧ m 104 t.toNat ≠ 0 ∧ m 103 t.toNat = L))) := by
  obtain ⟨fr, h⟩ := h
  have nz : mm 104 t.toNat ≠ 0 ↔ m 104 t.toNat ≠ 0 := by
    rcases h t t0.1 t0.2 with ⟨a, e⟩ | ⟨a, e⟩
    · rw [e]; exact ⟨fun _ => hS t a, fun _ => by decide⟩
    · rw [e]
  have e103 : mm 103 t.toNat = m 103 t.toNat := fr _ _ (by omega)
  unfold Twins_take
  refine mOk_bind (isUseful_ok (L := L) (mm := mm) t0) (fun r k => ?_)
  rw [nz, e103] at k
  by_cases y : r = 0
  · rw [if_pos y]
    refine mOk_some ⟨fr, fun u a b => ?_⟩
    rcases h u a b with ⟨g, e⟩ | ⟨g, e⟩
    · exact Or.inl ⟨Or.inl g, e⟩
    · exact Or.inr ⟨fun z => z.elim g (fun z => (k.2.mpr z.2) y), e⟩
  · rw [if_neg y, if_pos t0, st1e, w8e (x := 2) (by omega) (by omega)]
    have yes := k.2.mp y
    refine mOk_some ⟨fun q i a => by rw [aup_of (by omega)]; exact fr q i a, fun u a b => ?_⟩
    by_cases e : u = t
    · left; rw [e, aup_self]; exact ⟨Or.inr ⟨rfl, yes⟩, rfl⟩
    · rw [aup_of (by omega)]
      rcases h u a b with ⟨g, e'⟩ | ⟨g, e'⟩
      · exact Or.inl ⟨Or.inl g, e'⟩
      · exact Or.inr ⟨fun z => z.elim g (fun z => e z.1), e'⟩
theorem wakeFromEven_ok {X m : aM} {i : Int} (hv : mTv X) (hq : mTq X 0 m) : mOk (Twins_wakeFromEven i m) (fun m' => jTk m m' (fun t => ∃ k1 k2 w, ((0 ≤ k1 ∧ k1 ≤ 3) ∧ (0 ≤ k2 ∧ k2 ≤ 3)) ∧ xa X w ∧ xf X k1 w ∧ t = jO w (xl X w) k2 ∧ m 104 (jE k1 k2).toNat = 2 ∧ m 103 (jE k1 k2).toNat = i ∧ m 104 t.toNat ≠ 0 ∧ m 103 t.toNat = i)) := by
  generalize hSd : (fun (e t : Int) => ∃ k1 k2 w, ((0 ≤ k1 ∧ k1 ≤ 3) ∧ (0 ≤ k2 ∧ k2 ≤ 3)) ∧ jE k1 k2 < e ∧ xa X w ∧ xf X k1 w ∧ t = jO w (xl X w) k2 ∧ m 104 (jE k1 k2).toNat = 2 ∧ m 103 (jE k1 k2).toNat = i ∧ m 104 t.toNat ≠ 0 ∧ m 103 t.toNat = i) = Sd
  have iS : ∀ e t, Sd e t ↔ ∃ k1 k2 w, ((0 ≤ k1 ∧ k1 ≤ 3) ∧ (0 ≤ k2 ∧ k2 ≤ 3)) ∧ jE k1 k2 < e ∧ xa X w ∧ xf X k1 w ∧ t = jO w (xl X w) k2 ∧ m 104 (jE k1 k2).toNat = 2 ∧ m 103 (jE k1 k2).toNat = i ∧ m 104 t.toNat ≠ 0 ∧ m 103 t.toNat = i := fun e t => by rw [← hSd]
  clear hSd
  have odd : ∀ e t, Sd e t → 16 ≤ t := fun e t h => by
    obtain ⟨k1, k2, w, ⟨a, b⟩, -, aw, -, et, -⟩ := (iS e t).mp h
    have := (jO_ge (k := k2) hv aw (by omega)).1
    omega
  have nzS : ∀ e t, Sd e t → m 104 t.toNat ≠ 0 := fun e t h => by
    obtain ⟨k1, k2, w, -, -, -, -, -, -, -, g, -⟩ := (iS e t).mp h
    exact g
  unfold Twins_wakeFromEven
  refine mL2 (Twins_wakeFromEven_2 i) (fun e mm => (0 ≤ e ∧ e ≤ 16) ∧ jTk m mm (Sd e)) (fun e _ => (17 - e).toNat) ?_ 0 m ⟨by omega, jTk_none (fun t h => by
    obtain ⟨k1, k2, w, ⟨a, b⟩, lt, -⟩ := (iS 0 t).mp h
    have := jE_lt a b
    omega)⟩ (by omega)
  rintro fu e mm ⟨e1, tk⟩ ih
  rw [Twins_wakeFromEven_2]
  by_cases c : e < 16
  rotate_left
  · rw [if_neg c]
    refine mOk_some (jTk_iff (fun t => ?_) tk)
    rw [iS]
    constructor
    · rintro ⟨k1, k2, w, ab, -, r⟩; exact ⟨k1, k2, w, ab, r⟩
    · rintro ⟨k1, k2, w, ab, r⟩; exact ⟨k1, k2, w, ab, by have := jE_lt ab.1 ab.2; omega, r⟩
  have hqm : mTq X 0 mm := mTq_104 tk.1 hq
  have e104 : mm 104 e.toNat = m 104 e.toNat := by
    rcases tk.2 e e1.1 (by omega) with ⟨g, -⟩ | ⟨-, g⟩
    · have := odd _ _ g; omega
    · exact g
  have e103 : mm 103 e.toNat = m 103 e.toNat := tk.1 _ _ (by omega)
  have eE : jE (e / 4) (e % 4) = e := by unfold jE; omega
  have one : ∀ t, Sd (e + 1) t ↔ Sd e t ∨ ((m 104 e.toNat = 2 ∧ m 103 e.toNat = i) ∧ ∃ w, xa X w ∧ xf X (e / 4) w ∧ t = jO w (xl X w) (e % 4) ∧ m 104 t.toNat ≠ 0 ∧ m 103 t.toNat = i) := by
    intro t
    rw [iS, iS]
    constructor
    · rintro ⟨k1, k2, w, ⟨a, b⟩, lt, aw, fw, et, g1, g2, g3⟩
      by_cases ee : jE k1 k2 = e
      · right
        rw [ee] at g1 g2
        have x1 : k1 = e / 4 := by unfold jE at ee; omega
        have x2 : k2 = e % 4 := by unfold jE at ee; omega
        subst x1 x2
        exact ⟨⟨g1, g2⟩, w, aw, fw, et, g3⟩
      · exact Or.inl ⟨k1, k2, w, ⟨a, b⟩, by omega, aw, fw, et, g1, g2, g3⟩
    · rintro (⟨k1, k2, w, ab, lt, r⟩ | ⟨⟨g1, g2⟩, w, aw, fw, et, g3⟩)
      · exact ⟨k1, k2, w, ab, by omega, r⟩
      · exact ⟨e / 4, e % 4, w, by omega, by omega, aw, fw, et, by rw [eE]; exact g1, by rw [eE]; exact g2, g3⟩
  have skip : ¬(m 104 e.toNat = 2 ∧ m 103 e.toNat = i) → mOk (Twins_wakeFromEven_50 (Twins_wakeFromEven_2 i fu) i e mm) (fun m' => jTk m m' (fun t => ∃ k1 k2 w, ((0 ≤ k1 ∧ k1 ≤ 3) ∧ (0 ≤ k2 ∧ k2 ≤ 3)) ∧ xa X w ∧ xf X k1 w ∧ t = jO w (xl X w) k2 ∧ m 104 (jE k1 k2).toNat = 2 ∧ m 103 (jE k1 k2).toNat = i ∧ m 104 t.toNat ≠ 0 ∧ m 103 t.toNat = i)) := by
    intro no
    unfold Twins_wakeFromEven_50
    rw [w32e (by omega) (by omega)]
    exact ih _ _ ⟨by omega, jTk_iff (fun t => by rw [one]; exact ⟨Or.inl, fun g => g.elim id (fun g => absurd g.1 no)⟩) tk⟩ (by omega)
  rw [if_pos c, if_pos (by omega), e104, e103]
  by_cases y1 : m 104 e.toNat = 2
  rotate_left
  · rw [if_neg y1]; exact skip (fun g => y1 g.1)
  rw [if_pos y1]
  by_cases y2 : m 103 e.toNat = i
  rotate_left
  · rw [if_neg y2]; exact skip (fun g => y2 g.2)
  obtain ⟨b1, b2⟩ := hqm.2.2.2.2.2.2 (e / 4) (by omega) (by omega)
  rw [if_pos y2, tdiv_nn e1.1, w32e (x := e / 4) (by omega) (by omega), if_pos (by omega)]
  refine mL2 (Twins_wakeFromEven_24 (Twins_wakeFromEven_2 i fu) i e) (fun x m2 => (0 ≤ x ∧ x < 8192) ∧ (∀ v : Int, 0 ≤ v → v < 13 → x.toNat.testBit v.toNat = true → xa X v ∧ xf X (e / 4) v) ∧ jTk m m2 (fun t => Sd e t ∨ ∃ w, xa X w ∧ xf X (e / 4) w ∧ ¬ x.toNat.testBit w.toNat = true ∧ t = jO w (xl X w) (e % 4) ∧ m 104 t.toNat ≠ 0 ∧ m 103 t.toNat = i)) (fun x _ => x.toNat) ?_ (mm 99 (e / 4).toNat) mm ⟨b1, fun v v0 v1 h => (b2 v v0 v1).mp h, jTk_iff (fun t => ⟨Or.inl, fun g => g.elim id (fun g => by
    obtain ⟨w, aw, fw, nb, -⟩ := g
    exact absurd ((b2 w aw.1 aw.2.1).mpr ⟨aw, fw⟩) nb)⟩) tk⟩ (by omega)
  rintro fu2 x m2 ⟨x1, x2, tk2⟩ ih2
  rw [Twins_wakeFromEven_24]
  by_cases z : x = 0
  · rw [if_pos z]
    unfold Twins_wakeFromEven_50
    rw [w32e (by omega) (by omega)]
    refine ih _ _ ⟨by omega, jTk_iff (fun t => ?_) tk2⟩ (by omega)
    rw [one, z, show (0 : Int).toNat = 0 from rfl]
    constructor
    · rintro (g | ⟨w, aw, fw, -, r⟩)
      · exact Or.inl g
      · exact Or.inr ⟨⟨y1, y2⟩, w, aw, fw, r⟩
    · rintro (g | ⟨-, w, aw, fw, r⟩)
      · exact Or.inl g
      · exact Or.inr ⟨w, aw, fw, by rw [Nat.zero_testBit]; decide, r⟩
  rw [if_neg z]
  obtain ⟨j, j0, j1, kj, jb, jl⟩ := ntz_low (x := x) (m := m2) (by omega) x1.2
  obtain ⟨aj, fj⟩ := x2 j j0 j1 jb
  have lj := (hv.2.1 j aj).1
  have hq2 : mTq X 0 m2 := mTq_104 tk2.1 hq
  have l95 : m2 95 j.toNat = xl X j := hq2.2.2.1 _ _ (by omega) (by omega)
  have os := oddState_eq (m := m2) (e := 0) (f := 0) mM0 hq2.2.2.2.2.1 ⟨j0, j1⟩ (out := xl X j) (kb := e % 4) (by omega) (by omega) (by omega) (by omega)
  rw [show (0 : Int) * (0 + 1) + 0 = 0 from rfl, jO_eq] at os
  have tb := jO_ge (k := e % 4) hv aj (by omega)
  rw [kj, Option.bind_some, if_pos ⟨j0, j1⟩, tmod_nn e1.1, l95, os, Option.bind_some]
  refine mOk_bind (take_S (t := jO j (xl X j) (e % 4)) (L := i) tk2 (fun u hu => ?_) (by omega)) (fun m3 k3 => ?_)
  · rcases hu with g | ⟨w, -, -, -, -, g, -⟩
    · exact nzS _ _ g
    · exact g
  obtain ⟨y3, y4⟩ := drop_low (x := x) (by omega) x1.2 j0 jb jl
  refine ih2 _ _ ⟨by omega, fun v v0 v1 h => ?_, jTk_iff (fun t => ?_) k3⟩ (by omega)
  · rw [y4, Bool.and_eq_true] at h
    exact x2 v v0 v1 h.1
  · constructor
    · rintro ((g | ⟨w, aw, fw, nb, r⟩) | ⟨rfl, r⟩)
      · exact Or.inl g
      · exact Or.inr ⟨w, aw, fw, by rw [y4, Bool.and_eq_true]; exact fun g => nb g.1, r⟩
      · exact Or.inr ⟨j, aj, fj, by rw [y4, decide_eq_true rfl, Bool.not_true, Bool.and_false]; decide, rfl, r⟩
    · rintro (g | ⟨w, aw, fw, nb, et, r⟩)
      · exact Or.inl (Or.inl g)
      · by_cases ew : w = j
        · right; rw [ew] at et; rw [et] at r; exact ⟨et, r⟩
        · refine Or.inl (Or.inr ⟨w, aw, fw, fun g => nb ?_, et, r⟩)
          rw [y4, g, decide_eq_false (by have := aw.1; omega)]; rfl
/-- what is told at a place -/
def jTl (dd : Int → Int) (m : aM) (i s : Int) : Prop := 16 ≤ s ∧ m 104 s.toNat = 2 ∧ dd s ≤ i ∧ i < dd s + jo s
theorem toldAt_ok {X mm : aM} {dd : Int → Int} {i s : Int} (hv : mTv X) (hq : mTq X 0 mm) (hs : mCv X 0 s) (e103 : mm 103 s.toNat = dd s) (d0 : 0 ≤ dd s ∧ dd s ≤ 100000) (i0 : 0 ≤ i ∧ i ≤ 100000) : mOk (Twins_toldAt s i mm) (fun r => (r = -1 ∧ ¬ jTl dd mm i s) ∨ (jTl dd mm i s ∧ r = jT X s (i - dd s) ∧ 0 ≤ r ∧ r ≤ 8)) := by
  have sb := mCv_0 hv hs
  have h10 : mm 80 10 = (0 + 1) * (0 + 1) := hq.2.2.2.2.1
  unfold Twins_toldAt
  rw [isEven_eq mM0 h10, Option.bind_some]
  rcases mCv_j hs with ⟨k1, k2, es, a, b⟩ | ⟨w, out, kb, es, aw, b, g⟩
  · have s16 : s < 16 := by rw [es]; exact (jE_lt a b).2
    rw [if_pos (show s < 16 * ((0 + 1) * (0 + 1)) by omega), if_neg (by decide)]
    exact mOk_some (Or.inl ⟨rfl, fun h => by have := h.1; omega⟩)
  · have lw := hv.2.1 w aw
    have vv := jV_bd (X := X) hv ⟨w, out, kb, es, aw, b, g⟩
    have ho : jo s = out := by rw [es]; exact (jT_O (X := X) (w := w) (by omega) g 0).2
    have ht : ∀ k : Int, jT X s k = xs X w (xl X w - out + k) := fun k => by rw [es]; exact (jT_O (X := X) (w := w) (by omega) g k).1
    obtain ⟨wo, lo, -⟩ := wordOut_eq (m := mm) (e := 0) (f := 0) mM0 h10 ⟨aw.1, aw.2.1⟩ (out := out) (by omega) g (by omega) (by omega)
    rw [jO_eq, ← es] at wo lo
    rw [if_neg (show ¬ s < 16 * ((0 + 1) * (0 + 1)) by omega), if_pos rfl, if_pos sb]
    by_cases y : mm 104 s.toNat = 2
    rotate_left
    · rw [if_neg y]; exact mOk_some (Or.inl ⟨rfl, fun h => y h.2.1⟩)
    rw [if_pos y, lo, Option.bind_some, wo, Option.bind_some, e103, w32e (x := i - dd s) (by omega) (by omega)]
    by_cases z : i - dd s < 0
    · rw [if_pos z]; exact mOk_some (Or.inl ⟨rfl, fun h => by have := h.2.2.1; omega⟩)
    rw [if_neg z]
    by_cases z2 : i - dd s < out
    rotate_left
    · rw [if_neg z2]; exact mOk_some (Or.inl ⟨rfl, fun h => by have := h.2.2.2; omega⟩)
    have l95 : mm 95 w.toNat = xl X w := hq.2.2.1 _ _ (by omega) (by omega)
    have ex : mm (82 + w.toNat) (xl X w - out + (i - dd s)).toNat = xs X w (xl X w - out + (i - dd s)) := hq.2.2.1 _ _ (by omega) (by have := aw.2.1; omega)
    have bx := lw.2.2 (xl X w - out + (i - dd s)) (by omega) (by omega)
    rw [if_pos z2, if_pos ⟨aw.1, aw.2.1⟩, l95, w32e (x := xl X w - out) (by omega) (by omega), w32e (x := xl X w - out + (i - dd s)) (by omega) (by omega), if_pos (by omega), ex]
    exact mOk_some (Or.inr ⟨⟨by omega, y, by omega, by omega⟩, (ht _).symm, bx.1, bx.2⟩)
theorem leastSoundAt_ok {X mm : aM} {cnt : Nat} {po : Nat → Int} {dd : Int → Int} {i : Int} (hv : mTv X) (hP : ∀ j : Nat, j < cnt → mCv X 0 (po j) ∧ 0 ≤ dd (po j) ∧ dd (po j) ≤ 100000) (c471 : cnt ≤ 471) (hM : jM X cnt po dd mm) (i0 : 0 ≤ i ∧ i ≤ 100000) : mOk (Twins_leastSoundAt i mm) (fun x => (0 ≤ x ∧ x ≤ 8) ∧ (∀ j : Nat, j < cnt → jTl dd mm i (po j) → x ≤ jT X (po j) (i - dd (po j)) ∧ jT X (po j) (i - dd (po j)) ≤ 8) ∧ (x = 8 ∨ ∃ j : Nat, j < cnt ∧ jTl dd mm i (po j) ∧ jT X (po j) (i - dd (po j)) = x)) := by
  unfold Twins_leastSoundAt
  refine mL2 (Twins_leastSoundAt_4 mm i) (fun x j => (0 ≤ j ∧ j ≤ cnt) ∧ (0 ≤ x ∧ x ≤ 8) ∧ (∀ j' : Nat, (j' : Int) < j → j' < cnt → jTl dd mm i (po j') → x ≤ jT X (po j') (i - dd (po j')) ∧ jT X (po j') (i - dd (po j')) ≤ 8) ∧ (x = 8 ∨ ∃ j : Nat, j < cnt ∧ jTl dd mm i (po j) ∧ jT X (po j) (i - dd (po j)) = x)) (fun _ j => (472 - j).toNat) ?_ 8 0 ⟨by omega, by omega, fun j' a => by omega, Or.inl rfl⟩ (by omega)
  rintro fu x j ⟨j1, x1, al, exx⟩ ih
  rw [Twins_leastSoundAt_4, hM.2.1]
  by_cases c : j < cnt
  rotate_left
  · rw [if_neg c]
    exact mOk_some ⟨x1, fun j' a => al j' (by omega) a, exx⟩
  generalize hk : j.toNat = k
  have ek : j = (k : Int) := by omega
  have kc : k < cnt := by omega
  obtain ⟨h102, h103⟩ := hM.2.2 k kc
  obtain ⟨p1, p2, p3⟩ := hP k kc
  rw [if_pos c, if_pos (by omega), h102]
  unfold Twins_leastSoundAt_24
  refine mOk_bind (toldAt_ok hv hM.1 p1 h103 ⟨p2, p3⟩ i0) (fun r kr => ?_)
  rw [w32e (x := j + 1) (by omega) (by omega)]
  rcases kr with ⟨e, no⟩ | ⟨tl, e, r0, r8⟩
  · rw [if_pos e]
    refine ih _ _ ⟨by omega, x1, fun j' a b t => ?_, exx⟩ (by omega)
    by_cases ee : j' = k
    · rw [ee] at t; exact absurd t no
    · exact al j' (by omega) b t
  · rw [if_neg (by omega)]
    by_cases d : r < x
    · rw [if_pos d]
      refine ih _ _ ⟨by omega, by omega, fun j' a b t => ?_, Or.inr ⟨k, kc, tl, e.symm⟩⟩ (by omega)
      by_cases ee : j' = k
      · rw [ee]; omega
      · have := al j' (by omega) b t; omega
    · rw [if_neg d]
      refine ih _ _ ⟨by omega, x1, fun j' a b t => ?_, exx⟩ (by omega)
      by_cases ee : j' = k
      · rw [ee]; omega
      · exact al j' (by omega) b t
theorem wakeNext_ok {X mm : aM} {dd : Int → Int} {s L : Int} (hv : mTv X) (hq : mTq X 0 mm) (sv : jV X s) (e103 : mm 103 s.toNat = dd s) (d0 : 0 ≤ dd s ∧ dd s ≤ 100000) : mOk (Twins_wakeNext s L mm) (fun m' => jTk mm m' (fun t => ∃ c, ju X s c t ∧ dd s + c = L ∧ mm 104 t.toNat ≠ 0 ∧ mm 103 t.toNat = L)) := by
  have sb := jV_bd hv sv
  obtain ⟨w, out, kb, es, aw, b, g⟩ := sv
  have lw := (hv.2.1 w aw).1
  have ju_i : ∀ c t, ju X s c t ↔ ∃ v, xn X kb w v ∧ jS X w out v ∧ c = jC X out v ∧ t = jJ X w out v := by
    intro c t
    constructor
    · rintro (⟨k1', k2', w', e, ⟨a', b'⟩, -⟩ | ⟨w', out', kb', v, e, ⟨aw', b', g'⟩, nw, rfl, hs, rfl⟩)
      · have := jE_lt a' b'
        omega
      · rw [es] at e
        have lw' := (hv.2.1 w' aw').1
        obtain ⟨rfl, rfl, rfl⟩ := jO_inj (by omega) g (by omega) g' e
        exact ⟨v, nw, hs, rfl, rfl⟩
    · rintro ⟨v, nw, hs, rfl, rfl⟩
      exact Or.inr ⟨w, out, kb, v, es, ⟨aw, b, g⟩, nw, rfl, hs, rfl⟩
  have nwd := nextWords_ok (e := 0) (f := 0) hv mM0 hq aw b g (by omega) (by omega)
  rw [jO_eq, ← es] at nwd
  unfold Twins_wakeNext
  refine mOk_bind nwd (fun r3 k3 => ?_)
  obtain ⟨b1, b2⟩ := k3
  refine mL2 (Twins_wakeNext_4 s L) (fun x m2 => (0 ≤ x ∧ x < 8192) ∧ (∀ v : Int, 0 ≤ v → v < 13 → x.toNat.testBit v.toNat = true → xn X kb w v) ∧ jTk mm m2 (fun t => ∃ v, xn X kb w v ∧ ¬ x.toNat.testBit v.toNat = true ∧ jS X w out v ∧ t = jJ X w out v ∧ dd s + jC X out v = L ∧ mm 104 t.toNat ≠ 0 ∧ mm 103 t.toNat = L)) (fun x _ => x.toNat) ?_ r3 mm ⟨b1, fun v v0 v1 h => (b2 v v0 v1).mp h, jTk_none (fun t g => by
    obtain ⟨v, nv, nb, -⟩ := g
    exact nb ((b2 v nv.1.1 nv.1.2.1).mpr nv))⟩ (by omega)
  rintro fu x m2 ⟨x1, x2, tk⟩ ih
  rw [Twins_wakeNext_4]
  by_cases z : x = 0
  · rw [if_pos z]
    refine mOk_some (jTk_iff (fun t => ?_) tk)
    rw [z, show (0 : Int).toNat = 0 from rfl]
    constructor
    · rintro ⟨v, nv, -, hs, et, el, r⟩
      exact ⟨_, (ju_i _ _).mpr ⟨v, nv, hs, rfl, et⟩, el, r⟩
    · rintro ⟨c, u, el, r⟩
      obtain ⟨v, nv, hs, rfl, et⟩ := (ju_i _ _).mp u
      exact ⟨v, nv, by rw [Nat.zero_testBit]; decide, hs, et, el, r⟩
  rw [if_neg z]
  obtain ⟨j, j0, j1, kj, jb, jl⟩ := ntz_low (x := x) (m := m2) (by omega) x1.2
  have nj := x2 j j0 j1 jb
  have aj := nj.1
  have lj := (hv.2.1 j aj).1
  have cb := jC_bd (X := X) (out := out) (v := j) b.1 lj.1
  have hq2 : mTq X 0 m2 := mTq_104 tk.1 hq
  obtain ⟨-, lo, -⟩ := wordOut_eq (m := m2) (e := 0) (f := 0) mM0 hq2.2.2.2.2.1 ⟨aw.1, aw.2.1⟩ (out := out) (by omega) g (by omega) (by omega)
  rw [jO_eq, ← es] at lo
  have e103' : m2 103 s.toNat = dd s := by rw [tk.1 _ _ (by omega)]; exact e103
  obtain ⟨y3, y4⟩ := drop_low (x := x) (by omega) x1.2 j0 jb jl
  rw [kj, Option.bind_some, if_pos (by omega), lo, Option.bind_some, if_pos ⟨j0, j1⟩, jmin_C hq2 aj, Option.bind_some, e103', w32e (x := dd s + jC X out j) (by omega) (by omega)]
  have nxt : ∀ m3 : aM, jTk mm m3 (fun t => (∃ v, xn X kb w v ∧ ¬ x.toNat.testBit v.toNat = true ∧ jS X w out v ∧ t = jJ X w out v ∧ dd s + jC X out v = L ∧ mm 104 t.toNat ≠ 0 ∧ mm 103 t.toNat = L) ∨ (t = jJ X w out j ∧ jS X w out j ∧ dd s + jC X out j = L ∧ mm 104 t.toNat ≠ 0 ∧ mm 103 t.toNat = L)) → mOk (Twins_wakeNext_36 (Twins_wakeNext_4 s L fu) s L x m3) (fun m' => jTk mm m' (fun t => ∃ c, ju X s c t ∧ dd s + c = L ∧ mm 104 t.toNat ≠ 0 ∧ mm 103 t.toNat = L)) := by
    intro m3 k3
    unfold Twins_wakeNext_36
    refine ih _ _ ⟨by omega, fun v v0 v1 h => ?_, jTk_iff (fun t => ?_) k3⟩ (by omega)
    · rw [y4, Bool.and_eq_true] at h
      exact x2 v v0 v1 h.1
    · constructor
      · rintro (⟨v, nv, nb, r⟩ | ⟨et, hs, r⟩)
        · exact ⟨v, nv, by rw [y4, Bool.and_eq_true]; exact fun g => nb g.1, r⟩
        · exact ⟨j, nj, by rw [y4, decide_eq_true rfl, Bool.not_true, Bool.and_false]; decide, hs, et, r⟩
      · rintro ⟨v, nv, nb, hs, et, r⟩
        by_cases ev : v = j
        · right; rw [ev] at hs et r; exact ⟨et, hs, r⟩
        · refine Or.inl ⟨v, nv, fun g => nb ?_, hs, et, r⟩
          rw [y4, g, decide_eq_false (by have := nv.1.1; omega)]; rfl
  have same : ¬(jS X w out j ∧ dd s + jC X out j = L) → mOk (Twins_wakeNext_36 (Twins_wakeNext_4 s L fu) s L x m2) (fun m' => jTk mm m' (fun t => ∃ c, ju X s c t ∧ dd s + c = L ∧ mm 104 t.toNat ≠ 0 ∧ mm 103 t.toNat = L)) := fun no => nxt m2 (jTk_iff (fun t => ⟨Or.inl, fun g => g.elim id (fun g => absurd ⟨g.2.1, g.2.2.1⟩ no)⟩) tk)
  by_cases y : dd s + jC X out j = L
  rotate_left
  · rw [if_neg y]; exact same (fun g => y g.2)
  rw [if_pos y]
  have pm := plainMeet_ok (kb := kb) (m := m2) hv hq2 aw b g aj
  rw [← es] at pm
  refine mOk_bind pm (fun r9 k9 => ?_)
  have jb' := mCv_0 hv (jJ_v hv aw aj b)
  rcases k9 with ⟨e9, ns⟩ | ⟨e9, hs⟩
  · rw [if_pos e9]; exact same (fun g => ns g.1)
  · rw [e9, if_neg (by omega)]
    refine mOk_bind (take_S (t := jJ X w out j) (L := L) tk (fun u hu => ?_) jb') (fun m3 k3 => ?_)
    · obtain ⟨v, -, -, -, -, -, h, -⟩ := hu
      exact h
    · refine nxt m3 (jTk_iff (fun t => ?_) k3)
      constructor
      · rintro (h | ⟨et, r⟩)
        · exact Or.inl h
        · exact Or.inr ⟨et, hs, y, by rw [et]; exact r⟩
      · rintro (h | ⟨et, -, -, r⟩)
        · exact Or.inl h
        · exact Or.inr ⟨et, by rw [et] at r; exact r⟩
