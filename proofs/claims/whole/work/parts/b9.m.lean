/-! WITHOUT MISTAKES: which states are useful -/
def jU (X : aM) (N : Int) (dd : Int → Int) (s : Int) : Prop := ∃ k, jP X k s (N - dd s)
theorem isUseful_ok {t L : Int} {mm : aM} (t0 : 0 ≤ t ∧ t < 471) : mOk (Twins_isUseful t L mm) (fun r => (r = 0 ∨ r = 1) ∧ (r ≠ 0 ↔ mm 104 t.toNat ≠ 0 ∧ mm 103 t.toNat = L)) := by
  unfold Twins_isUseful
  rw [if_pos t0]
  by_cases c : mm 104 t.toNat = 0
  · rw [if_pos c]; exact mOk_some ⟨Or.inl rfl, ⟨fun g => absurd rfl g, fun g => absurd c g.1⟩⟩
  · rw [if_neg c]
    by_cases d : mm 103 t.toNat = L
    · rw [if_pos d]; exact mOk_some ⟨Or.inr rfl, ⟨fun _ => ⟨c, d⟩, fun _ => by decide⟩⟩
    · rw [if_neg d]; exact mOk_some ⟨Or.inl rfl, ⟨fun g => absurd rfl g, fun g => absurd g.2 d⟩⟩
/-- both words say the same -/
def jS (X : aM) (w out v : Int) : Prop := ∀ k : Int, 0 ≤ k → k < jC X out v → xs X w (xl X w - out + k) = xs X v k
theorem jmin_C {X : aM} {out v : Int} {m mm : aM} (h : mTq X 0 m) (av : xa X v) : Jmath_min out (m 95 v.toNat) mm = some (jC X out v) := by
  have l95 : m 95 v.toNat = xl X v := h.2.2.1 _ _ (by omega) (by omega)
  unfold Jmath_min jC
  rw [l95]
  by_cases x : xl X v < out
  · rw [if_pos x, if_pos x]
  · rw [if_neg x, if_neg x]
theorem plainMeet_ok {X : aM} {w out kb v : Int} {m : aM} (hv : mTv X) (hq : mTq X 0 m) (aw : xa X w) (b : 1 ≤ out ∧ out ≤ xl X w) (g : 0 ≤ kb ∧ kb ≤ 4) (av : xa X v) : mOk (Twins_plainMeet (jO w out kb) v m) (fun r => (r = -1 ∧ ¬ jS X w out v) ∨ (r = jJ X w out v ∧ jS X w out v)) := by
  have lw := hv.2.1 w aw
  have lv := hv.2.1 v av
  have q3 := hq.2.2.1
  obtain ⟨r1, r2, -⟩ := wordOut_eq (m := m) (e := 0) (f := 0) mM0 hq.2.2.2.2.1 ⟨aw.1, aw.2.1⟩ (out := out) (by omega) g (by omega) (by omega)
  rw [jO_eq] at r1 r2
  have cb := jC_bd (X := X) (out := out) (v := v) b.1 lv.1.1
  have l95w : m 95 w.toNat = xl X w := q3 _ _ (by omega) (by omega)
  unfold Twins_plainMeet
  rw [r1, Option.bind_some, r2, Option.bind_some, if_pos ⟨av.1, av.2.1⟩, jmin_C hq av, Option.bind_some]
  refine mL1 (Twins_plainMeet_17 m v w out (jC X out v)) (fun i => (0 ≤ i ∧ i ≤ jC X out v) ∧ ∀ k : Int, 0 ≤ k → k < i → xs X w (xl X w - out + k) = xs X v k) (fun i => (8 - i).toNat) ?_ 0 ⟨by omega, fun k a b => by omega⟩ (by omega)
  rintro fu i ⟨i1, al⟩ ih
  rw [Twins_plainMeet_17]
  by_cases c : i < jC X out v
  · have ex : m (82 + w.toNat) (xl X w - out + i).toNat = xs X w (xl X w - out + i) := q3 _ _ (by omega) (by have := aw.2.1; omega)
    have ey : m (82 + v.toNat) i.toNat = xs X v i := q3 _ _ (by omega) (by have := av.2.1; omega)
    rw [if_pos c, if_pos ⟨aw.1, aw.2.1⟩, l95w, w32e (x := xl X w - out) (by omega) (by omega), w32e (x := xl X w - out + i) (by omega) (by omega), if_pos (by omega), if_pos ⟨av.1, av.2.1⟩, if_pos (by omega), ex, ey]
    by_cases d : xs X w (xl X w - out + i) = xs X v i
    · rw [if_pos d, w32e (by omega) (by omega)]
      refine ih _ ⟨by omega, fun k a b => ?_⟩ (by omega)
      by_cases e : k = i
      · rw [e]; exact d
      · exact al k a (by omega)
    · rw [if_neg d]
      exact mOk_some (Or.inl ⟨rfl, fun h => d (h i i1.1 c)⟩)
  · rw [if_neg c, joined_eq hv mM0 hq aw av b (by omega) (by omega), Option.bind_some, jJ_eq]
    exact mOk_some (Or.inr ⟨rfl, fun k a b => al k a (by omega)⟩)
theorem jJ_v {X : aM} {w out v : Int} (hv : mTv X) (aw : xa X w) (av : xa X v) (b : 1 ≤ out ∧ out ≤ xl X w) : mCv X 0 (jJ X w out v) := by
  rw [← jJ_eq]
  exact mJn_v hv aw av b (by omega) (by omega)
/-- the marks of those behind i are known -/
def jH (X : aM) (N : Int) (cnt : Nat) (po : Nat → Int) (dd : Int → Int) (i : Int) (mm : aM) : Prop :=
  (∀ j : Nat, i < j → j < cnt → (mm 104 (po j).toNat ≠ 0 ↔ jU X N dd (po j))) ∧ ∀ t : Int, 0 ≤ t → t < 471 → mm 104 t.toNat ≠ 0 → mm 104 t.toNat = 1 ∧ ∃ j : Nat, i < j ∧ j < cnt ∧ po j = t
theorem step_iff {X : aM} {N : Int} {cnt i : Nat} {po : Nat → Int} {dd : Int → Int} {mm : aM} {c t : Int} (hv : mTv X) (hF : jF X N cnt po dd) (hM : jM X cnt po dd mm) (hH : jH X N cnt po dd i mm) (hi : i < cnt) (u : ju X (po i) c t) : ((xz X 0 t ∧ dd (po i) + c = N) ∨ (¬ xz X 0 t ∧ mm 104 t.toNat ≠ 0 ∧ mm 103 t.toNat = dd (po i) + c)) ↔ ∃ k, jP X k t (N - dd (po i) - c) := by
  have tv := mCv_0 hv (ju_v hv u)
  obtain ⟨n, q⟩ := (hF.1 i hi).2.2.1
  have q1 : mCq X 0 (n + 1) t (dd (po i) + c) := ⟨_, _, c, q, (mCu_ju hv).mpr u, rfl⟩
  constructor
  · rintro (⟨z, e⟩ | ⟨nz, g1, g2⟩)
    · exact ⟨0, z, by omega⟩
    · obtain ⟨-, j, j1, j2, rfl⟩ := hH.2 t tv.1 tv.2 g1
      obtain ⟨k, p⟩ := (hH.1 j j1 j2).mp g1
      have e := (hM.2.2 j j2).2
      rw [g2] at e
      exact ⟨k, by rw [show N - dd (po i) - c = N - dd (po j) by omega]; exact p⟩
  · rintro ⟨k, p⟩
    by_cases z : xz X 0 t
    · have := jP_nn hv p
      have := hF.2.2.2.1 _ _ _ q1 z
      exact Or.inl ⟨z, by omega⟩
    · rw [show N - dd (po i) - c = N - (dd (po i) + c) by omega] at p
      obtain ⟨⟨j, j1, rfl⟩, j3, j4⟩ := jF_at hv hF q1 p z
      have cc := ju_c hv u
      have gt : i < j := by
        refine Nat.lt_of_not_le (fun le => ?_)
        by_cases e : j = i
        · rw [e] at j3
          have c0 : c = 0 := by omega
          by_cases s16 : po i < 16
          · have := (jV_bd hv (cc.2.1 s16).2).1
            rw [e] at this
            omega
          · have := (cc.2.2 (by omega)).1
            omega
        · obtain ⟨o1, o2⟩ := hF.2.2.2.2 j i (by omega) hi
          by_cases s16 : po i < 16
          · have := (jV_bd hv (cc.2.1 s16).2).1
            have := (cc.2.1 s16).1
            have := o2 (by omega) s16
            omega
          · have := (cc.2.2 (by omega)).1
            omega
      refine Or.inr ⟨z, (hH.1 j (by omega) j1).mpr ⟨k, by rw [j3]; exact p⟩, by rw [(hM.2.2 j j1).2]; exact j3⟩
theorem jU_step {X : aM} {N : Int} {dd : Int → Int} {s : Int} (nz : ¬ xz X 0 s) : jU X N dd s ↔ ∃ c t, ju X s c t ∧ ∃ k, jP X k t (N - dd s - c) := by
  constructor
  · rintro ⟨k, p⟩
    cases k with
    | zero => exact absurd p.1 nz
    | succ k => obtain ⟨t, c, h1, h2⟩ := p; exact ⟨c, t, h1, k, h2⟩
  · rintro ⟨c, t, h1, k, h2⟩
    exact ⟨k + 1, t, c, h1, h2⟩
theorem leads_c {X : aM} {N : Int} {cnt i : Nat} {po : Nat → Int} {dd : Int → Int} {mm : aM} (hv : mTv X) (hF : jF X N cnt po dd) (hM : jM X cnt po dd mm) (hH : jH X N cnt po dd i mm) (hi : i < cnt) (dN : dd (po i) ≤ 100000) : mOk (Twins_leadsToEnd (po i) N mm) (fun r => (r = 0 ∨ r = 1) ∧ (r ≠ 0 ↔ jU X N dd (po i))) := by
  have hq := hM.1
  obtain ⟨sv, d0, -, nz⟩ := hF.1 i hi
  have sb := mCv_0 hv sv
  have e103 := (hM.2.2 i hi).2
  have q3 := hq.2.2.1
  have h10 : mm 80 10 = (0 + 1) * (0 + 1) := hq.2.2.2.2.1
  unfold Twins_leadsToEnd
  rw [isEven_eq mM0 h10, Option.bind_some]
  rcases mCv_j sv with ⟨k1, k2, es, a, b⟩ | ⟨w, out, kb, es, aw, b, g⟩
  · have s16 : po i < 16 := by rw [es]; unfold jE; omega
    rw [if_pos (show po i < 16 * ((0 + 1) * (0 + 1)) by omega), if_neg (by decide)]
    refine mOk_bind (isLast_ok hv mM0 hq sv) (fun r17 k17 => ?_)
    have z17 : r17 = 0 := Classical.byContradiction (fun g => nz (k17.2.mp g))
    rw [if_pos z17]
    -- by the words that may follow
    have us : jU X N dd (po i) ↔ ∃ w, xa X w ∧ xf X k1 w ∧ mm 104 (jO w (xl X w) k2).toNat ≠ 0 ∧ mm 103 (jO w (xl X w) k2).toNat = dd (po i) := by
      rw [jU_step nz]
      constructor
      · rintro ⟨c, t, u, hk⟩
        have st := (step_iff hv hF hM hH hi u).mpr hk
        rcases u with ⟨k1', k2', w, e, ⟨a', b'⟩, aw, fw, rfl, rfl⟩ | ⟨w, out, kb, v, e, hh, -⟩
        · rw [es] at e
          obtain ⟨rfl, rfl⟩ := jE_inj b b' e
          have l := (hv.2.1 w aw).1
          rcases st with ⟨z, -⟩ | ⟨-, g1, g2⟩
          · have := xz_lt z
            have := (jV_bd (X := X) hv ⟨w, xl X w, k2, rfl, aw, by omega, by omega⟩).1
            omega
          · exact ⟨w, aw, fw, g1, by rw [g2]; omega⟩
        · have := (jV_bd hv ⟨w, out, kb, e, hh⟩).1
          omega
      · rintro ⟨w, aw, fw, g1, g2⟩
        have l := (hv.2.1 w aw).1
        have u : ju X (po i) 0 (jO w (xl X w) k2) := Or.inl ⟨k1, k2, w, es, ⟨a, b⟩, aw, fw, rfl, rfl⟩
        refine ⟨0, _, u, (step_iff hv hF hM hH hi u).mp (Or.inr ⟨fun z => ?_, g1, by rw [g2]; omega⟩)⟩
        have := xz_lt z
        have := (jV_bd (X := X) hv ⟨w, xl X w, k2, rfl, aw, by omega, by omega⟩).1
        omega
    have ev : mOk (Twins_evenLeadsOn (po i) mm) (fun r => (r = 0 ∨ r = 1) ∧ (r ≠ 0 ↔ jU X N dd (po i))) := by
      obtain ⟨b1, b2⟩ := hq.2.2.2.2.2.2 k1 a.1 (by omega)
      have e4 : (po i) / 4 = k1 := by rw [es]; unfold jE; omega
      have e5 : (po i) % 4 = k2 := by rw [es]; unfold jE; omega
      unfold Twins_evenLeadsOn
      rw [tdiv_nn sb.1, e4, w32e (x := k1) (by omega) (by omega), if_pos (by omega)]
      refine mL1 (Twins_evenLeadsOn_7 mm (po i)) (fun x => (0 ≤ x ∧ x < 8192) ∧ (∀ v : Int, 0 ≤ v → v < 13 → x.toNat.testBit v.toNat = true → xa X v ∧ xf X k1 v) ∧ ∀ v : Int, xa X v → xf X k1 v → x.toNat.testBit v.toNat = true ∨ ¬(mm 104 (jO v (xl X v) k2).toNat ≠ 0 ∧ mm 103 (jO v (xl X v) k2).toNat = dd (po i))) (fun x => x.toNat) ?_ (mm 99 k1.toNat) ⟨b1, fun v v0 v1 h => (b2 v v0 v1).mp h, fun v h1 h2 => Or.inl ((b2 v h1.1 h1.2.1).mpr ⟨h1, h2⟩)⟩ (by omega)
      rintro fu x ⟨x1, x2, x3⟩ ih
      rw [Twins_evenLeadsOn_7]
      by_cases z : x = 0
      · rw [if_pos z]
        refine mOk_some ⟨Or.inl rfl, ⟨fun g => absurd rfl g, fun g => ?_⟩⟩
        obtain ⟨v, h1, h2, h3⟩ := us.mp g
        rcases x3 v h1 h2 with h | h
        · rw [z, show (0 : Int).toNat = 0 from rfl, Nat.zero_testBit] at h; exact absurd h (by decide)
        · exact absurd h3 h
      · rw [if_neg z]
        obtain ⟨j, j0, j1, kj, jb, jl⟩ := ntz_low (x := x) (m := mm) (by omega) x1.2
        obtain ⟨aj, fj⟩ := x2 j j0 j1 jb
        have lj := (hv.2.1 j aj).1
        have l95 : mm 95 j.toNat = xl X j := q3 _ _ (by omega) (by omega)
        have os := oddState_eq (m := mm) (e := 0) (f := 0) mM0 h10 ⟨j0, j1⟩ (out := xl X j) (kb := k2) (by omega) (by omega) (by omega) (by omega)
        rw [show (0 : Int) * (0 + 1) + 0 = 0 from rfl, jO_eq] at os
        have tb := jV_bd (X := X) hv ⟨j, xl X j, k2, rfl, aj, by omega, by omega⟩
        rw [kj, Option.bind_some, if_pos ⟨j0, j1⟩, tmod_nn sb.1, e5, l95, os, Option.bind_some, if_pos sb, e103]
        refine mOk_bind (isUseful_ok (t := jO j (xl X j) k2) (L := dd (po i)) (mm := mm) (by omega)) (fun r7 k7 => ?_)
        by_cases y : r7 = 0
        · rw [if_pos y]
          obtain ⟨y1, y2⟩ := drop_low (x := x) (by omega) x1.2 j0 jb jl
          refine ih _ ⟨by omega, fun v v0 v1 h => ?_, fun v h1 h2 => ?_⟩ (by omega)
          · rw [y2, Bool.and_eq_true] at h
            exact x2 v v0 v1 h.1
          · by_cases ev : v = j
            · right; rw [ev]; exact fun g => (k7.2.mpr g) y
            · rcases x3 v h1 h2 with h | h
              · left
                rw [y2, h, decide_eq_false (by have := h1.1; omega)]; rfl
              · exact Or.inr h
        · rw [if_neg y]
          obtain ⟨g1, g2⟩ := k7.2.mp y
          exact mOk_some ⟨Or.inr rfl, ⟨fun _ => us.mpr ⟨j, aj, fj, g1, g2⟩, fun _ => by decide⟩⟩
    refine mOk_bind ev (fun r19 k19 => ?_)
    unfold Twins_leadsToEnd_12
    by_cases y : r19 = 0
    · rw [if_pos y]; exact mOk_some ⟨Or.inl rfl, ⟨fun g => absurd rfl g, fun g => absurd y (k19.2.mpr g)⟩⟩
    · rw [if_neg y]; exact mOk_some ⟨Or.inr rfl, ⟨fun _ => k19.2.mp y, fun _ => by decide⟩⟩
  · have lw := (hv.2.1 w aw).1
    have vv := jV_bd (X := X) hv ⟨w, out, kb, rfl, aw, b, g⟩
    rw [if_neg (show ¬ po i < 16 * ((0 + 1) * (0 + 1)) by rw [es]; omega), if_pos rfl]
    have us : jU X N dd (po i) ↔ ∃ v, xn X kb w v ∧ jS X w out v ∧ ((xz X 0 (jJ X w out v) ∧ dd (po i) + jC X out v = N) ∨ (¬ xz X 0 (jJ X w out v) ∧ mm 104 (jJ X w out v).toNat ≠ 0 ∧ mm 103 (jJ X w out v).toNat = dd (po i) + jC X out v)) := by
      rw [jU_step nz]
      constructor
      · rintro ⟨c, t, u, hk⟩
        have st := (step_iff hv hF hM hH hi u).mpr hk
        rcases u with ⟨k1', k2', w', e, ⟨a', b'⟩, -⟩ | ⟨w', out', kb', v, e, ⟨aw', b', g'⟩, nw, rfl, hs, rfl⟩
        · rw [es] at e
          unfold jE at e
          omega
        · rw [es] at e
          have lw' := (hv.2.1 w' aw').1
          obtain ⟨rfl, rfl, rfl⟩ := jO_inj (by omega) g (by omega) g' e
          exact ⟨v, nw, hs, st⟩
      · rintro ⟨v, nw, hs, st⟩
        have u : ju X (po i) (jC X out v) (jJ X w out v) := Or.inr ⟨w, out, kb, v, es, ⟨aw, b, g⟩, nw, rfl, hs, rfl⟩
        exact ⟨_, _, u, (step_iff hv hF hM hH hi u).mp st⟩
    have nwd := nextWords_ok (e := 0) (f := 0) hv mM0 hq aw b g (by omega) (by omega)
    rw [jO_eq, ← es] at nwd
    refine mOk_bind nwd (fun r3 k3 => ?_)
    obtain ⟨b1, b2⟩ := k3
    obtain ⟨-, lo, -⟩ := wordOut_eq (m := mm) (e := 0) (f := 0) mM0 h10 ⟨aw.1, aw.2.1⟩ (out := out) (by omega) g (by omega) (by omega)
    rw [jO_eq, ← es] at lo
    refine mL1 (Twins_leadsToEnd_20 mm (po i) N) (fun x => (0 ≤ x ∧ x < 8192) ∧ (∀ v : Int, 0 ≤ v → v < 13 → x.toNat.testBit v.toNat = true → xn X kb w v) ∧ ∀ v : Int, xn X kb w v → x.toNat.testBit v.toNat = true ∨ ¬(jS X w out v ∧ ((xz X 0 (jJ X w out v) ∧ dd (po i) + jC X out v = N) ∨ (¬ xz X 0 (jJ X w out v) ∧ mm 104 (jJ X w out v).toNat ≠ 0 ∧ mm 103 (jJ X w out v).toNat = dd (po i) + jC X out v)))) (fun x => x.toNat) ?_ r3 ⟨b1, fun v v0 v1 h => (b2 v v0 v1).mp h, fun v h1 => Or.inl ((b2 v h1.1.1 h1.1.2.1).mpr h1)⟩ (by omega)
    rintro fu x ⟨x1, x2, x3⟩ ih
    rw [Twins_leadsToEnd_20]
    by_cases z : x = 0
    · rw [if_pos z]
      refine mOk_some ⟨Or.inl rfl, ⟨fun g => absurd rfl g, fun g => ?_⟩⟩
      obtain ⟨v, h1, h2⟩ := us.mp g
      rcases x3 v h1 with h | h
      · rw [z, show (0 : Int).toNat = 0 from rfl, Nat.zero_testBit] at h; exact absurd h (by decide)
      · exact absurd h2 h
    · rw [if_neg z]
      obtain ⟨j, j0, j1, kj, jb, jl⟩ := ntz_low (x := x) (m := mm) (by omega) x1.2
      have nj := x2 j j0 j1 jb
      have aj := nj.1
      have lj := (hv.2.1 j aj).1
      have cb := jC_bd (X := X) (out := out) (v := j) b.1 lj.1
      rw [kj, Option.bind_some]
      have pm := plainMeet_ok (kb := kb) hv hq aw b g aj
      rw [← es] at pm
      refine mOk_bind pm (fun r6 k6 => ?_)
      rw [if_pos sb, lo, Option.bind_some, if_pos ⟨j0, j1⟩, jmin_C hq aj, Option.bind_some, e103, w32e (x := dd (po i) + jC X out j) (by omega) (by omega)]
      -- the next word
      have nxt : ¬(jS X w out j ∧ ((xz X 0 (jJ X w out j) ∧ dd (po i) + jC X out j = N) ∨ (¬ xz X 0 (jJ X w out j) ∧ mm 104 (jJ X w out j).toNat ≠ 0 ∧ mm 103 (jJ X w out j).toNat = dd (po i) + jC X out j))) → mOk (Twins_leadsToEnd_62 mm (Twins_leadsToEnd_20 mm (po i) N fu) (po i) N x) (fun r => (r = 0 ∨ r = 1) ∧ (r ≠ 0 ↔ jU X N dd (po i))) := by
        intro no
        unfold Twins_leadsToEnd_62
        obtain ⟨y1, y2⟩ := drop_low (x := x) (by omega) x1.2 j0 jb jl
        refine ih _ ⟨by omega, fun v v0 v1 h => ?_, fun v h1 => ?_⟩ (by omega)
        · rw [y2, Bool.and_eq_true] at h
          exact x2 v v0 v1 h.1
        · by_cases ev : v = j
          · right; rw [ev]; exact no
          · rcases x3 v h1 with h | h
            · left
              rw [y2, h, decide_eq_false (by have := h1.1.1; omega)]; rfl
            · exact Or.inr h
      have yes : (jS X w out j ∧ ((xz X 0 (jJ X w out j) ∧ dd (po i) + jC X out j = N) ∨ (¬ xz X 0 (jJ X w out j) ∧ mm 104 (jJ X w out j).toNat ≠ 0 ∧ mm 103 (jJ X w out j).toNat = dd (po i) + jC X out j))) → mOk (some (1 : Int)) (fun r => (r = 0 ∨ r = 1) ∧ (r ≠ 0 ↔ jU X N dd (po i))) := fun h => mOk_some ⟨Or.inr rfl, ⟨fun _ => us.mpr ⟨j, nj, h.1, h.2⟩, fun _ => by decide⟩⟩
      have jv := jJ_v hv aw aj b
      have jb' := mCv_0 hv jv
      rcases k6 with ⟨e6, ns⟩ | ⟨e6, hs⟩
      · rw [if_pos e6]; exact nxt (fun h => ns h.1)
      · rw [e6, if_neg (by omega)]
        refine mOk_bind (isLast_ok hv mM0 hq jv) (fun r12 k12 => ?_)
        by_cases y : r12 = 0
        · rw [if_pos y]
          have nz2 : ¬ xz X 0 (jJ X w out j) := fun h => (k12.2.mpr h) y
          refine mOk_bind (isUseful_ok (t := jJ X w out j) (L := dd (po i) + jC X out j) (mm := mm) jb') (fun r14 k14 => ?_)
          by_cases y2 : r14 = 0
          · rw [if_pos y2]
            refine nxt (fun h => ?_)
            rcases h.2 with h | h
            · exact nz2 h.1
            · exact (k14.2.mpr h.2) y2
          · rw [if_neg y2]
            exact yes ⟨hs, Or.inr ⟨nz2, k14.2.mp y2⟩⟩
        · rw [if_neg y]
          have z2 := k12.2.mp y
          by_cases y2 : dd (po i) + jC X out j = N
          · rw [if_pos y2]; exact yes ⟨hs, Or.inl ⟨z2, y2⟩⟩
          · rw [if_neg y2]
            refine nxt (fun h => ?_)
            rcases h.2 with h | h
            · exact y2 h.2
            · exact h.1 z2
theorem fillB_ok {x0 : Nat} {x1 : Int} {m : aM} (hl : aln x0 < 100000) : mOk (Jarr_fillB x0 x1 m) (fun m' => (∀ k : Nat, k < aln x0 → m' x0 k = w8 x1) ∧ ∀ q i, ¬(q = x0 ∧ i < aln x0) → m' q i = m q i) := by
  unfold Jarr_fillB
  refine mL2 (Jarr_fillB_5 x0 x1 _) (fun x mm => 0 ≤ x ∧ x ≤ aln x0 ∧ (∀ k : Nat, k < x.toNat → mm x0 k = w8 x1) ∧ ∀ q i, ¬(q = x0 ∧ i < aln x0) → mm q i = m q i) (fun x _ => ((aln x0 : Int) - x).toNat) ?_ 0 m ⟨by omega, by omega, fun k hk => by omega, fun _ _ _ => rfl⟩ (by omega)
  rintro n x mm ⟨h0, h1, h2, h3⟩ ih
  rw [Jarr_fillB_5]
  by_cases c : x < aln x0
  · rw [if_pos c, if_pos ⟨h0, c⟩, st1e, w32e (by omega) (by omega)]
    refine ih _ _ ⟨by omega, by omega, ?_, ?_⟩ (by omega)
    · intro k hk
      by_cases e : k = x.toNat
      · rw [e, aup_self]
      · rw [aup_of (by omega)]; exact h2 k (by omega)
    · intro q i hq
      rw [aup_of (by omega)]; exact h3 q i hq
  · rw [if_neg c]
    exact mOk_some ⟨fun k hk => h2 k (by omega), h3⟩
theorem jM_fr {X : aM} {cnt : Nat} {po : Nat → Int} {dd : Int → Int} {m m' : aM} (f : ∀ q i, q ≠ 104 → q ≠ 108 → m' q i = m q i) (h : jM X cnt po dd m) : jM X cnt po dd m' := by
  obtain ⟨⟨g1, g2, g3, g4, g5, g7, g6⟩, h2, h3⟩ := h
  refine ⟨⟨by rw [f _ _ (by omega) (by omega)]; exact g1, by rw [f _ _ (by omega) (by omega)]; exact g2, fun q i a b => by rw [f _ _ (by omega) (by omega)]; exact g3 q i a b, by rw [f _ _ (by omega) (by omega)]; exact g4, by rw [f _ _ (by omega) (by omega)]; exact g5, by rw [f _ _ (by omega) (by omega)]; exact g7, fun k a b => by rw [f 99 _ (by omega) (by omega)]; exact g6 k a b⟩, by rw [f _ _ (by omega) (by omega)]; exact h2, fun i hi => by rw [f 102 _ (by omega) (by omega), f 103 _ (by omega) (by omega)]; exact h3 i hi⟩
theorem markUseful_ok {X : aM} {N : Int} {cnt : Nat} {po : Nat → Int} {dd : Int → Int} {m : aM} (hv : mTv X) (hF : jF X N cnt po dd) (c471 : cnt ≤ 471) (hM : jM X cnt po dd m) (dN : ∀ i : Nat, i < cnt → dd (po i) ≤ 100000) : mOk (Twins_markUseful N m) (fun m' => (∀ q i, q ≠ 104 → m' q i = m q i) ∧ jH X N cnt po dd (-1) m') := by
  have a104 : aln 104 = 471 := by decide
  unfold Twins_markUseful
  refine mOk_bind (fillB_ok (x0 := 104) (x1 := 0) (m := m) (by rw [a104]; omega)) (fun m1 k1 => ?_)
  obtain ⟨z1, f1⟩ := k1
  rw [a104] at z1 f1
  have e16 : m1 80 16 = cnt := by rw [f1 _ _ (by omega)]; exact hM.2.1
  rw [e16, w32e (by omega) (by omega)]
  refine mL2 (Twins_markUseful_9 N) (fun x mm => (-1 ≤ x ∧ x < cnt) ∧ (∀ q i, q ≠ 104 → mm q i = m q i) ∧ jH X N cnt po dd x mm) (fun x _ => (x + 2).toNat) ?_ ((cnt : Int) - 1) m1 ⟨by omega, fun q i a => f1 q i (by omega), fun j a b => by omega, fun t a b c => ?_⟩ (by omega)
  rotate_left
  · exfalso
    rw [z1 _ (by omega)] at c
    exact c rfl
  rintro fu x mm ⟨x1, fr, hH⟩ ih
  rw [Twins_markUseful_9]
  by_cases c : x < 0
  · rw [if_pos c]
    have e : x = -1 := by omega
    rw [e] at hH
    exact mOk_some ⟨fr, hH⟩
  have hMm : jM X cnt po dd mm := jM_fr (fun q i a b => fr q i a) hM
  generalize hi : x.toNat = i
  have ei : x = (i : Int) := by omega
  have ic : i < cnt := by omega
  rw [if_neg c, if_pos (by omega), (hMm.2.2 i ic).1]
  rw [ei] at hH
  have pb := mCv_0 hv (hF.1 i ic).1
  refine mOk_bind (leads_c hv hF hMm hH ic (dN i ic)) (fun r kr => ?_)
  unfold Twins_markUseful_27
  by_cases y : r = 0
  · rw [if_pos y, w32e (by omega) (by omega)]
    refine ih _ _ ⟨by omega, fr, fun j a b => ?_, fun t a b g => ?_⟩ (by omega)
    · by_cases e : j = i
      · rw [e]
        constructor
        · intro g
          obtain ⟨-, j', j1, j2, j3⟩ := hH.2 _ pb.1 pb.2 g
          exact absurd j3.symm (hF.2.1 i j' (by omega) j2)
        · intro g; exact absurd y (kr.2.mpr g)
      · exact hH.1 j (by omega) b
    · obtain ⟨g1, j', j1, j2, j3⟩ := hH.2 t a b g
      exact ⟨g1, j', by omega, j2, j3⟩
  · rw [if_neg y, if_pos pb, st1e, w32e (by omega) (by omega), w8e (x := 1) (by omega) (by omega)]
    refine ih _ _ ⟨by omega, fun q k a => by rw [aup_of (by omega)]; exact fr q k a, fun j a b => ?_, fun t a b g => ?_⟩ (by omega)
    · by_cases e : j = i
      · rw [e, aup_self]
        exact ⟨fun _ => kr.2.mp y, fun _ => by decide⟩
      · have ne : po j ≠ po i := fun g => hF.2.1 i j (by omega) b g.symm
        have pj := mCv_0 hv (hF.1 j b).1
        rw [aup_of (by omega)]
        exact hH.1 j (by omega) b
    · by_cases e : t = po i
      · rw [e, aup_self]; exact ⟨rfl, i, by omega, ic, rfl⟩
      · rw [aup_of (by omega)] at g ⊢
        obtain ⟨g1, j', j1, j2, j3⟩ := hH.2 t a b g
        exact ⟨g1, j', by omega, j2, j3⟩
