/-! WITHOUT MISTAKES: the first line, by marks -/
def jA (X : aM) (dd : Int → Int) (L : Nat → Int) (i s : Int) : Prop := 16 ≤ s → ∀ k : Int, 0 ≤ k → k < jo s → dd s + k < i → jT X s k = L (dd s + k).toNat
def jTa (X : aM) (N : Int) (dd : Int → Int) (L : Nat → Int) (i s : Int) : Prop := jU X N dd s ∧ dd s ≤ i ∧ jA X dd L i s ∧ ∃ n, jQ X L n s (dd s)
def jTp (X : aM) (N : Int) (dd : Int → Int) (L : Nat → Int) (i s : Int) : Prop := jU X N dd s ∧ jA X dd L i s ∧ ((dd s < i ∧ ∃ n, jQ X L n s (dd s)) ∨ (dd s = i ∧ ∃ (n : Nat) (t L' c : Int), jQ X L n t L' ∧ ju X t c s ∧ 1 ≤ c ∧ L' + c = i ∧ ∀ k : Int, 0 ≤ k → k < c → jT X t k = L (L' + k).toNat) ∨ (dd s = 0 ∧ i = 0 ∧ ∃ w, xa X w ∧ s = jO w (xl X w) 4))
def jIn (X : aM) (N : Int) (cnt : Nat) (po : Nat → Int) (dd : Int → Int) (i : Int) (T : Int → Prop) (K : Int → Int) : Prop :=
  (∀ j : Nat, j < cnt → i ≤ dd (po j) → (K (po j) ≠ 0 ↔ jU X N dd (po j))) ∧
  (∀ t : Int, 0 ≤ t → t < 471 → K t ≠ 0 → (∃ j : Nat, j < cnt ∧ po j = t) ∧ jU X N dd t) ∧
  (∀ j : Nat, j < cnt → (K (po j) = 2 ↔ T (po j)))
theorem jE_lt {k1 k2 : Int} (a : 0 ≤ k1 ∧ k1 ≤ 3) (b : 0 ≤ k2 ∧ k2 ≤ 3) : 0 ≤ jE k1 k2 ∧ jE k1 k2 < 16 := by
  unfold jE
  omega
theorem jO_ge {X : aM} {w k : Int} (hv : mTv X) (aw : xa X w) (g : 0 ≤ k ∧ k ≤ 4) : 16 ≤ jO w (xl X w) k ∧ jO w (xl X w) k < 471 := jV_bd hv ⟨w, xl X w, k, rfl, aw, by have := (hv.2.1 w aw).1; omega, g⟩
/-- an even state is come to by a sound -/
theorem jQ_ev {X : aM} {L : Nat → Int} {n : Nat} {s d : Int} (hv : mTv X) (s16 : s < 16) (h : jQ X L n s d) : ∃ (n : Nat) (t L' c : Int), jQ X L n t L' ∧ ju X t c s ∧ 1 ≤ c ∧ L' + c = d ∧ ∀ k : Int, 0 ≤ k → k < c → jT X t k = L (L' + k).toNat := by
  cases n with
  | zero =>
    obtain ⟨-, w, aw, e⟩ := h
    have := (jO_ge (k := 4) hv aw (by omega)).1
    omega
  | succ n =>
    obtain ⟨t, L', c, q, u, e, told⟩ := h
    have cc := ju_c hv u
    refine ⟨n, t, L', c, q, u, ?_, e.symm, told⟩
    by_cases t16 : t < 16
    · have := (jV_bd hv (cc.2.1 t16).2).1
      omega
    · exact (cc.2.2 (by omega)).1
/-- the even ones wake those behind them -/
theorem jIn_wake {X : aM} {N i : Int} {cnt : Nat} {po : Nat → Int} {dd R K K' : Int → Int} {L : Nat → Int} (hv : mTv X) (hF : jF X N cnt po dd) (hR : ∀ j : Nat, j < cnt → R (po j) = dd (po j)) (iN : i < N) (h : jIn X N cnt po dd i (jTp X N dd L i) K)
    (hK : ∀ t : Int, 0 ≤ t → t < 471 → ((∃ k1 k2 w, ((0 ≤ k1 ∧ k1 ≤ 3) ∧ (0 ≤ k2 ∧ k2 ≤ 3)) ∧ xa X w ∧ xf X k1 w ∧ t = jO w (xl X w) k2 ∧ K (jE k1 k2) = 2 ∧ R (jE k1 k2) = i ∧ K t ≠ 0 ∧ R t = i) ∧ K' t = 2) ∨ (¬(∃ k1 k2 w, ((0 ≤ k1 ∧ k1 ≤ 3) ∧ (0 ≤ k2 ∧ k2 ≤ 3)) ∧ xa X w ∧ xf X k1 w ∧ t = jO w (xl X w) k2 ∧ K (jE k1 k2) = 2 ∧ R (jE k1 k2) = i ∧ K t ≠ 0 ∧ R t = i) ∧ K' t = K t)) : jIn X N cnt po dd i (jTa X N dd L i) K' := by
  obtain ⟨h1, h2, h3⟩ := h
  have nz : ∀ t : Int, 0 ≤ t → t < 471 → (K' t ≠ 0 ↔ K t ≠ 0) := by
    intro t a b
    rcases hK t a b with ⟨⟨k1, k2, w, -, -, -, -, -, -, g, -⟩, e⟩ | ⟨-, e⟩
    · rw [e]; exact ⟨fun _ => g, fun _ => by decide⟩
    · rw [e]
  have pb : ∀ j : Nat, j < cnt → 0 ≤ po j ∧ po j < 471 := fun j hj => mCv_0 hv (hF.1 j hj).1
  refine ⟨fun j hj d => ?_, fun t a b g => h2 t a b ((nz t a b).mp g), fun j hj => ?_⟩
  · rw [nz _ (pb j hj).1 (pb j hj).2]; exact h1 j hj d
  rcases hK _ (pb j hj).1 (pb j hj).2 with ⟨⟨k1, k2, w, ⟨a, b⟩, aw, fw, et, g1, g2, g3, g4⟩, e⟩ | ⟨no, e⟩
  · refine ⟨fun _ => ?_, fun _ => e⟩
    have eb := jE_lt a b
    obtain ⟨⟨j', j1, j2⟩, -⟩ := h2 _ eb.1 (by omega) (by rw [g1]; decide)
    have tp := (h3 j' j1).mp (by rw [j2]; exact g1)
    rw [j2] at tp
    have de : dd (jE k1 k2) = i := by rw [← g2, ← j2]; exact (hR j' j1).symm
    have ds : dd (po j) = i := by rw [← g4]; exact (hR j hj).symm
    have us := (h2 _ (pb j hj).1 (pb j hj).2 g3).2
    have qe : ∃ n, jQ X L n (jE k1 k2) i := by
      rcases tp.2.2 with ⟨lt, -⟩ | ⟨-, n, t, L', c, q, u, c1, eq, told⟩ | ⟨-, -, w', aw', e'⟩
      · omega
      · exact ⟨n + 1, t, L', c, q, u, eq.symm, told⟩
      · have := (jO_ge (k := 4) hv aw' (by omega)).1
        omega
    obtain ⟨n, qe⟩ := qe
    refine ⟨us, by omega, fun _ k k0 k1' lt => by omega, n + 1, jE k1 k2, i, 0, qe, Or.inl ⟨k1, k2, w, rfl, ⟨a, b⟩, aw, fw, rfl, et⟩, by omega, fun k k0 k1' => by omega⟩
  · rw [e, h3 j hj]
    constructor
    · rintro ⟨us, ag, ⟨lt, q⟩ | ⟨de, n, t, L', c, q, u, c1, eq, told⟩ | ⟨d0, i0, w', aw', e'⟩⟩
      · exact ⟨us, by omega, ag, q⟩
      · exact ⟨us, by omega, ag, n + 1, t, L', c, q, u, by omega, told⟩
      · exact ⟨us, by omega, ag, 0, d0, w', aw', e'⟩
    · rintro ⟨us, de, ag, n, q⟩
      refine ⟨us, ag, ?_⟩
      by_cases lt : dd (po j) < i
      · exact Or.inl ⟨lt, n, q⟩
      have di : dd (po j) = i := by omega
      cases n with
      | zero => obtain ⟨d0, w', aw', e'⟩ := q; exact Or.inr (Or.inr ⟨d0, by omega, w', aw', e'⟩)
      | succ n =>
        obtain ⟨t, L', c, q, u, eq, told⟩ := q
        have cc := ju_c hv u
        by_cases c1 : 1 ≤ c
        · exact Or.inr (Or.inl ⟨di, n, t, L', c, q, u, c1, by omega, told⟩)
        exfalso
        have c0 : c = 0 := by omega
        have t16 : t < 16 := by
          refine Int.not_le.mp (fun g => ?_)
          have := (cc.2.2 g).1
          omega
        have qt := jQ_q hv q
        have nzt : ¬ xz X 0 t := fun z => by
          have := hF.2.2.2.1 _ _ _ qt z
          omega
        obtain ⟨k, p⟩ := us
        have pt : jP X (k + 1) t (N - L') := ⟨po j, c, u, by rw [show N - L' - c = N - dd (po j) by omega]; exact p⟩
        obtain ⟨⟨j', j1, rfl⟩, dt, -⟩ := jF_at hv hF qt pt nzt
        rcases u with ⟨k1, k2, w, es, ⟨a, b⟩, aw, fw, -, et⟩ | ⟨w, out, kb, v, es, hh, -⟩
        · have kt : K (po j') = 2 := (h3 j' j1).mpr ⟨⟨k + 1, by rw [dt]; exact pt⟩, fun g => by omega, Or.inr (Or.inl ⟨by omega, by
            have := jQ_ev hv t16 q
            rw [show L' = i by omega] at this
            exact this⟩)⟩
          refine no ⟨k1, k2, w, ⟨a, b⟩, aw, fw, et, by rw [← es]; exact kt, by rw [← es, hR j' j1]; omega, (h1 j hj (by omega)).mpr ⟨k, p⟩, by rw [hR j hj]; exact di⟩
        · have := (jV_bd hv ⟨w, out, kb, es, hh⟩).1
          omega
/-- a line that is told has a state that tells it, at each place -/
theorem jcov_T {X : aM} {N i : Int} {cnt : Nat} {po : Nat → Int} {dd : Int → Int} {L σ : Nat → Int} (hv : mTv X) (hF : jF X N cnt po dd) (i0 : 0 ≤ i) (iN : i < N) (g : jG X N σ) (pre : ∀ j : Nat, (j : Int) < i → σ j = L j) : ∃ j : Nat, j < cnt ∧ jTa X N dd L i (po j) ∧ 16 ≤ po j ∧ i < dd (po j) + jo (po j) ∧ jT X (po j) (i - dd (po j)) = σ i.toNat := by
  obtain ⟨n, s, q, z⟩ := g
  obtain ⟨m, k', t, L', h1, h2, tv, h3, h4⟩ := jcov hv q (show jR X σ N 0 s N from ⟨z, rfl⟩) i i0 iN
  have t16 := (jV_bd hv tv).1
  obtain ⟨⟨j, j1, rfl⟩, dt, -⟩ := jF_at hv hF (jQ_q hv h1) (jR_P h2) (fun z => by have := xz_lt z; omega)
  have L0 := jQ_0 hv h1
  obtain ⟨w, out, kb, es, aw, b, g⟩ := tv
  have l := (hv.2.1 w aw).1
  have ho : jo (po j) = out := by rw [es]; exact (jT_O (X := X) (w := w) (by omega) g 0).2
  have ht : ∀ k : Int, jT X (po j) k = xs X w (xl X w - out + k) := fun k => by rw [es]; exact (jT_O (X := X) (w := w) (by omega) g k).1
  have h2' := h2
  rw [es] at h2'
  have told := jR_told hv aw b g L0 h2'
  refine ⟨j, j1, ⟨⟨k', by rw [dt]; exact jR_P h2⟩, by omega, fun _ k k0 k1 lt => ?_, m, ?_⟩, t16, by omega, ?_⟩
  · rw [ht, ← told k k0 (by omega), dt]
    exact pre _ (by omega)
  · rw [dt]; exact jQ_cg hv (fun j hj => (pre j (by omega)).symm) h1
  · rw [ht, ← told (i - dd (po j)) (by omega) (by omega)]
    congr 2
    omega
/-- the least sound that is told is the line's -/
theorem jLx {X : aM} {N i x : Int} {cnt : Nat} {po : Nat → Int} {dd : Int → Int} {L L' : Nat → Int} (hv : mTv X) (hF : jF X N cnt po dd) (i0 : 0 ≤ i) (iN : i < N) (e1 : ∀ j : Nat, (j : Int) < i → L' j = L j) (e2 : L' i.toNat = x)
    (hx : ∃ j : Nat, j < cnt ∧ jTa X N dd L i (po j) ∧ 16 ≤ po j ∧ i < dd (po j) + jo (po j) ∧ jT X (po j) (i - dd (po j)) = x) (hl : ∀ j : Nat, j < cnt → jTa X N dd L i (po j) → 16 ≤ po j → i < dd (po j) + jo (po j) → x ≤ jT X (po j) (i - dd (po j))) : LxAt (jG X N) L' i.toNat := by
  constructor
  · obtain ⟨j, j1, ⟨⟨k, p⟩, di, ag, n, q⟩, s16, co, ex⟩ := hx
    have d0 := (hF.1 j j1).2.1
    obtain ⟨σ, s1, r⟩ := jR_of hv L (dd (po j)) d0 p
    rw [show dd (po j) + (N - dd (po j)) = N by omega] at r
    have tv : jV X (po j) := by
      rcases mCv_j (hF.1 j j1).1 with ⟨k1, k2, es, a, b⟩ | g
      · have := jE_lt a b; omega
      · exact g
    obtain ⟨w, out, kb, es, aw, b, g⟩ := tv
    have l := (hv.2.1 w aw).1
    have ho : jo (po j) = out := by rw [es]; exact (jT_O (X := X) (w := w) (by omega) g 0).2
    have ht : ∀ k : Int, jT X (po j) k = xs X w (xl X w - out + k) := fun k => by rw [es]; exact (jT_O (X := X) (w := w) (by omega) g k).1
    have r' := r
    rw [es] at r'
    have told := jR_told hv aw b g (by rw [← es]; exact d0) r'
    rw [← es] at told
    refine ⟨σ, jQR (jQ_cg hv (fun j hj => s1 j hj) q) r, fun j' hj' => ?_, ?_⟩
    · rw [e1 j' (by omega)]
      by_cases c : (j' : Int) < dd (po j)
      · exact s1 j' c
      · have t1 := told ((j' : Int) - dd (po j)) (by omega) (by omega)
        have t2 := ag s16 ((j' : Int) - dd (po j)) (by omega) (by omega) (by omega)
        rw [show (dd (po j) + ((j' : Int) - dd (po j))).toNat = j' by omega] at t1 t2
        rw [t1, ← t2, ht]
    · have t1 := told (i - dd (po j)) (by omega) (by omega)
      rw [show (dd (po j) + (i - dd (po j))).toNat = i.toNat by omega, ← ht, ex] at t1
      rw [t1, e2]
  · intro σ g pre
    obtain ⟨j, j1, ta, s16, co, ex⟩ := jcov_T (L := L) hv hF i0 iN g (fun j hj => by rw [pre j (by omega)]; exact e1 j hj)
    rw [e2, ← ex]
    exact hl j j1 ta s16 co
/-- those that tell another sound go, those that are told to their end wake the next -/
theorem jIn_step {X : aM} {N i x : Int} {cnt : Nat} {po : Nat → Int} {dd R K K' : Int → Int} {L L' : Nat → Int} (hv : mTv X) (hF : jF X N cnt po dd) (hR : ∀ j : Nat, j < cnt → R (po j) = dd (po j)) (i0 : 0 ≤ i) (h : jIn X N cnt po dd i (jTa X N dd L i) K) (e1 : ∀ j : Nat, (j : Int) < i → L' j = L j) (e2 : L' i.toNat = x)
    (hK : ∀ t : Int, 0 ≤ t → t < 471 → ((∃ j : Nat, j < cnt ∧ po j = t ∧ (16 ≤ t ∧ K t = 2 ∧ dd t ≤ i ∧ i < dd t + jo t) ∧ jT X t (i - dd t) ≠ x) ∧ K' t = 0) ∨ ((∃ j : Nat, j < cnt ∧ (16 ≤ po j ∧ K (po j) = 2 ∧ dd (po j) ≤ i ∧ i < dd (po j) + jo (po j)) ∧ jT X (po j) (i - dd (po j)) = x ∧ ∃ c, ju X (po j) c t ∧ dd (po j) + c = i + 1 ∧ K t ≠ 0 ∧ R t = i + 1) ∧ K' t = 2) ∨ (¬(∃ j : Nat, j < cnt ∧ po j = t ∧ (16 ≤ t ∧ K t = 2 ∧ dd t ≤ i ∧ i < dd t + jo t) ∧ jT X t (i - dd t) ≠ x) ∧ ¬(∃ j : Nat, j < cnt ∧ (16 ≤ po j ∧ K (po j) = 2 ∧ dd (po j) ≤ i ∧ i < dd (po j) + jo (po j)) ∧ jT X (po j) (i - dd (po j)) = x ∧ ∃ c, ju X (po j) c t ∧ dd (po j) + c = i + 1 ∧ K t ≠ 0 ∧ R t = i + 1) ∧ K' t = K t)) : jIn X N cnt po dd (i + 1) (jTp X N dd L' (i + 1)) K' := by
  obtain ⟨h1, h2, h3⟩ := h
  have pb : ∀ j : Nat, j < cnt → 0 ≤ po j ∧ po j < 471 := fun j hj => mCv_0 hv (hF.1 j hj).1
  refine ⟨fun j hj d => ?_, fun t a b g => ?_, fun j hj => ?_⟩
  · rcases hK _ (pb j hj).1 (pb j hj).2 with ⟨⟨j', -, -, g, -⟩, -⟩ | ⟨⟨j', -, -, -, c, -, -, g, -⟩, e⟩ | ⟨-, -, e⟩
    · omega
    · rw [e]; exact ⟨fun _ => (h1 j hj (by omega)).mp g, fun _ => by decide⟩
    · rw [e]; exact h1 j hj (by omega)
  · rcases hK t a b with ⟨-, e⟩ | ⟨⟨j', -, -, -, c, -, -, g', -⟩, e⟩ | ⟨-, -, e⟩
    · exact absurd e g
    · exact h2 t a b g'
    · rw [e] at g; exact h2 t a b g
  rcases hK _ (pb j hj).1 (pb j hj).2 with ⟨⟨j', -, -, ⟨s16, k2, d1, d2⟩, ne⟩, e⟩ | ⟨⟨j', j1, ⟨s16, k2, d1, d2⟩, ex, c, u, eq, nz, ri⟩, e⟩ | ⟨n1, n2, e⟩
  · rw [e]
    refine ⟨fun g => absurd g (by decide), fun tp => ?_⟩
    exfalso
    have := tp.2.1 s16 (i - dd (po j)) (by omega) (by omega) (by omega)
    rw [show (dd (po j) + (i - dd (po j))).toNat = i.toNat by omega, e2] at this
    exact ne this
  · refine ⟨fun _ => ?_, fun _ => e⟩
    have di : dd (po j) = i + 1 := by rw [← hR j hj]; exact ri
    obtain ⟨us', dle, ag, n, q⟩ := (h3 j' j1).mp k2
    have cc := (ju_c hv u).2.2 s16
    refine ⟨(h2 _ (pb j hj).1 (pb j hj).2 nz).2, fun _ k k0 k1 lt => by omega, Or.inr (Or.inl ⟨di, n, po j', dd (po j'), c, jQ_cg hv (fun j hj => e1 j (by omega)) q, u, cc.1, eq, fun k k0 k1 => ?_⟩)⟩
    by_cases ki : dd (po j') + k < i
    · rw [ag s16 k k0 (by omega) ki]
      exact (e1 _ (by have := (hF.1 j' j1).2.1; omega)).symm
    · have ek : k = i - dd (po j') := by omega
      rw [ek, ex, show (dd (po j') + (i - dd (po j'))).toNat = i.toNat by omega, e2]
  · rw [e, h3 j hj]
    constructor
    · rintro ⟨us, dle, ag, n, q⟩
      refine ⟨us, fun s16 k k0 k1 lt => ?_, Or.inl ⟨by omega, n, jQ_cg hv (fun j hj => e1 j (by omega)) q⟩⟩
      have d0 := (hF.1 j hj).2.1
      by_cases ki : dd (po j) + k < i
      · rw [ag s16 k k0 k1 ki]
        exact (e1 _ (by omega)).symm
      · have ek : k = i - dd (po j) := by omega
        rw [ek, show (dd (po j) + (i - dd (po j))).toNat = i.toNat by omega, e2]
        refine Classical.byContradiction (fun ne => n1 ⟨j, hj, rfl, ⟨s16, (h3 j hj).mpr ⟨us, dle, ag, n, q⟩, dle, by omega⟩, ne⟩)
    · rintro ⟨us, ag, ⟨lt, n, q⟩ | ⟨di, n, t, L1, c, q, u, c1, eq, told⟩ | ⟨-, b, -⟩⟩
      · refine ⟨us, by omega, fun s16 k k0 k1 lt' => ?_, n, jQ_cg hv (fun j hj => (e1 j (by omega)).symm) q⟩
        have d0 := (hF.1 j hj).2.1
        rw [ag s16 k k0 k1 (by omega)]
        exact e1 _ (by omega)
      · exfalso
        have cc := ju_c hv u
        have t16 : 16 ≤ t := by
          refine Int.not_lt.mp (fun g => ?_)
          have := (cc.2.1 g).1
          omega
        have co := (cc.2.2 t16).2.2
        have L0 := jQ_0 hv q
        obtain ⟨k, p⟩ := us
        have pt : jP X (k + 1) t (N - L1) := ⟨po j, c, u, by rw [show N - L1 - c = N - dd (po j) by omega]; exact p⟩
        obtain ⟨⟨j', j1, rfl⟩, dt, -⟩ := jF_at hv hF (jQ_q hv q) pt (fun z => by have := xz_lt z; omega)
        have ta : jTa X N dd L i (po j') := ⟨⟨k + 1, by rw [dt]; exact pt⟩, by omega, fun _ k' k0 k1 lt => by
          rw [dt] at lt ⊢
          rw [told k' k0 (by omega)]
          exact e1 _ (by omega), n, by rw [dt]; exact jQ_cg hv (fun j hj => (e1 j (by omega)).symm) q⟩
        refine n2 ⟨j', j1, ⟨t16, (h3 j' j1).mpr ta, by omega, by omega⟩, ?_, c, u, by omega, (h1 j hj (by omega)).mpr ⟨k, p⟩, by rw [hR j hj]; exact di⟩
        rw [dt, told (i - L1) (by omega) (by omega), show (L1 + (i - L1)).toNat = i.toNat by omega, e2]
      · omega
theorem jIn_start {X : aM} {N : Int} {cnt : Nat} {po : Nat → Int} {dd R K K' : Int → Int} {L : Nat → Int} (hv : mTv X) (hF : jF X N cnt po dd) (hR : ∀ j : Nat, j < cnt → R (po j) = dd (po j)) (h1 : ∀ j : Nat, j < cnt → (K (po j) ≠ 0 ↔ jU X N dd (po j))) (h2 : ∀ t : Int, 0 ≤ t → t < 471 → K t ≠ 0 → K t = 1 ∧ ∃ j : Nat, j < cnt ∧ po j = t)
    (hK : ∀ t : Int, 0 ≤ t → t < 471 → ((∃ w, xa X w ∧ t = jO w (xl X w) 4 ∧ K t ≠ 0 ∧ R t = 0) ∧ K' t = 2) ∨ (¬(∃ w, xa X w ∧ t = jO w (xl X w) 4 ∧ K t ≠ 0 ∧ R t = 0) ∧ K' t = K t)) : jIn X N cnt po dd 0 (jTp X N dd L 0) K' := by
  have pb : ∀ j : Nat, j < cnt → 0 ≤ po j ∧ po j < 471 := fun j hj => mCv_0 hv (hF.1 j hj).1
  have nz : ∀ t : Int, 0 ≤ t → t < 471 → (K' t ≠ 0 ↔ K t ≠ 0) := by
    intro t a b
    rcases hK t a b with ⟨⟨w, -, -, g, -⟩, e⟩ | ⟨-, e⟩
    · rw [e]; exact ⟨fun _ => g, fun _ => by decide⟩
    · rw [e]
  refine ⟨fun j hj d => ?_, fun t a b g => ?_, fun j hj => ?_⟩
  · rw [nz _ (pb j hj).1 (pb j hj).2]; exact h1 j hj
  · have g' := (nz t a b).mp g
    obtain ⟨-, j, j1, rfl⟩ := h2 t a b g'
    exact ⟨⟨j, j1, rfl⟩, (h1 j j1).mp g'⟩
  · have d0 := (hF.1 j hj).2.1
    rcases hK _ (pb j hj).1 (pb j hj).2 with ⟨⟨w, aw, et, g, r0⟩, e⟩ | ⟨no, e⟩
    · refine ⟨fun _ => ⟨(h1 j hj).mp g, fun _ k k0 k1 lt => by omega, Or.inr (Or.inr ⟨by rw [← hR j hj]; exact r0, rfl, w, aw, et⟩)⟩, fun _ => e⟩
    · rw [e]
      constructor
      · intro g
        have := (h2 _ (pb j hj).1 (pb j hj).2 (by rw [g]; decide)).1
        omega
      · rintro ⟨us, -, ⟨lt, -⟩ | ⟨-, n, t, L', c, q, u, c1, eq, -⟩ | ⟨dz, -, w, aw, et⟩⟩
        · omega
        · have := jQ_0 hv q
          omega
        · exact absurd ⟨w, aw, et, (h1 j hj).mpr us, by rw [hR j hj]; exact dz⟩ no
