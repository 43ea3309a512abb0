/-! firstLine, to its end -/
theorem jQ_of {X : aM} (hv : mTv X) : ∀ {n : Nat} {s L : Int}, mCq X 0 n s L → ∃ σ : Nat → Int, jQ X σ n s L
  | 0, s, L, ⟨h, w, aw, e⟩ => ⟨fun _ => 0, h, w, aw, by rw [e, mSt3_odd]; exact jO_eq _ _ _⟩
  | n + 1, s, L, ⟨t, L', c, h1, h2, h3⟩ => by
    obtain ⟨σ, q⟩ := jQ_of hv h1
    have l0 := jQ_0 hv q
    refine ⟨fun j : Nat => if (j : Int) < L' then σ j else jT X t ((j : Int) - L'), t, L', c, jQ_cg hv (fun j hj => ?_) q, (mCu_ju hv).mp h2, h3, fun k k0 k1 => ?_⟩
    · rw [if_pos hj]
    · show jT X t k = if (((L' + k).toNat : Nat) : Int) < L' then σ (L' + k).toNat else jT X t ((((L' + k).toNat : Nat) : Int) - L')
      rw [if_neg (by omega)]
      congr 1
      omega
theorem fl49 {X m7 : aM} {k28 : Int → aM → Option aM} {N i x : Int} {cnt : Nat} {po : Nat → Int} {dd : Int → Int} {Q : aM → Prop} (hv : mTv X) (hF : jF X N cnt po dd) (c471 : cnt ≤ 471) (hM : jM X cnt po dd m7) (i0 : 0 ≤ i ∧ i < 100000) (dN : ∀ j : Nat, j < cnt → dd (po j) ≤ 100000)
    (K : ∀ m' : aM, (∀ q k, q ≠ 104 → m' q k = m7 q k) → (∀ t : Int, 0 ≤ t → t < 471 → ((∃ j : Nat, j < cnt ∧ po j = t ∧ (16 ≤ t ∧ m7 104 t.toNat = 2 ∧ dd t ≤ i ∧ i < dd t + jo t) ∧ jT X t (i - dd t) ≠ x) ∧ m' 104 t.toNat = 0) ∨ ((∃ j : Nat, j < cnt ∧ (16 ≤ po j ∧ m7 104 (po j).toNat = 2 ∧ dd (po j) ≤ i ∧ i < dd (po j) + jo (po j)) ∧ jT X (po j) (i - dd (po j)) = x ∧ ∃ c, ju X (po j) c t ∧ dd (po j) + c = i + 1 ∧ m7 104 t.toNat ≠ 0 ∧ m7 103 t.toNat = i + 1) ∧ m' 104 t.toNat = 2) ∨ (¬(∃ j : Nat, j < cnt ∧ po j = t ∧ (16 ≤ t ∧ m7 104 t.toNat = 2 ∧ dd t ≤ i ∧ i < dd t + jo t) ∧ jT X t (i - dd t) ≠ x) ∧ ¬(∃ j : Nat, j < cnt ∧ (16 ≤ po j ∧ m7 104 (po j).toNat = 2 ∧ dd (po j) ≤ i ∧ i < dd (po j) + jo (po j)) ∧ jT X (po j) (i - dd (po j)) = x ∧ ∃ c, ju X (po j) c t ∧ dd (po j) + c = i + 1 ∧ m7 104 t.toNat ≠ 0 ∧ m7 103 t.toNat = i + 1) ∧ m' 104 t.toNat = m7 104 t.toNat)) → mOk (k28 (w32 (i + 1)) m') Q) : mOk (Twins_firstLine_49 k28 N i x FU 0 m7) Q := by
  generalize hRm : (fun (j t : Int) => ∃ j' : Nat, (j' : Int) < j ∧ j' < cnt ∧ po j' = t ∧ jTl dd m7 i t ∧ jT X t (i - dd t) ≠ x) = Rm
  generalize hWk : (fun (j t : Int) => ∃ j' : Nat, (j' : Int) < j ∧ j' < cnt ∧ jTl dd m7 i (po j') ∧ jT X (po j') (i - dd (po j')) = x ∧ ∃ c, ju X (po j') c t ∧ dd (po j') + c = i + 1 ∧ m7 104 t.toNat ≠ 0 ∧ m7 103 t.toNat = i + 1) = Wk
  have iR : ∀ j t, Rm j t ↔ ∃ j' : Nat, (j' : Int) < j ∧ j' < cnt ∧ po j' = t ∧ jTl dd m7 i t ∧ jT X t (i - dd t) ≠ x := fun j t => by rw [← hRm]
  have iW : ∀ j t, Wk j t ↔ ∃ j' : Nat, (j' : Int) < j ∧ j' < cnt ∧ jTl dd m7 i (po j') ∧ jT X (po j') (i - dd (po j')) = x ∧ ∃ c, ju X (po j') c t ∧ dd (po j') + c = i + 1 ∧ m7 104 t.toNat ≠ 0 ∧ m7 103 t.toNat = i + 1 := fun j t => by rw [← hWk]
  clear hRm hWk
  have pb : ∀ j : Nat, j < cnt → 0 ≤ po j ∧ po j < 471 := fun j hj => mCv_0 hv (hF.1 j hj).1
  refine mL2 (Twins_firstLine_49 k28 N i x) (fun j mm => (0 ≤ j ∧ j ≤ cnt) ∧ (∀ q k, q ≠ 104 → mm q k = m7 q k) ∧ ∀ t : Int, 0 ≤ t → t < 471 → (Rm j t ∧ mm 104 t.toNat = 0) ∨ (Wk j t ∧ mm 104 t.toNat = 2) ∨ (¬ Rm j t ∧ ¬ Wk j t ∧ mm 104 t.toNat = m7 104 t.toNat)) (fun j _ => (472 - j).toNat) ?_ 0 m7 ⟨by omega, fun _ _ _ => rfl, fun t a b => Or.inr (Or.inr ⟨fun g => ?_, fun g => ?_, rfl⟩)⟩ (by omega)
  rotate_left
  · obtain ⟨j', lt, -⟩ := (iR 0 t).mp g; omega
  · obtain ⟨j', lt, -⟩ := (iW 0 t).mp g; omega
  rintro fu j mm ⟨j1, fr, cs⟩ ih
  rw [Twins_firstLine_49, fr 80 16 (by omega), hM.2.1]
  by_cases c : j < cnt
  rotate_left
  · rw [if_neg c]
    have ej : j = cnt := by omega
    have r1 : ∀ t, Rm j t ↔ ∃ j : Nat, j < cnt ∧ po j = t ∧ (16 ≤ t ∧ m7 104 t.toNat = 2 ∧ dd t ≤ i ∧ i < dd t + jo t) ∧ jT X t (i - dd t) ≠ x := by
      intro t
      rw [iR]
      constructor
      · rintro ⟨j', -, a, b, d, e⟩; exact ⟨j', a, b, d, e⟩
      · rintro ⟨j', a, b, d, e⟩; exact ⟨j', by omega, a, b, d, e⟩
    have w1 : ∀ t, Wk j t ↔ ∃ j : Nat, j < cnt ∧ (16 ≤ po j ∧ m7 104 (po j).toNat = 2 ∧ dd (po j) ≤ i ∧ i < dd (po j) + jo (po j)) ∧ jT X (po j) (i - dd (po j)) = x ∧ ∃ c, ju X (po j) c t ∧ dd (po j) + c = i + 1 ∧ m7 104 t.toNat ≠ 0 ∧ m7 103 t.toNat = i + 1 := by
      intro t
      rw [iW]
      constructor
      · rintro ⟨j', -, a, d, e⟩; exact ⟨j', a, d, e⟩
      · rintro ⟨j', a, d, e⟩; exact ⟨j', by omega, a, d, e⟩
    refine K mm fr (fun t a b => ?_)
    rcases cs t a b with ⟨g, e⟩ | ⟨g, e⟩ | ⟨g1, g2, e⟩
    · exact Or.inl ⟨(r1 t).mp g, e⟩
    · exact Or.inr (Or.inl ⟨(w1 t).mp g, e⟩)
    · exact Or.inr (Or.inr ⟨fun g => g1 ((r1 t).mpr g), fun g => g2 ((w1 t).mpr g), e⟩)
  generalize hk : j.toNat = k
  have ek : j = (k : Int) := by omega
  have kc : k < cnt := by omega
  have hMm : jM X cnt po dd mm := jM_fr (fun q i a _ => fr q i a) hM
  obtain ⟨h102, h103⟩ := hMm.2.2 k kc
  obtain ⟨p1, p2, -⟩ := hF.1 k kc
  have pk := pb k kc
  have e7 := (hM.2.2 k kc).2
  -- what was done does not touch this one
  have nR : ¬ Rm j (po k) := fun g => by
    obtain ⟨j', lt, j2, e, -⟩ := (iR _ _).mp g
    exact hF.2.1 j' k (by omega) kc e
  have nW : dd (po k) ≤ i → ¬ Wk j (po k) := fun le g => by
    obtain ⟨j', -, -, -, -, c, -, -, -, g⟩ := (iW _ _).mp g
    omega
  have tleq : jTl dd mm i (po k) ↔ jTl dd m7 i (po k) := by
    unfold jTl
    constructor
    · rintro ⟨a, b, d, e⟩
      rcases cs _ pk.1 pk.2 with ⟨g, -⟩ | ⟨g, -⟩ | ⟨-, -, g⟩
      · exact absurd g nR
      · exact absurd g (nW d)
      · exact ⟨a, by rw [← g]; exact b, d, e⟩
    · rintro ⟨a, b, d, e⟩
      rcases cs _ pk.1 pk.2 with ⟨g, -⟩ | ⟨g, -⟩ | ⟨-, -, g⟩
      · exact absurd g nR
      · exact absurd g (nW d)
      · exact ⟨a, by rw [g]; exact b, d, e⟩
  have R1 : ∀ t, Rm (j + 1) t ↔ Rm j t ∨ (t = po k ∧ jTl dd m7 i (po k) ∧ jT X (po k) (i - dd (po k)) ≠ x) := by
    intro t
    rw [iR, iR]
    constructor
    · rintro ⟨j', lt, a, b, d, e⟩
      by_cases ee : j' = k
      · rw [ee] at b; rw [← b] at d e; exact Or.inr ⟨b.symm, d, e⟩
      · exact Or.inl ⟨j', by omega, a, b, d, e⟩
    · rintro (⟨j', lt, r⟩ | ⟨rfl, d, e⟩)
      · exact ⟨j', by omega, r⟩
      · exact ⟨k, by omega, kc, rfl, d, e⟩
  have W1 : ∀ t, Wk (j + 1) t ↔ Wk j t ∨ (jTl dd m7 i (po k) ∧ jT X (po k) (i - dd (po k)) = x ∧ ∃ c, ju X (po k) c t ∧ dd (po k) + c = i + 1 ∧ m7 104 t.toNat ≠ 0 ∧ m7 103 t.toNat = i + 1) := by
    intro t
    rw [iW, iW]
    constructor
    · rintro ⟨j', lt, a, d, e⟩
      by_cases ee : j' = k
      · rw [ee] at d e; exact Or.inr ⟨d, e⟩
      · exact Or.inl ⟨j', by omega, a, d, e⟩
    · rintro (⟨j', lt, r⟩ | ⟨d, e⟩)
      · exact ⟨j', by omega, r⟩
      · exact ⟨k, by omega, kc, d, e⟩
  rw [if_pos c, if_pos (by omega), h102]
  refine mOk_bind (toldAt_ok hv hMm.1 p1 h103 ⟨p2, dN k kc⟩ (i := i) (by omega)) (fun r kr => ?_)
  unfold Twins_firstLine_76 Twins_firstLine_88
  rw [w32e (x := j + 1) (by omega) (by omega)]
  rcases kr with ⟨e, no⟩ | ⟨tl, e, r0, r8⟩
  · rw [if_pos e, if_pos e]
    have no7 : ¬ jTl dd m7 i (po k) := fun g => no (tleq.mpr g)
    refine ih _ _ ⟨by omega, fr, fun t a b => ?_⟩ (by omega)
    rcases cs t a b with ⟨g, e⟩ | ⟨g, e⟩ | ⟨g1, g2, e⟩
    · exact Or.inl ⟨(R1 t).mpr (Or.inl g), e⟩
    · exact Or.inr (Or.inl ⟨(W1 t).mpr (Or.inl g), e⟩)
    · exact Or.inr (Or.inr ⟨fun g => ((R1 t).mp g).elim g1 (fun g => no7 g.2.1), fun g => ((W1 t).mp g).elim g2 (fun g => no7 g.1), e⟩)
  have tl7 := tleq.mp tl
  rw [if_neg (by omega)]
  by_cases ex : r = x
  · -- it tells the line's sound
    rw [if_pos ex, if_neg (by omega), if_pos (by omega), hk, h102, w32e (x := i + 1) (by omega) (by omega)]
    have jtx : jT X (po k) (i - dd (po k)) = x := by rw [← e]; exact ex
    have sv : jV X (po k) := by
      rcases mCv_j p1 with ⟨k1, k2, es, a, b⟩ | g
      · have := jE_lt a b
        have := tl7.1
        omega
      · exact g
    refine mOk_bind (wakeNext_ok (L := i + 1) hv hMm.1 sv h103 ⟨p2, dN k kc⟩) (fun m9 k9 => ?_)
    obtain ⟨f9, c9⟩ := k9
    refine ih _ _ ⟨by omega, fun q k a => by rw [f9 q k a]; exact fr q k a, fun t a b => ?_⟩ (by omega)
    have e103t : mm 103 t.toNat = m7 103 t.toNat := fr _ _ (by omega)
    have notR : Rm (j + 1) t ↔ Rm j t := by
      rw [R1]
      exact ⟨fun g => g.elim id (fun g => absurd jtx g.2.2), Or.inl⟩
    have RW : Rm j t → m7 103 t.toNat ≠ i + 1 := fun g h => by
      obtain ⟨j', -, j2, ep, d, -⟩ := (iR _ _).mp g
      have := (hM.2.2 j' j2).2
      rw [ep] at this
      have := d.2.2.1
      omega
    rcases c9 t a b with ⟨⟨c', u, ec, nz, r3⟩, e9⟩ | ⟨nw, e9⟩
    · rw [e103t] at r3
      refine Or.inr (Or.inl ⟨(W1 t).mpr ?_, e9⟩)
      rcases cs t a b with ⟨g, -⟩ | ⟨g, -⟩ | ⟨-, -, em⟩
      · exact absurd r3 (RW g)
      · exact Or.inl g
      · exact Or.inr ⟨tl7, jtx, c', u, ec, by rw [← em]; exact nz, r3⟩
    · rw [e9]
      rcases cs t a b with ⟨g, em⟩ | ⟨g, em⟩ | ⟨g1, g2, em⟩
      · exact Or.inl ⟨notR.mpr g, em⟩
      · exact Or.inr (Or.inl ⟨(W1 t).mpr (Or.inl g), em⟩)
      · refine Or.inr (Or.inr ⟨fun g => g1 (notR.mp g), fun g => ?_, em⟩)
        rcases (W1 t).mp g with g | ⟨-, -, c', u, ec, nz, r3⟩
        · exact g2 g
        · exact nw ⟨c', u, ec, by rw [em]; exact nz, by rw [e103t]; exact r3⟩
  · rw [if_neg ex, if_pos pk, st1e, w8e (x := 0) (by omega) (by omega)]
    have jtx : jT X (po k) (i - dd (po k)) ≠ x := by rw [← e]; exact ex
    refine ih _ _ ⟨by omega, fun q k a => by rw [aup_of (by omega)]; exact fr q k a, fun t a b => ?_⟩ (by omega)
    have sameW : Wk (j + 1) t ↔ Wk j t := by
      rw [W1]
      exact ⟨fun g => g.elim id (fun g => absurd g.2.1 jtx), Or.inl⟩
    by_cases et : t = po k
    · rw [et, aup_self]
      exact Or.inl ⟨(R1 _).mpr (Or.inr ⟨rfl, tl7, jtx⟩), rfl⟩
    · rw [aup_of (by omega)]
      rcases cs t a b with ⟨g, em⟩ | ⟨g, em⟩ | ⟨g1, g2, em⟩
      · exact Or.inl ⟨(R1 t).mpr (Or.inl g), em⟩
      · exact Or.inr (Or.inl ⟨sameW.mpr g, em⟩)
      · exact Or.inr (Or.inr ⟨fun g => ((R1 t).mp g).elim g1 (fun g => et g.1), fun g => g2 (sameW.mp g), em⟩)
theorem firstLine_ok {X m : aM} {N : Int} {cnt : Nat} {po : Nat → Int} {dd : Int → Int} (hv : mTv X) (hF : jF X N cnt po dd) (c471 : cnt ≤ 471) (hM : jM X cnt po dd m) (N0 : N ≤ 2820) (dN : ∀ j : Nat, j < cnt → dd (po j) ≤ 100000) (gl : 0 < N → ∃ σ, jG X N σ) (hH : jH X N cnt po dd (-1) m) : mOk (Twins_firstLine N m) (fun m' => (∀ q i, q ≠ 104 → q ≠ 108 → m' q i = m q i) ∧ ∃ L : Nat → Int, (∀ k : Nat, (k : Int) < N → LxAt (jG X N) L k) ∧ ∀ k : Nat, (k : Int) < N → m' 108 k = L k) := by
  -- the line, sound by sound
  have main : ∀ ms : aM, (∀ q i, q ≠ 104 → ms q i = m q i) → jIn X N cnt po dd 0 (jTp X N dd (fun _ => 0) 0) (fun t => ms 104 t.toNat) → mOk (Twins_firstLine_28 N FU 0 ms) (fun m' => (∀ q i, q ≠ 104 → q ≠ 108 → m' q i = m q i) ∧ ∃ L : Nat → Int, (∀ k : Nat, (k : Int) < N → LxAt (jG X N) L k) ∧ ∀ k : Nat, (k : Int) < N → m' 108 k = L k) := by
    intro ms fs h0
    refine mL2 (Twins_firstLine_28 N) (fun i mm => (0 ≤ i ∧ (i = 0 ∨ i ≤ N)) ∧ (∀ q k, q ≠ 104 → q ≠ 108 → mm q k = m q k) ∧ ∃ L : Nat → Int, (∀ k : Nat, (k : Int) < i → LxAt (jG X N) L k) ∧ (∀ k : Nat, (k : Int) < i → mm 108 k = L k) ∧ jIn X N cnt po dd i (jTp X N dd L i) (fun t => mm 104 t.toNat)) (fun i _ => (3000 - i).toNat) ?_ 0 ms ⟨by omega, fun q k a b => fs q k a, fun _ => 0, fun k a => by omega, fun k a => by omega, h0⟩ (by omega)
    rintro fu i mm ⟨i1, fr, L, lx, l108, inv⟩ ih
    rw [Twins_firstLine_28]
    by_cases c : i < N
    rotate_left
    · rw [if_neg c]
      exact mOk_some ⟨fr, L, fun k a => lx k (by omega), fun k a => l108 k (by omega)⟩
    rw [if_pos c, if_pos (by omega)]
    have hMm : jM X cnt po dd mm := jM_fr fr hM
    refine mOk_bind (wakeFromEven_ok hv hMm.1) (fun m4 k4 => ?_)
    obtain ⟨f4, c4⟩ := k4
    have hM4 : jM X cnt po dd m4 := jM_fr (fun q k a b => f4 q k a) hMm
    have in4 : jIn X N cnt po dd i (jTa X N dd L i) (fun t => m4 104 t.toNat) := jIn_wake (R := fun t => mm 103 t.toNat) hv hF (fun j hj => (hMm.2.2 j hj).2) c inv c4
    refine mOk_bind (leastSoundAt_ok (i := i) hv (fun j hj => ⟨(hF.1 j hj).1, (hF.1 j hj).2.1, dN j hj⟩) c471 hM4 (by omega)) (fun x kx => ?_)
    obtain ⟨x1, x2, x3⟩ := kx
    rw [if_pos (by omega), st1e, w8e (x := x) (by omega) (by omega), w8e (x := x) (by omega) (by omega)]
    -- one that tells
    have toTl : ∀ j : Nat, j < cnt → jTa X N dd L i (po j) → 16 ≤ po j → i < dd (po j) + jo (po j) → jTl dd m4 i (po j) := fun j hj ta a b => ⟨a, (in4.2.2 j hj).mpr ta, ta.2.1, b⟩
    have lead : ∃ σ, jG X N σ ∧ ∀ j : Nat, (j : Int) < i → σ j = L j := by
      by_cases z : i = 0
      · obtain ⟨σ, g⟩ := gl (by omega)
        exact ⟨σ, g, fun j hj => by omega⟩
      · obtain ⟨⟨σ, g, pre, e⟩, -⟩ := lx (i - 1).toNat (by omega)
        refine ⟨σ, g, fun j hj => ?_⟩
        by_cases ej : j = (i - 1).toNat
        · rw [ej]; exact e
        · exact pre j (by omega)
    have some1 : ∃ j : Nat, j < cnt ∧ jTa X N dd L i (po j) ∧ 16 ≤ po j ∧ i < dd (po j) + jo (po j) ∧ jT X (po j) (i - dd (po j)) = x := by
      rcases x3 with e8 | ⟨j, j1, tl, e⟩
      · obtain ⟨σ, g, pre⟩ := lead
        obtain ⟨j, j1, ta, s16, co, -⟩ := jcov_T (L := L) hv hF i1.1 c g pre
        have := x2 j j1 (toTl j j1 ta s16 co)
        exact ⟨j, j1, ta, s16, co, by omega⟩
      · exact ⟨j, j1, (in4.2.2 j j1).mp tl.2.1, tl.1, tl.2.2.2, e⟩
    have f7 : ∀ q k, ¬(q = 108 ∧ k = i.toNat) → aup m4 108 i.toNat x q k = m4 q k := fun q k a => aup_of (by omega)
    have v7 : aup m4 108 i.toNat x 108 i.toNat = x := aup_self _ _ _ _
    generalize aup m4 108 i.toNat x = m7 at f7 v7 ⊢
    have hM7 : jM X cnt po dd m7 := jM_fr (fun q k a b => f7 q k (by omega)) hM4
    have r104 : m7 104 = m4 104 := funext fun k => f7 _ _ (by omega)
    have in7 : jIn X N cnt po dd i (jTa X N dd L i) (fun t => m7 104 t.toNat) := by rw [r104]; exact in4
    generalize hL' : (fun j : Nat => if j = i.toNat then x else L j) = L'
    have e1 : ∀ j : Nat, (j : Int) < i → L' j = L j := fun j hj => by rw [← hL']; exact if_neg (by omega)
    have e2 : L' i.toNat = x := by rw [← hL']; exact if_pos rfl
    refine fl49 hv hF c471 hM7 (by omega) dN (fun m' f' c' => ?_)
    rw [w32e (by omega) (by omega)]
    have in' : jIn X N cnt po dd (i + 1) (jTp X N dd L' (i + 1)) (fun t => m' 104 t.toNat) := jIn_step (R := fun t => m7 103 t.toNat) hv hF (fun j hj => (hM7.2.2 j hj).2) i1.1 in7 e1 e2 c'
    refine ih _ _ ⟨by omega, fun q k a b => by rw [f' q k a, f7 q k (by omega), f4 q k a]; exact fr q k a b, L', fun k hk => ?_, fun k hk => ?_, in'⟩ (by omega)
    · by_cases ek : k = i.toNat
      · rw [ek]
        exact jLx hv hF i1.1 c e1 e2 some1 (fun j hj ta a b => (x2 j hj (toTl j hj ta a b)).1)
      · exact LxAt_cg (fun j hj => e1 j (by omega)) (lx k (by omega))
    · rw [f' 108 k (by omega)]
      by_cases ek : k = i.toNat
      · rw [ek, v7, e2]
      · rw [f7 108 k (by omega), f4 108 k (by omega), l108 k (by omega)]
        exact (e1 k (by omega)).symm
  unfold Twins_firstLine
  refine mL2 (Twins_firstLine_2 N) (fun w mm => (0 ≤ w ∧ w ≤ 13) ∧ jTk m mm (fun t => ∃ v, xa X v ∧ v < w ∧ t = jO v (xl X v) 4 ∧ m 104 t.toNat ≠ 0 ∧ m 103 t.toNat = 0)) (fun w _ => (14 - w).toNat) ?_ 0 m ⟨by omega, jTk_none (fun t g => by
    obtain ⟨v, av, lt, -⟩ := g
    have := av.1
    omega)⟩ (by omega)
  rintro fu w mm ⟨w1, tk⟩ ih
  rw [Twins_firstLine_2]
  have hqm : mTq X 0 mm := mTq_104 tk.1 hM.1
  by_cases c : w < 13
  rotate_left
  · rw [if_neg c]
    refine main mm tk.1 ?_
    refine jIn_start (K := fun t => m 104 t.toNat) (R := fun t => m 103 t.toNat) hv hF (fun j hj => (hM.2.2 j hj).2) (fun j hj => hH.1 j (by omega) hj) (fun t a b g => ?_) (fun t a b => ?_)
    · obtain ⟨g1, j, -, j1, j2⟩ := hH.2 t a b g
      exact ⟨g1, j, j1, j2⟩
    · rcases tk.2 t a b with ⟨⟨v, av, -, r⟩, e⟩ | ⟨no, e⟩
      · exact Or.inl ⟨⟨v, av, r⟩, e⟩
      · exact Or.inr ⟨fun g => by
          obtain ⟨v, av, r⟩ := g
          exact no ⟨v, av, by have := av.2.1; omega, r⟩, e⟩
  rw [if_pos c, hqm.1]
  have bn := bt_ne (a := X 80 1) (k := w) hv.1.1 (by have := hv.1.2; omega) w1.1 (by omega)
  unfold Twins_firstLine_24
  rw [w32e (x := w + 1) (by omega) (by omega)]
  by_cases y : iand (ishr (X 80 1) w) 1 = 0
  · rw [if_pos y]
    refine ih _ _ ⟨by omega, jTk_iff (fun t => ⟨?_, ?_⟩) tk⟩ (by omega)
    · rintro ⟨v, av, lt, r⟩; exact ⟨v, av, by omega, r⟩
    · rintro ⟨v, av, lt, r⟩
      refine ⟨v, av, ?_, r⟩
      by_cases ev : v = w
      · rw [ev] at av; exact absurd y (bn.mpr av.2.2)
      · omega
  · rw [if_neg y, if_pos ⟨w1.1, c⟩]
    have aw : xa X w := ⟨w1.1, c, bn.mp y⟩
    have lw := (hv.2.1 w aw).1
    have l95 : mm 95 w.toNat = xl X w := hqm.2.2.1 _ _ (by omega) (by omega)
    have os := oddState_eq (m := mm) (e := 0) (f := 0) mM0 hqm.2.2.2.2.1 ⟨w1.1, c⟩ (out := xl X w) (kb := 4) (by omega) (by omega) (by omega) (by omega)
    rw [show (0 : Int) * (0 + 1) + 0 = 0 from rfl, jO_eq] at os
    have tb := jO_ge (k := 4) hv aw (by omega)
    rw [l95, os, Option.bind_some]
    refine mOk_bind (take_S (t := jO w (xl X w) 4) (L := 0) tk (fun u hu => ?_) (by omega)) (fun m3 k3 => ?_)
    · obtain ⟨v, -, -, -, g, -⟩ := hu
      exact g
    refine ih _ _ ⟨by omega, jTk_iff (fun t => ⟨?_, ?_⟩) k3⟩ (by omega)
    · rintro (⟨v, av, lt, r⟩ | ⟨et, r⟩)
      · exact ⟨v, av, by omega, r⟩
      · exact ⟨w, aw, by omega, et, by rw [et]; exact r⟩
    · rintro ⟨v, av, lt, et, r⟩
      by_cases ev : v = w
      · right; rw [ev] at et; rw [et] at r; exact ⟨et, r⟩
      · exact Or.inl ⟨v, av, by omega, et, r⟩
