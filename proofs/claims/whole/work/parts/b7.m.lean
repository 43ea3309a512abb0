/-! WITHOUT MISTAKES: the class's steps, and lines -/
theorem mM0 : mM3 0 := Or.inl rfl
def jO (w out kb : Int) : Int := 11 + 35 * w + 5 * out + kb
def jE (k1 k2 : Int) : Int := 4 * k1 + k2
theorem jO_eq (w out kb : Int) : mOd 0 w out kb 0 0 = jO w out kb := by unfold mOd jO; omega
theorem jE_eq (k1 k2 : Int) : mEv 0 k1 k2 0 0 = jE k1 k2 := by unfold mEv jE; omega
noncomputable def jJ (X : aM) (w out v : Int) : Int := if xl X v < out then jO w (out - xl X v) (xk X v) else if out < xl X v then jO v (xl X v - out) (xk X w) else if xk X v < xk X w then jE (xk X v) (xk X w) else jE (xk X w) (xk X v)
theorem jJ_eq (X : aM) (w out v : Int) : mJn X 0 w out v 0 0 = jJ X w out v := by
  unfold mJn jJ
  rw [jO_eq, jO_eq, jE_eq, jE_eq]
/-- so many sounds are shared -/
def jC (X : aM) (out v : Int) : Int := if xl X v < out then xl X v else out
theorem jC_bd {X : aM} {out v : Int} (o1 : 1 ≤ out) (l1 : 1 ≤ xl X v) : 1 ≤ jC X out v ∧ jC X out v ≤ out ∧ jC X out v ≤ xl X v ∧ (jC X out v = out ∨ jC X out v = xl X v) := by
  unfold jC
  split <;> omega
def ju (X : aM) (s c t : Int) : Prop :=
  (∃ k1 k2 w, s = jE k1 k2 ∧ ((0 ≤ k1 ∧ k1 ≤ 3) ∧ (0 ≤ k2 ∧ k2 ≤ 3)) ∧ xa X w ∧ xf X k1 w ∧ c = 0 ∧ t = jO w (xl X w) k2) ∨
  (∃ w out kb v, s = jO w out kb ∧ (xa X w ∧ (1 ≤ out ∧ out ≤ xl X w) ∧ (0 ≤ kb ∧ kb ≤ 4)) ∧ xn X kb w v ∧ c = jC X out v ∧ (∀ k : Int, 0 ≤ k → k < c → xs X w (xl X w - out + k) = xs X v k) ∧ t = jJ X w out v)
theorem mTl_eq {X : aM} {w off v : Int} : ∀ {t : Nat}, mTl X w off v t 0 0 ↔ ∀ k : Int, 0 ≤ k → k < t → xs X w (off + k) = xs X v k := by
  intro t
  induction t with
  | zero => exact ⟨fun _ k a b => by omega, fun _ => ⟨rfl, rfl⟩⟩
  | succ t ih =>
    constructor
    · rintro ⟨ei, bo, h, k⟩ j j0 j1
      have tb := mTl_bd h
      rcases k with ⟨a, b, c⟩ | ⟨a, b, c, d⟩ | ⟨a, b, c, d, e⟩
      · subst b c
        by_cases e : j = t
        · rw [e]; exact a
        · exact ih.mp h j j0 (by omega)
      · omega
      · omega
    · intro h
      exact ⟨0, 0, ih.mpr (fun k a b => h k a (by omega)), Or.inl ⟨h t (by omega) (by omega), rfl, rfl⟩⟩
theorem mCu_ju {X : aM} {s c t : Int} (hv : mTv X) : mCu X 0 s c t ↔ ju X s c t := by
  constructor
  · rintro (⟨k1, k2, e, f, w, rfl, ⟨a, b, g, d⟩, aw, fw, rfl, rfl⟩ | ⟨w, out, kb, e, f, v, rfl, ⟨aw, b, g, c1, d⟩, nw, c', ei, bo, x, h1, h2, h3, h4, h5, rfl, h7⟩)
    · have e0 : e = 0 := by omega
      have f0 : f = 0 := by omega
      subst e0 f0
      exact Or.inl ⟨k1, k2, w, jE_eq _ _, ⟨a, b⟩, aw, fw, rfl, jO_eq _ _ _⟩
    · have tb := mTl_bd h2
      have e0 : e = 0 := by omega
      have f0 : f = 0 := by omega
      have i0 : ei = 0 := by omega
      have o0 : bo = 0 := by omega
      have x0 : x = 0 := by omega
      subst e0 f0 i0 o0 x0
      refine Or.inr ⟨w, out, kb, v, jO_eq _ _ _, ⟨aw, b, g⟩, nw, by rw [h7, Int.zero_add]; exact h1, fun k a1 a2 => ?_, ?_⟩
      · exact mTl_eq.mp h2 k a1 (by omega)
      · have := jJ_eq X w out v
        rw [show (0 : Int) + 0 + 0 = 0 from rfl, show (0 : Int) - 0 = 0 from rfl]
        exact this
  · rintro (⟨k1, k2, w, rfl, ⟨a, b⟩, aw, fw, rfl, rfl⟩ | ⟨w, out, kb, v, rfl, ⟨aw, b, g⟩, nw, rfl, h, rfl⟩)
    · exact Or.inl ⟨k1, k2, 0, 0, w, (jE_eq _ _).symm, ⟨a, b, by omega, by omega⟩, aw, fw, rfl, (jO_eq _ _ _).symm⟩
    · have cb := jC_bd (X := X) (out := out) (v := v) b.1 (hv.2.1 v nw.1).1.1
      refine Or.inr ⟨w, out, kb, 0, 0, v, (jO_eq _ _ _).symm, ⟨aw, b, g, by omega, by omega⟩, nw, jC X out v, 0, 0, 0, rfl, mTl_eq.mpr (fun k a1 a2 => h k a1 (by omega)), by omega, by omega, by omega, ?_, by omega⟩
      have := (jJ_eq X w out v).symm
      rw [show (0 : Int) + 0 + 0 = 0 from rfl, show (0 : Int) - 0 = 0 from rfl]
      exact this
theorem jO_inj {w out kb w' out' kb' : Int} (b : 1 ≤ out ∧ out ≤ 7) (g : 0 ≤ kb ∧ kb ≤ 4) (b' : 1 ≤ out' ∧ out' ≤ 7) (g' : 0 ≤ kb' ∧ kb' ≤ 4) (h : jO w out kb = jO w' out' kb') : w = w' ∧ out = out' ∧ kb = kb' := by
  unfold jO at h
  omega
theorem jE_inj {k1 k2 k1' k2' : Int} (b : 0 ≤ k2 ∧ k2 ≤ 3) (b' : 0 ≤ k2' ∧ k2' ≤ 3) (h : jE k1 k2 = jE k1' k2') : k1 = k1' ∧ k2 = k2' := by
  unfold jE at h
  omega
def jo (s : Int) : Int := (s - 16) / 5 % 7 + 1
/-- what a state tells -/
def jT (X : aM) (s k : Int) : Int := xs X ((s - 16) / 35) (xl X ((s - 16) / 35) - jo s + k)
theorem jT_O {X : aM} {w out kb : Int} (b : 1 ≤ out ∧ out ≤ 7) (g : 0 ≤ kb ∧ kb ≤ 4) (k : Int) : jT X (jO w out kb) k = xs X w (xl X w - out + k) ∧ jo (jO w out kb) = out := by
  have e1 : (jO w out kb - 16) / 35 = w := by unfold jO; omega
  have e2 : jo (jO w out kb) = out := by unfold jo jO; omega
  unfold jT
  rw [e1, e2]
  exact ⟨rfl, rfl⟩
def jV (X : aM) (s : Int) : Prop := ∃ w out kb, s = jO w out kb ∧ (xa X w ∧ (1 ≤ out ∧ out ≤ xl X w) ∧ (0 ≤ kb ∧ kb ≤ 4))
theorem jV_bd {X : aM} {s : Int} (hv : mTv X) (h : jV X s) : 16 ≤ s ∧ s < 471 := by
  obtain ⟨w, out, kb, rfl, aw, b, g⟩ := h
  have := (hv.2.1 w aw).1
  have := aw.1
  have := aw.2.1
  unfold jO
  omega
theorem mCv_j {X : aM} {s : Int} (h : mCv X 0 s) : (∃ k1 k2, s = jE k1 k2 ∧ (0 ≤ k1 ∧ k1 ≤ 3) ∧ (0 ≤ k2 ∧ k2 ≤ 3)) ∨ jV X s := by
  rcases h with ⟨k1, k2, e, f, rfl, a, b, c, d⟩ | ⟨w, out, kb, e, f, rfl, aw, b, g, c, d⟩
  · have e0 : e = 0 := by omega
    have f0 : f = 0 := by omega
    subst e0 f0
    exact Or.inl ⟨k1, k2, jE_eq _ _, a, b⟩
  · have e0 : e = 0 := by omega
    have f0 : f = 0 := by omega
    subst e0 f0
    exact Or.inr ⟨w, out, kb, jO_eq _ _ _, aw, b, g⟩
theorem mCv_0 {X : aM} {s : Int} (hv : mTv X) (h : mCv X 0 s) : 0 ≤ s ∧ s < 471 := by
  have := mCv_bd hv mM0 h
  omega
theorem xz_lt {X : aM} {s : Int} (h : xz X 0 s) : 0 ≤ s ∧ s < 16 := by
  obtain ⟨k1, k2, e, f, rfl, ⟨a, b, c, d⟩, -⟩ := h
  have := mEv_bd mM0 a b c d
  omega
theorem ju_c {X : aM} {s c t : Int} (hv : mTv X) (h : ju X s c t) : (0 ≤ c ∧ c ≤ 7) ∧ (s < 16 → c = 0 ∧ jV X t) ∧ (16 ≤ s → 1 ≤ c ∧ jV X s ∧ c ≤ jo s) := by
  rcases h with ⟨k1, k2, w, rfl, ⟨a, b⟩, aw, fw, rfl, rfl⟩ | ⟨w, out, kb, v, rfl, ⟨aw, b, g⟩, nw, rfl, h, rfl⟩
  · have l := (hv.2.1 w aw).1
    exact ⟨by omega, fun _ => ⟨rfl, w, _, _, rfl, aw, by omega, by omega⟩, fun x => by unfold jE at x; omega⟩
  · have l := (hv.2.1 w aw).1
    have cb := jC_bd (X := X) (out := out) (v := v) b.1 (hv.2.1 v nw.1).1.1
    have vv : jV X (jO w out kb) := ⟨w, out, kb, rfl, aw, b, g⟩
    have bd := jV_bd hv vv
    exact ⟨by omega, fun x => by omega, fun _ => ⟨by omega, vv, by rw [(jT_O (X := X) (w := w) (by omega) g 0).2]; omega⟩⟩
theorem ju_v {X : aM} {s c t : Int} (hv : mTv X) (h : ju X s c t) : mCv X 0 t := (mCu_v hv ((mCu_ju hv).mpr h)).1
/-- a line, up to a state -/
def jQ (X : aM) (σ : Nat → Int) : Nat → Int → Int → Prop
  | 0, s, L => L = 0 ∧ ∃ w, xa X w ∧ s = jO w (xl X w) 4
  | n + 1, s, L => ∃ t L' c, jQ X σ n t L' ∧ ju X t c s ∧ L = L' + c ∧ ∀ k : Int, 0 ≤ k → k < c → jT X t k = σ (L' + k).toNat
/-- a way to an end -/
def jP (X : aM) : Nat → Int → Int → Prop
  | 0, s, d => xz X 0 s ∧ d = 0
  | n + 1, s, d => ∃ t c, ju X s c t ∧ jP X n t (d - c)
/-- a line, from a state on -/
def jR (X : aM) (σ : Nat → Int) (N : Int) : Nat → Int → Int → Prop
  | 0, s, L => xz X 0 s ∧ L = N
  | n + 1, s, L => ∃ t c, ju X s c t ∧ (∀ k : Int, 0 ≤ k → k < c → jT X s k = σ (L + k).toNat) ∧ jR X σ N n t (L + c)
def jG (X : aM) (N : Int) (σ : Nat → Int) : Prop := ∃ n s, jQ X σ n s N ∧ xz X 0 s
theorem jQ_q {X : aM} {σ : Nat → Int} (hv : mTv X) : ∀ {n : Nat} {s L : Int}, jQ X σ n s L → mCq X 0 n s L
  | 0, s, L, ⟨h, w, aw, e⟩ => ⟨h, w, aw, by rw [e, mSt3_odd]; exact (jO_eq _ _ _).symm⟩
  | n + 1, s, L, ⟨t, L', c, h1, h2, h3, _⟩ => ⟨t, L', c, jQ_q hv h1, (mCu_ju hv).mpr h2, h3⟩
theorem jQ_0 {X : aM} {σ : Nat → Int} (hv : mTv X) {n : Nat} {s L : Int} (h : jQ X σ n s L) : 0 ≤ L := (mCq_v hv mM0 (jQ_q hv h)).2
theorem jQ_cg {X : aM} {σ τ : Nat → Int} (hv : mTv X) : ∀ {n : Nat} {s L : Int}, (∀ j : Nat, (j : Int) < L → τ j = σ j) → jQ X σ n s L → jQ X τ n s L
  | 0, _, _, _, h => h
  | n + 1, s, L, e, ⟨t, L', c, h1, h2, h3, h4⟩ => by
    have l0 := jQ_0 hv h1
    have cb := (ju_c hv h2).1
    exact ⟨t, L', c, jQ_cg hv (fun j hj => e j (by omega)) h1, h2, h3, fun k a b => by rw [h4 k a b]; exact (e _ (by omega)).symm⟩
theorem jP_nn {X : aM} (hv : mTv X) : ∀ {n : Nat} {s d : Int}, jP X n s d → 0 ≤ d
  | 0, _, _, h => by have := h.2; omega
  | n + 1, _, _, ⟨t, c, h1, h2⟩ => by
    have := jP_nn hv h2
    have := (ju_c hv h1).1
    omega
theorem jP_pos {X : aM} (hv : mTv X) {n : Nat} {s d : Int} (h : jP X n s d) (nz : ¬ xz X 0 s) : 1 ≤ d := by
  have odd : ∀ {n : Nat} {s d : Int}, 16 ≤ s → jP X n s d → 1 ≤ d := by
    intro n s d s16 h
    cases n with
    | zero => have := xz_lt h.1; omega
    | succ n =>
      obtain ⟨t, c, h1, h2⟩ := h
      have := jP_nn hv h2
      have := (ju_c hv h1).2.2 s16
      omega
  cases n with
  | zero => exact absurd h.1 nz
  | succ n =>
    by_cases c16 : 16 ≤ s
    · exact odd c16 h
    · obtain ⟨t, c, h1, h2⟩ := h
      obtain ⟨c0, tv⟩ := (ju_c hv h1).2.1 (by omega)
      have := odd (jV_bd hv tv).1 h2
      omega
theorem mCq_P {X : aM} (hv : mTv X) : ∀ {k n : Nat} {t L d : Int}, mCq X 0 n t L → jP X k t d → ∃ n' s', mCq X 0 n' s' (L + d) ∧ xz X 0 s'
  | 0, n, t, L, d, h, ⟨z, e⟩ => ⟨n, t, by rw [e, Int.add_zero]; exact h, z⟩
  | k + 1, n, t, L, d, h, ⟨t', c, h1, h2⟩ => by
    have := mCq_P hv (k := k) (n := n + 1) (t := t') (L := L + c) ⟨t, L, c, h, (mCu_ju hv).mpr h1, rfl⟩ h2
    rw [show L + c + (d - c) = L + d by omega] at this
    exact this
theorem jR_P {X : aM} {σ : Nat → Int} {N : Int} : ∀ {n : Nat} {s L : Int}, jR X σ N n s L → jP X n s (N - L)
  | 0, _, _, h => ⟨h.1, by have := h.2; omega⟩
  | n + 1, s, L, ⟨t, c, h1, _, h2⟩ => ⟨t, c, h1, by rw [show N - L - c = N - (L + c) by omega]; exact jR_P h2⟩
/-- a state that is passed tells all that stands out -/
theorem jR_told {X : aM} {σ : Nat → Int} {N : Int} (hv : mTv X) : ∀ {n : Nat} {w out kb L : Int}, xa X w → (1 ≤ out ∧ out ≤ xl X w) → (0 ≤ kb ∧ kb ≤ 4) → 0 ≤ L → jR X σ N n (jO w out kb) L → ∀ k : Int, 0 ≤ k → k < out → σ (L + k).toNat = xs X w (xl X w - out + k)
  | 0, w, out, kb, L, aw, b, g, _, h => by
    have := xz_lt h.1
    have := (jV_bd hv ⟨w, out, kb, rfl, aw, b, g⟩).1
    omega
  | n + 1, w, out, kb, L, aw, b, g, L0, ⟨t, c, h1, h2, h3⟩ => by
    intro k k0 k1
    have l := (hv.2.1 w aw).1
    have cb := (ju_c hv h1).1
    by_cases kc : k < c
    · rw [← h2 k k0 kc, (jT_O (X := X) (w := w) (by omega) g k).1]
    · rcases h1 with ⟨k1', k2', w', e, ⟨a1, a2⟩, -⟩ | ⟨w', out', kb', v, e, ⟨aw', b', g'⟩, nw, rfl, -, rfl⟩
      · have := (jV_bd hv ⟨w, out, kb, rfl, aw, b, g⟩).1
        unfold jE at e
        omega
      · have l' := (hv.2.1 w' aw').1
        obtain ⟨rfl, rfl, rfl⟩ := jO_inj (by omega) g (by omega) g' e
        have lv := (hv.2.1 v nw.1)
        have cd := jC_bd (X := X) (out := out) (v := v) b.1 lv.1.1
        have lt : xl X v < out := by omega
        have ec : jC X out v = xl X v := by unfold jC; rw [if_pos lt]
        unfold jJ at h3
        rw [if_pos lt, ec] at h3
        have := jR_told hv aw (by omega) (by omega) (by omega) h3 (k - xl X v) (by omega) (by omega)
        rw [show L + xl X v + (k - xl X v) = L + k by omega, show xl X w - (out - xl X v) + (k - xl X v) = xl X w - out + k by omega] at this
        exact this
theorem jR_of {X : aM} (hv : mTv X) : ∀ {n : Nat} {s d : Int} (σ0 : Nat → Int) (L : Int), 0 ≤ L → jP X n s d → ∃ σ : Nat → Int, (∀ j : Nat, (j : Int) < L → σ j = σ0 j) ∧ jR X σ (L + d) n s L
  | 0, s, d, σ0, L, _, h => ⟨σ0, fun _ _ => rfl, h.1, by have := h.2; omega⟩
  | n + 1, s, d, σ0, L, L0, ⟨t, c, h1, h2⟩ => by
    have cb := (ju_c hv h1).1
    obtain ⟨σ, e, r⟩ := jR_of hv (fun j : Nat => if (j : Int) < L then σ0 j else jT X s ((j : Int) - L)) (L + c) (by omega) h2
    refine ⟨σ, fun j hj => ?_, t, c, h1, fun k k0 k1 => ?_, ?_⟩
    · rw [e j (by omega)]; exact if_pos hj
    · rw [e _ (by omega), if_neg (by omega)]
      congr 1
      omega
    · rw [show L + c + (d - c) = L + d by omega] at r
      exact r
theorem jQR {X : aM} {σ : Nat → Int} {N : Int} : ∀ {k n : Nat} {s L : Int}, jQ X σ n s L → jR X σ N k s L → jG X N σ
  | 0, n, s, L, h, ⟨z, e⟩ => ⟨n, s, by rw [← e]; exact h, z⟩
  | k + 1, n, s, L, h, ⟨t, c, h1, h2, h3⟩ => jQR (n := n + 1) ⟨s, L, c, h, h1, rfl, h2⟩ h3
/-- a state at each place -/
theorem jcov {X : aM} {σ : Nat → Int} {N : Int} (hv : mTv X) : ∀ {n k : Nat} {s L : Int}, jQ X σ n s L → jR X σ N k s L → ∀ i : Int, 0 ≤ i → i < L → ∃ (m k' : Nat) (t L' : Int), jQ X σ m t L' ∧ jR X σ N k' t L' ∧ jV X t ∧ L' ≤ i ∧ i < L' + jo t
  | 0, _, _, _, ⟨h, _⟩, _ => fun i a b => by omega
  | n + 1, k, s, L, ⟨t, L', c, h1, h2, h3, h4⟩, r => fun i a b => by
    have r' : jR X σ N (k + 1) t L' := ⟨s, c, h2, h4, by rw [← h3]; exact r⟩
    by_cases e : i < L'
    · exact jcov hv h1 r' i a e
    · have cc := ju_c hv h2
      have t16 : 16 ≤ t := by
        refine Int.not_lt.mp (fun lt => ?_)
        have := (cc.2.1 lt).1
        omega
      obtain ⟨c1, tv, c2⟩ := cc.2.2 t16
      exact ⟨n, k + 1, t, L', h1, r', tv, by omega, by omega⟩
