/-! THE PRICE OF A CUT -/
/-- whether a word fits, by the way of choosing -/
def mPf (A : Nat → Int) (Mi : Int → Int → Int) (pi p kd w : Int) : Prop := (if pi = 3 then Mi p w ≠ -1 else Mi p w = 0) ∧ mKs A kd w
def mPc (A : Nat → Int) (Mi : Int → Int → Int) (pi p w : Int) : Int := if pi = 2 ∨ pi = 3 then Mi p w * 10000 - A (32 + w).toNat else 0
noncomputable def mPt1 (c : Prop) (r d : Int) : Int := @ite Int (c ∧ r ≠ 268435456) (Classical.propDecidable _) (r + d) 268435456
def mMn (f : Int → Int) : Nat → Int
  | 0 => 268435456
  | n + 1 => mMin (mMn f n) (f (n : Int))
noncomputable def mPx (A : Nat → Int) (L : Int) (Mi : Int → Int → Int) (pi : Int) : Nat → Int → Int → Int
  | 0, _, kd => @ite Int (mKe A kd) (Classical.propDecidable _) 0 268435456
  | d + 1, p, kd => if p = L then @ite Int (mKe A kd) (Classical.propDecidable _) 0 268435456 else mMn (fun w => mPt1 (mPf A Mi pi p kd w) (mPx A L Mi pi d (p + A (19 + w).toNat) (A (45 + w).toNat)) (mPc A Mi pi p w)) (A 18).toNat
noncomputable def mPv (A : Nat → Int) (L : Int) (Mi : Int → Int → Int) (pi p kd : Int) : Int := mPx A L Mi pi (L - p).toNat p kd
/-- the least price from p on, if w stands there -/
noncomputable def mTh (A : Nat → Int) (L : Int) (Mi : Int → Int → Int) (pi p kd w : Int) : Int := mPt1 (mPf A Mi pi p kd w) (mPv A L Mi pi (p + A (19 + w).toNat) (A (45 + w).toNat)) (mPc A Mi pi p w)
theorem mPt1_cg {c : Prop} {r r' d : Int} (h : c → r = r') : mPt1 c r d = mPt1 c r' d := by
  unfold mPt1
  by_cases z : c
  · rw [h z]
  · rw [if_neg (fun hh => z hh.1), if_neg (fun hh => z hh.1)]
theorem mMn_cg {f g : Int → Int} : ∀ {n : Nat}, (∀ i : Int, 0 ≤ i → i < n → f i = g i) → mMn f n = mMn g n := by
  intro n
  induction n with
  | zero => intro _; rfl
  | succ n ih =>
    intro h
    rw [mMn, mMn, ih (fun i a b => h i a (by omega)), h n (by omega) (by omega)]
theorem mMn_s {f : Int → Int} {x : Int} (h : 0 ≤ x) : mMn f (x + 1).toNat = mMin (mMn f x.toNat) (f x) := by
  rw [show (x + 1).toNat = x.toNat + 1 by omega, mMn, Int.toNat_of_nonneg h]
theorem mMn_le {f : Int → Int} : ∀ {n : Nat}, mMn f n ≤ 268435456 ∧ (∀ i : Int, 0 ≤ i → i < n → mMn f n ≤ f i) ∧ (mMn f n = 268435456 ∨ ∃ i : Int, 0 ≤ i ∧ i < n ∧ mMn f n = f i) := by
  intro n
  induction n with
  | zero => exact ⟨Int.le_refl _, fun i a b => by omega, Or.inl rfl⟩
  | succ n ih =>
    obtain ⟨h1, h2, h3⟩ := ih
    rw [mMn]
    have e := mMin_le (mMn f n) (f n)
    refine ⟨by omega, fun i a b => ?_, ?_⟩
    · by_cases ei : i = n
      · rw [ei]; omega
      · have := h2 i a (by omega); omega
    · rcases e.2.2 with q | q
      · rcases h3 with h3 | ⟨i, a, b, c⟩
        · left; omega
        · right; exact ⟨i, a, by omega, by omega⟩
      · right; exact ⟨n, by omega, by omega, q⟩
theorem mPx_fuel {A : Nat → Int} {L : Int} {Mi : Int → Int → Int} {pi : Int} (ht : mTok A) (hM : mMok A L Mi) : ∀ (d : Nat) (p kd : Int), 0 ≤ p → p ≤ L → (L - p).toNat ≤ d → mPx A L Mi pi d p kd = mPv A L Mi pi p kd := by
  intro d
  induction d using Nat.strongRecOn with
  | ind d ih =>
    intro p kd p0 p1 hd
    unfold mPv
    by_cases c : p = L
    · rw [show (L - p).toNat = 0 by omega]
      cases d with
      | zero => rfl
      | succ d => rw [mPx, mPx, if_pos c]
    · obtain ⟨e, he⟩ : ∃ e, (L - p).toNat = e + 1 := ⟨(L - p).toNat - 1, by omega⟩
      cases d with
      | zero => omega
      | succ d =>
        rw [he, mPx, mPx, if_neg c, if_neg c]
        refine mMn_cg (fun w w0 w1 => mPt1_cg (fun h => ?_))
        have hm := hM p w p0 (by omega) w0 (by omega)
        have hl := (ht.2.2.2.2.2.1 w w0 (by omega)).1
        have hn : Mi p w ≠ -1 := by
          have := h.1
          by_cases z : pi = 3
          · rw [if_pos z] at this; exact this
          · rw [if_neg z] at this; omega
        have := hm.2 hn
        rw [ih d (by omega) _ _ (by omega) (by omega) (by omega), ih e (by omega) _ _ (by omega) (by omega) (by omega)]
theorem mPv_end (A : Nat → Int) (L : Int) (Mi : Int → Int → Int) (pi kd : Int) : mPv A L Mi pi L kd = @ite Int (mKe A kd) (Classical.propDecidable _) 0 268435456 := by
  unfold mPv
  rw [show (L - L).toNat = 0 by omega, mPx]
theorem mPf_in {A : Nat → Int} {L : Int} {Mi : Int → Int → Int} {pi p kd w : Int} (ht : mTok A) (hM : mMok A L Mi) (p0 : 0 ≤ p) (p1 : p < L) (w0 : 0 ≤ w) (w1 : w < A 18) (h : mPf A Mi pi p kd w) : Mi p w ≠ -1 ∧ p + A (19 + w).toNat ≤ L ∧ 1 ≤ A (19 + w).toNat := by
  have hm := hM p w p0 p1 w0 w1
  have hl := (ht.2.2.2.2.2.1 w w0 w1).1
  have hn : Mi p w ≠ -1 := by
    have := h.1
    by_cases z : pi = 3
    · rw [if_pos z] at this; exact this
    · rw [if_neg z] at this; omega
  exact ⟨hn, hm.2 hn, hl.1⟩
theorem mPv_step {A : Nat → Int} {L : Int} {Mi : Int → Int → Int} {pi : Int} (ht : mTok A) (hM : mMok A L Mi) {p kd : Int} (p0 : 0 ≤ p) (p1 : p < L) : mPv A L Mi pi p kd = mMn (mTh A L Mi pi p kd) (A 18).toNat := by
  obtain ⟨e, he⟩ : ∃ e, (L - p).toNat = e + 1 := ⟨(L - p).toNat - 1, by omega⟩
  rw [show mPv A L Mi pi p kd = mPx A L Mi pi (L - p).toNat p kd from rfl, he, mPx, if_neg (by omega)]
  refine mMn_cg (fun w w0 w1 => mPt1_cg (fun h => ?_))
  have hin := mPf_in ht hM p0 p1 w0 (by omega) h
  exact mPx_fuel ht hM _ _ _ (by omega) (by omega) (by omega)
/-- prices stay small, and no price is FAR but where there is no way -/
theorem mPv_bd {A : Nat → Int} {L : Int} {Mi : Int → Int → Int} {pi : Int} (ht : mTok A) (hM : mMok A L Mi) (L1 : L ≤ 60) : ∀ (d : Nat) (p kd : Int), 0 ≤ p → p ≤ L → (L - p).toNat ≤ d → mPv A L Mi pi p kd = 268435456 ∨ (-99 * (L - p) ≤ mPv A L Mi pi p kd ∧ mPv A L Mi pi p kd ≤ 60000 * (L - p)) := by
  intro d
  induction d with
  | zero =>
    intro p kd p0 p1 hd
    rw [show p = L by omega, mPv_end]
    split
    · right; omega
    · left; rfl
  | succ d ih =>
    intro p kd p0 p1 hd
    by_cases c : p = L
    · rw [c, mPv_end]
      split
      · right; omega
      · left; rfl
    · rw [mPv_step ht hM p0 (by omega)]
      rcases (mMn_le (f := mTh A L Mi pi p kd) (n := (A 18).toNat)).2.2 with h | ⟨w, w0, w1, h⟩
      · exact Or.inl h
      · rw [h]
        unfold mTh mPt1
        by_cases z : mPf A Mi pi p kd w ∧ mPv A L Mi pi (p + A (19 + w).toNat) (A (45 + w).toNat) ≠ 268435456
        · rw [if_pos z]
          right
          have hin := mPf_in ht hM p0 (by omega) w0 (by omega) z.1
          have hm := (hM p w p0 (by omega) w0 (by omega)).1
          have hu := (ht.2.2.2.2.2.1 w w0 (by omega)).2.1
          have := (ih (p + A (19 + w).toNat) (A (45 + w).toNat) (by omega) (by omega) (by omega)).resolve_left z.2
          unfold mPc
          split <;> omega
        · rw [if_neg z]; exact Or.inl rfl
theorem priceThrough_ok {t : Nat} {A : Nat → Int} {L p kd w pi : Int} {Mi : Int → Int → Int} {m : aM} (ht : mTok A) (hr : mTR 25 47 A m) (ht1 : t = 61 ∨ t = 67) (hM : mMok A L Mi) (hC : mCt t A L Mi m) (L1 : L ≤ 60) (hp : m t 5 = pi) (p0 : 0 ≤ p) (p1 : p < L) (k0 : 0 ≤ kd) (k1 : kd ≤ 4) (w0 : 0 ≤ w) (w1 : w < A 18)
    (hT : ∀ q k : Int, p < q → q ≤ L → 0 ≤ k → k ≤ 4 → m (t + 2) (q * 5 + k).toNat = mPv A L Mi pi q k) : mOk (Cutter_priceThrough t p kd w m) (fun r => r = mTh A L Mi pi p kd w) := by
  have c4 := ht.2.2.2.2.1
  have hl := ht.2.2.2.2.2.1 w w0 w1
  have g := hr.2.2.2.1 w w0 w1
  have hm := (hM p w p0 p1 w0 w1).1
  unfold Cutter_priceThrough
  rw [w32e (x := p * 12) (by omega) (by omega), w32e (x := p * 12 + w) (by omega) (by omega), if_pos (by omega), hC.2 p w p0 p1 w0 w1, hp]
  have no : ∀ x : Int, ¬ (if pi = 3 then Mi p w ≠ -1 else Mi p w = 0) → mOk (Cutter_priceThrough_25 m t p kd w x 0) (fun r => r = mTh A L Mi pi p kd w) := by
    intro x hno
    unfold Cutter_priceThrough_25
    rw [if_pos rfl]
    refine mOk_some ?_
    unfold mTh mPt1
    rw [if_neg (fun h => hno h.1.1)]
  have yes : (if pi = 3 then Mi p w ≠ -1 else Mi p w = 0) → mOk (Cutter_priceThrough_25 m t p kd w (Mi p w) 1) (fun r => r = mTh A L Mi pi p kd w) := by
    intro hfit
    have hn : Mi p w ≠ -1 := by
      by_cases z : pi = 3
      · rw [if_pos z] at hfit; exact hfit
      · rw [if_neg z] at hfit; omega
    have hpl := (hM p w p0 p1 w0 w1).2 hn
    unfold Cutter_priceThrough_25
    rw [if_neg (by omega)]
    refine mOk_bind (mayFollow_A ht hr k0 k1 w0 w1) (fun r kr => ?_)
    unfold mTh mPt1
    by_cases z : r = 0
    · rw [if_pos z, if_neg (fun h => (kr.2.mpr h.1.2) z)]
      exact mOk_some rfl
    · rw [if_neg z, if_pos (by omega), show m 41 w.toNat = _ from g.1, show m 43 w.toNat = _ from g.2.2.1]
      have hf : mPf A Mi pi p kd w := ⟨hfit, kr.2.mp z⟩
      simp (disch := omega) only [w32e, if_pos]
      rw [hT (p + A (19 + w).toNat) (A (45 + w).toNat) (by omega) hpl (by omega) (by omega)]
      by_cases zf : mPv A L Mi pi (p + A (19 + w).toNat) (A (45 + w).toNat) = 268435456
      · rw [if_pos zf, if_neg (fun h => h.2 zf)]
        exact mOk_some rfl
      · rw [if_neg zf, hp, if_pos (show mPf A Mi pi p kd w ∧ mPv A L Mi pi (p + A (19 + w).toNat) (A (45 + w).toNat) ≠ 268435456 from ⟨hf, zf⟩)]
        have bd := (mPv_bd (pi := pi) ht hM L1 60 (p + A (19 + w).toNat) (A (45 + w).toNat) (by omega) hpl (by omega)).resolve_left zf
        unfold mPc Cutter_priceThrough_68 Cutter_priceThrough_71
        have use : mOk (if (1 : Int) = 0 then some (mPv A L Mi pi (p + A (19 + w).toNat) (A (45 + w).toNat)) else if 0 ≤ w ∧ w < 12 then some (w32 (w32 (mPv A L Mi pi (p + A (19 + w).toNat) (A (45 + w).toNat) + w32 (Mi p w * 10000)) - m 42 w.toNat)) else none) (fun r => r = mPv A L Mi pi (p + A (19 + w).toNat) (A (45 + w).toNat) + (Mi p w * 10000 - A (32 + w).toNat)) := by
          rw [if_neg (by omega), if_pos (by omega), show m 42 w.toNat = _ from g.2.1]
          simp (disch := omega) only [w32e]
          exact mOk_some (by omega)
        by_cases q2 : pi = 2
        · rw [if_pos q2, if_pos (Or.inl q2)]; exact use
        · rw [if_neg q2]
          by_cases q3 : pi = 3
          · rw [if_pos q3, if_pos (Or.inr q3)]; exact use
          · rw [if_neg q3, if_pos rfl, if_neg (show ¬ (pi = 2 ∨ pi = 3) by omega)]
            exact mOk_some (by omega)
  by_cases q3 : pi = 3
  · rw [if_pos q3]
    by_cases z : Mi p w = -1
    · rw [if_pos z]
      exact no _ (by rw [if_pos q3]; exact fun h => h z)
    · rw [if_neg z]
      exact yes (by rw [if_pos q3]; exact z)
  · rw [if_neg q3]
    by_cases z : Mi p w = 0
    · rw [if_pos z]
      exact yes (by rw [if_neg q3]; exact z)
    · rw [if_neg z]
      exact no _ (by rw [if_neg q3]; exact z)
theorem leastFrom_ok {t : Nat} {A : Nat → Int} {L p kd pi : Int} {Mi : Int → Int → Int} {m : aM} (ht : mTok A) (hr : mTR 25 47 A m) (ht1 : t = 61 ∨ t = 67) (hM : mMok A L Mi) (hC : mCt t A L Mi m) (L1 : L ≤ 60) (hp : m t 5 = pi) (p0 : 0 ≤ p) (p1 : p ≤ L) (k0 : 0 ≤ kd) (k1 : kd ≤ 4)
    (hT : ∀ q k : Int, p < q → q ≤ L → 0 ≤ k → k ≤ 4 → m (t + 2) (q * 5 + k).toNat = mPv A L Mi pi q k) : mOk (Cutter_leastFrom t p kd m) (fun r => r = mPv A L Mi pi p kd) := by
  have c4 := ht.2.2.2.2.1
  unfold Cutter_leastFrom
  rw [hC.1]
  by_cases c : p = L
  · rw [if_pos c]
    refine mOk_bind (mayEnd_A ht hr k0 k1) (fun r kr => ?_)
    rw [c, mPv_end]
    by_cases z : r = 0
    · rw [if_pos z, if_neg (fun h => (kr.2.mpr h) z)]
      exact mOk_some rfl
    · rw [if_neg z, if_pos (kr.2.mp z)]
      exact mOk_some rfl
  rw [if_neg c]
  refine mL2 (Cutter_leastFrom_17 m t p kd) (fun a w => 0 ≤ w ∧ w ≤ A 18 ∧ a = mMn (mTh A L Mi pi p kd) w.toNat) (fun _ w => (13 - w).toNat) ?_ _ 0 ⟨by omega, by omega, rfl⟩ (by omega)
  rintro fu a w ⟨w0, w1, ea⟩ ih
  rw [Cutter_leastFrom_17, hr.1.2.2.1]
  by_cases d : w < A 18
  · rw [if_pos d]
    refine mOk_bind (priceThrough_ok ht hr ht1 hM hC L1 hp p0 (by omega) k0 k1 w0 d hT) (fun r kr => ?_)
    rw [jmin_eq]
    simp only [Option.bind_some]
    rw [w32e (by omega) (by omega)]
    refine ih _ _ ⟨by omega, by omega, ?_⟩ (by omega)
    rw [mMn_s w0, ea, kr]
  · rw [if_neg d]
    exact mOk_some (by rw [ea, mPv_step ht hM p0 (by omega), show w = A 18 by omega])
/-- the class's table of prices -/
theorem prices_ok {t : Nat} {A : Nat → Int} {L pi : Int} {Mi : Int → Int → Int} {m : aM} {Q : aM → Prop} (ht : mTok A) (hr : mTR 25 47 A m) (ht1 : t = 61 ∨ t = 67) (hM : mMok A L Mi) (hC : mCt t A L Mi m) (L0 : 0 ≤ L) (L1 : L ≤ 60)
    (kk : ∀ (f : Nat) (m' : aM), m' t 5 = pi → (∀ q k : Int, 0 ≤ q → q ≤ L → 0 ≤ k → k ≤ 4 → m' (t + 2) (q * 5 + k).toNat = mPv A L Mi pi q k) → (∀ q i, ¬(q = t ∧ i = 5) → q ≠ t + 2 → m' q i = m q i) → mOk ((Cutter_chooseFrom t 0 4 (aup m' t 8 0)).bind fun r4 => (if pi = 1 then ((Cutter_turnToSecond t r4).bind fun r7 => (Cutter_choose_41 t pi r7)) else (Cutter_choose_41 t pi r4))) Q) : mOk (Cutter_choose t pi m) Q := by
  unfold Cutter_choose
  refine mOk_st1 ?_
  rw [aup_of (q' := t) (i' := 1) (by omega), hC.1]
  have keep : ∀ mm : aM, (∀ q i, ¬(q = t ∧ i = 5) → q ≠ t + 2 → mm q i = m q i) → mTR 25 47 A mm ∧ mCt t A L Mi mm := fun mm fr => ⟨mTR_same (fun q i hq => fr q i (by omega) (by omega)) hr ht.2.2.2.2.1.2, (fr _ _ (by omega) (by omega)).trans hC.1, fun i w a b c d => (fr _ _ (by omega) (by omega)).trans (hC.2 i w a b c d)⟩
  refine mL2 (Cutter_choose_6 t pi) (fun p mm => -1 ≤ p ∧ p ≤ L ∧ mm t 5 = pi ∧ (∀ q k : Int, p < q → q ≤ L → 0 ≤ k → k ≤ 4 → mm (t + 2) (q * 5 + k).toNat = mPv A L Mi pi q k) ∧ ∀ q i, ¬(q = t ∧ i = 5) → q ≠ t + 2 → mm q i = m q i) (fun p _ => (p + 1).toNat) ?_ L _ ⟨by omega, by omega, aup_self _ _ _ _, fun q k a b => by omega, fun q i a b => aup_of (by omega)⟩ (by omega)
  rintro fu p mm ⟨p0, p1, h5, hT, fr⟩ ih
  rw [Cutter_choose_6]
  by_cases d : p < 0
  · rw [if_pos d]
    refine mOk_st1 (kk fu mm h5 (fun q k a b c e => hT q k (by omega) b c e) fr)
  · rw [if_neg d]
    refine mL2 (Cutter_choose_10 (Cutter_choose_6 t pi fu) t pi p) (fun kd mm => 0 ≤ kd ∧ kd ≤ 5 ∧ mm t 5 = pi ∧ (∀ q k : Int, (p < q ∨ (p = q ∧ k < kd)) → q ≤ L → 0 ≤ k → k ≤ 4 → mm (t + 2) (q * 5 + k).toNat = mPv A L Mi pi q k) ∧ ∀ q i, ¬(q = t ∧ i = 5) → q ≠ t + 2 → mm q i = m q i) (fun kd _ => (6 - kd).toNat) ?_ 0 mm ⟨by omega, by omega, h5, fun q k a b c e => hT q k (by omega) b c e, fr⟩ (by omega)
    rintro fu2 kd mm2 ⟨k0, k1, g5, hT2, fr2⟩ ih2
    rw [Cutter_choose_10]
    by_cases e : kd < 5
    · obtain ⟨hr2, hC2⟩ := keep mm2 fr2
      rw [if_pos e]
      refine mOk_bind (leastFrom_ok ht hr2 ht1 hM hC2 L1 g5 (by omega) p1 k0 (by omega) (fun q k a b c e => hT2 q k (by omega) b c e)) (fun r kr => ?_)
      simp (disch := omega) only [w32e, if_pos, st1e]
      refine ih2 _ _ ⟨by omega, by omega, by rw [aup_of (by omega)]; exact g5, fun q k a b c dd => ?_, fun q i a b => by rw [aup_of (by omega)]; exact fr2 q i a b⟩ (by omega)
      by_cases eq : q = p ∧ k = kd
      · rw [eq.1, eq.2, aup_self]; exact kr
      · rw [aup_of (by omega)]; exact hT2 q k (by omega) b c dd
    · rw [if_neg e, w32e (by omega) (by omega)]
      exact ih _ _ ⟨by omega, by omega, g5, fun q k a b c e => hT2 q k (by omega) b c e, fr2⟩ (by omega)
