/-! richest -/
def mRr (k P V : Int) : Prop := (P = 268435456 ∧ V = -1) ∨ (P ≠ 268435456 ∧ P = -V ∧ 0 ≤ V ∧ V ≤ 99 * k)
def mRt (A : Nat → Int) (L : Int) (m : aM) (k0 : Int) : Prop := ∀ k a : Int, 0 ≤ k → k < k0 → 0 ≤ a → (a < A 18 ∨ a = 13) → mRr k (mPv A L (mAny A L) 2 (L - k) (mKo A a)) (m 204 (k * 14 + a).toNat)
theorem richBy_ok {A : Nat → Int} {L a w k : Int} {m : aM} (ht : mTok A) (e177 : m 177 = A) (L1 : L ≤ 60) (hT : mRt A L m k) (a0 : 0 ≤ a) (ha : a < A 18 ∨ a = 13) (k0 : 1 ≤ k) (k1 : k ≤ L) (w0 : 0 ≤ w) (w1 : w < A 18) : mOk (R_richBy a w k m) (fun r => mRr k (mTh A L (mAny A L) 2 (L - k) (mKo A a) w) r) := by
  have c4 := ht.2.2.2.2.1
  have hl := ht.2.2.2.2.2.1 w w0 w1
  unfold R_richBy
  rw [e177, w32e (x := 19 + w) (by omega) (by omega), if_pos (by omega)]
  have no : ¬ mPf A (mAny A L) 2 (L - k) (mKo A a) w → mRr k (mTh A L (mAny A L) 2 (L - k) (mKo A a) w) (-1) := by
    intro h
    unfold mTh mPt1
    rw [if_neg (fun hh => h hh.1)]
    exact Or.inl ⟨rfl, rfl⟩
  by_cases z : k < A (19 + w).toNat
  · rw [if_pos z]
    refine mOk_some (no (fun h => ?_))
    have h1 := h.1
    rw [if_neg (by omega)] at h1
    unfold mAny at h1
    rw [if_pos (by omega)] at h1
    omega
  rw [if_neg z]
  refine mOk_bind (mayBe_ok (m := m) (by rw [e177]; exact ht) a0 (by rw [e177]; exact ha) w0 (by rw [e177]; exact w1)) (fun r kr => ?_)
  rw [e177] at kr
  by_cases z1 : r = 0
  · rw [if_pos z1]
    exact mOk_some (no (fun h => (kr.2.mpr h.2) z1))
  rw [if_neg z1]
  have hpf : mPf A (mAny A L) 2 (L - k) (mKo A a) w := by
    refine ⟨?_, kr.2.mp z1⟩
    rw [if_neg (by omega)]
    unfold mAny
    rw [if_neg (by omega)]
  simp (disch := omega) only [w32e, if_pos]
  have hent := hT (k - A (19 + w).toNat) w (by omega) (by omega) w0 (Or.inl w1)
  rw [mKo_w (by omega), show L - (k - A (19 + w).toNat) = L - k + A (19 + w).toNat by omega] at hent
  rcases hent with ⟨r1, r2⟩ | ⟨r1, r2, r3, r4⟩
  · rw [if_pos (by omega)]
    refine mOk_some ?_
    unfold mTh mPt1
    rw [if_neg (fun hh => hh.2 r1)]
    exact Or.inl ⟨rfl, rfl⟩
  · rw [if_neg (by omega), w32e (by omega) (by omega)]
    refine mOk_some ?_
    have e0 : mAny A L (L - k) w = 0 := by unfold mAny; rw [if_neg (by omega)]
    unfold mTh mPt1 mPc
    rw [if_pos ⟨hpf, r1⟩, if_pos (Or.inl rfl), e0]
    right; omega
theorem laysRichest_ok {A : Nat → Int} {L : Int} {m : aM} (ht : mTok A) (e177 : m 177 = A) (L0 : 1 ≤ L) (L1 : L ≤ 60) : mOk (R_laysRichest L m) (fun m' => mRt A L m' (L + 1) ∧ ∀ q i, q ≠ 204 → m' q i = m q i) := by
  have c4 := ht.2.2.2.2.1
  unfold R_laysRichest
  refine mL2 (R_laysRichest_2 L) (fun k mm => 0 ≤ k ∧ k ≤ L + 1 ∧ mRt A L mm k ∧ ∀ q i, q ≠ 204 → mm q i = m q i) (fun k _ => (62 - k).toNat) ?_ 0 m ⟨by omega, by omega, fun k a x y => by omega, fun _ _ _ => rfl⟩ (by omega)
  rintro fu k mm ⟨k0, k1, hT, fr⟩ ih
  rw [R_laysRichest_2]
  by_cases d : L < k
  · rw [if_pos d]
    rw [show k = L + 1 by omega] at hT
    exact mOk_some ⟨hT, fr⟩
  rw [if_neg d]
  refine mL2 (R_laysRichest_7 (R_laysRichest_2 L fu) L k) (fun a' mm => 0 ≤ a' ∧ a' ≤ 14 ∧ mRt A L mm k ∧ (∀ a : Int, 0 ≤ a → a < a' → (a < A 18 ∨ a = 13) → mRr k (mPv A L (mAny A L) 2 (L - k) (mKo A a)) (mm 204 (k * 14 + a).toNat)) ∧ ∀ q i, q ≠ 204 → mm q i = m q i) (fun a' _ => (15 - a').toNat) ?_ 0 mm ⟨by omega, by omega, hT, fun a x y => by omega, fr⟩ (by omega)
  rintro fu2 a mm2 ⟨a0, a1, hT2, hU2, fr2⟩ ih2
  have f177 : mm2 177 = A := (funext fun i => fr2 _ _ (by omega)).trans e177
  rw [R_laysRichest_7, f177]
  by_cases e : a < 14
  rotate_left
  · rw [if_neg e, w32e (by omega) (by omega)]
    refine ih _ _ ⟨by omega, by omega, fun k' a' x y z u => ?_, fr2⟩ (by omega)
    by_cases ek : k' = k
    · rw [ek]; exact hU2 a' z (by omega) u
    · exact hT2 k' a' x (by omega) z u
  rw [if_pos e]
  have one : (a < A 18 ∨ a = 13) → mOk (R_laysRichest_20 (R_laysRichest_2 L fu) (R_laysRichest_7 (R_laysRichest_2 L fu) L k fu2) L k a mm2) (fun m' => mRt A L m' (L + 1) ∧ ∀ q i, q ≠ 204 → m' q i = m q i) := by
    intro ha
    have store : ∀ x : Int, mRr k (mPv A L (mAny A L) 2 (L - k) (mKo A a)) x → mOk (R_laysRichest_58 (R_laysRichest_2 L fu) (R_laysRichest_7 (R_laysRichest_2 L fu) L k fu2) L k a x mm2) (fun m' => mRt A L m' (L + 1) ∧ ∀ q i, q ≠ 204 → m' q i = m q i) := by
      intro x hx
      unfold R_laysRichest_58 R_laysRichest_67
      simp (disch := omega) only [w32e, if_pos, st1e]
      refine ih2 _ _ ⟨by omega, by omega, fun k' a' y z u v => ?_, fun a' y z u => ?_, fun q i hq => by rw [aup_of (by omega)]; exact fr2 q i hq⟩ (by omega)
      · rw [aup_of (by omega)]; exact hT2 k' a' y z u v
      · by_cases eq : a' = a
        · rw [eq, aup_self]; exact hx
        · rw [aup_of (by omega)]; exact hU2 a' y (by omega) u
    have loop : ∀ x0 : Int, (k = 0 → mRr 0 (mPv A L (mAny A L) 2 L (mKo A a)) x0) → (k ≠ 0 → x0 = -1) → mOk (R_laysRichest_32 (R_laysRichest_2 L fu) (R_laysRichest_7 (R_laysRichest_2 L fu) L k fu2) L k a x0 mm2) (fun m' => mRt A L m' (L + 1) ∧ ∀ q i, q ≠ 204 → m' q i = m q i) := by
      intro x0 h1 h2
      unfold R_laysRichest_32
      by_cases kz : k = 0
      · unfold FU
        rw [show (1000000 : Nat) = 999999 + 1 from rfl, R_laysRichest_35, f177]
        have fin := store x0 (by rw [kz, Int.sub_zero]; exact h1 kz)
        by_cases z : 0 < A 18
        · rw [if_pos z, if_neg (by omega)]; exact fin
        · rw [if_neg z]; exact fin
      · have hx := h2 kz
        subst hx
        refine mL2 (fun f x w => R_laysRichest_35 (R_laysRichest_2 L fu) (R_laysRichest_7 (R_laysRichest_2 L fu) L k fu2) L k a f x w mm2) (fun x w => 0 ≤ w ∧ w ≤ A 18 ∧ mRr k (mMn (mTh A L (mAny A L) 2 (L - k) (mKo A a)) w.toNat) x) (fun _ w => (13 - w).toNat) ?_ (-1) 0 ⟨by omega, by omega, Or.inl ⟨rfl, rfl⟩⟩ (by omega)
        rintro fu4 x w ⟨w0, w1, ex⟩ ih4
        show mOk (R_laysRichest_35 (R_laysRichest_2 L fu) (R_laysRichest_7 (R_laysRichest_2 L fu) L k fu2) L k a (fu4 + 1) x w mm2) _
        rw [R_laysRichest_35, f177]
        by_cases dw : w < A 18
        rotate_left
        · rw [if_neg dw]
          refine store x ?_
          rw [mPv_step ht mAny_ok (by omega) (by omega), ← show w = A 18 by omega]
          exact ex
        rw [if_pos dw, if_pos (by omega)]
        refine mOk_bind (richBy_ok (m := mm2) ht f177 L1 hT2 a0 ha (by omega) (by omega) w0 dw) (fun r kr => ?_)
        unfold R_laysRichest_55
        rw [w32e (x := w + 1) (by omega) (by omega)]
        have mle := mMin_le (mMn (mTh A L (mAny A L) 2 (L - k) (mKo A a)) w.toNat) (mTh A L (mAny A L) 2 (L - k) (mKo A a) w)
        generalize hT : mTh A L (mAny A L) 2 (L - k) (mKo A a) w = T at *
        by_cases z : x < r
        · rw [if_pos z]
          refine ih4 _ _ ⟨by omega, by omega, ?_⟩ (by omega)
          rw [mMn_s w0, hT]
          generalize mMn (mTh A L (mAny A L) 2 (L - k) (mKo A a)) w.toNat = G at *
          rw [show mMin G T = T by rcases mle.2.2 with q | q <;> rcases ex with ⟨_, _⟩ | ⟨_, _, _, _⟩ <;> rcases kr with ⟨_, _⟩ | ⟨_, _, _, _⟩ <;> omega]
          exact kr
        · rw [if_neg z]
          refine ih4 _ _ ⟨by omega, by omega, ?_⟩ (by omega)
          rw [mMn_s w0, hT]
          generalize mMn (mTh A L (mAny A L) 2 (L - k) (mKo A a)) w.toNat = G at *
          rw [show mMin G T = G by rcases mle.2.2 with q | q <;> rcases ex with ⟨_, _⟩ | ⟨_, _, _, _⟩ <;> rcases kr with ⟨_, _⟩ | ⟨_, _, _, _⟩ <;> omega]
          exact ex
    unfold R_laysRichest_20 R_laysRichest_31
    by_cases kz : k = 0
    · rw [if_pos kz]
      by_cases a13 : a < 13
      · rw [if_pos a13]
        have hko : mKo A a = A (45 + a).toNat := mKo_w a13
        refine mOk_bind (RmayEnd_ok (m := mm2) (by rw [f177]; exact ht) a0 (by rw [f177]; omega)) (fun r kr => ?_)
        rw [f177, ← hko] at kr
        by_cases z : r = 0
        · rw [if_pos z]
          refine loop (-1) (fun _ => ?_) (fun _ => rfl)
          rw [mPv_end, if_neg (fun h => (kr.2.mpr h) z)]
          exact Or.inl ⟨rfl, rfl⟩
        · rw [if_neg z]
          refine loop 0 (fun _ => ?_) (fun h => absurd kz h)
          rw [mPv_end, if_pos (kr.2.mp z)]
          right; omega
      · rw [if_neg a13]
        refine loop (-1) (fun _ => ?_) (fun _ => rfl)
        have hko : mKo A a = 4 := by unfold mKo; rw [if_pos (by omega)]
        rw [mPv_end, if_neg (fun h => h.1 hko)]
        exact Or.inl ⟨rfl, rfl⟩
    · rw [if_neg kz]
      exact loop (-1) (fun h => absurd h kz) (fun _ => rfl)
  by_cases a13 : a < 13
  · rw [if_pos a13]
    by_cases an : a < A 18
    · rw [if_pos an]; exact one (Or.inl an)
    · rw [if_neg an]
      unfold R_laysRichest_67
      rw [w32e (by omega) (by omega)]
      exact ih2 _ _ ⟨by omega, by omega, hT2, fun a' y z u => hU2 a' y (by omega) u, fr2⟩ (by omega)
  · rw [if_neg a13]; exact one (Or.inr (by omega))
theorem richWalk_ok {A : Nat → Int} {L x2 : Int} {m : aM} (ht : mTok A) (e177 : m 177 = A) (L0 : 1 ≤ L) (L1 : L ≤ 60) (hT : mRt A L m (L + 1)) (x0 : 0 ≤ x2) (x1 : x2 < 2147483648) : ∀ (c n : Nat) (k a ix : Int) (f : Nat → Int), mGp A L (mAny A L) 2 c (L - k) (mKo A a) f → 0 ≤ k → k ≤ L → 0 ≤ a → (a < A 18 ∨ a = 13) → 0 ≤ ix → ix ≤ x2 → c < n → mOk (R_richest_44 x2 n k a ix m) (fun r => r.1 = (if x2 - ix < c then f (x2 - ix).toNat else -1) ∧ r.2 = m) := by
  have c4 := ht.2.2.2.2.1
  intro c
  induction c with
  | zero =>
    intro n k a ix f h k0 k1 a0 ha i0 i1 hn
    cases n with
    | zero => omega
    | succ n =>
      have e : L - k = L := h
      rw [R_richest_44, if_neg (by omega)]
      exact mOk_some ⟨by dsimp only; rw [if_neg (by omega)], rfl⟩
  | succ c ih =>
    intro n k a ix f h k0 k1 a0 ha i0 i1 hn
    cases n with
    | zero => omega
    | succ n =>
      obtain ⟨h1, h2, ⟨b0, b1, b2, b3⟩, h4⟩ := h
      rw [R_richest_44, if_pos (by omega)]
      refine mL1 (fun u w => R_richest_48 (R_richest_44 x2 n) x2 k a ix u w m) (fun w => 0 ≤ w ∧ w ≤ f 0) (fun w => (13 - w).toNat) ?_ 0 ⟨by omega, by omega⟩ (by omega)
      rintro fu w ⟨w0, w1⟩ ih2
      show mOk (R_richest_48 (R_richest_44 x2 n) x2 k a ix (fu + 1) w m) _
      rw [R_richest_48]
      refine mOk_bind (richBy_ok (m := m) ht e177 L1 (fun k' a' y z u v => hT k' a' y (by omega) u v) a0 ha (by omega) k1 w0 (by omega)) (fun r kr => ?_)
      simp (disch := omega) only [w32e, if_pos]
      have cur := (hT k a k0 (by omega) a0 ha).resolve_left (fun hh => h2 hh.1)
      by_cases ew : w = f 0
      · rw [ew, b2] at kr
        have := kr.resolve_left (fun hh => h2 hh.1)
        rw [if_pos (by omega), ew]
        by_cases ei : ix = x2
        · rw [if_pos ei]
          refine mOk_some ⟨?_, rfl⟩
          dsimp only
          rw [if_pos (by omega), show (x2 - ix).toNat = 0 by omega]
        · rw [if_neg ei, e177]
          have hl := ht.2.2.2.2.2.1 _ b0 b1
          have nx := mTh_next (by rw [b2]; exact h2)
          have hin := mPf_in ht mAny_ok (by omega) h1 b0 b1 nx.1
          simp (disch := omega) only [w32e, if_pos]
          rw [show L - k + A (19 + f 0).toNat = L - (k - A (19 + f 0).toNat) by omega, ← mKo_w (A := A) (w := f 0) (by omega)] at h4
          refine mOk_mono (ih n (k - A (19 + f 0).toNat) (f 0) (ix + 1) (fun i => f (i + 1)) h4 (by omega) (by omega) b0 (Or.inl b1) (by omega) (by omega) (by omega)) (fun r k => ?_)
          refine ⟨?_, k.2⟩
          rw [k.1]
          by_cases g : x2 - (ix + 1) < c
          · rw [if_pos g, if_pos (by omega), show (x2 - (ix + 1)).toNat + 1 = (x2 - ix).toNat by omega]
          · rw [if_neg g, if_neg (by omega)]
      · have n3 := b3 w w0 (by omega)
        have : r ≠ m 204 (k * 14 + a).toNat := by
          intro hh
          rcases kr with ⟨q1, q2⟩ | ⟨q1, q2, q3, q4⟩ <;> omega
        rw [if_neg this]
        exact ih2 _ ⟨by omega, by omega⟩ (by omega)
theorem mGp_uses {A : Nat → Int} {L : Int} {Mi : Int → Int → Int} (ht : mTok A) (hM : mMok A L Mi) : ∀ {c : Nat} {p kd : Int} {f : Nat → Int}, 0 ≤ p → mGp A L Mi 2 c p kd f → mPv A L Mi 2 p kd ≠ 268435456 → mPv A L Mi 2 p kd = - mMs A (fun _ w => A (32 + w).toNat) p f c ∧ mMs A (fun _ w => A (32 + w).toNat) p f c ≤ 99 * c := by
  intro c
  induction c with
  | zero =>
    intro p kd f p0 h hP
    have e : p = L := h
    rw [e, mPv_end] at hP ⊢
    by_cases z : mKe A kd
    · rw [if_pos z]; exact ⟨rfl, by show (0 : Int) ≤ _; omega⟩
    · rw [if_neg z] at hP; exact absurd rfl hP
  | succ c ih =>
    intro p kd f p0 h hP
    obtain ⟨h1, h2, ⟨a0, a1, a2, a3⟩, h4⟩ := h
    have nx := mTh_next (by rw [a2]; exact h2)
    have hin := mPf_in ht hM p0 h1 a0 a1 nx.1
    have hl := ht.2.2.2.2.2.1 _ a0 a1
    have z := nx.1.1
    rw [if_neg (by omega)] at z
    obtain ⟨u1, u2⟩ := ih (by omega) h4 nx.2.1
    rw [mMs_shift]
    refine ⟨?_, by omega⟩
    rw [← a2, nx.2.2, u1]
    unfold mPc
    rw [if_pos (Or.inl rfl), z]; omega
theorem chosenUses_ok {t : Nat} {A : Nat → Int} {m : aM} {c : Nat} (ht : mTok A) (hr : mTR 25 47 A m) (c1 : (c : Int) ≤ 60) (h8 : m t 8 = (c : Int)) (hb : ∀ i, i < c → 0 ≤ m (t + 4) i ∧ m (t + 4) i < A 18) : mOk (Cutter_chosenUses t m) (fun r => r = mMs A (fun _ w => A (32 + w).toNat) 0 (fun i => m (t + 4) i) c) := by
  have c4 := ht.2.2.2.2.1
  unfold Cutter_chosenUses
  refine mL2 (Cutter_chosenUses_4 m t) (fun x k => 0 ≤ k ∧ k ≤ c ∧ x = mMs A (fun _ w => A (32 + w).toNat) 0 (fun i => m (t + 4) i) k.toNat ∧ 0 ≤ x ∧ x ≤ 99 * k) (fun _ k => (61 - k).toNat) ?_ 0 0 ⟨by omega, by omega, rfl, by omega, by omega⟩ (by omega)
  rintro fu x k ⟨k0, k1, ex, x0, x1⟩ ih
  rw [Cutter_chosenUses_4, h8]
  by_cases d : k < c
  · obtain ⟨i, hi⟩ : ∃ i : Nat, k = i := ⟨k.toNat, by omega⟩
    subst hi
    have b := hb i (by omega)
    have hl := ht.2.2.2.2.2.1 _ b.1 b.2
    rw [if_pos d, if_pos (by omega), Int.toNat_natCast, if_pos (by omega), (hr.2.2.2.1 _ b.1 b.2).2.1, w32e (by omega) (by omega), w32e (by omega) (by omega)]
    refine ih _ _ ⟨by omega, by omega, ?_, by omega, by omega⟩ (by omega)
    rw [show ((i : Int) + 1).toNat = i + 1 by omega, mMs, ex, Int.toNat_natCast]
  · rw [if_neg d]
    exact mOk_some (by rw [ex, show k.toNat = c by omega])
theorem st_richest {n : Nat} {m : aM} (h : mInv n m) (x1 x2 : Int) (hx2 : in32 x2) : ∃ r m1 m2, B_richest x1 x2 m = some (r, m1) ∧ R_richest x1 x2 m1 = some (r, m2) ∧ mInv (n + 1) m2 := by
  have hi := mInv_0 h
  by_cases c : 1 ≤ x1 ∧ x1 ≤ 60 ∧ ¬ x2 < -1
  rotate_left
  · refine ⟨-3, m, aup m 176 0 0, ?_, ?_, hi⟩
    · unfold B_richest
      by_cases d : x1 < 1
      · rw [if_pos d]
      · rw [if_neg d]
        by_cases e : 60 < x1
        · rw [if_pos e]
        · rw [if_neg e, if_pos (by omega)]
    · unfold R_richest
      by_cases d : 1 ≤ x1 ∧ x1 ≤ 60
      · simp (disch := omega) only [st1e, within_eq, Option.bind_some, reduceIte, if_pos, if_neg]
      · simp (disch := omega) only [st1e, within_eq, Option.bind_some, reduceIte, if_pos, if_neg]
  have htk := h.2.2.1
  have hr := h.2.2.2.1
  have c4 := htk.2.2.2.2.1
  obtain ⟨mA, kA, a9, aC, frA⟩ := layAny_ok htk hr (n := x1) (by omega) (by omega)
  have hrA : mTR 25 47 (m 177) mA := mTR_same (fun q i hq => frA q i (by omega) (by omega)) hr c4.2
  obtain ⟨m1, e1, cc, k9, k8, kc, kp, fr⟩ := choose_ok (pi := 2) htk hrA (Or.inr rfl) mAny_ok aC (by omega) (by omega) (by omega) (by omega)
  have fr1 : ∀ q i, ¬(67 ≤ q ∧ q ≤ 72) → m1 q i = m q i := fun q i a => by rw [fr q i (by omega) (by omega) (by omega) (by omega), frA q i (by omega) (by omega)]
  have hs : mSame m (aup m1 176 0 0) := by
    intro q i hd
    unfold mDep at hd
    rw [aup_of (by omega), fr1 _ _ (by omega)]
  have hi2 := mInv_same (Nat.le_succ n) hs h
  have f177 : aup m1 176 0 0 177 = m 177 := funext fun i => hs 177 i (by unfold mDep; omega)
  obtain ⟨m2, e2, hT, fr2⟩ := laysRichest_ok (m := aup m1 176 0 0) (L := x1) htk f177 c.1 (by omega)
  have g177 : m2 177 = m 177 := (funext fun i => fr2 _ _ (by omega)).trans f177
  have hfin : mInv (n + 1) m2 := by
    refine mInv_same (Nat.le_refl _) (fun q i hd => ?_) hi2
    unfold mDep at hd
    exact fr2 _ _ (by omega)
  have e13 : mKo (m 177) 13 = 4 := by unfold mKo; rw [if_pos rfl]
  have top := hT x1 13 (by omega) (by omega) (by omega) (Or.inr rfl)
  rw [e13, Int.sub_self] at top
  have eB : B_richest x1 x2 m = (if (m1 67 8) = 0 then (some ((-1), m1)) else (if x2 = (-1) then ((Cutter_chosenUses 67 m1).bind fun r9 => (some (r9, m1))) else ((Cutter_chosenAt 67 x2 m1).bind fun r8 => (some (r8, m1))))) := by
    unfold B_richest
    rw [if_neg (by omega), if_neg (by omega), if_neg (by omega), kA]
    simp only [Option.bind_some, e1]
  have eR : R_richest x1 x2 m1 = (if (m2 204 (x1 * 14 + 13).toNat) < 0 then (some (m2 204 (x1 * 14 + 13).toNat, m2)) else (if x2 = (-1) then (some (m2 204 (x1 * 14 + 13).toNat, m2)) else (R_richest_44 x2 FU x1 13 0 m2))) := by
    unfold R_richest R_richest_29
    rw [st1e, within_eq]
    simp (disch := omega) only [Option.bind_some, if_pos, if_neg, reduceIte, e2, w32e]
  have cl := mCo_rng htk (by omega) kc
  rw [k8] at eB
  rcases kc with ⟨kc, _⟩ | ⟨_, ⟨k1, k2⟩ | ⟨k1, k2⟩⟩
  · omega
  · have := top.resolve_right (fun hh => hh.1 k1)
    refine ⟨-1, m1, m2, ?_, ?_, hfin⟩
    · rw [eB, if_pos (by omega)]
    · rw [eR, if_pos (by omega), this.2]
  · have tp := top.resolve_left (fun hh => k1 hh.1)
    have c0 : cc ≠ 0 := by
      intro hc
      rw [hc] at k2
      have : (0 : Int) = x1 := k2
      omega
    rw [if_neg (by omega)] at eB
    rw [if_neg (by omega)] at eR
    have us := mGp_uses htk mAny_ok (by omega) k2 k1
    by_cases z : x2 = -1
    · obtain ⟨u, u1, u2⟩ := chosenUses_ok (t := 67) (m := m1) htk (mTR_same (fun q i hq => fr1 q i (by omega)) hr c4.2) (by omega) k8 cl.2
      refine ⟨u, m1, m2, ?_, ?_, hfin⟩
      · rw [eB, if_pos z, u1]; rfl
      · rw [eR, if_pos z]
        have : m2 204 (x1 * 14 + 13).toNat = u := by rw [u2]; omega
        rw [this]
    · rw [if_neg z] at eB eR
      rw [show (0 : Int) = x1 - x1 by omega, ← e13] at k2
      obtain ⟨⟨rr, mr⟩, w1, w2, w3⟩ := richWalk_ok (x2 := x2) htk g177 c.1 (by omega) hT (by omega) (by have := hx2.2; omega) cc FU x1 13 0 (fun i => m1 71 i) k2 (by omega) (by omega) (by omega) (Or.inr rfl) (by omega) (by omega) (by unfold FU; omega)
      dsimp only at w2 w3
      rw [Int.sub_zero] at w2
      refine ⟨rr, m1, m2, ?_, ?_, hfin⟩
      · rw [eB]
        unfold Cutter_chosenAt
        rw [if_neg (by omega), k8, w2]
        by_cases y : x2 < cc
        · rw [if_pos y, if_pos y, if_pos (by omega)]; rfl
        · rw [if_neg y, if_neg y]; rfl
      · rw [eR, w1, w3]
