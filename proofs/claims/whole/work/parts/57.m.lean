/-! code: both merge the least weights in the same way -/
def cArg (f : Nat → Int) : Nat → Nat
  | 0 => 0
  | n + 1 => if f (n + 1) < f (cArg f n) then n + 1 else cArg f n
theorem cArg_le (f : Nat → Int) : ∀ n, cArg f n ≤ n := by
  intro n
  induction n with
  | zero => exact Nat.le_refl _
  | succ n ih => rw [cArg]; split <;> omega
theorem cArg_cg {f g : Nat → Int} : ∀ n, (∀ k, k ≤ n → f k = g k) → cArg f n = cArg g n := by
  intro n
  induction n with
  | zero => intro _; rfl
  | succ n ih =>
    intro h
    have := cArg_le g n
    rw [cArg, cArg, ih (fun k hk => h k (by omega)), h (n + 1) (Nat.le_refl _), h _ (by omega)]
def cUp (f : Nat → Int) (i : Nat) (v : Int) : Nat → Int := fun k => if k = i then v else f k
/-- sum, row and count behind j takes -/
def cTk (f : Nat → Int) (c : Nat) : Nat → Int × (Nat → Int) × Nat
  | 0 => (0, f, c)
  | j + 1 => (w32 ((cTk f c j).1 + (cTk f c j).2.1 (cArg (cTk f c j).2.1 ((cTk f c j).2.2 - 1))), cUp (cTk f c j).2.1 (cArg (cTk f c j).2.1 ((cTk f c j).2.2 - 1)) ((cTk f c j).2.1 ((cTk f c j).2.2 - 1)), (cTk f c j).2.2 - 1)
theorem cTk_c (f : Nat → Int) (c : Nat) : ∀ j, (cTk f c j).2.2 = c - j := by
  intro j
  induction j with
  | zero => rfl
  | succ j ih => rw [cTk]; show (cTk f c j).2.2 - 1 = _; rw [ih]; omega
def cRun (n : Nat) : Nat → (Nat → Int) → Nat → Int → Int
  | 0, _, _, s => s
  | k + 1, f, c, s => if 1 < c then cRun n k (cUp (cTk f c n).2.1 (c - n) (cTk f c n).1) (c - n + 1) (w32 (s + (cTk f c n).1)) else s
theorem cRun_end {n k c : Nat} {f : Nat → Int} {s : Int} (h : c ≤ 1) : cRun n k f c s = s := by
  cases k with
  | zero => rfl
  | succ k => rw [cRun, if_neg (by omega)]
theorem addWeight_ok {x : Int} {c : Nat} {f : Nat → Int} {m : aM} (hc : m 120 2 = (c : Int)) (c1 : c < 20) (hf : ∀ k, k < c → m 121 k = f k) : mOk (Census_addWeight x m) (fun m' => m' 120 2 = ((c + 1 : Nat) : Int) ∧ (∀ k, k < c + 1 → m' 121 k = cUp f c x k) ∧ ∀ q i, ¬(q = 120 ∧ i = 2) → q ≠ 121 → m' q i = m q i) := by
  unfold Census_addWeight
  rw [hc, if_pos (by omega), if_pos (by omega)]
  refine mOk_st1 (mOk_st1 (mOk_some ⟨?_, ?_, ?_⟩))
  · rw [aup_self, aup_of (by omega), hc, w32e (by omega) (by omega)]
    omega
  · intro k hk
    rw [aup_of (by omega)]
    unfold cUp
    by_cases e : k = c
    · rw [if_pos e, e, aup_at rfl (by omega)]
    · rw [if_neg e, aup_of (by omega)]
      exact hf k (by omega)
  · intro q i h1 h2
    rw [aup_of (by omega), aup_of (by omega)]
theorem takeLeast_ok {c : Nat} {f : Nat → Int} {m : aM} (hc : m 120 2 = (c : Int)) (c0 : 1 ≤ c) (c1 : c ≤ 20) (hf : ∀ k, k < c → m 121 k = f k) : mOk (Census_takeLeast m) (fun r => r.1 = f (cArg f (c - 1)) ∧ r.2 120 2 = ((c - 1 : Nat) : Int) ∧ (∀ k, k < c - 1 → r.2 121 k = cUp f (cArg f (c - 1)) (f (c - 1)) k) ∧ ∀ q i, ¬(q = 120 ∧ i = 2) → q ≠ 121 → r.2 q i = m q i) := by
  unfold Census_takeLeast
  refine mL2 (fun n a b => Census_takeLeast_4 n a b m) (fun a b => 1 ≤ b ∧ b ≤ c ∧ a = ((cArg f (b.toNat - 1) : Nat) : Int)) (fun _ b => (21 - b).toNat) ?_ 0 1 ⟨by omega, by omega, rfl⟩ (by omega)
  rintro fu a b ⟨b0, b1, ea⟩ ih
  have le := cArg_le f (b.toNat - 1)
  show mOk (Census_takeLeast_4 (fu + 1) a b m) _
  rw [Census_takeLeast_4, hc]
  by_cases d : b < c
  · rw [if_pos d, if_pos (by omega), if_pos (by omega), hf b.toNat (by omega), hf a.toNat (by omega)]
    have step : cArg f ((b + 1).toNat - 1) = if f b.toNat < f a.toNat then b.toNat else cArg f (b.toNat - 1) := by
      rw [show (b + 1).toNat - 1 = (b.toNat - 1) + 1 by omega, cArg, show b.toNat - 1 + 1 = b.toNat by omega, show a.toNat = cArg f (b.toNat - 1) by omega]
    unfold Census_takeLeast_19
    rw [w32e (by omega) (by omega)]
    by_cases e : f b.toNat < f a.toNat
    · rw [if_pos e]
      exact ih _ _ ⟨by omega, by omega, by rw [step, if_pos e]; omega⟩ (by omega)
    · rw [if_neg e]
      exact ih _ _ ⟨by omega, by omega, by rw [step, if_neg e]; exact ea⟩ (by omega)
  · rw [if_neg d, if_pos (by omega), w32e (by omega) (by omega)]
    refine mOk_st1 ?_
    have eb : b.toNat - 1 = c - 1 := by omega
    rw [eb] at ea le
    rw [aup_self, if_pos (by omega)]
    refine mOk_st1 (mOk_some ⟨?_, ?_, ?_, ?_⟩)
    · rw [hf a.toNat (by omega)]
      rw [show a.toNat = cArg f (c - 1) by omega]
    · dsimp only
      rw [aup_of (by omega), aup_self]
      omega
    · intro k hk
      dsimp only
      unfold cUp
      by_cases e : k = cArg f (c - 1)
      · rw [if_pos e, aup_at rfl (by omega), aup_of (by omega), hf _ (by omega)]
        congr 1
        omega
      · rw [if_neg e, aup_of (by omega), aup_of (by omega)]
        exact hf k (by omega)
    · intro q i h1 h2
      dsimp only
      rw [aup_of (by omega), aup_of (by omega)]
theorem mod_step {n c : Int} (n0 : 2 ≤ n) (n1 : n ≤ 8) (h : (c - 1) % (n - 1) = 0) (hc : 1 < c) : n ≤ c ∧ (c - n + 1 - 1) % (n - 1) = 0 := by
  have : n = 2 ∨ n = 3 ∨ n = 4 ∨ n = 5 ∨ n = 6 ∨ n = 7 ∨ n = 8 := by omega
  rcases this with rfl | rfl | rfl | rfl | rfl | rfl | rfl <;> omega
theorem B_run_ok {n : Int} {c0 : Nat} {f0 : Nat → Int} {m : aM} (n0 : 2 ≤ n) (n1 : n ≤ 8) (hc : m 120 2 = (c0 : Int)) (c1 : c0 ≤ 19) (hm : c0 = 0 ∨ ((c0 : Int) - 1) % (n - 1) = 0) (hf : ∀ k, k < c0 → m 121 k = f0 k) : mOk (Census_leastTalk_56 n m) (fun r => r.1 = cRun n.toNat 20 f0 c0 0 ∧ ∀ q i, ¬(q = 120 ∧ i = 2) → q ≠ 121 → r.2 q i = m q i) := by
  unfold Census_leastTalk_56
  refine mL3 (Census_leastTalk_60 n) (fun s st mm => 0 ≤ st ∧ ∃ (c : Nat) (f : Nat → Int), mm 120 2 = (c : Int) ∧ st + c ≤ 19 ∧ (c = 0 ∨ ((c : Int) - 1) % (n - 1) = 0) ∧ (∀ k, k < c → mm 121 k = f k) ∧ cRun n.toNat (20 - st.toNat) f c s = cRun n.toNat 20 f0 c0 0 ∧ ∀ q i, ¬(q = 120 ∧ i = 2) → q ≠ 121 → mm q i = m q i) (fun _ st _ => (21 - st).toNat) ?_ 0 0 m ⟨by omega, c0, f0, hc, by omega, hm, hf, rfl, fun _ _ _ _ => rfl⟩ (by omega)
  rintro fu s st mm ⟨st0, c, f, h1, h2, h3, h4, h5, fr⟩ ih
  rw [Census_leastTalk_60, if_pos (by omega), h1]
  by_cases d : 1 < (c : Int)
  · rw [if_pos d]
    have ms := mod_step n0 n1 (h3.resolve_left (by omega)) d
    refine mL3 (Census_leastTalk_71 (Census_leastTalk_60 n fu) n s st) (fun t j mm => 0 ≤ j ∧ j ≤ n ∧ t = (cTk f c j.toNat).1 ∧ mm 120 2 = ((c - j.toNat : Nat) : Int) ∧ (∀ k, k < c - j.toNat → mm 121 k = (cTk f c j.toNat).2.1 k) ∧ ∀ q i, ¬(q = 120 ∧ i = 2) → q ≠ 121 → mm q i = m q i) (fun _ j _ => (9 - j).toNat) ?_ 0 0 mm ⟨by omega, by omega, rfl, by rw [h1]; rfl, h4, fr⟩ (by omega)
    rintro fu2 t j mm2 ⟨j0, j1, g1, g2, g3, fr2⟩ ih2
    rw [Census_leastTalk_71]
    by_cases e : j < n
    · rw [if_pos e, g2, if_pos (by omega)]
      have hcj := cTk_c f c j.toNat
      refine mOk_bind (takeLeast_ok (c := c - j.toNat) (f := (cTk f c j.toNat).2.1) g2 (by omega) (by omega) g3) (fun r k => ?_)
      obtain ⟨k1, k2, k3, k4⟩ := k
      rw [w32e (x := j + 1) (by omega) (by omega)]
      have ej : (j + 1).toNat = j.toNat + 1 := by omega
      refine ih2 _ _ _ ⟨by omega, by omega, ?_, ?_, ?_, fun q i a b => by rw [k4 q i a b]; exact fr2 q i a b⟩ (by omega)
      · rw [ej, cTk, hcj, g1, k1]
      · rw [k2]; omega
      · intro k hk
        rw [ej, cTk, hcj]
        exact k3 k (by omega)
    · rw [if_neg e]
      have ej : j = n := by omega
      subst ej
      unfold Census_leastTalk_84
      refine mOk_bind (addWeight_ok (c := c - j.toNat) (x := t) g2 (by omega) g3) (fun m3 k => ?_)
      obtain ⟨k1, k2, k3⟩ := k
      rw [w32e (x := st + 1) (by omega) (by omega)]
      refine ih _ _ _ ⟨by omega, c - j.toNat + 1, _, k1, by omega, Or.inr ?_, k2, ?_, fun q i a b => by rw [k3 q i a b]; exact fr2 q i a b⟩ (by omega)
      · rw [show ((c - j.toNat + 1 : Nat) : Int) = c - j + 1 by omega]
        exact ms.2
      · rw [← h5, show 20 - st.toNat = (20 - (st + 1).toNat) + 1 by omega, cRun, if_pos (by omega), g1]
  · rw [if_neg d]
    refine mOk_some ⟨?_, fr⟩
    rw [← h5, cRun_end (by omega)]
/-- how many weights there are when every step can take n of them -/
def mPad (w n : Int) (c : Nat) : Prop := w ≤ c ∧ ((c : Int) - 1) % (n - 1) = 0 ∧ ∀ d : Int, w ≤ d → d < c → (d - 1) % (n - 1) ≠ 0
theorem mPad_uni {w n : Int} {c c' : Nat} (h : mPad w n c) (h' : mPad w n c') : c = c' := by
  rcases Nat.lt_trichotomy c c' with d | d | d
  · exact absurd h.2.1 (h'.2.2 c h.1 (by omega))
  · exact d
  · exact absurd h'.2.1 (h.2.2 c' h'.1 (by omega))
theorem pad_bd {w n d : Int} (n0 : 2 ≤ n) (n1 : n ≤ 8) (w0 : 1 ≤ w) (h : ∀ e : Int, w ≤ e → e < d → (e - 1) % (n - 1) ≠ 0) (hd : (d - 1) % (n - 1) ≠ 0) (wd : w ≤ d) : d < w + n - 2 := by
  have : n = 2 ∨ n = 3 ∨ n = 4 ∨ n = 5 ∨ n = 6 ∨ n = 7 ∨ n = 8 := by omega
  by_cases c : d < w + n - 2
  · exact c
  exfalso
  have h0 : ∀ e : Int, w ≤ e → e ≤ d → (e - 1) % (n - 1) ≠ 0 := fun e a b => by
    by_cases z : e = d
    · rw [z]; exact hd
    · exact h e a (by omega)
  rcases this with rfl | rfl | rfl | rfl | rfl | rfl | rfl
  · have := h0 w (by omega) (by omega); omega
  · have a := h0 w (by omega) (by omega); have b := h0 (w + 1) (by omega) (by omega); omega
  · have a := h0 w (by omega) (by omega); have b := h0 (w + 1) (by omega) (by omega); have e := h0 (w + 2) (by omega) (by omega); omega
  · have a := h0 w (by omega) (by omega); have b := h0 (w + 1) (by omega) (by omega); have e := h0 (w + 2) (by omega) (by omega); have f := h0 (w + 3) (by omega) (by omega); omega
  · have a := h0 w (by omega) (by omega); have b := h0 (w + 1) (by omega) (by omega); have e := h0 (w + 2) (by omega) (by omega); have f := h0 (w + 3) (by omega) (by omega); have g := h0 (w + 4) (by omega) (by omega); omega
  · have a := h0 w (by omega) (by omega); have b := h0 (w + 1) (by omega) (by omega); have e := h0 (w + 2) (by omega) (by omega); have f := h0 (w + 3) (by omega) (by omega); have g := h0 (w + 4) (by omega) (by omega); have i := h0 (w + 5) (by omega) (by omega); omega
  · have a := h0 w (by omega) (by omega); have b := h0 (w + 1) (by omega) (by omega); have e := h0 (w + 2) (by omega) (by omega); have f := h0 (w + 3) (by omega) (by omega); have g := h0 (w + 4) (by omega) (by omega); have i := h0 (w + 5) (by omega) (by omega); have j := h0 (w + 6) (by omega) (by omega); omega
def mWg (A : Nat → Int) (k : Nat) : Int := if (k : Int) < A 18 then A (32 + (k : Int)).toNat else 0
def mCode (A : Nat → Int) (n r : Int) : Prop := (A 18 = 0 ∧ r = 0) ∨ (A 18 = 1 ∧ r = A 32) ∨ (2 ≤ A 18 ∧ ∃ c : Nat, mPad (A 18) n c ∧ r = cRun n.toNat 20 (mWg A) c 0)
theorem mCode_uni {A : Nat → Int} {n r r' : Int} (h : mCode A n r) (h' : mCode A n r') : r = r' := by
  rcases h with ⟨h1, h2⟩ | ⟨h1, h2⟩ | ⟨h1, c, h2, h3⟩ <;> rcases h' with ⟨g1, g2⟩ | ⟨g1, g2⟩ | ⟨g1, c', g2, g3⟩
  · omega
  · omega
  · omega
  · omega
  · omega
  · omega
  · omega
  · omega
  · rw [h3, g3, mPad_uni h2 g2]
theorem B_code_ok {n : Int} {m : aM} {A : Nat → Int} (ht : mTok A) (hw : m 25 2 = A 18) (hu : ∀ w : Int, 0 ≤ w → w < A 18 → m 42 w.toNat = A (32 + w).toNat) (n0 : 2 ≤ n) (n1 : n ≤ 8) : mOk (Census_leastTalk n m) (fun r => mCode A n r.1 ∧ ∀ q i, ¬(q = 120 ∧ i = 2) → q ≠ 121 → r.2 q i = m q i) := by
  have c4 := ht.2.2.2.2.1
  unfold Census_leastTalk
  refine mOk_st1 ?_
  refine mL2 (Census_leastTalk_5 n) (fun w mm => 0 ≤ w ∧ w ≤ A 18 ∧ mm 120 2 = w ∧ (∀ k : Nat, (k : Int) < w → mm 121 k = mWg A k) ∧ ∀ q i, ¬(q = 120 ∧ i = 2) → q ≠ 121 → mm q i = m q i) (fun w _ => (13 - w).toNat) ?_ 0 _ ⟨by omega, by omega, aup_self _ _ _ _, fun k h => by omega, fun q i a b => aup_of (by omega)⟩ (by omega)
  rintro fu w mm ⟨w0, w1, s1, s2, fr⟩ ih
  have e25 : mm 25 2 = A 18 := (fr _ _ (by omega) (by omega)).trans hw
  rw [Census_leastTalk_5, e25]
  by_cases c : w < A 18
  · rw [if_pos c, if_pos (by omega), show mm 42 w.toNat = A (32 + w).toNat from (fr _ _ (by omega) (by omega)).trans (hu w w0 c)]
    refine mOk_bind (addWeight_ok (c := w.toNat) (f := mWg A) (by rw [s1]; omega) (by omega) (fun k hk => s2 k (by omega))) (fun m1 k => ?_)
    obtain ⟨k1, k2, k3⟩ := k
    rw [w32e (by omega) (by omega)]
    refine ih _ _ ⟨by omega, by omega, by rw [k1]; omega, fun k hk => ?_, fun q i a b => by rw [k3 q i a b]; exact fr q i a b⟩ (by omega)
    rw [k2 k (by omega)]
    unfold cUp
    by_cases e : k = w.toNat
    · rw [if_pos e]
      unfold mWg
      rw [if_pos (by omega), e, Int.toNat_of_nonneg w0]
    · rw [if_neg e]
  · rw [if_neg c]
    have ew : w = A 18 := by omega
    subst ew
    by_cases o : A 18 = 1
    · rw [if_pos o]
      refine mOk_some ⟨Or.inr (Or.inl ⟨o, ?_⟩), fr⟩
      rw [s2 0 (by omega)]
      unfold mWg
      rw [if_pos (by omega)]
      rfl
    · rw [if_neg o]
      have hmx : Jmath_max 1 (w32 (n - 1)) mm = some (n - 1) := by
        unfold Jmath_max
        rw [w32e (by omega) (by omega)]
        by_cases z : 1 < n - 1
        · rw [if_pos z]
        · rw [if_neg z, show n - 1 = 1 by omega]
      rw [hmx]
      simp only [Option.bind_some]
      refine mL2 (Census_leastTalk_37 n (n - 1)) (fun i mm => 0 ≤ i ∧ ∃ c : Nat, mm 120 2 = (c : Int) ∧ (c : Int) = A 18 + i ∧ (1 ≤ A 18 ∨ i = 0) ∧ (∀ d : Int, A 18 ≤ d → d < c → (d - 1) % (n - 1) ≠ 0) ∧ (∀ k : Nat, k < c → mm 121 k = mWg A k) ∧ ∀ q i, ¬(q = 120 ∧ i = 2) → q ≠ 121 → mm q i = m q i) (fun i _ => (20 - i).toNat) ?_ 0 mm ⟨by omega, (A 18).toNat, by rw [s1]; omega, by omega, Or.inr rfl, fun d a b => by omega, fun k hk => s2 k (by omega), fr⟩ (by omega)
      rintro fu2 i mm2 ⟨i0, c, h1, h2, h3, h4, h5, fr2⟩ ih2
      have f25 : mm2 25 2 = A 18 := (fr2 _ _ (by omega) (by omega)).trans hw
      rw [Census_leastTalk_37, f25]
      by_cases z : 0 < A 18
      · have mv : Int.tmod (w32 ((c : Int) - 1)) (n - 1) = ((c : Int) - 1) % (n - 1) := by
          by_cases cc : (c : Int) ≤ 100
          · rw [w32e (by omega) (by omega), Int.tmod_eq_emod_of_nonneg (by omega)]
          · by_cases c2 : (c : Int) < 2147483648
            · rw [w32e (by omega) (by omega), Int.tmod_eq_emod_of_nonneg (by omega)]
            · exfalso
              have hh := h4 ((c : Int) - 1 - ((c : Int) - 1 - 1) % (n - 1)) (by have := Int.emod_nonneg ((c : Int) - 1 - 1) (show n - 1 ≠ 0 by omega); have := Int.emod_lt_of_pos ((c : Int) - 1 - 1) (show 0 < n - 1 by omega); omega) (by have := Int.emod_nonneg ((c : Int) - 1 - 1) (show n - 1 ≠ 0 by omega); omega)
              apply hh
              have e1 : (c : Int) - 1 - ((c : Int) - 1 - 1) % (n - 1) - 1 = ((c : Int) - 1 - 1) - ((c : Int) - 1 - 1) % (n - 1) := by omega
              rw [e1, Int.sub_emod, Int.emod_emod_of_dvd _ (Int.dvd_refl _)]
              simp
        have run : ((c : Int) - 1) % (n - 1) = 0 → mOk (Census_leastTalk_56 n mm2) (fun r => mCode A n r.1 ∧ ∀ q i, ¬(q = 120 ∧ i = 2) → q ≠ 121 → r.2 q i = m q i) := by
          intro hz
          have c19 : c ≤ 19 := by
            rcases Nat.lt_or_ge c 20 with q | q
            · omega
            · exfalso
              have hb := pad_bd n0 n1 (show 1 ≤ A 18 by omega) (d := (c : Int) - 1) (fun e a b => h4 e a (by omega)) (h4 _ (by omega) (by omega)) (by omega)
              omega
          refine mOk_mono (B_run_ok n0 n1 h1 c19 (Or.inr hz) h5) (fun r k => ⟨Or.inr (Or.inr ⟨by omega, c, ⟨by omega, hz, h4⟩, k.1⟩), fun q i a b => by rw [k.2 q i a b]; exact fr2 q i a b⟩)
        by_cases ci : i < n
        · rw [if_pos ci, if_pos z, if_pos (by omega), h1, mv]
          by_cases hz : ((c : Int) - 1) % (n - 1) = 0
          · rw [if_pos hz]
            exact run hz
          · rw [if_neg hz]
            refine mOk_bind (addWeight_ok (c := c) (f := mWg A) h1 (by omega) h5) (fun m1 k => ?_)
            obtain ⟨k1, k2, k3⟩ := k
            rw [w32e (by omega) (by omega)]
            refine ih2 _ _ ⟨by omega, c + 1, k1, by omega, Or.inl (by omega), fun d a b => ?_, fun k hk => ?_, fun q i a b => by rw [k3 q i a b]; exact fr2 q i a b⟩ (by omega)
            · by_cases e : d = c
              · rw [e]; exact hz
              · exact h4 d a (by omega)
            · rw [k2 k hk]
              unfold cUp
              by_cases e : k = c
              · rw [if_pos e]
                unfold mWg
                rw [if_neg (by omega)]
              · rw [if_neg e]
        · rw [if_neg ci]
          exfalso
          have hb := pad_bd n0 n1 (show 1 ≤ A 18 by omega) (d := (c : Int) - 1) (fun e a b => h4 e a (by omega)) (h4 _ (by omega) (by omega)) (by omega)
          omega
      · have i00 : i = 0 := by omega
        have fin : mOk (Census_leastTalk_56 n mm2) (fun r => mCode A n r.1 ∧ ∀ q i, ¬(q = 120 ∧ i = 2) → q ≠ 121 → r.2 q i = m q i) := by
          refine mOk_mono (B_run_ok n0 n1 h1 (by omega) (Or.inl (by omega)) h5) (fun r k => ⟨Or.inl ⟨by omega, ?_⟩, fun q i a b => by rw [k.2 q i a b]; exact fr2 q i a b⟩)
          rw [k.1, cRun_end (by omega)]
        rw [if_pos (by omega), if_neg z]
        exact fin
theorem R_take_ok {k67 : Int → Int → aM → Option (Int × aM)} {k74 : Int → Int → Int → aM → Option (Int × aM)} {x1 x4 x5 x6 : Int} {c : Nat} {f : Nat → Int} {m : aM} {Q : Int × aM → Prop} (c0 : 1 ≤ c) (c1 : c ≤ 20) (hf : ∀ k, k < c → m 199 k = f k)
    (kk : ∀ m' : aM, (∀ k, k < c - 1 → m' 199 k = cUp f (cArg f (c - 1)) (f (c - 1)) k) → (∀ q i, q ≠ 199 → m' q i = m q i) → mOk (k74 ((c - 1 : Nat) : Int) (w32 (x5 + f (cArg f (c - 1)))) (w32 (x6 + 1)) m') Q) : mOk (R_code_81 k67 k74 x1 (c : Int) x4 x5 x6 FU 0 1 m) Q := by
  refine mL2 (fun n a b => R_code_81 k67 k74 x1 (c : Int) x4 x5 x6 n a b m) (fun a b => 1 ≤ b ∧ b ≤ c ∧ a = ((cArg f (b.toNat - 1) : Nat) : Int)) (fun _ b => (21 - b).toNat) ?_ 0 1 ⟨by omega, by omega, rfl⟩ (by omega)
  rintro fu a b ⟨b0, b1, ea⟩ ih
  have le := cArg_le f (b.toNat - 1)
  show mOk (R_code_81 k67 k74 x1 (c : Int) x4 x5 x6 (fu + 1) a b m) _
  rw [R_code_81]
  by_cases d : b < c
  · rw [if_pos d, if_pos (by omega), if_pos (by omega), hf b.toNat (by omega), hf a.toNat (by omega)]
    have step : cArg f ((b + 1).toNat - 1) = if f b.toNat < f a.toNat then b.toNat else cArg f (b.toNat - 1) := by
      rw [show (b + 1).toNat - 1 = (b.toNat - 1) + 1 by omega, cArg, show b.toNat - 1 + 1 = b.toNat by omega, show a.toNat = cArg f (b.toNat - 1) by omega]
    unfold R_code_96
    rw [w32e (by omega) (by omega)]
    by_cases e : f b.toNat < f a.toNat
    · rw [if_pos e]
      exact ih _ _ ⟨by omega, by omega, by rw [step, if_pos e]; omega⟩ (by omega)
    · rw [if_neg e]
      exact ih _ _ ⟨by omega, by omega, by rw [step, if_neg e]; exact ea⟩ (by omega)
  · rw [if_neg d, if_pos (by omega), w32e (x := (c : Int) + -1) (by omega) (by omega), if_pos (by omega)]
    have eb : b.toNat - 1 = c - 1 := by omega
    rw [eb] at ea le
    refine mOk_st1 ?_
    rw [hf a.toNat (by omega), show a.toNat = cArg f (c - 1) by omega, show (c : Int) + -1 = ((c - 1 : Nat) : Int) by omega, Int.toNat_natCast]
    refine kk _ (fun k hk => ?_) (fun q i hq => aup_of (by omega))
    unfold cUp
    by_cases e : k = cArg f (c - 1)
    · rw [if_pos e, aup_at rfl e, hf _ (by omega)]
    · rw [if_neg e, aup_of (by omega)]
      exact hf k (by omega)
theorem R_run_ok {n : Int} {c0 : Nat} {f0 : Nat → Int} {m : aM} (n0 : 2 ≤ n) (n1 : n ≤ 8) (c1 : c0 ≤ 19) (hm : ((c0 : Int) - 1) % (n - 1) = 0) (hf : ∀ k, k < c0 → m 199 k = f0 k) : mOk (R_code_67 n FU (c0 : Int) 0 m) (fun r => r.1 = cRun n.toNat 20 f0 c0 0 ∧ ∀ q i, q ≠ 199 → r.2 q i = m q i) := by
  refine mL3 (R_code_67 n) (fun x s mm => ∃ (st c : Nat) (f : Nat → Int), x = (c : Int) ∧ st + c ≤ 19 ∧ ((c : Int) - 1) % (n - 1) = 0 ∧ (∀ k, k < c → mm 199 k = f k) ∧ cRun n.toNat (20 - st) f c s = cRun n.toNat 20 f0 c0 0 ∧ ∀ q i, q ≠ 199 → mm q i = m q i) (fun x _ _ => x.toNat) ?_ (c0 : Int) 0 m ⟨0, c0, f0, rfl, by omega, hm, hf, rfl, fun _ _ _ => rfl⟩ (by omega)
  rintro fu x s mm ⟨st, c, f, ex, h2, h3, h4, h5, fr⟩ ih
  subst ex
  rw [R_code_67]
  by_cases d : 1 < (c : Int)
  · rw [if_pos d]
    have ms := mod_step n0 n1 h3 d
    refine mL4 (R_code_74 (R_code_67 n fu) n s) (fun x t j mm => 0 ≤ j ∧ j ≤ n ∧ x = ((c - j.toNat : Nat) : Int) ∧ t = (cTk f c j.toNat).1 ∧ (∀ k, k < c - j.toNat → mm 199 k = (cTk f c j.toNat).2.1 k) ∧ ∀ q i, q ≠ 199 → mm q i = m q i) (fun _ _ j _ => (9 - j).toNat) ?_ (c : Int) 0 0 mm ⟨by omega, by omega, rfl, rfl, h4, fr⟩ (by omega)
    rintro fu2 x t j mm2 ⟨j0, j1, ex, g1, g3, fr2⟩ ih2
    subst ex
    rw [R_code_74]
    by_cases e : j < n
    · rw [if_pos e]
      have hcj := cTk_c f c j.toNat
      refine R_take_ok (f := (cTk f c j.toNat).2.1) (by omega) (by omega) g3 (fun m' k1 k2 => ?_)
      rw [w32e (x := j + 1) (by omega) (by omega)]
      have ej : (j + 1).toNat = j.toNat + 1 := by omega
      refine ih2 _ _ _ _ ⟨by omega, by omega, by rw [ej]; omega, ?_, ?_, fun q i a => by rw [k2 q i a]; exact fr2 q i a⟩ (by omega)
      · rw [ej, cTk, hcj, g1]
      · intro k hk
        rw [ej, cTk, hcj]
        exact k1 k (by omega)
    · rw [if_neg e]
      have ej : j = n := by omega
      subst ej
      rw [if_pos (by omega), w32e (x := ((c - j.toNat : Nat) : Int) + 1) (by omega) (by omega)]
      refine mOk_st1 (ih _ _ _ ⟨st + 1, c - j.toNat + 1, cUp (cTk f c j.toNat).2.1 (c - j.toNat) t, by omega, by omega, ?_, fun k hk => ?_, ?_, fun q i a => by rw [aup_of (by omega)]; exact fr2 q i a⟩ (by omega))
      · rw [show ((c - j.toNat + 1 : Nat) : Int) = c - j + 1 by omega]
        exact ms.2
      · unfold cUp
        by_cases e : k = c - j.toNat
        · rw [if_pos e, aup_at rfl (by omega)]
        · rw [if_neg e, aup_of (by omega)]
          exact g3 k (by omega)
      · rw [← h5, show 20 - st = (20 - (st + 1)) + 1 by omega, cRun, if_pos (by omega), g1]
  · rw [if_neg d]
    refine mOk_some ⟨?_, fr⟩
    rw [← h5, cRun_end (by omega)]
theorem R_code_ok {n : Int} {m : aM} (ht : mTok (m 177)) (n0 : 2 ≤ n) (n1 : n ≤ 8) (hw : 2 ≤ m 177 18) : mOk (R_code_32 n (m 177 18) FU 0 0 m) (fun r => mCode (m 177) n r.1 ∧ ∀ q i, q ≠ 199 → r.2 q i = m q i) := by
  have c4 := ht.2.2.2.2.1
  refine mL3 (R_code_32 n (m 177 18)) (fun a w mm => a = w ∧ 0 ≤ w ∧ w ≤ m 177 18 ∧ (∀ k : Nat, (k : Int) < w → mm 199 k = mWg (m 177) k) ∧ ∀ q i, q ≠ 199 → mm q i = m q i) (fun _ w _ => (13 - w).toNat) ?_ 0 0 m ⟨rfl, by omega, by omega, fun k h => by omega, fun _ _ _ => rfl⟩ (by omega)
  rintro fu a w mm ⟨ea, w0, w1, s2, fr⟩ ih
  subst ea
  rw [R_code_32]
  by_cases c : a < m 177 18
  · simp (disch := omega) only [if_pos, w32e]
    refine mOk_st1 (ih _ _ _ ⟨rfl, by omega, by omega, fun k hk => ?_, fun q i hq => by rw [aup_of (by omega)]; exact fr q i hq⟩ (by omega))
    by_cases e : (k : Int) = a
    · rw [aup_at rfl (by omega), fr 177 _ (by omega)]
      unfold mWg
      rw [if_pos (by omega), e]
    · rw [aup_of (by omega)]
      exact s2 k (by omega)
  · rw [if_neg c]
    have ew : a = m 177 18 := by omega
    subst ew
    refine mL2 (R_code_48 n) (fun x mm => ∃ c : Nat, x = (c : Int) ∧ m 177 18 ≤ c ∧ (∀ d : Int, m 177 18 ≤ d → d < c → (d - 1) % (n - 1) ≠ 0) ∧ (∀ k : Nat, k < c → mm 199 k = mWg (m 177) k) ∧ ∀ q i, q ≠ 199 → mm q i = m q i) (fun x _ => (30 - x).toNat) ?_ (m 177 18) mm ⟨(m 177 18).toNat, by omega, by omega, fun d a b => by omega, fun k hk => s2 k (by omega), fr⟩ (by omega)
    rintro fu2 x mm2 ⟨c, ex, h2, h4, h5, fr2⟩ ih2
    subst ex
    have c19 : c ≤ 19 := by
      rcases Nat.lt_or_ge c 20 with q | q
      · omega
      · exfalso
        have hb := pad_bd n0 n1 (show 1 ≤ m 177 18 by omega) (d := (c : Int) - 1) (fun e a b => h4 e a (by omega)) (h4 _ (by omega) (by omega)) (by omega)
        omega
    rw [R_code_48, w32e (x := n - 1) (by omega) (by omega), if_pos (by omega), w32e (x := (c : Int) - 1) (by omega) (by omega), Int.tmod_eq_emod_of_nonneg (by omega)]
    by_cases hz : ((c : Int) - 1) % (n - 1) = 0
    · rw [if_pos hz]
      exact mOk_mono (R_run_ok n0 n1 c19 hz h5) (fun r k => ⟨Or.inr (Or.inr ⟨by omega, c, ⟨by omega, hz, h4⟩, k.1⟩), fun q i a => by rw [k.2 q i a]; exact fr2 q i a⟩)
    · rw [if_neg hz, if_pos (by omega), w32e (by omega) (by omega)]
      refine mOk_st1 (ih2 _ _ ⟨c + 1, by omega, by omega, fun d a b => ?_, fun k hk => ?_, fun q i a => by rw [aup_of (by omega)]; exact fr2 q i a⟩ (by omega))
      · by_cases e : d = c
        · rw [e]; exact hz
        · exact h4 d a (by omega)
      · by_cases e : k = c
        · rw [aup_at rfl (by omega)]
          unfold mWg
          rw [if_neg (by omega)]
        · rw [aup_of (by omega)]
          exact h5 k (by omega)
theorem st_code {n : Nat} {m : aM} (h : mInv n m) (x1 : Int) : ∃ r m1 m2, B_code x1 m = some (r, m1) ∧ R_code x1 m1 = some (r, m2) ∧ mInv (n + 1) m2 := by
  have hi := mInv_0 h
  by_cases c : 2 ≤ x1 ∧ x1 ≤ 8
  · obtain ⟨⟨r, m1⟩, k1, p1, p2⟩ := B_code_ok (n := x1) h.2.2.1 h.2.2.2.1.1.2.2.1 (fun w w0 w1 => (h.2.2.2.1.2.2.2.1 w w0 w1).2.1) c.1 c.2
    dsimp only at p1 p2
    have hs : mSame m (aup m1 176 0 0) := by
      intro q i hd
      unfold mDep at hd
      rw [aup_of (by omega), p2 _ _ (by omega) (by omega)]
    have hi2 := mInv_same (Nat.le_succ n) hs h
    have f177 : aup m1 176 0 0 177 = m 177 := funext fun i => hs 177 i (by unfold mDep; omega)
    have key : ∃ m2, R_code x1 m1 = some (r, m2) ∧ mSame (aup m1 176 0 0) m2 := by
      unfold R_code
      rw [st1e, within_eq, f177]
      by_cases z : m 177 18 < 2
      · refine ⟨aup m1 176 0 0, ?_, mSame.refl _⟩
        by_cases z0 : m 177 18 = 0
        · simp (disch := omega) only [Option.bind_some, reduceIte, if_pos, if_neg]
          rcases p1 with ⟨-, e⟩ | ⟨e, -⟩ | ⟨e, -⟩
          · rw [e]
          · omega
          · omega
        · simp (disch := omega) only [Option.bind_some, reduceIte, if_pos, if_neg]
          rcases p1 with ⟨e, -⟩ | ⟨-, e⟩ | ⟨e, -⟩
          · omega
          · rw [e]
          · omega
      · obtain ⟨⟨r', m2⟩, k2, q1, q2⟩ := R_code_ok (n := x1) (m := aup m1 176 0 0) hi2.2.2.1 c.1 c.2 (by rw [f177]; omega)
        dsimp only at q1 q2
        rw [f177] at q1 k2
        refine ⟨m2, ?_, fun q i hd => q2 _ _ (by unfold mDep at hd; omega)⟩
        simp (disch := omega) only [Option.bind_some, reduceIte, if_pos, if_neg]
        rw [k2, mCode_uni p1 q1]
    obtain ⟨m2, k2, hs2⟩ := key
    refine ⟨r, m1, m2, ?_, k2, mInv_same (Nat.le_refl _) hs2 hi2⟩
    unfold B_code
    rw [if_neg (by omega), if_neg (by omega), k1]
    rfl
  · refine ⟨-3, m, aup m 176 0 0, ?_, ?_, hi⟩
    · unfold B_code B_code_6
      by_cases d : x1 < 2
      · rw [if_pos d]
      · rw [if_neg d, if_pos (by omega)]
    · unfold R_code
      simp (disch := omega) only [st1e, within_eq, Option.bind_some, reduceIte, if_pos, if_neg]
