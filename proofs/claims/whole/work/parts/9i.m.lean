/-! TWO SENTENCES, SOUND BY SOUND; the class finds just these -/
def xSt (X : aM) (w i w' i' : Int) : Prop := (i + 1 < xl X w ∧ w' = w ∧ i' = i + 1) ∨ (i + 1 = xl X w ∧ xa X w' ∧ xf X (xk X w) w' ∧ i' = 0)
def xHr (X : aM) (M x y e f e' f' : Int) : Prop := (x = y ∧ e' = e ∧ f' = f) ∨ (x ≠ y ∧ xi X x y ∧ ((e' = e ∧ f' = f + 1 ∧ f < M) ∨ (e' = e + 1 ∧ f' = f ∧ e < M))) ∨ (x ≠ y ∧ ¬ xi X x y ∧ xc X x y ∧ e < M ∧ f < M ∧ e' = e + 1 ∧ f' = f + 1)
/-- behind n + 1 sounds: both sentences' words and places, their mistakes; they differ from their first words on -/
def xR (X : aM) (M : Int) : Nat → Int → Int → Int → Int → Int → Int → Prop
  | 0, w, i, v, j, e, f => xa X w ∧ xa X v ∧ w ≠ v ∧ i = 0 ∧ j = 0 ∧ xHr X M (xs X w 0) (xs X v 0) 0 0 e f
  | n + 1, w, i, v, j, e, f => ∃ w' i' v' j' e' f', xR X M n w' i' v' j' e' f' ∧ xSt X w' i' w i ∧ xSt X v' j' v j ∧ xHr X M (xs X w i) (xs X v j) e' f' e f
/-- like is like both ways, where that matters -/
def xSym (X : aM) (M : Int) : Prop := M = 0 ∨ ∀ w i v j : Int, xa X w → 0 ≤ i → i < xl X w → xa X v → 0 ≤ j → j < xl X v → xi X (xs X w i) (xs X v j) → xi X (xs X v j) (xs X w i)
theorem xc_sym {X : aM} {x y : Int} (h : xc X x y) : xc X y x := by
  unfold xc at *
  unfold iand at *
  rw [Int32.and_comm]
  exact h
theorem xHr_bd {X : aM} {M x y e f e' f' : Int} (e0 : 0 ≤ e ∧ e ≤ M) (f0 : 0 ≤ f ∧ f ≤ M) (h : xHr X M x y e f e' f') : (0 ≤ e' ∧ e' ≤ M) ∧ (0 ≤ f' ∧ f' ≤ M) := by
  rcases h with ⟨-, h1, h2⟩ | ⟨-, -, ⟨h1, h2, h3⟩ | ⟨h1, h2, h3⟩⟩ | ⟨-, -, -, h3, h4, h1, h2⟩ <;> omega
theorem xSt_v {X : aM} {w i w' i' : Int} (hv : mTv X) (aw : xa X w) (i0 : 0 ≤ i ∧ i < xl X w) (h : xSt X w i w' i') : xa X w' ∧ 0 ≤ i' ∧ i' < xl X w' := by
  rcases h with ⟨h1, rfl, rfl⟩ | ⟨h1, h2, h3, rfl⟩
  · exact ⟨aw, by omega, by omega⟩
  · have := (hv.2.1 w' h2).1; exact ⟨h2, by omega, by omega⟩
theorem xR_v {X : aM} {M : Int} (hv : mTv X) (M0 : 0 ≤ M) : ∀ {n : Nat} {w i v j e f : Int}, xR X M n w i v j e f → (xa X w ∧ 0 ≤ i ∧ i < xl X w) ∧ (xa X v ∧ 0 ≤ j ∧ j < xl X v) ∧ (0 ≤ e ∧ e ≤ M) ∧ (0 ≤ f ∧ f ≤ M) := by
  intro n
  induction n with
  | zero =>
    rintro w i v j e f ⟨aw, av, -, rfl, rfl, hr⟩
    have lw := (hv.2.1 w aw).1
    have lv := (hv.2.1 v av).1
    exact ⟨⟨aw, by omega, by omega⟩, ⟨av, by omega, by omega⟩, xHr_bd (by omega) (by omega) hr⟩
  | succ n ih =>
    rintro w i v j e f ⟨w', i', v', j', e', f', h, s1, s2, hr⟩
    obtain ⟨a1, a2, a3, a4⟩ := ih h
    exact ⟨xSt_v hv a1.1 a1.2 s1, xSt_v hv a2.1 a2.2 s2, xHr_bd a3 a4 hr⟩
theorem xHr_sym {X : aM} {M w i v j e f e' f' : Int} (hs : xSym X M) (aw : xa X w) (i0 : 0 ≤ i ∧ i < xl X w) (av : xa X v) (j0 : 0 ≤ j ∧ j < xl X v) (e0 : 0 ≤ e) (f0 : 0 ≤ f) (h : xHr X M (xs X w i) (xs X v j) e f e' f') : xHr X M (xs X v j) (xs X w i) f e f' e' := by
  rcases h with ⟨h1, h2, h3⟩ | ⟨h1, h2, h3⟩ | ⟨h1, h2, h3, h4, h5, h6, h7⟩
  · exact Or.inl ⟨h1.symm, h3, h2⟩
  · rcases hs with hs | hs
    · omega
    refine Or.inr (Or.inl ⟨fun g => h1 g.symm, hs w i v j aw i0.1 i0.2 av j0.1 j0.2 h2, ?_⟩)
    rcases h3 with ⟨a, b, c⟩ | ⟨a, b, c⟩
    · exact Or.inr ⟨b, a, c⟩
    · exact Or.inl ⟨b, a, c⟩
  · rcases hs with hs | hs
    · omega
    exact Or.inr (Or.inr ⟨fun g => h1 g.symm, fun g => h2 (hs v j w i av j0.1 j0.2 aw i0.1 i0.2 g), xc_sym h3, h5, h4, h7, h6⟩)
theorem xR_sym {X : aM} {M : Int} (hv : mTv X) (hs : xSym X M) (M0 : 0 ≤ M) : ∀ {n : Nat} {w i v j e f : Int}, xR X M n w i v j e f → xR X M n v j w i f e := by
  intro n
  induction n with
  | zero =>
    rintro w i v j e f ⟨aw, av, ne, rfl, rfl, hr⟩
    have lw := hv.2.1 w aw
    have lv := hv.2.1 v av
    exact ⟨av, aw, fun g => ne g.symm, rfl, rfl, xHr_sym hs aw (by omega) av (by omega) (by omega) (by omega) hr⟩
  | succ n ih =>
    rintro w i v j e f h
    obtain ⟨b1, b2, -, -⟩ := xR_v hv M0 h
    obtain ⟨w', i', v', j', e', f', h, s1, s2, hr⟩ := h
    obtain ⟨-, -, x3, x4⟩ := xR_v hv M0 h
    exact ⟨v', j', w', i', f', e', ih h, s2, s1, xHr_sym hs b1.1 b1.2 b2.1 b2.2 x3.1 x4.1 hr⟩
/-- a word met by another, sound by sound -/
theorem xR_meet {X : aM} {M w off v e f : Int} {L : Nat} (e0 : 0 ≤ e ∧ e ≤ M) (f0 : 0 ≤ f ∧ f ≤ M) (off0 : 0 ≤ off) (start : ∀ e' f', xHr X M (xs X w off) (xs X v 0) e f e' f' → xR X M L w off v 0 e' f') : ∀ (t : Nat) (ei bo x : Int), off + t < xl X w → (t : Int) < xl X v → mTl X w off v (t + 1) ei bo → 0 ≤ x → x ≤ ei → e + bo + x ≤ M → f + bo + ei - x ≤ M → xR X M (L + t) w (off + t) v t (e + bo + x) (f + bo + ei - x) := by
  -- one sound more, of any mistakes
  have key : ∀ (t : Nat) (ei bo ei' bo' x : Int) (P : Int → Int → Prop), (0 ≤ ei' ∧ 0 ≤ bo') → (∀ x', 0 ≤ x' → x' ≤ ei' → e + bo' + x' ≤ M → f + bo' + ei' - x' ≤ M → P (e + bo' + x') (f + bo' + ei' - x')) → ((xs X w (off + t) = xs X v t ∧ ei = ei' ∧ bo = bo') ∨ (xs X w (off + t) ≠ xs X v t ∧ xi X (xs X w (off + t)) (xs X v t) ∧ ei = ei' + 1 ∧ bo = bo') ∨ (xs X w (off + t) ≠ xs X v t ∧ ¬ xi X (xs X w (off + t)) (xs X v t) ∧ xc X (xs X w (off + t)) (xs X v t) ∧ ei = ei' ∧ bo = bo' + 1)) → 0 ≤ x → x ≤ ei → e + bo + x ≤ M → f + bo + ei - x ≤ M → ∃ e1 f1, P e1 f1 ∧ xHr X M (xs X w (off + t)) (xs X v t) e1 f1 (e + bo + x) (f + bo + ei - x) := by
    intro t ei bo ei' bo' x P tb hP k x0 x1 c1 c2
    rcases k with ⟨k1, rfl, rfl⟩ | ⟨k1, k2, rfl, rfl⟩ | ⟨k1, k2, k3, rfl, rfl⟩
    · exact ⟨_, _, hP x x0 x1 c1 c2, Or.inl ⟨k1, rfl, rfl⟩⟩
    · by_cases y : x ≤ ei'
      · exact ⟨_, _, hP x x0 y c1 (by omega), Or.inr (Or.inl ⟨k1, k2, Or.inl ⟨rfl, by omega, by omega⟩⟩)⟩
      · exact ⟨_, _, hP (x - 1) (by omega) (by omega) (by omega) (by omega), Or.inr (Or.inl ⟨k1, k2, Or.inr ⟨by omega, by omega, by omega⟩⟩)⟩
    · exact ⟨_, _, hP x x0 x1 (by omega) (by omega), Or.inr (Or.inr ⟨k1, k2, k3, by omega, by omega, by omega, by omega⟩)⟩
  intro t
  induction t with
  | zero =>
    intro ei bo x l1 l2 tl x0 x1 c1 c2
    obtain ⟨ei', bo', ⟨z1, z2⟩, k⟩ := tl
    obtain ⟨e1, f1, ⟨p1, p2⟩, hr⟩ := key 0 ei bo ei' bo' x (fun a b => a = e ∧ b = f) (by omega) (fun x' a b _ _ => ⟨by omega, by omega⟩) k x0 x1 c1 c2
    rw [p1, p2] at hr
    have e2 : off + ((0 : Nat) : Int) = off := by omega
    rw [e2] at hr ⊢
    exact start _ _ hr
  | succ t ih =>
    intro ei bo x l1 l2 tl x0 x1 c1 c2
    obtain ⟨ei', bo', tl', k⟩ := tl
    have tb := mTl_bd tl'
    obtain ⟨e1, f1, p, hr⟩ := key (t + 1) ei bo ei' bo' x (fun a b => xR X M (L + t) w (off + t) v t a b) ⟨tb.1, tb.2.1⟩ (fun x' a b c d => ih ei' bo' x' (by omega) (by omega) tl' a b c d) k x0 x1 c1 c2
    exact ⟨w, off + t, v, t, e1, f1, p, Or.inl ⟨by omega, rfl, by omega⟩, Or.inl ⟨by omega, rfl, by omega⟩, hr⟩
/-- what a state of the class stands for -/
def xD (X : aM) (M s L : Int) : Prop :=
  (∃ w, xa X w ∧ s = mSt3 X M w ∧ L = 0) ∨
  (∃ (w out kb e f : Int) (n : Nat) (a i b j : Int), s = mOd M w out kb e f ∧ (xa X w ∧ (1 ≤ out ∧ out ≤ xl X w) ∧ (0 ≤ kb ∧ kb ≤ 3)) ∧ L = n + 1 ∧ xR X M n a i b j e f ∧ j + 1 = xl X b ∧ xk X b = kb ∧ xSt X a i w (xl X w - out)) ∨
  (∃ (k1 k2 e f : Int) (n : Nat) (a i b j : Int), s = mEv M k1 k2 e f ∧ L = n + 1 ∧ xR X M n a i b j e f ∧ i + 1 = xl X a ∧ j + 1 = xl X b ∧ xk X a = k1 ∧ xk X b = k2)
theorem mOd_inj {M w out kb e f w' out' kb' e' f' : Int} (hM : mM3 M) (a : 0 ≤ w ∧ w < 13) (b : 1 ≤ out ∧ out ≤ 7) (g : 0 ≤ kb ∧ kb ≤ 4) (c : 0 ≤ e ∧ e ≤ M) (d : 0 ≤ f ∧ f ≤ M) (a' : 0 ≤ w' ∧ w' < 13) (b' : 1 ≤ out' ∧ out' ≤ 7) (g' : 0 ≤ kb' ∧ kb' ≤ 4) (c' : 0 ≤ e' ∧ e' ≤ M) (d' : 0 ≤ f' ∧ f' ≤ M) (h : mOd M w out kb e f = mOd M w' out' kb' e' f') : w = w' ∧ out = out' ∧ kb = kb' ∧ e = e' ∧ f = f' := by
  obtain ⟨x1, x2, x3, x4⟩ := mOd_dec hM a b g c d
  obtain ⟨y1, y2, y3, y4⟩ := mOd_dec hM a' b' g' c' d'
  rw [h] at x1 x2
  have z : e * (M + 1) + f = e' * (M + 1) + f' := by omega
  rw [z] at x3 x4
  omega
theorem mEv_inj {M k1 k2 e f k1' k2' e' f' : Int} (hM : mM3 M) (a : 0 ≤ k1 ∧ k1 ≤ 3) (b : 0 ≤ k2 ∧ k2 ≤ 3) (c : 0 ≤ e ∧ e ≤ M) (d : 0 ≤ f ∧ f ≤ M) (a' : 0 ≤ k1' ∧ k1' ≤ 3) (b' : 0 ≤ k2' ∧ k2' ≤ 3) (c' : 0 ≤ e' ∧ e' ≤ M) (d' : 0 ≤ f' ∧ f' ≤ M) (h : mEv M k1 k2 e f = mEv M k1' k2' e' f') : k1 = k1' ∧ k2 = k2' ∧ e = e' ∧ f = f' := by
  obtain ⟨x1, x2, x3, x4⟩ := mEv_dec hM a b c d
  obtain ⟨y1, y2, y3, y4⟩ := mEv_dec hM a' b' c' d'
  rw [h] at x1 x2
  have z : e * (M + 1) + f = e' * (M + 1) + f' := by omega
  rw [z] at x3 x4
  omega
