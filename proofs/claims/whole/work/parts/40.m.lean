/-! WHAT A PROGRAM TEXT ANSWERS -/
def mOk {α : Type} (o : Option α) (Q : α → Prop) : Prop := ∃ r, o = some r ∧ Q r
theorem mOk_some {α : Type} {r : α} {Q : α → Prop} (h : Q r) : mOk (some r) Q := ⟨r, rfl, h⟩
theorem mOk_bind {α β : Type} {o : Option α} {f : α → Option β} {P : α → Prop} {Q : β → Prop} (h : mOk o P) (k : ∀ r, P r → mOk (f r) Q) : mOk (o.bind f) Q := by
  obtain ⟨r, rfl, hr⟩ := h
  exact k r hr
theorem mOk_mono {α : Type} {o : Option α} {P Q : α → Prop} (h : mOk o P) (k : ∀ r, P r → Q r) : mOk o Q := by
  obtain ⟨r, rfl, hr⟩ := h
  exact ⟨r, rfl, k r hr⟩
theorem mOk_st1 {α : Type} {m : aM} {k : aM → Option α} {Q : α → Prop} (h : mOk (k m) Q) : mOk (st1 m k) Q := h
theorem st1e {α : Type} (m : aM) (k : aM → Option α) : st1 m k = k m := by
  cases h : st1 m k with
  | none => exact h.symm
  | some r => exact h.symm
theorem mOk_ite {α : Type} {c : Prop} [Decidable c] {a b : Option α} {Q : α → Prop} (h1 : c → mOk a Q) (h2 : ¬c → mOk b Q) : mOk (if c then a else b) Q := by
  by_cases hc : c
  · rw [if_pos hc]; exact h1 hc
  · rw [if_neg hc]; exact h2 hc
theorem mOk_gd {α : Type} {c : Prop} [Decidable c] {a b : Option α} {Q : α → Prop} (hc : c) (h1 : mOk a Q) : mOk (if c then a else b) Q := by
  rw [if_pos hc]; exact h1
theorem mOk_ng {α : Type} {c : Prop} [Decidable c] {a b : Option α} {Q : α → Prop} (hc : ¬c) (h1 : mOk b Q) : mOk (if c then a else b) Q := by
  rw [if_neg hc]; exact h1
theorem mLoop {σ α : Type} (F : Nat → σ → Option α) (I : σ → Prop) (μ : σ → Nat) {Q : α → Prop} (step : ∀ n s, I s → (∀ s', I s' → μ s' < μ s → mOk (F n s') Q) → mOk (F (n + 1) s) Q) : ∀ n s, I s → μ s < n → mOk (F n s) Q := by
  intro n
  induction n with
  | zero => intro s _ h; omega
  | succ n ih =>
    intro s hs hm
    exact step n s hs (fun s' hs' hl => ih s' hs' (by omega))
theorem mLoopFU {σ α : Type} (F : Nat → σ → Option α) (I : σ → Prop) (μ : σ → Nat) {Q : α → Prop} (step : ∀ n s, I s → (∀ s', I s' → μ s' < μ s → mOk (F n s') Q) → mOk (F (n + 1) s) Q) (s : σ) (hs : I s) (hm : μ s < 1000000) : mOk (F FU s) Q :=
  mLoop F I μ step FU s hs hm
theorem mL1 {σ α : Type} (F : Nat → σ → Option α) (I : σ → Prop) (μ : σ → Nat) {Q : α → Prop} (step : ∀ n a, I a → (∀ a', I a' → μ a' < μ a → mOk (F n a') Q) → mOk (F (n + 1) a) Q) (a : σ) (hs : I a) (hm : μ a < 1000000) : mOk (F FU a) Q :=
  mLoop F I μ step FU a hs hm
theorem mL2 {σ τ α : Type} (F : Nat → σ → τ → Option α) (I : σ → τ → Prop) (μ : σ → τ → Nat) {Q : α → Prop} (step : ∀ n a b, I a b → (∀ a' b', I a' b' → μ a' b' < μ a b → mOk (F n a' b') Q) → mOk (F (n + 1) a b) Q) (a : σ) (b : τ) (hs : I a b) (hm : μ a b < 1000000) : mOk (F FU a b) Q :=
  mLoop (fun n s => F n s.1 s.2) (fun s => I s.1 s.2) (fun s => μ s.1 s.2) (fun n s hs ih => step n s.1 s.2 hs (fun a' b' h1 h2 => ih (a', b') h1 h2)) FU (a, b) hs hm
theorem mL3 {σ τ υ α : Type} (F : Nat → σ → τ → υ → Option α) (I : σ → τ → υ → Prop) (μ : σ → τ → υ → Nat) {Q : α → Prop} (step : ∀ n a b c, I a b c → (∀ a' b' c', I a' b' c' → μ a' b' c' < μ a b c → mOk (F n a' b' c') Q) → mOk (F (n + 1) a b c) Q) (a : σ) (b : τ) (c : υ) (hs : I a b c) (hm : μ a b c < 1000000) : mOk (F FU a b c) Q :=
  mLoop (fun n s => F n s.1 s.2.1 s.2.2) (fun s => I s.1 s.2.1 s.2.2) (fun s => μ s.1 s.2.1 s.2.2) (fun n s hs ih => step n s.1 s.2.1 s.2.2 hs (fun a' b' c' h1 h2 => ih (a', b', c') h1 h2)) FU (a, b, c) hs hm
theorem mL4 {σ τ υ ω α : Type} (F : Nat → σ → τ → υ → ω → Option α) (I : σ → τ → υ → ω → Prop) (μ : σ → τ → υ → ω → Nat) {Q : α → Prop} (step : ∀ n a b c d, I a b c d → (∀ a' b' c' d', I a' b' c' d' → μ a' b' c' d' < μ a b c d → mOk (F n a' b' c' d') Q) → mOk (F (n + 1) a b c d) Q) (a : σ) (b : τ) (c : υ) (d : ω) (hs : I a b c d) (hm : μ a b c d < 1000000) : mOk (F FU a b c d) Q :=
  mLoop (fun n s => F n s.1 s.2.1 s.2.2.1 s.2.2.2) (fun s => I s.1 s.2.1 s.2.2.1 s.2.2.2) (fun s => μ s.1 s.2.1 s.2.2.1 s.2.2.2) (fun n s hs ih => step n s.1 s.2.1 s.2.2.1 s.2.2.2 hs (fun a' b' c' d' h1 h2 => ih (a', b', c', d') h1 h2)) FU (a, b, c, d) hs hm
theorem w32e {x : Int} (h1 : -2147483648 ≤ x) (h2 : x < 2147483648) : w32 x = x := w32_id ⟨h1, h2⟩
theorem w64e {x : Int} (h1 : -9223372036854775808 ≤ x) (h2 : x < 9223372036854775808) : w64 x = x := w64_id ⟨h1, h2⟩
theorem w8e {x : Int} (h1 : -128 ≤ x) (h2 : x < 128) : w8 x = x := w8_id ⟨h1, h2⟩
theorem w16e {x : Int} (h1 : -32768 ≤ x) (h2 : x < 32768) : w16 x = x := w16_id ⟨h1, h2⟩
theorem aup_of {m : aM} {q i q' i' : Nat} {v : Int} (h : q' ≠ q ∨ i' ≠ i) : aup m q i v q' i' = m q' i' := by
  unfold aup
  by_cases h1 : q' = q
  · rw [if_pos h1]
    rcases h with h | h
    · exact absurd h1 h
    · rw [if_neg h]
  · rw [if_neg h1]
theorem aup_at {m : aM} {q i q' i' : Nat} {v : Int} (h1 : q' = q) (h2 : i' = i) : aup m q i v q' i' = v := by
  rw [h1, h2]; exact aup_self m q i v
theorem aupr_of {m : aM} {q q' : Nat} {f : Nat → Int} (h : q' ≠ q) : aupr m q f q' = m q' := aupr_ne m f h
theorem aupr_at {m : aM} {q q' : Nat} {f : Nat → Int} (h : q' = q) : aupr m q f q' = f := by rw [h]; exact aupr_self m q f
/-- the first place below n at which P holds, or -1 -/
def mFst (P : Int → Prop) (n r : Int) : Prop := (r = -1 ∧ ∀ i, 0 ≤ i → i < n → ¬ P i) ∨ (0 ≤ r ∧ r < n ∧ P r ∧ ∀ i, 0 ≤ i → i < r → ¬ P i)
theorem mFst_uni {P P' : Int → Prop} {n r r' : Int} (hp : ∀ i, 0 ≤ i → i < n → (P i ↔ P' i)) (h : mFst P n r) (h' : mFst P' n r') : r = r' := by
  rcases h with ⟨a, b⟩ | ⟨a, b, c, d⟩ <;> rcases h' with ⟨a', b'⟩ | ⟨a', b', c', d'⟩
  · omega
  · exact absurd ((hp r' a' b').mpr c') (b r' a' b')
  · exact absurd ((hp r a b).mp c) (b' r a b)
  · by_cases h1 : r < r'
    · exact absurd ((hp r a b).mp c) (d' r a h1)
    · by_cases h2 : r' < r
      · exact absurd ((hp r' a' b').mpr c') (d r' a' h2)
      · omega
theorem mFst_lt {P : Int → Prop} {n r : Int} (h : mFst P n r) : -1 ≤ r ∧ (r < n ∨ r = -1) := by
  rcases h with ⟨a, b⟩ | ⟨a, b, c, d⟩ <;> omega
/-- the sum of f over 0 .. n - 1 -/
def mSum (f : Int → Int) : Nat → Int
  | 0 => 0
  | n + 1 => mSum f n + f (n : Int)
theorem mSum_congr {f g : Int → Int} : ∀ {n : Nat}, (∀ i : Int, 0 ≤ i → i < n → f i = g i) → mSum f n = mSum g n := by
  intro n
  induction n with
  | zero => intro _; rfl
  | succ n ih =>
    intro h
    show mSum f n + f n = mSum g n + g n
    rw [ih (fun i h0 h1 => h i h0 (by omega)), h n (by omega) (by omega)]
theorem mSum_bd {f : Int → Int} {c : Int} (hc : 0 ≤ c) : ∀ {n : Nat}, (∀ i : Int, 0 ≤ i → i < n → 0 ≤ f i ∧ f i ≤ c) → 0 ≤ mSum f n ∧ mSum f n ≤ n * c := by
  intro n
  induction n with
  | zero => intro _; exact ⟨Int.le_refl _, by simp [mSum]⟩
  | succ n ih =>
    intro h
    have h1 := ih (fun i h0 h1 => h i h0 (by omega))
    have h2 := h n (by omega) (by omega)
    show 0 ≤ mSum f n + f n ∧ mSum f n + f n ≤ ((n + 1 : Nat) : Int) * c
    have : ((n + 1 : Nat) : Int) * c = n * c + c := by rw [Int.natCast_add, Int.add_mul]; simp
    omega
