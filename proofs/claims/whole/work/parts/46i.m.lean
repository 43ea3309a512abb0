/-! THE START: what the two new objects hold -/
theorem bt_0 {k : Int} (h0 : 0 ≤ k) (h1 : k ≤ 31) : iand (ishr 0 k) 1 = 0 := by
  rw [bt_eq (by omega) (by omega) h0 h1]
  simp
theorem mTok_0 {A : Nat → Int} (h : ∀ k, A k = 0) : mTok A := by
  unfold mTok
  simp only [h]
  refine ⟨by omega, fun s h0 h1 => by omega, by omega, fun s h0 h1 => ⟨by omega, by omega, fun b b0 b1 hb => absurd (bt_0 b0 (by omega)) hb⟩, by omega, fun w h0 h1 => by omega, fun v w h0 h1 h2 => by omega, fun k h0 h1 => by omega, by omega, by omega, fun s h0 h1 => by omega, by omega, by omega, fun k h0 h1 => by omega⟩
theorem mInv_start : mInv 0 mg_62 := by
  have e177 : ∀ k, mg_62 177 k = 0 := fun k => rfl
  have e27 : ∀ k : Fin 8, mg_62 27 k.val = 0 := by decide +kernel
  have e44 : ∀ k : Fin 4, mg_62 44 k.val = 15 := by decide +kernel
  have e205 : ∀ k : Fin 4, mg_62 205 k.val = -1 ∧ mg_62 57 k.val = -1 := by decide +kernel
  have e127 : ∀ k : Fin 2, mg_62 127 k.val = 0 ∧ mg_62 178 k.val = 0 := by decide +kernel
  have e107 : ∀ k : Fin 3, mg_62 107 k.val = -2 := by decide +kernel
  have e109 : ∀ k : Fin 4, mg_62 109 k.val = 0 := by decide +kernel
  have e193 : ∀ k, mg_62 193 k = 0 := fun k => rfl
  have s : ∀ q i v, decide (mg_62 q i = v) = true → mg_62 q i = v := fun q i v h => of_decide_eq_true h
  have t11 : mg_62 1 1 = 0 := s _ _ _ (by decide +kernel)
  refine ⟨⟨by omega, ?_, fun k h0 h1 => by omega⟩, ⟨?_, ?_⟩, ?_, ?_, ?_, ?_, ⟨?_, ?_, ?_, ?_⟩, Or.inl ?_, ?_⟩
  · rw [t11]; exact s _ _ _ (by decide +kernel)
  · rw [s 176 13 0 (by decide +kernel), s 1 7 0 (by decide +kernel)]
  · rw [s 176 14 (-1) (by decide +kernel), s 1 8 (-1) (by decide +kernel)]
  · exact mTok_0 e177
  · unfold mTR
    simp only [e177]
    refine ⟨⟨s _ _ _ (by decide +kernel), s _ _ _ (by decide +kernel), s _ _ _ (by decide +kernel), s _ _ _ (by decide +kernel), s _ _ _ (by decide +kernel), s _ _ _ (by decide +kernel)⟩, fun s h0 h1 => by omega, fun s h0 h1 => e27 ⟨s.toNat, by omega⟩, fun w h0 h1 => by omega, fun k h0 h1 => e44 ⟨k.toNat, by omega⟩, fun s h0 h1 => by omega, s _ _ _ (by decide +kernel), fun k h0 h1 => by omega⟩
  · intro r h0 h1
    exact Or.inl (e205 ⟨r.toNat, by omega⟩)
  · intro i h0 h1
    have h := e127 ⟨i.toNat, by omega⟩
    exact ⟨by rw [h.1, h.2], Or.inl h.1⟩
  · rw [s 176 30 0 (by decide +kernel)]; omega
  · intro k
    rw [e193, s 176 30 0 (by decide +kernel)]
    exact Int.le_refl _
  · exact s _ _ _ (by decide +kernel)
  · exact s _ _ _ (by decide +kernel)
  · exact s _ _ _ (by decide +kernel)
  · exact mMendC_forget (fun j hj => e107 ⟨j, hj⟩) (s _ _ _ (by decide +kernel)) (fun j hj => e109 ⟨j, hj⟩) (s _ _ _ (by decide +kernel)) (s _ _ _ (by decide +kernel)) (s _ _ _ (by decide +kernel))
theorem mInv_up (n : Nat) (m : aM) (h : mInv n m) : mInv (n + 1) m := mInv_same (Nat.le_succ n) (mSame.refl m) h
