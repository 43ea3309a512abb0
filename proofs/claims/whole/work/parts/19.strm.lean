/-! STRINGS: the methods behind length() and charAt() -/
theorem aChr_ok : ∀ k, k < 10 → ∀ j, j < aLen.getD k 0 → i2c (iand (aChr k j) 255) = aChr k j ∧ 0 ≤ aChr k j ∧ aChr k j < 128 := by decide +kernel
theorem aLen_ok : ∀ k, k < 10 → ishr ((aLen.getD k 0 : Nat) : Int) 0 = ((aLen.getD k 0 : Nat) : Int) := by decide +kernel
section SM
variable {l : Launch} {D : va_G} {cA : FieldType → ClassId} {ad adV : Nat → Nat} {z0 : Nat} {mm : aM}
theorem g_getsq {p : Program} {e : Env} {R : Room} {s : State} {m : MethodId} {args : Array Value} {below : List Frame} {meth : Method} {c : Code} {M : aMI} {al0 : List Nat} {i : Nat} {lv : List (Nat × aV)} {st : List aV} {α : Type} {ρ : α → Option aV × aM} {code : Option α} (K : aK p s m args meth c M D cA ad adV z0) {idx : Nat} (hd : aD M i (.getstatic idx) 3) (hlink : Cond.fieldLink M.1.cls idx "jdk/internal/util/Preconditions" "SIOOBE_FORMATTER" "Ljava/util/function/BiFunction;" ∈ aTbl) (kk : ∀ v, aFmt v → aG p l e R s m args below meth c D cA ad z0 M al0 ρ code (i + 1) lv (v :: st) mm) : aG p l e R s m args below meth c D cA ad z0 M al0 ρ code i lv st mm := fun bl r hr => aw_getsq K hd hlink (fun v hv => kk v hv bl r hr)
theorem met_coder {k : Nat} (hk : k < 10) : aMet l D cA ad adV z0 mJ0_coder_7d493 0 0 0 0 [.inr (.inr (.inr k))] SH mm (rI mm 0).1 SH (rI mm 0).2 := by
  refine aMet_ofG (code := some (0 : Int)) (ρ := rI mm) (by decide +kernel) rfl (Nat.le_of_ble_eq_true rfl) rfl (fun p e s m args below meth c al0 K => ?_)
  refine gl (i' := 1) (fun _ _ => aw_gets K (dOf ck_mJ0_coder_7d493 rfl rfl) wd_519) ?_
  refine gl (i' := 2) (fun _ _ k9 => aw_if_eq K (dOf ck_mJ0_coder_7d493 rfl rfl) (t := 5) (aJ_of (by decide +kernel)) (fun z => absurd z (by decide)) (fun _ => k9)) ?_
  refine gl (i' := 3) (fun _ _ => aw_sload_n K (dOf ck_mJ0_coder_7d493 rfl rfl) rfl) ?_
  refine gl (i' := 4) (fun _ _ => aw_sgetc K hk (dOf ck_mJ0_coder_7d493 rfl rfl) wd_1701) ?_
  refine g_goto K (dOf ck_mJ0_coder_7d493 rfl rfl).1 (t := 6) (aJ_of (by decide +kernel)) ?_
  exact g_iret K (by decide +kernel) rfl (Or.inr (Or.inr (Or.inl ⟨rfl, rfl⟩))) rfl
theorem met_isLatin1 {k : Nat} (hk : k < 10) : aMet l D cA ad adV z0 mJ0_isLatin1_aae02 0 0 0 0 [.inr (.inr (.inr k))] SH mm (rI mm 1).1 SH (rI mm 1).2 := by
  refine aMet_ofG (code := some (1 : Int)) (ρ := rI mm) (by decide +kernel) rfl (Nat.le_of_ble_eq_true rfl) rfl (fun p e s m args below meth c al0 K => ?_)
  refine gl (i' := 1) (fun _ _ => aw_gets K (dOf ck_mJ0_isLatin1_aae02 rfl rfl) wd_519) ?_
  refine gl (i' := 2) (fun _ _ k9 => aw_if_eq K (dOf ck_mJ0_isLatin1_aae02 rfl rfl) (t := 7) (aJ_of (by decide +kernel)) (fun z => absurd z (by decide)) (fun _ => k9)) ?_
  refine gl (i' := 3) (fun _ _ => aw_sload_n K (dOf ck_mJ0_isLatin1_aae02 rfl rfl) rfl) ?_
  refine gl (i' := 4) (fun _ _ => aw_sgetc K hk (dOf ck_mJ0_isLatin1_aae02 rfl rfl) wd_1701) ?_
  refine gl (i' := 5) (fun _ _ k9 => aw_if_ne K (dOf ck_mJ0_isLatin1_aae02 rfl rfl) (t := 7) (aJ_of (by decide +kernel)) (fun z => absurd rfl z) (fun _ => k9)) ?_
  refine gl (i' := 6) (fun _ _ => aw_iconst K (n := 1) (i32 _ rfl) (dOf ck_mJ0_isLatin1_aae02 rfl rfl)) ?_
  refine g_goto K (dOf ck_mJ0_isLatin1_aae02 rfl rfl).1 (t := 8) (aJ_of (by decide +kernel)) ?_
  exact g_iret K (by decide +kernel) rfl (Or.inr (Or.inl ⟨rfl, Or.inr rfl⟩)) rfl
theorem met_strLen {k : Nat} (hk : k < 10) {b : Int} (h : sLen k = some b) : aMet l D cA ad adV z0 mJ0_length_8abf5 1 20 0 0 [.inr (.inr (.inr k))] SH mm (rI mm b).1 SH (rI mm b).2 := by
  cases h
  refine aMet_ofG (code := some ((aLen.getD k 0 : Nat) : Int)) (ρ := rI mm) (by decide +kernel) rfl (Nat.le_of_ble_eq_true rfl) rfl (fun p e s m args below meth c al0 K => ?_)
  refine gl (i' := 1) (fun _ _ => aw_sload_n K (dOf ck_mJ0_length_8abf5 rfl rfl) rfl) ?_
  refine gl (i' := 2) (fun _ _ => aw_sgetv K hk (dOf ck_mJ0_length_8abf5 rfl rfl) wd_1700) ?_
  refine gl (i' := 3) (fun _ _ => aw_salen K hk (dOf ck_mJ0_length_8abf5 rfl rfl)) ?_
  refine gl (i' := 4) (fun _ _ => aw_sload_n K (dOf ck_mJ0_length_8abf5 rfl rfl) rfl) ?_
  refine g_callTI (f := some (0 : Int)) (k := fun _ => some ((aLen.getD k 0 : Nat) : Int)) K [] rfl (dOf ck_mJ0_length_8abf5 rfl rfl) al_java_lang_String_335 hk ⟨wd_516, wd_517⟩ rfl (Nat.le_of_ble_eq_true rfl) ⟨Nat.le_of_ble_eq_true rfl, Nat.le_of_ble_eq_true rfl⟩ (fun b hb => by cases hb; exact met_coder hk) (fun r hr => ?_)
  cases hr
  refine gl (i' := 6) (fun _ _ => aw_ishr K (dOf ck_mJ0_length_8abf5 rfl rfl)) ?_
  rw [aLen_ok k hk]
  exact g_iret K (by decide +kernel) rfl (Or.inl rfl) rfl
theorem met_preCheck {j n : Int} {v : aV} (hv : aFmt v) (h : 0 ≤ j ∧ j < n) : aMet l D cA ad adV z0 mJ3_checkIndex_8e157 0 0 0 0 [.inl j, .inl n, v] SH mm (rI mm j).1 SH (rI mm j).2 := by
  have hw : aWords [.inl j, .inl n, v] ≤ mJ3_checkIndex_8e157.2.2.1 := by rcases hv with rfl | rfl <;> exact Nat.le_of_ble_eq_true rfl
  refine aMet_ofG (code := some j) (ρ := rI mm) (by decide +kernel) rfl hw rfl (fun p e s m args below meth c al0 K => ?_)
  refine gl (i' := 1) (fun _ _ => aw_iload_n K (dOf ck_mJ3_checkIndex_8e157 rfl rfl) rfl) ?_
  refine gl (i' := 2) (fun _ _ k9 => aw_if_lt K (dOf ck_mJ3_checkIndex_8e157 rfl rfl) (t := 5) (aJ_of (by decide +kernel)) (fun z => absurd z (by omega)) (fun _ => k9)) ?_
  refine gl (i' := 3) (fun _ _ => aw_iload_n K (dOf ck_mJ3_checkIndex_8e157 rfl rfl) rfl) ?_
  refine gl (i' := 4) (fun _ _ => aw_iload_n K (dOf ck_mJ3_checkIndex_8e157 rfl rfl) rfl) ?_
  refine gl (i' := 10) (fun _ _ k9 => aw_icmp_lt K (dOf ck_mJ3_checkIndex_8e157 rfl rfl) (t := 10) (aJ_of (by decide +kernel)) (fun _ => k9) (fun z => absurd h.2 z)) ?_
  refine gl (i' := 11) (fun _ _ => aw_iload_n K (dOf ck_mJ3_checkIndex_8e157 rfl rfl) rfl) ?_
  exact g_iret K (by decide +kernel) rfl (Or.inl rfl) rfl
theorem met_strCheck {j n : Int} (h : 0 ≤ j ∧ j < n) : aMet l D cA ad adV z0 mJ0_checkIndex_df160 1 22 0 0 [.inl j, .inl n] SH mm (rM mm).1 SH (rM mm).2 := by
  refine aMet_ofG (code := some mm) (ρ := rM) (by decide +kernel) rfl (Nat.le_of_ble_eq_true rfl) rfl (fun p e s m args below meth c al0 K => ?_)
  refine gl (i' := 1) (fun _ _ => aw_iload_n K (dOf ck_mJ0_checkIndex_df160 rfl rfl) rfl) ?_
  refine gl (i' := 2) (fun _ _ => aw_iload_n K (dOf ck_mJ0_checkIndex_df160 rfl rfl) rfl) ?_
  refine g_getsq K (dOf ck_mJ0_checkIndex_df160 rfl rfl) wd_534 (fun v hv => ?_)
  refine g_callSI (f := some j) (k := fun _ => some mm) K [.inl _, .inl _, v] rfl (dOf ck_mJ0_checkIndex_df160 rfl rfl) al_java_lang_String_1059 wd_536 rfl (Nat.le_of_ble_eq_true rfl) ⟨Nat.le_of_ble_eq_true rfl, Nat.le_of_ble_eq_true rfl⟩ (fun b hb => by cases hb; exact met_preCheck hv h) (fun r hr => ?_)
  refine gl (i' := 5) (fun _ _ => aw_pop K rfl (dOf ck_mJ0_checkIndex_df160 rfl rfl)) ?_
  exact g_vret K (by decide +kernel) rfl rfl
theorem met_latChar {k : Nat} {j : Int} (hk : k < 10) (h : 0 ≤ j ∧ j < (aLen.getD k 0 : Nat)) : aMet l D cA ad adV z0 mJ1_charAt_3b067 2 43 0 0 [.inr (.inr (.inr (k + 10))), .inl j] SH mm (rI mm (aChr k j.toNat)).1 SH (rI mm (aChr k j.toNat)).2 := by
  obtain ⟨h1, h2, h3⟩ := aChr_ok k hk j.toNat (by omega)
  refine aMet_ofG (code := some (aChr k j.toNat)) (ρ := rI mm) (by decide +kernel) rfl (Nat.le_of_ble_eq_true rfl) rfl (fun p e s m args below meth c al0 K => ?_)
  refine gl (i' := 1) (fun _ _ => aw_iload_n K (dOf ck_mJ1_charAt_3b067 rfl rfl) rfl) ?_
  refine gl (i' := 2) (fun _ _ => aw_sload_n K (dOf ck_mJ1_charAt_3b067 rfl rfl) rfl) ?_
  refine gl (i' := 3) (fun _ _ => aw_salen K hk (dOf ck_mJ1_charAt_3b067 rfl rfl)) ?_
  refine g_callSM (f := some mm) (k := fun _ => some (aChr k j.toNat)) K [.inl _, .inl _] rfl (dOf ck_mJ1_charAt_3b067 rfl rfl) al_java_lang_StringLatin1_9 wd_532 rfl (Nat.le_of_ble_eq_true rfl) ⟨Nat.le_of_ble_eq_true rfl, Nat.le_of_ble_eq_true rfl⟩ (fun b hb => by cases hb; exact met_strCheck h) (fun r hr => ?_)
  cases hr
  refine gl (i' := 5) (fun _ _ => aw_sload_n K (dOf ck_mJ1_charAt_3b067 rfl rfl) rfl) ?_
  refine gl (i' := 6) (fun _ _ => aw_iload_n K (dOf ck_mJ1_charAt_3b067 rfl rfl) rfl) ?_
  refine gl (i' := 7) (fun _ _ => aw_sbald K hk (dOf ck_mJ1_charAt_3b067 rfl rfl) h) ?_
  refine gl (i' := 8) (fun _ _ => aw_sip K (dOf ck_mJ1_charAt_3b067 rfl rfl) (v := 255) rfl) ?_
  refine gl (i' := 9) (fun _ _ => aw_iand K (dOf ck_mJ1_charAt_3b067 rfl rfl)) ?_
  refine gl (i' := 10) (fun _ _ => aw_i2c K (dOf ck_mJ1_charAt_3b067 rfl rfl)) ?_
  rw [h1]
  exact g_iret K (by decide +kernel) rfl (Or.inr (Or.inr (Or.inr ⟨rfl, h2, by omega⟩))) rfl
theorem met_charAt {k : Nat} {j : Int} (hk : k < 10) {b : Int} (h : sChr k j = some b) : aMet l D cA ad adV z0 mJ0_charAt_5068e 3 64 0 0 [.inr (.inr (.inr k)), .inl j] SH mm (rI mm b).1 SH (rI mm b).2 := by
  unfold sChr at h
  split at h
  · next hj =>
    cases h
    refine aMet_ofG (code := some (aChr k j.toNat)) (ρ := rI mm) (by decide +kernel) rfl (Nat.le_of_ble_eq_true rfl) rfl (fun p e s m args below meth c al0 K => ?_)
    refine gl (i' := 1) (fun _ _ => aw_sload_n K (dOf ck_mJ0_charAt_5068e rfl rfl) rfl) ?_
    refine g_callTI (f := some (1 : Int)) (k := fun _ => some (aChr k j.toNat)) K [] rfl (dOf ck_mJ0_charAt_5068e rfl rfl) al_java_lang_String_492 hk ⟨wd_525, wd_526⟩ rfl (Nat.le_of_ble_eq_true rfl) ⟨Nat.le_of_ble_eq_true rfl, Nat.le_of_ble_eq_true rfl⟩ (fun b hb => by cases hb; exact met_isLatin1 hk) (fun r hr => ?_)
    cases hr
    refine gl (i' := 3) (fun _ _ k9 => aw_if_eq K (dOf ck_mJ0_charAt_5068e rfl rfl) (t := 8) (aJ_of (by decide +kernel)) (fun z => absurd z (by decide)) (fun _ => k9)) ?_
    refine gl (i' := 4) (fun _ _ => aw_sload_n K (dOf ck_mJ0_charAt_5068e rfl rfl) rfl) ?_
    refine gl (i' := 5) (fun _ _ => aw_sgetv K hk (dOf ck_mJ0_charAt_5068e rfl rfl) wd_1700) ?_
    refine gl (i' := 6) (fun _ _ => aw_iload_n K (dOf ck_mJ0_charAt_5068e rfl rfl) rfl) ?_
    refine g_callSI (f := some (aChr k j.toNat)) (k := fun v => some v) K [.inr (.inr (.inr _)), .inl _] rfl (dOf ck_mJ0_charAt_5068e rfl rfl) al_java_lang_String_495 wd_529 rfl (Nat.le_of_ble_eq_true rfl) ⟨Nat.le_of_ble_eq_true rfl, Nat.le_of_ble_eq_true rfl⟩ (fun b hb => by cases hb; exact met_latChar hk hj) (fun r hr => ?_)
    cases hr
    obtain ⟨h1, h2, h3⟩ := aChr_ok k hk j.toNat (by omega)
    exact g_iret K (dOf ck_mJ0_charAt_5068e rfl rfl).1 rfl (Or.inr (Or.inr (Or.inr ⟨rfl, h2, by omega⟩))) rfl
  · cases h
end SM
