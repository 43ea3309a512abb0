def Twins_markUseful_27 (k9 : Int → aM → Option aM) (x1 : Int) (x2 : Int) (mm : aM) : Option aM := k9 (w32 (x2 + (-1))) mm
set_option maxHeartbeats 4000000 in
theorem lk_Twins_markUseful_27 {p : Program} {l : Launch} {e : Env} {s : State} {m : MethodId} {args : Array Value} {below : List Frame} {meth : Method} {c : Code} {D : va_G} {cA : FieldType → ClassId} {ad adV : Nat → Nat} {z0 : Nat} {al0 : List Nat} (K : aK p s m args meth c mX9_markUseful D cA ad adV z0) (x1 : Int) (x2 : Int) (k9 : Int → aM → Option aM) (hk9 : ∀ (x2 : Int) (mm : aM), aG p l e { frames := 4, cells := 0, slots := 0, locals := 102 } s m args below meth c D cA ad z0 mX9_markUseful al0 rM (k9 x2 mm) 9 [(0, .inr (.inr (.inl (some 80)))), (1, .inl x1), (2, .inl x2)] [] mm)  (mm : aM) : aG p l e { frames := 4, cells := 0, slots := 0, locals := 102 } s m args below meth c D cA ad z0 mX9_markUseful al0 rM (Twins_markUseful_27 k9 x1 x2 mm) 27 [(0, .inr (.inr (.inl (some 80)))), (1, .inl x1), (2, .inl x2)] [] mm := by
  unfold Twins_markUseful_27
  refine gl (i' := 28) (fun _ _ => aw_iinc K (dOf ck_mX9_markUseful rfl rfl) (Nat.le_of_ble_eq_true rfl) rfl) ?_
  refine g_lv (lv' := [(2, .inl _), (0, .inr (.inr (.inl (some _)))), (1, .inl _)]) rfl ?_
  refine g_goto K (dOf ck_mX9_markUseful rfl rfl).1 (t := 9) (aJ_of (by decide +kernel)) ?_
  refine g_sub [1, 2, 0] rfl ?_
  exact hk9 _ _
def Twins_markUseful_9 (x1 : Int) : Nat → Int → aM → Option aM
  | 0, _, _ => none
  | n + 1, x2, mm => if x2 < 0 then (some mm) else (if 0 ≤ x2 ∧ x2 < 471 then ((Twins_leadsToEnd (mm 102 x2.toNat) x1 mm).bind fun r4 => (if r4 = 0 then (Twins_markUseful_27 (Twins_markUseful_9 x1 n) x1 x2 mm) else (if 0 ≤ (mm 102 x2.toNat) ∧ (mm 102 x2.toNat) < 471 then (st1 (aup mm 104 (mm 102 x2.toNat).toNat (w8 1)) fun mm7 => (Twins_markUseful_27 (Twins_markUseful_9 x1 n) x1 x2 mm7)) else none))) else none)
set_option maxHeartbeats 4000000 in
theorem lk_Twins_markUseful_9 {p : Program} {l : Launch} {e : Env} {s : State} {m : MethodId} {args : Array Value} {below : List Frame} {meth : Method} {c : Code} {D : va_G} {cA : FieldType → ClassId} {ad adV : Nat → Nat} {z0 : Nat} {al0 : List Nat} (K : aK p s m args meth c mX9_markUseful D cA ad adV z0) (x1 : Int)  : ∀ (n : Nat) (x2 : Int) (mm : aM), aG p l e { frames := 4, cells := 0, slots := 0, locals := 102 } s m args below meth c D cA ad z0 mX9_markUseful al0 rM (Twins_markUseful_9 x1 n x2 mm) 9 [(0, .inr (.inr (.inl (some 80)))), (1, .inl x1), (2, .inl x2)] [] mm := by
  intro n
  induction n with
  | zero => intro x2 mm; exact g_none
  | succ n ih =>
    intro x2 mm
    rw [Twins_markUseful_9]
    refine gl (i' := 10) (fun _ _ => aw_iload_n K (dOf ck_mX9_markUseful rfl rfl) rfl) ?_
    refine g_if_lt K (dOf ck_mX9_markUseful rfl rfl) (t := 29) (aJ_of (by decide +kernel)) (fun h2 => ?_) (fun h2 => ?_)
    · exact g_vret K (by decide +kernel) rfl rfl
    · refine gl (i' := 12) (fun _ _ => aw_aload_n K (dOf ck_mX9_markUseful rfl rfl) rfl) ?_
      refine gl (i' := 13) (fun _ _ => aw_aload_n K (dOf ck_mX9_markUseful rfl rfl) rfl) ?_
      refine gl (i' := 14) (fun _ _ => aw_getf K (dOf ck_mX9_markUseful rfl rfl) rfl rfl (Nat.le_of_ble_eq_true rfl) wd_408 (k := 17) rfl) ?_
      refine gl (i' := 15) (fun _ _ => aw_iload_n K (dOf ck_mX9_markUseful rfl rfl) rfl) ?_
      refine g_gd (fun hb3 => ?_)
      refine gl (i' := 16) (fun _ _ => aw_sald K (dOf ck_mX9_markUseful rfl rfl) rfl hb3) ?_
      refine gl (i' := 17) (fun _ _ => aw_iload_n K (dOf ck_mX9_markUseful rfl rfl) rfl) ?_
      refine g_callVI K [.inl _, .inl _] rfl (dOf ck_mX9_markUseful rfl rfl) al_OneBreath_Twins_184 rfl rfl ⟨wd_911, wd_42⟩ rfl (Nat.le_of_ble_eq_true rfl) ⟨Nat.le_of_ble_eq_true rfl, Nat.le_of_ble_eq_true rfl⟩ (fun b hb => met_Twins_leadsToEnd  hb) (fun r4 hr4 => ?_)
      refine g_if_eq K (dOf ck_mX9_markUseful rfl rfl) (t := 27) (aJ_of (by decide +kernel)) (fun h5 => ?_) (fun h5 => ?_)
      · refine g_sub [0, 1, 2] rfl ?_
        exact lk_Twins_markUseful_27 K _ _ _ ih _
      · refine gl (i' := 20) (fun _ _ => aw_aload_n K (dOf ck_mX9_markUseful rfl rfl) rfl) ?_
        refine gl (i' := 21) (fun _ _ => aw_getf K (dOf ck_mX9_markUseful rfl rfl) rfl rfl (Nat.le_of_ble_eq_true rfl) wd_410 (k := 19) rfl) ?_
        refine gl (i' := 22) (fun _ _ => aw_aload_n K (dOf ck_mX9_markUseful rfl rfl) rfl) ?_
        refine gl (i' := 23) (fun _ _ => aw_getf K (dOf ck_mX9_markUseful rfl rfl) rfl rfl (Nat.le_of_ble_eq_true rfl) wd_408 (k := 17) rfl) ?_
        refine gl (i' := 24) (fun _ _ => aw_iload_n K (dOf ck_mX9_markUseful rfl rfl) rfl) ?_
        refine gl (i' := 25) (fun _ _ => aw_sald K (dOf ck_mX9_markUseful rfl rfl) rfl hb3) ?_
        refine gl (i' := 26) (fun _ _ => aw_iconst K (n := 1) (i32 _ rfl) (dOf ck_mX9_markUseful rfl rfl)) ?_
        refine g_gd (fun hb6 => ?_)
        refine g_st1 ?_
        refine gl (i' := 27) (fun _ _ => aw_bast K (dOf ck_mX9_markUseful rfl rfl) rfl hb6) ?_
        refine g_sub [0, 1, 2] rfl ?_
        exact lk_Twins_markUseful_27 K _ _ _ ih _
def Twins_markUseful (x1 : Int) (mm : aM) : Option aM := (Jarr_fillB 104 0 mm).bind fun r1 => (Twins_markUseful_9 x1 FU (w32 ((r1 80 16) - 1)) r1)
set_option maxHeartbeats 4000000 in
theorem met_Twins_markUseful {l : Launch} {D : va_G} {cA : FieldType → ClassId} {ad adV : Nat → Nat} {z0 : Nat} {x1 : Int} {mm : aM}  {r : aM} (h : Twins_markUseful x1 mm = some r) : aMet l D cA ad adV z0 mX9_markUseful 4 102 0 0 [.inr (.inr (.inl (some 80))), .inl x1] SH mm (rM r).1 SH (rM r).2 := by
  refine aMet_ofG (by decide +kernel) rfl (Nat.le_of_ble_eq_true rfl) h (fun p e s m args below meth c al0 K => ?_)
  unfold Twins_markUseful
  refine gl (i' := 1) (fun _ _ => aw_aload_n K (dOf ck_mX9_markUseful rfl rfl) rfl) ?_
  refine gl (i' := 2) (fun _ _ => aw_getf K (dOf ck_mX9_markUseful rfl rfl) rfl rfl (Nat.le_of_ble_eq_true rfl) wd_410 (k := 19) rfl) ?_
  refine gl (i' := 3) (fun _ _ => aw_iconst K (n := 0) (i32 _ rfl) (dOf ck_mX9_markUseful rfl rfl)) ?_
  refine g_callSM K [.inr (.inr (.inl (some _))), .inl _] rfl (dOf ck_mX9_markUseful rfl rfl) al_OneBreath_Twins_181 wd_908 rfl (Nat.le_of_ble_eq_true rfl) ⟨Nat.le_of_ble_eq_true rfl, Nat.le_of_ble_eq_true rfl⟩ (fun b hb => met_Jarr_fillB ⟨_, rfl⟩ hb) (fun r1 hr1 => ?_)
  refine gl (i' := 5) (fun _ _ => aw_aload_n K (dOf ck_mX9_markUseful rfl rfl) rfl) ?_
  refine gl (i' := 6) (fun _ _ => aw_getf K (dOf ck_mX9_markUseful rfl rfl) rfl rfl (Nat.le_of_ble_eq_true rfl) wd_407 (k := 16) rfl) ?_
  refine gl (i' := 7) (fun _ _ => aw_iconst K (n := 1) (i32 _ rfl) (dOf ck_mX9_markUseful rfl rfl)) ?_
  refine gl (i' := 8) (fun _ _ => aw_isub K (dOf ck_mX9_markUseful rfl rfl)) ?_
  refine gl (i' := 9) (fun _ _ => aw_istore_n K (dOf ck_mX9_markUseful rfl rfl) (Nat.le_of_ble_eq_true rfl)) ?_
  refine g_lv (lv' := [(2, .inl _), (0, .inr (.inr (.inl (some _)))), (1, .inl _)]) rfl ?_
  refine g_sub [1, 2, 0] rfl ?_
  exact lk_Twins_markUseful_9 K _ FU _ _
def Twins_take (x1 : Int) (x2 : Int) (mm : aM) : Option aM := (Twins_isUseful x1 x2 mm).bind fun r1 => (if r1 = 0 then (some mm) else (if 0 ≤ x1 ∧ x1 < 471 then (st1 (aup mm 104 x1.toNat (w8 2)) fun mm4 => (some mm4)) else none))
set_option maxHeartbeats 4000000 in
theorem met_Twins_take {l : Launch} {D : va_G} {cA : FieldType → ClassId} {ad adV : Nat → Nat} {z0 : Nat} {x1 : Int} {x2 : Int} {mm : aM}  {r : aM} (h : Twins_take x1 x2 mm = some r) : aMet l D cA ad adV z0 mX9_take 1 22 0 0 [.inr (.inr (.inl (some 80))), .inl x1, .inl x2] SH mm (rM r).1 SH (rM r).2 := by
  refine aMet_ofG (by decide +kernel) rfl (Nat.le_of_ble_eq_true rfl) h (fun p e s m args below meth c al0 K => ?_)
  unfold Twins_take
  refine gl (i' := 1) (fun _ _ => aw_aload_n K (dOf ck_mX9_take rfl rfl) rfl) ?_
  refine gl (i' := 2) (fun _ _ => aw_iload_n K (dOf ck_mX9_take rfl rfl) rfl) ?_
  refine gl (i' := 3) (fun _ _ => aw_iload_n K (dOf ck_mX9_take rfl rfl) rfl) ?_
  refine g_callVI K [.inl _, .inl _] rfl (dOf ck_mX9_take rfl rfl) al_OneBreath_Twins_209 rfl rfl ⟨wd_917, wd_44⟩ rfl (Nat.le_of_ble_eq_true rfl) ⟨Nat.le_of_ble_eq_true rfl, Nat.le_of_ble_eq_true rfl⟩ (fun b hb => met_Twins_isUseful  hb) (fun r1 hr1 => ?_)
  refine g_if_eq K (dOf ck_mX9_take rfl rfl) (t := 10) (aJ_of (by decide +kernel)) (fun h2 => ?_) (fun h2 => ?_)
  · exact g_vret K (by decide +kernel) rfl rfl
  · refine gl (i' := 6) (fun _ _ => aw_aload_n K (dOf ck_mX9_take rfl rfl) rfl) ?_
    refine gl (i' := 7) (fun _ _ => aw_getf K (dOf ck_mX9_take rfl rfl) rfl rfl (Nat.le_of_ble_eq_true rfl) wd_410 (k := 19) rfl) ?_
    refine gl (i' := 8) (fun _ _ => aw_iload_n K (dOf ck_mX9_take rfl rfl) rfl) ?_
    refine gl (i' := 9) (fun _ _ => aw_iconst K (n := 2) (i32 _ rfl) (dOf ck_mX9_take rfl rfl)) ?_
    refine g_gd (fun hb3 => ?_)
    refine g_st1 ?_
    refine gl (i' := 10) (fun _ _ => aw_bast K (dOf ck_mX9_take rfl rfl) rfl hb3) ?_
    exact g_vret K (by decide +kernel) rfl rfl
def Twins_wakeFromEven_50 (k2 : Int → aM → Option aM) (x1 : Int) (x2 : Int) (mm : aM) : Option aM := k2 (w32 (x2 + 1)) mm
set_option maxHeartbeats 4000000 in
theorem lk_Twins_wakeFromEven_50 {p : Program} {l : Launch} {e : Env} {s : State} {m : MethodId} {args : Array Value} {below : List Frame} {meth : Method} {c : Code} {D : va_G} {cA : FieldType → ClassId} {ad adV : Nat → Nat} {z0 : Nat} {al0 : List Nat} (K : aK p s m args meth c mX9_wakeFromEven D cA ad adV z0) (x1 : Int) (x2 : Int) (k2 : Int → aM → Option aM) (hk2 : ∀ (x2 : Int) (mm : aM), aG p l e { frames := 2, cells := 0, slots := 0, locals := 44 } s m args below meth c D cA ad z0 mX9_wakeFromEven al0 rM (k2 x2 mm) 2 [(0, .inr (.inr (.inl (some 80)))), (1, .inl x1), (2, .inl x2)] [] mm)  (mm : aM) : aG p l e { frames := 2, cells := 0, slots := 0, locals := 44 } s m args below meth c D cA ad z0 mX9_wakeFromEven al0 rM (Twins_wakeFromEven_50 k2 x1 x2 mm) 50 [(0, .inr (.inr (.inl (some 80)))), (1, .inl x1), (2, .inl x2)] [] mm := by
  unfold Twins_wakeFromEven_50
  refine gl (i' := 51) (fun _ _ => aw_iinc K (dOf ck_mX9_wakeFromEven rfl rfl) (Nat.le_of_ble_eq_true rfl) rfl) ?_
  refine g_lv (lv' := [(2, .inl _), (0, .inr (.inr (.inl (some _)))), (1, .inl _)]) rfl ?_
  refine g_goto K (dOf ck_mX9_wakeFromEven rfl rfl).1 (t := 2) (aJ_of (by decide +kernel)) ?_
  refine g_sub [1, 2, 0] rfl ?_
  exact hk2 _ _
def Twins_wakeFromEven_24 (k2 : Int → aM → Option aM) (x1 : Int) (x2 : Int) : Nat → Int → aM → Option aM
  | 0, _, _ => none
  | n + 1, x3, mm => if x3 = 0 then (Twins_wakeFromEven_50 k2 x1 x2 mm) else ((Jint_numberOfTrailingZeros x3 mm).bind fun r7 => (if 0 ≤ r7 ∧ r7 < 13 then ((Twins_oddState r7 (mm 95 r7.toNat) (Int.tmod x2 4) 0 mm).bind fun r9 => ((Twins_take r9 x1 mm).bind fun r10 => (Twins_wakeFromEven_24 k2 x1 x2 n (iand x3 (w32 (x3 - 1))) r10))) else none))
set_option maxHeartbeats 4000000 in
theorem lk_Twins_wakeFromEven_24 {p : Program} {l : Launch} {e : Env} {s : State} {m : MethodId} {args : Array Value} {below : List Frame} {meth : Method} {c : Code} {D : va_G} {cA : FieldType → ClassId} {ad adV : Nat → Nat} {z0 : Nat} {al0 : List Nat} (K : aK p s m args meth c mX9_wakeFromEven D cA ad adV z0) (x1 : Int) (x2 : Int) (k2 : Int → aM → Option aM) (hk2 : ∀ (x2 : Int) (mm : aM), aG p l e { frames := 2, cells := 0, slots := 0, locals := 44 } s m args below meth c D cA ad z0 mX9_wakeFromEven al0 rM (k2 x2 mm) 2 [(0, .inr (.inr (.inl (some 80)))), (1, .inl x1), (2, .inl x2)] [] mm)  : ∀ (n : Nat) (x3 : Int) (mm : aM), aG p l e { frames := 2, cells := 0, slots := 0, locals := 44 } s m args below meth c D cA ad z0 mX9_wakeFromEven al0 rM (Twins_wakeFromEven_24 k2 x1 x2 n x3 mm) 24 [(0, .inr (.inr (.inl (some 80)))), (1, .inl x1), (2, .inl x2), (3, .inl x3)] [] mm := by
  intro n
  induction n with
  | zero => intro x3 mm; exact g_none
  | succ n ih =>
    intro x3 mm
    rw [Twins_wakeFromEven_24]
    refine gl (i' := 25) (fun _ _ => aw_iload_n K (dOf ck_mX9_wakeFromEven rfl rfl) rfl) ?_
    refine g_if_eq K (dOf ck_mX9_wakeFromEven rfl rfl) (t := 50) (aJ_of (by decide +kernel)) (fun h6 => ?_) (fun h6 => ?_)
    · refine g_sub [0, 1, 2] rfl ?_
      exact lk_Twins_wakeFromEven_50 K _ _ _ hk2 _
    · refine gl (i' := 27) (fun _ _ => aw_iload_n K (dOf ck_mX9_wakeFromEven rfl rfl) rfl) ?_
      refine g_callSI K [.inl _] rfl (dOf ck_mX9_wakeFromEven rfl rfl) al_OneBreath_Twins_147 wd_860 rfl (Nat.le_of_ble_eq_true rfl) ⟨Nat.le_of_ble_eq_true rfl, Nat.le_of_ble_eq_true rfl⟩ (fun b hb => met_Jint_numberOfTrailingZeros  hb) (fun r7 hr7 => ?_)
      refine gl (i' := 29) (fun _ _ => aw_istore K (dOf ck_mX9_wakeFromEven rfl rfl) (Nat.le_of_ble_eq_true rfl)) ?_
      refine g_lv (lv' := [(4, .inl _), (0, .inr (.inr (.inl (some _)))), (1, .inl _), (2, .inl _), (3, .inl _)]) rfl ?_
      refine gl (i' := 30) (fun _ _ => aw_aload_n K (dOf ck_mX9_wakeFromEven rfl rfl) rfl) ?_
      refine gl (i' := 31) (fun _ _ => aw_aload_n K (dOf ck_mX9_wakeFromEven rfl rfl) rfl) ?_
      refine gl (i' := 32) (fun _ _ => aw_iload K (dOf ck_mX9_wakeFromEven rfl rfl) rfl) ?_
      refine gl (i' := 33) (fun _ _ => aw_aload_n K (dOf ck_mX9_wakeFromEven rfl rfl) rfl) ?_
      refine gl (i' := 34) (fun _ _ => aw_getf K (dOf ck_mX9_wakeFromEven rfl rfl) rfl rfl (Nat.le_of_ble_eq_true rfl) wd_395 (k := 4) rfl) ?_
      refine gl (i' := 35) (fun _ _ => aw_iload K (dOf ck_mX9_wakeFromEven rfl rfl) rfl) ?_
      refine g_gd (fun hb8 => ?_)
      refine gl (i' := 36) (fun _ _ => aw_iald K (dOf ck_mX9_wakeFromEven rfl rfl) rfl hb8) ?_
      refine gl (i' := 37) (fun _ _ => aw_iload_n K (dOf ck_mX9_wakeFromEven rfl rfl) rfl) ?_
      refine gl (i' := 38) (fun _ _ => aw_iconst K (n := 4) (i32 _ rfl) (dOf ck_mX9_wakeFromEven rfl rfl)) ?_
      refine gl (i' := 39) (fun _ _ => aw_irem K (by decide) (dOf ck_mX9_wakeFromEven rfl rfl)) ?_
      refine gl (i' := 40) (fun _ _ => aw_iconst K (n := 0) (i32 _ rfl) (dOf ck_mX9_wakeFromEven rfl rfl)) ?_
      refine g_callVI K [.inl _, .inl _, .inl _, .inl _] rfl (dOf ck_mX9_wakeFromEven rfl rfl) al_OneBreath_Twins_125 rfl rfl ⟨wd_844, wd_29⟩ rfl (Nat.le_of_ble_eq_true rfl) ⟨Nat.le_of_ble_eq_true rfl, Nat.le_of_ble_eq_true rfl⟩ (fun b hb => met_Twins_oddState  hb) (fun r9 hr9 => ?_)
      refine gl (i' := 42) (fun _ _ => aw_iload_n K (dOf ck_mX9_wakeFromEven rfl rfl) rfl) ?_
      refine g_callVM K [.inl _, .inl _] rfl (dOf ck_mX9_wakeFromEven rfl rfl) al_OneBreath_Twins_188 rfl rfl ⟨wd_927, wd_46⟩ rfl (Nat.le_of_ble_eq_true rfl) ⟨Nat.le_of_ble_eq_true rfl, Nat.le_of_ble_eq_true rfl⟩ (fun b hb => met_Twins_take  hb) (fun r10 hr10 => ?_)
      refine gl (i' := 44) (fun _ _ => aw_iload_n K (dOf ck_mX9_wakeFromEven rfl rfl) rfl) ?_
      refine gl (i' := 45) (fun _ _ => aw_iload_n K (dOf ck_mX9_wakeFromEven rfl rfl) rfl) ?_
      refine gl (i' := 46) (fun _ _ => aw_iconst K (n := 1) (i32 _ rfl) (dOf ck_mX9_wakeFromEven rfl rfl)) ?_
      refine gl (i' := 47) (fun _ _ => aw_isub K (dOf ck_mX9_wakeFromEven rfl rfl)) ?_
      refine gl (i' := 48) (fun _ _ => aw_iand K (dOf ck_mX9_wakeFromEven rfl rfl)) ?_
      refine gl (i' := 49) (fun _ _ => aw_istore_n K (dOf ck_mX9_wakeFromEven rfl rfl) (Nat.le_of_ble_eq_true rfl)) ?_
      refine g_lv (lv' := [(3, .inl _), (4, .inl _), (0, .inr (.inr (.inl (some _)))), (1, .inl _), (2, .inl _)]) rfl ?_
      refine g_goto K (dOf ck_mX9_wakeFromEven rfl rfl).1 (t := 24) (aJ_of (by decide +kernel)) ?_
      refine g_sub [2, 3, 4, 0] rfl ?_
      exact ih _ _
def Twins_wakeFromEven_2 (x1 : Int) : Nat → Int → aM → Option aM
  | 0, _, _ => none
  | n + 1, x2, mm => if x2 < 16 then (if 0 ≤ x2 ∧ x2 < 471 then (if (mm 104 x2.toNat) = 2 then (if (mm 103 x2.toNat) = x1 then (if 0 ≤ (w32 (Int.tdiv x2 4)) ∧ (w32 (Int.tdiv x2 4)) < 4 then (Twins_wakeFromEven_24 (Twins_wakeFromEven_2 x1 n) x1 x2 FU (mm 99 (w32 (Int.tdiv x2 4)).toNat) mm) else none) else (Twins_wakeFromEven_50 (Twins_wakeFromEven_2 x1 n) x1 x2 mm)) else (Twins_wakeFromEven_50 (Twins_wakeFromEven_2 x1 n) x1 x2 mm)) else none) else (some mm)
set_option maxHeartbeats 4000000 in
theorem lk_Twins_wakeFromEven_2 {p : Program} {l : Launch} {e : Env} {s : State} {m : MethodId} {args : Array Value} {below : List Frame} {meth : Method} {c : Code} {D : va_G} {cA : FieldType → ClassId} {ad adV : Nat → Nat} {z0 : Nat} {al0 : List Nat} (K : aK p s m args meth c mX9_wakeFromEven D cA ad adV z0) (x1 : Int)  : ∀ (n : Nat) (x2 : Int) (mm : aM), aG p l e { frames := 2, cells := 0, slots := 0, locals := 44 } s m args below meth c D cA ad z0 mX9_wakeFromEven al0 rM (Twins_wakeFromEven_2 x1 n x2 mm) 2 [(0, .inr (.inr (.inl (some 80)))), (1, .inl x1), (2, .inl x2)] [] mm := by
  intro n
  induction n with
  | zero => intro x2 mm; exact g_none
  | succ n ih =>
    intro x2 mm
    rw [Twins_wakeFromEven_2]
    refine gl (i' := 3) (fun _ _ => aw_iload_n K (dOf ck_mX9_wakeFromEven rfl rfl) rfl) ?_
    refine gl (i' := 4) (fun _ _ => aw_bip K (dOf ck_mX9_wakeFromEven rfl rfl) (v := 16) rfl) ?_
    refine g_icmp_ge K (dOf ck_mX9_wakeFromEven rfl rfl) (t := 52) (aJ_of (by decide +kernel)) (fun h1 => ?_) (fun h1 => ?_)
    · refine gl (i' := 6) (fun _ _ => aw_aload_n K (dOf ck_mX9_wakeFromEven rfl rfl) rfl) ?_
      refine gl (i' := 7) (fun _ _ => aw_getf K (dOf ck_mX9_wakeFromEven rfl rfl) rfl rfl (Nat.le_of_ble_eq_true rfl) wd_410 (k := 19) rfl) ?_
      refine gl (i' := 8) (fun _ _ => aw_iload_n K (dOf ck_mX9_wakeFromEven rfl rfl) rfl) ?_
      refine g_gd (fun hb2 => ?_)
      refine gl (i' := 9) (fun _ _ => aw_bald K (dOf ck_mX9_wakeFromEven rfl rfl) rfl hb2) ?_
      refine gl (i' := 10) (fun _ _ => aw_iconst K (n := 2) (i32 _ rfl) (dOf ck_mX9_wakeFromEven rfl rfl)) ?_
      refine g_icmp_ne K (dOf ck_mX9_wakeFromEven rfl rfl) (t := 50) (aJ_of (by decide +kernel)) (fun h3 => ?_) (fun h3 => ?_)
      · refine gl (i' := 12) (fun _ _ => aw_aload_n K (dOf ck_mX9_wakeFromEven rfl rfl) rfl) ?_
        refine gl (i' := 13) (fun _ _ => aw_getf K (dOf ck_mX9_wakeFromEven rfl rfl) rfl rfl (Nat.le_of_ble_eq_true rfl) wd_409 (k := 18) rfl) ?_
        refine gl (i' := 14) (fun _ _ => aw_iload_n K (dOf ck_mX9_wakeFromEven rfl rfl) rfl) ?_
        refine gl (i' := 15) (fun _ _ => aw_sald K (dOf ck_mX9_wakeFromEven rfl rfl) rfl hb2) ?_
        refine gl (i' := 16) (fun _ _ => aw_iload_n K (dOf ck_mX9_wakeFromEven rfl rfl) rfl) ?_
        refine g_icmp_ne K (dOf ck_mX9_wakeFromEven rfl rfl) (t := 50) (aJ_of (by decide +kernel)) (fun h4 => ?_) (fun h4 => ?_)
        · refine gl (i' := 18) (fun _ _ => aw_aload_n K (dOf ck_mX9_wakeFromEven rfl rfl) rfl) ?_
          refine gl (i' := 19) (fun _ _ => aw_getf K (dOf ck_mX9_wakeFromEven rfl rfl) rfl rfl (Nat.le_of_ble_eq_true rfl) wd_399 (k := 8) rfl) ?_
          refine gl (i' := 20) (fun _ _ => aw_iload_n K (dOf ck_mX9_wakeFromEven rfl rfl) rfl) ?_
          refine gl (i' := 21) (fun _ _ => aw_iconst K (n := 4) (i32 _ rfl) (dOf ck_mX9_wakeFromEven rfl rfl)) ?_
          refine gl (i' := 22) (fun _ _ => aw_idiv K (by decide) (dOf ck_mX9_wakeFromEven rfl rfl)) ?_
          refine g_gd (fun hb5 => ?_)
          refine gl (i' := 23) (fun _ _ => aw_iald K (dOf ck_mX9_wakeFromEven rfl rfl) rfl hb5) ?_
          refine gl (i' := 24) (fun _ _ => aw_istore_n K (dOf ck_mX9_wakeFromEven rfl rfl) (Nat.le_of_ble_eq_true rfl)) ?_
          refine g_lv (lv' := [(3, .inl _), (0, .inr (.inr (.inl (some _)))), (1, .inl _), (2, .inl _)]) rfl ?_
          refine g_sub [1, 2, 3, 0] rfl ?_
          exact lk_Twins_wakeFromEven_24 K _ _ _ ih FU _ _
        · refine g_sub [0, 1, 2] rfl ?_
          exact lk_Twins_wakeFromEven_50 K _ _ _ ih _
      · refine g_sub [0, 1, 2] rfl ?_
        exact lk_Twins_wakeFromEven_50 K _ _ _ ih _
    · exact g_vret K (by decide +kernel) rfl rfl
def Twins_wakeFromEven (x1 : Int) (mm : aM) : Option aM := Twins_wakeFromEven_2 x1 FU 0 mm
set_option maxHeartbeats 4000000 in
theorem met_Twins_wakeFromEven {l : Launch} {D : va_G} {cA : FieldType → ClassId} {ad adV : Nat → Nat} {z0 : Nat} {x1 : Int} {mm : aM}  {r : aM} (h : Twins_wakeFromEven x1 mm = some r) : aMet l D cA ad adV z0 mX9_wakeFromEven 2 44 0 0 [.inr (.inr (.inl (some 80))), .inl x1] SH mm (rM r).1 SH (rM r).2 := by
  refine aMet_ofG (by decide +kernel) rfl (Nat.le_of_ble_eq_true rfl) h (fun p e s m args below meth c al0 K => ?_)
  unfold Twins_wakeFromEven
  refine gl (i' := 1) (fun _ _ => aw_iconst K (n := 0) (i32 _ rfl) (dOf ck_mX9_wakeFromEven rfl rfl)) ?_
  refine gl (i' := 2) (fun _ _ => aw_istore_n K (dOf ck_mX9_wakeFromEven rfl rfl) (Nat.le_of_ble_eq_true rfl)) ?_
  refine g_lv (lv' := [(2, .inl _), (0, .inr (.inr (.inl (some _)))), (1, .inl _)]) rfl ?_
  refine g_sub [1, 2, 0] rfl ?_
  exact lk_Twins_wakeFromEven_2 K _ FU _ _
def Twins_toldAt (x1 : Int) (x2 : Int) (mm : aM) : Option Int := (Twins_isEven x1 mm).bind fun r1 => (if r1 = 0 then (if 0 ≤ x1 ∧ x1 < 471 then (if (mm 104 x1.toNat) = 2 then ((Twins_lengthOut x1 mm).bind fun r5 => ((Twins_wordOut x1 mm).bind fun r6 => (if (w32 (x2 - (mm 103 x1.toNat))) < 0 then (some (-1)) else (if (w32 (x2 - (mm 103 x1.toNat))) < r5 then (if 0 ≤ r6 ∧ r6 < 13 then (if 0 ≤ (w32 ((w32 ((mm 95 r6.toNat) - r5)) + (w32 (x2 - (mm 103 x1.toNat))))) ∧ (w32 ((w32 ((mm 95 r6.toNat) - r5)) + (w32 (x2 - (mm 103 x1.toNat))))) < 7 then (some (mm (82 + r6.toNat) (w32 ((w32 ((mm 95 r6.toNat) - r5)) + (w32 (x2 - (mm 103 x1.toNat))))).toNat)) else none) else none) else (some (-1)))))) else (some (-1))) else none) else (some (-1)))
set_option maxHeartbeats 4000000 in
theorem met_Twins_toldAt {l : Launch} {D : va_G} {cA : FieldType → ClassId} {ad adV : Nat → Nat} {z0 : Nat} {x1 : Int} {x2 : Int} {mm : aM}  {r : Int} (h : Twins_toldAt x1 x2 mm = some r) : aMet l D cA ad adV z0 mX9_toldAt 1 21 0 0 [.inr (.inr (.inl (some 80))), .inl x1, .inl x2] SH mm ((rI mm) r).1 SH ((rI mm) r).2 := by
  refine aMet_ofG (by decide +kernel) rfl (Nat.le_of_ble_eq_true rfl) h (fun p e s m args below meth c al0 K => ?_)
  unfold Twins_toldAt
  refine gl (i' := 1) (fun _ _ => aw_aload_n K (dOf ck_mX9_toldAt rfl rfl) rfl) ?_
  refine gl (i' := 2) (fun _ _ => aw_iload_n K (dOf ck_mX9_toldAt rfl rfl) rfl) ?_
  refine g_callVI K [.inl _] rfl (dOf ck_mX9_toldAt rfl rfl) al_OneBreath_Twins_144 rfl rfl ⟨wd_867, wd_33⟩ rfl (Nat.le_of_ble_eq_true rfl) ⟨Nat.le_of_ble_eq_true rfl, Nat.le_of_ble_eq_true rfl⟩ (fun b hb => met_Twins_isEven  hb) (fun r1 hr1 => ?_)
  refine g_if_ne K (dOf ck_mX9_toldAt rfl rfl) (t := 10) (aJ_of (by decide +kernel)) (fun h2 => ?_) (fun h2 => ?_)
  · refine gl (i' := 5) (fun _ _ => aw_aload_n K (dOf ck_mX9_toldAt rfl rfl) rfl) ?_
    refine gl (i' := 6) (fun _ _ => aw_getf K (dOf ck_mX9_toldAt rfl rfl) rfl rfl (Nat.le_of_ble_eq_true rfl) wd_410 (k := 19) rfl) ?_
    refine gl (i' := 7) (fun _ _ => aw_iload_n K (dOf ck_mX9_toldAt rfl rfl) rfl) ?_
    refine g_gd (fun hb3 => ?_)
    refine gl (i' := 8) (fun _ _ => aw_bald K (dOf ck_mX9_toldAt rfl rfl) rfl hb3) ?_
    refine gl (i' := 9) (fun _ _ => aw_iconst K (n := 2) (i32 _ rfl) (dOf ck_mX9_toldAt rfl rfl)) ?_
    refine g_icmp_eq K (dOf ck_mX9_toldAt rfl rfl) (t := 12) (aJ_of (by decide +kernel)) (fun h4 => ?_) (fun h4 => ?_)
    · refine gl (i' := 13) (fun _ _ => aw_iload_n K (dOf ck_mX9_toldAt rfl rfl) rfl) ?_
      refine gl (i' := 14) (fun _ _ => aw_aload_n K (dOf ck_mX9_toldAt rfl rfl) rfl) ?_
      refine gl (i' := 15) (fun _ _ => aw_getf K (dOf ck_mX9_toldAt rfl rfl) rfl rfl (Nat.le_of_ble_eq_true rfl) wd_409 (k := 18) rfl) ?_
      refine gl (i' := 16) (fun _ _ => aw_iload_n K (dOf ck_mX9_toldAt rfl rfl) rfl) ?_
      refine gl (i' := 17) (fun _ _ => aw_sald K (dOf ck_mX9_toldAt rfl rfl) rfl hb3) ?_
      refine gl (i' := 18) (fun _ _ => aw_isub K (dOf ck_mX9_toldAt rfl rfl)) ?_
      refine gl (i' := 19) (fun _ _ => aw_istore_n K (dOf ck_mX9_toldAt rfl rfl) (Nat.le_of_ble_eq_true rfl)) ?_
      refine g_lv (lv' := [(3, .inl _), (0, .inr (.inr (.inl (some _)))), (1, .inl _), (2, .inl _)]) rfl ?_
      refine gl (i' := 20) (fun _ _ => aw_aload_n K (dOf ck_mX9_toldAt rfl rfl) rfl) ?_
      refine gl (i' := 21) (fun _ _ => aw_iload_n K (dOf ck_mX9_toldAt rfl rfl) rfl) ?_
      refine g_callVI K [.inl _] rfl (dOf ck_mX9_toldAt rfl rfl) al_OneBreath_Twins_164 rfl rfl ⟨wd_886, wd_39⟩ rfl (Nat.le_of_ble_eq_true rfl) ⟨Nat.le_of_ble_eq_true rfl, Nat.le_of_ble_eq_true rfl⟩ (fun b hb => met_Twins_lengthOut  hb) (fun r5 hr5 => ?_)
      refine gl (i' := 23) (fun _ _ => aw_istore K (dOf ck_mX9_toldAt rfl rfl) (Nat.le_of_ble_eq_true rfl)) ?_
      refine g_lv (lv' := [(4, .inl _), (3, .inl _), (0, .inr (.inr (.inl (some _)))), (1, .inl _), (2, .inl _)]) rfl ?_
      refine gl (i' := 24) (fun _ _ => aw_aload_n K (dOf ck_mX9_toldAt rfl rfl) rfl) ?_
      refine gl (i' := 25) (fun _ _ => aw_iload_n K (dOf ck_mX9_toldAt rfl rfl) rfl) ?_
      refine g_callVI K [.inl _] rfl (dOf ck_mX9_toldAt rfl rfl) al_OneBreath_Twins_161 rfl rfl ⟨wd_880, wd_37⟩ rfl (Nat.le_of_ble_eq_true rfl) ⟨Nat.le_of_ble_eq_true rfl, Nat.le_of_ble_eq_true rfl⟩ (fun b hb => met_Twins_wordOut  hb) (fun r6 hr6 => ?_)
      refine gl (i' := 27) (fun _ _ => aw_istore K (dOf ck_mX9_toldAt rfl rfl) (Nat.le_of_ble_eq_true rfl)) ?_
      refine g_lv (lv' := [(5, .inl _), (4, .inl _), (3, .inl _), (0, .inr (.inr (.inl (some _)))), (1, .inl _), (2, .inl _)]) rfl ?_
      refine gl (i' := 28) (fun _ _ => aw_iload_n K (dOf ck_mX9_toldAt rfl rfl) rfl) ?_
      refine g_if_lt K (dOf ck_mX9_toldAt rfl rfl) (t := 46) (aJ_of (by decide +kernel)) (fun h7 => ?_) (fun h7 => ?_)
      · refine gl (i' := 47) (fun _ _ => aw_iconst K (n := -1) (i32 _ rfl) (dOf ck_mX9_toldAt rfl rfl)) ?_
        exact g_iret K (by decide +kernel) rfl (Or.inl rfl) rfl
      · refine gl (i' := 30) (fun _ _ => aw_iload_n K (dOf ck_mX9_toldAt rfl rfl) rfl) ?_
        refine gl (i' := 31) (fun _ _ => aw_iload K (dOf ck_mX9_toldAt rfl rfl) rfl) ?_
        refine g_icmp_ge K (dOf ck_mX9_toldAt rfl rfl) (t := 46) (aJ_of (by decide +kernel)) (fun h8 => ?_) (fun h8 => ?_)
        · refine gl (i' := 33) (fun _ _ => aw_aload_n K (dOf ck_mX9_toldAt rfl rfl) rfl) ?_
          refine gl (i' := 34) (fun _ _ => aw_getf K (dOf ck_mX9_toldAt rfl rfl) rfl rfl (Nat.le_of_ble_eq_true rfl) wd_394 (k := 3) rfl) ?_
          refine gl (i' := 35) (fun _ _ => aw_iload K (dOf ck_mX9_toldAt rfl rfl) rfl) ?_
          refine g_gd (fun hb9 => ?_)
          refine gl (i' := 36) (fun _ _ => aw_aald K (dOf ck_mX9_toldAt rfl rfl) shWa hb9 (rsW_at hb9)) ?_
          refine gl (i' := 37) (fun _ _ => aw_aload_n K (dOf ck_mX9_toldAt rfl rfl) rfl) ?_
          refine gl (i' := 38) (fun _ _ => aw_getf K (dOf ck_mX9_toldAt rfl rfl) rfl rfl (Nat.le_of_ble_eq_true rfl) wd_395 (k := 4) rfl) ?_
          refine gl (i' := 39) (fun _ _ => aw_iload K (dOf ck_mX9_toldAt rfl rfl) rfl) ?_
          refine gl (i' := 40) (fun _ _ => aw_iald K (dOf ck_mX9_toldAt rfl rfl) rfl hb9) ?_
          refine gl (i' := 41) (fun _ _ => aw_iload K (dOf ck_mX9_toldAt rfl rfl) rfl) ?_
          refine gl (i' := 42) (fun _ _ => aw_isub K (dOf ck_mX9_toldAt rfl rfl)) ?_
          refine gl (i' := 43) (fun _ _ => aw_iload_n K (dOf ck_mX9_toldAt rfl rfl) rfl) ?_
          refine gl (i' := 44) (fun _ _ => aw_iadd K (dOf ck_mX9_toldAt rfl rfl)) ?_
          refine g_gd (fun hb10 => ?_)
          refine gl (i' := 45) (fun _ _ => aw_bald K (dOf ck_mX9_toldAt rfl rfl) (shWr hb9) hb10) ?_
          refine g_goto K (dOf ck_mX9_toldAt rfl rfl).1 (t := 47) (aJ_of (by decide +kernel)) ?_
          exact g_iret K (by decide +kernel) rfl (Or.inl rfl) rfl
        · refine gl (i' := 47) (fun _ _ => aw_iconst K (n := -1) (i32 _ rfl) (dOf ck_mX9_toldAt rfl rfl)) ?_
          exact g_iret K (by decide +kernel) rfl (Or.inl rfl) rfl
    · refine gl (i' := 11) (fun _ _ => aw_iconst K (n := -1) (i32 _ rfl) (dOf ck_mX9_toldAt rfl rfl)) ?_
      exact g_iret K (dOf ck_mX9_toldAt rfl rfl).1 rfl (Or.inl rfl) rfl
  · refine gl (i' := 11) (fun _ _ => aw_iconst K (n := -1) (i32 _ rfl) (dOf ck_mX9_toldAt rfl rfl)) ?_
    exact g_iret K (dOf ck_mX9_toldAt rfl rfl).1 rfl (Or.inl rfl) rfl
def Twins_leastSoundAt_24 (mm : aM) (k4 : Int → Int → Option Int) (x1 : Int) (x2 : Int) (x3 : Int) : Option Int := k4 x2 (w32 (x3 + 1))
set_option maxHeartbeats 4000000 in
theorem lk_Twins_leastSoundAt_24 {p : Program} {l : Launch} {e : Env} {s : State} {m : MethodId} {args : Array Value} {below : List Frame} {meth : Method} {c : Code} {D : va_G} {cA : FieldType → ClassId} {ad adV : Nat → Nat} {z0 : Nat} {al0 : List Nat} {mm : aM} (K : aK p s m args meth c mX9_leastSoundAt D cA ad adV z0) (x1 : Int) (x2 : Int) (x3 : Int) (k4 : Int → Int → Option Int) (hk4 : ∀ (x2 : Int) (x3 : Int), aG p l e { frames := 2, cells := 0, slots := 0, locals := 46 } s m args below meth c D cA ad z0 mX9_leastSoundAt al0 (rI mm) (k4 x2 x3) 4 [(0, .inr (.inr (.inl (some 80)))), (1, .inl x1), (2, .inl x2), (3, .inl x3)] [] mm)  : aG p l e { frames := 2, cells := 0, slots := 0, locals := 46 } s m args below meth c D cA ad z0 mX9_leastSoundAt al0 (rI mm) (Twins_leastSoundAt_24 mm k4 x1 x2 x3) 24 [(0, .inr (.inr (.inl (some 80)))), (1, .inl x1), (2, .inl x2), (3, .inl x3)] [] mm := by
  unfold Twins_leastSoundAt_24
  refine gl (i' := 25) (fun _ _ => aw_iinc K (dOf ck_mX9_leastSoundAt rfl rfl) (Nat.le_of_ble_eq_true rfl) rfl) ?_
  refine g_lv (lv' := [(3, .inl _), (0, .inr (.inr (.inl (some _)))), (1, .inl _), (2, .inl _)]) rfl ?_
  refine g_goto K (dOf ck_mX9_leastSoundAt rfl rfl).1 (t := 4) (aJ_of (by decide +kernel)) ?_
  refine g_sub [1, 2, 3, 0] rfl ?_
  exact hk4 _ _
def Twins_leastSoundAt_4 (mm : aM) (x1 : Int) : Nat → Int → Int → Option Int
  | 0, _, _ => none
  | n + 1, x2, x3 => if x3 < (mm 80 16) then (if 0 ≤ x3 ∧ x3 < 471 then ((Twins_toldAt (mm 102 x3.toNat) x1 mm).bind fun r3 => (if r3 = (-1) then (Twins_leastSoundAt_24 mm (Twins_leastSoundAt_4 mm x1 n) x1 x2 x3) else (if r3 < x2 then (Twins_leastSoundAt_24 mm (Twins_leastSoundAt_4 mm x1 n) x1 r3 x3) else (Twins_leastSoundAt_24 mm (Twins_leastSoundAt_4 mm x1 n) x1 x2 x3)))) else none) else (some x2)
set_option maxHeartbeats 4000000 in
theorem lk_Twins_leastSoundAt_4 {p : Program} {l : Launch} {e : Env} {s : State} {m : MethodId} {args : Array Value} {below : List Frame} {meth : Method} {c : Code} {D : va_G} {cA : FieldType → ClassId} {ad adV : Nat → Nat} {z0 : Nat} {al0 : List Nat} {mm : aM} (K : aK p s m args meth c mX9_leastSoundAt D cA ad adV z0) (x1 : Int)  : ∀ (n : Nat) (x2 : Int) (x3 : Int), aG p l e { frames := 2, cells := 0, slots := 0, locals := 46 } s m args below meth c D cA ad z0 mX9_leastSoundAt al0 (rI mm) (Twins_leastSoundAt_4 mm x1 n x2 x3) 4 [(0, .inr (.inr (.inl (some 80)))), (1, .inl x1), (2, .inl x2), (3, .inl x3)] [] mm := by
  intro n
  induction n with
  | zero => intro x2 x3; exact g_none
  | succ n ih =>
    intro x2 x3
    rw [Twins_leastSoundAt_4]
    refine gl (i' := 5) (fun _ _ => aw_iload_n K (dOf ck_mX9_leastSoundAt rfl rfl) rfl) ?_
    refine gl (i' := 6) (fun _ _ => aw_aload_n K (dOf ck_mX9_leastSoundAt rfl rfl) rfl) ?_
    refine gl (i' := 7) (fun _ _ => aw_getf K (dOf ck_mX9_leastSoundAt rfl rfl) rfl rfl (Nat.le_of_ble_eq_true rfl) wd_407 (k := 16) rfl) ?_
    refine g_icmp_ge K (dOf ck_mX9_leastSoundAt rfl rfl) (t := 26) (aJ_of (by decide +kernel)) (fun h1 => ?_) (fun h1 => ?_)
    · refine gl (i' := 9) (fun _ _ => aw_aload_n K (dOf ck_mX9_leastSoundAt rfl rfl) rfl) ?_
      refine gl (i' := 10) (fun _ _ => aw_aload_n K (dOf ck_mX9_leastSoundAt rfl rfl) rfl) ?_
      refine gl (i' := 11) (fun _ _ => aw_getf K (dOf ck_mX9_leastSoundAt rfl rfl) rfl rfl (Nat.le_of_ble_eq_true rfl) wd_408 (k := 17) rfl) ?_
      refine gl (i' := 12) (fun _ _ => aw_iload_n K (dOf ck_mX9_leastSoundAt rfl rfl) rfl) ?_
      refine g_gd (fun hb2 => ?_)
      refine gl (i' := 13) (fun _ _ => aw_sald K (dOf ck_mX9_leastSoundAt rfl rfl) rfl hb2) ?_
      refine gl (i' := 14) (fun _ _ => aw_iload_n K (dOf ck_mX9_leastSoundAt rfl rfl) rfl) ?_
      refine g_callVI K [.inl _, .inl _] rfl (dOf ck_mX9_leastSoundAt rfl rfl) al_OneBreath_Twins_197 rfl rfl ⟨wd_936, wd_49⟩ rfl (Nat.le_of_ble_eq_true rfl) ⟨Nat.le_of_ble_eq_true rfl, Nat.le_of_ble_eq_true rfl⟩ (fun b hb => met_Twins_toldAt  hb) (fun r3 hr3 => ?_)
      refine gl (i' := 16) (fun _ _ => aw_istore K (dOf ck_mX9_leastSoundAt rfl rfl) (Nat.le_of_ble_eq_true rfl)) ?_
      refine g_lv (lv' := [(4, .inl _), (0, .inr (.inr (.inl (some _)))), (1, .inl _), (2, .inl _), (3, .inl _)]) rfl ?_
      refine gl (i' := 17) (fun _ _ => aw_iload K (dOf ck_mX9_leastSoundAt rfl rfl) rfl) ?_
      refine gl (i' := 18) (fun _ _ => aw_iconst K (n := -1) (i32 _ rfl) (dOf ck_mX9_leastSoundAt rfl rfl)) ?_
      refine g_icmp_eq K (dOf ck_mX9_leastSoundAt rfl rfl) (t := 24) (aJ_of (by decide +kernel)) (fun h4 => ?_) (fun h4 => ?_)
      · refine g_sub [1, 2, 3, 4] rfl ?_
        exact lk_Twins_leastSoundAt_24 K _ _ _ _ ih
      · refine gl (i' := 20) (fun _ _ => aw_iload K (dOf ck_mX9_leastSoundAt rfl rfl) rfl) ?_
        refine gl (i' := 21) (fun _ _ => aw_iload_n K (dOf ck_mX9_leastSoundAt rfl rfl) rfl) ?_
        refine g_icmp_ge K (dOf ck_mX9_leastSoundAt rfl rfl) (t := 24) (aJ_of (by decide +kernel)) (fun h5 => ?_) (fun h5 => ?_)
        · refine gl (i' := 23) (fun _ _ => aw_iload K (dOf ck_mX9_leastSoundAt rfl rfl) rfl) ?_
          refine gl (i' := 24) (fun _ _ => aw_istore_n K (dOf ck_mX9_leastSoundAt rfl rfl) (Nat.le_of_ble_eq_true rfl)) ?_
          refine g_lv (lv' := [(2, .inl _), (4, .inl _), (0, .inr (.inr (.inl (some _)))), (1, .inl _), (3, .inl _)]) rfl ?_
          refine g_sub [2, 3, 0, 4] rfl ?_
          exact lk_Twins_leastSoundAt_24 K _ _ _ _ ih
        · refine g_sub [1, 2, 3, 4] rfl ?_
          exact lk_Twins_leastSoundAt_24 K _ _ _ _ ih
    · refine gl (i' := 27) (fun _ _ => aw_iload_n K (dOf ck_mX9_leastSoundAt rfl rfl) rfl) ?_
      exact g_iret K (by decide +kernel) rfl (Or.inl rfl) rfl
def Twins_leastSoundAt (x1 : Int) (mm : aM) : Option Int := Twins_leastSoundAt_4 mm x1 FU 8 0
set_option maxHeartbeats 4000000 in
theorem met_Twins_leastSoundAt {l : Launch} {D : va_G} {cA : FieldType → ClassId} {ad adV : Nat → Nat} {z0 : Nat} {x1 : Int} {mm : aM}  {r : Int} (h : Twins_leastSoundAt x1 mm = some r) : aMet l D cA ad adV z0 mX9_leastSoundAt 2 46 0 0 [.inr (.inr (.inl (some 80))), .inl x1] SH mm ((rI mm) r).1 SH ((rI mm) r).2 := by
  refine aMet_ofG (by decide +kernel) rfl (Nat.le_of_ble_eq_true rfl) h (fun p e s m args below meth c al0 K => ?_)
  unfold Twins_leastSoundAt
  refine gl (i' := 1) (fun _ _ => aw_bip K (dOf ck_mX9_leastSoundAt rfl rfl) (v := 8) rfl) ?_
  refine gl (i' := 2) (fun _ _ => aw_istore_n K (dOf ck_mX9_leastSoundAt rfl rfl) (Nat.le_of_ble_eq_true rfl)) ?_
  refine g_lv (lv' := [(2, .inl _), (0, .inr (.inr (.inl (some _)))), (1, .inl _)]) rfl ?_
  refine gl (i' := 3) (fun _ _ => aw_iconst K (n := 0) (i32 _ rfl) (dOf ck_mX9_leastSoundAt rfl rfl)) ?_
  refine gl (i' := 4) (fun _ _ => aw_istore_n K (dOf ck_mX9_leastSoundAt rfl rfl) (Nat.le_of_ble_eq_true rfl)) ?_
  refine g_lv (lv' := [(3, .inl _), (2, .inl _), (0, .inr (.inr (.inl (some _)))), (1, .inl _)]) rfl ?_
  refine g_sub [2, 3, 1, 0] rfl ?_
  exact lk_Twins_leastSoundAt_4 K _ FU _ _
def Twins_wakeNext_36 (k4 : Int → aM → Option aM) (x1 : Int) (x2 : Int) (x3 : Int) (mm : aM) : Option aM := k4 (iand x3 (w32 (x3 - 1))) mm
set_option maxHeartbeats 4000000 in
theorem lk_Twins_wakeNext_36 {p : Program} {l : Launch} {e : Env} {s : State} {m : MethodId} {args : Array Value} {below : List Frame} {meth : Method} {c : Code} {D : va_G} {cA : FieldType → ClassId} {ad adV : Nat → Nat} {z0 : Nat} {al0 : List Nat} (K : aK p s m args meth c mX9_wakeNext D cA ad adV z0) (x1 : Int) (x2 : Int) (x3 : Int) (k4 : Int → aM → Option aM) (hk4 : ∀ (x3 : Int) (mm : aM), aG p l e { frames := 3, cells := 0, slots := 0, locals := 76 } s m args below meth c D cA ad z0 mX9_wakeNext al0 rM (k4 x3 mm) 4 [(0, .inr (.inr (.inl (some 80)))), (1, .inl x1), (2, .inl x2), (3, .inl x3)] [] mm)  (mm : aM) : aG p l e { frames := 3, cells := 0, slots := 0, locals := 76 } s m args below meth c D cA ad z0 mX9_wakeNext al0 rM (Twins_wakeNext_36 k4 x1 x2 x3 mm) 36 [(0, .inr (.inr (.inl (some 80)))), (1, .inl x1), (2, .inl x2), (3, .inl x3)] [] mm := by
  unfold Twins_wakeNext_36
  refine gl (i' := 37) (fun _ _ => aw_iload_n K (dOf ck_mX9_wakeNext rfl rfl) rfl) ?_
  refine gl (i' := 38) (fun _ _ => aw_iload_n K (dOf ck_mX9_wakeNext rfl rfl) rfl) ?_
  refine gl (i' := 39) (fun _ _ => aw_iconst K (n := 1) (i32 _ rfl) (dOf ck_mX9_wakeNext rfl rfl)) ?_
  refine gl (i' := 40) (fun _ _ => aw_isub K (dOf ck_mX9_wakeNext rfl rfl)) ?_
  refine gl (i' := 41) (fun _ _ => aw_iand K (dOf ck_mX9_wakeNext rfl rfl)) ?_
  refine gl (i' := 42) (fun _ _ => aw_istore_n K (dOf ck_mX9_wakeNext rfl rfl) (Nat.le_of_ble_eq_true rfl)) ?_
  refine g_lv (lv' := [(3, .inl _), (0, .inr (.inr (.inl (some _)))), (1, .inl _), (2, .inl _)]) rfl ?_
  refine g_goto K (dOf ck_mX9_wakeNext rfl rfl).1 (t := 4) (aJ_of (by decide +kernel)) ?_
  refine g_sub [1, 2, 3, 0] rfl ?_
  exact hk4 _ _
def Twins_wakeNext_4 (x1 : Int) (x2 : Int) : Nat → Int → aM → Option aM
  | 0, _, _ => none
  | n + 1, x3, mm => if x3 = 0 then (some mm) else ((Jint_numberOfTrailingZeros x3 mm).bind fun r3 => (if 0 ≤ x1 ∧ x1 < 471 then ((Twins_lengthOut x1 mm).bind fun r5 => (if 0 ≤ r3 ∧ r3 < 13 then ((Jmath_min r5 (mm 95 r3.toNat) mm).bind fun r7 => (if (w32 ((mm 103 x1.toNat) + r7)) = x2 then ((Twins_plainMeet x1 r3 mm).bind fun r9 => (if r9 = (-1) then (Twins_wakeNext_36 (Twins_wakeNext_4 x1 x2 n) x1 x2 x3 mm) else ((Twins_take r9 x2 mm).bind fun r11 => (Twins_wakeNext_36 (Twins_wakeNext_4 x1 x2 n) x1 x2 x3 r11)))) else (Twins_wakeNext_36 (Twins_wakeNext_4 x1 x2 n) x1 x2 x3 mm))) else none)) else none))
set_option maxHeartbeats 4000000 in
theorem lk_Twins_wakeNext_4 {p : Program} {l : Launch} {e : Env} {s : State} {m : MethodId} {args : Array Value} {below : List Frame} {meth : Method} {c : Code} {D : va_G} {cA : FieldType → ClassId} {ad adV : Nat → Nat} {z0 : Nat} {al0 : List Nat} (K : aK p s m args meth c mX9_wakeNext D cA ad adV z0) (x1 : Int) (x2 : Int)  : ∀ (n : Nat) (x3 : Int) (mm : aM), aG p l e { frames := 3, cells := 0, slots := 0, locals := 76 } s m args below meth c D cA ad z0 mX9_wakeNext al0 rM (Twins_wakeNext_4 x1 x2 n x3 mm) 4 [(0, .inr (.inr (.inl (some 80)))), (1, .inl x1), (2, .inl x2), (3, .inl x3)] [] mm := by
  intro n
  induction n with
  | zero => intro x3 mm; exact g_none
  | succ n ih =>
    intro x3 mm
    rw [Twins_wakeNext_4]
    refine gl (i' := 5) (fun _ _ => aw_iload_n K (dOf ck_mX9_wakeNext rfl rfl) rfl) ?_
    refine g_if_eq K (dOf ck_mX9_wakeNext rfl rfl) (t := 43) (aJ_of (by decide +kernel)) (fun h2 => ?_) (fun h2 => ?_)
    · exact g_vret K (by decide +kernel) rfl rfl
    · refine gl (i' := 7) (fun _ _ => aw_iload_n K (dOf ck_mX9_wakeNext rfl rfl) rfl) ?_
      refine g_callSI K [.inl _] rfl (dOf ck_mX9_wakeNext rfl rfl) al_OneBreath_Twins_147 wd_860 rfl (Nat.le_of_ble_eq_true rfl) ⟨Nat.le_of_ble_eq_true rfl, Nat.le_of_ble_eq_true rfl⟩ (fun b hb => met_Jint_numberOfTrailingZeros  hb) (fun r3 hr3 => ?_)
      refine gl (i' := 9) (fun _ _ => aw_istore K (dOf ck_mX9_wakeNext rfl rfl) (Nat.le_of_ble_eq_true rfl)) ?_
      refine g_lv (lv' := [(4, .inl _), (0, .inr (.inr (.inl (some _)))), (1, .inl _), (2, .inl _), (3, .inl _)]) rfl ?_
      refine gl (i' := 10) (fun _ _ => aw_aload_n K (dOf ck_mX9_wakeNext rfl rfl) rfl) ?_
      refine gl (i' := 11) (fun _ _ => aw_getf K (dOf ck_mX9_wakeNext rfl rfl) rfl rfl (Nat.le_of_ble_eq_true rfl) wd_409 (k := 18) rfl) ?_
      refine gl (i' := 12) (fun _ _ => aw_iload_n K (dOf ck_mX9_wakeNext rfl rfl) rfl) ?_
      refine g_gd (fun hb4 => ?_)
      refine gl (i' := 13) (fun _ _ => aw_sald K (dOf ck_mX9_wakeNext rfl rfl) rfl hb4) ?_
      refine gl (i' := 14) (fun _ _ => aw_aload_n K (dOf ck_mX9_wakeNext rfl rfl) rfl) ?_
      refine gl (i' := 15) (fun _ _ => aw_iload_n K (dOf ck_mX9_wakeNext rfl rfl) rfl) ?_
      refine g_callVI K [.inl _] rfl (dOf ck_mX9_wakeNext rfl rfl) al_OneBreath_Twins_164 rfl rfl ⟨wd_886, wd_39⟩ rfl (Nat.le_of_ble_eq_true rfl) ⟨Nat.le_of_ble_eq_true rfl, Nat.le_of_ble_eq_true rfl⟩ (fun b hb => met_Twins_lengthOut  hb) (fun r5 hr5 => ?_)
      refine gl (i' := 17) (fun _ _ => aw_aload_n K (dOf ck_mX9_wakeNext rfl rfl) rfl) ?_
      refine gl (i' := 18) (fun _ _ => aw_getf K (dOf ck_mX9_wakeNext rfl rfl) rfl rfl (Nat.le_of_ble_eq_true rfl) wd_395 (k := 4) rfl) ?_
      refine gl (i' := 19) (fun _ _ => aw_iload K (dOf ck_mX9_wakeNext rfl rfl) rfl) ?_
      refine g_gd (fun hb6 => ?_)
      refine gl (i' := 20) (fun _ _ => aw_iald K (dOf ck_mX9_wakeNext rfl rfl) rfl hb6) ?_
      refine g_callSI K [.inl _, .inl _] rfl (dOf ck_mX9_wakeNext rfl rfl) al_OneBreath_Twins_167 wd_496 rfl (Nat.le_of_ble_eq_true rfl) ⟨Nat.le_of_ble_eq_true rfl, Nat.le_of_ble_eq_true rfl⟩ (fun b hb => met_Jmath_min  hb) (fun r7 hr7 => ?_)
      refine gl (i' := 22) (fun _ _ => aw_iadd K (dOf ck_mX9_wakeNext rfl rfl)) ?_
      refine gl (i' := 23) (fun _ _ => aw_iload_n K (dOf ck_mX9_wakeNext rfl rfl) rfl) ?_
      refine g_icmp_ne K (dOf ck_mX9_wakeNext rfl rfl) (t := 36) (aJ_of (by decide +kernel)) (fun h8 => ?_) (fun h8 => ?_)
      · refine gl (i' := 25) (fun _ _ => aw_aload_n K (dOf ck_mX9_wakeNext rfl rfl) rfl) ?_
        refine gl (i' := 26) (fun _ _ => aw_iload_n K (dOf ck_mX9_wakeNext rfl rfl) rfl) ?_
        refine gl (i' := 27) (fun _ _ => aw_iload K (dOf ck_mX9_wakeNext rfl rfl) rfl) ?_
        refine g_callVI K [.inl _, .inl _] rfl (dOf ck_mX9_wakeNext rfl rfl) al_OneBreath_Twins_206 rfl rfl ⟨wd_920, wd_45⟩ rfl (Nat.le_of_ble_eq_true rfl) ⟨Nat.le_of_ble_eq_true rfl, Nat.le_of_ble_eq_true rfl⟩ (fun b hb => met_Twins_plainMeet  hb) (fun r9 hr9 => ?_)
        refine gl (i' := 29) (fun _ _ => aw_istore K (dOf ck_mX9_wakeNext rfl rfl) (Nat.le_of_ble_eq_true rfl)) ?_
        refine g_lv (lv' := [(5, .inl _), (4, .inl _), (0, .inr (.inr (.inl (some _)))), (1, .inl _), (2, .inl _), (3, .inl _)]) rfl ?_
        refine gl (i' := 30) (fun _ _ => aw_iload K (dOf ck_mX9_wakeNext rfl rfl) rfl) ?_
        refine gl (i' := 31) (fun _ _ => aw_iconst K (n := -1) (i32 _ rfl) (dOf ck_mX9_wakeNext rfl rfl)) ?_
        refine g_icmp_eq K (dOf ck_mX9_wakeNext rfl rfl) (t := 36) (aJ_of (by decide +kernel)) (fun h10 => ?_) (fun h10 => ?_)
        · refine g_sub [2, 3, 4, 5] rfl ?_
          exact lk_Twins_wakeNext_36 K _ _ _ _ ih _
        · refine gl (i' := 33) (fun _ _ => aw_aload_n K (dOf ck_mX9_wakeNext rfl rfl) rfl) ?_
          refine gl (i' := 34) (fun _ _ => aw_iload K (dOf ck_mX9_wakeNext rfl rfl) rfl) ?_
          refine gl (i' := 35) (fun _ _ => aw_iload_n K (dOf ck_mX9_wakeNext rfl rfl) rfl) ?_
          refine g_callVM K [.inl _, .inl _] rfl (dOf ck_mX9_wakeNext rfl rfl) al_OneBreath_Twins_188 rfl rfl ⟨wd_927, wd_46⟩ rfl (Nat.le_of_ble_eq_true rfl) ⟨Nat.le_of_ble_eq_true rfl, Nat.le_of_ble_eq_true rfl⟩ (fun b hb => met_Twins_take  hb) (fun r11 hr11 => ?_)
          refine g_sub [2, 3, 4, 5] rfl ?_
          exact lk_Twins_wakeNext_36 K _ _ _ _ ih _
      · refine g_sub [1, 2, 3, 4] rfl ?_
        exact lk_Twins_wakeNext_36 K _ _ _ _ ih _
def Twins_wakeNext (x1 : Int) (x2 : Int) (mm : aM) : Option aM := (Twins_nextWords x1 mm).bind fun r1 => (Twins_wakeNext_4 x1 x2 FU r1 mm)
set_option maxHeartbeats 4000000 in
theorem met_Twins_wakeNext {l : Launch} {D : va_G} {cA : FieldType → ClassId} {ad adV : Nat → Nat} {z0 : Nat} {x1 : Int} {x2 : Int} {mm : aM}  {r : aM} (h : Twins_wakeNext x1 x2 mm = some r) : aMet l D cA ad adV z0 mX9_wakeNext 3 76 0 0 [.inr (.inr (.inl (some 80))), .inl x1, .inl x2] SH mm (rM r).1 SH (rM r).2 := by
  refine aMet_ofG (by decide +kernel) rfl (Nat.le_of_ble_eq_true rfl) h (fun p e s m args below meth c al0 K => ?_)
  unfold Twins_wakeNext
  refine gl (i' := 1) (fun _ _ => aw_aload_n K (dOf ck_mX9_wakeNext rfl rfl) rfl) ?_
  refine gl (i' := 2) (fun _ _ => aw_iload_n K (dOf ck_mX9_wakeNext rfl rfl) rfl) ?_
  refine g_callVI K [.inl _] rfl (dOf ck_mX9_wakeNext rfl rfl) al_OneBreath_Twins_151 rfl rfl ⟨wd_874, wd_35⟩ rfl (Nat.le_of_ble_eq_true rfl) ⟨Nat.le_of_ble_eq_true rfl, Nat.le_of_ble_eq_true rfl⟩ (fun b hb => met_Twins_nextWords  hb) (fun r1 hr1 => ?_)
  refine gl (i' := 4) (fun _ _ => aw_istore_n K (dOf ck_mX9_wakeNext rfl rfl) (Nat.le_of_ble_eq_true rfl)) ?_
  refine g_lv (lv' := [(3, .inl _), (0, .inr (.inr (.inl (some _)))), (1, .inl _), (2, .inl _)]) rfl ?_
  refine g_sub [1, 2, 3, 0] rfl ?_
  exact lk_Twins_wakeNext_4 K _ _ FU _ _
def Twins_firstLine_88 (k28 : Int → aM → Option aM) (k49 : Int → aM → Option aM) (x2 : Int) (x3 : Int) (x4 : Int) (x5 : Int) (mm : aM) : Option aM := k49 (w32 (x5 + 1)) mm
set_option maxHeartbeats 4000000 in
theorem lk_Twins_firstLine_88 {p : Program} {l : Launch} {e : Env} {s : State} {m : MethodId} {args : Array Value} {below : List Frame} {meth : Method} {c : Code} {D : va_G} {cA : FieldType → ClassId} {ad adV : Nat → Nat} {z0 : Nat} {al0 : List Nat} (K : aK p s m args meth c mX9_firstLine D cA ad adV z0) (x2 : Int) (x3 : Int) (x4 : Int) (x5 : Int) (k28 : Int → aM → Option aM) (hk28 : ∀ (x3 : Int) (mm : aM), aG p l e { frames := 4, cells := 0, slots := 0, locals := 101 } s m args below meth c D cA ad z0 mX9_firstLine al0 rM (k28 x3 mm) 28 [(0, .inr (.inr (.inl (some 80)))), (1, .inr (.inr (.inl (some 108)))), (2, .inl x2), (3, .inl x3)] [] mm) (k49 : Int → aM → Option aM) (hk49 : ∀ (x5 : Int) (mm : aM), aG p l e { frames := 4, cells := 0, slots := 0, locals := 101 } s m args below meth c D cA ad z0 mX9_firstLine al0 rM (k49 x5 mm) 49 [(0, .inr (.inr (.inl (some 80)))), (1, .inr (.inr (.inl (some 108)))), (2, .inl x2), (3, .inl x3), (4, .inl x4), (5, .inl x5)] [] mm)  (mm : aM) : aG p l e { frames := 4, cells := 0, slots := 0, locals := 101 } s m args below meth c D cA ad z0 mX9_firstLine al0 rM (Twins_firstLine_88 k28 k49 x2 x3 x4 x5 mm) 88 [(0, .inr (.inr (.inl (some 80)))), (1, .inr (.inr (.inl (some 108)))), (2, .inl x2), (3, .inl x3), (4, .inl x4), (5, .inl x5)] [] mm := by
  unfold Twins_firstLine_88
  refine gl (i' := 89) (fun _ _ => aw_iinc K (dOf ck_mX9_firstLine rfl rfl) (Nat.le_of_ble_eq_true rfl) rfl) ?_
  refine g_lv (lv' := [(5, .inl _), (0, .inr (.inr (.inl (some _)))), (1, .inr (.inr (.inl (some _)))), (2, .inl _), (3, .inl _), (4, .inl _)]) rfl ?_
  refine g_goto K (dOf ck_mX9_firstLine rfl rfl).1 (t := 49) (aJ_of (by decide +kernel)) ?_
  refine g_sub [1, 2, 3, 4, 5, 0] rfl ?_
  exact hk49 _ _
def Twins_firstLine_76 (k28 : Int → aM → Option aM) (k49 : Int → aM → Option aM) (x2 : Int) (x3 : Int) (x4 : Int) (x5 : Int) (x6 : Int) (mm : aM) : Option aM := if x6 = (-1) then (Twins_firstLine_88 k28 k49 x2 x3 x4 x5 mm) else (if 0 ≤ x5 ∧ x5 < 471 then ((Twins_wakeNext (mm 102 x5.toNat) (w32 (x3 + 1)) mm).bind fun r14 => (Twins_firstLine_88 k28 k49 x2 x3 x4 x5 r14)) else none)
set_option maxHeartbeats 4000000 in
theorem lk_Twins_firstLine_76 {p : Program} {l : Launch} {e : Env} {s : State} {m : MethodId} {args : Array Value} {below : List Frame} {meth : Method} {c : Code} {D : va_G} {cA : FieldType → ClassId} {ad adV : Nat → Nat} {z0 : Nat} {al0 : List Nat} (K : aK p s m args meth c mX9_firstLine D cA ad adV z0) (x2 : Int) (x3 : Int) (x4 : Int) (x5 : Int) (x6 : Int) (k28 : Int → aM → Option aM) (hk28 : ∀ (x3 : Int) (mm : aM), aG p l e { frames := 4, cells := 0, slots := 0, locals := 101 } s m args below meth c D cA ad z0 mX9_firstLine al0 rM (k28 x3 mm) 28 [(0, .inr (.inr (.inl (some 80)))), (1, .inr (.inr (.inl (some 108)))), (2, .inl x2), (3, .inl x3)] [] mm) (k49 : Int → aM → Option aM) (hk49 : ∀ (x5 : Int) (mm : aM), aG p l e { frames := 4, cells := 0, slots := 0, locals := 101 } s m args below meth c D cA ad z0 mX9_firstLine al0 rM (k49 x5 mm) 49 [(0, .inr (.inr (.inl (some 80)))), (1, .inr (.inr (.inl (some 108)))), (2, .inl x2), (3, .inl x3), (4, .inl x4), (5, .inl x5)] [] mm)  (mm : aM) : aG p l e { frames := 4, cells := 0, slots := 0, locals := 101 } s m args below meth c D cA ad z0 mX9_firstLine al0 rM (Twins_firstLine_76 k28 k49 x2 x3 x4 x5 x6 mm) 76 [(0, .inr (.inr (.inl (some 80)))), (1, .inr (.inr (.inl (some 108)))), (2, .inl x2), (3, .inl x3), (4, .inl x4), (5, .inl x5), (6, .inl x6)] [] mm := by
  unfold Twins_firstLine_76
  refine gl (i' := 77) (fun _ _ => aw_iload K (dOf ck_mX9_firstLine rfl rfl) rfl) ?_
  refine gl (i' := 78) (fun _ _ => aw_iconst K (n := -1) (i32 _ rfl) (dOf ck_mX9_firstLine rfl rfl)) ?_
  refine g_icmp_eq K (dOf ck_mX9_firstLine rfl rfl) (t := 88) (aJ_of (by decide +kernel)) (fun h12 => ?_) (fun h12 => ?_)
  · refine g_sub [0, 1, 2, 3, 4, 5] rfl ?_
    exact lk_Twins_firstLine_88 K _ _ _ _ _ hk28 _ hk49 _
  · refine gl (i' := 80) (fun _ _ => aw_aload_n K (dOf ck_mX9_firstLine rfl rfl) rfl) ?_
    refine gl (i' := 81) (fun _ _ => aw_aload_n K (dOf ck_mX9_firstLine rfl rfl) rfl) ?_
    refine gl (i' := 82) (fun _ _ => aw_getf K (dOf ck_mX9_firstLine rfl rfl) rfl rfl (Nat.le_of_ble_eq_true rfl) wd_408 (k := 17) rfl) ?_
    refine gl (i' := 83) (fun _ _ => aw_iload K (dOf ck_mX9_firstLine rfl rfl) rfl) ?_
    refine g_gd (fun hb13 => ?_)
    refine gl (i' := 84) (fun _ _ => aw_sald K (dOf ck_mX9_firstLine rfl rfl) rfl hb13) ?_
    refine gl (i' := 85) (fun _ _ => aw_iload_n K (dOf ck_mX9_firstLine rfl rfl) rfl) ?_
    refine gl (i' := 86) (fun _ _ => aw_iconst K (n := 1) (i32 _ rfl) (dOf ck_mX9_firstLine rfl rfl)) ?_
    refine gl (i' := 87) (fun _ _ => aw_iadd K (dOf ck_mX9_firstLine rfl rfl)) ?_
    refine g_callVM K [.inl _, .inl _] rfl (dOf ck_mX9_firstLine rfl rfl) al_OneBreath_Twins_200 rfl rfl ⟨wd_939, wd_50⟩ rfl (Nat.le_of_ble_eq_true rfl) ⟨Nat.le_of_ble_eq_true rfl, Nat.le_of_ble_eq_true rfl⟩ (fun b hb => met_Twins_wakeNext  hb) (fun r14 hr14 => ?_)
    refine g_sub [0, 1, 2, 3, 4, 5] rfl ?_
    exact lk_Twins_firstLine_88 K _ _ _ _ _ hk28 _ hk49 _
def Twins_firstLine_49 (k28 : Int → aM → Option aM) (x2 : Int) (x3 : Int) (x4 : Int) : Nat → Int → aM → Option aM
  | 0, _, _ => none
  | n + 1, x5, mm => if x5 < (mm 80 16) then (if 0 ≤ x5 ∧ x5 < 471 then ((Twins_toldAt (mm 102 x5.toNat) x3 mm).bind fun r10 => (if r10 = (-1) then (Twins_firstLine_76 k28 (Twins_firstLine_49 k28 x2 x3 x4 n) x2 x3 x4 x5 r10 mm) else (if r10 = x4 then (Twins_firstLine_76 k28 (Twins_firstLine_49 k28 x2 x3 x4 n) x2 x3 x4 x5 r10 mm) else (if 0 ≤ (mm 102 x5.toNat) ∧ (mm 102 x5.toNat) < 471 then (st1 (aup mm 104 (mm 102 x5.toNat).toNat (w8 0)) fun mm17 => (Twins_firstLine_88 k28 (Twins_firstLine_49 k28 x2 x3 x4 n) x2 x3 x4 x5 mm17)) else none)))) else none) else (k28 (w32 (x3 + 1)) mm)
set_option maxHeartbeats 4000000 in
theorem lk_Twins_firstLine_49 {p : Program} {l : Launch} {e : Env} {s : State} {m : MethodId} {args : Array Value} {below : List Frame} {meth : Method} {c : Code} {D : va_G} {cA : FieldType → ClassId} {ad adV : Nat → Nat} {z0 : Nat} {al0 : List Nat} (K : aK p s m args meth c mX9_firstLine D cA ad adV z0) (x2 : Int) (x3 : Int) (x4 : Int) (k28 : Int → aM → Option aM) (hk28 : ∀ (x3 : Int) (mm : aM), aG p l e { frames := 4, cells := 0, slots := 0, locals := 101 } s m args below meth c D cA ad z0 mX9_firstLine al0 rM (k28 x3 mm) 28 [(0, .inr (.inr (.inl (some 80)))), (1, .inr (.inr (.inl (some 108)))), (2, .inl x2), (3, .inl x3)] [] mm)  : ∀ (n : Nat) (x5 : Int) (mm : aM), aG p l e { frames := 4, cells := 0, slots := 0, locals := 101 } s m args below meth c D cA ad z0 mX9_firstLine al0 rM (Twins_firstLine_49 k28 x2 x3 x4 n x5 mm) 49 [(0, .inr (.inr (.inl (some 80)))), (1, .inr (.inr (.inl (some 108)))), (2, .inl x2), (3, .inl x3), (4, .inl x4), (5, .inl x5)] [] mm := by
  intro n
  induction n with
  | zero => intro x5 mm; exact g_none
  | succ n ih =>
    intro x5 mm
    rw [Twins_firstLine_49]
    refine gl (i' := 50) (fun _ _ => aw_iload K (dOf ck_mX9_firstLine rfl rfl) rfl) ?_
    refine gl (i' := 51) (fun _ _ => aw_aload_n K (dOf ck_mX9_firstLine rfl rfl) rfl) ?_
    refine gl (i' := 52) (fun _ _ => aw_getf K (dOf ck_mX9_firstLine rfl rfl) rfl rfl (Nat.le_of_ble_eq_true rfl) wd_407 (k := 16) rfl) ?_
    refine g_icmp_ge K (dOf ck_mX9_firstLine rfl rfl) (t := 90) (aJ_of (by decide +kernel)) (fun h8 => ?_) (fun h8 => ?_)
    · refine gl (i' := 54) (fun _ _ => aw_aload_n K (dOf ck_mX9_firstLine rfl rfl) rfl) ?_
      refine gl (i' := 55) (fun _ _ => aw_aload_n K (dOf ck_mX9_firstLine rfl rfl) rfl) ?_
      refine gl (i' := 56) (fun _ _ => aw_getf K (dOf ck_mX9_firstLine rfl rfl) rfl rfl (Nat.le_of_ble_eq_true rfl) wd_408 (k := 17) rfl) ?_
      refine gl (i' := 57) (fun _ _ => aw_iload K (dOf ck_mX9_firstLine rfl rfl) rfl) ?_
      refine g_gd (fun hb9 => ?_)
      refine gl (i' := 58) (fun _ _ => aw_sald K (dOf ck_mX9_firstLine rfl rfl) rfl hb9) ?_
      refine gl (i' := 59) (fun _ _ => aw_iload_n K (dOf ck_mX9_firstLine rfl rfl) rfl) ?_
      refine g_callVI K [.inl _, .inl _] rfl (dOf ck_mX9_firstLine rfl rfl) al_OneBreath_Twins_197 rfl rfl ⟨wd_936, wd_49⟩ rfl (Nat.le_of_ble_eq_true rfl) ⟨Nat.le_of_ble_eq_true rfl, Nat.le_of_ble_eq_true rfl⟩ (fun b hb => met_Twins_toldAt  hb) (fun r10 hr10 => ?_)
      refine gl (i' := 61) (fun _ _ => aw_istore K (dOf ck_mX9_firstLine rfl rfl) (Nat.le_of_ble_eq_true rfl)) ?_
      refine g_lv (lv' := [(6, .inl _), (0, .inr (.inr (.inl (some _)))), (1, .inr (.inr (.inl (some _)))), (2, .inl _), (3, .inl _), (4, .inl _), (5, .inl _)]) rfl ?_
      refine gl (i' := 62) (fun _ _ => aw_iload K (dOf ck_mX9_firstLine rfl rfl) rfl) ?_
      refine gl (i' := 63) (fun _ _ => aw_iconst K (n := -1) (i32 _ rfl) (dOf ck_mX9_firstLine rfl rfl)) ?_
      refine g_icmp_eq K (dOf ck_mX9_firstLine rfl rfl) (t := 76) (aJ_of (by decide +kernel)) (fun h11 => ?_) (fun h11 => ?_)
      · refine g_sub [1, 2, 3, 4, 5, 6, 0] rfl ?_
        exact lk_Twins_firstLine_76 K _ _ _ _ _ _ hk28 _ ih _
      · refine gl (i' := 65) (fun _ _ => aw_iload K (dOf ck_mX9_firstLine rfl rfl) rfl) ?_
        refine gl (i' := 66) (fun _ _ => aw_iload K (dOf ck_mX9_firstLine rfl rfl) rfl) ?_
        refine g_icmp_eq K (dOf ck_mX9_firstLine rfl rfl) (t := 76) (aJ_of (by decide +kernel)) (fun h15 => ?_) (fun h15 => ?_)
        · refine g_sub [1, 2, 3, 4, 5, 6, 0] rfl ?_
          exact lk_Twins_firstLine_76 K _ _ _ _ _ _ hk28 _ ih _
        · refine gl (i' := 68) (fun _ _ => aw_aload_n K (dOf ck_mX9_firstLine rfl rfl) rfl) ?_
          refine gl (i' := 69) (fun _ _ => aw_getf K (dOf ck_mX9_firstLine rfl rfl) rfl rfl (Nat.le_of_ble_eq_true rfl) wd_410 (k := 19) rfl) ?_
          refine gl (i' := 70) (fun _ _ => aw_aload_n K (dOf ck_mX9_firstLine rfl rfl) rfl) ?_
          refine gl (i' := 71) (fun _ _ => aw_getf K (dOf ck_mX9_firstLine rfl rfl) rfl rfl (Nat.le_of_ble_eq_true rfl) wd_408 (k := 17) rfl) ?_
          refine gl (i' := 72) (fun _ _ => aw_iload K (dOf ck_mX9_firstLine rfl rfl) rfl) ?_
          refine gl (i' := 73) (fun _ _ => aw_sald K (dOf ck_mX9_firstLine rfl rfl) rfl hb9) ?_
          refine gl (i' := 74) (fun _ _ => aw_iconst K (n := 0) (i32 _ rfl) (dOf ck_mX9_firstLine rfl rfl)) ?_
          refine g_gd (fun hb16 => ?_)
          refine g_st1 ?_
          refine gl (i' := 75) (fun _ _ => aw_bast K (dOf ck_mX9_firstLine rfl rfl) rfl hb16) ?_
          refine g_goto K (dOf ck_mX9_firstLine rfl rfl).1 (t := 88) (aJ_of (by decide +kernel)) ?_
          refine g_sub [1, 2, 3, 4, 5, 6] rfl ?_
          exact lk_Twins_firstLine_88 K _ _ _ _ _ hk28 _ ih _
    · refine gl (i' := 91) (fun _ _ => aw_iinc K (dOf ck_mX9_firstLine rfl rfl) (Nat.le_of_ble_eq_true rfl) rfl) ?_
      refine g_lv (lv' := [(3, .inl _), (0, .inr (.inr (.inl (some _)))), (1, .inr (.inr (.inl (some _)))), (2, .inl _), (4, .inl _), (5, .inl _)]) rfl ?_
      refine g_goto K (dOf ck_mX9_firstLine rfl rfl).1 (t := 28) (aJ_of (by decide +kernel)) ?_
      refine g_sub [1, 2, 3, 0] rfl ?_
      exact hk28 _ _
def Twins_firstLine_28 (x2 : Int) : Nat → Int → aM → Option aM
  | 0, _, _ => none
  | n + 1, x3, mm => if x3 < x2 then (if x3 < 2826 then ((Twins_wakeFromEven x3 mm).bind fun r4 => ((Twins_leastSoundAt x3 r4).bind fun r5 => (if 0 ≤ x3 ∧ x3 < 2826 then (st1 (aup r4 108 x3.toNat (w8 (w8 r5))) fun mm7 => (Twins_firstLine_49 (Twins_firstLine_28 x2 n) x2 x3 r5 FU 0 mm7)) else none))) else (some mm)) else (some mm)
set_option maxHeartbeats 4000000 in
theorem lk_Twins_firstLine_28 {p : Program} {l : Launch} {e : Env} {s : State} {m : MethodId} {args : Array Value} {below : List Frame} {meth : Method} {c : Code} {D : va_G} {cA : FieldType → ClassId} {ad adV : Nat → Nat} {z0 : Nat} {al0 : List Nat} (K : aK p s m args meth c mX9_firstLine D cA ad adV z0) (x2 : Int)  : ∀ (n : Nat) (x3 : Int) (mm : aM), aG p l e { frames := 4, cells := 0, slots := 0, locals := 101 } s m args below meth c D cA ad z0 mX9_firstLine al0 rM (Twins_firstLine_28 x2 n x3 mm) 28 [(0, .inr (.inr (.inl (some 80)))), (1, .inr (.inr (.inl (some 108)))), (2, .inl x2), (3, .inl x3)] [] mm := by
  intro n
  induction n with
  | zero => intro x3 mm; exact g_none
  | succ n ih =>
    intro x3 mm
    rw [Twins_firstLine_28]
    refine gl (i' := 29) (fun _ _ => aw_iload_n K (dOf ck_mX9_firstLine rfl rfl) rfl) ?_
    refine gl (i' := 30) (fun _ _ => aw_iload_n K (dOf ck_mX9_firstLine rfl rfl) rfl) ?_
    refine g_icmp_ge K (dOf ck_mX9_firstLine rfl rfl) (t := 92) (aJ_of (by decide +kernel)) (fun h2 => ?_) (fun h2 => ?_)
    · refine gl (i' := 32) (fun _ _ => aw_iload_n K (dOf ck_mX9_firstLine rfl rfl) rfl) ?_
      refine gl (i' := 33) (fun _ _ => aw_aload_n K (dOf ck_mX9_firstLine rfl rfl) rfl) ?_
      refine gl (i' := 34) (fun _ _ => aw_alen K (dOf ck_mX9_firstLine rfl rfl) rfl rfl (by decide)) ?_
      refine g_icmp_ge K (dOf ck_mX9_firstLine rfl rfl) (t := 92) (aJ_of (by decide +kernel)) (fun h3 => ?_) (fun h3 => ?_)
      · refine gl (i' := 36) (fun _ _ => aw_aload_n K (dOf ck_mX9_firstLine rfl rfl) rfl) ?_
        refine gl (i' := 37) (fun _ _ => aw_iload_n K (dOf ck_mX9_firstLine rfl rfl) rfl) ?_
        refine g_callVM K [.inl _] rfl (dOf ck_mX9_firstLine rfl rfl) al_OneBreath_Twins_191 rfl rfl ⟨wd_930, wd_47⟩ rfl (Nat.le_of_ble_eq_true rfl) ⟨Nat.le_of_ble_eq_true rfl, Nat.le_of_ble_eq_true rfl⟩ (fun b hb => met_Twins_wakeFromEven  hb) (fun r4 hr4 => ?_)
        refine gl (i' := 39) (fun _ _ => aw_aload_n K (dOf ck_mX9_firstLine rfl rfl) rfl) ?_
        refine gl (i' := 40) (fun _ _ => aw_iload_n K (dOf ck_mX9_firstLine rfl rfl) rfl) ?_
        refine g_callVI K [.inl _] rfl (dOf ck_mX9_firstLine rfl rfl) al_OneBreath_Twins_194 rfl rfl ⟨wd_933, wd_48⟩ rfl (Nat.le_of_ble_eq_true rfl) ⟨Nat.le_of_ble_eq_true rfl, Nat.le_of_ble_eq_true rfl⟩ (fun b hb => met_Twins_leastSoundAt  hb) (fun r5 hr5 => ?_)
        refine gl (i' := 42) (fun _ _ => aw_istore K (dOf ck_mX9_firstLine rfl rfl) (Nat.le_of_ble_eq_true rfl)) ?_
        refine g_lv (lv' := [(4, .inl _), (0, .inr (.inr (.inl (some _)))), (1, .inr (.inr (.inl (some _)))), (2, .inl _), (3, .inl _)]) rfl ?_
        refine gl (i' := 43) (fun _ _ => aw_aload_n K (dOf ck_mX9_firstLine rfl rfl) rfl) ?_
        refine gl (i' := 44) (fun _ _ => aw_iload_n K (dOf ck_mX9_firstLine rfl rfl) rfl) ?_
        refine gl (i' := 45) (fun _ _ => aw_iload K (dOf ck_mX9_firstLine rfl rfl) rfl) ?_
        refine gl (i' := 46) (fun _ _ => aw_i2b K (dOf ck_mX9_firstLine rfl rfl)) ?_
        refine g_gd (fun hb6 => ?_)
        refine g_st1 ?_
        refine gl (i' := 47) (fun _ _ => aw_bast K (dOf ck_mX9_firstLine rfl rfl) rfl hb6) ?_
        refine gl (i' := 48) (fun _ _ => aw_iconst K (n := 0) (i32 _ rfl) (dOf ck_mX9_firstLine rfl rfl)) ?_
        refine gl (i' := 49) (fun _ _ => aw_istore K (dOf ck_mX9_firstLine rfl rfl) (Nat.le_of_ble_eq_true rfl)) ?_
        refine g_lv (lv' := [(5, .inl _), (4, .inl _), (0, .inr (.inr (.inl (some _)))), (1, .inr (.inr (.inl (some _)))), (2, .inl _), (3, .inl _)]) rfl ?_
        refine g_sub [2, 3, 4, 5, 1, 0] rfl ?_
        exact lk_Twins_firstLine_49 K _ _ _ _ ih FU _ _
      · exact g_vret K (by decide +kernel) rfl rfl
    · exact g_vret K (by decide +kernel) rfl rfl
def Twins_firstLine_24 (k2 : Int → aM → Option aM) (x2 : Int) (x3 : Int) (mm : aM) : Option aM := k2 (w32 (x3 + 1)) mm
set_option maxHeartbeats 4000000 in
theorem lk_Twins_firstLine_24 {p : Program} {l : Launch} {e : Env} {s : State} {m : MethodId} {args : Array Value} {below : List Frame} {meth : Method} {c : Code} {D : va_G} {cA : FieldType → ClassId} {ad adV : Nat → Nat} {z0 : Nat} {al0 : List Nat} (K : aK p s m args meth c mX9_firstLine D cA ad adV z0) (x2 : Int) (x3 : Int) (k2 : Int → aM → Option aM) (hk2 : ∀ (x3 : Int) (mm : aM), aG p l e { frames := 4, cells := 0, slots := 0, locals := 101 } s m args below meth c D cA ad z0 mX9_firstLine al0 rM (k2 x3 mm) 2 [(0, .inr (.inr (.inl (some 80)))), (1, .inr (.inr (.inl (some 108)))), (2, .inl x2), (3, .inl x3)] [] mm)  (mm : aM) : aG p l e { frames := 4, cells := 0, slots := 0, locals := 101 } s m args below meth c D cA ad z0 mX9_firstLine al0 rM (Twins_firstLine_24 k2 x2 x3 mm) 24 [(0, .inr (.inr (.inl (some 80)))), (1, .inr (.inr (.inl (some 108)))), (2, .inl x2), (3, .inl x3)] [] mm := by
  unfold Twins_firstLine_24
  refine gl (i' := 25) (fun _ _ => aw_iinc K (dOf ck_mX9_firstLine rfl rfl) (Nat.le_of_ble_eq_true rfl) rfl) ?_
  refine g_lv (lv' := [(3, .inl _), (0, .inr (.inr (.inl (some _)))), (1, .inr (.inr (.inl (some _)))), (2, .inl _)]) rfl ?_
  refine g_goto K (dOf ck_mX9_firstLine rfl rfl).1 (t := 2) (aJ_of (by decide +kernel)) ?_
  refine g_sub [1, 2, 3, 0] rfl ?_
  exact hk2 _ _
def Twins_firstLine_2 (x2 : Int) : Nat → Int → aM → Option aM
  | 0, _, _ => none
  | n + 1, x3, mm => if x3 < 13 then (if (iand (ishr (mm 80 1) x3) 1) = 0 then (Twins_firstLine_24 (Twins_firstLine_2 x2 n) x2 x3 mm) else (if 0 ≤ x3 ∧ x3 < 13 then ((Twins_oddState x3 (mm 95 x3.toNat) 4 0 mm).bind fun r20 => ((Twins_take r20 0 mm).bind fun r21 => (Twins_firstLine_24 (Twins_firstLine_2 x2 n) x2 x3 r21))) else none)) else (Twins_firstLine_28 x2 FU 0 mm)
set_option maxHeartbeats 4000000 in
theorem lk_Twins_firstLine_2 {p : Program} {l : Launch} {e : Env} {s : State} {m : MethodId} {args : Array Value} {below : List Frame} {meth : Method} {c : Code} {D : va_G} {cA : FieldType → ClassId} {ad adV : Nat → Nat} {z0 : Nat} {al0 : List Nat} (K : aK p s m args meth c mX9_firstLine D cA ad adV z0) (x2 : Int)  : ∀ (n : Nat) (x3 : Int) (mm : aM), aG p l e { frames := 4, cells := 0, slots := 0, locals := 101 } s m args below meth c D cA ad z0 mX9_firstLine al0 rM (Twins_firstLine_2 x2 n x3 mm) 2 [(0, .inr (.inr (.inl (some 80)))), (1, .inr (.inr (.inl (some 108)))), (2, .inl x2), (3, .inl x3)] [] mm := by
  intro n
  induction n with
  | zero => intro x3 mm; exact g_none
  | succ n ih =>
    intro x3 mm
    rw [Twins_firstLine_2]
    refine gl (i' := 3) (fun _ _ => aw_iload_n K (dOf ck_mX9_firstLine rfl rfl) rfl) ?_
    refine gl (i' := 4) (fun _ _ => aw_bip K (dOf ck_mX9_firstLine rfl rfl) (v := 13) rfl) ?_
    refine g_icmp_ge K (dOf ck_mX9_firstLine rfl rfl) (t := 26) (aJ_of (by decide +kernel)) (fun h1 => ?_) (fun h1 => ?_)
    · refine gl (i' := 6) (fun _ _ => aw_aload_n K (dOf ck_mX9_firstLine rfl rfl) rfl) ?_
      refine gl (i' := 7) (fun _ _ => aw_getf K (dOf ck_mX9_firstLine rfl rfl) rfl rfl (Nat.le_of_ble_eq_true rfl) wd_392 (k := 1) rfl) ?_
      refine gl (i' := 8) (fun _ _ => aw_iload_n K (dOf ck_mX9_firstLine rfl rfl) rfl) ?_
      refine gl (i' := 9) (fun _ _ => aw_ishr K (dOf ck_mX9_firstLine rfl rfl)) ?_
      refine gl (i' := 10) (fun _ _ => aw_iconst K (n := 1) (i32 _ rfl) (dOf ck_mX9_firstLine rfl rfl)) ?_
      refine gl (i' := 11) (fun _ _ => aw_iand K (dOf ck_mX9_firstLine rfl rfl)) ?_
      refine g_if_eq K (dOf ck_mX9_firstLine rfl rfl) (t := 24) (aJ_of (by decide +kernel)) (fun h18 => ?_) (fun h18 => ?_)
      · refine g_sub [0, 1, 2, 3] rfl ?_
        exact lk_Twins_firstLine_24 K _ _ _ ih _
      · refine gl (i' := 13) (fun _ _ => aw_aload_n K (dOf ck_mX9_firstLine rfl rfl) rfl) ?_
        refine gl (i' := 14) (fun _ _ => aw_aload_n K (dOf ck_mX9_firstLine rfl rfl) rfl) ?_
        refine gl (i' := 15) (fun _ _ => aw_iload_n K (dOf ck_mX9_firstLine rfl rfl) rfl) ?_
        refine gl (i' := 16) (fun _ _ => aw_aload_n K (dOf ck_mX9_firstLine rfl rfl) rfl) ?_
        refine gl (i' := 17) (fun _ _ => aw_getf K (dOf ck_mX9_firstLine rfl rfl) rfl rfl (Nat.le_of_ble_eq_true rfl) wd_395 (k := 4) rfl) ?_
        refine gl (i' := 18) (fun _ _ => aw_iload_n K (dOf ck_mX9_firstLine rfl rfl) rfl) ?_
        refine g_gd (fun hb19 => ?_)
        refine gl (i' := 19) (fun _ _ => aw_iald K (dOf ck_mX9_firstLine rfl rfl) rfl hb19) ?_
        refine gl (i' := 20) (fun _ _ => aw_iconst K (n := 4) (i32 _ rfl) (dOf ck_mX9_firstLine rfl rfl)) ?_
        refine gl (i' := 21) (fun _ _ => aw_iconst K (n := 0) (i32 _ rfl) (dOf ck_mX9_firstLine rfl rfl)) ?_
        refine g_callVI K [.inl _, .inl _, .inl _, .inl _] rfl (dOf ck_mX9_firstLine rfl rfl) al_OneBreath_Twins_125 rfl rfl ⟨wd_844, wd_29⟩ rfl (Nat.le_of_ble_eq_true rfl) ⟨Nat.le_of_ble_eq_true rfl, Nat.le_of_ble_eq_true rfl⟩ (fun b hb => met_Twins_oddState  hb) (fun r20 hr20 => ?_)
        refine gl (i' := 23) (fun _ _ => aw_iconst K (n := 0) (i32 _ rfl) (dOf ck_mX9_firstLine rfl rfl)) ?_
        refine g_callVM K [.inl _, .inl _] rfl (dOf ck_mX9_firstLine rfl rfl) al_OneBreath_Twins_188 rfl rfl ⟨wd_927, wd_46⟩ rfl (Nat.le_of_ble_eq_true rfl) ⟨Nat.le_of_ble_eq_true rfl, Nat.le_of_ble_eq_true rfl⟩ (fun b hb => met_Twins_take  hb) (fun r21 hr21 => ?_)
        refine g_sub [0, 1, 2, 3] rfl ?_
        exact lk_Twins_firstLine_24 K _ _ _ ih _
    · refine gl (i' := 27) (fun _ _ => aw_iconst K (n := 0) (i32 _ rfl) (dOf ck_mX9_firstLine rfl rfl)) ?_
      refine gl (i' := 28) (fun _ _ => aw_istore_n K (dOf ck_mX9_firstLine rfl rfl) (Nat.le_of_ble_eq_true rfl)) ?_
      refine g_lv (lv' := [(3, .inl _), (0, .inr (.inr (.inl (some _)))), (1, .inr (.inr (.inl (some _)))), (2, .inl _)]) rfl ?_
      refine g_sub [1, 2, 3, 0] rfl ?_
      exact lk_Twins_firstLine_28 K _ FU _ _
def Twins_firstLine (x2 : Int) (mm : aM) : Option aM := Twins_firstLine_2 x2 FU 0 mm
set_option maxHeartbeats 4000000 in
theorem met_Twins_firstLine {l : Launch} {D : va_G} {cA : FieldType → ClassId} {ad adV : Nat → Nat} {z0 : Nat} {x2 : Int} {mm : aM}  {r : aM} (h : Twins_firstLine x2 mm = some r) : aMet l D cA ad adV z0 mX9_firstLine 4 101 0 0 [.inr (.inr (.inl (some 80))), .inr (.inr (.inl (some 108))), .inl x2] SH mm (rM r).1 SH (rM r).2 := by
  refine aMet_ofG (by decide +kernel) rfl (Nat.le_of_ble_eq_true rfl) h (fun p e s m args below meth c al0 K => ?_)
  unfold Twins_firstLine
  refine gl (i' := 1) (fun _ _ => aw_iconst K (n := 0) (i32 _ rfl) (dOf ck_mX9_firstLine rfl rfl)) ?_
  refine gl (i' := 2) (fun _ _ => aw_istore_n K (dOf ck_mX9_firstLine rfl rfl) (Nat.le_of_ble_eq_true rfl)) ?_
  refine g_lv (lv' := [(3, .inl _), (0, .inr (.inr (.inl (some _)))), (1, .inr (.inr (.inl (some _)))), (2, .inl _)]) rfl ?_
  refine g_sub [1, 2, 3, 0] rfl ?_
  exact lk_Twins_firstLine_2 K _ FU _ _
def Mender_unsureSound_36 (x1 : Int) (mm : aM) : Option (Int × aM) := if x1 < 0 then (some ((-1), mm)) else (if x1 < (mm 107 0) then (if x1 < 2826 then (if 0 ≤ x1 ∧ x1 < 2826 then (some (mm 108 x1.toNat, mm)) else none) else (some ((-1), mm))) else (some ((-1), mm)))
set_option maxHeartbeats 4000000 in
theorem lk_Mender_unsureSound_36 {p : Program} {l : Launch} {e : Env} {s : State} {m : MethodId} {args : Array Value} {below : List Frame} {meth : Method} {c : Code} {D : va_G} {cA : FieldType → ClassId} {ad adV : Nat → Nat} {z0 : Nat} {al0 : List Nat} (K : aK p s m args meth c mX3_unsureSound D cA ad adV z0) (x1 : Int)  (mm : aM) : aG p l e { frames := 5, cells := 0, slots := 0, locals := 133 } s m args below meth c D cA ad z0 mX3_unsureSound al0 rIM (Mender_unsureSound_36 x1 mm) 36 [(0, .inr (.inr (.inl (some 79)))), (1, .inl x1)] [] mm := by
  unfold Mender_unsureSound_36
  refine gl (i' := 37) (fun _ _ => aw_iload_n K (dOf ck_mX3_unsureSound rfl rfl) rfl) ?_
  refine g_if_lt K (dOf ck_mX3_unsureSound rfl rfl) (t := 52) (aJ_of (by decide +kernel)) (fun h2 => ?_) (fun h2 => ?_)
  · refine gl (i' := 53) (fun _ _ => aw_iconst K (n := -1) (i32 _ rfl) (dOf ck_mX3_unsureSound rfl rfl)) ?_
    exact g_iret K (by decide +kernel) rfl (Or.inl rfl) rfl
  · refine gl (i' := 39) (fun _ _ => aw_iload_n K (dOf ck_mX3_unsureSound rfl rfl) rfl) ?_
    refine gl (i' := 40) (fun _ _ => aw_aload_n K (dOf ck_mX3_unsureSound rfl rfl) rfl) ?_
    refine gl (i' := 41) (fun _ _ => aw_getf K (dOf ck_mX3_unsureSound rfl rfl) rfl rfl (Nat.le_of_ble_eq_true rfl) wd_422 (k := 4) rfl) ?_
    refine gl (i' := 42) (fun _ _ => aw_iconst K (n := 0) (i32 _ rfl) (dOf ck_mX3_unsureSound rfl rfl)) ?_
    refine gl (i' := 43) (fun _ _ => aw_iald K (dOf ck_mX3_unsureSound rfl rfl) rfl (by decide)) ?_
    refine g_icmp_ge K (dOf ck_mX3_unsureSound rfl rfl) (t := 52) (aJ_of (by decide +kernel)) (fun h3 => ?_) (fun h3 => ?_)
    · refine gl (i' := 45) (fun _ _ => aw_iload_n K (dOf ck_mX3_unsureSound rfl rfl) rfl) ?_
      refine gl (i' := 46) (fun _ _ => aw_sip K (dOf ck_mX3_unsureSound rfl rfl) (v := 2826) rfl) ?_
      refine g_icmp_ge K (dOf ck_mX3_unsureSound rfl rfl) (t := 52) (aJ_of (by decide +kernel)) (fun h4 => ?_) (fun h4 => ?_)
      · refine gl (i' := 48) (fun _ _ => aw_aload_n K (dOf ck_mX3_unsureSound rfl rfl) rfl) ?_
        refine gl (i' := 49) (fun _ _ => aw_getf K (dOf ck_mX3_unsureSound rfl rfl) rfl rfl (Nat.le_of_ble_eq_true rfl) wd_423 (k := 5) rfl) ?_
        refine gl (i' := 50) (fun _ _ => aw_iload_n K (dOf ck_mX3_unsureSound rfl rfl) rfl) ?_
        refine g_gd (fun hb5 => ?_)
        refine gl (i' := 51) (fun _ _ => aw_bald K (dOf ck_mX3_unsureSound rfl rfl) rfl hb5) ?_
        refine g_goto K (dOf ck_mX3_unsureSound rfl rfl).1 (t := 53) (aJ_of (by decide +kernel)) ?_
        exact g_iret K (by decide +kernel) rfl (Or.inl rfl) rfl
      · refine gl (i' := 53) (fun _ _ => aw_iconst K (n := -1) (i32 _ rfl) (dOf ck_mX3_unsureSound rfl rfl)) ?_
        exact g_iret K (by decide +kernel) rfl (Or.inl rfl) rfl
    · refine gl (i' := 53) (fun _ _ => aw_iconst K (n := -1) (i32 _ rfl) (dOf ck_mX3_unsureSound rfl rfl)) ?_
      exact g_iret K (by decide +kernel) rfl (Or.inl rfl) rfl
def Mender_unsureSound (x1 : Int) (mm : aM) : Option (Int × aM) := if (mm 79 6) = 0 then ((Twins_load 0 mm).bind fun r6 => ((Twins_shortest 0 r6).bind fun r7 => (st1 (aup r7.2 107 0 r7.1) fun mm8 => ((Twins_markUseful (mm8 107 0) mm8).bind fun r9 => ((Twins_firstLine (r9 107 0) r9).bind fun r10 => (st1 (aup r10 79 6 1) fun mm11 => (Mender_unsureSound_36 x1 mm11))))))) else (Mender_unsureSound_36 x1 mm)
set_option maxHeartbeats 4000000 in
theorem met_Mender_unsureSound {l : Launch} {D : va_G} {cA : FieldType → ClassId} {ad adV : Nat → Nat} {z0 : Nat} {x1 : Int} {mm : aM}  {r : Int × aM} (h : Mender_unsureSound x1 mm = some r) : aMet l D cA ad adV z0 mX3_unsureSound 5 133 0 0 [.inr (.inr (.inl (some 79))), .inl x1] SH mm (rIM r).1 SH (rIM r).2 := by
  refine aMet_ofG (by decide +kernel) rfl (Nat.le_of_ble_eq_true rfl) h (fun p e s m args below meth c al0 K => ?_)
  unfold Mender_unsureSound
  refine gl (i' := 1) (fun _ _ => aw_aload_n K (dOf ck_mX3_unsureSound rfl rfl) rfl) ?_
  refine gl (i' := 2) (fun _ _ => aw_getf K (dOf ck_mX3_unsureSound rfl rfl) rfl rfl (Nat.le_of_ble_eq_true rfl) wd_424 (k := 6) rfl) ?_
  refine g_if_ne K (dOf ck_mX3_unsureSound rfl rfl) (t := 36) (aJ_of (by decide +kernel)) (fun h1 => ?_) (fun h1 => ?_)
  · refine gl (i' := 4) (fun _ _ => aw_aload_n K (dOf ck_mX3_unsureSound rfl rfl) rfl) ?_
    refine gl (i' := 5) (fun _ _ => aw_getf K (dOf ck_mX3_unsureSound rfl rfl) rfl rfl (Nat.le_of_ble_eq_true rfl) wd_420 (k := 2) rfl) ?_
    refine gl (i' := 6) (fun _ _ => aw_aload_n K (dOf ck_mX3_unsureSound rfl rfl) rfl) ?_
    refine gl (i' := 7) (fun _ _ => aw_getf K (dOf ck_mX3_unsureSound rfl rfl) rfl rfl (Nat.le_of_ble_eq_true rfl) wd_418 (k := 0) rfl) ?_
    refine gl (i' := 8) (fun _ _ => aw_iconst K (n := 0) (i32 _ rfl) (dOf ck_mX3_unsureSound rfl rfl)) ?_
    refine g_callVM K [.inr (.inr (.inl (some _))), .inl _] rfl (dOf ck_mX3_unsureSound rfl rfl) al_OneBreath_Mender_75 rfl rfl ⟨wd_818, wd_819⟩ rfl (Nat.le_of_ble_eq_true rfl) ⟨Nat.le_of_ble_eq_true rfl, Nat.le_of_ble_eq_true rfl⟩ (fun b hb => met_Twins_load  hb) (fun r6 hr6 => ?_)
    refine gl (i' := 10) (fun _ _ => aw_aload_n K (dOf ck_mX3_unsureSound rfl rfl) rfl) ?_
    refine gl (i' := 11) (fun _ _ => aw_getf K (dOf ck_mX3_unsureSound rfl rfl) rfl rfl (Nat.le_of_ble_eq_true rfl) wd_422 (k := 4) rfl) ?_
    refine gl (i' := 12) (fun _ _ => aw_iconst K (n := 0) (i32 _ rfl) (dOf ck_mX3_unsureSound rfl rfl)) ?_
    refine gl (i' := 13) (fun _ _ => aw_aload_n K (dOf ck_mX3_unsureSound rfl rfl) rfl) ?_
    refine gl (i' := 14) (fun _ _ => aw_getf K (dOf ck_mX3_unsureSound rfl rfl) rfl rfl (Nat.le_of_ble_eq_true rfl) wd_420 (k := 2) rfl) ?_
    refine gl (i' := 15) (fun _ _ => aw_iconst K (n := 0) (i32 _ rfl) (dOf ck_mX3_unsureSound rfl rfl)) ?_
    refine g_callVIM K [.inl _] rfl (dOf ck_mX3_unsureSound rfl rfl) al_OneBreath_Mender_79 rfl rfl ⟨wd_827, wd_828⟩ rfl (Nat.le_of_ble_eq_true rfl) ⟨Nat.le_of_ble_eq_true rfl, Nat.le_of_ble_eq_true rfl⟩ (fun b hb => met_Twins_shortest  hb) (fun r7 hr7 => ?_)
    refine g_st1 ?_
    refine gl (i' := 17) (fun _ _ => aw_iast K (dOf ck_mX3_unsureSound rfl rfl) rfl (by decide)) ?_
    refine gl (i' := 18) (fun _ _ => aw_aload_n K (dOf ck_mX3_unsureSound rfl rfl) rfl) ?_
    refine gl (i' := 19) (fun _ _ => aw_getf K (dOf ck_mX3_unsureSound rfl rfl) rfl rfl (Nat.le_of_ble_eq_true rfl) wd_420 (k := 2) rfl) ?_
    refine gl (i' := 20) (fun _ _ => aw_aload_n K (dOf ck_mX3_unsureSound rfl rfl) rfl) ?_
    refine gl (i' := 21) (fun _ _ => aw_getf K (dOf ck_mX3_unsureSound rfl rfl) rfl rfl (Nat.le_of_ble_eq_true rfl) wd_422 (k := 4) rfl) ?_
    refine gl (i' := 22) (fun _ _ => aw_iconst K (n := 0) (i32 _ rfl) (dOf ck_mX3_unsureSound rfl rfl)) ?_
    refine gl (i' := 23) (fun _ _ => aw_iald K (dOf ck_mX3_unsureSound rfl rfl) rfl (by decide)) ?_
    refine g_callVM K [.inl _] rfl (dOf ck_mX3_unsureSound rfl rfl) al_OneBreath_Mender_83 rfl rfl ⟨wd_904, wd_905⟩ rfl (Nat.le_of_ble_eq_true rfl) ⟨Nat.le_of_ble_eq_true rfl, Nat.le_of_ble_eq_true rfl⟩ (fun b hb => met_Twins_markUseful  hb) (fun r9 hr9 => ?_)
    refine gl (i' := 25) (fun _ _ => aw_aload_n K (dOf ck_mX3_unsureSound rfl rfl) rfl) ?_
    refine gl (i' := 26) (fun _ _ => aw_getf K (dOf ck_mX3_unsureSound rfl rfl) rfl rfl (Nat.le_of_ble_eq_true rfl) wd_420 (k := 2) rfl) ?_
    refine gl (i' := 27) (fun _ _ => aw_aload_n K (dOf ck_mX3_unsureSound rfl rfl) rfl) ?_
    refine gl (i' := 28) (fun _ _ => aw_getf K (dOf ck_mX3_unsureSound rfl rfl) rfl rfl (Nat.le_of_ble_eq_true rfl) wd_423 (k := 5) rfl) ?_
    refine gl (i' := 29) (fun _ _ => aw_aload_n K (dOf ck_mX3_unsureSound rfl rfl) rfl) ?_
    refine gl (i' := 30) (fun _ _ => aw_getf K (dOf ck_mX3_unsureSound rfl rfl) rfl rfl (Nat.le_of_ble_eq_true rfl) wd_422 (k := 4) rfl) ?_
    refine gl (i' := 31) (fun _ _ => aw_iconst K (n := 0) (i32 _ rfl) (dOf ck_mX3_unsureSound rfl rfl)) ?_
    refine gl (i' := 32) (fun _ _ => aw_iald K (dOf ck_mX3_unsureSound rfl rfl) rfl (by decide)) ?_
    refine g_callVM K [.inr (.inr (.inl (some _))), .inl _] rfl (dOf ck_mX3_unsureSound rfl rfl) al_OneBreath_Mender_87 rfl rfl ⟨wd_923, wd_924⟩ rfl (Nat.le_of_ble_eq_true rfl) ⟨Nat.le_of_ble_eq_true rfl, Nat.le_of_ble_eq_true rfl⟩ (fun b hb => met_Twins_firstLine  hb) (fun r10 hr10 => ?_)
    refine gl (i' := 34) (fun _ _ => aw_aload_n K (dOf ck_mX3_unsureSound rfl rfl) rfl) ?_
    refine gl (i' := 35) (fun _ _ => aw_iconst K (n := 1) (i32 _ rfl) (dOf ck_mX3_unsureSound rfl rfl)) ?_
    refine g_st1 ?_
    refine gl (i' := 36) (fun _ _ => aw_putf K (dOf ck_mX3_unsureSound rfl rfl) rfl rfl (Nat.le_of_ble_eq_true rfl) wd_424 (k := 6) rfl rfl (Or.inr ⟨rfl, Or.inr rfl⟩)) ?_
    refine g_sub [0, 1] rfl ?_
    exact lk_Mender_unsureSound_36 K _ _
  · refine g_sub [0, 1] rfl ?_
    exact lk_Mender_unsureSound_36 K _ _
def B_unsureAt (x1 : Int) (mm : aM) : Option (Int × aM) := (Mender_unsureSound x1 mm).bind fun r1 => (some (r1.1, r1.2))
set_option maxHeartbeats 4000000 in
theorem met_B_unsureAt {l : Launch} {D : va_G} {cA : FieldType → ClassId} {ad adV : Nat → Nat} {z0 : Nat} {x1 : Int} {mm : aM}  {r : Int × aM} (h : B_unsureAt x1 mm = some r) : aMet l D cA ad adV z0 mX11_unsureAt 6 154 0 0 [.inr (.inr (.inl (some 0))), .inl x1] SH mm (rIM r).1 SH (rIM r).2 := by
  refine aMet_ofG (by decide +kernel) rfl (Nat.le_of_ble_eq_true rfl) h (fun p e s m args below meth c al0 K => ?_)
  unfold B_unsureAt
  refine gl (i' := 1) (fun _ _ => aw_aload_n K (dOf ck_mX11_unsureAt rfl rfl) rfl) ?_
  refine gl (i' := 2) (fun _ _ => aw_getf K (dOf ck_mX11_unsureAt rfl rfl) rfl rfl (Nat.le_of_ble_eq_true rfl) wd_470 (k := 10) rfl) ?_
  refine gl (i' := 3) (fun _ _ => aw_iload_n K (dOf ck_mX11_unsureAt rfl rfl) rfl) ?_
  refine g_callVIM K [.inl _] rfl (dOf ck_mX11_unsureAt rfl rfl) al_OneBreath_265 rfl rfl ⟨wd_900, wd_901⟩ rfl (Nat.le_of_ble_eq_true rfl) ⟨Nat.le_of_ble_eq_true rfl, Nat.le_of_ble_eq_true rfl⟩ (fun b hb => met_Mender_unsureSound  hb) (fun r1 hr1 => ?_)
  exact g_iret K (by decide +kernel) rfl (Or.inl rfl) rfl
def B_bears_2  : Nat → Int → aM → Option (Int × aM)
  | 0, _, _ => none
  | n + 1, x1, mm => if x1 < 0 then (some (x1, mm)) else ((Mender_leastUnsure x1 mm).bind fun r2 => (if r2.1 = (-1) then (some (x1, r2.2)) else (B_bears_2 n (w32 (x1 + (-1))) r2.2)))
set_option maxHeartbeats 4000000 in
theorem lk_B_bears_2 {p : Program} {l : Launch} {e : Env} {s : State} {m : MethodId} {args : Array Value} {below : List Frame} {meth : Method} {c : Code} {D : va_G} {cA : FieldType → ClassId} {ad adV : Nat → Nat} {z0 : Nat} {al0 : List Nat} (K : aK p s m args meth c mX11_bears D cA ad adV z0)   : ∀ (n : Nat) (x1 : Int) (mm : aM), aG p l e { frames := 6, cells := 0, slots := 0, locals := 154 } s m args below meth c D cA ad z0 mX11_bears al0 rIM (B_bears_2 n x1 mm) 2 [(0, .inr (.inr (.inl (some 0)))), (1, .inl x1)] [] mm := by
  intro n
  induction n with
  | zero => intro x1 mm; exact g_none
  | succ n ih =>
    intro x1 mm
    rw [B_bears_2]
    refine gl (i' := 3) (fun _ _ => aw_iload_n K (dOf ck_mX11_bears rfl rfl) rfl) ?_
    refine g_if_lt K (dOf ck_mX11_bears rfl rfl) (t := 12) (aJ_of (by decide +kernel)) (fun h1 => ?_) (fun h1 => ?_)
    · refine gl (i' := 13) (fun _ _ => aw_iload_n K (dOf ck_mX11_bears rfl rfl) rfl) ?_
      exact g_iret K (by decide +kernel) rfl (Or.inl rfl) rfl
    · refine gl (i' := 5) (fun _ _ => aw_aload_n K (dOf ck_mX11_bears rfl rfl) rfl) ?_
      refine gl (i' := 6) (fun _ _ => aw_getf K (dOf ck_mX11_bears rfl rfl) rfl rfl (Nat.le_of_ble_eq_true rfl) wd_470 (k := 10) rfl) ?_
      refine gl (i' := 7) (fun _ _ => aw_iload_n K (dOf ck_mX11_bears rfl rfl) rfl) ?_
      refine g_callVIM K [.inl _] rfl (dOf ck_mX11_bears rfl rfl) al_OneBreath_262 rfl rfl ⟨wd_814, wd_815⟩ rfl (Nat.le_of_ble_eq_true rfl) ⟨Nat.le_of_ble_eq_true rfl, Nat.le_of_ble_eq_true rfl⟩ (fun b hb => met_Mender_leastUnsure  hb) (fun r2 hr2 => ?_)
      refine gl (i' := 9) (fun _ _ => aw_iconst K (n := -1) (i32 _ rfl) (dOf ck_mX11_bears rfl rfl)) ?_
      refine g_icmp_eq K (dOf ck_mX11_bears rfl rfl) (t := 12) (aJ_of (by decide +kernel)) (fun h3 => ?_) (fun h3 => ?_)
      · refine gl (i' := 13) (fun _ _ => aw_iload_n K (dOf ck_mX11_bears rfl rfl) rfl) ?_
        exact g_iret K (by decide +kernel) rfl (Or.inl rfl) rfl
      · refine gl (i' := 11) (fun _ _ => aw_iinc K (dOf ck_mX11_bears rfl rfl) (Nat.le_of_ble_eq_true rfl) rfl) ?_
        refine g_lv (lv' := [(1, .inl _), (0, .inr (.inr (.inl (some _))))]) rfl ?_
        refine g_goto K (dOf ck_mX11_bears rfl rfl).1 (t := 2) (aJ_of (by decide +kernel)) ?_
        refine g_sub [1, 0] rfl ?_
        exact ih _ _
def B_bears  (mm : aM) : Option (Int × aM) := B_bears_2 FU 2 mm
set_option maxHeartbeats 4000000 in
theorem met_B_bears {l : Launch} {D : va_G} {cA : FieldType → ClassId} {ad adV : Nat → Nat} {z0 : Nat}  {mm : aM}  {r : Int × aM} (h : B_bears  mm = some r) : aMet l D cA ad adV z0 mX11_bears 6 154 0 0 [.inr (.inr (.inl (some 0)))] SH mm (rIM r).1 SH (rIM r).2 := by
  refine aMet_ofG (by decide +kernel) rfl (Nat.le_of_ble_eq_true rfl) h (fun p e s m args below meth c al0 K => ?_)
  unfold B_bears
  refine gl (i' := 1) (fun _ _ => aw_iconst K (n := 2) (i32 _ rfl) (dOf ck_mX11_bears rfl rfl)) ?_
  refine gl (i' := 2) (fun _ _ => aw_istore_n K (dOf ck_mX11_bears rfl rfl) (Nat.le_of_ble_eq_true rfl)) ?_
  refine g_lv (lv' := [(1, .inl _), (0, .inr (.inr (.inl (some _))))]) rfl ?_
  refine g_sub [1, 0] rfl ?_
  exact lk_B_bears_2 K FU _ _
def Jmath_floorMod (x0 : Int) (x1 : Int) (mm : aM) : Option Int := if x1 ≠ 0 then (if (ixor x0 x1) < 0 then (if (Int.tmod x0 x1) = 0 then (some (Int.tmod x0 x1)) else (some (w32 ((Int.tmod x0 x1) + x1)))) else (some (Int.tmod x0 x1))) else none
set_option maxHeartbeats 4000000 in
theorem met_Jmath_floorMod {l : Launch} {D : va_G} {cA : FieldType → ClassId} {ad adV : Nat → Nat} {z0 : Nat} {x0 : Int} {x1 : Int} {mm : aM}  {r : Int} (h : Jmath_floorMod x0 x1 mm = some r) : aMet l D cA ad adV z0 mJ9_floorMod_7cf53 0 0 0 0 [.inl x0, .inl x1] SH mm ((rI mm) r).1 SH ((rI mm) r).2 := by
  refine aMet_ofGF (by decide +kernel) rfl (Nat.le_of_ble_eq_true rfl) h (fun p e s m args below meth c al0 K => ?_)
  unfold Jmath_floorMod
  refine gl (i' := 1) (fun _ _ => aw_iload_n K (dOf ck_mJ9_floorMod_7cf53 rfl rfl) rfl) ?_
  refine gl (i' := 2) (fun _ _ => aw_iload_n K (dOf ck_mJ9_floorMod_7cf53 rfl rfl) rfl) ?_
  refine g_gd (fun hb1 => ?_)
  refine gl (i' := 3) (fun _ _ => aw_irem K hb1 (dOf ck_mJ9_floorMod_7cf53 rfl rfl)) ?_
  refine gl (i' := 4) (fun _ _ => aw_istore_n K (dOf ck_mJ9_floorMod_7cf53 rfl rfl) (Nat.le_of_ble_eq_true rfl)) ?_
  refine g_lv (lv' := [(2, .inl _), (0, .inl _), (1, .inl _)]) rfl ?_
  refine gl (i' := 5) (fun _ _ => aw_iload_n K (dOf ck_mJ9_floorMod_7cf53 rfl rfl) rfl) ?_
  refine gl (i' := 6) (fun _ _ => aw_iload_n K (dOf ck_mJ9_floorMod_7cf53 rfl rfl) rfl) ?_
  refine gl (i' := 7) (fun _ _ => aw_ixor K (dOf ck_mJ9_floorMod_7cf53 rfl rfl)) ?_
  refine g_if_ge K (dOf ck_mJ9_floorMod_7cf53 rfl rfl) (t := 14) (aJ_of (by decide +kernel)) (fun h2 => ?_) (fun h2 => ?_)
  · refine gl (i' := 9) (fun _ _ => aw_iload_n K (dOf ck_mJ9_floorMod_7cf53 rfl rfl) rfl) ?_
    refine g_if_eq K (dOf ck_mJ9_floorMod_7cf53 rfl rfl) (t := 14) (aJ_of (by decide +kernel)) (fun h3 => ?_) (fun h3 => ?_)
    · refine gl (i' := 15) (fun _ _ => aw_iload_n K (dOf ck_mJ9_floorMod_7cf53 rfl rfl) rfl) ?_
      exact g_iret K (by decide +kernel) rfl (Or.inl rfl) rfl
    · refine gl (i' := 11) (fun _ _ => aw_iload_n K (dOf ck_mJ9_floorMod_7cf53 rfl rfl) rfl) ?_
      refine gl (i' := 12) (fun _ _ => aw_iload_n K (dOf ck_mJ9_floorMod_7cf53 rfl rfl) rfl) ?_
      refine gl (i' := 13) (fun _ _ => aw_iadd K (dOf ck_mJ9_floorMod_7cf53 rfl rfl)) ?_
      exact g_iret K (dOf ck_mJ9_floorMod_7cf53 rfl rfl).1 rfl (Or.inl rfl) rfl
  · refine gl (i' := 15) (fun _ _ => aw_iload_n K (dOf ck_mJ9_floorMod_7cf53 rfl rfl) rfl) ?_
    exact g_iret K (by decide +kernel) rfl (Or.inl rfl) rfl
def Jmath_floorDiv (x0 : Int) (x1 : Int) (mm : aM) : Option Int := if x1 ≠ 0 then (if (ixor x0 x1) < 0 then (if (w32 ((w32 (Int.tdiv x0 x1)) * x1)) = x0 then (some (w32 (Int.tdiv x0 x1))) else (some (w32 ((w32 (Int.tdiv x0 x1)) - 1)))) else (some (w32 (Int.tdiv x0 x1)))) else none
set_option maxHeartbeats 4000000 in
theorem met_Jmath_floorDiv {l : Launch} {D : va_G} {cA : FieldType → ClassId} {ad adV : Nat → Nat} {z0 : Nat} {x0 : Int} {x1 : Int} {mm : aM}  {r : Int} (h : Jmath_floorDiv x0 x1 mm = some r) : aMet l D cA ad adV z0 mJ9_floorDiv_7cf53 0 0 0 0 [.inl x0, .inl x1] SH mm ((rI mm) r).1 SH ((rI mm) r).2 := by
  refine aMet_ofGF (by decide +kernel) rfl (Nat.le_of_ble_eq_true rfl) h (fun p e s m args below meth c al0 K => ?_)
  unfold Jmath_floorDiv
  refine gl (i' := 1) (fun _ _ => aw_iload_n K (dOf ck_mJ9_floorDiv_7cf53 rfl rfl) rfl) ?_
  refine gl (i' := 2) (fun _ _ => aw_iload_n K (dOf ck_mJ9_floorDiv_7cf53 rfl rfl) rfl) ?_
  refine g_gd (fun hb1 => ?_)
  refine gl (i' := 3) (fun _ _ => aw_idiv K hb1 (dOf ck_mJ9_floorDiv_7cf53 rfl rfl)) ?_
  refine gl (i' := 4) (fun _ _ => aw_istore_n K (dOf ck_mJ9_floorDiv_7cf53 rfl rfl) (Nat.le_of_ble_eq_true rfl)) ?_
  refine g_lv (lv' := [(2, .inl _), (0, .inl _), (1, .inl _)]) rfl ?_
  refine gl (i' := 5) (fun _ _ => aw_iload_n K (dOf ck_mJ9_floorDiv_7cf53 rfl rfl) rfl) ?_
  refine gl (i' := 6) (fun _ _ => aw_iload_n K (dOf ck_mJ9_floorDiv_7cf53 rfl rfl) rfl) ?_
  refine gl (i' := 7) (fun _ _ => aw_ixor K (dOf ck_mJ9_floorDiv_7cf53 rfl rfl)) ?_
  refine g_if_ge K (dOf ck_mJ9_floorDiv_7cf53 rfl rfl) (t := 17) (aJ_of (by decide +kernel)) (fun h2 => ?_) (fun h2 => ?_)
  · refine gl (i' := 9) (fun _ _ => aw_iload_n K (dOf ck_mJ9_floorDiv_7cf53 rfl rfl) rfl) ?_
    refine gl (i' := 10) (fun _ _ => aw_iload_n K (dOf ck_mJ9_floorDiv_7cf53 rfl rfl) rfl) ?_
    refine gl (i' := 11) (fun _ _ => aw_imul K (dOf ck_mJ9_floorDiv_7cf53 rfl rfl)) ?_
    refine gl (i' := 12) (fun _ _ => aw_iload_n K (dOf ck_mJ9_floorDiv_7cf53 rfl rfl) rfl) ?_
    refine g_icmp_eq K (dOf ck_mJ9_floorDiv_7cf53 rfl rfl) (t := 17) (aJ_of (by decide +kernel)) (fun h3 => ?_) (fun h3 => ?_)
    · refine gl (i' := 18) (fun _ _ => aw_iload_n K (dOf ck_mJ9_floorDiv_7cf53 rfl rfl) rfl) ?_
      exact g_iret K (by decide +kernel) rfl (Or.inl rfl) rfl
    · refine gl (i' := 14) (fun _ _ => aw_iload_n K (dOf ck_mJ9_floorDiv_7cf53 rfl rfl) rfl) ?_
      refine gl (i' := 15) (fun _ _ => aw_iconst K (n := 1) (i32 _ rfl) (dOf ck_mJ9_floorDiv_7cf53 rfl rfl)) ?_
      refine gl (i' := 16) (fun _ _ => aw_isub K (dOf ck_mJ9_floorDiv_7cf53 rfl rfl)) ?_
      exact g_iret K (dOf ck_mJ9_floorDiv_7cf53 rfl rfl).1 rfl (Or.inl rfl) rfl
  · refine gl (i' := 18) (fun _ _ => aw_iload_n K (dOf ck_mJ9_floorDiv_7cf53 rfl rfl) rfl) ?_
    exact g_iret K (by decide +kernel) rfl (Or.inl rfl) rfl
def Mender_spellNumber_10  : Nat → Int → Int → aM → Option aM
  | 0, _, _, _ => none
  | n + 1, x3, x4, mm => if x4 < 0 then (some mm) else ((Jmath_max 1 (mm 25 1) mm).bind fun r3 => ((Jmath_floorMod x3 r3 mm).bind fun r4 => (if 0 ≤ x4 ∧ x4 < 40 then (st1 (aup mm 106 x4.toNat (w8 (w8 r4))) fun mm6 => ((Jmath_max 1 (mm6 25 1) mm6).bind fun r7 => ((Jmath_floorDiv x3 r7 mm6).bind fun r8 => (Mender_spellNumber_10 n r8 (w32 (x4 + (-1))) mm6)))) else none)))
set_option maxHeartbeats 4000000 in
theorem lk_Mender_spellNumber_10 {p : Program} {l : Launch} {e : Env} {s : State} {m : MethodId} {args : Array Value} {below : List Frame} {meth : Method} {c : Code} {D : va_G} {cA : FieldType → ClassId} {ad adV : Nat → Nat} {z0 : Nat} {al0 : List Nat} (K : aK p s m args meth c mX3_spellNumber D cA ad adV z0)   : ∀ (n : Nat) (x3 : Int) (x4 : Int) (mm : aM), aG p l e { frames := 1, cells := 0, slots := 0, locals := 22 } s m args below meth c D cA ad z0 mX3_spellNumber al0 rM (Mender_spellNumber_10 n x3 x4 mm) 10 [(0, .inr (.inr (.inl (some 79)))), (3, .inl x3), (4, .inl x4)] [] mm := by
  intro n
  induction n with
  | zero => intro x3 x4 mm; exact g_none
  | succ n ih =>
    intro x3 x4 mm
    rw [Mender_spellNumber_10]
    refine gl (i' := 11) (fun _ _ => aw_iload K (dOf ck_mX3_spellNumber rfl rfl) rfl) ?_
    refine g_if_lt K (dOf ck_mX3_spellNumber rfl rfl) (t := 35) (aJ_of (by decide +kernel)) (fun h2 => ?_) (fun h2 => ?_)
    · exact g_vret K (by decide +kernel) rfl rfl
    · refine gl (i' := 13) (fun _ _ => aw_aload_n K (dOf ck_mX3_spellNumber rfl rfl) rfl) ?_
      refine gl (i' := 14) (fun _ _ => aw_getf K (dOf ck_mX3_spellNumber rfl rfl) rfl rfl (Nat.le_of_ble_eq_true rfl) wd_421 (k := 3) rfl) ?_
      refine gl (i' := 15) (fun _ _ => aw_getf K (dOf ck_mX3_spellNumber rfl rfl) rfl rfl (Nat.le_of_ble_eq_true rfl) wd_297 (k := 0) rfl) ?_
      refine gl (i' := 16) (fun _ _ => aw_iload K (dOf ck_mX3_spellNumber rfl rfl) rfl) ?_
      refine gl (i' := 17) (fun _ _ => aw_iload_n K (dOf ck_mX3_spellNumber rfl rfl) rfl) ?_
      refine gl (i' := 18) (fun _ _ => aw_iconst K (n := 1) (i32 _ rfl) (dOf ck_mX3_spellNumber rfl rfl)) ?_
      refine gl (i' := 19) (fun _ _ => aw_aload_n K (dOf ck_mX3_spellNumber rfl rfl) rfl) ?_
      refine gl (i' := 20) (fun _ _ => aw_getf K (dOf ck_mX3_spellNumber rfl rfl) rfl rfl (Nat.le_of_ble_eq_true rfl) wd_418 (k := 0) rfl) ?_
      refine gl (i' := 21) (fun _ _ => aw_getf K (dOf ck_mX3_spellNumber rfl rfl) rfl rfl (Nat.le_of_ble_eq_true rfl) wd_194 (k := 1) rfl) ?_
      refine g_callSI K [.inl _, .inl _] rfl (dOf ck_mX3_spellNumber rfl rfl) al_OneBreath_Mender_122 wd_807 rfl (Nat.le_of_ble_eq_true rfl) ⟨Nat.le_of_ble_eq_true rfl, Nat.le_of_ble_eq_true rfl⟩ (fun b hb => met_Jmath_max  hb) (fun r3 hr3 => ?_)
      refine g_callSI K [.inl _, .inl _] rfl (dOf ck_mX3_spellNumber rfl rfl) al_OneBreath_Mender_128 wd_958 rfl (Nat.le_of_ble_eq_true rfl) ⟨Nat.le_of_ble_eq_true rfl, Nat.le_of_ble_eq_true rfl⟩ (fun b hb => met_Jmath_floorMod  hb) (fun r4 hr4 => ?_)
      refine gl (i' := 24) (fun _ _ => aw_i2b K (dOf ck_mX3_spellNumber rfl rfl)) ?_
      refine g_gd (fun hb5 => ?_)
      refine g_st1 ?_
      refine gl (i' := 25) (fun _ _ => aw_bast K (dOf ck_mX3_spellNumber rfl rfl) rfl hb5) ?_
      refine gl (i' := 26) (fun _ _ => aw_iload_n K (dOf ck_mX3_spellNumber rfl rfl) rfl) ?_
      refine gl (i' := 27) (fun _ _ => aw_iconst K (n := 1) (i32 _ rfl) (dOf ck_mX3_spellNumber rfl rfl)) ?_
      refine gl (i' := 28) (fun _ _ => aw_aload_n K (dOf ck_mX3_spellNumber rfl rfl) rfl) ?_
      refine gl (i' := 29) (fun _ _ => aw_getf K (dOf ck_mX3_spellNumber rfl rfl) rfl rfl (Nat.le_of_ble_eq_true rfl) wd_418 (k := 0) rfl) ?_
      refine gl (i' := 30) (fun _ _ => aw_getf K (dOf ck_mX3_spellNumber rfl rfl) rfl rfl (Nat.le_of_ble_eq_true rfl) wd_194 (k := 1) rfl) ?_
      refine g_callSI K [.inl _, .inl _] rfl (dOf ck_mX3_spellNumber rfl rfl) al_OneBreath_Mender_122 wd_807 rfl (Nat.le_of_ble_eq_true rfl) ⟨Nat.le_of_ble_eq_true rfl, Nat.le_of_ble_eq_true rfl⟩ (fun b hb => met_Jmath_max  hb) (fun r7 hr7 => ?_)
      refine g_callSI K [.inl _, .inl _] rfl (dOf ck_mX3_spellNumber rfl rfl) al_OneBreath_Mender_131 wd_961 rfl (Nat.le_of_ble_eq_true rfl) ⟨Nat.le_of_ble_eq_true rfl, Nat.le_of_ble_eq_true rfl⟩ (fun b hb => met_Jmath_floorDiv  hb) (fun r8 hr8 => ?_)
      refine gl (i' := 33) (fun _ _ => aw_istore_n K (dOf ck_mX3_spellNumber rfl rfl) (Nat.le_of_ble_eq_true rfl)) ?_
      refine g_lv (lv' := [(3, .inl _), (0, .inr (.inr (.inl (some _)))), (4, .inl _)]) rfl ?_
      refine gl (i' := 34) (fun _ _ => aw_iinc K (dOf ck_mX3_spellNumber rfl rfl) (Nat.le_of_ble_eq_true rfl) rfl) ?_
      refine g_lv (lv' := [(4, .inl _), (3, .inl _), (0, .inr (.inr (.inl (some _))))]) rfl ?_
      refine g_goto K (dOf ck_mX3_spellNumber rfl rfl).1 (t := 10) (aJ_of (by decide +kernel)) ?_
      refine g_sub [2, 1, 0] rfl ?_
      exact ih _ _ _
def Mender_spellNumber (x1 : Int) (x2 : Int) (mm : aM) : Option aM := st1 (aup mm 105 1 x2) fun mm1 => (Mender_spellNumber_10 FU x1 (w32 (x2 - 1)) mm1)
set_option maxHeartbeats 4000000 in
theorem met_Mender_spellNumber {l : Launch} {D : va_G} {cA : FieldType → ClassId} {ad adV : Nat → Nat} {z0 : Nat} {x1 : Int} {x2 : Int} {mm : aM}  {r : aM} (h : Mender_spellNumber x1 x2 mm = some r) : aMet l D cA ad adV z0 mX3_spellNumber 1 22 0 0 [.inr (.inr (.inl (some 79))), .inl x1, .inl x2] SH mm (rM r).1 SH (rM r).2 := by
  refine aMet_ofG (by decide +kernel) rfl (Nat.le_of_ble_eq_true rfl) h (fun p e s m args below meth c al0 K => ?_)
  unfold Mender_spellNumber
  refine gl (i' := 1) (fun _ _ => aw_iload_n K (dOf ck_mX3_spellNumber rfl rfl) rfl) ?_
  refine gl (i' := 2) (fun _ _ => aw_istore_n K (dOf ck_mX3_spellNumber rfl rfl) (Nat.le_of_ble_eq_true rfl)) ?_
  refine g_lv (lv' := [(3, .inl _), (0, .inr (.inr (.inl (some _)))), (1, .inl _), (2, .inl _)]) rfl ?_
  refine gl (i' := 3) (fun _ _ => aw_aload_n K (dOf ck_mX3_spellNumber rfl rfl) rfl) ?_
  refine gl (i' := 4) (fun _ _ => aw_getf K (dOf ck_mX3_spellNumber rfl rfl) rfl rfl (Nat.le_of_ble_eq_true rfl) wd_421 (k := 3) rfl) ?_
  refine gl (i' := 5) (fun _ _ => aw_iload_n K (dOf ck_mX3_spellNumber rfl rfl) rfl) ?_
  refine g_st1 ?_
  refine gl (i' := 6) (fun _ _ => aw_putf K (dOf ck_mX3_spellNumber rfl rfl) rfl rfl (Nat.le_of_ble_eq_true rfl) wd_305 (k := 1) rfl rfl (Or.inl rfl)) ?_
  refine gl (i' := 7) (fun _ _ => aw_iload_n K (dOf ck_mX3_spellNumber rfl rfl) rfl) ?_
  refine gl (i' := 8) (fun _ _ => aw_iconst K (n := 1) (i32 _ rfl) (dOf ck_mX3_spellNumber rfl rfl)) ?_
  refine gl (i' := 9) (fun _ _ => aw_isub K (dOf ck_mX3_spellNumber rfl rfl)) ?_
  refine gl (i' := 10) (fun _ _ => aw_istore K (dOf ck_mX3_spellNumber rfl rfl) (Nat.le_of_ble_eq_true rfl)) ?_
  refine g_lv (lv' := [(4, .inl _), (3, .inl _), (0, .inr (.inr (.inl (some _)))), (1, .inl _), (2, .inl _)]) rfl ?_
  refine g_sub [2, 1, 0] rfl ?_
  exact lk_Mender_spellNumber_10 K FU _ _ _
def Mender_leastUnlike_30 (k4 : Int → Int → aM → Option (Int × aM)) (x1 : Int) (x2 : Int) (mm : aM) : Option (Int × aM) := k4 x1 (w32 (x2 + 1)) mm
set_option maxHeartbeats 4000000 in
theorem lk_Mender_leastUnlike_30 {p : Program} {l : Launch} {e : Env} {s : State} {m : MethodId} {args : Array Value} {below : List Frame} {meth : Method} {c : Code} {D : va_G} {cA : FieldType → ClassId} {ad adV : Nat → Nat} {z0 : Nat} {al0 : List Nat} (K : aK p s m args meth c mX3_leastUnlike D cA ad adV z0) (x1 : Int) (x2 : Int) (k4 : Int → Int → aM → Option (Int × aM)) (hk4 : ∀ (x1 : Int) (x2 : Int) (mm : aM), aG p l e { frames := 3, cells := 0, slots := 0, locals := 76 } s m args below meth c D cA ad z0 mX3_leastUnlike al0 rIM (k4 x1 x2 mm) 4 [(0, .inr (.inr (.inl (some 79)))), (1, .inl x1), (2, .inl x2)] [] mm)  (mm : aM) : aG p l e { frames := 3, cells := 0, slots := 0, locals := 76 } s m args below meth c D cA ad z0 mX3_leastUnlike al0 rIM (Mender_leastUnlike_30 k4 x1 x2 mm) 30 [(0, .inr (.inr (.inl (some 79)))), (1, .inl x1), (2, .inl x2)] [] mm := by
  unfold Mender_leastUnlike_30
  refine gl (i' := 31) (fun _ _ => aw_iinc K (dOf ck_mX3_leastUnlike rfl rfl) (Nat.le_of_ble_eq_true rfl) rfl) ?_
  refine g_lv (lv' := [(2, .inl _), (0, .inr (.inr (.inl (some _)))), (1, .inl _)]) rfl ?_
  refine g_goto K (dOf ck_mX3_leastUnlike rfl rfl).1 (t := 4) (aJ_of (by decide +kernel)) ?_
  refine g_sub [1, 2, 0] rfl ?_
  exact hk4 _ _ _
def Mender_leastUnlike_28 (k4 : Int → Int → aM → Option (Int × aM)) (x2 : Int) (x3 : Int) (mm : aM) : Option (Int × aM) := Mender_leastUnlike_30 k4 x3 x2 mm
set_option maxHeartbeats 4000000 in
theorem lk_Mender_leastUnlike_28 {p : Program} {l : Launch} {e : Env} {s : State} {m : MethodId} {args : Array Value} {below : List Frame} {meth : Method} {c : Code} {D : va_G} {cA : FieldType → ClassId} {ad adV : Nat → Nat} {z0 : Nat} {al0 : List Nat} (K : aK p s m args meth c mX3_leastUnlike D cA ad adV z0) (x2 : Int) (x3 : Int) (k4 : Int → Int → aM → Option (Int × aM)) (hk4 : ∀ (x1 : Int) (x2 : Int) (mm : aM), aG p l e { frames := 3, cells := 0, slots := 0, locals := 76 } s m args below meth c D cA ad z0 mX3_leastUnlike al0 rIM (k4 x1 x2 mm) 4 [(0, .inr (.inr (.inl (some 79)))), (1, .inl x1), (2, .inl x2)] [] mm)  (mm : aM) : aG p l e { frames := 3, cells := 0, slots := 0, locals := 76 } s m args below meth c D cA ad z0 mX3_leastUnlike al0 rIM (Mender_leastUnlike_28 k4 x2 x3 mm) 28 [(0, .inr (.inr (.inl (some 79)))), (2, .inl x2), (3, .inl x3)] [] mm := by
  unfold Mender_leastUnlike_28
  refine gl (i' := 29) (fun _ _ => aw_iload_n K (dOf ck_mX3_leastUnlike rfl rfl) rfl) ?_
  refine gl (i' := 30) (fun _ _ => aw_istore_n K (dOf ck_mX3_leastUnlike rfl rfl) (Nat.le_of_ble_eq_true rfl)) ?_
  refine g_lv (lv' := [(1, .inl _), (0, .inr (.inr (.inl (some _)))), (2, .inl _), (3, .inl _)]) rfl ?_
  refine g_sub [1, 0, 2] rfl ?_
  exact lk_Mender_leastUnlike_30 K _ _ _ hk4 _
def Mender_leastUnlike_4  : Nat → Int → Int → aM → Option (Int × aM)
  | 0, _, _, _ => none
  | n + 1, x1, x2, mm => if x2 < (mm 25 2) then ((Measure_toWord 106 (mm 105 1) x2 mm).bind fun r2 => (if x1 = (-1) then (Mender_leastUnlike_28 (Mender_leastUnlike_4 n) x2 r2.1 r2.2) else (if r2.1 < x1 then (Mender_leastUnlike_28 (Mender_leastUnlike_4 n) x2 r2.1 r2.2) else (Mender_leastUnlike_30 (Mender_leastUnlike_4 n) x1 x2 r2.2)))) else (some (x1, mm))
set_option maxHeartbeats 4000000 in
theorem lk_Mender_leastUnlike_4 {p : Program} {l : Launch} {e : Env} {s : State} {m : MethodId} {args : Array Value} {below : List Frame} {meth : Method} {c : Code} {D : va_G} {cA : FieldType → ClassId} {ad adV : Nat → Nat} {z0 : Nat} {al0 : List Nat} (K : aK p s m args meth c mX3_leastUnlike D cA ad adV z0)   : ∀ (n : Nat) (x1 : Int) (x2 : Int) (mm : aM), aG p l e { frames := 3, cells := 0, slots := 0, locals := 76 } s m args below meth c D cA ad z0 mX3_leastUnlike al0 rIM (Mender_leastUnlike_4 n x1 x2 mm) 4 [(0, .inr (.inr (.inl (some 79)))), (1, .inl x1), (2, .inl x2)] [] mm := by
  intro n
  induction n with
  | zero => intro x1 x2 mm; exact g_none
  | succ n ih =>
    intro x1 x2 mm
    rw [Mender_leastUnlike_4]
    refine gl (i' := 5) (fun _ _ => aw_iload_n K (dOf ck_mX3_leastUnlike rfl rfl) rfl) ?_
    refine gl (i' := 6) (fun _ _ => aw_aload_n K (dOf ck_mX3_leastUnlike rfl rfl) rfl) ?_
    refine gl (i' := 7) (fun _ _ => aw_getf K (dOf ck_mX3_leastUnlike rfl rfl) rfl rfl (Nat.le_of_ble_eq_true rfl) wd_418 (k := 0) rfl) ?_
    refine gl (i' := 8) (fun _ _ => aw_getf K (dOf ck_mX3_leastUnlike rfl rfl) rfl rfl (Nat.le_of_ble_eq_true rfl) wd_200 (k := 2) rfl) ?_
    refine g_icmp_ge K (dOf ck_mX3_leastUnlike rfl rfl) (t := 32) (aJ_of (by decide +kernel)) (fun h1 => ?_) (fun h1 => ?_)
    · refine gl (i' := 10) (fun _ _ => aw_aload_n K (dOf ck_mX3_leastUnlike rfl rfl) rfl) ?_
      refine gl (i' := 11) (fun _ _ => aw_getf K (dOf ck_mX3_leastUnlike rfl rfl) rfl rfl (Nat.le_of_ble_eq_true rfl) wd_419 (k := 1) rfl) ?_
      refine gl (i' := 12) (fun _ _ => aw_aload_n K (dOf ck_mX3_leastUnlike rfl rfl) rfl) ?_
      refine gl (i' := 13) (fun _ _ => aw_getf K (dOf ck_mX3_leastUnlike rfl rfl) rfl rfl (Nat.le_of_ble_eq_true rfl) wd_418 (k := 0) rfl) ?_
      refine gl (i' := 14) (fun _ _ => aw_aload_n K (dOf ck_mX3_leastUnlike rfl rfl) rfl) ?_
      refine gl (i' := 15) (fun _ _ => aw_getf K (dOf ck_mX3_leastUnlike rfl rfl) rfl rfl (Nat.le_of_ble_eq_true rfl) wd_421 (k := 3) rfl) ?_
      refine gl (i' := 16) (fun _ _ => aw_getf K (dOf ck_mX3_leastUnlike rfl rfl) rfl rfl (Nat.le_of_ble_eq_true rfl) wd_297 (k := 0) rfl) ?_
      refine gl (i' := 17) (fun _ _ => aw_aload_n K (dOf ck_mX3_leastUnlike rfl rfl) rfl) ?_
      refine gl (i' := 18) (fun _ _ => aw_getf K (dOf ck_mX3_leastUnlike rfl rfl) rfl rfl (Nat.le_of_ble_eq_true rfl) wd_421 (k := 3) rfl) ?_
      refine gl (i' := 19) (fun _ _ => aw_getf K (dOf ck_mX3_leastUnlike rfl rfl) rfl rfl (Nat.le_of_ble_eq_true rfl) wd_305 (k := 1) rfl) ?_
      refine gl (i' := 20) (fun _ _ => aw_iload_n K (dOf ck_mX3_leastUnlike rfl rfl) rfl) ?_
      refine g_callVIM K [.inr (.inr (.inl (some _))), .inr (.inr (.inl (some _))), .inl _, .inl _] rfl (dOf ck_mX3_leastUnlike rfl rfl) al_OneBreath_Mender_137 rfl rfl ⟨wd_669, wd_670⟩ rfl (Nat.le_of_ble_eq_true rfl) ⟨Nat.le_of_ble_eq_true rfl, Nat.le_of_ble_eq_true rfl⟩ (fun b hb => met_Measure_toWord ⟨_, rfl⟩ hb) (fun r2 hr2 => ?_)
      refine gl (i' := 22) (fun _ _ => aw_istore_n K (dOf ck_mX3_leastUnlike rfl rfl) (Nat.le_of_ble_eq_true rfl)) ?_
      refine g_lv (lv' := [(3, .inl _), (0, .inr (.inr (.inl (some _)))), (1, .inl _), (2, .inl _)]) rfl ?_
      refine gl (i' := 23) (fun _ _ => aw_iload_n K (dOf ck_mX3_leastUnlike rfl rfl) rfl) ?_
      refine gl (i' := 24) (fun _ _ => aw_iconst K (n := -1) (i32 _ rfl) (dOf ck_mX3_leastUnlike rfl rfl)) ?_
      refine g_icmp_eq K (dOf ck_mX3_leastUnlike rfl rfl) (t := 28) (aJ_of (by decide +kernel)) (fun h3 => ?_) (fun h3 => ?_)
      · refine g_sub [1, 3, 0] rfl ?_
        exact lk_Mender_leastUnlike_28 K _ _ _ ih _
      · refine gl (i' := 26) (fun _ _ => aw_iload_n K (dOf ck_mX3_leastUnlike rfl rfl) rfl) ?_
        refine gl (i' := 27) (fun _ _ => aw_iload_n K (dOf ck_mX3_leastUnlike rfl rfl) rfl) ?_
        refine g_icmp_ge K (dOf ck_mX3_leastUnlike rfl rfl) (t := 30) (aJ_of (by decide +kernel)) (fun h4 => ?_) (fun h4 => ?_)
        · refine g_sub [1, 3, 0] rfl ?_
          exact lk_Mender_leastUnlike_28 K _ _ _ ih _
        · refine g_sub [1, 2, 3] rfl ?_
          exact lk_Mender_leastUnlike_30 K _ _ _ ih _
    · refine gl (i' := 33) (fun _ _ => aw_iload_n K (dOf ck_mX3_leastUnlike rfl rfl) rfl) ?_
      exact g_iret K (by decide +kernel) rfl (Or.inl rfl) rfl
def Mender_leastUnlike  (mm : aM) : Option (Int × aM) := Mender_leastUnlike_4 FU (-1) 0 mm
set_option maxHeartbeats 4000000 in
theorem met_Mender_leastUnlike {l : Launch} {D : va_G} {cA : FieldType → ClassId} {ad adV : Nat → Nat} {z0 : Nat}  {mm : aM}  {r : Int × aM} (h : Mender_leastUnlike  mm = some r) : aMet l D cA ad adV z0 mX3_leastUnlike 3 76 0 0 [.inr (.inr (.inl (some 79)))] SH mm (rIM r).1 SH (rIM r).2 := by
  refine aMet_ofG (by decide +kernel) rfl (Nat.le_of_ble_eq_true rfl) h (fun p e s m args below meth c al0 K => ?_)
  unfold Mender_leastUnlike
  refine gl (i' := 1) (fun _ _ => aw_iconst K (n := -1) (i32 _ rfl) (dOf ck_mX3_leastUnlike rfl rfl)) ?_
  refine gl (i' := 2) (fun _ _ => aw_istore_n K (dOf ck_mX3_leastUnlike rfl rfl) (Nat.le_of_ble_eq_true rfl)) ?_
  refine g_lv (lv' := [(1, .inl _), (0, .inr (.inr (.inl (some _))))]) rfl ?_
  refine gl (i' := 3) (fun _ _ => aw_iconst K (n := 0) (i32 _ rfl) (dOf ck_mX3_leastUnlike rfl rfl)) ?_
  refine gl (i' := 4) (fun _ _ => aw_istore_n K (dOf ck_mX3_leastUnlike rfl rfl) (Nat.le_of_ble_eq_true rfl)) ?_
  refine g_lv (lv' := [(2, .inl _), (1, .inl _), (0, .inr (.inr (.inl (some _))))]) rfl ?_
  refine g_sub [2, 1, 0] rfl ?_
  exact lk_Mender_leastUnlike_4 K FU _ _ _
def Mender_mayBeWord_71 (mm : aM) (k48 : Int → Option Int) (x1 : Int) (x2 : Int) : Option Int := k48 (w32 (x2 + 1))
set_option maxHeartbeats 4000000 in
theorem lk_Mender_mayBeWord_71 {p : Program} {l : Launch} {e : Env} {s : State} {m : MethodId} {args : Array Value} {below : List Frame} {meth : Method} {c : Code} {D : va_G} {cA : FieldType → ClassId} {ad adV : Nat → Nat} {z0 : Nat} {al0 : List Nat} {mm : aM} (K : aK p s m args meth c mX3_mayBeWord D cA ad adV z0) (x1 : Int) (x2 : Int) (k48 : Int → Option Int) (hk48 : ∀ (x2 : Int), aG p l e { frames := 2, cells := 0, slots := 0, locals := 47 } s m args below meth c D cA ad z0 mX3_mayBeWord al0 (rI mm) (k48 x2) 48 [(0, .inr (.inr (.inl (some 79)))), (1, .inl x1), (2, .inl x2)] [] mm)  : aG p l e { frames := 2, cells := 0, slots := 0, locals := 47 } s m args below meth c D cA ad z0 mX3_mayBeWord al0 (rI mm) (Mender_mayBeWord_71 mm k48 x1 x2) 71 [(0, .inr (.inr (.inl (some 79)))), (1, .inl x1), (2, .inl x2)] [] mm := by
  unfold Mender_mayBeWord_71
  refine gl (i' := 72) (fun _ _ => aw_iinc K (dOf ck_mX3_mayBeWord rfl rfl) (Nat.le_of_ble_eq_true rfl) rfl) ?_
  refine g_lv (lv' := [(2, .inl _), (0, .inr (.inr (.inl (some _)))), (1, .inl _)]) rfl ?_
  refine g_goto K (dOf ck_mX3_mayBeWord rfl rfl).1 (t := 48) (aJ_of (by decide +kernel)) ?_
  refine g_sub [1, 2, 0] rfl ?_
  exact hk48 _
def Mender_mayBeWord_48 (mm : aM) (x1 : Int) : Nat → Int → Option Int
  | 0, _ => none
  | n + 1, x2 => if x2 < (mm 25 3) then (if 0 ≤ x2 ∧ x2 < 6 then (if (mm 45 x2.toNat) = (mm 105 1) then (if (mm 46 x2.toNat) = x1 then (some 1) else (Mender_mayBeWord_71 mm (Mender_mayBeWord_48 mm x1 n) x1 x2)) else (Mender_mayBeWord_71 mm (Mender_mayBeWord_48 mm x1 n) x1 x2)) else none) else (some 0)
set_option maxHeartbeats 4000000 in
theorem lk_Mender_mayBeWord_48 {p : Program} {l : Launch} {e : Env} {s : State} {m : MethodId} {args : Array Value} {below : List Frame} {meth : Method} {c : Code} {D : va_G} {cA : FieldType → ClassId} {ad adV : Nat → Nat} {z0 : Nat} {al0 : List Nat} {mm : aM} (K : aK p s m args meth c mX3_mayBeWord D cA ad adV z0) (x1 : Int)  : ∀ (n : Nat) (x2 : Int), aG p l e { frames := 2, cells := 0, slots := 0, locals := 47 } s m args below meth c D cA ad z0 mX3_mayBeWord al0 (rI mm) (Mender_mayBeWord_48 mm x1 n x2) 48 [(0, .inr (.inr (.inl (some 79)))), (1, .inl x1), (2, .inl x2)] [] mm := by
  intro n
  induction n with
  | zero => intro x2; exact g_none
  | succ n ih =>
    intro x2
    rw [Mender_mayBeWord_48]
    refine gl (i' := 49) (fun _ _ => aw_iload_n K (dOf ck_mX3_mayBeWord rfl rfl) rfl) ?_
    refine gl (i' := 50) (fun _ _ => aw_aload_n K (dOf ck_mX3_mayBeWord rfl rfl) rfl) ?_
    refine gl (i' := 51) (fun _ _ => aw_getf K (dOf ck_mX3_mayBeWord rfl rfl) rfl rfl (Nat.le_of_ble_eq_true rfl) wd_418 (k := 0) rfl) ?_
    refine gl (i' := 52) (fun _ _ => aw_getf K (dOf ck_mX3_mayBeWord rfl rfl) rfl rfl (Nat.le_of_ble_eq_true rfl) wd_205 (k := 3) rfl) ?_
    refine g_icmp_ge K (dOf ck_mX3_mayBeWord rfl rfl) (t := 73) (aJ_of (by decide +kernel)) (fun h5 => ?_) (fun h5 => ?_)
    · refine gl (i' := 54) (fun _ _ => aw_aload_n K (dOf ck_mX3_mayBeWord rfl rfl) rfl) ?_
      refine gl (i' := 55) (fun _ _ => aw_getf K (dOf ck_mX3_mayBeWord rfl rfl) rfl rfl (Nat.le_of_ble_eq_true rfl) wd_418 (k := 0) rfl) ?_
      refine gl (i' := 56) (fun _ _ => aw_getf K (dOf ck_mX3_mayBeWord rfl rfl) rfl rfl (Nat.le_of_ble_eq_true rfl) wd_265 (k := 13) rfl) ?_
      refine gl (i' := 57) (fun _ _ => aw_iload_n K (dOf ck_mX3_mayBeWord rfl rfl) rfl) ?_
      refine g_gd (fun hb6 => ?_)
      refine gl (i' := 58) (fun _ _ => aw_iald K (dOf ck_mX3_mayBeWord rfl rfl) rfl hb6) ?_
      refine gl (i' := 59) (fun _ _ => aw_aload_n K (dOf ck_mX3_mayBeWord rfl rfl) rfl) ?_
      refine gl (i' := 60) (fun _ _ => aw_getf K (dOf ck_mX3_mayBeWord rfl rfl) rfl rfl (Nat.le_of_ble_eq_true rfl) wd_421 (k := 3) rfl) ?_
      refine gl (i' := 61) (fun _ _ => aw_getf K (dOf ck_mX3_mayBeWord rfl rfl) rfl rfl (Nat.le_of_ble_eq_true rfl) wd_305 (k := 1) rfl) ?_
      refine g_icmp_ne K (dOf ck_mX3_mayBeWord rfl rfl) (t := 71) (aJ_of (by decide +kernel)) (fun h7 => ?_) (fun h7 => ?_)
      · refine gl (i' := 63) (fun _ _ => aw_aload_n K (dOf ck_mX3_mayBeWord rfl rfl) rfl) ?_
        refine gl (i' := 64) (fun _ _ => aw_getf K (dOf ck_mX3_mayBeWord rfl rfl) rfl rfl (Nat.le_of_ble_eq_true rfl) wd_418 (k := 0) rfl) ?_
        refine gl (i' := 65) (fun _ _ => aw_getf K (dOf ck_mX3_mayBeWord rfl rfl) rfl rfl (Nat.le_of_ble_eq_true rfl) wd_270 (k := 14) rfl) ?_
        refine gl (i' := 66) (fun _ _ => aw_iload_n K (dOf ck_mX3_mayBeWord rfl rfl) rfl) ?_
        refine gl (i' := 67) (fun _ _ => aw_iald K (dOf ck_mX3_mayBeWord rfl rfl) rfl hb6) ?_
        refine gl (i' := 68) (fun _ _ => aw_iload_n K (dOf ck_mX3_mayBeWord rfl rfl) rfl) ?_
        refine g_icmp_ne K (dOf ck_mX3_mayBeWord rfl rfl) (t := 71) (aJ_of (by decide +kernel)) (fun h8 => ?_) (fun h8 => ?_)
        · refine gl (i' := 70) (fun _ _ => aw_iconst K (n := 1) (i32 _ rfl) (dOf ck_mX3_mayBeWord rfl rfl)) ?_
          exact g_iret K (dOf ck_mX3_mayBeWord rfl rfl).1 rfl (Or.inr (Or.inl ⟨rfl, Or.inr rfl⟩)) rfl
        · refine g_sub [0, 1, 2] rfl ?_
          exact lk_Mender_mayBeWord_71 K _ _ _ ih
      · refine g_sub [0, 1, 2] rfl ?_
        exact lk_Mender_mayBeWord_71 K _ _ _ ih
    · refine gl (i' := 74) (fun _ _ => aw_iconst K (n := 0) (i32 _ rfl) (dOf ck_mX3_mayBeWord rfl rfl)) ?_
      exact g_iret K (by decide +kernel) rfl (Or.inr (Or.inl ⟨rfl, Or.inl rfl⟩)) rfl
def Mender_mayBeWord_23 (mm : aM) : Nat → Int → Int → Option Int
  | 0, _, _ => none
  | n + 1, x1, x2 => if x2 < (mm 105 1) then (if 0 ≤ x2 ∧ x2 < 40 then (Mender_mayBeWord_23 mm n (ior x1 (ishl (iand (ishr (mm 25 4) (mm 106 x2.toNat)) 1) x2)) (w32 (x2 + 1))) else none) else (Mender_mayBeWord_48 mm x1 FU 0)
set_option maxHeartbeats 4000000 in
theorem lk_Mender_mayBeWord_23 {p : Program} {l : Launch} {e : Env} {s : State} {m : MethodId} {args : Array Value} {below : List Frame} {meth : Method} {c : Code} {D : va_G} {cA : FieldType → ClassId} {ad adV : Nat → Nat} {z0 : Nat} {al0 : List Nat} {mm : aM} (K : aK p s m args meth c mX3_mayBeWord D cA ad adV z0)   : ∀ (n : Nat) (x1 : Int) (x2 : Int), aG p l e { frames := 2, cells := 0, slots := 0, locals := 47 } s m args below meth c D cA ad z0 mX3_mayBeWord al0 (rI mm) (Mender_mayBeWord_23 mm n x1 x2) 23 [(0, .inr (.inr (.inl (some 79)))), (1, .inl x1), (2, .inl x2)] [] mm := by
  intro n
  induction n with
  | zero => intro x1 x2; exact g_none
  | succ n ih =>
    intro x1 x2
    rw [Mender_mayBeWord_23]
    refine gl (i' := 24) (fun _ _ => aw_iload_n K (dOf ck_mX3_mayBeWord rfl rfl) rfl) ?_
    refine gl (i' := 25) (fun _ _ => aw_aload_n K (dOf ck_mX3_mayBeWord rfl rfl) rfl) ?_
    refine gl (i' := 26) (fun _ _ => aw_getf K (dOf ck_mX3_mayBeWord rfl rfl) rfl rfl (Nat.le_of_ble_eq_true rfl) wd_421 (k := 3) rfl) ?_
    refine gl (i' := 27) (fun _ _ => aw_getf K (dOf ck_mX3_mayBeWord rfl rfl) rfl rfl (Nat.le_of_ble_eq_true rfl) wd_305 (k := 1) rfl) ?_
    refine g_icmp_ge K (dOf ck_mX3_mayBeWord rfl rfl) (t := 46) (aJ_of (by decide +kernel)) (fun h4 => ?_) (fun h4 => ?_)
    · refine gl (i' := 29) (fun _ _ => aw_iload_n K (dOf ck_mX3_mayBeWord rfl rfl) rfl) ?_
      refine gl (i' := 30) (fun _ _ => aw_aload_n K (dOf ck_mX3_mayBeWord rfl rfl) rfl) ?_
      refine gl (i' := 31) (fun _ _ => aw_getf K (dOf ck_mX3_mayBeWord rfl rfl) rfl rfl (Nat.le_of_ble_eq_true rfl) wd_418 (k := 0) rfl) ?_
      refine gl (i' := 32) (fun _ _ => aw_getf K (dOf ck_mX3_mayBeWord rfl rfl) rfl rfl (Nat.le_of_ble_eq_true rfl) wd_211 (k := 4) rfl) ?_
      refine gl (i' := 33) (fun _ _ => aw_aload_n K (dOf ck_mX3_mayBeWord rfl rfl) rfl) ?_
      refine gl (i' := 34) (fun _ _ => aw_getf K (dOf ck_mX3_mayBeWord rfl rfl) rfl rfl (Nat.le_of_ble_eq_true rfl) wd_421 (k := 3) rfl) ?_
      refine gl (i' := 35) (fun _ _ => aw_getf K (dOf ck_mX3_mayBeWord rfl rfl) rfl rfl (Nat.le_of_ble_eq_true rfl) wd_297 (k := 0) rfl) ?_
      refine gl (i' := 36) (fun _ _ => aw_iload_n K (dOf ck_mX3_mayBeWord rfl rfl) rfl) ?_
      refine g_gd (fun hb9 => ?_)
      refine gl (i' := 37) (fun _ _ => aw_bald K (dOf ck_mX3_mayBeWord rfl rfl) rfl hb9) ?_
      refine gl (i' := 38) (fun _ _ => aw_ishr K (dOf ck_mX3_mayBeWord rfl rfl)) ?_
      refine gl (i' := 39) (fun _ _ => aw_iconst K (n := 1) (i32 _ rfl) (dOf ck_mX3_mayBeWord rfl rfl)) ?_
      refine gl (i' := 40) (fun _ _ => aw_iand K (dOf ck_mX3_mayBeWord rfl rfl)) ?_
      refine gl (i' := 41) (fun _ _ => aw_iload_n K (dOf ck_mX3_mayBeWord rfl rfl) rfl) ?_
      refine gl (i' := 42) (fun _ _ => aw_ishl K (dOf ck_mX3_mayBeWord rfl rfl)) ?_
      refine gl (i' := 43) (fun _ _ => aw_ior K (dOf ck_mX3_mayBeWord rfl rfl)) ?_
      refine gl (i' := 44) (fun _ _ => aw_istore_n K (dOf ck_mX3_mayBeWord rfl rfl) (Nat.le_of_ble_eq_true rfl)) ?_
      refine g_lv (lv' := [(1, .inl _), (0, .inr (.inr (.inl (some _)))), (2, .inl _)]) rfl ?_
      refine gl (i' := 45) (fun _ _ => aw_iinc K (dOf ck_mX3_mayBeWord rfl rfl) (Nat.le_of_ble_eq_true rfl) rfl) ?_
      refine g_lv (lv' := [(2, .inl _), (1, .inl _), (0, .inr (.inr (.inl (some _))))]) rfl ?_
      refine g_goto K (dOf ck_mX3_mayBeWord rfl rfl).1 (t := 23) (aJ_of (by decide +kernel)) ?_
      refine g_sub [2, 1, 0] rfl ?_
      exact ih _ _
    · refine gl (i' := 47) (fun _ _ => aw_iconst K (n := 0) (i32 _ rfl) (dOf ck_mX3_mayBeWord rfl rfl)) ?_
      refine gl (i' := 48) (fun _ _ => aw_istore_n K (dOf ck_mX3_mayBeWord rfl rfl) (Nat.le_of_ble_eq_true rfl)) ?_
      refine g_lv (lv' := [(2, .inl _), (0, .inr (.inr (.inl (some _)))), (1, .inl _)]) rfl ?_
      refine g_sub [1, 2, 0] rfl ?_
      exact lk_Mender_mayBeWord_48 K _ FU _
def Mender_mayBeWord  (mm : aM) : Option Int := (Tongue_findWord 25 106 (mm 105 1) mm).bind fun r1 => (if r1 = (-1) then (if (mm 25 3) = 0 then (some 1) else (Mender_mayBeWord_23 mm FU 0 0)) else (some 0))
set_option maxHeartbeats 4000000 in
theorem met_Mender_mayBeWord {l : Launch} {D : va_G} {cA : FieldType → ClassId} {ad adV : Nat → Nat} {z0 : Nat}  {mm : aM}  {r : Int} (h : Mender_mayBeWord  mm = some r) : aMet l D cA ad adV z0 mX3_mayBeWord 2 47 0 0 [.inr (.inr (.inl (some 79)))] SH mm ((rI mm) r).1 SH ((rI mm) r).2 := by
  refine aMet_ofG (by decide +kernel) rfl (Nat.le_of_ble_eq_true rfl) h (fun p e s m args below meth c al0 K => ?_)
  unfold Mender_mayBeWord
  refine gl (i' := 1) (fun _ _ => aw_aload_n K (dOf ck_mX3_mayBeWord rfl rfl) rfl) ?_
  refine gl (i' := 2) (fun _ _ => aw_getf K (dOf ck_mX3_mayBeWord rfl rfl) rfl rfl (Nat.le_of_ble_eq_true rfl) wd_418 (k := 0) rfl) ?_
  refine gl (i' := 3) (fun _ _ => aw_aload_n K (dOf ck_mX3_mayBeWord rfl rfl) rfl) ?_
  refine gl (i' := 4) (fun _ _ => aw_getf K (dOf ck_mX3_mayBeWord rfl rfl) rfl rfl (Nat.le_of_ble_eq_true rfl) wd_421 (k := 3) rfl) ?_
  refine gl (i' := 5) (fun _ _ => aw_getf K (dOf ck_mX3_mayBeWord rfl rfl) rfl rfl (Nat.le_of_ble_eq_true rfl) wd_297 (k := 0) rfl) ?_
  refine gl (i' := 6) (fun _ _ => aw_aload_n K (dOf ck_mX3_mayBeWord rfl rfl) rfl) ?_
  refine gl (i' := 7) (fun _ _ => aw_getf K (dOf ck_mX3_mayBeWord rfl rfl) rfl rfl (Nat.le_of_ble_eq_true rfl) wd_421 (k := 3) rfl) ?_
  refine gl (i' := 8) (fun _ _ => aw_getf K (dOf ck_mX3_mayBeWord rfl rfl) rfl rfl (Nat.le_of_ble_eq_true rfl) wd_305 (k := 1) rfl) ?_
  refine g_callVI K [.inr (.inr (.inl (some _))), .inl _] rfl (dOf ck_mX3_mayBeWord rfl rfl) al_OneBreath_Mender_143 rfl rfl ⟨wd_592, wd_593⟩ rfl (Nat.le_of_ble_eq_true rfl) ⟨Nat.le_of_ble_eq_true rfl, Nat.le_of_ble_eq_true rfl⟩ (fun b hb => met_Tongue_findWord (by unfold okT; omega) ⟨_, rfl⟩ hb) (fun r1 hr1 => ?_)
  refine gl (i' := 10) (fun _ _ => aw_iconst K (n := -1) (i32 _ rfl) (dOf ck_mX3_mayBeWord rfl rfl)) ?_
  refine g_icmp_eq K (dOf ck_mX3_mayBeWord rfl rfl) (t := 13) (aJ_of (by decide +kernel)) (fun h2 => ?_) (fun h2 => ?_)
  · refine gl (i' := 14) (fun _ _ => aw_aload_n K (dOf ck_mX3_mayBeWord rfl rfl) rfl) ?_
    refine gl (i' := 15) (fun _ _ => aw_getf K (dOf ck_mX3_mayBeWord rfl rfl) rfl rfl (Nat.le_of_ble_eq_true rfl) wd_418 (k := 0) rfl) ?_
    refine gl (i' := 16) (fun _ _ => aw_getf K (dOf ck_mX3_mayBeWord rfl rfl) rfl rfl (Nat.le_of_ble_eq_true rfl) wd_205 (k := 3) rfl) ?_
    refine g_if_ne K (dOf ck_mX3_mayBeWord rfl rfl) (t := 19) (aJ_of (by decide +kernel)) (fun h3 => ?_) (fun h3 => ?_)
    · refine gl (i' := 18) (fun _ _ => aw_iconst K (n := 1) (i32 _ rfl) (dOf ck_mX3_mayBeWord rfl rfl)) ?_
      exact g_iret K (dOf ck_mX3_mayBeWord rfl rfl).1 rfl (Or.inr (Or.inl ⟨rfl, Or.inr rfl⟩)) rfl
    · refine gl (i' := 20) (fun _ _ => aw_iconst K (n := 0) (i32 _ rfl) (dOf ck_mX3_mayBeWord rfl rfl)) ?_
      refine gl (i' := 21) (fun _ _ => aw_istore_n K (dOf ck_mX3_mayBeWord rfl rfl) (Nat.le_of_ble_eq_true rfl)) ?_
      refine g_lv (lv' := [(1, .inl _), (0, .inr (.inr (.inl (some _))))]) rfl ?_
      refine gl (i' := 22) (fun _ _ => aw_iconst K (n := 0) (i32 _ rfl) (dOf ck_mX3_mayBeWord rfl rfl)) ?_
      refine gl (i' := 23) (fun _ _ => aw_istore_n K (dOf ck_mX3_mayBeWord rfl rfl) (Nat.le_of_ble_eq_true rfl)) ?_
      refine g_lv (lv' := [(2, .inl _), (1, .inl _), (0, .inr (.inr (.inl (some _))))]) rfl ?_
      refine g_sub [2, 1, 0] rfl ?_
      exact lk_Mender_mayBeWord_23 K FU _ _
  · refine gl (i' := 12) (fun _ _ => aw_iconst K (n := 0) (i32 _ rfl) (dOf ck_mX3_mayBeWord rfl rfl)) ?_
    exact g_iret K (dOf ck_mX3_mayBeWord rfl rfl).1 rfl (Or.inr (Or.inl ⟨rfl, Or.inl rfl⟩)) rfl
def Twins_putOneMore (x1 : Nat) (x2 : Int) (x3 : Int) (mm : aM) : Option aM := (Twins_put (mm 80 0) x1 x2 x3 mm).bind fun r1 => (st1 (aup r1 80 1 (ior (r1 80 1) (ishl 1 (r1 80 0)))) fun mm2 => (some mm2))
set_option maxHeartbeats 4000000 in
theorem met_Twins_putOneMore {l : Launch} {D : va_G} {cA : FieldType → ClassId} {ad adV : Nat → Nat} {z0 : Nat} {x1 : Nat} {x2 : Int} {x3 : Int} {mm : aM} (hx1 : okB x1) {r : aM} (h : Twins_putOneMore x1 x2 x3 mm = some r) : aMet l D cA ad adV z0 mX9_putOneMore 2 50 0 0 [.inr (.inr (.inl (some 80))), .inr (.inr (.inl (some x1))), .inl x2, .inl x3] SH mm (rM r).1 SH (rM r).2 := by
  refine aMet_ofG (by decide +kernel) rfl (Nat.le_of_ble_eq_true rfl) h (fun p e s m args below meth c al0 K => ?_)
  unfold Twins_putOneMore
  refine gl (i' := 1) (fun _ _ => aw_aload_n K (dOf ck_mX9_putOneMore rfl rfl) rfl) ?_
  refine gl (i' := 2) (fun _ _ => aw_aload_n K (dOf ck_mX9_putOneMore rfl rfl) rfl) ?_
  refine gl (i' := 3) (fun _ _ => aw_getf K (dOf ck_mX9_putOneMore rfl rfl) rfl rfl (Nat.le_of_ble_eq_true rfl) wd_391 (k := 0) rfl) ?_
  refine gl (i' := 4) (fun _ _ => aw_aload_n K (dOf ck_mX9_putOneMore rfl rfl) rfl) ?_
  refine gl (i' := 5) (fun _ _ => aw_iload_n K (dOf ck_mX9_putOneMore rfl rfl) rfl) ?_
  refine gl (i' := 6) (fun _ _ => aw_iload_n K (dOf ck_mX9_putOneMore rfl rfl) rfl) ?_
  refine g_callVM K [.inl _, .inr (.inr (.inl (some _))), .inl _, .inl _] rfl (dOf ck_mX9_putOneMore rfl rfl) al_OneBreath_Twins_78 rfl rfl ⟨wd_823, wd_824⟩ rfl (Nat.le_of_ble_eq_true rfl) ⟨Nat.le_of_ble_eq_true rfl, Nat.le_of_ble_eq_true rfl⟩ (fun b hb => met_Twins_put ⟨_, (okB_at hx1)⟩ hb) (fun r1 hr1 => ?_)
  refine gl (i' := 8) (fun _ _ => aw_aload_n K (dOf ck_mX9_putOneMore rfl rfl) rfl) ?_
  refine gl (i' := 9) (fun _ _ => aw_dup K rfl (dOf ck_mX9_putOneMore rfl rfl)) ?_
  refine gl (i' := 10) (fun _ _ => aw_getf K (dOf ck_mX9_putOneMore rfl rfl) rfl rfl (Nat.le_of_ble_eq_true rfl) wd_392 (k := 1) rfl) ?_
  refine gl (i' := 11) (fun _ _ => aw_iconst K (n := 1) (i32 _ rfl) (dOf ck_mX9_putOneMore rfl rfl)) ?_
  refine gl (i' := 12) (fun _ _ => aw_aload_n K (dOf ck_mX9_putOneMore rfl rfl) rfl) ?_
  refine gl (i' := 13) (fun _ _ => aw_getf K (dOf ck_mX9_putOneMore rfl rfl) rfl rfl (Nat.le_of_ble_eq_true rfl) wd_391 (k := 0) rfl) ?_
  refine gl (i' := 14) (fun _ _ => aw_ishl K (dOf ck_mX9_putOneMore rfl rfl)) ?_
  refine gl (i' := 15) (fun _ _ => aw_ior K (dOf ck_mX9_putOneMore rfl rfl)) ?_
  refine g_st1 ?_
  refine gl (i' := 16) (fun _ _ => aw_putf K (dOf ck_mX9_putOneMore rfl rfl) rfl rfl (Nat.le_of_ble_eq_true rfl) wd_392 (k := 1) rfl rfl (Or.inl rfl)) ?_
  exact g_vret K (by decide +kernel) rfl rfl
def Mender_findAdded_90 (k34 : Int → Int → aM → Option aM) (k45 : Int → aM → Option aM) (x1 : Int) (x2 : Nat) (x3 : Int) (x4 : Int) (x5 : Int) (mm : aM) : Option aM := k45 (w32 (x5 + 1)) mm
set_option maxHeartbeats 4000000 in
theorem lk_Mender_findAdded_90 {p : Program} {l : Launch} {e : Env} {s : State} {m : MethodId} {args : Array Value} {below : List Frame} {meth : Method} {c : Code} {D : va_G} {cA : FieldType → ClassId} {ad adV : Nat → Nat} {z0 : Nat} {al0 : List Nat} (K : aK p s m args meth c mX3_findAdded D cA ad adV z0) {x2 : Nat} (x1 : Int) (x3 : Int) (x4 : Int) (x5 : Int) (hx2 : okS x2) (k34 : Int → Int → aM → Option aM) (hk34 : ∀ (x3 : Int) (x4 : Int) (mm : aM), aG p l e { frames := 5, cells := 0, slots := 0, locals := 133 } s m args below meth c D cA ad z0 mX3_findAdded al0 rM (k34 x3 x4 mm) 34 [(0, .inr (.inr (.inl (some 79)))), (1, .inl x1), (2, .inr (.inr (.inl (some x2)))), (3, .inl x3), (4, .inl x4)] [] mm) (k45 : Int → aM → Option aM) (hk45 : ∀ (x5 : Int) (mm : aM), aG p l e { frames := 5, cells := 0, slots := 0, locals := 133 } s m args below meth c D cA ad z0 mX3_findAdded al0 rM (k45 x5 mm) 45 [(0, .inr (.inr (.inl (some 79)))), (1, .inl x1), (2, .inr (.inr (.inl (some x2)))), (3, .inl x3), (4, .inl x4), (5, .inl x5)] [] mm)  (mm : aM) : aG p l e { frames := 5, cells := 0, slots := 0, locals := 133 } s m args below meth c D cA ad z0 mX3_findAdded al0 rM (Mender_findAdded_90 k34 k45 x1 x2 x3 x4 x5 mm) 90 [(0, .inr (.inr (.inl (some 79)))), (1, .inl x1), (2, .inr (.inr (.inl (some x2)))), (3, .inl x3), (4, .inl x4), (5, .inl x5)] [] mm := by
  unfold Mender_findAdded_90
  refine gl (i' := 91) (fun _ _ => aw_iinc K (dOf ck_mX3_findAdded rfl rfl) (Nat.le_of_ble_eq_true rfl) rfl) ?_
  refine g_lv (lv' := [(5, .inl _), (0, .inr (.inr (.inl (some _)))), (1, .inl _), (2, .inr (.inr (.inl (some _)))), (3, .inl _), (4, .inl _)]) rfl ?_
  refine g_goto K (dOf ck_mX3_findAdded rfl rfl).1 (t := 45) (aJ_of (by decide +kernel)) ?_
  refine g_sub [1, 2, 3, 4, 5, 0] rfl ?_
  exact hk45 _ _
def Mender_findAdded_64 (k34 : Int → Int → aM → Option aM) (k45 : Int → aM → Option aM) (x1 : Int) (x2 : Nat) (x3 : Int) (x4 : Int) (x5 : Int) (x6 : Int) (mm : aM) : Option aM := (Mender_mayBeWord mm).bind fun r12 => (if r12 = 0 then (Mender_findAdded_90 k34 k45 x1 x2 x3 x4 x5 mm) else ((Twins_putOneMore 106 x4 x1 mm).bind fun r14 => ((Twins_shortest 0 r14).bind fun r15 => (if r15.1 = (-1) then ((Sounds_become x2 105 r15.2).bind fun r17 => (if 0 ≤ x1 ∧ x1 < 4 then (st1 (aup r17 111 x1.toNat x6) fun mm19 => (Mender_findAdded_90 k34 k45 x1 x2 x3 x4 x5 mm19)) else none)) else (Mender_findAdded_90 k34 k45 x1 x2 x3 x4 x5 r15.2)))))
set_option maxHeartbeats 4000000 in
theorem lk_Mender_findAdded_64 {p : Program} {l : Launch} {e : Env} {s : State} {m : MethodId} {args : Array Value} {below : List Frame} {meth : Method} {c : Code} {D : va_G} {cA : FieldType → ClassId} {ad adV : Nat → Nat} {z0 : Nat} {al0 : List Nat} (K : aK p s m args meth c mX3_findAdded D cA ad adV z0) {x2 : Nat} (x1 : Int) (x3 : Int) (x4 : Int) (x5 : Int) (x6 : Int) (hx2 : okS x2) (k34 : Int → Int → aM → Option aM) (hk34 : ∀ (x3 : Int) (x4 : Int) (mm : aM), aG p l e { frames := 5, cells := 0, slots := 0, locals := 133 } s m args below meth c D cA ad z0 mX3_findAdded al0 rM (k34 x3 x4 mm) 34 [(0, .inr (.inr (.inl (some 79)))), (1, .inl x1), (2, .inr (.inr (.inl (some x2)))), (3, .inl x3), (4, .inl x4)] [] mm) (k45 : Int → aM → Option aM) (hk45 : ∀ (x5 : Int) (mm : aM), aG p l e { frames := 5, cells := 0, slots := 0, locals := 133 } s m args below meth c D cA ad z0 mX3_findAdded al0 rM (k45 x5 mm) 45 [(0, .inr (.inr (.inl (some 79)))), (1, .inl x1), (2, .inr (.inr (.inl (some x2)))), (3, .inl x3), (4, .inl x4), (5, .inl x5)] [] mm)  (mm : aM) : aG p l e { frames := 5, cells := 0, slots := 0, locals := 133 } s m args below meth c D cA ad z0 mX3_findAdded al0 rM (Mender_findAdded_64 k34 k45 x1 x2 x3 x4 x5 x6 mm) 64 [(0, .inr (.inr (.inl (some 79)))), (1, .inl x1), (2, .inr (.inr (.inl (some x2)))), (3, .inl x3), (4, .inl x4), (5, .inl x5), (6, .inl x6)] [] mm := by
  unfold Mender_findAdded_64
  refine gl (i' := 65) (fun _ _ => aw_aload_n K (dOf ck_mX3_findAdded rfl rfl) rfl) ?_
  refine g_callVI K [] rfl (dOf ck_mX3_findAdded rfl rfl) al_OneBreath_Mender_111 rfl rfl ⟨wd_968, wd_53⟩ rfl (Nat.le_of_ble_eq_true rfl) ⟨Nat.le_of_ble_eq_true rfl, Nat.le_of_ble_eq_true rfl⟩ (fun b hb => met_Mender_mayBeWord  hb) (fun r12 hr12 => ?_)
  refine g_if_eq K (dOf ck_mX3_findAdded rfl rfl) (t := 90) (aJ_of (by decide +kernel)) (fun h13 => ?_) (fun h13 => ?_)
  · refine g_sub [0, 1, 2, 3, 4, 5] rfl ?_
    exact lk_Mender_findAdded_90 K _ _ _ _ hx2 _ hk34 _ hk45 _
  · refine gl (i' := 68) (fun _ _ => aw_aload_n K (dOf ck_mX3_findAdded rfl rfl) rfl) ?_
    refine gl (i' := 69) (fun _ _ => aw_getf K (dOf ck_mX3_findAdded rfl rfl) rfl rfl (Nat.le_of_ble_eq_true rfl) wd_420 (k := 2) rfl) ?_
    refine gl (i' := 70) (fun _ _ => aw_aload_n K (dOf ck_mX3_findAdded rfl rfl) rfl) ?_
    refine gl (i' := 71) (fun _ _ => aw_getf K (dOf ck_mX3_findAdded rfl rfl) rfl rfl (Nat.le_of_ble_eq_true rfl) wd_421 (k := 3) rfl) ?_
    refine gl (i' := 72) (fun _ _ => aw_getf K (dOf ck_mX3_findAdded rfl rfl) rfl rfl (Nat.le_of_ble_eq_true rfl) wd_297 (k := 0) rfl) ?_
    refine gl (i' := 73) (fun _ _ => aw_iload K (dOf ck_mX3_findAdded rfl rfl) rfl) ?_
    refine gl (i' := 74) (fun _ _ => aw_iload_n K (dOf ck_mX3_findAdded rfl rfl) rfl) ?_
    refine g_callVM K [.inr (.inr (.inl (some _))), .inl _, .inl _] rfl (dOf ck_mX3_findAdded rfl rfl) al_OneBreath_Mender_91 rfl rfl ⟨wd_972, wd_973⟩ rfl (Nat.le_of_ble_eq_true rfl) ⟨Nat.le_of_ble_eq_true rfl, Nat.le_of_ble_eq_true rfl⟩ (fun b hb => met_Twins_putOneMore ⟨_, rfl⟩ hb) (fun r14 hr14 => ?_)
    refine gl (i' := 76) (fun _ _ => aw_aload_n K (dOf ck_mX3_findAdded rfl rfl) rfl) ?_
    refine gl (i' := 77) (fun _ _ => aw_getf K (dOf ck_mX3_findAdded rfl rfl) rfl rfl (Nat.le_of_ble_eq_true rfl) wd_420 (k := 2) rfl) ?_
    refine gl (i' := 78) (fun _ _ => aw_iconst K (n := 0) (i32 _ rfl) (dOf ck_mX3_findAdded rfl rfl)) ?_
    refine g_callVIM K [.inl _] rfl (dOf ck_mX3_findAdded rfl rfl) al_OneBreath_Mender_79 rfl rfl ⟨wd_827, wd_828⟩ rfl (Nat.le_of_ble_eq_true rfl) ⟨Nat.le_of_ble_eq_true rfl, Nat.le_of_ble_eq_true rfl⟩ (fun b hb => met_Twins_shortest  hb) (fun r15 hr15 => ?_)
    refine gl (i' := 80) (fun _ _ => aw_iconst K (n := -1) (i32 _ rfl) (dOf ck_mX3_findAdded rfl rfl)) ?_
    refine g_icmp_ne K (dOf ck_mX3_findAdded rfl rfl) (t := 90) (aJ_of (by decide +kernel)) (fun h16 => ?_) (fun h16 => ?_)
    · refine gl (i' := 82) (fun _ _ => aw_aload_n K (dOf ck_mX3_findAdded rfl rfl) rfl) ?_
      refine gl (i' := 83) (fun _ _ => aw_aload_n K (dOf ck_mX3_findAdded rfl rfl) rfl) ?_
      refine gl (i' := 84) (fun _ _ => aw_getf K (dOf ck_mX3_findAdded rfl rfl) rfl rfl (Nat.le_of_ble_eq_true rfl) wd_421 (k := 3) rfl) ?_
      refine g_callVM K [.inr (.inr (.inl (some _)))] rfl (dOf ck_mX3_findAdded rfl rfl) al_OneBreath_Mender_118 (shS_0 hx2) rfl ⟨wd_722, wd_723⟩ rfl (Nat.le_of_ble_eq_true rfl) ⟨Nat.le_of_ble_eq_true rfl, Nat.le_of_ble_eq_true rfl⟩ (fun b hb => met_Sounds_become hx2 (by unfold okS; omega) hb) (fun r17 hr17 => ?_)
      refine gl (i' := 86) (fun _ _ => aw_aload_n K (dOf ck_mX3_findAdded rfl rfl) rfl) ?_
      refine gl (i' := 87) (fun _ _ => aw_getf K (dOf ck_mX3_findAdded rfl rfl) rfl rfl (Nat.le_of_ble_eq_true rfl) wd_428 (k := 9) rfl) ?_
      refine gl (i' := 88) (fun _ _ => aw_iload_n K (dOf ck_mX3_findAdded rfl rfl) rfl) ?_
      refine gl (i' := 89) (fun _ _ => aw_iload K (dOf ck_mX3_findAdded rfl rfl) rfl) ?_
      refine g_gd (fun hb18 => ?_)
      refine g_st1 ?_
      refine gl (i' := 90) (fun _ _ => aw_iast K (dOf ck_mX3_findAdded rfl rfl) rfl hb18) ?_
      refine g_sub [0, 1, 2, 3, 4, 5] rfl ?_
      exact lk_Mender_findAdded_90 K _ _ _ _ hx2 _ hk34 _ hk45 _
    · refine g_sub [0, 1, 2, 3, 4, 5] rfl ?_
      exact lk_Mender_findAdded_90 K _ _ _ _ hx2 _ hk34 _ hk45 _
def Mender_findAdded_45 (k34 : Int → Int → aM → Option aM) (x1 : Int) (x2 : Nat) (x3 : Int) (x4 : Int) : Nat → Int → aM → Option aM
  | 0, _, _ => none
  | n + 1, x5, mm => if x5 < x3 then ((Mender_spellNumber x5 x4 mm).bind fun r9 => ((Mender_leastUnlike r9).bind fun r10 => (if (r10.2 x2 1) = 0 then (Mender_findAdded_64 k34 (Mender_findAdded_45 k34 x1 x2 x3 x4 n) x1 x2 x3 x4 x5 r10.1 r10.2) else (if 0 ≤ x1 ∧ x1 < 4 then (if (r10.2 111 x1.toNat) < r10.1 then (Mender_findAdded_64 k34 (Mender_findAdded_45 k34 x1 x2 x3 x4 n) x1 x2 x3 x4 x5 r10.1 r10.2) else (Mender_findAdded_90 k34 (Mender_findAdded_45 k34 x1 x2 x3 x4 n) x1 x2 x3 x4 x5 r10.2)) else none)))) else (k34 x3 (w32 (x4 + 1)) mm)
set_option maxHeartbeats 4000000 in
theorem lk_Mender_findAdded_45 {p : Program} {l : Launch} {e : Env} {s : State} {m : MethodId} {args : Array Value} {below : List Frame} {meth : Method} {c : Code} {D : va_G} {cA : FieldType → ClassId} {ad adV : Nat → Nat} {z0 : Nat} {al0 : List Nat} (K : aK p s m args meth c mX3_findAdded D cA ad adV z0) {x2 : Nat} (x1 : Int) (x3 : Int) (x4 : Int) (hx2 : okS x2) (k34 : Int → Int → aM → Option aM) (hk34 : ∀ (x3 : Int) (x4 : Int) (mm : aM), aG p l e { frames := 5, cells := 0, slots := 0, locals := 133 } s m args below meth c D cA ad z0 mX3_findAdded al0 rM (k34 x3 x4 mm) 34 [(0, .inr (.inr (.inl (some 79)))), (1, .inl x1), (2, .inr (.inr (.inl (some x2)))), (3, .inl x3), (4, .inl x4)] [] mm)  : ∀ (n : Nat) (x5 : Int) (mm : aM), aG p l e { frames := 5, cells := 0, slots := 0, locals := 133 } s m args below meth c D cA ad z0 mX3_findAdded al0 rM (Mender_findAdded_45 k34 x1 x2 x3 x4 n x5 mm) 45 [(0, .inr (.inr (.inl (some 79)))), (1, .inl x1), (2, .inr (.inr (.inl (some x2)))), (3, .inl x3), (4, .inl x4), (5, .inl x5)] [] mm := by
  intro n
  induction n with
  | zero => intro x5 mm; exact g_none
  | succ n ih =>
    intro x5 mm
    rw [Mender_findAdded_45]
    refine gl (i' := 46) (fun _ _ => aw_iload K (dOf ck_mX3_findAdded rfl rfl) rfl) ?_
    refine gl (i' := 47) (fun _ _ => aw_iload_n K (dOf ck_mX3_findAdded rfl rfl) rfl) ?_
    refine g_icmp_ge K (dOf ck_mX3_findAdded rfl rfl) (t := 92) (aJ_of (by decide +kernel)) (fun h8 => ?_) (fun h8 => ?_)
    · refine gl (i' := 49) (fun _ _ => aw_aload_n K (dOf ck_mX3_findAdded rfl rfl) rfl) ?_
      refine gl (i' := 50) (fun _ _ => aw_iload K (dOf ck_mX3_findAdded rfl rfl) rfl) ?_
      refine gl (i' := 51) (fun _ _ => aw_iload K (dOf ck_mX3_findAdded rfl rfl) rfl) ?_
      refine g_callVM K [.inl _, .inl _] rfl (dOf ck_mX3_findAdded rfl rfl) al_OneBreath_Mender_103 rfl rfl ⟨wd_954, wd_51⟩ rfl (Nat.le_of_ble_eq_true rfl) ⟨Nat.le_of_ble_eq_true rfl, Nat.le_of_ble_eq_true rfl⟩ (fun b hb => met_Mender_spellNumber  hb) (fun r9 hr9 => ?_)
      refine gl (i' := 53) (fun _ _ => aw_aload_n K (dOf ck_mX3_findAdded rfl rfl) rfl) ?_
      refine g_callVIM K [] rfl (dOf ck_mX3_findAdded rfl rfl) al_OneBreath_Mender_107 rfl rfl ⟨wd_964, wd_52⟩ rfl (Nat.le_of_ble_eq_true rfl) ⟨Nat.le_of_ble_eq_true rfl, Nat.le_of_ble_eq_true rfl⟩ (fun b hb => met_Mender_leastUnlike  hb) (fun r10 hr10 => ?_)
      refine gl (i' := 55) (fun _ _ => aw_istore K (dOf ck_mX3_findAdded rfl rfl) (Nat.le_of_ble_eq_true rfl)) ?_
      refine g_lv (lv' := [(6, .inl _), (0, .inr (.inr (.inl (some _)))), (1, .inl _), (2, .inr (.inr (.inl (some _)))), (3, .inl _), (4, .inl _), (5, .inl _)]) rfl ?_
      refine gl (i' := 56) (fun _ _ => aw_aload_n K (dOf ck_mX3_findAdded rfl rfl) rfl) ?_
      refine gl (i' := 57) (fun _ _ => aw_getf K (dOf ck_mX3_findAdded rfl rfl) (shS_0 hx2) rfl (Nat.le_of_ble_eq_true rfl) wd_305 (k := 1) rfl) ?_
      refine g_if_eq K (dOf ck_mX3_findAdded rfl rfl) (t := 64) (aJ_of (by decide +kernel)) (fun h11 => ?_) (fun h11 => ?_)
      · refine g_sub [1, 2, 3, 4, 5, 6, 0] rfl ?_
        exact lk_Mender_findAdded_64 K _ _ _ _ _ hx2 _ hk34 _ ih _
      · refine gl (i' := 59) (fun _ _ => aw_iload K (dOf ck_mX3_findAdded rfl rfl) rfl) ?_
        refine gl (i' := 60) (fun _ _ => aw_aload_n K (dOf ck_mX3_findAdded rfl rfl) rfl) ?_
        refine gl (i' := 61) (fun _ _ => aw_getf K (dOf ck_mX3_findAdded rfl rfl) rfl rfl (Nat.le_of_ble_eq_true rfl) wd_428 (k := 9) rfl) ?_
        refine gl (i' := 62) (fun _ _ => aw_iload_n K (dOf ck_mX3_findAdded rfl rfl) rfl) ?_
        refine g_gd (fun hb20 => ?_)
        refine gl (i' := 63) (fun _ _ => aw_iald K (dOf ck_mX3_findAdded rfl rfl) rfl hb20) ?_
        refine g_icmp_le K (dOf ck_mX3_findAdded rfl rfl) (t := 90) (aJ_of (by decide +kernel)) (fun h21 => ?_) (fun h21 => ?_)
        · refine g_sub [1, 2, 3, 4, 5, 6, 0] rfl ?_
          exact lk_Mender_findAdded_64 K _ _ _ _ _ hx2 _ hk34 _ ih _
        · refine g_sub [1, 2, 3, 4, 5, 6] rfl ?_
          exact lk_Mender_findAdded_90 K _ _ _ _ hx2 _ hk34 _ ih _
    · refine gl (i' := 93) (fun _ _ => aw_iinc K (dOf ck_mX3_findAdded rfl rfl) (Nat.le_of_ble_eq_true rfl) rfl) ?_
      refine g_lv (lv' := [(4, .inl _), (0, .inr (.inr (.inl (some _)))), (1, .inl _), (2, .inr (.inr (.inl (some _)))), (3, .inl _), (5, .inl _)]) rfl ?_
      refine g_goto K (dOf ck_mX3_findAdded rfl rfl).1 (t := 34) (aJ_of (by decide +kernel)) ?_
      refine g_sub [1, 2, 3, 4, 0] rfl ?_
      exact hk34 _ _ _
def Mender_findAdded_34 (x1 : Int) (x2 : Nat) : Nat → Int → Int → aM → Option aM
  | 0, _, _, _ => none
  | n + 1, x3, x4, mm => if 3 < x4 then (some mm) else (Mender_findAdded_45 (Mender_findAdded_34 x1 x2 n) x1 x2 (w32 (x3 * (mm 25 1))) x4 FU 0 mm)
set_option maxHeartbeats 4000000 in
theorem lk_Mender_findAdded_34 {p : Program} {l : Launch} {e : Env} {s : State} {m : MethodId} {args : Array Value} {below : List Frame} {meth : Method} {c : Code} {D : va_G} {cA : FieldType → ClassId} {ad adV : Nat → Nat} {z0 : Nat} {al0 : List Nat} (K : aK p s m args meth c mX3_findAdded D cA ad adV z0) {x2 : Nat} (x1 : Int) (hx2 : okS x2)  : ∀ (n : Nat) (x3 : Int) (x4 : Int) (mm : aM), aG p l e { frames := 5, cells := 0, slots := 0, locals := 133 } s m args below meth c D cA ad z0 mX3_findAdded al0 rM (Mender_findAdded_34 x1 x2 n x3 x4 mm) 34 [(0, .inr (.inr (.inl (some 79)))), (1, .inl x1), (2, .inr (.inr (.inl (some x2)))), (3, .inl x3), (4, .inl x4)] [] mm := by
  intro n
  induction n with
  | zero => intro x3 x4 mm; exact g_none
  | succ n ih =>
    intro x3 x4 mm
    rw [Mender_findAdded_34]
    refine gl (i' := 35) (fun _ _ => aw_iload K (dOf ck_mX3_findAdded rfl rfl) rfl) ?_
    refine gl (i' := 36) (fun _ _ => aw_iconst K (n := 3) (i32 _ rfl) (dOf ck_mX3_findAdded rfl rfl)) ?_
    refine g_icmp_gt K (dOf ck_mX3_findAdded rfl rfl) (t := 94) (aJ_of (by decide +kernel)) (fun h7 => ?_) (fun h7 => ?_)
    · exact g_vret K (by decide +kernel) rfl rfl
    · refine gl (i' := 38) (fun _ _ => aw_iload_n K (dOf ck_mX3_findAdded rfl rfl) rfl) ?_
      refine gl (i' := 39) (fun _ _ => aw_aload_n K (dOf ck_mX3_findAdded rfl rfl) rfl) ?_
      refine gl (i' := 40) (fun _ _ => aw_getf K (dOf ck_mX3_findAdded rfl rfl) rfl rfl (Nat.le_of_ble_eq_true rfl) wd_418 (k := 0) rfl) ?_
      refine gl (i' := 41) (fun _ _ => aw_getf K (dOf ck_mX3_findAdded rfl rfl) rfl rfl (Nat.le_of_ble_eq_true rfl) wd_194 (k := 1) rfl) ?_
      refine gl (i' := 42) (fun _ _ => aw_imul K (dOf ck_mX3_findAdded rfl rfl)) ?_
      refine gl (i' := 43) (fun _ _ => aw_istore_n K (dOf ck_mX3_findAdded rfl rfl) (Nat.le_of_ble_eq_true rfl)) ?_
      refine g_lv (lv' := [(3, .inl _), (0, .inr (.inr (.inl (some _)))), (1, .inl _), (2, .inr (.inr (.inl (some _)))), (4, .inl _)]) rfl ?_
      refine gl (i' := 44) (fun _ _ => aw_iconst K (n := 0) (i32 _ rfl) (dOf ck_mX3_findAdded rfl rfl)) ?_
      refine gl (i' := 45) (fun _ _ => aw_istore K (dOf ck_mX3_findAdded rfl rfl) (Nat.le_of_ble_eq_true rfl)) ?_
      refine g_lv (lv' := [(5, .inl _), (3, .inl _), (0, .inr (.inr (.inl (some _)))), (1, .inl _), (2, .inr (.inr (.inl (some _)))), (4, .inl _)]) rfl ?_
      refine g_sub [2, 3, 4, 1, 5, 0] rfl ?_
      exact lk_Mender_findAdded_45 K _ _ _ hx2 _ ih FU _ _
def Mender_findAdded (x1 : Int) (mm : aM) : Option aM := if 0 ≤ x1 ∧ x1 < 4 then (if (mm 109 x1.toNat) = 0 then (st1 (aup mm 109 x1.toNat 1) fun mm3 => (st1 (aup mm3 (112 + 2 * x1.toNat) 1 0) fun mm4 => (st1 (aup mm4 111 x1.toNat (-1)) fun mm5 => ((Twins_load 0 mm5).bind fun r6 => (Mender_findAdded_34 x1 (112 + 2 * x1.toNat) FU 1 1 r6))))) else (some mm)) else none
set_option maxHeartbeats 4000000 in
theorem met_Mender_findAdded {l : Launch} {D : va_G} {cA : FieldType → ClassId} {ad adV : Nat → Nat} {z0 : Nat} {x1 : Int} {mm : aM}  {r : aM} (h : Mender_findAdded x1 mm = some r) : aMet l D cA ad adV z0 mX3_findAdded 5 133 0 0 [.inr (.inr (.inl (some 79))), .inl x1] SH mm (rM r).1 SH (rM r).2 := by
  refine aMet_ofG (by decide +kernel) rfl (Nat.le_of_ble_eq_true rfl) h (fun p e s m args below meth c al0 K => ?_)
  unfold Mender_findAdded
  refine gl (i' := 1) (fun _ _ => aw_aload_n K (dOf ck_mX3_findAdded rfl rfl) rfl) ?_
  refine gl (i' := 2) (fun _ _ => aw_getf K (dOf ck_mX3_findAdded rfl rfl) rfl rfl (Nat.le_of_ble_eq_true rfl) wd_425 (k := 7) rfl) ?_
  refine gl (i' := 3) (fun _ _ => aw_iload_n K (dOf ck_mX3_findAdded rfl rfl) rfl) ?_
  refine g_gd (fun hb1 => ?_)
  refine gl (i' := 4) (fun _ _ => aw_zald K (dOf ck_mX3_findAdded rfl rfl) rfl hb1) ?_
  refine g_if_eq K (dOf ck_mX3_findAdded rfl rfl) (t := 6) (aJ_of (by decide +kernel)) (fun h2 => ?_) (fun h2 => ?_)
  · refine gl (i' := 7) (fun _ _ => aw_aload_n K (dOf ck_mX3_findAdded rfl rfl) rfl) ?_
    refine gl (i' := 8) (fun _ _ => aw_getf K (dOf ck_mX3_findAdded rfl rfl) rfl rfl (Nat.le_of_ble_eq_true rfl) wd_425 (k := 7) rfl) ?_
    refine gl (i' := 9) (fun _ _ => aw_iload_n K (dOf ck_mX3_findAdded rfl rfl) rfl) ?_
    refine gl (i' := 10) (fun _ _ => aw_iconst K (n := 1) (i32 _ rfl) (dOf ck_mX3_findAdded rfl rfl)) ?_
    refine g_st1 ?_
    refine gl (i' := 11) (fun _ _ => aw_zast K (dOf ck_mX3_findAdded rfl rfl) rfl hb1 (Or.inr rfl)) ?_
    refine gl (i' := 12) (fun _ _ => aw_aload_n K (dOf ck_mX3_findAdded rfl rfl) rfl) ?_
    refine gl (i' := 13) (fun _ _ => aw_getf K (dOf ck_mX3_findAdded rfl rfl) rfl rfl (Nat.le_of_ble_eq_true rfl) wd_426 (k := 8) rfl) ?_
    refine gl (i' := 14) (fun _ _ => aw_iload_n K (dOf ck_mX3_findAdded rfl rfl) rfl) ?_
    refine gl (i' := 15) (fun _ _ => aw_aald K (dOf ck_mX3_findAdded rfl rfl) shAa hb1 (rsA_at hb1)) ?_
    refine gl (i' := 16) (fun _ _ => aw_astore_n K (dOf ck_mX3_findAdded rfl rfl) (Nat.le_of_ble_eq_true rfl)) ?_
    refine g_lv (lv' := [(2, .inr (.inr (.inl (some _)))), (0, .inr (.inr (.inl (some _)))), (1, .inl _)]) rfl ?_
    refine gl (i' := 17) (fun _ _ => aw_aload_n K (dOf ck_mX3_findAdded rfl rfl) rfl) ?_
    refine gl (i' := 18) (fun _ _ => aw_iconst K (n := 0) (i32 _ rfl) (dOf ck_mX3_findAdded rfl rfl)) ?_
    refine g_st1 ?_
    refine gl (i' := 19) (fun _ _ => aw_putf K (dOf ck_mX3_findAdded rfl rfl) (shS_0 (okS_A hb1)) rfl (Nat.le_of_ble_eq_true rfl) wd_305 (k := 1) rfl rfl (Or.inl rfl)) ?_
    refine gl (i' := 20) (fun _ _ => aw_aload_n K (dOf ck_mX3_findAdded rfl rfl) rfl) ?_
    refine gl (i' := 21) (fun _ _ => aw_getf K (dOf ck_mX3_findAdded rfl rfl) rfl rfl (Nat.le_of_ble_eq_true rfl) wd_428 (k := 9) rfl) ?_
    refine gl (i' := 22) (fun _ _ => aw_iload_n K (dOf ck_mX3_findAdded rfl rfl) rfl) ?_
    refine gl (i' := 23) (fun _ _ => aw_iconst K (n := -1) (i32 _ rfl) (dOf ck_mX3_findAdded rfl rfl)) ?_
    refine g_st1 ?_
    refine gl (i' := 24) (fun _ _ => aw_iast K (dOf ck_mX3_findAdded rfl rfl) rfl hb1) ?_
    refine gl (i' := 25) (fun _ _ => aw_aload_n K (dOf ck_mX3_findAdded rfl rfl) rfl) ?_
    refine gl (i' := 26) (fun _ _ => aw_getf K (dOf ck_mX3_findAdded rfl rfl) rfl rfl (Nat.le_of_ble_eq_true rfl) wd_420 (k := 2) rfl) ?_
    refine gl (i' := 27) (fun _ _ => aw_aload_n K (dOf ck_mX3_findAdded rfl rfl) rfl) ?_
    refine gl (i' := 28) (fun _ _ => aw_getf K (dOf ck_mX3_findAdded rfl rfl) rfl rfl (Nat.le_of_ble_eq_true rfl) wd_418 (k := 0) rfl) ?_
    refine gl (i' := 29) (fun _ _ => aw_iconst K (n := 0) (i32 _ rfl) (dOf ck_mX3_findAdded rfl rfl)) ?_
    refine g_callVM K [.inr (.inr (.inl (some _))), .inl _] rfl (dOf ck_mX3_findAdded rfl rfl) al_OneBreath_Mender_75 rfl rfl ⟨wd_818, wd_819⟩ rfl (Nat.le_of_ble_eq_true rfl) ⟨Nat.le_of_ble_eq_true rfl, Nat.le_of_ble_eq_true rfl⟩ (fun b hb => met_Twins_load  hb) (fun r6 hr6 => ?_)
    refine gl (i' := 31) (fun _ _ => aw_iconst K (n := 1) (i32 _ rfl) (dOf ck_mX3_findAdded rfl rfl)) ?_
    refine gl (i' := 32) (fun _ _ => aw_istore_n K (dOf ck_mX3_findAdded rfl rfl) (Nat.le_of_ble_eq_true rfl)) ?_
    refine g_lv (lv' := [(3, .inl _), (2, .inr (.inr (.inl (some _)))), (0, .inr (.inr (.inl (some _)))), (1, .inl _)]) rfl ?_
    refine gl (i' := 33) (fun _ _ => aw_iconst K (n := 1) (i32 _ rfl) (dOf ck_mX3_findAdded rfl rfl)) ?_
    refine gl (i' := 34) (fun _ _ => aw_istore K (dOf ck_mX3_findAdded rfl rfl) (Nat.le_of_ble_eq_true rfl)) ?_
    refine g_lv (lv' := [(4, .inl _), (3, .inl _), (2, .inr (.inr (.inl (some _)))), (0, .inr (.inr (.inl (some _)))), (1, .inl _)]) rfl ?_
    refine g_sub [3, 4, 2, 1, 0] rfl ?_
    exact lk_Mender_findAdded_34 K _ (okS_A hb1) FU _ _ _
  · exact g_vret K (dOf ck_mX3_findAdded rfl rfl).1 rfl rfl
