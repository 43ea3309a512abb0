def B_added_22 (x1 : Int) (x2 : Int) (mm : aM) : Option (Int × aM) := (Mender_findAdded x1 mm).bind fun r5 => (if 0 ≤ x1 ∧ x1 < 4 then (if (r5 (112 + 2 * x1.toNat) 1) = 0 then (some ((-1), r5)) else (if x2 = 0 then (some (r5 (112 + 2 * x1.toNat) 1, r5)) else (if x2 = 1 then (some (r5 111 x1.toNat, r5)) else (if (w32 (x2 - 10)) < (r5 (112 + 2 * x1.toNat) 1) then (if 0 ≤ (w32 (x2 - 10)) ∧ (w32 (x2 - 10)) < 40 then (some (r5 ((112 + 2 * x1.toNat) + 1) (w32 (x2 - 10)).toNat, r5)) else none) else (some ((-1), r5)))))) else none)
set_option maxHeartbeats 4000000 in
theorem lk_B_added_22 {p : Program} {l : Launch} {e : Env} {s : State} {m : MethodId} {args : Array Value} {below : List Frame} {meth : Method} {c : Code} {D : va_G} {cA : FieldType → ClassId} {ad adV : Nat → Nat} {z0 : Nat} {al0 : List Nat} (K : aK p s m args meth c mX11_added D cA ad adV z0) (x1 : Int) (x2 : Int)  (mm : aM) : aG p l e { frames := 6, cells := 0, slots := 0, locals := 159 } s m args below meth c D cA ad z0 mX11_added al0 rIM (B_added_22 x1 x2 mm) 22 [(0, .inr (.inr (.inl (some 0)))), (1, .inl x1), (2, .inl x2)] [] mm := by
  unfold B_added_22
  refine gl (i' := 23) (fun _ _ => aw_aload_n K (dOf ck_mX11_added rfl rfl) rfl) ?_
  refine gl (i' := 24) (fun _ _ => aw_getf K (dOf ck_mX11_added rfl rfl) rfl rfl (Nat.le_of_ble_eq_true rfl) wd_470 (k := 10) rfl) ?_
  refine gl (i' := 25) (fun _ _ => aw_iload_n K (dOf ck_mX11_added rfl rfl) rfl) ?_
  refine g_callVM K [.inl _] rfl (dOf ck_mX11_added rfl rfl) al_OneBreath_268 rfl rfl ⟨wd_950, wd_951⟩ rfl (Nat.le_of_ble_eq_true rfl) ⟨Nat.le_of_ble_eq_true rfl, Nat.le_of_ble_eq_true rfl⟩ (fun b hb => met_Mender_findAdded  hb) (fun r5 hr5 => ?_)
  refine gl (i' := 27) (fun _ _ => aw_aload_n K (dOf ck_mX11_added rfl rfl) rfl) ?_
  refine gl (i' := 28) (fun _ _ => aw_getf K (dOf ck_mX11_added rfl rfl) rfl rfl (Nat.le_of_ble_eq_true rfl) wd_470 (k := 10) rfl) ?_
  refine gl (i' := 29) (fun _ _ => aw_getf K (dOf ck_mX11_added rfl rfl) rfl rfl (Nat.le_of_ble_eq_true rfl) wd_427 (k := 8) rfl) ?_
  refine gl (i' := 30) (fun _ _ => aw_iload_n K (dOf ck_mX11_added rfl rfl) rfl) ?_
  refine g_gd (fun hb6 => ?_)
  refine gl (i' := 31) (fun _ _ => aw_aald K (dOf ck_mX11_added rfl rfl) shAa hb6 (rsA_at hb6)) ?_
  refine gl (i' := 32) (fun _ _ => aw_astore K (dOf ck_mX11_added rfl rfl) (Nat.le_of_ble_eq_true rfl)) ?_
  refine g_lv (lv' := [(4, .inr (.inr (.inl (some _)))), (0, .inr (.inr (.inl (some _)))), (1, .inl _), (2, .inl _)]) rfl ?_
  refine gl (i' := 33) (fun _ _ => aw_aload K (dOf ck_mX11_added rfl rfl) rfl) ?_
  refine gl (i' := 34) (fun _ _ => aw_getf K (dOf ck_mX11_added rfl rfl) (shS_0 (okS_A hb6)) rfl (Nat.le_of_ble_eq_true rfl) wd_303 (k := 1) rfl) ?_
  refine g_if_ne K (dOf ck_mX11_added rfl rfl) (t := 37) (aJ_of (by decide +kernel)) (fun h7 => ?_) (fun h7 => ?_)
  · refine gl (i' := 36) (fun _ _ => aw_iconst K (n := -1) (i32 _ rfl) (dOf ck_mX11_added rfl rfl)) ?_
    exact g_iret K (dOf ck_mX11_added rfl rfl).1 rfl (Or.inl rfl) rfl
  · refine gl (i' := 38) (fun _ _ => aw_iload_n K (dOf ck_mX11_added rfl rfl) rfl) ?_
    refine g_if_ne K (dOf ck_mX11_added rfl rfl) (t := 42) (aJ_of (by decide +kernel)) (fun h8 => ?_) (fun h8 => ?_)
    · refine gl (i' := 40) (fun _ _ => aw_aload K (dOf ck_mX11_added rfl rfl) rfl) ?_
      refine gl (i' := 41) (fun _ _ => aw_getf K (dOf ck_mX11_added rfl rfl) (shS_0 (okS_A hb6)) rfl (Nat.le_of_ble_eq_true rfl) wd_303 (k := 1) rfl) ?_
      exact g_iret K (dOf ck_mX11_added rfl rfl).1 rfl (Or.inl rfl) rfl
    · refine gl (i' := 43) (fun _ _ => aw_iload_n K (dOf ck_mX11_added rfl rfl) rfl) ?_
      refine gl (i' := 44) (fun _ _ => aw_iconst K (n := 1) (i32 _ rfl) (dOf ck_mX11_added rfl rfl)) ?_
      refine g_icmp_ne K (dOf ck_mX11_added rfl rfl) (t := 51) (aJ_of (by decide +kernel)) (fun h9 => ?_) (fun h9 => ?_)
      · refine gl (i' := 46) (fun _ _ => aw_aload_n K (dOf ck_mX11_added rfl rfl) rfl) ?_
        refine gl (i' := 47) (fun _ _ => aw_getf K (dOf ck_mX11_added rfl rfl) rfl rfl (Nat.le_of_ble_eq_true rfl) wd_470 (k := 10) rfl) ?_
        refine gl (i' := 48) (fun _ _ => aw_getf K (dOf ck_mX11_added rfl rfl) rfl rfl (Nat.le_of_ble_eq_true rfl) wd_429 (k := 9) rfl) ?_
        refine gl (i' := 49) (fun _ _ => aw_iload_n K (dOf ck_mX11_added rfl rfl) rfl) ?_
        refine gl (i' := 50) (fun _ _ => aw_iald K (dOf ck_mX11_added rfl rfl) rfl hb6) ?_
        exact g_iret K (dOf ck_mX11_added rfl rfl).1 rfl (Or.inl rfl) rfl
      · refine gl (i' := 52) (fun _ _ => aw_iload_n K (dOf ck_mX11_added rfl rfl) rfl) ?_
        refine gl (i' := 53) (fun _ _ => aw_bip K (dOf ck_mX11_added rfl rfl) (v := 10) rfl) ?_
        refine gl (i' := 54) (fun _ _ => aw_isub K (dOf ck_mX11_added rfl rfl)) ?_
        refine gl (i' := 55) (fun _ _ => aw_istore K (dOf ck_mX11_added rfl rfl) (Nat.le_of_ble_eq_true rfl)) ?_
        refine g_lv (lv' := [(5, .inl _), (4, .inr (.inr (.inl (some _)))), (0, .inr (.inr (.inl (some _)))), (1, .inl _), (2, .inl _)]) rfl ?_
        refine gl (i' := 56) (fun _ _ => aw_iload K (dOf ck_mX11_added rfl rfl) rfl) ?_
        refine gl (i' := 57) (fun _ _ => aw_aload K (dOf ck_mX11_added rfl rfl) rfl) ?_
        refine gl (i' := 58) (fun _ _ => aw_getf K (dOf ck_mX11_added rfl rfl) (shS_0 (okS_A hb6)) rfl (Nat.le_of_ble_eq_true rfl) wd_303 (k := 1) rfl) ?_
        refine g_icmp_ge K (dOf ck_mX11_added rfl rfl) (t := 64) (aJ_of (by decide +kernel)) (fun h10 => ?_) (fun h10 => ?_)
        · refine gl (i' := 60) (fun _ _ => aw_aload K (dOf ck_mX11_added rfl rfl) rfl) ?_
          refine gl (i' := 61) (fun _ _ => aw_getf K (dOf ck_mX11_added rfl rfl) (shS_0 (okS_A hb6)) rfl (Nat.le_of_ble_eq_true rfl) wd_298 (k := 0) rfl) ?_
          refine gl (i' := 62) (fun _ _ => aw_iload K (dOf ck_mX11_added rfl rfl) rfl) ?_
          refine g_gd (fun hb11 => ?_)
          refine gl (i' := 63) (fun _ _ => aw_bald K (dOf ck_mX11_added rfl rfl) (shS_1 (okS_A hb6)) hb11) ?_
          refine g_goto K (dOf ck_mX11_added rfl rfl).1 (t := 65) (aJ_of (by decide +kernel)) ?_
          exact g_iret K (by decide +kernel) rfl (Or.inl rfl) rfl
        · refine gl (i' := 65) (fun _ _ => aw_iconst K (n := -1) (i32 _ rfl) (dOf ck_mX11_added rfl rfl)) ?_
          exact g_iret K (by decide +kernel) rfl (Or.inl rfl) rfl
def B_added_9 (x1 : Int) (x2 : Int) (s0 : Int) (mm : aM) : Option (Int × aM) := (B_isKind x1 mm).bind fun r2 => (if r2 = 0 then (some ((-2), mm)) else (if x2 = 0 then (B_added_22 x1 x2 mm) else (if x2 = 1 then (B_added_22 x1 x2 mm) else (if s0 = 0 then (some ((-2), mm)) else (B_added_22 x1 x2 mm)))))
set_option maxHeartbeats 4000000 in
theorem lk_B_added_9 {p : Program} {l : Launch} {e : Env} {s : State} {m : MethodId} {args : Array Value} {below : List Frame} {meth : Method} {c : Code} {D : va_G} {cA : FieldType → ClassId} {ad adV : Nat → Nat} {z0 : Nat} {al0 : List Nat} (K : aK p s m args meth c mX11_added D cA ad adV z0) (x1 : Int) (x2 : Int)  (s0 : Int) (mm : aM) : aG p l e { frames := 6, cells := 0, slots := 0, locals := 159 } s m args below meth c D cA ad z0 mX11_added al0 rIM (B_added_9 x1 x2 s0 mm) 9 [(0, .inr (.inr (.inl (some 0)))), (1, .inl x1), (2, .inl x2)] [.inl s0] mm := by
  unfold B_added_9
  refine gl (i' := 10) (fun _ _ => aw_istore_n K (dOf ck_mX11_added rfl rfl) (Nat.le_of_ble_eq_true rfl)) ?_
  refine g_lv (lv' := [(3, .inl _), (0, .inr (.inr (.inl (some _)))), (1, .inl _), (2, .inl _)]) rfl ?_
  refine gl (i' := 11) (fun _ _ => aw_iload_n K (dOf ck_mX11_added rfl rfl) rfl) ?_
  refine g_callSI K [.inl _] rfl (dOf ck_mX11_added rfl rfl) al_OneBreath_179 wd_645 rfl (Nat.le_of_ble_eq_true rfl) ⟨Nat.le_of_ble_eq_true rfl, Nat.le_of_ble_eq_true rfl⟩ (fun b hb => met_B_isKind  hb) (fun r2 hr2 => ?_)
  refine g_if_eq K (dOf ck_mX11_added rfl rfl) (t := 20) (aJ_of (by decide +kernel)) (fun h3 => ?_) (fun h3 => ?_)
  · refine gl (i' := 21) (fun _ _ => aw_bip K (dOf ck_mX11_added rfl rfl) (v := -2) rfl) ?_
    exact g_iret K (dOf ck_mX11_added rfl rfl).1 rfl (Or.inl rfl) rfl
  · refine gl (i' := 14) (fun _ _ => aw_iload_n K (dOf ck_mX11_added rfl rfl) rfl) ?_
    refine g_if_eq K (dOf ck_mX11_added rfl rfl) (t := 22) (aJ_of (by decide +kernel)) (fun h4 => ?_) (fun h4 => ?_)
    · refine g_sub [1, 2, 3] rfl ?_
      exact lk_B_added_22 K _ _ _
    · refine gl (i' := 16) (fun _ _ => aw_iload_n K (dOf ck_mX11_added rfl rfl) rfl) ?_
      refine gl (i' := 17) (fun _ _ => aw_iconst K (n := 1) (i32 _ rfl) (dOf ck_mX11_added rfl rfl)) ?_
      refine g_icmp_eq K (dOf ck_mX11_added rfl rfl) (t := 22) (aJ_of (by decide +kernel)) (fun h12 => ?_) (fun h12 => ?_)
      · refine g_sub [1, 2, 3] rfl ?_
        exact lk_B_added_22 K _ _ _
      · refine gl (i' := 19) (fun _ _ => aw_iload_n K (dOf ck_mX11_added rfl rfl) rfl) ?_
        refine g_if_ne K (dOf ck_mX11_added rfl rfl) (t := 22) (aJ_of (by decide +kernel)) (fun h13 => ?_) (fun h13 => ?_)
        · refine gl (i' := 21) (fun _ _ => aw_bip K (dOf ck_mX11_added rfl rfl) (v := -2) rfl) ?_
          exact g_iret K (dOf ck_mX11_added rfl rfl).1 rfl (Or.inl rfl) rfl
        · refine g_sub [1, 2, 3] rfl ?_
          exact lk_B_added_22 K _ _ _
def B_added_8 (x1 : Int) (x2 : Int) (mm : aM) : Option (Int × aM) := B_added_9 x1 x2 0 mm
set_option maxHeartbeats 4000000 in
theorem lk_B_added_8 {p : Program} {l : Launch} {e : Env} {s : State} {m : MethodId} {args : Array Value} {below : List Frame} {meth : Method} {c : Code} {D : va_G} {cA : FieldType → ClassId} {ad adV : Nat → Nat} {z0 : Nat} {al0 : List Nat} (K : aK p s m args meth c mX11_added D cA ad adV z0) (x1 : Int) (x2 : Int)  (mm : aM) : aG p l e { frames := 6, cells := 0, slots := 0, locals := 159 } s m args below meth c D cA ad z0 mX11_added al0 rIM (B_added_8 x1 x2 mm) 8 [(0, .inr (.inr (.inl (some 0)))), (1, .inl x1), (2, .inl x2)] [] mm := by
  unfold B_added_8
  refine gl (i' := 9) (fun _ _ => aw_iconst K (n := 0) (i32 _ rfl) (dOf ck_mX11_added rfl rfl)) ?_
  refine g_sub [0, 1, 2] rfl ?_
  exact lk_B_added_9 K _ _ _ _
def B_added (x1 : Int) (x2 : Int) (mm : aM) : Option (Int × aM) := if x2 < 10 then (B_added_8 x1 x2 mm) else (if x2 < 13 then (B_added_9 x1 x2 1 mm) else (B_added_8 x1 x2 mm))
set_option maxHeartbeats 4000000 in
theorem met_B_added {l : Launch} {D : va_G} {cA : FieldType → ClassId} {ad adV : Nat → Nat} {z0 : Nat} {x1 : Int} {x2 : Int} {mm : aM}  {r : Int × aM} (h : B_added x1 x2 mm = some r) : aMet l D cA ad adV z0 mX11_added 6 159 0 0 [.inr (.inr (.inl (some 0))), .inl x1, .inl x2] SH mm (rIM r).1 SH (rIM r).2 := by
  refine aMet_ofG (by decide +kernel) rfl (Nat.le_of_ble_eq_true rfl) h (fun p e s m args below meth c al0 K => ?_)
  unfold B_added
  refine gl (i' := 1) (fun _ _ => aw_iload_n K (dOf ck_mX11_added rfl rfl) rfl) ?_
  refine gl (i' := 2) (fun _ _ => aw_bip K (dOf ck_mX11_added rfl rfl) (v := 10) rfl) ?_
  refine g_icmp_lt K (dOf ck_mX11_added rfl rfl) (t := 8) (aJ_of (by decide +kernel)) (fun h1 => ?_) (fun h1 => ?_)
  · refine g_sub [0, 1, 2] rfl ?_
    exact lk_B_added_8 K _ _ _
  · refine gl (i' := 4) (fun _ _ => aw_iload_n K (dOf ck_mX11_added rfl rfl) rfl) ?_
    refine gl (i' := 5) (fun _ _ => aw_bip K (dOf ck_mX11_added rfl rfl) (v := 13) rfl) ?_
    refine g_icmp_ge K (dOf ck_mX11_added rfl rfl) (t := 8) (aJ_of (by decide +kernel)) (fun h14 => ?_) (fun h14 => ?_)
    · refine gl (i' := 7) (fun _ _ => aw_iconst K (n := 1) (i32 _ rfl) (dOf ck_mX11_added rfl rfl)) ?_
      refine g_goto K (dOf ck_mX11_added rfl rfl).1 (t := 9) (aJ_of (by decide +kernel)) ?_
      refine g_sub [0, 1, 2] rfl ?_
      exact lk_B_added_9 K _ _ _ _
    · refine g_sub [0, 1, 2] rfl ?_
      exact lk_B_added_8 K _ _ _
def Mender_isSureWith (x1 : Nat) (x2 : Int) (x3 : Int) (x4 : Int) (mm : aM) : Option (Int × aM) := (Twins_load 0 mm).bind fun r1 => ((Twins_putOneMore x1 x2 x3 r1).bind fun r2 => ((Twins_shortest x4 r2).bind fun r3 => (if r3.1 = (-1) then (some (1, r3.2)) else (some (0, r3.2)))))
set_option maxHeartbeats 4000000 in
theorem met_Mender_isSureWith {l : Launch} {D : va_G} {cA : FieldType → ClassId} {ad adV : Nat → Nat} {z0 : Nat} {x1 : Nat} {x2 : Int} {x3 : Int} {x4 : Int} {mm : aM} (hx1 : okB x1) {r : Int × aM} (h : Mender_isSureWith x1 x2 x3 x4 mm = some r) : aMet l D cA ad adV z0 mX3_isSureWith 5 133 0 0 [.inr (.inr (.inl (some 79))), .inr (.inr (.inl (some x1))), .inl x2, .inl x3, .inl x4] SH mm (rIM r).1 SH (rIM r).2 := by
  refine aMet_ofG (by decide +kernel) rfl (Nat.le_of_ble_eq_true rfl) h (fun p e s m args below meth c al0 K => ?_)
  unfold Mender_isSureWith
  refine gl (i' := 1) (fun _ _ => aw_aload_n K (dOf ck_mX3_isSureWith rfl rfl) rfl) ?_
  refine gl (i' := 2) (fun _ _ => aw_getf K (dOf ck_mX3_isSureWith rfl rfl) rfl rfl (Nat.le_of_ble_eq_true rfl) wd_420 (k := 2) rfl) ?_
  refine gl (i' := 3) (fun _ _ => aw_aload_n K (dOf ck_mX3_isSureWith rfl rfl) rfl) ?_
  refine gl (i' := 4) (fun _ _ => aw_getf K (dOf ck_mX3_isSureWith rfl rfl) rfl rfl (Nat.le_of_ble_eq_true rfl) wd_418 (k := 0) rfl) ?_
  refine gl (i' := 5) (fun _ _ => aw_iconst K (n := 0) (i32 _ rfl) (dOf ck_mX3_isSureWith rfl rfl)) ?_
  refine g_callVM K [.inr (.inr (.inl (some _))), .inl _] rfl (dOf ck_mX3_isSureWith rfl rfl) al_OneBreath_Mender_75 rfl rfl ⟨wd_818, wd_819⟩ rfl (Nat.le_of_ble_eq_true rfl) ⟨Nat.le_of_ble_eq_true rfl, Nat.le_of_ble_eq_true rfl⟩ (fun b hb => met_Twins_load  hb) (fun r1 hr1 => ?_)
  refine gl (i' := 7) (fun _ _ => aw_aload_n K (dOf ck_mX3_isSureWith rfl rfl) rfl) ?_
  refine gl (i' := 8) (fun _ _ => aw_getf K (dOf ck_mX3_isSureWith rfl rfl) rfl rfl (Nat.le_of_ble_eq_true rfl) wd_420 (k := 2) rfl) ?_
  refine gl (i' := 9) (fun _ _ => aw_aload_n K (dOf ck_mX3_isSureWith rfl rfl) rfl) ?_
  refine gl (i' := 10) (fun _ _ => aw_iload_n K (dOf ck_mX3_isSureWith rfl rfl) rfl) ?_
  refine gl (i' := 11) (fun _ _ => aw_iload_n K (dOf ck_mX3_isSureWith rfl rfl) rfl) ?_
  refine g_callVM K [.inr (.inr (.inl (some _))), .inl _, .inl _] rfl (dOf ck_mX3_isSureWith rfl rfl) al_OneBreath_Mender_91 rfl rfl ⟨wd_972, wd_973⟩ rfl (Nat.le_of_ble_eq_true rfl) ⟨Nat.le_of_ble_eq_true rfl, Nat.le_of_ble_eq_true rfl⟩ (fun b hb => met_Twins_putOneMore ⟨_, (okB_at hx1)⟩ hb) (fun r2 hr2 => ?_)
  refine gl (i' := 13) (fun _ _ => aw_aload_n K (dOf ck_mX3_isSureWith rfl rfl) rfl) ?_
  refine gl (i' := 14) (fun _ _ => aw_getf K (dOf ck_mX3_isSureWith rfl rfl) rfl rfl (Nat.le_of_ble_eq_true rfl) wd_420 (k := 2) rfl) ?_
  refine gl (i' := 15) (fun _ _ => aw_iload K (dOf ck_mX3_isSureWith rfl rfl) rfl) ?_
  refine g_callVIM K [.inl _] rfl (dOf ck_mX3_isSureWith rfl rfl) al_OneBreath_Mender_79 rfl rfl ⟨wd_827, wd_828⟩ rfl (Nat.le_of_ble_eq_true rfl) ⟨Nat.le_of_ble_eq_true rfl, Nat.le_of_ble_eq_true rfl⟩ (fun b hb => met_Twins_shortest  hb) (fun r3 hr3 => ?_)
  refine gl (i' := 17) (fun _ _ => aw_iconst K (n := -1) (i32 _ rfl) (dOf ck_mX3_isSureWith rfl rfl)) ?_
  refine g_icmp_ne K (dOf ck_mX3_isSureWith rfl rfl) (t := 20) (aJ_of (by decide +kernel)) (fun h4 => ?_) (fun h4 => ?_)
  · refine gl (i' := 19) (fun _ _ => aw_iconst K (n := 1) (i32 _ rfl) (dOf ck_mX3_isSureWith rfl rfl)) ?_
    refine g_goto K (dOf ck_mX3_isSureWith rfl rfl).1 (t := 21) (aJ_of (by decide +kernel)) ?_
    exact g_iret K (by decide +kernel) rfl (Or.inr (Or.inl ⟨rfl, Or.inr rfl⟩)) rfl
  · refine gl (i' := 21) (fun _ _ => aw_iconst K (n := 0) (i32 _ rfl) (dOf ck_mX3_isSureWith rfl rfl)) ?_
    exact g_iret K (by decide +kernel) rfl (Or.inr (Or.inl ⟨rfl, Or.inl rfl⟩)) rfl
def B_adds (x1 : Int) (x2 : Int) (x3 : Int) (mm : aM) : Option (Int × aM) := (B_isKind x1 mm).bind fun r1 => (if r1 = 0 then (some ((-2), mm)) else ((Tape_holds x2 mm).bind fun r3 => (if r3 = 0 then (some ((-3), mm)) else (if x3 < 0 then (some ((-3), mm)) else (if 2 < x3 then (some ((-3), mm)) else ((Tape_spellInto x2 mm).bind fun r7 => (st1 (aup r7.2 1 1 0) fun mm8 => (if r7.1 = 0 then (some ((-9), mm8)) else (if x2 < 1 then (some ((-9), mm8)) else (if 6 < x2 then (some ((-9), mm8)) else ((Tongue_findWord 25 50 x2 mm8).bind fun r12 => (if r12 = (-1) then ((Mender_isSureWith 50 x2 x1 x3 mm8).bind fun r14 => (if r14.1 = 0 then (some (0, r14.2)) else (some (1, r14.2)))) else (some ((-9), mm8))))))))))))))
set_option maxHeartbeats 4000000 in
theorem met_B_adds {l : Launch} {D : va_G} {cA : FieldType → ClassId} {ad adV : Nat → Nat} {z0 : Nat} {x1 : Int} {x2 : Int} {x3 : Int} {mm : aM}  {r : Int × aM} (h : B_adds x1 x2 x3 mm = some r) : aMet l D cA ad adV z0 mX11_adds 6 157 0 0 [.inr (.inr (.inl (some 0))), .inl x1, .inl x2, .inl x3] SH mm (rIM r).1 SH (rIM r).2 := by
  refine aMet_ofG (by decide +kernel) rfl (Nat.le_of_ble_eq_true rfl) h (fun p e s m args below meth c al0 K => ?_)
  unfold B_adds
  refine gl (i' := 1) (fun _ _ => aw_iload_n K (dOf ck_mX11_adds rfl rfl) rfl) ?_
  refine g_callSI K [.inl _] rfl (dOf ck_mX11_adds rfl rfl) al_OneBreath_179 wd_645 rfl (Nat.le_of_ble_eq_true rfl) ⟨Nat.le_of_ble_eq_true rfl, Nat.le_of_ble_eq_true rfl⟩ (fun b hb => met_B_isKind  hb) (fun r1 hr1 => ?_)
  refine g_if_ne K (dOf ck_mX11_adds rfl rfl) (t := 5) (aJ_of (by decide +kernel)) (fun h2 => ?_) (fun h2 => ?_)
  · refine gl (i' := 4) (fun _ _ => aw_bip K (dOf ck_mX11_adds rfl rfl) (v := -2) rfl) ?_
    exact g_iret K (dOf ck_mX11_adds rfl rfl).1 rfl (Or.inl rfl) rfl
  · refine gl (i' := 6) (fun _ _ => aw_aload_n K (dOf ck_mX11_adds rfl rfl) rfl) ?_
    refine gl (i' := 7) (fun _ _ => aw_getf K (dOf ck_mX11_adds rfl rfl) rfl rfl (Nat.le_of_ble_eq_true rfl) wd_460 (k := 0) rfl) ?_
    refine gl (i' := 8) (fun _ _ => aw_iload_n K (dOf ck_mX11_adds rfl rfl) rfl) ?_
    refine g_callVI K [.inl _] rfl (dOf ck_mX11_adds rfl rfl) al_OneBreath_111 rfl rfl ⟨wd_488, wd_489⟩ rfl (Nat.le_of_ble_eq_true rfl) ⟨Nat.le_of_ble_eq_true rfl, Nat.le_of_ble_eq_true rfl⟩ (fun b hb => met_Tape_holds  hb) (fun r3 hr3 => ?_)
    refine g_if_eq K (dOf ck_mX11_adds rfl rfl) (t := 15) (aJ_of (by decide +kernel)) (fun h4 => ?_) (fun h4 => ?_)
    · refine gl (i' := 16) (fun _ _ => aw_bip K (dOf ck_mX11_adds rfl rfl) (v := -3) rfl) ?_
      exact g_iret K (dOf ck_mX11_adds rfl rfl).1 rfl (Or.inl rfl) rfl
    · refine gl (i' := 11) (fun _ _ => aw_iload_n K (dOf ck_mX11_adds rfl rfl) rfl) ?_
      refine g_if_lt K (dOf ck_mX11_adds rfl rfl) (t := 15) (aJ_of (by decide +kernel)) (fun h5 => ?_) (fun h5 => ?_)
      · refine gl (i' := 16) (fun _ _ => aw_bip K (dOf ck_mX11_adds rfl rfl) (v := -3) rfl) ?_
        exact g_iret K (dOf ck_mX11_adds rfl rfl).1 rfl (Or.inl rfl) rfl
      · refine gl (i' := 13) (fun _ _ => aw_iload_n K (dOf ck_mX11_adds rfl rfl) rfl) ?_
        refine gl (i' := 14) (fun _ _ => aw_iconst K (n := 2) (i32 _ rfl) (dOf ck_mX11_adds rfl rfl)) ?_
        refine g_icmp_le K (dOf ck_mX11_adds rfl rfl) (t := 17) (aJ_of (by decide +kernel)) (fun h6 => ?_) (fun h6 => ?_)
        · refine gl (i' := 16) (fun _ _ => aw_bip K (dOf ck_mX11_adds rfl rfl) (v := -3) rfl) ?_
          exact g_iret K (dOf ck_mX11_adds rfl rfl).1 rfl (Or.inl rfl) rfl
        · refine gl (i' := 18) (fun _ _ => aw_aload_n K (dOf ck_mX11_adds rfl rfl) rfl) ?_
          refine gl (i' := 19) (fun _ _ => aw_getf K (dOf ck_mX11_adds rfl rfl) rfl rfl (Nat.le_of_ble_eq_true rfl) wd_460 (k := 0) rfl) ?_
          refine gl (i' := 20) (fun _ _ => aw_iload_n K (dOf ck_mX11_adds rfl rfl) rfl) ?_
          refine gl (i' := 21) (fun _ _ => aw_aload_n K (dOf ck_mX11_adds rfl rfl) rfl) ?_
          refine gl (i' := 22) (fun _ _ => aw_getf K (dOf ck_mX11_adds rfl rfl) rfl rfl (Nat.le_of_ble_eq_true rfl) wd_461 (k := 1) rfl) ?_
          refine gl (i' := 23) (fun _ _ => aw_aload_n K (dOf ck_mX11_adds rfl rfl) rfl) ?_
          refine gl (i' := 24) (fun _ _ => aw_getf K (dOf ck_mX11_adds rfl rfl) rfl rfl (Nat.le_of_ble_eq_true rfl) wd_463 (k := 3) rfl) ?_
          refine g_callVIM K [.inl _, .inr (.inr (.inl (some _))), .inr (.inr (.inl (some _)))] rfl (dOf ck_mX11_adds rfl rfl) al_OneBreath_188 rfl rfl ⟨wd_656, wd_657⟩ rfl (Nat.le_of_ble_eq_true rfl) ⟨Nat.le_of_ble_eq_true rfl, Nat.le_of_ble_eq_true rfl⟩ (fun b hb => met_Tape_spellInto  hb) (fun r7 hr7 => ?_)
          refine gl (i' := 26) (fun _ _ => aw_istore K (dOf ck_mX11_adds rfl rfl) (Nat.le_of_ble_eq_true rfl)) ?_
          refine g_lv (lv' := [(4, .inl _), (0, .inr (.inr (.inl (some _)))), (1, .inl _), (2, .inl _), (3, .inl _)]) rfl ?_
          refine gl (i' := 27) (fun _ _ => aw_aload_n K (dOf ck_mX11_adds rfl rfl) rfl) ?_
          refine gl (i' := 28) (fun _ _ => aw_getf K (dOf ck_mX11_adds rfl rfl) rfl rfl (Nat.le_of_ble_eq_true rfl) wd_460 (k := 0) rfl) ?_
          refine gl (i' := 29) (fun _ _ => aw_iconst K (n := 0) (i32 _ rfl) (dOf ck_mX11_adds rfl rfl)) ?_
          refine g_st1 ?_
          refine gl (i' := 30) (fun _ _ => aw_putf K (dOf ck_mX11_adds rfl rfl) rfl rfl (Nat.le_of_ble_eq_true rfl) wd_275 (k := 1) rfl rfl (Or.inl rfl)) ?_
          refine gl (i' := 31) (fun _ _ => aw_iload K (dOf ck_mX11_adds rfl rfl) rfl) ?_
          refine g_if_eq K (dOf ck_mX11_adds rfl rfl) (t := 47) (aJ_of (by decide +kernel)) (fun h9 => ?_) (fun h9 => ?_)
          · refine gl (i' := 48) (fun _ _ => aw_bip K (dOf ck_mX11_adds rfl rfl) (v := -9) rfl) ?_
            exact g_iret K (dOf ck_mX11_adds rfl rfl).1 rfl (Or.inl rfl) rfl
          · refine gl (i' := 33) (fun _ _ => aw_iload_n K (dOf ck_mX11_adds rfl rfl) rfl) ?_
            refine gl (i' := 34) (fun _ _ => aw_iconst K (n := 1) (i32 _ rfl) (dOf ck_mX11_adds rfl rfl)) ?_
            refine g_icmp_lt K (dOf ck_mX11_adds rfl rfl) (t := 47) (aJ_of (by decide +kernel)) (fun h10 => ?_) (fun h10 => ?_)
            · refine gl (i' := 48) (fun _ _ => aw_bip K (dOf ck_mX11_adds rfl rfl) (v := -9) rfl) ?_
              exact g_iret K (dOf ck_mX11_adds rfl rfl).1 rfl (Or.inl rfl) rfl
            · refine gl (i' := 36) (fun _ _ => aw_iload_n K (dOf ck_mX11_adds rfl rfl) rfl) ?_
              refine gl (i' := 37) (fun _ _ => aw_bip K (dOf ck_mX11_adds rfl rfl) (v := 6) rfl) ?_
              refine g_icmp_gt K (dOf ck_mX11_adds rfl rfl) (t := 47) (aJ_of (by decide +kernel)) (fun h11 => ?_) (fun h11 => ?_)
              · refine gl (i' := 48) (fun _ _ => aw_bip K (dOf ck_mX11_adds rfl rfl) (v := -9) rfl) ?_
                exact g_iret K (dOf ck_mX11_adds rfl rfl).1 rfl (Or.inl rfl) rfl
              · refine gl (i' := 39) (fun _ _ => aw_aload_n K (dOf ck_mX11_adds rfl rfl) rfl) ?_
                refine gl (i' := 40) (fun _ _ => aw_getf K (dOf ck_mX11_adds rfl rfl) rfl rfl (Nat.le_of_ble_eq_true rfl) wd_461 (k := 1) rfl) ?_
                refine gl (i' := 41) (fun _ _ => aw_aload_n K (dOf ck_mX11_adds rfl rfl) rfl) ?_
                refine gl (i' := 42) (fun _ _ => aw_getf K (dOf ck_mX11_adds rfl rfl) rfl rfl (Nat.le_of_ble_eq_true rfl) wd_463 (k := 3) rfl) ?_
                refine gl (i' := 43) (fun _ _ => aw_getf K (dOf ck_mX11_adds rfl rfl) rfl rfl (Nat.le_of_ble_eq_true rfl) wd_298 (k := 0) rfl) ?_
                refine gl (i' := 44) (fun _ _ => aw_iload_n K (dOf ck_mX11_adds rfl rfl) rfl) ?_
                refine g_callVI K [.inr (.inr (.inl (some _))), .inl _] rfl (dOf ck_mX11_adds rfl rfl) al_OneBreath_195 rfl rfl ⟨wd_592, wd_593⟩ rfl (Nat.le_of_ble_eq_true rfl) ⟨Nat.le_of_ble_eq_true rfl, Nat.le_of_ble_eq_true rfl⟩ (fun b hb => met_Tongue_findWord (by unfold okT; omega) ⟨_, rfl⟩ hb) (fun r12 hr12 => ?_)
                refine gl (i' := 46) (fun _ _ => aw_iconst K (n := -1) (i32 _ rfl) (dOf ck_mX11_adds rfl rfl)) ?_
                refine g_icmp_eq K (dOf ck_mX11_adds rfl rfl) (t := 49) (aJ_of (by decide +kernel)) (fun h13 => ?_) (fun h13 => ?_)
                · refine gl (i' := 50) (fun _ _ => aw_aload_n K (dOf ck_mX11_adds rfl rfl) rfl) ?_
                  refine gl (i' := 51) (fun _ _ => aw_getf K (dOf ck_mX11_adds rfl rfl) rfl rfl (Nat.le_of_ble_eq_true rfl) wd_470 (k := 10) rfl) ?_
                  refine gl (i' := 52) (fun _ _ => aw_aload_n K (dOf ck_mX11_adds rfl rfl) rfl) ?_
                  refine gl (i' := 53) (fun _ _ => aw_getf K (dOf ck_mX11_adds rfl rfl) rfl rfl (Nat.le_of_ble_eq_true rfl) wd_463 (k := 3) rfl) ?_
                  refine gl (i' := 54) (fun _ _ => aw_getf K (dOf ck_mX11_adds rfl rfl) rfl rfl (Nat.le_of_ble_eq_true rfl) wd_298 (k := 0) rfl) ?_
                  refine gl (i' := 55) (fun _ _ => aw_iload_n K (dOf ck_mX11_adds rfl rfl) rfl) ?_
                  refine gl (i' := 56) (fun _ _ => aw_iload_n K (dOf ck_mX11_adds rfl rfl) rfl) ?_
                  refine gl (i' := 57) (fun _ _ => aw_iload_n K (dOf ck_mX11_adds rfl rfl) rfl) ?_
                  refine g_callVIM K [.inr (.inr (.inl (some _))), .inl _, .inl _, .inl _] rfl (dOf ck_mX11_adds rfl rfl) al_OneBreath_277 rfl rfl ⟨wd_981, wd_982⟩ rfl (Nat.le_of_ble_eq_true rfl) ⟨Nat.le_of_ble_eq_true rfl, Nat.le_of_ble_eq_true rfl⟩ (fun b hb => met_Mender_isSureWith ⟨_, rfl⟩ hb) (fun r14 hr14 => ?_)
                  refine g_if_eq K (dOf ck_mX11_adds rfl rfl) (t := 61) (aJ_of (by decide +kernel)) (fun h15 => ?_) (fun h15 => ?_)
                  · refine gl (i' := 62) (fun _ _ => aw_iconst K (n := 0) (i32 _ rfl) (dOf ck_mX11_adds rfl rfl)) ?_
                    exact g_iret K (by decide +kernel) rfl (Or.inl rfl) rfl
                  · refine gl (i' := 60) (fun _ _ => aw_iconst K (n := 1) (i32 _ rfl) (dOf ck_mX11_adds rfl rfl)) ?_
                    refine g_goto K (dOf ck_mX11_adds rfl rfl).1 (t := 62) (aJ_of (by decide +kernel)) ?_
                    exact g_iret K (by decide +kernel) rfl (Or.inl rfl) rfl
                · refine gl (i' := 48) (fun _ _ => aw_bip K (dOf ck_mX11_adds rfl rfl) (v := -9) rfl) ?_
                  exact g_iret K (dOf ck_mX11_adds rfl rfl).1 rfl (Or.inl rfl) rfl
def Jint_bitCount (x0 : Int) (mm : aM) : Option Int := some (iand (w32 ((w32 ((iand (w32 ((w32 ((iand (w32 (x0 - (iand (iushr x0 1) 1431655765))) 858993459) + (iand (iushr (w32 (x0 - (iand (iushr x0 1) 1431655765))) 2) 858993459))) + (iushr (w32 ((iand (w32 (x0 - (iand (iushr x0 1) 1431655765))) 858993459) + (iand (iushr (w32 (x0 - (iand (iushr x0 1) 1431655765))) 2) 858993459))) 4))) 252645135) + (iushr (iand (w32 ((w32 ((iand (w32 (x0 - (iand (iushr x0 1) 1431655765))) 858993459) + (iand (iushr (w32 (x0 - (iand (iushr x0 1) 1431655765))) 2) 858993459))) + (iushr (w32 ((iand (w32 (x0 - (iand (iushr x0 1) 1431655765))) 858993459) + (iand (iushr (w32 (x0 - (iand (iushr x0 1) 1431655765))) 2) 858993459))) 4))) 252645135) 8))) + (iushr (w32 ((iand (w32 ((w32 ((iand (w32 (x0 - (iand (iushr x0 1) 1431655765))) 858993459) + (iand (iushr (w32 (x0 - (iand (iushr x0 1) 1431655765))) 2) 858993459))) + (iushr (w32 ((iand (w32 (x0 - (iand (iushr x0 1) 1431655765))) 858993459) + (iand (iushr (w32 (x0 - (iand (iushr x0 1) 1431655765))) 2) 858993459))) 4))) 252645135) + (iushr (iand (w32 ((w32 ((iand (w32 (x0 - (iand (iushr x0 1) 1431655765))) 858993459) + (iand (iushr (w32 (x0 - (iand (iushr x0 1) 1431655765))) 2) 858993459))) + (iushr (w32 ((iand (w32 (x0 - (iand (iushr x0 1) 1431655765))) 858993459) + (iand (iushr (w32 (x0 - (iand (iushr x0 1) 1431655765))) 2) 858993459))) 4))) 252645135) 8))) 16))) 63)
set_option maxHeartbeats 4000000 in
theorem met_Jint_bitCount {l : Launch} {D : va_G} {cA : FieldType → ClassId} {ad adV : Nat → Nat} {z0 : Nat} {x0 : Int} {mm : aM}  {r : Int} (h : Jint_bitCount x0 mm = some r) : aMet l D cA ad adV z0 mJ6_bitCount_0f7a4 0 0 0 0 [.inl x0] SH mm ((rI mm) r).1 SH ((rI mm) r).2 := by
  refine aMet_ofG (by decide +kernel) rfl (Nat.le_of_ble_eq_true rfl) h (fun p e s m args below meth c al0 K => ?_)
  unfold Jint_bitCount
  refine gl (i' := 1) (fun _ _ => aw_iload_n K (dOf ck_mJ6_bitCount_0f7a4 rfl rfl) rfl) ?_
  refine gl (i' := 2) (fun _ _ => aw_iload_n K (dOf ck_mJ6_bitCount_0f7a4 rfl rfl) rfl) ?_
  refine gl (i' := 3) (fun _ _ => aw_iconst K (n := 1) (i32 _ rfl) (dOf ck_mJ6_bitCount_0f7a4 rfl rfl)) ?_
  refine gl (i' := 4) (fun _ _ => aw_iushr K (dOf ck_mJ6_bitCount_0f7a4 rfl rfl)) ?_
  refine gl (i' := 5) (fun _ _ => aw_ldcw K (dOf ck_mJ6_bitCount_0f7a4 rfl rfl) (n := 1431655765) wd_995 (i32 _ rfl)) ?_
  refine gl (i' := 6) (fun _ _ => aw_iand K (dOf ck_mJ6_bitCount_0f7a4 rfl rfl)) ?_
  refine gl (i' := 7) (fun _ _ => aw_isub K (dOf ck_mJ6_bitCount_0f7a4 rfl rfl)) ?_
  refine gl (i' := 8) (fun _ _ => aw_istore_n K (dOf ck_mJ6_bitCount_0f7a4 rfl rfl) (Nat.le_of_ble_eq_true rfl)) ?_
  refine g_lv (lv' := [(0, .inl _)]) rfl ?_
  refine gl (i' := 9) (fun _ _ => aw_iload_n K (dOf ck_mJ6_bitCount_0f7a4 rfl rfl) rfl) ?_
  refine gl (i' := 10) (fun _ _ => aw_ldcw K (dOf ck_mJ6_bitCount_0f7a4 rfl rfl) (n := 858993459) wd_996 (i32 _ rfl)) ?_
  refine gl (i' := 11) (fun _ _ => aw_iand K (dOf ck_mJ6_bitCount_0f7a4 rfl rfl)) ?_
  refine gl (i' := 12) (fun _ _ => aw_iload_n K (dOf ck_mJ6_bitCount_0f7a4 rfl rfl) rfl) ?_
  refine gl (i' := 13) (fun _ _ => aw_iconst K (n := 2) (i32 _ rfl) (dOf ck_mJ6_bitCount_0f7a4 rfl rfl)) ?_
  refine gl (i' := 14) (fun _ _ => aw_iushr K (dOf ck_mJ6_bitCount_0f7a4 rfl rfl)) ?_
  refine gl (i' := 15) (fun _ _ => aw_ldcw K (dOf ck_mJ6_bitCount_0f7a4 rfl rfl) (n := 858993459) wd_996 (i32 _ rfl)) ?_
  refine gl (i' := 16) (fun _ _ => aw_iand K (dOf ck_mJ6_bitCount_0f7a4 rfl rfl)) ?_
  refine gl (i' := 17) (fun _ _ => aw_iadd K (dOf ck_mJ6_bitCount_0f7a4 rfl rfl)) ?_
  refine gl (i' := 18) (fun _ _ => aw_istore_n K (dOf ck_mJ6_bitCount_0f7a4 rfl rfl) (Nat.le_of_ble_eq_true rfl)) ?_
  refine g_lv (lv' := [(0, .inl _)]) rfl ?_
  refine gl (i' := 19) (fun _ _ => aw_iload_n K (dOf ck_mJ6_bitCount_0f7a4 rfl rfl) rfl) ?_
  refine gl (i' := 20) (fun _ _ => aw_iload_n K (dOf ck_mJ6_bitCount_0f7a4 rfl rfl) rfl) ?_
  refine gl (i' := 21) (fun _ _ => aw_iconst K (n := 4) (i32 _ rfl) (dOf ck_mJ6_bitCount_0f7a4 rfl rfl)) ?_
  refine gl (i' := 22) (fun _ _ => aw_iushr K (dOf ck_mJ6_bitCount_0f7a4 rfl rfl)) ?_
  refine gl (i' := 23) (fun _ _ => aw_iadd K (dOf ck_mJ6_bitCount_0f7a4 rfl rfl)) ?_
  refine gl (i' := 24) (fun _ _ => aw_ldcw K (dOf ck_mJ6_bitCount_0f7a4 rfl rfl) (n := 252645135) wd_997 (i32 _ rfl)) ?_
  refine gl (i' := 25) (fun _ _ => aw_iand K (dOf ck_mJ6_bitCount_0f7a4 rfl rfl)) ?_
  refine gl (i' := 26) (fun _ _ => aw_istore_n K (dOf ck_mJ6_bitCount_0f7a4 rfl rfl) (Nat.le_of_ble_eq_true rfl)) ?_
  refine g_lv (lv' := [(0, .inl _)]) rfl ?_
  refine gl (i' := 27) (fun _ _ => aw_iload_n K (dOf ck_mJ6_bitCount_0f7a4 rfl rfl) rfl) ?_
  refine gl (i' := 28) (fun _ _ => aw_iload_n K (dOf ck_mJ6_bitCount_0f7a4 rfl rfl) rfl) ?_
  refine gl (i' := 29) (fun _ _ => aw_bip K (dOf ck_mJ6_bitCount_0f7a4 rfl rfl) (v := 8) rfl) ?_
  refine gl (i' := 30) (fun _ _ => aw_iushr K (dOf ck_mJ6_bitCount_0f7a4 rfl rfl)) ?_
  refine gl (i' := 31) (fun _ _ => aw_iadd K (dOf ck_mJ6_bitCount_0f7a4 rfl rfl)) ?_
  refine gl (i' := 32) (fun _ _ => aw_istore_n K (dOf ck_mJ6_bitCount_0f7a4 rfl rfl) (Nat.le_of_ble_eq_true rfl)) ?_
  refine g_lv (lv' := [(0, .inl _)]) rfl ?_
  refine gl (i' := 33) (fun _ _ => aw_iload_n K (dOf ck_mJ6_bitCount_0f7a4 rfl rfl) rfl) ?_
  refine gl (i' := 34) (fun _ _ => aw_iload_n K (dOf ck_mJ6_bitCount_0f7a4 rfl rfl) rfl) ?_
  refine gl (i' := 35) (fun _ _ => aw_bip K (dOf ck_mJ6_bitCount_0f7a4 rfl rfl) (v := 16) rfl) ?_
  refine gl (i' := 36) (fun _ _ => aw_iushr K (dOf ck_mJ6_bitCount_0f7a4 rfl rfl)) ?_
  refine gl (i' := 37) (fun _ _ => aw_iadd K (dOf ck_mJ6_bitCount_0f7a4 rfl rfl)) ?_
  refine gl (i' := 38) (fun _ _ => aw_istore_n K (dOf ck_mJ6_bitCount_0f7a4 rfl rfl) (Nat.le_of_ble_eq_true rfl)) ?_
  refine g_lv (lv' := [(0, .inl _)]) rfl ?_
  refine gl (i' := 39) (fun _ _ => aw_iload_n K (dOf ck_mJ6_bitCount_0f7a4 rfl rfl) rfl) ?_
  refine gl (i' := 40) (fun _ _ => aw_bip K (dOf ck_mJ6_bitCount_0f7a4 rfl rfl) (v := 63) rfl) ?_
  refine gl (i' := 41) (fun _ _ => aw_iand K (dOf ck_mJ6_bitCount_0f7a4 rfl rfl)) ?_
  exact g_iret K (by decide +kernel) rfl (Or.inl rfl) rfl
def Twins_leaveOut (x1 : Int) (mm : aM) : Option aM := st1 (aup mm 80 1 (iand (w32 ((ishl 1 (mm 80 0)) - 1)) (ixor x1 (-1)))) fun mm1 => (some mm1)
set_option maxHeartbeats 4000000 in
theorem met_Twins_leaveOut {l : Launch} {D : va_G} {cA : FieldType → ClassId} {ad adV : Nat → Nat} {z0 : Nat} {x1 : Int} {mm : aM}  {r : aM} (h : Twins_leaveOut x1 mm = some r) : aMet l D cA ad adV z0 mX9_leaveOut 0 0 0 0 [.inr (.inr (.inl (some 80))), .inl x1] SH mm (rM r).1 SH (rM r).2 := by
  refine aMet_ofG (by decide +kernel) rfl (Nat.le_of_ble_eq_true rfl) h (fun p e s m args below meth c al0 K => ?_)
  unfold Twins_leaveOut
  refine gl (i' := 1) (fun _ _ => aw_aload_n K (dOf ck_mX9_leaveOut rfl rfl) rfl) ?_
  refine gl (i' := 2) (fun _ _ => aw_iconst K (n := 1) (i32 _ rfl) (dOf ck_mX9_leaveOut rfl rfl)) ?_
  refine gl (i' := 3) (fun _ _ => aw_aload_n K (dOf ck_mX9_leaveOut rfl rfl) rfl) ?_
  refine gl (i' := 4) (fun _ _ => aw_getf K (dOf ck_mX9_leaveOut rfl rfl) rfl rfl (Nat.le_of_ble_eq_true rfl) wd_391 (k := 0) rfl) ?_
  refine gl (i' := 5) (fun _ _ => aw_ishl K (dOf ck_mX9_leaveOut rfl rfl)) ?_
  refine gl (i' := 6) (fun _ _ => aw_iconst K (n := 1) (i32 _ rfl) (dOf ck_mX9_leaveOut rfl rfl)) ?_
  refine gl (i' := 7) (fun _ _ => aw_isub K (dOf ck_mX9_leaveOut rfl rfl)) ?_
  refine gl (i' := 8) (fun _ _ => aw_iload_n K (dOf ck_mX9_leaveOut rfl rfl) rfl) ?_
  refine gl (i' := 9) (fun _ _ => aw_iconst K (n := -1) (i32 _ rfl) (dOf ck_mX9_leaveOut rfl rfl)) ?_
  refine gl (i' := 10) (fun _ _ => aw_ixor K (dOf ck_mX9_leaveOut rfl rfl)) ?_
  refine gl (i' := 11) (fun _ _ => aw_iand K (dOf ck_mX9_leaveOut rfl rfl)) ?_
  refine g_st1 ?_
  refine gl (i' := 12) (fun _ _ => aw_putf K (dOf ck_mX9_leaveOut rfl rfl) rfl rfl (Nat.le_of_ble_eq_true rfl) wd_392 (k := 1) rfl rfl (Or.inl rfl)) ?_
  exact g_vret K (by decide +kernel) rfl rfl
def Mender_leftOut_59 (mm : aM) : Option (Int × aM) := some (mm 79 10, mm)
set_option maxHeartbeats 4000000 in
theorem lk_Mender_leftOut_59 {p : Program} {l : Launch} {e : Env} {s : State} {m : MethodId} {args : Array Value} {below : List Frame} {meth : Method} {c : Code} {D : va_G} {cA : FieldType → ClassId} {ad adV : Nat → Nat} {z0 : Nat} {al0 : List Nat} (K : aK p s m args meth c mX3_leftOut D cA ad adV z0)   (mm : aM) : aG p l e { frames := 5, cells := 0, slots := 0, locals := 133 } s m args below meth c D cA ad z0 mX3_leftOut al0 rIM (Mender_leftOut_59 mm) 59 [(0, .inr (.inr (.inl (some 79))))] [] mm := by
  unfold Mender_leftOut_59
  refine gl (i' := 60) (fun _ _ => aw_aload_n K (dOf ck_mX3_leftOut rfl rfl) rfl) ?_
  refine gl (i' := 61) (fun _ _ => aw_getf K (dOf ck_mX3_leftOut rfl rfl) rfl rfl (Nat.le_of_ble_eq_true rfl) wd_430 (k := 10) rfl) ?_
  exact g_iret K (by decide +kernel) rfl (Or.inl rfl) rfl
def Mender_leftOut_57 (k18 : Int → aM → Option (Int × aM)) (x1 : Int) (mm : aM) : Option (Int × aM) := k18 (w32 (x1 + 1)) mm
set_option maxHeartbeats 4000000 in
theorem lk_Mender_leftOut_57 {p : Program} {l : Launch} {e : Env} {s : State} {m : MethodId} {args : Array Value} {below : List Frame} {meth : Method} {c : Code} {D : va_G} {cA : FieldType → ClassId} {ad adV : Nat → Nat} {z0 : Nat} {al0 : List Nat} (K : aK p s m args meth c mX3_leftOut D cA ad adV z0) (x1 : Int) (k18 : Int → aM → Option (Int × aM)) (hk18 : ∀ (x1 : Int) (mm : aM), aG p l e { frames := 5, cells := 0, slots := 0, locals := 133 } s m args below meth c D cA ad z0 mX3_leftOut al0 rIM (k18 x1 mm) 18 [(0, .inr (.inr (.inl (some 79)))), (1, .inl x1)] [] mm)  (mm : aM) : aG p l e { frames := 5, cells := 0, slots := 0, locals := 133 } s m args below meth c D cA ad z0 mX3_leftOut al0 rIM (Mender_leftOut_57 k18 x1 mm) 57 [(0, .inr (.inr (.inl (some 79)))), (1, .inl x1)] [] mm := by
  unfold Mender_leftOut_57
  refine gl (i' := 58) (fun _ _ => aw_iinc K (dOf ck_mX3_leftOut rfl rfl) (Nat.le_of_ble_eq_true rfl) rfl) ?_
  refine g_lv (lv' := [(1, .inl _), (0, .inr (.inr (.inl (some _))))]) rfl ?_
  refine g_goto K (dOf ck_mX3_leftOut rfl rfl).1 (t := 18) (aJ_of (by decide +kernel)) ?_
  refine g_sub [1, 0] rfl ?_
  exact hk18 _ _
def Mender_leftOut_55 (k18 : Int → aM → Option (Int × aM)) (k27 : Int → aM → Option (Int × aM)) (x1 : Int) (x2 : Int) (mm : aM) : Option (Int × aM) := k27 (w32 (x2 + 1)) mm
set_option maxHeartbeats 4000000 in
theorem lk_Mender_leftOut_55 {p : Program} {l : Launch} {e : Env} {s : State} {m : MethodId} {args : Array Value} {below : List Frame} {meth : Method} {c : Code} {D : va_G} {cA : FieldType → ClassId} {ad adV : Nat → Nat} {z0 : Nat} {al0 : List Nat} (K : aK p s m args meth c mX3_leftOut D cA ad adV z0) (x1 : Int) (x2 : Int) (k18 : Int → aM → Option (Int × aM)) (hk18 : ∀ (x1 : Int) (mm : aM), aG p l e { frames := 5, cells := 0, slots := 0, locals := 133 } s m args below meth c D cA ad z0 mX3_leftOut al0 rIM (k18 x1 mm) 18 [(0, .inr (.inr (.inl (some 79)))), (1, .inl x1)] [] mm) (k27 : Int → aM → Option (Int × aM)) (hk27 : ∀ (x2 : Int) (mm : aM), aG p l e { frames := 5, cells := 0, slots := 0, locals := 133 } s m args below meth c D cA ad z0 mX3_leftOut al0 rIM (k27 x2 mm) 27 [(0, .inr (.inr (.inl (some 79)))), (1, .inl x1), (2, .inl x2)] [] mm)  (mm : aM) : aG p l e { frames := 5, cells := 0, slots := 0, locals := 133 } s m args below meth c D cA ad z0 mX3_leftOut al0 rIM (Mender_leftOut_55 k18 k27 x1 x2 mm) 55 [(0, .inr (.inr (.inl (some 79)))), (1, .inl x1), (2, .inl x2)] [] mm := by
  unfold Mender_leftOut_55
  refine gl (i' := 56) (fun _ _ => aw_iinc K (dOf ck_mX3_leftOut rfl rfl) (Nat.le_of_ble_eq_true rfl) rfl) ?_
  refine g_lv (lv' := [(2, .inl _), (0, .inr (.inr (.inl (some _)))), (1, .inl _)]) rfl ?_
  refine g_goto K (dOf ck_mX3_leftOut rfl rfl).1 (t := 27) (aJ_of (by decide +kernel)) ?_
  refine g_sub [1, 2, 0] rfl ?_
  exact hk27 _ _
def Mender_leftOut_27 (k18 : Int → aM → Option (Int × aM)) (x1 : Int) : Nat → Int → aM → Option (Int × aM)
  | 0, _, _ => none
  | n + 1, x2, mm => if x2 < (ishl 1 (mm 25 2)) then (if (mm 79 10) = (-1) then ((Jint_bitCount x2 mm).bind fun r8 => (if r8 = x1 then ((Twins_leaveOut x2 mm).bind fun r10 => ((Twins_shortest 0 r10).bind fun r11 => (if r11.1 = (-1) then (st1 (aup r11.2 79 10 x2) fun mm13 => (Mender_leftOut_55 k18 (Mender_leftOut_27 k18 x1 n) x1 x2 mm13)) else (Mender_leftOut_55 k18 (Mender_leftOut_27 k18 x1 n) x1 x2 r11.2)))) else (Mender_leftOut_55 k18 (Mender_leftOut_27 k18 x1 n) x1 x2 mm))) else (Mender_leftOut_57 k18 x1 mm)) else (Mender_leftOut_57 k18 x1 mm)
set_option maxHeartbeats 4000000 in
theorem lk_Mender_leftOut_27 {p : Program} {l : Launch} {e : Env} {s : State} {m : MethodId} {args : Array Value} {below : List Frame} {meth : Method} {c : Code} {D : va_G} {cA : FieldType → ClassId} {ad adV : Nat → Nat} {z0 : Nat} {al0 : List Nat} (K : aK p s m args meth c mX3_leftOut D cA ad adV z0) (x1 : Int) (k18 : Int → aM → Option (Int × aM)) (hk18 : ∀ (x1 : Int) (mm : aM), aG p l e { frames := 5, cells := 0, slots := 0, locals := 133 } s m args below meth c D cA ad z0 mX3_leftOut al0 rIM (k18 x1 mm) 18 [(0, .inr (.inr (.inl (some 79)))), (1, .inl x1)] [] mm)  : ∀ (n : Nat) (x2 : Int) (mm : aM), aG p l e { frames := 5, cells := 0, slots := 0, locals := 133 } s m args below meth c D cA ad z0 mX3_leftOut al0 rIM (Mender_leftOut_27 k18 x1 n x2 mm) 27 [(0, .inr (.inr (.inl (some 79)))), (1, .inl x1), (2, .inl x2)] [] mm := by
  intro n
  induction n with
  | zero => intro x2 mm; exact g_none
  | succ n ih =>
    intro x2 mm
    rw [Mender_leftOut_27]
    refine gl (i' := 28) (fun _ _ => aw_iload_n K (dOf ck_mX3_leftOut rfl rfl) rfl) ?_
    refine gl (i' := 29) (fun _ _ => aw_iconst K (n := 1) (i32 _ rfl) (dOf ck_mX3_leftOut rfl rfl)) ?_
    refine gl (i' := 30) (fun _ _ => aw_aload_n K (dOf ck_mX3_leftOut rfl rfl) rfl) ?_
    refine gl (i' := 31) (fun _ _ => aw_getf K (dOf ck_mX3_leftOut rfl rfl) rfl rfl (Nat.le_of_ble_eq_true rfl) wd_418 (k := 0) rfl) ?_
    refine gl (i' := 32) (fun _ _ => aw_getf K (dOf ck_mX3_leftOut rfl rfl) rfl rfl (Nat.le_of_ble_eq_true rfl) wd_200 (k := 2) rfl) ?_
    refine gl (i' := 33) (fun _ _ => aw_ishl K (dOf ck_mX3_leftOut rfl rfl)) ?_
    refine g_icmp_ge K (dOf ck_mX3_leftOut rfl rfl) (t := 57) (aJ_of (by decide +kernel)) (fun h6 => ?_) (fun h6 => ?_)
    · refine gl (i' := 35) (fun _ _ => aw_aload_n K (dOf ck_mX3_leftOut rfl rfl) rfl) ?_
      refine gl (i' := 36) (fun _ _ => aw_getf K (dOf ck_mX3_leftOut rfl rfl) rfl rfl (Nat.le_of_ble_eq_true rfl) wd_430 (k := 10) rfl) ?_
      refine gl (i' := 37) (fun _ _ => aw_iconst K (n := -1) (i32 _ rfl) (dOf ck_mX3_leftOut rfl rfl)) ?_
      refine g_icmp_ne K (dOf ck_mX3_leftOut rfl rfl) (t := 57) (aJ_of (by decide +kernel)) (fun h7 => ?_) (fun h7 => ?_)
      · refine gl (i' := 39) (fun _ _ => aw_iload_n K (dOf ck_mX3_leftOut rfl rfl) rfl) ?_
        refine g_callSI K [.inl _] rfl (dOf ck_mX3_leftOut rfl rfl) al_OneBreath_Mender_159 wd_993 rfl (Nat.le_of_ble_eq_true rfl) ⟨Nat.le_of_ble_eq_true rfl, Nat.le_of_ble_eq_true rfl⟩ (fun b hb => met_Jint_bitCount  hb) (fun r8 hr8 => ?_)
        refine gl (i' := 41) (fun _ _ => aw_iload_n K (dOf ck_mX3_leftOut rfl rfl) rfl) ?_
        refine g_icmp_ne K (dOf ck_mX3_leftOut rfl rfl) (t := 55) (aJ_of (by decide +kernel)) (fun h9 => ?_) (fun h9 => ?_)
        · refine gl (i' := 43) (fun _ _ => aw_aload_n K (dOf ck_mX3_leftOut rfl rfl) rfl) ?_
          refine gl (i' := 44) (fun _ _ => aw_getf K (dOf ck_mX3_leftOut rfl rfl) rfl rfl (Nat.le_of_ble_eq_true rfl) wd_420 (k := 2) rfl) ?_
          refine gl (i' := 45) (fun _ _ => aw_iload_n K (dOf ck_mX3_leftOut rfl rfl) rfl) ?_
          refine g_callVM K [.inl _] rfl (dOf ck_mX3_leftOut rfl rfl) al_OneBreath_Mender_164 rfl rfl ⟨wd_999, wd_1000⟩ rfl (Nat.le_of_ble_eq_true rfl) ⟨Nat.le_of_ble_eq_true rfl, Nat.le_of_ble_eq_true rfl⟩ (fun b hb => met_Twins_leaveOut  hb) (fun r10 hr10 => ?_)
          refine gl (i' := 47) (fun _ _ => aw_aload_n K (dOf ck_mX3_leftOut rfl rfl) rfl) ?_
          refine gl (i' := 48) (fun _ _ => aw_getf K (dOf ck_mX3_leftOut rfl rfl) rfl rfl (Nat.le_of_ble_eq_true rfl) wd_420 (k := 2) rfl) ?_
          refine gl (i' := 49) (fun _ _ => aw_iconst K (n := 0) (i32 _ rfl) (dOf ck_mX3_leftOut rfl rfl)) ?_
          refine g_callVIM K [.inl _] rfl (dOf ck_mX3_leftOut rfl rfl) al_OneBreath_Mender_79 rfl rfl ⟨wd_827, wd_828⟩ rfl (Nat.le_of_ble_eq_true rfl) ⟨Nat.le_of_ble_eq_true rfl, Nat.le_of_ble_eq_true rfl⟩ (fun b hb => met_Twins_shortest  hb) (fun r11 hr11 => ?_)
          refine gl (i' := 51) (fun _ _ => aw_iconst K (n := -1) (i32 _ rfl) (dOf ck_mX3_leftOut rfl rfl)) ?_
          refine g_icmp_ne K (dOf ck_mX3_leftOut rfl rfl) (t := 55) (aJ_of (by decide +kernel)) (fun h12 => ?_) (fun h12 => ?_)
          · refine gl (i' := 53) (fun _ _ => aw_aload_n K (dOf ck_mX3_leftOut rfl rfl) rfl) ?_
            refine gl (i' := 54) (fun _ _ => aw_iload_n K (dOf ck_mX3_leftOut rfl rfl) rfl) ?_
            refine g_st1 ?_
            refine gl (i' := 55) (fun _ _ => aw_putf K (dOf ck_mX3_leftOut rfl rfl) rfl rfl (Nat.le_of_ble_eq_true rfl) wd_430 (k := 10) rfl rfl (Or.inl rfl)) ?_
            refine g_sub [0, 1, 2] rfl ?_
            exact lk_Mender_leftOut_55 K _ _ _ hk18 _ ih _
          · refine g_sub [0, 1, 2] rfl ?_
            exact lk_Mender_leftOut_55 K _ _ _ hk18 _ ih _
        · refine g_sub [0, 1, 2] rfl ?_
          exact lk_Mender_leftOut_55 K _ _ _ hk18 _ ih _
      · refine g_sub [0, 1] rfl ?_
        exact lk_Mender_leftOut_57 K _ _ hk18 _
    · refine g_sub [0, 1] rfl ?_
      exact lk_Mender_leftOut_57 K _ _ hk18 _
def Mender_leftOut_18  : Nat → Int → aM → Option (Int × aM)
  | 0, _, _ => none
  | n + 1, x1, mm => if 3 < x1 then (Mender_leftOut_59 mm) else (if (mm 79 10) = (-1) then (Mender_leftOut_27 (Mender_leftOut_18 n) x1 FU 0 mm) else (Mender_leftOut_59 mm))
set_option maxHeartbeats 4000000 in
theorem lk_Mender_leftOut_18 {p : Program} {l : Launch} {e : Env} {s : State} {m : MethodId} {args : Array Value} {below : List Frame} {meth : Method} {c : Code} {D : va_G} {cA : FieldType → ClassId} {ad adV : Nat → Nat} {z0 : Nat} {al0 : List Nat} (K : aK p s m args meth c mX3_leftOut D cA ad adV z0)   : ∀ (n : Nat) (x1 : Int) (mm : aM), aG p l e { frames := 5, cells := 0, slots := 0, locals := 133 } s m args below meth c D cA ad z0 mX3_leftOut al0 rIM (Mender_leftOut_18 n x1 mm) 18 [(0, .inr (.inr (.inl (some 79)))), (1, .inl x1)] [] mm := by
  intro n
  induction n with
  | zero => intro x1 mm; exact g_none
  | succ n ih =>
    intro x1 mm
    rw [Mender_leftOut_18]
    refine gl (i' := 19) (fun _ _ => aw_iload_n K (dOf ck_mX3_leftOut rfl rfl) rfl) ?_
    refine gl (i' := 20) (fun _ _ => aw_iconst K (n := 3) (i32 _ rfl) (dOf ck_mX3_leftOut rfl rfl)) ?_
    refine g_icmp_gt K (dOf ck_mX3_leftOut rfl rfl) (t := 59) (aJ_of (by decide +kernel)) (fun h4 => ?_) (fun h4 => ?_)
    · refine g_sub [0] rfl ?_
      exact lk_Mender_leftOut_59 K _
    · refine gl (i' := 22) (fun _ _ => aw_aload_n K (dOf ck_mX3_leftOut rfl rfl) rfl) ?_
      refine gl (i' := 23) (fun _ _ => aw_getf K (dOf ck_mX3_leftOut rfl rfl) rfl rfl (Nat.le_of_ble_eq_true rfl) wd_430 (k := 10) rfl) ?_
      refine gl (i' := 24) (fun _ _ => aw_iconst K (n := -1) (i32 _ rfl) (dOf ck_mX3_leftOut rfl rfl)) ?_
      refine g_icmp_ne K (dOf ck_mX3_leftOut rfl rfl) (t := 59) (aJ_of (by decide +kernel)) (fun h5 => ?_) (fun h5 => ?_)
      · refine gl (i' := 26) (fun _ _ => aw_iconst K (n := 0) (i32 _ rfl) (dOf ck_mX3_leftOut rfl rfl)) ?_
        refine gl (i' := 27) (fun _ _ => aw_istore_n K (dOf ck_mX3_leftOut rfl rfl) (Nat.le_of_ble_eq_true rfl)) ?_
        refine g_lv (lv' := [(2, .inl _), (0, .inr (.inr (.inl (some _)))), (1, .inl _)]) rfl ?_
        refine g_sub [1, 2, 0] rfl ?_
        exact lk_Mender_leftOut_27 K _ _ ih FU _ _
      · refine g_sub [0] rfl ?_
        exact lk_Mender_leftOut_59 K _
def Mender_leftOut  (mm : aM) : Option (Int × aM) := if (mm 79 10) = (-2) then (st1 (aup mm 79 10 (-1)) fun mm2 => ((Twins_load 0 mm2).bind fun r3 => (Mender_leftOut_18 FU 0 r3))) else (some (mm 79 10, mm))
set_option maxHeartbeats 4000000 in
theorem met_Mender_leftOut {l : Launch} {D : va_G} {cA : FieldType → ClassId} {ad adV : Nat → Nat} {z0 : Nat}  {mm : aM}  {r : Int × aM} (h : Mender_leftOut  mm = some r) : aMet l D cA ad adV z0 mX3_leftOut 5 133 0 0 [.inr (.inr (.inl (some 79)))] SH mm (rIM r).1 SH (rIM r).2 := by
  refine aMet_ofG (by decide +kernel) rfl (Nat.le_of_ble_eq_true rfl) h (fun p e s m args below meth c al0 K => ?_)
  unfold Mender_leftOut
  refine gl (i' := 1) (fun _ _ => aw_aload_n K (dOf ck_mX3_leftOut rfl rfl) rfl) ?_
  refine gl (i' := 2) (fun _ _ => aw_getf K (dOf ck_mX3_leftOut rfl rfl) rfl rfl (Nat.le_of_ble_eq_true rfl) wd_430 (k := 10) rfl) ?_
  refine gl (i' := 3) (fun _ _ => aw_bip K (dOf ck_mX3_leftOut rfl rfl) (v := -2) rfl) ?_
  refine g_icmp_eq K (dOf ck_mX3_leftOut rfl rfl) (t := 7) (aJ_of (by decide +kernel)) (fun h1 => ?_) (fun h1 => ?_)
  · refine gl (i' := 8) (fun _ _ => aw_aload_n K (dOf ck_mX3_leftOut rfl rfl) rfl) ?_
    refine gl (i' := 9) (fun _ _ => aw_iconst K (n := -1) (i32 _ rfl) (dOf ck_mX3_leftOut rfl rfl)) ?_
    refine g_st1 ?_
    refine gl (i' := 10) (fun _ _ => aw_putf K (dOf ck_mX3_leftOut rfl rfl) rfl rfl (Nat.le_of_ble_eq_true rfl) wd_430 (k := 10) rfl rfl (Or.inl rfl)) ?_
    refine gl (i' := 11) (fun _ _ => aw_aload_n K (dOf ck_mX3_leftOut rfl rfl) rfl) ?_
    refine gl (i' := 12) (fun _ _ => aw_getf K (dOf ck_mX3_leftOut rfl rfl) rfl rfl (Nat.le_of_ble_eq_true rfl) wd_420 (k := 2) rfl) ?_
    refine gl (i' := 13) (fun _ _ => aw_aload_n K (dOf ck_mX3_leftOut rfl rfl) rfl) ?_
    refine gl (i' := 14) (fun _ _ => aw_getf K (dOf ck_mX3_leftOut rfl rfl) rfl rfl (Nat.le_of_ble_eq_true rfl) wd_418 (k := 0) rfl) ?_
    refine gl (i' := 15) (fun _ _ => aw_iconst K (n := 0) (i32 _ rfl) (dOf ck_mX3_leftOut rfl rfl)) ?_
    refine g_callVM K [.inr (.inr (.inl (some _))), .inl _] rfl (dOf ck_mX3_leftOut rfl rfl) al_OneBreath_Mender_75 rfl rfl ⟨wd_818, wd_819⟩ rfl (Nat.le_of_ble_eq_true rfl) ⟨Nat.le_of_ble_eq_true rfl, Nat.le_of_ble_eq_true rfl⟩ (fun b hb => met_Twins_load  hb) (fun r3 hr3 => ?_)
    refine gl (i' := 17) (fun _ _ => aw_iconst K (n := 0) (i32 _ rfl) (dOf ck_mX3_leftOut rfl rfl)) ?_
    refine gl (i' := 18) (fun _ _ => aw_istore_n K (dOf ck_mX3_leftOut rfl rfl) (Nat.le_of_ble_eq_true rfl)) ?_
    refine g_lv (lv' := [(1, .inl _), (0, .inr (.inr (.inl (some _))))]) rfl ?_
    refine g_sub [1, 0] rfl ?_
    exact lk_Mender_leftOut_18 K FU _ _
  · refine gl (i' := 5) (fun _ _ => aw_aload_n K (dOf ck_mX3_leftOut rfl rfl) rfl) ?_
    refine gl (i' := 6) (fun _ _ => aw_getf K (dOf ck_mX3_leftOut rfl rfl) rfl rfl (Nat.le_of_ble_eq_true rfl) wd_430 (k := 10) rfl) ?_
    exact g_iret K (dOf ck_mX3_leftOut rfl rfl).1 rfl (Or.inl rfl) rfl
def B_mended_17 (x2 : Int) (mm : aM) : Option (Int × aM) := some (x2, mm)
set_option maxHeartbeats 4000000 in
theorem lk_B_mended_17 {p : Program} {l : Launch} {e : Env} {s : State} {m : MethodId} {args : Array Value} {below : List Frame} {meth : Method} {c : Code} {D : va_G} {cA : FieldType → ClassId} {ad adV : Nat → Nat} {z0 : Nat} {al0 : List Nat} (K : aK p s m args meth c mX11_mended D cA ad adV z0) (x2 : Int)  (mm : aM) : aG p l e { frames := 6, cells := 0, slots := 0, locals := 155 } s m args below meth c D cA ad z0 mX11_mended al0 rIM (B_mended_17 x2 mm) 17 [(2, .inl x2)] [] mm := by
  unfold B_mended_17
  refine gl (i' := 18) (fun _ _ => aw_iload_n K (dOf ck_mX11_mended rfl rfl) rfl) ?_
  refine g_goto K (dOf ck_mX11_mended rfl rfl).1 (t := 21) (aJ_of (by decide +kernel)) ?_
  exact g_iret K (by decide +kernel) rfl (Or.inl rfl) rfl
def B_mended_7 (x1 : Int) (mm : aM) : Option (Int × aM) := (Mender_leftOut mm).bind fun r2 => (if r2.1 = (-1) then (B_mended_17 r2.1 r2.2) else (if x1 = 1 then (B_mended_17 r2.1 r2.2) else ((Jint_bitCount r2.1 r2.2).bind fun r5 => (some (r5, r2.2)))))
set_option maxHeartbeats 4000000 in
theorem lk_B_mended_7 {p : Program} {l : Launch} {e : Env} {s : State} {m : MethodId} {args : Array Value} {below : List Frame} {meth : Method} {c : Code} {D : va_G} {cA : FieldType → ClassId} {ad adV : Nat → Nat} {z0 : Nat} {al0 : List Nat} (K : aK p s m args meth c mX11_mended D cA ad adV z0) (x1 : Int)  (mm : aM) : aG p l e { frames := 6, cells := 0, slots := 0, locals := 155 } s m args below meth c D cA ad z0 mX11_mended al0 rIM (B_mended_7 x1 mm) 7 [(0, .inr (.inr (.inl (some 0)))), (1, .inl x1)] [] mm := by
  unfold B_mended_7
  refine gl (i' := 8) (fun _ _ => aw_aload_n K (dOf ck_mX11_mended rfl rfl) rfl) ?_
  refine gl (i' := 9) (fun _ _ => aw_getf K (dOf ck_mX11_mended rfl rfl) rfl rfl (Nat.le_of_ble_eq_true rfl) wd_470 (k := 10) rfl) ?_
  refine g_callVIM K [] rfl (dOf ck_mX11_mended rfl rfl) al_OneBreath_281 rfl rfl ⟨wd_989, wd_990⟩ rfl (Nat.le_of_ble_eq_true rfl) ⟨Nat.le_of_ble_eq_true rfl, Nat.le_of_ble_eq_true rfl⟩ (fun b hb => met_Mender_leftOut  hb) (fun r2 hr2 => ?_)
  refine gl (i' := 11) (fun _ _ => aw_istore_n K (dOf ck_mX11_mended rfl rfl) (Nat.le_of_ble_eq_true rfl)) ?_
  refine g_lv (lv' := [(2, .inl _), (0, .inr (.inr (.inl (some _)))), (1, .inl _)]) rfl ?_
  refine gl (i' := 12) (fun _ _ => aw_iload_n K (dOf ck_mX11_mended rfl rfl) rfl) ?_
  refine gl (i' := 13) (fun _ _ => aw_iconst K (n := -1) (i32 _ rfl) (dOf ck_mX11_mended rfl rfl)) ?_
  refine g_icmp_eq K (dOf ck_mX11_mended rfl rfl) (t := 17) (aJ_of (by decide +kernel)) (fun h3 => ?_) (fun h3 => ?_)
  · refine g_sub [0] rfl ?_
    exact lk_B_mended_17 K _ _
  · refine gl (i' := 15) (fun _ _ => aw_iload_n K (dOf ck_mX11_mended rfl rfl) rfl) ?_
    refine gl (i' := 16) (fun _ _ => aw_iconst K (n := 1) (i32 _ rfl) (dOf ck_mX11_mended rfl rfl)) ?_
    refine g_icmp_ne K (dOf ck_mX11_mended rfl rfl) (t := 19) (aJ_of (by decide +kernel)) (fun h4 => ?_) (fun h4 => ?_)
    · refine g_sub [0] rfl ?_
      exact lk_B_mended_17 K _ _
    · refine gl (i' := 20) (fun _ _ => aw_iload_n K (dOf ck_mX11_mended rfl rfl) rfl) ?_
      refine g_callSI K [.inl _] rfl (dOf ck_mX11_mended rfl rfl) al_OneBreath_284 wd_993 rfl (Nat.le_of_ble_eq_true rfl) ⟨Nat.le_of_ble_eq_true rfl, Nat.le_of_ble_eq_true rfl⟩ (fun b hb => met_Jint_bitCount  hb) (fun r5 hr5 => ?_)
      exact g_iret K (by decide +kernel) rfl (Or.inl rfl) rfl
def B_mended (x1 : Int) (mm : aM) : Option (Int × aM) := if x1 = 0 then (B_mended_7 x1 mm) else (if x1 = 1 then (B_mended_7 x1 mm) else (some ((-2), mm)))
set_option maxHeartbeats 4000000 in
theorem met_B_mended {l : Launch} {D : va_G} {cA : FieldType → ClassId} {ad adV : Nat → Nat} {z0 : Nat} {x1 : Int} {mm : aM}  {r : Int × aM} (h : B_mended x1 mm = some r) : aMet l D cA ad adV z0 mX11_mended 6 155 0 0 [.inr (.inr (.inl (some 0))), .inl x1] SH mm (rIM r).1 SH (rIM r).2 := by
  refine aMet_ofG (by decide +kernel) rfl (Nat.le_of_ble_eq_true rfl) h (fun p e s m args below meth c al0 K => ?_)
  unfold B_mended
  refine gl (i' := 1) (fun _ _ => aw_iload_n K (dOf ck_mX11_mended rfl rfl) rfl) ?_
  refine g_if_eq K (dOf ck_mX11_mended rfl rfl) (t := 7) (aJ_of (by decide +kernel)) (fun h1 => ?_) (fun h1 => ?_)
  · refine g_sub [0, 1] rfl ?_
    exact lk_B_mended_7 K _ _
  · refine gl (i' := 3) (fun _ _ => aw_iload_n K (dOf ck_mX11_mended rfl rfl) rfl) ?_
    refine gl (i' := 4) (fun _ _ => aw_iconst K (n := 1) (i32 _ rfl) (dOf ck_mX11_mended rfl rfl)) ?_
    refine g_icmp_eq K (dOf ck_mX11_mended rfl rfl) (t := 7) (aJ_of (by decide +kernel)) (fun h6 => ?_) (fun h6 => ?_)
    · refine g_sub [0, 1] rfl ?_
      exact lk_B_mended_7 K _ _
    · refine gl (i' := 6) (fun _ _ => aw_bip K (dOf ck_mX11_mended rfl rfl) (v := -2) rfl) ?_
      exact g_iret K (dOf ck_mX11_mended rfl rfl).1 rfl (Or.inl rfl) rfl
def Mender_isThereWith (x1 : Int) (x2 : Int) (x3 : Int) (mm : aM) : Option (Int × aM) := if 0 ≤ x1 ∧ x1 < 12 then (if 0 ≤ (mm 41 x1.toNat) then (if 0 + (mm 41 x1.toNat) ≤ 6 then (if 0 + (mm 41 x1.toNat) ≤ 40 then (st1 (aupr mm 106 (aCpy (mm (25 + 4 + x1.toNat)) (mm 106) 0 0 (mm 41 x1.toNat).toNat)) fun mm5 => (if 0 ≤ x2 ∧ x2 < 40 then (st1 (aup mm5 106 x2.toNat (w8 (w8 x3))) fun mm7 => ((Tongue_findWord 25 106 (mm 41 x1.toNat) mm7).bind fun r8 => (if r8 = (-1) then (some (0, mm7)) else (some (1, mm7))))) else none)) else none) else none) else none) else none
set_option maxHeartbeats 4000000 in
theorem met_Mender_isThereWith {l : Launch} {D : va_G} {cA : FieldType → ClassId} {ad adV : Nat → Nat} {z0 : Nat} {x1 : Int} {x2 : Int} {x3 : Int} {mm : aM}  {r : Int × aM} (h : Mender_isThereWith x1 x2 x3 mm = some r) : aMet l D cA ad adV z0 mX3_isThereWith 2 47 0 0 [.inr (.inr (.inl (some 79))), .inl x1, .inl x2, .inl x3] SH mm (rIM r).1 SH (rIM r).2 := by
  refine aMet_ofG (by decide +kernel) rfl (Nat.le_of_ble_eq_true rfl) h (fun p e s m args below meth c al0 K => ?_)
  unfold Mender_isThereWith
  refine gl (i' := 1) (fun _ _ => aw_aload_n K (dOf ck_mX3_isThereWith rfl rfl) rfl) ?_
  refine gl (i' := 2) (fun _ _ => aw_getf K (dOf ck_mX3_isThereWith rfl rfl) rfl rfl (Nat.le_of_ble_eq_true rfl) wd_418 (k := 0) rfl) ?_
  refine gl (i' := 3) (fun _ _ => aw_getf K (dOf ck_mX3_isThereWith rfl rfl) rfl rfl (Nat.le_of_ble_eq_true rfl) wd_243 (k := 9) rfl) ?_
  refine gl (i' := 4) (fun _ _ => aw_iload_n K (dOf ck_mX3_isThereWith rfl rfl) rfl) ?_
  refine g_gd (fun hb1 => ?_)
  refine gl (i' := 5) (fun _ _ => aw_iald K (dOf ck_mX3_isThereWith rfl rfl) rfl hb1) ?_
  refine gl (i' := 6) (fun _ _ => aw_istore K (dOf ck_mX3_isThereWith rfl rfl) (Nat.le_of_ble_eq_true rfl)) ?_
  refine g_lv (lv' := [(4, .inl _), (0, .inr (.inr (.inl (some _)))), (1, .inl _), (2, .inl _), (3, .inl _)]) rfl ?_
  refine gl (i' := 7) (fun _ _ => aw_aload_n K (dOf ck_mX3_isThereWith rfl rfl) rfl) ?_
  refine gl (i' := 8) (fun _ _ => aw_getf K (dOf ck_mX3_isThereWith rfl rfl) rfl rfl (Nat.le_of_ble_eq_true rfl) wd_418 (k := 0) rfl) ?_
  refine gl (i' := 9) (fun _ _ => aw_getf K (dOf ck_mX3_isThereWith rfl rfl) rfl rfl (Nat.le_of_ble_eq_true rfl) wd_234 (k := 8) rfl) ?_
  refine gl (i' := 10) (fun _ _ => aw_iload_n K (dOf ck_mX3_isThereWith rfl rfl) rfl) ?_
  refine gl (i' := 11) (fun _ _ => aw_aald K (dOf ck_mX3_isThereWith rfl rfl) (shTa (t := 25) (by unfold okT; omega)) hb1 (rsT_at hb1)) ?_
  refine gl (i' := 12) (fun _ _ => aw_iconst K (n := 0) (i32 _ rfl) (dOf ck_mX3_isThereWith rfl rfl)) ?_
  refine gl (i' := 13) (fun _ _ => aw_aload_n K (dOf ck_mX3_isThereWith rfl rfl) rfl) ?_
  refine gl (i' := 14) (fun _ _ => aw_getf K (dOf ck_mX3_isThereWith rfl rfl) rfl rfl (Nat.le_of_ble_eq_true rfl) wd_421 (k := 3) rfl) ?_
  refine gl (i' := 15) (fun _ _ => aw_getf K (dOf ck_mX3_isThereWith rfl rfl) rfl rfl (Nat.le_of_ble_eq_true rfl) wd_297 (k := 0) rfl) ?_
  refine gl (i' := 16) (fun _ _ => aw_iconst K (n := 0) (i32 _ rfl) (dOf ck_mX3_isThereWith rfl rfl)) ?_
  refine gl (i' := 17) (fun _ _ => aw_iload K (dOf ck_mX3_isThereWith rfl rfl) rfl) ?_
  refine g_gd (fun hb2 => ?_)
  refine g_gd (fun hb3 => ?_)
  refine g_gd (fun hb4 => ?_)
  refine g_st1 ?_
  refine gl (i' := 18) (fun _ _ => aw_copy K (dOf ck_mX3_isThereWith rfl rfl) ⟨wd_1014, wd_611, wd_610, wd_157⟩ (shTr (t := 25) (by unfold okT; omega) hb1) rfl (by decide) (by decide) hb2 hb3 hb4 (Nat.le_of_ble_eq_true rfl) ⟨Nat.le_of_ble_eq_true rfl, Nat.le_of_ble_eq_true rfl⟩) ?_
  refine gl (i' := 19) (fun _ _ => aw_aload_n K (dOf ck_mX3_isThereWith rfl rfl) rfl) ?_
  refine gl (i' := 20) (fun _ _ => aw_getf K (dOf ck_mX3_isThereWith rfl rfl) rfl rfl (Nat.le_of_ble_eq_true rfl) wd_421 (k := 3) rfl) ?_
  refine gl (i' := 21) (fun _ _ => aw_getf K (dOf ck_mX3_isThereWith rfl rfl) rfl rfl (Nat.le_of_ble_eq_true rfl) wd_297 (k := 0) rfl) ?_
  refine gl (i' := 22) (fun _ _ => aw_iload_n K (dOf ck_mX3_isThereWith rfl rfl) rfl) ?_
  refine gl (i' := 23) (fun _ _ => aw_iload_n K (dOf ck_mX3_isThereWith rfl rfl) rfl) ?_
  refine gl (i' := 24) (fun _ _ => aw_i2b K (dOf ck_mX3_isThereWith rfl rfl)) ?_
  refine g_gd (fun hb6 => ?_)
  refine g_st1 ?_
  refine gl (i' := 25) (fun _ _ => aw_bast K (dOf ck_mX3_isThereWith rfl rfl) rfl hb6) ?_
  refine gl (i' := 26) (fun _ _ => aw_aload_n K (dOf ck_mX3_isThereWith rfl rfl) rfl) ?_
  refine gl (i' := 27) (fun _ _ => aw_getf K (dOf ck_mX3_isThereWith rfl rfl) rfl rfl (Nat.le_of_ble_eq_true rfl) wd_418 (k := 0) rfl) ?_
  refine gl (i' := 28) (fun _ _ => aw_aload_n K (dOf ck_mX3_isThereWith rfl rfl) rfl) ?_
  refine gl (i' := 29) (fun _ _ => aw_getf K (dOf ck_mX3_isThereWith rfl rfl) rfl rfl (Nat.le_of_ble_eq_true rfl) wd_421 (k := 3) rfl) ?_
  refine gl (i' := 30) (fun _ _ => aw_getf K (dOf ck_mX3_isThereWith rfl rfl) rfl rfl (Nat.le_of_ble_eq_true rfl) wd_297 (k := 0) rfl) ?_
  refine gl (i' := 31) (fun _ _ => aw_iload K (dOf ck_mX3_isThereWith rfl rfl) rfl) ?_
  refine g_callVI K [.inr (.inr (.inl (some _))), .inl _] rfl (dOf ck_mX3_isThereWith rfl rfl) al_OneBreath_Mender_143 rfl rfl ⟨wd_592, wd_593⟩ rfl (Nat.le_of_ble_eq_true rfl) ⟨Nat.le_of_ble_eq_true rfl, Nat.le_of_ble_eq_true rfl⟩ (fun b hb => met_Tongue_findWord (by unfold okT; omega) ⟨_, rfl⟩ hb) (fun r8 hr8 => ?_)
  refine gl (i' := 33) (fun _ _ => aw_iconst K (n := -1) (i32 _ rfl) (dOf ck_mX3_isThereWith rfl rfl)) ?_
  refine g_icmp_eq K (dOf ck_mX3_isThereWith rfl rfl) (t := 36) (aJ_of (by decide +kernel)) (fun h9 => ?_) (fun h9 => ?_)
  · refine gl (i' := 37) (fun _ _ => aw_iconst K (n := 0) (i32 _ rfl) (dOf ck_mX3_isThereWith rfl rfl)) ?_
    exact g_iret K (by decide +kernel) rfl (Or.inr (Or.inl ⟨rfl, Or.inl rfl⟩)) rfl
  · refine gl (i' := 35) (fun _ _ => aw_iconst K (n := 1) (i32 _ rfl) (dOf ck_mX3_isThereWith rfl rfl)) ?_
    refine g_goto K (dOf ck_mX3_isThereWith rfl rfl).1 (t := 37) (aJ_of (by decide +kernel)) ?_
    exact g_iret K (by decide +kernel) rfl (Or.inr (Or.inl ⟨rfl, Or.inr rfl⟩)) rfl
def Twins_putSound (x1 : Int) (x2 : Int) (x3 : Int) (mm : aM) : Option aM := if 0 ≤ x1 ∧ x1 < 13 then (if 0 ≤ x2 ∧ x2 < 7 then (st1 (aup mm (82 + x1.toNat) x2.toNat (w8 (w8 x3))) fun mm3 => (some mm3)) else none) else none
set_option maxHeartbeats 4000000 in
theorem met_Twins_putSound {l : Launch} {D : va_G} {cA : FieldType → ClassId} {ad adV : Nat → Nat} {z0 : Nat} {x1 : Int} {x2 : Int} {x3 : Int} {mm : aM}  {r : aM} (h : Twins_putSound x1 x2 x3 mm = some r) : aMet l D cA ad adV z0 mX9_putSound 0 0 0 0 [.inr (.inr (.inl (some 80))), .inl x1, .inl x2, .inl x3] SH mm (rM r).1 SH (rM r).2 := by
  refine aMet_ofG (by decide +kernel) rfl (Nat.le_of_ble_eq_true rfl) h (fun p e s m args below meth c al0 K => ?_)
  unfold Twins_putSound
  refine gl (i' := 1) (fun _ _ => aw_aload_n K (dOf ck_mX9_putSound rfl rfl) rfl) ?_
  refine gl (i' := 2) (fun _ _ => aw_getf K (dOf ck_mX9_putSound rfl rfl) rfl rfl (Nat.le_of_ble_eq_true rfl) wd_394 (k := 3) rfl) ?_
  refine gl (i' := 3) (fun _ _ => aw_iload_n K (dOf ck_mX9_putSound rfl rfl) rfl) ?_
  refine g_gd (fun hb1 => ?_)
  refine gl (i' := 4) (fun _ _ => aw_aald K (dOf ck_mX9_putSound rfl rfl) shWa hb1 (rsW_at hb1)) ?_
  refine gl (i' := 5) (fun _ _ => aw_iload_n K (dOf ck_mX9_putSound rfl rfl) rfl) ?_
  refine gl (i' := 6) (fun _ _ => aw_iload_n K (dOf ck_mX9_putSound rfl rfl) rfl) ?_
  refine gl (i' := 7) (fun _ _ => aw_i2b K (dOf ck_mX9_putSound rfl rfl)) ?_
  refine g_gd (fun hb2 => ?_)
  refine g_st1 ?_
  refine gl (i' := 8) (fun _ _ => aw_bast K (dOf ck_mX9_putSound rfl rfl) (shWr hb1) hb2) ?_
  exact g_vret K (by decide +kernel) rfl rfl
def Mender_findChange_73 (k24 : Int → aM → Option aM) (k31 : Int → aM → Option aM) (k40 : Int → aM → Option aM) (x1 : Int) (x2 : Int) (x3 : Int) (mm : aM) : Option aM := k40 (w32 (x3 + 1)) mm
set_option maxHeartbeats 4000000 in
theorem lk_Mender_findChange_73 {p : Program} {l : Launch} {e : Env} {s : State} {m : MethodId} {args : Array Value} {below : List Frame} {meth : Method} {c : Code} {D : va_G} {cA : FieldType → ClassId} {ad adV : Nat → Nat} {z0 : Nat} {al0 : List Nat} (K : aK p s m args meth c mX3_findChange D cA ad adV z0) (x1 : Int) (x2 : Int) (x3 : Int) (k24 : Int → aM → Option aM) (hk24 : ∀ (x1 : Int) (mm : aM), aG p l e { frames := 5, cells := 0, slots := 0, locals := 133 } s m args below meth c D cA ad z0 mX3_findChange al0 rM (k24 x1 mm) 24 [(0, .inr (.inr (.inl (some 79)))), (1, .inl x1)] [] mm) (k31 : Int → aM → Option aM) (hk31 : ∀ (x2 : Int) (mm : aM), aG p l e { frames := 5, cells := 0, slots := 0, locals := 133 } s m args below meth c D cA ad z0 mX3_findChange al0 rM (k31 x2 mm) 31 [(0, .inr (.inr (.inl (some 79)))), (1, .inl x1), (2, .inl x2)] [] mm) (k40 : Int → aM → Option aM) (hk40 : ∀ (x3 : Int) (mm : aM), aG p l e { frames := 5, cells := 0, slots := 0, locals := 133 } s m args below meth c D cA ad z0 mX3_findChange al0 rM (k40 x3 mm) 40 [(0, .inr (.inr (.inl (some 79)))), (1, .inl x1), (2, .inl x2), (3, .inl x3)] [] mm)  (mm : aM) : aG p l e { frames := 5, cells := 0, slots := 0, locals := 133 } s m args below meth c D cA ad z0 mX3_findChange al0 rM (Mender_findChange_73 k24 k31 k40 x1 x2 x3 mm) 73 [(0, .inr (.inr (.inl (some 79)))), (1, .inl x1), (2, .inl x2), (3, .inl x3)] [] mm := by
  unfold Mender_findChange_73
  refine gl (i' := 74) (fun _ _ => aw_iinc K (dOf ck_mX3_findChange rfl rfl) (Nat.le_of_ble_eq_true rfl) rfl) ?_
  refine g_lv (lv' := [(3, .inl _), (0, .inr (.inr (.inl (some _)))), (1, .inl _), (2, .inl _)]) rfl ?_
  refine g_goto K (dOf ck_mX3_findChange rfl rfl).1 (t := 40) (aJ_of (by decide +kernel)) ?_
  refine g_sub [1, 2, 3, 0] rfl ?_
  exact hk40 _ _
def Mender_findChange_40 (k24 : Int → aM → Option aM) (k31 : Int → aM → Option aM) (x1 : Int) (x2 : Int) : Nat → Int → aM → Option aM
  | 0, _, _ => none
  | n + 1, x3, mm => if x3 < (mm 25 1) then ((Mender_isThereWith x1 x2 x3 mm).bind fun r14 => (if r14.1 = 0 then ((Twins_putSound x1 x2 x3 r14.2).bind fun r16 => ((Twins_shortest 0 r16).bind fun r17 => (if r17.1 = (-1) then (st1 (aup r17.2 79 12 x1) fun mm19 => (st1 (aup mm19 79 13 x2) fun mm20 => (st1 (aup mm20 79 14 x3) fun mm21 => (some mm21)))) else (Mender_findChange_73 k24 k31 (Mender_findChange_40 k24 k31 x1 x2 n) x1 x2 x3 r17.2)))) else (Mender_findChange_73 k24 k31 (Mender_findChange_40 k24 k31 x1 x2 n) x1 x2 x3 r14.2))) else (if 0 ≤ x1 ∧ x1 < 12 then (if 0 ≤ x2 ∧ x2 < 6 then ((Twins_putSound x1 x2 (mm (25 + 4 + x1.toNat) x2.toNat) mm).bind fun r13 => (k31 (w32 (x2 + 1)) r13)) else none) else none)
set_option maxHeartbeats 4000000 in
theorem lk_Mender_findChange_40 {p : Program} {l : Launch} {e : Env} {s : State} {m : MethodId} {args : Array Value} {below : List Frame} {meth : Method} {c : Code} {D : va_G} {cA : FieldType → ClassId} {ad adV : Nat → Nat} {z0 : Nat} {al0 : List Nat} (K : aK p s m args meth c mX3_findChange D cA ad adV z0) (x1 : Int) (x2 : Int) (k24 : Int → aM → Option aM) (hk24 : ∀ (x1 : Int) (mm : aM), aG p l e { frames := 5, cells := 0, slots := 0, locals := 133 } s m args below meth c D cA ad z0 mX3_findChange al0 rM (k24 x1 mm) 24 [(0, .inr (.inr (.inl (some 79)))), (1, .inl x1)] [] mm) (k31 : Int → aM → Option aM) (hk31 : ∀ (x2 : Int) (mm : aM), aG p l e { frames := 5, cells := 0, slots := 0, locals := 133 } s m args below meth c D cA ad z0 mX3_findChange al0 rM (k31 x2 mm) 31 [(0, .inr (.inr (.inl (some 79)))), (1, .inl x1), (2, .inl x2)] [] mm)  : ∀ (n : Nat) (x3 : Int) (mm : aM), aG p l e { frames := 5, cells := 0, slots := 0, locals := 133 } s m args below meth c D cA ad z0 mX3_findChange al0 rM (Mender_findChange_40 k24 k31 x1 x2 n x3 mm) 40 [(0, .inr (.inr (.inl (some 79)))), (1, .inl x1), (2, .inl x2), (3, .inl x3)] [] mm := by
  intro n
  induction n with
  | zero => intro x3 mm; exact g_none
  | succ n ih =>
    intro x3 mm
    rw [Mender_findChange_40]
    refine gl (i' := 41) (fun _ _ => aw_iload_n K (dOf ck_mX3_findChange rfl rfl) rfl) ?_
    refine gl (i' := 42) (fun _ _ => aw_aload_n K (dOf ck_mX3_findChange rfl rfl) rfl) ?_
    refine gl (i' := 43) (fun _ _ => aw_getf K (dOf ck_mX3_findChange rfl rfl) rfl rfl (Nat.le_of_ble_eq_true rfl) wd_418 (k := 0) rfl) ?_
    refine gl (i' := 44) (fun _ _ => aw_getf K (dOf ck_mX3_findChange rfl rfl) rfl rfl (Nat.le_of_ble_eq_true rfl) wd_194 (k := 1) rfl) ?_
    refine g_icmp_ge K (dOf ck_mX3_findChange rfl rfl) (t := 75) (aJ_of (by decide +kernel)) (fun h10 => ?_) (fun h10 => ?_)
    · refine gl (i' := 46) (fun _ _ => aw_aload_n K (dOf ck_mX3_findChange rfl rfl) rfl) ?_
      refine gl (i' := 47) (fun _ _ => aw_iload_n K (dOf ck_mX3_findChange rfl rfl) rfl) ?_
      refine gl (i' := 48) (fun _ _ => aw_iload_n K (dOf ck_mX3_findChange rfl rfl) rfl) ?_
      refine gl (i' := 49) (fun _ _ => aw_iload_n K (dOf ck_mX3_findChange rfl rfl) rfl) ?_
      refine g_callVIM K [.inl _, .inl _, .inl _] rfl (dOf ck_mX3_findChange rfl rfl) al_OneBreath_Mender_179 rfl rfl ⟨wd_1012, wd_54⟩ rfl (Nat.le_of_ble_eq_true rfl) ⟨Nat.le_of_ble_eq_true rfl, Nat.le_of_ble_eq_true rfl⟩ (fun b hb => met_Mender_isThereWith  hb) (fun r14 hr14 => ?_)
      refine g_if_ne K (dOf ck_mX3_findChange rfl rfl) (t := 73) (aJ_of (by decide +kernel)) (fun h15 => ?_) (fun h15 => ?_)
      · refine gl (i' := 52) (fun _ _ => aw_aload_n K (dOf ck_mX3_findChange rfl rfl) rfl) ?_
        refine gl (i' := 53) (fun _ _ => aw_getf K (dOf ck_mX3_findChange rfl rfl) rfl rfl (Nat.le_of_ble_eq_true rfl) wd_420 (k := 2) rfl) ?_
        refine gl (i' := 54) (fun _ _ => aw_iload_n K (dOf ck_mX3_findChange rfl rfl) rfl) ?_
        refine gl (i' := 55) (fun _ _ => aw_iload_n K (dOf ck_mX3_findChange rfl rfl) rfl) ?_
        refine gl (i' := 56) (fun _ _ => aw_iload_n K (dOf ck_mX3_findChange rfl rfl) rfl) ?_
        refine g_callVM K [.inl _, .inl _, .inl _] rfl (dOf ck_mX3_findChange rfl rfl) al_OneBreath_Mender_183 rfl rfl ⟨wd_1016, wd_1017⟩ rfl (Nat.le_of_ble_eq_true rfl) ⟨Nat.le_of_ble_eq_true rfl, Nat.le_of_ble_eq_true rfl⟩ (fun b hb => met_Twins_putSound  hb) (fun r16 hr16 => ?_)
        refine gl (i' := 58) (fun _ _ => aw_aload_n K (dOf ck_mX3_findChange rfl rfl) rfl) ?_
        refine gl (i' := 59) (fun _ _ => aw_getf K (dOf ck_mX3_findChange rfl rfl) rfl rfl (Nat.le_of_ble_eq_true rfl) wd_420 (k := 2) rfl) ?_
        refine gl (i' := 60) (fun _ _ => aw_iconst K (n := 0) (i32 _ rfl) (dOf ck_mX3_findChange rfl rfl)) ?_
        refine g_callVIM K [.inl _] rfl (dOf ck_mX3_findChange rfl rfl) al_OneBreath_Mender_79 rfl rfl ⟨wd_827, wd_828⟩ rfl (Nat.le_of_ble_eq_true rfl) ⟨Nat.le_of_ble_eq_true rfl, Nat.le_of_ble_eq_true rfl⟩ (fun b hb => met_Twins_shortest  hb) (fun r17 hr17 => ?_)
        refine gl (i' := 62) (fun _ _ => aw_iconst K (n := -1) (i32 _ rfl) (dOf ck_mX3_findChange rfl rfl)) ?_
        refine g_icmp_ne K (dOf ck_mX3_findChange rfl rfl) (t := 73) (aJ_of (by decide +kernel)) (fun h18 => ?_) (fun h18 => ?_)
        · refine gl (i' := 64) (fun _ _ => aw_aload_n K (dOf ck_mX3_findChange rfl rfl) rfl) ?_
          refine gl (i' := 65) (fun _ _ => aw_iload_n K (dOf ck_mX3_findChange rfl rfl) rfl) ?_
          refine g_st1 ?_
          refine gl (i' := 66) (fun _ _ => aw_putf K (dOf ck_mX3_findChange rfl rfl) rfl rfl (Nat.le_of_ble_eq_true rfl) wd_432 (k := 12) rfl rfl (Or.inl rfl)) ?_
          refine gl (i' := 67) (fun _ _ => aw_aload_n K (dOf ck_mX3_findChange rfl rfl) rfl) ?_
          refine gl (i' := 68) (fun _ _ => aw_iload_n K (dOf ck_mX3_findChange rfl rfl) rfl) ?_
          refine g_st1 ?_
          refine gl (i' := 69) (fun _ _ => aw_putf K (dOf ck_mX3_findChange rfl rfl) rfl rfl (Nat.le_of_ble_eq_true rfl) wd_434 (k := 13) rfl rfl (Or.inl rfl)) ?_
          refine gl (i' := 70) (fun _ _ => aw_aload_n K (dOf ck_mX3_findChange rfl rfl) rfl) ?_
          refine gl (i' := 71) (fun _ _ => aw_iload_n K (dOf ck_mX3_findChange rfl rfl) rfl) ?_
          refine g_st1 ?_
          refine gl (i' := 72) (fun _ _ => aw_putf K (dOf ck_mX3_findChange rfl rfl) rfl rfl (Nat.le_of_ble_eq_true rfl) wd_436 (k := 14) rfl rfl (Or.inl rfl)) ?_
          exact g_vret K (dOf ck_mX3_findChange rfl rfl).1 rfl rfl
        · refine g_sub [0, 1, 2, 3] rfl ?_
          exact lk_Mender_findChange_73 K _ _ _ _ hk24 _ hk31 _ ih _
      · refine g_sub [0, 1, 2, 3] rfl ?_
        exact lk_Mender_findChange_73 K _ _ _ _ hk24 _ hk31 _ ih _
    · refine gl (i' := 76) (fun _ _ => aw_aload_n K (dOf ck_mX3_findChange rfl rfl) rfl) ?_
      refine gl (i' := 77) (fun _ _ => aw_getf K (dOf ck_mX3_findChange rfl rfl) rfl rfl (Nat.le_of_ble_eq_true rfl) wd_420 (k := 2) rfl) ?_
      refine gl (i' := 78) (fun _ _ => aw_iload_n K (dOf ck_mX3_findChange rfl rfl) rfl) ?_
      refine gl (i' := 79) (fun _ _ => aw_iload_n K (dOf ck_mX3_findChange rfl rfl) rfl) ?_
      refine gl (i' := 80) (fun _ _ => aw_aload_n K (dOf ck_mX3_findChange rfl rfl) rfl) ?_
      refine gl (i' := 81) (fun _ _ => aw_getf K (dOf ck_mX3_findChange rfl rfl) rfl rfl (Nat.le_of_ble_eq_true rfl) wd_418 (k := 0) rfl) ?_
      refine gl (i' := 82) (fun _ _ => aw_getf K (dOf ck_mX3_findChange rfl rfl) rfl rfl (Nat.le_of_ble_eq_true rfl) wd_234 (k := 8) rfl) ?_
      refine gl (i' := 83) (fun _ _ => aw_iload_n K (dOf ck_mX3_findChange rfl rfl) rfl) ?_
      refine g_gd (fun hb11 => ?_)
      refine gl (i' := 84) (fun _ _ => aw_aald K (dOf ck_mX3_findChange rfl rfl) (shTa (t := 25) (by unfold okT; omega)) hb11 (rsT_at hb11)) ?_
      refine gl (i' := 85) (fun _ _ => aw_iload_n K (dOf ck_mX3_findChange rfl rfl) rfl) ?_
      refine g_gd (fun hb12 => ?_)
      refine gl (i' := 86) (fun _ _ => aw_bald K (dOf ck_mX3_findChange rfl rfl) (shTr (t := 25) (by unfold okT; omega) hb11) hb12) ?_
      refine g_callVM K [.inl _, .inl _, .inl _] rfl (dOf ck_mX3_findChange rfl rfl) al_OneBreath_Mender_183 rfl rfl ⟨wd_1016, wd_1017⟩ rfl (Nat.le_of_ble_eq_true rfl) ⟨Nat.le_of_ble_eq_true rfl, Nat.le_of_ble_eq_true rfl⟩ (fun b hb => met_Twins_putSound  hb) (fun r13 hr13 => ?_)
      refine gl (i' := 88) (fun _ _ => aw_iinc K (dOf ck_mX3_findChange rfl rfl) (Nat.le_of_ble_eq_true rfl) rfl) ?_
      refine g_lv (lv' := [(2, .inl _), (0, .inr (.inr (.inl (some _)))), (1, .inl _), (3, .inl _)]) rfl ?_
      refine g_goto K (dOf ck_mX3_findChange rfl rfl).1 (t := 31) (aJ_of (by decide +kernel)) ?_
      refine g_sub [1, 2, 0] rfl ?_
      exact hk31 _ _
def Mender_findChange_31 (k24 : Int → aM → Option aM) (x1 : Int) : Nat → Int → aM → Option aM
  | 0, _, _ => none
  | n + 1, x2, mm => if 0 ≤ x1 ∧ x1 < 12 then (if x2 < (mm 41 x1.toNat) then (Mender_findChange_40 k24 (Mender_findChange_31 k24 x1 n) x1 x2 FU 0 mm) else (k24 (w32 (x1 + 1)) mm)) else none
set_option maxHeartbeats 4000000 in
theorem lk_Mender_findChange_31 {p : Program} {l : Launch} {e : Env} {s : State} {m : MethodId} {args : Array Value} {below : List Frame} {meth : Method} {c : Code} {D : va_G} {cA : FieldType → ClassId} {ad adV : Nat → Nat} {z0 : Nat} {al0 : List Nat} (K : aK p s m args meth c mX3_findChange D cA ad adV z0) (x1 : Int) (k24 : Int → aM → Option aM) (hk24 : ∀ (x1 : Int) (mm : aM), aG p l e { frames := 5, cells := 0, slots := 0, locals := 133 } s m args below meth c D cA ad z0 mX3_findChange al0 rM (k24 x1 mm) 24 [(0, .inr (.inr (.inl (some 79)))), (1, .inl x1)] [] mm)  : ∀ (n : Nat) (x2 : Int) (mm : aM), aG p l e { frames := 5, cells := 0, slots := 0, locals := 133 } s m args below meth c D cA ad z0 mX3_findChange al0 rM (Mender_findChange_31 k24 x1 n x2 mm) 31 [(0, .inr (.inr (.inl (some 79)))), (1, .inl x1), (2, .inl x2)] [] mm := by
  intro n
  induction n with
  | zero => intro x2 mm; exact g_none
  | succ n ih =>
    intro x2 mm
    rw [Mender_findChange_31]
    refine gl (i' := 32) (fun _ _ => aw_iload_n K (dOf ck_mX3_findChange rfl rfl) rfl) ?_
    refine gl (i' := 33) (fun _ _ => aw_aload_n K (dOf ck_mX3_findChange rfl rfl) rfl) ?_
    refine gl (i' := 34) (fun _ _ => aw_getf K (dOf ck_mX3_findChange rfl rfl) rfl rfl (Nat.le_of_ble_eq_true rfl) wd_418 (k := 0) rfl) ?_
    refine gl (i' := 35) (fun _ _ => aw_getf K (dOf ck_mX3_findChange rfl rfl) rfl rfl (Nat.le_of_ble_eq_true rfl) wd_243 (k := 9) rfl) ?_
    refine gl (i' := 36) (fun _ _ => aw_iload_n K (dOf ck_mX3_findChange rfl rfl) rfl) ?_
    refine g_gd (fun hb8 => ?_)
    refine gl (i' := 37) (fun _ _ => aw_iald K (dOf ck_mX3_findChange rfl rfl) rfl hb8) ?_
    refine g_icmp_ge K (dOf ck_mX3_findChange rfl rfl) (t := 89) (aJ_of (by decide +kernel)) (fun h9 => ?_) (fun h9 => ?_)
    · refine gl (i' := 39) (fun _ _ => aw_iconst K (n := 0) (i32 _ rfl) (dOf ck_mX3_findChange rfl rfl)) ?_
      refine gl (i' := 40) (fun _ _ => aw_istore_n K (dOf ck_mX3_findChange rfl rfl) (Nat.le_of_ble_eq_true rfl)) ?_
      refine g_lv (lv' := [(3, .inl _), (0, .inr (.inr (.inl (some _)))), (1, .inl _), (2, .inl _)]) rfl ?_
      refine g_sub [1, 2, 3, 0] rfl ?_
      exact lk_Mender_findChange_40 K _ _ _ hk24 _ ih FU _ _
    · refine gl (i' := 90) (fun _ _ => aw_iinc K (dOf ck_mX3_findChange rfl rfl) (Nat.le_of_ble_eq_true rfl) rfl) ?_
      refine g_lv (lv' := [(1, .inl _), (0, .inr (.inr (.inl (some _)))), (2, .inl _)]) rfl ?_
      refine g_goto K (dOf ck_mX3_findChange rfl rfl).1 (t := 24) (aJ_of (by decide +kernel)) ?_
      refine g_sub [1, 0] rfl ?_
      exact hk24 _ _
def Mender_findChange_24  : Nat → Int → aM → Option aM
  | 0, _, _ => none
  | n + 1, x1, mm => if x1 < (mm 25 2) then (Mender_findChange_31 (Mender_findChange_24 n) x1 FU 0 mm) else (some mm)
set_option maxHeartbeats 4000000 in
theorem lk_Mender_findChange_24 {p : Program} {l : Launch} {e : Env} {s : State} {m : MethodId} {args : Array Value} {below : List Frame} {meth : Method} {c : Code} {D : va_G} {cA : FieldType → ClassId} {ad adV : Nat → Nat} {z0 : Nat} {al0 : List Nat} (K : aK p s m args meth c mX3_findChange D cA ad adV z0)   : ∀ (n : Nat) (x1 : Int) (mm : aM), aG p l e { frames := 5, cells := 0, slots := 0, locals := 133 } s m args below meth c D cA ad z0 mX3_findChange al0 rM (Mender_findChange_24 n x1 mm) 24 [(0, .inr (.inr (.inl (some 79)))), (1, .inl x1)] [] mm := by
  intro n
  induction n with
  | zero => intro x1 mm; exact g_none
  | succ n ih =>
    intro x1 mm
    rw [Mender_findChange_24]
    refine gl (i' := 25) (fun _ _ => aw_iload_n K (dOf ck_mX3_findChange rfl rfl) rfl) ?_
    refine gl (i' := 26) (fun _ _ => aw_aload_n K (dOf ck_mX3_findChange rfl rfl) rfl) ?_
    refine gl (i' := 27) (fun _ _ => aw_getf K (dOf ck_mX3_findChange rfl rfl) rfl rfl (Nat.le_of_ble_eq_true rfl) wd_418 (k := 0) rfl) ?_
    refine gl (i' := 28) (fun _ _ => aw_getf K (dOf ck_mX3_findChange rfl rfl) rfl rfl (Nat.le_of_ble_eq_true rfl) wd_200 (k := 2) rfl) ?_
    refine g_icmp_ge K (dOf ck_mX3_findChange rfl rfl) (t := 91) (aJ_of (by decide +kernel)) (fun h7 => ?_) (fun h7 => ?_)
    · refine gl (i' := 30) (fun _ _ => aw_iconst K (n := 0) (i32 _ rfl) (dOf ck_mX3_findChange rfl rfl)) ?_
      refine gl (i' := 31) (fun _ _ => aw_istore_n K (dOf ck_mX3_findChange rfl rfl) (Nat.le_of_ble_eq_true rfl)) ?_
      refine g_lv (lv' := [(2, .inl _), (0, .inr (.inr (.inl (some _)))), (1, .inl _)]) rfl ?_
      refine g_sub [1, 2, 0] rfl ?_
      exact lk_Mender_findChange_31 K _ _ ih FU _ _
    · exact g_vret K (by decide +kernel) rfl rfl
def Mender_findChange  (mm : aM) : Option aM := if (mm 79 11) = 0 then (st1 (aup mm 79 11 1) fun mm2 => (st1 (aup mm2 79 12 (-1)) fun mm3 => (st1 (aup mm3 79 13 (-1)) fun mm4 => (st1 (aup mm4 79 14 (-1)) fun mm5 => ((Twins_load 0 mm5).bind fun r6 => (Mender_findChange_24 FU 0 r6)))))) else (some mm)
set_option maxHeartbeats 4000000 in
theorem met_Mender_findChange {l : Launch} {D : va_G} {cA : FieldType → ClassId} {ad adV : Nat → Nat} {z0 : Nat}  {mm : aM}  {r : aM} (h : Mender_findChange  mm = some r) : aMet l D cA ad adV z0 mX3_findChange 5 133 0 0 [.inr (.inr (.inl (some 79)))] SH mm (rM r).1 SH (rM r).2 := by
  refine aMet_ofG (by decide +kernel) rfl (Nat.le_of_ble_eq_true rfl) h (fun p e s m args below meth c al0 K => ?_)
  unfold Mender_findChange
  refine gl (i' := 1) (fun _ _ => aw_aload_n K (dOf ck_mX3_findChange rfl rfl) rfl) ?_
  refine gl (i' := 2) (fun _ _ => aw_getf K (dOf ck_mX3_findChange rfl rfl) rfl rfl (Nat.le_of_ble_eq_true rfl) wd_431 (k := 11) rfl) ?_
  refine g_if_eq K (dOf ck_mX3_findChange rfl rfl) (t := 4) (aJ_of (by decide +kernel)) (fun h1 => ?_) (fun h1 => ?_)
  · refine gl (i' := 5) (fun _ _ => aw_aload_n K (dOf ck_mX3_findChange rfl rfl) rfl) ?_
    refine gl (i' := 6) (fun _ _ => aw_iconst K (n := 1) (i32 _ rfl) (dOf ck_mX3_findChange rfl rfl)) ?_
    refine g_st1 ?_
    refine gl (i' := 7) (fun _ _ => aw_putf K (dOf ck_mX3_findChange rfl rfl) rfl rfl (Nat.le_of_ble_eq_true rfl) wd_431 (k := 11) rfl rfl (Or.inr ⟨rfl, Or.inr rfl⟩)) ?_
    refine gl (i' := 8) (fun _ _ => aw_aload_n K (dOf ck_mX3_findChange rfl rfl) rfl) ?_
    refine gl (i' := 9) (fun _ _ => aw_iconst K (n := -1) (i32 _ rfl) (dOf ck_mX3_findChange rfl rfl)) ?_
    refine g_st1 ?_
    refine gl (i' := 10) (fun _ _ => aw_putf K (dOf ck_mX3_findChange rfl rfl) rfl rfl (Nat.le_of_ble_eq_true rfl) wd_432 (k := 12) rfl rfl (Or.inl rfl)) ?_
    refine gl (i' := 11) (fun _ _ => aw_aload_n K (dOf ck_mX3_findChange rfl rfl) rfl) ?_
    refine gl (i' := 12) (fun _ _ => aw_iconst K (n := -1) (i32 _ rfl) (dOf ck_mX3_findChange rfl rfl)) ?_
    refine g_st1 ?_
    refine gl (i' := 13) (fun _ _ => aw_putf K (dOf ck_mX3_findChange rfl rfl) rfl rfl (Nat.le_of_ble_eq_true rfl) wd_434 (k := 13) rfl rfl (Or.inl rfl)) ?_
    refine gl (i' := 14) (fun _ _ => aw_aload_n K (dOf ck_mX3_findChange rfl rfl) rfl) ?_
    refine gl (i' := 15) (fun _ _ => aw_iconst K (n := -1) (i32 _ rfl) (dOf ck_mX3_findChange rfl rfl)) ?_
    refine g_st1 ?_
    refine gl (i' := 16) (fun _ _ => aw_putf K (dOf ck_mX3_findChange rfl rfl) rfl rfl (Nat.le_of_ble_eq_true rfl) wd_436 (k := 14) rfl rfl (Or.inl rfl)) ?_
    refine gl (i' := 17) (fun _ _ => aw_aload_n K (dOf ck_mX3_findChange rfl rfl) rfl) ?_
    refine gl (i' := 18) (fun _ _ => aw_getf K (dOf ck_mX3_findChange rfl rfl) rfl rfl (Nat.le_of_ble_eq_true rfl) wd_420 (k := 2) rfl) ?_
    refine gl (i' := 19) (fun _ _ => aw_aload_n K (dOf ck_mX3_findChange rfl rfl) rfl) ?_
    refine gl (i' := 20) (fun _ _ => aw_getf K (dOf ck_mX3_findChange rfl rfl) rfl rfl (Nat.le_of_ble_eq_true rfl) wd_418 (k := 0) rfl) ?_
    refine gl (i' := 21) (fun _ _ => aw_iconst K (n := 0) (i32 _ rfl) (dOf ck_mX3_findChange rfl rfl)) ?_
    refine g_callVM K [.inr (.inr (.inl (some _))), .inl _] rfl (dOf ck_mX3_findChange rfl rfl) al_OneBreath_Mender_75 rfl rfl ⟨wd_818, wd_819⟩ rfl (Nat.le_of_ble_eq_true rfl) ⟨Nat.le_of_ble_eq_true rfl, Nat.le_of_ble_eq_true rfl⟩ (fun b hb => met_Twins_load  hb) (fun r6 hr6 => ?_)
    refine gl (i' := 23) (fun _ _ => aw_iconst K (n := 0) (i32 _ rfl) (dOf ck_mX3_findChange rfl rfl)) ?_
    refine gl (i' := 24) (fun _ _ => aw_istore_n K (dOf ck_mX3_findChange rfl rfl) (Nat.le_of_ble_eq_true rfl)) ?_
    refine g_lv (lv' := [(1, .inl _), (0, .inr (.inr (.inl (some _))))]) rfl ?_
    refine g_sub [1, 0] rfl ?_
    exact lk_Mender_findChange_24 K FU _ _
  · exact g_vret K (dOf ck_mX3_findChange rfl rfl).1 rfl rfl
def B_changed (x1 : Int) (mm : aM) : Option (Int × aM) := if x1 < 0 then (some ((-2), mm)) else (if 2 < x1 then (some ((-2), mm)) else ((Mender_findChange mm).bind fun r3 => (if x1 = 0 then (some (r3 79 12, r3)) else (if x1 = 1 then (some (r3 79 13, r3)) else (some (r3 79 14, r3))))))
set_option maxHeartbeats 4000000 in
theorem met_B_changed {l : Launch} {D : va_G} {cA : FieldType → ClassId} {ad adV : Nat → Nat} {z0 : Nat} {x1 : Int} {mm : aM}  {r : Int × aM} (h : B_changed x1 mm = some r) : aMet l D cA ad adV z0 mX11_changed 6 156 0 0 [.inr (.inr (.inl (some 0))), .inl x1] SH mm (rIM r).1 SH (rIM r).2 := by
  refine aMet_ofG (by decide +kernel) rfl (Nat.le_of_ble_eq_true rfl) h (fun p e s m args below meth c al0 K => ?_)
  unfold B_changed
  refine gl (i' := 1) (fun _ _ => aw_iload_n K (dOf ck_mX11_changed rfl rfl) rfl) ?_
  refine g_if_lt K (dOf ck_mX11_changed rfl rfl) (t := 5) (aJ_of (by decide +kernel)) (fun h1 => ?_) (fun h1 => ?_)
  · refine gl (i' := 6) (fun _ _ => aw_bip K (dOf ck_mX11_changed rfl rfl) (v := -2) rfl) ?_
    exact g_iret K (dOf ck_mX11_changed rfl rfl).1 rfl (Or.inl rfl) rfl
  · refine gl (i' := 3) (fun _ _ => aw_iload_n K (dOf ck_mX11_changed rfl rfl) rfl) ?_
    refine gl (i' := 4) (fun _ _ => aw_iconst K (n := 2) (i32 _ rfl) (dOf ck_mX11_changed rfl rfl)) ?_
    refine g_icmp_le K (dOf ck_mX11_changed rfl rfl) (t := 7) (aJ_of (by decide +kernel)) (fun h2 => ?_) (fun h2 => ?_)
    · refine gl (i' := 6) (fun _ _ => aw_bip K (dOf ck_mX11_changed rfl rfl) (v := -2) rfl) ?_
      exact g_iret K (dOf ck_mX11_changed rfl rfl).1 rfl (Or.inl rfl) rfl
    · refine gl (i' := 8) (fun _ _ => aw_aload_n K (dOf ck_mX11_changed rfl rfl) rfl) ?_
      refine gl (i' := 9) (fun _ _ => aw_getf K (dOf ck_mX11_changed rfl rfl) rfl rfl (Nat.le_of_ble_eq_true rfl) wd_470 (k := 10) rfl) ?_
      refine g_callVM K [] rfl (dOf ck_mX11_changed rfl rfl) al_OneBreath_289 rfl rfl ⟨wd_1008, wd_1009⟩ rfl (Nat.le_of_ble_eq_true rfl) ⟨Nat.le_of_ble_eq_true rfl, Nat.le_of_ble_eq_true rfl⟩ (fun b hb => met_Mender_findChange  hb) (fun r3 hr3 => ?_)
      refine gl (i' := 11) (fun _ _ => aw_iload_n K (dOf ck_mX11_changed rfl rfl) rfl) ?_
      refine g_if (fun h4 => ?_) (fun h4 => ?_)
      · refine gl (fun _ _ => aw_lookup K (dOf (n := 28) ck_mX11_changed rfl rfl).1 (by decide +kernel) (off := 28) (by rw [h4]; rfl) (t := 12) (aJ_of (by decide +kernel))) ?_
        refine gl (i' := 13) (fun _ _ => aw_aload_n K (dOf ck_mX11_changed rfl rfl) rfl) ?_
        refine gl (i' := 14) (fun _ _ => aw_getf K (dOf ck_mX11_changed rfl rfl) rfl rfl (Nat.le_of_ble_eq_true rfl) wd_470 (k := 10) rfl) ?_
        refine gl (i' := 15) (fun _ _ => aw_getf K (dOf ck_mX11_changed rfl rfl) rfl rfl (Nat.le_of_ble_eq_true rfl) wd_433 (k := 12) rfl) ?_
        exact g_iret K (dOf ck_mX11_changed rfl rfl).1 rfl (Or.inl rfl) rfl
      · refine g_if (fun h5 => ?_) (fun h5 => ?_)
        · refine gl (fun _ _ => aw_lookup K (dOf (n := 28) ck_mX11_changed rfl rfl).1 (by decide +kernel) (off := 36) (by rw [h5]; rfl) (t := 16) (aJ_of (by decide +kernel))) ?_
          refine gl (i' := 17) (fun _ _ => aw_aload_n K (dOf ck_mX11_changed rfl rfl) rfl) ?_
          refine gl (i' := 18) (fun _ _ => aw_getf K (dOf ck_mX11_changed rfl rfl) rfl rfl (Nat.le_of_ble_eq_true rfl) wd_470 (k := 10) rfl) ?_
          refine gl (i' := 19) (fun _ _ => aw_getf K (dOf ck_mX11_changed rfl rfl) rfl rfl (Nat.le_of_ble_eq_true rfl) wd_435 (k := 13) rfl) ?_
          exact g_iret K (dOf ck_mX11_changed rfl rfl).1 rfl (Or.inl rfl) rfl
        · refine gl (fun _ _ => aw_lookup K (dOf (n := 28) ck_mX11_changed rfl rfl).1 (by decide +kernel) (off := 44) (by rw [Op.lookupswitch.offset_cons, if_neg (fun z => h4 z.symm)]; rw [Op.lookupswitch.offset_cons, if_neg (fun z => h5 z.symm)]; rfl) (t := 20) (aJ_of (by decide +kernel))) ?_
          refine gl (i' := 21) (fun _ _ => aw_aload_n K (dOf ck_mX11_changed rfl rfl) rfl) ?_
          refine gl (i' := 22) (fun _ _ => aw_getf K (dOf ck_mX11_changed rfl rfl) rfl rfl (Nat.le_of_ble_eq_true rfl) wd_470 (k := 10) rfl) ?_
          refine gl (i' := 23) (fun _ _ => aw_getf K (dOf ck_mX11_changed rfl rfl) rfl rfl (Nat.le_of_ble_eq_true rfl) wd_437 (k := 14) rfl) ?_
          exact g_iret K (by decide +kernel) rfl (Or.inl rfl) rfl
def Mender_stops_51 (mm : aM) : Option (Int × aM) := some (mm 79 15, mm)
set_option maxHeartbeats 4000000 in
theorem lk_Mender_stops_51 {p : Program} {l : Launch} {e : Env} {s : State} {m : MethodId} {args : Array Value} {below : List Frame} {meth : Method} {c : Code} {D : va_G} {cA : FieldType → ClassId} {ad adV : Nat → Nat} {z0 : Nat} {al0 : List Nat} (K : aK p s m args meth c mX3_stops D cA ad adV z0)   (mm : aM) : aG p l e { frames := 5, cells := 0, slots := 0, locals := 133 } s m args below meth c D cA ad z0 mX3_stops al0 rIM (Mender_stops_51 mm) 51 [(0, .inr (.inr (.inl (some 79))))] [] mm := by
  unfold Mender_stops_51
  refine gl (i' := 52) (fun _ _ => aw_aload_n K (dOf ck_mX3_stops rfl rfl) rfl) ?_
  refine gl (i' := 53) (fun _ _ => aw_getf K (dOf ck_mX3_stops rfl rfl) rfl rfl (Nat.le_of_ble_eq_true rfl) wd_438 (k := 15) rfl) ?_
  exact g_iret K (by decide +kernel) rfl (Or.inl rfl) rfl
def Mender_stops_49 (k12 : Int → aM → Option (Int × aM)) (x1 : Int) (mm : aM) : Option (Int × aM) := k12 (w32 (x1 + 1)) mm
set_option maxHeartbeats 4000000 in
theorem lk_Mender_stops_49 {p : Program} {l : Launch} {e : Env} {s : State} {m : MethodId} {args : Array Value} {below : List Frame} {meth : Method} {c : Code} {D : va_G} {cA : FieldType → ClassId} {ad adV : Nat → Nat} {z0 : Nat} {al0 : List Nat} (K : aK p s m args meth c mX3_stops D cA ad adV z0) (x1 : Int) (k12 : Int → aM → Option (Int × aM)) (hk12 : ∀ (x1 : Int) (mm : aM), aG p l e { frames := 5, cells := 0, slots := 0, locals := 133 } s m args below meth c D cA ad z0 mX3_stops al0 rIM (k12 x1 mm) 12 [(0, .inr (.inr (.inl (some 79)))), (1, .inl x1)] [] mm)  (mm : aM) : aG p l e { frames := 5, cells := 0, slots := 0, locals := 133 } s m args below meth c D cA ad z0 mX3_stops al0 rIM (Mender_stops_49 k12 x1 mm) 49 [(0, .inr (.inr (.inl (some 79)))), (1, .inl x1)] [] mm := by
  unfold Mender_stops_49
  refine gl (i' := 50) (fun _ _ => aw_iinc K (dOf ck_mX3_stops rfl rfl) (Nat.le_of_ble_eq_true rfl) rfl) ?_
  refine g_lv (lv' := [(1, .inl _), (0, .inr (.inr (.inl (some _))))]) rfl ?_
  refine g_goto K (dOf ck_mX3_stops rfl rfl).1 (t := 12) (aJ_of (by decide +kernel)) ?_
  refine g_sub [1, 0] rfl ?_
  exact hk12 _ _
def Mender_stops_47 (k12 : Int → aM → Option (Int × aM)) (k21 : Int → aM → Option (Int × aM)) (x1 : Int) (x2 : Int) (mm : aM) : Option (Int × aM) := k21 (w32 (x2 + 1)) mm
set_option maxHeartbeats 4000000 in
theorem lk_Mender_stops_47 {p : Program} {l : Launch} {e : Env} {s : State} {m : MethodId} {args : Array Value} {below : List Frame} {meth : Method} {c : Code} {D : va_G} {cA : FieldType → ClassId} {ad adV : Nat → Nat} {z0 : Nat} {al0 : List Nat} (K : aK p s m args meth c mX3_stops D cA ad adV z0) (x1 : Int) (x2 : Int) (k12 : Int → aM → Option (Int × aM)) (hk12 : ∀ (x1 : Int) (mm : aM), aG p l e { frames := 5, cells := 0, slots := 0, locals := 133 } s m args below meth c D cA ad z0 mX3_stops al0 rIM (k12 x1 mm) 12 [(0, .inr (.inr (.inl (some 79)))), (1, .inl x1)] [] mm) (k21 : Int → aM → Option (Int × aM)) (hk21 : ∀ (x2 : Int) (mm : aM), aG p l e { frames := 5, cells := 0, slots := 0, locals := 133 } s m args below meth c D cA ad z0 mX3_stops al0 rIM (k21 x2 mm) 21 [(0, .inr (.inr (.inl (some 79)))), (1, .inl x1), (2, .inl x2)] [] mm)  (mm : aM) : aG p l e { frames := 5, cells := 0, slots := 0, locals := 133 } s m args below meth c D cA ad z0 mX3_stops al0 rIM (Mender_stops_47 k12 k21 x1 x2 mm) 47 [(0, .inr (.inr (.inl (some 79)))), (1, .inl x1), (2, .inl x2)] [] mm := by
  unfold Mender_stops_47
  refine gl (i' := 48) (fun _ _ => aw_iinc K (dOf ck_mX3_stops rfl rfl) (Nat.le_of_ble_eq_true rfl) rfl) ?_
  refine g_lv (lv' := [(2, .inl _), (0, .inr (.inr (.inl (some _)))), (1, .inl _)]) rfl ?_
  refine g_goto K (dOf ck_mX3_stops rfl rfl).1 (t := 21) (aJ_of (by decide +kernel)) ?_
  refine g_sub [1, 2, 0] rfl ?_
  exact hk21 _ _
def Mender_stops_21 (k12 : Int → aM → Option (Int × aM)) (x1 : Int) : Nat → Int → aM → Option (Int × aM)
  | 0, _, _ => none
  | n + 1, x2, mm => if x2 < 16 then (if (mm 79 15) = (-1) then ((Jint_bitCount x2 mm).bind fun r7 => (if r7 = x1 then ((Twins_load x2 mm).bind fun r9 => ((Twins_shortest 0 r9).bind fun r10 => (if r10.1 = (-1) then (st1 (aup r10.2 79 15 x2) fun mm12 => (Mender_stops_47 k12 (Mender_stops_21 k12 x1 n) x1 x2 mm12)) else (Mender_stops_47 k12 (Mender_stops_21 k12 x1 n) x1 x2 r10.2)))) else (Mender_stops_47 k12 (Mender_stops_21 k12 x1 n) x1 x2 mm))) else (Mender_stops_49 k12 x1 mm)) else (Mender_stops_49 k12 x1 mm)
set_option maxHeartbeats 4000000 in
theorem lk_Mender_stops_21 {p : Program} {l : Launch} {e : Env} {s : State} {m : MethodId} {args : Array Value} {below : List Frame} {meth : Method} {c : Code} {D : va_G} {cA : FieldType → ClassId} {ad adV : Nat → Nat} {z0 : Nat} {al0 : List Nat} (K : aK p s m args meth c mX3_stops D cA ad adV z0) (x1 : Int) (k12 : Int → aM → Option (Int × aM)) (hk12 : ∀ (x1 : Int) (mm : aM), aG p l e { frames := 5, cells := 0, slots := 0, locals := 133 } s m args below meth c D cA ad z0 mX3_stops al0 rIM (k12 x1 mm) 12 [(0, .inr (.inr (.inl (some 79)))), (1, .inl x1)] [] mm)  : ∀ (n : Nat) (x2 : Int) (mm : aM), aG p l e { frames := 5, cells := 0, slots := 0, locals := 133 } s m args below meth c D cA ad z0 mX3_stops al0 rIM (Mender_stops_21 k12 x1 n x2 mm) 21 [(0, .inr (.inr (.inl (some 79)))), (1, .inl x1), (2, .inl x2)] [] mm := by
  intro n
  induction n with
  | zero => intro x2 mm; exact g_none
  | succ n ih =>
    intro x2 mm
    rw [Mender_stops_21]
    refine gl (i' := 22) (fun _ _ => aw_iload_n K (dOf ck_mX3_stops rfl rfl) rfl) ?_
    refine gl (i' := 23) (fun _ _ => aw_bip K (dOf ck_mX3_stops rfl rfl) (v := 16) rfl) ?_
    refine g_icmp_ge K (dOf ck_mX3_stops rfl rfl) (t := 49) (aJ_of (by decide +kernel)) (fun h5 => ?_) (fun h5 => ?_)
    · refine gl (i' := 25) (fun _ _ => aw_aload_n K (dOf ck_mX3_stops rfl rfl) rfl) ?_
      refine gl (i' := 26) (fun _ _ => aw_getf K (dOf ck_mX3_stops rfl rfl) rfl rfl (Nat.le_of_ble_eq_true rfl) wd_438 (k := 15) rfl) ?_
      refine gl (i' := 27) (fun _ _ => aw_iconst K (n := -1) (i32 _ rfl) (dOf ck_mX3_stops rfl rfl)) ?_
      refine g_icmp_ne K (dOf ck_mX3_stops rfl rfl) (t := 49) (aJ_of (by decide +kernel)) (fun h6 => ?_) (fun h6 => ?_)
      · refine gl (i' := 29) (fun _ _ => aw_iload_n K (dOf ck_mX3_stops rfl rfl) rfl) ?_
        refine g_callSI K [.inl _] rfl (dOf ck_mX3_stops rfl rfl) al_OneBreath_Mender_159 wd_993 rfl (Nat.le_of_ble_eq_true rfl) ⟨Nat.le_of_ble_eq_true rfl, Nat.le_of_ble_eq_true rfl⟩ (fun b hb => met_Jint_bitCount  hb) (fun r7 hr7 => ?_)
        refine gl (i' := 31) (fun _ _ => aw_iload_n K (dOf ck_mX3_stops rfl rfl) rfl) ?_
        refine g_icmp_ne K (dOf ck_mX3_stops rfl rfl) (t := 47) (aJ_of (by decide +kernel)) (fun h8 => ?_) (fun h8 => ?_)
        · refine gl (i' := 33) (fun _ _ => aw_aload_n K (dOf ck_mX3_stops rfl rfl) rfl) ?_
          refine gl (i' := 34) (fun _ _ => aw_getf K (dOf ck_mX3_stops rfl rfl) rfl rfl (Nat.le_of_ble_eq_true rfl) wd_420 (k := 2) rfl) ?_
          refine gl (i' := 35) (fun _ _ => aw_aload_n K (dOf ck_mX3_stops rfl rfl) rfl) ?_
          refine gl (i' := 36) (fun _ _ => aw_getf K (dOf ck_mX3_stops rfl rfl) rfl rfl (Nat.le_of_ble_eq_true rfl) wd_418 (k := 0) rfl) ?_
          refine gl (i' := 37) (fun _ _ => aw_iload_n K (dOf ck_mX3_stops rfl rfl) rfl) ?_
          refine g_callVM K [.inr (.inr (.inl (some _))), .inl _] rfl (dOf ck_mX3_stops rfl rfl) al_OneBreath_Mender_75 rfl rfl ⟨wd_818, wd_819⟩ rfl (Nat.le_of_ble_eq_true rfl) ⟨Nat.le_of_ble_eq_true rfl, Nat.le_of_ble_eq_true rfl⟩ (fun b hb => met_Twins_load  hb) (fun r9 hr9 => ?_)
          refine gl (i' := 39) (fun _ _ => aw_aload_n K (dOf ck_mX3_stops rfl rfl) rfl) ?_
          refine gl (i' := 40) (fun _ _ => aw_getf K (dOf ck_mX3_stops rfl rfl) rfl rfl (Nat.le_of_ble_eq_true rfl) wd_420 (k := 2) rfl) ?_
          refine gl (i' := 41) (fun _ _ => aw_iconst K (n := 0) (i32 _ rfl) (dOf ck_mX3_stops rfl rfl)) ?_
          refine g_callVIM K [.inl _] rfl (dOf ck_mX3_stops rfl rfl) al_OneBreath_Mender_79 rfl rfl ⟨wd_827, wd_828⟩ rfl (Nat.le_of_ble_eq_true rfl) ⟨Nat.le_of_ble_eq_true rfl, Nat.le_of_ble_eq_true rfl⟩ (fun b hb => met_Twins_shortest  hb) (fun r10 hr10 => ?_)
          refine gl (i' := 43) (fun _ _ => aw_iconst K (n := -1) (i32 _ rfl) (dOf ck_mX3_stops rfl rfl)) ?_
          refine g_icmp_ne K (dOf ck_mX3_stops rfl rfl) (t := 47) (aJ_of (by decide +kernel)) (fun h11 => ?_) (fun h11 => ?_)
          · refine gl (i' := 45) (fun _ _ => aw_aload_n K (dOf ck_mX3_stops rfl rfl) rfl) ?_
            refine gl (i' := 46) (fun _ _ => aw_iload_n K (dOf ck_mX3_stops rfl rfl) rfl) ?_
            refine g_st1 ?_
            refine gl (i' := 47) (fun _ _ => aw_putf K (dOf ck_mX3_stops rfl rfl) rfl rfl (Nat.le_of_ble_eq_true rfl) wd_438 (k := 15) rfl rfl (Or.inl rfl)) ?_
            refine g_sub [0, 1, 2] rfl ?_
            exact lk_Mender_stops_47 K _ _ _ hk12 _ ih _
          · refine g_sub [0, 1, 2] rfl ?_
            exact lk_Mender_stops_47 K _ _ _ hk12 _ ih _
        · refine g_sub [0, 1, 2] rfl ?_
          exact lk_Mender_stops_47 K _ _ _ hk12 _ ih _
      · refine g_sub [0, 1] rfl ?_
        exact lk_Mender_stops_49 K _ _ hk12 _
    · refine g_sub [0, 1] rfl ?_
      exact lk_Mender_stops_49 K _ _ hk12 _
def Mender_stops_12  : Nat → Int → aM → Option (Int × aM)
  | 0, _, _ => none
  | n + 1, x1, mm => if 4 < x1 then (Mender_stops_51 mm) else (if (mm 79 15) = (-1) then (Mender_stops_21 (Mender_stops_12 n) x1 FU 0 mm) else (Mender_stops_51 mm))
set_option maxHeartbeats 4000000 in
theorem lk_Mender_stops_12 {p : Program} {l : Launch} {e : Env} {s : State} {m : MethodId} {args : Array Value} {below : List Frame} {meth : Method} {c : Code} {D : va_G} {cA : FieldType → ClassId} {ad adV : Nat → Nat} {z0 : Nat} {al0 : List Nat} (K : aK p s m args meth c mX3_stops D cA ad adV z0)   : ∀ (n : Nat) (x1 : Int) (mm : aM), aG p l e { frames := 5, cells := 0, slots := 0, locals := 133 } s m args below meth c D cA ad z0 mX3_stops al0 rIM (Mender_stops_12 n x1 mm) 12 [(0, .inr (.inr (.inl (some 79)))), (1, .inl x1)] [] mm := by
  intro n
  induction n with
  | zero => intro x1 mm; exact g_none
  | succ n ih =>
    intro x1 mm
    rw [Mender_stops_12]
    refine gl (i' := 13) (fun _ _ => aw_iload_n K (dOf ck_mX3_stops rfl rfl) rfl) ?_
    refine gl (i' := 14) (fun _ _ => aw_iconst K (n := 4) (i32 _ rfl) (dOf ck_mX3_stops rfl rfl)) ?_
    refine g_icmp_gt K (dOf ck_mX3_stops rfl rfl) (t := 51) (aJ_of (by decide +kernel)) (fun h3 => ?_) (fun h3 => ?_)
    · refine g_sub [0] rfl ?_
      exact lk_Mender_stops_51 K _
    · refine gl (i' := 16) (fun _ _ => aw_aload_n K (dOf ck_mX3_stops rfl rfl) rfl) ?_
      refine gl (i' := 17) (fun _ _ => aw_getf K (dOf ck_mX3_stops rfl rfl) rfl rfl (Nat.le_of_ble_eq_true rfl) wd_438 (k := 15) rfl) ?_
      refine gl (i' := 18) (fun _ _ => aw_iconst K (n := -1) (i32 _ rfl) (dOf ck_mX3_stops rfl rfl)) ?_
      refine g_icmp_ne K (dOf ck_mX3_stops rfl rfl) (t := 51) (aJ_of (by decide +kernel)) (fun h4 => ?_) (fun h4 => ?_)
      · refine gl (i' := 20) (fun _ _ => aw_iconst K (n := 0) (i32 _ rfl) (dOf ck_mX3_stops rfl rfl)) ?_
        refine gl (i' := 21) (fun _ _ => aw_istore_n K (dOf ck_mX3_stops rfl rfl) (Nat.le_of_ble_eq_true rfl)) ?_
        refine g_lv (lv' := [(2, .inl _), (0, .inr (.inr (.inl (some _)))), (1, .inl _)]) rfl ?_
        refine g_sub [1, 2, 0] rfl ?_
        exact lk_Mender_stops_21 K _ _ ih FU _ _
      · refine g_sub [0] rfl ?_
        exact lk_Mender_stops_51 K _
def Mender_stops  (mm : aM) : Option (Int × aM) := if (mm 79 15) = (-2) then (st1 (aup mm 79 15 (-1)) fun mm2 => (Mender_stops_12 FU 0 mm2)) else (some (mm 79 15, mm))
set_option maxHeartbeats 4000000 in
theorem met_Mender_stops {l : Launch} {D : va_G} {cA : FieldType → ClassId} {ad adV : Nat → Nat} {z0 : Nat}  {mm : aM}  {r : Int × aM} (h : Mender_stops  mm = some r) : aMet l D cA ad adV z0 mX3_stops 5 133 0 0 [.inr (.inr (.inl (some 79)))] SH mm (rIM r).1 SH (rIM r).2 := by
  refine aMet_ofG (by decide +kernel) rfl (Nat.le_of_ble_eq_true rfl) h (fun p e s m args below meth c al0 K => ?_)
  unfold Mender_stops
  refine gl (i' := 1) (fun _ _ => aw_aload_n K (dOf ck_mX3_stops rfl rfl) rfl) ?_
  refine gl (i' := 2) (fun _ _ => aw_getf K (dOf ck_mX3_stops rfl rfl) rfl rfl (Nat.le_of_ble_eq_true rfl) wd_438 (k := 15) rfl) ?_
  refine gl (i' := 3) (fun _ _ => aw_bip K (dOf ck_mX3_stops rfl rfl) (v := -2) rfl) ?_
  refine g_icmp_eq K (dOf ck_mX3_stops rfl rfl) (t := 7) (aJ_of (by decide +kernel)) (fun h1 => ?_) (fun h1 => ?_)
  · refine gl (i' := 8) (fun _ _ => aw_aload_n K (dOf ck_mX3_stops rfl rfl) rfl) ?_
    refine gl (i' := 9) (fun _ _ => aw_iconst K (n := -1) (i32 _ rfl) (dOf ck_mX3_stops rfl rfl)) ?_
    refine g_st1 ?_
    refine gl (i' := 10) (fun _ _ => aw_putf K (dOf ck_mX3_stops rfl rfl) rfl rfl (Nat.le_of_ble_eq_true rfl) wd_438 (k := 15) rfl rfl (Or.inl rfl)) ?_
    refine gl (i' := 11) (fun _ _ => aw_iconst K (n := 0) (i32 _ rfl) (dOf ck_mX3_stops rfl rfl)) ?_
    refine gl (i' := 12) (fun _ _ => aw_istore_n K (dOf ck_mX3_stops rfl rfl) (Nat.le_of_ble_eq_true rfl)) ?_
    refine g_lv (lv' := [(1, .inl _), (0, .inr (.inr (.inl (some _))))]) rfl ?_
    refine g_sub [1, 0] rfl ?_
    exact lk_Mender_stops_12 K FU _ _
  · refine gl (i' := 5) (fun _ _ => aw_aload_n K (dOf ck_mX3_stops rfl rfl) rfl) ?_
    refine gl (i' := 6) (fun _ _ => aw_getf K (dOf ck_mX3_stops rfl rfl) rfl rfl (Nat.le_of_ble_eq_true rfl) wd_438 (k := 15) rfl) ?_
    exact g_iret K (dOf ck_mX3_stops rfl rfl).1 rfl (Or.inl rfl) rfl
def B_paused_17 (x2 : Int) (mm : aM) : Option (Int × aM) := some (x2, mm)
set_option maxHeartbeats 4000000 in
theorem lk_B_paused_17 {p : Program} {l : Launch} {e : Env} {s : State} {m : MethodId} {args : Array Value} {below : List Frame} {meth : Method} {c : Code} {D : va_G} {cA : FieldType → ClassId} {ad adV : Nat → Nat} {z0 : Nat} {al0 : List Nat} (K : aK p s m args meth c mX11_paused D cA ad adV z0) (x2 : Int)  (mm : aM) : aG p l e { frames := 6, cells := 0, slots := 0, locals := 155 } s m args below meth c D cA ad z0 mX11_paused al0 rIM (B_paused_17 x2 mm) 17 [(2, .inl x2)] [] mm := by
  unfold B_paused_17
  refine gl (i' := 18) (fun _ _ => aw_iload_n K (dOf ck_mX11_paused rfl rfl) rfl) ?_
  refine g_goto K (dOf ck_mX11_paused rfl rfl).1 (t := 21) (aJ_of (by decide +kernel)) ?_
  exact g_iret K (by decide +kernel) rfl (Or.inl rfl) rfl
def B_paused_7 (x1 : Int) (mm : aM) : Option (Int × aM) := (Mender_stops mm).bind fun r2 => (if r2.1 = (-1) then (B_paused_17 r2.1 r2.2) else (if x1 = 1 then (B_paused_17 r2.1 r2.2) else ((Jint_bitCount r2.1 r2.2).bind fun r5 => (some (r5, r2.2)))))
set_option maxHeartbeats 4000000 in
theorem lk_B_paused_7 {p : Program} {l : Launch} {e : Env} {s : State} {m : MethodId} {args : Array Value} {below : List Frame} {meth : Method} {c : Code} {D : va_G} {cA : FieldType → ClassId} {ad adV : Nat → Nat} {z0 : Nat} {al0 : List Nat} (K : aK p s m args meth c mX11_paused D cA ad adV z0) (x1 : Int)  (mm : aM) : aG p l e { frames := 6, cells := 0, slots := 0, locals := 155 } s m args below meth c D cA ad z0 mX11_paused al0 rIM (B_paused_7 x1 mm) 7 [(0, .inr (.inr (.inl (some 0)))), (1, .inl x1)] [] mm := by
  unfold B_paused_7
  refine gl (i' := 8) (fun _ _ => aw_aload_n K (dOf ck_mX11_paused rfl rfl) rfl) ?_
  refine gl (i' := 9) (fun _ _ => aw_getf K (dOf ck_mX11_paused rfl rfl) rfl rfl (Nat.le_of_ble_eq_true rfl) wd_470 (k := 10) rfl) ?_
  refine g_callVIM K [] rfl (dOf ck_mX11_paused rfl rfl) al_OneBreath_301 rfl rfl ⟨wd_1024, wd_1025⟩ rfl (Nat.le_of_ble_eq_true rfl) ⟨Nat.le_of_ble_eq_true rfl, Nat.le_of_ble_eq_true rfl⟩ (fun b hb => met_Mender_stops  hb) (fun r2 hr2 => ?_)
  refine gl (i' := 11) (fun _ _ => aw_istore_n K (dOf ck_mX11_paused rfl rfl) (Nat.le_of_ble_eq_true rfl)) ?_
  refine g_lv (lv' := [(2, .inl _), (0, .inr (.inr (.inl (some _)))), (1, .inl _)]) rfl ?_
  refine gl (i' := 12) (fun _ _ => aw_iload_n K (dOf ck_mX11_paused rfl rfl) rfl) ?_
  refine gl (i' := 13) (fun _ _ => aw_iconst K (n := -1) (i32 _ rfl) (dOf ck_mX11_paused rfl rfl)) ?_
  refine g_icmp_eq K (dOf ck_mX11_paused rfl rfl) (t := 17) (aJ_of (by decide +kernel)) (fun h3 => ?_) (fun h3 => ?_)
  · refine g_sub [0] rfl ?_
    exact lk_B_paused_17 K _ _
  · refine gl (i' := 15) (fun _ _ => aw_iload_n K (dOf ck_mX11_paused rfl rfl) rfl) ?_
    refine gl (i' := 16) (fun _ _ => aw_iconst K (n := 1) (i32 _ rfl) (dOf ck_mX11_paused rfl rfl)) ?_
    refine g_icmp_ne K (dOf ck_mX11_paused rfl rfl) (t := 19) (aJ_of (by decide +kernel)) (fun h4 => ?_) (fun h4 => ?_)
    · refine g_sub [0] rfl ?_
      exact lk_B_paused_17 K _ _
    · refine gl (i' := 20) (fun _ _ => aw_iload_n K (dOf ck_mX11_paused rfl rfl) rfl) ?_
      refine g_callSI K [.inl _] rfl (dOf ck_mX11_paused rfl rfl) al_OneBreath_284 wd_993 rfl (Nat.le_of_ble_eq_true rfl) ⟨Nat.le_of_ble_eq_true rfl, Nat.le_of_ble_eq_true rfl⟩ (fun b hb => met_Jint_bitCount  hb) (fun r5 hr5 => ?_)
      exact g_iret K (by decide +kernel) rfl (Or.inl rfl) rfl
def B_paused (x1 : Int) (mm : aM) : Option (Int × aM) := if x1 = 0 then (B_paused_7 x1 mm) else (if x1 = 1 then (B_paused_7 x1 mm) else (some ((-2), mm)))
set_option maxHeartbeats 4000000 in
theorem met_B_paused {l : Launch} {D : va_G} {cA : FieldType → ClassId} {ad adV : Nat → Nat} {z0 : Nat} {x1 : Int} {mm : aM}  {r : Int × aM} (h : B_paused x1 mm = some r) : aMet l D cA ad adV z0 mX11_paused 6 155 0 0 [.inr (.inr (.inl (some 0))), .inl x1] SH mm (rIM r).1 SH (rIM r).2 := by
  refine aMet_ofG (by decide +kernel) rfl (Nat.le_of_ble_eq_true rfl) h (fun p e s m args below meth c al0 K => ?_)
  unfold B_paused
  refine gl (i' := 1) (fun _ _ => aw_iload_n K (dOf ck_mX11_paused rfl rfl) rfl) ?_
  refine g_if_eq K (dOf ck_mX11_paused rfl rfl) (t := 7) (aJ_of (by decide +kernel)) (fun h1 => ?_) (fun h1 => ?_)
  · refine g_sub [0, 1] rfl ?_
    exact lk_B_paused_7 K _ _
  · refine gl (i' := 3) (fun _ _ => aw_iload_n K (dOf ck_mX11_paused rfl rfl) rfl) ?_
    refine gl (i' := 4) (fun _ _ => aw_iconst K (n := 1) (i32 _ rfl) (dOf ck_mX11_paused rfl rfl)) ?_
    refine g_icmp_eq K (dOf ck_mX11_paused rfl rfl) (t := 7) (aJ_of (by decide +kernel)) (fun h6 => ?_) (fun h6 => ?_)
    · refine g_sub [0, 1] rfl ?_
      exact lk_B_paused_7 K _ _
    · refine gl (i' := 6) (fun _ _ => aw_bip K (dOf ck_mX11_paused rfl rfl) (v := -2) rfl) ?_
      exact g_iret K (dOf ck_mX11_paused rfl rfl).1 rfl (Or.inl rfl) rfl
def Census_firstBegunBy_27 (mm : aM) (k2 : Int → Option Int) (x1 : Int) (x2 : Int) : Option Int := k2 (w32 (x2 + 1))
set_option maxHeartbeats 4000000 in
theorem lk_Census_firstBegunBy_27 {p : Program} {l : Launch} {e : Env} {s : State} {m : MethodId} {args : Array Value} {below : List Frame} {meth : Method} {c : Code} {D : va_G} {cA : FieldType → ClassId} {ad adV : Nat → Nat} {z0 : Nat} {al0 : List Nat} {mm : aM} (K : aK p s m args meth c mX0_firstBegunBy D cA ad adV z0) (x1 : Int) (x2 : Int) (k2 : Int → Option Int) (hk2 : ∀ (x2 : Int), aG p l e { frames := 1, cells := 0, slots := 0, locals := 24 } s m args below meth c D cA ad z0 mX0_firstBegunBy al0 (rI mm) (k2 x2) 2 [(0, .inr (.inr (.inl (some 120)))), (1, .inl x1), (2, .inl x2)] [] mm)  : aG p l e { frames := 1, cells := 0, slots := 0, locals := 24 } s m args below meth c D cA ad z0 mX0_firstBegunBy al0 (rI mm) (Census_firstBegunBy_27 mm k2 x1 x2) 27 [(0, .inr (.inr (.inl (some 120)))), (1, .inl x1), (2, .inl x2)] [] mm := by
  unfold Census_firstBegunBy_27
  refine gl (i' := 28) (fun _ _ => aw_iinc K (dOf ck_mX0_firstBegunBy rfl rfl) (Nat.le_of_ble_eq_true rfl) rfl) ?_
  refine g_lv (lv' := [(2, .inl _), (0, .inr (.inr (.inl (some _)))), (1, .inl _)]) rfl ?_
  refine g_goto K (dOf ck_mX0_firstBegunBy rfl rfl).1 (t := 2) (aJ_of (by decide +kernel)) ?_
  refine g_sub [1, 2, 0] rfl ?_
  exact hk2 _
def Census_firstBegunBy_2 (mm : aM) (x1 : Int) : Nat → Int → Option Int
  | 0, _ => none
  | n + 1, x2 => if x2 < (mm 25 2) then (if x2 = x1 then (Census_firstBegunBy_27 mm (Census_firstBegunBy_2 mm x1 n) x1 x2) else (if 0 ≤ x1 ∧ x1 < 12 then ((Tongue_begins 25 (25 + 4 + x1.toNat) (mm 41 x1.toNat) x2 mm).bind fun r4 => (if r4 = 0 then (Census_firstBegunBy_27 mm (Census_firstBegunBy_2 mm x1 n) x1 x2) else (some x2))) else none)) else (some (-1))
set_option maxHeartbeats 4000000 in
theorem lk_Census_firstBegunBy_2 {p : Program} {l : Launch} {e : Env} {s : State} {m : MethodId} {args : Array Value} {below : List Frame} {meth : Method} {c : Code} {D : va_G} {cA : FieldType → ClassId} {ad adV : Nat → Nat} {z0 : Nat} {al0 : List Nat} {mm : aM} (K : aK p s m args meth c mX0_firstBegunBy D cA ad adV z0) (x1 : Int)  : ∀ (n : Nat) (x2 : Int), aG p l e { frames := 1, cells := 0, slots := 0, locals := 24 } s m args below meth c D cA ad z0 mX0_firstBegunBy al0 (rI mm) (Census_firstBegunBy_2 mm x1 n x2) 2 [(0, .inr (.inr (.inl (some 120)))), (1, .inl x1), (2, .inl x2)] [] mm := by
  intro n
  induction n with
  | zero => intro x2; exact g_none
  | succ n ih =>
    intro x2
    rw [Census_firstBegunBy_2]
    refine gl (i' := 3) (fun _ _ => aw_iload_n K (dOf ck_mX0_firstBegunBy rfl rfl) rfl) ?_
    refine gl (i' := 4) (fun _ _ => aw_aload_n K (dOf ck_mX0_firstBegunBy rfl rfl) rfl) ?_
    refine gl (i' := 5) (fun _ _ => aw_getf K (dOf ck_mX0_firstBegunBy rfl rfl) rfl rfl (Nat.le_of_ble_eq_true rfl) wd_446 (k := 0) rfl) ?_
    refine gl (i' := 6) (fun _ _ => aw_getf K (dOf ck_mX0_firstBegunBy rfl rfl) rfl rfl (Nat.le_of_ble_eq_true rfl) wd_197 (k := 2) rfl) ?_
    refine g_icmp_ge K (dOf ck_mX0_firstBegunBy rfl rfl) (t := 29) (aJ_of (by decide +kernel)) (fun h1 => ?_) (fun h1 => ?_)
    · refine gl (i' := 8) (fun _ _ => aw_iload_n K (dOf ck_mX0_firstBegunBy rfl rfl) rfl) ?_
      refine gl (i' := 9) (fun _ _ => aw_iload_n K (dOf ck_mX0_firstBegunBy rfl rfl) rfl) ?_
      refine g_icmp_eq K (dOf ck_mX0_firstBegunBy rfl rfl) (t := 27) (aJ_of (by decide +kernel)) (fun h2 => ?_) (fun h2 => ?_)
      · refine g_sub [0, 1, 2] rfl ?_
        exact lk_Census_firstBegunBy_27 K _ _ _ ih
      · refine gl (i' := 11) (fun _ _ => aw_aload_n K (dOf ck_mX0_firstBegunBy rfl rfl) rfl) ?_
        refine gl (i' := 12) (fun _ _ => aw_getf K (dOf ck_mX0_firstBegunBy rfl rfl) rfl rfl (Nat.le_of_ble_eq_true rfl) wd_446 (k := 0) rfl) ?_
        refine gl (i' := 13) (fun _ _ => aw_aload_n K (dOf ck_mX0_firstBegunBy rfl rfl) rfl) ?_
        refine gl (i' := 14) (fun _ _ => aw_getf K (dOf ck_mX0_firstBegunBy rfl rfl) rfl rfl (Nat.le_of_ble_eq_true rfl) wd_446 (k := 0) rfl) ?_
        refine gl (i' := 15) (fun _ _ => aw_getf K (dOf ck_mX0_firstBegunBy rfl rfl) rfl rfl (Nat.le_of_ble_eq_true rfl) wd_228 (k := 8) rfl) ?_
        refine gl (i' := 16) (fun _ _ => aw_iload_n K (dOf ck_mX0_firstBegunBy rfl rfl) rfl) ?_
        refine g_gd (fun hb3 => ?_)
        refine gl (i' := 17) (fun _ _ => aw_aald K (dOf ck_mX0_firstBegunBy rfl rfl) (shTa (t := 25) (by unfold okT; omega)) hb3 (rsT_at hb3)) ?_
        refine gl (i' := 18) (fun _ _ => aw_aload_n K (dOf ck_mX0_firstBegunBy rfl rfl) rfl) ?_
        refine gl (i' := 19) (fun _ _ => aw_getf K (dOf ck_mX0_firstBegunBy rfl rfl) rfl rfl (Nat.le_of_ble_eq_true rfl) wd_446 (k := 0) rfl) ?_
        refine gl (i' := 20) (fun _ _ => aw_getf K (dOf ck_mX0_firstBegunBy rfl rfl) rfl rfl (Nat.le_of_ble_eq_true rfl) wd_237 (k := 9) rfl) ?_
        refine gl (i' := 21) (fun _ _ => aw_iload_n K (dOf ck_mX0_firstBegunBy rfl rfl) rfl) ?_
        refine gl (i' := 22) (fun _ _ => aw_iald K (dOf ck_mX0_firstBegunBy rfl rfl) rfl hb3) ?_
        refine gl (i' := 23) (fun _ _ => aw_iload_n K (dOf ck_mX0_firstBegunBy rfl rfl) rfl) ?_
        refine g_callVI K [.inr (.inr (.inl (some _))), .inl _, .inl _] rfl (dOf ck_mX0_firstBegunBy rfl rfl) al_OneBreath_Census_41 rfl rfl ⟨wd_596, wd_597⟩ rfl (Nat.le_of_ble_eq_true rfl) ⟨Nat.le_of_ble_eq_true rfl, Nat.le_of_ble_eq_true rfl⟩ (fun b hb => met_Tongue_begins (by unfold okT; omega) ⟨_, (shTr (t := 25) (by unfold okT; omega) hb3)⟩ hb) (fun r4 hr4 => ?_)
        refine g_if_eq K (dOf ck_mX0_firstBegunBy rfl rfl) (t := 27) (aJ_of (by decide +kernel)) (fun h5 => ?_) (fun h5 => ?_)
        · refine g_sub [0, 1, 2] rfl ?_
          exact lk_Census_firstBegunBy_27 K _ _ _ ih
        · refine gl (i' := 26) (fun _ _ => aw_iload_n K (dOf ck_mX0_firstBegunBy rfl rfl) rfl) ?_
          exact g_iret K (dOf ck_mX0_firstBegunBy rfl rfl).1 rfl (Or.inl rfl) rfl
    · refine gl (i' := 30) (fun _ _ => aw_iconst K (n := -1) (i32 _ rfl) (dOf ck_mX0_firstBegunBy rfl rfl)) ?_
      exact g_iret K (by decide +kernel) rfl (Or.inl rfl) rfl
def Census_firstBegunBy (x1 : Int) (mm : aM) : Option Int := Census_firstBegunBy_2 mm x1 FU 0
set_option maxHeartbeats 4000000 in
theorem met_Census_firstBegunBy {l : Launch} {D : va_G} {cA : FieldType → ClassId} {ad adV : Nat → Nat} {z0 : Nat} {x1 : Int} {mm : aM}  {r : Int} (h : Census_firstBegunBy x1 mm = some r) : aMet l D cA ad adV z0 mX0_firstBegunBy 1 24 0 0 [.inr (.inr (.inl (some 120))), .inl x1] SH mm ((rI mm) r).1 SH ((rI mm) r).2 := by
  refine aMet_ofG (by decide +kernel) rfl (Nat.le_of_ble_eq_true rfl) h (fun p e s m args below meth c al0 K => ?_)
  unfold Census_firstBegunBy
  refine gl (i' := 1) (fun _ _ => aw_iconst K (n := 0) (i32 _ rfl) (dOf ck_mX0_firstBegunBy rfl rfl)) ?_
  refine gl (i' := 2) (fun _ _ => aw_istore_n K (dOf ck_mX0_firstBegunBy rfl rfl) (Nat.le_of_ble_eq_true rfl)) ?_
  refine g_lv (lv' := [(2, .inl _), (0, .inr (.inr (.inl (some _)))), (1, .inl _)]) rfl ?_
  refine g_sub [1, 2, 0] rfl ?_
  exact lk_Census_firstBegunBy_2 K _ FU _
def B_begun_9 (mm : aM) (x1 : Int) : Nat → Int → Option Int
  | 0, _ => none
  | n + 1, x2 => if x2 < (mm 25 2) then ((Census_firstBegunBy x2 mm).bind fun r3 => (if r3 = (-1) then (B_begun_9 mm x1 n (w32 (x2 + 1))) else (if x1 = 0 then (some x2) else (some r3)))) else (some (-1))
set_option maxHeartbeats 4000000 in
theorem lk_B_begun_9 {p : Program} {l : Launch} {e : Env} {s : State} {m : MethodId} {args : Array Value} {below : List Frame} {meth : Method} {c : Code} {D : va_G} {cA : FieldType → ClassId} {ad adV : Nat → Nat} {z0 : Nat} {al0 : List Nat} {mm : aM} (K : aK p s m args meth c mX11_begun D cA ad adV z0) (x1 : Int)  : ∀ (n : Nat) (x2 : Int), aG p l e { frames := 2, cells := 0, slots := 0, locals := 46 } s m args below meth c D cA ad z0 mX11_begun al0 (rI mm) (B_begun_9 mm x1 n x2) 9 [(0, .inr (.inr (.inl (some 0)))), (1, .inl x1), (2, .inl x2)] [] mm := by
  intro n
  induction n with
  | zero => intro x2; exact g_none
  | succ n ih =>
    intro x2
    rw [B_begun_9]
    refine gl (i' := 10) (fun _ _ => aw_iload_n K (dOf ck_mX11_begun rfl rfl) rfl) ?_
    refine gl (i' := 11) (fun _ _ => aw_aload_n K (dOf ck_mX11_begun rfl rfl) rfl) ?_
    refine gl (i' := 12) (fun _ _ => aw_getf K (dOf ck_mX11_begun rfl rfl) rfl rfl (Nat.le_of_ble_eq_true rfl) wd_461 (k := 1) rfl) ?_
    refine gl (i' := 13) (fun _ _ => aw_getf K (dOf ck_mX11_begun rfl rfl) rfl rfl (Nat.le_of_ble_eq_true rfl) wd_202 (k := 2) rfl) ?_
    refine g_icmp_ge K (dOf ck_mX11_begun rfl rfl) (t := 30) (aJ_of (by decide +kernel)) (fun h2 => ?_) (fun h2 => ?_)
    · refine gl (i' := 15) (fun _ _ => aw_aload_n K (dOf ck_mX11_begun rfl rfl) rfl) ?_
      refine gl (i' := 16) (fun _ _ => aw_getf K (dOf ck_mX11_begun rfl rfl) rfl rfl (Nat.le_of_ble_eq_true rfl) wd_471 (k := 11) rfl) ?_
      refine gl (i' := 17) (fun _ _ => aw_iload_n K (dOf ck_mX11_begun rfl rfl) rfl) ?_
      refine g_callVI K [.inl _] rfl (dOf ck_mX11_begun rfl rfl) al_OneBreath_304 rfl rfl ⟨wd_1032, wd_1033⟩ rfl (Nat.le_of_ble_eq_true rfl) ⟨Nat.le_of_ble_eq_true rfl, Nat.le_of_ble_eq_true rfl⟩ (fun b hb => met_Census_firstBegunBy  hb) (fun r3 hr3 => ?_)
      refine gl (i' := 19) (fun _ _ => aw_istore_n K (dOf ck_mX11_begun rfl rfl) (Nat.le_of_ble_eq_true rfl)) ?_
      refine g_lv (lv' := [(3, .inl _), (0, .inr (.inr (.inl (some _)))), (1, .inl _), (2, .inl _)]) rfl ?_
      refine gl (i' := 20) (fun _ _ => aw_iload_n K (dOf ck_mX11_begun rfl rfl) rfl) ?_
      refine gl (i' := 21) (fun _ _ => aw_iconst K (n := -1) (i32 _ rfl) (dOf ck_mX11_begun rfl rfl)) ?_
      refine g_icmp_eq K (dOf ck_mX11_begun rfl rfl) (t := 28) (aJ_of (by decide +kernel)) (fun h4 => ?_) (fun h4 => ?_)
      · refine gl (i' := 29) (fun _ _ => aw_iinc K (dOf ck_mX11_begun rfl rfl) (Nat.le_of_ble_eq_true rfl) rfl) ?_
        refine g_lv (lv' := [(2, .inl _), (3, .inl _), (0, .inr (.inr (.inl (some _)))), (1, .inl _)]) rfl ?_
        refine g_goto K (dOf ck_mX11_begun rfl rfl).1 (t := 9) (aJ_of (by decide +kernel)) ?_
        refine g_sub [2, 3, 0] rfl ?_
        exact ih _
      · refine gl (i' := 23) (fun _ _ => aw_iload_n K (dOf ck_mX11_begun rfl rfl) rfl) ?_
        refine g_if_ne K (dOf ck_mX11_begun rfl rfl) (t := 26) (aJ_of (by decide +kernel)) (fun h5 => ?_) (fun h5 => ?_)
        · refine gl (i' := 25) (fun _ _ => aw_iload_n K (dOf ck_mX11_begun rfl rfl) rfl) ?_
          refine g_goto K (dOf ck_mX11_begun rfl rfl).1 (t := 27) (aJ_of (by decide +kernel)) ?_
          exact g_iret K (dOf ck_mX11_begun rfl rfl).1 rfl (Or.inl rfl) rfl
        · refine gl (i' := 27) (fun _ _ => aw_iload_n K (dOf ck_mX11_begun rfl rfl) rfl) ?_
          exact g_iret K (dOf ck_mX11_begun rfl rfl).1 rfl (Or.inl rfl) rfl
    · refine gl (i' := 31) (fun _ _ => aw_iconst K (n := -1) (i32 _ rfl) (dOf ck_mX11_begun rfl rfl)) ?_
      exact g_iret K (by decide +kernel) rfl (Or.inl rfl) rfl
def B_begun_7 (mm : aM) (x1 : Int) : Option Int := B_begun_9 mm x1 FU 0
set_option maxHeartbeats 4000000 in
theorem lk_B_begun_7 {p : Program} {l : Launch} {e : Env} {s : State} {m : MethodId} {args : Array Value} {below : List Frame} {meth : Method} {c : Code} {D : va_G} {cA : FieldType → ClassId} {ad adV : Nat → Nat} {z0 : Nat} {al0 : List Nat} {mm : aM} (K : aK p s m args meth c mX11_begun D cA ad adV z0) (x1 : Int)  : aG p l e { frames := 2, cells := 0, slots := 0, locals := 46 } s m args below meth c D cA ad z0 mX11_begun al0 (rI mm) (B_begun_7 mm x1) 7 [(0, .inr (.inr (.inl (some 0)))), (1, .inl x1)] [] mm := by
  unfold B_begun_7
  refine gl (i' := 8) (fun _ _ => aw_iconst K (n := 0) (i32 _ rfl) (dOf ck_mX11_begun rfl rfl)) ?_
  refine gl (i' := 9) (fun _ _ => aw_istore_n K (dOf ck_mX11_begun rfl rfl) (Nat.le_of_ble_eq_true rfl)) ?_
  refine g_lv (lv' := [(2, .inl _), (0, .inr (.inr (.inl (some _)))), (1, .inl _)]) rfl ?_
  refine g_sub [1, 2, 0] rfl ?_
  exact lk_B_begun_9 K _ FU _
def B_begun (x1 : Int) (mm : aM) : Option Int := if x1 = 0 then (B_begun_7 mm x1) else (if x1 = 1 then (B_begun_7 mm x1) else (some (-2)))
set_option maxHeartbeats 4000000 in
theorem met_B_begun {l : Launch} {D : va_G} {cA : FieldType → ClassId} {ad adV : Nat → Nat} {z0 : Nat} {x1 : Int} {mm : aM}  {r : Int} (h : B_begun x1 mm = some r) : aMet l D cA ad adV z0 mX11_begun 2 46 0 0 [.inr (.inr (.inl (some 0))), .inl x1] SH mm ((rI mm) r).1 SH ((rI mm) r).2 := by
  refine aMet_ofG (by decide +kernel) rfl (Nat.le_of_ble_eq_true rfl) h (fun p e s m args below meth c al0 K => ?_)
  unfold B_begun
  refine gl (i' := 1) (fun _ _ => aw_iload_n K (dOf ck_mX11_begun rfl rfl) rfl) ?_
  refine g_if_eq K (dOf ck_mX11_begun rfl rfl) (t := 7) (aJ_of (by decide +kernel)) (fun h1 => ?_) (fun h1 => ?_)
  · refine g_sub [0, 1] rfl ?_
    exact lk_B_begun_7 K _
  · refine gl (i' := 3) (fun _ _ => aw_iload_n K (dOf ck_mX11_begun rfl rfl) rfl) ?_
    refine gl (i' := 4) (fun _ _ => aw_iconst K (n := 1) (i32 _ rfl) (dOf ck_mX11_begun rfl rfl)) ?_
    refine g_icmp_eq K (dOf ck_mX11_begun rfl rfl) (t := 7) (aJ_of (by decide +kernel)) (fun h6 => ?_) (fun h6 => ?_)
    · refine g_sub [0, 1] rfl ?_
      exact lk_B_begun_7 K _
    · refine gl (i' := 6) (fun _ _ => aw_bip K (dOf ck_mX11_begun rfl rfl) (v := -2) rfl) ?_
      exact g_iret K (dOf ck_mX11_begun rfl rfl).1 rfl (Or.inl rfl) rfl
def Measure_toShape_36 (k14 : Int → aM → Option (Int × aM)) (x2 : Nat) (x3 : Int) (x4 : Int) (x5 : Int) (x6 : Int) (s0 : Int) (s1 : Int) (mm : aM) : Option (Int × aM) := if 0 ≤ s1 ∧ s1 < 6 then (st1 (aup mm 77 s1.toNat s0) fun mm6 => (k14 (w32 (x6 + 1)) mm6)) else none
set_option maxHeartbeats 4000000 in
theorem lk_Measure_toShape_36 {p : Program} {l : Launch} {e : Env} {s : State} {m : MethodId} {args : Array Value} {below : List Frame} {meth : Method} {c : Code} {D : va_G} {cA : FieldType → ClassId} {ad adV : Nat → Nat} {z0 : Nat} {al0 : List Nat} (K : aK p s m args meth c mX2_toShape D cA ad adV z0) {x2 : Nat} (x3 : Int) (x4 : Int) (x5 : Int) (x6 : Int) (hx2 : okB x2) (k14 : Int → aM → Option (Int × aM)) (hk14 : ∀ (x6 : Int) (mm : aM), aG p l e { frames := 2, cells := 0, slots := 0, locals := 51 } s m args below meth c D cA ad z0 mX2_toShape al0 rIM (k14 x6 mm) 14 [(0, .inr (.inr (.inl (some 76)))), (1, .inr (.inr (.inl (some 25)))), (2, .inr (.inr (.inl (some x2)))), (3, .inl x3), (4, .inl x4), (5, .inl x5), (6, .inl x6)] [] mm)  (s0 : Int) (s1 : Int) (mm : aM) : aG p l e { frames := 2, cells := 0, slots := 0, locals := 51 } s m args below meth c D cA ad z0 mX2_toShape al0 rIM (Measure_toShape_36 k14 x2 x3 x4 x5 x6 s0 s1 mm) 36 [(0, .inr (.inr (.inl (some 76)))), (1, .inr (.inr (.inl (some 25)))), (2, .inr (.inr (.inl (some x2)))), (3, .inl x3), (4, .inl x4), (5, .inl x5), (6, .inl x6)] [.inl s0, .inl s1, .inr (.inr (.inl (some 77)))] mm := by
  unfold Measure_toShape_36
  refine g_gd (fun hb5 => ?_)
  refine g_st1 ?_
  refine gl (i' := 37) (fun _ _ => aw_iast K (dOf ck_mX2_toShape rfl rfl) rfl hb5) ?_
  refine gl (i' := 38) (fun _ _ => aw_iinc K (dOf ck_mX2_toShape rfl rfl) (Nat.le_of_ble_eq_true rfl) rfl) ?_
  refine g_lv (lv' := [(6, .inl _), (0, .inr (.inr (.inl (some _)))), (1, .inr (.inr (.inl (some _)))), (2, .inr (.inr (.inl (some _)))), (3, .inl _), (4, .inl _), (5, .inl _)]) rfl ?_
  refine g_goto K (dOf ck_mX2_toShape rfl rfl).1 (t := 14) (aJ_of (by decide +kernel)) ?_
  refine g_sub [1, 2, 3, 4, 5, 6, 0] rfl ?_
  exact hk14 _ _
def Measure_toShape_14 (x2 : Nat) (x3 : Int) (x4 : Int) (x5 : Int) : Nat → Int → aM → Option (Int × aM)
  | 0, _, _ => none
  | n + 1, x6, mm => if 0 ≤ x4 ∧ x4 < 6 then (if x6 < (mm 45 x4.toNat) then (if (iand (ishr (mm 46 x4.toNat) x6) 1) = 0 then (Measure_toShape_36 (Measure_toShape_14 x2 x3 x4 x5 n) x2 x3 x4 x5 x6 x5 x6 mm) else (Measure_toShape_36 (Measure_toShape_14 x2 x3 x4 x5 n) x2 x3 x4 x5 x6 (mm 25 4) x6 mm)) else ((Measure_leastCost x2 x3 (mm 45 x4.toNat) mm).bind fun r3 => (some (r3.1, r3.2)))) else none
set_option maxHeartbeats 4000000 in
theorem lk_Measure_toShape_14 {p : Program} {l : Launch} {e : Env} {s : State} {m : MethodId} {args : Array Value} {below : List Frame} {meth : Method} {c : Code} {D : va_G} {cA : FieldType → ClassId} {ad adV : Nat → Nat} {z0 : Nat} {al0 : List Nat} (K : aK p s m args meth c mX2_toShape D cA ad adV z0) {x2 : Nat} (x3 : Int) (x4 : Int) (x5 : Int) (hx2 : okB x2)  : ∀ (n : Nat) (x6 : Int) (mm : aM), aG p l e { frames := 2, cells := 0, slots := 0, locals := 51 } s m args below meth c D cA ad z0 mX2_toShape al0 rIM (Measure_toShape_14 x2 x3 x4 x5 n x6 mm) 14 [(0, .inr (.inr (.inl (some 76)))), (1, .inr (.inr (.inl (some 25)))), (2, .inr (.inr (.inl (some x2)))), (3, .inl x3), (4, .inl x4), (5, .inl x5), (6, .inl x6)] [] mm := by
  intro n
  induction n with
  | zero => intro x6 mm; exact g_none
  | succ n ih =>
    intro x6 mm
    rw [Measure_toShape_14]
    refine gl (i' := 15) (fun _ _ => aw_iload K (dOf ck_mX2_toShape rfl rfl) rfl) ?_
    refine gl (i' := 16) (fun _ _ => aw_aload_n K (dOf ck_mX2_toShape rfl rfl) rfl) ?_
    refine gl (i' := 17) (fun _ _ => aw_getf K (dOf ck_mX2_toShape rfl rfl) rfl rfl (Nat.le_of_ble_eq_true rfl) wd_263 (k := 13) rfl) ?_
    refine gl (i' := 18) (fun _ _ => aw_iload K (dOf ck_mX2_toShape rfl rfl) rfl) ?_
    refine g_gd (fun hb1 => ?_)
    refine gl (i' := 19) (fun _ _ => aw_iald K (dOf ck_mX2_toShape rfl rfl) rfl hb1) ?_
    refine g_icmp_ge K (dOf ck_mX2_toShape rfl rfl) (t := 39) (aJ_of (by decide +kernel)) (fun h2 => ?_) (fun h2 => ?_)
    · refine gl (i' := 21) (fun _ _ => aw_aload_n K (dOf ck_mX2_toShape rfl rfl) rfl) ?_
      refine gl (i' := 22) (fun _ _ => aw_getf K (dOf ck_mX2_toShape rfl rfl) rfl rfl (Nat.le_of_ble_eq_true rfl) wd_377 (k := 0) rfl) ?_
      refine gl (i' := 23) (fun _ _ => aw_iload K (dOf ck_mX2_toShape rfl rfl) rfl) ?_
      refine gl (i' := 24) (fun _ _ => aw_aload_n K (dOf ck_mX2_toShape rfl rfl) rfl) ?_
      refine gl (i' := 25) (fun _ _ => aw_getf K (dOf ck_mX2_toShape rfl rfl) rfl rfl (Nat.le_of_ble_eq_true rfl) wd_268 (k := 14) rfl) ?_
      refine gl (i' := 26) (fun _ _ => aw_iload K (dOf ck_mX2_toShape rfl rfl) rfl) ?_
      refine gl (i' := 27) (fun _ _ => aw_iald K (dOf ck_mX2_toShape rfl rfl) rfl hb1) ?_
      refine gl (i' := 28) (fun _ _ => aw_iload K (dOf ck_mX2_toShape rfl rfl) rfl) ?_
      refine gl (i' := 29) (fun _ _ => aw_ishr K (dOf ck_mX2_toShape rfl rfl)) ?_
      refine gl (i' := 30) (fun _ _ => aw_iconst K (n := 1) (i32 _ rfl) (dOf ck_mX2_toShape rfl rfl)) ?_
      refine gl (i' := 31) (fun _ _ => aw_iand K (dOf ck_mX2_toShape rfl rfl)) ?_
      refine g_if_eq K (dOf ck_mX2_toShape rfl rfl) (t := 35) (aJ_of (by decide +kernel)) (fun h4 => ?_) (fun h4 => ?_)
      · refine gl (i' := 36) (fun _ _ => aw_iload K (dOf ck_mX2_toShape rfl rfl) rfl) ?_
        refine g_sub [0, 1, 2, 3, 4, 5, 6] rfl ?_
        exact lk_Measure_toShape_36 K _ _ _ _ hx2 _ ih _ _ _
      · refine gl (i' := 33) (fun _ _ => aw_aload_n K (dOf ck_mX2_toShape rfl rfl) rfl) ?_
        refine gl (i' := 34) (fun _ _ => aw_getf K (dOf ck_mX2_toShape rfl rfl) rfl rfl (Nat.le_of_ble_eq_true rfl) wd_208 (k := 4) rfl) ?_
        refine g_goto K (dOf ck_mX2_toShape rfl rfl).1 (t := 36) (aJ_of (by decide +kernel)) ?_
        refine g_sub [0, 1, 2, 3, 4, 5, 6] rfl ?_
        exact lk_Measure_toShape_36 K _ _ _ _ hx2 _ ih _ _ _
    · refine gl (i' := 40) (fun _ _ => aw_aload_n K (dOf ck_mX2_toShape rfl rfl) rfl) ?_
      refine gl (i' := 41) (fun _ _ => aw_aload_n K (dOf ck_mX2_toShape rfl rfl) rfl) ?_
      refine gl (i' := 42) (fun _ _ => aw_aload_n K (dOf ck_mX2_toShape rfl rfl) rfl) ?_
      refine gl (i' := 43) (fun _ _ => aw_iload_n K (dOf ck_mX2_toShape rfl rfl) rfl) ?_
      refine gl (i' := 44) (fun _ _ => aw_aload_n K (dOf ck_mX2_toShape rfl rfl) rfl) ?_
      refine gl (i' := 45) (fun _ _ => aw_getf K (dOf ck_mX2_toShape rfl rfl) rfl rfl (Nat.le_of_ble_eq_true rfl) wd_263 (k := 13) rfl) ?_
      refine gl (i' := 46) (fun _ _ => aw_iload K (dOf ck_mX2_toShape rfl rfl) rfl) ?_
      refine gl (i' := 47) (fun _ _ => aw_iald K (dOf ck_mX2_toShape rfl rfl) rfl hb1) ?_
      refine g_callVIM K [.inr (.inr (.inl (some _))), .inr (.inr (.inl (some _))), .inl _, .inl _] rfl (dOf ck_mX2_toShape rfl rfl) al_OneBreath_Measure_27 rfl rfl ⟨wd_673, wd_18⟩ rfl (Nat.le_of_ble_eq_true rfl) ⟨Nat.le_of_ble_eq_true rfl, Nat.le_of_ble_eq_true rfl⟩ (fun b hb => met_Measure_leastCost ⟨_, (okB_at hx2)⟩ hb) (fun r3 hr3 => ?_)
      exact g_iret K (by decide +kernel) rfl (Or.inl rfl) rfl
def Measure_toShape (x2 : Nat) (x3 : Int) (x4 : Int) (mm : aM) : Option (Int × aM) := Measure_toShape_14 x2 x3 x4 (iand (ixor (mm 25 4) (-1)) (w32 ((ishl 1 (mm 25 1)) - 1))) FU 0 mm
set_option maxHeartbeats 4000000 in
theorem met_Measure_toShape {l : Launch} {D : va_G} {cA : FieldType → ClassId} {ad adV : Nat → Nat} {z0 : Nat} {x2 : Nat} {x3 : Int} {x4 : Int} {mm : aM} (hx2 : okB x2) {r : Int × aM} (h : Measure_toShape x2 x3 x4 mm = some r) : aMet l D cA ad adV z0 mX2_toShape 2 51 0 0 [.inr (.inr (.inl (some 76))), .inr (.inr (.inl (some 25))), .inr (.inr (.inl (some x2))), .inl x3, .inl x4] SH mm (rIM r).1 SH (rIM r).2 := by
  refine aMet_ofG (by decide +kernel) rfl (Nat.le_of_ble_eq_true rfl) h (fun p e s m args below meth c al0 K => ?_)
  unfold Measure_toShape
  refine gl (i' := 1) (fun _ _ => aw_aload_n K (dOf ck_mX2_toShape rfl rfl) rfl) ?_
  refine gl (i' := 2) (fun _ _ => aw_getf K (dOf ck_mX2_toShape rfl rfl) rfl rfl (Nat.le_of_ble_eq_true rfl) wd_208 (k := 4) rfl) ?_
  refine gl (i' := 3) (fun _ _ => aw_iconst K (n := -1) (i32 _ rfl) (dOf ck_mX2_toShape rfl rfl)) ?_
  refine gl (i' := 4) (fun _ _ => aw_ixor K (dOf ck_mX2_toShape rfl rfl)) ?_
  refine gl (i' := 5) (fun _ _ => aw_iconst K (n := 1) (i32 _ rfl) (dOf ck_mX2_toShape rfl rfl)) ?_
  refine gl (i' := 6) (fun _ _ => aw_aload_n K (dOf ck_mX2_toShape rfl rfl) rfl) ?_
  refine gl (i' := 7) (fun _ _ => aw_getf K (dOf ck_mX2_toShape rfl rfl) rfl rfl (Nat.le_of_ble_eq_true rfl) wd_192 (k := 1) rfl) ?_
  refine gl (i' := 8) (fun _ _ => aw_ishl K (dOf ck_mX2_toShape rfl rfl)) ?_
  refine gl (i' := 9) (fun _ _ => aw_iconst K (n := 1) (i32 _ rfl) (dOf ck_mX2_toShape rfl rfl)) ?_
  refine gl (i' := 10) (fun _ _ => aw_isub K (dOf ck_mX2_toShape rfl rfl)) ?_
  refine gl (i' := 11) (fun _ _ => aw_iand K (dOf ck_mX2_toShape rfl rfl)) ?_
  refine gl (i' := 12) (fun _ _ => aw_istore K (dOf ck_mX2_toShape rfl rfl) (Nat.le_of_ble_eq_true rfl)) ?_
  refine g_lv (lv' := [(5, .inl _), (0, .inr (.inr (.inl (some _)))), (1, .inr (.inr (.inl (some _)))), (2, .inr (.inr (.inl (some _)))), (3, .inl _), (4, .inl _)]) rfl ?_
  refine gl (i' := 13) (fun _ _ => aw_iconst K (n := 0) (i32 _ rfl) (dOf ck_mX2_toShape rfl rfl)) ?_
  refine gl (i' := 14) (fun _ _ => aw_istore K (dOf ck_mX2_toShape rfl rfl) (Nat.le_of_ble_eq_true rfl)) ?_
  refine g_lv (lv' := [(6, .inl _), (5, .inl _), (0, .inr (.inr (.inl (some _)))), (1, .inr (.inr (.inl (some _)))), (2, .inr (.inr (.inl (some _)))), (3, .inl _), (4, .inl _)]) rfl ?_
  refine g_sub [2, 3, 4, 5, 6, 1, 0] rfl ?_
  exact lk_Measure_toShape_14 K _ _ _ hx2 FU _ _
def B_fitted_66 (k40 : Int → Int → Int → aM → Option (Int × aM)) (x1 : Int) (x2 : Int) (x4 : Int) (x5 : Int) (x6 : Int) (mm : aM) : Option (Int × aM) := k40 x4 x5 (w32 (x6 + 1)) mm
set_option maxHeartbeats 4000000 in
theorem lk_B_fitted_66 {p : Program} {l : Launch} {e : Env} {s : State} {m : MethodId} {args : Array Value} {below : List Frame} {meth : Method} {c : Code} {D : va_G} {cA : FieldType → ClassId} {ad adV : Nat → Nat} {z0 : Nat} {al0 : List Nat} (K : aK p s m args meth c mX11_fitted D cA ad adV z0) (x1 : Int) (x2 : Int) (x4 : Int) (x5 : Int) (x6 : Int) (k40 : Int → Int → Int → aM → Option (Int × aM)) (hk40 : ∀ (x4 : Int) (x5 : Int) (x6 : Int) (mm : aM), aG p l e { frames := 3, cells := 0, slots := 0, locals := 77 } s m args below meth c D cA ad z0 mX11_fitted al0 rIM (k40 x4 x5 x6 mm) 40 [(0, .inr (.inr (.inl (some 0)))), (1, .inl x1), (2, .inl x2), (4, .inl x4), (5, .inl x5), (6, .inl x6)] [] mm)  (mm : aM) : aG p l e { frames := 3, cells := 0, slots := 0, locals := 77 } s m args below meth c D cA ad z0 mX11_fitted al0 rIM (B_fitted_66 k40 x1 x2 x4 x5 x6 mm) 66 [(0, .inr (.inr (.inl (some 0)))), (1, .inl x1), (2, .inl x2), (4, .inl x4), (5, .inl x5), (6, .inl x6)] [] mm := by
  unfold B_fitted_66
  refine gl (i' := 67) (fun _ _ => aw_iinc K (dOf ck_mX11_fitted rfl rfl) (Nat.le_of_ble_eq_true rfl) rfl) ?_
  refine g_lv (lv' := [(6, .inl _), (0, .inr (.inr (.inl (some _)))), (1, .inl _), (2, .inl _), (4, .inl _), (5, .inl _)]) rfl ?_
  refine g_goto K (dOf ck_mX11_fitted rfl rfl).1 (t := 40) (aJ_of (by decide +kernel)) ?_
  refine g_sub [1, 2, 3, 4, 5, 0] rfl ?_
  exact hk40 _ _ _ _
def B_fitted_62 (k40 : Int → Int → Int → aM → Option (Int × aM)) (x1 : Int) (x2 : Int) (x6 : Int) (x7 : Int) (mm : aM) : Option (Int × aM) := B_fitted_66 k40 x1 x2 x6 x7 x6 mm
set_option maxHeartbeats 4000000 in
theorem lk_B_fitted_62 {p : Program} {l : Launch} {e : Env} {s : State} {m : MethodId} {args : Array Value} {below : List Frame} {meth : Method} {c : Code} {D : va_G} {cA : FieldType → ClassId} {ad adV : Nat → Nat} {z0 : Nat} {al0 : List Nat} (K : aK p s m args meth c mX11_fitted D cA ad adV z0) (x1 : Int) (x2 : Int) (x6 : Int) (x7 : Int) (k40 : Int → Int → Int → aM → Option (Int × aM)) (hk40 : ∀ (x4 : Int) (x5 : Int) (x6 : Int) (mm : aM), aG p l e { frames := 3, cells := 0, slots := 0, locals := 77 } s m args below meth c D cA ad z0 mX11_fitted al0 rIM (k40 x4 x5 x6 mm) 40 [(0, .inr (.inr (.inl (some 0)))), (1, .inl x1), (2, .inl x2), (4, .inl x4), (5, .inl x5), (6, .inl x6)] [] mm)  (mm : aM) : aG p l e { frames := 3, cells := 0, slots := 0, locals := 77 } s m args below meth c D cA ad z0 mX11_fitted al0 rIM (B_fitted_62 k40 x1 x2 x6 x7 mm) 62 [(0, .inr (.inr (.inl (some 0)))), (1, .inl x1), (2, .inl x2), (6, .inl x6), (7, .inl x7)] [] mm := by
  unfold B_fitted_62
  refine gl (i' := 63) (fun _ _ => aw_iload K (dOf ck_mX11_fitted rfl rfl) rfl) ?_
  refine gl (i' := 64) (fun _ _ => aw_istore K (dOf ck_mX11_fitted rfl rfl) (Nat.le_of_ble_eq_true rfl)) ?_
  refine g_lv (lv' := [(4, .inl _), (0, .inr (.inr (.inl (some _)))), (1, .inl _), (2, .inl _), (6, .inl _), (7, .inl _)]) rfl ?_
  refine gl (i' := 65) (fun _ _ => aw_iload K (dOf ck_mX11_fitted rfl rfl) rfl) ?_
  refine gl (i' := 66) (fun _ _ => aw_istore K (dOf ck_mX11_fitted rfl rfl) (Nat.le_of_ble_eq_true rfl)) ?_
  refine g_lv (lv' := [(5, .inl _), (4, .inl _), (0, .inr (.inr (.inl (some _)))), (1, .inl _), (2, .inl _), (6, .inl _), (7, .inl _)]) rfl ?_
  refine g_sub [2, 3, 4, 1, 0, 5] rfl ?_
  exact lk_B_fitted_66 K _ _ _ _ _ _ hk40 _
def B_fitted_40 (x1 : Int) (x2 : Int) : Nat → Int → Int → Int → aM → Option (Int × aM)
  | 0, _, _, _, _ => none
  | n + 1, x4, x5, x6, mm => if x6 < (mm 25 3) then ((Measure_toShape 50 x1 x6 mm).bind fun r10 => (if x4 = (-1) then (B_fitted_62 (B_fitted_40 x1 x2 n) x1 x2 x6 r10.1 r10.2) else (if r10.1 < x5 then (B_fitted_62 (B_fitted_40 x1 x2 n) x1 x2 x6 r10.1 r10.2) else (B_fitted_66 (B_fitted_40 x1 x2 n) x1 x2 x4 x5 x6 r10.2)))) else (if x2 = 0 then (some (x5, mm)) else (some (x4, mm)))
set_option maxHeartbeats 4000000 in
theorem lk_B_fitted_40 {p : Program} {l : Launch} {e : Env} {s : State} {m : MethodId} {args : Array Value} {below : List Frame} {meth : Method} {c : Code} {D : va_G} {cA : FieldType → ClassId} {ad adV : Nat → Nat} {z0 : Nat} {al0 : List Nat} (K : aK p s m args meth c mX11_fitted D cA ad adV z0) (x1 : Int) (x2 : Int)  : ∀ (n : Nat) (x4 : Int) (x5 : Int) (x6 : Int) (mm : aM), aG p l e { frames := 3, cells := 0, slots := 0, locals := 77 } s m args below meth c D cA ad z0 mX11_fitted al0 rIM (B_fitted_40 x1 x2 n x4 x5 x6 mm) 40 [(0, .inr (.inr (.inl (some 0)))), (1, .inl x1), (2, .inl x2), (4, .inl x4), (5, .inl x5), (6, .inl x6)] [] mm := by
  intro n
  induction n with
  | zero => intro x4 x5 x6 mm; exact g_none
  | succ n ih =>
    intro x4 x5 x6 mm
    rw [B_fitted_40]
    refine gl (i' := 41) (fun _ _ => aw_iload K (dOf ck_mX11_fitted rfl rfl) rfl) ?_
    refine gl (i' := 42) (fun _ _ => aw_aload_n K (dOf ck_mX11_fitted rfl rfl) rfl) ?_
    refine gl (i' := 43) (fun _ _ => aw_getf K (dOf ck_mX11_fitted rfl rfl) rfl rfl (Nat.le_of_ble_eq_true rfl) wd_461 (k := 1) rfl) ?_
    refine gl (i' := 44) (fun _ _ => aw_getf K (dOf ck_mX11_fitted rfl rfl) rfl rfl (Nat.le_of_ble_eq_true rfl) wd_204 (k := 3) rfl) ?_
    refine g_icmp_ge K (dOf ck_mX11_fitted rfl rfl) (t := 68) (aJ_of (by decide +kernel)) (fun h8 => ?_) (fun h8 => ?_)
    · refine gl (i' := 46) (fun _ _ => aw_aload_n K (dOf ck_mX11_fitted rfl rfl) rfl) ?_
      refine gl (i' := 47) (fun _ _ => aw_getf K (dOf ck_mX11_fitted rfl rfl) rfl rfl (Nat.le_of_ble_eq_true rfl) wd_469 (k := 9) rfl) ?_
      refine gl (i' := 48) (fun _ _ => aw_aload_n K (dOf ck_mX11_fitted rfl rfl) rfl) ?_
      refine gl (i' := 49) (fun _ _ => aw_getf K (dOf ck_mX11_fitted rfl rfl) rfl rfl (Nat.le_of_ble_eq_true rfl) wd_461 (k := 1) rfl) ?_
      refine gl (i' := 50) (fun _ _ => aw_aload_n K (dOf ck_mX11_fitted rfl rfl) rfl) ?_
      refine gl (i' := 51) (fun _ _ => aw_getf K (dOf ck_mX11_fitted rfl rfl) rfl rfl (Nat.le_of_ble_eq_true rfl) wd_463 (k := 3) rfl) ?_
      refine gl (i' := 52) (fun _ _ => aw_getf K (dOf ck_mX11_fitted rfl rfl) rfl rfl (Nat.le_of_ble_eq_true rfl) wd_298 (k := 0) rfl) ?_
      refine gl (i' := 53) (fun _ _ => aw_iload_n K (dOf ck_mX11_fitted rfl rfl) rfl) ?_
      refine gl (i' := 54) (fun _ _ => aw_iload K (dOf ck_mX11_fitted rfl rfl) rfl) ?_
      refine g_callVIM K [.inr (.inr (.inl (some _))), .inr (.inr (.inl (some _))), .inl _, .inl _] rfl (dOf ck_mX11_fitted rfl rfl) al_OneBreath_307 rfl rfl ⟨wd_1041, wd_1042⟩ rfl (Nat.le_of_ble_eq_true rfl) ⟨Nat.le_of_ble_eq_true rfl, Nat.le_of_ble_eq_true rfl⟩ (fun b hb => met_Measure_toShape ⟨_, rfl⟩ hb) (fun r10 hr10 => ?_)
      refine gl (i' := 56) (fun _ _ => aw_istore K (dOf ck_mX11_fitted rfl rfl) (Nat.le_of_ble_eq_true rfl)) ?_
      refine g_lv (lv' := [(7, .inl _), (0, .inr (.inr (.inl (some _)))), (1, .inl _), (2, .inl _), (4, .inl _), (5, .inl _), (6, .inl _)]) rfl ?_
      refine gl (i' := 57) (fun _ _ => aw_iload K (dOf ck_mX11_fitted rfl rfl) rfl) ?_
      refine gl (i' := 58) (fun _ _ => aw_iconst K (n := -1) (i32 _ rfl) (dOf ck_mX11_fitted rfl rfl)) ?_
      refine g_icmp_eq K (dOf ck_mX11_fitted rfl rfl) (t := 62) (aJ_of (by decide +kernel)) (fun h11 => ?_) (fun h11 => ?_)
      · refine g_sub [1, 2, 3, 6, 0] rfl ?_
        exact lk_B_fitted_62 K _ _ _ _ _ ih _
      · refine gl (i' := 60) (fun _ _ => aw_iload K (dOf ck_mX11_fitted rfl rfl) rfl) ?_
        refine gl (i' := 61) (fun _ _ => aw_iload K (dOf ck_mX11_fitted rfl rfl) rfl) ?_
        refine g_icmp_ge K (dOf ck_mX11_fitted rfl rfl) (t := 66) (aJ_of (by decide +kernel)) (fun h12 => ?_) (fun h12 => ?_)
        · refine g_sub [1, 2, 3, 6, 0] rfl ?_
          exact lk_B_fitted_62 K _ _ _ _ _ ih _
        · refine g_sub [1, 2, 3, 4, 5, 6] rfl ?_
          exact lk_B_fitted_66 K _ _ _ _ _ _ ih _
    · refine gl (i' := 69) (fun _ _ => aw_iload_n K (dOf ck_mX11_fitted rfl rfl) rfl) ?_
      refine g_if_ne K (dOf ck_mX11_fitted rfl rfl) (t := 72) (aJ_of (by decide +kernel)) (fun h9 => ?_) (fun h9 => ?_)
      · refine gl (i' := 71) (fun _ _ => aw_iload K (dOf ck_mX11_fitted rfl rfl) rfl) ?_
        refine g_goto K (dOf ck_mX11_fitted rfl rfl).1 (t := 73) (aJ_of (by decide +kernel)) ?_
        exact g_iret K (by decide +kernel) rfl (Or.inl rfl) rfl
      · refine gl (i' := 73) (fun _ _ => aw_iload K (dOf ck_mX11_fitted rfl rfl) rfl) ?_
        exact g_iret K (by decide +kernel) rfl (Or.inl rfl) rfl
def B_fitted_7 (x1 : Int) (x2 : Int) (mm : aM) : Option (Int × aM) := (Tape_holds x1 mm).bind fun r2 => (if r2 = 0 then (some ((-3), mm)) else ((Tape_spellInto x1 mm).bind fun r4 => (st1 (aup r4.2 1 1 0) fun mm5 => (if r4.1 = 0 then (some ((-9), mm5)) else (if 12 < x1 then (some ((-9), mm5)) else (B_fitted_40 x1 x2 FU (-1) (-1) 0 mm5))))))
set_option maxHeartbeats 4000000 in
theorem lk_B_fitted_7 {p : Program} {l : Launch} {e : Env} {s : State} {m : MethodId} {args : Array Value} {below : List Frame} {meth : Method} {c : Code} {D : va_G} {cA : FieldType → ClassId} {ad adV : Nat → Nat} {z0 : Nat} {al0 : List Nat} (K : aK p s m args meth c mX11_fitted D cA ad adV z0) (x1 : Int) (x2 : Int)  (mm : aM) : aG p l e { frames := 3, cells := 0, slots := 0, locals := 77 } s m args below meth c D cA ad z0 mX11_fitted al0 rIM (B_fitted_7 x1 x2 mm) 7 [(0, .inr (.inr (.inl (some 0)))), (1, .inl x1), (2, .inl x2)] [] mm := by
  unfold B_fitted_7
  refine gl (i' := 8) (fun _ _ => aw_aload_n K (dOf ck_mX11_fitted rfl rfl) rfl) ?_
  refine gl (i' := 9) (fun _ _ => aw_getf K (dOf ck_mX11_fitted rfl rfl) rfl rfl (Nat.le_of_ble_eq_true rfl) wd_460 (k := 0) rfl) ?_
  refine gl (i' := 10) (fun _ _ => aw_iload_n K (dOf ck_mX11_fitted rfl rfl) rfl) ?_
  refine g_callVI K [.inl _] rfl (dOf ck_mX11_fitted rfl rfl) al_OneBreath_111 rfl rfl ⟨wd_488, wd_489⟩ rfl (Nat.le_of_ble_eq_true rfl) ⟨Nat.le_of_ble_eq_true rfl, Nat.le_of_ble_eq_true rfl⟩ (fun b hb => met_Tape_holds  hb) (fun r2 hr2 => ?_)
  refine g_if_ne K (dOf ck_mX11_fitted rfl rfl) (t := 14) (aJ_of (by decide +kernel)) (fun h3 => ?_) (fun h3 => ?_)
  · refine gl (i' := 13) (fun _ _ => aw_bip K (dOf ck_mX11_fitted rfl rfl) (v := -3) rfl) ?_
    exact g_iret K (dOf ck_mX11_fitted rfl rfl).1 rfl (Or.inl rfl) rfl
  · refine gl (i' := 15) (fun _ _ => aw_aload_n K (dOf ck_mX11_fitted rfl rfl) rfl) ?_
    refine gl (i' := 16) (fun _ _ => aw_getf K (dOf ck_mX11_fitted rfl rfl) rfl rfl (Nat.le_of_ble_eq_true rfl) wd_460 (k := 0) rfl) ?_
    refine gl (i' := 17) (fun _ _ => aw_iload_n K (dOf ck_mX11_fitted rfl rfl) rfl) ?_
    refine gl (i' := 18) (fun _ _ => aw_aload_n K (dOf ck_mX11_fitted rfl rfl) rfl) ?_
    refine gl (i' := 19) (fun _ _ => aw_getf K (dOf ck_mX11_fitted rfl rfl) rfl rfl (Nat.le_of_ble_eq_true rfl) wd_461 (k := 1) rfl) ?_
    refine gl (i' := 20) (fun _ _ => aw_aload_n K (dOf ck_mX11_fitted rfl rfl) rfl) ?_
    refine gl (i' := 21) (fun _ _ => aw_getf K (dOf ck_mX11_fitted rfl rfl) rfl rfl (Nat.le_of_ble_eq_true rfl) wd_463 (k := 3) rfl) ?_
    refine g_callVIM K [.inl _, .inr (.inr (.inl (some _))), .inr (.inr (.inl (some _)))] rfl (dOf ck_mX11_fitted rfl rfl) al_OneBreath_188 rfl rfl ⟨wd_656, wd_657⟩ rfl (Nat.le_of_ble_eq_true rfl) ⟨Nat.le_of_ble_eq_true rfl, Nat.le_of_ble_eq_true rfl⟩ (fun b hb => met_Tape_spellInto  hb) (fun r4 hr4 => ?_)
    refine gl (i' := 23) (fun _ _ => aw_istore_n K (dOf ck_mX11_fitted rfl rfl) (Nat.le_of_ble_eq_true rfl)) ?_
    refine g_lv (lv' := [(3, .inl _), (0, .inr (.inr (.inl (some _)))), (1, .inl _), (2, .inl _)]) rfl ?_
    refine gl (i' := 24) (fun _ _ => aw_aload_n K (dOf ck_mX11_fitted rfl rfl) rfl) ?_
    refine gl (i' := 25) (fun _ _ => aw_getf K (dOf ck_mX11_fitted rfl rfl) rfl rfl (Nat.le_of_ble_eq_true rfl) wd_460 (k := 0) rfl) ?_
    refine gl (i' := 26) (fun _ _ => aw_iconst K (n := 0) (i32 _ rfl) (dOf ck_mX11_fitted rfl rfl)) ?_
    refine g_st1 ?_
    refine gl (i' := 27) (fun _ _ => aw_putf K (dOf ck_mX11_fitted rfl rfl) rfl rfl (Nat.le_of_ble_eq_true rfl) wd_275 (k := 1) rfl rfl (Or.inl rfl)) ?_
    refine gl (i' := 28) (fun _ _ => aw_iload_n K (dOf ck_mX11_fitted rfl rfl) rfl) ?_
    refine g_if_eq K (dOf ck_mX11_fitted rfl rfl) (t := 32) (aJ_of (by decide +kernel)) (fun h6 => ?_) (fun h6 => ?_)
    · refine gl (i' := 33) (fun _ _ => aw_bip K (dOf ck_mX11_fitted rfl rfl) (v := -9) rfl) ?_
      exact g_iret K (dOf ck_mX11_fitted rfl rfl).1 rfl (Or.inl rfl) rfl
    · refine gl (i' := 30) (fun _ _ => aw_iload_n K (dOf ck_mX11_fitted rfl rfl) rfl) ?_
      refine gl (i' := 31) (fun _ _ => aw_bip K (dOf ck_mX11_fitted rfl rfl) (v := 12) rfl) ?_
      refine g_icmp_le K (dOf ck_mX11_fitted rfl rfl) (t := 34) (aJ_of (by decide +kernel)) (fun h7 => ?_) (fun h7 => ?_)
      · refine gl (i' := 33) (fun _ _ => aw_bip K (dOf ck_mX11_fitted rfl rfl) (v := -9) rfl) ?_
        exact g_iret K (dOf ck_mX11_fitted rfl rfl).1 rfl (Or.inl rfl) rfl
      · refine gl (i' := 35) (fun _ _ => aw_iconst K (n := -1) (i32 _ rfl) (dOf ck_mX11_fitted rfl rfl)) ?_
        refine gl (i' := 36) (fun _ _ => aw_istore K (dOf ck_mX11_fitted rfl rfl) (Nat.le_of_ble_eq_true rfl)) ?_
        refine g_lv (lv' := [(4, .inl _), (3, .inl _), (0, .inr (.inr (.inl (some _)))), (1, .inl _), (2, .inl _)]) rfl ?_
        refine gl (i' := 37) (fun _ _ => aw_iconst K (n := -1) (i32 _ rfl) (dOf ck_mX11_fitted rfl rfl)) ?_
        refine gl (i' := 38) (fun _ _ => aw_istore K (dOf ck_mX11_fitted rfl rfl) (Nat.le_of_ble_eq_true rfl)) ?_
        refine g_lv (lv' := [(5, .inl _), (4, .inl _), (3, .inl _), (0, .inr (.inr (.inl (some _)))), (1, .inl _), (2, .inl _)]) rfl ?_
        refine gl (i' := 39) (fun _ _ => aw_iconst K (n := 0) (i32 _ rfl) (dOf ck_mX11_fitted rfl rfl)) ?_
        refine gl (i' := 40) (fun _ _ => aw_istore K (dOf ck_mX11_fitted rfl rfl) (Nat.le_of_ble_eq_true rfl)) ?_
        refine g_lv (lv' := [(6, .inl _), (5, .inl _), (4, .inl _), (3, .inl _), (0, .inr (.inr (.inl (some _)))), (1, .inl _), (2, .inl _)]) rfl ?_
        refine g_sub [4, 5, 6, 2, 1, 0] rfl ?_
        exact lk_B_fitted_40 K _ _ FU _ _ _ _
def B_fitted (x1 : Int) (x2 : Int) (mm : aM) : Option (Int × aM) := if x2 = 0 then (B_fitted_7 x1 x2 mm) else (if x2 = 1 then (B_fitted_7 x1 x2 mm) else (some ((-2), mm)))
set_option maxHeartbeats 4000000 in
theorem met_B_fitted {l : Launch} {D : va_G} {cA : FieldType → ClassId} {ad adV : Nat → Nat} {z0 : Nat} {x1 : Int} {x2 : Int} {mm : aM}  {r : Int × aM} (h : B_fitted x1 x2 mm = some r) : aMet l D cA ad adV z0 mX11_fitted 3 77 0 0 [.inr (.inr (.inl (some 0))), .inl x1, .inl x2] SH mm (rIM r).1 SH (rIM r).2 := by
  refine aMet_ofG (by decide +kernel) rfl (Nat.le_of_ble_eq_true rfl) h (fun p e s m args below meth c al0 K => ?_)
  unfold B_fitted
  refine gl (i' := 1) (fun _ _ => aw_iload_n K (dOf ck_mX11_fitted rfl rfl) rfl) ?_
  refine g_if_eq K (dOf ck_mX11_fitted rfl rfl) (t := 7) (aJ_of (by decide +kernel)) (fun h1 => ?_) (fun h1 => ?_)
  · refine g_sub [0, 1, 2] rfl ?_
    exact lk_B_fitted_7 K _ _ _
  · refine gl (i' := 3) (fun _ _ => aw_iload_n K (dOf ck_mX11_fitted rfl rfl) rfl) ?_
    refine gl (i' := 4) (fun _ _ => aw_iconst K (n := 1) (i32 _ rfl) (dOf ck_mX11_fitted rfl rfl)) ?_
    refine g_icmp_eq K (dOf ck_mX11_fitted rfl rfl) (t := 7) (aJ_of (by decide +kernel)) (fun h13 => ?_) (fun h13 => ?_)
    · refine g_sub [0, 1, 2] rfl ?_
      exact lk_B_fitted_7 K _ _ _
    · refine gl (i' := 6) (fun _ _ => aw_bip K (dOf ck_mX11_fitted rfl rfl) (v := -2) rfl) ?_
      exact g_iret K (dOf ck_mX11_fitted rfl rfl).1 rfl (Or.inl rfl) rfl
