def B_noise_24 (x1 : Int) (x2 : Int) (x3 : Int) (x4 : Int) (mm : aM) : Option (Int × aM) := (B_hearForNoise x1 x3 mm).bind fun r5 => (if r5.1 = 0 then (st1 (aup r5.2 73 3 x2) fun mm7 => ((Noise_carry x3 mm7).bind fun r8 => (if x4 = 0 then (some (r8 73 4, r8)) else (if x4 = 1 then ((Noise_isUnderstood r8).bind fun r13 => (if r13.1 = 0 then (some (0, r13.2)) else (some (1, r13.2)))) else (if (w32 (x4 - 10)) < (r8 74 1) then (if 0 ≤ (w32 (x4 - 10)) ∧ (w32 (x4 - 10)) < 40 then (some (r8 75 (w32 (x4 - 10)).toNat, r8)) else none) else (some ((-1), r8))))))) else (some (r5.1, r5.2)))
set_option maxHeartbeats 4000000 in
theorem lk_B_noise_24 {p : Program} {l : Launch} {e : Env} {s : State} {m : MethodId} {args : Array Value} {below : List Frame} {meth : Method} {c : Code} {D : va_G} {cA : FieldType → ClassId} {ad adV : Nat → Nat} {z0 : Nat} {al0 : List Nat} (K : aK p s m args meth c mX11_noise D cA ad adV z0) (x1 : Int) (x2 : Int) (x3 : Int) (x4 : Int)  (mm : aM) : aG p l e { frames := 6, cells := 0, slots := 0, locals := 144 } s m args below meth c D cA ad z0 mX11_noise al0 rIM (B_noise_24 x1 x2 x3 x4 mm) 24 [(0, .inr (.inr (.inl (some 0)))), (1, .inl x1), (2, .inl x2), (3, .inl x3), (4, .inl x4)] [] mm := by
  unfold B_noise_24
  refine gl (i' := 25) (fun _ _ => aw_aload_n K (dOf ck_mX11_noise rfl rfl) rfl) ?_
  refine gl (i' := 26) (fun _ _ => aw_iload_n K (dOf ck_mX11_noise rfl rfl) rfl) ?_
  refine gl (i' := 27) (fun _ _ => aw_iload_n K (dOf ck_mX11_noise rfl rfl) rfl) ?_
  refine g_callVIM K [.inl _, .inl _] rfl (dOf ck_mX11_noise rfl rfl) al_OneBreath_331 rfl rfl ⟨wd_1105, wd_59⟩ rfl (Nat.le_of_ble_eq_true rfl) ⟨Nat.le_of_ble_eq_true rfl, Nat.le_of_ble_eq_true rfl⟩ (fun b hb => met_B_hearForNoise  hb) (fun r5 hr5 => ?_)
  refine gl (i' := 29) (fun _ _ => aw_istore K (dOf ck_mX11_noise rfl rfl) (Nat.le_of_ble_eq_true rfl)) ?_
  refine g_lv (lv' := [(6, .inl _), (0, .inr (.inr (.inl (some _)))), (1, .inl _), (2, .inl _), (3, .inl _), (4, .inl _)]) rfl ?_
  refine gl (i' := 30) (fun _ _ => aw_iload K (dOf ck_mX11_noise rfl rfl) rfl) ?_
  refine g_if_eq K (dOf ck_mX11_noise rfl rfl) (t := 33) (aJ_of (by decide +kernel)) (fun h6 => ?_) (fun h6 => ?_)
  · refine gl (i' := 34) (fun _ _ => aw_aload_n K (dOf ck_mX11_noise rfl rfl) rfl) ?_
    refine gl (i' := 35) (fun _ _ => aw_getf K (dOf ck_mX11_noise rfl rfl) rfl rfl (Nat.le_of_ble_eq_true rfl) wd_468 (k := 8) rfl) ?_
    refine gl (i' := 36) (fun _ _ => aw_iload_n K (dOf ck_mX11_noise rfl rfl) rfl) ?_
    refine g_st1 ?_
    refine gl (i' := 37) (fun _ _ => aw_putf K (dOf ck_mX11_noise rfl rfl) rfl rfl (Nat.le_of_ble_eq_true rfl) wd_369 (k := 3) rfl rfl (Or.inl rfl)) ?_
    refine gl (i' := 38) (fun _ _ => aw_aload_n K (dOf ck_mX11_noise rfl rfl) rfl) ?_
    refine gl (i' := 39) (fun _ _ => aw_getf K (dOf ck_mX11_noise rfl rfl) rfl rfl (Nat.le_of_ble_eq_true rfl) wd_468 (k := 8) rfl) ?_
    refine gl (i' := 40) (fun _ _ => aw_aload_n K (dOf ck_mX11_noise rfl rfl) rfl) ?_
    refine gl (i' := 41) (fun _ _ => aw_getf K (dOf ck_mX11_noise rfl rfl) rfl rfl (Nat.le_of_ble_eq_true rfl) wd_463 (k := 3) rfl) ?_
    refine gl (i' := 42) (fun _ _ => aw_iload_n K (dOf ck_mX11_noise rfl rfl) rfl) ?_
    refine g_callVM K [.inr (.inr (.inl (some _))), .inl _] rfl (dOf ck_mX11_noise rfl rfl) al_OneBreath_338 rfl rfl ⟨wd_1108, wd_1109⟩ rfl (Nat.le_of_ble_eq_true rfl) ⟨Nat.le_of_ble_eq_true rfl, Nat.le_of_ble_eq_true rfl⟩ (fun b hb => met_Noise_carry  hb) (fun r8 hr8 => ?_)
    refine gl (i' := 44) (fun _ _ => aw_iload K (dOf ck_mX11_noise rfl rfl) rfl) ?_
    refine g_if_ne K (dOf ck_mX11_noise rfl rfl) (t := 49) (aJ_of (by decide +kernel)) (fun h9 => ?_) (fun h9 => ?_)
    · refine gl (i' := 46) (fun _ _ => aw_aload_n K (dOf ck_mX11_noise rfl rfl) rfl) ?_
      refine gl (i' := 47) (fun _ _ => aw_getf K (dOf ck_mX11_noise rfl rfl) rfl rfl (Nat.le_of_ble_eq_true rfl) wd_468 (k := 8) rfl) ?_
      refine gl (i' := 48) (fun _ _ => aw_getf K (dOf ck_mX11_noise rfl rfl) rfl rfl (Nat.le_of_ble_eq_true rfl) wd_371 (k := 4) rfl) ?_
      exact g_iret K (dOf ck_mX11_noise rfl rfl).1 rfl (Or.inl rfl) rfl
    · refine gl (i' := 50) (fun _ _ => aw_iload K (dOf ck_mX11_noise rfl rfl) rfl) ?_
      refine gl (i' := 51) (fun _ _ => aw_iconst K (n := 1) (i32 _ rfl) (dOf ck_mX11_noise rfl rfl)) ?_
      refine g_icmp_ne K (dOf ck_mX11_noise rfl rfl) (t := 62) (aJ_of (by decide +kernel)) (fun h10 => ?_) (fun h10 => ?_)
      · refine gl (i' := 53) (fun _ _ => aw_aload_n K (dOf ck_mX11_noise rfl rfl) rfl) ?_
        refine gl (i' := 54) (fun _ _ => aw_getf K (dOf ck_mX11_noise rfl rfl) rfl rfl (Nat.le_of_ble_eq_true rfl) wd_468 (k := 8) rfl) ?_
        refine gl (i' := 55) (fun _ _ => aw_aload_n K (dOf ck_mX11_noise rfl rfl) rfl) ?_
        refine gl (i' := 56) (fun _ _ => aw_getf K (dOf ck_mX11_noise rfl rfl) rfl rfl (Nat.le_of_ble_eq_true rfl) wd_465 (k := 5) rfl) ?_
        refine g_callVIM K [.inr (.inr (.inl (some _)))] rfl (dOf ck_mX11_noise rfl rfl) al_OneBreath_345 rfl rfl ⟨wd_1121, wd_1122⟩ rfl (Nat.le_of_ble_eq_true rfl) ⟨Nat.le_of_ble_eq_true rfl, Nat.le_of_ble_eq_true rfl⟩ (fun b hb => met_Noise_isUnderstood  hb) (fun r13 hr13 => ?_)
        refine g_if_eq K (dOf ck_mX11_noise rfl rfl) (t := 60) (aJ_of (by decide +kernel)) (fun h14 => ?_) (fun h14 => ?_)
        · refine gl (i' := 61) (fun _ _ => aw_iconst K (n := 0) (i32 _ rfl) (dOf ck_mX11_noise rfl rfl)) ?_
          exact g_iret K (dOf ck_mX11_noise rfl rfl).1 rfl (Or.inl rfl) rfl
        · refine gl (i' := 59) (fun _ _ => aw_iconst K (n := 1) (i32 _ rfl) (dOf ck_mX11_noise rfl rfl)) ?_
          refine g_goto K (dOf ck_mX11_noise rfl rfl).1 (t := 61) (aJ_of (by decide +kernel)) ?_
          exact g_iret K (dOf ck_mX11_noise rfl rfl).1 rfl (Or.inl rfl) rfl
      · refine gl (i' := 63) (fun _ _ => aw_iload K (dOf ck_mX11_noise rfl rfl) rfl) ?_
        refine gl (i' := 64) (fun _ _ => aw_bip K (dOf ck_mX11_noise rfl rfl) (v := 10) rfl) ?_
        refine gl (i' := 65) (fun _ _ => aw_isub K (dOf ck_mX11_noise rfl rfl)) ?_
        refine gl (i' := 66) (fun _ _ => aw_istore K (dOf ck_mX11_noise rfl rfl) (Nat.le_of_ble_eq_true rfl)) ?_
        refine g_lv (lv' := [(7, .inl _), (6, .inl _), (0, .inr (.inr (.inl (some _)))), (1, .inl _), (2, .inl _), (3, .inl _), (4, .inl _)]) rfl ?_
        refine gl (i' := 67) (fun _ _ => aw_iload K (dOf ck_mX11_noise rfl rfl) rfl) ?_
        refine gl (i' := 68) (fun _ _ => aw_aload_n K (dOf ck_mX11_noise rfl rfl) rfl) ?_
        refine gl (i' := 69) (fun _ _ => aw_getf K (dOf ck_mX11_noise rfl rfl) rfl rfl (Nat.le_of_ble_eq_true rfl) wd_468 (k := 8) rfl) ?_
        refine gl (i' := 70) (fun _ _ => aw_getf K (dOf ck_mX11_noise rfl rfl) rfl rfl (Nat.le_of_ble_eq_true rfl) wd_367 (k := 2) rfl) ?_
        refine gl (i' := 71) (fun _ _ => aw_getf K (dOf ck_mX11_noise rfl rfl) rfl rfl (Nat.le_of_ble_eq_true rfl) wd_303 (k := 1) rfl) ?_
        refine g_icmp_ge K (dOf ck_mX11_noise rfl rfl) (t := 79) (aJ_of (by decide +kernel)) (fun h11 => ?_) (fun h11 => ?_)
        · refine gl (i' := 73) (fun _ _ => aw_aload_n K (dOf ck_mX11_noise rfl rfl) rfl) ?_
          refine gl (i' := 74) (fun _ _ => aw_getf K (dOf ck_mX11_noise rfl rfl) rfl rfl (Nat.le_of_ble_eq_true rfl) wd_468 (k := 8) rfl) ?_
          refine gl (i' := 75) (fun _ _ => aw_getf K (dOf ck_mX11_noise rfl rfl) rfl rfl (Nat.le_of_ble_eq_true rfl) wd_367 (k := 2) rfl) ?_
          refine gl (i' := 76) (fun _ _ => aw_getf K (dOf ck_mX11_noise rfl rfl) rfl rfl (Nat.le_of_ble_eq_true rfl) wd_298 (k := 0) rfl) ?_
          refine gl (i' := 77) (fun _ _ => aw_iload K (dOf ck_mX11_noise rfl rfl) rfl) ?_
          refine g_gd (fun hb12 => ?_)
          refine gl (i' := 78) (fun _ _ => aw_bald K (dOf ck_mX11_noise rfl rfl) rfl hb12) ?_
          refine g_goto K (dOf ck_mX11_noise rfl rfl).1 (t := 80) (aJ_of (by decide +kernel)) ?_
          exact g_iret K (by decide +kernel) rfl (Or.inl rfl) rfl
        · refine gl (i' := 80) (fun _ _ => aw_iconst K (n := -1) (i32 _ rfl) (dOf ck_mX11_noise rfl rfl)) ?_
          exact g_iret K (by decide +kernel) rfl (Or.inl rfl) rfl
  · refine gl (i' := 32) (fun _ _ => aw_iload K (dOf ck_mX11_noise rfl rfl) rfl) ?_
    exact g_iret K (dOf ck_mX11_noise rfl rfl).1 rfl (Or.inl rfl) rfl
def B_noise_9 (x1 : Int) (x2 : Int) (x3 : Int) (x4 : Int) (s0 : Int) (mm : aM) : Option (Int × aM) := (Rows_isRow x1 mm).bind fun r2 => (if r2 = 0 then (some ((-2), mm)) else (if x4 = 0 then (B_noise_24 x1 x2 x3 x4 mm) else (if x4 = 1 then (B_noise_24 x1 x2 x3 x4 mm) else (if s0 = 0 then (some ((-2), mm)) else (B_noise_24 x1 x2 x3 x4 mm)))))
set_option maxHeartbeats 4000000 in
theorem lk_B_noise_9 {p : Program} {l : Launch} {e : Env} {s : State} {m : MethodId} {args : Array Value} {below : List Frame} {meth : Method} {c : Code} {D : va_G} {cA : FieldType → ClassId} {ad adV : Nat → Nat} {z0 : Nat} {al0 : List Nat} (K : aK p s m args meth c mX11_noise D cA ad adV z0) (x1 : Int) (x2 : Int) (x3 : Int) (x4 : Int)  (s0 : Int) (mm : aM) : aG p l e { frames := 6, cells := 0, slots := 0, locals := 144 } s m args below meth c D cA ad z0 mX11_noise al0 rIM (B_noise_9 x1 x2 x3 x4 s0 mm) 9 [(0, .inr (.inr (.inl (some 0)))), (1, .inl x1), (2, .inl x2), (3, .inl x3), (4, .inl x4)] [.inl s0] mm := by
  unfold B_noise_9
  refine gl (i' := 10) (fun _ _ => aw_istore K (dOf ck_mX11_noise rfl rfl) (Nat.le_of_ble_eq_true rfl)) ?_
  refine g_lv (lv' := [(5, .inl _), (0, .inr (.inr (.inl (some _)))), (1, .inl _), (2, .inl _), (3, .inl _), (4, .inl _)]) rfl ?_
  refine gl (i' := 11) (fun _ _ => aw_aload_n K (dOf ck_mX11_noise rfl rfl) rfl) ?_
  refine gl (i' := 12) (fun _ _ => aw_getf K (dOf ck_mX11_noise rfl rfl) rfl rfl (Nat.le_of_ble_eq_true rfl) wd_464 (k := 4) rfl) ?_
  refine gl (i' := 13) (fun _ _ => aw_iload_n K (dOf ck_mX11_noise rfl rfl) rfl) ?_
  refine g_callVI K [.inl _] rfl (dOf ck_mX11_noise rfl rfl) al_OneBreath_206 rfl rfl ⟨wd_688, wd_689⟩ rfl (Nat.le_of_ble_eq_true rfl) ⟨Nat.le_of_ble_eq_true rfl, Nat.le_of_ble_eq_true rfl⟩ (fun b hb => met_Rows_isRow  hb) (fun r2 hr2 => ?_)
  refine g_if_eq K (dOf ck_mX11_noise rfl rfl) (t := 22) (aJ_of (by decide +kernel)) (fun h3 => ?_) (fun h3 => ?_)
  · refine gl (i' := 23) (fun _ _ => aw_bip K (dOf ck_mX11_noise rfl rfl) (v := -2) rfl) ?_
    exact g_iret K (dOf ck_mX11_noise rfl rfl).1 rfl (Or.inl rfl) rfl
  · refine gl (i' := 16) (fun _ _ => aw_iload K (dOf ck_mX11_noise rfl rfl) rfl) ?_
    refine g_if_eq K (dOf ck_mX11_noise rfl rfl) (t := 24) (aJ_of (by decide +kernel)) (fun h4 => ?_) (fun h4 => ?_)
    · refine g_sub [1, 2, 3, 4, 5] rfl ?_
      exact lk_B_noise_24 K _ _ _ _ _
    · refine gl (i' := 18) (fun _ _ => aw_iload K (dOf ck_mX11_noise rfl rfl) rfl) ?_
      refine gl (i' := 19) (fun _ _ => aw_iconst K (n := 1) (i32 _ rfl) (dOf ck_mX11_noise rfl rfl)) ?_
      refine g_icmp_eq K (dOf ck_mX11_noise rfl rfl) (t := 24) (aJ_of (by decide +kernel)) (fun h15 => ?_) (fun h15 => ?_)
      · refine g_sub [1, 2, 3, 4, 5] rfl ?_
        exact lk_B_noise_24 K _ _ _ _ _
      · refine gl (i' := 21) (fun _ _ => aw_iload K (dOf ck_mX11_noise rfl rfl) rfl) ?_
        refine g_if_ne K (dOf ck_mX11_noise rfl rfl) (t := 24) (aJ_of (by decide +kernel)) (fun h16 => ?_) (fun h16 => ?_)
        · refine gl (i' := 23) (fun _ _ => aw_bip K (dOf ck_mX11_noise rfl rfl) (v := -2) rfl) ?_
          exact g_iret K (dOf ck_mX11_noise rfl rfl).1 rfl (Or.inl rfl) rfl
        · refine g_sub [1, 2, 3, 4, 5] rfl ?_
          exact lk_B_noise_24 K _ _ _ _ _
def B_noise_8 (x1 : Int) (x2 : Int) (x3 : Int) (x4 : Int) (mm : aM) : Option (Int × aM) := B_noise_9 x1 x2 x3 x4 0 mm
set_option maxHeartbeats 4000000 in
theorem lk_B_noise_8 {p : Program} {l : Launch} {e : Env} {s : State} {m : MethodId} {args : Array Value} {below : List Frame} {meth : Method} {c : Code} {D : va_G} {cA : FieldType → ClassId} {ad adV : Nat → Nat} {z0 : Nat} {al0 : List Nat} (K : aK p s m args meth c mX11_noise D cA ad adV z0) (x1 : Int) (x2 : Int) (x3 : Int) (x4 : Int)  (mm : aM) : aG p l e { frames := 6, cells := 0, slots := 0, locals := 144 } s m args below meth c D cA ad z0 mX11_noise al0 rIM (B_noise_8 x1 x2 x3 x4 mm) 8 [(0, .inr (.inr (.inl (some 0)))), (1, .inl x1), (2, .inl x2), (3, .inl x3), (4, .inl x4)] [] mm := by
  unfold B_noise_8
  refine gl (i' := 9) (fun _ _ => aw_iconst K (n := 0) (i32 _ rfl) (dOf ck_mX11_noise rfl rfl)) ?_
  refine g_sub [0, 1, 2, 3, 4] rfl ?_
  exact lk_B_noise_9 K _ _ _ _ _ _
def B_noise (x1 : Int) (x2 : Int) (x3 : Int) (x4 : Int) (mm : aM) : Option (Int × aM) := if x4 < 10 then (B_noise_8 x1 x2 x3 x4 mm) else (if x4 < 50 then (B_noise_9 x1 x2 x3 x4 1 mm) else (B_noise_8 x1 x2 x3 x4 mm))
set_option maxHeartbeats 4000000 in
theorem met_B_noise {l : Launch} {D : va_G} {cA : FieldType → ClassId} {ad adV : Nat → Nat} {z0 : Nat} {x1 : Int} {x2 : Int} {x3 : Int} {x4 : Int} {mm : aM}  {r : Int × aM} (h : B_noise x1 x2 x3 x4 mm = some r) : aMet l D cA ad adV z0 mX11_noise 6 144 0 0 [.inr (.inr (.inl (some 0))), .inl x1, .inl x2, .inl x3, .inl x4] SH mm (rIM r).1 SH (rIM r).2 := by
  refine aMet_ofG (by decide +kernel) rfl (Nat.le_of_ble_eq_true rfl) h (fun p e s m args below meth c al0 K => ?_)
  unfold B_noise
  refine gl (i' := 1) (fun _ _ => aw_iload K (dOf ck_mX11_noise rfl rfl) rfl) ?_
  refine gl (i' := 2) (fun _ _ => aw_bip K (dOf ck_mX11_noise rfl rfl) (v := 10) rfl) ?_
  refine g_icmp_lt K (dOf ck_mX11_noise rfl rfl) (t := 8) (aJ_of (by decide +kernel)) (fun h1 => ?_) (fun h1 => ?_)
  · refine g_sub [0, 1, 2, 3, 4] rfl ?_
    exact lk_B_noise_8 K _ _ _ _ _
  · refine gl (i' := 4) (fun _ _ => aw_iload K (dOf ck_mX11_noise rfl rfl) rfl) ?_
    refine gl (i' := 5) (fun _ _ => aw_bip K (dOf ck_mX11_noise rfl rfl) (v := 50) rfl) ?_
    refine g_icmp_ge K (dOf ck_mX11_noise rfl rfl) (t := 8) (aJ_of (by decide +kernel)) (fun h17 => ?_) (fun h17 => ?_)
    · refine gl (i' := 7) (fun _ _ => aw_iconst K (n := 1) (i32 _ rfl) (dOf ck_mX11_noise rfl rfl)) ?_
      refine g_goto K (dOf ck_mX11_noise rfl rfl).1 (t := 9) (aJ_of (by decide +kernel)) ?_
      refine g_sub [0, 1, 2, 3, 4] rfl ?_
      exact lk_B_noise_9 K _ _ _ _ _ _
    · refine g_sub [0, 1, 2, 3, 4] rfl ?_
      exact lk_B_noise_8 K _ _ _ _ _
def B_asked_22 (x3 : Int) : Nat → Int → aM → Option (Int × aM)
  | 0, _, _ => none
  | n + 1, x5, mm => if 9 < x5 then (some ((-1), mm)) else ((Noise_carry x3 mm).bind fun r7 => ((Noise_isUnderstood r7).bind fun r8 => (if r8.1 = 0 then (B_asked_22 x3 n (w32 (x5 + 1)) r8.2) else (some (x5, r8.2)))))
set_option maxHeartbeats 4000000 in
theorem lk_B_asked_22 {p : Program} {l : Launch} {e : Env} {s : State} {m : MethodId} {args : Array Value} {below : List Frame} {meth : Method} {c : Code} {D : va_G} {cA : FieldType → ClassId} {ad adV : Nat → Nat} {z0 : Nat} {al0 : List Nat} (K : aK p s m args meth c mX11_asked D cA ad adV z0) (x3 : Int)  : ∀ (n : Nat) (x5 : Int) (mm : aM), aG p l e { frames := 6, cells := 0, slots := 0, locals := 144 } s m args below meth c D cA ad z0 mX11_asked al0 rIM (B_asked_22 x3 n x5 mm) 22 [(0, .inr (.inr (.inl (some 0)))), (3, .inl x3), (5, .inl x5)] [] mm := by
  intro n
  induction n with
  | zero => intro x5 mm; exact g_none
  | succ n ih =>
    intro x5 mm
    rw [B_asked_22]
    refine gl (i' := 23) (fun _ _ => aw_iload K (dOf ck_mX11_asked rfl rfl) rfl) ?_
    refine gl (i' := 24) (fun _ _ => aw_bip K (dOf ck_mX11_asked rfl rfl) (v := 9) rfl) ?_
    refine g_icmp_gt K (dOf ck_mX11_asked rfl rfl) (t := 41) (aJ_of (by decide +kernel)) (fun h6 => ?_) (fun h6 => ?_)
    · refine gl (i' := 42) (fun _ _ => aw_iconst K (n := -1) (i32 _ rfl) (dOf ck_mX11_asked rfl rfl)) ?_
      exact g_iret K (by decide +kernel) rfl (Or.inl rfl) rfl
    · refine gl (i' := 26) (fun _ _ => aw_aload_n K (dOf ck_mX11_asked rfl rfl) rfl) ?_
      refine gl (i' := 27) (fun _ _ => aw_getf K (dOf ck_mX11_asked rfl rfl) rfl rfl (Nat.le_of_ble_eq_true rfl) wd_468 (k := 8) rfl) ?_
      refine gl (i' := 28) (fun _ _ => aw_aload_n K (dOf ck_mX11_asked rfl rfl) rfl) ?_
      refine gl (i' := 29) (fun _ _ => aw_getf K (dOf ck_mX11_asked rfl rfl) rfl rfl (Nat.le_of_ble_eq_true rfl) wd_463 (k := 3) rfl) ?_
      refine gl (i' := 30) (fun _ _ => aw_iload_n K (dOf ck_mX11_asked rfl rfl) rfl) ?_
      refine g_callVM K [.inr (.inr (.inl (some _))), .inl _] rfl (dOf ck_mX11_asked rfl rfl) al_OneBreath_338 rfl rfl ⟨wd_1108, wd_1109⟩ rfl (Nat.le_of_ble_eq_true rfl) ⟨Nat.le_of_ble_eq_true rfl, Nat.le_of_ble_eq_true rfl⟩ (fun b hb => met_Noise_carry  hb) (fun r7 hr7 => ?_)
      refine gl (i' := 32) (fun _ _ => aw_aload_n K (dOf ck_mX11_asked rfl rfl) rfl) ?_
      refine gl (i' := 33) (fun _ _ => aw_getf K (dOf ck_mX11_asked rfl rfl) rfl rfl (Nat.le_of_ble_eq_true rfl) wd_468 (k := 8) rfl) ?_
      refine gl (i' := 34) (fun _ _ => aw_aload_n K (dOf ck_mX11_asked rfl rfl) rfl) ?_
      refine gl (i' := 35) (fun _ _ => aw_getf K (dOf ck_mX11_asked rfl rfl) rfl rfl (Nat.le_of_ble_eq_true rfl) wd_465 (k := 5) rfl) ?_
      refine g_callVIM K [.inr (.inr (.inl (some _)))] rfl (dOf ck_mX11_asked rfl rfl) al_OneBreath_345 rfl rfl ⟨wd_1121, wd_1122⟩ rfl (Nat.le_of_ble_eq_true rfl) ⟨Nat.le_of_ble_eq_true rfl, Nat.le_of_ble_eq_true rfl⟩ (fun b hb => met_Noise_isUnderstood  hb) (fun r8 hr8 => ?_)
      refine g_if_eq K (dOf ck_mX11_asked rfl rfl) (t := 39) (aJ_of (by decide +kernel)) (fun h9 => ?_) (fun h9 => ?_)
      · refine gl (i' := 40) (fun _ _ => aw_iinc K (dOf ck_mX11_asked rfl rfl) (Nat.le_of_ble_eq_true rfl) rfl) ?_
        refine g_lv (lv' := [(5, .inl _), (0, .inr (.inr (.inl (some _)))), (3, .inl _)]) rfl ?_
        refine g_goto K (dOf ck_mX11_asked rfl rfl).1 (t := 22) (aJ_of (by decide +kernel)) ?_
        refine g_sub [1, 2, 0] rfl ?_
        exact ih _ _
      · refine gl (i' := 38) (fun _ _ => aw_iload K (dOf ck_mX11_asked rfl rfl) rfl) ?_
        exact g_iret K (dOf ck_mX11_asked rfl rfl).1 rfl (Or.inl rfl) rfl
def B_asked (x1 : Int) (x2 : Int) (x3 : Int) (mm : aM) : Option (Int × aM) := (Rows_isRow x1 mm).bind fun r1 => (if r1 = 0 then (some ((-2), mm)) else ((B_hearForNoise x1 x3 mm).bind fun r3 => (if r3.1 = 0 then (st1 (aup r3.2 73 3 x2) fun mm5 => (B_asked_22 x3 FU 1 mm5)) else (some (r3.1, r3.2)))))
set_option maxHeartbeats 4000000 in
theorem met_B_asked {l : Launch} {D : va_G} {cA : FieldType → ClassId} {ad adV : Nat → Nat} {z0 : Nat} {x1 : Int} {x2 : Int} {x3 : Int} {mm : aM}  {r : Int × aM} (h : B_asked x1 x2 x3 mm = some r) : aMet l D cA ad adV z0 mX11_asked 6 144 0 0 [.inr (.inr (.inl (some 0))), .inl x1, .inl x2, .inl x3] SH mm (rIM r).1 SH (rIM r).2 := by
  refine aMet_ofG (by decide +kernel) rfl (Nat.le_of_ble_eq_true rfl) h (fun p e s m args below meth c al0 K => ?_)
  unfold B_asked
  refine gl (i' := 1) (fun _ _ => aw_aload_n K (dOf ck_mX11_asked rfl rfl) rfl) ?_
  refine gl (i' := 2) (fun _ _ => aw_getf K (dOf ck_mX11_asked rfl rfl) rfl rfl (Nat.le_of_ble_eq_true rfl) wd_464 (k := 4) rfl) ?_
  refine gl (i' := 3) (fun _ _ => aw_iload_n K (dOf ck_mX11_asked rfl rfl) rfl) ?_
  refine g_callVI K [.inl _] rfl (dOf ck_mX11_asked rfl rfl) al_OneBreath_206 rfl rfl ⟨wd_688, wd_689⟩ rfl (Nat.le_of_ble_eq_true rfl) ⟨Nat.le_of_ble_eq_true rfl, Nat.le_of_ble_eq_true rfl⟩ (fun b hb => met_Rows_isRow  hb) (fun r1 hr1 => ?_)
  refine g_if_ne K (dOf ck_mX11_asked rfl rfl) (t := 7) (aJ_of (by decide +kernel)) (fun h2 => ?_) (fun h2 => ?_)
  · refine gl (i' := 6) (fun _ _ => aw_bip K (dOf ck_mX11_asked rfl rfl) (v := -2) rfl) ?_
    exact g_iret K (dOf ck_mX11_asked rfl rfl).1 rfl (Or.inl rfl) rfl
  · refine gl (i' := 8) (fun _ _ => aw_aload_n K (dOf ck_mX11_asked rfl rfl) rfl) ?_
    refine gl (i' := 9) (fun _ _ => aw_iload_n K (dOf ck_mX11_asked rfl rfl) rfl) ?_
    refine gl (i' := 10) (fun _ _ => aw_iload_n K (dOf ck_mX11_asked rfl rfl) rfl) ?_
    refine g_callVIM K [.inl _, .inl _] rfl (dOf ck_mX11_asked rfl rfl) al_OneBreath_331 rfl rfl ⟨wd_1105, wd_59⟩ rfl (Nat.le_of_ble_eq_true rfl) ⟨Nat.le_of_ble_eq_true rfl, Nat.le_of_ble_eq_true rfl⟩ (fun b hb => met_B_hearForNoise  hb) (fun r3 hr3 => ?_)
    refine gl (i' := 12) (fun _ _ => aw_istore K (dOf ck_mX11_asked rfl rfl) (Nat.le_of_ble_eq_true rfl)) ?_
    refine g_lv (lv' := [(4, .inl _), (0, .inr (.inr (.inl (some _)))), (1, .inl _), (2, .inl _), (3, .inl _)]) rfl ?_
    refine gl (i' := 13) (fun _ _ => aw_iload K (dOf ck_mX11_asked rfl rfl) rfl) ?_
    refine g_if_eq K (dOf ck_mX11_asked rfl rfl) (t := 16) (aJ_of (by decide +kernel)) (fun h4 => ?_) (fun h4 => ?_)
    · refine gl (i' := 17) (fun _ _ => aw_aload_n K (dOf ck_mX11_asked rfl rfl) rfl) ?_
      refine gl (i' := 18) (fun _ _ => aw_getf K (dOf ck_mX11_asked rfl rfl) rfl rfl (Nat.le_of_ble_eq_true rfl) wd_468 (k := 8) rfl) ?_
      refine gl (i' := 19) (fun _ _ => aw_iload_n K (dOf ck_mX11_asked rfl rfl) rfl) ?_
      refine g_st1 ?_
      refine gl (i' := 20) (fun _ _ => aw_putf K (dOf ck_mX11_asked rfl rfl) rfl rfl (Nat.le_of_ble_eq_true rfl) wd_369 (k := 3) rfl rfl (Or.inl rfl)) ?_
      refine gl (i' := 21) (fun _ _ => aw_iconst K (n := 1) (i32 _ rfl) (dOf ck_mX11_asked rfl rfl)) ?_
      refine gl (i' := 22) (fun _ _ => aw_istore K (dOf ck_mX11_asked rfl rfl) (Nat.le_of_ble_eq_true rfl)) ?_
      refine g_lv (lv' := [(5, .inl _), (4, .inl _), (0, .inr (.inr (.inl (some _)))), (1, .inl _), (2, .inl _), (3, .inl _)]) rfl ?_
      refine g_sub [2, 5, 0] rfl ?_
      exact lk_B_asked_22 K _ FU _ _
    · refine gl (i' := 15) (fun _ _ => aw_iload K (dOf ck_mX11_asked rfl rfl) rfl) ?_
      exact g_iret K (dOf ck_mX11_asked rfl rfl).1 rfl (Or.inl rfl) rfl
def Census_isNewBeginning_2 (mm : aM) (x1 : Int) (x2 : Int) : Nat → Int → Option Int
  | 0, _ => none
  | n + 1, x3 => if x3 < x1 then (if 0 ≤ x1 ∧ x1 < 12 then ((Tongue_begins 25 (25 + 4 + x1.toNat) x2 x3 mm).bind fun r3 => (if r3 = 0 then (Census_isNewBeginning_2 mm x1 x2 n (w32 (x3 + 1))) else (some 0))) else none) else (some 1)
set_option maxHeartbeats 4000000 in
theorem lk_Census_isNewBeginning_2 {p : Program} {l : Launch} {e : Env} {s : State} {m : MethodId} {args : Array Value} {below : List Frame} {meth : Method} {c : Code} {D : va_G} {cA : FieldType → ClassId} {ad adV : Nat → Nat} {z0 : Nat} {al0 : List Nat} {mm : aM} (K : aK p s m args meth c mX0_isNewBeginning D cA ad adV z0) (x1 : Int) (x2 : Int)  : ∀ (n : Nat) (x3 : Int), aG p l e { frames := 1, cells := 0, slots := 0, locals := 24 } s m args below meth c D cA ad z0 mX0_isNewBeginning al0 (rI mm) (Census_isNewBeginning_2 mm x1 x2 n x3) 2 [(0, .inr (.inr (.inl (some 120)))), (1, .inl x1), (2, .inl x2), (3, .inl x3)] [] mm := by
  intro n
  induction n with
  | zero => intro x3; exact g_none
  | succ n ih =>
    intro x3
    rw [Census_isNewBeginning_2]
    refine gl (i' := 3) (fun _ _ => aw_iload_n K (dOf ck_mX0_isNewBeginning rfl rfl) rfl) ?_
    refine gl (i' := 4) (fun _ _ => aw_iload_n K (dOf ck_mX0_isNewBeginning rfl rfl) rfl) ?_
    refine g_icmp_ge K (dOf ck_mX0_isNewBeginning rfl rfl) (t := 20) (aJ_of (by decide +kernel)) (fun h1 => ?_) (fun h1 => ?_)
    · refine gl (i' := 6) (fun _ _ => aw_aload_n K (dOf ck_mX0_isNewBeginning rfl rfl) rfl) ?_
      refine gl (i' := 7) (fun _ _ => aw_getf K (dOf ck_mX0_isNewBeginning rfl rfl) rfl rfl (Nat.le_of_ble_eq_true rfl) wd_446 (k := 0) rfl) ?_
      refine gl (i' := 8) (fun _ _ => aw_aload_n K (dOf ck_mX0_isNewBeginning rfl rfl) rfl) ?_
      refine gl (i' := 9) (fun _ _ => aw_getf K (dOf ck_mX0_isNewBeginning rfl rfl) rfl rfl (Nat.le_of_ble_eq_true rfl) wd_446 (k := 0) rfl) ?_
      refine gl (i' := 10) (fun _ _ => aw_getf K (dOf ck_mX0_isNewBeginning rfl rfl) rfl rfl (Nat.le_of_ble_eq_true rfl) wd_228 (k := 8) rfl) ?_
      refine gl (i' := 11) (fun _ _ => aw_iload_n K (dOf ck_mX0_isNewBeginning rfl rfl) rfl) ?_
      refine g_gd (fun hb2 => ?_)
      refine gl (i' := 12) (fun _ _ => aw_aald K (dOf ck_mX0_isNewBeginning rfl rfl) (shTa (t := 25) (by unfold okT; omega)) hb2 (rsT_at hb2)) ?_
      refine gl (i' := 13) (fun _ _ => aw_iload_n K (dOf ck_mX0_isNewBeginning rfl rfl) rfl) ?_
      refine gl (i' := 14) (fun _ _ => aw_iload_n K (dOf ck_mX0_isNewBeginning rfl rfl) rfl) ?_
      refine g_callVI K [.inr (.inr (.inl (some _))), .inl _, .inl _] rfl (dOf ck_mX0_isNewBeginning rfl rfl) al_OneBreath_Census_41 rfl rfl ⟨wd_596, wd_597⟩ rfl (Nat.le_of_ble_eq_true rfl) ⟨Nat.le_of_ble_eq_true rfl, Nat.le_of_ble_eq_true rfl⟩ (fun b hb => met_Tongue_begins (by unfold okT; omega) ⟨_, (shTr (t := 25) (by unfold okT; omega) hb2)⟩ hb) (fun r3 hr3 => ?_)
      refine g_if_eq K (dOf ck_mX0_isNewBeginning rfl rfl) (t := 18) (aJ_of (by decide +kernel)) (fun h4 => ?_) (fun h4 => ?_)
      · refine gl (i' := 19) (fun _ _ => aw_iinc K (dOf ck_mX0_isNewBeginning rfl rfl) (Nat.le_of_ble_eq_true rfl) rfl) ?_
        refine g_lv (lv' := [(3, .inl _), (0, .inr (.inr (.inl (some _)))), (1, .inl _), (2, .inl _)]) rfl ?_
        refine g_goto K (dOf ck_mX0_isNewBeginning rfl rfl).1 (t := 2) (aJ_of (by decide +kernel)) ?_
        refine g_sub [1, 2, 3, 0] rfl ?_
        exact ih _
      · refine gl (i' := 17) (fun _ _ => aw_iconst K (n := 0) (i32 _ rfl) (dOf ck_mX0_isNewBeginning rfl rfl)) ?_
        exact g_iret K (dOf ck_mX0_isNewBeginning rfl rfl).1 rfl (Or.inr (Or.inl ⟨rfl, Or.inl rfl⟩)) rfl
    · refine gl (i' := 21) (fun _ _ => aw_iconst K (n := 1) (i32 _ rfl) (dOf ck_mX0_isNewBeginning rfl rfl)) ?_
      exact g_iret K (by decide +kernel) rfl (Or.inr (Or.inl ⟨rfl, Or.inr rfl⟩)) rfl
def Census_isNewBeginning (x1 : Int) (x2 : Int) (mm : aM) : Option Int := Census_isNewBeginning_2 mm x1 x2 FU 0
set_option maxHeartbeats 4000000 in
theorem met_Census_isNewBeginning {l : Launch} {D : va_G} {cA : FieldType → ClassId} {ad adV : Nat → Nat} {z0 : Nat} {x1 : Int} {x2 : Int} {mm : aM}  {r : Int} (h : Census_isNewBeginning x1 x2 mm = some r) : aMet l D cA ad adV z0 mX0_isNewBeginning 1 24 0 0 [.inr (.inr (.inl (some 120))), .inl x1, .inl x2] SH mm ((rI mm) r).1 SH ((rI mm) r).2 := by
  refine aMet_ofG (by decide +kernel) rfl (Nat.le_of_ble_eq_true rfl) h (fun p e s m args below meth c al0 K => ?_)
  unfold Census_isNewBeginning
  refine gl (i' := 1) (fun _ _ => aw_iconst K (n := 0) (i32 _ rfl) (dOf ck_mX0_isNewBeginning rfl rfl)) ?_
  refine gl (i' := 2) (fun _ _ => aw_istore_n K (dOf ck_mX0_isNewBeginning rfl rfl) (Nat.le_of_ble_eq_true rfl)) ?_
  refine g_lv (lv' := [(3, .inl _), (0, .inr (.inr (.inl (some _)))), (1, .inl _), (2, .inl _)]) rfl ?_
  refine g_sub [1, 2, 3, 0] rfl ?_
  exact lk_Census_isNewBeginning_2 K _ _ FU _
def Census_countBeginnings_24 (mm : aM) (k4 : Int → Int → Option Int) (k11 : Int → Int → Option Int) (x1 : Int) (x2 : Int) (x3 : Int) : Option Int := k11 x1 (w32 (x3 + 1))
set_option maxHeartbeats 4000000 in
theorem lk_Census_countBeginnings_24 {p : Program} {l : Launch} {e : Env} {s : State} {m : MethodId} {args : Array Value} {below : List Frame} {meth : Method} {c : Code} {D : va_G} {cA : FieldType → ClassId} {ad adV : Nat → Nat} {z0 : Nat} {al0 : List Nat} {mm : aM} (K : aK p s m args meth c mX0_countBeginnings D cA ad adV z0) (x1 : Int) (x2 : Int) (x3 : Int) (k4 : Int → Int → Option Int) (hk4 : ∀ (x1 : Int) (x2 : Int), aG p l e { frames := 2, cells := 0, slots := 0, locals := 47 } s m args below meth c D cA ad z0 mX0_countBeginnings al0 (rI mm) (k4 x1 x2) 4 [(0, .inr (.inr (.inl (some 120)))), (1, .inl x1), (2, .inl x2)] [] mm) (k11 : Int → Int → Option Int) (hk11 : ∀ (x1 : Int) (x3 : Int), aG p l e { frames := 2, cells := 0, slots := 0, locals := 47 } s m args below meth c D cA ad z0 mX0_countBeginnings al0 (rI mm) (k11 x1 x3) 11 [(0, .inr (.inr (.inl (some 120)))), (1, .inl x1), (2, .inl x2), (3, .inl x3)] [] mm)  : aG p l e { frames := 2, cells := 0, slots := 0, locals := 47 } s m args below meth c D cA ad z0 mX0_countBeginnings al0 (rI mm) (Census_countBeginnings_24 mm k4 k11 x1 x2 x3) 24 [(0, .inr (.inr (.inl (some 120)))), (1, .inl x1), (2, .inl x2), (3, .inl x3)] [] mm := by
  unfold Census_countBeginnings_24
  refine gl (i' := 25) (fun _ _ => aw_iinc K (dOf ck_mX0_countBeginnings rfl rfl) (Nat.le_of_ble_eq_true rfl) rfl) ?_
  refine g_lv (lv' := [(3, .inl _), (0, .inr (.inr (.inl (some _)))), (1, .inl _), (2, .inl _)]) rfl ?_
  refine g_goto K (dOf ck_mX0_countBeginnings rfl rfl).1 (t := 11) (aJ_of (by decide +kernel)) ?_
  refine g_sub [1, 2, 3, 0] rfl ?_
  exact hk11 _ _
def Census_countBeginnings_11 (mm : aM) (k4 : Int → Int → Option Int) (x2 : Int) : Nat → Int → Int → Option Int
  | 0, _, _ => none
  | n + 1, x1, x3 => if 0 ≤ x2 ∧ x2 < 12 then (if (mm 41 x2.toNat) < x3 then (k4 x1 (w32 (x2 + 1))) else ((Census_isNewBeginning x2 x3 mm).bind fun r4 => (if r4 = 0 then (Census_countBeginnings_24 mm k4 (Census_countBeginnings_11 mm k4 x2 n) x1 x2 x3) else (Census_countBeginnings_24 mm k4 (Census_countBeginnings_11 mm k4 x2 n) (w32 (x1 + 1)) x2 x3)))) else none
set_option maxHeartbeats 4000000 in
theorem lk_Census_countBeginnings_11 {p : Program} {l : Launch} {e : Env} {s : State} {m : MethodId} {args : Array Value} {below : List Frame} {meth : Method} {c : Code} {D : va_G} {cA : FieldType → ClassId} {ad adV : Nat → Nat} {z0 : Nat} {al0 : List Nat} {mm : aM} (K : aK p s m args meth c mX0_countBeginnings D cA ad adV z0) (x2 : Int) (k4 : Int → Int → Option Int) (hk4 : ∀ (x1 : Int) (x2 : Int), aG p l e { frames := 2, cells := 0, slots := 0, locals := 47 } s m args below meth c D cA ad z0 mX0_countBeginnings al0 (rI mm) (k4 x1 x2) 4 [(0, .inr (.inr (.inl (some 120)))), (1, .inl x1), (2, .inl x2)] [] mm)  : ∀ (n : Nat) (x1 : Int) (x3 : Int), aG p l e { frames := 2, cells := 0, slots := 0, locals := 47 } s m args below meth c D cA ad z0 mX0_countBeginnings al0 (rI mm) (Census_countBeginnings_11 mm k4 x2 n x1 x3) 11 [(0, .inr (.inr (.inl (some 120)))), (1, .inl x1), (2, .inl x2), (3, .inl x3)] [] mm := by
  intro n
  induction n with
  | zero => intro x1 x3; exact g_none
  | succ n ih =>
    intro x1 x3
    rw [Census_countBeginnings_11]
    refine gl (i' := 12) (fun _ _ => aw_iload_n K (dOf ck_mX0_countBeginnings rfl rfl) rfl) ?_
    refine gl (i' := 13) (fun _ _ => aw_aload_n K (dOf ck_mX0_countBeginnings rfl rfl) rfl) ?_
    refine gl (i' := 14) (fun _ _ => aw_getf K (dOf ck_mX0_countBeginnings rfl rfl) rfl rfl (Nat.le_of_ble_eq_true rfl) wd_446 (k := 0) rfl) ?_
    refine gl (i' := 15) (fun _ _ => aw_getf K (dOf ck_mX0_countBeginnings rfl rfl) rfl rfl (Nat.le_of_ble_eq_true rfl) wd_237 (k := 9) rfl) ?_
    refine gl (i' := 16) (fun _ _ => aw_iload_n K (dOf ck_mX0_countBeginnings rfl rfl) rfl) ?_
    refine g_gd (fun hb2 => ?_)
    refine gl (i' := 17) (fun _ _ => aw_iald K (dOf ck_mX0_countBeginnings rfl rfl) rfl hb2) ?_
    refine g_icmp_gt K (dOf ck_mX0_countBeginnings rfl rfl) (t := 26) (aJ_of (by decide +kernel)) (fun h3 => ?_) (fun h3 => ?_)
    · refine gl (i' := 27) (fun _ _ => aw_iinc K (dOf ck_mX0_countBeginnings rfl rfl) (Nat.le_of_ble_eq_true rfl) rfl) ?_
      refine g_lv (lv' := [(2, .inl _), (0, .inr (.inr (.inl (some _)))), (1, .inl _), (3, .inl _)]) rfl ?_
      refine g_goto K (dOf ck_mX0_countBeginnings rfl rfl).1 (t := 4) (aJ_of (by decide +kernel)) ?_
      refine g_sub [1, 2, 0] rfl ?_
      exact hk4 _ _
    · refine gl (i' := 19) (fun _ _ => aw_aload_n K (dOf ck_mX0_countBeginnings rfl rfl) rfl) ?_
      refine gl (i' := 20) (fun _ _ => aw_iload_n K (dOf ck_mX0_countBeginnings rfl rfl) rfl) ?_
      refine gl (i' := 21) (fun _ _ => aw_iload_n K (dOf ck_mX0_countBeginnings rfl rfl) rfl) ?_
      refine g_callVI K [.inl _, .inl _] rfl (dOf ck_mX0_countBeginnings rfl rfl) al_OneBreath_Census_100 rfl rfl ⟨wd_1139, wd_61⟩ rfl (Nat.le_of_ble_eq_true rfl) ⟨Nat.le_of_ble_eq_true rfl, Nat.le_of_ble_eq_true rfl⟩ (fun b hb => met_Census_isNewBeginning  hb) (fun r4 hr4 => ?_)
      refine g_if_eq K (dOf ck_mX0_countBeginnings rfl rfl) (t := 24) (aJ_of (by decide +kernel)) (fun h5 => ?_) (fun h5 => ?_)
      · refine g_sub [0, 1, 2, 3] rfl ?_
        exact lk_Census_countBeginnings_24 K _ _ _ _ hk4 _ ih
      · refine gl (i' := 24) (fun _ _ => aw_iinc K (dOf ck_mX0_countBeginnings rfl rfl) (Nat.le_of_ble_eq_true rfl) rfl) ?_
        refine g_lv (lv' := [(1, .inl _), (0, .inr (.inr (.inl (some _)))), (2, .inl _), (3, .inl _)]) rfl ?_
        refine g_sub [1, 0, 2, 3] rfl ?_
        exact lk_Census_countBeginnings_24 K _ _ _ _ hk4 _ ih
def Census_countBeginnings_4 (mm : aM) : Nat → Int → Int → Option Int
  | 0, _, _ => none
  | n + 1, x1, x2 => if x2 < (mm 25 2) then (Census_countBeginnings_11 mm (Census_countBeginnings_4 mm n) x2 FU x1 1) else (some x1)
set_option maxHeartbeats 4000000 in
theorem lk_Census_countBeginnings_4 {p : Program} {l : Launch} {e : Env} {s : State} {m : MethodId} {args : Array Value} {below : List Frame} {meth : Method} {c : Code} {D : va_G} {cA : FieldType → ClassId} {ad adV : Nat → Nat} {z0 : Nat} {al0 : List Nat} {mm : aM} (K : aK p s m args meth c mX0_countBeginnings D cA ad adV z0)   : ∀ (n : Nat) (x1 : Int) (x2 : Int), aG p l e { frames := 2, cells := 0, slots := 0, locals := 47 } s m args below meth c D cA ad z0 mX0_countBeginnings al0 (rI mm) (Census_countBeginnings_4 mm n x1 x2) 4 [(0, .inr (.inr (.inl (some 120)))), (1, .inl x1), (2, .inl x2)] [] mm := by
  intro n
  induction n with
  | zero => intro x1 x2; exact g_none
  | succ n ih =>
    intro x1 x2
    rw [Census_countBeginnings_4]
    refine gl (i' := 5) (fun _ _ => aw_iload_n K (dOf ck_mX0_countBeginnings rfl rfl) rfl) ?_
    refine gl (i' := 6) (fun _ _ => aw_aload_n K (dOf ck_mX0_countBeginnings rfl rfl) rfl) ?_
    refine gl (i' := 7) (fun _ _ => aw_getf K (dOf ck_mX0_countBeginnings rfl rfl) rfl rfl (Nat.le_of_ble_eq_true rfl) wd_446 (k := 0) rfl) ?_
    refine gl (i' := 8) (fun _ _ => aw_getf K (dOf ck_mX0_countBeginnings rfl rfl) rfl rfl (Nat.le_of_ble_eq_true rfl) wd_197 (k := 2) rfl) ?_
    refine g_icmp_ge K (dOf ck_mX0_countBeginnings rfl rfl) (t := 28) (aJ_of (by decide +kernel)) (fun h1 => ?_) (fun h1 => ?_)
    · refine gl (i' := 10) (fun _ _ => aw_iconst K (n := 1) (i32 _ rfl) (dOf ck_mX0_countBeginnings rfl rfl)) ?_
      refine gl (i' := 11) (fun _ _ => aw_istore_n K (dOf ck_mX0_countBeginnings rfl rfl) (Nat.le_of_ble_eq_true rfl)) ?_
      refine g_lv (lv' := [(3, .inl _), (0, .inr (.inr (.inl (some _)))), (1, .inl _), (2, .inl _)]) rfl ?_
      refine g_sub [1, 2, 3, 0] rfl ?_
      exact lk_Census_countBeginnings_11 K _ _ ih FU _ _
    · refine gl (i' := 29) (fun _ _ => aw_iload_n K (dOf ck_mX0_countBeginnings rfl rfl) rfl) ?_
      exact g_iret K (by decide +kernel) rfl (Or.inl rfl) rfl
def Census_countBeginnings  (mm : aM) : Option Int := Census_countBeginnings_4 mm FU 0 0
set_option maxHeartbeats 4000000 in
theorem met_Census_countBeginnings {l : Launch} {D : va_G} {cA : FieldType → ClassId} {ad adV : Nat → Nat} {z0 : Nat}  {mm : aM}  {r : Int} (h : Census_countBeginnings  mm = some r) : aMet l D cA ad adV z0 mX0_countBeginnings 2 47 0 0 [.inr (.inr (.inl (some 120)))] SH mm ((rI mm) r).1 SH ((rI mm) r).2 := by
  refine aMet_ofG (by decide +kernel) rfl (Nat.le_of_ble_eq_true rfl) h (fun p e s m args below meth c al0 K => ?_)
  unfold Census_countBeginnings
  refine gl (i' := 1) (fun _ _ => aw_iconst K (n := 0) (i32 _ rfl) (dOf ck_mX0_countBeginnings rfl rfl)) ?_
  refine gl (i' := 2) (fun _ _ => aw_istore_n K (dOf ck_mX0_countBeginnings rfl rfl) (Nat.le_of_ble_eq_true rfl)) ?_
  refine g_lv (lv' := [(1, .inl _), (0, .inr (.inr (.inl (some _))))]) rfl ?_
  refine gl (i' := 3) (fun _ _ => aw_iconst K (n := 0) (i32 _ rfl) (dOf ck_mX0_countBeginnings rfl rfl)) ?_
  refine gl (i' := 4) (fun _ _ => aw_istore_n K (dOf ck_mX0_countBeginnings rfl rfl) (Nat.le_of_ble_eq_true rfl)) ?_
  refine g_lv (lv' := [(2, .inl _), (1, .inl _), (0, .inr (.inr (.inl (some _))))]) rfl ?_
  refine g_sub [2, 1, 0] rfl ?_
  exact lk_Census_countBeginnings_4 K FU _ _
def B_tree  (mm : aM) : Option Int := (Census_countBeginnings mm).bind fun r1 => (some (w32 (r1 + 1)))
set_option maxHeartbeats 4000000 in
theorem met_B_tree {l : Launch} {D : va_G} {cA : FieldType → ClassId} {ad adV : Nat → Nat} {z0 : Nat}  {mm : aM}  {r : Int} (h : B_tree  mm = some r) : aMet l D cA ad adV z0 mX11_tree 3 70 0 0 [.inr (.inr (.inl (some 0)))] SH mm ((rI mm) r).1 SH ((rI mm) r).2 := by
  refine aMet_ofG (by decide +kernel) rfl (Nat.le_of_ble_eq_true rfl) h (fun p e s m args below meth c al0 K => ?_)
  unfold B_tree
  refine gl (i' := 1) (fun _ _ => aw_aload_n K (dOf ck_mX11_tree rfl rfl) rfl) ?_
  refine gl (i' := 2) (fun _ _ => aw_getf K (dOf ck_mX11_tree rfl rfl) rfl rfl (Nat.le_of_ble_eq_true rfl) wd_471 (k := 11) rfl) ?_
  refine g_callVI K [] rfl (dOf ck_mX11_tree rfl rfl) al_OneBreath_352 rfl rfl ⟨wd_1135, wd_1136⟩ rfl (Nat.le_of_ble_eq_true rfl) ⟨Nat.le_of_ble_eq_true rfl, Nat.le_of_ble_eq_true rfl⟩ (fun b hb => met_Census_countBeginnings  hb) (fun r1 hr1 => ?_)
  refine gl (i' := 4) (fun _ _ => aw_iconst K (n := 1) (i32 _ rfl) (dOf ck_mX11_tree rfl rfl)) ?_
  refine gl (i' := 5) (fun _ _ => aw_iadd K (dOf ck_mX11_tree rfl rfl)) ?_
  exact g_iret K (by decide +kernel) rfl (Or.inl rfl) rfl
def Census_isAheadOfLimb_2 (mm : aM) (x1 : Int) : Nat → Int → Option Int
  | 0, _ => none
  | n + 1, x2 => if x2 < (mm 120 9) then (if 0 ≤ x1 ∧ x1 < 12 then (if 0 ≤ x2 ∧ x2 < 6 then (if 0 ≤ (mm 120 8) ∧ (mm 120 8) < 12 then (if (mm (25 + 4 + x1.toNat) x2.toNat) = (mm (25 + 4 + (mm 120 8).toNat) x2.toNat) then (Census_isAheadOfLimb_2 mm x1 n (w32 (x2 + 1))) else (if (mm (25 + 4 + x1.toNat) x2.toNat) < (mm (25 + 4 + (mm 120 8).toNat) x2.toNat) then (some 1) else (some 0))) else none) else none) else none) else (some 0)
set_option maxHeartbeats 4000000 in
theorem lk_Census_isAheadOfLimb_2 {p : Program} {l : Launch} {e : Env} {s : State} {m : MethodId} {args : Array Value} {below : List Frame} {meth : Method} {c : Code} {D : va_G} {cA : FieldType → ClassId} {ad adV : Nat → Nat} {z0 : Nat} {al0 : List Nat} {mm : aM} (K : aK p s m args meth c mX0_isAheadOfLimb D cA ad adV z0) (x1 : Int)  : ∀ (n : Nat) (x2 : Int), aG p l e { frames := 0, cells := 0, slots := 0, locals := 0 } s m args below meth c D cA ad z0 mX0_isAheadOfLimb al0 (rI mm) (Census_isAheadOfLimb_2 mm x1 n x2) 2 [(0, .inr (.inr (.inl (some 120)))), (1, .inl x1), (2, .inl x2)] [] mm := by
  intro n
  induction n with
  | zero => intro x2; exact g_none
  | succ n ih =>
    intro x2
    rw [Census_isAheadOfLimb_2]
    refine gl (i' := 3) (fun _ _ => aw_iload_n K (dOf ck_mX0_isAheadOfLimb rfl rfl) rfl) ?_
    refine gl (i' := 4) (fun _ _ => aw_aload_n K (dOf ck_mX0_isAheadOfLimb rfl rfl) rfl) ?_
    refine gl (i' := 5) (fun _ _ => aw_getf K (dOf ck_mX0_isAheadOfLimb rfl rfl) rfl rfl (Nat.le_of_ble_eq_true rfl) wd_458 (k := 9) rfl) ?_
    refine g_icmp_ge K (dOf ck_mX0_isAheadOfLimb rfl rfl) (t := 44) (aJ_of (by decide +kernel)) (fun h1 => ?_) (fun h1 => ?_)
    · refine gl (i' := 7) (fun _ _ => aw_aload_n K (dOf ck_mX0_isAheadOfLimb rfl rfl) rfl) ?_
      refine gl (i' := 8) (fun _ _ => aw_getf K (dOf ck_mX0_isAheadOfLimb rfl rfl) rfl rfl (Nat.le_of_ble_eq_true rfl) wd_446 (k := 0) rfl) ?_
      refine gl (i' := 9) (fun _ _ => aw_getf K (dOf ck_mX0_isAheadOfLimb rfl rfl) rfl rfl (Nat.le_of_ble_eq_true rfl) wd_228 (k := 8) rfl) ?_
      refine gl (i' := 10) (fun _ _ => aw_iload_n K (dOf ck_mX0_isAheadOfLimb rfl rfl) rfl) ?_
      refine g_gd (fun hb2 => ?_)
      refine gl (i' := 11) (fun _ _ => aw_aald K (dOf ck_mX0_isAheadOfLimb rfl rfl) (shTa (t := 25) (by unfold okT; omega)) hb2 (rsT_at hb2)) ?_
      refine gl (i' := 12) (fun _ _ => aw_iload_n K (dOf ck_mX0_isAheadOfLimb rfl rfl) rfl) ?_
      refine g_gd (fun hb3 => ?_)
      refine gl (i' := 13) (fun _ _ => aw_bald K (dOf ck_mX0_isAheadOfLimb rfl rfl) (shTr (t := 25) (by unfold okT; omega) hb2) hb3) ?_
      refine gl (i' := 14) (fun _ _ => aw_aload_n K (dOf ck_mX0_isAheadOfLimb rfl rfl) rfl) ?_
      refine gl (i' := 15) (fun _ _ => aw_getf K (dOf ck_mX0_isAheadOfLimb rfl rfl) rfl rfl (Nat.le_of_ble_eq_true rfl) wd_446 (k := 0) rfl) ?_
      refine gl (i' := 16) (fun _ _ => aw_getf K (dOf ck_mX0_isAheadOfLimb rfl rfl) rfl rfl (Nat.le_of_ble_eq_true rfl) wd_228 (k := 8) rfl) ?_
      refine gl (i' := 17) (fun _ _ => aw_aload_n K (dOf ck_mX0_isAheadOfLimb rfl rfl) rfl) ?_
      refine gl (i' := 18) (fun _ _ => aw_getf K (dOf ck_mX0_isAheadOfLimb rfl rfl) rfl rfl (Nat.le_of_ble_eq_true rfl) wd_456 (k := 8) rfl) ?_
      refine g_gd (fun hb4 => ?_)
      refine gl (i' := 19) (fun _ _ => aw_aald K (dOf ck_mX0_isAheadOfLimb rfl rfl) (shTa (t := 25) (by unfold okT; omega)) hb4 (rsT_at hb4)) ?_
      refine gl (i' := 20) (fun _ _ => aw_iload_n K (dOf ck_mX0_isAheadOfLimb rfl rfl) rfl) ?_
      refine gl (i' := 21) (fun _ _ => aw_bald K (dOf ck_mX0_isAheadOfLimb rfl rfl) (shTr (t := 25) (by unfold okT; omega) hb4) hb3) ?_
      refine g_icmp_eq K (dOf ck_mX0_isAheadOfLimb rfl rfl) (t := 42) (aJ_of (by decide +kernel)) (fun h5 => ?_) (fun h5 => ?_)
      · refine gl (i' := 43) (fun _ _ => aw_iinc K (dOf ck_mX0_isAheadOfLimb rfl rfl) (Nat.le_of_ble_eq_true rfl) rfl) ?_
        refine g_lv (lv' := [(2, .inl _), (0, .inr (.inr (.inl (some _)))), (1, .inl _)]) rfl ?_
        refine g_goto K (dOf ck_mX0_isAheadOfLimb rfl rfl).1 (t := 2) (aJ_of (by decide +kernel)) ?_
        refine g_sub [1, 2, 0] rfl ?_
        exact ih _
      · refine gl (i' := 23) (fun _ _ => aw_aload_n K (dOf ck_mX0_isAheadOfLimb rfl rfl) rfl) ?_
        refine gl (i' := 24) (fun _ _ => aw_getf K (dOf ck_mX0_isAheadOfLimb rfl rfl) rfl rfl (Nat.le_of_ble_eq_true rfl) wd_446 (k := 0) rfl) ?_
        refine gl (i' := 25) (fun _ _ => aw_getf K (dOf ck_mX0_isAheadOfLimb rfl rfl) rfl rfl (Nat.le_of_ble_eq_true rfl) wd_228 (k := 8) rfl) ?_
        refine gl (i' := 26) (fun _ _ => aw_iload_n K (dOf ck_mX0_isAheadOfLimb rfl rfl) rfl) ?_
        refine gl (i' := 27) (fun _ _ => aw_aald K (dOf ck_mX0_isAheadOfLimb rfl rfl) (shTa (t := 25) (by unfold okT; omega)) hb2 (rsT_at hb2)) ?_
        refine gl (i' := 28) (fun _ _ => aw_iload_n K (dOf ck_mX0_isAheadOfLimb rfl rfl) rfl) ?_
        refine gl (i' := 29) (fun _ _ => aw_bald K (dOf ck_mX0_isAheadOfLimb rfl rfl) (shTr (t := 25) (by unfold okT; omega) hb2) hb3) ?_
        refine gl (i' := 30) (fun _ _ => aw_aload_n K (dOf ck_mX0_isAheadOfLimb rfl rfl) rfl) ?_
        refine gl (i' := 31) (fun _ _ => aw_getf K (dOf ck_mX0_isAheadOfLimb rfl rfl) rfl rfl (Nat.le_of_ble_eq_true rfl) wd_446 (k := 0) rfl) ?_
        refine gl (i' := 32) (fun _ _ => aw_getf K (dOf ck_mX0_isAheadOfLimb rfl rfl) rfl rfl (Nat.le_of_ble_eq_true rfl) wd_228 (k := 8) rfl) ?_
        refine gl (i' := 33) (fun _ _ => aw_aload_n K (dOf ck_mX0_isAheadOfLimb rfl rfl) rfl) ?_
        refine gl (i' := 34) (fun _ _ => aw_getf K (dOf ck_mX0_isAheadOfLimb rfl rfl) rfl rfl (Nat.le_of_ble_eq_true rfl) wd_456 (k := 8) rfl) ?_
        refine gl (i' := 35) (fun _ _ => aw_aald K (dOf ck_mX0_isAheadOfLimb rfl rfl) (shTa (t := 25) (by unfold okT; omega)) hb4 (rsT_at hb4)) ?_
        refine gl (i' := 36) (fun _ _ => aw_iload_n K (dOf ck_mX0_isAheadOfLimb rfl rfl) rfl) ?_
        refine gl (i' := 37) (fun _ _ => aw_bald K (dOf ck_mX0_isAheadOfLimb rfl rfl) (shTr (t := 25) (by unfold okT; omega) hb4) hb3) ?_
        refine g_icmp_ge K (dOf ck_mX0_isAheadOfLimb rfl rfl) (t := 40) (aJ_of (by decide +kernel)) (fun h6 => ?_) (fun h6 => ?_)
        · refine gl (i' := 39) (fun _ _ => aw_iconst K (n := 1) (i32 _ rfl) (dOf ck_mX0_isAheadOfLimb rfl rfl)) ?_
          refine g_goto K (dOf ck_mX0_isAheadOfLimb rfl rfl).1 (t := 41) (aJ_of (by decide +kernel)) ?_
          exact g_iret K (dOf ck_mX0_isAheadOfLimb rfl rfl).1 rfl (Or.inr (Or.inl ⟨rfl, Or.inr rfl⟩)) rfl
        · refine gl (i' := 41) (fun _ _ => aw_iconst K (n := 0) (i32 _ rfl) (dOf ck_mX0_isAheadOfLimb rfl rfl)) ?_
          exact g_iret K (dOf ck_mX0_isAheadOfLimb rfl rfl).1 rfl (Or.inr (Or.inl ⟨rfl, Or.inl rfl⟩)) rfl
    · refine gl (i' := 45) (fun _ _ => aw_iconst K (n := 0) (i32 _ rfl) (dOf ck_mX0_isAheadOfLimb rfl rfl)) ?_
      exact g_iret K (by decide +kernel) rfl (Or.inr (Or.inl ⟨rfl, Or.inl rfl⟩)) rfl
def Census_isAheadOfLimb (x1 : Int) (mm : aM) : Option Int := Census_isAheadOfLimb_2 mm x1 FU 0
set_option maxHeartbeats 4000000 in
theorem met_Census_isAheadOfLimb {l : Launch} {D : va_G} {cA : FieldType → ClassId} {ad adV : Nat → Nat} {z0 : Nat} {x1 : Int} {mm : aM}  {r : Int} (h : Census_isAheadOfLimb x1 mm = some r) : aMet l D cA ad adV z0 mX0_isAheadOfLimb 0 0 0 0 [.inr (.inr (.inl (some 120))), .inl x1] SH mm ((rI mm) r).1 SH ((rI mm) r).2 := by
  refine aMet_ofG (by decide +kernel) rfl (Nat.le_of_ble_eq_true rfl) h (fun p e s m args below meth c al0 K => ?_)
  unfold Census_isAheadOfLimb
  refine gl (i' := 1) (fun _ _ => aw_iconst K (n := 0) (i32 _ rfl) (dOf ck_mX0_isAheadOfLimb rfl rfl)) ?_
  refine gl (i' := 2) (fun _ _ => aw_istore_n K (dOf ck_mX0_isAheadOfLimb rfl rfl) (Nat.le_of_ble_eq_true rfl)) ?_
  refine g_lv (lv' := [(2, .inl _), (0, .inr (.inr (.inl (some _)))), (1, .inl _)]) rfl ?_
  refine g_sub [1, 2, 0] rfl ?_
  exact lk_Census_isAheadOfLimb_2 K _ FU _
def Census_countSharing_21 (mm : aM) (k4 : Int → Int → Option Int) (x1 : Int) (x2 : Int) (x3 : Int) (x4 : Int) : Option Int := k4 x3 (w32 (x4 + 1))
set_option maxHeartbeats 4000000 in
theorem lk_Census_countSharing_21 {p : Program} {l : Launch} {e : Env} {s : State} {m : MethodId} {args : Array Value} {below : List Frame} {meth : Method} {c : Code} {D : va_G} {cA : FieldType → ClassId} {ad adV : Nat → Nat} {z0 : Nat} {al0 : List Nat} {mm : aM} (K : aK p s m args meth c mX0_countSharing D cA ad adV z0) (x1 : Int) (x2 : Int) (x3 : Int) (x4 : Int) (k4 : Int → Int → Option Int) (hk4 : ∀ (x3 : Int) (x4 : Int), aG p l e { frames := 1, cells := 0, slots := 0, locals := 24 } s m args below meth c D cA ad z0 mX0_countSharing al0 (rI mm) (k4 x3 x4) 4 [(0, .inr (.inr (.inl (some 120)))), (1, .inl x1), (2, .inl x2), (3, .inl x3), (4, .inl x4)] [] mm)  : aG p l e { frames := 1, cells := 0, slots := 0, locals := 24 } s m args below meth c D cA ad z0 mX0_countSharing al0 (rI mm) (Census_countSharing_21 mm k4 x1 x2 x3 x4) 21 [(0, .inr (.inr (.inl (some 120)))), (1, .inl x1), (2, .inl x2), (3, .inl x3), (4, .inl x4)] [] mm := by
  unfold Census_countSharing_21
  refine gl (i' := 22) (fun _ _ => aw_iinc K (dOf ck_mX0_countSharing rfl rfl) (Nat.le_of_ble_eq_true rfl) rfl) ?_
  refine g_lv (lv' := [(4, .inl _), (0, .inr (.inr (.inl (some _)))), (1, .inl _), (2, .inl _), (3, .inl _)]) rfl ?_
  refine g_goto K (dOf ck_mX0_countSharing rfl rfl).1 (t := 4) (aJ_of (by decide +kernel)) ?_
  refine g_sub [1, 2, 3, 4, 0] rfl ?_
  exact hk4 _ _
def Census_countSharing_4 (mm : aM) (x1 : Int) (x2 : Int) : Nat → Int → Int → Option Int
  | 0, _, _ => none
  | n + 1, x3, x4 => if x4 < (mm 25 2) then (if 0 ≤ x1 ∧ x1 < 12 then ((Tongue_begins 25 (25 + 4 + x1.toNat) x2 x4 mm).bind fun r3 => (if r3 = 0 then (Census_countSharing_21 mm (Census_countSharing_4 mm x1 x2 n) x1 x2 x3 x4) else (Census_countSharing_21 mm (Census_countSharing_4 mm x1 x2 n) x1 x2 (w32 (x3 + 1)) x4))) else none) else (some x3)
set_option maxHeartbeats 4000000 in
theorem lk_Census_countSharing_4 {p : Program} {l : Launch} {e : Env} {s : State} {m : MethodId} {args : Array Value} {below : List Frame} {meth : Method} {c : Code} {D : va_G} {cA : FieldType → ClassId} {ad adV : Nat → Nat} {z0 : Nat} {al0 : List Nat} {mm : aM} (K : aK p s m args meth c mX0_countSharing D cA ad adV z0) (x1 : Int) (x2 : Int)  : ∀ (n : Nat) (x3 : Int) (x4 : Int), aG p l e { frames := 1, cells := 0, slots := 0, locals := 24 } s m args below meth c D cA ad z0 mX0_countSharing al0 (rI mm) (Census_countSharing_4 mm x1 x2 n x3 x4) 4 [(0, .inr (.inr (.inl (some 120)))), (1, .inl x1), (2, .inl x2), (3, .inl x3), (4, .inl x4)] [] mm := by
  intro n
  induction n with
  | zero => intro x3 x4; exact g_none
  | succ n ih =>
    intro x3 x4
    rw [Census_countSharing_4]
    refine gl (i' := 5) (fun _ _ => aw_iload K (dOf ck_mX0_countSharing rfl rfl) rfl) ?_
    refine gl (i' := 6) (fun _ _ => aw_aload_n K (dOf ck_mX0_countSharing rfl rfl) rfl) ?_
    refine gl (i' := 7) (fun _ _ => aw_getf K (dOf ck_mX0_countSharing rfl rfl) rfl rfl (Nat.le_of_ble_eq_true rfl) wd_446 (k := 0) rfl) ?_
    refine gl (i' := 8) (fun _ _ => aw_getf K (dOf ck_mX0_countSharing rfl rfl) rfl rfl (Nat.le_of_ble_eq_true rfl) wd_197 (k := 2) rfl) ?_
    refine g_icmp_ge K (dOf ck_mX0_countSharing rfl rfl) (t := 23) (aJ_of (by decide +kernel)) (fun h1 => ?_) (fun h1 => ?_)
    · refine gl (i' := 10) (fun _ _ => aw_aload_n K (dOf ck_mX0_countSharing rfl rfl) rfl) ?_
      refine gl (i' := 11) (fun _ _ => aw_getf K (dOf ck_mX0_countSharing rfl rfl) rfl rfl (Nat.le_of_ble_eq_true rfl) wd_446 (k := 0) rfl) ?_
      refine gl (i' := 12) (fun _ _ => aw_aload_n K (dOf ck_mX0_countSharing rfl rfl) rfl) ?_
      refine gl (i' := 13) (fun _ _ => aw_getf K (dOf ck_mX0_countSharing rfl rfl) rfl rfl (Nat.le_of_ble_eq_true rfl) wd_446 (k := 0) rfl) ?_
      refine gl (i' := 14) (fun _ _ => aw_getf K (dOf ck_mX0_countSharing rfl rfl) rfl rfl (Nat.le_of_ble_eq_true rfl) wd_228 (k := 8) rfl) ?_
      refine gl (i' := 15) (fun _ _ => aw_iload_n K (dOf ck_mX0_countSharing rfl rfl) rfl) ?_
      refine g_gd (fun hb2 => ?_)
      refine gl (i' := 16) (fun _ _ => aw_aald K (dOf ck_mX0_countSharing rfl rfl) (shTa (t := 25) (by unfold okT; omega)) hb2 (rsT_at hb2)) ?_
      refine gl (i' := 17) (fun _ _ => aw_iload_n K (dOf ck_mX0_countSharing rfl rfl) rfl) ?_
      refine gl (i' := 18) (fun _ _ => aw_iload K (dOf ck_mX0_countSharing rfl rfl) rfl) ?_
      refine g_callVI K [.inr (.inr (.inl (some _))), .inl _, .inl _] rfl (dOf ck_mX0_countSharing rfl rfl) al_OneBreath_Census_41 rfl rfl ⟨wd_596, wd_597⟩ rfl (Nat.le_of_ble_eq_true rfl) ⟨Nat.le_of_ble_eq_true rfl, Nat.le_of_ble_eq_true rfl⟩ (fun b hb => met_Tongue_begins (by unfold okT; omega) ⟨_, (shTr (t := 25) (by unfold okT; omega) hb2)⟩ hb) (fun r3 hr3 => ?_)
      refine g_if_eq K (dOf ck_mX0_countSharing rfl rfl) (t := 21) (aJ_of (by decide +kernel)) (fun h4 => ?_) (fun h4 => ?_)
      · refine g_sub [0, 1, 2, 3, 4] rfl ?_
        exact lk_Census_countSharing_21 K _ _ _ _ _ ih
      · refine gl (i' := 21) (fun _ _ => aw_iinc K (dOf ck_mX0_countSharing rfl rfl) (Nat.le_of_ble_eq_true rfl) rfl) ?_
        refine g_lv (lv' := [(3, .inl _), (0, .inr (.inr (.inl (some _)))), (1, .inl _), (2, .inl _), (4, .inl _)]) rfl ?_
        refine g_sub [1, 2, 3, 0, 4] rfl ?_
        exact lk_Census_countSharing_21 K _ _ _ _ _ ih
    · refine gl (i' := 24) (fun _ _ => aw_iload_n K (dOf ck_mX0_countSharing rfl rfl) rfl) ?_
      exact g_iret K (by decide +kernel) rfl (Or.inl rfl) rfl
def Census_countSharing (x1 : Int) (x2 : Int) (mm : aM) : Option Int := Census_countSharing_4 mm x1 x2 FU 0 0
set_option maxHeartbeats 4000000 in
theorem met_Census_countSharing {l : Launch} {D : va_G} {cA : FieldType → ClassId} {ad adV : Nat → Nat} {z0 : Nat} {x1 : Int} {x2 : Int} {mm : aM}  {r : Int} (h : Census_countSharing x1 x2 mm = some r) : aMet l D cA ad adV z0 mX0_countSharing 1 24 0 0 [.inr (.inr (.inl (some 120))), .inl x1, .inl x2] SH mm ((rI mm) r).1 SH ((rI mm) r).2 := by
  refine aMet_ofG (by decide +kernel) rfl (Nat.le_of_ble_eq_true rfl) h (fun p e s m args below meth c al0 K => ?_)
  unfold Census_countSharing
  refine gl (i' := 1) (fun _ _ => aw_iconst K (n := 0) (i32 _ rfl) (dOf ck_mX0_countSharing rfl rfl)) ?_
  refine gl (i' := 2) (fun _ _ => aw_istore_n K (dOf ck_mX0_countSharing rfl rfl) (Nat.le_of_ble_eq_true rfl)) ?_
  refine g_lv (lv' := [(3, .inl _), (0, .inr (.inr (.inl (some _)))), (1, .inl _), (2, .inl _)]) rfl ?_
  refine gl (i' := 3) (fun _ _ => aw_iconst K (n := 0) (i32 _ rfl) (dOf ck_mX0_countSharing rfl rfl)) ?_
  refine gl (i' := 4) (fun _ _ => aw_istore K (dOf ck_mX0_countSharing rfl rfl) (Nat.le_of_ble_eq_true rfl)) ?_
  refine g_lv (lv' := [(4, .inl _), (3, .inl _), (0, .inr (.inr (.inl (some _)))), (1, .inl _), (2, .inl _)]) rfl ?_
  refine g_sub [2, 3, 4, 1, 0] rfl ?_
  exact lk_Census_countSharing_4 K _ _ FU _ _
def Census_findLimb_52 (k8 : Int → aM → Option aM) (k15 : Int → aM → Option aM) (x1 : Int) (x2 : Int) (x3 : Int) (mm : aM) : Option aM := k15 (w32 (x3 + 1)) mm
set_option maxHeartbeats 4000000 in
theorem lk_Census_findLimb_52 {p : Program} {l : Launch} {e : Env} {s : State} {m : MethodId} {args : Array Value} {below : List Frame} {meth : Method} {c : Code} {D : va_G} {cA : FieldType → ClassId} {ad adV : Nat → Nat} {z0 : Nat} {al0 : List Nat} (K : aK p s m args meth c mX0_findLimb D cA ad adV z0) (x1 : Int) (x2 : Int) (x3 : Int) (k8 : Int → aM → Option aM) (hk8 : ∀ (x2 : Int) (mm : aM), aG p l e { frames := 2, cells := 0, slots := 0, locals := 48 } s m args below meth c D cA ad z0 mX0_findLimb al0 rM (k8 x2 mm) 8 [(0, .inr (.inr (.inl (some 120)))), (1, .inl x1), (2, .inl x2)] [] mm) (k15 : Int → aM → Option aM) (hk15 : ∀ (x3 : Int) (mm : aM), aG p l e { frames := 2, cells := 0, slots := 0, locals := 48 } s m args below meth c D cA ad z0 mX0_findLimb al0 rM (k15 x3 mm) 15 [(0, .inr (.inr (.inl (some 120)))), (1, .inl x1), (2, .inl x2), (3, .inl x3)] [] mm)  (mm : aM) : aG p l e { frames := 2, cells := 0, slots := 0, locals := 48 } s m args below meth c D cA ad z0 mX0_findLimb al0 rM (Census_findLimb_52 k8 k15 x1 x2 x3 mm) 52 [(0, .inr (.inr (.inl (some 120)))), (1, .inl x1), (2, .inl x2), (3, .inl x3)] [] mm := by
  unfold Census_findLimb_52
  refine gl (i' := 53) (fun _ _ => aw_iinc K (dOf ck_mX0_findLimb rfl rfl) (Nat.le_of_ble_eq_true rfl) rfl) ?_
  refine g_lv (lv' := [(3, .inl _), (0, .inr (.inr (.inl (some _)))), (1, .inl _), (2, .inl _)]) rfl ?_
  refine g_goto K (dOf ck_mX0_findLimb rfl rfl).1 (t := 15) (aJ_of (by decide +kernel)) ?_
  refine g_sub [1, 2, 3, 0] rfl ?_
  exact hk15 _ _
def Census_findLimb_37 (k8 : Int → aM → Option aM) (k15 : Int → aM → Option aM) (x1 : Int) (x2 : Int) (x3 : Int) (s0 : Int) (mm : aM) : Option aM := if s0 = 0 then (Census_findLimb_52 k8 k15 x1 x2 x3 mm) else ((Census_countSharing x2 x3 mm).bind fun r8 => (if r8 < x1 then (Census_findLimb_52 k8 k15 x1 x2 x3 mm) else (st1 (aup mm 120 8 x2) fun mm10 => (st1 (aup mm10 120 9 x3) fun mm11 => (Census_findLimb_52 k8 k15 x1 x2 x3 mm11)))))
set_option maxHeartbeats 4000000 in
theorem lk_Census_findLimb_37 {p : Program} {l : Launch} {e : Env} {s : State} {m : MethodId} {args : Array Value} {below : List Frame} {meth : Method} {c : Code} {D : va_G} {cA : FieldType → ClassId} {ad adV : Nat → Nat} {z0 : Nat} {al0 : List Nat} (K : aK p s m args meth c mX0_findLimb D cA ad adV z0) (x1 : Int) (x2 : Int) (x3 : Int) (k8 : Int → aM → Option aM) (hk8 : ∀ (x2 : Int) (mm : aM), aG p l e { frames := 2, cells := 0, slots := 0, locals := 48 } s m args below meth c D cA ad z0 mX0_findLimb al0 rM (k8 x2 mm) 8 [(0, .inr (.inr (.inl (some 120)))), (1, .inl x1), (2, .inl x2)] [] mm) (k15 : Int → aM → Option aM) (hk15 : ∀ (x3 : Int) (mm : aM), aG p l e { frames := 2, cells := 0, slots := 0, locals := 48 } s m args below meth c D cA ad z0 mX0_findLimb al0 rM (k15 x3 mm) 15 [(0, .inr (.inr (.inl (some 120)))), (1, .inl x1), (2, .inl x2), (3, .inl x3)] [] mm)  (s0 : Int) (mm : aM) : aG p l e { frames := 2, cells := 0, slots := 0, locals := 48 } s m args below meth c D cA ad z0 mX0_findLimb al0 rM (Census_findLimb_37 k8 k15 x1 x2 x3 s0 mm) 37 [(0, .inr (.inr (.inl (some 120)))), (1, .inl x1), (2, .inl x2), (3, .inl x3)] [.inl s0] mm := by
  unfold Census_findLimb_37
  refine gl (i' := 38) (fun _ _ => aw_istore K (dOf ck_mX0_findLimb rfl rfl) (Nat.le_of_ble_eq_true rfl)) ?_
  refine g_lv (lv' := [(4, .inl _), (0, .inr (.inr (.inl (some _)))), (1, .inl _), (2, .inl _), (3, .inl _)]) rfl ?_
  refine gl (i' := 39) (fun _ _ => aw_iload K (dOf ck_mX0_findLimb rfl rfl) rfl) ?_
  refine g_if_eq K (dOf ck_mX0_findLimb rfl rfl) (t := 52) (aJ_of (by decide +kernel)) (fun h7 => ?_) (fun h7 => ?_)
  · refine g_sub [1, 2, 3, 4] rfl ?_
    exact lk_Census_findLimb_52 K _ _ _ _ hk8 _ hk15 _
  · refine gl (i' := 41) (fun _ _ => aw_aload_n K (dOf ck_mX0_findLimb rfl rfl) rfl) ?_
    refine gl (i' := 42) (fun _ _ => aw_iload_n K (dOf ck_mX0_findLimb rfl rfl) rfl) ?_
    refine gl (i' := 43) (fun _ _ => aw_iload_n K (dOf ck_mX0_findLimb rfl rfl) rfl) ?_
    refine g_callVI K [.inl _, .inl _] rfl (dOf ck_mX0_findLimb rfl rfl) al_OneBreath_Census_113 rfl rfl ⟨wd_1153, wd_1154⟩ rfl (Nat.le_of_ble_eq_true rfl) ⟨Nat.le_of_ble_eq_true rfl, Nat.le_of_ble_eq_true rfl⟩ (fun b hb => met_Census_countSharing  hb) (fun r8 hr8 => ?_)
    refine gl (i' := 45) (fun _ _ => aw_iload_n K (dOf ck_mX0_findLimb rfl rfl) rfl) ?_
    refine g_icmp_lt K (dOf ck_mX0_findLimb rfl rfl) (t := 52) (aJ_of (by decide +kernel)) (fun h9 => ?_) (fun h9 => ?_)
    · refine g_sub [1, 2, 3, 4] rfl ?_
      exact lk_Census_findLimb_52 K _ _ _ _ hk8 _ hk15 _
    · refine gl (i' := 47) (fun _ _ => aw_aload_n K (dOf ck_mX0_findLimb rfl rfl) rfl) ?_
      refine gl (i' := 48) (fun _ _ => aw_iload_n K (dOf ck_mX0_findLimb rfl rfl) rfl) ?_
      refine g_st1 ?_
      refine gl (i' := 49) (fun _ _ => aw_putf K (dOf ck_mX0_findLimb rfl rfl) rfl rfl (Nat.le_of_ble_eq_true rfl) wd_456 (k := 8) rfl rfl (Or.inl rfl)) ?_
      refine gl (i' := 50) (fun _ _ => aw_aload_n K (dOf ck_mX0_findLimb rfl rfl) rfl) ?_
      refine gl (i' := 51) (fun _ _ => aw_iload_n K (dOf ck_mX0_findLimb rfl rfl) rfl) ?_
      refine g_st1 ?_
      refine gl (i' := 52) (fun _ _ => aw_putf K (dOf ck_mX0_findLimb rfl rfl) rfl rfl (Nat.le_of_ble_eq_true rfl) wd_458 (k := 9) rfl rfl (Or.inl rfl)) ?_
      refine g_sub [1, 2, 3, 4] rfl ?_
      exact lk_Census_findLimb_52 K _ _ _ _ hk8 _ hk15 _
def Census_findLimb_34 (k8 : Int → aM → Option aM) (k15 : Int → aM → Option aM) (x1 : Int) (x2 : Int) (x3 : Int) (mm : aM) : Option aM := Census_findLimb_37 k8 k15 x1 x2 x3 1 mm
set_option maxHeartbeats 4000000 in
theorem lk_Census_findLimb_34 {p : Program} {l : Launch} {e : Env} {s : State} {m : MethodId} {args : Array Value} {below : List Frame} {meth : Method} {c : Code} {D : va_G} {cA : FieldType → ClassId} {ad adV : Nat → Nat} {z0 : Nat} {al0 : List Nat} (K : aK p s m args meth c mX0_findLimb D cA ad adV z0) (x1 : Int) (x2 : Int) (x3 : Int) (k8 : Int → aM → Option aM) (hk8 : ∀ (x2 : Int) (mm : aM), aG p l e { frames := 2, cells := 0, slots := 0, locals := 48 } s m args below meth c D cA ad z0 mX0_findLimb al0 rM (k8 x2 mm) 8 [(0, .inr (.inr (.inl (some 120)))), (1, .inl x1), (2, .inl x2)] [] mm) (k15 : Int → aM → Option aM) (hk15 : ∀ (x3 : Int) (mm : aM), aG p l e { frames := 2, cells := 0, slots := 0, locals := 48 } s m args below meth c D cA ad z0 mX0_findLimb al0 rM (k15 x3 mm) 15 [(0, .inr (.inr (.inl (some 120)))), (1, .inl x1), (2, .inl x2), (3, .inl x3)] [] mm)  (mm : aM) : aG p l e { frames := 2, cells := 0, slots := 0, locals := 48 } s m args below meth c D cA ad z0 mX0_findLimb al0 rM (Census_findLimb_34 k8 k15 x1 x2 x3 mm) 34 [(0, .inr (.inr (.inl (some 120)))), (1, .inl x1), (2, .inl x2), (3, .inl x3)] [] mm := by
  unfold Census_findLimb_34
  refine gl (i' := 35) (fun _ _ => aw_iconst K (n := 1) (i32 _ rfl) (dOf ck_mX0_findLimb rfl rfl)) ?_
  refine g_goto K (dOf ck_mX0_findLimb rfl rfl).1 (t := 37) (aJ_of (by decide +kernel)) ?_
  refine g_sub [0, 1, 2, 3] rfl ?_
  exact lk_Census_findLimb_37 K _ _ _ _ hk8 _ hk15 _ _
def Census_findLimb_36 (k8 : Int → aM → Option aM) (k15 : Int → aM → Option aM) (x1 : Int) (x2 : Int) (x3 : Int) (mm : aM) : Option aM := Census_findLimb_37 k8 k15 x1 x2 x3 0 mm
set_option maxHeartbeats 4000000 in
theorem lk_Census_findLimb_36 {p : Program} {l : Launch} {e : Env} {s : State} {m : MethodId} {args : Array Value} {below : List Frame} {meth : Method} {c : Code} {D : va_G} {cA : FieldType → ClassId} {ad adV : Nat → Nat} {z0 : Nat} {al0 : List Nat} (K : aK p s m args meth c mX0_findLimb D cA ad adV z0) (x1 : Int) (x2 : Int) (x3 : Int) (k8 : Int → aM → Option aM) (hk8 : ∀ (x2 : Int) (mm : aM), aG p l e { frames := 2, cells := 0, slots := 0, locals := 48 } s m args below meth c D cA ad z0 mX0_findLimb al0 rM (k8 x2 mm) 8 [(0, .inr (.inr (.inl (some 120)))), (1, .inl x1), (2, .inl x2)] [] mm) (k15 : Int → aM → Option aM) (hk15 : ∀ (x3 : Int) (mm : aM), aG p l e { frames := 2, cells := 0, slots := 0, locals := 48 } s m args below meth c D cA ad z0 mX0_findLimb al0 rM (k15 x3 mm) 15 [(0, .inr (.inr (.inl (some 120)))), (1, .inl x1), (2, .inl x2), (3, .inl x3)] [] mm)  (mm : aM) : aG p l e { frames := 2, cells := 0, slots := 0, locals := 48 } s m args below meth c D cA ad z0 mX0_findLimb al0 rM (Census_findLimb_36 k8 k15 x1 x2 x3 mm) 36 [(0, .inr (.inr (.inl (some 120)))), (1, .inl x1), (2, .inl x2), (3, .inl x3)] [] mm := by
  unfold Census_findLimb_36
  refine gl (i' := 37) (fun _ _ => aw_iconst K (n := 0) (i32 _ rfl) (dOf ck_mX0_findLimb rfl rfl)) ?_
  refine g_sub [0, 1, 2, 3] rfl ?_
  exact lk_Census_findLimb_37 K _ _ _ _ hk8 _ hk15 _ _
def Census_findLimb_15 (k8 : Int → aM → Option aM) (x1 : Int) (x2 : Int) : Nat → Int → aM → Option aM
  | 0, _, _ => none
  | n + 1, x3, mm => if 0 ≤ x2 ∧ x2 < 12 then (if (mm 41 x2.toNat) < x3 then (k8 (w32 (x2 + 1)) mm) else (if (mm 120 9) < x3 then (Census_findLimb_34 k8 (Census_findLimb_15 k8 x1 x2 n) x1 x2 x3 mm) else (if x3 = (mm 120 9) then ((Census_isAheadOfLimb x2 mm).bind fun r13 => (if r13 = 0 then (Census_findLimb_36 k8 (Census_findLimb_15 k8 x1 x2 n) x1 x2 x3 mm) else (Census_findLimb_34 k8 (Census_findLimb_15 k8 x1 x2 n) x1 x2 x3 mm))) else (Census_findLimb_36 k8 (Census_findLimb_15 k8 x1 x2 n) x1 x2 x3 mm)))) else none
set_option maxHeartbeats 4000000 in
theorem lk_Census_findLimb_15 {p : Program} {l : Launch} {e : Env} {s : State} {m : MethodId} {args : Array Value} {below : List Frame} {meth : Method} {c : Code} {D : va_G} {cA : FieldType → ClassId} {ad adV : Nat → Nat} {z0 : Nat} {al0 : List Nat} (K : aK p s m args meth c mX0_findLimb D cA ad adV z0) (x1 : Int) (x2 : Int) (k8 : Int → aM → Option aM) (hk8 : ∀ (x2 : Int) (mm : aM), aG p l e { frames := 2, cells := 0, slots := 0, locals := 48 } s m args below meth c D cA ad z0 mX0_findLimb al0 rM (k8 x2 mm) 8 [(0, .inr (.inr (.inl (some 120)))), (1, .inl x1), (2, .inl x2)] [] mm)  : ∀ (n : Nat) (x3 : Int) (mm : aM), aG p l e { frames := 2, cells := 0, slots := 0, locals := 48 } s m args below meth c D cA ad z0 mX0_findLimb al0 rM (Census_findLimb_15 k8 x1 x2 n x3 mm) 15 [(0, .inr (.inr (.inl (some 120)))), (1, .inl x1), (2, .inl x2), (3, .inl x3)] [] mm := by
  intro n
  induction n with
  | zero => intro x3 mm; exact g_none
  | succ n ih =>
    intro x3 mm
    rw [Census_findLimb_15]
    refine gl (i' := 16) (fun _ _ => aw_iload_n K (dOf ck_mX0_findLimb rfl rfl) rfl) ?_
    refine gl (i' := 17) (fun _ _ => aw_aload_n K (dOf ck_mX0_findLimb rfl rfl) rfl) ?_
    refine gl (i' := 18) (fun _ _ => aw_getf K (dOf ck_mX0_findLimb rfl rfl) rfl rfl (Nat.le_of_ble_eq_true rfl) wd_446 (k := 0) rfl) ?_
    refine gl (i' := 19) (fun _ _ => aw_getf K (dOf ck_mX0_findLimb rfl rfl) rfl rfl (Nat.le_of_ble_eq_true rfl) wd_237 (k := 9) rfl) ?_
    refine gl (i' := 20) (fun _ _ => aw_iload_n K (dOf ck_mX0_findLimb rfl rfl) rfl) ?_
    refine g_gd (fun hb4 => ?_)
    refine gl (i' := 21) (fun _ _ => aw_iald K (dOf ck_mX0_findLimb rfl rfl) rfl hb4) ?_
    refine g_icmp_gt K (dOf ck_mX0_findLimb rfl rfl) (t := 54) (aJ_of (by decide +kernel)) (fun h5 => ?_) (fun h5 => ?_)
    · refine gl (i' := 55) (fun _ _ => aw_iinc K (dOf ck_mX0_findLimb rfl rfl) (Nat.le_of_ble_eq_true rfl) rfl) ?_
      refine g_lv (lv' := [(2, .inl _), (0, .inr (.inr (.inl (some _)))), (1, .inl _), (3, .inl _)]) rfl ?_
      refine g_goto K (dOf ck_mX0_findLimb rfl rfl).1 (t := 8) (aJ_of (by decide +kernel)) ?_
      refine g_sub [1, 2, 0] rfl ?_
      exact hk8 _ _
    · refine gl (i' := 23) (fun _ _ => aw_iload_n K (dOf ck_mX0_findLimb rfl rfl) rfl) ?_
      refine gl (i' := 24) (fun _ _ => aw_aload_n K (dOf ck_mX0_findLimb rfl rfl) rfl) ?_
      refine gl (i' := 25) (fun _ _ => aw_getf K (dOf ck_mX0_findLimb rfl rfl) rfl rfl (Nat.le_of_ble_eq_true rfl) wd_458 (k := 9) rfl) ?_
      refine g_icmp_gt K (dOf ck_mX0_findLimb rfl rfl) (t := 34) (aJ_of (by decide +kernel)) (fun h6 => ?_) (fun h6 => ?_)
      · refine g_sub [0, 1, 2, 3] rfl ?_
        exact lk_Census_findLimb_34 K _ _ _ _ hk8 _ ih _
      · refine gl (i' := 27) (fun _ _ => aw_iload_n K (dOf ck_mX0_findLimb rfl rfl) rfl) ?_
        refine gl (i' := 28) (fun _ _ => aw_aload_n K (dOf ck_mX0_findLimb rfl rfl) rfl) ?_
        refine gl (i' := 29) (fun _ _ => aw_getf K (dOf ck_mX0_findLimb rfl rfl) rfl rfl (Nat.le_of_ble_eq_true rfl) wd_458 (k := 9) rfl) ?_
        refine g_icmp_ne K (dOf ck_mX0_findLimb rfl rfl) (t := 36) (aJ_of (by decide +kernel)) (fun h12 => ?_) (fun h12 => ?_)
        · refine gl (i' := 31) (fun _ _ => aw_aload_n K (dOf ck_mX0_findLimb rfl rfl) rfl) ?_
          refine gl (i' := 32) (fun _ _ => aw_iload_n K (dOf ck_mX0_findLimb rfl rfl) rfl) ?_
          refine g_callVI K [.inl _] rfl (dOf ck_mX0_findLimb rfl rfl) al_OneBreath_Census_110 rfl rfl ⟨wd_1150, wd_62⟩ rfl (Nat.le_of_ble_eq_true rfl) ⟨Nat.le_of_ble_eq_true rfl, Nat.le_of_ble_eq_true rfl⟩ (fun b hb => met_Census_isAheadOfLimb  hb) (fun r13 hr13 => ?_)
          refine g_if_eq K (dOf ck_mX0_findLimb rfl rfl) (t := 36) (aJ_of (by decide +kernel)) (fun h14 => ?_) (fun h14 => ?_)
          · refine g_sub [0, 1, 2, 3] rfl ?_
            exact lk_Census_findLimb_36 K _ _ _ _ hk8 _ ih _
          · refine g_sub [0, 1, 2, 3] rfl ?_
            exact lk_Census_findLimb_34 K _ _ _ _ hk8 _ ih _
        · refine g_sub [0, 1, 2, 3] rfl ?_
          exact lk_Census_findLimb_36 K _ _ _ _ hk8 _ ih _
def Census_findLimb_8 (x1 : Int) : Nat → Int → aM → Option aM
  | 0, _, _ => none
  | n + 1, x2, mm => if x2 < (mm 25 2) then (Census_findLimb_15 (Census_findLimb_8 x1 n) x1 x2 FU 1 mm) else (some mm)
set_option maxHeartbeats 4000000 in
theorem lk_Census_findLimb_8 {p : Program} {l : Launch} {e : Env} {s : State} {m : MethodId} {args : Array Value} {below : List Frame} {meth : Method} {c : Code} {D : va_G} {cA : FieldType → ClassId} {ad adV : Nat → Nat} {z0 : Nat} {al0 : List Nat} (K : aK p s m args meth c mX0_findLimb D cA ad adV z0) (x1 : Int)  : ∀ (n : Nat) (x2 : Int) (mm : aM), aG p l e { frames := 2, cells := 0, slots := 0, locals := 48 } s m args below meth c D cA ad z0 mX0_findLimb al0 rM (Census_findLimb_8 x1 n x2 mm) 8 [(0, .inr (.inr (.inl (some 120)))), (1, .inl x1), (2, .inl x2)] [] mm := by
  intro n
  induction n with
  | zero => intro x2 mm; exact g_none
  | succ n ih =>
    intro x2 mm
    rw [Census_findLimb_8]
    refine gl (i' := 9) (fun _ _ => aw_iload_n K (dOf ck_mX0_findLimb rfl rfl) rfl) ?_
    refine gl (i' := 10) (fun _ _ => aw_aload_n K (dOf ck_mX0_findLimb rfl rfl) rfl) ?_
    refine gl (i' := 11) (fun _ _ => aw_getf K (dOf ck_mX0_findLimb rfl rfl) rfl rfl (Nat.le_of_ble_eq_true rfl) wd_446 (k := 0) rfl) ?_
    refine gl (i' := 12) (fun _ _ => aw_getf K (dOf ck_mX0_findLimb rfl rfl) rfl rfl (Nat.le_of_ble_eq_true rfl) wd_197 (k := 2) rfl) ?_
    refine g_icmp_ge K (dOf ck_mX0_findLimb rfl rfl) (t := 56) (aJ_of (by decide +kernel)) (fun h3 => ?_) (fun h3 => ?_)
    · refine gl (i' := 14) (fun _ _ => aw_iconst K (n := 1) (i32 _ rfl) (dOf ck_mX0_findLimb rfl rfl)) ?_
      refine gl (i' := 15) (fun _ _ => aw_istore_n K (dOf ck_mX0_findLimb rfl rfl) (Nat.le_of_ble_eq_true rfl)) ?_
      refine g_lv (lv' := [(3, .inl _), (0, .inr (.inr (.inl (some _)))), (1, .inl _), (2, .inl _)]) rfl ?_
      refine g_sub [1, 2, 3, 0] rfl ?_
      exact lk_Census_findLimb_15 K _ _ _ ih FU _ _
    · exact g_vret K (by decide +kernel) rfl rfl
def Census_findLimb (x1 : Int) (mm : aM) : Option aM := st1 (aup mm 120 8 0) fun mm1 => (st1 (aup mm1 120 9 0) fun mm2 => (Census_findLimb_8 x1 FU 0 mm2))
set_option maxHeartbeats 4000000 in
theorem met_Census_findLimb {l : Launch} {D : va_G} {cA : FieldType → ClassId} {ad adV : Nat → Nat} {z0 : Nat} {x1 : Int} {mm : aM}  {r : aM} (h : Census_findLimb x1 mm = some r) : aMet l D cA ad adV z0 mX0_findLimb 2 48 0 0 [.inr (.inr (.inl (some 120))), .inl x1] SH mm (rM r).1 SH (rM r).2 := by
  refine aMet_ofG (by decide +kernel) rfl (Nat.le_of_ble_eq_true rfl) h (fun p e s m args below meth c al0 K => ?_)
  unfold Census_findLimb
  refine gl (i' := 1) (fun _ _ => aw_aload_n K (dOf ck_mX0_findLimb rfl rfl) rfl) ?_
  refine gl (i' := 2) (fun _ _ => aw_iconst K (n := 0) (i32 _ rfl) (dOf ck_mX0_findLimb rfl rfl)) ?_
  refine g_st1 ?_
  refine gl (i' := 3) (fun _ _ => aw_putf K (dOf ck_mX0_findLimb rfl rfl) rfl rfl (Nat.le_of_ble_eq_true rfl) wd_456 (k := 8) rfl rfl (Or.inl rfl)) ?_
  refine gl (i' := 4) (fun _ _ => aw_aload_n K (dOf ck_mX0_findLimb rfl rfl) rfl) ?_
  refine gl (i' := 5) (fun _ _ => aw_iconst K (n := 0) (i32 _ rfl) (dOf ck_mX0_findLimb rfl rfl)) ?_
  refine g_st1 ?_
  refine gl (i' := 6) (fun _ _ => aw_putf K (dOf ck_mX0_findLimb rfl rfl) rfl rfl (Nat.le_of_ble_eq_true rfl) wd_458 (k := 9) rfl rfl (Or.inl rfl)) ?_
  refine gl (i' := 7) (fun _ _ => aw_iconst K (n := 0) (i32 _ rfl) (dOf ck_mX0_findLimb rfl rfl)) ?_
  refine gl (i' := 8) (fun _ _ => aw_istore_n K (dOf ck_mX0_findLimb rfl rfl) (Nat.le_of_ble_eq_true rfl)) ?_
  refine g_lv (lv' := [(2, .inl _), (0, .inr (.inr (.inl (some _)))), (1, .inl _)]) rfl ?_
  refine g_sub [1, 2, 0] rfl ?_
  exact lk_Census_findLimb_8 K _ FU _ _
def B_limb_27 (x1 : Int) (x2 : Int) (mm : aM) : Option (Int × aM) := if (mm 25 2) < x1 then (some ((-1), mm)) else ((Census_findLimb x1 mm).bind fun r6 => (if x2 = 0 then (some (r6 120 9, r6)) else (if x2 = 1 then ((Census_countSharing (r6 120 8) (r6 120 9) r6).bind fun r12 => (some (r12, r6))) else (if (w32 (x2 - 10)) < (r6 120 9) then (if 0 ≤ (r6 120 8) ∧ (r6 120 8) < 12 then (if 0 ≤ (w32 (x2 - 10)) ∧ (w32 (x2 - 10)) < 6 then (some (r6 (25 + 4 + (r6 120 8).toNat) (w32 (x2 - 10)).toNat, r6)) else none) else none) else (some ((-1), r6))))))
set_option maxHeartbeats 4000000 in
theorem lk_B_limb_27 {p : Program} {l : Launch} {e : Env} {s : State} {m : MethodId} {args : Array Value} {below : List Frame} {meth : Method} {c : Code} {D : va_G} {cA : FieldType → ClassId} {ad adV : Nat → Nat} {z0 : Nat} {al0 : List Nat} (K : aK p s m args meth c mX11_limb D cA ad adV z0) (x1 : Int) (x2 : Int)  (mm : aM) : aG p l e { frames := 3, cells := 0, slots := 0, locals := 72 } s m args below meth c D cA ad z0 mX11_limb al0 rIM (B_limb_27 x1 x2 mm) 27 [(0, .inr (.inr (.inl (some 0)))), (1, .inl x1), (2, .inl x2)] [] mm := by
  unfold B_limb_27
  refine gl (i' := 28) (fun _ _ => aw_aload_n K (dOf ck_mX11_limb rfl rfl) rfl) ?_
  refine gl (i' := 29) (fun _ _ => aw_getf K (dOf ck_mX11_limb rfl rfl) rfl rfl (Nat.le_of_ble_eq_true rfl) wd_461 (k := 1) rfl) ?_
  refine gl (i' := 30) (fun _ _ => aw_getf K (dOf ck_mX11_limb rfl rfl) rfl rfl (Nat.le_of_ble_eq_true rfl) wd_202 (k := 2) rfl) ?_
  refine gl (i' := 31) (fun _ _ => aw_iload_n K (dOf ck_mX11_limb rfl rfl) rfl) ?_
  refine g_icmp_ge K (dOf ck_mX11_limb rfl rfl) (t := 34) (aJ_of (by decide +kernel)) (fun h5 => ?_) (fun h5 => ?_)
  · refine gl (i' := 33) (fun _ _ => aw_iconst K (n := -1) (i32 _ rfl) (dOf ck_mX11_limb rfl rfl)) ?_
    exact g_iret K (dOf ck_mX11_limb rfl rfl).1 rfl (Or.inl rfl) rfl
  · refine gl (i' := 35) (fun _ _ => aw_aload_n K (dOf ck_mX11_limb rfl rfl) rfl) ?_
    refine gl (i' := 36) (fun _ _ => aw_getf K (dOf ck_mX11_limb rfl rfl) rfl rfl (Nat.le_of_ble_eq_true rfl) wd_471 (k := 11) rfl) ?_
    refine gl (i' := 37) (fun _ _ => aw_iload_n K (dOf ck_mX11_limb rfl rfl) rfl) ?_
    refine g_callVM K [.inl _] rfl (dOf ck_mX11_limb rfl rfl) al_OneBreath_355 rfl rfl ⟨wd_1146, wd_1147⟩ rfl (Nat.le_of_ble_eq_true rfl) ⟨Nat.le_of_ble_eq_true rfl, Nat.le_of_ble_eq_true rfl⟩ (fun b hb => met_Census_findLimb  hb) (fun r6 hr6 => ?_)
    refine gl (i' := 39) (fun _ _ => aw_iload_n K (dOf ck_mX11_limb rfl rfl) rfl) ?_
    refine g_if_ne K (dOf ck_mX11_limb rfl rfl) (t := 44) (aJ_of (by decide +kernel)) (fun h7 => ?_) (fun h7 => ?_)
    · refine gl (i' := 41) (fun _ _ => aw_aload_n K (dOf ck_mX11_limb rfl rfl) rfl) ?_
      refine gl (i' := 42) (fun _ _ => aw_getf K (dOf ck_mX11_limb rfl rfl) rfl rfl (Nat.le_of_ble_eq_true rfl) wd_471 (k := 11) rfl) ?_
      refine gl (i' := 43) (fun _ _ => aw_getf K (dOf ck_mX11_limb rfl rfl) rfl rfl (Nat.le_of_ble_eq_true rfl) wd_459 (k := 9) rfl) ?_
      exact g_iret K (dOf ck_mX11_limb rfl rfl).1 rfl (Or.inl rfl) rfl
    · refine gl (i' := 45) (fun _ _ => aw_iload_n K (dOf ck_mX11_limb rfl rfl) rfl) ?_
      refine gl (i' := 46) (fun _ _ => aw_iconst K (n := 1) (i32 _ rfl) (dOf ck_mX11_limb rfl rfl)) ?_
      refine g_icmp_ne K (dOf ck_mX11_limb rfl rfl) (t := 57) (aJ_of (by decide +kernel)) (fun h8 => ?_) (fun h8 => ?_)
      · refine gl (i' := 48) (fun _ _ => aw_aload_n K (dOf ck_mX11_limb rfl rfl) rfl) ?_
        refine gl (i' := 49) (fun _ _ => aw_getf K (dOf ck_mX11_limb rfl rfl) rfl rfl (Nat.le_of_ble_eq_true rfl) wd_471 (k := 11) rfl) ?_
        refine gl (i' := 50) (fun _ _ => aw_aload_n K (dOf ck_mX11_limb rfl rfl) rfl) ?_
        refine gl (i' := 51) (fun _ _ => aw_getf K (dOf ck_mX11_limb rfl rfl) rfl rfl (Nat.le_of_ble_eq_true rfl) wd_471 (k := 11) rfl) ?_
        refine gl (i' := 52) (fun _ _ => aw_getf K (dOf ck_mX11_limb rfl rfl) rfl rfl (Nat.le_of_ble_eq_true rfl) wd_457 (k := 8) rfl) ?_
        refine gl (i' := 53) (fun _ _ => aw_aload_n K (dOf ck_mX11_limb rfl rfl) rfl) ?_
        refine gl (i' := 54) (fun _ _ => aw_getf K (dOf ck_mX11_limb rfl rfl) rfl rfl (Nat.le_of_ble_eq_true rfl) wd_471 (k := 11) rfl) ?_
        refine gl (i' := 55) (fun _ _ => aw_getf K (dOf ck_mX11_limb rfl rfl) rfl rfl (Nat.le_of_ble_eq_true rfl) wd_459 (k := 9) rfl) ?_
        refine g_callVI K [.inl _, .inl _] rfl (dOf ck_mX11_limb rfl rfl) al_OneBreath_364 rfl rfl ⟨wd_1153, wd_1154⟩ rfl (Nat.le_of_ble_eq_true rfl) ⟨Nat.le_of_ble_eq_true rfl, Nat.le_of_ble_eq_true rfl⟩ (fun b hb => met_Census_countSharing  hb) (fun r12 hr12 => ?_)
        exact g_iret K (dOf ck_mX11_limb rfl rfl).1 rfl (Or.inl rfl) rfl
      · refine gl (i' := 58) (fun _ _ => aw_iload_n K (dOf ck_mX11_limb rfl rfl) rfl) ?_
        refine gl (i' := 59) (fun _ _ => aw_bip K (dOf ck_mX11_limb rfl rfl) (v := 10) rfl) ?_
        refine gl (i' := 60) (fun _ _ => aw_isub K (dOf ck_mX11_limb rfl rfl)) ?_
        refine gl (i' := 61) (fun _ _ => aw_istore K (dOf ck_mX11_limb rfl rfl) (Nat.le_of_ble_eq_true rfl)) ?_
        refine g_lv (lv' := [(4, .inl _), (0, .inr (.inr (.inl (some _)))), (1, .inl _), (2, .inl _)]) rfl ?_
        refine gl (i' := 62) (fun _ _ => aw_iload K (dOf ck_mX11_limb rfl rfl) rfl) ?_
        refine gl (i' := 63) (fun _ _ => aw_aload_n K (dOf ck_mX11_limb rfl rfl) rfl) ?_
        refine gl (i' := 64) (fun _ _ => aw_getf K (dOf ck_mX11_limb rfl rfl) rfl rfl (Nat.le_of_ble_eq_true rfl) wd_471 (k := 11) rfl) ?_
        refine gl (i' := 65) (fun _ _ => aw_getf K (dOf ck_mX11_limb rfl rfl) rfl rfl (Nat.le_of_ble_eq_true rfl) wd_459 (k := 9) rfl) ?_
        refine g_icmp_ge K (dOf ck_mX11_limb rfl rfl) (t := 76) (aJ_of (by decide +kernel)) (fun h9 => ?_) (fun h9 => ?_)
        · refine gl (i' := 67) (fun _ _ => aw_aload_n K (dOf ck_mX11_limb rfl rfl) rfl) ?_
          refine gl (i' := 68) (fun _ _ => aw_getf K (dOf ck_mX11_limb rfl rfl) rfl rfl (Nat.le_of_ble_eq_true rfl) wd_461 (k := 1) rfl) ?_
          refine gl (i' := 69) (fun _ _ => aw_getf K (dOf ck_mX11_limb rfl rfl) rfl rfl (Nat.le_of_ble_eq_true rfl) wd_232 (k := 8) rfl) ?_
          refine gl (i' := 70) (fun _ _ => aw_aload_n K (dOf ck_mX11_limb rfl rfl) rfl) ?_
          refine gl (i' := 71) (fun _ _ => aw_getf K (dOf ck_mX11_limb rfl rfl) rfl rfl (Nat.le_of_ble_eq_true rfl) wd_471 (k := 11) rfl) ?_
          refine gl (i' := 72) (fun _ _ => aw_getf K (dOf ck_mX11_limb rfl rfl) rfl rfl (Nat.le_of_ble_eq_true rfl) wd_457 (k := 8) rfl) ?_
          refine g_gd (fun hb10 => ?_)
          refine gl (i' := 73) (fun _ _ => aw_aald K (dOf ck_mX11_limb rfl rfl) (shTa (t := 25) (by unfold okT; omega)) hb10 (rsT_at hb10)) ?_
          refine gl (i' := 74) (fun _ _ => aw_iload K (dOf ck_mX11_limb rfl rfl) rfl) ?_
          refine g_gd (fun hb11 => ?_)
          refine gl (i' := 75) (fun _ _ => aw_bald K (dOf ck_mX11_limb rfl rfl) (shTr (t := 25) (by unfold okT; omega) hb10) hb11) ?_
          refine g_goto K (dOf ck_mX11_limb rfl rfl).1 (t := 77) (aJ_of (by decide +kernel)) ?_
          exact g_iret K (by decide +kernel) rfl (Or.inl rfl) rfl
        · refine gl (i' := 77) (fun _ _ => aw_iconst K (n := -1) (i32 _ rfl) (dOf ck_mX11_limb rfl rfl)) ?_
          exact g_iret K (by decide +kernel) rfl (Or.inl rfl) rfl
def B_limb_17 (x1 : Int) (x2 : Int) (s0 : Int) (mm : aM) : Option (Int × aM) := if x2 = 0 then (B_limb_27 x1 x2 mm) else (if x2 = 1 then (B_limb_27 x1 x2 mm) else (if s0 = 0 then (some ((-2), mm)) else (B_limb_27 x1 x2 mm)))
set_option maxHeartbeats 4000000 in
theorem lk_B_limb_17 {p : Program} {l : Launch} {e : Env} {s : State} {m : MethodId} {args : Array Value} {below : List Frame} {meth : Method} {c : Code} {D : va_G} {cA : FieldType → ClassId} {ad adV : Nat → Nat} {z0 : Nat} {al0 : List Nat} (K : aK p s m args meth c mX11_limb D cA ad adV z0) (x1 : Int) (x2 : Int)  (s0 : Int) (mm : aM) : aG p l e { frames := 3, cells := 0, slots := 0, locals := 72 } s m args below meth c D cA ad z0 mX11_limb al0 rIM (B_limb_17 x1 x2 s0 mm) 17 [(0, .inr (.inr (.inl (some 0)))), (1, .inl x1), (2, .inl x2)] [.inl s0] mm := by
  unfold B_limb_17
  refine gl (i' := 18) (fun _ _ => aw_istore_n K (dOf ck_mX11_limb rfl rfl) (Nat.le_of_ble_eq_true rfl)) ?_
  refine g_lv (lv' := [(3, .inl _), (0, .inr (.inr (.inl (some _)))), (1, .inl _), (2, .inl _)]) rfl ?_
  refine gl (i' := 19) (fun _ _ => aw_iload_n K (dOf ck_mX11_limb rfl rfl) rfl) ?_
  refine g_if_eq K (dOf ck_mX11_limb rfl rfl) (t := 27) (aJ_of (by decide +kernel)) (fun h4 => ?_) (fun h4 => ?_)
  · refine g_sub [1, 2, 3] rfl ?_
    exact lk_B_limb_27 K _ _ _
  · refine gl (i' := 21) (fun _ _ => aw_iload_n K (dOf ck_mX11_limb rfl rfl) rfl) ?_
    refine gl (i' := 22) (fun _ _ => aw_iconst K (n := 1) (i32 _ rfl) (dOf ck_mX11_limb rfl rfl)) ?_
    refine g_icmp_eq K (dOf ck_mX11_limb rfl rfl) (t := 27) (aJ_of (by decide +kernel)) (fun h13 => ?_) (fun h13 => ?_)
    · refine g_sub [1, 2, 3] rfl ?_
      exact lk_B_limb_27 K _ _ _
    · refine gl (i' := 24) (fun _ _ => aw_iload_n K (dOf ck_mX11_limb rfl rfl) rfl) ?_
      refine g_if_ne K (dOf ck_mX11_limb rfl rfl) (t := 27) (aJ_of (by decide +kernel)) (fun h14 => ?_) (fun h14 => ?_)
      · refine gl (i' := 26) (fun _ _ => aw_bip K (dOf ck_mX11_limb rfl rfl) (v := -2) rfl) ?_
        exact g_iret K (dOf ck_mX11_limb rfl rfl).1 rfl (Or.inl rfl) rfl
      · refine g_sub [1, 2, 3] rfl ?_
        exact lk_B_limb_27 K _ _ _
def B_limb_16 (x1 : Int) (x2 : Int) (mm : aM) : Option (Int × aM) := B_limb_17 x1 x2 0 mm
set_option maxHeartbeats 4000000 in
theorem lk_B_limb_16 {p : Program} {l : Launch} {e : Env} {s : State} {m : MethodId} {args : Array Value} {below : List Frame} {meth : Method} {c : Code} {D : va_G} {cA : FieldType → ClassId} {ad adV : Nat → Nat} {z0 : Nat} {al0 : List Nat} (K : aK p s m args meth c mX11_limb D cA ad adV z0) (x1 : Int) (x2 : Int)  (mm : aM) : aG p l e { frames := 3, cells := 0, slots := 0, locals := 72 } s m args below meth c D cA ad z0 mX11_limb al0 rIM (B_limb_16 x1 x2 mm) 16 [(0, .inr (.inr (.inl (some 0)))), (1, .inl x1), (2, .inl x2)] [] mm := by
  unfold B_limb_16
  refine gl (i' := 17) (fun _ _ => aw_iconst K (n := 0) (i32 _ rfl) (dOf ck_mX11_limb rfl rfl)) ?_
  refine g_sub [0, 1, 2] rfl ?_
  exact lk_B_limb_17 K _ _ _ _
def B_limb (x1 : Int) (x2 : Int) (mm : aM) : Option (Int × aM) := if x1 < 1 then (some ((-3), mm)) else (if 12 < x1 then (some ((-3), mm)) else (if x2 < 10 then (B_limb_16 x1 x2 mm) else (if x2 < 16 then (B_limb_17 x1 x2 1 mm) else (B_limb_16 x1 x2 mm))))
set_option maxHeartbeats 4000000 in
theorem met_B_limb {l : Launch} {D : va_G} {cA : FieldType → ClassId} {ad adV : Nat → Nat} {z0 : Nat} {x1 : Int} {x2 : Int} {mm : aM}  {r : Int × aM} (h : B_limb x1 x2 mm = some r) : aMet l D cA ad adV z0 mX11_limb 3 72 0 0 [.inr (.inr (.inl (some 0))), .inl x1, .inl x2] SH mm (rIM r).1 SH (rIM r).2 := by
  refine aMet_ofG (by decide +kernel) rfl (Nat.le_of_ble_eq_true rfl) h (fun p e s m args below meth c al0 K => ?_)
  unfold B_limb
  refine gl (i' := 1) (fun _ _ => aw_iload_n K (dOf ck_mX11_limb rfl rfl) rfl) ?_
  refine gl (i' := 2) (fun _ _ => aw_iconst K (n := 1) (i32 _ rfl) (dOf ck_mX11_limb rfl rfl)) ?_
  refine g_icmp_lt K (dOf ck_mX11_limb rfl rfl) (t := 6) (aJ_of (by decide +kernel)) (fun h1 => ?_) (fun h1 => ?_)
  · refine gl (i' := 7) (fun _ _ => aw_bip K (dOf ck_mX11_limb rfl rfl) (v := -3) rfl) ?_
    exact g_iret K (dOf ck_mX11_limb rfl rfl).1 rfl (Or.inl rfl) rfl
  · refine gl (i' := 4) (fun _ _ => aw_iload_n K (dOf ck_mX11_limb rfl rfl) rfl) ?_
    refine gl (i' := 5) (fun _ _ => aw_bip K (dOf ck_mX11_limb rfl rfl) (v := 12) rfl) ?_
    refine g_icmp_le K (dOf ck_mX11_limb rfl rfl) (t := 8) (aJ_of (by decide +kernel)) (fun h2 => ?_) (fun h2 => ?_)
    · refine gl (i' := 7) (fun _ _ => aw_bip K (dOf ck_mX11_limb rfl rfl) (v := -3) rfl) ?_
      exact g_iret K (dOf ck_mX11_limb rfl rfl).1 rfl (Or.inl rfl) rfl
    · refine gl (i' := 9) (fun _ _ => aw_iload_n K (dOf ck_mX11_limb rfl rfl) rfl) ?_
      refine gl (i' := 10) (fun _ _ => aw_bip K (dOf ck_mX11_limb rfl rfl) (v := 10) rfl) ?_
      refine g_icmp_lt K (dOf ck_mX11_limb rfl rfl) (t := 16) (aJ_of (by decide +kernel)) (fun h3 => ?_) (fun h3 => ?_)
      · refine g_sub [0, 1, 2] rfl ?_
        exact lk_B_limb_16 K _ _ _
      · refine gl (i' := 12) (fun _ _ => aw_iload_n K (dOf ck_mX11_limb rfl rfl) rfl) ?_
        refine gl (i' := 13) (fun _ _ => aw_bip K (dOf ck_mX11_limb rfl rfl) (v := 16) rfl) ?_
        refine g_icmp_ge K (dOf ck_mX11_limb rfl rfl) (t := 16) (aJ_of (by decide +kernel)) (fun h15 => ?_) (fun h15 => ?_)
        · refine gl (i' := 15) (fun _ _ => aw_iconst K (n := 1) (i32 _ rfl) (dOf ck_mX11_limb rfl rfl)) ?_
          refine g_goto K (dOf ck_mX11_limb rfl rfl).1 (t := 17) (aJ_of (by decide +kernel)) ?_
          refine g_sub [0, 1, 2] rfl ?_
          exact lk_B_limb_17 K _ _ _ _
        · refine g_sub [0, 1, 2] rfl ?_
          exact lk_B_limb_16 K _ _ _
def Jarr_fillL_5 (x0 : Nat) (x1 : Int) (x4 : Int) : Nat → Int → aM → Option aM
  | 0, _, _ => none
  | n + 1, x3, mm => if x3 < x4 then (if 0 ≤ x3 ∧ x3 < aln x0 then (st1 (aup mm x0 x3.toNat x1) fun mm3 => (Jarr_fillL_5 x0 x1 x4 n (w32 (x3 + 1)) mm3)) else none) else (some mm)
set_option maxHeartbeats 4000000 in
theorem lk_Jarr_fillL_5 {p : Program} {l : Launch} {e : Env} {s : State} {m : MethodId} {args : Array Value} {below : List Frame} {meth : Method} {c : Code} {D : va_G} {cA : FieldType → ClassId} {ad adV : Nat → Nat} {z0 : Nat} {al0 : List Nat} (K : aK p s m args meth c mJ7_fill_d0a16 D cA ad adV z0) {x0 : Nat} (x1 : Int) (x4 : Int) (hx0 : okL x0)  : ∀ (n : Nat) (x3 : Int) (mm : aM), aG p l e { frames := 0, cells := 0, slots := 0, locals := 0 } s m args below meth c D cA ad z0 mJ7_fill_d0a16 al0 rM (Jarr_fillL_5 x0 x1 x4 n x3 mm) 5 [(0, .inr (.inr (.inl (some x0)))), (1, .inr (.inl x1)), (3, .inl x3), (4, .inl x4)] [] mm := by
  intro n
  induction n with
  | zero => intro x3 mm; exact g_none
  | succ n ih =>
    intro x3 mm
    rw [Jarr_fillL_5]
    refine gl (i' := 6) (fun _ _ => aw_iload_n K (dOf ck_mJ7_fill_d0a16 rfl rfl) rfl) ?_
    refine gl (i' := 7) (fun _ _ => aw_iload K (dOf ck_mJ7_fill_d0a16 rfl rfl) rfl) ?_
    refine g_icmp_ge K (dOf ck_mJ7_fill_d0a16 rfl rfl) (t := 14) (aJ_of (by decide +kernel)) (fun h1 => ?_) (fun h1 => ?_)
    · refine gl (i' := 9) (fun _ _ => aw_aload_n K (dOf ck_mJ7_fill_d0a16 rfl rfl) rfl) ?_
      refine gl (i' := 10) (fun _ _ => aw_iload_n K (dOf ck_mJ7_fill_d0a16 rfl rfl) rfl) ?_
      refine gl (i' := 11) (fun _ _ => aw_lload_n K (dOf ck_mJ7_fill_d0a16 rfl rfl) rfl) ?_
      refine g_gd (fun hb2 => ?_)
      refine g_st1 ?_
      refine gl (i' := 12) (fun _ _ => aw_last K (dOf ck_mJ7_fill_d0a16 rfl rfl) (okL_at hx0) hb2) ?_
      refine gl (i' := 13) (fun _ _ => aw_iinc K (dOf ck_mJ7_fill_d0a16 rfl rfl) (Nat.le_of_ble_eq_true rfl) rfl) ?_
      refine g_lv (lv' := [(3, .inl _), (0, .inr (.inr (.inl (some _)))), (1, .inr (.inl _)), (4, .inl _)]) rfl ?_
      refine g_goto K (dOf ck_mJ7_fill_d0a16 rfl rfl).1 (t := 5) (aJ_of (by decide +kernel)) ?_
      refine g_sub [1, 2, 0, 3] rfl ?_
      exact ih _ _
    · exact g_vret K (by decide +kernel) rfl rfl
def Jarr_fillL (x0 : Nat) (x1 : Int) (mm : aM) : Option aM := Jarr_fillL_5 x0 x1 ((aln x0 : Nat) : Int) FU 0 mm
set_option maxHeartbeats 4000000 in
theorem met_Jarr_fillL {l : Launch} {D : va_G} {cA : FieldType → ClassId} {ad adV : Nat → Nat} {z0 : Nat} {x0 : Nat} {x1 : Int} {mm : aM} (hx0 : okL x0) {r : aM} (h : Jarr_fillL x0 x1 mm = some r) : aMet l D cA ad adV z0 mJ7_fill_d0a16 0 0 0 0 [.inr (.inr (.inl (some x0))), .inr (.inl x1)] SH mm (rM r).1 SH (rM r).2 := by
  refine aMet_ofG (by decide +kernel) rfl (Nat.le_of_ble_eq_true rfl) h (fun p e s m args below meth c al0 K => ?_)
  unfold Jarr_fillL
  refine gl (i' := 1) (fun _ _ => aw_iconst K (n := 0) (i32 _ rfl) (dOf ck_mJ7_fill_d0a16 rfl rfl)) ?_
  refine gl (i' := 2) (fun _ _ => aw_istore_n K (dOf ck_mJ7_fill_d0a16 rfl rfl) (Nat.le_of_ble_eq_true rfl)) ?_
  refine g_lv (lv' := [(3, .inl _), (0, .inr (.inr (.inl (some _)))), (1, .inr (.inl _))]) rfl ?_
  refine gl (i' := 3) (fun _ _ => aw_aload_n K (dOf ck_mJ7_fill_d0a16 rfl rfl) rfl) ?_
  refine gl (i' := 4) (fun _ _ => aw_alen K (dOf ck_mJ7_fill_d0a16 rfl rfl) (okL_at hx0) rfl (aln_lt _)) ?_
  refine gl (i' := 5) (fun _ _ => aw_istore K (dOf ck_mJ7_fill_d0a16 rfl rfl) (Nat.le_of_ble_eq_true rfl)) ?_
  refine g_lv (lv' := [(4, .inl _), (3, .inl _), (0, .inr (.inr (.inl (some _)))), (1, .inr (.inl _))]) rfl ?_
  refine g_sub [2, 3, 1, 0] rfl ?_
  exact lk_Jarr_fillL_5 K _ _ hx0 FU _ _
def Rows_renew (x1 : Int) (x2 : Int) (x3 : Int) (mm : aM) : Option aM := if 0 ≤ x1 ∧ x1 < 4 then ((Jarr_fillL (53 + x1.toNat) 0 mm).bind fun r2 => (st1 (aup r2 57 x1.toNat x3) fun mm3 => (st1 (aup mm3 58 x1.toNat x2) fun mm4 => (some mm4)))) else none
set_option maxHeartbeats 4000000 in
theorem met_Rows_renew {l : Launch} {D : va_G} {cA : FieldType → ClassId} {ad adV : Nat → Nat} {z0 : Nat} {x1 : Int} {x2 : Int} {x3 : Int} {mm : aM}  {r : aM} (h : Rows_renew x1 x2 x3 mm = some r) : aMet l D cA ad adV z0 mX5_renew 1 24 0 0 [.inr (.inr (.inl (some 51))), .inl x1, .inl x2, .inl x3] SH mm (rM r).1 SH (rM r).2 := by
  refine aMet_ofG (by decide +kernel) rfl (Nat.le_of_ble_eq_true rfl) h (fun p e s m args below meth c al0 K => ?_)
  unfold Rows_renew
  refine gl (i' := 1) (fun _ _ => aw_aload_n K (dOf ck_mX5_renew rfl rfl) rfl) ?_
  refine gl (i' := 2) (fun _ _ => aw_getf K (dOf ck_mX5_renew rfl rfl) rfl rfl (Nat.le_of_ble_eq_true rfl) wd_312 (k := 0) rfl) ?_
  refine gl (i' := 3) (fun _ _ => aw_iload_n K (dOf ck_mX5_renew rfl rfl) rfl) ?_
  refine g_gd (fun hb1 => ?_)
  refine gl (i' := 4) (fun _ _ => aw_aald K (dOf ck_mX5_renew rfl rfl) shVa hb1 (rsV_at hb1)) ?_
  refine gl (i' := 5) (fun _ _ => aw_lcn K (dOf ck_mX5_renew rfl rfl) (v := 0) rfl) ?_
  refine g_callSM K [.inr (.inr (.inl (some _))), .inr (.inl _)] rfl (dOf ck_mX5_renew rfl rfl) al_OneBreath_Rows_23 wd_1166 rfl (Nat.le_of_ble_eq_true rfl) ⟨Nat.le_of_ble_eq_true rfl, Nat.le_of_ble_eq_true rfl⟩ (fun b hb => met_Jarr_fillL ⟨_, (shVr hb1)⟩ hb) (fun r2 hr2 => ?_)
  refine gl (i' := 7) (fun _ _ => aw_aload_n K (dOf ck_mX5_renew rfl rfl) rfl) ?_
  refine gl (i' := 8) (fun _ _ => aw_getf K (dOf ck_mX5_renew rfl rfl) rfl rfl (Nat.le_of_ble_eq_true rfl) wd_314 (k := 1) rfl) ?_
  refine gl (i' := 9) (fun _ _ => aw_iload_n K (dOf ck_mX5_renew rfl rfl) rfl) ?_
  refine gl (i' := 10) (fun _ _ => aw_iload_n K (dOf ck_mX5_renew rfl rfl) rfl) ?_
  refine g_st1 ?_
  refine gl (i' := 11) (fun _ _ => aw_iast K (dOf ck_mX5_renew rfl rfl) rfl hb1) ?_
  refine gl (i' := 12) (fun _ _ => aw_aload_n K (dOf ck_mX5_renew rfl rfl) rfl) ?_
  refine gl (i' := 13) (fun _ _ => aw_getf K (dOf ck_mX5_renew rfl rfl) rfl rfl (Nat.le_of_ble_eq_true rfl) wd_317 (k := 2) rfl) ?_
  refine gl (i' := 14) (fun _ _ => aw_iload_n K (dOf ck_mX5_renew rfl rfl) rfl) ?_
  refine gl (i' := 15) (fun _ _ => aw_iload_n K (dOf ck_mX5_renew rfl rfl) rfl) ?_
  refine g_st1 ?_
  refine gl (i' := 16) (fun _ _ => aw_iast K (dOf ck_mX5_renew rfl rfl) rfl hb1) ?_
  exact g_vret K (by decide +kernel) rfl rfl
def B_numbers (x1 : Int) (x2 : Int) (x3 : Int) (mm : aM) : Option (Int × aM) := (Rows_isRow x1 mm).bind fun r1 => (if r1 = 0 then (some ((-2), mm)) else (if x2 < 0 then (some ((-2), mm)) else (if x2 < 4 then (if x3 < 0 then (some ((-3), mm)) else (if 40 < x3 then (some ((-3), mm)) else ((Rows_renew x1 x2 x3 mm).bind fun r7 => (some (0, r7))))) else (some ((-2), mm)))))
set_option maxHeartbeats 4000000 in
theorem met_B_numbers {l : Launch} {D : va_G} {cA : FieldType → ClassId} {ad adV : Nat → Nat} {z0 : Nat} {x1 : Int} {x2 : Int} {x3 : Int} {mm : aM}  {r : Int × aM} (h : B_numbers x1 x2 x3 mm = some r) : aMet l D cA ad adV z0 mX11_numbers 2 47 0 0 [.inr (.inr (.inl (some 0))), .inl x1, .inl x2, .inl x3] SH mm (rIM r).1 SH (rIM r).2 := by
  refine aMet_ofG (by decide +kernel) rfl (Nat.le_of_ble_eq_true rfl) h (fun p e s m args below meth c al0 K => ?_)
  unfold B_numbers
  refine gl (i' := 1) (fun _ _ => aw_aload_n K (dOf ck_mX11_numbers rfl rfl) rfl) ?_
  refine gl (i' := 2) (fun _ _ => aw_getf K (dOf ck_mX11_numbers rfl rfl) rfl rfl (Nat.le_of_ble_eq_true rfl) wd_464 (k := 4) rfl) ?_
  refine gl (i' := 3) (fun _ _ => aw_iload_n K (dOf ck_mX11_numbers rfl rfl) rfl) ?_
  refine g_callVI K [.inl _] rfl (dOf ck_mX11_numbers rfl rfl) al_OneBreath_206 rfl rfl ⟨wd_688, wd_689⟩ rfl (Nat.le_of_ble_eq_true rfl) ⟨Nat.le_of_ble_eq_true rfl, Nat.le_of_ble_eq_true rfl⟩ (fun b hb => met_Rows_isRow  hb) (fun r1 hr1 => ?_)
  refine g_if_eq K (dOf ck_mX11_numbers rfl rfl) (t := 10) (aJ_of (by decide +kernel)) (fun h2 => ?_) (fun h2 => ?_)
  · refine gl (i' := 11) (fun _ _ => aw_bip K (dOf ck_mX11_numbers rfl rfl) (v := -2) rfl) ?_
    exact g_iret K (dOf ck_mX11_numbers rfl rfl).1 rfl (Or.inl rfl) rfl
  · refine gl (i' := 6) (fun _ _ => aw_iload_n K (dOf ck_mX11_numbers rfl rfl) rfl) ?_
    refine g_if_lt K (dOf ck_mX11_numbers rfl rfl) (t := 10) (aJ_of (by decide +kernel)) (fun h3 => ?_) (fun h3 => ?_)
    · refine gl (i' := 11) (fun _ _ => aw_bip K (dOf ck_mX11_numbers rfl rfl) (v := -2) rfl) ?_
      exact g_iret K (dOf ck_mX11_numbers rfl rfl).1 rfl (Or.inl rfl) rfl
    · refine gl (i' := 8) (fun _ _ => aw_iload_n K (dOf ck_mX11_numbers rfl rfl) rfl) ?_
      refine gl (i' := 9) (fun _ _ => aw_iconst K (n := 4) (i32 _ rfl) (dOf ck_mX11_numbers rfl rfl)) ?_
      refine g_icmp_lt K (dOf ck_mX11_numbers rfl rfl) (t := 12) (aJ_of (by decide +kernel)) (fun h4 => ?_) (fun h4 => ?_)
      · refine gl (i' := 13) (fun _ _ => aw_iload_n K (dOf ck_mX11_numbers rfl rfl) rfl) ?_
        refine g_if_lt K (dOf ck_mX11_numbers rfl rfl) (t := 17) (aJ_of (by decide +kernel)) (fun h5 => ?_) (fun h5 => ?_)
        · refine gl (i' := 18) (fun _ _ => aw_bip K (dOf ck_mX11_numbers rfl rfl) (v := -3) rfl) ?_
          exact g_iret K (dOf ck_mX11_numbers rfl rfl).1 rfl (Or.inl rfl) rfl
        · refine gl (i' := 15) (fun _ _ => aw_iload_n K (dOf ck_mX11_numbers rfl rfl) rfl) ?_
          refine gl (i' := 16) (fun _ _ => aw_bip K (dOf ck_mX11_numbers rfl rfl) (v := 40) rfl) ?_
          refine g_icmp_le K (dOf ck_mX11_numbers rfl rfl) (t := 19) (aJ_of (by decide +kernel)) (fun h6 => ?_) (fun h6 => ?_)
          · refine gl (i' := 18) (fun _ _ => aw_bip K (dOf ck_mX11_numbers rfl rfl) (v := -3) rfl) ?_
            exact g_iret K (dOf ck_mX11_numbers rfl rfl).1 rfl (Or.inl rfl) rfl
          · refine gl (i' := 20) (fun _ _ => aw_aload_n K (dOf ck_mX11_numbers rfl rfl) rfl) ?_
            refine gl (i' := 21) (fun _ _ => aw_getf K (dOf ck_mX11_numbers rfl rfl) rfl rfl (Nat.le_of_ble_eq_true rfl) wd_464 (k := 4) rfl) ?_
            refine gl (i' := 22) (fun _ _ => aw_iload_n K (dOf ck_mX11_numbers rfl rfl) rfl) ?_
            refine gl (i' := 23) (fun _ _ => aw_iload_n K (dOf ck_mX11_numbers rfl rfl) rfl) ?_
            refine gl (i' := 24) (fun _ _ => aw_iload_n K (dOf ck_mX11_numbers rfl rfl) rfl) ?_
            refine g_callVM K [.inl _, .inl _, .inl _] rfl (dOf ck_mX11_numbers rfl rfl) al_OneBreath_367 rfl rfl ⟨wd_1162, wd_1163⟩ rfl (Nat.le_of_ble_eq_true rfl) ⟨Nat.le_of_ble_eq_true rfl, Nat.le_of_ble_eq_true rfl⟩ (fun b hb => met_Rows_renew  hb) (fun r7 hr7 => ?_)
            refine gl (i' := 26) (fun _ _ => aw_iconst K (n := 0) (i32 _ rfl) (dOf ck_mX11_numbers rfl rfl)) ?_
            exact g_iret K (by decide +kernel) rfl (Or.inl rfl) rfl
      · refine gl (i' := 11) (fun _ _ => aw_bip K (dOf ck_mX11_numbers rfl rfl) (v := -2) rfl) ?_
        exact g_iret K (dOf ck_mX11_numbers rfl rfl).1 rfl (Or.inl rfl) rfl
def Rows_cutTo (x0 : Int) (x1 : Int) (mm : aM) : Option Int := if x0 = 0 then (some (w8 (w32 x1))) else (if x0 = 1 then (some (w16 (w32 x1))) else (if x0 = 2 then (some (w32 x1)) else (some x1)))
set_option maxHeartbeats 4000000 in
theorem met_Rows_cutTo {l : Launch} {D : va_G} {cA : FieldType → ClassId} {ad adV : Nat → Nat} {z0 : Nat} {x0 : Int} {x1 : Int} {mm : aM}  {r : Int} (h : Rows_cutTo x0 x1 mm = some r) : aMet l D cA ad adV z0 mX5_cutTo 0 0 0 0 [.inl x0, .inr (.inl x1)] SH mm ((rL mm) r).1 SH ((rL mm) r).2 := by
  refine aMet_ofG (by decide +kernel) rfl (Nat.le_of_ble_eq_true rfl) h (fun p e s m args below meth c al0 K => ?_)
  unfold Rows_cutTo
  refine gl (i' := 1) (fun _ _ => aw_iload_n K (dOf ck_mX5_cutTo rfl rfl) rfl) ?_
  refine g_if (fun h1 => ?_) (fun h1 => ?_)
  · refine gl (fun _ _ => aw_tableIn K (dOf (n := 27) ck_mX5_cutTo rfl rfl).1 (by omega) (by omega) (off := 27) (by rw [h1]; rfl) (t := 2) (aJ_of (by decide +kernel))) ?_
    refine gl (i' := 3) (fun _ _ => aw_lload_n K (dOf ck_mX5_cutTo rfl rfl) rfl) ?_
    refine gl (i' := 4) (fun _ _ => aw_l2i K (dOf ck_mX5_cutTo rfl rfl)) ?_
    refine gl (i' := 5) (fun _ _ => aw_i2b K (dOf ck_mX5_cutTo rfl rfl)) ?_
    refine gl (i' := 6) (fun _ _ => aw_i2l K (dOf ck_mX5_cutTo rfl rfl)) ?_
    exact g_lret K (dOf ck_mX5_cutTo rfl rfl).1 rfl rfl
  · refine g_if (fun h2 => ?_) (fun h2 => ?_)
    · refine gl (fun _ _ => aw_tableIn K (dOf (n := 27) ck_mX5_cutTo rfl rfl).1 (by omega) (by omega) (off := 32) (by rw [h2]; rfl) (t := 7) (aJ_of (by decide +kernel))) ?_
      refine gl (i' := 8) (fun _ _ => aw_lload_n K (dOf ck_mX5_cutTo rfl rfl) rfl) ?_
      refine gl (i' := 9) (fun _ _ => aw_l2i K (dOf ck_mX5_cutTo rfl rfl)) ?_
      refine gl (i' := 10) (fun _ _ => aw_i2s K (dOf ck_mX5_cutTo rfl rfl)) ?_
      refine gl (i' := 11) (fun _ _ => aw_i2l K (dOf ck_mX5_cutTo rfl rfl)) ?_
      exact g_lret K (dOf ck_mX5_cutTo rfl rfl).1 rfl rfl
    · refine g_if (fun h3 => ?_) (fun h3 => ?_)
      · refine gl (fun _ _ => aw_tableIn K (dOf (n := 27) ck_mX5_cutTo rfl rfl).1 (by omega) (by omega) (off := 37) (by rw [h3]; rfl) (t := 12) (aJ_of (by decide +kernel))) ?_
        refine gl (i' := 13) (fun _ _ => aw_lload_n K (dOf ck_mX5_cutTo rfl rfl) rfl) ?_
        refine gl (i' := 14) (fun _ _ => aw_l2i K (dOf ck_mX5_cutTo rfl rfl)) ?_
        refine gl (i' := 15) (fun _ _ => aw_i2l K (dOf ck_mX5_cutTo rfl rfl)) ?_
        exact g_lret K (dOf ck_mX5_cutTo rfl rfl).1 rfl rfl
      · refine gl (fun _ _ => aw_tableOut K (dOf (n := 27) ck_mX5_cutTo rfl rfl).1 (by omega) (t := 16) (aJ_of (by decide +kernel))) ?_
        refine gl (i' := 17) (fun _ _ => aw_lload_n K (dOf ck_mX5_cutTo rfl rfl) rfl) ?_
        exact g_lret K (by decide +kernel) rfl rfl
def Rows_put (x1 : Int) (x2 : Int) (x3 : Int) (mm : aM) : Option (Int × aM) := if 0 ≤ x1 ∧ x1 < 4 then ((Rows_cutTo (mm 58 x1.toNat) x3 mm).bind fun r2 => (if 0 ≤ x2 ∧ x2 < 40 then (st1 (aup mm (53 + x1.toNat) x2.toNat r2) fun mm4 => (some (mm4 (53 + x1.toNat) x2.toNat, mm4))) else none)) else none
set_option maxHeartbeats 4000000 in
theorem met_Rows_put {l : Launch} {D : va_G} {cA : FieldType → ClassId} {ad adV : Nat → Nat} {z0 : Nat} {x1 : Int} {x2 : Int} {x3 : Int} {mm : aM}  {r : Int × aM} (h : Rows_put x1 x2 x3 mm = some r) : aMet l D cA ad adV z0 mX5_put 1 22 0 0 [.inr (.inr (.inl (some 51))), .inl x1, .inl x2, .inr (.inl x3)] SH mm (rLM r).1 SH (rLM r).2 := by
  refine aMet_ofG (by decide +kernel) rfl (Nat.le_of_ble_eq_true rfl) h (fun p e s m args below meth c al0 K => ?_)
  unfold Rows_put
  refine gl (i' := 1) (fun _ _ => aw_aload_n K (dOf ck_mX5_put rfl rfl) rfl) ?_
  refine gl (i' := 2) (fun _ _ => aw_getf K (dOf ck_mX5_put rfl rfl) rfl rfl (Nat.le_of_ble_eq_true rfl) wd_312 (k := 0) rfl) ?_
  refine gl (i' := 3) (fun _ _ => aw_iload_n K (dOf ck_mX5_put rfl rfl) rfl) ?_
  refine g_gd (fun hb1 => ?_)
  refine gl (i' := 4) (fun _ _ => aw_aald K (dOf ck_mX5_put rfl rfl) shVa hb1 (rsV_at hb1)) ?_
  refine gl (i' := 5) (fun _ _ => aw_iload_n K (dOf ck_mX5_put rfl rfl) rfl) ?_
  refine gl (i' := 6) (fun _ _ => aw_aload_n K (dOf ck_mX5_put rfl rfl) rfl) ?_
  refine gl (i' := 7) (fun _ _ => aw_getf K (dOf ck_mX5_put rfl rfl) rfl rfl (Nat.le_of_ble_eq_true rfl) wd_317 (k := 2) rfl) ?_
  refine gl (i' := 8) (fun _ _ => aw_iload_n K (dOf ck_mX5_put rfl rfl) rfl) ?_
  refine gl (i' := 9) (fun _ _ => aw_iald K (dOf ck_mX5_put rfl rfl) rfl hb1) ?_
  refine gl (i' := 10) (fun _ _ => aw_lload_n K (dOf ck_mX5_put rfl rfl) rfl) ?_
  refine g_callSL K [.inl _, .inr (.inl _)] rfl (dOf ck_mX5_put rfl rfl) al_OneBreath_Rows_29 wd_1180 rfl (Nat.le_of_ble_eq_true rfl) ⟨Nat.le_of_ble_eq_true rfl, Nat.le_of_ble_eq_true rfl⟩ (fun b hb => met_Rows_cutTo  hb) (fun r2 hr2 => ?_)
  refine g_gd (fun hb3 => ?_)
  refine g_st1 ?_
  refine gl (i' := 12) (fun _ _ => aw_last K (dOf ck_mX5_put rfl rfl) (shVr hb1) hb3) ?_
  refine gl (i' := 13) (fun _ _ => aw_aload_n K (dOf ck_mX5_put rfl rfl) rfl) ?_
  refine gl (i' := 14) (fun _ _ => aw_getf K (dOf ck_mX5_put rfl rfl) rfl rfl (Nat.le_of_ble_eq_true rfl) wd_312 (k := 0) rfl) ?_
  refine gl (i' := 15) (fun _ _ => aw_iload_n K (dOf ck_mX5_put rfl rfl) rfl) ?_
  refine gl (i' := 16) (fun _ _ => aw_aald K (dOf ck_mX5_put rfl rfl) shVa hb1 (rsV_at hb1)) ?_
  refine gl (i' := 17) (fun _ _ => aw_iload_n K (dOf ck_mX5_put rfl rfl) rfl) ?_
  refine gl (i' := 18) (fun _ _ => aw_lald K (dOf ck_mX5_put rfl rfl) (shVr hb1) hb3) ?_
  exact g_lret K (by decide +kernel) rfl rfl
def B_write (x1 : Int) (x2 : Int) (x3 : Int) (mm : aM) : Option (Int × aM) := (Rows_isRow x1 mm).bind fun r1 => (if r1 = 0 then (some ((-2), mm)) else ((Rows_isMissing x1 mm).bind fun r3 => (if r3 = 0 then (if x2 < 0 then (some ((-7), mm)) else (if 0 ≤ x1 ∧ x1 < 4 then (if x2 < (mm 57 x1.toNat) then ((Rows_put x1 x2 x3 mm).bind fun r8 => (some (r8.1, r8.2))) else (some ((-7), mm))) else none)) else (some ((-6), mm)))))
set_option maxHeartbeats 4000000 in
theorem met_B_write {l : Launch} {D : va_G} {cA : FieldType → ClassId} {ad adV : Nat → Nat} {z0 : Nat} {x1 : Int} {x2 : Int} {x3 : Int} {mm : aM}  {r : Int × aM} (h : B_write x1 x2 x3 mm = some r) : aMet l D cA ad adV z0 mX11_write 2 46 0 0 [.inr (.inr (.inl (some 0))), .inl x1, .inl x2, .inr (.inl x3)] SH mm (rLM r).1 SH (rLM r).2 := by
  refine aMet_ofG (by decide +kernel) rfl (Nat.le_of_ble_eq_true rfl) h (fun p e s m args below meth c al0 K => ?_)
  unfold B_write
  refine gl (i' := 1) (fun _ _ => aw_aload_n K (dOf ck_mX11_write rfl rfl) rfl) ?_
  refine gl (i' := 2) (fun _ _ => aw_getf K (dOf ck_mX11_write rfl rfl) rfl rfl (Nat.le_of_ble_eq_true rfl) wd_464 (k := 4) rfl) ?_
  refine gl (i' := 3) (fun _ _ => aw_iload_n K (dOf ck_mX11_write rfl rfl) rfl) ?_
  refine g_callVI K [.inl _] rfl (dOf ck_mX11_write rfl rfl) al_OneBreath_206 rfl rfl ⟨wd_688, wd_689⟩ rfl (Nat.le_of_ble_eq_true rfl) ⟨Nat.le_of_ble_eq_true rfl, Nat.le_of_ble_eq_true rfl⟩ (fun b hb => met_Rows_isRow  hb) (fun r1 hr1 => ?_)
  refine g_if_ne K (dOf ck_mX11_write rfl rfl) (t := 7) (aJ_of (by decide +kernel)) (fun h2 => ?_) (fun h2 => ?_)
  · refine gl (i' := 6) (fun _ _ => aw_ldc2 K (dOf ck_mX11_write rfl rfl) (n := -2) (by rw [show Int64.ofInt (-2) = (-2 : Int64) by decide]; exact wd_1172) (i64 _ rfl)) ?_
    exact g_lret K (dOf ck_mX11_write rfl rfl).1 rfl rfl
  · refine gl (i' := 8) (fun _ _ => aw_aload_n K (dOf ck_mX11_write rfl rfl) rfl) ?_
    refine gl (i' := 9) (fun _ _ => aw_getf K (dOf ck_mX11_write rfl rfl) rfl rfl (Nat.le_of_ble_eq_true rfl) wd_464 (k := 4) rfl) ?_
    refine gl (i' := 10) (fun _ _ => aw_iload_n K (dOf ck_mX11_write rfl rfl) rfl) ?_
    refine g_callVI K [.inl _] rfl (dOf ck_mX11_write rfl rfl) al_OneBreath_209 rfl rfl ⟨wd_692, wd_693⟩ rfl (Nat.le_of_ble_eq_true rfl) ⟨Nat.le_of_ble_eq_true rfl, Nat.le_of_ble_eq_true rfl⟩ (fun b hb => met_Rows_isMissing  hb) (fun r3 hr3 => ?_)
    refine g_if_eq K (dOf ck_mX11_write rfl rfl) (t := 14) (aJ_of (by decide +kernel)) (fun h4 => ?_) (fun h4 => ?_)
    · refine gl (i' := 15) (fun _ _ => aw_iload_n K (dOf ck_mX11_write rfl rfl) rfl) ?_
      refine g_if_lt K (dOf ck_mX11_write rfl rfl) (t := 23) (aJ_of (by decide +kernel)) (fun h5 => ?_) (fun h5 => ?_)
      · refine gl (i' := 24) (fun _ _ => aw_ldc2 K (dOf ck_mX11_write rfl rfl) (n := -7) (by rw [show Int64.ofInt (-7) = (-7 : Int64) by decide]; exact wd_1174) (i64 _ rfl)) ?_
        exact g_lret K (dOf ck_mX11_write rfl rfl).1 rfl rfl
      · refine gl (i' := 17) (fun _ _ => aw_iload_n K (dOf ck_mX11_write rfl rfl) rfl) ?_
        refine gl (i' := 18) (fun _ _ => aw_aload_n K (dOf ck_mX11_write rfl rfl) rfl) ?_
        refine gl (i' := 19) (fun _ _ => aw_getf K (dOf ck_mX11_write rfl rfl) rfl rfl (Nat.le_of_ble_eq_true rfl) wd_464 (k := 4) rfl) ?_
        refine gl (i' := 20) (fun _ _ => aw_getf K (dOf ck_mX11_write rfl rfl) rfl rfl (Nat.le_of_ble_eq_true rfl) wd_316 (k := 1) rfl) ?_
        refine gl (i' := 21) (fun _ _ => aw_iload_n K (dOf ck_mX11_write rfl rfl) rfl) ?_
        refine g_gd (fun hb6 => ?_)
        refine gl (i' := 22) (fun _ _ => aw_iald K (dOf ck_mX11_write rfl rfl) rfl hb6) ?_
        refine g_icmp_lt K (dOf ck_mX11_write rfl rfl) (t := 25) (aJ_of (by decide +kernel)) (fun h7 => ?_) (fun h7 => ?_)
        · refine gl (i' := 26) (fun _ _ => aw_aload_n K (dOf ck_mX11_write rfl rfl) rfl) ?_
          refine gl (i' := 27) (fun _ _ => aw_getf K (dOf ck_mX11_write rfl rfl) rfl rfl (Nat.le_of_ble_eq_true rfl) wd_464 (k := 4) rfl) ?_
          refine gl (i' := 28) (fun _ _ => aw_iload_n K (dOf ck_mX11_write rfl rfl) rfl) ?_
          refine gl (i' := 29) (fun _ _ => aw_iload_n K (dOf ck_mX11_write rfl rfl) rfl) ?_
          refine gl (i' := 30) (fun _ _ => aw_lload_n K (dOf ck_mX11_write rfl rfl) rfl) ?_
          refine g_callVLM K [.inl _, .inl _, .inr (.inl _)] rfl (dOf ck_mX11_write rfl rfl) al_OneBreath_380 rfl rfl ⟨wd_1176, wd_1177⟩ rfl (Nat.le_of_ble_eq_true rfl) ⟨Nat.le_of_ble_eq_true rfl, Nat.le_of_ble_eq_true rfl⟩ (fun b hb => met_Rows_put  hb) (fun r8 hr8 => ?_)
          exact g_lret K (by decide +kernel) rfl rfl
        · refine gl (i' := 24) (fun _ _ => aw_ldc2 K (dOf ck_mX11_write rfl rfl) (n := -7) (by rw [show Int64.ofInt (-7) = (-7 : Int64) by decide]; exact wd_1174) (i64 _ rfl)) ?_
          exact g_lret K (dOf ck_mX11_write rfl rfl).1 rfl rfl
    · refine gl (i' := 13) (fun _ _ => aw_ldc2 K (dOf ck_mX11_write rfl rfl) (n := -6) (by rw [show Int64.ofInt (-6) = (-6 : Int64) by decide]; exact wd_1173) (i64 _ rfl)) ?_
      exact g_lret K (dOf ck_mX11_write rfl rfl).1 rfl rfl
def B_copy_39 (x2 : Int) : Nat → Int → aM → Option (Int × aM)
  | 0, _, _ => none
  | n + 1, x3, mm => if x3 < (mm 61 8) then (if 0 ≤ x3 ∧ x3 < 60 then ((Rows_put x2 x3 (mm 65 x3.toNat) mm).bind fun r13 => (B_copy_39 x2 n (w32 (x3 + 1)) r13.2)) else none) else (some (mm 61 8, mm))
set_option maxHeartbeats 4000000 in
theorem lk_B_copy_39 {p : Program} {l : Launch} {e : Env} {s : State} {m : MethodId} {args : Array Value} {below : List Frame} {meth : Method} {c : Code} {D : va_G} {cA : FieldType → ClassId} {ad adV : Nat → Nat} {z0 : Nat} {al0 : List Nat} (K : aK p s m args meth c mX11_copy D cA ad adV z0) (x2 : Int)  : ∀ (n : Nat) (x3 : Int) (mm : aM), aG p l e { frames := 6, cells := 0, slots := 0, locals := 143 } s m args below meth c D cA ad z0 mX11_copy al0 rIM (B_copy_39 x2 n x3 mm) 39 [(0, .inr (.inr (.inl (some 0)))), (2, .inl x2), (3, .inl x3)] [] mm := by
  intro n
  induction n with
  | zero => intro x3 mm; exact g_none
  | succ n ih =>
    intro x3 mm
    rw [B_copy_39]
    refine gl (i' := 40) (fun _ _ => aw_iload_n K (dOf ck_mX11_copy rfl rfl) rfl) ?_
    refine gl (i' := 41) (fun _ _ => aw_aload_n K (dOf ck_mX11_copy rfl rfl) rfl) ?_
    refine gl (i' := 42) (fun _ _ => aw_getf K (dOf ck_mX11_copy rfl rfl) rfl rfl (Nat.le_of_ble_eq_true rfl) wd_466 (k := 6) rfl) ?_
    refine gl (i' := 43) (fun _ _ => aw_getf K (dOf ck_mX11_copy rfl rfl) rfl rfl (Nat.le_of_ble_eq_true rfl) wd_354 (k := 8) rfl) ?_
    refine g_icmp_ge K (dOf ck_mX11_copy rfl rfl) (t := 58) (aJ_of (by decide +kernel)) (fun h11 => ?_) (fun h11 => ?_)
    · refine gl (i' := 45) (fun _ _ => aw_aload_n K (dOf ck_mX11_copy rfl rfl) rfl) ?_
      refine gl (i' := 46) (fun _ _ => aw_getf K (dOf ck_mX11_copy rfl rfl) rfl rfl (Nat.le_of_ble_eq_true rfl) wd_464 (k := 4) rfl) ?_
      refine gl (i' := 47) (fun _ _ => aw_iload_n K (dOf ck_mX11_copy rfl rfl) rfl) ?_
      refine gl (i' := 48) (fun _ _ => aw_iload_n K (dOf ck_mX11_copy rfl rfl) rfl) ?_
      refine gl (i' := 49) (fun _ _ => aw_aload_n K (dOf ck_mX11_copy rfl rfl) rfl) ?_
      refine gl (i' := 50) (fun _ _ => aw_getf K (dOf ck_mX11_copy rfl rfl) rfl rfl (Nat.le_of_ble_eq_true rfl) wd_466 (k := 6) rfl) ?_
      refine gl (i' := 51) (fun _ _ => aw_getf K (dOf ck_mX11_copy rfl rfl) rfl rfl (Nat.le_of_ble_eq_true rfl) wd_350 (k := 6) rfl) ?_
      refine gl (i' := 52) (fun _ _ => aw_iload_n K (dOf ck_mX11_copy rfl rfl) rfl) ?_
      refine g_gd (fun hb12 => ?_)
      refine gl (i' := 53) (fun _ _ => aw_iald K (dOf ck_mX11_copy rfl rfl) rfl hb12) ?_
      refine gl (i' := 54) (fun _ _ => aw_i2l K (dOf ck_mX11_copy rfl rfl)) ?_
      refine g_callVLM K [.inl _, .inl _, .inr (.inl _)] rfl (dOf ck_mX11_copy rfl rfl) al_OneBreath_380 rfl rfl ⟨wd_1176, wd_1177⟩ rfl (Nat.le_of_ble_eq_true rfl) ⟨Nat.le_of_ble_eq_true rfl, Nat.le_of_ble_eq_true rfl⟩ (fun b hb => met_Rows_put  hb) (fun r13 hr13 => ?_)
      refine gl (i' := 56) (fun _ _ => aw_pop2_2 K rfl (dOf ck_mX11_copy rfl rfl)) ?_
      refine gl (i' := 57) (fun _ _ => aw_iinc K (dOf ck_mX11_copy rfl rfl) (Nat.le_of_ble_eq_true rfl) rfl) ?_
      refine g_lv (lv' := [(3, .inl _), (0, .inr (.inr (.inl (some _)))), (2, .inl _)]) rfl ?_
      refine g_goto K (dOf ck_mX11_copy rfl rfl).1 (t := 39) (aJ_of (by decide +kernel)) ?_
      refine g_sub [1, 2, 0] rfl ?_
      exact ih _ _
    · refine gl (i' := 59) (fun _ _ => aw_aload_n K (dOf ck_mX11_copy rfl rfl) rfl) ?_
      refine gl (i' := 60) (fun _ _ => aw_getf K (dOf ck_mX11_copy rfl rfl) rfl rfl (Nat.le_of_ble_eq_true rfl) wd_466 (k := 6) rfl) ?_
      refine gl (i' := 61) (fun _ _ => aw_getf K (dOf ck_mX11_copy rfl rfl) rfl rfl (Nat.le_of_ble_eq_true rfl) wd_354 (k := 8) rfl) ?_
      exact g_iret K (by decide +kernel) rfl (Or.inl rfl) rfl
def B_copy (x1 : Int) (x2 : Int) (mm : aM) : Option (Int × aM) := (B_isCut x1 mm).bind fun r1 => (if r1 = 0 then (some ((-2), mm)) else ((Rows_isRow x2 mm).bind fun r3 => (if r3 = 0 then (some ((-2), mm)) else ((B_cutBreath x1 mm).bind fun r5 => (if (r5 61 8) = 0 then (some ((-5), r5)) else ((Rows_isMissing x2 r5).bind fun r7 => (if r7 = 0 then (if 0 ≤ x2 ∧ x2 < 4 then (if (r5 57 x2.toNat) < (r5 61 8) then (some ((-7), r5)) else (B_copy_39 x2 FU 0 r5)) else none) else (some ((-6), r5)))))))))
set_option maxHeartbeats 4000000 in
theorem met_B_copy {l : Launch} {D : va_G} {cA : FieldType → ClassId} {ad adV : Nat → Nat} {z0 : Nat} {x1 : Int} {x2 : Int} {mm : aM}  {r : Int × aM} (h : B_copy x1 x2 mm = some r) : aMet l D cA ad adV z0 mX11_copy 6 143 0 0 [.inr (.inr (.inl (some 0))), .inl x1, .inl x2] SH mm (rIM r).1 SH (rIM r).2 := by
  refine aMet_ofG (by decide +kernel) rfl (Nat.le_of_ble_eq_true rfl) h (fun p e s m args below meth c al0 K => ?_)
  unfold B_copy
  refine gl (i' := 1) (fun _ _ => aw_iload_n K (dOf ck_mX11_copy rfl rfl) rfl) ?_
  refine g_callSI K [.inl _] rfl (dOf ck_mX11_copy rfl rfl) al_OneBreath_243 wd_760 rfl (Nat.le_of_ble_eq_true rfl) ⟨Nat.le_of_ble_eq_true rfl, Nat.le_of_ble_eq_true rfl⟩ (fun b hb => met_B_isCut  hb) (fun r1 hr1 => ?_)
  refine g_if_eq K (dOf ck_mX11_copy rfl rfl) (t := 8) (aJ_of (by decide +kernel)) (fun h2 => ?_) (fun h2 => ?_)
  · refine gl (i' := 9) (fun _ _ => aw_bip K (dOf ck_mX11_copy rfl rfl) (v := -2) rfl) ?_
    exact g_iret K (dOf ck_mX11_copy rfl rfl).1 rfl (Or.inl rfl) rfl
  · refine gl (i' := 4) (fun _ _ => aw_aload_n K (dOf ck_mX11_copy rfl rfl) rfl) ?_
    refine gl (i' := 5) (fun _ _ => aw_getf K (dOf ck_mX11_copy rfl rfl) rfl rfl (Nat.le_of_ble_eq_true rfl) wd_464 (k := 4) rfl) ?_
    refine gl (i' := 6) (fun _ _ => aw_iload_n K (dOf ck_mX11_copy rfl rfl) rfl) ?_
    refine g_callVI K [.inl _] rfl (dOf ck_mX11_copy rfl rfl) al_OneBreath_206 rfl rfl ⟨wd_688, wd_689⟩ rfl (Nat.le_of_ble_eq_true rfl) ⟨Nat.le_of_ble_eq_true rfl, Nat.le_of_ble_eq_true rfl⟩ (fun b hb => met_Rows_isRow  hb) (fun r3 hr3 => ?_)
    refine g_if_ne K (dOf ck_mX11_copy rfl rfl) (t := 10) (aJ_of (by decide +kernel)) (fun h4 => ?_) (fun h4 => ?_)
    · refine gl (i' := 9) (fun _ _ => aw_bip K (dOf ck_mX11_copy rfl rfl) (v := -2) rfl) ?_
      exact g_iret K (dOf ck_mX11_copy rfl rfl).1 rfl (Or.inl rfl) rfl
    · refine gl (i' := 11) (fun _ _ => aw_aload_n K (dOf ck_mX11_copy rfl rfl) rfl) ?_
      refine gl (i' := 12) (fun _ _ => aw_iload_n K (dOf ck_mX11_copy rfl rfl) rfl) ?_
      refine g_callVM K [.inl _] rfl (dOf ck_mX11_copy rfl rfl) al_OneBreath_246 rfl rfl ⟨wd_763, wd_21⟩ rfl (Nat.le_of_ble_eq_true rfl) ⟨Nat.le_of_ble_eq_true rfl, Nat.le_of_ble_eq_true rfl⟩ (fun b hb => met_B_cutBreath  hb) (fun r5 hr5 => ?_)
      refine gl (i' := 14) (fun _ _ => aw_aload_n K (dOf ck_mX11_copy rfl rfl) rfl) ?_
      refine gl (i' := 15) (fun _ _ => aw_getf K (dOf ck_mX11_copy rfl rfl) rfl rfl (Nat.le_of_ble_eq_true rfl) wd_466 (k := 6) rfl) ?_
      refine gl (i' := 16) (fun _ _ => aw_getf K (dOf ck_mX11_copy rfl rfl) rfl rfl (Nat.le_of_ble_eq_true rfl) wd_354 (k := 8) rfl) ?_
      refine g_if_ne K (dOf ck_mX11_copy rfl rfl) (t := 19) (aJ_of (by decide +kernel)) (fun h6 => ?_) (fun h6 => ?_)
      · refine gl (i' := 18) (fun _ _ => aw_bip K (dOf ck_mX11_copy rfl rfl) (v := -5) rfl) ?_
        exact g_iret K (dOf ck_mX11_copy rfl rfl).1 rfl (Or.inl rfl) rfl
      · refine gl (i' := 20) (fun _ _ => aw_aload_n K (dOf ck_mX11_copy rfl rfl) rfl) ?_
        refine gl (i' := 21) (fun _ _ => aw_getf K (dOf ck_mX11_copy rfl rfl) rfl rfl (Nat.le_of_ble_eq_true rfl) wd_464 (k := 4) rfl) ?_
        refine gl (i' := 22) (fun _ _ => aw_iload_n K (dOf ck_mX11_copy rfl rfl) rfl) ?_
        refine g_callVI K [.inl _] rfl (dOf ck_mX11_copy rfl rfl) al_OneBreath_209 rfl rfl ⟨wd_692, wd_693⟩ rfl (Nat.le_of_ble_eq_true rfl) ⟨Nat.le_of_ble_eq_true rfl, Nat.le_of_ble_eq_true rfl⟩ (fun b hb => met_Rows_isMissing  hb) (fun r7 hr7 => ?_)
        refine g_if_eq K (dOf ck_mX11_copy rfl rfl) (t := 26) (aJ_of (by decide +kernel)) (fun h8 => ?_) (fun h8 => ?_)
        · refine gl (i' := 27) (fun _ _ => aw_aload_n K (dOf ck_mX11_copy rfl rfl) rfl) ?_
          refine gl (i' := 28) (fun _ _ => aw_getf K (dOf ck_mX11_copy rfl rfl) rfl rfl (Nat.le_of_ble_eq_true rfl) wd_466 (k := 6) rfl) ?_
          refine gl (i' := 29) (fun _ _ => aw_getf K (dOf ck_mX11_copy rfl rfl) rfl rfl (Nat.le_of_ble_eq_true rfl) wd_354 (k := 8) rfl) ?_
          refine gl (i' := 30) (fun _ _ => aw_aload_n K (dOf ck_mX11_copy rfl rfl) rfl) ?_
          refine gl (i' := 31) (fun _ _ => aw_getf K (dOf ck_mX11_copy rfl rfl) rfl rfl (Nat.le_of_ble_eq_true rfl) wd_464 (k := 4) rfl) ?_
          refine gl (i' := 32) (fun _ _ => aw_getf K (dOf ck_mX11_copy rfl rfl) rfl rfl (Nat.le_of_ble_eq_true rfl) wd_316 (k := 1) rfl) ?_
          refine gl (i' := 33) (fun _ _ => aw_iload_n K (dOf ck_mX11_copy rfl rfl) rfl) ?_
          refine g_gd (fun hb9 => ?_)
          refine gl (i' := 34) (fun _ _ => aw_iald K (dOf ck_mX11_copy rfl rfl) rfl hb9) ?_
          refine g_icmp_le K (dOf ck_mX11_copy rfl rfl) (t := 37) (aJ_of (by decide +kernel)) (fun h10 => ?_) (fun h10 => ?_)
          · refine gl (i' := 36) (fun _ _ => aw_bip K (dOf ck_mX11_copy rfl rfl) (v := -7) rfl) ?_
            exact g_iret K (dOf ck_mX11_copy rfl rfl).1 rfl (Or.inl rfl) rfl
          · refine gl (i' := 38) (fun _ _ => aw_iconst K (n := 0) (i32 _ rfl) (dOf ck_mX11_copy rfl rfl)) ?_
            refine gl (i' := 39) (fun _ _ => aw_istore_n K (dOf ck_mX11_copy rfl rfl) (Nat.le_of_ble_eq_true rfl)) ?_
            refine g_lv (lv' := [(3, .inl _), (0, .inr (.inr (.inl (some _)))), (1, .inl _), (2, .inl _)]) rfl ?_
            refine g_sub [1, 3, 0] rfl ?_
            exact lk_B_copy_39 K _ FU _ _
        · refine gl (i' := 25) (fun _ _ => aw_bip K (dOf ck_mX11_copy rfl rfl) (v := -6) rfl) ?_
          exact g_iret K (dOf ck_mX11_copy rfl rfl).1 rfl (Or.inl rfl) rfl
def B_image (x1 : Int) (mm : aM) : Option (Int × aM) := if x1 < 0 then (some ((-2), mm)) else (if x1 < 2 then (if 0 ≤ x1 ∧ x1 < 2 then ((Tongue_become (128 + 24 * x1.toNat) 25 mm).bind fun r4 => ((Sounds_become (150 + 24 * x1.toNat) 47 r4).bind fun r5 => (st1 (aup r5 127 x1.toNat 1) fun mm6 => (some (0, mm6))))) else none) else (some ((-2), mm)))
set_option maxHeartbeats 4000000 in
theorem met_B_image {l : Launch} {D : va_G} {cA : FieldType → ClassId} {ad adV : Nat → Nat} {z0 : Nat} {x1 : Int} {mm : aM}  {r : Int × aM} (h : B_image x1 mm = some r) : aMet l D cA ad adV z0 mX11_image 2 48 0 0 [.inr (.inr (.inl (some 0))), .inl x1] SH mm (rIM r).1 SH (rIM r).2 := by
  refine aMet_ofG (by decide +kernel) rfl (Nat.le_of_ble_eq_true rfl) h (fun p e s m args below meth c al0 K => ?_)
  unfold B_image
  refine gl (i' := 1) (fun _ _ => aw_iload_n K (dOf ck_mX11_image rfl rfl) rfl) ?_
  refine g_if_lt K (dOf ck_mX11_image rfl rfl) (t := 5) (aJ_of (by decide +kernel)) (fun h1 => ?_) (fun h1 => ?_)
  · refine gl (i' := 6) (fun _ _ => aw_bip K (dOf ck_mX11_image rfl rfl) (v := -2) rfl) ?_
    exact g_iret K (dOf ck_mX11_image rfl rfl).1 rfl (Or.inl rfl) rfl
  · refine gl (i' := 3) (fun _ _ => aw_iload_n K (dOf ck_mX11_image rfl rfl) rfl) ?_
    refine gl (i' := 4) (fun _ _ => aw_iconst K (n := 2) (i32 _ rfl) (dOf ck_mX11_image rfl rfl)) ?_
    refine g_icmp_lt K (dOf ck_mX11_image rfl rfl) (t := 7) (aJ_of (by decide +kernel)) (fun h2 => ?_) (fun h2 => ?_)
    · refine gl (i' := 8) (fun _ _ => aw_aload_n K (dOf ck_mX11_image rfl rfl) rfl) ?_
      refine gl (i' := 9) (fun _ _ => aw_getf K (dOf ck_mX11_image rfl rfl) rfl rfl (Nat.le_of_ble_eq_true rfl) wd_472 (k := 12) rfl) ?_
      refine gl (i' := 10) (fun _ _ => aw_iload_n K (dOf ck_mX11_image rfl rfl) rfl) ?_
      refine g_gd (fun hb3 => ?_)
      refine gl (i' := 11) (fun _ _ => aw_aald K (dOf ck_mX11_image rfl rfl) shMa hb3 (rsM_at hb3)) ?_
      refine gl (i' := 12) (fun _ _ => aw_aload_n K (dOf ck_mX11_image rfl rfl) rfl) ?_
      refine gl (i' := 13) (fun _ _ => aw_getf K (dOf ck_mX11_image rfl rfl) rfl rfl (Nat.le_of_ble_eq_true rfl) wd_461 (k := 1) rfl) ?_
      refine g_callVM K [.inr (.inr (.inl (some _)))] rfl (dOf ck_mX11_image rfl rfl) al_OneBreath_124 (shT_0 (okT_M hb3)) rfl ⟨wd_606, wd_607⟩ rfl (Nat.le_of_ble_eq_true rfl) ⟨Nat.le_of_ble_eq_true rfl, Nat.le_of_ble_eq_true rfl⟩ (fun b hb => met_Tongue_become (okT_M hb3) (by unfold okT; omega) hb) (fun r4 hr4 => ?_)
      refine gl (i' := 15) (fun _ _ => aw_aload_n K (dOf ck_mX11_image rfl rfl) rfl) ?_
      refine gl (i' := 16) (fun _ _ => aw_getf K (dOf ck_mX11_image rfl rfl) rfl rfl (Nat.le_of_ble_eq_true rfl) wd_473 (k := 13) rfl) ?_
      refine gl (i' := 17) (fun _ _ => aw_iload_n K (dOf ck_mX11_image rfl rfl) rfl) ?_
      refine gl (i' := 18) (fun _ _ => aw_aald K (dOf ck_mX11_image rfl rfl) shNa hb3 (rsN_at hb3)) ?_
      refine gl (i' := 19) (fun _ _ => aw_aload_n K (dOf ck_mX11_image rfl rfl) rfl) ?_
      refine gl (i' := 20) (fun _ _ => aw_getf K (dOf ck_mX11_image rfl rfl) rfl rfl (Nat.le_of_ble_eq_true rfl) wd_462 (k := 2) rfl) ?_
      refine g_callVM K [.inr (.inr (.inl (some _)))] rfl (dOf ck_mX11_image rfl rfl) al_OneBreath_233 (shS_0 (okS_N hb3)) rfl ⟨wd_722, wd_723⟩ rfl (Nat.le_of_ble_eq_true rfl) ⟨Nat.le_of_ble_eq_true rfl, Nat.le_of_ble_eq_true rfl⟩ (fun b hb => met_Sounds_become (okS_N hb3) (by unfold okS; omega) hb) (fun r5 hr5 => ?_)
      refine gl (i' := 22) (fun _ _ => aw_aload_n K (dOf ck_mX11_image rfl rfl) rfl) ?_
      refine gl (i' := 23) (fun _ _ => aw_getf K (dOf ck_mX11_image rfl rfl) rfl rfl (Nat.le_of_ble_eq_true rfl) wd_474 (k := 14) rfl) ?_
      refine gl (i' := 24) (fun _ _ => aw_iload_n K (dOf ck_mX11_image rfl rfl) rfl) ?_
      refine gl (i' := 25) (fun _ _ => aw_iconst K (n := 1) (i32 _ rfl) (dOf ck_mX11_image rfl rfl)) ?_
      refine g_st1 ?_
      refine gl (i' := 26) (fun _ _ => aw_zast K (dOf ck_mX11_image rfl rfl) rfl hb3 (Or.inr rfl)) ?_
      refine gl (i' := 27) (fun _ _ => aw_iconst K (n := 0) (i32 _ rfl) (dOf ck_mX11_image rfl rfl)) ?_
      exact g_iret K (by decide +kernel) rfl (Or.inl rfl) rfl
    · refine gl (i' := 6) (fun _ _ => aw_bip K (dOf ck_mX11_image rfl rfl) (v := -2) rfl) ?_
      exact g_iret K (dOf ck_mX11_image rfl rfl).1 rfl (Or.inl rfl) rfl
def B_restore (x1 : Int) (mm : aM) : Option (Int × aM) := if x1 < 0 then (some ((-2), mm)) else (if x1 < 2 then (if 0 ≤ x1 ∧ x1 < 2 then (if (mm 127 x1.toNat) = 0 then (some ((-5), mm)) else ((Tongue_become 25 (128 + 24 * x1.toNat) mm).bind fun r5 => ((Sounds_become 47 (150 + 24 * x1.toNat) r5).bind fun r6 => ((B_forgetTongue r6).bind fun r7 => (some (0, r7)))))) else none) else (some ((-2), mm)))
set_option maxHeartbeats 4000000 in
theorem met_B_restore {l : Launch} {D : va_G} {cA : FieldType → ClassId} {ad adV : Nat → Nat} {z0 : Nat} {x1 : Int} {mm : aM}  {r : Int × aM} (h : B_restore x1 mm = some r) : aMet l D cA ad adV z0 mX11_restore 3 64 0 0 [.inr (.inr (.inl (some 0))), .inl x1] SH mm (rIM r).1 SH (rIM r).2 := by
  refine aMet_ofG (by decide +kernel) rfl (Nat.le_of_ble_eq_true rfl) h (fun p e s m args below meth c al0 K => ?_)
  unfold B_restore
  refine gl (i' := 1) (fun _ _ => aw_iload_n K (dOf ck_mX11_restore rfl rfl) rfl) ?_
  refine g_if_lt K (dOf ck_mX11_restore rfl rfl) (t := 5) (aJ_of (by decide +kernel)) (fun h1 => ?_) (fun h1 => ?_)
  · refine gl (i' := 6) (fun _ _ => aw_bip K (dOf ck_mX11_restore rfl rfl) (v := -2) rfl) ?_
    exact g_iret K (dOf ck_mX11_restore rfl rfl).1 rfl (Or.inl rfl) rfl
  · refine gl (i' := 3) (fun _ _ => aw_iload_n K (dOf ck_mX11_restore rfl rfl) rfl) ?_
    refine gl (i' := 4) (fun _ _ => aw_iconst K (n := 2) (i32 _ rfl) (dOf ck_mX11_restore rfl rfl)) ?_
    refine g_icmp_lt K (dOf ck_mX11_restore rfl rfl) (t := 7) (aJ_of (by decide +kernel)) (fun h2 => ?_) (fun h2 => ?_)
    · refine gl (i' := 8) (fun _ _ => aw_aload_n K (dOf ck_mX11_restore rfl rfl) rfl) ?_
      refine gl (i' := 9) (fun _ _ => aw_getf K (dOf ck_mX11_restore rfl rfl) rfl rfl (Nat.le_of_ble_eq_true rfl) wd_474 (k := 14) rfl) ?_
      refine gl (i' := 10) (fun _ _ => aw_iload_n K (dOf ck_mX11_restore rfl rfl) rfl) ?_
      refine g_gd (fun hb3 => ?_)
      refine gl (i' := 11) (fun _ _ => aw_zald K (dOf ck_mX11_restore rfl rfl) rfl hb3) ?_
      refine g_if_ne K (dOf ck_mX11_restore rfl rfl) (t := 14) (aJ_of (by decide +kernel)) (fun h4 => ?_) (fun h4 => ?_)
      · refine gl (i' := 13) (fun _ _ => aw_bip K (dOf ck_mX11_restore rfl rfl) (v := -5) rfl) ?_
        exact g_iret K (dOf ck_mX11_restore rfl rfl).1 rfl (Or.inl rfl) rfl
      · refine gl (i' := 15) (fun _ _ => aw_aload_n K (dOf ck_mX11_restore rfl rfl) rfl) ?_
        refine gl (i' := 16) (fun _ _ => aw_getf K (dOf ck_mX11_restore rfl rfl) rfl rfl (Nat.le_of_ble_eq_true rfl) wd_461 (k := 1) rfl) ?_
        refine gl (i' := 17) (fun _ _ => aw_aload_n K (dOf ck_mX11_restore rfl rfl) rfl) ?_
        refine gl (i' := 18) (fun _ _ => aw_getf K (dOf ck_mX11_restore rfl rfl) rfl rfl (Nat.le_of_ble_eq_true rfl) wd_472 (k := 12) rfl) ?_
        refine gl (i' := 19) (fun _ _ => aw_iload_n K (dOf ck_mX11_restore rfl rfl) rfl) ?_
        refine gl (i' := 20) (fun _ _ => aw_aald K (dOf ck_mX11_restore rfl rfl) shMa hb3 (rsM_at hb3)) ?_
        refine g_callVM K [.inr (.inr (.inl (some _)))] rfl (dOf ck_mX11_restore rfl rfl) al_OneBreath_124 rfl rfl ⟨wd_606, wd_607⟩ rfl (Nat.le_of_ble_eq_true rfl) ⟨Nat.le_of_ble_eq_true rfl, Nat.le_of_ble_eq_true rfl⟩ (fun b hb => met_Tongue_become (by unfold okT; omega) (okT_M hb3) hb) (fun r5 hr5 => ?_)
        refine gl (i' := 22) (fun _ _ => aw_aload_n K (dOf ck_mX11_restore rfl rfl) rfl) ?_
        refine gl (i' := 23) (fun _ _ => aw_getf K (dOf ck_mX11_restore rfl rfl) rfl rfl (Nat.le_of_ble_eq_true rfl) wd_462 (k := 2) rfl) ?_
        refine gl (i' := 24) (fun _ _ => aw_aload_n K (dOf ck_mX11_restore rfl rfl) rfl) ?_
        refine gl (i' := 25) (fun _ _ => aw_getf K (dOf ck_mX11_restore rfl rfl) rfl rfl (Nat.le_of_ble_eq_true rfl) wd_473 (k := 13) rfl) ?_
        refine gl (i' := 26) (fun _ _ => aw_iload_n K (dOf ck_mX11_restore rfl rfl) rfl) ?_
        refine gl (i' := 27) (fun _ _ => aw_aald K (dOf ck_mX11_restore rfl rfl) shNa hb3 (rsN_at hb3)) ?_
        refine g_callVM K [.inr (.inr (.inl (some _)))] rfl (dOf ck_mX11_restore rfl rfl) al_OneBreath_233 rfl rfl ⟨wd_722, wd_723⟩ rfl (Nat.le_of_ble_eq_true rfl) ⟨Nat.le_of_ble_eq_true rfl, Nat.le_of_ble_eq_true rfl⟩ (fun b hb => met_Sounds_become (by unfold okS; omega) (okS_N hb3) hb) (fun r6 hr6 => ?_)
        refine gl (i' := 29) (fun _ _ => aw_aload_n K (dOf ck_mX11_restore rfl rfl) rfl) ?_
        refine g_callVM K [] rfl (dOf ck_mX11_restore rfl rfl) al_OneBreath_130 rfl rfl ⟨wd_613, wd_17⟩ rfl (Nat.le_of_ble_eq_true rfl) ⟨Nat.le_of_ble_eq_true rfl, Nat.le_of_ble_eq_true rfl⟩ (fun b hb => met_B_forgetTongue  hb) (fun r7 hr7 => ?_)
        refine gl (i' := 31) (fun _ _ => aw_iconst K (n := 0) (i32 _ rfl) (dOf ck_mX11_restore rfl rfl)) ?_
        exact g_iret K (by decide +kernel) rfl (Or.inl rfl) rfl
    · refine gl (i' := 6) (fun _ _ => aw_bip K (dOf ck_mX11_restore rfl rfl) (v := -2) rfl) ?_
      exact g_iret K (dOf ck_mX11_restore rfl rfl).1 rfl (Or.inl rfl) rfl
def B_count (x1 : Int) (mm : aM) : Option Int := if x1 = 0 then (some (mm 25 0)) else (if x1 = 1 then (some (mm 25 1)) else (if x1 = 2 then (some (mm 25 2)) else (if x1 = 3 then (some (mm 25 3)) else (if x1 = 4 then (some (mm 47 1)) else (if x1 = 5 then (some (mm 1 1)) else (some (-1)))))))
set_option maxHeartbeats 4000000 in
theorem met_B_count {l : Launch} {D : va_G} {cA : FieldType → ClassId} {ad adV : Nat → Nat} {z0 : Nat} {x1 : Int} {mm : aM}  {r : Int} (h : B_count x1 mm = some r) : aMet l D cA ad adV z0 mX11_count 0 0 0 0 [.inr (.inr (.inl (some 0))), .inl x1] SH mm ((rI mm) r).1 SH ((rI mm) r).2 := by
  refine aMet_ofG (by decide +kernel) rfl (Nat.le_of_ble_eq_true rfl) h (fun p e s m args below meth c al0 K => ?_)
  unfold B_count
  refine gl (i' := 1) (fun _ _ => aw_iload_n K (dOf ck_mX11_count rfl rfl) rfl) ?_
  refine g_if (fun h1 => ?_) (fun h1 => ?_)
  · refine gl (fun _ _ => aw_tableIn K (dOf (n := 39) ck_mX11_count rfl rfl).1 (by omega) (by omega) (off := 39) (by rw [h1]; rfl) (t := 2) (aJ_of (by decide +kernel))) ?_
    refine gl (i' := 3) (fun _ _ => aw_aload_n K (dOf ck_mX11_count rfl rfl) rfl) ?_
    refine gl (i' := 4) (fun _ _ => aw_getf K (dOf ck_mX11_count rfl rfl) rfl rfl (Nat.le_of_ble_eq_true rfl) wd_461 (k := 1) rfl) ?_
    refine gl (i' := 5) (fun _ _ => aw_getf K (dOf ck_mX11_count rfl rfl) rfl rfl (Nat.le_of_ble_eq_true rfl) wd_189 (k := 0) rfl) ?_
    exact g_iret K (dOf ck_mX11_count rfl rfl).1 rfl (Or.inl rfl) rfl
  · refine g_if (fun h2 => ?_) (fun h2 => ?_)
    · refine gl (fun _ _ => aw_tableIn K (dOf (n := 39) ck_mX11_count rfl rfl).1 (by omega) (by omega) (off := 47) (by rw [h2]; rfl) (t := 6) (aJ_of (by decide +kernel))) ?_
      refine gl (i' := 7) (fun _ _ => aw_aload_n K (dOf ck_mX11_count rfl rfl) rfl) ?_
      refine gl (i' := 8) (fun _ _ => aw_getf K (dOf ck_mX11_count rfl rfl) rfl rfl (Nat.le_of_ble_eq_true rfl) wd_461 (k := 1) rfl) ?_
      refine gl (i' := 9) (fun _ _ => aw_getf K (dOf ck_mX11_count rfl rfl) rfl rfl (Nat.le_of_ble_eq_true rfl) wd_193 (k := 1) rfl) ?_
      exact g_iret K (dOf ck_mX11_count rfl rfl).1 rfl (Or.inl rfl) rfl
    · refine g_if (fun h3 => ?_) (fun h3 => ?_)
      · refine gl (fun _ _ => aw_tableIn K (dOf (n := 39) ck_mX11_count rfl rfl).1 (by omega) (by omega) (off := 55) (by rw [h3]; rfl) (t := 10) (aJ_of (by decide +kernel))) ?_
        refine gl (i' := 11) (fun _ _ => aw_aload_n K (dOf ck_mX11_count rfl rfl) rfl) ?_
        refine gl (i' := 12) (fun _ _ => aw_getf K (dOf ck_mX11_count rfl rfl) rfl rfl (Nat.le_of_ble_eq_true rfl) wd_461 (k := 1) rfl) ?_
        refine gl (i' := 13) (fun _ _ => aw_getf K (dOf ck_mX11_count rfl rfl) rfl rfl (Nat.le_of_ble_eq_true rfl) wd_202 (k := 2) rfl) ?_
        exact g_iret K (dOf ck_mX11_count rfl rfl).1 rfl (Or.inl rfl) rfl
      · refine g_if (fun h4 => ?_) (fun h4 => ?_)
        · refine gl (fun _ _ => aw_tableIn K (dOf (n := 39) ck_mX11_count rfl rfl).1 (by omega) (by omega) (off := 63) (by rw [h4]; rfl) (t := 14) (aJ_of (by decide +kernel))) ?_
          refine gl (i' := 15) (fun _ _ => aw_aload_n K (dOf ck_mX11_count rfl rfl) rfl) ?_
          refine gl (i' := 16) (fun _ _ => aw_getf K (dOf ck_mX11_count rfl rfl) rfl rfl (Nat.le_of_ble_eq_true rfl) wd_461 (k := 1) rfl) ?_
          refine gl (i' := 17) (fun _ _ => aw_getf K (dOf ck_mX11_count rfl rfl) rfl rfl (Nat.le_of_ble_eq_true rfl) wd_204 (k := 3) rfl) ?_
          exact g_iret K (dOf ck_mX11_count rfl rfl).1 rfl (Or.inl rfl) rfl
        · refine g_if (fun h5 => ?_) (fun h5 => ?_)
          · refine gl (fun _ _ => aw_tableIn K (dOf (n := 39) ck_mX11_count rfl rfl).1 (by omega) (by omega) (off := 71) (by rw [h5]; rfl) (t := 18) (aJ_of (by decide +kernel))) ?_
            refine gl (i' := 19) (fun _ _ => aw_aload_n K (dOf ck_mX11_count rfl rfl) rfl) ?_
            refine gl (i' := 20) (fun _ _ => aw_getf K (dOf ck_mX11_count rfl rfl) rfl rfl (Nat.le_of_ble_eq_true rfl) wd_462 (k := 2) rfl) ?_
            refine gl (i' := 21) (fun _ _ => aw_getf K (dOf ck_mX11_count rfl rfl) rfl rfl (Nat.le_of_ble_eq_true rfl) wd_303 (k := 1) rfl) ?_
            exact g_iret K (dOf ck_mX11_count rfl rfl).1 rfl (Or.inl rfl) rfl
          · refine g_if (fun h6 => ?_) (fun h6 => ?_)
            · refine gl (fun _ _ => aw_tableIn K (dOf (n := 39) ck_mX11_count rfl rfl).1 (by omega) (by omega) (off := 79) (by rw [h6]; rfl) (t := 22) (aJ_of (by decide +kernel))) ?_
              refine gl (i' := 23) (fun _ _ => aw_aload_n K (dOf ck_mX11_count rfl rfl) rfl) ?_
              refine gl (i' := 24) (fun _ _ => aw_getf K (dOf ck_mX11_count rfl rfl) rfl rfl (Nat.le_of_ble_eq_true rfl) wd_460 (k := 0) rfl) ?_
              refine gl (i' := 25) (fun _ _ => aw_getf K (dOf ck_mX11_count rfl rfl) rfl rfl (Nat.le_of_ble_eq_true rfl) wd_275 (k := 1) rfl) ?_
              exact g_iret K (dOf ck_mX11_count rfl rfl).1 rfl (Or.inl rfl) rfl
            · refine gl (fun _ _ => aw_tableOut K (dOf (n := 39) ck_mX11_count rfl rfl).1 (by omega) (t := 26) (aJ_of (by decide +kernel))) ?_
              refine gl (i' := 27) (fun _ _ => aw_iconst K (n := -1) (i32 _ rfl) (dOf ck_mX11_count rfl rfl)) ?_
              exact g_iret K (by decide +kernel) rfl (Or.inl rfl) rfl
