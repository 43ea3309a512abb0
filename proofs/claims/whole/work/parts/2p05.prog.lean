def Twins_isEven (x1 : Int) (mm : aM) : Option Int := if x1 < (w32 (16 * (mm 80 10))) then (some 1) else (some 0)
set_option maxHeartbeats 4000000 in
theorem met_Twins_isEven {l : Launch} {D : va_G} {cA : FieldType → ClassId} {ad adV : Nat → Nat} {z0 : Nat} {x1 : Int} {mm : aM}  {r : Int} (h : Twins_isEven x1 mm = some r) : aMet l D cA ad adV z0 mX9_isEven 0 0 0 0 [.inr (.inr (.inl (some 80))), .inl x1] SH mm ((rI mm) r).1 SH ((rI mm) r).2 := by
  refine aMet_ofG (by decide +kernel) rfl (Nat.le_of_ble_eq_true rfl) h (fun p e s m args below meth c al0 K => ?_)
  unfold Twins_isEven
  refine gl (i' := 1) (fun _ _ => aw_iload_n K (dOf ck_mX9_isEven rfl rfl) rfl) ?_
  refine gl (i' := 2) (fun _ _ => aw_bip K (dOf ck_mX9_isEven rfl rfl) (v := 16) rfl) ?_
  refine gl (i' := 3) (fun _ _ => aw_aload_n K (dOf ck_mX9_isEven rfl rfl) rfl) ?_
  refine gl (i' := 4) (fun _ _ => aw_getf K (dOf ck_mX9_isEven rfl rfl) rfl rfl (Nat.le_of_ble_eq_true rfl) wd_401 (k := 10) rfl) ?_
  refine gl (i' := 5) (fun _ _ => aw_imul K (dOf ck_mX9_isEven rfl rfl)) ?_
  refine g_icmp_ge K (dOf ck_mX9_isEven rfl rfl) (t := 8) (aJ_of (by decide +kernel)) (fun h1 => ?_) (fun h1 => ?_)
  · refine gl (i' := 7) (fun _ _ => aw_iconst K (n := 1) (i32 _ rfl) (dOf ck_mX9_isEven rfl rfl)) ?_
    refine g_goto K (dOf ck_mX9_isEven rfl rfl).1 (t := 9) (aJ_of (by decide +kernel)) ?_
    exact g_iret K (by decide +kernel) rfl (Or.inr (Or.inl ⟨rfl, Or.inr rfl⟩)) rfl
  · refine gl (i' := 9) (fun _ _ => aw_iconst K (n := 0) (i32 _ rfl) (dOf ck_mX9_isEven rfl rfl)) ?_
    exact g_iret K (by decide +kernel) rfl (Or.inr (Or.inl ⟨rfl, Or.inl rfl⟩)) rfl
def Twins_isLast (x1 : Int) (mm : aM) : Option Int := if (mm 80 10) ≠ 0 then ((Twins_isEven x1 mm).bind fun r2 => (if r2 = 0 then (some 0) else (if (iand (iand (ishr (mm 80 2) (w32 (Int.tdiv (w32 (Int.tdiv x1 (mm 80 10))) 4))) (ishr (mm 80 2) (Int.tmod (w32 (Int.tdiv x1 (mm 80 10))) 4))) 1) = 0 then (some 0) else (some 1)))) else none
set_option maxHeartbeats 4000000 in
theorem met_Twins_isLast {l : Launch} {D : va_G} {cA : FieldType → ClassId} {ad adV : Nat → Nat} {z0 : Nat} {x1 : Int} {mm : aM}  {r : Int} (h : Twins_isLast x1 mm = some r) : aMet l D cA ad adV z0 mX9_isLast 1 21 0 0 [.inr (.inr (.inl (some 80))), .inl x1] SH mm ((rI mm) r).1 SH ((rI mm) r).2 := by
  refine aMet_ofG (by decide +kernel) rfl (Nat.le_of_ble_eq_true rfl) h (fun p e s m args below meth c al0 K => ?_)
  unfold Twins_isLast
  refine gl (i' := 1) (fun _ _ => aw_iload_n K (dOf ck_mX9_isLast rfl rfl) rfl) ?_
  refine gl (i' := 2) (fun _ _ => aw_aload_n K (dOf ck_mX9_isLast rfl rfl) rfl) ?_
  refine gl (i' := 3) (fun _ _ => aw_getf K (dOf ck_mX9_isLast rfl rfl) rfl rfl (Nat.le_of_ble_eq_true rfl) wd_401 (k := 10) rfl) ?_
  refine g_gd (fun hb1 => ?_)
  refine gl (i' := 4) (fun _ _ => aw_idiv K hb1 (dOf ck_mX9_isLast rfl rfl)) ?_
  refine gl (i' := 5) (fun _ _ => aw_istore_n K (dOf ck_mX9_isLast rfl rfl) (Nat.le_of_ble_eq_true rfl)) ?_
  refine g_lv (lv' := [(2, .inl _), (0, .inr (.inr (.inl (some _)))), (1, .inl _)]) rfl ?_
  refine gl (i' := 6) (fun _ _ => aw_aload_n K (dOf ck_mX9_isLast rfl rfl) rfl) ?_
  refine gl (i' := 7) (fun _ _ => aw_iload_n K (dOf ck_mX9_isLast rfl rfl) rfl) ?_
  refine g_callVI K [.inl _] rfl (dOf ck_mX9_isLast rfl rfl) al_OneBreath_Twins_144 rfl rfl ⟨wd_867, wd_33⟩ rfl (Nat.le_of_ble_eq_true rfl) ⟨Nat.le_of_ble_eq_true rfl, Nat.le_of_ble_eq_true rfl⟩ (fun b hb => met_Twins_isEven  hb) (fun r2 hr2 => ?_)
  refine g_if_eq K (dOf ck_mX9_isLast rfl rfl) (t := 27) (aJ_of (by decide +kernel)) (fun h3 => ?_) (fun h3 => ?_)
  · refine gl (i' := 28) (fun _ _ => aw_iconst K (n := 0) (i32 _ rfl) (dOf ck_mX9_isLast rfl rfl)) ?_
    exact g_iret K (by decide +kernel) rfl (Or.inr (Or.inl ⟨rfl, Or.inl rfl⟩)) rfl
  · refine gl (i' := 10) (fun _ _ => aw_aload_n K (dOf ck_mX9_isLast rfl rfl) rfl) ?_
    refine gl (i' := 11) (fun _ _ => aw_getf K (dOf ck_mX9_isLast rfl rfl) rfl rfl (Nat.le_of_ble_eq_true rfl) wd_393 (k := 2) rfl) ?_
    refine gl (i' := 12) (fun _ _ => aw_iload_n K (dOf ck_mX9_isLast rfl rfl) rfl) ?_
    refine gl (i' := 13) (fun _ _ => aw_iconst K (n := 4) (i32 _ rfl) (dOf ck_mX9_isLast rfl rfl)) ?_
    refine gl (i' := 14) (fun _ _ => aw_idiv K (by decide) (dOf ck_mX9_isLast rfl rfl)) ?_
    refine gl (i' := 15) (fun _ _ => aw_ishr K (dOf ck_mX9_isLast rfl rfl)) ?_
    refine gl (i' := 16) (fun _ _ => aw_aload_n K (dOf ck_mX9_isLast rfl rfl) rfl) ?_
    refine gl (i' := 17) (fun _ _ => aw_getf K (dOf ck_mX9_isLast rfl rfl) rfl rfl (Nat.le_of_ble_eq_true rfl) wd_393 (k := 2) rfl) ?_
    refine gl (i' := 18) (fun _ _ => aw_iload_n K (dOf ck_mX9_isLast rfl rfl) rfl) ?_
    refine gl (i' := 19) (fun _ _ => aw_iconst K (n := 4) (i32 _ rfl) (dOf ck_mX9_isLast rfl rfl)) ?_
    refine gl (i' := 20) (fun _ _ => aw_irem K (by decide) (dOf ck_mX9_isLast rfl rfl)) ?_
    refine gl (i' := 21) (fun _ _ => aw_ishr K (dOf ck_mX9_isLast rfl rfl)) ?_
    refine gl (i' := 22) (fun _ _ => aw_iand K (dOf ck_mX9_isLast rfl rfl)) ?_
    refine gl (i' := 23) (fun _ _ => aw_iconst K (n := 1) (i32 _ rfl) (dOf ck_mX9_isLast rfl rfl)) ?_
    refine gl (i' := 24) (fun _ _ => aw_iand K (dOf ck_mX9_isLast rfl rfl)) ?_
    refine g_if_eq K (dOf ck_mX9_isLast rfl rfl) (t := 27) (aJ_of (by decide +kernel)) (fun h4 => ?_) (fun h4 => ?_)
    · refine gl (i' := 28) (fun _ _ => aw_iconst K (n := 0) (i32 _ rfl) (dOf ck_mX9_isLast rfl rfl)) ?_
      exact g_iret K (by decide +kernel) rfl (Or.inr (Or.inl ⟨rfl, Or.inl rfl⟩)) rfl
    · refine gl (i' := 26) (fun _ _ => aw_iconst K (n := 1) (i32 _ rfl) (dOf ck_mX9_isLast rfl rfl)) ?_
      refine g_goto K (dOf ck_mX9_isLast rfl rfl).1 (t := 28) (aJ_of (by decide +kernel)) ?_
      exact g_iret K (by decide +kernel) rfl (Or.inr (Or.inl ⟨rfl, Or.inr rfl⟩)) rfl
def Twins_kindBehind (x1 : Int) (mm : aM) : Option Int := if (mm 80 10) ≠ 0 then (some (Int.tmod (w32 ((w32 (Int.tdiv x1 (mm 80 10))) - 16)) 5)) else none
set_option maxHeartbeats 4000000 in
theorem met_Twins_kindBehind {l : Launch} {D : va_G} {cA : FieldType → ClassId} {ad adV : Nat → Nat} {z0 : Nat} {x1 : Int} {mm : aM}  {r : Int} (h : Twins_kindBehind x1 mm = some r) : aMet l D cA ad adV z0 mX9_kindBehind 0 0 0 0 [.inr (.inr (.inl (some 80))), .inl x1] SH mm ((rI mm) r).1 SH ((rI mm) r).2 := by
  refine aMet_ofG (by decide +kernel) rfl (Nat.le_of_ble_eq_true rfl) h (fun p e s m args below meth c al0 K => ?_)
  unfold Twins_kindBehind
  refine gl (i' := 1) (fun _ _ => aw_iload_n K (dOf ck_mX9_kindBehind rfl rfl) rfl) ?_
  refine gl (i' := 2) (fun _ _ => aw_aload_n K (dOf ck_mX9_kindBehind rfl rfl) rfl) ?_
  refine gl (i' := 3) (fun _ _ => aw_getf K (dOf ck_mX9_kindBehind rfl rfl) rfl rfl (Nat.le_of_ble_eq_true rfl) wd_401 (k := 10) rfl) ?_
  refine g_gd (fun hb1 => ?_)
  refine gl (i' := 4) (fun _ _ => aw_idiv K hb1 (dOf ck_mX9_kindBehind rfl rfl)) ?_
  refine gl (i' := 5) (fun _ _ => aw_bip K (dOf ck_mX9_kindBehind rfl rfl) (v := 16) rfl) ?_
  refine gl (i' := 6) (fun _ _ => aw_isub K (dOf ck_mX9_kindBehind rfl rfl)) ?_
  refine gl (i' := 7) (fun _ _ => aw_iconst K (n := 5) (i32 _ rfl) (dOf ck_mX9_kindBehind rfl rfl)) ?_
  refine gl (i' := 8) (fun _ _ => aw_irem K (by decide) (dOf ck_mX9_kindBehind rfl rfl)) ?_
  exact g_iret K (by decide +kernel) rfl (Or.inl rfl) rfl
def Twins_wordOut (x1 : Int) (mm : aM) : Option Int := if (mm 80 10) ≠ 0 then (some (w32 (Int.tdiv (w32 ((w32 (Int.tdiv x1 (mm 80 10))) - 16)) 35))) else none
set_option maxHeartbeats 4000000 in
theorem met_Twins_wordOut {l : Launch} {D : va_G} {cA : FieldType → ClassId} {ad adV : Nat → Nat} {z0 : Nat} {x1 : Int} {mm : aM}  {r : Int} (h : Twins_wordOut x1 mm = some r) : aMet l D cA ad adV z0 mX9_wordOut 0 0 0 0 [.inr (.inr (.inl (some 80))), .inl x1] SH mm ((rI mm) r).1 SH ((rI mm) r).2 := by
  refine aMet_ofG (by decide +kernel) rfl (Nat.le_of_ble_eq_true rfl) h (fun p e s m args below meth c al0 K => ?_)
  unfold Twins_wordOut
  refine gl (i' := 1) (fun _ _ => aw_iload_n K (dOf ck_mX9_wordOut rfl rfl) rfl) ?_
  refine gl (i' := 2) (fun _ _ => aw_aload_n K (dOf ck_mX9_wordOut rfl rfl) rfl) ?_
  refine gl (i' := 3) (fun _ _ => aw_getf K (dOf ck_mX9_wordOut rfl rfl) rfl rfl (Nat.le_of_ble_eq_true rfl) wd_401 (k := 10) rfl) ?_
  refine g_gd (fun hb1 => ?_)
  refine gl (i' := 4) (fun _ _ => aw_idiv K hb1 (dOf ck_mX9_wordOut rfl rfl)) ?_
  refine gl (i' := 5) (fun _ _ => aw_bip K (dOf ck_mX9_wordOut rfl rfl) (v := 16) rfl) ?_
  refine gl (i' := 6) (fun _ _ => aw_isub K (dOf ck_mX9_wordOut rfl rfl)) ?_
  refine gl (i' := 7) (fun _ _ => aw_bip K (dOf ck_mX9_wordOut rfl rfl) (v := 35) rfl) ?_
  refine gl (i' := 8) (fun _ _ => aw_idiv K (by decide) (dOf ck_mX9_wordOut rfl rfl)) ?_
  exact g_iret K (by decide +kernel) rfl (Or.inl rfl) rfl
def Twins_nextWords (x1 : Int) (mm : aM) : Option Int := (Twins_kindBehind x1 mm).bind fun r1 => (if r1 = 4 then ((Twins_wordOut x1 mm).bind fun r4 => (some (iand (mm 80 1) (w32 ((ishl 1 r4) - 1))))) else (if 0 ≤ r1 ∧ r1 < 4 then (some (mm 99 r1.toNat)) else none))
set_option maxHeartbeats 4000000 in
theorem met_Twins_nextWords {l : Launch} {D : va_G} {cA : FieldType → ClassId} {ad adV : Nat → Nat} {z0 : Nat} {x1 : Int} {mm : aM}  {r : Int} (h : Twins_nextWords x1 mm = some r) : aMet l D cA ad adV z0 mX9_nextWords 1 21 0 0 [.inr (.inr (.inl (some 80))), .inl x1] SH mm ((rI mm) r).1 SH ((rI mm) r).2 := by
  refine aMet_ofG (by decide +kernel) rfl (Nat.le_of_ble_eq_true rfl) h (fun p e s m args below meth c al0 K => ?_)
  unfold Twins_nextWords
  refine gl (i' := 1) (fun _ _ => aw_aload_n K (dOf ck_mX9_nextWords rfl rfl) rfl) ?_
  refine gl (i' := 2) (fun _ _ => aw_iload_n K (dOf ck_mX9_nextWords rfl rfl) rfl) ?_
  refine g_callVI K [.inl _] rfl (dOf ck_mX9_nextWords rfl rfl) al_OneBreath_Twins_158 rfl rfl ⟨wd_877, wd_36⟩ rfl (Nat.le_of_ble_eq_true rfl) ⟨Nat.le_of_ble_eq_true rfl, Nat.le_of_ble_eq_true rfl⟩ (fun b hb => met_Twins_kindBehind  hb) (fun r1 hr1 => ?_)
  refine gl (i' := 4) (fun _ _ => aw_istore_n K (dOf ck_mX9_nextWords rfl rfl) (Nat.le_of_ble_eq_true rfl)) ?_
  refine g_lv (lv' := [(2, .inl _), (0, .inr (.inr (.inl (some _)))), (1, .inl _)]) rfl ?_
  refine gl (i' := 5) (fun _ _ => aw_iload_n K (dOf ck_mX9_nextWords rfl rfl) rfl) ?_
  refine gl (i' := 6) (fun _ _ => aw_iconst K (n := 4) (i32 _ rfl) (dOf ck_mX9_nextWords rfl rfl)) ?_
  refine g_icmp_ne K (dOf ck_mX9_nextWords rfl rfl) (t := 18) (aJ_of (by decide +kernel)) (fun h2 => ?_) (fun h2 => ?_)
  · refine gl (i' := 8) (fun _ _ => aw_aload_n K (dOf ck_mX9_nextWords rfl rfl) rfl) ?_
    refine gl (i' := 9) (fun _ _ => aw_getf K (dOf ck_mX9_nextWords rfl rfl) rfl rfl (Nat.le_of_ble_eq_true rfl) wd_392 (k := 1) rfl) ?_
    refine gl (i' := 10) (fun _ _ => aw_iconst K (n := 1) (i32 _ rfl) (dOf ck_mX9_nextWords rfl rfl)) ?_
    refine gl (i' := 11) (fun _ _ => aw_aload_n K (dOf ck_mX9_nextWords rfl rfl) rfl) ?_
    refine gl (i' := 12) (fun _ _ => aw_iload_n K (dOf ck_mX9_nextWords rfl rfl) rfl) ?_
    refine g_callVI K [.inl _] rfl (dOf ck_mX9_nextWords rfl rfl) al_OneBreath_Twins_161 rfl rfl ⟨wd_880, wd_37⟩ rfl (Nat.le_of_ble_eq_true rfl) ⟨Nat.le_of_ble_eq_true rfl, Nat.le_of_ble_eq_true rfl⟩ (fun b hb => met_Twins_wordOut  hb) (fun r4 hr4 => ?_)
    refine gl (i' := 14) (fun _ _ => aw_ishl K (dOf ck_mX9_nextWords rfl rfl)) ?_
    refine gl (i' := 15) (fun _ _ => aw_iconst K (n := 1) (i32 _ rfl) (dOf ck_mX9_nextWords rfl rfl)) ?_
    refine gl (i' := 16) (fun _ _ => aw_isub K (dOf ck_mX9_nextWords rfl rfl)) ?_
    refine gl (i' := 17) (fun _ _ => aw_iand K (dOf ck_mX9_nextWords rfl rfl)) ?_
    refine g_goto K (dOf ck_mX9_nextWords rfl rfl).1 (t := 22) (aJ_of (by decide +kernel)) ?_
    exact g_iret K (by decide +kernel) rfl (Or.inl rfl) rfl
  · refine gl (i' := 19) (fun _ _ => aw_aload_n K (dOf ck_mX9_nextWords rfl rfl) rfl) ?_
    refine gl (i' := 20) (fun _ _ => aw_getf K (dOf ck_mX9_nextWords rfl rfl) rfl rfl (Nat.le_of_ble_eq_true rfl) wd_399 (k := 8) rfl) ?_
    refine gl (i' := 21) (fun _ _ => aw_iload_n K (dOf ck_mX9_nextWords rfl rfl) rfl) ?_
    refine g_gd (fun hb3 => ?_)
    refine gl (i' := 22) (fun _ _ => aw_iald K (dOf ck_mX9_nextWords rfl rfl) rfl hb3) ?_
    exact g_iret K (by decide +kernel) rfl (Or.inl rfl) rfl
def Twins_lengthOut (x1 : Int) (mm : aM) : Option Int := if (mm 80 10) ≠ 0 then (some (w32 ((Int.tmod (w32 (Int.tdiv (w32 ((w32 (Int.tdiv x1 (mm 80 10))) - 16)) 5)) 7) + 1))) else none
set_option maxHeartbeats 4000000 in
theorem met_Twins_lengthOut {l : Launch} {D : va_G} {cA : FieldType → ClassId} {ad adV : Nat → Nat} {z0 : Nat} {x1 : Int} {mm : aM}  {r : Int} (h : Twins_lengthOut x1 mm = some r) : aMet l D cA ad adV z0 mX9_lengthOut 0 0 0 0 [.inr (.inr (.inl (some 80))), .inl x1] SH mm ((rI mm) r).1 SH ((rI mm) r).2 := by
  refine aMet_ofG (by decide +kernel) rfl (Nat.le_of_ble_eq_true rfl) h (fun p e s m args below meth c al0 K => ?_)
  unfold Twins_lengthOut
  refine gl (i' := 1) (fun _ _ => aw_iload_n K (dOf ck_mX9_lengthOut rfl rfl) rfl) ?_
  refine gl (i' := 2) (fun _ _ => aw_aload_n K (dOf ck_mX9_lengthOut rfl rfl) rfl) ?_
  refine gl (i' := 3) (fun _ _ => aw_getf K (dOf ck_mX9_lengthOut rfl rfl) rfl rfl (Nat.le_of_ble_eq_true rfl) wd_401 (k := 10) rfl) ?_
  refine g_gd (fun hb1 => ?_)
  refine gl (i' := 4) (fun _ _ => aw_idiv K hb1 (dOf ck_mX9_lengthOut rfl rfl)) ?_
  refine gl (i' := 5) (fun _ _ => aw_bip K (dOf ck_mX9_lengthOut rfl rfl) (v := 16) rfl) ?_
  refine gl (i' := 6) (fun _ _ => aw_isub K (dOf ck_mX9_lengthOut rfl rfl)) ?_
  refine gl (i' := 7) (fun _ _ => aw_iconst K (n := 5) (i32 _ rfl) (dOf ck_mX9_lengthOut rfl rfl)) ?_
  refine gl (i' := 8) (fun _ _ => aw_idiv K (by decide) (dOf ck_mX9_lengthOut rfl rfl)) ?_
  refine gl (i' := 9) (fun _ _ => aw_bip K (dOf ck_mX9_lengthOut rfl rfl) (v := 7) rfl) ?_
  refine gl (i' := 10) (fun _ _ => aw_irem K (by decide) (dOf ck_mX9_lengthOut rfl rfl)) ?_
  refine gl (i' := 11) (fun _ _ => aw_iconst K (n := 1) (i32 _ rfl) (dOf ck_mX9_lengthOut rfl rfl)) ?_
  refine gl (i' := 12) (fun _ _ => aw_iadd K (dOf ck_mX9_lengthOut rfl rfl)) ?_
  exact g_iret K (by decide +kernel) rfl (Or.inl rfl) rfl
def Twins_evenState (x1 : Int) (x2 : Int) (x3 : Int) (mm : aM) : Option Int := some (w32 ((w32 ((w32 ((w32 (x1 * 4)) + x2)) * (mm 80 10))) + x3))
set_option maxHeartbeats 4000000 in
theorem met_Twins_evenState {l : Launch} {D : va_G} {cA : FieldType → ClassId} {ad adV : Nat → Nat} {z0 : Nat} {x1 : Int} {x2 : Int} {x3 : Int} {mm : aM}  {r : Int} (h : Twins_evenState x1 x2 x3 mm = some r) : aMet l D cA ad adV z0 mX9_evenState 0 0 0 0 [.inr (.inr (.inl (some 80))), .inl x1, .inl x2, .inl x3] SH mm ((rI mm) r).1 SH ((rI mm) r).2 := by
  refine aMet_ofG (by decide +kernel) rfl (Nat.le_of_ble_eq_true rfl) h (fun p e s m args below meth c al0 K => ?_)
  unfold Twins_evenState
  refine gl (i' := 1) (fun _ _ => aw_iload_n K (dOf ck_mX9_evenState rfl rfl) rfl) ?_
  refine gl (i' := 2) (fun _ _ => aw_iconst K (n := 4) (i32 _ rfl) (dOf ck_mX9_evenState rfl rfl)) ?_
  refine gl (i' := 3) (fun _ _ => aw_imul K (dOf ck_mX9_evenState rfl rfl)) ?_
  refine gl (i' := 4) (fun _ _ => aw_iload_n K (dOf ck_mX9_evenState rfl rfl) rfl) ?_
  refine gl (i' := 5) (fun _ _ => aw_iadd K (dOf ck_mX9_evenState rfl rfl)) ?_
  refine gl (i' := 6) (fun _ _ => aw_aload_n K (dOf ck_mX9_evenState rfl rfl) rfl) ?_
  refine gl (i' := 7) (fun _ _ => aw_getf K (dOf ck_mX9_evenState rfl rfl) rfl rfl (Nat.le_of_ble_eq_true rfl) wd_401 (k := 10) rfl) ?_
  refine gl (i' := 8) (fun _ _ => aw_imul K (dOf ck_mX9_evenState rfl rfl)) ?_
  refine gl (i' := 9) (fun _ _ => aw_iload_n K (dOf ck_mX9_evenState rfl rfl) rfl) ?_
  refine gl (i' := 10) (fun _ _ => aw_iadd K (dOf ck_mX9_evenState rfl rfl)) ?_
  exact g_iret K (by decide +kernel) rfl (Or.inl rfl) rfl
def Twins_joined (x1 : Int) (x2 : Int) (x3 : Int) (x4 : Int) (x5 : Int) (mm : aM) : Option Int := if 0 ≤ x3 ∧ x3 < 13 then (if 0 < (w32 (x2 - (mm 95 x3.toNat))) then ((Twins_oddState x1 (w32 (x2 - (mm 95 x3.toNat))) (mm 96 x3.toNat) (w32 ((w32 (x4 * (w32 ((mm 80 9) + 1)))) + x5)) mm).bind fun r10 => (some r10)) else (if (w32 (x2 - (mm 95 x3.toNat))) < 0 then (if 0 ≤ x1 ∧ x1 < 13 then ((Twins_oddState x3 (w32 (-(w32 (x2 - (mm 95 x3.toNat))))) (mm 96 x1.toNat) (w32 ((w32 (x5 * (w32 ((mm 80 9) + 1)))) + x4)) mm).bind fun r9 => (some r9)) else none) else (if 0 ≤ x1 ∧ x1 < 13 then (if (mm 96 x3.toNat) < (mm 96 x1.toNat) then ((Twins_evenState (mm 96 x3.toNat) (mm 96 x1.toNat) (w32 ((w32 (x5 * (w32 ((mm 80 9) + 1)))) + x4)) mm).bind fun r6 => (some r6)) else ((Twins_evenState (mm 96 x1.toNat) (mm 96 x3.toNat) (w32 ((w32 (x4 * (w32 ((mm 80 9) + 1)))) + x5)) mm).bind fun r7 => (some r7))) else none))) else none
set_option maxHeartbeats 4000000 in
theorem met_Twins_joined {l : Launch} {D : va_G} {cA : FieldType → ClassId} {ad adV : Nat → Nat} {z0 : Nat} {x1 : Int} {x2 : Int} {x3 : Int} {x4 : Int} {x5 : Int} {mm : aM}  {r : Int} (h : Twins_joined x1 x2 x3 x4 x5 mm = some r) : aMet l D cA ad adV z0 mX9_joined 1 24 0 0 [.inr (.inr (.inl (some 80))), .inl x1, .inl x2, .inl x3, .inl x4, .inl x5] SH mm ((rI mm) r).1 SH ((rI mm) r).2 := by
  refine aMet_ofG (by decide +kernel) rfl (Nat.le_of_ble_eq_true rfl) h (fun p e s m args below meth c al0 K => ?_)
  unfold Twins_joined
  refine gl (i' := 1) (fun _ _ => aw_iload_n K (dOf ck_mX9_joined rfl rfl) rfl) ?_
  refine gl (i' := 2) (fun _ _ => aw_aload_n K (dOf ck_mX9_joined rfl rfl) rfl) ?_
  refine gl (i' := 3) (fun _ _ => aw_getf K (dOf ck_mX9_joined rfl rfl) rfl rfl (Nat.le_of_ble_eq_true rfl) wd_395 (k := 4) rfl) ?_
  refine gl (i' := 4) (fun _ _ => aw_iload_n K (dOf ck_mX9_joined rfl rfl) rfl) ?_
  refine g_gd (fun hb1 => ?_)
  refine gl (i' := 5) (fun _ _ => aw_iald K (dOf ck_mX9_joined rfl rfl) rfl hb1) ?_
  refine gl (i' := 6) (fun _ _ => aw_isub K (dOf ck_mX9_joined rfl rfl)) ?_
  refine gl (i' := 7) (fun _ _ => aw_istore K (dOf ck_mX9_joined rfl rfl) (Nat.le_of_ble_eq_true rfl)) ?_
  refine g_lv (lv' := [(6, .inl _), (0, .inr (.inr (.inl (some _)))), (1, .inl _), (2, .inl _), (3, .inl _), (4, .inl _), (5, .inl _)]) rfl ?_
  refine gl (i' := 8) (fun _ _ => aw_iload K (dOf ck_mX9_joined rfl rfl) rfl) ?_
  refine g_if_le K (dOf ck_mX9_joined rfl rfl) (t := 26) (aJ_of (by decide +kernel)) (fun h2 => ?_) (fun h2 => ?_)
  · refine gl (i' := 10) (fun _ _ => aw_aload_n K (dOf ck_mX9_joined rfl rfl) rfl) ?_
    refine gl (i' := 11) (fun _ _ => aw_iload_n K (dOf ck_mX9_joined rfl rfl) rfl) ?_
    refine gl (i' := 12) (fun _ _ => aw_iload K (dOf ck_mX9_joined rfl rfl) rfl) ?_
    refine gl (i' := 13) (fun _ _ => aw_aload_n K (dOf ck_mX9_joined rfl rfl) rfl) ?_
    refine gl (i' := 14) (fun _ _ => aw_getf K (dOf ck_mX9_joined rfl rfl) rfl rfl (Nat.le_of_ble_eq_true rfl) wd_396 (k := 5) rfl) ?_
    refine gl (i' := 15) (fun _ _ => aw_iload_n K (dOf ck_mX9_joined rfl rfl) rfl) ?_
    refine gl (i' := 16) (fun _ _ => aw_iald K (dOf ck_mX9_joined rfl rfl) rfl hb1) ?_
    refine gl (i' := 17) (fun _ _ => aw_iload K (dOf ck_mX9_joined rfl rfl) rfl) ?_
    refine gl (i' := 18) (fun _ _ => aw_aload_n K (dOf ck_mX9_joined rfl rfl) rfl) ?_
    refine gl (i' := 19) (fun _ _ => aw_getf K (dOf ck_mX9_joined rfl rfl) rfl rfl (Nat.le_of_ble_eq_true rfl) wd_400 (k := 9) rfl) ?_
    refine gl (i' := 20) (fun _ _ => aw_iconst K (n := 1) (i32 _ rfl) (dOf ck_mX9_joined rfl rfl)) ?_
    refine gl (i' := 21) (fun _ _ => aw_iadd K (dOf ck_mX9_joined rfl rfl)) ?_
    refine gl (i' := 22) (fun _ _ => aw_imul K (dOf ck_mX9_joined rfl rfl)) ?_
    refine gl (i' := 23) (fun _ _ => aw_iload K (dOf ck_mX9_joined rfl rfl) rfl) ?_
    refine gl (i' := 24) (fun _ _ => aw_iadd K (dOf ck_mX9_joined rfl rfl)) ?_
    refine g_callVI K [.inl _, .inl _, .inl _, .inl _] rfl (dOf ck_mX9_joined rfl rfl) al_OneBreath_Twins_125 rfl rfl ⟨wd_844, wd_29⟩ rfl (Nat.le_of_ble_eq_true rfl) ⟨Nat.le_of_ble_eq_true rfl, Nat.le_of_ble_eq_true rfl⟩ (fun b hb => met_Twins_oddState  hb) (fun r10 hr10 => ?_)
    exact g_iret K (dOf ck_mX9_joined rfl rfl).1 rfl (Or.inl rfl) rfl
  · refine gl (i' := 27) (fun _ _ => aw_iload K (dOf ck_mX9_joined rfl rfl) rfl) ?_
    refine g_if_ge K (dOf ck_mX9_joined rfl rfl) (t := 46) (aJ_of (by decide +kernel)) (fun h3 => ?_) (fun h3 => ?_)
    · refine gl (i' := 29) (fun _ _ => aw_aload_n K (dOf ck_mX9_joined rfl rfl) rfl) ?_
      refine gl (i' := 30) (fun _ _ => aw_iload_n K (dOf ck_mX9_joined rfl rfl) rfl) ?_
      refine gl (i' := 31) (fun _ _ => aw_iload K (dOf ck_mX9_joined rfl rfl) rfl) ?_
      refine gl (i' := 32) (fun _ _ => aw_ineg K (dOf ck_mX9_joined rfl rfl)) ?_
      refine gl (i' := 33) (fun _ _ => aw_aload_n K (dOf ck_mX9_joined rfl rfl) rfl) ?_
      refine gl (i' := 34) (fun _ _ => aw_getf K (dOf ck_mX9_joined rfl rfl) rfl rfl (Nat.le_of_ble_eq_true rfl) wd_396 (k := 5) rfl) ?_
      refine gl (i' := 35) (fun _ _ => aw_iload_n K (dOf ck_mX9_joined rfl rfl) rfl) ?_
      refine g_gd (fun hb8 => ?_)
      refine gl (i' := 36) (fun _ _ => aw_iald K (dOf ck_mX9_joined rfl rfl) rfl hb8) ?_
      refine gl (i' := 37) (fun _ _ => aw_iload K (dOf ck_mX9_joined rfl rfl) rfl) ?_
      refine gl (i' := 38) (fun _ _ => aw_aload_n K (dOf ck_mX9_joined rfl rfl) rfl) ?_
      refine gl (i' := 39) (fun _ _ => aw_getf K (dOf ck_mX9_joined rfl rfl) rfl rfl (Nat.le_of_ble_eq_true rfl) wd_400 (k := 9) rfl) ?_
      refine gl (i' := 40) (fun _ _ => aw_iconst K (n := 1) (i32 _ rfl) (dOf ck_mX9_joined rfl rfl)) ?_
      refine gl (i' := 41) (fun _ _ => aw_iadd K (dOf ck_mX9_joined rfl rfl)) ?_
      refine gl (i' := 42) (fun _ _ => aw_imul K (dOf ck_mX9_joined rfl rfl)) ?_
      refine gl (i' := 43) (fun _ _ => aw_iload K (dOf ck_mX9_joined rfl rfl) rfl) ?_
      refine gl (i' := 44) (fun _ _ => aw_iadd K (dOf ck_mX9_joined rfl rfl)) ?_
      refine g_callVI K [.inl _, .inl _, .inl _, .inl _] rfl (dOf ck_mX9_joined rfl rfl) al_OneBreath_Twins_125 rfl rfl ⟨wd_844, wd_29⟩ rfl (Nat.le_of_ble_eq_true rfl) ⟨Nat.le_of_ble_eq_true rfl, Nat.le_of_ble_eq_true rfl⟩ (fun b hb => met_Twins_oddState  hb) (fun r9 hr9 => ?_)
      exact g_iret K (dOf ck_mX9_joined rfl rfl).1 rfl (Or.inl rfl) rfl
    · refine gl (i' := 47) (fun _ _ => aw_aload_n K (dOf ck_mX9_joined rfl rfl) rfl) ?_
      refine gl (i' := 48) (fun _ _ => aw_getf K (dOf ck_mX9_joined rfl rfl) rfl rfl (Nat.le_of_ble_eq_true rfl) wd_396 (k := 5) rfl) ?_
      refine gl (i' := 49) (fun _ _ => aw_iload_n K (dOf ck_mX9_joined rfl rfl) rfl) ?_
      refine g_gd (fun hb4 => ?_)
      refine gl (i' := 50) (fun _ _ => aw_iald K (dOf ck_mX9_joined rfl rfl) rfl hb4) ?_
      refine gl (i' := 51) (fun _ _ => aw_aload_n K (dOf ck_mX9_joined rfl rfl) rfl) ?_
      refine gl (i' := 52) (fun _ _ => aw_getf K (dOf ck_mX9_joined rfl rfl) rfl rfl (Nat.le_of_ble_eq_true rfl) wd_396 (k := 5) rfl) ?_
      refine gl (i' := 53) (fun _ _ => aw_iload_n K (dOf ck_mX9_joined rfl rfl) rfl) ?_
      refine gl (i' := 54) (fun _ _ => aw_iald K (dOf ck_mX9_joined rfl rfl) rfl hb1) ?_
      refine g_icmp_gt K (dOf ck_mX9_joined rfl rfl) (t := 74) (aJ_of (by decide +kernel)) (fun h5 => ?_) (fun h5 => ?_)
      · refine gl (i' := 75) (fun _ _ => aw_aload_n K (dOf ck_mX9_joined rfl rfl) rfl) ?_
        refine gl (i' := 76) (fun _ _ => aw_aload_n K (dOf ck_mX9_joined rfl rfl) rfl) ?_
        refine gl (i' := 77) (fun _ _ => aw_getf K (dOf ck_mX9_joined rfl rfl) rfl rfl (Nat.le_of_ble_eq_true rfl) wd_396 (k := 5) rfl) ?_
        refine gl (i' := 78) (fun _ _ => aw_iload_n K (dOf ck_mX9_joined rfl rfl) rfl) ?_
        refine gl (i' := 79) (fun _ _ => aw_iald K (dOf ck_mX9_joined rfl rfl) rfl hb1) ?_
        refine gl (i' := 80) (fun _ _ => aw_aload_n K (dOf ck_mX9_joined rfl rfl) rfl) ?_
        refine gl (i' := 81) (fun _ _ => aw_getf K (dOf ck_mX9_joined rfl rfl) rfl rfl (Nat.le_of_ble_eq_true rfl) wd_396 (k := 5) rfl) ?_
        refine gl (i' := 82) (fun _ _ => aw_iload_n K (dOf ck_mX9_joined rfl rfl) rfl) ?_
        refine gl (i' := 83) (fun _ _ => aw_iald K (dOf ck_mX9_joined rfl rfl) rfl hb4) ?_
        refine gl (i' := 84) (fun _ _ => aw_iload K (dOf ck_mX9_joined rfl rfl) rfl) ?_
        refine gl (i' := 85) (fun _ _ => aw_aload_n K (dOf ck_mX9_joined rfl rfl) rfl) ?_
        refine gl (i' := 86) (fun _ _ => aw_getf K (dOf ck_mX9_joined rfl rfl) rfl rfl (Nat.le_of_ble_eq_true rfl) wd_400 (k := 9) rfl) ?_
        refine gl (i' := 87) (fun _ _ => aw_iconst K (n := 1) (i32 _ rfl) (dOf ck_mX9_joined rfl rfl)) ?_
        refine gl (i' := 88) (fun _ _ => aw_iadd K (dOf ck_mX9_joined rfl rfl)) ?_
        refine gl (i' := 89) (fun _ _ => aw_imul K (dOf ck_mX9_joined rfl rfl)) ?_
        refine gl (i' := 90) (fun _ _ => aw_iload K (dOf ck_mX9_joined rfl rfl) rfl) ?_
        refine gl (i' := 91) (fun _ _ => aw_iadd K (dOf ck_mX9_joined rfl rfl)) ?_
        refine g_callVI K [.inl _, .inl _, .inl _] rfl (dOf ck_mX9_joined rfl rfl) al_OneBreath_Twins_177 rfl rfl ⟨wd_893, wd_41⟩ rfl (Nat.le_of_ble_eq_true rfl) ⟨Nat.le_of_ble_eq_true rfl, Nat.le_of_ble_eq_true rfl⟩ (fun b hb => met_Twins_evenState  hb) (fun r6 hr6 => ?_)
        exact g_iret K (by decide +kernel) rfl (Or.inl rfl) rfl
      · refine gl (i' := 56) (fun _ _ => aw_aload_n K (dOf ck_mX9_joined rfl rfl) rfl) ?_
        refine gl (i' := 57) (fun _ _ => aw_aload_n K (dOf ck_mX9_joined rfl rfl) rfl) ?_
        refine gl (i' := 58) (fun _ _ => aw_getf K (dOf ck_mX9_joined rfl rfl) rfl rfl (Nat.le_of_ble_eq_true rfl) wd_396 (k := 5) rfl) ?_
        refine gl (i' := 59) (fun _ _ => aw_iload_n K (dOf ck_mX9_joined rfl rfl) rfl) ?_
        refine gl (i' := 60) (fun _ _ => aw_iald K (dOf ck_mX9_joined rfl rfl) rfl hb4) ?_
        refine gl (i' := 61) (fun _ _ => aw_aload_n K (dOf ck_mX9_joined rfl rfl) rfl) ?_
        refine gl (i' := 62) (fun _ _ => aw_getf K (dOf ck_mX9_joined rfl rfl) rfl rfl (Nat.le_of_ble_eq_true rfl) wd_396 (k := 5) rfl) ?_
        refine gl (i' := 63) (fun _ _ => aw_iload_n K (dOf ck_mX9_joined rfl rfl) rfl) ?_
        refine gl (i' := 64) (fun _ _ => aw_iald K (dOf ck_mX9_joined rfl rfl) rfl hb1) ?_
        refine gl (i' := 65) (fun _ _ => aw_iload K (dOf ck_mX9_joined rfl rfl) rfl) ?_
        refine gl (i' := 66) (fun _ _ => aw_aload_n K (dOf ck_mX9_joined rfl rfl) rfl) ?_
        refine gl (i' := 67) (fun _ _ => aw_getf K (dOf ck_mX9_joined rfl rfl) rfl rfl (Nat.le_of_ble_eq_true rfl) wd_400 (k := 9) rfl) ?_
        refine gl (i' := 68) (fun _ _ => aw_iconst K (n := 1) (i32 _ rfl) (dOf ck_mX9_joined rfl rfl)) ?_
        refine gl (i' := 69) (fun _ _ => aw_iadd K (dOf ck_mX9_joined rfl rfl)) ?_
        refine gl (i' := 70) (fun _ _ => aw_imul K (dOf ck_mX9_joined rfl rfl)) ?_
        refine gl (i' := 71) (fun _ _ => aw_iload K (dOf ck_mX9_joined rfl rfl) rfl) ?_
        refine gl (i' := 72) (fun _ _ => aw_iadd K (dOf ck_mX9_joined rfl rfl)) ?_
        refine g_callVI K [.inl _, .inl _, .inl _] rfl (dOf ck_mX9_joined rfl rfl) al_OneBreath_Twins_177 rfl rfl ⟨wd_893, wd_41⟩ rfl (Nat.le_of_ble_eq_true rfl) ⟨Nat.le_of_ble_eq_true rfl, Nat.le_of_ble_eq_true rfl⟩ (fun b hb => met_Twins_evenState  hb) (fun r7 hr7 => ?_)
        exact g_iret K (dOf ck_mX9_joined rfl rfl).1 rfl (Or.inl rfl) rfl
def Twins_meet_143 (k106 : Int → aM → Option aM) (x2 : Int) (x3 : Int) (x4 : Int) (x5 : Int) (x7 : Int) (x8 : Int) (x9 : Int) (x10 : Int) (x11 : Int) (x12 : Int) (mm : aM) : Option aM := k106 (w32 (x12 + 1)) mm
set_option maxHeartbeats 4000000 in
theorem lk_Twins_meet_143 {p : Program} {l : Launch} {e : Env} {s : State} {m : MethodId} {args : Array Value} {below : List Frame} {meth : Method} {c : Code} {D : va_G} {cA : FieldType → ClassId} {ad adV : Nat → Nat} {z0 : Nat} {al0 : List Nat} (K : aK p s m args meth c mX9_meet D cA ad adV z0) (x2 : Int) (x3 : Int) (x4 : Int) (x5 : Int) (x7 : Int) (x8 : Int) (x9 : Int) (x10 : Int) (x11 : Int) (x12 : Int) (k106 : Int → aM → Option aM) (hk106 : ∀ (x12 : Int) (mm : aM), aG p l e { frames := 2, cells := 0, slots := 0, locals := 50 } s m args below meth c D cA ad z0 mX9_meet al0 rM (k106 x12 mm) 106 [(0, .inr (.inr (.inl (some 80)))), (2, .inl x2), (3, .inl x3), (4, .inl x4), (5, .inl x5), (7, .inl x7), (8, .inl x8), (9, .inl x9), (10, .inl x10), (11, .inl x11), (12, .inl x12)] [] mm)  (mm : aM) : aG p l e { frames := 2, cells := 0, slots := 0, locals := 50 } s m args below meth c D cA ad z0 mX9_meet al0 rM (Twins_meet_143 k106 x2 x3 x4 x5 x7 x8 x9 x10 x11 x12 mm) 143 [(0, .inr (.inr (.inl (some 80)))), (2, .inl x2), (3, .inl x3), (4, .inl x4), (5, .inl x5), (7, .inl x7), (8, .inl x8), (9, .inl x9), (10, .inl x10), (11, .inl x11), (12, .inl x12)] [] mm := by
  unfold Twins_meet_143
  refine gl (i' := 144) (fun _ _ => aw_iinc K (dOf ck_mX9_meet rfl rfl) (Nat.le_of_ble_eq_true rfl) rfl) ?_
  refine g_lv (lv' := [(12, .inl _), (0, .inr (.inr (.inl (some _)))), (2, .inl _), (3, .inl _), (4, .inl _), (5, .inl _), (7, .inl _), (8, .inl _), (9, .inl _), (10, .inl _), (11, .inl _)]) rfl ?_
  refine g_goto K (dOf ck_mX9_meet rfl rfl).1 (t := 106) (aJ_of (by decide +kernel)) ?_
  refine g_sub [1, 2, 3, 4, 5, 6, 7, 8, 9, 10, 0] rfl ?_
  exact hk106 _ _
def Twins_meet_106 (x2 : Int) (x3 : Int) (x4 : Int) (x5 : Int) (x7 : Int) (x8 : Int) (x9 : Int) (x10 : Int) (x11 : Int) : Nat → Int → aM → Option aM
  | 0, _, _ => none
  | n + 1, x12, mm => if x10 < x12 then (some mm) else (if (mm 80 9) < (w32 ((w32 (x7 + x11)) + x12)) then (Twins_meet_143 (Twins_meet_106 x2 x3 x4 x5 x7 x8 x9 x10 x11 n) x2 x3 x4 x5 x7 x8 x9 x10 x11 x12 mm) else (if (mm 80 9) < (w32 ((w32 ((w32 (x8 + x11)) + x10)) - x12)) then (Twins_meet_143 (Twins_meet_106 x2 x3 x4 x5 x7 x8 x9 x10 x11 n) x2 x3 x4 x5 x7 x8 x9 x10 x11 x12 mm) else ((Twins_joined x4 x5 x2 (w32 ((w32 (x7 + x11)) + x12)) (w32 ((w32 ((w32 (x8 + x11)) + x10)) - x12)) mm).bind fun r11 => ((Twins_push r11 (w32 (x3 + x9)) mm).bind fun r12 => (Twins_meet_143 (Twins_meet_106 x2 x3 x4 x5 x7 x8 x9 x10 x11 n) x2 x3 x4 x5 x7 x8 x9 x10 x11 x12 r12)))))
set_option maxHeartbeats 4000000 in
theorem lk_Twins_meet_106 {p : Program} {l : Launch} {e : Env} {s : State} {m : MethodId} {args : Array Value} {below : List Frame} {meth : Method} {c : Code} {D : va_G} {cA : FieldType → ClassId} {ad adV : Nat → Nat} {z0 : Nat} {al0 : List Nat} (K : aK p s m args meth c mX9_meet D cA ad adV z0) (x2 : Int) (x3 : Int) (x4 : Int) (x5 : Int) (x7 : Int) (x8 : Int) (x9 : Int) (x10 : Int) (x11 : Int)  : ∀ (n : Nat) (x12 : Int) (mm : aM), aG p l e { frames := 2, cells := 0, slots := 0, locals := 50 } s m args below meth c D cA ad z0 mX9_meet al0 rM (Twins_meet_106 x2 x3 x4 x5 x7 x8 x9 x10 x11 n x12 mm) 106 [(0, .inr (.inr (.inl (some 80)))), (2, .inl x2), (3, .inl x3), (4, .inl x4), (5, .inl x5), (7, .inl x7), (8, .inl x8), (9, .inl x9), (10, .inl x10), (11, .inl x11), (12, .inl x12)] [] mm := by
  intro n
  induction n with
  | zero => intro x12 mm; exact g_none
  | succ n ih =>
    intro x12 mm
    rw [Twins_meet_106]
    refine gl (i' := 107) (fun _ _ => aw_iload K (dOf ck_mX9_meet rfl rfl) rfl) ?_
    refine gl (i' := 108) (fun _ _ => aw_iload K (dOf ck_mX9_meet rfl rfl) rfl) ?_
    refine g_icmp_gt K (dOf ck_mX9_meet rfl rfl) (t := 145) (aJ_of (by decide +kernel)) (fun h8 => ?_) (fun h8 => ?_)
    · exact g_vret K (by decide +kernel) rfl rfl
    · refine gl (i' := 110) (fun _ _ => aw_iload K (dOf ck_mX9_meet rfl rfl) rfl) ?_
      refine gl (i' := 111) (fun _ _ => aw_iload K (dOf ck_mX9_meet rfl rfl) rfl) ?_
      refine gl (i' := 112) (fun _ _ => aw_iadd K (dOf ck_mX9_meet rfl rfl)) ?_
      refine gl (i' := 113) (fun _ _ => aw_iload K (dOf ck_mX9_meet rfl rfl) rfl) ?_
      refine gl (i' := 114) (fun _ _ => aw_iadd K (dOf ck_mX9_meet rfl rfl)) ?_
      refine gl (i' := 115) (fun _ _ => aw_istore K (dOf ck_mX9_meet rfl rfl) (Nat.le_of_ble_eq_true rfl)) ?_
      refine g_lv (lv' := [(13, .inl _), (0, .inr (.inr (.inl (some _)))), (2, .inl _), (3, .inl _), (4, .inl _), (5, .inl _), (7, .inl _), (8, .inl _), (9, .inl _), (10, .inl _), (11, .inl _), (12, .inl _)]) rfl ?_
      refine gl (i' := 116) (fun _ _ => aw_iload K (dOf ck_mX9_meet rfl rfl) rfl) ?_
      refine gl (i' := 117) (fun _ _ => aw_iload K (dOf ck_mX9_meet rfl rfl) rfl) ?_
      refine gl (i' := 118) (fun _ _ => aw_iadd K (dOf ck_mX9_meet rfl rfl)) ?_
      refine gl (i' := 119) (fun _ _ => aw_iload K (dOf ck_mX9_meet rfl rfl) rfl) ?_
      refine gl (i' := 120) (fun _ _ => aw_iadd K (dOf ck_mX9_meet rfl rfl)) ?_
      refine gl (i' := 121) (fun _ _ => aw_iload K (dOf ck_mX9_meet rfl rfl) rfl) ?_
      refine gl (i' := 122) (fun _ _ => aw_isub K (dOf ck_mX9_meet rfl rfl)) ?_
      refine gl (i' := 123) (fun _ _ => aw_istore K (dOf ck_mX9_meet rfl rfl) (Nat.le_of_ble_eq_true rfl)) ?_
      refine g_lv (lv' := [(14, .inl _), (13, .inl _), (0, .inr (.inr (.inl (some _)))), (2, .inl _), (3, .inl _), (4, .inl _), (5, .inl _), (7, .inl _), (8, .inl _), (9, .inl _), (10, .inl _), (11, .inl _), (12, .inl _)]) rfl ?_
      refine gl (i' := 124) (fun _ _ => aw_iload K (dOf ck_mX9_meet rfl rfl) rfl) ?_
      refine gl (i' := 125) (fun _ _ => aw_aload_n K (dOf ck_mX9_meet rfl rfl) rfl) ?_
      refine gl (i' := 126) (fun _ _ => aw_getf K (dOf ck_mX9_meet rfl rfl) rfl rfl (Nat.le_of_ble_eq_true rfl) wd_400 (k := 9) rfl) ?_
      refine g_icmp_gt K (dOf ck_mX9_meet rfl rfl) (t := 143) (aJ_of (by decide +kernel)) (fun h9 => ?_) (fun h9 => ?_)
      · refine g_sub [2, 3, 4, 5, 6, 7, 8, 9, 10, 11, 12] rfl ?_
        exact lk_Twins_meet_143 K _ _ _ _ _ _ _ _ _ _ _ ih _
      · refine gl (i' := 128) (fun _ _ => aw_iload K (dOf ck_mX9_meet rfl rfl) rfl) ?_
        refine gl (i' := 129) (fun _ _ => aw_aload_n K (dOf ck_mX9_meet rfl rfl) rfl) ?_
        refine gl (i' := 130) (fun _ _ => aw_getf K (dOf ck_mX9_meet rfl rfl) rfl rfl (Nat.le_of_ble_eq_true rfl) wd_400 (k := 9) rfl) ?_
        refine g_icmp_gt K (dOf ck_mX9_meet rfl rfl) (t := 143) (aJ_of (by decide +kernel)) (fun h10 => ?_) (fun h10 => ?_)
        · refine g_sub [2, 3, 4, 5, 6, 7, 8, 9, 10, 11, 12] rfl ?_
          exact lk_Twins_meet_143 K _ _ _ _ _ _ _ _ _ _ _ ih _
        · refine gl (i' := 132) (fun _ _ => aw_aload_n K (dOf ck_mX9_meet rfl rfl) rfl) ?_
          refine gl (i' := 133) (fun _ _ => aw_aload_n K (dOf ck_mX9_meet rfl rfl) rfl) ?_
          refine gl (i' := 134) (fun _ _ => aw_iload K (dOf ck_mX9_meet rfl rfl) rfl) ?_
          refine gl (i' := 135) (fun _ _ => aw_iload K (dOf ck_mX9_meet rfl rfl) rfl) ?_
          refine gl (i' := 136) (fun _ _ => aw_iload_n K (dOf ck_mX9_meet rfl rfl) rfl) ?_
          refine gl (i' := 137) (fun _ _ => aw_iload K (dOf ck_mX9_meet rfl rfl) rfl) ?_
          refine gl (i' := 138) (fun _ _ => aw_iload K (dOf ck_mX9_meet rfl rfl) rfl) ?_
          refine g_callVI K [.inl _, .inl _, .inl _, .inl _, .inl _] rfl (dOf ck_mX9_meet rfl rfl) al_OneBreath_Twins_173 rfl rfl ⟨wd_890, wd_40⟩ rfl (Nat.le_of_ble_eq_true rfl) ⟨Nat.le_of_ble_eq_true rfl, Nat.le_of_ble_eq_true rfl⟩ (fun b hb => met_Twins_joined  hb) (fun r11 hr11 => ?_)
          refine gl (i' := 140) (fun _ _ => aw_iload_n K (dOf ck_mX9_meet rfl rfl) rfl) ?_
          refine gl (i' := 141) (fun _ _ => aw_iload K (dOf ck_mX9_meet rfl rfl) rfl) ?_
          refine gl (i' := 142) (fun _ _ => aw_iadd K (dOf ck_mX9_meet rfl rfl)) ?_
          refine g_callVM K [.inl _, .inl _] rfl (dOf ck_mX9_meet rfl rfl) al_OneBreath_Twins_129 rfl rfl ⟨wd_847, wd_30⟩ rfl (Nat.le_of_ble_eq_true rfl) ⟨Nat.le_of_ble_eq_true rfl, Nat.le_of_ble_eq_true rfl⟩ (fun b hb => met_Twins_push  hb) (fun r12 hr12 => ?_)
          refine g_sub [2, 3, 4, 5, 6, 7, 8, 9, 10, 11, 12] rfl ?_
          exact lk_Twins_meet_143 K _ _ _ _ _ _ _ _ _ _ _ ih _
def Twins_meet_102 (k40 : Int → Int → Int → aM → Option aM) (x2 : Int) (x3 : Int) (x4 : Int) (x5 : Int) (x7 : Int) (x8 : Int) (x9 : Int) (x10 : Int) (x11 : Int) (x12 : Int) (mm : aM) : Option aM := k40 x10 x11 (w32 (x12 + 1)) mm
set_option maxHeartbeats 4000000 in
theorem lk_Twins_meet_102 {p : Program} {l : Launch} {e : Env} {s : State} {m : MethodId} {args : Array Value} {below : List Frame} {meth : Method} {c : Code} {D : va_G} {cA : FieldType → ClassId} {ad adV : Nat → Nat} {z0 : Nat} {al0 : List Nat} (K : aK p s m args meth c mX9_meet D cA ad adV z0) (x2 : Int) (x3 : Int) (x4 : Int) (x5 : Int) (x7 : Int) (x8 : Int) (x9 : Int) (x10 : Int) (x11 : Int) (x12 : Int) (k40 : Int → Int → Int → aM → Option aM) (hk40 : ∀ (x10 : Int) (x11 : Int) (x12 : Int) (mm : aM), aG p l e { frames := 2, cells := 0, slots := 0, locals := 50 } s m args below meth c D cA ad z0 mX9_meet al0 rM (k40 x10 x11 x12 mm) 40 [(0, .inr (.inr (.inl (some 80)))), (2, .inl x2), (3, .inl x3), (4, .inl x4), (5, .inl x5), (7, .inl x7), (8, .inl x8), (9, .inl x9), (10, .inl x10), (11, .inl x11), (12, .inl x12)] [] mm)  (mm : aM) : aG p l e { frames := 2, cells := 0, slots := 0, locals := 50 } s m args below meth c D cA ad z0 mX9_meet al0 rM (Twins_meet_102 k40 x2 x3 x4 x5 x7 x8 x9 x10 x11 x12 mm) 102 [(0, .inr (.inr (.inl (some 80)))), (2, .inl x2), (3, .inl x3), (4, .inl x4), (5, .inl x5), (7, .inl x7), (8, .inl x8), (9, .inl x9), (10, .inl x10), (11, .inl x11), (12, .inl x12)] [] mm := by
  unfold Twins_meet_102
  refine gl (i' := 103) (fun _ _ => aw_iinc K (dOf ck_mX9_meet rfl rfl) (Nat.le_of_ble_eq_true rfl) rfl) ?_
  refine g_lv (lv' := [(12, .inl _), (0, .inr (.inr (.inl (some _)))), (2, .inl _), (3, .inl _), (4, .inl _), (5, .inl _), (7, .inl _), (8, .inl _), (9, .inl _), (10, .inl _), (11, .inl _)]) rfl ?_
  refine g_goto K (dOf ck_mX9_meet rfl rfl).1 (t := 40) (aJ_of (by decide +kernel)) ?_
  refine g_sub [1, 2, 3, 4, 5, 6, 7, 8, 9, 10, 0] rfl ?_
  exact hk40 _ _ _ _
def Twins_meet_91 (k40 : Int → Int → Int → aM → Option aM) (x2 : Int) (x3 : Int) (x4 : Int) (x5 : Int) (x7 : Int) (x8 : Int) (x9 : Int) (x10 : Int) (x11 : Int) (x12 : Int) (mm : aM) : Option aM := if (w32 (2 * (mm 80 9))) < (w32 (x10 + (w32 (2 * x11)))) then (some mm) else (Twins_meet_102 k40 x2 x3 x4 x5 x7 x8 x9 x10 x11 x12 mm)
set_option maxHeartbeats 4000000 in
theorem lk_Twins_meet_91 {p : Program} {l : Launch} {e : Env} {s : State} {m : MethodId} {args : Array Value} {below : List Frame} {meth : Method} {c : Code} {D : va_G} {cA : FieldType → ClassId} {ad adV : Nat → Nat} {z0 : Nat} {al0 : List Nat} (K : aK p s m args meth c mX9_meet D cA ad adV z0) (x2 : Int) (x3 : Int) (x4 : Int) (x5 : Int) (x7 : Int) (x8 : Int) (x9 : Int) (x10 : Int) (x11 : Int) (x12 : Int) (k40 : Int → Int → Int → aM → Option aM) (hk40 : ∀ (x10 : Int) (x11 : Int) (x12 : Int) (mm : aM), aG p l e { frames := 2, cells := 0, slots := 0, locals := 50 } s m args below meth c D cA ad z0 mX9_meet al0 rM (k40 x10 x11 x12 mm) 40 [(0, .inr (.inr (.inl (some 80)))), (2, .inl x2), (3, .inl x3), (4, .inl x4), (5, .inl x5), (7, .inl x7), (8, .inl x8), (9, .inl x9), (10, .inl x10), (11, .inl x11), (12, .inl x12)] [] mm)  (mm : aM) : aG p l e { frames := 2, cells := 0, slots := 0, locals := 50 } s m args below meth c D cA ad z0 mX9_meet al0 rM (Twins_meet_91 k40 x2 x3 x4 x5 x7 x8 x9 x10 x11 x12 mm) 91 [(0, .inr (.inr (.inl (some 80)))), (2, .inl x2), (3, .inl x3), (4, .inl x4), (5, .inl x5), (7, .inl x7), (8, .inl x8), (9, .inl x9), (10, .inl x10), (11, .inl x11), (12, .inl x12)] [] mm := by
  unfold Twins_meet_91
  refine gl (i' := 92) (fun _ _ => aw_iload K (dOf ck_mX9_meet rfl rfl) rfl) ?_
  refine gl (i' := 93) (fun _ _ => aw_iconst K (n := 2) (i32 _ rfl) (dOf ck_mX9_meet rfl rfl)) ?_
  refine gl (i' := 94) (fun _ _ => aw_iload K (dOf ck_mX9_meet rfl rfl) rfl) ?_
  refine gl (i' := 95) (fun _ _ => aw_imul K (dOf ck_mX9_meet rfl rfl)) ?_
  refine gl (i' := 96) (fun _ _ => aw_iadd K (dOf ck_mX9_meet rfl rfl)) ?_
  refine gl (i' := 97) (fun _ _ => aw_iconst K (n := 2) (i32 _ rfl) (dOf ck_mX9_meet rfl rfl)) ?_
  refine gl (i' := 98) (fun _ _ => aw_aload_n K (dOf ck_mX9_meet rfl rfl) rfl) ?_
  refine gl (i' := 99) (fun _ _ => aw_getf K (dOf ck_mX9_meet rfl rfl) rfl rfl (Nat.le_of_ble_eq_true rfl) wd_400 (k := 9) rfl) ?_
  refine gl (i' := 100) (fun _ _ => aw_imul K (dOf ck_mX9_meet rfl rfl)) ?_
  refine g_icmp_le K (dOf ck_mX9_meet rfl rfl) (t := 102) (aJ_of (by decide +kernel)) (fun h22 => ?_) (fun h22 => ?_)
  · exact g_vret K (dOf ck_mX9_meet rfl rfl).1 rfl rfl
  · refine g_sub [0, 1, 2, 3, 4, 5, 6, 7, 8, 9, 10] rfl ?_
    exact lk_Twins_meet_102 K _ _ _ _ _ _ _ _ _ _ _ hk40 _
def Twins_meet_40 (x2 : Int) (x3 : Int) (x4 : Int) (x5 : Int) (x7 : Int) (x8 : Int) (x9 : Int) : Nat → Int → Int → Int → aM → Option aM
  | 0, _, _, _, _ => none
  | n + 1, x10, x11, x12, mm => if x12 < x9 then (if 0 ≤ x4 ∧ x4 < 13 then (if 0 ≤ (w32 ((w32 ((mm 95 x4.toNat) - x5)) + x12)) ∧ (w32 ((w32 ((mm 95 x4.toNat) - x5)) + x12)) < 7 then (if 0 ≤ x2 ∧ x2 < 13 then (if 0 ≤ x12 ∧ x12 < 7 then (if (mm (82 + x4.toNat) (w32 ((w32 ((mm 95 x4.toNat) - x5)) + x12)).toNat) = (mm (82 + x2.toNat) x12.toNat) then (Twins_meet_102 (Twins_meet_40 x2 x3 x4 x5 x7 x8 x9 n) x2 x3 x4 x5 x7 x8 x9 x10 x11 x12 mm) else (if 0 ≤ (mm (82 + x4.toNat) (w32 ((w32 ((mm 95 x4.toNat) - x5)) + x12)).toNat) ∧ (mm (82 + x4.toNat) (w32 ((w32 ((mm 95 x4.toNat) - x5)) + x12)).toNat) < 9 then (if (iand (ishr (mm 98 (mm (82 + x4.toNat) (w32 ((w32 ((mm 95 x4.toNat) - x5)) + x12)).toNat).toNat) (mm (82 + x2.toNat) x12.toNat)) 1) = 0 then (if 0 ≤ (mm (82 + x2.toNat) x12.toNat) ∧ (mm (82 + x2.toNat) x12.toNat) < 9 then (if (iand (mm 98 (mm (82 + x4.toNat) (w32 ((w32 ((mm 95 x4.toNat) - x5)) + x12)).toNat).toNat) (mm 98 (mm (82 + x2.toNat) x12.toNat).toNat)) = 0 then (some mm) else (Twins_meet_91 (Twins_meet_40 x2 x3 x4 x5 x7 x8 x9 n) x2 x3 x4 x5 x7 x8 x9 x10 (w32 (x11 + 1)) x12 mm)) else none) else (Twins_meet_91 (Twins_meet_40 x2 x3 x4 x5 x7 x8 x9 n) x2 x3 x4 x5 x7 x8 x9 (w32 (x10 + 1)) x11 x12 mm)) else none)) else none) else none) else none) else none) else (Twins_meet_106 x2 x3 x4 x5 x7 x8 x9 x10 x11 FU 0 mm)
set_option maxHeartbeats 4000000 in
theorem lk_Twins_meet_40 {p : Program} {l : Launch} {e : Env} {s : State} {m : MethodId} {args : Array Value} {below : List Frame} {meth : Method} {c : Code} {D : va_G} {cA : FieldType → ClassId} {ad adV : Nat → Nat} {z0 : Nat} {al0 : List Nat} (K : aK p s m args meth c mX9_meet D cA ad adV z0) (x2 : Int) (x3 : Int) (x4 : Int) (x5 : Int) (x7 : Int) (x8 : Int) (x9 : Int)  : ∀ (n : Nat) (x10 : Int) (x11 : Int) (x12 : Int) (mm : aM), aG p l e { frames := 2, cells := 0, slots := 0, locals := 50 } s m args below meth c D cA ad z0 mX9_meet al0 rM (Twins_meet_40 x2 x3 x4 x5 x7 x8 x9 n x10 x11 x12 mm) 40 [(0, .inr (.inr (.inl (some 80)))), (2, .inl x2), (3, .inl x3), (4, .inl x4), (5, .inl x5), (7, .inl x7), (8, .inl x8), (9, .inl x9), (10, .inl x10), (11, .inl x11), (12, .inl x12)] [] mm := by
  intro n
  induction n with
  | zero => intro x10 x11 x12 mm; exact g_none
  | succ n ih =>
    intro x10 x11 x12 mm
    rw [Twins_meet_40]
    refine gl (i' := 41) (fun _ _ => aw_iload K (dOf ck_mX9_meet rfl rfl) rfl) ?_
    refine gl (i' := 42) (fun _ _ => aw_iload K (dOf ck_mX9_meet rfl rfl) rfl) ?_
    refine g_icmp_ge K (dOf ck_mX9_meet rfl rfl) (t := 104) (aJ_of (by decide +kernel)) (fun h7 => ?_) (fun h7 => ?_)
    · refine gl (i' := 44) (fun _ _ => aw_aload_n K (dOf ck_mX9_meet rfl rfl) rfl) ?_
      refine gl (i' := 45) (fun _ _ => aw_getf K (dOf ck_mX9_meet rfl rfl) rfl rfl (Nat.le_of_ble_eq_true rfl) wd_394 (k := 3) rfl) ?_
      refine gl (i' := 46) (fun _ _ => aw_iload K (dOf ck_mX9_meet rfl rfl) rfl) ?_
      refine g_gd (fun hb13 => ?_)
      refine gl (i' := 47) (fun _ _ => aw_aald K (dOf ck_mX9_meet rfl rfl) shWa hb13 (rsW_at hb13)) ?_
      refine gl (i' := 48) (fun _ _ => aw_aload_n K (dOf ck_mX9_meet rfl rfl) rfl) ?_
      refine gl (i' := 49) (fun _ _ => aw_getf K (dOf ck_mX9_meet rfl rfl) rfl rfl (Nat.le_of_ble_eq_true rfl) wd_395 (k := 4) rfl) ?_
      refine gl (i' := 50) (fun _ _ => aw_iload K (dOf ck_mX9_meet rfl rfl) rfl) ?_
      refine gl (i' := 51) (fun _ _ => aw_iald K (dOf ck_mX9_meet rfl rfl) rfl hb13) ?_
      refine gl (i' := 52) (fun _ _ => aw_iload K (dOf ck_mX9_meet rfl rfl) rfl) ?_
      refine gl (i' := 53) (fun _ _ => aw_isub K (dOf ck_mX9_meet rfl rfl)) ?_
      refine gl (i' := 54) (fun _ _ => aw_iload K (dOf ck_mX9_meet rfl rfl) rfl) ?_
      refine gl (i' := 55) (fun _ _ => aw_iadd K (dOf ck_mX9_meet rfl rfl)) ?_
      refine g_gd (fun hb14 => ?_)
      refine gl (i' := 56) (fun _ _ => aw_bald K (dOf ck_mX9_meet rfl rfl) (shWr hb13) hb14) ?_
      refine gl (i' := 57) (fun _ _ => aw_istore K (dOf ck_mX9_meet rfl rfl) (Nat.le_of_ble_eq_true rfl)) ?_
      refine g_lv (lv' := [(13, .inl _), (0, .inr (.inr (.inl (some _)))), (2, .inl _), (3, .inl _), (4, .inl _), (5, .inl _), (7, .inl _), (8, .inl _), (9, .inl _), (10, .inl _), (11, .inl _), (12, .inl _)]) rfl ?_
      refine gl (i' := 58) (fun _ _ => aw_aload_n K (dOf ck_mX9_meet rfl rfl) rfl) ?_
      refine gl (i' := 59) (fun _ _ => aw_getf K (dOf ck_mX9_meet rfl rfl) rfl rfl (Nat.le_of_ble_eq_true rfl) wd_394 (k := 3) rfl) ?_
      refine gl (i' := 60) (fun _ _ => aw_iload_n K (dOf ck_mX9_meet rfl rfl) rfl) ?_
      refine g_gd (fun hb15 => ?_)
      refine gl (i' := 61) (fun _ _ => aw_aald K (dOf ck_mX9_meet rfl rfl) shWa hb15 (rsW_at hb15)) ?_
      refine gl (i' := 62) (fun _ _ => aw_iload K (dOf ck_mX9_meet rfl rfl) rfl) ?_
      refine g_gd (fun hb16 => ?_)
      refine gl (i' := 63) (fun _ _ => aw_bald K (dOf ck_mX9_meet rfl rfl) (shWr hb15) hb16) ?_
      refine gl (i' := 64) (fun _ _ => aw_istore K (dOf ck_mX9_meet rfl rfl) (Nat.le_of_ble_eq_true rfl)) ?_
      refine g_lv (lv' := [(14, .inl _), (13, .inl _), (0, .inr (.inr (.inl (some _)))), (2, .inl _), (3, .inl _), (4, .inl _), (5, .inl _), (7, .inl _), (8, .inl _), (9, .inl _), (10, .inl _), (11, .inl _), (12, .inl _)]) rfl ?_
      refine gl (i' := 65) (fun _ _ => aw_iload K (dOf ck_mX9_meet rfl rfl) rfl) ?_
      refine gl (i' := 66) (fun _ _ => aw_iload K (dOf ck_mX9_meet rfl rfl) rfl) ?_
      refine g_icmp_eq K (dOf ck_mX9_meet rfl rfl) (t := 102) (aJ_of (by decide +kernel)) (fun h17 => ?_) (fun h17 => ?_)
      · refine g_sub [2, 3, 4, 5, 6, 7, 8, 9, 10, 11, 12] rfl ?_
        exact lk_Twins_meet_102 K _ _ _ _ _ _ _ _ _ _ _ ih _
      · refine gl (i' := 68) (fun _ _ => aw_aload_n K (dOf ck_mX9_meet rfl rfl) rfl) ?_
        refine gl (i' := 69) (fun _ _ => aw_getf K (dOf ck_mX9_meet rfl rfl) rfl rfl (Nat.le_of_ble_eq_true rfl) wd_398 (k := 7) rfl) ?_
        refine gl (i' := 70) (fun _ _ => aw_iload K (dOf ck_mX9_meet rfl rfl) rfl) ?_
        refine g_gd (fun hb18 => ?_)
        refine gl (i' := 71) (fun _ _ => aw_iald K (dOf ck_mX9_meet rfl rfl) rfl hb18) ?_
        refine gl (i' := 72) (fun _ _ => aw_iload K (dOf ck_mX9_meet rfl rfl) rfl) ?_
        refine gl (i' := 73) (fun _ _ => aw_ishr K (dOf ck_mX9_meet rfl rfl)) ?_
        refine gl (i' := 74) (fun _ _ => aw_iconst K (n := 1) (i32 _ rfl) (dOf ck_mX9_meet rfl rfl)) ?_
        refine gl (i' := 75) (fun _ _ => aw_iand K (dOf ck_mX9_meet rfl rfl)) ?_
        refine g_if_eq K (dOf ck_mX9_meet rfl rfl) (t := 78) (aJ_of (by decide +kernel)) (fun h19 => ?_) (fun h19 => ?_)
        · refine gl (i' := 79) (fun _ _ => aw_aload_n K (dOf ck_mX9_meet rfl rfl) rfl) ?_
          refine gl (i' := 80) (fun _ _ => aw_getf K (dOf ck_mX9_meet rfl rfl) rfl rfl (Nat.le_of_ble_eq_true rfl) wd_398 (k := 7) rfl) ?_
          refine gl (i' := 81) (fun _ _ => aw_iload K (dOf ck_mX9_meet rfl rfl) rfl) ?_
          refine gl (i' := 82) (fun _ _ => aw_iald K (dOf ck_mX9_meet rfl rfl) rfl hb18) ?_
          refine gl (i' := 83) (fun _ _ => aw_aload_n K (dOf ck_mX9_meet rfl rfl) rfl) ?_
          refine gl (i' := 84) (fun _ _ => aw_getf K (dOf ck_mX9_meet rfl rfl) rfl rfl (Nat.le_of_ble_eq_true rfl) wd_398 (k := 7) rfl) ?_
          refine gl (i' := 85) (fun _ _ => aw_iload K (dOf ck_mX9_meet rfl rfl) rfl) ?_
          refine g_gd (fun hb20 => ?_)
          refine gl (i' := 86) (fun _ _ => aw_iald K (dOf ck_mX9_meet rfl rfl) rfl hb20) ?_
          refine gl (i' := 87) (fun _ _ => aw_iand K (dOf ck_mX9_meet rfl rfl)) ?_
          refine g_if_eq K (dOf ck_mX9_meet rfl rfl) (t := 90) (aJ_of (by decide +kernel)) (fun h21 => ?_) (fun h21 => ?_)
          · exact g_vret K (dOf ck_mX9_meet rfl rfl).1 rfl rfl
          · refine gl (i' := 89) (fun _ _ => aw_iinc K (dOf ck_mX9_meet rfl rfl) (Nat.le_of_ble_eq_true rfl) rfl) ?_
            refine g_lv (lv' := [(11, .inl _), (14, .inl _), (13, .inl _), (0, .inr (.inr (.inl (some _)))), (2, .inl _), (3, .inl _), (4, .inl _), (5, .inl _), (7, .inl _), (8, .inl _), (9, .inl _), (10, .inl _), (12, .inl _)]) rfl ?_
            refine g_goto K (dOf ck_mX9_meet rfl rfl).1 (t := 91) (aJ_of (by decide +kernel)) ?_
            refine g_sub [3, 4, 5, 6, 7, 8, 9, 10, 11, 0, 12] rfl ?_
            exact lk_Twins_meet_91 K _ _ _ _ _ _ _ _ _ _ _ ih _
        · refine gl (i' := 77) (fun _ _ => aw_iinc K (dOf ck_mX9_meet rfl rfl) (Nat.le_of_ble_eq_true rfl) rfl) ?_
          refine g_lv (lv' := [(10, .inl _), (14, .inl _), (13, .inl _), (0, .inr (.inr (.inl (some _)))), (2, .inl _), (3, .inl _), (4, .inl _), (5, .inl _), (7, .inl _), (8, .inl _), (9, .inl _), (11, .inl _), (12, .inl _)]) rfl ?_
          refine g_goto K (dOf ck_mX9_meet rfl rfl).1 (t := 91) (aJ_of (by decide +kernel)) ?_
          refine g_sub [3, 4, 5, 6, 7, 8, 9, 10, 0, 11, 12] rfl ?_
          exact lk_Twins_meet_91 K _ _ _ _ _ _ _ _ _ _ _ ih _
    · refine gl (i' := 105) (fun _ _ => aw_iconst K (n := 0) (i32 _ rfl) (dOf ck_mX9_meet rfl rfl)) ?_
      refine gl (i' := 106) (fun _ _ => aw_istore K (dOf ck_mX9_meet rfl rfl) (Nat.le_of_ble_eq_true rfl)) ?_
      refine g_lv (lv' := [(12, .inl _), (0, .inr (.inr (.inl (some _)))), (2, .inl _), (3, .inl _), (4, .inl _), (5, .inl _), (7, .inl _), (8, .inl _), (9, .inl _), (10, .inl _), (11, .inl _)]) rfl ?_
      refine g_sub [1, 2, 3, 4, 5, 6, 7, 8, 9, 10, 0] rfl ?_
      exact lk_Twins_meet_106 K _ _ _ _ _ _ _ _ _ FU _ _
def Twins_meet (x1 : Int) (x2 : Int) (x3 : Int) (mm : aM) : Option aM := (Twins_wordOut x1 mm).bind fun r1 => ((Twins_lengthOut x1 mm).bind fun r2 => (if (mm 80 10) ≠ 0 then (if (w32 ((mm 80 9) + 1)) ≠ 0 then (if 0 ≤ x2 ∧ x2 < 13 then ((Jmath_min r2 (mm 95 x2.toNat) mm).bind fun r6 => (Twins_meet_40 x2 x3 r1 r2 (w32 (Int.tdiv (Int.tmod x1 (mm 80 10)) (w32 ((mm 80 9) + 1)))) (Int.tmod (Int.tmod x1 (mm 80 10)) (w32 ((mm 80 9) + 1))) r6 FU 0 0 0 mm)) else none) else none) else none))
set_option maxHeartbeats 4000000 in
theorem met_Twins_meet {l : Launch} {D : va_G} {cA : FieldType → ClassId} {ad adV : Nat → Nat} {z0 : Nat} {x1 : Int} {x2 : Int} {x3 : Int} {mm : aM}  {r : aM} (h : Twins_meet x1 x2 x3 mm = some r) : aMet l D cA ad adV z0 mX9_meet 2 50 0 0 [.inr (.inr (.inl (some 80))), .inl x1, .inl x2, .inl x3] SH mm (rM r).1 SH (rM r).2 := by
  refine aMet_ofG (by decide +kernel) rfl (Nat.le_of_ble_eq_true rfl) h (fun p e s m args below meth c al0 K => ?_)
  unfold Twins_meet
  refine gl (i' := 1) (fun _ _ => aw_aload_n K (dOf ck_mX9_meet rfl rfl) rfl) ?_
  refine gl (i' := 2) (fun _ _ => aw_iload_n K (dOf ck_mX9_meet rfl rfl) rfl) ?_
  refine g_callVI K [.inl _] rfl (dOf ck_mX9_meet rfl rfl) al_OneBreath_Twins_161 rfl rfl ⟨wd_880, wd_37⟩ rfl (Nat.le_of_ble_eq_true rfl) ⟨Nat.le_of_ble_eq_true rfl, Nat.le_of_ble_eq_true rfl⟩ (fun b hb => met_Twins_wordOut  hb) (fun r1 hr1 => ?_)
  refine gl (i' := 4) (fun _ _ => aw_istore K (dOf ck_mX9_meet rfl rfl) (Nat.le_of_ble_eq_true rfl)) ?_
  refine g_lv (lv' := [(4, .inl _), (0, .inr (.inr (.inl (some _)))), (1, .inl _), (2, .inl _), (3, .inl _)]) rfl ?_
  refine gl (i' := 5) (fun _ _ => aw_aload_n K (dOf ck_mX9_meet rfl rfl) rfl) ?_
  refine gl (i' := 6) (fun _ _ => aw_iload_n K (dOf ck_mX9_meet rfl rfl) rfl) ?_
  refine g_callVI K [.inl _] rfl (dOf ck_mX9_meet rfl rfl) al_OneBreath_Twins_164 rfl rfl ⟨wd_886, wd_39⟩ rfl (Nat.le_of_ble_eq_true rfl) ⟨Nat.le_of_ble_eq_true rfl, Nat.le_of_ble_eq_true rfl⟩ (fun b hb => met_Twins_lengthOut  hb) (fun r2 hr2 => ?_)
  refine gl (i' := 8) (fun _ _ => aw_istore K (dOf ck_mX9_meet rfl rfl) (Nat.le_of_ble_eq_true rfl)) ?_
  refine g_lv (lv' := [(5, .inl _), (4, .inl _), (0, .inr (.inr (.inl (some _)))), (1, .inl _), (2, .inl _), (3, .inl _)]) rfl ?_
  refine gl (i' := 9) (fun _ _ => aw_iload_n K (dOf ck_mX9_meet rfl rfl) rfl) ?_
  refine gl (i' := 10) (fun _ _ => aw_aload_n K (dOf ck_mX9_meet rfl rfl) rfl) ?_
  refine gl (i' := 11) (fun _ _ => aw_getf K (dOf ck_mX9_meet rfl rfl) rfl rfl (Nat.le_of_ble_eq_true rfl) wd_401 (k := 10) rfl) ?_
  refine g_gd (fun hb3 => ?_)
  refine gl (i' := 12) (fun _ _ => aw_irem K hb3 (dOf ck_mX9_meet rfl rfl)) ?_
  refine gl (i' := 13) (fun _ _ => aw_istore K (dOf ck_mX9_meet rfl rfl) (Nat.le_of_ble_eq_true rfl)) ?_
  refine g_lv (lv' := [(6, .inl _), (5, .inl _), (4, .inl _), (0, .inr (.inr (.inl (some _)))), (1, .inl _), (2, .inl _), (3, .inl _)]) rfl ?_
  refine gl (i' := 14) (fun _ _ => aw_iload K (dOf ck_mX9_meet rfl rfl) rfl) ?_
  refine gl (i' := 15) (fun _ _ => aw_aload_n K (dOf ck_mX9_meet rfl rfl) rfl) ?_
  refine gl (i' := 16) (fun _ _ => aw_getf K (dOf ck_mX9_meet rfl rfl) rfl rfl (Nat.le_of_ble_eq_true rfl) wd_400 (k := 9) rfl) ?_
  refine gl (i' := 17) (fun _ _ => aw_iconst K (n := 1) (i32 _ rfl) (dOf ck_mX9_meet rfl rfl)) ?_
  refine gl (i' := 18) (fun _ _ => aw_iadd K (dOf ck_mX9_meet rfl rfl)) ?_
  refine g_gd (fun hb4 => ?_)
  refine gl (i' := 19) (fun _ _ => aw_idiv K hb4 (dOf ck_mX9_meet rfl rfl)) ?_
  refine gl (i' := 20) (fun _ _ => aw_istore K (dOf ck_mX9_meet rfl rfl) (Nat.le_of_ble_eq_true rfl)) ?_
  refine g_lv (lv' := [(7, .inl _), (6, .inl _), (5, .inl _), (4, .inl _), (0, .inr (.inr (.inl (some _)))), (1, .inl _), (2, .inl _), (3, .inl _)]) rfl ?_
  refine gl (i' := 21) (fun _ _ => aw_iload K (dOf ck_mX9_meet rfl rfl) rfl) ?_
  refine gl (i' := 22) (fun _ _ => aw_aload_n K (dOf ck_mX9_meet rfl rfl) rfl) ?_
  refine gl (i' := 23) (fun _ _ => aw_getf K (dOf ck_mX9_meet rfl rfl) rfl rfl (Nat.le_of_ble_eq_true rfl) wd_400 (k := 9) rfl) ?_
  refine gl (i' := 24) (fun _ _ => aw_iconst K (n := 1) (i32 _ rfl) (dOf ck_mX9_meet rfl rfl)) ?_
  refine gl (i' := 25) (fun _ _ => aw_iadd K (dOf ck_mX9_meet rfl rfl)) ?_
  refine gl (i' := 26) (fun _ _ => aw_irem K hb4 (dOf ck_mX9_meet rfl rfl)) ?_
  refine gl (i' := 27) (fun _ _ => aw_istore K (dOf ck_mX9_meet rfl rfl) (Nat.le_of_ble_eq_true rfl)) ?_
  refine g_lv (lv' := [(8, .inl _), (7, .inl _), (6, .inl _), (5, .inl _), (4, .inl _), (0, .inr (.inr (.inl (some _)))), (1, .inl _), (2, .inl _), (3, .inl _)]) rfl ?_
  refine gl (i' := 28) (fun _ _ => aw_iload K (dOf ck_mX9_meet rfl rfl) rfl) ?_
  refine gl (i' := 29) (fun _ _ => aw_aload_n K (dOf ck_mX9_meet rfl rfl) rfl) ?_
  refine gl (i' := 30) (fun _ _ => aw_getf K (dOf ck_mX9_meet rfl rfl) rfl rfl (Nat.le_of_ble_eq_true rfl) wd_395 (k := 4) rfl) ?_
  refine gl (i' := 31) (fun _ _ => aw_iload_n K (dOf ck_mX9_meet rfl rfl) rfl) ?_
  refine g_gd (fun hb5 => ?_)
  refine gl (i' := 32) (fun _ _ => aw_iald K (dOf ck_mX9_meet rfl rfl) rfl hb5) ?_
  refine g_callSI K [.inl _, .inl _] rfl (dOf ck_mX9_meet rfl rfl) al_OneBreath_Twins_167 wd_496 rfl (Nat.le_of_ble_eq_true rfl) ⟨Nat.le_of_ble_eq_true rfl, Nat.le_of_ble_eq_true rfl⟩ (fun b hb => met_Jmath_min  hb) (fun r6 hr6 => ?_)
  refine gl (i' := 34) (fun _ _ => aw_istore K (dOf ck_mX9_meet rfl rfl) (Nat.le_of_ble_eq_true rfl)) ?_
  refine g_lv (lv' := [(9, .inl _), (8, .inl _), (7, .inl _), (6, .inl _), (5, .inl _), (4, .inl _), (0, .inr (.inr (.inl (some _)))), (1, .inl _), (2, .inl _), (3, .inl _)]) rfl ?_
  refine gl (i' := 35) (fun _ _ => aw_iconst K (n := 0) (i32 _ rfl) (dOf ck_mX9_meet rfl rfl)) ?_
  refine gl (i' := 36) (fun _ _ => aw_istore K (dOf ck_mX9_meet rfl rfl) (Nat.le_of_ble_eq_true rfl)) ?_
  refine g_lv (lv' := [(10, .inl _), (9, .inl _), (8, .inl _), (7, .inl _), (6, .inl _), (5, .inl _), (4, .inl _), (0, .inr (.inr (.inl (some _)))), (1, .inl _), (2, .inl _), (3, .inl _)]) rfl ?_
  refine gl (i' := 37) (fun _ _ => aw_iconst K (n := 0) (i32 _ rfl) (dOf ck_mX9_meet rfl rfl)) ?_
  refine gl (i' := 38) (fun _ _ => aw_istore K (dOf ck_mX9_meet rfl rfl) (Nat.le_of_ble_eq_true rfl)) ?_
  refine g_lv (lv' := [(11, .inl _), (10, .inl _), (9, .inl _), (8, .inl _), (7, .inl _), (6, .inl _), (5, .inl _), (4, .inl _), (0, .inr (.inr (.inl (some _)))), (1, .inl _), (2, .inl _), (3, .inl _)]) rfl ?_
  refine gl (i' := 39) (fun _ _ => aw_iconst K (n := 0) (i32 _ rfl) (dOf ck_mX9_meet rfl rfl)) ?_
  refine gl (i' := 40) (fun _ _ => aw_istore K (dOf ck_mX9_meet rfl rfl) (Nat.le_of_ble_eq_true rfl)) ?_
  refine g_lv (lv' := [(12, .inl _), (11, .inl _), (10, .inl _), (9, .inl _), (8, .inl _), (7, .inl _), (6, .inl _), (5, .inl _), (4, .inl _), (0, .inr (.inr (.inl (some _)))), (1, .inl _), (2, .inl _), (3, .inl _)]) rfl ?_
  refine g_sub [9, 11, 12, 8, 7, 5, 4, 3, 2, 1, 0] rfl ?_
  exact lk_Twins_meet_40 K _ _ _ _ _ _ _ FU _ _ _ _
def Twins_visit_76 (x1 : Int) (x2 : Int) : Nat → Int → aM → Option aM
  | 0, _, _ => none
  | n + 1, x3, mm => if x3 = 0 then (some mm) else ((Jint_numberOfTrailingZeros x3 mm).bind fun r6 => ((Twins_meet x1 r6 x2 mm).bind fun r7 => (Twins_visit_76 x1 x2 n (iand x3 (w32 (x3 - 1))) r7)))
set_option maxHeartbeats 4000000 in
theorem lk_Twins_visit_76 {p : Program} {l : Launch} {e : Env} {s : State} {m : MethodId} {args : Array Value} {below : List Frame} {meth : Method} {c : Code} {D : va_G} {cA : FieldType → ClassId} {ad adV : Nat → Nat} {z0 : Nat} {al0 : List Nat} (K : aK p s m args meth c mX9_visit D cA ad adV z0) (x1 : Int) (x2 : Int)  : ∀ (n : Nat) (x3 : Int) (mm : aM), aG p l e { frames := 3, cells := 0, slots := 0, locals := 84 } s m args below meth c D cA ad z0 mX9_visit al0 rM (Twins_visit_76 x1 x2 n x3 mm) 76 [(0, .inr (.inr (.inl (some 80)))), (1, .inl x1), (2, .inl x2), (3, .inl x3)] [] mm := by
  intro n
  induction n with
  | zero => intro x3 mm; exact g_none
  | succ n ih =>
    intro x3 mm
    rw [Twins_visit_76]
    refine gl (i' := 77) (fun _ _ => aw_iload_n K (dOf ck_mX9_visit rfl rfl) rfl) ?_
    refine g_if_eq K (dOf ck_mX9_visit rfl rfl) (t := 91) (aJ_of (by decide +kernel)) (fun h5 => ?_) (fun h5 => ?_)
    · exact g_vret K (by decide +kernel) rfl rfl
    · refine gl (i' := 79) (fun _ _ => aw_aload_n K (dOf ck_mX9_visit rfl rfl) rfl) ?_
      refine gl (i' := 80) (fun _ _ => aw_iload_n K (dOf ck_mX9_visit rfl rfl) rfl) ?_
      refine gl (i' := 81) (fun _ _ => aw_iload_n K (dOf ck_mX9_visit rfl rfl) rfl) ?_
      refine g_callSI K [.inl _] rfl (dOf ck_mX9_visit rfl rfl) al_OneBreath_Twins_147 wd_860 rfl (Nat.le_of_ble_eq_true rfl) ⟨Nat.le_of_ble_eq_true rfl, Nat.le_of_ble_eq_true rfl⟩ (fun b hb => met_Jint_numberOfTrailingZeros  hb) (fun r6 hr6 => ?_)
      refine gl (i' := 83) (fun _ _ => aw_iload_n K (dOf ck_mX9_visit rfl rfl) rfl) ?_
      refine g_callVM K [.inl _, .inl _, .inl _] rfl (dOf ck_mX9_visit rfl rfl) al_OneBreath_Twins_154 rfl rfl ⟨wd_883, wd_38⟩ rfl (Nat.le_of_ble_eq_true rfl) ⟨Nat.le_of_ble_eq_true rfl, Nat.le_of_ble_eq_true rfl⟩ (fun b hb => met_Twins_meet  hb) (fun r7 hr7 => ?_)
      refine gl (i' := 85) (fun _ _ => aw_iload_n K (dOf ck_mX9_visit rfl rfl) rfl) ?_
      refine gl (i' := 86) (fun _ _ => aw_iload_n K (dOf ck_mX9_visit rfl rfl) rfl) ?_
      refine gl (i' := 87) (fun _ _ => aw_iconst K (n := 1) (i32 _ rfl) (dOf ck_mX9_visit rfl rfl)) ?_
      refine gl (i' := 88) (fun _ _ => aw_isub K (dOf ck_mX9_visit rfl rfl)) ?_
      refine gl (i' := 89) (fun _ _ => aw_iand K (dOf ck_mX9_visit rfl rfl)) ?_
      refine gl (i' := 90) (fun _ _ => aw_istore_n K (dOf ck_mX9_visit rfl rfl) (Nat.le_of_ble_eq_true rfl)) ?_
      refine g_lv (lv' := [(3, .inl _), (0, .inr (.inr (.inl (some _)))), (1, .inl _), (2, .inl _)]) rfl ?_
      refine g_goto K (dOf ck_mX9_visit rfl rfl).1 (t := 76) (aJ_of (by decide +kernel)) ?_
      refine g_sub [1, 2, 3, 0] rfl ?_
      exact ih _ _
def Twins_visit_42 (x1 : Int) (x2 : Int) (x3 : Int) : Nat → Int → aM → Option aM
  | 0, _, _ => none
  | n + 1, x4, mm => if x4 = 0 then (some mm) else ((Jint_numberOfTrailingZeros x4 mm).bind fun r11 => (if 0 ≤ r11 ∧ r11 < 13 then (if (mm 80 10) ≠ 0 then ((Twins_oddState r11 (mm 95 r11.toNat) (Int.tmod x3 4) (Int.tmod x1 (mm 80 10)) mm).bind fun r14 => ((Twins_push r14 x2 mm).bind fun r15 => (Twins_visit_42 x1 x2 x3 n (iand x4 (w32 (x4 - 1))) r15))) else none) else none))
set_option maxHeartbeats 4000000 in
theorem lk_Twins_visit_42 {p : Program} {l : Launch} {e : Env} {s : State} {m : MethodId} {args : Array Value} {below : List Frame} {meth : Method} {c : Code} {D : va_G} {cA : FieldType → ClassId} {ad adV : Nat → Nat} {z0 : Nat} {al0 : List Nat} (K : aK p s m args meth c mX9_visit D cA ad adV z0) (x1 : Int) (x2 : Int) (x3 : Int)  : ∀ (n : Nat) (x4 : Int) (mm : aM), aG p l e { frames := 3, cells := 0, slots := 0, locals := 84 } s m args below meth c D cA ad z0 mX9_visit al0 rM (Twins_visit_42 x1 x2 x3 n x4 mm) 42 [(0, .inr (.inr (.inl (some 80)))), (1, .inl x1), (2, .inl x2), (3, .inl x3), (4, .inl x4)] [] mm := by
  intro n
  induction n with
  | zero => intro x4 mm; exact g_none
  | succ n ih =>
    intro x4 mm
    rw [Twins_visit_42]
    refine gl (i' := 43) (fun _ _ => aw_iload K (dOf ck_mX9_visit rfl rfl) rfl) ?_
    refine g_if_eq K (dOf ck_mX9_visit rfl rfl) (t := 71) (aJ_of (by decide +kernel)) (fun h10 => ?_) (fun h10 => ?_)
    · exact g_vret K (dOf ck_mX9_visit rfl rfl).1 rfl rfl
    · refine gl (i' := 45) (fun _ _ => aw_iload K (dOf ck_mX9_visit rfl rfl) rfl) ?_
      refine g_callSI K [.inl _] rfl (dOf ck_mX9_visit rfl rfl) al_OneBreath_Twins_147 wd_860 rfl (Nat.le_of_ble_eq_true rfl) ⟨Nat.le_of_ble_eq_true rfl, Nat.le_of_ble_eq_true rfl⟩ (fun b hb => met_Jint_numberOfTrailingZeros  hb) (fun r11 hr11 => ?_)
      refine gl (i' := 47) (fun _ _ => aw_istore K (dOf ck_mX9_visit rfl rfl) (Nat.le_of_ble_eq_true rfl)) ?_
      refine g_lv (lv' := [(5, .inl _), (0, .inr (.inr (.inl (some _)))), (1, .inl _), (2, .inl _), (3, .inl _), (4, .inl _)]) rfl ?_
      refine gl (i' := 48) (fun _ _ => aw_aload_n K (dOf ck_mX9_visit rfl rfl) rfl) ?_
      refine gl (i' := 49) (fun _ _ => aw_aload_n K (dOf ck_mX9_visit rfl rfl) rfl) ?_
      refine gl (i' := 50) (fun _ _ => aw_iload K (dOf ck_mX9_visit rfl rfl) rfl) ?_
      refine gl (i' := 51) (fun _ _ => aw_aload_n K (dOf ck_mX9_visit rfl rfl) rfl) ?_
      refine gl (i' := 52) (fun _ _ => aw_getf K (dOf ck_mX9_visit rfl rfl) rfl rfl (Nat.le_of_ble_eq_true rfl) wd_395 (k := 4) rfl) ?_
      refine gl (i' := 53) (fun _ _ => aw_iload K (dOf ck_mX9_visit rfl rfl) rfl) ?_
      refine g_gd (fun hb12 => ?_)
      refine gl (i' := 54) (fun _ _ => aw_iald K (dOf ck_mX9_visit rfl rfl) rfl hb12) ?_
      refine gl (i' := 55) (fun _ _ => aw_iload_n K (dOf ck_mX9_visit rfl rfl) rfl) ?_
      refine gl (i' := 56) (fun _ _ => aw_iconst K (n := 4) (i32 _ rfl) (dOf ck_mX9_visit rfl rfl)) ?_
      refine gl (i' := 57) (fun _ _ => aw_irem K (by decide) (dOf ck_mX9_visit rfl rfl)) ?_
      refine gl (i' := 58) (fun _ _ => aw_iload_n K (dOf ck_mX9_visit rfl rfl) rfl) ?_
      refine gl (i' := 59) (fun _ _ => aw_aload_n K (dOf ck_mX9_visit rfl rfl) rfl) ?_
      refine gl (i' := 60) (fun _ _ => aw_getf K (dOf ck_mX9_visit rfl rfl) rfl rfl (Nat.le_of_ble_eq_true rfl) wd_401 (k := 10) rfl) ?_
      refine g_gd (fun hb13 => ?_)
      refine gl (i' := 61) (fun _ _ => aw_irem K hb13 (dOf ck_mX9_visit rfl rfl)) ?_
      refine g_callVI K [.inl _, .inl _, .inl _, .inl _] rfl (dOf ck_mX9_visit rfl rfl) al_OneBreath_Twins_125 rfl rfl ⟨wd_844, wd_29⟩ rfl (Nat.le_of_ble_eq_true rfl) ⟨Nat.le_of_ble_eq_true rfl, Nat.le_of_ble_eq_true rfl⟩ (fun b hb => met_Twins_oddState  hb) (fun r14 hr14 => ?_)
      refine gl (i' := 63) (fun _ _ => aw_iload_n K (dOf ck_mX9_visit rfl rfl) rfl) ?_
      refine g_callVM K [.inl _, .inl _] rfl (dOf ck_mX9_visit rfl rfl) al_OneBreath_Twins_129 rfl rfl ⟨wd_847, wd_30⟩ rfl (Nat.le_of_ble_eq_true rfl) ⟨Nat.le_of_ble_eq_true rfl, Nat.le_of_ble_eq_true rfl⟩ (fun b hb => met_Twins_push  hb) (fun r15 hr15 => ?_)
      refine gl (i' := 65) (fun _ _ => aw_iload K (dOf ck_mX9_visit rfl rfl) rfl) ?_
      refine gl (i' := 66) (fun _ _ => aw_iload K (dOf ck_mX9_visit rfl rfl) rfl) ?_
      refine gl (i' := 67) (fun _ _ => aw_iconst K (n := 1) (i32 _ rfl) (dOf ck_mX9_visit rfl rfl)) ?_
      refine gl (i' := 68) (fun _ _ => aw_isub K (dOf ck_mX9_visit rfl rfl)) ?_
      refine gl (i' := 69) (fun _ _ => aw_iand K (dOf ck_mX9_visit rfl rfl)) ?_
      refine gl (i' := 70) (fun _ _ => aw_istore K (dOf ck_mX9_visit rfl rfl) (Nat.le_of_ble_eq_true rfl)) ?_
      refine g_lv (lv' := [(4, .inl _), (5, .inl _), (0, .inr (.inr (.inl (some _)))), (1, .inl _), (2, .inl _), (3, .inl _)]) rfl ?_
      refine g_goto K (dOf ck_mX9_visit rfl rfl).1 (t := 42) (aJ_of (by decide +kernel)) ?_
      refine g_sub [2, 3, 4, 5, 0] rfl ?_
      exact ih _ _
def Twins_visit_26 (x1 : Int) (x2 : Int) (mm : aM) : Option aM := (Twins_isEven x1 mm).bind fun r2 => (if r2 = 0 then ((Twins_nextWords x1 mm).bind fun r4 => (Twins_visit_76 x1 x2 FU r4 mm)) else (if (mm 80 10) ≠ 0 then (if 0 ≤ (w32 (Int.tdiv (w32 (Int.tdiv x1 (mm 80 10))) 4)) ∧ (w32 (Int.tdiv (w32 (Int.tdiv x1 (mm 80 10))) 4)) < 4 then (Twins_visit_42 x1 x2 (w32 (Int.tdiv x1 (mm 80 10))) FU (mm 99 (w32 (Int.tdiv (w32 (Int.tdiv x1 (mm 80 10))) 4)).toNat) mm) else none) else none))
set_option maxHeartbeats 4000000 in
theorem lk_Twins_visit_26 {p : Program} {l : Launch} {e : Env} {s : State} {m : MethodId} {args : Array Value} {below : List Frame} {meth : Method} {c : Code} {D : va_G} {cA : FieldType → ClassId} {ad adV : Nat → Nat} {z0 : Nat} {al0 : List Nat} (K : aK p s m args meth c mX9_visit D cA ad adV z0) (x1 : Int) (x2 : Int)  (mm : aM) : aG p l e { frames := 3, cells := 0, slots := 0, locals := 84 } s m args below meth c D cA ad z0 mX9_visit al0 rM (Twins_visit_26 x1 x2 mm) 26 [(0, .inr (.inr (.inl (some 80)))), (1, .inl x1), (2, .inl x2)] [] mm := by
  unfold Twins_visit_26
  refine gl (i' := 27) (fun _ _ => aw_aload_n K (dOf ck_mX9_visit rfl rfl) rfl) ?_
  refine gl (i' := 28) (fun _ _ => aw_iload_n K (dOf ck_mX9_visit rfl rfl) rfl) ?_
  refine g_callVI K [.inl _] rfl (dOf ck_mX9_visit rfl rfl) al_OneBreath_Twins_144 rfl rfl ⟨wd_867, wd_33⟩ rfl (Nat.le_of_ble_eq_true rfl) ⟨Nat.le_of_ble_eq_true rfl, Nat.le_of_ble_eq_true rfl⟩ (fun b hb => met_Twins_isEven  hb) (fun r2 hr2 => ?_)
  refine g_if_eq K (dOf ck_mX9_visit rfl rfl) (t := 72) (aJ_of (by decide +kernel)) (fun h3 => ?_) (fun h3 => ?_)
  · refine gl (i' := 73) (fun _ _ => aw_aload_n K (dOf ck_mX9_visit rfl rfl) rfl) ?_
    refine gl (i' := 74) (fun _ _ => aw_iload_n K (dOf ck_mX9_visit rfl rfl) rfl) ?_
    refine g_callVI K [.inl _] rfl (dOf ck_mX9_visit rfl rfl) al_OneBreath_Twins_151 rfl rfl ⟨wd_874, wd_35⟩ rfl (Nat.le_of_ble_eq_true rfl) ⟨Nat.le_of_ble_eq_true rfl, Nat.le_of_ble_eq_true rfl⟩ (fun b hb => met_Twins_nextWords  hb) (fun r4 hr4 => ?_)
    refine gl (i' := 76) (fun _ _ => aw_istore_n K (dOf ck_mX9_visit rfl rfl) (Nat.le_of_ble_eq_true rfl)) ?_
    refine g_lv (lv' := [(3, .inl _), (0, .inr (.inr (.inl (some _)))), (1, .inl _), (2, .inl _)]) rfl ?_
    refine g_sub [1, 2, 3, 0] rfl ?_
    exact lk_Twins_visit_76 K _ _ FU _ _
  · refine gl (i' := 31) (fun _ _ => aw_iload_n K (dOf ck_mX9_visit rfl rfl) rfl) ?_
    refine gl (i' := 32) (fun _ _ => aw_aload_n K (dOf ck_mX9_visit rfl rfl) rfl) ?_
    refine gl (i' := 33) (fun _ _ => aw_getf K (dOf ck_mX9_visit rfl rfl) rfl rfl (Nat.le_of_ble_eq_true rfl) wd_401 (k := 10) rfl) ?_
    refine g_gd (fun hb8 => ?_)
    refine gl (i' := 34) (fun _ _ => aw_idiv K hb8 (dOf ck_mX9_visit rfl rfl)) ?_
    refine gl (i' := 35) (fun _ _ => aw_istore_n K (dOf ck_mX9_visit rfl rfl) (Nat.le_of_ble_eq_true rfl)) ?_
    refine g_lv (lv' := [(3, .inl _), (0, .inr (.inr (.inl (some _)))), (1, .inl _), (2, .inl _)]) rfl ?_
    refine gl (i' := 36) (fun _ _ => aw_aload_n K (dOf ck_mX9_visit rfl rfl) rfl) ?_
    refine gl (i' := 37) (fun _ _ => aw_getf K (dOf ck_mX9_visit rfl rfl) rfl rfl (Nat.le_of_ble_eq_true rfl) wd_399 (k := 8) rfl) ?_
    refine gl (i' := 38) (fun _ _ => aw_iload_n K (dOf ck_mX9_visit rfl rfl) rfl) ?_
    refine gl (i' := 39) (fun _ _ => aw_iconst K (n := 4) (i32 _ rfl) (dOf ck_mX9_visit rfl rfl)) ?_
    refine gl (i' := 40) (fun _ _ => aw_idiv K (by decide) (dOf ck_mX9_visit rfl rfl)) ?_
    refine g_gd (fun hb9 => ?_)
    refine gl (i' := 41) (fun _ _ => aw_iald K (dOf ck_mX9_visit rfl rfl) rfl hb9) ?_
    refine gl (i' := 42) (fun _ _ => aw_istore K (dOf ck_mX9_visit rfl rfl) (Nat.le_of_ble_eq_true rfl)) ?_
    refine g_lv (lv' := [(4, .inl _), (3, .inl _), (0, .inr (.inr (.inl (some _)))), (1, .inl _), (2, .inl _)]) rfl ?_
    refine g_sub [2, 3, 4, 1, 0] rfl ?_
    exact lk_Twins_visit_42 K _ _ _ FU _ _
def Twins_visit (x1 : Int) (x2 : Int) (mm : aM) : Option aM := if (mm 80 9) = 0 then (if (mm 80 16) < 471 then (if 0 ≤ (mm 80 16) ∧ (mm 80 16) < 471 then (st1 (aup mm 102 (mm 80 16).toNat (w16 (w16 x1))) fun mm18 => (if 0 ≤ x1 ∧ x1 < 471 then (st1 (aup mm18 103 x1.toNat (w16 (w16 x2))) fun mm20 => (st1 (aup mm20 80 16 (w32 ((mm20 80 16) + 1))) fun mm21 => (Twins_visit_26 x1 x2 mm21))) else none)) else none) else (Twins_visit_26 x1 x2 mm)) else (Twins_visit_26 x1 x2 mm)
set_option maxHeartbeats 4000000 in
theorem met_Twins_visit {l : Launch} {D : va_G} {cA : FieldType → ClassId} {ad adV : Nat → Nat} {z0 : Nat} {x1 : Int} {x2 : Int} {mm : aM}  {r : aM} (h : Twins_visit x1 x2 mm = some r) : aMet l D cA ad adV z0 mX9_visit 3 84 0 0 [.inr (.inr (.inl (some 80))), .inl x1, .inl x2] SH mm (rM r).1 SH (rM r).2 := by
  refine aMet_ofG (by decide +kernel) rfl (Nat.le_of_ble_eq_true rfl) h (fun p e s m args below meth c al0 K => ?_)
  unfold Twins_visit
  refine gl (i' := 1) (fun _ _ => aw_aload_n K (dOf ck_mX9_visit rfl rfl) rfl) ?_
  refine gl (i' := 2) (fun _ _ => aw_getf K (dOf ck_mX9_visit rfl rfl) rfl rfl (Nat.le_of_ble_eq_true rfl) wd_400 (k := 9) rfl) ?_
  refine g_if_ne K (dOf ck_mX9_visit rfl rfl) (t := 26) (aJ_of (by decide +kernel)) (fun h1 => ?_) (fun h1 => ?_)
  · refine gl (i' := 4) (fun _ _ => aw_aload_n K (dOf ck_mX9_visit rfl rfl) rfl) ?_
    refine gl (i' := 5) (fun _ _ => aw_getf K (dOf ck_mX9_visit rfl rfl) rfl rfl (Nat.le_of_ble_eq_true rfl) wd_407 (k := 16) rfl) ?_
    refine gl (i' := 6) (fun _ _ => aw_sip K (dOf ck_mX9_visit rfl rfl) (v := 471) rfl) ?_
    refine g_icmp_ge K (dOf ck_mX9_visit rfl rfl) (t := 26) (aJ_of (by decide +kernel)) (fun h16 => ?_) (fun h16 => ?_)
    · refine gl (i' := 8) (fun _ _ => aw_aload_n K (dOf ck_mX9_visit rfl rfl) rfl) ?_
      refine gl (i' := 9) (fun _ _ => aw_getf K (dOf ck_mX9_visit rfl rfl) rfl rfl (Nat.le_of_ble_eq_true rfl) wd_408 (k := 17) rfl) ?_
      refine gl (i' := 10) (fun _ _ => aw_aload_n K (dOf ck_mX9_visit rfl rfl) rfl) ?_
      refine gl (i' := 11) (fun _ _ => aw_getf K (dOf ck_mX9_visit rfl rfl) rfl rfl (Nat.le_of_ble_eq_true rfl) wd_407 (k := 16) rfl) ?_
      refine gl (i' := 12) (fun _ _ => aw_iload_n K (dOf ck_mX9_visit rfl rfl) rfl) ?_
      refine gl (i' := 13) (fun _ _ => aw_i2s K (dOf ck_mX9_visit rfl rfl)) ?_
      refine g_gd (fun hb17 => ?_)
      refine g_st1 ?_
      refine gl (i' := 14) (fun _ _ => aw_sast K (dOf ck_mX9_visit rfl rfl) rfl hb17) ?_
      refine gl (i' := 15) (fun _ _ => aw_aload_n K (dOf ck_mX9_visit rfl rfl) rfl) ?_
      refine gl (i' := 16) (fun _ _ => aw_getf K (dOf ck_mX9_visit rfl rfl) rfl rfl (Nat.le_of_ble_eq_true rfl) wd_409 (k := 18) rfl) ?_
      refine gl (i' := 17) (fun _ _ => aw_iload_n K (dOf ck_mX9_visit rfl rfl) rfl) ?_
      refine gl (i' := 18) (fun _ _ => aw_iload_n K (dOf ck_mX9_visit rfl rfl) rfl) ?_
      refine gl (i' := 19) (fun _ _ => aw_i2s K (dOf ck_mX9_visit rfl rfl)) ?_
      refine g_gd (fun hb19 => ?_)
      refine g_st1 ?_
      refine gl (i' := 20) (fun _ _ => aw_sast K (dOf ck_mX9_visit rfl rfl) rfl hb19) ?_
      refine gl (i' := 21) (fun _ _ => aw_aload_n K (dOf ck_mX9_visit rfl rfl) rfl) ?_
      refine gl (i' := 22) (fun _ _ => aw_dup K rfl (dOf ck_mX9_visit rfl rfl)) ?_
      refine gl (i' := 23) (fun _ _ => aw_getf K (dOf ck_mX9_visit rfl rfl) rfl rfl (Nat.le_of_ble_eq_true rfl) wd_407 (k := 16) rfl) ?_
      refine gl (i' := 24) (fun _ _ => aw_iconst K (n := 1) (i32 _ rfl) (dOf ck_mX9_visit rfl rfl)) ?_
      refine gl (i' := 25) (fun _ _ => aw_iadd K (dOf ck_mX9_visit rfl rfl)) ?_
      refine g_st1 ?_
      refine gl (i' := 26) (fun _ _ => aw_putf K (dOf ck_mX9_visit rfl rfl) rfl rfl (Nat.le_of_ble_eq_true rfl) wd_407 (k := 16) rfl rfl (Or.inl rfl)) ?_
      refine g_sub [0, 1, 2] rfl ?_
      exact lk_Twins_visit_26 K _ _ _
    · refine g_sub [0, 1, 2] rfl ?_
      exact lk_Twins_visit_26 K _ _ _
  · refine g_sub [0, 1, 2] rfl ?_
    exact lk_Twins_visit_26 K _ _ _
def Twins_shortest_42 (k5 : Int → aM → Option (Int × aM)) (x2 : Int) (mm : aM) : Option (Int × aM) := k5 (w32 (x2 + 1)) mm
set_option maxHeartbeats 4000000 in
theorem lk_Twins_shortest_42 {p : Program} {l : Launch} {e : Env} {s : State} {m : MethodId} {args : Array Value} {below : List Frame} {meth : Method} {c : Code} {D : va_G} {cA : FieldType → ClassId} {ad adV : Nat → Nat} {z0 : Nat} {al0 : List Nat} (K : aK p s m args meth c mX9_shortest D cA ad adV z0) (x2 : Int) (k5 : Int → aM → Option (Int × aM)) (hk5 : ∀ (x2 : Int) (mm : aM), aG p l e { frames := 4, cells := 0, slots := 0, locals := 109 } s m args below meth c D cA ad z0 mX9_shortest al0 rIM (k5 x2 mm) 5 [(0, .inr (.inr (.inl (some 80)))), (2, .inl x2)] [] mm)  (mm : aM) : aG p l e { frames := 4, cells := 0, slots := 0, locals := 109 } s m args below meth c D cA ad z0 mX9_shortest al0 rIM (Twins_shortest_42 k5 x2 mm) 42 [(0, .inr (.inr (.inl (some 80)))), (2, .inl x2)] [] mm := by
  unfold Twins_shortest_42
  refine gl (i' := 43) (fun _ _ => aw_iinc K (dOf ck_mX9_shortest rfl rfl) (Nat.le_of_ble_eq_true rfl) rfl) ?_
  refine g_lv (lv' := [(2, .inl _), (0, .inr (.inr (.inl (some _))))]) rfl ?_
  refine g_goto K (dOf ck_mX9_shortest rfl rfl).1 (t := 5) (aJ_of (by decide +kernel)) ?_
  refine g_sub [1, 0] rfl ?_
  exact hk5 _ _
def Twins_shortest_20 (k5 : Int → aM → Option (Int × aM)) (x2 : Int) : Nat → Int → Int → aM → Option (Int × aM)
  | 0, _, _, _ => none
  | n + 1, x3, x4, mm => if x4 < 4239 then (if x3 = (-1) then (Twins_shortest_42 k5 x2 mm) else ((Twins_isLast x3 mm).bind fun r8 => (if r8 = 0 then ((Twins_visit x3 x2 mm).bind fun r10 => ((Twins_pop x2 r10).bind fun r11 => (Twins_shortest_20 k5 x2 n r11.1 (w32 (x4 + 1)) r11.2))) else (some (x2, mm))))) else (Twins_shortest_42 k5 x2 mm)
set_option maxHeartbeats 4000000 in
theorem lk_Twins_shortest_20 {p : Program} {l : Launch} {e : Env} {s : State} {m : MethodId} {args : Array Value} {below : List Frame} {meth : Method} {c : Code} {D : va_G} {cA : FieldType → ClassId} {ad adV : Nat → Nat} {z0 : Nat} {al0 : List Nat} (K : aK p s m args meth c mX9_shortest D cA ad adV z0) (x2 : Int) (k5 : Int → aM → Option (Int × aM)) (hk5 : ∀ (x2 : Int) (mm : aM), aG p l e { frames := 4, cells := 0, slots := 0, locals := 109 } s m args below meth c D cA ad z0 mX9_shortest al0 rIM (k5 x2 mm) 5 [(0, .inr (.inr (.inl (some 80)))), (2, .inl x2)] [] mm)  : ∀ (n : Nat) (x3 : Int) (x4 : Int) (mm : aM), aG p l e { frames := 4, cells := 0, slots := 0, locals := 109 } s m args below meth c D cA ad z0 mX9_shortest al0 rIM (Twins_shortest_20 k5 x2 n x3 x4 mm) 20 [(0, .inr (.inr (.inl (some 80)))), (2, .inl x2), (3, .inl x3), (4, .inl x4)] [] mm := by
  intro n
  induction n with
  | zero => intro x3 x4 mm; exact g_none
  | succ n ih =>
    intro x3 x4 mm
    rw [Twins_shortest_20]
    refine gl (i' := 21) (fun _ _ => aw_iload K (dOf ck_mX9_shortest rfl rfl) rfl) ?_
    refine gl (i' := 22) (fun _ _ => aw_sip K (dOf ck_mX9_shortest rfl rfl) (v := 4239) rfl) ?_
    refine g_icmp_ge K (dOf ck_mX9_shortest rfl rfl) (t := 42) (aJ_of (by decide +kernel)) (fun h6 => ?_) (fun h6 => ?_)
    · refine gl (i' := 24) (fun _ _ => aw_iload_n K (dOf ck_mX9_shortest rfl rfl) rfl) ?_
      refine gl (i' := 25) (fun _ _ => aw_iconst K (n := -1) (i32 _ rfl) (dOf ck_mX9_shortest rfl rfl)) ?_
      refine g_icmp_eq K (dOf ck_mX9_shortest rfl rfl) (t := 42) (aJ_of (by decide +kernel)) (fun h7 => ?_) (fun h7 => ?_)
      · refine g_sub [0, 1] rfl ?_
        exact lk_Twins_shortest_42 K _ _ hk5 _
      · refine gl (i' := 27) (fun _ _ => aw_aload_n K (dOf ck_mX9_shortest rfl rfl) rfl) ?_
        refine gl (i' := 28) (fun _ _ => aw_iload_n K (dOf ck_mX9_shortest rfl rfl) rfl) ?_
        refine g_callVI K [.inl _] rfl (dOf ck_mX9_shortest rfl rfl) al_OneBreath_Twins_96 rfl rfl ⟨wd_864, wd_32⟩ rfl (Nat.le_of_ble_eq_true rfl) ⟨Nat.le_of_ble_eq_true rfl, Nat.le_of_ble_eq_true rfl⟩ (fun b hb => met_Twins_isLast  hb) (fun r8 hr8 => ?_)
        refine g_if_eq K (dOf ck_mX9_shortest rfl rfl) (t := 32) (aJ_of (by decide +kernel)) (fun h9 => ?_) (fun h9 => ?_)
        · refine gl (i' := 33) (fun _ _ => aw_aload_n K (dOf ck_mX9_shortest rfl rfl) rfl) ?_
          refine gl (i' := 34) (fun _ _ => aw_iload_n K (dOf ck_mX9_shortest rfl rfl) rfl) ?_
          refine gl (i' := 35) (fun _ _ => aw_iload_n K (dOf ck_mX9_shortest rfl rfl) rfl) ?_
          refine g_callVM K [.inl _, .inl _] rfl (dOf ck_mX9_shortest rfl rfl) al_OneBreath_Twins_100 rfl rfl ⟨wd_870, wd_34⟩ rfl (Nat.le_of_ble_eq_true rfl) ⟨Nat.le_of_ble_eq_true rfl, Nat.le_of_ble_eq_true rfl⟩ (fun b hb => met_Twins_visit  hb) (fun r10 hr10 => ?_)
          refine gl (i' := 37) (fun _ _ => aw_aload_n K (dOf ck_mX9_shortest rfl rfl) rfl) ?_
          refine gl (i' := 38) (fun _ _ => aw_iload_n K (dOf ck_mX9_shortest rfl rfl) rfl) ?_
          refine g_callVIM K [.inl _] rfl (dOf ck_mX9_shortest rfl rfl) al_OneBreath_Twins_92 rfl rfl ⟨wd_850, wd_31⟩ rfl (Nat.le_of_ble_eq_true rfl) ⟨Nat.le_of_ble_eq_true rfl, Nat.le_of_ble_eq_true rfl⟩ (fun b hb => met_Twins_pop  hb) (fun r11 hr11 => ?_)
          refine gl (i' := 40) (fun _ _ => aw_istore_n K (dOf ck_mX9_shortest rfl rfl) (Nat.le_of_ble_eq_true rfl)) ?_
          refine g_lv (lv' := [(3, .inl _), (0, .inr (.inr (.inl (some _)))), (2, .inl _), (4, .inl _)]) rfl ?_
          refine gl (i' := 41) (fun _ _ => aw_iinc K (dOf ck_mX9_shortest rfl rfl) (Nat.le_of_ble_eq_true rfl) rfl) ?_
          refine g_lv (lv' := [(4, .inl _), (3, .inl _), (0, .inr (.inr (.inl (some _)))), (2, .inl _)]) rfl ?_
          refine g_goto K (dOf ck_mX9_shortest rfl rfl).1 (t := 20) (aJ_of (by decide +kernel)) ?_
          refine g_sub [2, 3, 1, 0] rfl ?_
          exact ih _ _ _
        · refine gl (i' := 31) (fun _ _ => aw_iload_n K (dOf ck_mX9_shortest rfl rfl) rfl) ?_
          exact g_iret K (dOf ck_mX9_shortest rfl rfl).1 rfl (Or.inl rfl) rfl
    · refine g_sub [0, 1] rfl ?_
      exact lk_Twins_shortest_42 K _ _ hk5 _
def Twins_shortest_5  : Nat → Int → aM → Option (Int × aM)
  | 0, _, _ => none
  | n + 1, x2, mm => if x2 < 29673 then (if 0 < (mm 80 12) then (st1 (aup mm 80 13 0) fun mm4 => ((Twins_pop x2 mm4).bind fun r5 => (Twins_shortest_20 (Twins_shortest_5 n) x2 FU r5.1 0 r5.2))) else (some ((-1), mm))) else (some ((-1), mm))
set_option maxHeartbeats 4000000 in
theorem lk_Twins_shortest_5 {p : Program} {l : Launch} {e : Env} {s : State} {m : MethodId} {args : Array Value} {below : List Frame} {meth : Method} {c : Code} {D : va_G} {cA : FieldType → ClassId} {ad adV : Nat → Nat} {z0 : Nat} {al0 : List Nat} (K : aK p s m args meth c mX9_shortest D cA ad adV z0)   : ∀ (n : Nat) (x2 : Int) (mm : aM), aG p l e { frames := 4, cells := 0, slots := 0, locals := 109 } s m args below meth c D cA ad z0 mX9_shortest al0 rIM (Twins_shortest_5 n x2 mm) 5 [(0, .inr (.inr (.inl (some 80)))), (2, .inl x2)] [] mm := by
  intro n
  induction n with
  | zero => intro x2 mm; exact g_none
  | succ n ih =>
    intro x2 mm
    rw [Twins_shortest_5]
    refine gl (i' := 6) (fun _ _ => aw_iload_n K (dOf ck_mX9_shortest rfl rfl) rfl) ?_
    refine gl (i' := 7) (fun _ _ => aw_sip K (dOf ck_mX9_shortest rfl rfl) (v := 29673) rfl) ?_
    refine g_icmp_ge K (dOf ck_mX9_shortest rfl rfl) (t := 44) (aJ_of (by decide +kernel)) (fun h2 => ?_) (fun h2 => ?_)
    · refine gl (i' := 9) (fun _ _ => aw_aload_n K (dOf ck_mX9_shortest rfl rfl) rfl) ?_
      refine gl (i' := 10) (fun _ _ => aw_getf K (dOf ck_mX9_shortest rfl rfl) rfl rfl (Nat.le_of_ble_eq_true rfl) wd_403 (k := 12) rfl) ?_
      refine g_if_le K (dOf ck_mX9_shortest rfl rfl) (t := 44) (aJ_of (by decide +kernel)) (fun h3 => ?_) (fun h3 => ?_)
      · refine gl (i' := 12) (fun _ _ => aw_aload_n K (dOf ck_mX9_shortest rfl rfl) rfl) ?_
        refine gl (i' := 13) (fun _ _ => aw_iconst K (n := 0) (i32 _ rfl) (dOf ck_mX9_shortest rfl rfl)) ?_
        refine g_st1 ?_
        refine gl (i' := 14) (fun _ _ => aw_putf K (dOf ck_mX9_shortest rfl rfl) rfl rfl (Nat.le_of_ble_eq_true rfl) wd_404 (k := 13) rfl rfl (Or.inl rfl)) ?_
        refine gl (i' := 15) (fun _ _ => aw_aload_n K (dOf ck_mX9_shortest rfl rfl) rfl) ?_
        refine gl (i' := 16) (fun _ _ => aw_iload_n K (dOf ck_mX9_shortest rfl rfl) rfl) ?_
        refine g_callVIM K [.inl _] rfl (dOf ck_mX9_shortest rfl rfl) al_OneBreath_Twins_92 rfl rfl ⟨wd_850, wd_31⟩ rfl (Nat.le_of_ble_eq_true rfl) ⟨Nat.le_of_ble_eq_true rfl, Nat.le_of_ble_eq_true rfl⟩ (fun b hb => met_Twins_pop  hb) (fun r5 hr5 => ?_)
        refine gl (i' := 18) (fun _ _ => aw_istore_n K (dOf ck_mX9_shortest rfl rfl) (Nat.le_of_ble_eq_true rfl)) ?_
        refine g_lv (lv' := [(3, .inl _), (0, .inr (.inr (.inl (some _)))), (2, .inl _)]) rfl ?_
        refine gl (i' := 19) (fun _ _ => aw_iconst K (n := 0) (i32 _ rfl) (dOf ck_mX9_shortest rfl rfl)) ?_
        refine gl (i' := 20) (fun _ _ => aw_istore K (dOf ck_mX9_shortest rfl rfl) (Nat.le_of_ble_eq_true rfl)) ?_
        refine g_lv (lv' := [(4, .inl _), (3, .inl _), (0, .inr (.inr (.inl (some _)))), (2, .inl _)]) rfl ?_
        refine g_sub [2, 3, 1, 0] rfl ?_
        exact lk_Twins_shortest_20 K _ _ ih FU _ _ _
      · refine gl (i' := 45) (fun _ _ => aw_iconst K (n := -1) (i32 _ rfl) (dOf ck_mX9_shortest rfl rfl)) ?_
        exact g_iret K (by decide +kernel) rfl (Or.inl rfl) rfl
    · refine gl (i' := 45) (fun _ _ => aw_iconst K (n := -1) (i32 _ rfl) (dOf ck_mX9_shortest rfl rfl)) ?_
      exact g_iret K (by decide +kernel) rfl (Or.inl rfl) rfl
def Twins_shortest (x1 : Int) (mm : aM) : Option (Int × aM) := (Twins_begin x1 mm).bind fun r1 => (Twins_shortest_5 FU 0 r1)
set_option maxHeartbeats 4000000 in
theorem met_Twins_shortest {l : Launch} {D : va_G} {cA : FieldType → ClassId} {ad adV : Nat → Nat} {z0 : Nat} {x1 : Int} {mm : aM}  {r : Int × aM} (h : Twins_shortest x1 mm = some r) : aMet l D cA ad adV z0 mX9_shortest 4 109 0 0 [.inr (.inr (.inl (some 80))), .inl x1] SH mm (rIM r).1 SH (rIM r).2 := by
  refine aMet_ofG (by decide +kernel) rfl (Nat.le_of_ble_eq_true rfl) h (fun p e s m args below meth c al0 K => ?_)
  unfold Twins_shortest
  refine gl (i' := 1) (fun _ _ => aw_aload_n K (dOf ck_mX9_shortest rfl rfl) rfl) ?_
  refine gl (i' := 2) (fun _ _ => aw_iload_n K (dOf ck_mX9_shortest rfl rfl) rfl) ?_
  refine g_callVM K [.inl _] rfl (dOf ck_mX9_shortest rfl rfl) al_OneBreath_Twins_82 rfl rfl ⟨wd_831, wd_27⟩ rfl (Nat.le_of_ble_eq_true rfl) ⟨Nat.le_of_ble_eq_true rfl, Nat.le_of_ble_eq_true rfl⟩ (fun b hb => met_Twins_begin  hb) (fun r1 hr1 => ?_)
  refine gl (i' := 4) (fun _ _ => aw_iconst K (n := 0) (i32 _ rfl) (dOf ck_mX9_shortest rfl rfl)) ?_
  refine gl (i' := 5) (fun _ _ => aw_istore_n K (dOf ck_mX9_shortest rfl rfl) (Nat.le_of_ble_eq_true rfl)) ?_
  refine g_lv (lv' := [(2, .inl _), (0, .inr (.inr (.inl (some _)))), (1, .inl _)]) rfl ?_
  refine g_sub [1, 0] rfl ?_
  exact lk_Twins_shortest_5 K FU _ _
def Mender_leastUnsure_20 (x1 : Int) (mm : aM) : Option (Int × aM) := if 0 ≤ x1 ∧ x1 < 3 then (some (mm 107 x1.toNat, mm)) else none
set_option maxHeartbeats 4000000 in
theorem lk_Mender_leastUnsure_20 {p : Program} {l : Launch} {e : Env} {s : State} {m : MethodId} {args : Array Value} {below : List Frame} {meth : Method} {c : Code} {D : va_G} {cA : FieldType → ClassId} {ad adV : Nat → Nat} {z0 : Nat} {al0 : List Nat} (K : aK p s m args meth c mX3_leastUnsure D cA ad adV z0) (x1 : Int)  (mm : aM) : aG p l e { frames := 5, cells := 0, slots := 0, locals := 133 } s m args below meth c D cA ad z0 mX3_leastUnsure al0 rIM (Mender_leastUnsure_20 x1 mm) 20 [(0, .inr (.inr (.inl (some 79)))), (1, .inl x1)] [] mm := by
  unfold Mender_leastUnsure_20
  refine gl (i' := 21) (fun _ _ => aw_aload_n K (dOf ck_mX3_leastUnsure rfl rfl) rfl) ?_
  refine gl (i' := 22) (fun _ _ => aw_getf K (dOf ck_mX3_leastUnsure rfl rfl) rfl rfl (Nat.le_of_ble_eq_true rfl) wd_422 (k := 4) rfl) ?_
  refine gl (i' := 23) (fun _ _ => aw_iload_n K (dOf ck_mX3_leastUnsure rfl rfl) rfl) ?_
  refine g_gd (fun hb3 => ?_)
  refine gl (i' := 24) (fun _ _ => aw_iald K (dOf ck_mX3_leastUnsure rfl rfl) rfl hb3) ?_
  exact g_iret K (by decide +kernel) rfl (Or.inl rfl) rfl
def Mender_leastUnsure (x1 : Int) (mm : aM) : Option (Int × aM) := if 0 ≤ x1 ∧ x1 < 3 then (if (mm 107 x1.toNat) = (-2) then ((Twins_load 0 mm).bind fun r4 => ((Twins_shortest x1 r4).bind fun r5 => (st1 (aup r5.2 107 x1.toNat r5.1) fun mm6 => (Mender_leastUnsure_20 x1 mm6)))) else (Mender_leastUnsure_20 x1 mm)) else none
set_option maxHeartbeats 4000000 in
theorem met_Mender_leastUnsure {l : Launch} {D : va_G} {cA : FieldType → ClassId} {ad adV : Nat → Nat} {z0 : Nat} {x1 : Int} {mm : aM}  {r : Int × aM} (h : Mender_leastUnsure x1 mm = some r) : aMet l D cA ad adV z0 mX3_leastUnsure 5 133 0 0 [.inr (.inr (.inl (some 79))), .inl x1] SH mm (rIM r).1 SH (rIM r).2 := by
  refine aMet_ofG (by decide +kernel) rfl (Nat.le_of_ble_eq_true rfl) h (fun p e s m args below meth c al0 K => ?_)
  unfold Mender_leastUnsure
  refine gl (i' := 1) (fun _ _ => aw_aload_n K (dOf ck_mX3_leastUnsure rfl rfl) rfl) ?_
  refine gl (i' := 2) (fun _ _ => aw_getf K (dOf ck_mX3_leastUnsure rfl rfl) rfl rfl (Nat.le_of_ble_eq_true rfl) wd_422 (k := 4) rfl) ?_
  refine gl (i' := 3) (fun _ _ => aw_iload_n K (dOf ck_mX3_leastUnsure rfl rfl) rfl) ?_
  refine g_gd (fun hb1 => ?_)
  refine gl (i' := 4) (fun _ _ => aw_iald K (dOf ck_mX3_leastUnsure rfl rfl) rfl hb1) ?_
  refine gl (i' := 5) (fun _ _ => aw_bip K (dOf ck_mX3_leastUnsure rfl rfl) (v := -2) rfl) ?_
  refine g_icmp_ne K (dOf ck_mX3_leastUnsure rfl rfl) (t := 20) (aJ_of (by decide +kernel)) (fun h2 => ?_) (fun h2 => ?_)
  · refine gl (i' := 7) (fun _ _ => aw_aload_n K (dOf ck_mX3_leastUnsure rfl rfl) rfl) ?_
    refine gl (i' := 8) (fun _ _ => aw_getf K (dOf ck_mX3_leastUnsure rfl rfl) rfl rfl (Nat.le_of_ble_eq_true rfl) wd_420 (k := 2) rfl) ?_
    refine gl (i' := 9) (fun _ _ => aw_aload_n K (dOf ck_mX3_leastUnsure rfl rfl) rfl) ?_
    refine gl (i' := 10) (fun _ _ => aw_getf K (dOf ck_mX3_leastUnsure rfl rfl) rfl rfl (Nat.le_of_ble_eq_true rfl) wd_418 (k := 0) rfl) ?_
    refine gl (i' := 11) (fun _ _ => aw_iconst K (n := 0) (i32 _ rfl) (dOf ck_mX3_leastUnsure rfl rfl)) ?_
    refine g_callVM K [.inr (.inr (.inl (some _))), .inl _] rfl (dOf ck_mX3_leastUnsure rfl rfl) al_OneBreath_Mender_75 rfl rfl ⟨wd_818, wd_819⟩ rfl (Nat.le_of_ble_eq_true rfl) ⟨Nat.le_of_ble_eq_true rfl, Nat.le_of_ble_eq_true rfl⟩ (fun b hb => met_Twins_load  hb) (fun r4 hr4 => ?_)
    refine gl (i' := 13) (fun _ _ => aw_aload_n K (dOf ck_mX3_leastUnsure rfl rfl) rfl) ?_
    refine gl (i' := 14) (fun _ _ => aw_getf K (dOf ck_mX3_leastUnsure rfl rfl) rfl rfl (Nat.le_of_ble_eq_true rfl) wd_422 (k := 4) rfl) ?_
    refine gl (i' := 15) (fun _ _ => aw_iload_n K (dOf ck_mX3_leastUnsure rfl rfl) rfl) ?_
    refine gl (i' := 16) (fun _ _ => aw_aload_n K (dOf ck_mX3_leastUnsure rfl rfl) rfl) ?_
    refine gl (i' := 17) (fun _ _ => aw_getf K (dOf ck_mX3_leastUnsure rfl rfl) rfl rfl (Nat.le_of_ble_eq_true rfl) wd_420 (k := 2) rfl) ?_
    refine gl (i' := 18) (fun _ _ => aw_iload_n K (dOf ck_mX3_leastUnsure rfl rfl) rfl) ?_
    refine g_callVIM K [.inl _] rfl (dOf ck_mX3_leastUnsure rfl rfl) al_OneBreath_Mender_79 rfl rfl ⟨wd_827, wd_828⟩ rfl (Nat.le_of_ble_eq_true rfl) ⟨Nat.le_of_ble_eq_true rfl, Nat.le_of_ble_eq_true rfl⟩ (fun b hb => met_Twins_shortest  hb) (fun r5 hr5 => ?_)
    refine g_st1 ?_
    refine gl (i' := 20) (fun _ _ => aw_iast K (dOf ck_mX3_leastUnsure rfl rfl) rfl hb1) ?_
    refine g_sub [0, 1] rfl ?_
    exact lk_Mender_leastUnsure_20 K _ _
  · refine g_sub [0, 1] rfl ?_
    exact lk_Mender_leastUnsure_20 K _ _
def B_unsure (x1 : Int) (mm : aM) : Option (Int × aM) := if x1 < 0 then (some ((-3), mm)) else (if 2 < x1 then (some ((-3), mm)) else ((Mender_leastUnsure x1 mm).bind fun r3 => (some (r3.1, r3.2))))
set_option maxHeartbeats 4000000 in
theorem met_B_unsure {l : Launch} {D : va_G} {cA : FieldType → ClassId} {ad adV : Nat → Nat} {z0 : Nat} {x1 : Int} {mm : aM}  {r : Int × aM} (h : B_unsure x1 mm = some r) : aMet l D cA ad adV z0 mX11_unsure 6 154 0 0 [.inr (.inr (.inl (some 0))), .inl x1] SH mm (rIM r).1 SH (rIM r).2 := by
  refine aMet_ofG (by decide +kernel) rfl (Nat.le_of_ble_eq_true rfl) h (fun p e s m args below meth c al0 K => ?_)
  unfold B_unsure
  refine gl (i' := 1) (fun _ _ => aw_iload_n K (dOf ck_mX11_unsure rfl rfl) rfl) ?_
  refine g_if_lt K (dOf ck_mX11_unsure rfl rfl) (t := 5) (aJ_of (by decide +kernel)) (fun h1 => ?_) (fun h1 => ?_)
  · refine gl (i' := 6) (fun _ _ => aw_bip K (dOf ck_mX11_unsure rfl rfl) (v := -3) rfl) ?_
    exact g_iret K (dOf ck_mX11_unsure rfl rfl).1 rfl (Or.inl rfl) rfl
  · refine gl (i' := 3) (fun _ _ => aw_iload_n K (dOf ck_mX11_unsure rfl rfl) rfl) ?_
    refine gl (i' := 4) (fun _ _ => aw_iconst K (n := 2) (i32 _ rfl) (dOf ck_mX11_unsure rfl rfl)) ?_
    refine g_icmp_le K (dOf ck_mX11_unsure rfl rfl) (t := 7) (aJ_of (by decide +kernel)) (fun h2 => ?_) (fun h2 => ?_)
    · refine gl (i' := 6) (fun _ _ => aw_bip K (dOf ck_mX11_unsure rfl rfl) (v := -3) rfl) ?_
      exact g_iret K (dOf ck_mX11_unsure rfl rfl).1 rfl (Or.inl rfl) rfl
    · refine gl (i' := 8) (fun _ _ => aw_aload_n K (dOf ck_mX11_unsure rfl rfl) rfl) ?_
      refine gl (i' := 9) (fun _ _ => aw_getf K (dOf ck_mX11_unsure rfl rfl) rfl rfl (Nat.le_of_ble_eq_true rfl) wd_470 (k := 10) rfl) ?_
      refine gl (i' := 10) (fun _ _ => aw_iload_n K (dOf ck_mX11_unsure rfl rfl) rfl) ?_
      refine g_callVIM K [.inl _] rfl (dOf ck_mX11_unsure rfl rfl) al_OneBreath_262 rfl rfl ⟨wd_814, wd_815⟩ rfl (Nat.le_of_ble_eq_true rfl) ⟨Nat.le_of_ble_eq_true rfl, Nat.le_of_ble_eq_true rfl⟩ (fun b hb => met_Mender_leastUnsure  hb) (fun r3 hr3 => ?_)
      exact g_iret K (by decide +kernel) rfl (Or.inl rfl) rfl
def Jarr_fillB_5 (x0 : Nat) (x1 : Int) (x3 : Int) : Nat → Int → aM → Option aM
  | 0, _, _ => none
  | n + 1, x2, mm => if x2 < x3 then (if 0 ≤ x2 ∧ x2 < aln x0 then (st1 (aup mm x0 x2.toNat (w8 x1)) fun mm3 => (Jarr_fillB_5 x0 x1 x3 n (w32 (x2 + 1)) mm3)) else none) else (some mm)
set_option maxHeartbeats 4000000 in
theorem lk_Jarr_fillB_5 {p : Program} {l : Launch} {e : Env} {s : State} {m : MethodId} {args : Array Value} {below : List Frame} {meth : Method} {c : Code} {D : va_G} {cA : FieldType → ClassId} {ad adV : Nat → Nat} {z0 : Nat} {al0 : List Nat} (K : aK p s m args meth c mJ7_fill_031fb D cA ad adV z0) {x0 : Nat} (x1 : Int) (x3 : Int) (hx0 : okB x0)  : ∀ (n : Nat) (x2 : Int) (mm : aM), aG p l e { frames := 0, cells := 0, slots := 0, locals := 0 } s m args below meth c D cA ad z0 mJ7_fill_031fb al0 rM (Jarr_fillB_5 x0 x1 x3 n x2 mm) 5 [(0, .inr (.inr (.inl (some x0)))), (1, .inl x1), (2, .inl x2), (3, .inl x3)] [] mm := by
  intro n
  induction n with
  | zero => intro x2 mm; exact g_none
  | succ n ih =>
    intro x2 mm
    rw [Jarr_fillB_5]
    refine gl (i' := 6) (fun _ _ => aw_iload_n K (dOf ck_mJ7_fill_031fb rfl rfl) rfl) ?_
    refine gl (i' := 7) (fun _ _ => aw_iload_n K (dOf ck_mJ7_fill_031fb rfl rfl) rfl) ?_
    refine g_icmp_ge K (dOf ck_mJ7_fill_031fb rfl rfl) (t := 14) (aJ_of (by decide +kernel)) (fun h1 => ?_) (fun h1 => ?_)
    · refine gl (i' := 9) (fun _ _ => aw_aload_n K (dOf ck_mJ7_fill_031fb rfl rfl) rfl) ?_
      refine gl (i' := 10) (fun _ _ => aw_iload_n K (dOf ck_mJ7_fill_031fb rfl rfl) rfl) ?_
      refine gl (i' := 11) (fun _ _ => aw_iload_n K (dOf ck_mJ7_fill_031fb rfl rfl) rfl) ?_
      refine g_gd (fun hb2 => ?_)
      refine g_st1 ?_
      refine gl (i' := 12) (fun _ _ => aw_bast K (dOf ck_mJ7_fill_031fb rfl rfl) (okB_at hx0) hb2) ?_
      refine gl (i' := 13) (fun _ _ => aw_iinc K (dOf ck_mJ7_fill_031fb rfl rfl) (Nat.le_of_ble_eq_true rfl) rfl) ?_
      refine g_lv (lv' := [(2, .inl _), (0, .inr (.inr (.inl (some _)))), (1, .inl _), (3, .inl _)]) rfl ?_
      refine g_goto K (dOf ck_mJ7_fill_031fb rfl rfl).1 (t := 5) (aJ_of (by decide +kernel)) ?_
      refine g_sub [1, 2, 0, 3] rfl ?_
      exact ih _ _
    · exact g_vret K (by decide +kernel) rfl rfl
def Jarr_fillB (x0 : Nat) (x1 : Int) (mm : aM) : Option aM := Jarr_fillB_5 x0 x1 ((aln x0 : Nat) : Int) FU 0 mm
set_option maxHeartbeats 4000000 in
theorem met_Jarr_fillB {l : Launch} {D : va_G} {cA : FieldType → ClassId} {ad adV : Nat → Nat} {z0 : Nat} {x0 : Nat} {x1 : Int} {mm : aM} (hx0 : okB x0) {r : aM} (h : Jarr_fillB x0 x1 mm = some r) : aMet l D cA ad adV z0 mJ7_fill_031fb 0 0 0 0 [.inr (.inr (.inl (some x0))), .inl x1] SH mm (rM r).1 SH (rM r).2 := by
  refine aMet_ofG (by decide +kernel) rfl (Nat.le_of_ble_eq_true rfl) h (fun p e s m args below meth c al0 K => ?_)
  unfold Jarr_fillB
  refine gl (i' := 1) (fun _ _ => aw_iconst K (n := 0) (i32 _ rfl) (dOf ck_mJ7_fill_031fb rfl rfl)) ?_
  refine gl (i' := 2) (fun _ _ => aw_istore_n K (dOf ck_mJ7_fill_031fb rfl rfl) (Nat.le_of_ble_eq_true rfl)) ?_
  refine g_lv (lv' := [(2, .inl _), (0, .inr (.inr (.inl (some _)))), (1, .inl _)]) rfl ?_
  refine gl (i' := 3) (fun _ _ => aw_aload_n K (dOf ck_mJ7_fill_031fb rfl rfl) rfl) ?_
  refine gl (i' := 4) (fun _ _ => aw_alen K (dOf ck_mJ7_fill_031fb rfl rfl) (okB_at hx0) rfl (aln_lt _)) ?_
  refine gl (i' := 5) (fun _ _ => aw_istore_n K (dOf ck_mJ7_fill_031fb rfl rfl) (Nat.le_of_ble_eq_true rfl)) ?_
  refine g_lv (lv' := [(3, .inl _), (2, .inl _), (0, .inr (.inr (.inl (some _)))), (1, .inl _)]) rfl ?_
  refine g_sub [2, 3, 1, 0] rfl ?_
  exact lk_Jarr_fillB_5 K _ _ hx0 FU _ _
def Twins_isUseful (x1 : Int) (x2 : Int) (mm : aM) : Option Int := if 0 ≤ x1 ∧ x1 < 471 then (if (mm 104 x1.toNat) = 0 then (some 0) else (if (mm 103 x1.toNat) = x2 then (some 1) else (some 0))) else none
set_option maxHeartbeats 4000000 in
theorem met_Twins_isUseful {l : Launch} {D : va_G} {cA : FieldType → ClassId} {ad adV : Nat → Nat} {z0 : Nat} {x1 : Int} {x2 : Int} {mm : aM}  {r : Int} (h : Twins_isUseful x1 x2 mm = some r) : aMet l D cA ad adV z0 mX9_isUseful 0 0 0 0 [.inr (.inr (.inl (some 80))), .inl x1, .inl x2] SH mm ((rI mm) r).1 SH ((rI mm) r).2 := by
  refine aMet_ofG (by decide +kernel) rfl (Nat.le_of_ble_eq_true rfl) h (fun p e s m args below meth c al0 K => ?_)
  unfold Twins_isUseful
  refine gl (i' := 1) (fun _ _ => aw_aload_n K (dOf ck_mX9_isUseful rfl rfl) rfl) ?_
  refine gl (i' := 2) (fun _ _ => aw_getf K (dOf ck_mX9_isUseful rfl rfl) rfl rfl (Nat.le_of_ble_eq_true rfl) wd_410 (k := 19) rfl) ?_
  refine gl (i' := 3) (fun _ _ => aw_iload_n K (dOf ck_mX9_isUseful rfl rfl) rfl) ?_
  refine g_gd (fun hb1 => ?_)
  refine gl (i' := 4) (fun _ _ => aw_bald K (dOf ck_mX9_isUseful rfl rfl) rfl hb1) ?_
  refine g_if_eq K (dOf ck_mX9_isUseful rfl rfl) (t := 13) (aJ_of (by decide +kernel)) (fun h2 => ?_) (fun h2 => ?_)
  · refine gl (i' := 14) (fun _ _ => aw_iconst K (n := 0) (i32 _ rfl) (dOf ck_mX9_isUseful rfl rfl)) ?_
    exact g_iret K (by decide +kernel) rfl (Or.inr (Or.inl ⟨rfl, Or.inl rfl⟩)) rfl
  · refine gl (i' := 6) (fun _ _ => aw_aload_n K (dOf ck_mX9_isUseful rfl rfl) rfl) ?_
    refine gl (i' := 7) (fun _ _ => aw_getf K (dOf ck_mX9_isUseful rfl rfl) rfl rfl (Nat.le_of_ble_eq_true rfl) wd_409 (k := 18) rfl) ?_
    refine gl (i' := 8) (fun _ _ => aw_iload_n K (dOf ck_mX9_isUseful rfl rfl) rfl) ?_
    refine gl (i' := 9) (fun _ _ => aw_sald K (dOf ck_mX9_isUseful rfl rfl) rfl hb1) ?_
    refine gl (i' := 10) (fun _ _ => aw_iload_n K (dOf ck_mX9_isUseful rfl rfl) rfl) ?_
    refine g_icmp_ne K (dOf ck_mX9_isUseful rfl rfl) (t := 13) (aJ_of (by decide +kernel)) (fun h3 => ?_) (fun h3 => ?_)
    · refine gl (i' := 12) (fun _ _ => aw_iconst K (n := 1) (i32 _ rfl) (dOf ck_mX9_isUseful rfl rfl)) ?_
      refine g_goto K (dOf ck_mX9_isUseful rfl rfl).1 (t := 14) (aJ_of (by decide +kernel)) ?_
      exact g_iret K (by decide +kernel) rfl (Or.inr (Or.inl ⟨rfl, Or.inr rfl⟩)) rfl
    · refine gl (i' := 14) (fun _ _ => aw_iconst K (n := 0) (i32 _ rfl) (dOf ck_mX9_isUseful rfl rfl)) ?_
      exact g_iret K (by decide +kernel) rfl (Or.inr (Or.inl ⟨rfl, Or.inl rfl⟩)) rfl
def Twins_evenLeadsOn_7 (mm : aM) (x1 : Int) : Nat → Int → Option Int
  | 0, _ => none
  | n + 1, x2 => if x2 = 0 then (some 0) else ((Jint_numberOfTrailingZeros x2 mm).bind fun r3 => (if 0 ≤ r3 ∧ r3 < 13 then ((Twins_oddState r3 (mm 95 r3.toNat) (Int.tmod x1 4) 0 mm).bind fun r5 => (if 0 ≤ x1 ∧ x1 < 471 then ((Twins_isUseful r5 (mm 103 x1.toNat) mm).bind fun r7 => (if r7 = 0 then (Twins_evenLeadsOn_7 mm x1 n (iand x2 (w32 (x2 - 1)))) else (some 1))) else none)) else none))
set_option maxHeartbeats 4000000 in
theorem lk_Twins_evenLeadsOn_7 {p : Program} {l : Launch} {e : Env} {s : State} {m : MethodId} {args : Array Value} {below : List Frame} {meth : Method} {c : Code} {D : va_G} {cA : FieldType → ClassId} {ad adV : Nat → Nat} {z0 : Nat} {al0 : List Nat} {mm : aM} (K : aK p s m args meth c mX9_evenLeadsOn D cA ad adV z0) (x1 : Int)  : ∀ (n : Nat) (x2 : Int), aG p l e { frames := 1, cells := 0, slots := 0, locals := 24 } s m args below meth c D cA ad z0 mX9_evenLeadsOn al0 (rI mm) (Twins_evenLeadsOn_7 mm x1 n x2) 7 [(0, .inr (.inr (.inl (some 80)))), (1, .inl x1), (2, .inl x2)] [] mm := by
  intro n
  induction n with
  | zero => intro x2; exact g_none
  | succ n ih =>
    intro x2
    rw [Twins_evenLeadsOn_7]
    refine gl (i' := 8) (fun _ _ => aw_iload_n K (dOf ck_mX9_evenLeadsOn rfl rfl) rfl) ?_
    refine g_if_eq K (dOf ck_mX9_evenLeadsOn rfl rfl) (t := 39) (aJ_of (by decide +kernel)) (fun h2 => ?_) (fun h2 => ?_)
    · refine gl (i' := 40) (fun _ _ => aw_iconst K (n := 0) (i32 _ rfl) (dOf ck_mX9_evenLeadsOn rfl rfl)) ?_
      exact g_iret K (by decide +kernel) rfl (Or.inr (Or.inl ⟨rfl, Or.inl rfl⟩)) rfl
    · refine gl (i' := 10) (fun _ _ => aw_iload_n K (dOf ck_mX9_evenLeadsOn rfl rfl) rfl) ?_
      refine g_callSI K [.inl _] rfl (dOf ck_mX9_evenLeadsOn rfl rfl) al_OneBreath_Twins_147 wd_860 rfl (Nat.le_of_ble_eq_true rfl) ⟨Nat.le_of_ble_eq_true rfl, Nat.le_of_ble_eq_true rfl⟩ (fun b hb => met_Jint_numberOfTrailingZeros  hb) (fun r3 hr3 => ?_)
      refine gl (i' := 12) (fun _ _ => aw_istore_n K (dOf ck_mX9_evenLeadsOn rfl rfl) (Nat.le_of_ble_eq_true rfl)) ?_
      refine g_lv (lv' := [(3, .inl _), (0, .inr (.inr (.inl (some _)))), (1, .inl _), (2, .inl _)]) rfl ?_
      refine gl (i' := 13) (fun _ _ => aw_aload_n K (dOf ck_mX9_evenLeadsOn rfl rfl) rfl) ?_
      refine gl (i' := 14) (fun _ _ => aw_aload_n K (dOf ck_mX9_evenLeadsOn rfl rfl) rfl) ?_
      refine gl (i' := 15) (fun _ _ => aw_iload_n K (dOf ck_mX9_evenLeadsOn rfl rfl) rfl) ?_
      refine gl (i' := 16) (fun _ _ => aw_aload_n K (dOf ck_mX9_evenLeadsOn rfl rfl) rfl) ?_
      refine gl (i' := 17) (fun _ _ => aw_getf K (dOf ck_mX9_evenLeadsOn rfl rfl) rfl rfl (Nat.le_of_ble_eq_true rfl) wd_395 (k := 4) rfl) ?_
      refine gl (i' := 18) (fun _ _ => aw_iload_n K (dOf ck_mX9_evenLeadsOn rfl rfl) rfl) ?_
      refine g_gd (fun hb4 => ?_)
      refine gl (i' := 19) (fun _ _ => aw_iald K (dOf ck_mX9_evenLeadsOn rfl rfl) rfl hb4) ?_
      refine gl (i' := 20) (fun _ _ => aw_iload_n K (dOf ck_mX9_evenLeadsOn rfl rfl) rfl) ?_
      refine gl (i' := 21) (fun _ _ => aw_iconst K (n := 4) (i32 _ rfl) (dOf ck_mX9_evenLeadsOn rfl rfl)) ?_
      refine gl (i' := 22) (fun _ _ => aw_irem K (by decide) (dOf ck_mX9_evenLeadsOn rfl rfl)) ?_
      refine gl (i' := 23) (fun _ _ => aw_iconst K (n := 0) (i32 _ rfl) (dOf ck_mX9_evenLeadsOn rfl rfl)) ?_
      refine g_callVI K [.inl _, .inl _, .inl _, .inl _] rfl (dOf ck_mX9_evenLeadsOn rfl rfl) al_OneBreath_Twins_125 rfl rfl ⟨wd_844, wd_29⟩ rfl (Nat.le_of_ble_eq_true rfl) ⟨Nat.le_of_ble_eq_true rfl, Nat.le_of_ble_eq_true rfl⟩ (fun b hb => met_Twins_oddState  hb) (fun r5 hr5 => ?_)
      refine gl (i' := 25) (fun _ _ => aw_aload_n K (dOf ck_mX9_evenLeadsOn rfl rfl) rfl) ?_
      refine gl (i' := 26) (fun _ _ => aw_getf K (dOf ck_mX9_evenLeadsOn rfl rfl) rfl rfl (Nat.le_of_ble_eq_true rfl) wd_409 (k := 18) rfl) ?_
      refine gl (i' := 27) (fun _ _ => aw_iload_n K (dOf ck_mX9_evenLeadsOn rfl rfl) rfl) ?_
      refine g_gd (fun hb6 => ?_)
      refine gl (i' := 28) (fun _ _ => aw_sald K (dOf ck_mX9_evenLeadsOn rfl rfl) rfl hb6) ?_
      refine g_callVI K [.inl _, .inl _] rfl (dOf ck_mX9_evenLeadsOn rfl rfl) al_OneBreath_Twins_209 rfl rfl ⟨wd_917, wd_44⟩ rfl (Nat.le_of_ble_eq_true rfl) ⟨Nat.le_of_ble_eq_true rfl, Nat.le_of_ble_eq_true rfl⟩ (fun b hb => met_Twins_isUseful  hb) (fun r7 hr7 => ?_)
      refine g_if_eq K (dOf ck_mX9_evenLeadsOn rfl rfl) (t := 32) (aJ_of (by decide +kernel)) (fun h8 => ?_) (fun h8 => ?_)
      · refine gl (i' := 33) (fun _ _ => aw_iload_n K (dOf ck_mX9_evenLeadsOn rfl rfl) rfl) ?_
        refine gl (i' := 34) (fun _ _ => aw_iload_n K (dOf ck_mX9_evenLeadsOn rfl rfl) rfl) ?_
        refine gl (i' := 35) (fun _ _ => aw_iconst K (n := 1) (i32 _ rfl) (dOf ck_mX9_evenLeadsOn rfl rfl)) ?_
        refine gl (i' := 36) (fun _ _ => aw_isub K (dOf ck_mX9_evenLeadsOn rfl rfl)) ?_
        refine gl (i' := 37) (fun _ _ => aw_iand K (dOf ck_mX9_evenLeadsOn rfl rfl)) ?_
        refine gl (i' := 38) (fun _ _ => aw_istore_n K (dOf ck_mX9_evenLeadsOn rfl rfl) (Nat.le_of_ble_eq_true rfl)) ?_
        refine g_lv (lv' := [(2, .inl _), (3, .inl _), (0, .inr (.inr (.inl (some _)))), (1, .inl _)]) rfl ?_
        refine g_goto K (dOf ck_mX9_evenLeadsOn rfl rfl).1 (t := 7) (aJ_of (by decide +kernel)) ?_
        refine g_sub [2, 3, 0] rfl ?_
        exact ih _
      · refine gl (i' := 31) (fun _ _ => aw_iconst K (n := 1) (i32 _ rfl) (dOf ck_mX9_evenLeadsOn rfl rfl)) ?_
        exact g_iret K (dOf ck_mX9_evenLeadsOn rfl rfl).1 rfl (Or.inr (Or.inl ⟨rfl, Or.inr rfl⟩)) rfl
def Twins_evenLeadsOn (x1 : Int) (mm : aM) : Option Int := if 0 ≤ (w32 (Int.tdiv x1 4)) ∧ (w32 (Int.tdiv x1 4)) < 4 then (Twins_evenLeadsOn_7 mm x1 FU (mm 99 (w32 (Int.tdiv x1 4)).toNat)) else none
set_option maxHeartbeats 4000000 in
theorem met_Twins_evenLeadsOn {l : Launch} {D : va_G} {cA : FieldType → ClassId} {ad adV : Nat → Nat} {z0 : Nat} {x1 : Int} {mm : aM}  {r : Int} (h : Twins_evenLeadsOn x1 mm = some r) : aMet l D cA ad adV z0 mX9_evenLeadsOn 1 24 0 0 [.inr (.inr (.inl (some 80))), .inl x1] SH mm ((rI mm) r).1 SH ((rI mm) r).2 := by
  refine aMet_ofG (by decide +kernel) rfl (Nat.le_of_ble_eq_true rfl) h (fun p e s m args below meth c al0 K => ?_)
  unfold Twins_evenLeadsOn
  refine gl (i' := 1) (fun _ _ => aw_aload_n K (dOf ck_mX9_evenLeadsOn rfl rfl) rfl) ?_
  refine gl (i' := 2) (fun _ _ => aw_getf K (dOf ck_mX9_evenLeadsOn rfl rfl) rfl rfl (Nat.le_of_ble_eq_true rfl) wd_399 (k := 8) rfl) ?_
  refine gl (i' := 3) (fun _ _ => aw_iload_n K (dOf ck_mX9_evenLeadsOn rfl rfl) rfl) ?_
  refine gl (i' := 4) (fun _ _ => aw_iconst K (n := 4) (i32 _ rfl) (dOf ck_mX9_evenLeadsOn rfl rfl)) ?_
  refine gl (i' := 5) (fun _ _ => aw_idiv K (by decide) (dOf ck_mX9_evenLeadsOn rfl rfl)) ?_
  refine g_gd (fun hb1 => ?_)
  refine gl (i' := 6) (fun _ _ => aw_iald K (dOf ck_mX9_evenLeadsOn rfl rfl) rfl hb1) ?_
  refine gl (i' := 7) (fun _ _ => aw_istore_n K (dOf ck_mX9_evenLeadsOn rfl rfl) (Nat.le_of_ble_eq_true rfl)) ?_
  refine g_lv (lv' := [(2, .inl _), (0, .inr (.inr (.inl (some _)))), (1, .inl _)]) rfl ?_
  refine g_sub [1, 2, 0] rfl ?_
  exact lk_Twins_evenLeadsOn_7 K _ FU _
def Twins_plainMeet_17 (mm : aM) (x2 : Int) (x3 : Int) (x4 : Int) (x5 : Int) : Nat → Int → Option Int
  | 0, _ => none
  | n + 1, x6 => if x6 < x5 then (if 0 ≤ x3 ∧ x3 < 13 then (if 0 ≤ (w32 ((w32 ((mm 95 x3.toNat) - x4)) + x6)) ∧ (w32 ((w32 ((mm 95 x3.toNat) - x4)) + x6)) < 7 then (if 0 ≤ x2 ∧ x2 < 13 then (if 0 ≤ x6 ∧ x6 < 7 then (if (mm (82 + x3.toNat) (w32 ((w32 ((mm 95 x3.toNat) - x4)) + x6)).toNat) = (mm (82 + x2.toNat) x6.toNat) then (Twins_plainMeet_17 mm x2 x3 x4 x5 n (w32 (x6 + 1))) else (some (-1))) else none) else none) else none) else none) else ((Twins_joined x3 x4 x2 0 0 mm).bind fun r6 => (some r6))
set_option maxHeartbeats 4000000 in
theorem lk_Twins_plainMeet_17 {p : Program} {l : Launch} {e : Env} {s : State} {m : MethodId} {args : Array Value} {below : List Frame} {meth : Method} {c : Code} {D : va_G} {cA : FieldType → ClassId} {ad adV : Nat → Nat} {z0 : Nat} {al0 : List Nat} {mm : aM} (K : aK p s m args meth c mX9_plainMeet D cA ad adV z0) (x2 : Int) (x3 : Int) (x4 : Int) (x5 : Int)  : ∀ (n : Nat) (x6 : Int), aG p l e { frames := 2, cells := 0, slots := 0, locals := 50 } s m args below meth c D cA ad z0 mX9_plainMeet al0 (rI mm) (Twins_plainMeet_17 mm x2 x3 x4 x5 n x6) 17 [(0, .inr (.inr (.inl (some 80)))), (2, .inl x2), (3, .inl x3), (4, .inl x4), (5, .inl x5), (6, .inl x6)] [] mm := by
  intro n
  induction n with
  | zero => intro x6; exact g_none
  | succ n ih =>
    intro x6
    rw [Twins_plainMeet_17]
    refine gl (i' := 18) (fun _ _ => aw_iload K (dOf ck_mX9_plainMeet rfl rfl) rfl) ?_
    refine gl (i' := 19) (fun _ _ => aw_iload K (dOf ck_mX9_plainMeet rfl rfl) rfl) ?_
    refine g_icmp_ge K (dOf ck_mX9_plainMeet rfl rfl) (t := 44) (aJ_of (by decide +kernel)) (fun h5 => ?_) (fun h5 => ?_)
    · refine gl (i' := 21) (fun _ _ => aw_aload_n K (dOf ck_mX9_plainMeet rfl rfl) rfl) ?_
      refine gl (i' := 22) (fun _ _ => aw_getf K (dOf ck_mX9_plainMeet rfl rfl) rfl rfl (Nat.le_of_ble_eq_true rfl) wd_394 (k := 3) rfl) ?_
      refine gl (i' := 23) (fun _ _ => aw_iload_n K (dOf ck_mX9_plainMeet rfl rfl) rfl) ?_
      refine g_gd (fun hb7 => ?_)
      refine gl (i' := 24) (fun _ _ => aw_aald K (dOf ck_mX9_plainMeet rfl rfl) shWa hb7 (rsW_at hb7)) ?_
      refine gl (i' := 25) (fun _ _ => aw_aload_n K (dOf ck_mX9_plainMeet rfl rfl) rfl) ?_
      refine gl (i' := 26) (fun _ _ => aw_getf K (dOf ck_mX9_plainMeet rfl rfl) rfl rfl (Nat.le_of_ble_eq_true rfl) wd_395 (k := 4) rfl) ?_
      refine gl (i' := 27) (fun _ _ => aw_iload_n K (dOf ck_mX9_plainMeet rfl rfl) rfl) ?_
      refine gl (i' := 28) (fun _ _ => aw_iald K (dOf ck_mX9_plainMeet rfl rfl) rfl hb7) ?_
      refine gl (i' := 29) (fun _ _ => aw_iload K (dOf ck_mX9_plainMeet rfl rfl) rfl) ?_
      refine gl (i' := 30) (fun _ _ => aw_isub K (dOf ck_mX9_plainMeet rfl rfl)) ?_
      refine gl (i' := 31) (fun _ _ => aw_iload K (dOf ck_mX9_plainMeet rfl rfl) rfl) ?_
      refine gl (i' := 32) (fun _ _ => aw_iadd K (dOf ck_mX9_plainMeet rfl rfl)) ?_
      refine g_gd (fun hb8 => ?_)
      refine gl (i' := 33) (fun _ _ => aw_bald K (dOf ck_mX9_plainMeet rfl rfl) (shWr hb7) hb8) ?_
      refine gl (i' := 34) (fun _ _ => aw_aload_n K (dOf ck_mX9_plainMeet rfl rfl) rfl) ?_
      refine gl (i' := 35) (fun _ _ => aw_getf K (dOf ck_mX9_plainMeet rfl rfl) rfl rfl (Nat.le_of_ble_eq_true rfl) wd_394 (k := 3) rfl) ?_
      refine gl (i' := 36) (fun _ _ => aw_iload_n K (dOf ck_mX9_plainMeet rfl rfl) rfl) ?_
      refine g_gd (fun hb9 => ?_)
      refine gl (i' := 37) (fun _ _ => aw_aald K (dOf ck_mX9_plainMeet rfl rfl) shWa hb9 (rsW_at hb9)) ?_
      refine gl (i' := 38) (fun _ _ => aw_iload K (dOf ck_mX9_plainMeet rfl rfl) rfl) ?_
      refine g_gd (fun hb10 => ?_)
      refine gl (i' := 39) (fun _ _ => aw_bald K (dOf ck_mX9_plainMeet rfl rfl) (shWr hb9) hb10) ?_
      refine g_icmp_eq K (dOf ck_mX9_plainMeet rfl rfl) (t := 42) (aJ_of (by decide +kernel)) (fun h11 => ?_) (fun h11 => ?_)
      · refine gl (i' := 43) (fun _ _ => aw_iinc K (dOf ck_mX9_plainMeet rfl rfl) (Nat.le_of_ble_eq_true rfl) rfl) ?_
        refine g_lv (lv' := [(6, .inl _), (0, .inr (.inr (.inl (some _)))), (2, .inl _), (3, .inl _), (4, .inl _), (5, .inl _)]) rfl ?_
        refine g_goto K (dOf ck_mX9_plainMeet rfl rfl).1 (t := 17) (aJ_of (by decide +kernel)) ?_
        refine g_sub [1, 2, 3, 4, 5, 0] rfl ?_
        exact ih _
      · refine gl (i' := 41) (fun _ _ => aw_iconst K (n := -1) (i32 _ rfl) (dOf ck_mX9_plainMeet rfl rfl)) ?_
        exact g_iret K (dOf ck_mX9_plainMeet rfl rfl).1 rfl (Or.inl rfl) rfl
    · refine gl (i' := 45) (fun _ _ => aw_aload_n K (dOf ck_mX9_plainMeet rfl rfl) rfl) ?_
      refine gl (i' := 46) (fun _ _ => aw_iload_n K (dOf ck_mX9_plainMeet rfl rfl) rfl) ?_
      refine gl (i' := 47) (fun _ _ => aw_iload K (dOf ck_mX9_plainMeet rfl rfl) rfl) ?_
      refine gl (i' := 48) (fun _ _ => aw_iload_n K (dOf ck_mX9_plainMeet rfl rfl) rfl) ?_
      refine gl (i' := 49) (fun _ _ => aw_iconst K (n := 0) (i32 _ rfl) (dOf ck_mX9_plainMeet rfl rfl)) ?_
      refine gl (i' := 50) (fun _ _ => aw_iconst K (n := 0) (i32 _ rfl) (dOf ck_mX9_plainMeet rfl rfl)) ?_
      refine g_callVI K [.inl _, .inl _, .inl _, .inl _, .inl _] rfl (dOf ck_mX9_plainMeet rfl rfl) al_OneBreath_Twins_173 rfl rfl ⟨wd_890, wd_40⟩ rfl (Nat.le_of_ble_eq_true rfl) ⟨Nat.le_of_ble_eq_true rfl, Nat.le_of_ble_eq_true rfl⟩ (fun b hb => met_Twins_joined  hb) (fun r6 hr6 => ?_)
      exact g_iret K (by decide +kernel) rfl (Or.inl rfl) rfl
def Twins_plainMeet (x1 : Int) (x2 : Int) (mm : aM) : Option Int := (Twins_wordOut x1 mm).bind fun r1 => ((Twins_lengthOut x1 mm).bind fun r2 => (if 0 ≤ x2 ∧ x2 < 13 then ((Jmath_min r2 (mm 95 x2.toNat) mm).bind fun r4 => (Twins_plainMeet_17 mm x2 r1 r2 r4 FU 0)) else none))
set_option maxHeartbeats 4000000 in
theorem met_Twins_plainMeet {l : Launch} {D : va_G} {cA : FieldType → ClassId} {ad adV : Nat → Nat} {z0 : Nat} {x1 : Int} {x2 : Int} {mm : aM}  {r : Int} (h : Twins_plainMeet x1 x2 mm = some r) : aMet l D cA ad adV z0 mX9_plainMeet 2 50 0 0 [.inr (.inr (.inl (some 80))), .inl x1, .inl x2] SH mm ((rI mm) r).1 SH ((rI mm) r).2 := by
  refine aMet_ofG (by decide +kernel) rfl (Nat.le_of_ble_eq_true rfl) h (fun p e s m args below meth c al0 K => ?_)
  unfold Twins_plainMeet
  refine gl (i' := 1) (fun _ _ => aw_aload_n K (dOf ck_mX9_plainMeet rfl rfl) rfl) ?_
  refine gl (i' := 2) (fun _ _ => aw_iload_n K (dOf ck_mX9_plainMeet rfl rfl) rfl) ?_
  refine g_callVI K [.inl _] rfl (dOf ck_mX9_plainMeet rfl rfl) al_OneBreath_Twins_161 rfl rfl ⟨wd_880, wd_37⟩ rfl (Nat.le_of_ble_eq_true rfl) ⟨Nat.le_of_ble_eq_true rfl, Nat.le_of_ble_eq_true rfl⟩ (fun b hb => met_Twins_wordOut  hb) (fun r1 hr1 => ?_)
  refine gl (i' := 4) (fun _ _ => aw_istore_n K (dOf ck_mX9_plainMeet rfl rfl) (Nat.le_of_ble_eq_true rfl)) ?_
  refine g_lv (lv' := [(3, .inl _), (0, .inr (.inr (.inl (some _)))), (1, .inl _), (2, .inl _)]) rfl ?_
  refine gl (i' := 5) (fun _ _ => aw_aload_n K (dOf ck_mX9_plainMeet rfl rfl) rfl) ?_
  refine gl (i' := 6) (fun _ _ => aw_iload_n K (dOf ck_mX9_plainMeet rfl rfl) rfl) ?_
  refine g_callVI K [.inl _] rfl (dOf ck_mX9_plainMeet rfl rfl) al_OneBreath_Twins_164 rfl rfl ⟨wd_886, wd_39⟩ rfl (Nat.le_of_ble_eq_true rfl) ⟨Nat.le_of_ble_eq_true rfl, Nat.le_of_ble_eq_true rfl⟩ (fun b hb => met_Twins_lengthOut  hb) (fun r2 hr2 => ?_)
  refine gl (i' := 8) (fun _ _ => aw_istore K (dOf ck_mX9_plainMeet rfl rfl) (Nat.le_of_ble_eq_true rfl)) ?_
  refine g_lv (lv' := [(4, .inl _), (3, .inl _), (0, .inr (.inr (.inl (some _)))), (1, .inl _), (2, .inl _)]) rfl ?_
  refine gl (i' := 9) (fun _ _ => aw_iload K (dOf ck_mX9_plainMeet rfl rfl) rfl) ?_
  refine gl (i' := 10) (fun _ _ => aw_aload_n K (dOf ck_mX9_plainMeet rfl rfl) rfl) ?_
  refine gl (i' := 11) (fun _ _ => aw_getf K (dOf ck_mX9_plainMeet rfl rfl) rfl rfl (Nat.le_of_ble_eq_true rfl) wd_395 (k := 4) rfl) ?_
  refine gl (i' := 12) (fun _ _ => aw_iload_n K (dOf ck_mX9_plainMeet rfl rfl) rfl) ?_
  refine g_gd (fun hb3 => ?_)
  refine gl (i' := 13) (fun _ _ => aw_iald K (dOf ck_mX9_plainMeet rfl rfl) rfl hb3) ?_
  refine g_callSI K [.inl _, .inl _] rfl (dOf ck_mX9_plainMeet rfl rfl) al_OneBreath_Twins_167 wd_496 rfl (Nat.le_of_ble_eq_true rfl) ⟨Nat.le_of_ble_eq_true rfl, Nat.le_of_ble_eq_true rfl⟩ (fun b hb => met_Jmath_min  hb) (fun r4 hr4 => ?_)
  refine gl (i' := 15) (fun _ _ => aw_istore K (dOf ck_mX9_plainMeet rfl rfl) (Nat.le_of_ble_eq_true rfl)) ?_
  refine g_lv (lv' := [(5, .inl _), (4, .inl _), (3, .inl _), (0, .inr (.inr (.inl (some _)))), (1, .inl _), (2, .inl _)]) rfl ?_
  refine gl (i' := 16) (fun _ _ => aw_iconst K (n := 0) (i32 _ rfl) (dOf ck_mX9_plainMeet rfl rfl)) ?_
  refine gl (i' := 17) (fun _ _ => aw_istore K (dOf ck_mX9_plainMeet rfl rfl) (Nat.le_of_ble_eq_true rfl)) ?_
  refine g_lv (lv' := [(6, .inl _), (5, .inl _), (4, .inl _), (3, .inl _), (0, .inr (.inr (.inl (some _)))), (1, .inl _), (2, .inl _)]) rfl ?_
  refine g_sub [4, 6, 3, 2, 1, 0] rfl ?_
  exact lk_Twins_plainMeet_17 K _ _ _ _ FU _
def Twins_leadsToEnd_62 (mm : aM) (k20 : Int → Option Int) (x1 : Int) (x2 : Int) (x3 : Int) : Option Int := k20 (iand x3 (w32 (x3 - 1)))
set_option maxHeartbeats 4000000 in
theorem lk_Twins_leadsToEnd_62 {p : Program} {l : Launch} {e : Env} {s : State} {m : MethodId} {args : Array Value} {below : List Frame} {meth : Method} {c : Code} {D : va_G} {cA : FieldType → ClassId} {ad adV : Nat → Nat} {z0 : Nat} {al0 : List Nat} {mm : aM} (K : aK p s m args meth c mX9_leadsToEnd D cA ad adV z0) (x1 : Int) (x2 : Int) (x3 : Int) (k20 : Int → Option Int) (hk20 : ∀ (x3 : Int), aG p l e { frames := 3, cells := 0, slots := 0, locals := 76 } s m args below meth c D cA ad z0 mX9_leadsToEnd al0 (rI mm) (k20 x3) 20 [(0, .inr (.inr (.inl (some 80)))), (1, .inl x1), (2, .inl x2), (3, .inl x3)] [] mm)  : aG p l e { frames := 3, cells := 0, slots := 0, locals := 76 } s m args below meth c D cA ad z0 mX9_leadsToEnd al0 (rI mm) (Twins_leadsToEnd_62 mm k20 x1 x2 x3) 62 [(0, .inr (.inr (.inl (some 80)))), (1, .inl x1), (2, .inl x2), (3, .inl x3)] [] mm := by
  unfold Twins_leadsToEnd_62
  refine gl (i' := 63) (fun _ _ => aw_iload_n K (dOf ck_mX9_leadsToEnd rfl rfl) rfl) ?_
  refine gl (i' := 64) (fun _ _ => aw_iload_n K (dOf ck_mX9_leadsToEnd rfl rfl) rfl) ?_
  refine gl (i' := 65) (fun _ _ => aw_iconst K (n := 1) (i32 _ rfl) (dOf ck_mX9_leadsToEnd rfl rfl)) ?_
  refine gl (i' := 66) (fun _ _ => aw_isub K (dOf ck_mX9_leadsToEnd rfl rfl)) ?_
  refine gl (i' := 67) (fun _ _ => aw_iand K (dOf ck_mX9_leadsToEnd rfl rfl)) ?_
  refine gl (i' := 68) (fun _ _ => aw_istore_n K (dOf ck_mX9_leadsToEnd rfl rfl) (Nat.le_of_ble_eq_true rfl)) ?_
  refine g_lv (lv' := [(3, .inl _), (0, .inr (.inr (.inl (some _)))), (1, .inl _), (2, .inl _)]) rfl ?_
  refine g_goto K (dOf ck_mX9_leadsToEnd rfl rfl).1 (t := 20) (aJ_of (by decide +kernel)) ?_
  refine g_sub [1, 2, 3, 0] rfl ?_
  exact hk20 _
def Twins_leadsToEnd_20 (mm : aM) (x1 : Int) (x2 : Int) : Nat → Int → Option Int
  | 0, _ => none
  | n + 1, x3 => if x3 = 0 then (some 0) else ((Jint_numberOfTrailingZeros x3 mm).bind fun r5 => ((Twins_plainMeet x1 r5 mm).bind fun r6 => (if 0 ≤ x1 ∧ x1 < 471 then ((Twins_lengthOut x1 mm).bind fun r8 => (if 0 ≤ r5 ∧ r5 < 13 then ((Jmath_min r8 (mm 95 r5.toNat) mm).bind fun r10 => (if r6 = (-1) then (Twins_leadsToEnd_62 mm (Twins_leadsToEnd_20 mm x1 x2 n) x1 x2 x3) else ((Twins_isLast r6 mm).bind fun r12 => (if r12 = 0 then ((Twins_isUseful r6 (w32 ((mm 103 x1.toNat) + r10)) mm).bind fun r14 => (if r14 = 0 then (Twins_leadsToEnd_62 mm (Twins_leadsToEnd_20 mm x1 x2 n) x1 x2 x3) else (some 1))) else (if (w32 ((mm 103 x1.toNat) + r10)) = x2 then (some 1) else (Twins_leadsToEnd_62 mm (Twins_leadsToEnd_20 mm x1 x2 n) x1 x2 x3)))))) else none)) else none)))
set_option maxHeartbeats 4000000 in
theorem lk_Twins_leadsToEnd_20 {p : Program} {l : Launch} {e : Env} {s : State} {m : MethodId} {args : Array Value} {below : List Frame} {meth : Method} {c : Code} {D : va_G} {cA : FieldType → ClassId} {ad adV : Nat → Nat} {z0 : Nat} {al0 : List Nat} {mm : aM} (K : aK p s m args meth c mX9_leadsToEnd D cA ad adV z0) (x1 : Int) (x2 : Int)  : ∀ (n : Nat) (x3 : Int), aG p l e { frames := 3, cells := 0, slots := 0, locals := 76 } s m args below meth c D cA ad z0 mX9_leadsToEnd al0 (rI mm) (Twins_leadsToEnd_20 mm x1 x2 n x3) 20 [(0, .inr (.inr (.inl (some 80)))), (1, .inl x1), (2, .inl x2), (3, .inl x3)] [] mm := by
  intro n
  induction n with
  | zero => intro x3; exact g_none
  | succ n ih =>
    intro x3
    rw [Twins_leadsToEnd_20]
    refine gl (i' := 21) (fun _ _ => aw_iload_n K (dOf ck_mX9_leadsToEnd rfl rfl) rfl) ?_
    refine g_if_eq K (dOf ck_mX9_leadsToEnd rfl rfl) (t := 69) (aJ_of (by decide +kernel)) (fun h4 => ?_) (fun h4 => ?_)
    · refine gl (i' := 70) (fun _ _ => aw_iconst K (n := 0) (i32 _ rfl) (dOf ck_mX9_leadsToEnd rfl rfl)) ?_
      exact g_iret K (by decide +kernel) rfl (Or.inr (Or.inl ⟨rfl, Or.inl rfl⟩)) rfl
    · refine gl (i' := 23) (fun _ _ => aw_iload_n K (dOf ck_mX9_leadsToEnd rfl rfl) rfl) ?_
      refine g_callSI K [.inl _] rfl (dOf ck_mX9_leadsToEnd rfl rfl) al_OneBreath_Twins_147 wd_860 rfl (Nat.le_of_ble_eq_true rfl) ⟨Nat.le_of_ble_eq_true rfl, Nat.le_of_ble_eq_true rfl⟩ (fun b hb => met_Jint_numberOfTrailingZeros  hb) (fun r5 hr5 => ?_)
      refine gl (i' := 25) (fun _ _ => aw_istore K (dOf ck_mX9_leadsToEnd rfl rfl) (Nat.le_of_ble_eq_true rfl)) ?_
      refine g_lv (lv' := [(4, .inl _), (0, .inr (.inr (.inl (some _)))), (1, .inl _), (2, .inl _), (3, .inl _)]) rfl ?_
      refine gl (i' := 26) (fun _ _ => aw_aload_n K (dOf ck_mX9_leadsToEnd rfl rfl) rfl) ?_
      refine gl (i' := 27) (fun _ _ => aw_iload_n K (dOf ck_mX9_leadsToEnd rfl rfl) rfl) ?_
      refine gl (i' := 28) (fun _ _ => aw_iload K (dOf ck_mX9_leadsToEnd rfl rfl) rfl) ?_
      refine g_callVI K [.inl _, .inl _] rfl (dOf ck_mX9_leadsToEnd rfl rfl) al_OneBreath_Twins_206 rfl rfl ⟨wd_920, wd_45⟩ rfl (Nat.le_of_ble_eq_true rfl) ⟨Nat.le_of_ble_eq_true rfl, Nat.le_of_ble_eq_true rfl⟩ (fun b hb => met_Twins_plainMeet  hb) (fun r6 hr6 => ?_)
      refine gl (i' := 30) (fun _ _ => aw_istore K (dOf ck_mX9_leadsToEnd rfl rfl) (Nat.le_of_ble_eq_true rfl)) ?_
      refine g_lv (lv' := [(5, .inl _), (4, .inl _), (0, .inr (.inr (.inl (some _)))), (1, .inl _), (2, .inl _), (3, .inl _)]) rfl ?_
      refine gl (i' := 31) (fun _ _ => aw_aload_n K (dOf ck_mX9_leadsToEnd rfl rfl) rfl) ?_
      refine gl (i' := 32) (fun _ _ => aw_getf K (dOf ck_mX9_leadsToEnd rfl rfl) rfl rfl (Nat.le_of_ble_eq_true rfl) wd_409 (k := 18) rfl) ?_
      refine gl (i' := 33) (fun _ _ => aw_iload_n K (dOf ck_mX9_leadsToEnd rfl rfl) rfl) ?_
      refine g_gd (fun hb7 => ?_)
      refine gl (i' := 34) (fun _ _ => aw_sald K (dOf ck_mX9_leadsToEnd rfl rfl) rfl hb7) ?_
      refine gl (i' := 35) (fun _ _ => aw_aload_n K (dOf ck_mX9_leadsToEnd rfl rfl) rfl) ?_
      refine gl (i' := 36) (fun _ _ => aw_iload_n K (dOf ck_mX9_leadsToEnd rfl rfl) rfl) ?_
      refine g_callVI K [.inl _] rfl (dOf ck_mX9_leadsToEnd rfl rfl) al_OneBreath_Twins_164 rfl rfl ⟨wd_886, wd_39⟩ rfl (Nat.le_of_ble_eq_true rfl) ⟨Nat.le_of_ble_eq_true rfl, Nat.le_of_ble_eq_true rfl⟩ (fun b hb => met_Twins_lengthOut  hb) (fun r8 hr8 => ?_)
      refine gl (i' := 38) (fun _ _ => aw_aload_n K (dOf ck_mX9_leadsToEnd rfl rfl) rfl) ?_
      refine gl (i' := 39) (fun _ _ => aw_getf K (dOf ck_mX9_leadsToEnd rfl rfl) rfl rfl (Nat.le_of_ble_eq_true rfl) wd_395 (k := 4) rfl) ?_
      refine gl (i' := 40) (fun _ _ => aw_iload K (dOf ck_mX9_leadsToEnd rfl rfl) rfl) ?_
      refine g_gd (fun hb9 => ?_)
      refine gl (i' := 41) (fun _ _ => aw_iald K (dOf ck_mX9_leadsToEnd rfl rfl) rfl hb9) ?_
      refine g_callSI K [.inl _, .inl _] rfl (dOf ck_mX9_leadsToEnd rfl rfl) al_OneBreath_Twins_167 wd_496 rfl (Nat.le_of_ble_eq_true rfl) ⟨Nat.le_of_ble_eq_true rfl, Nat.le_of_ble_eq_true rfl⟩ (fun b hb => met_Jmath_min  hb) (fun r10 hr10 => ?_)
      refine gl (i' := 43) (fun _ _ => aw_iadd K (dOf ck_mX9_leadsToEnd rfl rfl)) ?_
      refine gl (i' := 44) (fun _ _ => aw_istore K (dOf ck_mX9_leadsToEnd rfl rfl) (Nat.le_of_ble_eq_true rfl)) ?_
      refine g_lv (lv' := [(6, .inl _), (5, .inl _), (4, .inl _), (0, .inr (.inr (.inl (some _)))), (1, .inl _), (2, .inl _), (3, .inl _)]) rfl ?_
      refine gl (i' := 45) (fun _ _ => aw_iload K (dOf ck_mX9_leadsToEnd rfl rfl) rfl) ?_
      refine gl (i' := 46) (fun _ _ => aw_iconst K (n := -1) (i32 _ rfl) (dOf ck_mX9_leadsToEnd rfl rfl)) ?_
      refine g_icmp_eq K (dOf ck_mX9_leadsToEnd rfl rfl) (t := 62) (aJ_of (by decide +kernel)) (fun h11 => ?_) (fun h11 => ?_)
      · refine g_sub [3, 4, 5, 6] rfl ?_
        exact lk_Twins_leadsToEnd_62 K _ _ _ _ ih
      · refine gl (i' := 48) (fun _ _ => aw_aload_n K (dOf ck_mX9_leadsToEnd rfl rfl) rfl) ?_
        refine gl (i' := 49) (fun _ _ => aw_iload K (dOf ck_mX9_leadsToEnd rfl rfl) rfl) ?_
        refine g_callVI K [.inl _] rfl (dOf ck_mX9_leadsToEnd rfl rfl) al_OneBreath_Twins_96 rfl rfl ⟨wd_864, wd_32⟩ rfl (Nat.le_of_ble_eq_true rfl) ⟨Nat.le_of_ble_eq_true rfl, Nat.le_of_ble_eq_true rfl⟩ (fun b hb => met_Twins_isLast  hb) (fun r12 hr12 => ?_)
        refine g_if_eq K (dOf ck_mX9_leadsToEnd rfl rfl) (t := 55) (aJ_of (by decide +kernel)) (fun h13 => ?_) (fun h13 => ?_)
        · refine gl (i' := 56) (fun _ _ => aw_aload_n K (dOf ck_mX9_leadsToEnd rfl rfl) rfl) ?_
          refine gl (i' := 57) (fun _ _ => aw_iload K (dOf ck_mX9_leadsToEnd rfl rfl) rfl) ?_
          refine gl (i' := 58) (fun _ _ => aw_iload K (dOf ck_mX9_leadsToEnd rfl rfl) rfl) ?_
          refine g_callVI K [.inl _, .inl _] rfl (dOf ck_mX9_leadsToEnd rfl rfl) al_OneBreath_Twins_209 rfl rfl ⟨wd_917, wd_44⟩ rfl (Nat.le_of_ble_eq_true rfl) ⟨Nat.le_of_ble_eq_true rfl, Nat.le_of_ble_eq_true rfl⟩ (fun b hb => met_Twins_isUseful  hb) (fun r14 hr14 => ?_)
          refine g_if_eq K (dOf ck_mX9_leadsToEnd rfl rfl) (t := 62) (aJ_of (by decide +kernel)) (fun h15 => ?_) (fun h15 => ?_)
          · refine g_sub [3, 4, 5, 6] rfl ?_
            exact lk_Twins_leadsToEnd_62 K _ _ _ _ ih
          · refine gl (i' := 61) (fun _ _ => aw_iconst K (n := 1) (i32 _ rfl) (dOf ck_mX9_leadsToEnd rfl rfl)) ?_
            exact g_iret K (dOf ck_mX9_leadsToEnd rfl rfl).1 rfl (Or.inr (Or.inl ⟨rfl, Or.inr rfl⟩)) rfl
        · refine gl (i' := 52) (fun _ _ => aw_iload K (dOf ck_mX9_leadsToEnd rfl rfl) rfl) ?_
          refine gl (i' := 53) (fun _ _ => aw_iload_n K (dOf ck_mX9_leadsToEnd rfl rfl) rfl) ?_
          refine g_icmp_ne K (dOf ck_mX9_leadsToEnd rfl rfl) (t := 62) (aJ_of (by decide +kernel)) (fun h16 => ?_) (fun h16 => ?_)
          · refine g_goto K (dOf ck_mX9_leadsToEnd rfl rfl).1 (t := 60) (aJ_of (by decide +kernel)) ?_
            refine gl (i' := 61) (fun _ _ => aw_iconst K (n := 1) (i32 _ rfl) (dOf ck_mX9_leadsToEnd rfl rfl)) ?_
            exact g_iret K (dOf ck_mX9_leadsToEnd rfl rfl).1 rfl (Or.inr (Or.inl ⟨rfl, Or.inr rfl⟩)) rfl
          · refine g_sub [3, 4, 5, 6] rfl ?_
            exact lk_Twins_leadsToEnd_62 K _ _ _ _ ih
def Twins_leadsToEnd_12 (mm : aM) : Option Int := some 1
set_option maxHeartbeats 4000000 in
theorem lk_Twins_leadsToEnd_12 {p : Program} {l : Launch} {e : Env} {s : State} {m : MethodId} {args : Array Value} {below : List Frame} {meth : Method} {c : Code} {D : va_G} {cA : FieldType → ClassId} {ad adV : Nat → Nat} {z0 : Nat} {al0 : List Nat} {mm : aM} (K : aK p s m args meth c mX9_leadsToEnd D cA ad adV z0)   : aG p l e { frames := 3, cells := 0, slots := 0, locals := 76 } s m args below meth c D cA ad z0 mX9_leadsToEnd al0 (rI mm) (Twins_leadsToEnd_12 mm) 12 [] [] mm := by
  unfold Twins_leadsToEnd_12
  refine gl (i' := 13) (fun _ _ => aw_iconst K (n := 1) (i32 _ rfl) (dOf ck_mX9_leadsToEnd rfl rfl)) ?_
  refine g_goto K (dOf ck_mX9_leadsToEnd rfl rfl).1 (t := 15) (aJ_of (by decide +kernel)) ?_
  exact g_iret K (dOf ck_mX9_leadsToEnd rfl rfl).1 rfl (Or.inr (Or.inl ⟨rfl, Or.inr rfl⟩)) rfl
def Twins_leadsToEnd (x1 : Int) (x2 : Int) (mm : aM) : Option Int := (Twins_isEven x1 mm).bind fun r1 => (if r1 = 0 then ((Twins_nextWords x1 mm).bind fun r3 => (Twins_leadsToEnd_20 mm x1 x2 FU r3)) else ((Twins_isLast x1 mm).bind fun r17 => (if r17 = 0 then ((Twins_evenLeadsOn x1 mm).bind fun r19 => (if r19 = 0 then (some 0) else (Twins_leadsToEnd_12 mm))) else (Twins_leadsToEnd_12 mm))))
set_option maxHeartbeats 4000000 in
theorem met_Twins_leadsToEnd {l : Launch} {D : va_G} {cA : FieldType → ClassId} {ad adV : Nat → Nat} {z0 : Nat} {x1 : Int} {x2 : Int} {mm : aM}  {r : Int} (h : Twins_leadsToEnd x1 x2 mm = some r) : aMet l D cA ad adV z0 mX9_leadsToEnd 3 76 0 0 [.inr (.inr (.inl (some 80))), .inl x1, .inl x2] SH mm ((rI mm) r).1 SH ((rI mm) r).2 := by
  refine aMet_ofG (by decide +kernel) rfl (Nat.le_of_ble_eq_true rfl) h (fun p e s m args below meth c al0 K => ?_)
  unfold Twins_leadsToEnd
  refine gl (i' := 1) (fun _ _ => aw_aload_n K (dOf ck_mX9_leadsToEnd rfl rfl) rfl) ?_
  refine gl (i' := 2) (fun _ _ => aw_iload_n K (dOf ck_mX9_leadsToEnd rfl rfl) rfl) ?_
  refine g_callVI K [.inl _] rfl (dOf ck_mX9_leadsToEnd rfl rfl) al_OneBreath_Twins_144 rfl rfl ⟨wd_867, wd_33⟩ rfl (Nat.le_of_ble_eq_true rfl) ⟨Nat.le_of_ble_eq_true rfl, Nat.le_of_ble_eq_true rfl⟩ (fun b hb => met_Twins_isEven  hb) (fun r1 hr1 => ?_)
  refine g_if_eq K (dOf ck_mX9_leadsToEnd rfl rfl) (t := 16) (aJ_of (by decide +kernel)) (fun h2 => ?_) (fun h2 => ?_)
  · refine gl (i' := 17) (fun _ _ => aw_aload_n K (dOf ck_mX9_leadsToEnd rfl rfl) rfl) ?_
    refine gl (i' := 18) (fun _ _ => aw_iload_n K (dOf ck_mX9_leadsToEnd rfl rfl) rfl) ?_
    refine g_callVI K [.inl _] rfl (dOf ck_mX9_leadsToEnd rfl rfl) al_OneBreath_Twins_151 rfl rfl ⟨wd_874, wd_35⟩ rfl (Nat.le_of_ble_eq_true rfl) ⟨Nat.le_of_ble_eq_true rfl, Nat.le_of_ble_eq_true rfl⟩ (fun b hb => met_Twins_nextWords  hb) (fun r3 hr3 => ?_)
    refine gl (i' := 20) (fun _ _ => aw_istore_n K (dOf ck_mX9_leadsToEnd rfl rfl) (Nat.le_of_ble_eq_true rfl)) ?_
    refine g_lv (lv' := [(3, .inl _), (0, .inr (.inr (.inl (some _)))), (1, .inl _), (2, .inl _)]) rfl ?_
    refine g_sub [1, 2, 3, 0] rfl ?_
    exact lk_Twins_leadsToEnd_20 K _ _ FU _
  · refine gl (i' := 5) (fun _ _ => aw_aload_n K (dOf ck_mX9_leadsToEnd rfl rfl) rfl) ?_
    refine gl (i' := 6) (fun _ _ => aw_iload_n K (dOf ck_mX9_leadsToEnd rfl rfl) rfl) ?_
    refine g_callVI K [.inl _] rfl (dOf ck_mX9_leadsToEnd rfl rfl) al_OneBreath_Twins_96 rfl rfl ⟨wd_864, wd_32⟩ rfl (Nat.le_of_ble_eq_true rfl) ⟨Nat.le_of_ble_eq_true rfl, Nat.le_of_ble_eq_true rfl⟩ (fun b hb => met_Twins_isLast  hb) (fun r17 hr17 => ?_)
    refine g_if_ne K (dOf ck_mX9_leadsToEnd rfl rfl) (t := 12) (aJ_of (by decide +kernel)) (fun h18 => ?_) (fun h18 => ?_)
    · refine gl (i' := 9) (fun _ _ => aw_aload_n K (dOf ck_mX9_leadsToEnd rfl rfl) rfl) ?_
      refine gl (i' := 10) (fun _ _ => aw_iload_n K (dOf ck_mX9_leadsToEnd rfl rfl) rfl) ?_
      refine g_callVI K [.inl _] rfl (dOf ck_mX9_leadsToEnd rfl rfl) al_OneBreath_Twins_203 rfl rfl ⟨wd_914, wd_43⟩ rfl (Nat.le_of_ble_eq_true rfl) ⟨Nat.le_of_ble_eq_true rfl, Nat.le_of_ble_eq_true rfl⟩ (fun b hb => met_Twins_evenLeadsOn  hb) (fun r19 hr19 => ?_)
      refine g_if_eq K (dOf ck_mX9_leadsToEnd rfl rfl) (t := 14) (aJ_of (by decide +kernel)) (fun h20 => ?_) (fun h20 => ?_)
      · refine gl (i' := 15) (fun _ _ => aw_iconst K (n := 0) (i32 _ rfl) (dOf ck_mX9_leadsToEnd rfl rfl)) ?_
        exact g_iret K (dOf ck_mX9_leadsToEnd rfl rfl).1 rfl (Or.inr (Or.inl ⟨rfl, Or.inl rfl⟩)) rfl
      · refine g_sub [] rfl ?_
        exact lk_Twins_leadsToEnd_12 K
    · refine g_sub [] rfl ?_
      exact lk_Twins_leadsToEnd_12 K
