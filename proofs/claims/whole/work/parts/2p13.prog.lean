def R_areSoundsOnTape_2 (mm : aM) (x1 : Int) : Nat → Int → Option Int
  | 0, _ => none
  | n + 1, x2 => if x2 < x1 then (if 0 ≤ x2 ∧ x2 < 500 then ((R_soundOf 177 (mm 179 x2.toNat) mm).bind fun r3 => (if r3 = (-1) then (some 0) else (R_areSoundsOnTape_2 mm x1 n (w32 (x2 + 1))))) else none) else (some 1)
set_option maxHeartbeats 4000000 in
theorem lk_R_areSoundsOnTape_2 {p : Program} {l : Launch} {e : Env} {s : State} {m : MethodId} {args : Array Value} {below : List Frame} {meth : Method} {c : Code} {D : va_G} {cA : FieldType → ClassId} {ad adV : Nat → Nat} {z0 : Nat} {al0 : List Nat} {mm : aM} (K : aK p s m args meth c mX12_areSoundsOnTape D cA ad adV z0) (x1 : Int)  : ∀ (n : Nat) (x2 : Int), aG p l e { frames := 1, cells := 0, slots := 0, locals := 23 } s m args below meth c D cA ad z0 mX12_areSoundsOnTape al0 (rI mm) (R_areSoundsOnTape_2 mm x1 n x2) 2 [(0, .inr (.inr (.inl (some 176)))), (1, .inl x1), (2, .inl x2)] [] mm := by
  intro n
  induction n with
  | zero => intro x2; exact g_none
  | succ n ih =>
    intro x2
    rw [R_areSoundsOnTape_2]
    refine gl (i' := 3) (fun _ _ => aw_iload_n K (dOf ck_mX12_areSoundsOnTape rfl rfl) rfl) ?_
    refine gl (i' := 4) (fun _ _ => aw_iload_n K (dOf ck_mX12_areSoundsOnTape rfl rfl) rfl) ?_
    refine g_icmp_ge K (dOf ck_mX12_areSoundsOnTape rfl rfl) (t := 19) (aJ_of (by decide +kernel)) (fun h1 => ?_) (fun h1 => ?_)
    · refine gl (i' := 6) (fun _ _ => aw_aload_n K (dOf ck_mX12_areSoundsOnTape rfl rfl) rfl) ?_
      refine gl (i' := 7) (fun _ _ => aw_aload_n K (dOf ck_mX12_areSoundsOnTape rfl rfl) rfl) ?_
      refine gl (i' := 8) (fun _ _ => aw_getf K (dOf ck_mX12_areSoundsOnTape rfl rfl) rfl rfl (Nat.le_of_ble_eq_true rfl) wd_1206 (k := 1) rfl) ?_
      refine gl (i' := 9) (fun _ _ => aw_aload_n K (dOf ck_mX12_areSoundsOnTape rfl rfl) rfl) ?_
      refine gl (i' := 10) (fun _ _ => aw_getf K (dOf ck_mX12_areSoundsOnTape rfl rfl) rfl rfl (Nat.le_of_ble_eq_true rfl) wd_1208 (k := 3) rfl) ?_
      refine gl (i' := 11) (fun _ _ => aw_iload_n K (dOf ck_mX12_areSoundsOnTape rfl rfl) rfl) ?_
      refine g_gd (fun hb2 => ?_)
      refine gl (i' := 12) (fun _ _ => aw_iald K (dOf ck_mX12_areSoundsOnTape rfl rfl) rfl hb2) ?_
      refine g_callVI K [.inr (.inr (.inl (some _))), .inl _] rfl (dOf ck_mX12_areSoundsOnTape rfl rfl) al_OneBreathModel_180 rfl rfl ⟨wd_1319, wd_76⟩ rfl (Nat.le_of_ble_eq_true rfl) ⟨Nat.le_of_ble_eq_true rfl, Nat.le_of_ble_eq_true rfl⟩ (fun b hb => met_R_soundOf ⟨_, rfl⟩ hb) (fun r3 hr3 => ?_)
      refine gl (i' := 14) (fun _ _ => aw_iconst K (n := -1) (i32 _ rfl) (dOf ck_mX12_areSoundsOnTape rfl rfl)) ?_
      refine g_icmp_ne K (dOf ck_mX12_areSoundsOnTape rfl rfl) (t := 17) (aJ_of (by decide +kernel)) (fun h4 => ?_) (fun h4 => ?_)
      · refine gl (i' := 16) (fun _ _ => aw_iconst K (n := 0) (i32 _ rfl) (dOf ck_mX12_areSoundsOnTape rfl rfl)) ?_
        exact g_iret K (dOf ck_mX12_areSoundsOnTape rfl rfl).1 rfl (Or.inr (Or.inl ⟨rfl, Or.inl rfl⟩)) rfl
      · refine gl (i' := 18) (fun _ _ => aw_iinc K (dOf ck_mX12_areSoundsOnTape rfl rfl) (Nat.le_of_ble_eq_true rfl) rfl) ?_
        refine g_lv (lv' := [(2, .inl _), (0, .inr (.inr (.inl (some _)))), (1, .inl _)]) rfl ?_
        refine g_goto K (dOf ck_mX12_areSoundsOnTape rfl rfl).1 (t := 2) (aJ_of (by decide +kernel)) ?_
        refine g_sub [1, 2, 0] rfl ?_
        exact ih _
    · refine gl (i' := 20) (fun _ _ => aw_iconst K (n := 1) (i32 _ rfl) (dOf ck_mX12_areSoundsOnTape rfl rfl)) ?_
      exact g_iret K (by decide +kernel) rfl (Or.inr (Or.inl ⟨rfl, Or.inr rfl⟩)) rfl
def R_areSoundsOnTape (x1 : Int) (mm : aM) : Option Int := R_areSoundsOnTape_2 mm x1 FU 0
set_option maxHeartbeats 4000000 in
theorem met_R_areSoundsOnTape {l : Launch} {D : va_G} {cA : FieldType → ClassId} {ad adV : Nat → Nat} {z0 : Nat} {x1 : Int} {mm : aM}  {r : Int} (h : R_areSoundsOnTape x1 mm = some r) : aMet l D cA ad adV z0 mX12_areSoundsOnTape 1 23 0 0 [.inr (.inr (.inl (some 176))), .inl x1] SH mm ((rI mm) r).1 SH ((rI mm) r).2 := by
  refine aMet_ofG (by decide +kernel) rfl (Nat.le_of_ble_eq_true rfl) h (fun p e s m args below meth c al0 K => ?_)
  unfold R_areSoundsOnTape
  refine gl (i' := 1) (fun _ _ => aw_iconst K (n := 0) (i32 _ rfl) (dOf ck_mX12_areSoundsOnTape rfl rfl)) ?_
  refine gl (i' := 2) (fun _ _ => aw_istore_n K (dOf ck_mX12_areSoundsOnTape rfl rfl) (Nat.le_of_ble_eq_true rfl)) ?_
  refine g_lv (lv' := [(2, .inl _), (0, .inr (.inr (.inl (some _)))), (1, .inl _)]) rfl ?_
  refine g_sub [1, 2, 0] rfl ?_
  exact lk_R_areSoundsOnTape_2 K _ FU _
def R_line_32 (x1 : Int) : Nat → Int → aM → Option (Int × aM)
  | 0, _, _ => none
  | n + 1, x2, mm => if x2 < x1 then (if 0 ≤ x2 ∧ x2 < 500 then ((R_soundOf 177 (mm 179 x2.toNat) mm).bind fun r11 => (if 0 ≤ (w32 (156 + x2)) ∧ (w32 (156 + x2)) < 588 then (st1 (aup mm 177 (w32 (156 + x2)).toNat r11) fun mm13 => (R_line_32 x1 n (w32 (x2 + 1)) mm13)) else none)) else none) else (some (x1, mm))
set_option maxHeartbeats 4000000 in
theorem lk_R_line_32 {p : Program} {l : Launch} {e : Env} {s : State} {m : MethodId} {args : Array Value} {below : List Frame} {meth : Method} {c : Code} {D : va_G} {cA : FieldType → ClassId} {ad adV : Nat → Nat} {z0 : Nat} {al0 : List Nat} (K : aK p s m args meth c mX12_line D cA ad adV z0) (x1 : Int)  : ∀ (n : Nat) (x2 : Int) (mm : aM), aG p l e { frames := 2, cells := 0, slots := 0, locals := 45 } s m args below meth c D cA ad z0 mX12_line al0 rIM (R_line_32 x1 n x2 mm) 32 [(0, .inr (.inr (.inl (some 176)))), (1, .inl x1), (2, .inl x2)] [] mm := by
  intro n
  induction n with
  | zero => intro x2 mm; exact g_none
  | succ n ih =>
    intro x2 mm
    rw [R_line_32]
    refine gl (i' := 33) (fun _ _ => aw_iload_n K (dOf ck_mX12_line rfl rfl) rfl) ?_
    refine gl (i' := 34) (fun _ _ => aw_iload_n K (dOf ck_mX12_line rfl rfl) rfl) ?_
    refine g_icmp_ge K (dOf ck_mX12_line rfl rfl) (t := 51) (aJ_of (by decide +kernel)) (fun h9 => ?_) (fun h9 => ?_)
    · refine gl (i' := 36) (fun _ _ => aw_aload_n K (dOf ck_mX12_line rfl rfl) rfl) ?_
      refine gl (i' := 37) (fun _ _ => aw_getf K (dOf ck_mX12_line rfl rfl) rfl rfl (Nat.le_of_ble_eq_true rfl) wd_1206 (k := 1) rfl) ?_
      refine gl (i' := 38) (fun _ _ => aw_sip K (dOf ck_mX12_line rfl rfl) (v := 156) rfl) ?_
      refine gl (i' := 39) (fun _ _ => aw_iload_n K (dOf ck_mX12_line rfl rfl) rfl) ?_
      refine gl (i' := 40) (fun _ _ => aw_iadd K (dOf ck_mX12_line rfl rfl)) ?_
      refine gl (i' := 41) (fun _ _ => aw_aload_n K (dOf ck_mX12_line rfl rfl) rfl) ?_
      refine gl (i' := 42) (fun _ _ => aw_aload_n K (dOf ck_mX12_line rfl rfl) rfl) ?_
      refine gl (i' := 43) (fun _ _ => aw_getf K (dOf ck_mX12_line rfl rfl) rfl rfl (Nat.le_of_ble_eq_true rfl) wd_1206 (k := 1) rfl) ?_
      refine gl (i' := 44) (fun _ _ => aw_aload_n K (dOf ck_mX12_line rfl rfl) rfl) ?_
      refine gl (i' := 45) (fun _ _ => aw_getf K (dOf ck_mX12_line rfl rfl) rfl rfl (Nat.le_of_ble_eq_true rfl) wd_1208 (k := 3) rfl) ?_
      refine gl (i' := 46) (fun _ _ => aw_iload_n K (dOf ck_mX12_line rfl rfl) rfl) ?_
      refine g_gd (fun hb10 => ?_)
      refine gl (i' := 47) (fun _ _ => aw_iald K (dOf ck_mX12_line rfl rfl) rfl hb10) ?_
      refine g_callVI K [.inr (.inr (.inl (some _))), .inl _] rfl (dOf ck_mX12_line rfl rfl) al_OneBreathModel_180 rfl rfl ⟨wd_1319, wd_76⟩ rfl (Nat.le_of_ble_eq_true rfl) ⟨Nat.le_of_ble_eq_true rfl, Nat.le_of_ble_eq_true rfl⟩ (fun b hb => met_R_soundOf ⟨_, rfl⟩ hb) (fun r11 hr11 => ?_)
      refine g_gd (fun hb12 => ?_)
      refine g_st1 ?_
      refine gl (i' := 49) (fun _ _ => aw_iast K (dOf ck_mX12_line rfl rfl) rfl hb12) ?_
      refine gl (i' := 50) (fun _ _ => aw_iinc K (dOf ck_mX12_line rfl rfl) (Nat.le_of_ble_eq_true rfl) rfl) ?_
      refine g_lv (lv' := [(2, .inl _), (0, .inr (.inr (.inl (some _)))), (1, .inl _)]) rfl ?_
      refine g_goto K (dOf ck_mX12_line rfl rfl).1 (t := 32) (aJ_of (by decide +kernel)) ?_
      refine g_sub [1, 2, 0] rfl ?_
      exact ih _ _
    · refine gl (i' := 52) (fun _ _ => aw_iload_n K (dOf ck_mX12_line rfl rfl) rfl) ?_
      exact g_iret K (by decide +kernel) rfl (Or.inl rfl) rfl
def R_line (x1 : Int) (mm : aM) : Option (Int × aM) := st1 (aup mm 176 0 0) fun mm1 => ((R_within x1 0 (mm1 176 5) mm1).bind fun r2 => (if r2 = 0 then (some ((-3), mm1)) else (if 40 < x1 then (some ((-3), mm1)) else (st1 (aup mm1 176 5 0) fun mm5 => ((R_areSoundsOnTape x1 mm5).bind fun r6 => (if r6 = 0 then (some ((-9), mm5)) else (st1 (aup mm5 177 155 x1) fun mm8 => (R_line_32 x1 FU 0 mm8))))))))
set_option maxHeartbeats 4000000 in
theorem met_R_line {l : Launch} {D : va_G} {cA : FieldType → ClassId} {ad adV : Nat → Nat} {z0 : Nat} {x1 : Int} {mm : aM}  {r : Int × aM} (h : R_line x1 mm = some r) : aMet l D cA ad adV z0 mX12_line 2 45 0 0 [.inr (.inr (.inl (some 176))), .inl x1] SH mm (rIM r).1 SH (rIM r).2 := by
  refine aMet_ofG (by decide +kernel) rfl (Nat.le_of_ble_eq_true rfl) h (fun p e s m args below meth c al0 K => ?_)
  unfold R_line
  refine gl (i' := 1) (fun _ _ => aw_aload_n K (dOf ck_mX12_line rfl rfl) rfl) ?_
  refine gl (i' := 2) (fun _ _ => aw_iconst K (n := 0) (i32 _ rfl) (dOf ck_mX12_line rfl rfl)) ?_
  refine g_st1 ?_
  refine gl (i' := 3) (fun _ _ => aw_putf K (dOf ck_mX12_line rfl rfl) rfl rfl (Nat.le_of_ble_eq_true rfl) wd_1205 (k := 0) rfl rfl (Or.inl rfl)) ?_
  refine gl (i' := 4) (fun _ _ => aw_iload_n K (dOf ck_mX12_line rfl rfl) rfl) ?_
  refine gl (i' := 5) (fun _ _ => aw_i2l K (dOf ck_mX12_line rfl rfl)) ?_
  refine gl (i' := 6) (fun _ _ => aw_lcn K (dOf ck_mX12_line rfl rfl) (v := 0) rfl) ?_
  refine gl (i' := 7) (fun _ _ => aw_aload_n K (dOf ck_mX12_line rfl rfl) rfl) ?_
  refine gl (i' := 8) (fun _ _ => aw_getf K (dOf ck_mX12_line rfl rfl) rfl rfl (Nat.le_of_ble_eq_true rfl) wd_1210 (k := 5) rfl) ?_
  refine gl (i' := 9) (fun _ _ => aw_i2l K (dOf ck_mX12_line rfl rfl)) ?_
  refine g_callSI K [.inr (.inl _), .inr (.inl _), .inr (.inl _)] rfl (dOf ck_mX12_line rfl rfl) al_OneBreathModel_176 wd_1269 rfl (Nat.le_of_ble_eq_true rfl) ⟨Nat.le_of_ble_eq_true rfl, Nat.le_of_ble_eq_true rfl⟩ (fun b hb => met_R_within  hb) (fun r2 hr2 => ?_)
  refine g_if_eq K (dOf ck_mX12_line rfl rfl) (t := 14) (aJ_of (by decide +kernel)) (fun h3 => ?_) (fun h3 => ?_)
  · refine gl (i' := 15) (fun _ _ => aw_bip K (dOf ck_mX12_line rfl rfl) (v := -3) rfl) ?_
    exact g_iret K (dOf ck_mX12_line rfl rfl).1 rfl (Or.inl rfl) rfl
  · refine gl (i' := 12) (fun _ _ => aw_iload_n K (dOf ck_mX12_line rfl rfl) rfl) ?_
    refine gl (i' := 13) (fun _ _ => aw_bip K (dOf ck_mX12_line rfl rfl) (v := 40) rfl) ?_
    refine g_icmp_le K (dOf ck_mX12_line rfl rfl) (t := 16) (aJ_of (by decide +kernel)) (fun h4 => ?_) (fun h4 => ?_)
    · refine gl (i' := 15) (fun _ _ => aw_bip K (dOf ck_mX12_line rfl rfl) (v := -3) rfl) ?_
      exact g_iret K (dOf ck_mX12_line rfl rfl).1 rfl (Or.inl rfl) rfl
    · refine gl (i' := 17) (fun _ _ => aw_aload_n K (dOf ck_mX12_line rfl rfl) rfl) ?_
      refine gl (i' := 18) (fun _ _ => aw_iconst K (n := 0) (i32 _ rfl) (dOf ck_mX12_line rfl rfl)) ?_
      refine g_st1 ?_
      refine gl (i' := 19) (fun _ _ => aw_putf K (dOf ck_mX12_line rfl rfl) rfl rfl (Nat.le_of_ble_eq_true rfl) wd_1210 (k := 5) rfl rfl (Or.inl rfl)) ?_
      refine gl (i' := 20) (fun _ _ => aw_aload_n K (dOf ck_mX12_line rfl rfl) rfl) ?_
      refine gl (i' := 21) (fun _ _ => aw_iload_n K (dOf ck_mX12_line rfl rfl) rfl) ?_
      refine g_callVI K [.inl _] rfl (dOf ck_mX12_line rfl rfl) al_OneBreathModel_268 rfl rfl ⟨wd_1419, wd_92⟩ rfl (Nat.le_of_ble_eq_true rfl) ⟨Nat.le_of_ble_eq_true rfl, Nat.le_of_ble_eq_true rfl⟩ (fun b hb => met_R_areSoundsOnTape  hb) (fun r6 hr6 => ?_)
      refine g_if_ne K (dOf ck_mX12_line rfl rfl) (t := 25) (aJ_of (by decide +kernel)) (fun h7 => ?_) (fun h7 => ?_)
      · refine gl (i' := 24) (fun _ _ => aw_bip K (dOf ck_mX12_line rfl rfl) (v := -9) rfl) ?_
        exact g_iret K (dOf ck_mX12_line rfl rfl).1 rfl (Or.inl rfl) rfl
      · refine gl (i' := 26) (fun _ _ => aw_aload_n K (dOf ck_mX12_line rfl rfl) rfl) ?_
        refine gl (i' := 27) (fun _ _ => aw_getf K (dOf ck_mX12_line rfl rfl) rfl rfl (Nat.le_of_ble_eq_true rfl) wd_1206 (k := 1) rfl) ?_
        refine gl (i' := 28) (fun _ _ => aw_sip K (dOf ck_mX12_line rfl rfl) (v := 155) rfl) ?_
        refine gl (i' := 29) (fun _ _ => aw_iload_n K (dOf ck_mX12_line rfl rfl) rfl) ?_
        refine g_st1 ?_
        refine gl (i' := 30) (fun _ _ => aw_iast K (dOf ck_mX12_line rfl rfl) rfl (by decide)) ?_
        refine gl (i' := 31) (fun _ _ => aw_iconst K (n := 0) (i32 _ rfl) (dOf ck_mX12_line rfl rfl)) ?_
        refine gl (i' := 32) (fun _ _ => aw_istore_n K (dOf ck_mX12_line rfl rfl) (Nat.le_of_ble_eq_true rfl)) ?_
        refine g_lv (lv' := [(2, .inl _), (0, .inr (.inr (.inl (some _)))), (1, .inl _)]) rfl ?_
        refine g_sub [1, 2, 0] rfl ?_
        exact lk_R_line_32 K _ FU _ _
def R_at (x1 : Int) (mm : aM) : Option (Int × aM) := st1 (aup mm 176 0 0) fun mm1 => ((R_within x1 0 (w32 ((mm1 177 155) - 1)) mm1).bind fun r2 => (if r2 = 0 then (some ((-1), mm1)) else (if 0 ≤ (w32 (156 + x1)) ∧ (w32 (156 + x1)) < 588 then (some (mm1 177 (w32 (156 + x1)).toNat, mm1)) else none)))
set_option maxHeartbeats 4000000 in
theorem met_R_at {l : Launch} {D : va_G} {cA : FieldType → ClassId} {ad adV : Nat → Nat} {z0 : Nat} {x1 : Int} {mm : aM}  {r : Int × aM} (h : R_at x1 mm = some r) : aMet l D cA ad adV z0 mX12_at 1 25 0 0 [.inr (.inr (.inl (some 176))), .inl x1] SH mm (rIM r).1 SH (rIM r).2 := by
  refine aMet_ofG (by decide +kernel) rfl (Nat.le_of_ble_eq_true rfl) h (fun p e s m args below meth c al0 K => ?_)
  unfold R_at
  refine gl (i' := 1) (fun _ _ => aw_aload_n K (dOf ck_mX12_at rfl rfl) rfl) ?_
  refine gl (i' := 2) (fun _ _ => aw_iconst K (n := 0) (i32 _ rfl) (dOf ck_mX12_at rfl rfl)) ?_
  refine g_st1 ?_
  refine gl (i' := 3) (fun _ _ => aw_putf K (dOf ck_mX12_at rfl rfl) rfl rfl (Nat.le_of_ble_eq_true rfl) wd_1205 (k := 0) rfl rfl (Or.inl rfl)) ?_
  refine gl (i' := 4) (fun _ _ => aw_iload_n K (dOf ck_mX12_at rfl rfl) rfl) ?_
  refine gl (i' := 5) (fun _ _ => aw_i2l K (dOf ck_mX12_at rfl rfl)) ?_
  refine gl (i' := 6) (fun _ _ => aw_lcn K (dOf ck_mX12_at rfl rfl) (v := 0) rfl) ?_
  refine gl (i' := 7) (fun _ _ => aw_aload_n K (dOf ck_mX12_at rfl rfl) rfl) ?_
  refine gl (i' := 8) (fun _ _ => aw_getf K (dOf ck_mX12_at rfl rfl) rfl rfl (Nat.le_of_ble_eq_true rfl) wd_1206 (k := 1) rfl) ?_
  refine gl (i' := 9) (fun _ _ => aw_sip K (dOf ck_mX12_at rfl rfl) (v := 155) rfl) ?_
  refine gl (i' := 10) (fun _ _ => aw_iald K (dOf ck_mX12_at rfl rfl) rfl (by decide)) ?_
  refine gl (i' := 11) (fun _ _ => aw_iconst K (n := 1) (i32 _ rfl) (dOf ck_mX12_at rfl rfl)) ?_
  refine gl (i' := 12) (fun _ _ => aw_isub K (dOf ck_mX12_at rfl rfl)) ?_
  refine gl (i' := 13) (fun _ _ => aw_i2l K (dOf ck_mX12_at rfl rfl)) ?_
  refine g_callSI K [.inr (.inl _), .inr (.inl _), .inr (.inl _)] rfl (dOf ck_mX12_at rfl rfl) al_OneBreathModel_176 wd_1269 rfl (Nat.le_of_ble_eq_true rfl) ⟨Nat.le_of_ble_eq_true rfl, Nat.le_of_ble_eq_true rfl⟩ (fun b hb => met_R_within  hb) (fun r2 hr2 => ?_)
  refine g_if_eq K (dOf ck_mX12_at rfl rfl) (t := 22) (aJ_of (by decide +kernel)) (fun h3 => ?_) (fun h3 => ?_)
  · refine gl (i' := 23) (fun _ _ => aw_iconst K (n := -1) (i32 _ rfl) (dOf ck_mX12_at rfl rfl)) ?_
    exact g_iret K (by decide +kernel) rfl (Or.inl rfl) rfl
  · refine gl (i' := 16) (fun _ _ => aw_aload_n K (dOf ck_mX12_at rfl rfl) rfl) ?_
    refine gl (i' := 17) (fun _ _ => aw_getf K (dOf ck_mX12_at rfl rfl) rfl rfl (Nat.le_of_ble_eq_true rfl) wd_1206 (k := 1) rfl) ?_
    refine gl (i' := 18) (fun _ _ => aw_sip K (dOf ck_mX12_at rfl rfl) (v := 156) rfl) ?_
    refine gl (i' := 19) (fun _ _ => aw_iload_n K (dOf ck_mX12_at rfl rfl) rfl) ?_
    refine gl (i' := 20) (fun _ _ => aw_iadd K (dOf ck_mX12_at rfl rfl)) ?_
    refine g_gd (fun hb4 => ?_)
    refine gl (i' := 21) (fun _ _ => aw_iald K (dOf ck_mX12_at rfl rfl) rfl hb4) ?_
    refine g_goto K (dOf ck_mX12_at rfl rfl).1 (t := 23) (aJ_of (by decide +kernel)) ?_
    exact g_iret K (by decide +kernel) rfl (Or.inl rfl) rfl
def R_looksAtLine_8  : Nat → Int → aM → Option aM
  | 0, _, _ => none
  | n + 1, x1, mm => if x1 < (mm 176 17) then (if 0 ≤ (w32 (156 + x1)) ∧ (w32 (156 + x1)) < 588 then (if 0 ≤ x1 ∧ x1 < 40 then (st1 (aup mm 182 x1.toNat (mm 177 (w32 (156 + x1)).toNat)) fun mm5 => (R_looksAtLine_8 n (w32 (x1 + 1)) mm5)) else none) else none) else (some mm)
set_option maxHeartbeats 4000000 in
theorem lk_R_looksAtLine_8 {p : Program} {l : Launch} {e : Env} {s : State} {m : MethodId} {args : Array Value} {below : List Frame} {meth : Method} {c : Code} {D : va_G} {cA : FieldType → ClassId} {ad adV : Nat → Nat} {z0 : Nat} {al0 : List Nat} (K : aK p s m args meth c mX12_looksAtLine D cA ad adV z0)   : ∀ (n : Nat) (x1 : Int) (mm : aM), aG p l e { frames := 0, cells := 0, slots := 0, locals := 0 } s m args below meth c D cA ad z0 mX12_looksAtLine al0 rM (R_looksAtLine_8 n x1 mm) 8 [(0, .inr (.inr (.inl (some 176)))), (1, .inl x1)] [] mm := by
  intro n
  induction n with
  | zero => intro x1 mm; exact g_none
  | succ n ih =>
    intro x1 mm
    rw [R_looksAtLine_8]
    refine gl (i' := 9) (fun _ _ => aw_iload_n K (dOf ck_mX12_looksAtLine rfl rfl) rfl) ?_
    refine gl (i' := 10) (fun _ _ => aw_aload_n K (dOf ck_mX12_looksAtLine rfl rfl) rfl) ?_
    refine gl (i' := 11) (fun _ _ => aw_getf K (dOf ck_mX12_looksAtLine rfl rfl) rfl rfl (Nat.le_of_ble_eq_true rfl) wd_1222 (k := 17) rfl) ?_
    refine g_icmp_ge K (dOf ck_mX12_looksAtLine rfl rfl) (t := 24) (aJ_of (by decide +kernel)) (fun h2 => ?_) (fun h2 => ?_)
    · refine gl (i' := 13) (fun _ _ => aw_aload_n K (dOf ck_mX12_looksAtLine rfl rfl) rfl) ?_
      refine gl (i' := 14) (fun _ _ => aw_getf K (dOf ck_mX12_looksAtLine rfl rfl) rfl rfl (Nat.le_of_ble_eq_true rfl) wd_1221 (k := 16) rfl) ?_
      refine gl (i' := 15) (fun _ _ => aw_iload_n K (dOf ck_mX12_looksAtLine rfl rfl) rfl) ?_
      refine gl (i' := 16) (fun _ _ => aw_aload_n K (dOf ck_mX12_looksAtLine rfl rfl) rfl) ?_
      refine gl (i' := 17) (fun _ _ => aw_getf K (dOf ck_mX12_looksAtLine rfl rfl) rfl rfl (Nat.le_of_ble_eq_true rfl) wd_1206 (k := 1) rfl) ?_
      refine gl (i' := 18) (fun _ _ => aw_sip K (dOf ck_mX12_looksAtLine rfl rfl) (v := 156) rfl) ?_
      refine gl (i' := 19) (fun _ _ => aw_iload_n K (dOf ck_mX12_looksAtLine rfl rfl) rfl) ?_
      refine gl (i' := 20) (fun _ _ => aw_iadd K (dOf ck_mX12_looksAtLine rfl rfl)) ?_
      refine g_gd (fun hb3 => ?_)
      refine gl (i' := 21) (fun _ _ => aw_iald K (dOf ck_mX12_looksAtLine rfl rfl) rfl hb3) ?_
      refine g_gd (fun hb4 => ?_)
      refine g_st1 ?_
      refine gl (i' := 22) (fun _ _ => aw_iast K (dOf ck_mX12_looksAtLine rfl rfl) rfl hb4) ?_
      refine gl (i' := 23) (fun _ _ => aw_iinc K (dOf ck_mX12_looksAtLine rfl rfl) (Nat.le_of_ble_eq_true rfl) rfl) ?_
      refine g_lv (lv' := [(1, .inl _), (0, .inr (.inr (.inl (some _))))]) rfl ?_
      refine g_goto K (dOf ck_mX12_looksAtLine rfl rfl).1 (t := 8) (aJ_of (by decide +kernel)) ?_
      refine g_sub [1, 0] rfl ?_
      exact ih _ _
    · exact g_vret K (by decide +kernel) rfl rfl
def R_looksAtLine  (mm : aM) : Option aM := st1 (aup mm 176 17 (mm 177 155)) fun mm1 => (R_looksAtLine_8 FU 0 mm1)
set_option maxHeartbeats 4000000 in
theorem met_R_looksAtLine {l : Launch} {D : va_G} {cA : FieldType → ClassId} {ad adV : Nat → Nat} {z0 : Nat}  {mm : aM}  {r : aM} (h : R_looksAtLine  mm = some r) : aMet l D cA ad adV z0 mX12_looksAtLine 0 0 0 0 [.inr (.inr (.inl (some 176)))] SH mm (rM r).1 SH (rM r).2 := by
  refine aMet_ofG (by decide +kernel) rfl (Nat.le_of_ble_eq_true rfl) h (fun p e s m args below meth c al0 K => ?_)
  unfold R_looksAtLine
  refine gl (i' := 1) (fun _ _ => aw_aload_n K (dOf ck_mX12_looksAtLine rfl rfl) rfl) ?_
  refine gl (i' := 2) (fun _ _ => aw_aload_n K (dOf ck_mX12_looksAtLine rfl rfl) rfl) ?_
  refine gl (i' := 3) (fun _ _ => aw_getf K (dOf ck_mX12_looksAtLine rfl rfl) rfl rfl (Nat.le_of_ble_eq_true rfl) wd_1206 (k := 1) rfl) ?_
  refine gl (i' := 4) (fun _ _ => aw_sip K (dOf ck_mX12_looksAtLine rfl rfl) (v := 155) rfl) ?_
  refine gl (i' := 5) (fun _ _ => aw_iald K (dOf ck_mX12_looksAtLine rfl rfl) rfl (by decide)) ?_
  refine g_st1 ?_
  refine gl (i' := 6) (fun _ _ => aw_putf K (dOf ck_mX12_looksAtLine rfl rfl) rfl rfl (Nat.le_of_ble_eq_true rfl) wd_1222 (k := 17) rfl rfl (Or.inl rfl)) ?_
  refine gl (i' := 7) (fun _ _ => aw_iconst K (n := 0) (i32 _ rfl) (dOf ck_mX12_looksAtLine rfl rfl)) ?_
  refine gl (i' := 8) (fun _ _ => aw_istore_n K (dOf ck_mX12_looksAtLine rfl rfl) (Nat.le_of_ble_eq_true rfl)) ?_
  refine g_lv (lv' := [(1, .inl _), (0, .inr (.inr (.inl (some _))))]) rfl ?_
  refine g_sub [1, 0] rfl ?_
  exact lk_R_looksAtLine_8 K FU _ _
def R_mayBe_8 (mm : aM) : Option Int := some 1
set_option maxHeartbeats 4000000 in
theorem lk_R_mayBe_8 {p : Program} {l : Launch} {e : Env} {s : State} {m : MethodId} {args : Array Value} {below : List Frame} {meth : Method} {c : Code} {D : va_G} {cA : FieldType → ClassId} {ad adV : Nat → Nat} {z0 : Nat} {al0 : List Nat} {mm : aM} (K : aK p s m args meth c mX12_mayBe D cA ad adV z0)   : aG p l e { frames := 1, cells := 0, slots := 0, locals := 22 } s m args below meth c D cA ad z0 mX12_mayBe al0 (rI mm) (R_mayBe_8 mm) 8 [] [] mm := by
  unfold R_mayBe_8
  refine gl (i' := 9) (fun _ _ => aw_iconst K (n := 1) (i32 _ rfl) (dOf ck_mX12_mayBe rfl rfl)) ?_
  refine g_goto K (dOf ck_mX12_mayBe rfl rfl).1 (t := 11) (aJ_of (by decide +kernel)) ?_
  exact g_iret K (by decide +kernel) rfl (Or.inr (Or.inl ⟨rfl, Or.inr rfl⟩)) rfl
def R_mayBe (x1 : Int) (x2 : Int) (mm : aM) : Option Int := if x1 = 13 then (R_mayBe_8 mm) else ((R_mayStand x1 x2 mm).bind fun r2 => (if r2 = 0 then (some 0) else (R_mayBe_8 mm)))
set_option maxHeartbeats 4000000 in
theorem met_R_mayBe {l : Launch} {D : va_G} {cA : FieldType → ClassId} {ad adV : Nat → Nat} {z0 : Nat} {x1 : Int} {x2 : Int} {mm : aM}  {r : Int} (h : R_mayBe x1 x2 mm = some r) : aMet l D cA ad adV z0 mX12_mayBe 1 22 0 0 [.inr (.inr (.inl (some 176))), .inl x1, .inl x2] SH mm ((rI mm) r).1 SH ((rI mm) r).2 := by
  refine aMet_ofG (by decide +kernel) rfl (Nat.le_of_ble_eq_true rfl) h (fun p e s m args below meth c al0 K => ?_)
  unfold R_mayBe
  refine gl (i' := 1) (fun _ _ => aw_iload_n K (dOf ck_mX12_mayBe rfl rfl) rfl) ?_
  refine gl (i' := 2) (fun _ _ => aw_bip K (dOf ck_mX12_mayBe rfl rfl) (v := 13) rfl) ?_
  refine g_icmp_eq K (dOf ck_mX12_mayBe rfl rfl) (t := 8) (aJ_of (by decide +kernel)) (fun h1 => ?_) (fun h1 => ?_)
  · refine g_sub [] rfl ?_
    exact lk_R_mayBe_8 K
  · refine gl (i' := 4) (fun _ _ => aw_aload_n K (dOf ck_mX12_mayBe rfl rfl) rfl) ?_
    refine gl (i' := 5) (fun _ _ => aw_iload_n K (dOf ck_mX12_mayBe rfl rfl) rfl) ?_
    refine gl (i' := 6) (fun _ _ => aw_iload_n K (dOf ck_mX12_mayBe rfl rfl) rfl) ?_
    refine g_callVI K [.inl _, .inl _] rfl (dOf ck_mX12_mayBe rfl rfl) al_OneBreathModel_247 rfl rfl ⟨wd_1396, wd_87⟩ rfl (Nat.le_of_ble_eq_true rfl) ⟨Nat.le_of_ble_eq_true rfl, Nat.le_of_ble_eq_true rfl⟩ (fun b hb => met_R_mayStand  hb) (fun r2 hr2 => ?_)
    refine g_if_eq K (dOf ck_mX12_mayBe rfl rfl) (t := 10) (aJ_of (by decide +kernel)) (fun h3 => ?_) (fun h3 => ?_)
    · refine gl (i' := 11) (fun _ _ => aw_iconst K (n := 0) (i32 _ rfl) (dOf ck_mX12_mayBe rfl rfl)) ?_
      exact g_iret K (by decide +kernel) rfl (Or.inr (Or.inl ⟨rfl, Or.inl rfl⟩)) rfl
    · refine g_sub [] rfl ?_
      exact lk_R_mayBe_8 K
def R_mistakesAt_58 (mm : aM) (k17 : Int → Int → Option Int) (x1 : Int) (x2 : Int) (x3 : Int) (x4 : Int) : Option Int := k17 x3 (w32 (x4 + 1))
set_option maxHeartbeats 4000000 in
theorem lk_R_mistakesAt_58 {p : Program} {l : Launch} {e : Env} {s : State} {m : MethodId} {args : Array Value} {below : List Frame} {meth : Method} {c : Code} {D : va_G} {cA : FieldType → ClassId} {ad adV : Nat → Nat} {z0 : Nat} {al0 : List Nat} {mm : aM} (K : aK p s m args meth c mX12_mistakesAt D cA ad adV z0) (x1 : Int) (x2 : Int) (x3 : Int) (x4 : Int) (k17 : Int → Int → Option Int) (hk17 : ∀ (x3 : Int) (x4 : Int), aG p l e { frames := 1, cells := 0, slots := 0, locals := 22 } s m args below meth c D cA ad z0 mX12_mistakesAt al0 (rI mm) (k17 x3 x4) 17 [(0, .inr (.inr (.inl (some 176)))), (1, .inl x1), (2, .inl x2), (3, .inl x3), (4, .inl x4)] [] mm)  : aG p l e { frames := 1, cells := 0, slots := 0, locals := 22 } s m args below meth c D cA ad z0 mX12_mistakesAt al0 (rI mm) (R_mistakesAt_58 mm k17 x1 x2 x3 x4) 58 [(0, .inr (.inr (.inl (some 176)))), (1, .inl x1), (2, .inl x2), (3, .inl x3), (4, .inl x4)] [] mm := by
  unfold R_mistakesAt_58
  refine gl (i' := 59) (fun _ _ => aw_iinc K (dOf ck_mX12_mistakesAt rfl rfl) (Nat.le_of_ble_eq_true rfl) rfl) ?_
  refine g_lv (lv' := [(4, .inl _), (0, .inr (.inr (.inl (some _)))), (1, .inl _), (2, .inl _), (3, .inl _)]) rfl ?_
  refine g_goto K (dOf ck_mX12_mistakesAt rfl rfl).1 (t := 17) (aJ_of (by decide +kernel)) ?_
  refine g_sub [1, 2, 3, 4, 0] rfl ?_
  exact hk17 _ _
def R_mistakesAt_17 (mm : aM) (x1 : Int) (x2 : Int) : Nat → Int → Int → Option Int
  | 0, _, _ => none
  | n + 1, x3, x4 => if 0 ≤ (w32 (19 + x1)) ∧ (w32 (19 + x1)) < 588 then (if x4 < (mm 177 (w32 (19 + x1)).toNat) then (if 0 ≤ (w32 ((w32 (58 + (w32 (6 * x1)))) + x4)) ∧ (w32 ((w32 (58 + (w32 (6 * x1)))) + x4)) < 588 then (if 0 ≤ (w32 (x2 + x4)) ∧ (w32 (x2 + x4)) < 40 then (if (mm 177 (w32 ((w32 (58 + (w32 (6 * x1)))) + x4)).toNat) = (mm 182 (w32 (x2 + x4)).toNat) then (R_mistakesAt_58 mm (R_mistakesAt_17 mm x1 x2 n) x1 x2 x3 x4) else ((R_isLike (mm 177 (w32 ((w32 (58 + (w32 (6 * x1)))) + x4)).toNat) (mm 182 (w32 (x2 + x4)).toNat) mm).bind fun r8 => (if r8 = 0 then (some 1000) else (R_mistakesAt_58 mm (R_mistakesAt_17 mm x1 x2 n) x1 x2 (w32 (x3 + 1)) x4)))) else none) else none) else (some x3)) else none
set_option maxHeartbeats 4000000 in
theorem lk_R_mistakesAt_17 {p : Program} {l : Launch} {e : Env} {s : State} {m : MethodId} {args : Array Value} {below : List Frame} {meth : Method} {c : Code} {D : va_G} {cA : FieldType → ClassId} {ad adV : Nat → Nat} {z0 : Nat} {al0 : List Nat} {mm : aM} (K : aK p s m args meth c mX12_mistakesAt D cA ad adV z0) (x1 : Int) (x2 : Int)  : ∀ (n : Nat) (x3 : Int) (x4 : Int), aG p l e { frames := 1, cells := 0, slots := 0, locals := 22 } s m args below meth c D cA ad z0 mX12_mistakesAt al0 (rI mm) (R_mistakesAt_17 mm x1 x2 n x3 x4) 17 [(0, .inr (.inr (.inl (some 176)))), (1, .inl x1), (2, .inl x2), (3, .inl x3), (4, .inl x4)] [] mm := by
  intro n
  induction n with
  | zero => intro x3 x4; exact g_none
  | succ n ih =>
    intro x3 x4
    rw [R_mistakesAt_17]
    refine gl (i' := 18) (fun _ _ => aw_iload K (dOf ck_mX12_mistakesAt rfl rfl) rfl) ?_
    refine gl (i' := 19) (fun _ _ => aw_aload_n K (dOf ck_mX12_mistakesAt rfl rfl) rfl) ?_
    refine gl (i' := 20) (fun _ _ => aw_getf K (dOf ck_mX12_mistakesAt rfl rfl) rfl rfl (Nat.le_of_ble_eq_true rfl) wd_1206 (k := 1) rfl) ?_
    refine gl (i' := 21) (fun _ _ => aw_bip K (dOf ck_mX12_mistakesAt rfl rfl) (v := 19) rfl) ?_
    refine gl (i' := 22) (fun _ _ => aw_iload_n K (dOf ck_mX12_mistakesAt rfl rfl) rfl) ?_
    refine gl (i' := 23) (fun _ _ => aw_iadd K (dOf ck_mX12_mistakesAt rfl rfl)) ?_
    refine g_gd (fun hb3 => ?_)
    refine gl (i' := 24) (fun _ _ => aw_iald K (dOf ck_mX12_mistakesAt rfl rfl) rfl hb3) ?_
    refine g_icmp_ge K (dOf ck_mX12_mistakesAt rfl rfl) (t := 60) (aJ_of (by decide +kernel)) (fun h4 => ?_) (fun h4 => ?_)
    · refine gl (i' := 26) (fun _ _ => aw_aload_n K (dOf ck_mX12_mistakesAt rfl rfl) rfl) ?_
      refine gl (i' := 27) (fun _ _ => aw_getf K (dOf ck_mX12_mistakesAt rfl rfl) rfl rfl (Nat.le_of_ble_eq_true rfl) wd_1206 (k := 1) rfl) ?_
      refine gl (i' := 28) (fun _ _ => aw_bip K (dOf ck_mX12_mistakesAt rfl rfl) (v := 58) rfl) ?_
      refine gl (i' := 29) (fun _ _ => aw_bip K (dOf ck_mX12_mistakesAt rfl rfl) (v := 6) rfl) ?_
      refine gl (i' := 30) (fun _ _ => aw_iload_n K (dOf ck_mX12_mistakesAt rfl rfl) rfl) ?_
      refine gl (i' := 31) (fun _ _ => aw_imul K (dOf ck_mX12_mistakesAt rfl rfl)) ?_
      refine gl (i' := 32) (fun _ _ => aw_iadd K (dOf ck_mX12_mistakesAt rfl rfl)) ?_
      refine gl (i' := 33) (fun _ _ => aw_iload K (dOf ck_mX12_mistakesAt rfl rfl) rfl) ?_
      refine gl (i' := 34) (fun _ _ => aw_iadd K (dOf ck_mX12_mistakesAt rfl rfl)) ?_
      refine g_gd (fun hb5 => ?_)
      refine gl (i' := 35) (fun _ _ => aw_iald K (dOf ck_mX12_mistakesAt rfl rfl) rfl hb5) ?_
      refine gl (i' := 36) (fun _ _ => aw_istore K (dOf ck_mX12_mistakesAt rfl rfl) (Nat.le_of_ble_eq_true rfl)) ?_
      refine g_lv (lv' := [(5, .inl _), (0, .inr (.inr (.inl (some _)))), (1, .inl _), (2, .inl _), (3, .inl _), (4, .inl _)]) rfl ?_
      refine gl (i' := 37) (fun _ _ => aw_iload K (dOf ck_mX12_mistakesAt rfl rfl) rfl) ?_
      refine gl (i' := 38) (fun _ _ => aw_aload_n K (dOf ck_mX12_mistakesAt rfl rfl) rfl) ?_
      refine gl (i' := 39) (fun _ _ => aw_getf K (dOf ck_mX12_mistakesAt rfl rfl) rfl rfl (Nat.le_of_ble_eq_true rfl) wd_1221 (k := 16) rfl) ?_
      refine gl (i' := 40) (fun _ _ => aw_iload_n K (dOf ck_mX12_mistakesAt rfl rfl) rfl) ?_
      refine gl (i' := 41) (fun _ _ => aw_iload K (dOf ck_mX12_mistakesAt rfl rfl) rfl) ?_
      refine gl (i' := 42) (fun _ _ => aw_iadd K (dOf ck_mX12_mistakesAt rfl rfl)) ?_
      refine g_gd (fun hb6 => ?_)
      refine gl (i' := 43) (fun _ _ => aw_iald K (dOf ck_mX12_mistakesAt rfl rfl) rfl hb6) ?_
      refine g_icmp_ne K (dOf ck_mX12_mistakesAt rfl rfl) (t := 45) (aJ_of (by decide +kernel)) (fun h7 => ?_) (fun h7 => ?_)
      · refine g_goto K (dOf ck_mX12_mistakesAt rfl rfl).1 (t := 58) (aJ_of (by decide +kernel)) ?_
        refine g_sub [1, 2, 3, 4, 5] rfl ?_
        exact lk_R_mistakesAt_58 K _ _ _ _ _ ih
      · refine gl (i' := 46) (fun _ _ => aw_aload_n K (dOf ck_mX12_mistakesAt rfl rfl) rfl) ?_
        refine gl (i' := 47) (fun _ _ => aw_iload K (dOf ck_mX12_mistakesAt rfl rfl) rfl) ?_
        refine gl (i' := 48) (fun _ _ => aw_aload_n K (dOf ck_mX12_mistakesAt rfl rfl) rfl) ?_
        refine gl (i' := 49) (fun _ _ => aw_getf K (dOf ck_mX12_mistakesAt rfl rfl) rfl rfl (Nat.le_of_ble_eq_true rfl) wd_1221 (k := 16) rfl) ?_
        refine gl (i' := 50) (fun _ _ => aw_iload_n K (dOf ck_mX12_mistakesAt rfl rfl) rfl) ?_
        refine gl (i' := 51) (fun _ _ => aw_iload K (dOf ck_mX12_mistakesAt rfl rfl) rfl) ?_
        refine gl (i' := 52) (fun _ _ => aw_iadd K (dOf ck_mX12_mistakesAt rfl rfl)) ?_
        refine gl (i' := 53) (fun _ _ => aw_iald K (dOf ck_mX12_mistakesAt rfl rfl) rfl hb6) ?_
        refine g_callVI K [.inl _, .inl _] rfl (dOf ck_mX12_mistakesAt rfl rfl) al_OneBreathModel_241 rfl rfl ⟨wd_1382, wd_85⟩ rfl (Nat.le_of_ble_eq_true rfl) ⟨Nat.le_of_ble_eq_true rfl, Nat.le_of_ble_eq_true rfl⟩ (fun b hb => met_R_isLike  hb) (fun r8 hr8 => ?_)
        refine g_if_ne K (dOf ck_mX12_mistakesAt rfl rfl) (t := 57) (aJ_of (by decide +kernel)) (fun h9 => ?_) (fun h9 => ?_)
        · refine gl (i' := 56) (fun _ _ => aw_sip K (dOf ck_mX12_mistakesAt rfl rfl) (v := 1000) rfl) ?_
          exact g_iret K (dOf ck_mX12_mistakesAt rfl rfl).1 rfl (Or.inl rfl) rfl
        · refine gl (i' := 58) (fun _ _ => aw_iinc K (dOf ck_mX12_mistakesAt rfl rfl) (Nat.le_of_ble_eq_true rfl) rfl) ?_
          refine g_lv (lv' := [(3, .inl _), (5, .inl _), (0, .inr (.inr (.inl (some _)))), (1, .inl _), (2, .inl _), (4, .inl _)]) rfl ?_
          refine g_sub [2, 3, 4, 0, 5] rfl ?_
          exact lk_R_mistakesAt_58 K _ _ _ _ _ ih
    · refine gl (i' := 61) (fun _ _ => aw_iload_n K (dOf ck_mX12_mistakesAt rfl rfl) rfl) ?_
      exact g_iret K (by decide +kernel) rfl (Or.inl rfl) rfl
def R_mistakesAt (x1 : Int) (x2 : Int) (mm : aM) : Option Int := if 0 ≤ (w32 (19 + x1)) ∧ (w32 (19 + x1)) < 588 then (if (mm 176 17) < (w32 (x2 + (mm 177 (w32 (19 + x1)).toNat))) then (some 1000) else (R_mistakesAt_17 mm x1 x2 FU 0 0)) else none
set_option maxHeartbeats 4000000 in
theorem met_R_mistakesAt {l : Launch} {D : va_G} {cA : FieldType → ClassId} {ad adV : Nat → Nat} {z0 : Nat} {x1 : Int} {x2 : Int} {mm : aM}  {r : Int} (h : R_mistakesAt x1 x2 mm = some r) : aMet l D cA ad adV z0 mX12_mistakesAt 1 22 0 0 [.inr (.inr (.inl (some 176))), .inl x1, .inl x2] SH mm ((rI mm) r).1 SH ((rI mm) r).2 := by
  refine aMet_ofG (by decide +kernel) rfl (Nat.le_of_ble_eq_true rfl) h (fun p e s m args below meth c al0 K => ?_)
  unfold R_mistakesAt
  refine gl (i' := 1) (fun _ _ => aw_iload_n K (dOf ck_mX12_mistakesAt rfl rfl) rfl) ?_
  refine gl (i' := 2) (fun _ _ => aw_aload_n K (dOf ck_mX12_mistakesAt rfl rfl) rfl) ?_
  refine gl (i' := 3) (fun _ _ => aw_getf K (dOf ck_mX12_mistakesAt rfl rfl) rfl rfl (Nat.le_of_ble_eq_true rfl) wd_1206 (k := 1) rfl) ?_
  refine gl (i' := 4) (fun _ _ => aw_bip K (dOf ck_mX12_mistakesAt rfl rfl) (v := 19) rfl) ?_
  refine gl (i' := 5) (fun _ _ => aw_iload_n K (dOf ck_mX12_mistakesAt rfl rfl) rfl) ?_
  refine gl (i' := 6) (fun _ _ => aw_iadd K (dOf ck_mX12_mistakesAt rfl rfl)) ?_
  refine g_gd (fun hb1 => ?_)
  refine gl (i' := 7) (fun _ _ => aw_iald K (dOf ck_mX12_mistakesAt rfl rfl) rfl hb1) ?_
  refine gl (i' := 8) (fun _ _ => aw_iadd K (dOf ck_mX12_mistakesAt rfl rfl)) ?_
  refine gl (i' := 9) (fun _ _ => aw_aload_n K (dOf ck_mX12_mistakesAt rfl rfl) rfl) ?_
  refine gl (i' := 10) (fun _ _ => aw_getf K (dOf ck_mX12_mistakesAt rfl rfl) rfl rfl (Nat.le_of_ble_eq_true rfl) wd_1222 (k := 17) rfl) ?_
  refine g_icmp_le K (dOf ck_mX12_mistakesAt rfl rfl) (t := 13) (aJ_of (by decide +kernel)) (fun h2 => ?_) (fun h2 => ?_)
  · refine gl (i' := 12) (fun _ _ => aw_sip K (dOf ck_mX12_mistakesAt rfl rfl) (v := 1000) rfl) ?_
    exact g_iret K (dOf ck_mX12_mistakesAt rfl rfl).1 rfl (Or.inl rfl) rfl
  · refine gl (i' := 14) (fun _ _ => aw_iconst K (n := 0) (i32 _ rfl) (dOf ck_mX12_mistakesAt rfl rfl)) ?_
    refine gl (i' := 15) (fun _ _ => aw_istore_n K (dOf ck_mX12_mistakesAt rfl rfl) (Nat.le_of_ble_eq_true rfl)) ?_
    refine g_lv (lv' := [(3, .inl _), (0, .inr (.inr (.inl (some _)))), (1, .inl _), (2, .inl _)]) rfl ?_
    refine gl (i' := 16) (fun _ _ => aw_iconst K (n := 0) (i32 _ rfl) (dOf ck_mX12_mistakesAt rfl rfl)) ?_
    refine gl (i' := 17) (fun _ _ => aw_istore K (dOf ck_mX12_mistakesAt rfl rfl) (Nat.le_of_ble_eq_true rfl)) ?_
    refine g_lv (lv' := [(4, .inl _), (3, .inl _), (0, .inr (.inr (.inl (some _)))), (1, .inl _), (2, .inl _)]) rfl ?_
    refine g_sub [2, 3, 4, 1, 0] rfl ?_
    exact lk_R_mistakesAt_17 K _ _ FU _ _
def R_laysWays_110 (k3 : Int → aM → Option aM) (k7 : Int → aM → Option aM) (x1 : Int) (x2 : Int) (mm : aM) : Option aM := k7 (w32 (x2 + 1)) mm
set_option maxHeartbeats 4000000 in
theorem lk_R_laysWays_110 {p : Program} {l : Launch} {e : Env} {s : State} {m : MethodId} {args : Array Value} {below : List Frame} {meth : Method} {c : Code} {D : va_G} {cA : FieldType → ClassId} {ad adV : Nat → Nat} {z0 : Nat} {al0 : List Nat} (K : aK p s m args meth c mX12_laysWays D cA ad adV z0) (x1 : Int) (x2 : Int) (k3 : Int → aM → Option aM) (hk3 : ∀ (x1 : Int) (mm : aM), aG p l e { frames := 2, cells := 0, slots := 0, locals := 47 } s m args below meth c D cA ad z0 mX12_laysWays al0 rM (k3 x1 mm) 3 [(0, .inr (.inr (.inl (some 176)))), (1, .inl x1)] [] mm) (k7 : Int → aM → Option aM) (hk7 : ∀ (x2 : Int) (mm : aM), aG p l e { frames := 2, cells := 0, slots := 0, locals := 47 } s m args below meth c D cA ad z0 mX12_laysWays al0 rM (k7 x2 mm) 7 [(0, .inr (.inr (.inl (some 176)))), (1, .inl x1), (2, .inl x2)] [] mm)  (mm : aM) : aG p l e { frames := 2, cells := 0, slots := 0, locals := 47 } s m args below meth c D cA ad z0 mX12_laysWays al0 rM (R_laysWays_110 k3 k7 x1 x2 mm) 110 [(0, .inr (.inr (.inl (some 176)))), (1, .inl x1), (2, .inl x2)] [] mm := by
  unfold R_laysWays_110
  refine gl (i' := 111) (fun _ _ => aw_iinc K (dOf ck_mX12_laysWays rfl rfl) (Nat.le_of_ble_eq_true rfl) rfl) ?_
  refine g_lv (lv' := [(2, .inl _), (0, .inr (.inr (.inl (some _)))), (1, .inl _)]) rfl ?_
  refine g_goto K (dOf ck_mX12_laysWays rfl rfl).1 (t := 7) (aJ_of (by decide +kernel)) ?_
  refine g_sub [1, 2, 0] rfl ?_
  exact hk7 _ _
def R_laysWays_93 (k3 : Int → aM → Option aM) (k7 : Int → aM → Option aM) (k22 : Int → aM → Option aM) (x1 : Int) (x2 : Int) (x3 : Int) (x4 : Int) (mm : aM) : Option aM := if 0 ≤ (w32 ((w32 ((w32 ((w32 (x1 * 14)) + x2)) * 3)) + x3)) ∧ (w32 ((w32 ((w32 ((w32 (x1 * 14)) + x2)) * 3)) + x3)) < 1722 then (st1 (aup mm 183 (w32 ((w32 ((w32 ((w32 (x1 * 14)) + x2)) * 3)) + x3)).toNat (Int.tmod x4 1000000007)) fun mm8 => (k22 (w32 (x3 + 1)) mm8)) else none
set_option maxHeartbeats 4000000 in
theorem lk_R_laysWays_93 {p : Program} {l : Launch} {e : Env} {s : State} {m : MethodId} {args : Array Value} {below : List Frame} {meth : Method} {c : Code} {D : va_G} {cA : FieldType → ClassId} {ad adV : Nat → Nat} {z0 : Nat} {al0 : List Nat} (K : aK p s m args meth c mX12_laysWays D cA ad adV z0) (x1 : Int) (x2 : Int) (x3 : Int) (x4 : Int) (k3 : Int → aM → Option aM) (hk3 : ∀ (x1 : Int) (mm : aM), aG p l e { frames := 2, cells := 0, slots := 0, locals := 47 } s m args below meth c D cA ad z0 mX12_laysWays al0 rM (k3 x1 mm) 3 [(0, .inr (.inr (.inl (some 176)))), (1, .inl x1)] [] mm) (k7 : Int → aM → Option aM) (hk7 : ∀ (x2 : Int) (mm : aM), aG p l e { frames := 2, cells := 0, slots := 0, locals := 47 } s m args below meth c D cA ad z0 mX12_laysWays al0 rM (k7 x2 mm) 7 [(0, .inr (.inr (.inl (some 176)))), (1, .inl x1), (2, .inl x2)] [] mm) (k22 : Int → aM → Option aM) (hk22 : ∀ (x3 : Int) (mm : aM), aG p l e { frames := 2, cells := 0, slots := 0, locals := 47 } s m args below meth c D cA ad z0 mX12_laysWays al0 rM (k22 x3 mm) 22 [(0, .inr (.inr (.inl (some 176)))), (1, .inl x1), (2, .inl x2), (3, .inl x3)] [] mm)  (mm : aM) : aG p l e { frames := 2, cells := 0, slots := 0, locals := 47 } s m args below meth c D cA ad z0 mX12_laysWays al0 rM (R_laysWays_93 k3 k7 k22 x1 x2 x3 x4 mm) 93 [(0, .inr (.inr (.inl (some 176)))), (1, .inl x1), (2, .inl x2), (3, .inl x3), (4, .inr (.inl x4))] [] mm := by
  unfold R_laysWays_93
  refine gl (i' := 94) (fun _ _ => aw_aload_n K (dOf ck_mX12_laysWays rfl rfl) rfl) ?_
  refine gl (i' := 95) (fun _ _ => aw_getf K (dOf ck_mX12_laysWays rfl rfl) rfl rfl (Nat.le_of_ble_eq_true rfl) wd_1223 (k := 18) rfl) ?_
  refine gl (i' := 96) (fun _ _ => aw_iload_n K (dOf ck_mX12_laysWays rfl rfl) rfl) ?_
  refine gl (i' := 97) (fun _ _ => aw_bip K (dOf ck_mX12_laysWays rfl rfl) (v := 14) rfl) ?_
  refine gl (i' := 98) (fun _ _ => aw_imul K (dOf ck_mX12_laysWays rfl rfl)) ?_
  refine gl (i' := 99) (fun _ _ => aw_iload_n K (dOf ck_mX12_laysWays rfl rfl) rfl) ?_
  refine gl (i' := 100) (fun _ _ => aw_iadd K (dOf ck_mX12_laysWays rfl rfl)) ?_
  refine gl (i' := 101) (fun _ _ => aw_iconst K (n := 3) (i32 _ rfl) (dOf ck_mX12_laysWays rfl rfl)) ?_
  refine gl (i' := 102) (fun _ _ => aw_imul K (dOf ck_mX12_laysWays rfl rfl)) ?_
  refine gl (i' := 103) (fun _ _ => aw_iload_n K (dOf ck_mX12_laysWays rfl rfl) rfl) ?_
  refine gl (i' := 104) (fun _ _ => aw_iadd K (dOf ck_mX12_laysWays rfl rfl)) ?_
  refine gl (i' := 105) (fun _ _ => aw_lload K (dOf ck_mX12_laysWays rfl rfl) rfl) ?_
  refine gl (i' := 106) (fun _ _ => aw_ldc2 K (dOf ck_mX12_laysWays rfl rfl) (n := 1000000007) wd_1441 (i64 _ rfl)) ?_
  refine gl (i' := 107) (fun _ _ => aw_lrem K (by decide) (dOf ck_mX12_laysWays rfl rfl)) ?_
  refine g_gd (fun hb7 => ?_)
  refine g_st1 ?_
  refine gl (i' := 108) (fun _ _ => aw_last K (dOf ck_mX12_laysWays rfl rfl) rfl hb7) ?_
  refine gl (i' := 109) (fun _ _ => aw_iinc K (dOf ck_mX12_laysWays rfl rfl) (Nat.le_of_ble_eq_true rfl) rfl) ?_
  refine g_lv (lv' := [(3, .inl _), (0, .inr (.inr (.inl (some _)))), (1, .inl _), (2, .inl _), (4, .inr (.inl _))]) rfl ?_
  refine g_goto K (dOf ck_mX12_laysWays rfl rfl).1 (t := 22) (aJ_of (by decide +kernel)) ?_
  refine g_sub [1, 2, 3, 0] rfl ?_
  exact hk22 _ _
def R_laysWays_91 (k3 : Int → aM → Option aM) (k7 : Int → aM → Option aM) (k22 : Int → aM → Option aM) (k42 : Int → Int → aM → Option aM) (x1 : Int) (x2 : Int) (x3 : Int) (x4 : Int) (x6 : Int) (mm : aM) : Option aM := k42 x4 (w32 (x6 + 1)) mm
set_option maxHeartbeats 4000000 in
theorem lk_R_laysWays_91 {p : Program} {l : Launch} {e : Env} {s : State} {m : MethodId} {args : Array Value} {below : List Frame} {meth : Method} {c : Code} {D : va_G} {cA : FieldType → ClassId} {ad adV : Nat → Nat} {z0 : Nat} {al0 : List Nat} (K : aK p s m args meth c mX12_laysWays D cA ad adV z0) (x1 : Int) (x2 : Int) (x3 : Int) (x4 : Int) (x6 : Int) (k3 : Int → aM → Option aM) (hk3 : ∀ (x1 : Int) (mm : aM), aG p l e { frames := 2, cells := 0, slots := 0, locals := 47 } s m args below meth c D cA ad z0 mX12_laysWays al0 rM (k3 x1 mm) 3 [(0, .inr (.inr (.inl (some 176)))), (1, .inl x1)] [] mm) (k7 : Int → aM → Option aM) (hk7 : ∀ (x2 : Int) (mm : aM), aG p l e { frames := 2, cells := 0, slots := 0, locals := 47 } s m args below meth c D cA ad z0 mX12_laysWays al0 rM (k7 x2 mm) 7 [(0, .inr (.inr (.inl (some 176)))), (1, .inl x1), (2, .inl x2)] [] mm) (k22 : Int → aM → Option aM) (hk22 : ∀ (x3 : Int) (mm : aM), aG p l e { frames := 2, cells := 0, slots := 0, locals := 47 } s m args below meth c D cA ad z0 mX12_laysWays al0 rM (k22 x3 mm) 22 [(0, .inr (.inr (.inl (some 176)))), (1, .inl x1), (2, .inl x2), (3, .inl x3)] [] mm) (k42 : Int → Int → aM → Option aM) (hk42 : ∀ (x4 : Int) (x6 : Int) (mm : aM), aG p l e { frames := 2, cells := 0, slots := 0, locals := 47 } s m args below meth c D cA ad z0 mX12_laysWays al0 rM (k42 x4 x6 mm) 42 [(0, .inr (.inr (.inl (some 176)))), (1, .inl x1), (2, .inl x2), (3, .inl x3), (4, .inr (.inl x4)), (6, .inl x6)] [] mm)  (mm : aM) : aG p l e { frames := 2, cells := 0, slots := 0, locals := 47 } s m args below meth c D cA ad z0 mX12_laysWays al0 rM (R_laysWays_91 k3 k7 k22 k42 x1 x2 x3 x4 x6 mm) 91 [(0, .inr (.inr (.inl (some 176)))), (1, .inl x1), (2, .inl x2), (3, .inl x3), (4, .inr (.inl x4)), (6, .inl x6)] [] mm := by
  unfold R_laysWays_91
  refine gl (i' := 92) (fun _ _ => aw_iinc K (dOf ck_mX12_laysWays rfl rfl) (Nat.le_of_ble_eq_true rfl) rfl) ?_
  refine g_lv (lv' := [(6, .inl _), (0, .inr (.inr (.inl (some _)))), (1, .inl _), (2, .inl _), (3, .inl _), (4, .inr (.inl _))]) rfl ?_
  refine g_goto K (dOf ck_mX12_laysWays rfl rfl).1 (t := 42) (aJ_of (by decide +kernel)) ?_
  refine g_sub [1, 2, 3, 4, 5, 0] rfl ?_
  exact hk42 _ _ _
def R_laysWays_63 (k3 : Int → aM → Option aM) (k7 : Int → aM → Option aM) (k22 : Int → aM → Option aM) (k42 : Int → Int → aM → Option aM) (x1 : Int) (x2 : Int) (x3 : Int) (x4 : Int) (x6 : Int) (s0 : Int) (mm : aM) : Option aM := if x3 < s0 then (R_laysWays_91 k3 k7 k22 k42 x1 x2 x3 x4 x6 mm) else (if 0 ≤ (w32 (19 + x6)) ∧ (w32 (19 + x6)) < 588 then (if 0 ≤ (w32 ((w32 ((w32 ((w32 ((w32 ((w32 (x1 + (mm 177 (w32 (19 + x6)).toNat))) * 14)) + x6)) * 3)) + x3)) - s0)) ∧ (w32 ((w32 ((w32 ((w32 ((w32 ((w32 (x1 + (mm 177 (w32 (19 + x6)).toNat))) * 14)) + x6)) * 3)) + x3)) - s0)) < 1722 then (R_laysWays_91 k3 k7 k22 k42 x1 x2 x3 (w64 (x4 + (mm 183 (w32 ((w32 ((w32 ((w32 ((w32 ((w32 (x1 + (mm 177 (w32 (19 + x6)).toNat))) * 14)) + x6)) * 3)) + x3)) - s0)).toNat))) x6 mm) else none) else none)
set_option maxHeartbeats 4000000 in
theorem lk_R_laysWays_63 {p : Program} {l : Launch} {e : Env} {s : State} {m : MethodId} {args : Array Value} {below : List Frame} {meth : Method} {c : Code} {D : va_G} {cA : FieldType → ClassId} {ad adV : Nat → Nat} {z0 : Nat} {al0 : List Nat} (K : aK p s m args meth c mX12_laysWays D cA ad adV z0) (x1 : Int) (x2 : Int) (x3 : Int) (x4 : Int) (x6 : Int) (k3 : Int → aM → Option aM) (hk3 : ∀ (x1 : Int) (mm : aM), aG p l e { frames := 2, cells := 0, slots := 0, locals := 47 } s m args below meth c D cA ad z0 mX12_laysWays al0 rM (k3 x1 mm) 3 [(0, .inr (.inr (.inl (some 176)))), (1, .inl x1)] [] mm) (k7 : Int → aM → Option aM) (hk7 : ∀ (x2 : Int) (mm : aM), aG p l e { frames := 2, cells := 0, slots := 0, locals := 47 } s m args below meth c D cA ad z0 mX12_laysWays al0 rM (k7 x2 mm) 7 [(0, .inr (.inr (.inl (some 176)))), (1, .inl x1), (2, .inl x2)] [] mm) (k22 : Int → aM → Option aM) (hk22 : ∀ (x3 : Int) (mm : aM), aG p l e { frames := 2, cells := 0, slots := 0, locals := 47 } s m args below meth c D cA ad z0 mX12_laysWays al0 rM (k22 x3 mm) 22 [(0, .inr (.inr (.inl (some 176)))), (1, .inl x1), (2, .inl x2), (3, .inl x3)] [] mm) (k42 : Int → Int → aM → Option aM) (hk42 : ∀ (x4 : Int) (x6 : Int) (mm : aM), aG p l e { frames := 2, cells := 0, slots := 0, locals := 47 } s m args below meth c D cA ad z0 mX12_laysWays al0 rM (k42 x4 x6 mm) 42 [(0, .inr (.inr (.inl (some 176)))), (1, .inl x1), (2, .inl x2), (3, .inl x3), (4, .inr (.inl x4)), (6, .inl x6)] [] mm)  (s0 : Int) (mm : aM) : aG p l e { frames := 2, cells := 0, slots := 0, locals := 47 } s m args below meth c D cA ad z0 mX12_laysWays al0 rM (R_laysWays_63 k3 k7 k22 k42 x1 x2 x3 x4 x6 s0 mm) 63 [(0, .inr (.inr (.inl (some 176)))), (1, .inl x1), (2, .inl x2), (3, .inl x3), (4, .inr (.inl x4)), (6, .inl x6)] [.inl s0] mm := by
  unfold R_laysWays_63
  refine gl (i' := 64) (fun _ _ => aw_istore K (dOf ck_mX12_laysWays rfl rfl) (Nat.le_of_ble_eq_true rfl)) ?_
  refine g_lv (lv' := [(7, .inl _), (0, .inr (.inr (.inl (some _)))), (1, .inl _), (2, .inl _), (3, .inl _), (4, .inr (.inl _)), (6, .inl _)]) rfl ?_
  refine gl (i' := 65) (fun _ _ => aw_iload K (dOf ck_mX12_laysWays rfl rfl) rfl) ?_
  refine gl (i' := 66) (fun _ _ => aw_iload_n K (dOf ck_mX12_laysWays rfl rfl) rfl) ?_
  refine g_icmp_gt K (dOf ck_mX12_laysWays rfl rfl) (t := 91) (aJ_of (by decide +kernel)) (fun h12 => ?_) (fun h12 => ?_)
  · refine g_sub [1, 2, 3, 4, 5, 6] rfl ?_
    exact lk_R_laysWays_91 K _ _ _ _ _ _ hk3 _ hk7 _ hk22 _ hk42 _
  · refine gl (i' := 68) (fun _ _ => aw_lload K (dOf ck_mX12_laysWays rfl rfl) rfl) ?_
    refine gl (i' := 69) (fun _ _ => aw_aload_n K (dOf ck_mX12_laysWays rfl rfl) rfl) ?_
    refine gl (i' := 70) (fun _ _ => aw_getf K (dOf ck_mX12_laysWays rfl rfl) rfl rfl (Nat.le_of_ble_eq_true rfl) wd_1223 (k := 18) rfl) ?_
    refine gl (i' := 71) (fun _ _ => aw_iload_n K (dOf ck_mX12_laysWays rfl rfl) rfl) ?_
    refine gl (i' := 72) (fun _ _ => aw_aload_n K (dOf ck_mX12_laysWays rfl rfl) rfl) ?_
    refine gl (i' := 73) (fun _ _ => aw_getf K (dOf ck_mX12_laysWays rfl rfl) rfl rfl (Nat.le_of_ble_eq_true rfl) wd_1206 (k := 1) rfl) ?_
    refine gl (i' := 74) (fun _ _ => aw_bip K (dOf ck_mX12_laysWays rfl rfl) (v := 19) rfl) ?_
    refine gl (i' := 75) (fun _ _ => aw_iload K (dOf ck_mX12_laysWays rfl rfl) rfl) ?_
    refine gl (i' := 76) (fun _ _ => aw_iadd K (dOf ck_mX12_laysWays rfl rfl)) ?_
    refine g_gd (fun hb13 => ?_)
    refine gl (i' := 77) (fun _ _ => aw_iald K (dOf ck_mX12_laysWays rfl rfl) rfl hb13) ?_
    refine gl (i' := 78) (fun _ _ => aw_iadd K (dOf ck_mX12_laysWays rfl rfl)) ?_
    refine gl (i' := 79) (fun _ _ => aw_bip K (dOf ck_mX12_laysWays rfl rfl) (v := 14) rfl) ?_
    refine gl (i' := 80) (fun _ _ => aw_imul K (dOf ck_mX12_laysWays rfl rfl)) ?_
    refine gl (i' := 81) (fun _ _ => aw_iload K (dOf ck_mX12_laysWays rfl rfl) rfl) ?_
    refine gl (i' := 82) (fun _ _ => aw_iadd K (dOf ck_mX12_laysWays rfl rfl)) ?_
    refine gl (i' := 83) (fun _ _ => aw_iconst K (n := 3) (i32 _ rfl) (dOf ck_mX12_laysWays rfl rfl)) ?_
    refine gl (i' := 84) (fun _ _ => aw_imul K (dOf ck_mX12_laysWays rfl rfl)) ?_
    refine gl (i' := 85) (fun _ _ => aw_iload_n K (dOf ck_mX12_laysWays rfl rfl) rfl) ?_
    refine gl (i' := 86) (fun _ _ => aw_iadd K (dOf ck_mX12_laysWays rfl rfl)) ?_
    refine gl (i' := 87) (fun _ _ => aw_iload K (dOf ck_mX12_laysWays rfl rfl) rfl) ?_
    refine gl (i' := 88) (fun _ _ => aw_isub K (dOf ck_mX12_laysWays rfl rfl)) ?_
    refine g_gd (fun hb14 => ?_)
    refine gl (i' := 89) (fun _ _ => aw_lald K (dOf ck_mX12_laysWays rfl rfl) rfl hb14) ?_
    refine gl (i' := 90) (fun _ _ => aw_ladd K (dOf ck_mX12_laysWays rfl rfl)) ?_
    refine gl (i' := 91) (fun _ _ => aw_lstore K (dOf ck_mX12_laysWays rfl rfl) (Nat.le_of_ble_eq_true rfl)) ?_
    refine g_lv (lv' := [(4, .inr (.inl _)), (7, .inl _), (0, .inr (.inr (.inl (some _)))), (1, .inl _), (2, .inl _), (3, .inl _), (6, .inl _)]) rfl ?_
    refine g_sub [2, 3, 4, 5, 0, 6] rfl ?_
    exact lk_R_laysWays_91 K _ _ _ _ _ _ hk3 _ hk7 _ hk22 _ hk42 _
def R_laysWays_42 (k3 : Int → aM → Option aM) (k7 : Int → aM → Option aM) (k22 : Int → aM → Option aM) (x1 : Int) (x2 : Int) (x3 : Int) : Nat → Int → Int → aM → Option aM
  | 0, _, _, _ => none
  | n + 1, x4, x6, mm => if x6 < (mm 177 18) then (if x1 < (mm 176 17) then ((R_mayBe x2 x6 mm).bind fun r10 => (if r10 = 0 then (R_laysWays_63 k3 k7 k22 (R_laysWays_42 k3 k7 k22 x1 x2 x3 n) x1 x2 x3 x4 x6 1000 mm) else ((R_mistakesAt x6 x1 mm).bind fun r15 => (R_laysWays_63 k3 k7 k22 (R_laysWays_42 k3 k7 k22 x1 x2 x3 n) x1 x2 x3 x4 x6 r15 mm)))) else (R_laysWays_93 k3 k7 k22 x1 x2 x3 x4 mm)) else (R_laysWays_93 k3 k7 k22 x1 x2 x3 x4 mm)
set_option maxHeartbeats 4000000 in
theorem lk_R_laysWays_42 {p : Program} {l : Launch} {e : Env} {s : State} {m : MethodId} {args : Array Value} {below : List Frame} {meth : Method} {c : Code} {D : va_G} {cA : FieldType → ClassId} {ad adV : Nat → Nat} {z0 : Nat} {al0 : List Nat} (K : aK p s m args meth c mX12_laysWays D cA ad adV z0) (x1 : Int) (x2 : Int) (x3 : Int) (k3 : Int → aM → Option aM) (hk3 : ∀ (x1 : Int) (mm : aM), aG p l e { frames := 2, cells := 0, slots := 0, locals := 47 } s m args below meth c D cA ad z0 mX12_laysWays al0 rM (k3 x1 mm) 3 [(0, .inr (.inr (.inl (some 176)))), (1, .inl x1)] [] mm) (k7 : Int → aM → Option aM) (hk7 : ∀ (x2 : Int) (mm : aM), aG p l e { frames := 2, cells := 0, slots := 0, locals := 47 } s m args below meth c D cA ad z0 mX12_laysWays al0 rM (k7 x2 mm) 7 [(0, .inr (.inr (.inl (some 176)))), (1, .inl x1), (2, .inl x2)] [] mm) (k22 : Int → aM → Option aM) (hk22 : ∀ (x3 : Int) (mm : aM), aG p l e { frames := 2, cells := 0, slots := 0, locals := 47 } s m args below meth c D cA ad z0 mX12_laysWays al0 rM (k22 x3 mm) 22 [(0, .inr (.inr (.inl (some 176)))), (1, .inl x1), (2, .inl x2), (3, .inl x3)] [] mm)  : ∀ (n : Nat) (x4 : Int) (x6 : Int) (mm : aM), aG p l e { frames := 2, cells := 0, slots := 0, locals := 47 } s m args below meth c D cA ad z0 mX12_laysWays al0 rM (R_laysWays_42 k3 k7 k22 x1 x2 x3 n x4 x6 mm) 42 [(0, .inr (.inr (.inl (some 176)))), (1, .inl x1), (2, .inl x2), (3, .inl x3), (4, .inr (.inl x4)), (6, .inl x6)] [] mm := by
  intro n
  induction n with
  | zero => intro x4 x6 mm; exact g_none
  | succ n ih =>
    intro x4 x6 mm
    rw [R_laysWays_42]
    refine gl (i' := 43) (fun _ _ => aw_iload K (dOf ck_mX12_laysWays rfl rfl) rfl) ?_
    refine gl (i' := 44) (fun _ _ => aw_aload_n K (dOf ck_mX12_laysWays rfl rfl) rfl) ?_
    refine gl (i' := 45) (fun _ _ => aw_getf K (dOf ck_mX12_laysWays rfl rfl) rfl rfl (Nat.le_of_ble_eq_true rfl) wd_1206 (k := 1) rfl) ?_
    refine gl (i' := 46) (fun _ _ => aw_bip K (dOf ck_mX12_laysWays rfl rfl) (v := 18) rfl) ?_
    refine gl (i' := 47) (fun _ _ => aw_iald K (dOf ck_mX12_laysWays rfl rfl) rfl (by decide)) ?_
    refine g_icmp_ge K (dOf ck_mX12_laysWays rfl rfl) (t := 93) (aJ_of (by decide +kernel)) (fun h6 => ?_) (fun h6 => ?_)
    · refine gl (i' := 49) (fun _ _ => aw_iload_n K (dOf ck_mX12_laysWays rfl rfl) rfl) ?_
      refine gl (i' := 50) (fun _ _ => aw_aload_n K (dOf ck_mX12_laysWays rfl rfl) rfl) ?_
      refine gl (i' := 51) (fun _ _ => aw_getf K (dOf ck_mX12_laysWays rfl rfl) rfl rfl (Nat.le_of_ble_eq_true rfl) wd_1222 (k := 17) rfl) ?_
      refine g_icmp_ge K (dOf ck_mX12_laysWays rfl rfl) (t := 93) (aJ_of (by decide +kernel)) (fun h9 => ?_) (fun h9 => ?_)
      · refine gl (i' := 53) (fun _ _ => aw_aload_n K (dOf ck_mX12_laysWays rfl rfl) rfl) ?_
        refine gl (i' := 54) (fun _ _ => aw_iload_n K (dOf ck_mX12_laysWays rfl rfl) rfl) ?_
        refine gl (i' := 55) (fun _ _ => aw_iload K (dOf ck_mX12_laysWays rfl rfl) rfl) ?_
        refine g_callVI K [.inl _, .inl _] rfl (dOf ck_mX12_laysWays rfl rfl) al_OneBreathModel_271 rfl rfl ⟨wd_1436, wd_95⟩ rfl (Nat.le_of_ble_eq_true rfl) ⟨Nat.le_of_ble_eq_true rfl, Nat.le_of_ble_eq_true rfl⟩ (fun b hb => met_R_mayBe  hb) (fun r10 hr10 => ?_)
        refine g_if_eq K (dOf ck_mX12_laysWays rfl rfl) (t := 62) (aJ_of (by decide +kernel)) (fun h11 => ?_) (fun h11 => ?_)
        · refine gl (i' := 63) (fun _ _ => aw_sip K (dOf ck_mX12_laysWays rfl rfl) (v := 1000) rfl) ?_
          refine g_sub [0, 1, 2, 3, 4, 5] rfl ?_
          exact lk_R_laysWays_63 K _ _ _ _ _ _ hk3 _ hk7 _ hk22 _ ih _ _
        · refine gl (i' := 58) (fun _ _ => aw_aload_n K (dOf ck_mX12_laysWays rfl rfl) rfl) ?_
          refine gl (i' := 59) (fun _ _ => aw_iload K (dOf ck_mX12_laysWays rfl rfl) rfl) ?_
          refine gl (i' := 60) (fun _ _ => aw_iload_n K (dOf ck_mX12_laysWays rfl rfl) rfl) ?_
          refine g_callVI K [.inl _, .inl _] rfl (dOf ck_mX12_laysWays rfl rfl) al_OneBreathModel_274 rfl rfl ⟨wd_1439, wd_96⟩ rfl (Nat.le_of_ble_eq_true rfl) ⟨Nat.le_of_ble_eq_true rfl, Nat.le_of_ble_eq_true rfl⟩ (fun b hb => met_R_mistakesAt  hb) (fun r15 hr15 => ?_)
          refine g_goto K (dOf ck_mX12_laysWays rfl rfl).1 (t := 63) (aJ_of (by decide +kernel)) ?_
          refine g_sub [0, 1, 2, 3, 4, 5] rfl ?_
          exact lk_R_laysWays_63 K _ _ _ _ _ _ hk3 _ hk7 _ hk22 _ ih _ _
      · refine g_sub [0, 1, 2, 3, 4] rfl ?_
        exact lk_R_laysWays_93 K _ _ _ _ _ hk3 _ hk7 _ hk22 _
    · refine g_sub [0, 1, 2, 3, 4] rfl ?_
      exact lk_R_laysWays_93 K _ _ _ _ _ hk3 _ hk7 _ hk22 _
def R_laysWays_39 (k3 : Int → aM → Option aM) (k7 : Int → aM → Option aM) (k22 : Int → aM → Option aM) (x1 : Int) (x2 : Int) (x3 : Int) (s0 : Int) (mm : aM) : Option aM := R_laysWays_42 k3 k7 k22 x1 x2 x3 FU s0 0 mm
set_option maxHeartbeats 4000000 in
theorem lk_R_laysWays_39 {p : Program} {l : Launch} {e : Env} {s : State} {m : MethodId} {args : Array Value} {below : List Frame} {meth : Method} {c : Code} {D : va_G} {cA : FieldType → ClassId} {ad adV : Nat → Nat} {z0 : Nat} {al0 : List Nat} (K : aK p s m args meth c mX12_laysWays D cA ad adV z0) (x1 : Int) (x2 : Int) (x3 : Int) (k3 : Int → aM → Option aM) (hk3 : ∀ (x1 : Int) (mm : aM), aG p l e { frames := 2, cells := 0, slots := 0, locals := 47 } s m args below meth c D cA ad z0 mX12_laysWays al0 rM (k3 x1 mm) 3 [(0, .inr (.inr (.inl (some 176)))), (1, .inl x1)] [] mm) (k7 : Int → aM → Option aM) (hk7 : ∀ (x2 : Int) (mm : aM), aG p l e { frames := 2, cells := 0, slots := 0, locals := 47 } s m args below meth c D cA ad z0 mX12_laysWays al0 rM (k7 x2 mm) 7 [(0, .inr (.inr (.inl (some 176)))), (1, .inl x1), (2, .inl x2)] [] mm) (k22 : Int → aM → Option aM) (hk22 : ∀ (x3 : Int) (mm : aM), aG p l e { frames := 2, cells := 0, slots := 0, locals := 47 } s m args below meth c D cA ad z0 mX12_laysWays al0 rM (k22 x3 mm) 22 [(0, .inr (.inr (.inl (some 176)))), (1, .inl x1), (2, .inl x2), (3, .inl x3)] [] mm)  (s0 : Int) (mm : aM) : aG p l e { frames := 2, cells := 0, slots := 0, locals := 47 } s m args below meth c D cA ad z0 mX12_laysWays al0 rM (R_laysWays_39 k3 k7 k22 x1 x2 x3 s0 mm) 39 [(0, .inr (.inr (.inl (some 176)))), (1, .inl x1), (2, .inl x2), (3, .inl x3)] [.inr (.inl s0)] mm := by
  unfold R_laysWays_39
  refine gl (i' := 40) (fun _ _ => aw_lstore K (dOf ck_mX12_laysWays rfl rfl) (Nat.le_of_ble_eq_true rfl)) ?_
  refine g_lv (lv' := [(4, .inr (.inl _)), (0, .inr (.inr (.inl (some _)))), (1, .inl _), (2, .inl _), (3, .inl _)]) rfl ?_
  refine gl (i' := 41) (fun _ _ => aw_iconst K (n := 0) (i32 _ rfl) (dOf ck_mX12_laysWays rfl rfl)) ?_
  refine gl (i' := 42) (fun _ _ => aw_istore K (dOf ck_mX12_laysWays rfl rfl) (Nat.le_of_ble_eq_true rfl)) ?_
  refine g_lv (lv' := [(6, .inl _), (4, .inr (.inl _)), (0, .inr (.inr (.inl (some _)))), (1, .inl _), (2, .inl _), (3, .inl _)]) rfl ?_
  refine g_sub [2, 3, 4, 5, 1, 0] rfl ?_
  exact lk_R_laysWays_42 K _ _ _ _ hk3 _ hk7 _ hk22 FU _ _ _
def R_laysWays_38 (k3 : Int → aM → Option aM) (k7 : Int → aM → Option aM) (k22 : Int → aM → Option aM) (x1 : Int) (x2 : Int) (x3 : Int) (mm : aM) : Option aM := R_laysWays_39 k3 k7 k22 x1 x2 x3 0 mm
set_option maxHeartbeats 4000000 in
theorem lk_R_laysWays_38 {p : Program} {l : Launch} {e : Env} {s : State} {m : MethodId} {args : Array Value} {below : List Frame} {meth : Method} {c : Code} {D : va_G} {cA : FieldType → ClassId} {ad adV : Nat → Nat} {z0 : Nat} {al0 : List Nat} (K : aK p s m args meth c mX12_laysWays D cA ad adV z0) (x1 : Int) (x2 : Int) (x3 : Int) (k3 : Int → aM → Option aM) (hk3 : ∀ (x1 : Int) (mm : aM), aG p l e { frames := 2, cells := 0, slots := 0, locals := 47 } s m args below meth c D cA ad z0 mX12_laysWays al0 rM (k3 x1 mm) 3 [(0, .inr (.inr (.inl (some 176)))), (1, .inl x1)] [] mm) (k7 : Int → aM → Option aM) (hk7 : ∀ (x2 : Int) (mm : aM), aG p l e { frames := 2, cells := 0, slots := 0, locals := 47 } s m args below meth c D cA ad z0 mX12_laysWays al0 rM (k7 x2 mm) 7 [(0, .inr (.inr (.inl (some 176)))), (1, .inl x1), (2, .inl x2)] [] mm) (k22 : Int → aM → Option aM) (hk22 : ∀ (x3 : Int) (mm : aM), aG p l e { frames := 2, cells := 0, slots := 0, locals := 47 } s m args below meth c D cA ad z0 mX12_laysWays al0 rM (k22 x3 mm) 22 [(0, .inr (.inr (.inl (some 176)))), (1, .inl x1), (2, .inl x2), (3, .inl x3)] [] mm)  (mm : aM) : aG p l e { frames := 2, cells := 0, slots := 0, locals := 47 } s m args below meth c D cA ad z0 mX12_laysWays al0 rM (R_laysWays_38 k3 k7 k22 x1 x2 x3 mm) 38 [(0, .inr (.inr (.inl (some 176)))), (1, .inl x1), (2, .inl x2), (3, .inl x3)] [] mm := by
  unfold R_laysWays_38
  refine gl (i' := 39) (fun _ _ => aw_lcn K (dOf ck_mX12_laysWays rfl rfl) (v := 0) rfl) ?_
  refine g_sub [0, 1, 2, 3] rfl ?_
  exact lk_R_laysWays_39 K _ _ _ _ hk3 _ hk7 _ hk22 _ _
def R_laysWays_22 (k3 : Int → aM → Option aM) (k7 : Int → aM → Option aM) (x1 : Int) (x2 : Int) : Nat → Int → aM → Option aM
  | 0, _, _ => none
  | n + 1, x3, mm => if x3 < 3 then (if x1 = (mm 176 17) then (if x2 < 13 then ((R_mayEnd x2 mm).bind fun r17 => (if r17 = 0 then (R_laysWays_38 k3 k7 (R_laysWays_22 k3 k7 x1 x2 n) x1 x2 x3 mm) else (R_laysWays_39 k3 k7 (R_laysWays_22 k3 k7 x1 x2 n) x1 x2 x3 1 mm))) else (R_laysWays_38 k3 k7 (R_laysWays_22 k3 k7 x1 x2 n) x1 x2 x3 mm)) else (R_laysWays_38 k3 k7 (R_laysWays_22 k3 k7 x1 x2 n) x1 x2 x3 mm)) else (R_laysWays_110 k3 k7 x1 x2 mm)
set_option maxHeartbeats 4000000 in
theorem lk_R_laysWays_22 {p : Program} {l : Launch} {e : Env} {s : State} {m : MethodId} {args : Array Value} {below : List Frame} {meth : Method} {c : Code} {D : va_G} {cA : FieldType → ClassId} {ad adV : Nat → Nat} {z0 : Nat} {al0 : List Nat} (K : aK p s m args meth c mX12_laysWays D cA ad adV z0) (x1 : Int) (x2 : Int) (k3 : Int → aM → Option aM) (hk3 : ∀ (x1 : Int) (mm : aM), aG p l e { frames := 2, cells := 0, slots := 0, locals := 47 } s m args below meth c D cA ad z0 mX12_laysWays al0 rM (k3 x1 mm) 3 [(0, .inr (.inr (.inl (some 176)))), (1, .inl x1)] [] mm) (k7 : Int → aM → Option aM) (hk7 : ∀ (x2 : Int) (mm : aM), aG p l e { frames := 2, cells := 0, slots := 0, locals := 47 } s m args below meth c D cA ad z0 mX12_laysWays al0 rM (k7 x2 mm) 7 [(0, .inr (.inr (.inl (some 176)))), (1, .inl x1), (2, .inl x2)] [] mm)  : ∀ (n : Nat) (x3 : Int) (mm : aM), aG p l e { frames := 2, cells := 0, slots := 0, locals := 47 } s m args below meth c D cA ad z0 mX12_laysWays al0 rM (R_laysWays_22 k3 k7 x1 x2 n x3 mm) 22 [(0, .inr (.inr (.inl (some 176)))), (1, .inl x1), (2, .inl x2), (3, .inl x3)] [] mm := by
  intro n
  induction n with
  | zero => intro x3 mm; exact g_none
  | succ n ih =>
    intro x3 mm
    rw [R_laysWays_22]
    refine gl (i' := 23) (fun _ _ => aw_iload_n K (dOf ck_mX12_laysWays rfl rfl) rfl) ?_
    refine gl (i' := 24) (fun _ _ => aw_iconst K (n := 3) (i32 _ rfl) (dOf ck_mX12_laysWays rfl rfl)) ?_
    refine g_icmp_ge K (dOf ck_mX12_laysWays rfl rfl) (t := 110) (aJ_of (by decide +kernel)) (fun h4 => ?_) (fun h4 => ?_)
    · refine gl (i' := 26) (fun _ _ => aw_iload_n K (dOf ck_mX12_laysWays rfl rfl) rfl) ?_
      refine gl (i' := 27) (fun _ _ => aw_aload_n K (dOf ck_mX12_laysWays rfl rfl) rfl) ?_
      refine gl (i' := 28) (fun _ _ => aw_getf K (dOf ck_mX12_laysWays rfl rfl) rfl rfl (Nat.le_of_ble_eq_true rfl) wd_1222 (k := 17) rfl) ?_
      refine g_icmp_ne K (dOf ck_mX12_laysWays rfl rfl) (t := 38) (aJ_of (by decide +kernel)) (fun h5 => ?_) (fun h5 => ?_)
      · refine gl (i' := 30) (fun _ _ => aw_iload_n K (dOf ck_mX12_laysWays rfl rfl) rfl) ?_
        refine gl (i' := 31) (fun _ _ => aw_bip K (dOf ck_mX12_laysWays rfl rfl) (v := 13) rfl) ?_
        refine g_icmp_ge K (dOf ck_mX12_laysWays rfl rfl) (t := 38) (aJ_of (by decide +kernel)) (fun h16 => ?_) (fun h16 => ?_)
        · refine gl (i' := 33) (fun _ _ => aw_aload_n K (dOf ck_mX12_laysWays rfl rfl) rfl) ?_
          refine gl (i' := 34) (fun _ _ => aw_iload_n K (dOf ck_mX12_laysWays rfl rfl) rfl) ?_
          refine g_callVI K [.inl _] rfl (dOf ck_mX12_laysWays rfl rfl) al_OneBreathModel_253 rfl rfl ⟨wd_1402, wd_89⟩ rfl (Nat.le_of_ble_eq_true rfl) ⟨Nat.le_of_ble_eq_true rfl, Nat.le_of_ble_eq_true rfl⟩ (fun b hb => met_R_mayEnd  hb) (fun r17 hr17 => ?_)
          refine g_if_eq K (dOf ck_mX12_laysWays rfl rfl) (t := 38) (aJ_of (by decide +kernel)) (fun h18 => ?_) (fun h18 => ?_)
          · refine g_sub [0, 1, 2, 3] rfl ?_
            exact lk_R_laysWays_38 K _ _ _ _ hk3 _ hk7 _ ih _
          · refine gl (i' := 37) (fun _ _ => aw_lcn K (dOf ck_mX12_laysWays rfl rfl) (v := 1) rfl) ?_
            refine g_goto K (dOf ck_mX12_laysWays rfl rfl).1 (t := 39) (aJ_of (by decide +kernel)) ?_
            refine g_sub [0, 1, 2, 3] rfl ?_
            exact lk_R_laysWays_39 K _ _ _ _ hk3 _ hk7 _ ih _ _
        · refine g_sub [0, 1, 2, 3] rfl ?_
          exact lk_R_laysWays_38 K _ _ _ _ hk3 _ hk7 _ ih _
      · refine g_sub [0, 1, 2, 3] rfl ?_
        exact lk_R_laysWays_38 K _ _ _ _ hk3 _ hk7 _ ih _
    · refine g_sub [0, 1, 2] rfl ?_
      exact lk_R_laysWays_110 K _ _ _ hk3 _ hk7 _
def R_laysWays_20 (k3 : Int → aM → Option aM) (k7 : Int → aM → Option aM) (x1 : Int) (x2 : Int) (mm : aM) : Option aM := R_laysWays_22 k3 k7 x1 x2 FU 0 mm
set_option maxHeartbeats 4000000 in
theorem lk_R_laysWays_20 {p : Program} {l : Launch} {e : Env} {s : State} {m : MethodId} {args : Array Value} {below : List Frame} {meth : Method} {c : Code} {D : va_G} {cA : FieldType → ClassId} {ad adV : Nat → Nat} {z0 : Nat} {al0 : List Nat} (K : aK p s m args meth c mX12_laysWays D cA ad adV z0) (x1 : Int) (x2 : Int) (k3 : Int → aM → Option aM) (hk3 : ∀ (x1 : Int) (mm : aM), aG p l e { frames := 2, cells := 0, slots := 0, locals := 47 } s m args below meth c D cA ad z0 mX12_laysWays al0 rM (k3 x1 mm) 3 [(0, .inr (.inr (.inl (some 176)))), (1, .inl x1)] [] mm) (k7 : Int → aM → Option aM) (hk7 : ∀ (x2 : Int) (mm : aM), aG p l e { frames := 2, cells := 0, slots := 0, locals := 47 } s m args below meth c D cA ad z0 mX12_laysWays al0 rM (k7 x2 mm) 7 [(0, .inr (.inr (.inl (some 176)))), (1, .inl x1), (2, .inl x2)] [] mm)  (mm : aM) : aG p l e { frames := 2, cells := 0, slots := 0, locals := 47 } s m args below meth c D cA ad z0 mX12_laysWays al0 rM (R_laysWays_20 k3 k7 x1 x2 mm) 20 [(0, .inr (.inr (.inl (some 176)))), (1, .inl x1), (2, .inl x2)] [] mm := by
  unfold R_laysWays_20
  refine gl (i' := 21) (fun _ _ => aw_iconst K (n := 0) (i32 _ rfl) (dOf ck_mX12_laysWays rfl rfl)) ?_
  refine gl (i' := 22) (fun _ _ => aw_istore_n K (dOf ck_mX12_laysWays rfl rfl) (Nat.le_of_ble_eq_true rfl)) ?_
  refine g_lv (lv' := [(3, .inl _), (0, .inr (.inr (.inl (some _)))), (1, .inl _), (2, .inl _)]) rfl ?_
  refine g_sub [1, 2, 3, 0] rfl ?_
  exact lk_R_laysWays_22 K _ _ _ hk3 _ hk7 FU _ _
def R_laysWays_7 (k3 : Int → aM → Option aM) (x1 : Int) : Nat → Int → aM → Option aM
  | 0, _, _ => none
  | n + 1, x2, mm => if x2 < 14 then (if x2 < 13 then (if x2 < (mm 177 18) then (R_laysWays_20 k3 (R_laysWays_7 k3 x1 n) x1 x2 mm) else (R_laysWays_110 k3 (R_laysWays_7 k3 x1 n) x1 x2 mm)) else (R_laysWays_20 k3 (R_laysWays_7 k3 x1 n) x1 x2 mm)) else (k3 (w32 (x1 + (-1))) mm)
set_option maxHeartbeats 4000000 in
theorem lk_R_laysWays_7 {p : Program} {l : Launch} {e : Env} {s : State} {m : MethodId} {args : Array Value} {below : List Frame} {meth : Method} {c : Code} {D : va_G} {cA : FieldType → ClassId} {ad adV : Nat → Nat} {z0 : Nat} {al0 : List Nat} (K : aK p s m args meth c mX12_laysWays D cA ad adV z0) (x1 : Int) (k3 : Int → aM → Option aM) (hk3 : ∀ (x1 : Int) (mm : aM), aG p l e { frames := 2, cells := 0, slots := 0, locals := 47 } s m args below meth c D cA ad z0 mX12_laysWays al0 rM (k3 x1 mm) 3 [(0, .inr (.inr (.inl (some 176)))), (1, .inl x1)] [] mm)  : ∀ (n : Nat) (x2 : Int) (mm : aM), aG p l e { frames := 2, cells := 0, slots := 0, locals := 47 } s m args below meth c D cA ad z0 mX12_laysWays al0 rM (R_laysWays_7 k3 x1 n x2 mm) 7 [(0, .inr (.inr (.inl (some 176)))), (1, .inl x1), (2, .inl x2)] [] mm := by
  intro n
  induction n with
  | zero => intro x2 mm; exact g_none
  | succ n ih =>
    intro x2 mm
    rw [R_laysWays_7]
    refine gl (i' := 8) (fun _ _ => aw_iload_n K (dOf ck_mX12_laysWays rfl rfl) rfl) ?_
    refine gl (i' := 9) (fun _ _ => aw_bip K (dOf ck_mX12_laysWays rfl rfl) (v := 14) rfl) ?_
    refine g_icmp_ge K (dOf ck_mX12_laysWays rfl rfl) (t := 112) (aJ_of (by decide +kernel)) (fun h2 => ?_) (fun h2 => ?_)
    · refine gl (i' := 11) (fun _ _ => aw_iload_n K (dOf ck_mX12_laysWays rfl rfl) rfl) ?_
      refine gl (i' := 12) (fun _ _ => aw_bip K (dOf ck_mX12_laysWays rfl rfl) (v := 13) rfl) ?_
      refine g_icmp_ge K (dOf ck_mX12_laysWays rfl rfl) (t := 20) (aJ_of (by decide +kernel)) (fun h3 => ?_) (fun h3 => ?_)
      · refine gl (i' := 14) (fun _ _ => aw_iload_n K (dOf ck_mX12_laysWays rfl rfl) rfl) ?_
        refine gl (i' := 15) (fun _ _ => aw_aload_n K (dOf ck_mX12_laysWays rfl rfl) rfl) ?_
        refine gl (i' := 16) (fun _ _ => aw_getf K (dOf ck_mX12_laysWays rfl rfl) rfl rfl (Nat.le_of_ble_eq_true rfl) wd_1206 (k := 1) rfl) ?_
        refine gl (i' := 17) (fun _ _ => aw_bip K (dOf ck_mX12_laysWays rfl rfl) (v := 18) rfl) ?_
        refine gl (i' := 18) (fun _ _ => aw_iald K (dOf ck_mX12_laysWays rfl rfl) rfl (by decide)) ?_
        refine g_icmp_lt K (dOf ck_mX12_laysWays rfl rfl) (t := 20) (aJ_of (by decide +kernel)) (fun h19 => ?_) (fun h19 => ?_)
        · refine g_sub [0, 1, 2] rfl ?_
          exact lk_R_laysWays_20 K _ _ _ hk3 _ ih _
        · refine g_goto K (dOf ck_mX12_laysWays rfl rfl).1 (t := 110) (aJ_of (by decide +kernel)) ?_
          refine g_sub [0, 1, 2] rfl ?_
          exact lk_R_laysWays_110 K _ _ _ hk3 _ ih _
      · refine g_sub [0, 1, 2] rfl ?_
        exact lk_R_laysWays_20 K _ _ _ hk3 _ ih _
    · refine gl (i' := 113) (fun _ _ => aw_iinc K (dOf ck_mX12_laysWays rfl rfl) (Nat.le_of_ble_eq_true rfl) rfl) ?_
      refine g_lv (lv' := [(1, .inl _), (0, .inr (.inr (.inl (some _)))), (2, .inl _)]) rfl ?_
      refine g_goto K (dOf ck_mX12_laysWays rfl rfl).1 (t := 3) (aJ_of (by decide +kernel)) ?_
      refine g_sub [1, 0] rfl ?_
      exact hk3 _ _
def R_laysWays_3  : Nat → Int → aM → Option aM
  | 0, _, _ => none
  | n + 1, x1, mm => if x1 < 0 then (some mm) else (R_laysWays_7 (R_laysWays_3 n) x1 FU 0 mm)
set_option maxHeartbeats 4000000 in
theorem lk_R_laysWays_3 {p : Program} {l : Launch} {e : Env} {s : State} {m : MethodId} {args : Array Value} {below : List Frame} {meth : Method} {c : Code} {D : va_G} {cA : FieldType → ClassId} {ad adV : Nat → Nat} {z0 : Nat} {al0 : List Nat} (K : aK p s m args meth c mX12_laysWays D cA ad adV z0)   : ∀ (n : Nat) (x1 : Int) (mm : aM), aG p l e { frames := 2, cells := 0, slots := 0, locals := 47 } s m args below meth c D cA ad z0 mX12_laysWays al0 rM (R_laysWays_3 n x1 mm) 3 [(0, .inr (.inr (.inl (some 176)))), (1, .inl x1)] [] mm := by
  intro n
  induction n with
  | zero => intro x1 mm; exact g_none
  | succ n ih =>
    intro x1 mm
    rw [R_laysWays_3]
    refine gl (i' := 4) (fun _ _ => aw_iload_n K (dOf ck_mX12_laysWays rfl rfl) rfl) ?_
    refine g_if_lt K (dOf ck_mX12_laysWays rfl rfl) (t := 114) (aJ_of (by decide +kernel)) (fun h1 => ?_) (fun h1 => ?_)
    · exact g_vret K (by decide +kernel) rfl rfl
    · refine gl (i' := 6) (fun _ _ => aw_iconst K (n := 0) (i32 _ rfl) (dOf ck_mX12_laysWays rfl rfl)) ?_
      refine gl (i' := 7) (fun _ _ => aw_istore_n K (dOf ck_mX12_laysWays rfl rfl) (Nat.le_of_ble_eq_true rfl)) ?_
      refine g_lv (lv' := [(2, .inl _), (0, .inr (.inr (.inl (some _)))), (1, .inl _)]) rfl ?_
      refine g_sub [1, 2, 0] rfl ?_
      exact lk_R_laysWays_7 K _ _ ih FU _ _
def R_laysWays  (mm : aM) : Option aM := R_laysWays_3 FU (mm 176 17) mm
set_option maxHeartbeats 4000000 in
theorem met_R_laysWays {l : Launch} {D : va_G} {cA : FieldType → ClassId} {ad adV : Nat → Nat} {z0 : Nat}  {mm : aM}  {r : aM} (h : R_laysWays  mm = some r) : aMet l D cA ad adV z0 mX12_laysWays 2 47 0 0 [.inr (.inr (.inl (some 176)))] SH mm (rM r).1 SH (rM r).2 := by
  refine aMet_ofG (by decide +kernel) rfl (Nat.le_of_ble_eq_true rfl) h (fun p e s m args below meth c al0 K => ?_)
  unfold R_laysWays
  refine gl (i' := 1) (fun _ _ => aw_aload_n K (dOf ck_mX12_laysWays rfl rfl) rfl) ?_
  refine gl (i' := 2) (fun _ _ => aw_getf K (dOf ck_mX12_laysWays rfl rfl) rfl rfl (Nat.le_of_ble_eq_true rfl) wd_1222 (k := 17) rfl) ?_
  refine gl (i' := 3) (fun _ _ => aw_istore_n K (dOf ck_mX12_laysWays rfl rfl) (Nat.le_of_ble_eq_true rfl)) ?_
  refine g_lv (lv' := [(1, .inl _), (0, .inr (.inr (.inl (some _))))]) rfl ?_
  refine g_sub [1, 0] rfl ?_
  exact lk_R_laysWays_3 K FU _ _
def R_cuts (x1 : Int) (mm : aM) : Option (Int × aM) := st1 (aup mm 176 0 0) fun mm1 => ((R_within x1 0 2 mm1).bind fun r2 => (if r2 = 0 then (some ((-3), mm1)) else ((R_looksAtLine mm1).bind fun r4 => ((R_laysWays r4).bind fun r5 => (if 0 ≤ (w32 (39 + x1)) ∧ (w32 (39 + x1)) < 1722 then (some (w32 (r5 183 (w32 (39 + x1)).toNat), r5)) else none)))))
set_option maxHeartbeats 4000000 in
theorem met_R_cuts {l : Launch} {D : va_G} {cA : FieldType → ClassId} {ad adV : Nat → Nat} {z0 : Nat} {x1 : Int} {mm : aM}  {r : Int × aM} (h : R_cuts x1 mm = some r) : aMet l D cA ad adV z0 mX12_cuts 3 74 0 0 [.inr (.inr (.inl (some 176))), .inl x1] SH mm (rIM r).1 SH (rIM r).2 := by
  refine aMet_ofG (by decide +kernel) rfl (Nat.le_of_ble_eq_true rfl) h (fun p e s m args below meth c al0 K => ?_)
  unfold R_cuts
  refine gl (i' := 1) (fun _ _ => aw_aload_n K (dOf ck_mX12_cuts rfl rfl) rfl) ?_
  refine gl (i' := 2) (fun _ _ => aw_iconst K (n := 0) (i32 _ rfl) (dOf ck_mX12_cuts rfl rfl)) ?_
  refine g_st1 ?_
  refine gl (i' := 3) (fun _ _ => aw_putf K (dOf ck_mX12_cuts rfl rfl) rfl rfl (Nat.le_of_ble_eq_true rfl) wd_1205 (k := 0) rfl rfl (Or.inl rfl)) ?_
  refine gl (i' := 4) (fun _ _ => aw_iload_n K (dOf ck_mX12_cuts rfl rfl) rfl) ?_
  refine gl (i' := 5) (fun _ _ => aw_i2l K (dOf ck_mX12_cuts rfl rfl)) ?_
  refine gl (i' := 6) (fun _ _ => aw_lcn K (dOf ck_mX12_cuts rfl rfl) (v := 0) rfl) ?_
  refine gl (i' := 7) (fun _ _ => aw_ldc2 K (dOf ck_mX12_cuts rfl rfl) (n := 2) wd_1347 (i64 _ rfl)) ?_
  refine g_callSI K [.inr (.inl _), .inr (.inl _), .inr (.inl _)] rfl (dOf ck_mX12_cuts rfl rfl) al_OneBreathModel_176 wd_1269 rfl (Nat.le_of_ble_eq_true rfl) ⟨Nat.le_of_ble_eq_true rfl, Nat.le_of_ble_eq_true rfl⟩ (fun b hb => met_R_within  hb) (fun r2 hr2 => ?_)
  refine g_if_ne K (dOf ck_mX12_cuts rfl rfl) (t := 11) (aJ_of (by decide +kernel)) (fun h3 => ?_) (fun h3 => ?_)
  · refine gl (i' := 10) (fun _ _ => aw_bip K (dOf ck_mX12_cuts rfl rfl) (v := -3) rfl) ?_
    exact g_iret K (dOf ck_mX12_cuts rfl rfl).1 rfl (Or.inl rfl) rfl
  · refine gl (i' := 12) (fun _ _ => aw_aload_n K (dOf ck_mX12_cuts rfl rfl) rfl) ?_
    refine g_callVM K [] rfl (dOf ck_mX12_cuts rfl rfl) al_OneBreathModel_279 rfl rfl ⟨wd_1430, wd_93⟩ rfl (Nat.le_of_ble_eq_true rfl) ⟨Nat.le_of_ble_eq_true rfl, Nat.le_of_ble_eq_true rfl⟩ (fun b hb => met_R_looksAtLine  hb) (fun r4 hr4 => ?_)
    refine gl (i' := 14) (fun _ _ => aw_aload_n K (dOf ck_mX12_cuts rfl rfl) rfl) ?_
    refine g_callVM K [] rfl (dOf ck_mX12_cuts rfl rfl) al_OneBreathModel_282 rfl rfl ⟨wd_1433, wd_94⟩ rfl (Nat.le_of_ble_eq_true rfl) ⟨Nat.le_of_ble_eq_true rfl, Nat.le_of_ble_eq_true rfl⟩ (fun b hb => met_R_laysWays  hb) (fun r5 hr5 => ?_)
    refine gl (i' := 16) (fun _ _ => aw_aload_n K (dOf ck_mX12_cuts rfl rfl) rfl) ?_
    refine gl (i' := 17) (fun _ _ => aw_getf K (dOf ck_mX12_cuts rfl rfl) rfl rfl (Nat.le_of_ble_eq_true rfl) wd_1223 (k := 18) rfl) ?_
    refine gl (i' := 18) (fun _ _ => aw_bip K (dOf ck_mX12_cuts rfl rfl) (v := 39) rfl) ?_
    refine gl (i' := 19) (fun _ _ => aw_iload_n K (dOf ck_mX12_cuts rfl rfl) rfl) ?_
    refine gl (i' := 20) (fun _ _ => aw_iadd K (dOf ck_mX12_cuts rfl rfl)) ?_
    refine g_gd (fun hb6 => ?_)
    refine gl (i' := 21) (fun _ _ => aw_lald K (dOf ck_mX12_cuts rfl rfl) rfl hb6) ?_
    refine gl (i' := 22) (fun _ _ => aw_l2i K (dOf ck_mX12_cuts rfl rfl)) ?_
    exact g_iret K (by decide +kernel) rfl (Or.inl rfl) rfl
def R_laysSome_93 (k3 : Int → aM → Option aM) (k7 : Int → aM → Option aM) (x1 : Int) (x2 : Int) (mm : aM) : Option aM := k7 (w32 (x2 + 1)) mm
set_option maxHeartbeats 4000000 in
theorem lk_R_laysSome_93 {p : Program} {l : Launch} {e : Env} {s : State} {m : MethodId} {args : Array Value} {below : List Frame} {meth : Method} {c : Code} {D : va_G} {cA : FieldType → ClassId} {ad adV : Nat → Nat} {z0 : Nat} {al0 : List Nat} (K : aK p s m args meth c mX12_laysSome D cA ad adV z0) (x1 : Int) (x2 : Int) (k3 : Int → aM → Option aM) (hk3 : ∀ (x1 : Int) (mm : aM), aG p l e { frames := 2, cells := 0, slots := 0, locals := 47 } s m args below meth c D cA ad z0 mX12_laysSome al0 rM (k3 x1 mm) 3 [(0, .inr (.inr (.inl (some 176)))), (1, .inl x1)] [] mm) (k7 : Int → aM → Option aM) (hk7 : ∀ (x2 : Int) (mm : aM), aG p l e { frames := 2, cells := 0, slots := 0, locals := 47 } s m args below meth c D cA ad z0 mX12_laysSome al0 rM (k7 x2 mm) 7 [(0, .inr (.inr (.inl (some 176)))), (1, .inl x1), (2, .inl x2)] [] mm)  (mm : aM) : aG p l e { frames := 2, cells := 0, slots := 0, locals := 47 } s m args below meth c D cA ad z0 mX12_laysSome al0 rM (R_laysSome_93 k3 k7 x1 x2 mm) 93 [(0, .inr (.inr (.inl (some 176)))), (1, .inl x1), (2, .inl x2)] [] mm := by
  unfold R_laysSome_93
  refine gl (i' := 94) (fun _ _ => aw_iinc K (dOf ck_mX12_laysSome rfl rfl) (Nat.le_of_ble_eq_true rfl) rfl) ?_
  refine g_lv (lv' := [(2, .inl _), (0, .inr (.inr (.inl (some _)))), (1, .inl _)]) rfl ?_
  refine g_goto K (dOf ck_mX12_laysSome rfl rfl).1 (t := 7) (aJ_of (by decide +kernel)) ?_
  refine g_sub [1, 2, 0] rfl ?_
  exact hk7 _ _
def R_laysSome_92 (k3 : Int → aM → Option aM) (k7 : Int → aM → Option aM) (x1 : Int) (x2 : Int) (s0 : Int) (s1 : Int) (mm : aM) : Option aM := if 0 ≤ s1 ∧ s1 < 574 then (st1 (aup mm 187 s1.toNat s0) fun mm8 => (R_laysSome_93 k3 k7 x1 x2 mm8)) else none
set_option maxHeartbeats 4000000 in
theorem lk_R_laysSome_92 {p : Program} {l : Launch} {e : Env} {s : State} {m : MethodId} {args : Array Value} {below : List Frame} {meth : Method} {c : Code} {D : va_G} {cA : FieldType → ClassId} {ad adV : Nat → Nat} {z0 : Nat} {al0 : List Nat} (K : aK p s m args meth c mX12_laysSome D cA ad adV z0) (x1 : Int) (x2 : Int) (k3 : Int → aM → Option aM) (hk3 : ∀ (x1 : Int) (mm : aM), aG p l e { frames := 2, cells := 0, slots := 0, locals := 47 } s m args below meth c D cA ad z0 mX12_laysSome al0 rM (k3 x1 mm) 3 [(0, .inr (.inr (.inl (some 176)))), (1, .inl x1)] [] mm) (k7 : Int → aM → Option aM) (hk7 : ∀ (x2 : Int) (mm : aM), aG p l e { frames := 2, cells := 0, slots := 0, locals := 47 } s m args below meth c D cA ad z0 mX12_laysSome al0 rM (k7 x2 mm) 7 [(0, .inr (.inr (.inl (some 176)))), (1, .inl x1), (2, .inl x2)] [] mm)  (s0 : Int) (s1 : Int) (mm : aM) : aG p l e { frames := 2, cells := 0, slots := 0, locals := 47 } s m args below meth c D cA ad z0 mX12_laysSome al0 rM (R_laysSome_92 k3 k7 x1 x2 s0 s1 mm) 92 [(0, .inr (.inr (.inl (some 176)))), (1, .inl x1), (2, .inl x2)] [.inl s0, .inl s1, .inr (.inr (.inl (some 187)))] mm := by
  unfold R_laysSome_92
  refine g_gd (fun hb7 => ?_)
  refine g_st1 ?_
  refine gl (i' := 93) (fun _ _ => aw_iast K (dOf ck_mX12_laysSome rfl rfl) rfl hb7) ?_
  refine g_sub [0, 1, 2] rfl ?_
  exact lk_R_laysSome_93 K _ _ _ hk3 _ hk7 _
def R_laysSome_79 (k3 : Int → aM → Option aM) (k7 : Int → aM → Option aM) (x1 : Int) (x2 : Int) (x3 : Int) (mm : aM) : Option aM := if 2 < x3 then (R_laysSome_92 k3 k7 x1 x2 2 (w32 ((w32 (x1 * 14)) + x2)) mm) else (R_laysSome_92 k3 k7 x1 x2 x3 (w32 ((w32 (x1 * 14)) + x2)) mm)
set_option maxHeartbeats 4000000 in
theorem lk_R_laysSome_79 {p : Program} {l : Launch} {e : Env} {s : State} {m : MethodId} {args : Array Value} {below : List Frame} {meth : Method} {c : Code} {D : va_G} {cA : FieldType → ClassId} {ad adV : Nat → Nat} {z0 : Nat} {al0 : List Nat} (K : aK p s m args meth c mX12_laysSome D cA ad adV z0) (x1 : Int) (x2 : Int) (x3 : Int) (k3 : Int → aM → Option aM) (hk3 : ∀ (x1 : Int) (mm : aM), aG p l e { frames := 2, cells := 0, slots := 0, locals := 47 } s m args below meth c D cA ad z0 mX12_laysSome al0 rM (k3 x1 mm) 3 [(0, .inr (.inr (.inl (some 176)))), (1, .inl x1)] [] mm) (k7 : Int → aM → Option aM) (hk7 : ∀ (x2 : Int) (mm : aM), aG p l e { frames := 2, cells := 0, slots := 0, locals := 47 } s m args below meth c D cA ad z0 mX12_laysSome al0 rM (k7 x2 mm) 7 [(0, .inr (.inr (.inl (some 176)))), (1, .inl x1), (2, .inl x2)] [] mm)  (mm : aM) : aG p l e { frames := 2, cells := 0, slots := 0, locals := 47 } s m args below meth c D cA ad z0 mX12_laysSome al0 rM (R_laysSome_79 k3 k7 x1 x2 x3 mm) 79 [(0, .inr (.inr (.inl (some 176)))), (1, .inl x1), (2, .inl x2), (3, .inl x3)] [] mm := by
  unfold R_laysSome_79
  refine gl (i' := 80) (fun _ _ => aw_aload_n K (dOf ck_mX12_laysSome rfl rfl) rfl) ?_
  refine gl (i' := 81) (fun _ _ => aw_getf K (dOf ck_mX12_laysSome rfl rfl) rfl rfl (Nat.le_of_ble_eq_true rfl) wd_1228 (k := 23) rfl) ?_
  refine gl (i' := 82) (fun _ _ => aw_iload_n K (dOf ck_mX12_laysSome rfl rfl) rfl) ?_
  refine gl (i' := 83) (fun _ _ => aw_bip K (dOf ck_mX12_laysSome rfl rfl) (v := 14) rfl) ?_
  refine gl (i' := 84) (fun _ _ => aw_imul K (dOf ck_mX12_laysSome rfl rfl)) ?_
  refine gl (i' := 85) (fun _ _ => aw_iload_n K (dOf ck_mX12_laysSome rfl rfl) rfl) ?_
  refine gl (i' := 86) (fun _ _ => aw_iadd K (dOf ck_mX12_laysSome rfl rfl)) ?_
  refine gl (i' := 87) (fun _ _ => aw_iload_n K (dOf ck_mX12_laysSome rfl rfl) rfl) ?_
  refine gl (i' := 88) (fun _ _ => aw_iconst K (n := 2) (i32 _ rfl) (dOf ck_mX12_laysSome rfl rfl)) ?_
  refine g_icmp_le K (dOf ck_mX12_laysSome rfl rfl) (t := 91) (aJ_of (by decide +kernel)) (fun h6 => ?_) (fun h6 => ?_)
  · refine gl (i' := 90) (fun _ _ => aw_iconst K (n := 2) (i32 _ rfl) (dOf ck_mX12_laysSome rfl rfl)) ?_
    refine g_goto K (dOf ck_mX12_laysSome rfl rfl).1 (t := 92) (aJ_of (by decide +kernel)) ?_
    refine g_sub [0, 1, 2] rfl ?_
    exact lk_R_laysSome_92 K _ _ _ hk3 _ hk7 _ _ _
  · refine gl (i' := 92) (fun _ _ => aw_iload_n K (dOf ck_mX12_laysSome rfl rfl) rfl) ?_
    refine g_sub [0, 1, 2] rfl ?_
    exact lk_R_laysSome_92 K _ _ _ hk3 _ hk7 _ _ _
def R_laysSome_75 (k3 : Int → aM → Option aM) (k7 : Int → aM → Option aM) (k37 : Int → Int → aM → Option aM) (x1 : Int) (x2 : Int) (x4 : Int) (s0 : Int) (s1 : Int) (mm : aM) : Option aM := k37 (w32 (s1 + s0)) (w32 (x4 + 1)) mm
set_option maxHeartbeats 4000000 in
theorem lk_R_laysSome_75 {p : Program} {l : Launch} {e : Env} {s : State} {m : MethodId} {args : Array Value} {below : List Frame} {meth : Method} {c : Code} {D : va_G} {cA : FieldType → ClassId} {ad adV : Nat → Nat} {z0 : Nat} {al0 : List Nat} (K : aK p s m args meth c mX12_laysSome D cA ad adV z0) (x1 : Int) (x2 : Int) (x4 : Int) (k3 : Int → aM → Option aM) (hk3 : ∀ (x1 : Int) (mm : aM), aG p l e { frames := 2, cells := 0, slots := 0, locals := 47 } s m args below meth c D cA ad z0 mX12_laysSome al0 rM (k3 x1 mm) 3 [(0, .inr (.inr (.inl (some 176)))), (1, .inl x1)] [] mm) (k7 : Int → aM → Option aM) (hk7 : ∀ (x2 : Int) (mm : aM), aG p l e { frames := 2, cells := 0, slots := 0, locals := 47 } s m args below meth c D cA ad z0 mX12_laysSome al0 rM (k7 x2 mm) 7 [(0, .inr (.inr (.inl (some 176)))), (1, .inl x1), (2, .inl x2)] [] mm) (k37 : Int → Int → aM → Option aM) (hk37 : ∀ (x3 : Int) (x4 : Int) (mm : aM), aG p l e { frames := 2, cells := 0, slots := 0, locals := 47 } s m args below meth c D cA ad z0 mX12_laysSome al0 rM (k37 x3 x4 mm) 37 [(0, .inr (.inr (.inl (some 176)))), (1, .inl x1), (2, .inl x2), (3, .inl x3), (4, .inl x4)] [] mm)  (s0 : Int) (s1 : Int) (mm : aM) : aG p l e { frames := 2, cells := 0, slots := 0, locals := 47 } s m args below meth c D cA ad z0 mX12_laysSome al0 rM (R_laysSome_75 k3 k7 k37 x1 x2 x4 s0 s1 mm) 75 [(0, .inr (.inr (.inl (some 176)))), (1, .inl x1), (2, .inl x2), (4, .inl x4)] [.inl s0, .inl s1] mm := by
  unfold R_laysSome_75
  refine gl (i' := 76) (fun _ _ => aw_iadd K (dOf ck_mX12_laysSome rfl rfl)) ?_
  refine gl (i' := 77) (fun _ _ => aw_istore_n K (dOf ck_mX12_laysSome rfl rfl) (Nat.le_of_ble_eq_true rfl)) ?_
  refine g_lv (lv' := [(3, .inl _), (0, .inr (.inr (.inl (some _)))), (1, .inl _), (2, .inl _), (4, .inl _)]) rfl ?_
  refine gl (i' := 78) (fun _ _ => aw_iinc K (dOf ck_mX12_laysSome rfl rfl) (Nat.le_of_ble_eq_true rfl) rfl) ?_
  refine g_lv (lv' := [(4, .inl _), (3, .inl _), (0, .inr (.inr (.inl (some _)))), (1, .inl _), (2, .inl _)]) rfl ?_
  refine g_goto K (dOf ck_mX12_laysSome rfl rfl).1 (t := 37) (aJ_of (by decide +kernel)) ?_
  refine g_sub [2, 3, 4, 1, 0] rfl ?_
  exact hk37 _ _ _
def R_laysSome_74 (k3 : Int → aM → Option aM) (k7 : Int → aM → Option aM) (k37 : Int → Int → aM → Option aM) (x1 : Int) (x2 : Int) (x4 : Int) (s0 : Int) (mm : aM) : Option aM := R_laysSome_75 k3 k7 k37 x1 x2 x4 0 s0 mm
set_option maxHeartbeats 4000000 in
theorem lk_R_laysSome_74 {p : Program} {l : Launch} {e : Env} {s : State} {m : MethodId} {args : Array Value} {below : List Frame} {meth : Method} {c : Code} {D : va_G} {cA : FieldType → ClassId} {ad adV : Nat → Nat} {z0 : Nat} {al0 : List Nat} (K : aK p s m args meth c mX12_laysSome D cA ad adV z0) (x1 : Int) (x2 : Int) (x4 : Int) (k3 : Int → aM → Option aM) (hk3 : ∀ (x1 : Int) (mm : aM), aG p l e { frames := 2, cells := 0, slots := 0, locals := 47 } s m args below meth c D cA ad z0 mX12_laysSome al0 rM (k3 x1 mm) 3 [(0, .inr (.inr (.inl (some 176)))), (1, .inl x1)] [] mm) (k7 : Int → aM → Option aM) (hk7 : ∀ (x2 : Int) (mm : aM), aG p l e { frames := 2, cells := 0, slots := 0, locals := 47 } s m args below meth c D cA ad z0 mX12_laysSome al0 rM (k7 x2 mm) 7 [(0, .inr (.inr (.inl (some 176)))), (1, .inl x1), (2, .inl x2)] [] mm) (k37 : Int → Int → aM → Option aM) (hk37 : ∀ (x3 : Int) (x4 : Int) (mm : aM), aG p l e { frames := 2, cells := 0, slots := 0, locals := 47 } s m args below meth c D cA ad z0 mX12_laysSome al0 rM (k37 x3 x4 mm) 37 [(0, .inr (.inr (.inl (some 176)))), (1, .inl x1), (2, .inl x2), (3, .inl x3), (4, .inl x4)] [] mm)  (s0 : Int) (mm : aM) : aG p l e { frames := 2, cells := 0, slots := 0, locals := 47 } s m args below meth c D cA ad z0 mX12_laysSome al0 rM (R_laysSome_74 k3 k7 k37 x1 x2 x4 s0 mm) 74 [(0, .inr (.inr (.inl (some 176)))), (1, .inl x1), (2, .inl x2), (4, .inl x4)] [.inl s0] mm := by
  unfold R_laysSome_74
  refine gl (i' := 75) (fun _ _ => aw_iconst K (n := 0) (i32 _ rfl) (dOf ck_mX12_laysSome rfl rfl)) ?_
  refine g_sub [0, 1, 2, 3] rfl ?_
  exact lk_R_laysSome_75 K _ _ _ _ hk3 _ hk7 _ hk37 _ _ _
def R_laysSome_37 (k3 : Int → aM → Option aM) (k7 : Int → aM → Option aM) (x1 : Int) (x2 : Int) : Nat → Int → Int → aM → Option aM
  | 0, _, _, _ => none
  | n + 1, x3, x4, mm => if x4 < (mm 177 18) then (if x1 < (mm 176 17) then ((R_mayBe x2 x4 mm).bind fun r10 => (if r10 = 0 then (R_laysSome_74 k3 k7 (R_laysSome_37 k3 k7 x1 x2 n) x1 x2 x4 x3 mm) else ((R_mistakesAt x4 x1 mm).bind fun r12 => (if r12 = 0 then (if 0 ≤ (w32 (19 + x4)) ∧ (w32 (19 + x4)) < 588 then (if 0 ≤ (w32 ((w32 ((w32 (x1 + (mm 177 (w32 (19 + x4)).toNat))) * 14)) + x4)) ∧ (w32 ((w32 ((w32 (x1 + (mm 177 (w32 (19 + x4)).toNat))) * 14)) + x4)) < 574 then (R_laysSome_75 k3 k7 (R_laysSome_37 k3 k7 x1 x2 n) x1 x2 x4 (mm 187 (w32 ((w32 ((w32 (x1 + (mm 177 (w32 (19 + x4)).toNat))) * 14)) + x4)).toNat) x3 mm) else none) else none) else (R_laysSome_74 k3 k7 (R_laysSome_37 k3 k7 x1 x2 n) x1 x2 x4 x3 mm))))) else (R_laysSome_79 k3 k7 x1 x2 x3 mm)) else (R_laysSome_79 k3 k7 x1 x2 x3 mm)
set_option maxHeartbeats 4000000 in
theorem lk_R_laysSome_37 {p : Program} {l : Launch} {e : Env} {s : State} {m : MethodId} {args : Array Value} {below : List Frame} {meth : Method} {c : Code} {D : va_G} {cA : FieldType → ClassId} {ad adV : Nat → Nat} {z0 : Nat} {al0 : List Nat} (K : aK p s m args meth c mX12_laysSome D cA ad adV z0) (x1 : Int) (x2 : Int) (k3 : Int → aM → Option aM) (hk3 : ∀ (x1 : Int) (mm : aM), aG p l e { frames := 2, cells := 0, slots := 0, locals := 47 } s m args below meth c D cA ad z0 mX12_laysSome al0 rM (k3 x1 mm) 3 [(0, .inr (.inr (.inl (some 176)))), (1, .inl x1)] [] mm) (k7 : Int → aM → Option aM) (hk7 : ∀ (x2 : Int) (mm : aM), aG p l e { frames := 2, cells := 0, slots := 0, locals := 47 } s m args below meth c D cA ad z0 mX12_laysSome al0 rM (k7 x2 mm) 7 [(0, .inr (.inr (.inl (some 176)))), (1, .inl x1), (2, .inl x2)] [] mm)  : ∀ (n : Nat) (x3 : Int) (x4 : Int) (mm : aM), aG p l e { frames := 2, cells := 0, slots := 0, locals := 47 } s m args below meth c D cA ad z0 mX12_laysSome al0 rM (R_laysSome_37 k3 k7 x1 x2 n x3 x4 mm) 37 [(0, .inr (.inr (.inl (some 176)))), (1, .inl x1), (2, .inl x2), (3, .inl x3), (4, .inl x4)] [] mm := by
  intro n
  induction n with
  | zero => intro x3 x4 mm; exact g_none
  | succ n ih =>
    intro x3 x4 mm
    rw [R_laysSome_37]
    refine gl (i' := 38) (fun _ _ => aw_iload K (dOf ck_mX12_laysSome rfl rfl) rfl) ?_
    refine gl (i' := 39) (fun _ _ => aw_aload_n K (dOf ck_mX12_laysSome rfl rfl) rfl) ?_
    refine gl (i' := 40) (fun _ _ => aw_getf K (dOf ck_mX12_laysSome rfl rfl) rfl rfl (Nat.le_of_ble_eq_true rfl) wd_1206 (k := 1) rfl) ?_
    refine gl (i' := 41) (fun _ _ => aw_bip K (dOf ck_mX12_laysSome rfl rfl) (v := 18) rfl) ?_
    refine gl (i' := 42) (fun _ _ => aw_iald K (dOf ck_mX12_laysSome rfl rfl) rfl (by decide)) ?_
    refine g_icmp_ge K (dOf ck_mX12_laysSome rfl rfl) (t := 79) (aJ_of (by decide +kernel)) (fun h5 => ?_) (fun h5 => ?_)
    · refine gl (i' := 44) (fun _ _ => aw_iload_n K (dOf ck_mX12_laysSome rfl rfl) rfl) ?_
      refine gl (i' := 45) (fun _ _ => aw_aload_n K (dOf ck_mX12_laysSome rfl rfl) rfl) ?_
      refine gl (i' := 46) (fun _ _ => aw_getf K (dOf ck_mX12_laysSome rfl rfl) rfl rfl (Nat.le_of_ble_eq_true rfl) wd_1222 (k := 17) rfl) ?_
      refine g_icmp_ge K (dOf ck_mX12_laysSome rfl rfl) (t := 79) (aJ_of (by decide +kernel)) (fun h9 => ?_) (fun h9 => ?_)
      · refine gl (i' := 48) (fun _ _ => aw_iload_n K (dOf ck_mX12_laysSome rfl rfl) rfl) ?_
        refine gl (i' := 49) (fun _ _ => aw_aload_n K (dOf ck_mX12_laysSome rfl rfl) rfl) ?_
        refine gl (i' := 50) (fun _ _ => aw_iload_n K (dOf ck_mX12_laysSome rfl rfl) rfl) ?_
        refine gl (i' := 51) (fun _ _ => aw_iload K (dOf ck_mX12_laysSome rfl rfl) rfl) ?_
        refine g_callVI K [.inl _, .inl _] rfl (dOf ck_mX12_laysSome rfl rfl) al_OneBreathModel_271 rfl rfl ⟨wd_1436, wd_95⟩ rfl (Nat.le_of_ble_eq_true rfl) ⟨Nat.le_of_ble_eq_true rfl, Nat.le_of_ble_eq_true rfl⟩ (fun b hb => met_R_mayBe  hb) (fun r10 hr10 => ?_)
        refine g_if_eq K (dOf ck_mX12_laysSome rfl rfl) (t := 74) (aJ_of (by decide +kernel)) (fun h11 => ?_) (fun h11 => ?_)
        · refine g_sub [0, 1, 2, 4] rfl ?_
          exact lk_R_laysSome_74 K _ _ _ _ hk3 _ hk7 _ ih _ _
        · refine gl (i' := 54) (fun _ _ => aw_aload_n K (dOf ck_mX12_laysSome rfl rfl) rfl) ?_
          refine gl (i' := 55) (fun _ _ => aw_iload K (dOf ck_mX12_laysSome rfl rfl) rfl) ?_
          refine gl (i' := 56) (fun _ _ => aw_iload_n K (dOf ck_mX12_laysSome rfl rfl) rfl) ?_
          refine g_callVI K [.inl _, .inl _] rfl (dOf ck_mX12_laysSome rfl rfl) al_OneBreathModel_274 rfl rfl ⟨wd_1439, wd_96⟩ rfl (Nat.le_of_ble_eq_true rfl) ⟨Nat.le_of_ble_eq_true rfl, Nat.le_of_ble_eq_true rfl⟩ (fun b hb => met_R_mistakesAt  hb) (fun r12 hr12 => ?_)
          refine g_if_ne K (dOf ck_mX12_laysSome rfl rfl) (t := 74) (aJ_of (by decide +kernel)) (fun h13 => ?_) (fun h13 => ?_)
          · refine gl (i' := 59) (fun _ _ => aw_aload_n K (dOf ck_mX12_laysSome rfl rfl) rfl) ?_
            refine gl (i' := 60) (fun _ _ => aw_getf K (dOf ck_mX12_laysSome rfl rfl) rfl rfl (Nat.le_of_ble_eq_true rfl) wd_1228 (k := 23) rfl) ?_
            refine gl (i' := 61) (fun _ _ => aw_iload_n K (dOf ck_mX12_laysSome rfl rfl) rfl) ?_
            refine gl (i' := 62) (fun _ _ => aw_aload_n K (dOf ck_mX12_laysSome rfl rfl) rfl) ?_
            refine gl (i' := 63) (fun _ _ => aw_getf K (dOf ck_mX12_laysSome rfl rfl) rfl rfl (Nat.le_of_ble_eq_true rfl) wd_1206 (k := 1) rfl) ?_
            refine gl (i' := 64) (fun _ _ => aw_bip K (dOf ck_mX12_laysSome rfl rfl) (v := 19) rfl) ?_
            refine gl (i' := 65) (fun _ _ => aw_iload K (dOf ck_mX12_laysSome rfl rfl) rfl) ?_
            refine gl (i' := 66) (fun _ _ => aw_iadd K (dOf ck_mX12_laysSome rfl rfl)) ?_
            refine g_gd (fun hb14 => ?_)
            refine gl (i' := 67) (fun _ _ => aw_iald K (dOf ck_mX12_laysSome rfl rfl) rfl hb14) ?_
            refine gl (i' := 68) (fun _ _ => aw_iadd K (dOf ck_mX12_laysSome rfl rfl)) ?_
            refine gl (i' := 69) (fun _ _ => aw_bip K (dOf ck_mX12_laysSome rfl rfl) (v := 14) rfl) ?_
            refine gl (i' := 70) (fun _ _ => aw_imul K (dOf ck_mX12_laysSome rfl rfl)) ?_
            refine gl (i' := 71) (fun _ _ => aw_iload K (dOf ck_mX12_laysSome rfl rfl) rfl) ?_
            refine gl (i' := 72) (fun _ _ => aw_iadd K (dOf ck_mX12_laysSome rfl rfl)) ?_
            refine g_gd (fun hb15 => ?_)
            refine gl (i' := 73) (fun _ _ => aw_iald K (dOf ck_mX12_laysSome rfl rfl) rfl hb15) ?_
            refine g_goto K (dOf ck_mX12_laysSome rfl rfl).1 (t := 75) (aJ_of (by decide +kernel)) ?_
            refine g_sub [0, 1, 2, 4] rfl ?_
            exact lk_R_laysSome_75 K _ _ _ _ hk3 _ hk7 _ ih _ _ _
          · refine g_sub [0, 1, 2, 4] rfl ?_
            exact lk_R_laysSome_74 K _ _ _ _ hk3 _ hk7 _ ih _ _
      · refine g_sub [0, 1, 2, 3] rfl ?_
        exact lk_R_laysSome_79 K _ _ _ _ hk3 _ hk7 _
    · refine g_sub [0, 1, 2, 3] rfl ?_
      exact lk_R_laysSome_79 K _ _ _ _ hk3 _ hk7 _
def R_laysSome_34 (k3 : Int → aM → Option aM) (k7 : Int → aM → Option aM) (x1 : Int) (x2 : Int) (s0 : Int) (mm : aM) : Option aM := R_laysSome_37 k3 k7 x1 x2 FU s0 0 mm
set_option maxHeartbeats 4000000 in
theorem lk_R_laysSome_34 {p : Program} {l : Launch} {e : Env} {s : State} {m : MethodId} {args : Array Value} {below : List Frame} {meth : Method} {c : Code} {D : va_G} {cA : FieldType → ClassId} {ad adV : Nat → Nat} {z0 : Nat} {al0 : List Nat} (K : aK p s m args meth c mX12_laysSome D cA ad adV z0) (x1 : Int) (x2 : Int) (k3 : Int → aM → Option aM) (hk3 : ∀ (x1 : Int) (mm : aM), aG p l e { frames := 2, cells := 0, slots := 0, locals := 47 } s m args below meth c D cA ad z0 mX12_laysSome al0 rM (k3 x1 mm) 3 [(0, .inr (.inr (.inl (some 176)))), (1, .inl x1)] [] mm) (k7 : Int → aM → Option aM) (hk7 : ∀ (x2 : Int) (mm : aM), aG p l e { frames := 2, cells := 0, slots := 0, locals := 47 } s m args below meth c D cA ad z0 mX12_laysSome al0 rM (k7 x2 mm) 7 [(0, .inr (.inr (.inl (some 176)))), (1, .inl x1), (2, .inl x2)] [] mm)  (s0 : Int) (mm : aM) : aG p l e { frames := 2, cells := 0, slots := 0, locals := 47 } s m args below meth c D cA ad z0 mX12_laysSome al0 rM (R_laysSome_34 k3 k7 x1 x2 s0 mm) 34 [(0, .inr (.inr (.inl (some 176)))), (1, .inl x1), (2, .inl x2)] [.inl s0] mm := by
  unfold R_laysSome_34
  refine gl (i' := 35) (fun _ _ => aw_istore_n K (dOf ck_mX12_laysSome rfl rfl) (Nat.le_of_ble_eq_true rfl)) ?_
  refine g_lv (lv' := [(3, .inl _), (0, .inr (.inr (.inl (some _)))), (1, .inl _), (2, .inl _)]) rfl ?_
  refine gl (i' := 36) (fun _ _ => aw_iconst K (n := 0) (i32 _ rfl) (dOf ck_mX12_laysSome rfl rfl)) ?_
  refine gl (i' := 37) (fun _ _ => aw_istore K (dOf ck_mX12_laysSome rfl rfl) (Nat.le_of_ble_eq_true rfl)) ?_
  refine g_lv (lv' := [(4, .inl _), (3, .inl _), (0, .inr (.inr (.inl (some _)))), (1, .inl _), (2, .inl _)]) rfl ?_
  refine g_sub [2, 3, 4, 1, 0] rfl ?_
  exact lk_R_laysSome_37 K _ _ _ hk3 _ hk7 FU _ _ _
def R_laysSome_33 (k3 : Int → aM → Option aM) (k7 : Int → aM → Option aM) (x1 : Int) (x2 : Int) (mm : aM) : Option aM := R_laysSome_34 k3 k7 x1 x2 0 mm
set_option maxHeartbeats 4000000 in
theorem lk_R_laysSome_33 {p : Program} {l : Launch} {e : Env} {s : State} {m : MethodId} {args : Array Value} {below : List Frame} {meth : Method} {c : Code} {D : va_G} {cA : FieldType → ClassId} {ad adV : Nat → Nat} {z0 : Nat} {al0 : List Nat} (K : aK p s m args meth c mX12_laysSome D cA ad adV z0) (x1 : Int) (x2 : Int) (k3 : Int → aM → Option aM) (hk3 : ∀ (x1 : Int) (mm : aM), aG p l e { frames := 2, cells := 0, slots := 0, locals := 47 } s m args below meth c D cA ad z0 mX12_laysSome al0 rM (k3 x1 mm) 3 [(0, .inr (.inr (.inl (some 176)))), (1, .inl x1)] [] mm) (k7 : Int → aM → Option aM) (hk7 : ∀ (x2 : Int) (mm : aM), aG p l e { frames := 2, cells := 0, slots := 0, locals := 47 } s m args below meth c D cA ad z0 mX12_laysSome al0 rM (k7 x2 mm) 7 [(0, .inr (.inr (.inl (some 176)))), (1, .inl x1), (2, .inl x2)] [] mm)  (mm : aM) : aG p l e { frames := 2, cells := 0, slots := 0, locals := 47 } s m args below meth c D cA ad z0 mX12_laysSome al0 rM (R_laysSome_33 k3 k7 x1 x2 mm) 33 [(0, .inr (.inr (.inl (some 176)))), (1, .inl x1), (2, .inl x2)] [] mm := by
  unfold R_laysSome_33
  refine gl (i' := 34) (fun _ _ => aw_iconst K (n := 0) (i32 _ rfl) (dOf ck_mX12_laysSome rfl rfl)) ?_
  refine g_sub [0, 1, 2] rfl ?_
  exact lk_R_laysSome_34 K _ _ _ hk3 _ hk7 _ _
def R_laysSome_20 (k3 : Int → aM → Option aM) (k7 : Int → aM → Option aM) (x1 : Int) (x2 : Int) (mm : aM) : Option aM := if x1 = (mm 176 17) then (if x2 < 13 then ((R_mayEnd x2 mm).bind fun r17 => (if r17 = 0 then (R_laysSome_33 k3 k7 x1 x2 mm) else (R_laysSome_34 k3 k7 x1 x2 1 mm))) else (R_laysSome_33 k3 k7 x1 x2 mm)) else (R_laysSome_33 k3 k7 x1 x2 mm)
set_option maxHeartbeats 4000000 in
theorem lk_R_laysSome_20 {p : Program} {l : Launch} {e : Env} {s : State} {m : MethodId} {args : Array Value} {below : List Frame} {meth : Method} {c : Code} {D : va_G} {cA : FieldType → ClassId} {ad adV : Nat → Nat} {z0 : Nat} {al0 : List Nat} (K : aK p s m args meth c mX12_laysSome D cA ad adV z0) (x1 : Int) (x2 : Int) (k3 : Int → aM → Option aM) (hk3 : ∀ (x1 : Int) (mm : aM), aG p l e { frames := 2, cells := 0, slots := 0, locals := 47 } s m args below meth c D cA ad z0 mX12_laysSome al0 rM (k3 x1 mm) 3 [(0, .inr (.inr (.inl (some 176)))), (1, .inl x1)] [] mm) (k7 : Int → aM → Option aM) (hk7 : ∀ (x2 : Int) (mm : aM), aG p l e { frames := 2, cells := 0, slots := 0, locals := 47 } s m args below meth c D cA ad z0 mX12_laysSome al0 rM (k7 x2 mm) 7 [(0, .inr (.inr (.inl (some 176)))), (1, .inl x1), (2, .inl x2)] [] mm)  (mm : aM) : aG p l e { frames := 2, cells := 0, slots := 0, locals := 47 } s m args below meth c D cA ad z0 mX12_laysSome al0 rM (R_laysSome_20 k3 k7 x1 x2 mm) 20 [(0, .inr (.inr (.inl (some 176)))), (1, .inl x1), (2, .inl x2)] [] mm := by
  unfold R_laysSome_20
  refine gl (i' := 21) (fun _ _ => aw_iload_n K (dOf ck_mX12_laysSome rfl rfl) rfl) ?_
  refine gl (i' := 22) (fun _ _ => aw_aload_n K (dOf ck_mX12_laysSome rfl rfl) rfl) ?_
  refine gl (i' := 23) (fun _ _ => aw_getf K (dOf ck_mX12_laysSome rfl rfl) rfl rfl (Nat.le_of_ble_eq_true rfl) wd_1222 (k := 17) rfl) ?_
  refine g_icmp_ne K (dOf ck_mX12_laysSome rfl rfl) (t := 33) (aJ_of (by decide +kernel)) (fun h4 => ?_) (fun h4 => ?_)
  · refine gl (i' := 25) (fun _ _ => aw_iload_n K (dOf ck_mX12_laysSome rfl rfl) rfl) ?_
    refine gl (i' := 26) (fun _ _ => aw_bip K (dOf ck_mX12_laysSome rfl rfl) (v := 13) rfl) ?_
    refine g_icmp_ge K (dOf ck_mX12_laysSome rfl rfl) (t := 33) (aJ_of (by decide +kernel)) (fun h16 => ?_) (fun h16 => ?_)
    · refine gl (i' := 28) (fun _ _ => aw_aload_n K (dOf ck_mX12_laysSome rfl rfl) rfl) ?_
      refine gl (i' := 29) (fun _ _ => aw_iload_n K (dOf ck_mX12_laysSome rfl rfl) rfl) ?_
      refine g_callVI K [.inl _] rfl (dOf ck_mX12_laysSome rfl rfl) al_OneBreathModel_253 rfl rfl ⟨wd_1402, wd_89⟩ rfl (Nat.le_of_ble_eq_true rfl) ⟨Nat.le_of_ble_eq_true rfl, Nat.le_of_ble_eq_true rfl⟩ (fun b hb => met_R_mayEnd  hb) (fun r17 hr17 => ?_)
      refine g_if_eq K (dOf ck_mX12_laysSome rfl rfl) (t := 33) (aJ_of (by decide +kernel)) (fun h18 => ?_) (fun h18 => ?_)
      · refine g_sub [0, 1, 2] rfl ?_
        exact lk_R_laysSome_33 K _ _ _ hk3 _ hk7 _
      · refine gl (i' := 32) (fun _ _ => aw_iconst K (n := 1) (i32 _ rfl) (dOf ck_mX12_laysSome rfl rfl)) ?_
        refine g_goto K (dOf ck_mX12_laysSome rfl rfl).1 (t := 34) (aJ_of (by decide +kernel)) ?_
        refine g_sub [0, 1, 2] rfl ?_
        exact lk_R_laysSome_34 K _ _ _ hk3 _ hk7 _ _
    · refine g_sub [0, 1, 2] rfl ?_
      exact lk_R_laysSome_33 K _ _ _ hk3 _ hk7 _
  · refine g_sub [0, 1, 2] rfl ?_
    exact lk_R_laysSome_33 K _ _ _ hk3 _ hk7 _
def R_laysSome_7 (k3 : Int → aM → Option aM) (x1 : Int) : Nat → Int → aM → Option aM
  | 0, _, _ => none
  | n + 1, x2, mm => if x2 < 14 then (if x2 < 13 then (if x2 < (mm 177 18) then (R_laysSome_20 k3 (R_laysSome_7 k3 x1 n) x1 x2 mm) else (R_laysSome_93 k3 (R_laysSome_7 k3 x1 n) x1 x2 mm)) else (R_laysSome_20 k3 (R_laysSome_7 k3 x1 n) x1 x2 mm)) else (k3 (w32 (x1 + (-1))) mm)
set_option maxHeartbeats 4000000 in
theorem lk_R_laysSome_7 {p : Program} {l : Launch} {e : Env} {s : State} {m : MethodId} {args : Array Value} {below : List Frame} {meth : Method} {c : Code} {D : va_G} {cA : FieldType → ClassId} {ad adV : Nat → Nat} {z0 : Nat} {al0 : List Nat} (K : aK p s m args meth c mX12_laysSome D cA ad adV z0) (x1 : Int) (k3 : Int → aM → Option aM) (hk3 : ∀ (x1 : Int) (mm : aM), aG p l e { frames := 2, cells := 0, slots := 0, locals := 47 } s m args below meth c D cA ad z0 mX12_laysSome al0 rM (k3 x1 mm) 3 [(0, .inr (.inr (.inl (some 176)))), (1, .inl x1)] [] mm)  : ∀ (n : Nat) (x2 : Int) (mm : aM), aG p l e { frames := 2, cells := 0, slots := 0, locals := 47 } s m args below meth c D cA ad z0 mX12_laysSome al0 rM (R_laysSome_7 k3 x1 n x2 mm) 7 [(0, .inr (.inr (.inl (some 176)))), (1, .inl x1), (2, .inl x2)] [] mm := by
  intro n
  induction n with
  | zero => intro x2 mm; exact g_none
  | succ n ih =>
    intro x2 mm
    rw [R_laysSome_7]
    refine gl (i' := 8) (fun _ _ => aw_iload_n K (dOf ck_mX12_laysSome rfl rfl) rfl) ?_
    refine gl (i' := 9) (fun _ _ => aw_bip K (dOf ck_mX12_laysSome rfl rfl) (v := 14) rfl) ?_
    refine g_icmp_ge K (dOf ck_mX12_laysSome rfl rfl) (t := 95) (aJ_of (by decide +kernel)) (fun h2 => ?_) (fun h2 => ?_)
    · refine gl (i' := 11) (fun _ _ => aw_iload_n K (dOf ck_mX12_laysSome rfl rfl) rfl) ?_
      refine gl (i' := 12) (fun _ _ => aw_bip K (dOf ck_mX12_laysSome rfl rfl) (v := 13) rfl) ?_
      refine g_icmp_ge K (dOf ck_mX12_laysSome rfl rfl) (t := 20) (aJ_of (by decide +kernel)) (fun h3 => ?_) (fun h3 => ?_)
      · refine gl (i' := 14) (fun _ _ => aw_iload_n K (dOf ck_mX12_laysSome rfl rfl) rfl) ?_
        refine gl (i' := 15) (fun _ _ => aw_aload_n K (dOf ck_mX12_laysSome rfl rfl) rfl) ?_
        refine gl (i' := 16) (fun _ _ => aw_getf K (dOf ck_mX12_laysSome rfl rfl) rfl rfl (Nat.le_of_ble_eq_true rfl) wd_1206 (k := 1) rfl) ?_
        refine gl (i' := 17) (fun _ _ => aw_bip K (dOf ck_mX12_laysSome rfl rfl) (v := 18) rfl) ?_
        refine gl (i' := 18) (fun _ _ => aw_iald K (dOf ck_mX12_laysSome rfl rfl) rfl (by decide)) ?_
        refine g_icmp_lt K (dOf ck_mX12_laysSome rfl rfl) (t := 20) (aJ_of (by decide +kernel)) (fun h19 => ?_) (fun h19 => ?_)
        · refine g_sub [0, 1, 2] rfl ?_
          exact lk_R_laysSome_20 K _ _ _ hk3 _ ih _
        · refine g_goto K (dOf ck_mX12_laysSome rfl rfl).1 (t := 93) (aJ_of (by decide +kernel)) ?_
          refine g_sub [0, 1, 2] rfl ?_
          exact lk_R_laysSome_93 K _ _ _ hk3 _ ih _
      · refine g_sub [0, 1, 2] rfl ?_
        exact lk_R_laysSome_20 K _ _ _ hk3 _ ih _
    · refine gl (i' := 96) (fun _ _ => aw_iinc K (dOf ck_mX12_laysSome rfl rfl) (Nat.le_of_ble_eq_true rfl) rfl) ?_
      refine g_lv (lv' := [(1, .inl _), (0, .inr (.inr (.inl (some _)))), (2, .inl _)]) rfl ?_
      refine g_goto K (dOf ck_mX12_laysSome rfl rfl).1 (t := 3) (aJ_of (by decide +kernel)) ?_
      refine g_sub [1, 0] rfl ?_
      exact hk3 _ _
def R_laysSome_3  : Nat → Int → aM → Option aM
  | 0, _, _ => none
  | n + 1, x1, mm => if x1 < 0 then (some mm) else (R_laysSome_7 (R_laysSome_3 n) x1 FU 0 mm)
set_option maxHeartbeats 4000000 in
theorem lk_R_laysSome_3 {p : Program} {l : Launch} {e : Env} {s : State} {m : MethodId} {args : Array Value} {below : List Frame} {meth : Method} {c : Code} {D : va_G} {cA : FieldType → ClassId} {ad adV : Nat → Nat} {z0 : Nat} {al0 : List Nat} (K : aK p s m args meth c mX12_laysSome D cA ad adV z0)   : ∀ (n : Nat) (x1 : Int) (mm : aM), aG p l e { frames := 2, cells := 0, slots := 0, locals := 47 } s m args below meth c D cA ad z0 mX12_laysSome al0 rM (R_laysSome_3 n x1 mm) 3 [(0, .inr (.inr (.inl (some 176)))), (1, .inl x1)] [] mm := by
  intro n
  induction n with
  | zero => intro x1 mm; exact g_none
  | succ n ih =>
    intro x1 mm
    rw [R_laysSome_3]
    refine gl (i' := 4) (fun _ _ => aw_iload_n K (dOf ck_mX12_laysSome rfl rfl) rfl) ?_
    refine g_if_lt K (dOf ck_mX12_laysSome rfl rfl) (t := 97) (aJ_of (by decide +kernel)) (fun h1 => ?_) (fun h1 => ?_)
    · exact g_vret K (by decide +kernel) rfl rfl
    · refine gl (i' := 6) (fun _ _ => aw_iconst K (n := 0) (i32 _ rfl) (dOf ck_mX12_laysSome rfl rfl)) ?_
      refine gl (i' := 7) (fun _ _ => aw_istore_n K (dOf ck_mX12_laysSome rfl rfl) (Nat.le_of_ble_eq_true rfl)) ?_
      refine g_lv (lv' := [(2, .inl _), (0, .inr (.inr (.inl (some _)))), (1, .inl _)]) rfl ?_
      refine g_sub [1, 2, 0] rfl ?_
      exact lk_R_laysSome_7 K _ _ ih FU _ _
def R_laysSome  (mm : aM) : Option aM := R_laysSome_3 FU (mm 176 17) mm
set_option maxHeartbeats 4000000 in
theorem met_R_laysSome {l : Launch} {D : va_G} {cA : FieldType → ClassId} {ad adV : Nat → Nat} {z0 : Nat}  {mm : aM}  {r : aM} (h : R_laysSome  mm = some r) : aMet l D cA ad adV z0 mX12_laysSome 2 47 0 0 [.inr (.inr (.inl (some 176)))] SH mm (rM r).1 SH (rM r).2 := by
  refine aMet_ofG (by decide +kernel) rfl (Nat.le_of_ble_eq_true rfl) h (fun p e s m args below meth c al0 K => ?_)
  unfold R_laysSome
  refine gl (i' := 1) (fun _ _ => aw_aload_n K (dOf ck_mX12_laysSome rfl rfl) rfl) ?_
  refine gl (i' := 2) (fun _ _ => aw_getf K (dOf ck_mX12_laysSome rfl rfl) rfl rfl (Nat.le_of_ble_eq_true rfl) wd_1222 (k := 17) rfl) ?_
  refine gl (i' := 3) (fun _ _ => aw_istore_n K (dOf ck_mX12_laysSome rfl rfl) (Nat.le_of_ble_eq_true rfl)) ?_
  refine g_lv (lv' := [(1, .inl _), (0, .inr (.inr (.inl (some _))))]) rfl ?_
  refine g_sub [1, 0] rfl ?_
  exact lk_R_laysSome_3 K FU _ _
def R_findsFirst_63 (k19 : Int → Int → Int → aM → Option (Int × aM)) (k27 : Int → Int → Int → aM → Option (Int × aM)) (x2 : Int) (x3 : Int) (x4 : Int) (x5 : Int) (x7 : Int) (s0 : Int) (mm : aM) : Option (Int × aM) := if s0 = 0 then (k27 (w32 (x2 - x7)) (w32 (x5 + 1)) s0 mm) else (k27 x2 x5 s0 mm)
set_option maxHeartbeats 4000000 in
theorem lk_R_findsFirst_63 {p : Program} {l : Launch} {e : Env} {s : State} {m : MethodId} {args : Array Value} {below : List Frame} {meth : Method} {c : Code} {D : va_G} {cA : FieldType → ClassId} {ad adV : Nat → Nat} {z0 : Nat} {al0 : List Nat} (K : aK p s m args meth c mX12_findsFirst D cA ad adV z0) (x2 : Int) (x3 : Int) (x4 : Int) (x5 : Int) (x7 : Int) (k19 : Int → Int → Int → aM → Option (Int × aM)) (hk19 : ∀ (x2 : Int) (x3 : Int) (x4 : Int) (mm : aM), aG p l e { frames := 3, cells := 0, slots := 0, locals := 71 } s m args below meth c D cA ad z0 mX12_findsFirst al0 rIM (k19 x2 x3 x4 mm) 19 [(0, .inr (.inr (.inl (some 176)))), (2, .inl x2), (3, .inl x3), (4, .inl x4)] [] mm) (k27 : Int → Int → Int → aM → Option (Int × aM)) (hk27 : ∀ (x2 : Int) (x5 : Int) (x6 : Int) (mm : aM), aG p l e { frames := 3, cells := 0, slots := 0, locals := 71 } s m args below meth c D cA ad z0 mX12_findsFirst al0 rIM (k27 x2 x5 x6 mm) 27 [(0, .inr (.inr (.inl (some 176)))), (2, .inl x2), (3, .inl x3), (4, .inl x4), (5, .inl x5), (6, .inl x6)] [] mm)  (s0 : Int) (mm : aM) : aG p l e { frames := 3, cells := 0, slots := 0, locals := 71 } s m args below meth c D cA ad z0 mX12_findsFirst al0 rIM (R_findsFirst_63 k19 k27 x2 x3 x4 x5 x7 s0 mm) 63 [(0, .inr (.inr (.inl (some 176)))), (2, .inl x2), (3, .inl x3), (4, .inl x4), (5, .inl x5), (7, .inl x7)] [.inl s0] mm := by
  unfold R_findsFirst_63
  refine gl (i' := 64) (fun _ _ => aw_istore K (dOf ck_mX12_findsFirst rfl rfl) (Nat.le_of_ble_eq_true rfl)) ?_
  refine g_lv (lv' := [(6, .inl _), (0, .inr (.inr (.inl (some _)))), (2, .inl _), (3, .inl _), (4, .inl _), (5, .inl _), (7, .inl _)]) rfl ?_
  refine gl (i' := 65) (fun _ _ => aw_iload K (dOf ck_mX12_findsFirst rfl rfl) rfl) ?_
  refine g_if_eq K (dOf ck_mX12_findsFirst rfl rfl) (t := 67) (aJ_of (by decide +kernel)) (fun h13 => ?_) (fun h13 => ?_)
  · refine gl (i' := 68) (fun _ _ => aw_iload_n K (dOf ck_mX12_findsFirst rfl rfl) rfl) ?_
    refine gl (i' := 69) (fun _ _ => aw_iload K (dOf ck_mX12_findsFirst rfl rfl) rfl) ?_
    refine gl (i' := 70) (fun _ _ => aw_isub K (dOf ck_mX12_findsFirst rfl rfl)) ?_
    refine gl (i' := 71) (fun _ _ => aw_istore_n K (dOf ck_mX12_findsFirst rfl rfl) (Nat.le_of_ble_eq_true rfl)) ?_
    refine g_lv (lv' := [(2, .inl _), (6, .inl _), (0, .inr (.inr (.inl (some _)))), (3, .inl _), (4, .inl _), (5, .inl _), (7, .inl _)]) rfl ?_
    refine gl (i' := 72) (fun _ _ => aw_iinc K (dOf ck_mX12_findsFirst rfl rfl) (Nat.le_of_ble_eq_true rfl) rfl) ?_
    refine g_lv (lv' := [(5, .inl _), (2, .inl _), (6, .inl _), (0, .inr (.inr (.inl (some _)))), (3, .inl _), (4, .inl _), (7, .inl _)]) rfl ?_
    refine g_goto K (dOf ck_mX12_findsFirst rfl rfl).1 (t := 27) (aJ_of (by decide +kernel)) ?_
    refine g_sub [3, 1, 4, 5, 0, 2] rfl ?_
    exact hk27 _ _ _ _
  · refine g_goto K (dOf ck_mX12_findsFirst rfl rfl).1 (t := 27) (aJ_of (by decide +kernel)) ?_
    refine g_sub [1, 2, 3, 4, 5, 0] rfl ?_
    exact hk27 _ _ _ _
def R_findsFirst_56 (k19 : Int → Int → Int → aM → Option (Int × aM)) (k27 : Int → Int → Int → aM → Option (Int × aM)) (x2 : Int) (x3 : Int) (x4 : Int) (x5 : Int) (s0 : Int) (mm : aM) : Option (Int × aM) := if x2 < s0 then (R_findsFirst_63 k19 k27 x2 x3 x4 x5 s0 1 mm) else (R_findsFirst_63 k19 k27 x2 x3 x4 x5 s0 0 mm)
set_option maxHeartbeats 4000000 in
theorem lk_R_findsFirst_56 {p : Program} {l : Launch} {e : Env} {s : State} {m : MethodId} {args : Array Value} {below : List Frame} {meth : Method} {c : Code} {D : va_G} {cA : FieldType → ClassId} {ad adV : Nat → Nat} {z0 : Nat} {al0 : List Nat} (K : aK p s m args meth c mX12_findsFirst D cA ad adV z0) (x2 : Int) (x3 : Int) (x4 : Int) (x5 : Int) (k19 : Int → Int → Int → aM → Option (Int × aM)) (hk19 : ∀ (x2 : Int) (x3 : Int) (x4 : Int) (mm : aM), aG p l e { frames := 3, cells := 0, slots := 0, locals := 71 } s m args below meth c D cA ad z0 mX12_findsFirst al0 rIM (k19 x2 x3 x4 mm) 19 [(0, .inr (.inr (.inl (some 176)))), (2, .inl x2), (3, .inl x3), (4, .inl x4)] [] mm) (k27 : Int → Int → Int → aM → Option (Int × aM)) (hk27 : ∀ (x2 : Int) (x5 : Int) (x6 : Int) (mm : aM), aG p l e { frames := 3, cells := 0, slots := 0, locals := 71 } s m args below meth c D cA ad z0 mX12_findsFirst al0 rIM (k27 x2 x5 x6 mm) 27 [(0, .inr (.inr (.inl (some 176)))), (2, .inl x2), (3, .inl x3), (4, .inl x4), (5, .inl x5), (6, .inl x6)] [] mm)  (s0 : Int) (mm : aM) : aG p l e { frames := 3, cells := 0, slots := 0, locals := 71 } s m args below meth c D cA ad z0 mX12_findsFirst al0 rIM (R_findsFirst_56 k19 k27 x2 x3 x4 x5 s0 mm) 56 [(0, .inr (.inr (.inl (some 176)))), (2, .inl x2), (3, .inl x3), (4, .inl x4), (5, .inl x5)] [.inl s0] mm := by
  unfold R_findsFirst_56
  refine gl (i' := 57) (fun _ _ => aw_istore K (dOf ck_mX12_findsFirst rfl rfl) (Nat.le_of_ble_eq_true rfl)) ?_
  refine g_lv (lv' := [(7, .inl _), (0, .inr (.inr (.inl (some _)))), (2, .inl _), (3, .inl _), (4, .inl _), (5, .inl _)]) rfl ?_
  refine gl (i' := 58) (fun _ _ => aw_iload K (dOf ck_mX12_findsFirst rfl rfl) rfl) ?_
  refine gl (i' := 59) (fun _ _ => aw_iload_n K (dOf ck_mX12_findsFirst rfl rfl) rfl) ?_
  refine g_icmp_le K (dOf ck_mX12_findsFirst rfl rfl) (t := 62) (aJ_of (by decide +kernel)) (fun h12 => ?_) (fun h12 => ?_)
  · refine gl (i' := 61) (fun _ _ => aw_iconst K (n := 1) (i32 _ rfl) (dOf ck_mX12_findsFirst rfl rfl)) ?_
    refine g_goto K (dOf ck_mX12_findsFirst rfl rfl).1 (t := 63) (aJ_of (by decide +kernel)) ?_
    refine g_sub [1, 2, 3, 4, 5, 0] rfl ?_
    exact lk_R_findsFirst_63 K _ _ _ _ _ _ hk19 _ hk27 _ _
  · refine gl (i' := 63) (fun _ _ => aw_iconst K (n := 0) (i32 _ rfl) (dOf ck_mX12_findsFirst rfl rfl)) ?_
    refine g_sub [1, 2, 3, 4, 5, 0] rfl ?_
    exact lk_R_findsFirst_63 K _ _ _ _ _ _ hk19 _ hk27 _ _
def R_findsFirst_55 (k19 : Int → Int → Int → aM → Option (Int × aM)) (k27 : Int → Int → Int → aM → Option (Int × aM)) (x2 : Int) (x3 : Int) (x4 : Int) (x5 : Int) (mm : aM) : Option (Int × aM) := R_findsFirst_56 k19 k27 x2 x3 x4 x5 0 mm
set_option maxHeartbeats 4000000 in
theorem lk_R_findsFirst_55 {p : Program} {l : Launch} {e : Env} {s : State} {m : MethodId} {args : Array Value} {below : List Frame} {meth : Method} {c : Code} {D : va_G} {cA : FieldType → ClassId} {ad adV : Nat → Nat} {z0 : Nat} {al0 : List Nat} (K : aK p s m args meth c mX12_findsFirst D cA ad adV z0) (x2 : Int) (x3 : Int) (x4 : Int) (x5 : Int) (k19 : Int → Int → Int → aM → Option (Int × aM)) (hk19 : ∀ (x2 : Int) (x3 : Int) (x4 : Int) (mm : aM), aG p l e { frames := 3, cells := 0, slots := 0, locals := 71 } s m args below meth c D cA ad z0 mX12_findsFirst al0 rIM (k19 x2 x3 x4 mm) 19 [(0, .inr (.inr (.inl (some 176)))), (2, .inl x2), (3, .inl x3), (4, .inl x4)] [] mm) (k27 : Int → Int → Int → aM → Option (Int × aM)) (hk27 : ∀ (x2 : Int) (x5 : Int) (x6 : Int) (mm : aM), aG p l e { frames := 3, cells := 0, slots := 0, locals := 71 } s m args below meth c D cA ad z0 mX12_findsFirst al0 rIM (k27 x2 x5 x6 mm) 27 [(0, .inr (.inr (.inl (some 176)))), (2, .inl x2), (3, .inl x3), (4, .inl x4), (5, .inl x5), (6, .inl x6)] [] mm)  (mm : aM) : aG p l e { frames := 3, cells := 0, slots := 0, locals := 71 } s m args below meth c D cA ad z0 mX12_findsFirst al0 rIM (R_findsFirst_55 k19 k27 x2 x3 x4 x5 mm) 55 [(0, .inr (.inr (.inl (some 176)))), (2, .inl x2), (3, .inl x3), (4, .inl x4), (5, .inl x5)] [] mm := by
  unfold R_findsFirst_55
  refine gl (i' := 56) (fun _ _ => aw_iconst K (n := 0) (i32 _ rfl) (dOf ck_mX12_findsFirst rfl rfl)) ?_
  refine g_sub [0, 1, 2, 3, 4] rfl ?_
  exact lk_R_findsFirst_56 K _ _ _ _ _ hk19 _ hk27 _ _
def R_findsFirst_27 (k19 : Int → Int → Int → aM → Option (Int × aM)) (x3 : Int) (x4 : Int) : Nat → Int → Int → Int → aM → Option (Int × aM)
  | 0, _, _, _, _ => none
  | n + 1, x2, x5, x6, mm => if x6 = 0 then ((R_mayBe x4 x5 mm).bind fun r10 => (if r10 = 0 then (R_findsFirst_55 k19 (R_findsFirst_27 k19 x3 x4 n) x2 x3 x4 x5 mm) else ((R_mistakesAt x5 x3 mm).bind fun r14 => (if r14 = 0 then (if 0 ≤ (w32 (19 + x5)) ∧ (w32 (19 + x5)) < 588 then (if 0 ≤ (w32 ((w32 ((w32 (x3 + (mm 177 (w32 (19 + x5)).toNat))) * 14)) + x5)) ∧ (w32 ((w32 ((w32 (x3 + (mm 177 (w32 (19 + x5)).toNat))) * 14)) + x5)) < 574 then (R_findsFirst_56 k19 (R_findsFirst_27 k19 x3 x4 n) x2 x3 x4 x5 (mm 187 (w32 ((w32 ((w32 (x3 + (mm 177 (w32 (19 + x5)).toNat))) * 14)) + x5)).toNat) mm) else none) else none) else (R_findsFirst_55 k19 (R_findsFirst_27 k19 x3 x4 n) x2 x3 x4 x5 mm))))) else (if 0 ≤ (mm 176 22) ∧ (mm 176 22) < 40 then (st1 (aup mm 186 (mm 176 22).toNat x5) fun mm7 => (st1 (aup mm7 176 22 (w32 ((mm7 176 22) + 1))) fun mm8 => (if 0 ≤ (w32 (19 + x5)) ∧ (w32 (19 + x5)) < 588 then (k19 x2 (w32 (x3 + (mm8 177 (w32 (19 + x5)).toNat))) x5 mm8) else none))) else none)
set_option maxHeartbeats 4000000 in
theorem lk_R_findsFirst_27 {p : Program} {l : Launch} {e : Env} {s : State} {m : MethodId} {args : Array Value} {below : List Frame} {meth : Method} {c : Code} {D : va_G} {cA : FieldType → ClassId} {ad adV : Nat → Nat} {z0 : Nat} {al0 : List Nat} (K : aK p s m args meth c mX12_findsFirst D cA ad adV z0) (x3 : Int) (x4 : Int) (k19 : Int → Int → Int → aM → Option (Int × aM)) (hk19 : ∀ (x2 : Int) (x3 : Int) (x4 : Int) (mm : aM), aG p l e { frames := 3, cells := 0, slots := 0, locals := 71 } s m args below meth c D cA ad z0 mX12_findsFirst al0 rIM (k19 x2 x3 x4 mm) 19 [(0, .inr (.inr (.inl (some 176)))), (2, .inl x2), (3, .inl x3), (4, .inl x4)] [] mm)  : ∀ (n : Nat) (x2 : Int) (x5 : Int) (x6 : Int) (mm : aM), aG p l e { frames := 3, cells := 0, slots := 0, locals := 71 } s m args below meth c D cA ad z0 mX12_findsFirst al0 rIM (R_findsFirst_27 k19 x3 x4 n x2 x5 x6 mm) 27 [(0, .inr (.inr (.inl (some 176)))), (2, .inl x2), (3, .inl x3), (4, .inl x4), (5, .inl x5), (6, .inl x6)] [] mm := by
  intro n
  induction n with
  | zero => intro x2 x5 x6 mm; exact g_none
  | succ n ih =>
    intro x2 x5 x6 mm
    rw [R_findsFirst_27]
    refine gl (i' := 28) (fun _ _ => aw_iload K (dOf ck_mX12_findsFirst rfl rfl) rfl) ?_
    refine g_if_ne K (dOf ck_mX12_findsFirst rfl rfl) (t := 73) (aJ_of (by decide +kernel)) (fun h5 => ?_) (fun h5 => ?_)
    · refine gl (i' := 30) (fun _ _ => aw_aload_n K (dOf ck_mX12_findsFirst rfl rfl) rfl) ?_
      refine gl (i' := 31) (fun _ _ => aw_iload K (dOf ck_mX12_findsFirst rfl rfl) rfl) ?_
      refine gl (i' := 32) (fun _ _ => aw_iload K (dOf ck_mX12_findsFirst rfl rfl) rfl) ?_
      refine g_callVI K [.inl _, .inl _] rfl (dOf ck_mX12_findsFirst rfl rfl) al_OneBreathModel_271 rfl rfl ⟨wd_1436, wd_95⟩ rfl (Nat.le_of_ble_eq_true rfl) ⟨Nat.le_of_ble_eq_true rfl, Nat.le_of_ble_eq_true rfl⟩ (fun b hb => met_R_mayBe  hb) (fun r10 hr10 => ?_)
      refine g_if_eq K (dOf ck_mX12_findsFirst rfl rfl) (t := 55) (aJ_of (by decide +kernel)) (fun h11 => ?_) (fun h11 => ?_)
      · refine g_sub [0, 1, 2, 3, 4] rfl ?_
        exact lk_R_findsFirst_55 K _ _ _ _ _ hk19 _ ih _
      · refine gl (i' := 35) (fun _ _ => aw_aload_n K (dOf ck_mX12_findsFirst rfl rfl) rfl) ?_
        refine gl (i' := 36) (fun _ _ => aw_iload K (dOf ck_mX12_findsFirst rfl rfl) rfl) ?_
        refine gl (i' := 37) (fun _ _ => aw_iload_n K (dOf ck_mX12_findsFirst rfl rfl) rfl) ?_
        refine g_callVI K [.inl _, .inl _] rfl (dOf ck_mX12_findsFirst rfl rfl) al_OneBreathModel_274 rfl rfl ⟨wd_1439, wd_96⟩ rfl (Nat.le_of_ble_eq_true rfl) ⟨Nat.le_of_ble_eq_true rfl, Nat.le_of_ble_eq_true rfl⟩ (fun b hb => met_R_mistakesAt  hb) (fun r14 hr14 => ?_)
        refine g_if_ne K (dOf ck_mX12_findsFirst rfl rfl) (t := 55) (aJ_of (by decide +kernel)) (fun h15 => ?_) (fun h15 => ?_)
        · refine gl (i' := 40) (fun _ _ => aw_aload_n K (dOf ck_mX12_findsFirst rfl rfl) rfl) ?_
          refine gl (i' := 41) (fun _ _ => aw_getf K (dOf ck_mX12_findsFirst rfl rfl) rfl rfl (Nat.le_of_ble_eq_true rfl) wd_1228 (k := 23) rfl) ?_
          refine gl (i' := 42) (fun _ _ => aw_iload_n K (dOf ck_mX12_findsFirst rfl rfl) rfl) ?_
          refine gl (i' := 43) (fun _ _ => aw_aload_n K (dOf ck_mX12_findsFirst rfl rfl) rfl) ?_
          refine gl (i' := 44) (fun _ _ => aw_getf K (dOf ck_mX12_findsFirst rfl rfl) rfl rfl (Nat.le_of_ble_eq_true rfl) wd_1206 (k := 1) rfl) ?_
          refine gl (i' := 45) (fun _ _ => aw_bip K (dOf ck_mX12_findsFirst rfl rfl) (v := 19) rfl) ?_
          refine gl (i' := 46) (fun _ _ => aw_iload K (dOf ck_mX12_findsFirst rfl rfl) rfl) ?_
          refine gl (i' := 47) (fun _ _ => aw_iadd K (dOf ck_mX12_findsFirst rfl rfl)) ?_
          refine g_gd (fun hb16 => ?_)
          refine gl (i' := 48) (fun _ _ => aw_iald K (dOf ck_mX12_findsFirst rfl rfl) rfl hb16) ?_
          refine gl (i' := 49) (fun _ _ => aw_iadd K (dOf ck_mX12_findsFirst rfl rfl)) ?_
          refine gl (i' := 50) (fun _ _ => aw_bip K (dOf ck_mX12_findsFirst rfl rfl) (v := 14) rfl) ?_
          refine gl (i' := 51) (fun _ _ => aw_imul K (dOf ck_mX12_findsFirst rfl rfl)) ?_
          refine gl (i' := 52) (fun _ _ => aw_iload K (dOf ck_mX12_findsFirst rfl rfl) rfl) ?_
          refine gl (i' := 53) (fun _ _ => aw_iadd K (dOf ck_mX12_findsFirst rfl rfl)) ?_
          refine g_gd (fun hb17 => ?_)
          refine gl (i' := 54) (fun _ _ => aw_iald K (dOf ck_mX12_findsFirst rfl rfl) rfl hb17) ?_
          refine g_goto K (dOf ck_mX12_findsFirst rfl rfl).1 (t := 56) (aJ_of (by decide +kernel)) ?_
          refine g_sub [0, 1, 2, 3, 4] rfl ?_
          exact lk_R_findsFirst_56 K _ _ _ _ _ hk19 _ ih _ _
        · refine g_sub [0, 1, 2, 3, 4] rfl ?_
          exact lk_R_findsFirst_55 K _ _ _ _ _ hk19 _ ih _
    · refine gl (i' := 74) (fun _ _ => aw_aload_n K (dOf ck_mX12_findsFirst rfl rfl) rfl) ?_
      refine gl (i' := 75) (fun _ _ => aw_getf K (dOf ck_mX12_findsFirst rfl rfl) rfl rfl (Nat.le_of_ble_eq_true rfl) wd_1226 (k := 21) rfl) ?_
      refine gl (i' := 76) (fun _ _ => aw_aload_n K (dOf ck_mX12_findsFirst rfl rfl) rfl) ?_
      refine gl (i' := 77) (fun _ _ => aw_getf K (dOf ck_mX12_findsFirst rfl rfl) rfl rfl (Nat.le_of_ble_eq_true rfl) wd_1227 (k := 22) rfl) ?_
      refine gl (i' := 78) (fun _ _ => aw_iload K (dOf ck_mX12_findsFirst rfl rfl) rfl) ?_
      refine g_gd (fun hb6 => ?_)
      refine g_st1 ?_
      refine gl (i' := 79) (fun _ _ => aw_iast K (dOf ck_mX12_findsFirst rfl rfl) rfl hb6) ?_
      refine gl (i' := 80) (fun _ _ => aw_aload_n K (dOf ck_mX12_findsFirst rfl rfl) rfl) ?_
      refine gl (i' := 81) (fun _ _ => aw_dup K rfl (dOf ck_mX12_findsFirst rfl rfl)) ?_
      refine gl (i' := 82) (fun _ _ => aw_getf K (dOf ck_mX12_findsFirst rfl rfl) rfl rfl (Nat.le_of_ble_eq_true rfl) wd_1227 (k := 22) rfl) ?_
      refine gl (i' := 83) (fun _ _ => aw_iconst K (n := 1) (i32 _ rfl) (dOf ck_mX12_findsFirst rfl rfl)) ?_
      refine gl (i' := 84) (fun _ _ => aw_iadd K (dOf ck_mX12_findsFirst rfl rfl)) ?_
      refine g_st1 ?_
      refine gl (i' := 85) (fun _ _ => aw_putf K (dOf ck_mX12_findsFirst rfl rfl) rfl rfl (Nat.le_of_ble_eq_true rfl) wd_1227 (k := 22) rfl rfl (Or.inl rfl)) ?_
      refine gl (i' := 86) (fun _ _ => aw_iload_n K (dOf ck_mX12_findsFirst rfl rfl) rfl) ?_
      refine gl (i' := 87) (fun _ _ => aw_aload_n K (dOf ck_mX12_findsFirst rfl rfl) rfl) ?_
      refine gl (i' := 88) (fun _ _ => aw_getf K (dOf ck_mX12_findsFirst rfl rfl) rfl rfl (Nat.le_of_ble_eq_true rfl) wd_1206 (k := 1) rfl) ?_
      refine gl (i' := 89) (fun _ _ => aw_bip K (dOf ck_mX12_findsFirst rfl rfl) (v := 19) rfl) ?_
      refine gl (i' := 90) (fun _ _ => aw_iload K (dOf ck_mX12_findsFirst rfl rfl) rfl) ?_
      refine gl (i' := 91) (fun _ _ => aw_iadd K (dOf ck_mX12_findsFirst rfl rfl)) ?_
      refine g_gd (fun hb9 => ?_)
      refine gl (i' := 92) (fun _ _ => aw_iald K (dOf ck_mX12_findsFirst rfl rfl) rfl hb9) ?_
      refine gl (i' := 93) (fun _ _ => aw_iadd K (dOf ck_mX12_findsFirst rfl rfl)) ?_
      refine gl (i' := 94) (fun _ _ => aw_istore_n K (dOf ck_mX12_findsFirst rfl rfl) (Nat.le_of_ble_eq_true rfl)) ?_
      refine g_lv (lv' := [(3, .inl _), (0, .inr (.inr (.inl (some _)))), (2, .inl _), (4, .inl _), (5, .inl _), (6, .inl _)]) rfl ?_
      refine gl (i' := 95) (fun _ _ => aw_iload K (dOf ck_mX12_findsFirst rfl rfl) rfl) ?_
      refine gl (i' := 96) (fun _ _ => aw_istore K (dOf ck_mX12_findsFirst rfl rfl) (Nat.le_of_ble_eq_true rfl)) ?_
      refine g_lv (lv' := [(4, .inl _), (3, .inl _), (0, .inr (.inr (.inl (some _)))), (2, .inl _), (5, .inl _), (6, .inl _)]) rfl ?_
      refine g_goto K (dOf ck_mX12_findsFirst rfl rfl).1 (t := 19) (aJ_of (by decide +kernel)) ?_
      refine g_sub [2, 3, 1, 0] rfl ?_
      exact hk19 _ _ _ _
def R_findsFirst_19  : Nat → Int → Int → Int → aM → Option (Int × aM)
  | 0, _, _, _, _ => none
  | n + 1, x2, x3, x4, mm => if x3 < (mm 176 17) then (R_findsFirst_27 (R_findsFirst_19 n) x3 x4 FU x2 0 0 mm) else (some (1, mm))
set_option maxHeartbeats 4000000 in
theorem lk_R_findsFirst_19 {p : Program} {l : Launch} {e : Env} {s : State} {m : MethodId} {args : Array Value} {below : List Frame} {meth : Method} {c : Code} {D : va_G} {cA : FieldType → ClassId} {ad adV : Nat → Nat} {z0 : Nat} {al0 : List Nat} (K : aK p s m args meth c mX12_findsFirst D cA ad adV z0)   : ∀ (n : Nat) (x2 : Int) (x3 : Int) (x4 : Int) (mm : aM), aG p l e { frames := 3, cells := 0, slots := 0, locals := 71 } s m args below meth c D cA ad z0 mX12_findsFirst al0 rIM (R_findsFirst_19 n x2 x3 x4 mm) 19 [(0, .inr (.inr (.inl (some 176)))), (2, .inl x2), (3, .inl x3), (4, .inl x4)] [] mm := by
  intro n
  induction n with
  | zero => intro x2 x3 x4 mm; exact g_none
  | succ n ih =>
    intro x2 x3 x4 mm
    rw [R_findsFirst_19]
    refine gl (i' := 20) (fun _ _ => aw_iload_n K (dOf ck_mX12_findsFirst rfl rfl) rfl) ?_
    refine gl (i' := 21) (fun _ _ => aw_aload_n K (dOf ck_mX12_findsFirst rfl rfl) rfl) ?_
    refine gl (i' := 22) (fun _ _ => aw_getf K (dOf ck_mX12_findsFirst rfl rfl) rfl rfl (Nat.le_of_ble_eq_true rfl) wd_1222 (k := 17) rfl) ?_
    refine g_icmp_ge K (dOf ck_mX12_findsFirst rfl rfl) (t := 97) (aJ_of (by decide +kernel)) (fun h4 => ?_) (fun h4 => ?_)
    · refine gl (i' := 24) (fun _ _ => aw_iconst K (n := 0) (i32 _ rfl) (dOf ck_mX12_findsFirst rfl rfl)) ?_
      refine gl (i' := 25) (fun _ _ => aw_istore K (dOf ck_mX12_findsFirst rfl rfl) (Nat.le_of_ble_eq_true rfl)) ?_
      refine g_lv (lv' := [(5, .inl _), (0, .inr (.inr (.inl (some _)))), (2, .inl _), (3, .inl _), (4, .inl _)]) rfl ?_
      refine gl (i' := 26) (fun _ _ => aw_iconst K (n := 0) (i32 _ rfl) (dOf ck_mX12_findsFirst rfl rfl)) ?_
      refine gl (i' := 27) (fun _ _ => aw_istore K (dOf ck_mX12_findsFirst rfl rfl) (Nat.le_of_ble_eq_true rfl)) ?_
      refine g_lv (lv' := [(6, .inl _), (5, .inl _), (0, .inr (.inr (.inl (some _)))), (2, .inl _), (3, .inl _), (4, .inl _)]) rfl ?_
      refine g_sub [2, 3, 4, 5, 1, 0] rfl ?_
      exact lk_R_findsFirst_27 K _ _ _ ih FU _ _ _ _
    · refine gl (i' := 98) (fun _ _ => aw_iconst K (n := 1) (i32 _ rfl) (dOf ck_mX12_findsFirst rfl rfl)) ?_
      exact g_iret K (by decide +kernel) rfl (Or.inr (Or.inl ⟨rfl, Or.inr rfl⟩)) rfl
def R_findsFirst (x1 : Int) (mm : aM) : Option (Int × aM) := (R_laysSome mm).bind fun r1 => (st1 (aup r1 176 22 0) fun mm2 => (if x1 < (mm2 187 13) then (R_findsFirst_19 FU x1 0 13 mm2) else (some (0, mm2))))
set_option maxHeartbeats 4000000 in
theorem met_R_findsFirst {l : Launch} {D : va_G} {cA : FieldType → ClassId} {ad adV : Nat → Nat} {z0 : Nat} {x1 : Int} {mm : aM}  {r : Int × aM} (h : R_findsFirst x1 mm = some r) : aMet l D cA ad adV z0 mX12_findsFirst 3 71 0 0 [.inr (.inr (.inl (some 176))), .inl x1] SH mm (rIM r).1 SH (rIM r).2 := by
  refine aMet_ofG (by decide +kernel) rfl (Nat.le_of_ble_eq_true rfl) h (fun p e s m args below meth c al0 K => ?_)
  unfold R_findsFirst
  refine gl (i' := 1) (fun _ _ => aw_aload_n K (dOf ck_mX12_findsFirst rfl rfl) rfl) ?_
  refine g_callVM K [] rfl (dOf ck_mX12_findsFirst rfl rfl) al_OneBreathModel_300 rfl rfl ⟨wd_1453, wd_99⟩ rfl (Nat.le_of_ble_eq_true rfl) ⟨Nat.le_of_ble_eq_true rfl, Nat.le_of_ble_eq_true rfl⟩ (fun b hb => met_R_laysSome  hb) (fun r1 hr1 => ?_)
  refine gl (i' := 3) (fun _ _ => aw_aload_n K (dOf ck_mX12_findsFirst rfl rfl) rfl) ?_
  refine gl (i' := 4) (fun _ _ => aw_iconst K (n := 0) (i32 _ rfl) (dOf ck_mX12_findsFirst rfl rfl)) ?_
  refine g_st1 ?_
  refine gl (i' := 5) (fun _ _ => aw_putf K (dOf ck_mX12_findsFirst rfl rfl) rfl rfl (Nat.le_of_ble_eq_true rfl) wd_1227 (k := 22) rfl rfl (Or.inl rfl)) ?_
  refine gl (i' := 6) (fun _ _ => aw_aload_n K (dOf ck_mX12_findsFirst rfl rfl) rfl) ?_
  refine gl (i' := 7) (fun _ _ => aw_getf K (dOf ck_mX12_findsFirst rfl rfl) rfl rfl (Nat.le_of_ble_eq_true rfl) wd_1228 (k := 23) rfl) ?_
  refine gl (i' := 8) (fun _ _ => aw_bip K (dOf ck_mX12_findsFirst rfl rfl) (v := 13) rfl) ?_
  refine gl (i' := 9) (fun _ _ => aw_iald K (dOf ck_mX12_findsFirst rfl rfl) rfl (by decide)) ?_
  refine gl (i' := 10) (fun _ _ => aw_iload_n K (dOf ck_mX12_findsFirst rfl rfl) rfl) ?_
  refine g_icmp_gt K (dOf ck_mX12_findsFirst rfl rfl) (t := 13) (aJ_of (by decide +kernel)) (fun h3 => ?_) (fun h3 => ?_)
  · refine gl (i' := 14) (fun _ _ => aw_iload_n K (dOf ck_mX12_findsFirst rfl rfl) rfl) ?_
    refine gl (i' := 15) (fun _ _ => aw_istore_n K (dOf ck_mX12_findsFirst rfl rfl) (Nat.le_of_ble_eq_true rfl)) ?_
    refine g_lv (lv' := [(2, .inl _), (0, .inr (.inr (.inl (some _)))), (1, .inl _)]) rfl ?_
    refine gl (i' := 16) (fun _ _ => aw_iconst K (n := 0) (i32 _ rfl) (dOf ck_mX12_findsFirst rfl rfl)) ?_
    refine gl (i' := 17) (fun _ _ => aw_istore_n K (dOf ck_mX12_findsFirst rfl rfl) (Nat.le_of_ble_eq_true rfl)) ?_
    refine g_lv (lv' := [(3, .inl _), (2, .inl _), (0, .inr (.inr (.inl (some _)))), (1, .inl _)]) rfl ?_
    refine gl (i' := 18) (fun _ _ => aw_bip K (dOf ck_mX12_findsFirst rfl rfl) (v := 13) rfl) ?_
    refine gl (i' := 19) (fun _ _ => aw_istore K (dOf ck_mX12_findsFirst rfl rfl) (Nat.le_of_ble_eq_true rfl)) ?_
    refine g_lv (lv' := [(4, .inl _), (3, .inl _), (2, .inl _), (0, .inr (.inr (.inl (some _)))), (1, .inl _)]) rfl ?_
    refine g_sub [3, 2, 1, 0] rfl ?_
    exact lk_R_findsFirst_19 K FU _ _ _ _
  · refine gl (i' := 12) (fun _ _ => aw_iconst K (n := 0) (i32 _ rfl) (dOf ck_mX12_findsFirst rfl rfl)) ?_
    exact g_iret K (dOf ck_mX12_findsFirst rfl rfl).1 rfl (Or.inr (Or.inl ⟨rfl, Or.inl rfl⟩)) rfl
def R_offBy_11 (mm : aM) (x4 : Int) (s0 : Int) : Option Int := if x4 = 0 then (if 0 < s0 then (some 1000) else (some s0)) else (some s0)
set_option maxHeartbeats 4000000 in
theorem lk_R_offBy_11 {p : Program} {l : Launch} {e : Env} {s : State} {m : MethodId} {args : Array Value} {below : List Frame} {meth : Method} {c : Code} {D : va_G} {cA : FieldType → ClassId} {ad adV : Nat → Nat} {z0 : Nat} {al0 : List Nat} {mm : aM} (K : aK p s m args meth c mX12_offBy D cA ad adV z0) (x4 : Int)  (s0 : Int) : aG p l e { frames := 2, cells := 0, slots := 0, locals := 47 } s m args below meth c D cA ad z0 mX12_offBy al0 (rI mm) (R_offBy_11 mm x4 s0) 11 [(4, .inl x4)] [.inl s0] mm := by
  unfold R_offBy_11
  refine gl (i' := 12) (fun _ _ => aw_istore K (dOf ck_mX12_offBy rfl rfl) (Nat.le_of_ble_eq_true rfl)) ?_
  refine g_lv (lv' := [(5, .inl _), (4, .inl _)]) rfl ?_
  refine gl (i' := 13) (fun _ _ => aw_iload K (dOf ck_mX12_offBy rfl rfl) rfl) ?_
  refine g_if_ne K (dOf ck_mX12_offBy rfl rfl) (t := 18) (aJ_of (by decide +kernel)) (fun h3 => ?_) (fun h3 => ?_)
  · refine gl (i' := 15) (fun _ _ => aw_iload K (dOf ck_mX12_offBy rfl rfl) rfl) ?_
    refine g_if_le K (dOf ck_mX12_offBy rfl rfl) (t := 18) (aJ_of (by decide +kernel)) (fun h4 => ?_) (fun h4 => ?_)
    · refine gl (i' := 17) (fun _ _ => aw_sip K (dOf ck_mX12_offBy rfl rfl) (v := 1000) rfl) ?_
      refine g_goto K (dOf ck_mX12_offBy rfl rfl).1 (t := 19) (aJ_of (by decide +kernel)) ?_
      exact g_iret K (by decide +kernel) rfl (Or.inl rfl) rfl
    · refine gl (i' := 19) (fun _ _ => aw_iload K (dOf ck_mX12_offBy rfl rfl) rfl) ?_
      exact g_iret K (by decide +kernel) rfl (Or.inl rfl) rfl
  · refine gl (i' := 19) (fun _ _ => aw_iload K (dOf ck_mX12_offBy rfl rfl) rfl) ?_
    exact g_iret K (by decide +kernel) rfl (Or.inl rfl) rfl
def R_offBy (x1 : Int) (x2 : Int) (x3 : Int) (x4 : Int) (mm : aM) : Option Int := (R_mayBe x1 x2 mm).bind fun r1 => (if r1 = 0 then (R_offBy_11 mm x4 1000) else ((R_mistakesAt x2 x3 mm).bind fun r5 => (R_offBy_11 mm x4 r5)))
set_option maxHeartbeats 4000000 in
theorem met_R_offBy {l : Launch} {D : va_G} {cA : FieldType → ClassId} {ad adV : Nat → Nat} {z0 : Nat} {x1 : Int} {x2 : Int} {x3 : Int} {x4 : Int} {mm : aM}  {r : Int} (h : R_offBy x1 x2 x3 x4 mm = some r) : aMet l D cA ad adV z0 mX12_offBy 2 47 0 0 [.inr (.inr (.inl (some 176))), .inl x1, .inl x2, .inl x3, .inl x4] SH mm ((rI mm) r).1 SH ((rI mm) r).2 := by
  refine aMet_ofG (by decide +kernel) rfl (Nat.le_of_ble_eq_true rfl) h (fun p e s m args below meth c al0 K => ?_)
  unfold R_offBy
  refine gl (i' := 1) (fun _ _ => aw_aload_n K (dOf ck_mX12_offBy rfl rfl) rfl) ?_
  refine gl (i' := 2) (fun _ _ => aw_iload_n K (dOf ck_mX12_offBy rfl rfl) rfl) ?_
  refine gl (i' := 3) (fun _ _ => aw_iload_n K (dOf ck_mX12_offBy rfl rfl) rfl) ?_
  refine g_callVI K [.inl _, .inl _] rfl (dOf ck_mX12_offBy rfl rfl) al_OneBreathModel_271 rfl rfl ⟨wd_1436, wd_95⟩ rfl (Nat.le_of_ble_eq_true rfl) ⟨Nat.le_of_ble_eq_true rfl, Nat.le_of_ble_eq_true rfl⟩ (fun b hb => met_R_mayBe  hb) (fun r1 hr1 => ?_)
  refine g_if_eq K (dOf ck_mX12_offBy rfl rfl) (t := 10) (aJ_of (by decide +kernel)) (fun h2 => ?_) (fun h2 => ?_)
  · refine gl (i' := 11) (fun _ _ => aw_sip K (dOf ck_mX12_offBy rfl rfl) (v := 1000) rfl) ?_
    refine g_sub [4] rfl ?_
    exact lk_R_offBy_11 K _ _
  · refine gl (i' := 6) (fun _ _ => aw_aload_n K (dOf ck_mX12_offBy rfl rfl) rfl) ?_
    refine gl (i' := 7) (fun _ _ => aw_iload_n K (dOf ck_mX12_offBy rfl rfl) rfl) ?_
    refine gl (i' := 8) (fun _ _ => aw_iload_n K (dOf ck_mX12_offBy rfl rfl) rfl) ?_
    refine g_callVI K [.inl _, .inl _] rfl (dOf ck_mX12_offBy rfl rfl) al_OneBreathModel_274 rfl rfl ⟨wd_1439, wd_96⟩ rfl (Nat.le_of_ble_eq_true rfl) ⟨Nat.le_of_ble_eq_true rfl, Nat.le_of_ble_eq_true rfl⟩ (fun b hb => met_R_mistakesAt  hb) (fun r5 hr5 => ?_)
    refine g_goto K (dOf ck_mX12_offBy rfl rfl).1 (t := 11) (aJ_of (by decide +kernel)) ?_
    refine g_sub [4] rfl ?_
    exact lk_R_offBy_11 K _ _
def R_laysBest_141 (k3 : Int → aM → Option aM) (k7 : Int → aM → Option aM) (x1 : Int) (x2 : Int) (x3 : Int) (mm : aM) : Option aM := k7 (w32 (x3 + 1)) mm
set_option maxHeartbeats 4000000 in
theorem lk_R_laysBest_141 {p : Program} {l : Launch} {e : Env} {s : State} {m : MethodId} {args : Array Value} {below : List Frame} {meth : Method} {c : Code} {D : va_G} {cA : FieldType → ClassId} {ad adV : Nat → Nat} {z0 : Nat} {al0 : List Nat} (K : aK p s m args meth c mX12_laysBest D cA ad adV z0) (x1 : Int) (x2 : Int) (x3 : Int) (k3 : Int → aM → Option aM) (hk3 : ∀ (x2 : Int) (mm : aM), aG p l e { frames := 3, cells := 0, slots := 0, locals := 72 } s m args below meth c D cA ad z0 mX12_laysBest al0 rM (k3 x2 mm) 3 [(0, .inr (.inr (.inl (some 176)))), (1, .inl x1), (2, .inl x2)] [] mm) (k7 : Int → aM → Option aM) (hk7 : ∀ (x3 : Int) (mm : aM), aG p l e { frames := 3, cells := 0, slots := 0, locals := 72 } s m args below meth c D cA ad z0 mX12_laysBest al0 rM (k7 x3 mm) 7 [(0, .inr (.inr (.inl (some 176)))), (1, .inl x1), (2, .inl x2), (3, .inl x3)] [] mm)  (mm : aM) : aG p l e { frames := 3, cells := 0, slots := 0, locals := 72 } s m args below meth c D cA ad z0 mX12_laysBest al0 rM (R_laysBest_141 k3 k7 x1 x2 x3 mm) 141 [(0, .inr (.inr (.inl (some 176)))), (1, .inl x1), (2, .inl x2), (3, .inl x3)] [] mm := by
  unfold R_laysBest_141
  refine gl (i' := 142) (fun _ _ => aw_iinc K (dOf ck_mX12_laysBest rfl rfl) (Nat.le_of_ble_eq_true rfl) rfl) ?_
  refine g_lv (lv' := [(3, .inl _), (0, .inr (.inr (.inl (some _)))), (1, .inl _), (2, .inl _)]) rfl ?_
  refine g_goto K (dOf ck_mX12_laysBest rfl rfl).1 (t := 7) (aJ_of (by decide +kernel)) ?_
  refine g_sub [1, 2, 3, 0] rfl ?_
  exact hk7 _ _
def R_laysBest_139 (k3 : Int → aM → Option aM) (k7 : Int → aM → Option aM) (k51 : Int → aM → Option aM) (x1 : Int) (x2 : Int) (x3 : Int) (x4 : Int) (x5 : Int) (mm : aM) : Option aM := k51 (w32 (x5 + 1)) mm
set_option maxHeartbeats 4000000 in
theorem lk_R_laysBest_139 {p : Program} {l : Launch} {e : Env} {s : State} {m : MethodId} {args : Array Value} {below : List Frame} {meth : Method} {c : Code} {D : va_G} {cA : FieldType → ClassId} {ad adV : Nat → Nat} {z0 : Nat} {al0 : List Nat} (K : aK p s m args meth c mX12_laysBest D cA ad adV z0) (x1 : Int) (x2 : Int) (x3 : Int) (x4 : Int) (x5 : Int) (k3 : Int → aM → Option aM) (hk3 : ∀ (x2 : Int) (mm : aM), aG p l e { frames := 3, cells := 0, slots := 0, locals := 72 } s m args below meth c D cA ad z0 mX12_laysBest al0 rM (k3 x2 mm) 3 [(0, .inr (.inr (.inl (some 176)))), (1, .inl x1), (2, .inl x2)] [] mm) (k7 : Int → aM → Option aM) (hk7 : ∀ (x3 : Int) (mm : aM), aG p l e { frames := 3, cells := 0, slots := 0, locals := 72 } s m args below meth c D cA ad z0 mX12_laysBest al0 rM (k7 x3 mm) 7 [(0, .inr (.inr (.inl (some 176)))), (1, .inl x1), (2, .inl x2), (3, .inl x3)] [] mm) (k51 : Int → aM → Option aM) (hk51 : ∀ (x5 : Int) (mm : aM), aG p l e { frames := 3, cells := 0, slots := 0, locals := 72 } s m args below meth c D cA ad z0 mX12_laysBest al0 rM (k51 x5 mm) 51 [(0, .inr (.inr (.inl (some 176)))), (1, .inl x1), (2, .inl x2), (3, .inl x3), (4, .inl x4), (5, .inl x5)] [] mm)  (mm : aM) : aG p l e { frames := 3, cells := 0, slots := 0, locals := 72 } s m args below meth c D cA ad z0 mX12_laysBest al0 rM (R_laysBest_139 k3 k7 k51 x1 x2 x3 x4 x5 mm) 139 [(0, .inr (.inr (.inl (some 176)))), (1, .inl x1), (2, .inl x2), (3, .inl x3), (4, .inl x4), (5, .inl x5)] [] mm := by
  unfold R_laysBest_139
  refine gl (i' := 140) (fun _ _ => aw_iinc K (dOf ck_mX12_laysBest rfl rfl) (Nat.le_of_ble_eq_true rfl) rfl) ?_
  refine g_lv (lv' := [(5, .inl _), (0, .inr (.inr (.inl (some _)))), (1, .inl _), (2, .inl _), (3, .inl _), (4, .inl _)]) rfl ?_
  refine g_goto K (dOf ck_mX12_laysBest rfl rfl).1 (t := 51) (aJ_of (by decide +kernel)) ?_
  refine g_sub [1, 2, 3, 4, 5, 0] rfl ?_
  exact hk51 _ _
def R_laysBest_129 (k3 : Int → aM → Option aM) (k7 : Int → aM → Option aM) (k51 : Int → aM → Option aM) (x1 : Int) (x2 : Int) (x3 : Int) (x4 : Int) (x5 : Int) (x8 : Int) (x9 : Int) (mm : aM) : Option aM := if 0 ≤ x4 ∧ x4 < 574 then (st1 (aup mm 184 x4.toNat x8) fun mm21 => (st1 (aup mm21 185 x4.toNat x9) fun mm22 => (R_laysBest_139 k3 k7 k51 x1 x2 x3 x4 x5 mm22))) else none
set_option maxHeartbeats 4000000 in
theorem lk_R_laysBest_129 {p : Program} {l : Launch} {e : Env} {s : State} {m : MethodId} {args : Array Value} {below : List Frame} {meth : Method} {c : Code} {D : va_G} {cA : FieldType → ClassId} {ad adV : Nat → Nat} {z0 : Nat} {al0 : List Nat} (K : aK p s m args meth c mX12_laysBest D cA ad adV z0) (x1 : Int) (x2 : Int) (x3 : Int) (x4 : Int) (x5 : Int) (x8 : Int) (x9 : Int) (k3 : Int → aM → Option aM) (hk3 : ∀ (x2 : Int) (mm : aM), aG p l e { frames := 3, cells := 0, slots := 0, locals := 72 } s m args below meth c D cA ad z0 mX12_laysBest al0 rM (k3 x2 mm) 3 [(0, .inr (.inr (.inl (some 176)))), (1, .inl x1), (2, .inl x2)] [] mm) (k7 : Int → aM → Option aM) (hk7 : ∀ (x3 : Int) (mm : aM), aG p l e { frames := 3, cells := 0, slots := 0, locals := 72 } s m args below meth c D cA ad z0 mX12_laysBest al0 rM (k7 x3 mm) 7 [(0, .inr (.inr (.inl (some 176)))), (1, .inl x1), (2, .inl x2), (3, .inl x3)] [] mm) (k51 : Int → aM → Option aM) (hk51 : ∀ (x5 : Int) (mm : aM), aG p l e { frames := 3, cells := 0, slots := 0, locals := 72 } s m args below meth c D cA ad z0 mX12_laysBest al0 rM (k51 x5 mm) 51 [(0, .inr (.inr (.inl (some 176)))), (1, .inl x1), (2, .inl x2), (3, .inl x3), (4, .inl x4), (5, .inl x5)] [] mm)  (mm : aM) : aG p l e { frames := 3, cells := 0, slots := 0, locals := 72 } s m args below meth c D cA ad z0 mX12_laysBest al0 rM (R_laysBest_129 k3 k7 k51 x1 x2 x3 x4 x5 x8 x9 mm) 129 [(0, .inr (.inr (.inl (some 176)))), (1, .inl x1), (2, .inl x2), (3, .inl x3), (4, .inl x4), (5, .inl x5), (8, .inl x8), (9, .inl x9)] [] mm := by
  unfold R_laysBest_129
  refine gl (i' := 130) (fun _ _ => aw_aload_n K (dOf ck_mX12_laysBest rfl rfl) rfl) ?_
  refine gl (i' := 131) (fun _ _ => aw_getf K (dOf ck_mX12_laysBest rfl rfl) rfl rfl (Nat.le_of_ble_eq_true rfl) wd_1224 (k := 19) rfl) ?_
  refine gl (i' := 132) (fun _ _ => aw_iload K (dOf ck_mX12_laysBest rfl rfl) rfl) ?_
  refine gl (i' := 133) (fun _ _ => aw_iload K (dOf ck_mX12_laysBest rfl rfl) rfl) ?_
  refine g_gd (fun hb20 => ?_)
  refine g_st1 ?_
  refine gl (i' := 134) (fun _ _ => aw_iast K (dOf ck_mX12_laysBest rfl rfl) rfl hb20) ?_
  refine gl (i' := 135) (fun _ _ => aw_aload_n K (dOf ck_mX12_laysBest rfl rfl) rfl) ?_
  refine gl (i' := 136) (fun _ _ => aw_getf K (dOf ck_mX12_laysBest rfl rfl) rfl rfl (Nat.le_of_ble_eq_true rfl) wd_1225 (k := 20) rfl) ?_
  refine gl (i' := 137) (fun _ _ => aw_iload K (dOf ck_mX12_laysBest rfl rfl) rfl) ?_
  refine gl (i' := 138) (fun _ _ => aw_iload K (dOf ck_mX12_laysBest rfl rfl) rfl) ?_
  refine g_st1 ?_
  refine gl (i' := 139) (fun _ _ => aw_iast K (dOf ck_mX12_laysBest rfl rfl) rfl hb20) ?_
  refine g_sub [0, 1, 2, 3, 4, 5] rfl ?_
  exact lk_R_laysBest_139 K _ _ _ _ _ _ hk3 _ hk7 _ hk51 _
def R_laysBest_51 (k3 : Int → aM → Option aM) (k7 : Int → aM → Option aM) (x1 : Int) (x2 : Int) (x3 : Int) (x4 : Int) : Nat → Int → aM → Option aM
  | 0, _, _ => none
  | n + 1, x5, mm => if x5 < (mm 177 18) then (if x2 < (mm 176 17) then ((R_offBy x3 x5 x2 x1 mm).bind fun r11 => (if 0 ≤ (w32 (19 + x5)) ∧ (w32 (19 + x5)) < 588 then (if r11 < 1000 then (if 0 ≤ (w32 ((w32 ((w32 (x2 + (mm 177 (w32 (19 + x5)).toNat))) * 14)) + x5)) ∧ (w32 ((w32 ((w32 (x2 + (mm 177 (w32 (19 + x5)).toNat))) * 14)) + x5)) < 574 then (if (mm 184 (w32 ((w32 ((w32 (x2 + (mm 177 (w32 (19 + x5)).toNat))) * 14)) + x5)).toNat) < 1000 then (if 0 ≤ (w32 (32 + x5)) ∧ (w32 (32 + x5)) < 588 then (if 0 ≤ x4 ∧ x4 < 574 then (if (mm 184 x4.toNat) < (w32 (r11 + (mm 184 (w32 ((w32 ((w32 (x2 + (mm 177 (w32 (19 + x5)).toNat))) * 14)) + x5)).toNat))) then (R_laysBest_139 k3 k7 (R_laysBest_51 k3 k7 x1 x2 x3 x4 n) x1 x2 x3 x4 x5 mm) else (if (w32 (r11 + (mm 184 (w32 ((w32 ((w32 (x2 + (mm 177 (w32 (19 + x5)).toNat))) * 14)) + x5)).toNat))) = (mm 184 x4.toNat) then (if (mm 185 x4.toNat) < (w32 ((mm 177 (w32 (32 + x5)).toNat) + (mm 185 (w32 ((w32 ((w32 (x2 + (mm 177 (w32 (19 + x5)).toNat))) * 14)) + x5)).toNat))) then (R_laysBest_129 k3 k7 (R_laysBest_51 k3 k7 x1 x2 x3 x4 n) x1 x2 x3 x4 x5 (w32 (r11 + (mm 184 (w32 ((w32 ((w32 (x2 + (mm 177 (w32 (19 + x5)).toNat))) * 14)) + x5)).toNat))) (w32 ((mm 177 (w32 (32 + x5)).toNat) + (mm 185 (w32 ((w32 ((w32 (x2 + (mm 177 (w32 (19 + x5)).toNat))) * 14)) + x5)).toNat))) mm) else (R_laysBest_139 k3 k7 (R_laysBest_51 k3 k7 x1 x2 x3 x4 n) x1 x2 x3 x4 x5 mm)) else (R_laysBest_129 k3 k7 (R_laysBest_51 k3 k7 x1 x2 x3 x4 n) x1 x2 x3 x4 x5 (w32 (r11 + (mm 184 (w32 ((w32 ((w32 (x2 + (mm 177 (w32 (19 + x5)).toNat))) * 14)) + x5)).toNat))) (w32 ((mm 177 (w32 (32 + x5)).toNat) + (mm 185 (w32 ((w32 ((w32 (x2 + (mm 177 (w32 (19 + x5)).toNat))) * 14)) + x5)).toNat))) mm))) else none) else none) else (R_laysBest_139 k3 k7 (R_laysBest_51 k3 k7 x1 x2 x3 x4 n) x1 x2 x3 x4 x5 mm)) else none) else (R_laysBest_139 k3 k7 (R_laysBest_51 k3 k7 x1 x2 x3 x4 n) x1 x2 x3 x4 x5 mm)) else none)) else (R_laysBest_141 k3 k7 x1 x2 x3 mm)) else (R_laysBest_141 k3 k7 x1 x2 x3 mm)
set_option maxHeartbeats 4000000 in
theorem lk_R_laysBest_51 {p : Program} {l : Launch} {e : Env} {s : State} {m : MethodId} {args : Array Value} {below : List Frame} {meth : Method} {c : Code} {D : va_G} {cA : FieldType → ClassId} {ad adV : Nat → Nat} {z0 : Nat} {al0 : List Nat} (K : aK p s m args meth c mX12_laysBest D cA ad adV z0) (x1 : Int) (x2 : Int) (x3 : Int) (x4 : Int) (k3 : Int → aM → Option aM) (hk3 : ∀ (x2 : Int) (mm : aM), aG p l e { frames := 3, cells := 0, slots := 0, locals := 72 } s m args below meth c D cA ad z0 mX12_laysBest al0 rM (k3 x2 mm) 3 [(0, .inr (.inr (.inl (some 176)))), (1, .inl x1), (2, .inl x2)] [] mm) (k7 : Int → aM → Option aM) (hk7 : ∀ (x3 : Int) (mm : aM), aG p l e { frames := 3, cells := 0, slots := 0, locals := 72 } s m args below meth c D cA ad z0 mX12_laysBest al0 rM (k7 x3 mm) 7 [(0, .inr (.inr (.inl (some 176)))), (1, .inl x1), (2, .inl x2), (3, .inl x3)] [] mm)  : ∀ (n : Nat) (x5 : Int) (mm : aM), aG p l e { frames := 3, cells := 0, slots := 0, locals := 72 } s m args below meth c D cA ad z0 mX12_laysBest al0 rM (R_laysBest_51 k3 k7 x1 x2 x3 x4 n x5 mm) 51 [(0, .inr (.inr (.inl (some 176)))), (1, .inl x1), (2, .inl x2), (3, .inl x3), (4, .inl x4), (5, .inl x5)] [] mm := by
  intro n
  induction n with
  | zero => intro x5 mm; exact g_none
  | succ n ih =>
    intro x5 mm
    rw [R_laysBest_51]
    refine gl (i' := 52) (fun _ _ => aw_iload K (dOf ck_mX12_laysBest rfl rfl) rfl) ?_
    refine gl (i' := 53) (fun _ _ => aw_aload_n K (dOf ck_mX12_laysBest rfl rfl) rfl) ?_
    refine gl (i' := 54) (fun _ _ => aw_getf K (dOf ck_mX12_laysBest rfl rfl) rfl rfl (Nat.le_of_ble_eq_true rfl) wd_1206 (k := 1) rfl) ?_
    refine gl (i' := 55) (fun _ _ => aw_bip K (dOf ck_mX12_laysBest rfl rfl) (v := 18) rfl) ?_
    refine gl (i' := 56) (fun _ _ => aw_iald K (dOf ck_mX12_laysBest rfl rfl) rfl (by decide)) ?_
    refine g_icmp_ge K (dOf ck_mX12_laysBest rfl rfl) (t := 141) (aJ_of (by decide +kernel)) (fun h9 => ?_) (fun h9 => ?_)
    · refine gl (i' := 58) (fun _ _ => aw_iload_n K (dOf ck_mX12_laysBest rfl rfl) rfl) ?_
      refine gl (i' := 59) (fun _ _ => aw_aload_n K (dOf ck_mX12_laysBest rfl rfl) rfl) ?_
      refine gl (i' := 60) (fun _ _ => aw_getf K (dOf ck_mX12_laysBest rfl rfl) rfl rfl (Nat.le_of_ble_eq_true rfl) wd_1222 (k := 17) rfl) ?_
      refine g_icmp_ge K (dOf ck_mX12_laysBest rfl rfl) (t := 141) (aJ_of (by decide +kernel)) (fun h10 => ?_) (fun h10 => ?_)
      · refine gl (i' := 62) (fun _ _ => aw_aload_n K (dOf ck_mX12_laysBest rfl rfl) rfl) ?_
        refine gl (i' := 63) (fun _ _ => aw_iload_n K (dOf ck_mX12_laysBest rfl rfl) rfl) ?_
        refine gl (i' := 64) (fun _ _ => aw_iload K (dOf ck_mX12_laysBest rfl rfl) rfl) ?_
        refine gl (i' := 65) (fun _ _ => aw_iload_n K (dOf ck_mX12_laysBest rfl rfl) rfl) ?_
        refine gl (i' := 66) (fun _ _ => aw_iload_n K (dOf ck_mX12_laysBest rfl rfl) rfl) ?_
        refine g_callVI K [.inl _, .inl _, .inl _, .inl _] rfl (dOf ck_mX12_laysBest rfl rfl) al_OneBreathModel_285 rfl rfl ⟨wd_1462, wd_102⟩ rfl (Nat.le_of_ble_eq_true rfl) ⟨Nat.le_of_ble_eq_true rfl, Nat.le_of_ble_eq_true rfl⟩ (fun b hb => met_R_offBy  hb) (fun r11 hr11 => ?_)
        refine gl (i' := 68) (fun _ _ => aw_istore K (dOf ck_mX12_laysBest rfl rfl) (Nat.le_of_ble_eq_true rfl)) ?_
        refine g_lv (lv' := [(6, .inl _), (0, .inr (.inr (.inl (some _)))), (1, .inl _), (2, .inl _), (3, .inl _), (4, .inl _), (5, .inl _)]) rfl ?_
        refine gl (i' := 69) (fun _ _ => aw_iload_n K (dOf ck_mX12_laysBest rfl rfl) rfl) ?_
        refine gl (i' := 70) (fun _ _ => aw_aload_n K (dOf ck_mX12_laysBest rfl rfl) rfl) ?_
        refine gl (i' := 71) (fun _ _ => aw_getf K (dOf ck_mX12_laysBest rfl rfl) rfl rfl (Nat.le_of_ble_eq_true rfl) wd_1206 (k := 1) rfl) ?_
        refine gl (i' := 72) (fun _ _ => aw_bip K (dOf ck_mX12_laysBest rfl rfl) (v := 19) rfl) ?_
        refine gl (i' := 73) (fun _ _ => aw_iload K (dOf ck_mX12_laysBest rfl rfl) rfl) ?_
        refine gl (i' := 74) (fun _ _ => aw_iadd K (dOf ck_mX12_laysBest rfl rfl)) ?_
        refine g_gd (fun hb12 => ?_)
        refine gl (i' := 75) (fun _ _ => aw_iald K (dOf ck_mX12_laysBest rfl rfl) rfl hb12) ?_
        refine gl (i' := 76) (fun _ _ => aw_iadd K (dOf ck_mX12_laysBest rfl rfl)) ?_
        refine gl (i' := 77) (fun _ _ => aw_bip K (dOf ck_mX12_laysBest rfl rfl) (v := 14) rfl) ?_
        refine gl (i' := 78) (fun _ _ => aw_imul K (dOf ck_mX12_laysBest rfl rfl)) ?_
        refine gl (i' := 79) (fun _ _ => aw_iload K (dOf ck_mX12_laysBest rfl rfl) rfl) ?_
        refine gl (i' := 80) (fun _ _ => aw_iadd K (dOf ck_mX12_laysBest rfl rfl)) ?_
        refine gl (i' := 81) (fun _ _ => aw_istore K (dOf ck_mX12_laysBest rfl rfl) (Nat.le_of_ble_eq_true rfl)) ?_
        refine g_lv (lv' := [(7, .inl _), (6, .inl _), (0, .inr (.inr (.inl (some _)))), (1, .inl _), (2, .inl _), (3, .inl _), (4, .inl _), (5, .inl _)]) rfl ?_
        refine gl (i' := 82) (fun _ _ => aw_iload K (dOf ck_mX12_laysBest rfl rfl) rfl) ?_
        refine gl (i' := 83) (fun _ _ => aw_sip K (dOf ck_mX12_laysBest rfl rfl) (v := 1000) rfl) ?_
        refine g_icmp_ge K (dOf ck_mX12_laysBest rfl rfl) (t := 139) (aJ_of (by decide +kernel)) (fun h13 => ?_) (fun h13 => ?_)
        · refine gl (i' := 85) (fun _ _ => aw_aload_n K (dOf ck_mX12_laysBest rfl rfl) rfl) ?_
          refine gl (i' := 86) (fun _ _ => aw_getf K (dOf ck_mX12_laysBest rfl rfl) rfl rfl (Nat.le_of_ble_eq_true rfl) wd_1224 (k := 19) rfl) ?_
          refine gl (i' := 87) (fun _ _ => aw_iload K (dOf ck_mX12_laysBest rfl rfl) rfl) ?_
          refine g_gd (fun hb14 => ?_)
          refine gl (i' := 88) (fun _ _ => aw_iald K (dOf ck_mX12_laysBest rfl rfl) rfl hb14) ?_
          refine gl (i' := 89) (fun _ _ => aw_sip K (dOf ck_mX12_laysBest rfl rfl) (v := 1000) rfl) ?_
          refine g_icmp_lt K (dOf ck_mX12_laysBest rfl rfl) (t := 91) (aJ_of (by decide +kernel)) (fun h15 => ?_) (fun h15 => ?_)
          · refine gl (i' := 92) (fun _ _ => aw_iload K (dOf ck_mX12_laysBest rfl rfl) rfl) ?_
            refine gl (i' := 93) (fun _ _ => aw_aload_n K (dOf ck_mX12_laysBest rfl rfl) rfl) ?_
            refine gl (i' := 94) (fun _ _ => aw_getf K (dOf ck_mX12_laysBest rfl rfl) rfl rfl (Nat.le_of_ble_eq_true rfl) wd_1224 (k := 19) rfl) ?_
            refine gl (i' := 95) (fun _ _ => aw_iload K (dOf ck_mX12_laysBest rfl rfl) rfl) ?_
            refine gl (i' := 96) (fun _ _ => aw_iald K (dOf ck_mX12_laysBest rfl rfl) rfl hb14) ?_
            refine gl (i' := 97) (fun _ _ => aw_iadd K (dOf ck_mX12_laysBest rfl rfl)) ?_
            refine gl (i' := 98) (fun _ _ => aw_istore K (dOf ck_mX12_laysBest rfl rfl) (Nat.le_of_ble_eq_true rfl)) ?_
            refine g_lv (lv' := [(8, .inl _), (7, .inl _), (6, .inl _), (0, .inr (.inr (.inl (some _)))), (1, .inl _), (2, .inl _), (3, .inl _), (4, .inl _), (5, .inl _)]) rfl ?_
            refine gl (i' := 99) (fun _ _ => aw_aload_n K (dOf ck_mX12_laysBest rfl rfl) rfl) ?_
            refine gl (i' := 100) (fun _ _ => aw_getf K (dOf ck_mX12_laysBest rfl rfl) rfl rfl (Nat.le_of_ble_eq_true rfl) wd_1206 (k := 1) rfl) ?_
            refine gl (i' := 101) (fun _ _ => aw_bip K (dOf ck_mX12_laysBest rfl rfl) (v := 32) rfl) ?_
            refine gl (i' := 102) (fun _ _ => aw_iload K (dOf ck_mX12_laysBest rfl rfl) rfl) ?_
            refine gl (i' := 103) (fun _ _ => aw_iadd K (dOf ck_mX12_laysBest rfl rfl)) ?_
            refine g_gd (fun hb16 => ?_)
            refine gl (i' := 104) (fun _ _ => aw_iald K (dOf ck_mX12_laysBest rfl rfl) rfl hb16) ?_
            refine gl (i' := 105) (fun _ _ => aw_aload_n K (dOf ck_mX12_laysBest rfl rfl) rfl) ?_
            refine gl (i' := 106) (fun _ _ => aw_getf K (dOf ck_mX12_laysBest rfl rfl) rfl rfl (Nat.le_of_ble_eq_true rfl) wd_1225 (k := 20) rfl) ?_
            refine gl (i' := 107) (fun _ _ => aw_iload K (dOf ck_mX12_laysBest rfl rfl) rfl) ?_
            refine gl (i' := 108) (fun _ _ => aw_iald K (dOf ck_mX12_laysBest rfl rfl) rfl hb14) ?_
            refine gl (i' := 109) (fun _ _ => aw_iadd K (dOf ck_mX12_laysBest rfl rfl)) ?_
            refine gl (i' := 110) (fun _ _ => aw_istore K (dOf ck_mX12_laysBest rfl rfl) (Nat.le_of_ble_eq_true rfl)) ?_
            refine g_lv (lv' := [(9, .inl _), (8, .inl _), (7, .inl _), (6, .inl _), (0, .inr (.inr (.inl (some _)))), (1, .inl _), (2, .inl _), (3, .inl _), (4, .inl _), (5, .inl _)]) rfl ?_
            refine gl (i' := 111) (fun _ _ => aw_iload K (dOf ck_mX12_laysBest rfl rfl) rfl) ?_
            refine gl (i' := 112) (fun _ _ => aw_aload_n K (dOf ck_mX12_laysBest rfl rfl) rfl) ?_
            refine gl (i' := 113) (fun _ _ => aw_getf K (dOf ck_mX12_laysBest rfl rfl) rfl rfl (Nat.le_of_ble_eq_true rfl) wd_1224 (k := 19) rfl) ?_
            refine gl (i' := 114) (fun _ _ => aw_iload K (dOf ck_mX12_laysBest rfl rfl) rfl) ?_
            refine g_gd (fun hb17 => ?_)
            refine gl (i' := 115) (fun _ _ => aw_iald K (dOf ck_mX12_laysBest rfl rfl) rfl hb17) ?_
            refine g_icmp_gt K (dOf ck_mX12_laysBest rfl rfl) (t := 139) (aJ_of (by decide +kernel)) (fun h18 => ?_) (fun h18 => ?_)
            · refine g_sub [4, 5, 6, 7, 8, 9] rfl ?_
              exact lk_R_laysBest_139 K _ _ _ _ _ _ hk3 _ hk7 _ ih _
            · refine gl (i' := 117) (fun _ _ => aw_iload K (dOf ck_mX12_laysBest rfl rfl) rfl) ?_
              refine gl (i' := 118) (fun _ _ => aw_aload_n K (dOf ck_mX12_laysBest rfl rfl) rfl) ?_
              refine gl (i' := 119) (fun _ _ => aw_getf K (dOf ck_mX12_laysBest rfl rfl) rfl rfl (Nat.le_of_ble_eq_true rfl) wd_1224 (k := 19) rfl) ?_
              refine gl (i' := 120) (fun _ _ => aw_iload K (dOf ck_mX12_laysBest rfl rfl) rfl) ?_
              refine gl (i' := 121) (fun _ _ => aw_iald K (dOf ck_mX12_laysBest rfl rfl) rfl hb17) ?_
              refine g_icmp_ne K (dOf ck_mX12_laysBest rfl rfl) (t := 129) (aJ_of (by decide +kernel)) (fun h19 => ?_) (fun h19 => ?_)
              · refine gl (i' := 123) (fun _ _ => aw_iload K (dOf ck_mX12_laysBest rfl rfl) rfl) ?_
                refine gl (i' := 124) (fun _ _ => aw_aload_n K (dOf ck_mX12_laysBest rfl rfl) rfl) ?_
                refine gl (i' := 125) (fun _ _ => aw_getf K (dOf ck_mX12_laysBest rfl rfl) rfl rfl (Nat.le_of_ble_eq_true rfl) wd_1225 (k := 20) rfl) ?_
                refine gl (i' := 126) (fun _ _ => aw_iload K (dOf ck_mX12_laysBest rfl rfl) rfl) ?_
                refine gl (i' := 127) (fun _ _ => aw_iald K (dOf ck_mX12_laysBest rfl rfl) rfl hb17) ?_
                refine g_icmp_gt K (dOf ck_mX12_laysBest rfl rfl) (t := 129) (aJ_of (by decide +kernel)) (fun h23 => ?_) (fun h23 => ?_)
                · refine g_sub [4, 5, 6, 7, 8, 9, 1, 0] rfl ?_
                  exact lk_R_laysBest_129 K _ _ _ _ _ _ _ _ hk3 _ hk7 _ ih _
                · refine g_goto K (dOf ck_mX12_laysBest rfl rfl).1 (t := 139) (aJ_of (by decide +kernel)) ?_
                  refine g_sub [4, 5, 6, 7, 8, 9] rfl ?_
                  exact lk_R_laysBest_139 K _ _ _ _ _ _ hk3 _ hk7 _ ih _
              · refine g_sub [4, 5, 6, 7, 8, 9, 1, 0] rfl ?_
                exact lk_R_laysBest_129 K _ _ _ _ _ _ _ _ hk3 _ hk7 _ ih _
          · refine g_goto K (dOf ck_mX12_laysBest rfl rfl).1 (t := 139) (aJ_of (by decide +kernel)) ?_
            refine g_sub [2, 3, 4, 5, 6, 7] rfl ?_
            exact lk_R_laysBest_139 K _ _ _ _ _ _ hk3 _ hk7 _ ih _
        · refine g_sub [2, 3, 4, 5, 6, 7] rfl ?_
          exact lk_R_laysBest_139 K _ _ _ _ _ _ hk3 _ hk7 _ ih _
      · refine g_sub [0, 1, 2, 3] rfl ?_
        exact lk_R_laysBest_141 K _ _ _ _ hk3 _ hk7 _
    · refine g_sub [0, 1, 2, 3] rfl ?_
      exact lk_R_laysBest_141 K _ _ _ _ hk3 _ hk7 _
def R_laysBest_43 (k3 : Int → aM → Option aM) (k7 : Int → aM → Option aM) (x1 : Int) (x2 : Int) (x3 : Int) (x4 : Int) (s0 : Int) (s1 : Int) (mm : aM) : Option aM := if 0 ≤ s1 ∧ s1 < 574 then (st1 (aup mm 184 s1.toNat s0) fun mm6 => (if 0 ≤ x4 ∧ x4 < 574 then (st1 (aup mm6 185 x4.toNat 0) fun mm8 => (R_laysBest_51 k3 k7 x1 x2 x3 x4 FU 0 mm8)) else none)) else none
set_option maxHeartbeats 4000000 in
theorem lk_R_laysBest_43 {p : Program} {l : Launch} {e : Env} {s : State} {m : MethodId} {args : Array Value} {below : List Frame} {meth : Method} {c : Code} {D : va_G} {cA : FieldType → ClassId} {ad adV : Nat → Nat} {z0 : Nat} {al0 : List Nat} (K : aK p s m args meth c mX12_laysBest D cA ad adV z0) (x1 : Int) (x2 : Int) (x3 : Int) (x4 : Int) (k3 : Int → aM → Option aM) (hk3 : ∀ (x2 : Int) (mm : aM), aG p l e { frames := 3, cells := 0, slots := 0, locals := 72 } s m args below meth c D cA ad z0 mX12_laysBest al0 rM (k3 x2 mm) 3 [(0, .inr (.inr (.inl (some 176)))), (1, .inl x1), (2, .inl x2)] [] mm) (k7 : Int → aM → Option aM) (hk7 : ∀ (x3 : Int) (mm : aM), aG p l e { frames := 3, cells := 0, slots := 0, locals := 72 } s m args below meth c D cA ad z0 mX12_laysBest al0 rM (k7 x3 mm) 7 [(0, .inr (.inr (.inl (some 176)))), (1, .inl x1), (2, .inl x2), (3, .inl x3)] [] mm)  (s0 : Int) (s1 : Int) (mm : aM) : aG p l e { frames := 3, cells := 0, slots := 0, locals := 72 } s m args below meth c D cA ad z0 mX12_laysBest al0 rM (R_laysBest_43 k3 k7 x1 x2 x3 x4 s0 s1 mm) 43 [(0, .inr (.inr (.inl (some 176)))), (1, .inl x1), (2, .inl x2), (3, .inl x3), (4, .inl x4)] [.inl s0, .inl s1, .inr (.inr (.inl (some 184)))] mm := by
  unfold R_laysBest_43
  refine g_gd (fun hb5 => ?_)
  refine g_st1 ?_
  refine gl (i' := 44) (fun _ _ => aw_iast K (dOf ck_mX12_laysBest rfl rfl) rfl hb5) ?_
  refine gl (i' := 45) (fun _ _ => aw_aload_n K (dOf ck_mX12_laysBest rfl rfl) rfl) ?_
  refine gl (i' := 46) (fun _ _ => aw_getf K (dOf ck_mX12_laysBest rfl rfl) rfl rfl (Nat.le_of_ble_eq_true rfl) wd_1225 (k := 20) rfl) ?_
  refine gl (i' := 47) (fun _ _ => aw_iload K (dOf ck_mX12_laysBest rfl rfl) rfl) ?_
  refine gl (i' := 48) (fun _ _ => aw_iconst K (n := 0) (i32 _ rfl) (dOf ck_mX12_laysBest rfl rfl)) ?_
  refine g_gd (fun hb7 => ?_)
  refine g_st1 ?_
  refine gl (i' := 49) (fun _ _ => aw_iast K (dOf ck_mX12_laysBest rfl rfl) rfl hb7) ?_
  refine gl (i' := 50) (fun _ _ => aw_iconst K (n := 0) (i32 _ rfl) (dOf ck_mX12_laysBest rfl rfl)) ?_
  refine gl (i' := 51) (fun _ _ => aw_istore K (dOf ck_mX12_laysBest rfl rfl) (Nat.le_of_ble_eq_true rfl)) ?_
  refine g_lv (lv' := [(5, .inl _), (0, .inr (.inr (.inl (some _)))), (1, .inl _), (2, .inl _), (3, .inl _), (4, .inl _)]) rfl ?_
  refine g_sub [1, 2, 3, 4, 5, 0] rfl ?_
  exact lk_R_laysBest_51 K _ _ _ _ _ hk3 _ hk7 FU _ _
def R_laysBest_42 (k3 : Int → aM → Option aM) (k7 : Int → aM → Option aM) (x1 : Int) (x2 : Int) (x3 : Int) (x4 : Int) (s0 : Int) (mm : aM) : Option aM := R_laysBest_43 k3 k7 x1 x2 x3 x4 1000 s0 mm
set_option maxHeartbeats 4000000 in
theorem lk_R_laysBest_42 {p : Program} {l : Launch} {e : Env} {s : State} {m : MethodId} {args : Array Value} {below : List Frame} {meth : Method} {c : Code} {D : va_G} {cA : FieldType → ClassId} {ad adV : Nat → Nat} {z0 : Nat} {al0 : List Nat} (K : aK p s m args meth c mX12_laysBest D cA ad adV z0) (x1 : Int) (x2 : Int) (x3 : Int) (x4 : Int) (k3 : Int → aM → Option aM) (hk3 : ∀ (x2 : Int) (mm : aM), aG p l e { frames := 3, cells := 0, slots := 0, locals := 72 } s m args below meth c D cA ad z0 mX12_laysBest al0 rM (k3 x2 mm) 3 [(0, .inr (.inr (.inl (some 176)))), (1, .inl x1), (2, .inl x2)] [] mm) (k7 : Int → aM → Option aM) (hk7 : ∀ (x3 : Int) (mm : aM), aG p l e { frames := 3, cells := 0, slots := 0, locals := 72 } s m args below meth c D cA ad z0 mX12_laysBest al0 rM (k7 x3 mm) 7 [(0, .inr (.inr (.inl (some 176)))), (1, .inl x1), (2, .inl x2), (3, .inl x3)] [] mm)  (s0 : Int) (mm : aM) : aG p l e { frames := 3, cells := 0, slots := 0, locals := 72 } s m args below meth c D cA ad z0 mX12_laysBest al0 rM (R_laysBest_42 k3 k7 x1 x2 x3 x4 s0 mm) 42 [(0, .inr (.inr (.inl (some 176)))), (1, .inl x1), (2, .inl x2), (3, .inl x3), (4, .inl x4)] [.inl s0, .inr (.inr (.inl (some 184)))] mm := by
  unfold R_laysBest_42
  refine gl (i' := 43) (fun _ _ => aw_sip K (dOf ck_mX12_laysBest rfl rfl) (v := 1000) rfl) ?_
  refine g_sub [0, 1, 2, 3, 4] rfl ?_
  exact lk_R_laysBest_43 K _ _ _ _ _ hk3 _ hk7 _ _ _
def R_laysBest_20 (k3 : Int → aM → Option aM) (k7 : Int → aM → Option aM) (x1 : Int) (x2 : Int) (x3 : Int) (mm : aM) : Option aM := if x2 = (mm 176 17) then (if x3 < 13 then ((R_mayEnd x3 mm).bind fun r25 => (if r25 = 0 then (R_laysBest_42 k3 k7 x1 x2 x3 (w32 ((w32 (x2 * 14)) + x3)) (w32 ((w32 (x2 * 14)) + x3)) mm) else (R_laysBest_43 k3 k7 x1 x2 x3 (w32 ((w32 (x2 * 14)) + x3)) 0 (w32 ((w32 (x2 * 14)) + x3)) mm))) else (R_laysBest_42 k3 k7 x1 x2 x3 (w32 ((w32 (x2 * 14)) + x3)) (w32 ((w32 (x2 * 14)) + x3)) mm)) else (R_laysBest_42 k3 k7 x1 x2 x3 (w32 ((w32 (x2 * 14)) + x3)) (w32 ((w32 (x2 * 14)) + x3)) mm)
set_option maxHeartbeats 4000000 in
theorem lk_R_laysBest_20 {p : Program} {l : Launch} {e : Env} {s : State} {m : MethodId} {args : Array Value} {below : List Frame} {meth : Method} {c : Code} {D : va_G} {cA : FieldType → ClassId} {ad adV : Nat → Nat} {z0 : Nat} {al0 : List Nat} (K : aK p s m args meth c mX12_laysBest D cA ad adV z0) (x1 : Int) (x2 : Int) (x3 : Int) (k3 : Int → aM → Option aM) (hk3 : ∀ (x2 : Int) (mm : aM), aG p l e { frames := 3, cells := 0, slots := 0, locals := 72 } s m args below meth c D cA ad z0 mX12_laysBest al0 rM (k3 x2 mm) 3 [(0, .inr (.inr (.inl (some 176)))), (1, .inl x1), (2, .inl x2)] [] mm) (k7 : Int → aM → Option aM) (hk7 : ∀ (x3 : Int) (mm : aM), aG p l e { frames := 3, cells := 0, slots := 0, locals := 72 } s m args below meth c D cA ad z0 mX12_laysBest al0 rM (k7 x3 mm) 7 [(0, .inr (.inr (.inl (some 176)))), (1, .inl x1), (2, .inl x2), (3, .inl x3)] [] mm)  (mm : aM) : aG p l e { frames := 3, cells := 0, slots := 0, locals := 72 } s m args below meth c D cA ad z0 mX12_laysBest al0 rM (R_laysBest_20 k3 k7 x1 x2 x3 mm) 20 [(0, .inr (.inr (.inl (some 176)))), (1, .inl x1), (2, .inl x2), (3, .inl x3)] [] mm := by
  unfold R_laysBest_20
  refine gl (i' := 21) (fun _ _ => aw_iload_n K (dOf ck_mX12_laysBest rfl rfl) rfl) ?_
  refine gl (i' := 22) (fun _ _ => aw_bip K (dOf ck_mX12_laysBest rfl rfl) (v := 14) rfl) ?_
  refine gl (i' := 23) (fun _ _ => aw_imul K (dOf ck_mX12_laysBest rfl rfl)) ?_
  refine gl (i' := 24) (fun _ _ => aw_iload_n K (dOf ck_mX12_laysBest rfl rfl) rfl) ?_
  refine gl (i' := 25) (fun _ _ => aw_iadd K (dOf ck_mX12_laysBest rfl rfl)) ?_
  refine gl (i' := 26) (fun _ _ => aw_istore K (dOf ck_mX12_laysBest rfl rfl) (Nat.le_of_ble_eq_true rfl)) ?_
  refine g_lv (lv' := [(4, .inl _), (0, .inr (.inr (.inl (some _)))), (1, .inl _), (2, .inl _), (3, .inl _)]) rfl ?_
  refine gl (i' := 27) (fun _ _ => aw_aload_n K (dOf ck_mX12_laysBest rfl rfl) rfl) ?_
  refine gl (i' := 28) (fun _ _ => aw_getf K (dOf ck_mX12_laysBest rfl rfl) rfl rfl (Nat.le_of_ble_eq_true rfl) wd_1224 (k := 19) rfl) ?_
  refine gl (i' := 29) (fun _ _ => aw_iload K (dOf ck_mX12_laysBest rfl rfl) rfl) ?_
  refine gl (i' := 30) (fun _ _ => aw_iload_n K (dOf ck_mX12_laysBest rfl rfl) rfl) ?_
  refine gl (i' := 31) (fun _ _ => aw_aload_n K (dOf ck_mX12_laysBest rfl rfl) rfl) ?_
  refine gl (i' := 32) (fun _ _ => aw_getf K (dOf ck_mX12_laysBest rfl rfl) rfl rfl (Nat.le_of_ble_eq_true rfl) wd_1222 (k := 17) rfl) ?_
  refine g_icmp_ne K (dOf ck_mX12_laysBest rfl rfl) (t := 42) (aJ_of (by decide +kernel)) (fun h4 => ?_) (fun h4 => ?_)
  · refine gl (i' := 34) (fun _ _ => aw_iload_n K (dOf ck_mX12_laysBest rfl rfl) rfl) ?_
    refine gl (i' := 35) (fun _ _ => aw_bip K (dOf ck_mX12_laysBest rfl rfl) (v := 13) rfl) ?_
    refine g_icmp_ge K (dOf ck_mX12_laysBest rfl rfl) (t := 42) (aJ_of (by decide +kernel)) (fun h24 => ?_) (fun h24 => ?_)
    · refine gl (i' := 37) (fun _ _ => aw_aload_n K (dOf ck_mX12_laysBest rfl rfl) rfl) ?_
      refine gl (i' := 38) (fun _ _ => aw_iload_n K (dOf ck_mX12_laysBest rfl rfl) rfl) ?_
      refine g_callVI K [.inl _] rfl (dOf ck_mX12_laysBest rfl rfl) al_OneBreathModel_253 rfl rfl ⟨wd_1402, wd_89⟩ rfl (Nat.le_of_ble_eq_true rfl) ⟨Nat.le_of_ble_eq_true rfl, Nat.le_of_ble_eq_true rfl⟩ (fun b hb => met_R_mayEnd  hb) (fun r25 hr25 => ?_)
      refine g_if_eq K (dOf ck_mX12_laysBest rfl rfl) (t := 42) (aJ_of (by decide +kernel)) (fun h26 => ?_) (fun h26 => ?_)
      · refine g_sub [1, 2, 3, 4, 0] rfl ?_
        exact lk_R_laysBest_42 K _ _ _ _ _ hk3 _ hk7 _ _
      · refine gl (i' := 41) (fun _ _ => aw_iconst K (n := 0) (i32 _ rfl) (dOf ck_mX12_laysBest rfl rfl)) ?_
        refine g_goto K (dOf ck_mX12_laysBest rfl rfl).1 (t := 43) (aJ_of (by decide +kernel)) ?_
        refine g_sub [1, 2, 3, 4, 0] rfl ?_
        exact lk_R_laysBest_43 K _ _ _ _ _ hk3 _ hk7 _ _ _
    · refine g_sub [1, 2, 3, 4, 0] rfl ?_
      exact lk_R_laysBest_42 K _ _ _ _ _ hk3 _ hk7 _ _
  · refine g_sub [1, 2, 3, 4, 0] rfl ?_
    exact lk_R_laysBest_42 K _ _ _ _ _ hk3 _ hk7 _ _
def R_laysBest_7 (k3 : Int → aM → Option aM) (x1 : Int) (x2 : Int) : Nat → Int → aM → Option aM
  | 0, _, _ => none
  | n + 1, x3, mm => if x3 < 14 then (if x3 < 13 then (if x3 < (mm 177 18) then (R_laysBest_20 k3 (R_laysBest_7 k3 x1 x2 n) x1 x2 x3 mm) else (R_laysBest_141 k3 (R_laysBest_7 k3 x1 x2 n) x1 x2 x3 mm)) else (R_laysBest_20 k3 (R_laysBest_7 k3 x1 x2 n) x1 x2 x3 mm)) else (k3 (w32 (x2 + (-1))) mm)
set_option maxHeartbeats 4000000 in
theorem lk_R_laysBest_7 {p : Program} {l : Launch} {e : Env} {s : State} {m : MethodId} {args : Array Value} {below : List Frame} {meth : Method} {c : Code} {D : va_G} {cA : FieldType → ClassId} {ad adV : Nat → Nat} {z0 : Nat} {al0 : List Nat} (K : aK p s m args meth c mX12_laysBest D cA ad adV z0) (x1 : Int) (x2 : Int) (k3 : Int → aM → Option aM) (hk3 : ∀ (x2 : Int) (mm : aM), aG p l e { frames := 3, cells := 0, slots := 0, locals := 72 } s m args below meth c D cA ad z0 mX12_laysBest al0 rM (k3 x2 mm) 3 [(0, .inr (.inr (.inl (some 176)))), (1, .inl x1), (2, .inl x2)] [] mm)  : ∀ (n : Nat) (x3 : Int) (mm : aM), aG p l e { frames := 3, cells := 0, slots := 0, locals := 72 } s m args below meth c D cA ad z0 mX12_laysBest al0 rM (R_laysBest_7 k3 x1 x2 n x3 mm) 7 [(0, .inr (.inr (.inl (some 176)))), (1, .inl x1), (2, .inl x2), (3, .inl x3)] [] mm := by
  intro n
  induction n with
  | zero => intro x3 mm; exact g_none
  | succ n ih =>
    intro x3 mm
    rw [R_laysBest_7]
    refine gl (i' := 8) (fun _ _ => aw_iload_n K (dOf ck_mX12_laysBest rfl rfl) rfl) ?_
    refine gl (i' := 9) (fun _ _ => aw_bip K (dOf ck_mX12_laysBest rfl rfl) (v := 14) rfl) ?_
    refine g_icmp_ge K (dOf ck_mX12_laysBest rfl rfl) (t := 143) (aJ_of (by decide +kernel)) (fun h2 => ?_) (fun h2 => ?_)
    · refine gl (i' := 11) (fun _ _ => aw_iload_n K (dOf ck_mX12_laysBest rfl rfl) rfl) ?_
      refine gl (i' := 12) (fun _ _ => aw_bip K (dOf ck_mX12_laysBest rfl rfl) (v := 13) rfl) ?_
      refine g_icmp_ge K (dOf ck_mX12_laysBest rfl rfl) (t := 20) (aJ_of (by decide +kernel)) (fun h3 => ?_) (fun h3 => ?_)
      · refine gl (i' := 14) (fun _ _ => aw_iload_n K (dOf ck_mX12_laysBest rfl rfl) rfl) ?_
        refine gl (i' := 15) (fun _ _ => aw_aload_n K (dOf ck_mX12_laysBest rfl rfl) rfl) ?_
        refine gl (i' := 16) (fun _ _ => aw_getf K (dOf ck_mX12_laysBest rfl rfl) rfl rfl (Nat.le_of_ble_eq_true rfl) wd_1206 (k := 1) rfl) ?_
        refine gl (i' := 17) (fun _ _ => aw_bip K (dOf ck_mX12_laysBest rfl rfl) (v := 18) rfl) ?_
        refine gl (i' := 18) (fun _ _ => aw_iald K (dOf ck_mX12_laysBest rfl rfl) rfl (by decide)) ?_
        refine g_icmp_lt K (dOf ck_mX12_laysBest rfl rfl) (t := 20) (aJ_of (by decide +kernel)) (fun h27 => ?_) (fun h27 => ?_)
        · refine g_sub [0, 1, 2, 3] rfl ?_
          exact lk_R_laysBest_20 K _ _ _ _ hk3 _ ih _
        · refine g_goto K (dOf ck_mX12_laysBest rfl rfl).1 (t := 141) (aJ_of (by decide +kernel)) ?_
          refine g_sub [0, 1, 2, 3] rfl ?_
          exact lk_R_laysBest_141 K _ _ _ _ hk3 _ ih _
      · refine g_sub [0, 1, 2, 3] rfl ?_
        exact lk_R_laysBest_20 K _ _ _ _ hk3 _ ih _
    · refine gl (i' := 144) (fun _ _ => aw_iinc K (dOf ck_mX12_laysBest rfl rfl) (Nat.le_of_ble_eq_true rfl) rfl) ?_
      refine g_lv (lv' := [(2, .inl _), (0, .inr (.inr (.inl (some _)))), (1, .inl _), (3, .inl _)]) rfl ?_
      refine g_goto K (dOf ck_mX12_laysBest rfl rfl).1 (t := 3) (aJ_of (by decide +kernel)) ?_
      refine g_sub [1, 2, 0] rfl ?_
      exact hk3 _ _
def R_laysBest_3 (x1 : Int) : Nat → Int → aM → Option aM
  | 0, _, _ => none
  | n + 1, x2, mm => if x2 < 0 then (some mm) else (R_laysBest_7 (R_laysBest_3 x1 n) x1 x2 FU 0 mm)
set_option maxHeartbeats 4000000 in
theorem lk_R_laysBest_3 {p : Program} {l : Launch} {e : Env} {s : State} {m : MethodId} {args : Array Value} {below : List Frame} {meth : Method} {c : Code} {D : va_G} {cA : FieldType → ClassId} {ad adV : Nat → Nat} {z0 : Nat} {al0 : List Nat} (K : aK p s m args meth c mX12_laysBest D cA ad adV z0) (x1 : Int)  : ∀ (n : Nat) (x2 : Int) (mm : aM), aG p l e { frames := 3, cells := 0, slots := 0, locals := 72 } s m args below meth c D cA ad z0 mX12_laysBest al0 rM (R_laysBest_3 x1 n x2 mm) 3 [(0, .inr (.inr (.inl (some 176)))), (1, .inl x1), (2, .inl x2)] [] mm := by
  intro n
  induction n with
  | zero => intro x2 mm; exact g_none
  | succ n ih =>
    intro x2 mm
    rw [R_laysBest_3]
    refine gl (i' := 4) (fun _ _ => aw_iload_n K (dOf ck_mX12_laysBest rfl rfl) rfl) ?_
    refine g_if_lt K (dOf ck_mX12_laysBest rfl rfl) (t := 145) (aJ_of (by decide +kernel)) (fun h1 => ?_) (fun h1 => ?_)
    · exact g_vret K (by decide +kernel) rfl rfl
    · refine gl (i' := 6) (fun _ _ => aw_iconst K (n := 0) (i32 _ rfl) (dOf ck_mX12_laysBest rfl rfl)) ?_
      refine gl (i' := 7) (fun _ _ => aw_istore_n K (dOf ck_mX12_laysBest rfl rfl) (Nat.le_of_ble_eq_true rfl)) ?_
      refine g_lv (lv' := [(3, .inl _), (0, .inr (.inr (.inl (some _)))), (1, .inl _), (2, .inl _)]) rfl ?_
      refine g_sub [1, 2, 3, 0] rfl ?_
      exact lk_R_laysBest_7 K _ _ _ ih FU _ _
def R_laysBest (x1 : Int) (mm : aM) : Option aM := R_laysBest_3 x1 FU (mm 176 17) mm
set_option maxHeartbeats 4000000 in
theorem met_R_laysBest {l : Launch} {D : va_G} {cA : FieldType → ClassId} {ad adV : Nat → Nat} {z0 : Nat} {x1 : Int} {mm : aM}  {r : aM} (h : R_laysBest x1 mm = some r) : aMet l D cA ad adV z0 mX12_laysBest 3 72 0 0 [.inr (.inr (.inl (some 176))), .inl x1] SH mm (rM r).1 SH (rM r).2 := by
  refine aMet_ofG (by decide +kernel) rfl (Nat.le_of_ble_eq_true rfl) h (fun p e s m args below meth c al0 K => ?_)
  unfold R_laysBest
  refine gl (i' := 1) (fun _ _ => aw_aload_n K (dOf ck_mX12_laysBest rfl rfl) rfl) ?_
  refine gl (i' := 2) (fun _ _ => aw_getf K (dOf ck_mX12_laysBest rfl rfl) rfl rfl (Nat.le_of_ble_eq_true rfl) wd_1222 (k := 17) rfl) ?_
  refine gl (i' := 3) (fun _ _ => aw_istore_n K (dOf ck_mX12_laysBest rfl rfl) (Nat.le_of_ble_eq_true rfl)) ?_
  refine g_lv (lv' := [(2, .inl _), (0, .inr (.inr (.inl (some _)))), (1, .inl _)]) rfl ?_
  refine g_sub [1, 2, 0] rfl ?_
  exact lk_R_laysBest_3 K _ FU _ _
