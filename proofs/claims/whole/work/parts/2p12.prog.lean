def R_behind (x1 : Int) (mm : aM) : Option (Int × aM) := st1 (aup mm 176 0 0) fun mm1 => ((R_within x1 0 3 mm1).bind fun r2 => (if r2 = 0 then (some ((-2), mm1)) else (if 0 ≤ (w32 (136 + x1)) ∧ (w32 (136 + x1)) < 588 then (some (iand 15 (ixor (mm1 177 (w32 (136 + x1)).toNat) (-1)), mm1)) else none)))
set_option maxHeartbeats 4000000 in
theorem met_R_behind {l : Launch} {D : va_G} {cA : FieldType → ClassId} {ad adV : Nat → Nat} {z0 : Nat} {x1 : Int} {mm : aM}  {r : Int × aM} (h : R_behind x1 mm = some r) : aMet l D cA ad adV z0 mX12_behind 1 25 0 0 [.inr (.inr (.inl (some 176))), .inl x1] SH mm (rIM r).1 SH (rIM r).2 := by
  refine aMet_ofG (by decide +kernel) rfl (Nat.le_of_ble_eq_true rfl) h (fun p e s m args below meth c al0 K => ?_)
  unfold R_behind
  refine gl (i' := 1) (fun _ _ => aw_aload_n K (dOf ck_mX12_behind rfl rfl) rfl) ?_
  refine gl (i' := 2) (fun _ _ => aw_iconst K (n := 0) (i32 _ rfl) (dOf ck_mX12_behind rfl rfl)) ?_
  refine g_st1 ?_
  refine gl (i' := 3) (fun _ _ => aw_putf K (dOf ck_mX12_behind rfl rfl) rfl rfl (Nat.le_of_ble_eq_true rfl) wd_1205 (k := 0) rfl rfl (Or.inl rfl)) ?_
  refine gl (i' := 4) (fun _ _ => aw_iload_n K (dOf ck_mX12_behind rfl rfl) rfl) ?_
  refine gl (i' := 5) (fun _ _ => aw_i2l K (dOf ck_mX12_behind rfl rfl)) ?_
  refine gl (i' := 6) (fun _ _ => aw_lcn K (dOf ck_mX12_behind rfl rfl) (v := 0) rfl) ?_
  refine gl (i' := 7) (fun _ _ => aw_ldc2 K (dOf ck_mX12_behind rfl rfl) (n := 3) wd_1365 (i64 _ rfl)) ?_
  refine g_callSI K [.inr (.inl _), .inr (.inl _), .inr (.inl _)] rfl (dOf ck_mX12_behind rfl rfl) al_OneBreathModel_176 wd_1269 rfl (Nat.le_of_ble_eq_true rfl) ⟨Nat.le_of_ble_eq_true rfl, Nat.le_of_ble_eq_true rfl⟩ (fun b hb => met_R_within  hb) (fun r2 hr2 => ?_)
  refine g_if_eq K (dOf ck_mX12_behind rfl rfl) (t := 20) (aJ_of (by decide +kernel)) (fun h3 => ?_) (fun h3 => ?_)
  · refine gl (i' := 21) (fun _ _ => aw_bip K (dOf ck_mX12_behind rfl rfl) (v := -2) rfl) ?_
    exact g_iret K (by decide +kernel) rfl (Or.inl rfl) rfl
  · refine gl (i' := 10) (fun _ _ => aw_bip K (dOf ck_mX12_behind rfl rfl) (v := 15) rfl) ?_
    refine gl (i' := 11) (fun _ _ => aw_aload_n K (dOf ck_mX12_behind rfl rfl) rfl) ?_
    refine gl (i' := 12) (fun _ _ => aw_getf K (dOf ck_mX12_behind rfl rfl) rfl rfl (Nat.le_of_ble_eq_true rfl) wd_1206 (k := 1) rfl) ?_
    refine gl (i' := 13) (fun _ _ => aw_sip K (dOf ck_mX12_behind rfl rfl) (v := 136) rfl) ?_
    refine gl (i' := 14) (fun _ _ => aw_iload_n K (dOf ck_mX12_behind rfl rfl) rfl) ?_
    refine gl (i' := 15) (fun _ _ => aw_iadd K (dOf ck_mX12_behind rfl rfl)) ?_
    refine g_gd (fun hb4 => ?_)
    refine gl (i' := 16) (fun _ _ => aw_iald K (dOf ck_mX12_behind rfl rfl) rfl hb4) ?_
    refine gl (i' := 17) (fun _ _ => aw_iconst K (n := -1) (i32 _ rfl) (dOf ck_mX12_behind rfl rfl)) ?_
    refine gl (i' := 18) (fun _ _ => aw_ixor K (dOf ck_mX12_behind rfl rfl)) ?_
    refine gl (i' := 19) (fun _ _ => aw_iand K (dOf ck_mX12_behind rfl rfl)) ?_
    refine g_goto K (dOf ck_mX12_behind rfl rfl).1 (t := 21) (aJ_of (by decide +kernel)) ?_
    exact g_iret K (by decide +kernel) rfl (Or.inl rfl) rfl
def R_ends (x1 : Int) (mm : aM) : Option (Int × aM) := st1 (aup mm 176 0 0) fun mm1 => ((R_within x1 0 3 mm1).bind fun r2 => (if r2 = 0 then (some ((-2), mm1)) else (some (w32 (1 - (iand (ishr (mm1 177 140) x1) 1)), mm1))))
set_option maxHeartbeats 4000000 in
theorem met_R_ends {l : Launch} {D : va_G} {cA : FieldType → ClassId} {ad adV : Nat → Nat} {z0 : Nat} {x1 : Int} {mm : aM}  {r : Int × aM} (h : R_ends x1 mm = some r) : aMet l D cA ad adV z0 mX12_ends 1 25 0 0 [.inr (.inr (.inl (some 176))), .inl x1] SH mm (rIM r).1 SH (rIM r).2 := by
  refine aMet_ofG (by decide +kernel) rfl (Nat.le_of_ble_eq_true rfl) h (fun p e s m args below meth c al0 K => ?_)
  unfold R_ends
  refine gl (i' := 1) (fun _ _ => aw_aload_n K (dOf ck_mX12_ends rfl rfl) rfl) ?_
  refine gl (i' := 2) (fun _ _ => aw_iconst K (n := 0) (i32 _ rfl) (dOf ck_mX12_ends rfl rfl)) ?_
  refine g_st1 ?_
  refine gl (i' := 3) (fun _ _ => aw_putf K (dOf ck_mX12_ends rfl rfl) rfl rfl (Nat.le_of_ble_eq_true rfl) wd_1205 (k := 0) rfl rfl (Or.inl rfl)) ?_
  refine gl (i' := 4) (fun _ _ => aw_iload_n K (dOf ck_mX12_ends rfl rfl) rfl) ?_
  refine gl (i' := 5) (fun _ _ => aw_i2l K (dOf ck_mX12_ends rfl rfl)) ?_
  refine gl (i' := 6) (fun _ _ => aw_lcn K (dOf ck_mX12_ends rfl rfl) (v := 0) rfl) ?_
  refine gl (i' := 7) (fun _ _ => aw_ldc2 K (dOf ck_mX12_ends rfl rfl) (n := 3) wd_1365 (i64 _ rfl)) ?_
  refine g_callSI K [.inr (.inl _), .inr (.inl _), .inr (.inl _)] rfl (dOf ck_mX12_ends rfl rfl) al_OneBreathModel_176 wd_1269 rfl (Nat.le_of_ble_eq_true rfl) ⟨Nat.le_of_ble_eq_true rfl, Nat.le_of_ble_eq_true rfl⟩ (fun b hb => met_R_within  hb) (fun r2 hr2 => ?_)
  refine g_if_eq K (dOf ck_mX12_ends rfl rfl) (t := 20) (aJ_of (by decide +kernel)) (fun h3 => ?_) (fun h3 => ?_)
  · refine gl (i' := 21) (fun _ _ => aw_bip K (dOf ck_mX12_ends rfl rfl) (v := -2) rfl) ?_
    exact g_iret K (by decide +kernel) rfl (Or.inl rfl) rfl
  · refine gl (i' := 10) (fun _ _ => aw_iconst K (n := 1) (i32 _ rfl) (dOf ck_mX12_ends rfl rfl)) ?_
    refine gl (i' := 11) (fun _ _ => aw_aload_n K (dOf ck_mX12_ends rfl rfl) rfl) ?_
    refine gl (i' := 12) (fun _ _ => aw_getf K (dOf ck_mX12_ends rfl rfl) rfl rfl (Nat.le_of_ble_eq_true rfl) wd_1206 (k := 1) rfl) ?_
    refine gl (i' := 13) (fun _ _ => aw_sip K (dOf ck_mX12_ends rfl rfl) (v := 140) rfl) ?_
    refine gl (i' := 14) (fun _ _ => aw_iald K (dOf ck_mX12_ends rfl rfl) rfl (by decide)) ?_
    refine gl (i' := 15) (fun _ _ => aw_iload_n K (dOf ck_mX12_ends rfl rfl) rfl) ?_
    refine gl (i' := 16) (fun _ _ => aw_ishr K (dOf ck_mX12_ends rfl rfl)) ?_
    refine gl (i' := 17) (fun _ _ => aw_iconst K (n := 1) (i32 _ rfl) (dOf ck_mX12_ends rfl rfl)) ?_
    refine gl (i' := 18) (fun _ _ => aw_iand K (dOf ck_mX12_ends rfl rfl)) ?_
    refine gl (i' := 19) (fun _ _ => aw_isub K (dOf ck_mX12_ends rfl rfl)) ?_
    refine g_goto K (dOf ck_mX12_ends rfl rfl).1 (t := 21) (aJ_of (by decide +kernel)) ?_
    exact g_iret K (by decide +kernel) rfl (Or.inl rfl) rfl
def R_spelt (x1 : Int) (mm : aM) : Option (Int × aM) := st1 (aup mm 176 0 0) fun mm1 => ((R_within x1 0 (mm1 176 5) mm1).bind fun r2 => (if r2 = 0 then (some ((-3), mm1)) else (st1 (aup mm1 176 5 0) fun mm4 => ((R_wordOf 177 0 x1 mm4).bind fun r5 => (some (r5, mm4))))))
set_option maxHeartbeats 4000000 in
theorem met_R_spelt {l : Launch} {D : va_G} {cA : FieldType → ClassId} {ad adV : Nat → Nat} {z0 : Nat} {x1 : Int} {mm : aM}  {r : Int × aM} (h : R_spelt x1 mm = some r) : aMet l D cA ad adV z0 mX12_spelt 2 49 0 0 [.inr (.inr (.inl (some 176))), .inl x1] SH mm (rIM r).1 SH (rIM r).2 := by
  refine aMet_ofG (by decide +kernel) rfl (Nat.le_of_ble_eq_true rfl) h (fun p e s m args below meth c al0 K => ?_)
  unfold R_spelt
  refine gl (i' := 1) (fun _ _ => aw_aload_n K (dOf ck_mX12_spelt rfl rfl) rfl) ?_
  refine gl (i' := 2) (fun _ _ => aw_iconst K (n := 0) (i32 _ rfl) (dOf ck_mX12_spelt rfl rfl)) ?_
  refine g_st1 ?_
  refine gl (i' := 3) (fun _ _ => aw_putf K (dOf ck_mX12_spelt rfl rfl) rfl rfl (Nat.le_of_ble_eq_true rfl) wd_1205 (k := 0) rfl rfl (Or.inl rfl)) ?_
  refine gl (i' := 4) (fun _ _ => aw_iload_n K (dOf ck_mX12_spelt rfl rfl) rfl) ?_
  refine gl (i' := 5) (fun _ _ => aw_i2l K (dOf ck_mX12_spelt rfl rfl)) ?_
  refine gl (i' := 6) (fun _ _ => aw_lcn K (dOf ck_mX12_spelt rfl rfl) (v := 0) rfl) ?_
  refine gl (i' := 7) (fun _ _ => aw_aload_n K (dOf ck_mX12_spelt rfl rfl) rfl) ?_
  refine gl (i' := 8) (fun _ _ => aw_getf K (dOf ck_mX12_spelt rfl rfl) rfl rfl (Nat.le_of_ble_eq_true rfl) wd_1210 (k := 5) rfl) ?_
  refine gl (i' := 9) (fun _ _ => aw_i2l K (dOf ck_mX12_spelt rfl rfl)) ?_
  refine g_callSI K [.inr (.inl _), .inr (.inl _), .inr (.inl _)] rfl (dOf ck_mX12_spelt rfl rfl) al_OneBreathModel_176 wd_1269 rfl (Nat.le_of_ble_eq_true rfl) ⟨Nat.le_of_ble_eq_true rfl, Nat.le_of_ble_eq_true rfl⟩ (fun b hb => met_R_within  hb) (fun r2 hr2 => ?_)
  refine g_if_ne K (dOf ck_mX12_spelt rfl rfl) (t := 13) (aJ_of (by decide +kernel)) (fun h3 => ?_) (fun h3 => ?_)
  · refine gl (i' := 12) (fun _ _ => aw_bip K (dOf ck_mX12_spelt rfl rfl) (v := -3) rfl) ?_
    exact g_iret K (dOf ck_mX12_spelt rfl rfl).1 rfl (Or.inl rfl) rfl
  · refine gl (i' := 14) (fun _ _ => aw_aload_n K (dOf ck_mX12_spelt rfl rfl) rfl) ?_
    refine gl (i' := 15) (fun _ _ => aw_iconst K (n := 0) (i32 _ rfl) (dOf ck_mX12_spelt rfl rfl)) ?_
    refine g_st1 ?_
    refine gl (i' := 16) (fun _ _ => aw_putf K (dOf ck_mX12_spelt rfl rfl) rfl rfl (Nat.le_of_ble_eq_true rfl) wd_1210 (k := 5) rfl rfl (Or.inl rfl)) ?_
    refine gl (i' := 17) (fun _ _ => aw_aload_n K (dOf ck_mX12_spelt rfl rfl) rfl) ?_
    refine gl (i' := 18) (fun _ _ => aw_aload_n K (dOf ck_mX12_spelt rfl rfl) rfl) ?_
    refine gl (i' := 19) (fun _ _ => aw_getf K (dOf ck_mX12_spelt rfl rfl) rfl rfl (Nat.le_of_ble_eq_true rfl) wd_1206 (k := 1) rfl) ?_
    refine gl (i' := 20) (fun _ _ => aw_iconst K (n := 0) (i32 _ rfl) (dOf ck_mX12_spelt rfl rfl)) ?_
    refine gl (i' := 21) (fun _ _ => aw_iload_n K (dOf ck_mX12_spelt rfl rfl) rfl) ?_
    refine g_callVI K [.inr (.inr (.inl (some _))), .inl _, .inl _] rfl (dOf ck_mX12_spelt rfl rfl) al_OneBreathModel_198 rfl rfl ⟨wd_1331, wd_80⟩ rfl (Nat.le_of_ble_eq_true rfl) ⟨Nat.le_of_ble_eq_true rfl, Nat.le_of_ble_eq_true rfl⟩ (fun b hb => met_R_wordOf ⟨_, rfl⟩ hb) (fun r5 hr5 => ?_)
    exact g_iret K (by decide +kernel) rfl (Or.inl rfl) rfl
def R_isLike (x1 : Int) (x2 : Int) (mm : aM) : Option Int := if 0 ≤ (w32 (10 + x1)) ∧ (w32 (10 + x1)) < 588 then (if (iand (ishr (mm 177 (w32 (10 + x1)).toNat) x2) 1) = 1 then (some 1) else (some 0)) else none
set_option maxHeartbeats 4000000 in
theorem met_R_isLike {l : Launch} {D : va_G} {cA : FieldType → ClassId} {ad adV : Nat → Nat} {z0 : Nat} {x1 : Int} {x2 : Int} {mm : aM}  {r : Int} (h : R_isLike x1 x2 mm = some r) : aMet l D cA ad adV z0 mX12_isLike 0 0 0 0 [.inr (.inr (.inl (some 176))), .inl x1, .inl x2] SH mm ((rI mm) r).1 SH ((rI mm) r).2 := by
  refine aMet_ofG (by decide +kernel) rfl (Nat.le_of_ble_eq_true rfl) h (fun p e s m args below meth c al0 K => ?_)
  unfold R_isLike
  refine gl (i' := 1) (fun _ _ => aw_aload_n K (dOf ck_mX12_isLike rfl rfl) rfl) ?_
  refine gl (i' := 2) (fun _ _ => aw_getf K (dOf ck_mX12_isLike rfl rfl) rfl rfl (Nat.le_of_ble_eq_true rfl) wd_1206 (k := 1) rfl) ?_
  refine gl (i' := 3) (fun _ _ => aw_bip K (dOf ck_mX12_isLike rfl rfl) (v := 10) rfl) ?_
  refine gl (i' := 4) (fun _ _ => aw_iload_n K (dOf ck_mX12_isLike rfl rfl) rfl) ?_
  refine gl (i' := 5) (fun _ _ => aw_iadd K (dOf ck_mX12_isLike rfl rfl)) ?_
  refine g_gd (fun hb1 => ?_)
  refine gl (i' := 6) (fun _ _ => aw_iald K (dOf ck_mX12_isLike rfl rfl) rfl hb1) ?_
  refine gl (i' := 7) (fun _ _ => aw_iload_n K (dOf ck_mX12_isLike rfl rfl) rfl) ?_
  refine gl (i' := 8) (fun _ _ => aw_ishr K (dOf ck_mX12_isLike rfl rfl)) ?_
  refine gl (i' := 9) (fun _ _ => aw_iconst K (n := 1) (i32 _ rfl) (dOf ck_mX12_isLike rfl rfl)) ?_
  refine gl (i' := 10) (fun _ _ => aw_iand K (dOf ck_mX12_isLike rfl rfl)) ?_
  refine gl (i' := 11) (fun _ _ => aw_iconst K (n := 1) (i32 _ rfl) (dOf ck_mX12_isLike rfl rfl)) ?_
  refine g_icmp_ne K (dOf ck_mX12_isLike rfl rfl) (t := 14) (aJ_of (by decide +kernel)) (fun h2 => ?_) (fun h2 => ?_)
  · refine gl (i' := 13) (fun _ _ => aw_iconst K (n := 1) (i32 _ rfl) (dOf ck_mX12_isLike rfl rfl)) ?_
    refine g_goto K (dOf ck_mX12_isLike rfl rfl).1 (t := 15) (aJ_of (by decide +kernel)) ?_
    exact g_iret K (by decide +kernel) rfl (Or.inr (Or.inl ⟨rfl, Or.inr rfl⟩)) rfl
  · refine gl (i' := 15) (fun _ _ => aw_iconst K (n := 0) (i32 _ rfl) (dOf ck_mX12_isLike rfl rfl)) ?_
    exact g_iret K (by decide +kernel) rfl (Or.inr (Or.inl ⟨rfl, Or.inl rfl⟩)) rfl
def R_unlikeOf_145 (k11 : Int → aM → Option (Int × aM)) (k21 : Int → aM → Option (Int × aM)) (x1 : Int) (x2 : Int) (x3 : Int) (x4 : Int) (x5 : Int) (x6 : Int) (mm : aM) : Option (Int × aM) := if 0 ≤ (w32 ((w32 (x4 * x3)) + x5)) ∧ (w32 ((w32 (x4 * x3)) + x5)) < 200 then (st1 (aup mm 181 (w32 ((w32 (x4 * x3)) + x5)).toNat x6) fun mm9 => (k21 (w32 (x5 + 1)) mm9)) else none
set_option maxHeartbeats 4000000 in
theorem lk_R_unlikeOf_145 {p : Program} {l : Launch} {e : Env} {s : State} {m : MethodId} {args : Array Value} {below : List Frame} {meth : Method} {c : Code} {D : va_G} {cA : FieldType → ClassId} {ad adV : Nat → Nat} {z0 : Nat} {al0 : List Nat} (K : aK p s m args meth c mX12_unlikeOf D cA ad adV z0) (x1 : Int) (x2 : Int) (x3 : Int) (x4 : Int) (x5 : Int) (x6 : Int) (k11 : Int → aM → Option (Int × aM)) (hk11 : ∀ (x4 : Int) (mm : aM), aG p l e { frames := 1, cells := 0, slots := 0, locals := 22 } s m args below meth c D cA ad z0 mX12_unlikeOf al0 rIM (k11 x4 mm) 11 [(0, .inr (.inr (.inl (some 176)))), (1, .inl x1), (2, .inl x2), (3, .inl x3), (4, .inl x4)] [] mm) (k21 : Int → aM → Option (Int × aM)) (hk21 : ∀ (x5 : Int) (mm : aM), aG p l e { frames := 1, cells := 0, slots := 0, locals := 22 } s m args below meth c D cA ad z0 mX12_unlikeOf al0 rIM (k21 x5 mm) 21 [(0, .inr (.inr (.inl (some 176)))), (1, .inl x1), (2, .inl x2), (3, .inl x3), (4, .inl x4), (5, .inl x5)] [] mm)  (mm : aM) : aG p l e { frames := 1, cells := 0, slots := 0, locals := 22 } s m args below meth c D cA ad z0 mX12_unlikeOf al0 rIM (R_unlikeOf_145 k11 k21 x1 x2 x3 x4 x5 x6 mm) 145 [(0, .inr (.inr (.inl (some 176)))), (1, .inl x1), (2, .inl x2), (3, .inl x3), (4, .inl x4), (5, .inl x5), (6, .inl x6)] [] mm := by
  unfold R_unlikeOf_145
  refine gl (i' := 146) (fun _ _ => aw_aload_n K (dOf ck_mX12_unlikeOf rfl rfl) rfl) ?_
  refine gl (i' := 147) (fun _ _ => aw_getf K (dOf ck_mX12_unlikeOf rfl rfl) rfl rfl (Nat.le_of_ble_eq_true rfl) wd_1220 (k := 15) rfl) ?_
  refine gl (i' := 148) (fun _ _ => aw_iload K (dOf ck_mX12_unlikeOf rfl rfl) rfl) ?_
  refine gl (i' := 149) (fun _ _ => aw_iload_n K (dOf ck_mX12_unlikeOf rfl rfl) rfl) ?_
  refine gl (i' := 150) (fun _ _ => aw_imul K (dOf ck_mX12_unlikeOf rfl rfl)) ?_
  refine gl (i' := 151) (fun _ _ => aw_iload K (dOf ck_mX12_unlikeOf rfl rfl) rfl) ?_
  refine gl (i' := 152) (fun _ _ => aw_iadd K (dOf ck_mX12_unlikeOf rfl rfl)) ?_
  refine gl (i' := 153) (fun _ _ => aw_iload K (dOf ck_mX12_unlikeOf rfl rfl) rfl) ?_
  refine g_gd (fun hb8 => ?_)
  refine g_st1 ?_
  refine gl (i' := 154) (fun _ _ => aw_iast K (dOf ck_mX12_unlikeOf rfl rfl) rfl hb8) ?_
  refine gl (i' := 155) (fun _ _ => aw_iinc K (dOf ck_mX12_unlikeOf rfl rfl) (Nat.le_of_ble_eq_true rfl) rfl) ?_
  refine g_lv (lv' := [(5, .inl _), (0, .inr (.inr (.inl (some _)))), (1, .inl _), (2, .inl _), (3, .inl _), (4, .inl _), (6, .inl _)]) rfl ?_
  refine g_goto K (dOf ck_mX12_unlikeOf rfl rfl).1 (t := 21) (aJ_of (by decide +kernel)) ?_
  refine g_sub [1, 2, 3, 4, 5, 0] rfl ?_
  exact hk21 _ _
def R_unlikeOf_144 (k11 : Int → aM → Option (Int × aM)) (k21 : Int → aM → Option (Int × aM)) (x1 : Int) (x2 : Int) (x3 : Int) (x4 : Int) (x5 : Int) (s0 : Int) (mm : aM) : Option (Int × aM) := R_unlikeOf_145 k11 k21 x1 x2 x3 x4 x5 s0 mm
set_option maxHeartbeats 4000000 in
theorem lk_R_unlikeOf_144 {p : Program} {l : Launch} {e : Env} {s : State} {m : MethodId} {args : Array Value} {below : List Frame} {meth : Method} {c : Code} {D : va_G} {cA : FieldType → ClassId} {ad adV : Nat → Nat} {z0 : Nat} {al0 : List Nat} (K : aK p s m args meth c mX12_unlikeOf D cA ad adV z0) (x1 : Int) (x2 : Int) (x3 : Int) (x4 : Int) (x5 : Int) (k11 : Int → aM → Option (Int × aM)) (hk11 : ∀ (x4 : Int) (mm : aM), aG p l e { frames := 1, cells := 0, slots := 0, locals := 22 } s m args below meth c D cA ad z0 mX12_unlikeOf al0 rIM (k11 x4 mm) 11 [(0, .inr (.inr (.inl (some 176)))), (1, .inl x1), (2, .inl x2), (3, .inl x3), (4, .inl x4)] [] mm) (k21 : Int → aM → Option (Int × aM)) (hk21 : ∀ (x5 : Int) (mm : aM), aG p l e { frames := 1, cells := 0, slots := 0, locals := 22 } s m args below meth c D cA ad z0 mX12_unlikeOf al0 rIM (k21 x5 mm) 21 [(0, .inr (.inr (.inl (some 176)))), (1, .inl x1), (2, .inl x2), (3, .inl x3), (4, .inl x4), (5, .inl x5)] [] mm)  (s0 : Int) (mm : aM) : aG p l e { frames := 1, cells := 0, slots := 0, locals := 22 } s m args below meth c D cA ad z0 mX12_unlikeOf al0 rIM (R_unlikeOf_144 k11 k21 x1 x2 x3 x4 x5 s0 mm) 144 [(0, .inr (.inr (.inl (some 176)))), (1, .inl x1), (2, .inl x2), (3, .inl x3), (4, .inl x4), (5, .inl x5)] [.inl s0] mm := by
  unfold R_unlikeOf_144
  refine gl (i' := 145) (fun _ _ => aw_istore K (dOf ck_mX12_unlikeOf rfl rfl) (Nat.le_of_ble_eq_true rfl)) ?_
  refine g_lv (lv' := [(6, .inl _), (0, .inr (.inr (.inl (some _)))), (1, .inl _), (2, .inl _), (3, .inl _), (4, .inl _), (5, .inl _)]) rfl ?_
  refine g_sub [1, 2, 3, 4, 5, 6, 0] rfl ?_
  exact lk_R_unlikeOf_145 K _ _ _ _ _ _ _ hk11 _ hk21 _
def R_unlikeOf_132 (k11 : Int → aM → Option (Int × aM)) (k21 : Int → aM → Option (Int × aM)) (x1 : Int) (x2 : Int) (x3 : Int) (x4 : Int) (x5 : Int) (x9 : Int) (s0 : Int) (s1 : Int) (mm : aM) : Option (Int × aM) := if (w32 (s1 + s0)) < (w32 (x9 + 2)) then (R_unlikeOf_144 k11 k21 x1 x2 x3 x4 x5 (w32 (s1 + s0)) mm) else (R_unlikeOf_144 k11 k21 x1 x2 x3 x4 x5 (w32 (x9 + 2)) mm)
set_option maxHeartbeats 4000000 in
theorem lk_R_unlikeOf_132 {p : Program} {l : Launch} {e : Env} {s : State} {m : MethodId} {args : Array Value} {below : List Frame} {meth : Method} {c : Code} {D : va_G} {cA : FieldType → ClassId} {ad adV : Nat → Nat} {z0 : Nat} {al0 : List Nat} (K : aK p s m args meth c mX12_unlikeOf D cA ad adV z0) (x1 : Int) (x2 : Int) (x3 : Int) (x4 : Int) (x5 : Int) (x9 : Int) (k11 : Int → aM → Option (Int × aM)) (hk11 : ∀ (x4 : Int) (mm : aM), aG p l e { frames := 1, cells := 0, slots := 0, locals := 22 } s m args below meth c D cA ad z0 mX12_unlikeOf al0 rIM (k11 x4 mm) 11 [(0, .inr (.inr (.inl (some 176)))), (1, .inl x1), (2, .inl x2), (3, .inl x3), (4, .inl x4)] [] mm) (k21 : Int → aM → Option (Int × aM)) (hk21 : ∀ (x5 : Int) (mm : aM), aG p l e { frames := 1, cells := 0, slots := 0, locals := 22 } s m args below meth c D cA ad z0 mX12_unlikeOf al0 rIM (k21 x5 mm) 21 [(0, .inr (.inr (.inl (some 176)))), (1, .inl x1), (2, .inl x2), (3, .inl x3), (4, .inl x4), (5, .inl x5)] [] mm)  (s0 : Int) (s1 : Int) (mm : aM) : aG p l e { frames := 1, cells := 0, slots := 0, locals := 22 } s m args below meth c D cA ad z0 mX12_unlikeOf al0 rIM (R_unlikeOf_132 k11 k21 x1 x2 x3 x4 x5 x9 s0 s1 mm) 132 [(0, .inr (.inr (.inl (some 176)))), (1, .inl x1), (2, .inl x2), (3, .inl x3), (4, .inl x4), (5, .inl x5), (9, .inl x9)] [.inl s0, .inl s1] mm := by
  unfold R_unlikeOf_132
  refine gl (i' := 133) (fun _ _ => aw_iadd K (dOf ck_mX12_unlikeOf rfl rfl)) ?_
  refine gl (i' := 134) (fun _ _ => aw_istore K (dOf ck_mX12_unlikeOf rfl rfl) (Nat.le_of_ble_eq_true rfl)) ?_
  refine g_lv (lv' := [(10, .inl _), (0, .inr (.inr (.inl (some _)))), (1, .inl _), (2, .inl _), (3, .inl _), (4, .inl _), (5, .inl _), (9, .inl _)]) rfl ?_
  refine gl (i' := 135) (fun _ _ => aw_iload K (dOf ck_mX12_unlikeOf rfl rfl) rfl) ?_
  refine gl (i' := 136) (fun _ _ => aw_iload K (dOf ck_mX12_unlikeOf rfl rfl) rfl) ?_
  refine gl (i' := 137) (fun _ _ => aw_iconst K (n := 2) (i32 _ rfl) (dOf ck_mX12_unlikeOf rfl rfl)) ?_
  refine gl (i' := 138) (fun _ _ => aw_iadd K (dOf ck_mX12_unlikeOf rfl rfl)) ?_
  refine g_icmp_ge K (dOf ck_mX12_unlikeOf rfl rfl) (t := 141) (aJ_of (by decide +kernel)) (fun h20 => ?_) (fun h20 => ?_)
  · refine gl (i' := 140) (fun _ _ => aw_iload K (dOf ck_mX12_unlikeOf rfl rfl) rfl) ?_
    refine g_goto K (dOf ck_mX12_unlikeOf rfl rfl).1 (t := 144) (aJ_of (by decide +kernel)) ?_
    refine g_sub [1, 2, 3, 4, 5, 6] rfl ?_
    exact lk_R_unlikeOf_144 K _ _ _ _ _ _ hk11 _ hk21 _ _
  · refine gl (i' := 142) (fun _ _ => aw_iload K (dOf ck_mX12_unlikeOf rfl rfl) rfl) ?_
    refine gl (i' := 143) (fun _ _ => aw_iconst K (n := 2) (i32 _ rfl) (dOf ck_mX12_unlikeOf rfl rfl)) ?_
    refine gl (i' := 144) (fun _ _ => aw_iadd K (dOf ck_mX12_unlikeOf rfl rfl)) ?_
    refine g_sub [1, 2, 3, 4, 5, 6] rfl ?_
    exact lk_R_unlikeOf_144 K _ _ _ _ _ _ hk11 _ hk21 _ _
def R_unlikeOf_106 (k11 : Int → aM → Option (Int × aM)) (k21 : Int → aM → Option (Int × aM)) (x1 : Int) (x2 : Int) (x3 : Int) (x4 : Int) (x5 : Int) (x7 : Int) (x8 : Int) (s0 : Int) (mm : aM) : Option (Int × aM) := if 0 ≤ (w32 ((w32 ((w32 ((w32 (x4 - 1)) * x3)) + x5)) - 1)) ∧ (w32 ((w32 ((w32 ((w32 (x4 - 1)) * x3)) + x5)) - 1)) < 200 then (if x7 = x8 then (R_unlikeOf_132 k11 k21 x1 x2 x3 x4 x5 s0 0 (mm 181 (w32 ((w32 ((w32 ((w32 (x4 - 1)) * x3)) + x5)) - 1)).toNat) mm) else ((R_isLike x7 x8 mm).bind fun r18 => (if r18 = 0 then (R_unlikeOf_132 k11 k21 x1 x2 x3 x4 x5 s0 2 (mm 181 (w32 ((w32 ((w32 ((w32 (x4 - 1)) * x3)) + x5)) - 1)).toNat) mm) else (R_unlikeOf_132 k11 k21 x1 x2 x3 x4 x5 s0 1 (mm 181 (w32 ((w32 ((w32 ((w32 (x4 - 1)) * x3)) + x5)) - 1)).toNat) mm)))) else none
set_option maxHeartbeats 4000000 in
theorem lk_R_unlikeOf_106 {p : Program} {l : Launch} {e : Env} {s : State} {m : MethodId} {args : Array Value} {below : List Frame} {meth : Method} {c : Code} {D : va_G} {cA : FieldType → ClassId} {ad adV : Nat → Nat} {z0 : Nat} {al0 : List Nat} (K : aK p s m args meth c mX12_unlikeOf D cA ad adV z0) (x1 : Int) (x2 : Int) (x3 : Int) (x4 : Int) (x5 : Int) (x7 : Int) (x8 : Int) (k11 : Int → aM → Option (Int × aM)) (hk11 : ∀ (x4 : Int) (mm : aM), aG p l e { frames := 1, cells := 0, slots := 0, locals := 22 } s m args below meth c D cA ad z0 mX12_unlikeOf al0 rIM (k11 x4 mm) 11 [(0, .inr (.inr (.inl (some 176)))), (1, .inl x1), (2, .inl x2), (3, .inl x3), (4, .inl x4)] [] mm) (k21 : Int → aM → Option (Int × aM)) (hk21 : ∀ (x5 : Int) (mm : aM), aG p l e { frames := 1, cells := 0, slots := 0, locals := 22 } s m args below meth c D cA ad z0 mX12_unlikeOf al0 rIM (k21 x5 mm) 21 [(0, .inr (.inr (.inl (some 176)))), (1, .inl x1), (2, .inl x2), (3, .inl x3), (4, .inl x4), (5, .inl x5)] [] mm)  (s0 : Int) (mm : aM) : aG p l e { frames := 1, cells := 0, slots := 0, locals := 22 } s m args below meth c D cA ad z0 mX12_unlikeOf al0 rIM (R_unlikeOf_106 k11 k21 x1 x2 x3 x4 x5 x7 x8 s0 mm) 106 [(0, .inr (.inr (.inl (some 176)))), (1, .inl x1), (2, .inl x2), (3, .inl x3), (4, .inl x4), (5, .inl x5), (7, .inl x7), (8, .inl x8)] [.inl s0] mm := by
  unfold R_unlikeOf_106
  refine gl (i' := 107) (fun _ _ => aw_istore K (dOf ck_mX12_unlikeOf rfl rfl) (Nat.le_of_ble_eq_true rfl)) ?_
  refine g_lv (lv' := [(9, .inl _), (0, .inr (.inr (.inl (some _)))), (1, .inl _), (2, .inl _), (3, .inl _), (4, .inl _), (5, .inl _), (7, .inl _), (8, .inl _)]) rfl ?_
  refine gl (i' := 108) (fun _ _ => aw_aload_n K (dOf ck_mX12_unlikeOf rfl rfl) rfl) ?_
  refine gl (i' := 109) (fun _ _ => aw_getf K (dOf ck_mX12_unlikeOf rfl rfl) rfl rfl (Nat.le_of_ble_eq_true rfl) wd_1220 (k := 15) rfl) ?_
  refine gl (i' := 110) (fun _ _ => aw_iload K (dOf ck_mX12_unlikeOf rfl rfl) rfl) ?_
  refine gl (i' := 111) (fun _ _ => aw_iconst K (n := 1) (i32 _ rfl) (dOf ck_mX12_unlikeOf rfl rfl)) ?_
  refine gl (i' := 112) (fun _ _ => aw_isub K (dOf ck_mX12_unlikeOf rfl rfl)) ?_
  refine gl (i' := 113) (fun _ _ => aw_iload_n K (dOf ck_mX12_unlikeOf rfl rfl) rfl) ?_
  refine gl (i' := 114) (fun _ _ => aw_imul K (dOf ck_mX12_unlikeOf rfl rfl)) ?_
  refine gl (i' := 115) (fun _ _ => aw_iload K (dOf ck_mX12_unlikeOf rfl rfl) rfl) ?_
  refine gl (i' := 116) (fun _ _ => aw_iadd K (dOf ck_mX12_unlikeOf rfl rfl)) ?_
  refine gl (i' := 117) (fun _ _ => aw_iconst K (n := 1) (i32 _ rfl) (dOf ck_mX12_unlikeOf rfl rfl)) ?_
  refine gl (i' := 118) (fun _ _ => aw_isub K (dOf ck_mX12_unlikeOf rfl rfl)) ?_
  refine g_gd (fun hb16 => ?_)
  refine gl (i' := 119) (fun _ _ => aw_iald K (dOf ck_mX12_unlikeOf rfl rfl) rfl hb16) ?_
  refine gl (i' := 120) (fun _ _ => aw_iload K (dOf ck_mX12_unlikeOf rfl rfl) rfl) ?_
  refine gl (i' := 121) (fun _ _ => aw_iload K (dOf ck_mX12_unlikeOf rfl rfl) rfl) ?_
  refine g_icmp_ne K (dOf ck_mX12_unlikeOf rfl rfl) (t := 124) (aJ_of (by decide +kernel)) (fun h17 => ?_) (fun h17 => ?_)
  · refine gl (i' := 123) (fun _ _ => aw_iconst K (n := 0) (i32 _ rfl) (dOf ck_mX12_unlikeOf rfl rfl)) ?_
    refine g_goto K (dOf ck_mX12_unlikeOf rfl rfl).1 (t := 132) (aJ_of (by decide +kernel)) ?_
    refine g_sub [1, 2, 3, 4, 5, 6, 0] rfl ?_
    exact lk_R_unlikeOf_132 K _ _ _ _ _ _ _ hk11 _ hk21 _ _ _
  · refine gl (i' := 125) (fun _ _ => aw_aload_n K (dOf ck_mX12_unlikeOf rfl rfl) rfl) ?_
    refine gl (i' := 126) (fun _ _ => aw_iload K (dOf ck_mX12_unlikeOf rfl rfl) rfl) ?_
    refine gl (i' := 127) (fun _ _ => aw_iload K (dOf ck_mX12_unlikeOf rfl rfl) rfl) ?_
    refine g_callVI K [.inl _, .inl _] rfl (dOf ck_mX12_unlikeOf rfl rfl) al_OneBreathModel_241 rfl rfl ⟨wd_1382, wd_85⟩ rfl (Nat.le_of_ble_eq_true rfl) ⟨Nat.le_of_ble_eq_true rfl, Nat.le_of_ble_eq_true rfl⟩ (fun b hb => met_R_isLike  hb) (fun r18 hr18 => ?_)
    refine g_if_eq K (dOf ck_mX12_unlikeOf rfl rfl) (t := 131) (aJ_of (by decide +kernel)) (fun h19 => ?_) (fun h19 => ?_)
    · refine gl (i' := 132) (fun _ _ => aw_iconst K (n := 2) (i32 _ rfl) (dOf ck_mX12_unlikeOf rfl rfl)) ?_
      refine g_sub [1, 2, 3, 4, 5, 6, 0] rfl ?_
      exact lk_R_unlikeOf_132 K _ _ _ _ _ _ _ hk11 _ hk21 _ _ _
    · refine gl (i' := 130) (fun _ _ => aw_iconst K (n := 1) (i32 _ rfl) (dOf ck_mX12_unlikeOf rfl rfl)) ?_
      refine g_goto K (dOf ck_mX12_unlikeOf rfl rfl).1 (t := 132) (aJ_of (by decide +kernel)) ?_
      refine g_sub [1, 2, 3, 4, 5, 6, 0] rfl ?_
      exact lk_R_unlikeOf_132 K _ _ _ _ _ _ _ hk11 _ hk21 _ _ _
def R_unlikeOf_33 (k11 : Int → aM → Option (Int × aM)) (k21 : Int → aM → Option (Int × aM)) (x1 : Int) (x2 : Int) (x3 : Int) (x4 : Int) (x5 : Int) (s0 : Int) (mm : aM) : Option (Int × aM) := if 0 < x4 then (if 0 < x5 then (if 0 ≤ (w32 ((w32 ((w32 (58 + (w32 (6 * x1)))) + x4)) - 1)) ∧ (w32 ((w32 ((w32 (58 + (w32 (6 * x1)))) + x4)) - 1)) < 588 then (if 0 ≤ (w32 ((w32 ((w32 (58 + (w32 (6 * x2)))) + x5)) - 1)) ∧ (w32 ((w32 ((w32 (58 + (w32 (6 * x2)))) + x5)) - 1)) < 588 then (if 0 ≤ (w32 ((w32 ((w32 (x4 - 1)) * x3)) + x5)) ∧ (w32 ((w32 ((w32 (x4 - 1)) * x3)) + x5)) < 200 then (if 0 ≤ (w32 ((w32 ((w32 (x4 * x3)) + x5)) - 1)) ∧ (w32 ((w32 ((w32 (x4 * x3)) + x5)) - 1)) < 200 then (if (mm 181 (w32 ((w32 ((w32 (x4 - 1)) * x3)) + x5)).toNat) < (mm 181 (w32 ((w32 ((w32 (x4 * x3)) + x5)) - 1)).toNat) then (R_unlikeOf_106 k11 k21 x1 x2 x3 x4 x5 (mm 177 (w32 ((w32 ((w32 (58 + (w32 (6 * x1)))) + x4)) - 1)).toNat) (mm 177 (w32 ((w32 ((w32 (58 + (w32 (6 * x2)))) + x5)) - 1)).toNat) (mm 181 (w32 ((w32 ((w32 (x4 - 1)) * x3)) + x5)).toNat) mm) else (R_unlikeOf_106 k11 k21 x1 x2 x3 x4 x5 (mm 177 (w32 ((w32 ((w32 (58 + (w32 (6 * x1)))) + x4)) - 1)).toNat) (mm 177 (w32 ((w32 ((w32 (58 + (w32 (6 * x2)))) + x5)) - 1)).toNat) (mm 181 (w32 ((w32 ((w32 (x4 * x3)) + x5)) - 1)).toNat) mm)) else none) else none) else none) else none) else (R_unlikeOf_145 k11 k21 x1 x2 x3 x4 x5 s0 mm)) else (R_unlikeOf_145 k11 k21 x1 x2 x3 x4 x5 s0 mm)
set_option maxHeartbeats 4000000 in
theorem lk_R_unlikeOf_33 {p : Program} {l : Launch} {e : Env} {s : State} {m : MethodId} {args : Array Value} {below : List Frame} {meth : Method} {c : Code} {D : va_G} {cA : FieldType → ClassId} {ad adV : Nat → Nat} {z0 : Nat} {al0 : List Nat} (K : aK p s m args meth c mX12_unlikeOf D cA ad adV z0) (x1 : Int) (x2 : Int) (x3 : Int) (x4 : Int) (x5 : Int) (k11 : Int → aM → Option (Int × aM)) (hk11 : ∀ (x4 : Int) (mm : aM), aG p l e { frames := 1, cells := 0, slots := 0, locals := 22 } s m args below meth c D cA ad z0 mX12_unlikeOf al0 rIM (k11 x4 mm) 11 [(0, .inr (.inr (.inl (some 176)))), (1, .inl x1), (2, .inl x2), (3, .inl x3), (4, .inl x4)] [] mm) (k21 : Int → aM → Option (Int × aM)) (hk21 : ∀ (x5 : Int) (mm : aM), aG p l e { frames := 1, cells := 0, slots := 0, locals := 22 } s m args below meth c D cA ad z0 mX12_unlikeOf al0 rIM (k21 x5 mm) 21 [(0, .inr (.inr (.inl (some 176)))), (1, .inl x1), (2, .inl x2), (3, .inl x3), (4, .inl x4), (5, .inl x5)] [] mm)  (s0 : Int) (mm : aM) : aG p l e { frames := 1, cells := 0, slots := 0, locals := 22 } s m args below meth c D cA ad z0 mX12_unlikeOf al0 rIM (R_unlikeOf_33 k11 k21 x1 x2 x3 x4 x5 s0 mm) 33 [(0, .inr (.inr (.inl (some 176)))), (1, .inl x1), (2, .inl x2), (3, .inl x3), (4, .inl x4), (5, .inl x5)] [.inl s0] mm := by
  unfold R_unlikeOf_33
  refine gl (i' := 34) (fun _ _ => aw_istore K (dOf ck_mX12_unlikeOf rfl rfl) (Nat.le_of_ble_eq_true rfl)) ?_
  refine g_lv (lv' := [(6, .inl _), (0, .inr (.inr (.inl (some _)))), (1, .inl _), (2, .inl _), (3, .inl _), (4, .inl _), (5, .inl _)]) rfl ?_
  refine gl (i' := 35) (fun _ _ => aw_iload K (dOf ck_mX12_unlikeOf rfl rfl) rfl) ?_
  refine g_if_le K (dOf ck_mX12_unlikeOf rfl rfl) (t := 145) (aJ_of (by decide +kernel)) (fun h7 => ?_) (fun h7 => ?_)
  · refine gl (i' := 37) (fun _ _ => aw_iload K (dOf ck_mX12_unlikeOf rfl rfl) rfl) ?_
    refine g_if_le K (dOf ck_mX12_unlikeOf rfl rfl) (t := 145) (aJ_of (by decide +kernel)) (fun h10 => ?_) (fun h10 => ?_)
    · refine gl (i' := 39) (fun _ _ => aw_aload_n K (dOf ck_mX12_unlikeOf rfl rfl) rfl) ?_
      refine gl (i' := 40) (fun _ _ => aw_getf K (dOf ck_mX12_unlikeOf rfl rfl) rfl rfl (Nat.le_of_ble_eq_true rfl) wd_1206 (k := 1) rfl) ?_
      refine gl (i' := 41) (fun _ _ => aw_bip K (dOf ck_mX12_unlikeOf rfl rfl) (v := 58) rfl) ?_
      refine gl (i' := 42) (fun _ _ => aw_bip K (dOf ck_mX12_unlikeOf rfl rfl) (v := 6) rfl) ?_
      refine gl (i' := 43) (fun _ _ => aw_iload_n K (dOf ck_mX12_unlikeOf rfl rfl) rfl) ?_
      refine gl (i' := 44) (fun _ _ => aw_imul K (dOf ck_mX12_unlikeOf rfl rfl)) ?_
      refine gl (i' := 45) (fun _ _ => aw_iadd K (dOf ck_mX12_unlikeOf rfl rfl)) ?_
      refine gl (i' := 46) (fun _ _ => aw_iload K (dOf ck_mX12_unlikeOf rfl rfl) rfl) ?_
      refine gl (i' := 47) (fun _ _ => aw_iadd K (dOf ck_mX12_unlikeOf rfl rfl)) ?_
      refine gl (i' := 48) (fun _ _ => aw_iconst K (n := 1) (i32 _ rfl) (dOf ck_mX12_unlikeOf rfl rfl)) ?_
      refine gl (i' := 49) (fun _ _ => aw_isub K (dOf ck_mX12_unlikeOf rfl rfl)) ?_
      refine g_gd (fun hb11 => ?_)
      refine gl (i' := 50) (fun _ _ => aw_iald K (dOf ck_mX12_unlikeOf rfl rfl) rfl hb11) ?_
      refine gl (i' := 51) (fun _ _ => aw_istore K (dOf ck_mX12_unlikeOf rfl rfl) (Nat.le_of_ble_eq_true rfl)) ?_
      refine g_lv (lv' := [(7, .inl _), (6, .inl _), (0, .inr (.inr (.inl (some _)))), (1, .inl _), (2, .inl _), (3, .inl _), (4, .inl _), (5, .inl _)]) rfl ?_
      refine gl (i' := 52) (fun _ _ => aw_aload_n K (dOf ck_mX12_unlikeOf rfl rfl) rfl) ?_
      refine gl (i' := 53) (fun _ _ => aw_getf K (dOf ck_mX12_unlikeOf rfl rfl) rfl rfl (Nat.le_of_ble_eq_true rfl) wd_1206 (k := 1) rfl) ?_
      refine gl (i' := 54) (fun _ _ => aw_bip K (dOf ck_mX12_unlikeOf rfl rfl) (v := 58) rfl) ?_
      refine gl (i' := 55) (fun _ _ => aw_bip K (dOf ck_mX12_unlikeOf rfl rfl) (v := 6) rfl) ?_
      refine gl (i' := 56) (fun _ _ => aw_iload_n K (dOf ck_mX12_unlikeOf rfl rfl) rfl) ?_
      refine gl (i' := 57) (fun _ _ => aw_imul K (dOf ck_mX12_unlikeOf rfl rfl)) ?_
      refine gl (i' := 58) (fun _ _ => aw_iadd K (dOf ck_mX12_unlikeOf rfl rfl)) ?_
      refine gl (i' := 59) (fun _ _ => aw_iload K (dOf ck_mX12_unlikeOf rfl rfl) rfl) ?_
      refine gl (i' := 60) (fun _ _ => aw_iadd K (dOf ck_mX12_unlikeOf rfl rfl)) ?_
      refine gl (i' := 61) (fun _ _ => aw_iconst K (n := 1) (i32 _ rfl) (dOf ck_mX12_unlikeOf rfl rfl)) ?_
      refine gl (i' := 62) (fun _ _ => aw_isub K (dOf ck_mX12_unlikeOf rfl rfl)) ?_
      refine g_gd (fun hb12 => ?_)
      refine gl (i' := 63) (fun _ _ => aw_iald K (dOf ck_mX12_unlikeOf rfl rfl) rfl hb12) ?_
      refine gl (i' := 64) (fun _ _ => aw_istore K (dOf ck_mX12_unlikeOf rfl rfl) (Nat.le_of_ble_eq_true rfl)) ?_
      refine g_lv (lv' := [(8, .inl _), (7, .inl _), (6, .inl _), (0, .inr (.inr (.inl (some _)))), (1, .inl _), (2, .inl _), (3, .inl _), (4, .inl _), (5, .inl _)]) rfl ?_
      refine gl (i' := 65) (fun _ _ => aw_aload_n K (dOf ck_mX12_unlikeOf rfl rfl) rfl) ?_
      refine gl (i' := 66) (fun _ _ => aw_getf K (dOf ck_mX12_unlikeOf rfl rfl) rfl rfl (Nat.le_of_ble_eq_true rfl) wd_1220 (k := 15) rfl) ?_
      refine gl (i' := 67) (fun _ _ => aw_iload K (dOf ck_mX12_unlikeOf rfl rfl) rfl) ?_
      refine gl (i' := 68) (fun _ _ => aw_iconst K (n := 1) (i32 _ rfl) (dOf ck_mX12_unlikeOf rfl rfl)) ?_
      refine gl (i' := 69) (fun _ _ => aw_isub K (dOf ck_mX12_unlikeOf rfl rfl)) ?_
      refine gl (i' := 70) (fun _ _ => aw_iload_n K (dOf ck_mX12_unlikeOf rfl rfl) rfl) ?_
      refine gl (i' := 71) (fun _ _ => aw_imul K (dOf ck_mX12_unlikeOf rfl rfl)) ?_
      refine gl (i' := 72) (fun _ _ => aw_iload K (dOf ck_mX12_unlikeOf rfl rfl) rfl) ?_
      refine gl (i' := 73) (fun _ _ => aw_iadd K (dOf ck_mX12_unlikeOf rfl rfl)) ?_
      refine g_gd (fun hb13 => ?_)
      refine gl (i' := 74) (fun _ _ => aw_iald K (dOf ck_mX12_unlikeOf rfl rfl) rfl hb13) ?_
      refine gl (i' := 75) (fun _ _ => aw_aload_n K (dOf ck_mX12_unlikeOf rfl rfl) rfl) ?_
      refine gl (i' := 76) (fun _ _ => aw_getf K (dOf ck_mX12_unlikeOf rfl rfl) rfl rfl (Nat.le_of_ble_eq_true rfl) wd_1220 (k := 15) rfl) ?_
      refine gl (i' := 77) (fun _ _ => aw_iload K (dOf ck_mX12_unlikeOf rfl rfl) rfl) ?_
      refine gl (i' := 78) (fun _ _ => aw_iload_n K (dOf ck_mX12_unlikeOf rfl rfl) rfl) ?_
      refine gl (i' := 79) (fun _ _ => aw_imul K (dOf ck_mX12_unlikeOf rfl rfl)) ?_
      refine gl (i' := 80) (fun _ _ => aw_iload K (dOf ck_mX12_unlikeOf rfl rfl) rfl) ?_
      refine gl (i' := 81) (fun _ _ => aw_iadd K (dOf ck_mX12_unlikeOf rfl rfl)) ?_
      refine gl (i' := 82) (fun _ _ => aw_iconst K (n := 1) (i32 _ rfl) (dOf ck_mX12_unlikeOf rfl rfl)) ?_
      refine gl (i' := 83) (fun _ _ => aw_isub K (dOf ck_mX12_unlikeOf rfl rfl)) ?_
      refine g_gd (fun hb14 => ?_)
      refine gl (i' := 84) (fun _ _ => aw_iald K (dOf ck_mX12_unlikeOf rfl rfl) rfl hb14) ?_
      refine g_icmp_ge K (dOf ck_mX12_unlikeOf rfl rfl) (t := 96) (aJ_of (by decide +kernel)) (fun h15 => ?_) (fun h15 => ?_)
      · refine gl (i' := 86) (fun _ _ => aw_aload_n K (dOf ck_mX12_unlikeOf rfl rfl) rfl) ?_
        refine gl (i' := 87) (fun _ _ => aw_getf K (dOf ck_mX12_unlikeOf rfl rfl) rfl rfl (Nat.le_of_ble_eq_true rfl) wd_1220 (k := 15) rfl) ?_
        refine gl (i' := 88) (fun _ _ => aw_iload K (dOf ck_mX12_unlikeOf rfl rfl) rfl) ?_
        refine gl (i' := 89) (fun _ _ => aw_iconst K (n := 1) (i32 _ rfl) (dOf ck_mX12_unlikeOf rfl rfl)) ?_
        refine gl (i' := 90) (fun _ _ => aw_isub K (dOf ck_mX12_unlikeOf rfl rfl)) ?_
        refine gl (i' := 91) (fun _ _ => aw_iload_n K (dOf ck_mX12_unlikeOf rfl rfl) rfl) ?_
        refine gl (i' := 92) (fun _ _ => aw_imul K (dOf ck_mX12_unlikeOf rfl rfl)) ?_
        refine gl (i' := 93) (fun _ _ => aw_iload K (dOf ck_mX12_unlikeOf rfl rfl) rfl) ?_
        refine gl (i' := 94) (fun _ _ => aw_iadd K (dOf ck_mX12_unlikeOf rfl rfl)) ?_
        refine gl (i' := 95) (fun _ _ => aw_iald K (dOf ck_mX12_unlikeOf rfl rfl) rfl hb13) ?_
        refine g_goto K (dOf ck_mX12_unlikeOf rfl rfl).1 (t := 106) (aJ_of (by decide +kernel)) ?_
        refine g_sub [3, 4, 5, 6, 7, 8, 1, 0] rfl ?_
        exact lk_R_unlikeOf_106 K _ _ _ _ _ _ _ _ hk11 _ hk21 _ _
      · refine gl (i' := 97) (fun _ _ => aw_aload_n K (dOf ck_mX12_unlikeOf rfl rfl) rfl) ?_
        refine gl (i' := 98) (fun _ _ => aw_getf K (dOf ck_mX12_unlikeOf rfl rfl) rfl rfl (Nat.le_of_ble_eq_true rfl) wd_1220 (k := 15) rfl) ?_
        refine gl (i' := 99) (fun _ _ => aw_iload K (dOf ck_mX12_unlikeOf rfl rfl) rfl) ?_
        refine gl (i' := 100) (fun _ _ => aw_iload_n K (dOf ck_mX12_unlikeOf rfl rfl) rfl) ?_
        refine gl (i' := 101) (fun _ _ => aw_imul K (dOf ck_mX12_unlikeOf rfl rfl)) ?_
        refine gl (i' := 102) (fun _ _ => aw_iload K (dOf ck_mX12_unlikeOf rfl rfl) rfl) ?_
        refine gl (i' := 103) (fun _ _ => aw_iadd K (dOf ck_mX12_unlikeOf rfl rfl)) ?_
        refine gl (i' := 104) (fun _ _ => aw_iconst K (n := 1) (i32 _ rfl) (dOf ck_mX12_unlikeOf rfl rfl)) ?_
        refine gl (i' := 105) (fun _ _ => aw_isub K (dOf ck_mX12_unlikeOf rfl rfl)) ?_
        refine gl (i' := 106) (fun _ _ => aw_iald K (dOf ck_mX12_unlikeOf rfl rfl) rfl hb14) ?_
        refine g_sub [3, 4, 5, 6, 7, 8, 1, 0] rfl ?_
        exact lk_R_unlikeOf_106 K _ _ _ _ _ _ _ _ hk11 _ hk21 _ _
    · refine g_sub [1, 2, 3, 4, 5, 6, 0] rfl ?_
      exact lk_R_unlikeOf_145 K _ _ _ _ _ _ _ hk11 _ hk21 _
  · refine g_sub [1, 2, 3, 4, 5, 6, 0] rfl ?_
    exact lk_R_unlikeOf_145 K _ _ _ _ _ _ _ hk11 _ hk21 _
def R_unlikeOf_21 (k11 : Int → aM → Option (Int × aM)) (x1 : Int) (x2 : Int) (x3 : Int) (x4 : Int) : Nat → Int → aM → Option (Int × aM)
  | 0, _, _ => none
  | n + 1, x5, mm => if x5 < x3 then (if x4 = 0 then (R_unlikeOf_33 k11 (R_unlikeOf_21 k11 x1 x2 x3 x4 n) x1 x2 x3 x4 x5 (w32 (2 * x5)) mm) else (R_unlikeOf_33 k11 (R_unlikeOf_21 k11 x1 x2 x3 x4 n) x1 x2 x3 x4 x5 (w32 (2 * x4)) mm)) else (k11 (w32 (x4 + 1)) mm)
set_option maxHeartbeats 4000000 in
theorem lk_R_unlikeOf_21 {p : Program} {l : Launch} {e : Env} {s : State} {m : MethodId} {args : Array Value} {below : List Frame} {meth : Method} {c : Code} {D : va_G} {cA : FieldType → ClassId} {ad adV : Nat → Nat} {z0 : Nat} {al0 : List Nat} (K : aK p s m args meth c mX12_unlikeOf D cA ad adV z0) (x1 : Int) (x2 : Int) (x3 : Int) (x4 : Int) (k11 : Int → aM → Option (Int × aM)) (hk11 : ∀ (x4 : Int) (mm : aM), aG p l e { frames := 1, cells := 0, slots := 0, locals := 22 } s m args below meth c D cA ad z0 mX12_unlikeOf al0 rIM (k11 x4 mm) 11 [(0, .inr (.inr (.inl (some 176)))), (1, .inl x1), (2, .inl x2), (3, .inl x3), (4, .inl x4)] [] mm)  : ∀ (n : Nat) (x5 : Int) (mm : aM), aG p l e { frames := 1, cells := 0, slots := 0, locals := 22 } s m args below meth c D cA ad z0 mX12_unlikeOf al0 rIM (R_unlikeOf_21 k11 x1 x2 x3 x4 n x5 mm) 21 [(0, .inr (.inr (.inl (some 176)))), (1, .inl x1), (2, .inl x2), (3, .inl x3), (4, .inl x4), (5, .inl x5)] [] mm := by
  intro n
  induction n with
  | zero => intro x5 mm; exact g_none
  | succ n ih =>
    intro x5 mm
    rw [R_unlikeOf_21]
    refine gl (i' := 22) (fun _ _ => aw_iload K (dOf ck_mX12_unlikeOf rfl rfl) rfl) ?_
    refine gl (i' := 23) (fun _ _ => aw_iload_n K (dOf ck_mX12_unlikeOf rfl rfl) rfl) ?_
    refine g_icmp_ge K (dOf ck_mX12_unlikeOf rfl rfl) (t := 156) (aJ_of (by decide +kernel)) (fun h5 => ?_) (fun h5 => ?_)
    · refine gl (i' := 25) (fun _ _ => aw_iload K (dOf ck_mX12_unlikeOf rfl rfl) rfl) ?_
      refine g_if_ne K (dOf ck_mX12_unlikeOf rfl rfl) (t := 30) (aJ_of (by decide +kernel)) (fun h6 => ?_) (fun h6 => ?_)
      · refine gl (i' := 27) (fun _ _ => aw_iconst K (n := 2) (i32 _ rfl) (dOf ck_mX12_unlikeOf rfl rfl)) ?_
        refine gl (i' := 28) (fun _ _ => aw_iload K (dOf ck_mX12_unlikeOf rfl rfl) rfl) ?_
        refine gl (i' := 29) (fun _ _ => aw_imul K (dOf ck_mX12_unlikeOf rfl rfl)) ?_
        refine g_goto K (dOf ck_mX12_unlikeOf rfl rfl).1 (t := 33) (aJ_of (by decide +kernel)) ?_
        refine g_sub [0, 1, 2, 3, 4, 5] rfl ?_
        exact lk_R_unlikeOf_33 K _ _ _ _ _ _ hk11 _ ih _ _
      · refine gl (i' := 31) (fun _ _ => aw_iconst K (n := 2) (i32 _ rfl) (dOf ck_mX12_unlikeOf rfl rfl)) ?_
        refine gl (i' := 32) (fun _ _ => aw_iload K (dOf ck_mX12_unlikeOf rfl rfl) rfl) ?_
        refine gl (i' := 33) (fun _ _ => aw_imul K (dOf ck_mX12_unlikeOf rfl rfl)) ?_
        refine g_sub [0, 1, 2, 3, 4, 5] rfl ?_
        exact lk_R_unlikeOf_33 K _ _ _ _ _ _ hk11 _ ih _ _
    · refine gl (i' := 157) (fun _ _ => aw_iinc K (dOf ck_mX12_unlikeOf rfl rfl) (Nat.le_of_ble_eq_true rfl) rfl) ?_
      refine g_lv (lv' := [(4, .inl _), (0, .inr (.inr (.inl (some _)))), (1, .inl _), (2, .inl _), (3, .inl _), (5, .inl _)]) rfl ?_
      refine g_goto K (dOf ck_mX12_unlikeOf rfl rfl).1 (t := 11) (aJ_of (by decide +kernel)) ?_
      refine g_sub [1, 2, 3, 4, 0] rfl ?_
      exact hk11 _ _
def R_unlikeOf_11 (x1 : Int) (x2 : Int) (x3 : Int) : Nat → Int → aM → Option (Int × aM)
  | 0, _, _ => none
  | n + 1, x4, mm => if 0 ≤ (w32 (19 + x1)) ∧ (w32 (19 + x1)) < 588 then (if (mm 177 (w32 (19 + x1)).toNat) < x4 then (if 0 ≤ (w32 ((w32 ((w32 ((mm 177 (w32 (19 + x1)).toNat) * x3)) + x3)) - 1)) ∧ (w32 ((w32 ((w32 ((mm 177 (w32 (19 + x1)).toNat) * x3)) + x3)) - 1)) < 200 then (some (mm 181 (w32 ((w32 ((w32 ((mm 177 (w32 (19 + x1)).toNat) * x3)) + x3)) - 1)).toNat, mm)) else none) else (R_unlikeOf_21 (R_unlikeOf_11 x1 x2 x3 n) x1 x2 x3 x4 FU 0 mm)) else none
set_option maxHeartbeats 4000000 in
theorem lk_R_unlikeOf_11 {p : Program} {l : Launch} {e : Env} {s : State} {m : MethodId} {args : Array Value} {below : List Frame} {meth : Method} {c : Code} {D : va_G} {cA : FieldType → ClassId} {ad adV : Nat → Nat} {z0 : Nat} {al0 : List Nat} (K : aK p s m args meth c mX12_unlikeOf D cA ad adV z0) (x1 : Int) (x2 : Int) (x3 : Int)  : ∀ (n : Nat) (x4 : Int) (mm : aM), aG p l e { frames := 1, cells := 0, slots := 0, locals := 22 } s m args below meth c D cA ad z0 mX12_unlikeOf al0 rIM (R_unlikeOf_11 x1 x2 x3 n x4 mm) 11 [(0, .inr (.inr (.inl (some 176)))), (1, .inl x1), (2, .inl x2), (3, .inl x3), (4, .inl x4)] [] mm := by
  intro n
  induction n with
  | zero => intro x4 mm; exact g_none
  | succ n ih =>
    intro x4 mm
    rw [R_unlikeOf_11]
    refine gl (i' := 12) (fun _ _ => aw_iload K (dOf ck_mX12_unlikeOf rfl rfl) rfl) ?_
    refine gl (i' := 13) (fun _ _ => aw_aload_n K (dOf ck_mX12_unlikeOf rfl rfl) rfl) ?_
    refine gl (i' := 14) (fun _ _ => aw_getf K (dOf ck_mX12_unlikeOf rfl rfl) rfl rfl (Nat.le_of_ble_eq_true rfl) wd_1206 (k := 1) rfl) ?_
    refine gl (i' := 15) (fun _ _ => aw_bip K (dOf ck_mX12_unlikeOf rfl rfl) (v := 19) rfl) ?_
    refine gl (i' := 16) (fun _ _ => aw_iload_n K (dOf ck_mX12_unlikeOf rfl rfl) rfl) ?_
    refine gl (i' := 17) (fun _ _ => aw_iadd K (dOf ck_mX12_unlikeOf rfl rfl)) ?_
    refine g_gd (fun hb2 => ?_)
    refine gl (i' := 18) (fun _ _ => aw_iald K (dOf ck_mX12_unlikeOf rfl rfl) rfl hb2) ?_
    refine g_icmp_gt K (dOf ck_mX12_unlikeOf rfl rfl) (t := 158) (aJ_of (by decide +kernel)) (fun h3 => ?_) (fun h3 => ?_)
    · refine gl (i' := 159) (fun _ _ => aw_aload_n K (dOf ck_mX12_unlikeOf rfl rfl) rfl) ?_
      refine gl (i' := 160) (fun _ _ => aw_getf K (dOf ck_mX12_unlikeOf rfl rfl) rfl rfl (Nat.le_of_ble_eq_true rfl) wd_1220 (k := 15) rfl) ?_
      refine gl (i' := 161) (fun _ _ => aw_aload_n K (dOf ck_mX12_unlikeOf rfl rfl) rfl) ?_
      refine gl (i' := 162) (fun _ _ => aw_getf K (dOf ck_mX12_unlikeOf rfl rfl) rfl rfl (Nat.le_of_ble_eq_true rfl) wd_1206 (k := 1) rfl) ?_
      refine gl (i' := 163) (fun _ _ => aw_bip K (dOf ck_mX12_unlikeOf rfl rfl) (v := 19) rfl) ?_
      refine gl (i' := 164) (fun _ _ => aw_iload_n K (dOf ck_mX12_unlikeOf rfl rfl) rfl) ?_
      refine gl (i' := 165) (fun _ _ => aw_iadd K (dOf ck_mX12_unlikeOf rfl rfl)) ?_
      refine gl (i' := 166) (fun _ _ => aw_iald K (dOf ck_mX12_unlikeOf rfl rfl) rfl hb2) ?_
      refine gl (i' := 167) (fun _ _ => aw_iload_n K (dOf ck_mX12_unlikeOf rfl rfl) rfl) ?_
      refine gl (i' := 168) (fun _ _ => aw_imul K (dOf ck_mX12_unlikeOf rfl rfl)) ?_
      refine gl (i' := 169) (fun _ _ => aw_iload_n K (dOf ck_mX12_unlikeOf rfl rfl) rfl) ?_
      refine gl (i' := 170) (fun _ _ => aw_iadd K (dOf ck_mX12_unlikeOf rfl rfl)) ?_
      refine gl (i' := 171) (fun _ _ => aw_iconst K (n := 1) (i32 _ rfl) (dOf ck_mX12_unlikeOf rfl rfl)) ?_
      refine gl (i' := 172) (fun _ _ => aw_isub K (dOf ck_mX12_unlikeOf rfl rfl)) ?_
      refine g_gd (fun hb4 => ?_)
      refine gl (i' := 173) (fun _ _ => aw_iald K (dOf ck_mX12_unlikeOf rfl rfl) rfl hb4) ?_
      exact g_iret K (by decide +kernel) rfl (Or.inl rfl) rfl
    · refine gl (i' := 20) (fun _ _ => aw_iconst K (n := 0) (i32 _ rfl) (dOf ck_mX12_unlikeOf rfl rfl)) ?_
      refine gl (i' := 21) (fun _ _ => aw_istore K (dOf ck_mX12_unlikeOf rfl rfl) (Nat.le_of_ble_eq_true rfl)) ?_
      refine g_lv (lv' := [(5, .inl _), (0, .inr (.inr (.inl (some _)))), (1, .inl _), (2, .inl _), (3, .inl _), (4, .inl _)]) rfl ?_
      refine g_sub [1, 2, 3, 4, 5, 0] rfl ?_
      exact lk_R_unlikeOf_21 K _ _ _ _ _ ih FU _ _
def R_unlikeOf (x1 : Int) (x2 : Int) (mm : aM) : Option (Int × aM) := if 0 ≤ (w32 (19 + x2)) ∧ (w32 (19 + x2)) < 588 then (R_unlikeOf_11 x1 x2 (w32 ((mm 177 (w32 (19 + x2)).toNat) + 1)) FU 0 mm) else none
set_option maxHeartbeats 4000000 in
theorem met_R_unlikeOf {l : Launch} {D : va_G} {cA : FieldType → ClassId} {ad adV : Nat → Nat} {z0 : Nat} {x1 : Int} {x2 : Int} {mm : aM}  {r : Int × aM} (h : R_unlikeOf x1 x2 mm = some r) : aMet l D cA ad adV z0 mX12_unlikeOf 1 22 0 0 [.inr (.inr (.inl (some 176))), .inl x1, .inl x2] SH mm (rIM r).1 SH (rIM r).2 := by
  refine aMet_ofG (by decide +kernel) rfl (Nat.le_of_ble_eq_true rfl) h (fun p e s m args below meth c al0 K => ?_)
  unfold R_unlikeOf
  refine gl (i' := 1) (fun _ _ => aw_aload_n K (dOf ck_mX12_unlikeOf rfl rfl) rfl) ?_
  refine gl (i' := 2) (fun _ _ => aw_getf K (dOf ck_mX12_unlikeOf rfl rfl) rfl rfl (Nat.le_of_ble_eq_true rfl) wd_1206 (k := 1) rfl) ?_
  refine gl (i' := 3) (fun _ _ => aw_bip K (dOf ck_mX12_unlikeOf rfl rfl) (v := 19) rfl) ?_
  refine gl (i' := 4) (fun _ _ => aw_iload_n K (dOf ck_mX12_unlikeOf rfl rfl) rfl) ?_
  refine gl (i' := 5) (fun _ _ => aw_iadd K (dOf ck_mX12_unlikeOf rfl rfl)) ?_
  refine g_gd (fun hb1 => ?_)
  refine gl (i' := 6) (fun _ _ => aw_iald K (dOf ck_mX12_unlikeOf rfl rfl) rfl hb1) ?_
  refine gl (i' := 7) (fun _ _ => aw_iconst K (n := 1) (i32 _ rfl) (dOf ck_mX12_unlikeOf rfl rfl)) ?_
  refine gl (i' := 8) (fun _ _ => aw_iadd K (dOf ck_mX12_unlikeOf rfl rfl)) ?_
  refine gl (i' := 9) (fun _ _ => aw_istore_n K (dOf ck_mX12_unlikeOf rfl rfl) (Nat.le_of_ble_eq_true rfl)) ?_
  refine g_lv (lv' := [(3, .inl _), (0, .inr (.inr (.inl (some _)))), (1, .inl _), (2, .inl _)]) rfl ?_
  refine gl (i' := 10) (fun _ _ => aw_iconst K (n := 0) (i32 _ rfl) (dOf ck_mX12_unlikeOf rfl rfl)) ?_
  refine gl (i' := 11) (fun _ _ => aw_istore K (dOf ck_mX12_unlikeOf rfl rfl) (Nat.le_of_ble_eq_true rfl)) ?_
  refine g_lv (lv' := [(4, .inl _), (3, .inl _), (0, .inr (.inr (.inl (some _)))), (1, .inl _), (2, .inl _)]) rfl ?_
  refine g_sub [2, 3, 4, 1, 0] rfl ?_
  exact lk_R_unlikeOf_11 K _ _ _ FU _ _
def R_unlike (x1 : Int) (x2 : Int) (mm : aM) : Option (Int × aM) := st1 (aup mm 176 0 0) fun mm1 => ((R_isWord x1 mm1).bind fun r2 => (if r2 = 0 then (some ((-2), mm1)) else ((R_isWord x2 mm1).bind fun r4 => (if r4 = 0 then (some ((-2), mm1)) else ((R_unlikeOf x1 x2 mm1).bind fun r6 => (some (r6.1, r6.2)))))))
set_option maxHeartbeats 4000000 in
theorem met_R_unlike {l : Launch} {D : va_G} {cA : FieldType → ClassId} {ad adV : Nat → Nat} {z0 : Nat} {x1 : Int} {x2 : Int} {mm : aM}  {r : Int × aM} (h : R_unlike x1 x2 mm = some r) : aMet l D cA ad adV z0 mX12_unlike 2 52 0 0 [.inr (.inr (.inl (some 176))), .inl x1, .inl x2] SH mm (rIM r).1 SH (rIM r).2 := by
  refine aMet_ofG (by decide +kernel) rfl (Nat.le_of_ble_eq_true rfl) h (fun p e s m args below meth c al0 K => ?_)
  unfold R_unlike
  refine gl (i' := 1) (fun _ _ => aw_aload_n K (dOf ck_mX12_unlike rfl rfl) rfl) ?_
  refine gl (i' := 2) (fun _ _ => aw_iconst K (n := 0) (i32 _ rfl) (dOf ck_mX12_unlike rfl rfl)) ?_
  refine g_st1 ?_
  refine gl (i' := 3) (fun _ _ => aw_putf K (dOf ck_mX12_unlike rfl rfl) rfl rfl (Nat.le_of_ble_eq_true rfl) wd_1205 (k := 0) rfl rfl (Or.inl rfl)) ?_
  refine gl (i' := 4) (fun _ _ => aw_aload_n K (dOf ck_mX12_unlike rfl rfl) rfl) ?_
  refine gl (i' := 5) (fun _ _ => aw_iload_n K (dOf ck_mX12_unlike rfl rfl) rfl) ?_
  refine g_callVI K [.inl _] rfl (dOf ck_mX12_unlike rfl rfl) al_OneBreathModel_232 rfl rfl ⟨wd_1353, wd_83⟩ rfl (Nat.le_of_ble_eq_true rfl) ⟨Nat.le_of_ble_eq_true rfl, Nat.le_of_ble_eq_true rfl⟩ (fun b hb => met_R_isWord  hb) (fun r2 hr2 => ?_)
  refine g_if_eq K (dOf ck_mX12_unlike rfl rfl) (t := 16) (aJ_of (by decide +kernel)) (fun h3 => ?_) (fun h3 => ?_)
  · refine gl (i' := 17) (fun _ _ => aw_bip K (dOf ck_mX12_unlike rfl rfl) (v := -2) rfl) ?_
    exact g_iret K (by decide +kernel) rfl (Or.inl rfl) rfl
  · refine gl (i' := 8) (fun _ _ => aw_aload_n K (dOf ck_mX12_unlike rfl rfl) rfl) ?_
    refine gl (i' := 9) (fun _ _ => aw_iload_n K (dOf ck_mX12_unlike rfl rfl) rfl) ?_
    refine g_callVI K [.inl _] rfl (dOf ck_mX12_unlike rfl rfl) al_OneBreathModel_232 rfl rfl ⟨wd_1353, wd_83⟩ rfl (Nat.le_of_ble_eq_true rfl) ⟨Nat.le_of_ble_eq_true rfl, Nat.le_of_ble_eq_true rfl⟩ (fun b hb => met_R_isWord  hb) (fun r4 hr4 => ?_)
    refine g_if_eq K (dOf ck_mX12_unlike rfl rfl) (t := 16) (aJ_of (by decide +kernel)) (fun h5 => ?_) (fun h5 => ?_)
    · refine gl (i' := 17) (fun _ _ => aw_bip K (dOf ck_mX12_unlike rfl rfl) (v := -2) rfl) ?_
      exact g_iret K (by decide +kernel) rfl (Or.inl rfl) rfl
    · refine gl (i' := 12) (fun _ _ => aw_aload_n K (dOf ck_mX12_unlike rfl rfl) rfl) ?_
      refine gl (i' := 13) (fun _ _ => aw_iload_n K (dOf ck_mX12_unlike rfl rfl) rfl) ?_
      refine gl (i' := 14) (fun _ _ => aw_iload_n K (dOf ck_mX12_unlike rfl rfl) rfl) ?_
      refine g_callVIM K [.inl _, .inl _] rfl (dOf ck_mX12_unlike rfl rfl) al_OneBreathModel_244 rfl rfl ⟨wd_1379, wd_84⟩ rfl (Nat.le_of_ble_eq_true rfl) ⟨Nat.le_of_ble_eq_true rfl, Nat.le_of_ble_eq_true rfl⟩ (fun b hb => met_R_unlikeOf  hb) (fun r6 hr6 => ?_)
      refine g_goto K (dOf ck_mX12_unlike rfl rfl).1 (t := 17) (aJ_of (by decide +kernel)) ?_
      exact g_iret K (by decide +kernel) rfl (Or.inl rfl) rfl
def R_near_41 (k15 : Int → Int → Int → aM → Option (Int × aM)) (x1 : Int) (x2 : Int) (x3 : Int) (x4 : Int) (mm : aM) : Option (Int × aM) := k15 x2 x3 (w32 (x4 + 1)) mm
set_option maxHeartbeats 4000000 in
theorem lk_R_near_41 {p : Program} {l : Launch} {e : Env} {s : State} {m : MethodId} {args : Array Value} {below : List Frame} {meth : Method} {c : Code} {D : va_G} {cA : FieldType → ClassId} {ad adV : Nat → Nat} {z0 : Nat} {al0 : List Nat} (K : aK p s m args meth c mX12_near D cA ad adV z0) (x1 : Int) (x2 : Int) (x3 : Int) (x4 : Int) (k15 : Int → Int → Int → aM → Option (Int × aM)) (hk15 : ∀ (x2 : Int) (x3 : Int) (x4 : Int) (mm : aM), aG p l e { frames := 2, cells := 0, slots := 0, locals := 52 } s m args below meth c D cA ad z0 mX12_near al0 rIM (k15 x2 x3 x4 mm) 15 [(0, .inr (.inr (.inl (some 176)))), (1, .inl x1), (2, .inl x2), (3, .inl x3), (4, .inl x4)] [] mm)  (mm : aM) : aG p l e { frames := 2, cells := 0, slots := 0, locals := 52 } s m args below meth c D cA ad z0 mX12_near al0 rIM (R_near_41 k15 x1 x2 x3 x4 mm) 41 [(0, .inr (.inr (.inl (some 176)))), (1, .inl x1), (2, .inl x2), (3, .inl x3), (4, .inl x4)] [] mm := by
  unfold R_near_41
  refine gl (i' := 42) (fun _ _ => aw_iinc K (dOf ck_mX12_near rfl rfl) (Nat.le_of_ble_eq_true rfl) rfl) ?_
  refine g_lv (lv' := [(4, .inl _), (0, .inr (.inr (.inl (some _)))), (1, .inl _), (2, .inl _), (3, .inl _)]) rfl ?_
  refine g_goto K (dOf ck_mX12_near rfl rfl).1 (t := 15) (aJ_of (by decide +kernel)) ?_
  refine g_sub [1, 2, 3, 4, 0] rfl ?_
  exact hk15 _ _ _ _
def R_near_37 (k15 : Int → Int → Int → aM → Option (Int × aM)) (x1 : Int) (x4 : Int) (x5 : Int) (mm : aM) : Option (Int × aM) := R_near_41 k15 x1 x4 x5 x4 mm
set_option maxHeartbeats 4000000 in
theorem lk_R_near_37 {p : Program} {l : Launch} {e : Env} {s : State} {m : MethodId} {args : Array Value} {below : List Frame} {meth : Method} {c : Code} {D : va_G} {cA : FieldType → ClassId} {ad adV : Nat → Nat} {z0 : Nat} {al0 : List Nat} (K : aK p s m args meth c mX12_near D cA ad adV z0) (x1 : Int) (x4 : Int) (x5 : Int) (k15 : Int → Int → Int → aM → Option (Int × aM)) (hk15 : ∀ (x2 : Int) (x3 : Int) (x4 : Int) (mm : aM), aG p l e { frames := 2, cells := 0, slots := 0, locals := 52 } s m args below meth c D cA ad z0 mX12_near al0 rIM (k15 x2 x3 x4 mm) 15 [(0, .inr (.inr (.inl (some 176)))), (1, .inl x1), (2, .inl x2), (3, .inl x3), (4, .inl x4)] [] mm)  (mm : aM) : aG p l e { frames := 2, cells := 0, slots := 0, locals := 52 } s m args below meth c D cA ad z0 mX12_near al0 rIM (R_near_37 k15 x1 x4 x5 mm) 37 [(0, .inr (.inr (.inl (some 176)))), (1, .inl x1), (4, .inl x4), (5, .inl x5)] [] mm := by
  unfold R_near_37
  refine gl (i' := 38) (fun _ _ => aw_iload K (dOf ck_mX12_near rfl rfl) rfl) ?_
  refine gl (i' := 39) (fun _ _ => aw_istore_n K (dOf ck_mX12_near rfl rfl) (Nat.le_of_ble_eq_true rfl)) ?_
  refine g_lv (lv' := [(2, .inl _), (0, .inr (.inr (.inl (some _)))), (1, .inl _), (4, .inl _), (5, .inl _)]) rfl ?_
  refine gl (i' := 40) (fun _ _ => aw_iload K (dOf ck_mX12_near rfl rfl) rfl) ?_
  refine gl (i' := 41) (fun _ _ => aw_istore_n K (dOf ck_mX12_near rfl rfl) (Nat.le_of_ble_eq_true rfl)) ?_
  refine g_lv (lv' := [(3, .inl _), (2, .inl _), (0, .inr (.inr (.inl (some _)))), (1, .inl _), (4, .inl _), (5, .inl _)]) rfl ?_
  refine g_sub [2, 3, 1, 0, 4] rfl ?_
  exact lk_R_near_41 K _ _ _ _ _ hk15 _
def R_near_15 (x1 : Int) : Nat → Int → Int → Int → aM → Option (Int × aM)
  | 0, _, _, _, _ => none
  | n + 1, x2, x3, x4, mm => if x4 < (mm 177 18) then (if x4 = x1 then (R_near_41 (R_near_15 x1 n) x1 x2 x3 x4 mm) else ((R_unlikeOf x1 x4 mm).bind fun r6 => (if x2 = (-1) then (R_near_37 (R_near_15 x1 n) x1 x4 r6.1 r6.2) else (if r6.1 < x3 then (R_near_37 (R_near_15 x1 n) x1 x4 r6.1 r6.2) else (R_near_41 (R_near_15 x1 n) x1 x2 x3 x4 r6.2))))) else (some (x2, mm))
set_option maxHeartbeats 4000000 in
theorem lk_R_near_15 {p : Program} {l : Launch} {e : Env} {s : State} {m : MethodId} {args : Array Value} {below : List Frame} {meth : Method} {c : Code} {D : va_G} {cA : FieldType → ClassId} {ad adV : Nat → Nat} {z0 : Nat} {al0 : List Nat} (K : aK p s m args meth c mX12_near D cA ad adV z0) (x1 : Int)  : ∀ (n : Nat) (x2 : Int) (x3 : Int) (x4 : Int) (mm : aM), aG p l e { frames := 2, cells := 0, slots := 0, locals := 52 } s m args below meth c D cA ad z0 mX12_near al0 rIM (R_near_15 x1 n x2 x3 x4 mm) 15 [(0, .inr (.inr (.inl (some 176)))), (1, .inl x1), (2, .inl x2), (3, .inl x3), (4, .inl x4)] [] mm := by
  intro n
  induction n with
  | zero => intro x2 x3 x4 mm; exact g_none
  | succ n ih =>
    intro x2 x3 x4 mm
    rw [R_near_15]
    refine gl (i' := 16) (fun _ _ => aw_iload K (dOf ck_mX12_near rfl rfl) rfl) ?_
    refine gl (i' := 17) (fun _ _ => aw_aload_n K (dOf ck_mX12_near rfl rfl) rfl) ?_
    refine gl (i' := 18) (fun _ _ => aw_getf K (dOf ck_mX12_near rfl rfl) rfl rfl (Nat.le_of_ble_eq_true rfl) wd_1206 (k := 1) rfl) ?_
    refine gl (i' := 19) (fun _ _ => aw_bip K (dOf ck_mX12_near rfl rfl) (v := 18) rfl) ?_
    refine gl (i' := 20) (fun _ _ => aw_iald K (dOf ck_mX12_near rfl rfl) rfl (by decide)) ?_
    refine g_icmp_ge K (dOf ck_mX12_near rfl rfl) (t := 43) (aJ_of (by decide +kernel)) (fun h4 => ?_) (fun h4 => ?_)
    · refine gl (i' := 22) (fun _ _ => aw_iload K (dOf ck_mX12_near rfl rfl) rfl) ?_
      refine gl (i' := 23) (fun _ _ => aw_iload_n K (dOf ck_mX12_near rfl rfl) rfl) ?_
      refine g_icmp_ne K (dOf ck_mX12_near rfl rfl) (t := 25) (aJ_of (by decide +kernel)) (fun h5 => ?_) (fun h5 => ?_)
      · refine g_goto K (dOf ck_mX12_near rfl rfl).1 (t := 41) (aJ_of (by decide +kernel)) ?_
        refine g_sub [0, 1, 2, 3, 4] rfl ?_
        exact lk_R_near_41 K _ _ _ _ _ ih _
      · refine gl (i' := 26) (fun _ _ => aw_aload_n K (dOf ck_mX12_near rfl rfl) rfl) ?_
        refine gl (i' := 27) (fun _ _ => aw_iload_n K (dOf ck_mX12_near rfl rfl) rfl) ?_
        refine gl (i' := 28) (fun _ _ => aw_iload K (dOf ck_mX12_near rfl rfl) rfl) ?_
        refine g_callVIM K [.inl _, .inl _] rfl (dOf ck_mX12_near rfl rfl) al_OneBreathModel_244 rfl rfl ⟨wd_1379, wd_84⟩ rfl (Nat.le_of_ble_eq_true rfl) ⟨Nat.le_of_ble_eq_true rfl, Nat.le_of_ble_eq_true rfl⟩ (fun b hb => met_R_unlikeOf  hb) (fun r6 hr6 => ?_)
        refine gl (i' := 30) (fun _ _ => aw_istore K (dOf ck_mX12_near rfl rfl) (Nat.le_of_ble_eq_true rfl)) ?_
        refine g_lv (lv' := [(5, .inl _), (0, .inr (.inr (.inl (some _)))), (1, .inl _), (2, .inl _), (3, .inl _), (4, .inl _)]) rfl ?_
        refine gl (i' := 31) (fun _ _ => aw_iload_n K (dOf ck_mX12_near rfl rfl) rfl) ?_
        refine gl (i' := 32) (fun _ _ => aw_iconst K (n := -1) (i32 _ rfl) (dOf ck_mX12_near rfl rfl)) ?_
        refine g_icmp_eq K (dOf ck_mX12_near rfl rfl) (t := 37) (aJ_of (by decide +kernel)) (fun h7 => ?_) (fun h7 => ?_)
        · refine g_sub [1, 2, 5, 0] rfl ?_
          exact lk_R_near_37 K _ _ _ _ ih _
        · refine gl (i' := 34) (fun _ _ => aw_iload K (dOf ck_mX12_near rfl rfl) rfl) ?_
          refine gl (i' := 35) (fun _ _ => aw_iload_n K (dOf ck_mX12_near rfl rfl) rfl) ?_
          refine g_icmp_lt K (dOf ck_mX12_near rfl rfl) (t := 37) (aJ_of (by decide +kernel)) (fun h8 => ?_) (fun h8 => ?_)
          · refine g_sub [1, 2, 5, 0] rfl ?_
            exact lk_R_near_37 K _ _ _ _ ih _
          · refine g_goto K (dOf ck_mX12_near rfl rfl).1 (t := 41) (aJ_of (by decide +kernel)) ?_
            refine g_sub [1, 2, 3, 4, 5] rfl ?_
            exact lk_R_near_41 K _ _ _ _ _ ih _
    · refine gl (i' := 44) (fun _ _ => aw_iload_n K (dOf ck_mX12_near rfl rfl) rfl) ?_
      exact g_iret K (by decide +kernel) rfl (Or.inl rfl) rfl
def R_near (x1 : Int) (mm : aM) : Option (Int × aM) := st1 (aup mm 176 0 0) fun mm1 => ((R_isWord x1 mm1).bind fun r2 => (if r2 = 0 then (some ((-2), mm1)) else (R_near_15 x1 FU (-1) 0 0 mm1)))
set_option maxHeartbeats 4000000 in
theorem met_R_near {l : Launch} {D : va_G} {cA : FieldType → ClassId} {ad adV : Nat → Nat} {z0 : Nat} {x1 : Int} {mm : aM}  {r : Int × aM} (h : R_near x1 mm = some r) : aMet l D cA ad adV z0 mX12_near 2 52 0 0 [.inr (.inr (.inl (some 176))), .inl x1] SH mm (rIM r).1 SH (rIM r).2 := by
  refine aMet_ofG (by decide +kernel) rfl (Nat.le_of_ble_eq_true rfl) h (fun p e s m args below meth c al0 K => ?_)
  unfold R_near
  refine gl (i' := 1) (fun _ _ => aw_aload_n K (dOf ck_mX12_near rfl rfl) rfl) ?_
  refine gl (i' := 2) (fun _ _ => aw_iconst K (n := 0) (i32 _ rfl) (dOf ck_mX12_near rfl rfl)) ?_
  refine g_st1 ?_
  refine gl (i' := 3) (fun _ _ => aw_putf K (dOf ck_mX12_near rfl rfl) rfl rfl (Nat.le_of_ble_eq_true rfl) wd_1205 (k := 0) rfl rfl (Or.inl rfl)) ?_
  refine gl (i' := 4) (fun _ _ => aw_aload_n K (dOf ck_mX12_near rfl rfl) rfl) ?_
  refine gl (i' := 5) (fun _ _ => aw_iload_n K (dOf ck_mX12_near rfl rfl) rfl) ?_
  refine g_callVI K [.inl _] rfl (dOf ck_mX12_near rfl rfl) al_OneBreathModel_232 rfl rfl ⟨wd_1353, wd_83⟩ rfl (Nat.le_of_ble_eq_true rfl) ⟨Nat.le_of_ble_eq_true rfl, Nat.le_of_ble_eq_true rfl⟩ (fun b hb => met_R_isWord  hb) (fun r2 hr2 => ?_)
  refine g_if_ne K (dOf ck_mX12_near rfl rfl) (t := 9) (aJ_of (by decide +kernel)) (fun h3 => ?_) (fun h3 => ?_)
  · refine gl (i' := 8) (fun _ _ => aw_bip K (dOf ck_mX12_near rfl rfl) (v := -2) rfl) ?_
    exact g_iret K (dOf ck_mX12_near rfl rfl).1 rfl (Or.inl rfl) rfl
  · refine gl (i' := 10) (fun _ _ => aw_iconst K (n := -1) (i32 _ rfl) (dOf ck_mX12_near rfl rfl)) ?_
    refine gl (i' := 11) (fun _ _ => aw_istore_n K (dOf ck_mX12_near rfl rfl) (Nat.le_of_ble_eq_true rfl)) ?_
    refine g_lv (lv' := [(2, .inl _), (0, .inr (.inr (.inl (some _)))), (1, .inl _)]) rfl ?_
    refine gl (i' := 12) (fun _ _ => aw_iconst K (n := 0) (i32 _ rfl) (dOf ck_mX12_near rfl rfl)) ?_
    refine gl (i' := 13) (fun _ _ => aw_istore_n K (dOf ck_mX12_near rfl rfl) (Nat.le_of_ble_eq_true rfl)) ?_
    refine g_lv (lv' := [(3, .inl _), (2, .inl _), (0, .inr (.inr (.inl (some _)))), (1, .inl _)]) rfl ?_
    refine gl (i' := 14) (fun _ _ => aw_iconst K (n := 0) (i32 _ rfl) (dOf ck_mX12_near rfl rfl)) ?_
    refine gl (i' := 15) (fun _ _ => aw_istore K (dOf ck_mX12_near rfl rfl) (Nat.le_of_ble_eq_true rfl)) ?_
    refine g_lv (lv' := [(4, .inl _), (3, .inl _), (2, .inl _), (0, .inr (.inr (.inl (some _)))), (1, .inl _)]) rfl ?_
    refine g_sub [3, 4, 2, 1, 0] rfl ?_
    exact lk_R_near_15 K _ FU _ _ _ _
def R_mayStand (x1 : Int) (x2 : Int) (mm : aM) : Option Int := if 0 ≤ (w32 (45 + x1)) ∧ (w32 (45 + x1)) < 588 then (if 0 ≤ (w32 (136 + (mm 177 (w32 (45 + x1)).toNat))) ∧ (w32 (136 + (mm 177 (w32 (45 + x1)).toNat))) < 588 then (if 0 ≤ (w32 (45 + x2)) ∧ (w32 (45 + x2)) < 588 then (if (iand (ishr (mm 177 (w32 (136 + (mm 177 (w32 (45 + x1)).toNat))).toNat) (mm 177 (w32 (45 + x2)).toNat)) 1) = 0 then (some 1) else (some 0)) else none) else none) else none
set_option maxHeartbeats 4000000 in
theorem met_R_mayStand {l : Launch} {D : va_G} {cA : FieldType → ClassId} {ad adV : Nat → Nat} {z0 : Nat} {x1 : Int} {x2 : Int} {mm : aM}  {r : Int} (h : R_mayStand x1 x2 mm = some r) : aMet l D cA ad adV z0 mX12_mayStand 0 0 0 0 [.inr (.inr (.inl (some 176))), .inl x1, .inl x2] SH mm ((rI mm) r).1 SH ((rI mm) r).2 := by
  refine aMet_ofG (by decide +kernel) rfl (Nat.le_of_ble_eq_true rfl) h (fun p e s m args below meth c al0 K => ?_)
  unfold R_mayStand
  refine gl (i' := 1) (fun _ _ => aw_aload_n K (dOf ck_mX12_mayStand rfl rfl) rfl) ?_
  refine gl (i' := 2) (fun _ _ => aw_getf K (dOf ck_mX12_mayStand rfl rfl) rfl rfl (Nat.le_of_ble_eq_true rfl) wd_1206 (k := 1) rfl) ?_
  refine gl (i' := 3) (fun _ _ => aw_sip K (dOf ck_mX12_mayStand rfl rfl) (v := 136) rfl) ?_
  refine gl (i' := 4) (fun _ _ => aw_aload_n K (dOf ck_mX12_mayStand rfl rfl) rfl) ?_
  refine gl (i' := 5) (fun _ _ => aw_getf K (dOf ck_mX12_mayStand rfl rfl) rfl rfl (Nat.le_of_ble_eq_true rfl) wd_1206 (k := 1) rfl) ?_
  refine gl (i' := 6) (fun _ _ => aw_bip K (dOf ck_mX12_mayStand rfl rfl) (v := 45) rfl) ?_
  refine gl (i' := 7) (fun _ _ => aw_iload_n K (dOf ck_mX12_mayStand rfl rfl) rfl) ?_
  refine gl (i' := 8) (fun _ _ => aw_iadd K (dOf ck_mX12_mayStand rfl rfl)) ?_
  refine g_gd (fun hb1 => ?_)
  refine gl (i' := 9) (fun _ _ => aw_iald K (dOf ck_mX12_mayStand rfl rfl) rfl hb1) ?_
  refine gl (i' := 10) (fun _ _ => aw_iadd K (dOf ck_mX12_mayStand rfl rfl)) ?_
  refine g_gd (fun hb2 => ?_)
  refine gl (i' := 11) (fun _ _ => aw_iald K (dOf ck_mX12_mayStand rfl rfl) rfl hb2) ?_
  refine gl (i' := 12) (fun _ _ => aw_aload_n K (dOf ck_mX12_mayStand rfl rfl) rfl) ?_
  refine gl (i' := 13) (fun _ _ => aw_getf K (dOf ck_mX12_mayStand rfl rfl) rfl rfl (Nat.le_of_ble_eq_true rfl) wd_1206 (k := 1) rfl) ?_
  refine gl (i' := 14) (fun _ _ => aw_bip K (dOf ck_mX12_mayStand rfl rfl) (v := 45) rfl) ?_
  refine gl (i' := 15) (fun _ _ => aw_iload_n K (dOf ck_mX12_mayStand rfl rfl) rfl) ?_
  refine gl (i' := 16) (fun _ _ => aw_iadd K (dOf ck_mX12_mayStand rfl rfl)) ?_
  refine g_gd (fun hb3 => ?_)
  refine gl (i' := 17) (fun _ _ => aw_iald K (dOf ck_mX12_mayStand rfl rfl) rfl hb3) ?_
  refine gl (i' := 18) (fun _ _ => aw_ishr K (dOf ck_mX12_mayStand rfl rfl)) ?_
  refine gl (i' := 19) (fun _ _ => aw_iconst K (n := 1) (i32 _ rfl) (dOf ck_mX12_mayStand rfl rfl)) ?_
  refine gl (i' := 20) (fun _ _ => aw_iand K (dOf ck_mX12_mayStand rfl rfl)) ?_
  refine g_if_ne K (dOf ck_mX12_mayStand rfl rfl) (t := 23) (aJ_of (by decide +kernel)) (fun h4 => ?_) (fun h4 => ?_)
  · refine gl (i' := 22) (fun _ _ => aw_iconst K (n := 1) (i32 _ rfl) (dOf ck_mX12_mayStand rfl rfl)) ?_
    refine g_goto K (dOf ck_mX12_mayStand rfl rfl).1 (t := 24) (aJ_of (by decide +kernel)) ?_
    exact g_iret K (by decide +kernel) rfl (Or.inr (Or.inl ⟨rfl, Or.inr rfl⟩)) rfl
  · refine gl (i' := 24) (fun _ _ => aw_iconst K (n := 0) (i32 _ rfl) (dOf ck_mX12_mayStand rfl rfl)) ?_
    exact g_iret K (by decide +kernel) rfl (Or.inr (Or.inl ⟨rfl, Or.inl rfl⟩)) rfl
def R_firstWrong_48 (mm : aM) (k2 : Int → Option Int) (x1 : Int) (x2 : Int) : Option Int := k2 (w32 (x2 + 1))
set_option maxHeartbeats 4000000 in
theorem lk_R_firstWrong_48 {p : Program} {l : Launch} {e : Env} {s : State} {m : MethodId} {args : Array Value} {below : List Frame} {meth : Method} {c : Code} {D : va_G} {cA : FieldType → ClassId} {ad adV : Nat → Nat} {z0 : Nat} {al0 : List Nat} {mm : aM} (K : aK p s m args meth c mX12_firstWrong D cA ad adV z0) (x1 : Int) (x2 : Int) (k2 : Int → Option Int) (hk2 : ∀ (x2 : Int), aG p l e { frames := 1, cells := 0, slots := 0, locals := 25 } s m args below meth c D cA ad z0 mX12_firstWrong al0 (rI mm) (k2 x2) 2 [(0, .inr (.inr (.inl (some 176)))), (1, .inl x1), (2, .inl x2)] [] mm)  : aG p l e { frames := 1, cells := 0, slots := 0, locals := 25 } s m args below meth c D cA ad z0 mX12_firstWrong al0 (rI mm) (R_firstWrong_48 mm k2 x1 x2) 48 [(0, .inr (.inr (.inl (some 176)))), (1, .inl x1), (2, .inl x2)] [] mm := by
  unfold R_firstWrong_48
  refine gl (i' := 49) (fun _ _ => aw_iinc K (dOf ck_mX12_firstWrong rfl rfl) (Nat.le_of_ble_eq_true rfl) rfl) ?_
  refine g_lv (lv' := [(2, .inl _), (0, .inr (.inr (.inl (some _)))), (1, .inl _)]) rfl ?_
  refine g_goto K (dOf ck_mX12_firstWrong rfl rfl).1 (t := 2) (aJ_of (by decide +kernel)) ?_
  refine g_sub [1, 2, 0] rfl ?_
  exact hk2 _
def R_firstWrong_2 (mm : aM) (x1 : Int) : Nat → Int → Option Int
  | 0, _ => none
  | n + 1, x2 => if 0 ≤ x1 ∧ x1 < 4 then (if x2 < (mm 206 x1.toNat) then (if 0 ≤ (w32 ((w32 (40 * x1)) + x2)) ∧ (w32 ((w32 (40 * x1)) + x2)) < 160 then ((R_within (mm 207 (w32 ((w32 (40 * x1)) + x2)).toNat) 0 (w32 ((mm 177 18) - 1)) mm).bind fun r4 => (if r4 = 0 then (some x2) else (if 0 < x2 then (if 0 ≤ (w32 ((w32 ((w32 (40 * x1)) + x2)) - 1)) ∧ (w32 ((w32 ((w32 (40 * x1)) + x2)) - 1)) < 160 then ((R_mayStand (w32 (mm 207 (w32 ((w32 ((w32 (40 * x1)) + x2)) - 1)).toNat)) (w32 (mm 207 (w32 ((w32 (40 * x1)) + x2)).toNat)) mm).bind fun r8 => (if r8 = 0 then (some x2) else (R_firstWrong_48 mm (R_firstWrong_2 mm x1 n) x1 x2))) else none) else (R_firstWrong_48 mm (R_firstWrong_2 mm x1 n) x1 x2)))) else none) else (some (mm 206 x1.toNat))) else none
set_option maxHeartbeats 4000000 in
theorem lk_R_firstWrong_2 {p : Program} {l : Launch} {e : Env} {s : State} {m : MethodId} {args : Array Value} {below : List Frame} {meth : Method} {c : Code} {D : va_G} {cA : FieldType → ClassId} {ad adV : Nat → Nat} {z0 : Nat} {al0 : List Nat} {mm : aM} (K : aK p s m args meth c mX12_firstWrong D cA ad adV z0) (x1 : Int)  : ∀ (n : Nat) (x2 : Int), aG p l e { frames := 1, cells := 0, slots := 0, locals := 25 } s m args below meth c D cA ad z0 mX12_firstWrong al0 (rI mm) (R_firstWrong_2 mm x1 n x2) 2 [(0, .inr (.inr (.inl (some 176)))), (1, .inl x1), (2, .inl x2)] [] mm := by
  intro n
  induction n with
  | zero => intro x2; exact g_none
  | succ n ih =>
    intro x2
    rw [R_firstWrong_2]
    refine gl (i' := 3) (fun _ _ => aw_iload_n K (dOf ck_mX12_firstWrong rfl rfl) rfl) ?_
    refine gl (i' := 4) (fun _ _ => aw_aload_n K (dOf ck_mX12_firstWrong rfl rfl) rfl) ?_
    refine gl (i' := 5) (fun _ _ => aw_getf K (dOf ck_mX12_firstWrong rfl rfl) rfl rfl (Nat.le_of_ble_eq_true rfl) wd_1258 (k := 53) rfl) ?_
    refine gl (i' := 6) (fun _ _ => aw_iload_n K (dOf ck_mX12_firstWrong rfl rfl) rfl) ?_
    refine g_gd (fun hb1 => ?_)
    refine gl (i' := 7) (fun _ _ => aw_iald K (dOf ck_mX12_firstWrong rfl rfl) rfl hb1) ?_
    refine g_icmp_ge K (dOf ck_mX12_firstWrong rfl rfl) (t := 50) (aJ_of (by decide +kernel)) (fun h2 => ?_) (fun h2 => ?_)
    · refine gl (i' := 9) (fun _ _ => aw_aload_n K (dOf ck_mX12_firstWrong rfl rfl) rfl) ?_
      refine gl (i' := 10) (fun _ _ => aw_getf K (dOf ck_mX12_firstWrong rfl rfl) rfl rfl (Nat.le_of_ble_eq_true rfl) wd_1259 (k := 54) rfl) ?_
      refine gl (i' := 11) (fun _ _ => aw_bip K (dOf ck_mX12_firstWrong rfl rfl) (v := 40) rfl) ?_
      refine gl (i' := 12) (fun _ _ => aw_iload_n K (dOf ck_mX12_firstWrong rfl rfl) rfl) ?_
      refine gl (i' := 13) (fun _ _ => aw_imul K (dOf ck_mX12_firstWrong rfl rfl)) ?_
      refine gl (i' := 14) (fun _ _ => aw_iload_n K (dOf ck_mX12_firstWrong rfl rfl) rfl) ?_
      refine gl (i' := 15) (fun _ _ => aw_iadd K (dOf ck_mX12_firstWrong rfl rfl)) ?_
      refine g_gd (fun hb3 => ?_)
      refine gl (i' := 16) (fun _ _ => aw_lald K (dOf ck_mX12_firstWrong rfl rfl) rfl hb3) ?_
      refine gl (i' := 17) (fun _ _ => aw_lstore_n K (dOf ck_mX12_firstWrong rfl rfl) (Nat.le_of_ble_eq_true rfl)) ?_
      refine g_lv (lv' := [(3, .inr (.inl _)), (0, .inr (.inr (.inl (some _)))), (1, .inl _), (2, .inl _)]) rfl ?_
      refine gl (i' := 18) (fun _ _ => aw_lload_n K (dOf ck_mX12_firstWrong rfl rfl) rfl) ?_
      refine gl (i' := 19) (fun _ _ => aw_lcn K (dOf ck_mX12_firstWrong rfl rfl) (v := 0) rfl) ?_
      refine gl (i' := 20) (fun _ _ => aw_aload_n K (dOf ck_mX12_firstWrong rfl rfl) rfl) ?_
      refine gl (i' := 21) (fun _ _ => aw_getf K (dOf ck_mX12_firstWrong rfl rfl) rfl rfl (Nat.le_of_ble_eq_true rfl) wd_1206 (k := 1) rfl) ?_
      refine gl (i' := 22) (fun _ _ => aw_bip K (dOf ck_mX12_firstWrong rfl rfl) (v := 18) rfl) ?_
      refine gl (i' := 23) (fun _ _ => aw_iald K (dOf ck_mX12_firstWrong rfl rfl) rfl (by decide)) ?_
      refine gl (i' := 24) (fun _ _ => aw_iconst K (n := 1) (i32 _ rfl) (dOf ck_mX12_firstWrong rfl rfl)) ?_
      refine gl (i' := 25) (fun _ _ => aw_isub K (dOf ck_mX12_firstWrong rfl rfl)) ?_
      refine gl (i' := 26) (fun _ _ => aw_i2l K (dOf ck_mX12_firstWrong rfl rfl)) ?_
      refine g_callSI K [.inr (.inl _), .inr (.inl _), .inr (.inl _)] rfl (dOf ck_mX12_firstWrong rfl rfl) al_OneBreathModel_176 wd_1269 rfl (Nat.le_of_ble_eq_true rfl) ⟨Nat.le_of_ble_eq_true rfl, Nat.le_of_ble_eq_true rfl⟩ (fun b hb => met_R_within  hb) (fun r4 hr4 => ?_)
      refine g_if_eq K (dOf ck_mX12_firstWrong rfl rfl) (t := 46) (aJ_of (by decide +kernel)) (fun h5 => ?_) (fun h5 => ?_)
      · refine gl (i' := 47) (fun _ _ => aw_iload_n K (dOf ck_mX12_firstWrong rfl rfl) rfl) ?_
        exact g_iret K (dOf ck_mX12_firstWrong rfl rfl).1 rfl (Or.inl rfl) rfl
      · refine gl (i' := 29) (fun _ _ => aw_iload_n K (dOf ck_mX12_firstWrong rfl rfl) rfl) ?_
        refine g_if_le K (dOf ck_mX12_firstWrong rfl rfl) (t := 48) (aJ_of (by decide +kernel)) (fun h6 => ?_) (fun h6 => ?_)
        · refine gl (i' := 31) (fun _ _ => aw_aload_n K (dOf ck_mX12_firstWrong rfl rfl) rfl) ?_
          refine gl (i' := 32) (fun _ _ => aw_aload_n K (dOf ck_mX12_firstWrong rfl rfl) rfl) ?_
          refine gl (i' := 33) (fun _ _ => aw_getf K (dOf ck_mX12_firstWrong rfl rfl) rfl rfl (Nat.le_of_ble_eq_true rfl) wd_1259 (k := 54) rfl) ?_
          refine gl (i' := 34) (fun _ _ => aw_bip K (dOf ck_mX12_firstWrong rfl rfl) (v := 40) rfl) ?_
          refine gl (i' := 35) (fun _ _ => aw_iload_n K (dOf ck_mX12_firstWrong rfl rfl) rfl) ?_
          refine gl (i' := 36) (fun _ _ => aw_imul K (dOf ck_mX12_firstWrong rfl rfl)) ?_
          refine gl (i' := 37) (fun _ _ => aw_iload_n K (dOf ck_mX12_firstWrong rfl rfl) rfl) ?_
          refine gl (i' := 38) (fun _ _ => aw_iadd K (dOf ck_mX12_firstWrong rfl rfl)) ?_
          refine gl (i' := 39) (fun _ _ => aw_iconst K (n := 1) (i32 _ rfl) (dOf ck_mX12_firstWrong rfl rfl)) ?_
          refine gl (i' := 40) (fun _ _ => aw_isub K (dOf ck_mX12_firstWrong rfl rfl)) ?_
          refine g_gd (fun hb7 => ?_)
          refine gl (i' := 41) (fun _ _ => aw_lald K (dOf ck_mX12_firstWrong rfl rfl) rfl hb7) ?_
          refine gl (i' := 42) (fun _ _ => aw_l2i K (dOf ck_mX12_firstWrong rfl rfl)) ?_
          refine gl (i' := 43) (fun _ _ => aw_lload_n K (dOf ck_mX12_firstWrong rfl rfl) rfl) ?_
          refine gl (i' := 44) (fun _ _ => aw_l2i K (dOf ck_mX12_firstWrong rfl rfl)) ?_
          refine g_callVI K [.inl _, .inl _] rfl (dOf ck_mX12_firstWrong rfl rfl) al_OneBreathModel_247 rfl rfl ⟨wd_1396, wd_87⟩ rfl (Nat.le_of_ble_eq_true rfl) ⟨Nat.le_of_ble_eq_true rfl, Nat.le_of_ble_eq_true rfl⟩ (fun b hb => met_R_mayStand  hb) (fun r8 hr8 => ?_)
          refine g_if_ne K (dOf ck_mX12_firstWrong rfl rfl) (t := 48) (aJ_of (by decide +kernel)) (fun h9 => ?_) (fun h9 => ?_)
          · refine gl (i' := 47) (fun _ _ => aw_iload_n K (dOf ck_mX12_firstWrong rfl rfl) rfl) ?_
            exact g_iret K (dOf ck_mX12_firstWrong rfl rfl).1 rfl (Or.inl rfl) rfl
          · refine g_sub [1, 2, 3] rfl ?_
            exact lk_R_firstWrong_48 K _ _ _ ih
        · refine g_sub [1, 2, 3] rfl ?_
          exact lk_R_firstWrong_48 K _ _ _ ih
    · refine gl (i' := 51) (fun _ _ => aw_aload_n K (dOf ck_mX12_firstWrong rfl rfl) rfl) ?_
      refine gl (i' := 52) (fun _ _ => aw_getf K (dOf ck_mX12_firstWrong rfl rfl) rfl rfl (Nat.le_of_ble_eq_true rfl) wd_1258 (k := 53) rfl) ?_
      refine gl (i' := 53) (fun _ _ => aw_iload_n K (dOf ck_mX12_firstWrong rfl rfl) rfl) ?_
      refine gl (i' := 54) (fun _ _ => aw_iald K (dOf ck_mX12_firstWrong rfl rfl) rfl hb1) ?_
      exact g_iret K (by decide +kernel) rfl (Or.inl rfl) rfl
def R_firstWrong (x1 : Int) (mm : aM) : Option Int := R_firstWrong_2 mm x1 FU 0
set_option maxHeartbeats 4000000 in
theorem met_R_firstWrong {l : Launch} {D : va_G} {cA : FieldType → ClassId} {ad adV : Nat → Nat} {z0 : Nat} {x1 : Int} {mm : aM}  {r : Int} (h : R_firstWrong x1 mm = some r) : aMet l D cA ad adV z0 mX12_firstWrong 1 25 0 0 [.inr (.inr (.inl (some 176))), .inl x1] SH mm ((rI mm) r).1 SH ((rI mm) r).2 := by
  refine aMet_ofG (by decide +kernel) rfl (Nat.le_of_ble_eq_true rfl) h (fun p e s m args below meth c al0 K => ?_)
  unfold R_firstWrong
  refine gl (i' := 1) (fun _ _ => aw_iconst K (n := 0) (i32 _ rfl) (dOf ck_mX12_firstWrong rfl rfl)) ?_
  refine gl (i' := 2) (fun _ _ => aw_istore_n K (dOf ck_mX12_firstWrong rfl rfl) (Nat.le_of_ble_eq_true rfl)) ?_
  refine g_lv (lv' := [(2, .inl _), (0, .inr (.inr (.inl (some _)))), (1, .inl _)]) rfl ?_
  refine g_sub [1, 2, 0] rfl ?_
  exact lk_R_firstWrong_2 K _ FU _
def R_mayEnd (x1 : Int) (mm : aM) : Option Int := if 0 ≤ (w32 (45 + x1)) ∧ (w32 (45 + x1)) < 588 then (if (iand (ishr (mm 177 140) (mm 177 (w32 (45 + x1)).toNat)) 1) = 0 then (some 1) else (some 0)) else none
set_option maxHeartbeats 4000000 in
theorem met_R_mayEnd {l : Launch} {D : va_G} {cA : FieldType → ClassId} {ad adV : Nat → Nat} {z0 : Nat} {x1 : Int} {mm : aM}  {r : Int} (h : R_mayEnd x1 mm = some r) : aMet l D cA ad adV z0 mX12_mayEnd 0 0 0 0 [.inr (.inr (.inl (some 176))), .inl x1] SH mm ((rI mm) r).1 SH ((rI mm) r).2 := by
  refine aMet_ofG (by decide +kernel) rfl (Nat.le_of_ble_eq_true rfl) h (fun p e s m args below meth c al0 K => ?_)
  unfold R_mayEnd
  refine gl (i' := 1) (fun _ _ => aw_aload_n K (dOf ck_mX12_mayEnd rfl rfl) rfl) ?_
  refine gl (i' := 2) (fun _ _ => aw_getf K (dOf ck_mX12_mayEnd rfl rfl) rfl rfl (Nat.le_of_ble_eq_true rfl) wd_1206 (k := 1) rfl) ?_
  refine gl (i' := 3) (fun _ _ => aw_sip K (dOf ck_mX12_mayEnd rfl rfl) (v := 140) rfl) ?_
  refine gl (i' := 4) (fun _ _ => aw_iald K (dOf ck_mX12_mayEnd rfl rfl) rfl (by decide)) ?_
  refine gl (i' := 5) (fun _ _ => aw_aload_n K (dOf ck_mX12_mayEnd rfl rfl) rfl) ?_
  refine gl (i' := 6) (fun _ _ => aw_getf K (dOf ck_mX12_mayEnd rfl rfl) rfl rfl (Nat.le_of_ble_eq_true rfl) wd_1206 (k := 1) rfl) ?_
  refine gl (i' := 7) (fun _ _ => aw_bip K (dOf ck_mX12_mayEnd rfl rfl) (v := 45) rfl) ?_
  refine gl (i' := 8) (fun _ _ => aw_iload_n K (dOf ck_mX12_mayEnd rfl rfl) rfl) ?_
  refine gl (i' := 9) (fun _ _ => aw_iadd K (dOf ck_mX12_mayEnd rfl rfl)) ?_
  refine g_gd (fun hb1 => ?_)
  refine gl (i' := 10) (fun _ _ => aw_iald K (dOf ck_mX12_mayEnd rfl rfl) rfl hb1) ?_
  refine gl (i' := 11) (fun _ _ => aw_ishr K (dOf ck_mX12_mayEnd rfl rfl)) ?_
  refine gl (i' := 12) (fun _ _ => aw_iconst K (n := 1) (i32 _ rfl) (dOf ck_mX12_mayEnd rfl rfl)) ?_
  refine gl (i' := 13) (fun _ _ => aw_iand K (dOf ck_mX12_mayEnd rfl rfl)) ?_
  refine g_if_ne K (dOf ck_mX12_mayEnd rfl rfl) (t := 16) (aJ_of (by decide +kernel)) (fun h2 => ?_) (fun h2 => ?_)
  · refine gl (i' := 15) (fun _ _ => aw_iconst K (n := 1) (i32 _ rfl) (dOf ck_mX12_mayEnd rfl rfl)) ?_
    refine g_goto K (dOf ck_mX12_mayEnd rfl rfl).1 (t := 17) (aJ_of (by decide +kernel)) ?_
    exact g_iret K (by decide +kernel) rfl (Or.inr (Or.inl ⟨rfl, Or.inr rfl⟩)) rfl
  · refine gl (i' := 17) (fun _ _ => aw_iconst K (n := 0) (i32 _ rfl) (dOf ck_mX12_mayEnd rfl rfl)) ?_
    exact g_iret K (by decide +kernel) rfl (Or.inr (Or.inl ⟨rfl, Or.inl rfl⟩)) rfl
def R_isSentence (x1 : Int) (mm : aM) : Option Int := if 0 ≤ x1 ∧ x1 < 4 then (if 0 < (mm 206 x1.toNat) then ((R_firstWrong x1 mm).bind fun r3 => (if r3 = (mm 206 x1.toNat) then (if 0 ≤ (w32 ((w32 ((w32 (40 * x1)) + (mm 206 x1.toNat))) - 1)) ∧ (w32 ((w32 ((w32 (40 * x1)) + (mm 206 x1.toNat))) - 1)) < 160 then ((R_mayEnd (w32 (mm 207 (w32 ((w32 ((w32 (40 * x1)) + (mm 206 x1.toNat))) - 1)).toNat)) mm).bind fun r6 => (if r6 = 0 then (some 0) else (some 1))) else none) else (some 0))) else (some 0)) else none
set_option maxHeartbeats 4000000 in
theorem met_R_isSentence {l : Launch} {D : va_G} {cA : FieldType → ClassId} {ad adV : Nat → Nat} {z0 : Nat} {x1 : Int} {mm : aM}  {r : Int} (h : R_isSentence x1 mm = some r) : aMet l D cA ad adV z0 mX12_isSentence 2 49 0 0 [.inr (.inr (.inl (some 176))), .inl x1] SH mm ((rI mm) r).1 SH ((rI mm) r).2 := by
  refine aMet_ofG (by decide +kernel) rfl (Nat.le_of_ble_eq_true rfl) h (fun p e s m args below meth c al0 K => ?_)
  unfold R_isSentence
  refine gl (i' := 1) (fun _ _ => aw_aload_n K (dOf ck_mX12_isSentence rfl rfl) rfl) ?_
  refine gl (i' := 2) (fun _ _ => aw_getf K (dOf ck_mX12_isSentence rfl rfl) rfl rfl (Nat.le_of_ble_eq_true rfl) wd_1258 (k := 53) rfl) ?_
  refine gl (i' := 3) (fun _ _ => aw_iload_n K (dOf ck_mX12_isSentence rfl rfl) rfl) ?_
  refine g_gd (fun hb1 => ?_)
  refine gl (i' := 4) (fun _ _ => aw_iald K (dOf ck_mX12_isSentence rfl rfl) rfl hb1) ?_
  refine gl (i' := 5) (fun _ _ => aw_istore_n K (dOf ck_mX12_isSentence rfl rfl) (Nat.le_of_ble_eq_true rfl)) ?_
  refine g_lv (lv' := [(2, .inl _), (0, .inr (.inr (.inl (some _)))), (1, .inl _)]) rfl ?_
  refine gl (i' := 6) (fun _ _ => aw_iload_n K (dOf ck_mX12_isSentence rfl rfl) rfl) ?_
  refine g_if_le K (dOf ck_mX12_isSentence rfl rfl) (t := 28) (aJ_of (by decide +kernel)) (fun h2 => ?_) (fun h2 => ?_)
  · refine gl (i' := 8) (fun _ _ => aw_aload_n K (dOf ck_mX12_isSentence rfl rfl) rfl) ?_
    refine gl (i' := 9) (fun _ _ => aw_iload_n K (dOf ck_mX12_isSentence rfl rfl) rfl) ?_
    refine g_callVI K [.inl _] rfl (dOf ck_mX12_isSentence rfl rfl) al_OneBreathModel_250 rfl rfl ⟨wd_1393, wd_86⟩ rfl (Nat.le_of_ble_eq_true rfl) ⟨Nat.le_of_ble_eq_true rfl, Nat.le_of_ble_eq_true rfl⟩ (fun b hb => met_R_firstWrong  hb) (fun r3 hr3 => ?_)
    refine gl (i' := 11) (fun _ _ => aw_iload_n K (dOf ck_mX12_isSentence rfl rfl) rfl) ?_
    refine g_icmp_ne K (dOf ck_mX12_isSentence rfl rfl) (t := 28) (aJ_of (by decide +kernel)) (fun h4 => ?_) (fun h4 => ?_)
    · refine gl (i' := 13) (fun _ _ => aw_aload_n K (dOf ck_mX12_isSentence rfl rfl) rfl) ?_
      refine gl (i' := 14) (fun _ _ => aw_aload_n K (dOf ck_mX12_isSentence rfl rfl) rfl) ?_
      refine gl (i' := 15) (fun _ _ => aw_getf K (dOf ck_mX12_isSentence rfl rfl) rfl rfl (Nat.le_of_ble_eq_true rfl) wd_1259 (k := 54) rfl) ?_
      refine gl (i' := 16) (fun _ _ => aw_bip K (dOf ck_mX12_isSentence rfl rfl) (v := 40) rfl) ?_
      refine gl (i' := 17) (fun _ _ => aw_iload_n K (dOf ck_mX12_isSentence rfl rfl) rfl) ?_
      refine gl (i' := 18) (fun _ _ => aw_imul K (dOf ck_mX12_isSentence rfl rfl)) ?_
      refine gl (i' := 19) (fun _ _ => aw_iload_n K (dOf ck_mX12_isSentence rfl rfl) rfl) ?_
      refine gl (i' := 20) (fun _ _ => aw_iadd K (dOf ck_mX12_isSentence rfl rfl)) ?_
      refine gl (i' := 21) (fun _ _ => aw_iconst K (n := 1) (i32 _ rfl) (dOf ck_mX12_isSentence rfl rfl)) ?_
      refine gl (i' := 22) (fun _ _ => aw_isub K (dOf ck_mX12_isSentence rfl rfl)) ?_
      refine g_gd (fun hb5 => ?_)
      refine gl (i' := 23) (fun _ _ => aw_lald K (dOf ck_mX12_isSentence rfl rfl) rfl hb5) ?_
      refine gl (i' := 24) (fun _ _ => aw_l2i K (dOf ck_mX12_isSentence rfl rfl)) ?_
      refine g_callVI K [.inl _] rfl (dOf ck_mX12_isSentence rfl rfl) al_OneBreathModel_253 rfl rfl ⟨wd_1402, wd_89⟩ rfl (Nat.le_of_ble_eq_true rfl) ⟨Nat.le_of_ble_eq_true rfl, Nat.le_of_ble_eq_true rfl⟩ (fun b hb => met_R_mayEnd  hb) (fun r6 hr6 => ?_)
      refine g_if_eq K (dOf ck_mX12_isSentence rfl rfl) (t := 28) (aJ_of (by decide +kernel)) (fun h7 => ?_) (fun h7 => ?_)
      · refine gl (i' := 29) (fun _ _ => aw_iconst K (n := 0) (i32 _ rfl) (dOf ck_mX12_isSentence rfl rfl)) ?_
        exact g_iret K (by decide +kernel) rfl (Or.inr (Or.inl ⟨rfl, Or.inl rfl⟩)) rfl
      · refine gl (i' := 27) (fun _ _ => aw_iconst K (n := 1) (i32 _ rfl) (dOf ck_mX12_isSentence rfl rfl)) ?_
        refine g_goto K (dOf ck_mX12_isSentence rfl rfl).1 (t := 29) (aJ_of (by decide +kernel)) ?_
        exact g_iret K (by decide +kernel) rfl (Or.inr (Or.inl ⟨rfl, Or.inr rfl⟩)) rfl
    · refine gl (i' := 29) (fun _ _ => aw_iconst K (n := 0) (i32 _ rfl) (dOf ck_mX12_isSentence rfl rfl)) ?_
      exact g_iret K (by decide +kernel) rfl (Or.inr (Or.inl ⟨rfl, Or.inl rfl⟩)) rfl
  · refine gl (i' := 29) (fun _ _ => aw_iconst K (n := 0) (i32 _ rfl) (dOf ck_mX12_isSentence rfl rfl)) ?_
    exact g_iret K (by decide +kernel) rfl (Or.inr (Or.inl ⟨rfl, Or.inl rfl⟩)) rfl
def R_soundsOf_4 (mm : aM) (x1 : Int) (x2 : Int) : Nat → Int → Int → Option Int
  | 0, _, _ => none
  | n + 1, x3, x4 => if x4 < x2 then (if 0 ≤ (w32 ((w32 (40 * x1)) + x4)) ∧ (w32 ((w32 (40 * x1)) + x4)) < 160 then (if 0 ≤ (w32 (19 + (w32 (mm 207 (w32 ((w32 (40 * x1)) + x4)).toNat)))) ∧ (w32 (19 + (w32 (mm 207 (w32 ((w32 (40 * x1)) + x4)).toNat)))) < 588 then (R_soundsOf_4 mm x1 x2 n (w32 (x3 + (mm 177 (w32 (19 + (w32 (mm 207 (w32 ((w32 (40 * x1)) + x4)).toNat)))).toNat))) (w32 (x4 + 1))) else none) else none) else (some x3)
set_option maxHeartbeats 4000000 in
theorem lk_R_soundsOf_4 {p : Program} {l : Launch} {e : Env} {s : State} {m : MethodId} {args : Array Value} {below : List Frame} {meth : Method} {c : Code} {D : va_G} {cA : FieldType → ClassId} {ad adV : Nat → Nat} {z0 : Nat} {al0 : List Nat} {mm : aM} (K : aK p s m args meth c mX12_soundsOf D cA ad adV z0) (x1 : Int) (x2 : Int)  : ∀ (n : Nat) (x3 : Int) (x4 : Int), aG p l e { frames := 0, cells := 0, slots := 0, locals := 0 } s m args below meth c D cA ad z0 mX12_soundsOf al0 (rI mm) (R_soundsOf_4 mm x1 x2 n x3 x4) 4 [(0, .inr (.inr (.inl (some 176)))), (1, .inl x1), (2, .inl x2), (3, .inl x3), (4, .inl x4)] [] mm := by
  intro n
  induction n with
  | zero => intro x3 x4; exact g_none
  | succ n ih =>
    intro x3 x4
    rw [R_soundsOf_4]
    refine gl (i' := 5) (fun _ _ => aw_iload K (dOf ck_mX12_soundsOf rfl rfl) rfl) ?_
    refine gl (i' := 6) (fun _ _ => aw_iload_n K (dOf ck_mX12_soundsOf rfl rfl) rfl) ?_
    refine g_icmp_ge K (dOf ck_mX12_soundsOf rfl rfl) (t := 26) (aJ_of (by decide +kernel)) (fun h1 => ?_) (fun h1 => ?_)
    · refine gl (i' := 8) (fun _ _ => aw_iload_n K (dOf ck_mX12_soundsOf rfl rfl) rfl) ?_
      refine gl (i' := 9) (fun _ _ => aw_aload_n K (dOf ck_mX12_soundsOf rfl rfl) rfl) ?_
      refine gl (i' := 10) (fun _ _ => aw_getf K (dOf ck_mX12_soundsOf rfl rfl) rfl rfl (Nat.le_of_ble_eq_true rfl) wd_1206 (k := 1) rfl) ?_
      refine gl (i' := 11) (fun _ _ => aw_bip K (dOf ck_mX12_soundsOf rfl rfl) (v := 19) rfl) ?_
      refine gl (i' := 12) (fun _ _ => aw_aload_n K (dOf ck_mX12_soundsOf rfl rfl) rfl) ?_
      refine gl (i' := 13) (fun _ _ => aw_getf K (dOf ck_mX12_soundsOf rfl rfl) rfl rfl (Nat.le_of_ble_eq_true rfl) wd_1259 (k := 54) rfl) ?_
      refine gl (i' := 14) (fun _ _ => aw_bip K (dOf ck_mX12_soundsOf rfl rfl) (v := 40) rfl) ?_
      refine gl (i' := 15) (fun _ _ => aw_iload_n K (dOf ck_mX12_soundsOf rfl rfl) rfl) ?_
      refine gl (i' := 16) (fun _ _ => aw_imul K (dOf ck_mX12_soundsOf rfl rfl)) ?_
      refine gl (i' := 17) (fun _ _ => aw_iload K (dOf ck_mX12_soundsOf rfl rfl) rfl) ?_
      refine gl (i' := 18) (fun _ _ => aw_iadd K (dOf ck_mX12_soundsOf rfl rfl)) ?_
      refine g_gd (fun hb2 => ?_)
      refine gl (i' := 19) (fun _ _ => aw_lald K (dOf ck_mX12_soundsOf rfl rfl) rfl hb2) ?_
      refine gl (i' := 20) (fun _ _ => aw_l2i K (dOf ck_mX12_soundsOf rfl rfl)) ?_
      refine gl (i' := 21) (fun _ _ => aw_iadd K (dOf ck_mX12_soundsOf rfl rfl)) ?_
      refine g_gd (fun hb3 => ?_)
      refine gl (i' := 22) (fun _ _ => aw_iald K (dOf ck_mX12_soundsOf rfl rfl) rfl hb3) ?_
      refine gl (i' := 23) (fun _ _ => aw_iadd K (dOf ck_mX12_soundsOf rfl rfl)) ?_
      refine gl (i' := 24) (fun _ _ => aw_istore_n K (dOf ck_mX12_soundsOf rfl rfl) (Nat.le_of_ble_eq_true rfl)) ?_
      refine g_lv (lv' := [(3, .inl _), (0, .inr (.inr (.inl (some _)))), (1, .inl _), (2, .inl _), (4, .inl _)]) rfl ?_
      refine gl (i' := 25) (fun _ _ => aw_iinc K (dOf ck_mX12_soundsOf rfl rfl) (Nat.le_of_ble_eq_true rfl) rfl) ?_
      refine g_lv (lv' := [(4, .inl _), (3, .inl _), (0, .inr (.inr (.inl (some _)))), (1, .inl _), (2, .inl _)]) rfl ?_
      refine g_goto K (dOf ck_mX12_soundsOf rfl rfl).1 (t := 4) (aJ_of (by decide +kernel)) ?_
      refine g_sub [2, 3, 4, 1, 0] rfl ?_
      exact ih _ _
    · refine gl (i' := 27) (fun _ _ => aw_iload_n K (dOf ck_mX12_soundsOf rfl rfl) rfl) ?_
      exact g_iret K (by decide +kernel) rfl (Or.inl rfl) rfl
def R_soundsOf (x1 : Int) (x2 : Int) (mm : aM) : Option Int := R_soundsOf_4 mm x1 x2 FU 0 0
set_option maxHeartbeats 4000000 in
theorem met_R_soundsOf {l : Launch} {D : va_G} {cA : FieldType → ClassId} {ad adV : Nat → Nat} {z0 : Nat} {x1 : Int} {x2 : Int} {mm : aM}  {r : Int} (h : R_soundsOf x1 x2 mm = some r) : aMet l D cA ad adV z0 mX12_soundsOf 0 0 0 0 [.inr (.inr (.inl (some 176))), .inl x1, .inl x2] SH mm ((rI mm) r).1 SH ((rI mm) r).2 := by
  refine aMet_ofG (by decide +kernel) rfl (Nat.le_of_ble_eq_true rfl) h (fun p e s m args below meth c al0 K => ?_)
  unfold R_soundsOf
  refine gl (i' := 1) (fun _ _ => aw_iconst K (n := 0) (i32 _ rfl) (dOf ck_mX12_soundsOf rfl rfl)) ?_
  refine gl (i' := 2) (fun _ _ => aw_istore_n K (dOf ck_mX12_soundsOf rfl rfl) (Nat.le_of_ble_eq_true rfl)) ?_
  refine g_lv (lv' := [(3, .inl _), (0, .inr (.inr (.inl (some _)))), (1, .inl _), (2, .inl _)]) rfl ?_
  refine gl (i' := 3) (fun _ _ => aw_iconst K (n := 0) (i32 _ rfl) (dOf ck_mX12_soundsOf rfl rfl)) ?_
  refine gl (i' := 4) (fun _ _ => aw_istore K (dOf ck_mX12_soundsOf rfl rfl) (Nat.le_of_ble_eq_true rfl)) ?_
  refine g_lv (lv' := [(4, .inl _), (3, .inl _), (0, .inr (.inr (.inl (some _)))), (1, .inl _), (2, .inl _)]) rfl ?_
  refine g_sub [2, 3, 4, 1, 0] rfl ?_
  exact lk_R_soundsOf_4 K _ _ FU _ _
def R_judge_64 (x1 : Int) (x3 : Int) : Nat → Int → Int → aM → Option (Int × aM)
  | 0, _, _, _ => none
  | n + 1, x4, x5, mm => if x5 < x3 then (if 0 ≤ (w32 ((w32 (40 * x1)) + x5)) ∧ (w32 ((w32 (40 * x1)) + x5)) < 160 then (if 0 ≤ (w32 (32 + (w32 (mm 207 (w32 ((w32 (40 * x1)) + x5)).toNat)))) ∧ (w32 (32 + (w32 (mm 207 (w32 ((w32 (40 * x1)) + x5)).toNat)))) < 588 then (R_judge_64 x1 x3 n (w32 (x4 + (mm 177 (w32 (32 + (w32 (mm 207 (w32 ((w32 (40 * x1)) + x5)).toNat)))).toNat))) (w32 (x5 + 1)) mm) else none) else none) else (some (x4, mm))
set_option maxHeartbeats 4000000 in
theorem lk_R_judge_64 {p : Program} {l : Launch} {e : Env} {s : State} {m : MethodId} {args : Array Value} {below : List Frame} {meth : Method} {c : Code} {D : va_G} {cA : FieldType → ClassId} {ad adV : Nat → Nat} {z0 : Nat} {al0 : List Nat} (K : aK p s m args meth c mX12_judge D cA ad adV z0) (x1 : Int) (x3 : Int)  : ∀ (n : Nat) (x4 : Int) (x5 : Int) (mm : aM), aG p l e { frames := 3, cells := 0, slots := 0, locals := 71 } s m args below meth c D cA ad z0 mX12_judge al0 rIM (R_judge_64 x1 x3 n x4 x5 mm) 64 [(0, .inr (.inr (.inl (some 176)))), (1, .inl x1), (3, .inl x3), (4, .inl x4), (5, .inl x5)] [] mm := by
  intro n
  induction n with
  | zero => intro x4 x5 mm; exact g_none
  | succ n ih =>
    intro x4 x5 mm
    rw [R_judge_64]
    refine gl (i' := 65) (fun _ _ => aw_iload K (dOf ck_mX12_judge rfl rfl) rfl) ?_
    refine gl (i' := 66) (fun _ _ => aw_iload_n K (dOf ck_mX12_judge rfl rfl) rfl) ?_
    refine g_icmp_ge K (dOf ck_mX12_judge rfl rfl) (t := 86) (aJ_of (by decide +kernel)) (fun h12 => ?_) (fun h12 => ?_)
    · refine gl (i' := 68) (fun _ _ => aw_iload K (dOf ck_mX12_judge rfl rfl) rfl) ?_
      refine gl (i' := 69) (fun _ _ => aw_aload_n K (dOf ck_mX12_judge rfl rfl) rfl) ?_
      refine gl (i' := 70) (fun _ _ => aw_getf K (dOf ck_mX12_judge rfl rfl) rfl rfl (Nat.le_of_ble_eq_true rfl) wd_1206 (k := 1) rfl) ?_
      refine gl (i' := 71) (fun _ _ => aw_bip K (dOf ck_mX12_judge rfl rfl) (v := 32) rfl) ?_
      refine gl (i' := 72) (fun _ _ => aw_aload_n K (dOf ck_mX12_judge rfl rfl) rfl) ?_
      refine gl (i' := 73) (fun _ _ => aw_getf K (dOf ck_mX12_judge rfl rfl) rfl rfl (Nat.le_of_ble_eq_true rfl) wd_1259 (k := 54) rfl) ?_
      refine gl (i' := 74) (fun _ _ => aw_bip K (dOf ck_mX12_judge rfl rfl) (v := 40) rfl) ?_
      refine gl (i' := 75) (fun _ _ => aw_iload_n K (dOf ck_mX12_judge rfl rfl) rfl) ?_
      refine gl (i' := 76) (fun _ _ => aw_imul K (dOf ck_mX12_judge rfl rfl)) ?_
      refine gl (i' := 77) (fun _ _ => aw_iload K (dOf ck_mX12_judge rfl rfl) rfl) ?_
      refine gl (i' := 78) (fun _ _ => aw_iadd K (dOf ck_mX12_judge rfl rfl)) ?_
      refine g_gd (fun hb13 => ?_)
      refine gl (i' := 79) (fun _ _ => aw_lald K (dOf ck_mX12_judge rfl rfl) rfl hb13) ?_
      refine gl (i' := 80) (fun _ _ => aw_l2i K (dOf ck_mX12_judge rfl rfl)) ?_
      refine gl (i' := 81) (fun _ _ => aw_iadd K (dOf ck_mX12_judge rfl rfl)) ?_
      refine g_gd (fun hb14 => ?_)
      refine gl (i' := 82) (fun _ _ => aw_iald K (dOf ck_mX12_judge rfl rfl) rfl hb14) ?_
      refine gl (i' := 83) (fun _ _ => aw_iadd K (dOf ck_mX12_judge rfl rfl)) ?_
      refine gl (i' := 84) (fun _ _ => aw_istore K (dOf ck_mX12_judge rfl rfl) (Nat.le_of_ble_eq_true rfl)) ?_
      refine g_lv (lv' := [(4, .inl _), (0, .inr (.inr (.inl (some _)))), (1, .inl _), (3, .inl _), (5, .inl _)]) rfl ?_
      refine gl (i' := 85) (fun _ _ => aw_iinc K (dOf ck_mX12_judge rfl rfl) (Nat.le_of_ble_eq_true rfl) rfl) ?_
      refine g_lv (lv' := [(5, .inl _), (4, .inl _), (0, .inr (.inr (.inl (some _)))), (1, .inl _), (3, .inl _)]) rfl ?_
      refine g_goto K (dOf ck_mX12_judge rfl rfl).1 (t := 64) (aJ_of (by decide +kernel)) ?_
      refine g_sub [2, 3, 4, 1, 0] rfl ?_
      exact ih _ _ _
    · refine gl (i' := 87) (fun _ _ => aw_iload K (dOf ck_mX12_judge rfl rfl) rfl) ?_
      exact g_iret K (by decide +kernel) rfl (Or.inl rfl) rfl
def R_judge (x1 : Int) (x2 : Int) (mm : aM) : Option (Int × aM) := st1 (aup mm 176 0 0) fun mm1 => ((R_within x1 0 3 mm1).bind fun r2 => (if r2 = 0 then (some ((-2), mm1)) else ((R_within x2 0 3 mm1).bind fun r4 => (if r4 = 0 then (some ((-2), mm1)) else (if 0 ≤ x1 ∧ x1 < 4 then (if (mm1 205 x1.toNat) = (-1) then (some ((-6), mm1)) else ((R_firstWrong x1 mm1).bind fun r8 => (if x2 = 0 then (if r8 = (mm1 206 x1.toNat) then (some ((-1), mm1)) else (some (r8, mm1))) else (if x2 = 1 then ((R_isSentence x1 mm1).bind fun r16 => (if r16 = 0 then (some (0, mm1)) else (some (1, mm1)))) else (if x2 = 2 then ((R_soundsOf x1 r8 mm1).bind fun r15 => (some (r15, mm1))) else (R_judge_64 x1 r8 FU 0 0 mm1)))))) else none)))))
set_option maxHeartbeats 4000000 in
theorem met_R_judge {l : Launch} {D : va_G} {cA : FieldType → ClassId} {ad adV : Nat → Nat} {z0 : Nat} {x1 : Int} {x2 : Int} {mm : aM}  {r : Int × aM} (h : R_judge x1 x2 mm = some r) : aMet l D cA ad adV z0 mX12_judge 3 71 0 0 [.inr (.inr (.inl (some 176))), .inl x1, .inl x2] SH mm (rIM r).1 SH (rIM r).2 := by
  refine aMet_ofG (by decide +kernel) rfl (Nat.le_of_ble_eq_true rfl) h (fun p e s m args below meth c al0 K => ?_)
  unfold R_judge
  refine gl (i' := 1) (fun _ _ => aw_aload_n K (dOf ck_mX12_judge rfl rfl) rfl) ?_
  refine gl (i' := 2) (fun _ _ => aw_iconst K (n := 0) (i32 _ rfl) (dOf ck_mX12_judge rfl rfl)) ?_
  refine g_st1 ?_
  refine gl (i' := 3) (fun _ _ => aw_putf K (dOf ck_mX12_judge rfl rfl) rfl rfl (Nat.le_of_ble_eq_true rfl) wd_1205 (k := 0) rfl rfl (Or.inl rfl)) ?_
  refine gl (i' := 4) (fun _ _ => aw_iload_n K (dOf ck_mX12_judge rfl rfl) rfl) ?_
  refine gl (i' := 5) (fun _ _ => aw_i2l K (dOf ck_mX12_judge rfl rfl)) ?_
  refine gl (i' := 6) (fun _ _ => aw_lcn K (dOf ck_mX12_judge rfl rfl) (v := 0) rfl) ?_
  refine gl (i' := 7) (fun _ _ => aw_ldc2 K (dOf ck_mX12_judge rfl rfl) (n := 3) wd_1365 (i64 _ rfl)) ?_
  refine g_callSI K [.inr (.inl _), .inr (.inl _), .inr (.inl _)] rfl (dOf ck_mX12_judge rfl rfl) al_OneBreathModel_176 wd_1269 rfl (Nat.le_of_ble_eq_true rfl) ⟨Nat.le_of_ble_eq_true rfl, Nat.le_of_ble_eq_true rfl⟩ (fun b hb => met_R_within  hb) (fun r2 hr2 => ?_)
  refine g_if_eq K (dOf ck_mX12_judge rfl rfl) (t := 15) (aJ_of (by decide +kernel)) (fun h3 => ?_) (fun h3 => ?_)
  · refine gl (i' := 16) (fun _ _ => aw_bip K (dOf ck_mX12_judge rfl rfl) (v := -2) rfl) ?_
    exact g_iret K (dOf ck_mX12_judge rfl rfl).1 rfl (Or.inl rfl) rfl
  · refine gl (i' := 10) (fun _ _ => aw_iload_n K (dOf ck_mX12_judge rfl rfl) rfl) ?_
    refine gl (i' := 11) (fun _ _ => aw_i2l K (dOf ck_mX12_judge rfl rfl)) ?_
    refine gl (i' := 12) (fun _ _ => aw_lcn K (dOf ck_mX12_judge rfl rfl) (v := 0) rfl) ?_
    refine gl (i' := 13) (fun _ _ => aw_ldc2 K (dOf ck_mX12_judge rfl rfl) (n := 3) wd_1365 (i64 _ rfl)) ?_
    refine g_callSI K [.inr (.inl _), .inr (.inl _), .inr (.inl _)] rfl (dOf ck_mX12_judge rfl rfl) al_OneBreathModel_176 wd_1269 rfl (Nat.le_of_ble_eq_true rfl) ⟨Nat.le_of_ble_eq_true rfl, Nat.le_of_ble_eq_true rfl⟩ (fun b hb => met_R_within  hb) (fun r4 hr4 => ?_)
    refine g_if_ne K (dOf ck_mX12_judge rfl rfl) (t := 17) (aJ_of (by decide +kernel)) (fun h5 => ?_) (fun h5 => ?_)
    · refine gl (i' := 16) (fun _ _ => aw_bip K (dOf ck_mX12_judge rfl rfl) (v := -2) rfl) ?_
      exact g_iret K (dOf ck_mX12_judge rfl rfl).1 rfl (Or.inl rfl) rfl
    · refine gl (i' := 18) (fun _ _ => aw_aload_n K (dOf ck_mX12_judge rfl rfl) rfl) ?_
      refine gl (i' := 19) (fun _ _ => aw_getf K (dOf ck_mX12_judge rfl rfl) rfl rfl (Nat.le_of_ble_eq_true rfl) wd_1257 (k := 52) rfl) ?_
      refine gl (i' := 20) (fun _ _ => aw_iload_n K (dOf ck_mX12_judge rfl rfl) rfl) ?_
      refine g_gd (fun hb6 => ?_)
      refine gl (i' := 21) (fun _ _ => aw_iald K (dOf ck_mX12_judge rfl rfl) rfl hb6) ?_
      refine gl (i' := 22) (fun _ _ => aw_iconst K (n := -1) (i32 _ rfl) (dOf ck_mX12_judge rfl rfl)) ?_
      refine g_icmp_ne K (dOf ck_mX12_judge rfl rfl) (t := 25) (aJ_of (by decide +kernel)) (fun h7 => ?_) (fun h7 => ?_)
      · refine gl (i' := 24) (fun _ _ => aw_bip K (dOf ck_mX12_judge rfl rfl) (v := -6) rfl) ?_
        exact g_iret K (dOf ck_mX12_judge rfl rfl).1 rfl (Or.inl rfl) rfl
      · refine gl (i' := 26) (fun _ _ => aw_aload_n K (dOf ck_mX12_judge rfl rfl) rfl) ?_
        refine gl (i' := 27) (fun _ _ => aw_iload_n K (dOf ck_mX12_judge rfl rfl) rfl) ?_
        refine g_callVI K [.inl _] rfl (dOf ck_mX12_judge rfl rfl) al_OneBreathModel_250 rfl rfl ⟨wd_1393, wd_86⟩ rfl (Nat.le_of_ble_eq_true rfl) ⟨Nat.le_of_ble_eq_true rfl, Nat.le_of_ble_eq_true rfl⟩ (fun b hb => met_R_firstWrong  hb) (fun r8 hr8 => ?_)
        refine gl (i' := 29) (fun _ _ => aw_istore_n K (dOf ck_mX12_judge rfl rfl) (Nat.le_of_ble_eq_true rfl)) ?_
        refine g_lv (lv' := [(3, .inl _), (0, .inr (.inr (.inl (some _)))), (1, .inl _), (2, .inl _)]) rfl ?_
        refine gl (i' := 30) (fun _ _ => aw_iload_n K (dOf ck_mX12_judge rfl rfl) rfl) ?_
        refine g_if_ne K (dOf ck_mX12_judge rfl rfl) (t := 41) (aJ_of (by decide +kernel)) (fun h9 => ?_) (fun h9 => ?_)
        · refine gl (i' := 32) (fun _ _ => aw_iload_n K (dOf ck_mX12_judge rfl rfl) rfl) ?_
          refine gl (i' := 33) (fun _ _ => aw_aload_n K (dOf ck_mX12_judge rfl rfl) rfl) ?_
          refine gl (i' := 34) (fun _ _ => aw_getf K (dOf ck_mX12_judge rfl rfl) rfl rfl (Nat.le_of_ble_eq_true rfl) wd_1258 (k := 53) rfl) ?_
          refine gl (i' := 35) (fun _ _ => aw_iload_n K (dOf ck_mX12_judge rfl rfl) rfl) ?_
          refine gl (i' := 36) (fun _ _ => aw_iald K (dOf ck_mX12_judge rfl rfl) rfl hb6) ?_
          refine g_icmp_ne K (dOf ck_mX12_judge rfl rfl) (t := 39) (aJ_of (by decide +kernel)) (fun h18 => ?_) (fun h18 => ?_)
          · refine gl (i' := 38) (fun _ _ => aw_iconst K (n := -1) (i32 _ rfl) (dOf ck_mX12_judge rfl rfl)) ?_
            refine g_goto K (dOf ck_mX12_judge rfl rfl).1 (t := 40) (aJ_of (by decide +kernel)) ?_
            exact g_iret K (dOf ck_mX12_judge rfl rfl).1 rfl (Or.inl rfl) rfl
          · refine gl (i' := 40) (fun _ _ => aw_iload_n K (dOf ck_mX12_judge rfl rfl) rfl) ?_
            exact g_iret K (dOf ck_mX12_judge rfl rfl).1 rfl (Or.inl rfl) rfl
        · refine gl (i' := 42) (fun _ _ => aw_iload_n K (dOf ck_mX12_judge rfl rfl) rfl) ?_
          refine gl (i' := 43) (fun _ _ => aw_iconst K (n := 1) (i32 _ rfl) (dOf ck_mX12_judge rfl rfl)) ?_
          refine g_icmp_ne K (dOf ck_mX12_judge rfl rfl) (t := 52) (aJ_of (by decide +kernel)) (fun h10 => ?_) (fun h10 => ?_)
          · refine gl (i' := 45) (fun _ _ => aw_aload_n K (dOf ck_mX12_judge rfl rfl) rfl) ?_
            refine gl (i' := 46) (fun _ _ => aw_iload_n K (dOf ck_mX12_judge rfl rfl) rfl) ?_
            refine g_callVI K [.inl _] rfl (dOf ck_mX12_judge rfl rfl) al_OneBreathModel_256 rfl rfl ⟨wd_1399, wd_88⟩ rfl (Nat.le_of_ble_eq_true rfl) ⟨Nat.le_of_ble_eq_true rfl, Nat.le_of_ble_eq_true rfl⟩ (fun b hb => met_R_isSentence  hb) (fun r16 hr16 => ?_)
            refine g_if_eq K (dOf ck_mX12_judge rfl rfl) (t := 50) (aJ_of (by decide +kernel)) (fun h17 => ?_) (fun h17 => ?_)
            · refine gl (i' := 51) (fun _ _ => aw_iconst K (n := 0) (i32 _ rfl) (dOf ck_mX12_judge rfl rfl)) ?_
              exact g_iret K (dOf ck_mX12_judge rfl rfl).1 rfl (Or.inl rfl) rfl
            · refine gl (i' := 49) (fun _ _ => aw_iconst K (n := 1) (i32 _ rfl) (dOf ck_mX12_judge rfl rfl)) ?_
              refine g_goto K (dOf ck_mX12_judge rfl rfl).1 (t := 51) (aJ_of (by decide +kernel)) ?_
              exact g_iret K (dOf ck_mX12_judge rfl rfl).1 rfl (Or.inl rfl) rfl
          · refine gl (i' := 53) (fun _ _ => aw_iload_n K (dOf ck_mX12_judge rfl rfl) rfl) ?_
            refine gl (i' := 54) (fun _ _ => aw_iconst K (n := 2) (i32 _ rfl) (dOf ck_mX12_judge rfl rfl)) ?_
            refine g_icmp_ne K (dOf ck_mX12_judge rfl rfl) (t := 60) (aJ_of (by decide +kernel)) (fun h11 => ?_) (fun h11 => ?_)
            · refine gl (i' := 56) (fun _ _ => aw_aload_n K (dOf ck_mX12_judge rfl rfl) rfl) ?_
              refine gl (i' := 57) (fun _ _ => aw_iload_n K (dOf ck_mX12_judge rfl rfl) rfl) ?_
              refine gl (i' := 58) (fun _ _ => aw_iload_n K (dOf ck_mX12_judge rfl rfl) rfl) ?_
              refine g_callVI K [.inl _, .inl _] rfl (dOf ck_mX12_judge rfl rfl) al_OneBreathModel_259 rfl rfl ⟨wd_1405, wd_90⟩ rfl (Nat.le_of_ble_eq_true rfl) ⟨Nat.le_of_ble_eq_true rfl, Nat.le_of_ble_eq_true rfl⟩ (fun b hb => met_R_soundsOf  hb) (fun r15 hr15 => ?_)
              exact g_iret K (dOf ck_mX12_judge rfl rfl).1 rfl (Or.inl rfl) rfl
            · refine gl (i' := 61) (fun _ _ => aw_iconst K (n := 0) (i32 _ rfl) (dOf ck_mX12_judge rfl rfl)) ?_
              refine gl (i' := 62) (fun _ _ => aw_istore K (dOf ck_mX12_judge rfl rfl) (Nat.le_of_ble_eq_true rfl)) ?_
              refine g_lv (lv' := [(4, .inl _), (3, .inl _), (0, .inr (.inr (.inl (some _)))), (1, .inl _), (2, .inl _)]) rfl ?_
              refine gl (i' := 63) (fun _ _ => aw_iconst K (n := 0) (i32 _ rfl) (dOf ck_mX12_judge rfl rfl)) ?_
              refine gl (i' := 64) (fun _ _ => aw_istore K (dOf ck_mX12_judge rfl rfl) (Nat.le_of_ble_eq_true rfl)) ?_
              refine g_lv (lv' := [(5, .inl _), (4, .inl _), (3, .inl _), (0, .inr (.inr (.inl (some _)))), (1, .inl _), (2, .inl _)]) rfl ?_
              refine g_sub [3, 4, 2, 1, 0] rfl ?_
              exact lk_R_judge_64 K _ _ FU _ _ _
def R_says_23 (k5 : Int → aM → Option aM) (x1 : Int) (x2 : Int) (x3 : Int) : Nat → Int → aM → Option aM
  | 0, _, _ => none
  | n + 1, x4, mm => if 0 ≤ (w32 (19 + x3)) ∧ (w32 (19 + x3)) < 588 then (if x4 < (mm 177 (w32 (19 + x3)).toNat) then (if 0 ≤ (w32 ((w32 (58 + (w32 (6 * x3)))) + x4)) ∧ (w32 ((w32 (58 + (w32 (6 * x3)))) + x4)) < 588 then (if 0 ≤ (mm 176 17) ∧ (mm 176 17) < 40 then (st1 (aup mm 182 (mm 176 17).toNat (mm 177 (w32 ((w32 (58 + (w32 (6 * x3)))) + x4)).toNat)) fun mm9 => (st1 (aup mm9 176 17 (w32 ((mm9 176 17) + 1))) fun mm10 => (R_says_23 k5 x1 x2 x3 n (w32 (x4 + 1)) mm10))) else none) else none) else (k5 (w32 (x2 + 1)) mm)) else none
set_option maxHeartbeats 4000000 in
theorem lk_R_says_23 {p : Program} {l : Launch} {e : Env} {s : State} {m : MethodId} {args : Array Value} {below : List Frame} {meth : Method} {c : Code} {D : va_G} {cA : FieldType → ClassId} {ad adV : Nat → Nat} {z0 : Nat} {al0 : List Nat} (K : aK p s m args meth c mX12_says D cA ad adV z0) (x1 : Int) (x2 : Int) (x3 : Int) (k5 : Int → aM → Option aM) (hk5 : ∀ (x2 : Int) (mm : aM), aG p l e { frames := 0, cells := 0, slots := 0, locals := 0 } s m args below meth c D cA ad z0 mX12_says al0 rM (k5 x2 mm) 5 [(0, .inr (.inr (.inl (some 176)))), (1, .inl x1), (2, .inl x2)] [] mm)  : ∀ (n : Nat) (x4 : Int) (mm : aM), aG p l e { frames := 0, cells := 0, slots := 0, locals := 0 } s m args below meth c D cA ad z0 mX12_says al0 rM (R_says_23 k5 x1 x2 x3 n x4 mm) 23 [(0, .inr (.inr (.inl (some 176)))), (1, .inl x1), (2, .inl x2), (3, .inl x3), (4, .inl x4)] [] mm := by
  intro n
  induction n with
  | zero => intro x4 mm; exact g_none
  | succ n ih =>
    intro x4 mm
    rw [R_says_23]
    refine gl (i' := 24) (fun _ _ => aw_iload K (dOf ck_mX12_says rfl rfl) rfl) ?_
    refine gl (i' := 25) (fun _ _ => aw_aload_n K (dOf ck_mX12_says rfl rfl) rfl) ?_
    refine gl (i' := 26) (fun _ _ => aw_getf K (dOf ck_mX12_says rfl rfl) rfl rfl (Nat.le_of_ble_eq_true rfl) wd_1206 (k := 1) rfl) ?_
    refine gl (i' := 27) (fun _ _ => aw_bip K (dOf ck_mX12_says rfl rfl) (v := 19) rfl) ?_
    refine gl (i' := 28) (fun _ _ => aw_iload_n K (dOf ck_mX12_says rfl rfl) rfl) ?_
    refine gl (i' := 29) (fun _ _ => aw_iadd K (dOf ck_mX12_says rfl rfl)) ?_
    refine g_gd (fun hb5 => ?_)
    refine gl (i' := 30) (fun _ _ => aw_iald K (dOf ck_mX12_says rfl rfl) rfl hb5) ?_
    refine g_icmp_ge K (dOf ck_mX12_says rfl rfl) (t := 54) (aJ_of (by decide +kernel)) (fun h6 => ?_) (fun h6 => ?_)
    · refine gl (i' := 32) (fun _ _ => aw_aload_n K (dOf ck_mX12_says rfl rfl) rfl) ?_
      refine gl (i' := 33) (fun _ _ => aw_getf K (dOf ck_mX12_says rfl rfl) rfl rfl (Nat.le_of_ble_eq_true rfl) wd_1221 (k := 16) rfl) ?_
      refine gl (i' := 34) (fun _ _ => aw_aload_n K (dOf ck_mX12_says rfl rfl) rfl) ?_
      refine gl (i' := 35) (fun _ _ => aw_getf K (dOf ck_mX12_says rfl rfl) rfl rfl (Nat.le_of_ble_eq_true rfl) wd_1222 (k := 17) rfl) ?_
      refine gl (i' := 36) (fun _ _ => aw_aload_n K (dOf ck_mX12_says rfl rfl) rfl) ?_
      refine gl (i' := 37) (fun _ _ => aw_getf K (dOf ck_mX12_says rfl rfl) rfl rfl (Nat.le_of_ble_eq_true rfl) wd_1206 (k := 1) rfl) ?_
      refine gl (i' := 38) (fun _ _ => aw_bip K (dOf ck_mX12_says rfl rfl) (v := 58) rfl) ?_
      refine gl (i' := 39) (fun _ _ => aw_bip K (dOf ck_mX12_says rfl rfl) (v := 6) rfl) ?_
      refine gl (i' := 40) (fun _ _ => aw_iload_n K (dOf ck_mX12_says rfl rfl) rfl) ?_
      refine gl (i' := 41) (fun _ _ => aw_imul K (dOf ck_mX12_says rfl rfl)) ?_
      refine gl (i' := 42) (fun _ _ => aw_iadd K (dOf ck_mX12_says rfl rfl)) ?_
      refine gl (i' := 43) (fun _ _ => aw_iload K (dOf ck_mX12_says rfl rfl) rfl) ?_
      refine gl (i' := 44) (fun _ _ => aw_iadd K (dOf ck_mX12_says rfl rfl)) ?_
      refine g_gd (fun hb7 => ?_)
      refine gl (i' := 45) (fun _ _ => aw_iald K (dOf ck_mX12_says rfl rfl) rfl hb7) ?_
      refine g_gd (fun hb8 => ?_)
      refine g_st1 ?_
      refine gl (i' := 46) (fun _ _ => aw_iast K (dOf ck_mX12_says rfl rfl) rfl hb8) ?_
      refine gl (i' := 47) (fun _ _ => aw_aload_n K (dOf ck_mX12_says rfl rfl) rfl) ?_
      refine gl (i' := 48) (fun _ _ => aw_dup K rfl (dOf ck_mX12_says rfl rfl)) ?_
      refine gl (i' := 49) (fun _ _ => aw_getf K (dOf ck_mX12_says rfl rfl) rfl rfl (Nat.le_of_ble_eq_true rfl) wd_1222 (k := 17) rfl) ?_
      refine gl (i' := 50) (fun _ _ => aw_iconst K (n := 1) (i32 _ rfl) (dOf ck_mX12_says rfl rfl)) ?_
      refine gl (i' := 51) (fun _ _ => aw_iadd K (dOf ck_mX12_says rfl rfl)) ?_
      refine g_st1 ?_
      refine gl (i' := 52) (fun _ _ => aw_putf K (dOf ck_mX12_says rfl rfl) rfl rfl (Nat.le_of_ble_eq_true rfl) wd_1222 (k := 17) rfl rfl (Or.inl rfl)) ?_
      refine gl (i' := 53) (fun _ _ => aw_iinc K (dOf ck_mX12_says rfl rfl) (Nat.le_of_ble_eq_true rfl) rfl) ?_
      refine g_lv (lv' := [(4, .inl _), (0, .inr (.inr (.inl (some _)))), (1, .inl _), (2, .inl _), (3, .inl _)]) rfl ?_
      refine g_goto K (dOf ck_mX12_says rfl rfl).1 (t := 23) (aJ_of (by decide +kernel)) ?_
      refine g_sub [1, 2, 3, 4, 0] rfl ?_
      exact ih _ _
    · refine gl (i' := 55) (fun _ _ => aw_iinc K (dOf ck_mX12_says rfl rfl) (Nat.le_of_ble_eq_true rfl) rfl) ?_
      refine g_lv (lv' := [(2, .inl _), (0, .inr (.inr (.inl (some _)))), (1, .inl _), (3, .inl _), (4, .inl _)]) rfl ?_
      refine g_goto K (dOf ck_mX12_says rfl rfl).1 (t := 5) (aJ_of (by decide +kernel)) ?_
      refine g_sub [1, 2, 0] rfl ?_
      exact hk5 _ _
def R_says_5 (x1 : Int) : Nat → Int → aM → Option aM
  | 0, _, _ => none
  | n + 1, x2, mm => if 0 ≤ x1 ∧ x1 < 4 then (if x2 < (mm 206 x1.toNat) then (if 0 ≤ (w32 ((w32 (40 * x1)) + x2)) ∧ (w32 ((w32 (40 * x1)) + x2)) < 160 then (R_says_23 (R_says_5 x1 n) x1 x2 (w32 (mm 207 (w32 ((w32 (40 * x1)) + x2)).toNat)) FU 0 mm) else none) else (some mm)) else none
set_option maxHeartbeats 4000000 in
theorem lk_R_says_5 {p : Program} {l : Launch} {e : Env} {s : State} {m : MethodId} {args : Array Value} {below : List Frame} {meth : Method} {c : Code} {D : va_G} {cA : FieldType → ClassId} {ad adV : Nat → Nat} {z0 : Nat} {al0 : List Nat} (K : aK p s m args meth c mX12_says D cA ad adV z0) (x1 : Int)  : ∀ (n : Nat) (x2 : Int) (mm : aM), aG p l e { frames := 0, cells := 0, slots := 0, locals := 0 } s m args below meth c D cA ad z0 mX12_says al0 rM (R_says_5 x1 n x2 mm) 5 [(0, .inr (.inr (.inl (some 176)))), (1, .inl x1), (2, .inl x2)] [] mm := by
  intro n
  induction n with
  | zero => intro x2 mm; exact g_none
  | succ n ih =>
    intro x2 mm
    rw [R_says_5]
    refine gl (i' := 6) (fun _ _ => aw_iload_n K (dOf ck_mX12_says rfl rfl) rfl) ?_
    refine gl (i' := 7) (fun _ _ => aw_aload_n K (dOf ck_mX12_says rfl rfl) rfl) ?_
    refine gl (i' := 8) (fun _ _ => aw_getf K (dOf ck_mX12_says rfl rfl) rfl rfl (Nat.le_of_ble_eq_true rfl) wd_1258 (k := 53) rfl) ?_
    refine gl (i' := 9) (fun _ _ => aw_iload_n K (dOf ck_mX12_says rfl rfl) rfl) ?_
    refine g_gd (fun hb2 => ?_)
    refine gl (i' := 10) (fun _ _ => aw_iald K (dOf ck_mX12_says rfl rfl) rfl hb2) ?_
    refine g_icmp_ge K (dOf ck_mX12_says rfl rfl) (t := 56) (aJ_of (by decide +kernel)) (fun h3 => ?_) (fun h3 => ?_)
    · refine gl (i' := 12) (fun _ _ => aw_aload_n K (dOf ck_mX12_says rfl rfl) rfl) ?_
      refine gl (i' := 13) (fun _ _ => aw_getf K (dOf ck_mX12_says rfl rfl) rfl rfl (Nat.le_of_ble_eq_true rfl) wd_1259 (k := 54) rfl) ?_
      refine gl (i' := 14) (fun _ _ => aw_bip K (dOf ck_mX12_says rfl rfl) (v := 40) rfl) ?_
      refine gl (i' := 15) (fun _ _ => aw_iload_n K (dOf ck_mX12_says rfl rfl) rfl) ?_
      refine gl (i' := 16) (fun _ _ => aw_imul K (dOf ck_mX12_says rfl rfl)) ?_
      refine gl (i' := 17) (fun _ _ => aw_iload_n K (dOf ck_mX12_says rfl rfl) rfl) ?_
      refine gl (i' := 18) (fun _ _ => aw_iadd K (dOf ck_mX12_says rfl rfl)) ?_
      refine g_gd (fun hb4 => ?_)
      refine gl (i' := 19) (fun _ _ => aw_lald K (dOf ck_mX12_says rfl rfl) rfl hb4) ?_
      refine gl (i' := 20) (fun _ _ => aw_l2i K (dOf ck_mX12_says rfl rfl)) ?_
      refine gl (i' := 21) (fun _ _ => aw_istore_n K (dOf ck_mX12_says rfl rfl) (Nat.le_of_ble_eq_true rfl)) ?_
      refine g_lv (lv' := [(3, .inl _), (0, .inr (.inr (.inl (some _)))), (1, .inl _), (2, .inl _)]) rfl ?_
      refine gl (i' := 22) (fun _ _ => aw_iconst K (n := 0) (i32 _ rfl) (dOf ck_mX12_says rfl rfl)) ?_
      refine gl (i' := 23) (fun _ _ => aw_istore K (dOf ck_mX12_says rfl rfl) (Nat.le_of_ble_eq_true rfl)) ?_
      refine g_lv (lv' := [(4, .inl _), (3, .inl _), (0, .inr (.inr (.inl (some _)))), (1, .inl _), (2, .inl _)]) rfl ?_
      refine g_sub [2, 3, 4, 1, 0] rfl ?_
      exact lk_R_says_23 K _ _ _ _ ih FU _ _
    · exact g_vret K (by decide +kernel) rfl rfl
def R_says (x1 : Int) (mm : aM) : Option aM := st1 (aup mm 176 17 0) fun mm1 => (R_says_5 x1 FU 0 mm1)
set_option maxHeartbeats 4000000 in
theorem met_R_says {l : Launch} {D : va_G} {cA : FieldType → ClassId} {ad adV : Nat → Nat} {z0 : Nat} {x1 : Int} {mm : aM}  {r : aM} (h : R_says x1 mm = some r) : aMet l D cA ad adV z0 mX12_says 0 0 0 0 [.inr (.inr (.inl (some 176))), .inl x1] SH mm (rM r).1 SH (rM r).2 := by
  refine aMet_ofG (by decide +kernel) rfl (Nat.le_of_ble_eq_true rfl) h (fun p e s m args below meth c al0 K => ?_)
  unfold R_says
  refine gl (i' := 1) (fun _ _ => aw_aload_n K (dOf ck_mX12_says rfl rfl) rfl) ?_
  refine gl (i' := 2) (fun _ _ => aw_iconst K (n := 0) (i32 _ rfl) (dOf ck_mX12_says rfl rfl)) ?_
  refine g_st1 ?_
  refine gl (i' := 3) (fun _ _ => aw_putf K (dOf ck_mX12_says rfl rfl) rfl rfl (Nat.le_of_ble_eq_true rfl) wd_1222 (k := 17) rfl rfl (Or.inl rfl)) ?_
  refine gl (i' := 4) (fun _ _ => aw_iconst K (n := 0) (i32 _ rfl) (dOf ck_mX12_says rfl rfl)) ?_
  refine gl (i' := 5) (fun _ _ => aw_istore_n K (dOf ck_mX12_says rfl rfl) (Nat.le_of_ble_eq_true rfl)) ?_
  refine g_lv (lv' := [(2, .inl _), (0, .inr (.inr (.inl (some _)))), (1, .inl _)]) rfl ?_
  refine g_sub [1, 2, 0] rfl ?_
  exact lk_R_says_5 K _ FU _ _
def R_say_47  : Nat → Int → aM → Option (Int × aM)
  | 0, _, _ => none
  | n + 1, x2, mm => if x2 < (mm 176 17) then (if 0 ≤ x2 ∧ x2 < 40 then (if 0 ≤ (w32 (156 + x2)) ∧ (w32 (156 + x2)) < 588 then (st1 (aup mm 177 (w32 (156 + x2)).toNat (mm 182 x2.toNat)) fun mm15 => (R_say_47 n (w32 (x2 + 1)) mm15)) else none) else none) else (some (mm 176 17, mm))
set_option maxHeartbeats 4000000 in
theorem lk_R_say_47 {p : Program} {l : Launch} {e : Env} {s : State} {m : MethodId} {args : Array Value} {below : List Frame} {meth : Method} {c : Code} {D : va_G} {cA : FieldType → ClassId} {ad adV : Nat → Nat} {z0 : Nat} {al0 : List Nat} (K : aK p s m args meth c mX12_say D cA ad adV z0)   : ∀ (n : Nat) (x2 : Int) (mm : aM), aG p l e { frames := 3, cells := 0, slots := 0, locals := 71 } s m args below meth c D cA ad z0 mX12_say al0 rIM (R_say_47 n x2 mm) 47 [(0, .inr (.inr (.inl (some 176)))), (2, .inl x2)] [] mm := by
  intro n
  induction n with
  | zero => intro x2 mm; exact g_none
  | succ n ih =>
    intro x2 mm
    rw [R_say_47]
    refine gl (i' := 48) (fun _ _ => aw_iload_n K (dOf ck_mX12_say rfl rfl) rfl) ?_
    refine gl (i' := 49) (fun _ _ => aw_aload_n K (dOf ck_mX12_say rfl rfl) rfl) ?_
    refine gl (i' := 50) (fun _ _ => aw_getf K (dOf ck_mX12_say rfl rfl) rfl rfl (Nat.le_of_ble_eq_true rfl) wd_1222 (k := 17) rfl) ?_
    refine g_icmp_ge K (dOf ck_mX12_say rfl rfl) (t := 63) (aJ_of (by decide +kernel)) (fun h12 => ?_) (fun h12 => ?_)
    · refine gl (i' := 52) (fun _ _ => aw_aload_n K (dOf ck_mX12_say rfl rfl) rfl) ?_
      refine gl (i' := 53) (fun _ _ => aw_getf K (dOf ck_mX12_say rfl rfl) rfl rfl (Nat.le_of_ble_eq_true rfl) wd_1206 (k := 1) rfl) ?_
      refine gl (i' := 54) (fun _ _ => aw_sip K (dOf ck_mX12_say rfl rfl) (v := 156) rfl) ?_
      refine gl (i' := 55) (fun _ _ => aw_iload_n K (dOf ck_mX12_say rfl rfl) rfl) ?_
      refine gl (i' := 56) (fun _ _ => aw_iadd K (dOf ck_mX12_say rfl rfl)) ?_
      refine gl (i' := 57) (fun _ _ => aw_aload_n K (dOf ck_mX12_say rfl rfl) rfl) ?_
      refine gl (i' := 58) (fun _ _ => aw_getf K (dOf ck_mX12_say rfl rfl) rfl rfl (Nat.le_of_ble_eq_true rfl) wd_1221 (k := 16) rfl) ?_
      refine gl (i' := 59) (fun _ _ => aw_iload_n K (dOf ck_mX12_say rfl rfl) rfl) ?_
      refine g_gd (fun hb13 => ?_)
      refine gl (i' := 60) (fun _ _ => aw_iald K (dOf ck_mX12_say rfl rfl) rfl hb13) ?_
      refine g_gd (fun hb14 => ?_)
      refine g_st1 ?_
      refine gl (i' := 61) (fun _ _ => aw_iast K (dOf ck_mX12_say rfl rfl) rfl hb14) ?_
      refine gl (i' := 62) (fun _ _ => aw_iinc K (dOf ck_mX12_say rfl rfl) (Nat.le_of_ble_eq_true rfl) rfl) ?_
      refine g_lv (lv' := [(2, .inl _), (0, .inr (.inr (.inl (some _))))]) rfl ?_
      refine g_goto K (dOf ck_mX12_say rfl rfl).1 (t := 47) (aJ_of (by decide +kernel)) ?_
      refine g_sub [1, 0] rfl ?_
      exact ih _ _
    · refine gl (i' := 64) (fun _ _ => aw_aload_n K (dOf ck_mX12_say rfl rfl) rfl) ?_
      refine gl (i' := 65) (fun _ _ => aw_getf K (dOf ck_mX12_say rfl rfl) rfl rfl (Nat.le_of_ble_eq_true rfl) wd_1222 (k := 17) rfl) ?_
      exact g_iret K (by decide +kernel) rfl (Or.inl rfl) rfl
def R_say (x1 : Int) (mm : aM) : Option (Int × aM) := st1 (aup mm 176 0 0) fun mm1 => ((R_within x1 0 3 mm1).bind fun r2 => (if r2 = 0 then (some ((-2), mm1)) else (if 0 ≤ x1 ∧ x1 < 4 then (if (mm1 205 x1.toNat) = (-1) then (some ((-6), mm1)) else ((R_isSentence x1 mm1).bind fun r6 => (if r6 = 0 then (some ((-3), mm1)) else ((R_soundsOf x1 (mm1 206 x1.toNat) mm1).bind fun r8 => (if 40 < r8 then (some ((-5), mm1)) else ((R_says x1 mm1).bind fun r10 => (st1 (aup r10 177 155 (r10 176 17)) fun mm11 => (R_say_47 FU 0 mm11)))))))) else none)))
set_option maxHeartbeats 4000000 in
theorem met_R_say {l : Launch} {D : va_G} {cA : FieldType → ClassId} {ad adV : Nat → Nat} {z0 : Nat} {x1 : Int} {mm : aM}  {r : Int × aM} (h : R_say x1 mm = some r) : aMet l D cA ad adV z0 mX12_say 3 71 0 0 [.inr (.inr (.inl (some 176))), .inl x1] SH mm (rIM r).1 SH (rIM r).2 := by
  refine aMet_ofG (by decide +kernel) rfl (Nat.le_of_ble_eq_true rfl) h (fun p e s m args below meth c al0 K => ?_)
  unfold R_say
  refine gl (i' := 1) (fun _ _ => aw_aload_n K (dOf ck_mX12_say rfl rfl) rfl) ?_
  refine gl (i' := 2) (fun _ _ => aw_iconst K (n := 0) (i32 _ rfl) (dOf ck_mX12_say rfl rfl)) ?_
  refine g_st1 ?_
  refine gl (i' := 3) (fun _ _ => aw_putf K (dOf ck_mX12_say rfl rfl) rfl rfl (Nat.le_of_ble_eq_true rfl) wd_1205 (k := 0) rfl rfl (Or.inl rfl)) ?_
  refine gl (i' := 4) (fun _ _ => aw_iload_n K (dOf ck_mX12_say rfl rfl) rfl) ?_
  refine gl (i' := 5) (fun _ _ => aw_i2l K (dOf ck_mX12_say rfl rfl)) ?_
  refine gl (i' := 6) (fun _ _ => aw_lcn K (dOf ck_mX12_say rfl rfl) (v := 0) rfl) ?_
  refine gl (i' := 7) (fun _ _ => aw_ldc2 K (dOf ck_mX12_say rfl rfl) (n := 3) wd_1365 (i64 _ rfl)) ?_
  refine g_callSI K [.inr (.inl _), .inr (.inl _), .inr (.inl _)] rfl (dOf ck_mX12_say rfl rfl) al_OneBreathModel_176 wd_1269 rfl (Nat.le_of_ble_eq_true rfl) ⟨Nat.le_of_ble_eq_true rfl, Nat.le_of_ble_eq_true rfl⟩ (fun b hb => met_R_within  hb) (fun r2 hr2 => ?_)
  refine g_if_ne K (dOf ck_mX12_say rfl rfl) (t := 11) (aJ_of (by decide +kernel)) (fun h3 => ?_) (fun h3 => ?_)
  · refine gl (i' := 10) (fun _ _ => aw_bip K (dOf ck_mX12_say rfl rfl) (v := -2) rfl) ?_
    exact g_iret K (dOf ck_mX12_say rfl rfl).1 rfl (Or.inl rfl) rfl
  · refine gl (i' := 12) (fun _ _ => aw_aload_n K (dOf ck_mX12_say rfl rfl) rfl) ?_
    refine gl (i' := 13) (fun _ _ => aw_getf K (dOf ck_mX12_say rfl rfl) rfl rfl (Nat.le_of_ble_eq_true rfl) wd_1257 (k := 52) rfl) ?_
    refine gl (i' := 14) (fun _ _ => aw_iload_n K (dOf ck_mX12_say rfl rfl) rfl) ?_
    refine g_gd (fun hb4 => ?_)
    refine gl (i' := 15) (fun _ _ => aw_iald K (dOf ck_mX12_say rfl rfl) rfl hb4) ?_
    refine gl (i' := 16) (fun _ _ => aw_iconst K (n := -1) (i32 _ rfl) (dOf ck_mX12_say rfl rfl)) ?_
    refine g_icmp_ne K (dOf ck_mX12_say rfl rfl) (t := 19) (aJ_of (by decide +kernel)) (fun h5 => ?_) (fun h5 => ?_)
    · refine gl (i' := 18) (fun _ _ => aw_bip K (dOf ck_mX12_say rfl rfl) (v := -6) rfl) ?_
      exact g_iret K (dOf ck_mX12_say rfl rfl).1 rfl (Or.inl rfl) rfl
    · refine gl (i' := 20) (fun _ _ => aw_aload_n K (dOf ck_mX12_say rfl rfl) rfl) ?_
      refine gl (i' := 21) (fun _ _ => aw_iload_n K (dOf ck_mX12_say rfl rfl) rfl) ?_
      refine g_callVI K [.inl _] rfl (dOf ck_mX12_say rfl rfl) al_OneBreathModel_256 rfl rfl ⟨wd_1399, wd_88⟩ rfl (Nat.le_of_ble_eq_true rfl) ⟨Nat.le_of_ble_eq_true rfl, Nat.le_of_ble_eq_true rfl⟩ (fun b hb => met_R_isSentence  hb) (fun r6 hr6 => ?_)
      refine g_if_ne K (dOf ck_mX12_say rfl rfl) (t := 25) (aJ_of (by decide +kernel)) (fun h7 => ?_) (fun h7 => ?_)
      · refine gl (i' := 24) (fun _ _ => aw_bip K (dOf ck_mX12_say rfl rfl) (v := -3) rfl) ?_
        exact g_iret K (dOf ck_mX12_say rfl rfl).1 rfl (Or.inl rfl) rfl
      · refine gl (i' := 26) (fun _ _ => aw_aload_n K (dOf ck_mX12_say rfl rfl) rfl) ?_
        refine gl (i' := 27) (fun _ _ => aw_iload_n K (dOf ck_mX12_say rfl rfl) rfl) ?_
        refine gl (i' := 28) (fun _ _ => aw_aload_n K (dOf ck_mX12_say rfl rfl) rfl) ?_
        refine gl (i' := 29) (fun _ _ => aw_getf K (dOf ck_mX12_say rfl rfl) rfl rfl (Nat.le_of_ble_eq_true rfl) wd_1258 (k := 53) rfl) ?_
        refine gl (i' := 30) (fun _ _ => aw_iload_n K (dOf ck_mX12_say rfl rfl) rfl) ?_
        refine gl (i' := 31) (fun _ _ => aw_iald K (dOf ck_mX12_say rfl rfl) rfl hb4) ?_
        refine g_callVI K [.inl _, .inl _] rfl (dOf ck_mX12_say rfl rfl) al_OneBreathModel_259 rfl rfl ⟨wd_1405, wd_90⟩ rfl (Nat.le_of_ble_eq_true rfl) ⟨Nat.le_of_ble_eq_true rfl, Nat.le_of_ble_eq_true rfl⟩ (fun b hb => met_R_soundsOf  hb) (fun r8 hr8 => ?_)
        refine gl (i' := 33) (fun _ _ => aw_bip K (dOf ck_mX12_say rfl rfl) (v := 40) rfl) ?_
        refine g_icmp_le K (dOf ck_mX12_say rfl rfl) (t := 36) (aJ_of (by decide +kernel)) (fun h9 => ?_) (fun h9 => ?_)
        · refine gl (i' := 35) (fun _ _ => aw_bip K (dOf ck_mX12_say rfl rfl) (v := -5) rfl) ?_
          exact g_iret K (dOf ck_mX12_say rfl rfl).1 rfl (Or.inl rfl) rfl
        · refine gl (i' := 37) (fun _ _ => aw_aload_n K (dOf ck_mX12_say rfl rfl) rfl) ?_
          refine gl (i' := 38) (fun _ _ => aw_iload_n K (dOf ck_mX12_say rfl rfl) rfl) ?_
          refine g_callVM K [.inl _] rfl (dOf ck_mX12_say rfl rfl) al_OneBreathModel_265 rfl rfl ⟨wd_1412, wd_91⟩ rfl (Nat.le_of_ble_eq_true rfl) ⟨Nat.le_of_ble_eq_true rfl, Nat.le_of_ble_eq_true rfl⟩ (fun b hb => met_R_says  hb) (fun r10 hr10 => ?_)
          refine gl (i' := 40) (fun _ _ => aw_aload_n K (dOf ck_mX12_say rfl rfl) rfl) ?_
          refine gl (i' := 41) (fun _ _ => aw_getf K (dOf ck_mX12_say rfl rfl) rfl rfl (Nat.le_of_ble_eq_true rfl) wd_1206 (k := 1) rfl) ?_
          refine gl (i' := 42) (fun _ _ => aw_sip K (dOf ck_mX12_say rfl rfl) (v := 155) rfl) ?_
          refine gl (i' := 43) (fun _ _ => aw_aload_n K (dOf ck_mX12_say rfl rfl) rfl) ?_
          refine gl (i' := 44) (fun _ _ => aw_getf K (dOf ck_mX12_say rfl rfl) rfl rfl (Nat.le_of_ble_eq_true rfl) wd_1222 (k := 17) rfl) ?_
          refine g_st1 ?_
          refine gl (i' := 45) (fun _ _ => aw_iast K (dOf ck_mX12_say rfl rfl) rfl (by decide)) ?_
          refine gl (i' := 46) (fun _ _ => aw_iconst K (n := 0) (i32 _ rfl) (dOf ck_mX12_say rfl rfl)) ?_
          refine gl (i' := 47) (fun _ _ => aw_istore_n K (dOf ck_mX12_say rfl rfl) (Nat.le_of_ble_eq_true rfl)) ?_
          refine g_lv (lv' := [(2, .inl _), (0, .inr (.inr (.inl (some _)))), (1, .inl _)]) rfl ?_
          refine g_sub [1, 0] rfl ?_
          exact lk_R_say_47 K FU _ _
