def R_isBest (x1 : Int) (x2 : Int) (x3 : Int) (x4 : Int) (mm : aM) : Option Int := (R_offBy x1 x2 x3 x4 mm).bind fun r1 => (if r1 < 1000 then (if 0 ≤ (w32 (19 + x2)) ∧ (w32 (19 + x2)) < 588 then (if 0 ≤ (w32 ((w32 ((w32 (x3 + (mm 177 (w32 (19 + x2)).toNat))) * 14)) + x2)) ∧ (w32 ((w32 ((w32 (x3 + (mm 177 (w32 (19 + x2)).toNat))) * 14)) + x2)) < 574 then (if (mm 184 (w32 ((w32 ((w32 (x3 + (mm 177 (w32 (19 + x2)).toNat))) * 14)) + x2)).toNat) < 1000 then (if 0 ≤ (w32 ((w32 (x3 * 14)) + x1)) ∧ (w32 ((w32 (x3 * 14)) + x1)) < 574 then (if (w32 (r1 + (mm 184 (w32 ((w32 ((w32 (x3 + (mm 177 (w32 (19 + x2)).toNat))) * 14)) + x2)).toNat))) = (mm 184 (w32 ((w32 (x3 * 14)) + x1)).toNat) then (if 0 ≤ (w32 (32 + x2)) ∧ (w32 (32 + x2)) < 588 then (if (w32 ((mm 177 (w32 (32 + x2)).toNat) + (mm 185 (w32 ((w32 ((w32 (x3 + (mm 177 (w32 (19 + x2)).toNat))) * 14)) + x2)).toNat))) = (mm 185 (w32 ((w32 (x3 * 14)) + x1)).toNat) then (some 1) else (some 0)) else none) else (some 0)) else none) else (some 0)) else none) else none) else (some 0))
set_option maxHeartbeats 4000000 in
theorem met_R_isBest {l : Launch} {D : va_G} {cA : FieldType → ClassId} {ad adV : Nat → Nat} {z0 : Nat} {x1 : Int} {x2 : Int} {x3 : Int} {x4 : Int} {mm : aM}  {r : Int} (h : R_isBest x1 x2 x3 x4 mm = some r) : aMet l D cA ad adV z0 mX12_isBest 3 72 0 0 [.inr (.inr (.inl (some 176))), .inl x1, .inl x2, .inl x3, .inl x4] SH mm ((rI mm) r).1 SH ((rI mm) r).2 := by
  refine aMet_ofG (by decide +kernel) rfl (Nat.le_of_ble_eq_true rfl) h (fun p e s m args below meth c al0 K => ?_)
  unfold R_isBest
  refine gl (i' := 1) (fun _ _ => aw_aload_n K (dOf ck_mX12_isBest rfl rfl) rfl) ?_
  refine gl (i' := 2) (fun _ _ => aw_iload_n K (dOf ck_mX12_isBest rfl rfl) rfl) ?_
  refine gl (i' := 3) (fun _ _ => aw_iload_n K (dOf ck_mX12_isBest rfl rfl) rfl) ?_
  refine gl (i' := 4) (fun _ _ => aw_iload_n K (dOf ck_mX12_isBest rfl rfl) rfl) ?_
  refine gl (i' := 5) (fun _ _ => aw_iload K (dOf ck_mX12_isBest rfl rfl) rfl) ?_
  refine g_callVI K [.inl _, .inl _, .inl _, .inl _] rfl (dOf ck_mX12_isBest rfl rfl) al_OneBreathModel_285 rfl rfl ⟨wd_1462, wd_102⟩ rfl (Nat.le_of_ble_eq_true rfl) ⟨Nat.le_of_ble_eq_true rfl, Nat.le_of_ble_eq_true rfl⟩ (fun b hb => met_R_offBy  hb) (fun r1 hr1 => ?_)
  refine gl (i' := 7) (fun _ _ => aw_istore K (dOf ck_mX12_isBest rfl rfl) (Nat.le_of_ble_eq_true rfl)) ?_
  refine g_lv (lv' := [(5, .inl _), (0, .inr (.inr (.inl (some _)))), (1, .inl _), (2, .inl _), (3, .inl _), (4, .inl _)]) rfl ?_
  refine gl (i' := 8) (fun _ _ => aw_iload K (dOf ck_mX12_isBest rfl rfl) rfl) ?_
  refine gl (i' := 9) (fun _ _ => aw_sip K (dOf ck_mX12_isBest rfl rfl) (v := 1000) rfl) ?_
  refine g_icmp_lt K (dOf ck_mX12_isBest rfl rfl) (t := 12) (aJ_of (by decide +kernel)) (fun h2 => ?_) (fun h2 => ?_)
  · refine gl (i' := 13) (fun _ _ => aw_iload_n K (dOf ck_mX12_isBest rfl rfl) rfl) ?_
    refine gl (i' := 14) (fun _ _ => aw_aload_n K (dOf ck_mX12_isBest rfl rfl) rfl) ?_
    refine gl (i' := 15) (fun _ _ => aw_getf K (dOf ck_mX12_isBest rfl rfl) rfl rfl (Nat.le_of_ble_eq_true rfl) wd_1206 (k := 1) rfl) ?_
    refine gl (i' := 16) (fun _ _ => aw_bip K (dOf ck_mX12_isBest rfl rfl) (v := 19) rfl) ?_
    refine gl (i' := 17) (fun _ _ => aw_iload_n K (dOf ck_mX12_isBest rfl rfl) rfl) ?_
    refine gl (i' := 18) (fun _ _ => aw_iadd K (dOf ck_mX12_isBest rfl rfl)) ?_
    refine g_gd (fun hb3 => ?_)
    refine gl (i' := 19) (fun _ _ => aw_iald K (dOf ck_mX12_isBest rfl rfl) rfl hb3) ?_
    refine gl (i' := 20) (fun _ _ => aw_iadd K (dOf ck_mX12_isBest rfl rfl)) ?_
    refine gl (i' := 21) (fun _ _ => aw_bip K (dOf ck_mX12_isBest rfl rfl) (v := 14) rfl) ?_
    refine gl (i' := 22) (fun _ _ => aw_imul K (dOf ck_mX12_isBest rfl rfl)) ?_
    refine gl (i' := 23) (fun _ _ => aw_iload_n K (dOf ck_mX12_isBest rfl rfl) rfl) ?_
    refine gl (i' := 24) (fun _ _ => aw_iadd K (dOf ck_mX12_isBest rfl rfl)) ?_
    refine gl (i' := 25) (fun _ _ => aw_istore K (dOf ck_mX12_isBest rfl rfl) (Nat.le_of_ble_eq_true rfl)) ?_
    refine g_lv (lv' := [(6, .inl _), (5, .inl _), (0, .inr (.inr (.inl (some _)))), (1, .inl _), (2, .inl _), (3, .inl _), (4, .inl _)]) rfl ?_
    refine gl (i' := 26) (fun _ _ => aw_aload_n K (dOf ck_mX12_isBest rfl rfl) rfl) ?_
    refine gl (i' := 27) (fun _ _ => aw_getf K (dOf ck_mX12_isBest rfl rfl) rfl rfl (Nat.le_of_ble_eq_true rfl) wd_1224 (k := 19) rfl) ?_
    refine gl (i' := 28) (fun _ _ => aw_iload K (dOf ck_mX12_isBest rfl rfl) rfl) ?_
    refine g_gd (fun hb4 => ?_)
    refine gl (i' := 29) (fun _ _ => aw_iald K (dOf ck_mX12_isBest rfl rfl) rfl hb4) ?_
    refine gl (i' := 30) (fun _ _ => aw_sip K (dOf ck_mX12_isBest rfl rfl) (v := 1000) rfl) ?_
    refine g_icmp_ge K (dOf ck_mX12_isBest rfl rfl) (t := 68) (aJ_of (by decide +kernel)) (fun h5 => ?_) (fun h5 => ?_)
    · refine gl (i' := 32) (fun _ _ => aw_iload K (dOf ck_mX12_isBest rfl rfl) rfl) ?_
      refine gl (i' := 33) (fun _ _ => aw_aload_n K (dOf ck_mX12_isBest rfl rfl) rfl) ?_
      refine gl (i' := 34) (fun _ _ => aw_getf K (dOf ck_mX12_isBest rfl rfl) rfl rfl (Nat.le_of_ble_eq_true rfl) wd_1224 (k := 19) rfl) ?_
      refine gl (i' := 35) (fun _ _ => aw_iload K (dOf ck_mX12_isBest rfl rfl) rfl) ?_
      refine gl (i' := 36) (fun _ _ => aw_iald K (dOf ck_mX12_isBest rfl rfl) rfl hb4) ?_
      refine gl (i' := 37) (fun _ _ => aw_iadd K (dOf ck_mX12_isBest rfl rfl)) ?_
      refine gl (i' := 38) (fun _ _ => aw_aload_n K (dOf ck_mX12_isBest rfl rfl) rfl) ?_
      refine gl (i' := 39) (fun _ _ => aw_getf K (dOf ck_mX12_isBest rfl rfl) rfl rfl (Nat.le_of_ble_eq_true rfl) wd_1224 (k := 19) rfl) ?_
      refine gl (i' := 40) (fun _ _ => aw_iload_n K (dOf ck_mX12_isBest rfl rfl) rfl) ?_
      refine gl (i' := 41) (fun _ _ => aw_bip K (dOf ck_mX12_isBest rfl rfl) (v := 14) rfl) ?_
      refine gl (i' := 42) (fun _ _ => aw_imul K (dOf ck_mX12_isBest rfl rfl)) ?_
      refine gl (i' := 43) (fun _ _ => aw_iload_n K (dOf ck_mX12_isBest rfl rfl) rfl) ?_
      refine gl (i' := 44) (fun _ _ => aw_iadd K (dOf ck_mX12_isBest rfl rfl)) ?_
      refine g_gd (fun hb6 => ?_)
      refine gl (i' := 45) (fun _ _ => aw_iald K (dOf ck_mX12_isBest rfl rfl) rfl hb6) ?_
      refine g_icmp_ne K (dOf ck_mX12_isBest rfl rfl) (t := 68) (aJ_of (by decide +kernel)) (fun h7 => ?_) (fun h7 => ?_)
      · refine gl (i' := 47) (fun _ _ => aw_aload_n K (dOf ck_mX12_isBest rfl rfl) rfl) ?_
        refine gl (i' := 48) (fun _ _ => aw_getf K (dOf ck_mX12_isBest rfl rfl) rfl rfl (Nat.le_of_ble_eq_true rfl) wd_1206 (k := 1) rfl) ?_
        refine gl (i' := 49) (fun _ _ => aw_bip K (dOf ck_mX12_isBest rfl rfl) (v := 32) rfl) ?_
        refine gl (i' := 50) (fun _ _ => aw_iload_n K (dOf ck_mX12_isBest rfl rfl) rfl) ?_
        refine gl (i' := 51) (fun _ _ => aw_iadd K (dOf ck_mX12_isBest rfl rfl)) ?_
        refine g_gd (fun hb8 => ?_)
        refine gl (i' := 52) (fun _ _ => aw_iald K (dOf ck_mX12_isBest rfl rfl) rfl hb8) ?_
        refine gl (i' := 53) (fun _ _ => aw_aload_n K (dOf ck_mX12_isBest rfl rfl) rfl) ?_
        refine gl (i' := 54) (fun _ _ => aw_getf K (dOf ck_mX12_isBest rfl rfl) rfl rfl (Nat.le_of_ble_eq_true rfl) wd_1225 (k := 20) rfl) ?_
        refine gl (i' := 55) (fun _ _ => aw_iload K (dOf ck_mX12_isBest rfl rfl) rfl) ?_
        refine gl (i' := 56) (fun _ _ => aw_iald K (dOf ck_mX12_isBest rfl rfl) rfl hb4) ?_
        refine gl (i' := 57) (fun _ _ => aw_iadd K (dOf ck_mX12_isBest rfl rfl)) ?_
        refine gl (i' := 58) (fun _ _ => aw_aload_n K (dOf ck_mX12_isBest rfl rfl) rfl) ?_
        refine gl (i' := 59) (fun _ _ => aw_getf K (dOf ck_mX12_isBest rfl rfl) rfl rfl (Nat.le_of_ble_eq_true rfl) wd_1225 (k := 20) rfl) ?_
        refine gl (i' := 60) (fun _ _ => aw_iload_n K (dOf ck_mX12_isBest rfl rfl) rfl) ?_
        refine gl (i' := 61) (fun _ _ => aw_bip K (dOf ck_mX12_isBest rfl rfl) (v := 14) rfl) ?_
        refine gl (i' := 62) (fun _ _ => aw_imul K (dOf ck_mX12_isBest rfl rfl)) ?_
        refine gl (i' := 63) (fun _ _ => aw_iload_n K (dOf ck_mX12_isBest rfl rfl) rfl) ?_
        refine gl (i' := 64) (fun _ _ => aw_iadd K (dOf ck_mX12_isBest rfl rfl)) ?_
        refine gl (i' := 65) (fun _ _ => aw_iald K (dOf ck_mX12_isBest rfl rfl) rfl hb6) ?_
        refine g_icmp_ne K (dOf ck_mX12_isBest rfl rfl) (t := 68) (aJ_of (by decide +kernel)) (fun h9 => ?_) (fun h9 => ?_)
        · refine gl (i' := 67) (fun _ _ => aw_iconst K (n := 1) (i32 _ rfl) (dOf ck_mX12_isBest rfl rfl)) ?_
          refine g_goto K (dOf ck_mX12_isBest rfl rfl).1 (t := 69) (aJ_of (by decide +kernel)) ?_
          exact g_iret K (by decide +kernel) rfl (Or.inr (Or.inl ⟨rfl, Or.inr rfl⟩)) rfl
        · refine gl (i' := 69) (fun _ _ => aw_iconst K (n := 0) (i32 _ rfl) (dOf ck_mX12_isBest rfl rfl)) ?_
          exact g_iret K (by decide +kernel) rfl (Or.inr (Or.inl ⟨rfl, Or.inl rfl⟩)) rfl
      · refine gl (i' := 69) (fun _ _ => aw_iconst K (n := 0) (i32 _ rfl) (dOf ck_mX12_isBest rfl rfl)) ?_
        exact g_iret K (by decide +kernel) rfl (Or.inr (Or.inl ⟨rfl, Or.inl rfl⟩)) rfl
    · refine gl (i' := 69) (fun _ _ => aw_iconst K (n := 0) (i32 _ rfl) (dOf ck_mX12_isBest rfl rfl)) ?_
      exact g_iret K (by decide +kernel) rfl (Or.inr (Or.inl ⟨rfl, Or.inl rfl⟩)) rfl
  · refine gl (i' := 11) (fun _ _ => aw_iconst K (n := 0) (i32 _ rfl) (dOf ck_mX12_isBest rfl rfl)) ?_
    exact g_iret K (dOf ck_mX12_isBest rfl rfl).1 rfl (Or.inr (Or.inl ⟨rfl, Or.inl rfl⟩)) rfl
def R_findsBest_24 (k18 : Int → Int → aM → Option (Int × aM)) (x1 : Int) (x2 : Int) (x3 : Int) : Nat → Int → aM → Option (Int × aM)
  | 0, _, _ => none
  | n + 1, x4, mm => (R_isBest x3 x4 x2 x1 mm).bind fun r5 => (if r5 = 0 then (R_findsBest_24 k18 x1 x2 x3 n (w32 (x4 + 1)) mm) else (if 0 ≤ (mm 176 22) ∧ (mm 176 22) < 40 then (st1 (aup mm 186 (mm 176 22).toNat x4) fun mm8 => (st1 (aup mm8 176 22 (w32 ((mm8 176 22) + 1))) fun mm9 => (if 0 ≤ (w32 (19 + x4)) ∧ (w32 (19 + x4)) < 588 then (k18 (w32 (x2 + (mm9 177 (w32 (19 + x4)).toNat))) x4 mm9) else none))) else none))
set_option maxHeartbeats 4000000 in
theorem lk_R_findsBest_24 {p : Program} {l : Launch} {e : Env} {s : State} {m : MethodId} {args : Array Value} {below : List Frame} {meth : Method} {c : Code} {D : va_G} {cA : FieldType → ClassId} {ad adV : Nat → Nat} {z0 : Nat} {al0 : List Nat} (K : aK p s m args meth c mX12_findsBest D cA ad adV z0) (x1 : Int) (x2 : Int) (x3 : Int) (k18 : Int → Int → aM → Option (Int × aM)) (hk18 : ∀ (x2 : Int) (x3 : Int) (mm : aM), aG p l e { frames := 4, cells := 0, slots := 0, locals := 101 } s m args below meth c D cA ad z0 mX12_findsBest al0 rIM (k18 x2 x3 mm) 18 [(0, .inr (.inr (.inl (some 176)))), (1, .inl x1), (2, .inl x2), (3, .inl x3)] [] mm)  : ∀ (n : Nat) (x4 : Int) (mm : aM), aG p l e { frames := 4, cells := 0, slots := 0, locals := 101 } s m args below meth c D cA ad z0 mX12_findsBest al0 rIM (R_findsBest_24 k18 x1 x2 x3 n x4 mm) 24 [(0, .inr (.inr (.inl (some 176)))), (1, .inl x1), (2, .inl x2), (3, .inl x3), (4, .inl x4)] [] mm := by
  intro n
  induction n with
  | zero => intro x4 mm; exact g_none
  | succ n ih =>
    intro x4 mm
    rw [R_findsBest_24]
    refine gl (i' := 25) (fun _ _ => aw_aload_n K (dOf ck_mX12_findsBest rfl rfl) rfl) ?_
    refine gl (i' := 26) (fun _ _ => aw_iload_n K (dOf ck_mX12_findsBest rfl rfl) rfl) ?_
    refine gl (i' := 27) (fun _ _ => aw_iload K (dOf ck_mX12_findsBest rfl rfl) rfl) ?_
    refine gl (i' := 28) (fun _ _ => aw_iload_n K (dOf ck_mX12_findsBest rfl rfl) rfl) ?_
    refine gl (i' := 29) (fun _ _ => aw_iload_n K (dOf ck_mX12_findsBest rfl rfl) rfl) ?_
    refine g_callVI K [.inl _, .inl _, .inl _, .inl _] rfl (dOf ck_mX12_findsBest rfl rfl) al_OneBreathModel_296 rfl rfl ⟨wd_1465, wd_103⟩ rfl (Nat.le_of_ble_eq_true rfl) ⟨Nat.le_of_ble_eq_true rfl, Nat.le_of_ble_eq_true rfl⟩ (fun b hb => met_R_isBest  hb) (fun r5 hr5 => ?_)
    refine g_if_ne K (dOf ck_mX12_findsBest rfl rfl) (t := 33) (aJ_of (by decide +kernel)) (fun h6 => ?_) (fun h6 => ?_)
    · refine gl (i' := 32) (fun _ _ => aw_iinc K (dOf ck_mX12_findsBest rfl rfl) (Nat.le_of_ble_eq_true rfl) rfl) ?_
      refine g_lv (lv' := [(4, .inl _), (0, .inr (.inr (.inl (some _)))), (1, .inl _), (2, .inl _), (3, .inl _)]) rfl ?_
      refine g_goto K (dOf ck_mX12_findsBest rfl rfl).1 (t := 24) (aJ_of (by decide +kernel)) ?_
      refine g_sub [1, 2, 3, 4, 0] rfl ?_
      exact ih _ _
    · refine gl (i' := 34) (fun _ _ => aw_aload_n K (dOf ck_mX12_findsBest rfl rfl) rfl) ?_
      refine gl (i' := 35) (fun _ _ => aw_getf K (dOf ck_mX12_findsBest rfl rfl) rfl rfl (Nat.le_of_ble_eq_true rfl) wd_1226 (k := 21) rfl) ?_
      refine gl (i' := 36) (fun _ _ => aw_aload_n K (dOf ck_mX12_findsBest rfl rfl) rfl) ?_
      refine gl (i' := 37) (fun _ _ => aw_getf K (dOf ck_mX12_findsBest rfl rfl) rfl rfl (Nat.le_of_ble_eq_true rfl) wd_1227 (k := 22) rfl) ?_
      refine gl (i' := 38) (fun _ _ => aw_iload K (dOf ck_mX12_findsBest rfl rfl) rfl) ?_
      refine g_gd (fun hb7 => ?_)
      refine g_st1 ?_
      refine gl (i' := 39) (fun _ _ => aw_iast K (dOf ck_mX12_findsBest rfl rfl) rfl hb7) ?_
      refine gl (i' := 40) (fun _ _ => aw_aload_n K (dOf ck_mX12_findsBest rfl rfl) rfl) ?_
      refine gl (i' := 41) (fun _ _ => aw_dup K rfl (dOf ck_mX12_findsBest rfl rfl)) ?_
      refine gl (i' := 42) (fun _ _ => aw_getf K (dOf ck_mX12_findsBest rfl rfl) rfl rfl (Nat.le_of_ble_eq_true rfl) wd_1227 (k := 22) rfl) ?_
      refine gl (i' := 43) (fun _ _ => aw_iconst K (n := 1) (i32 _ rfl) (dOf ck_mX12_findsBest rfl rfl)) ?_
      refine gl (i' := 44) (fun _ _ => aw_iadd K (dOf ck_mX12_findsBest rfl rfl)) ?_
      refine g_st1 ?_
      refine gl (i' := 45) (fun _ _ => aw_putf K (dOf ck_mX12_findsBest rfl rfl) rfl rfl (Nat.le_of_ble_eq_true rfl) wd_1227 (k := 22) rfl rfl (Or.inl rfl)) ?_
      refine gl (i' := 46) (fun _ _ => aw_iload_n K (dOf ck_mX12_findsBest rfl rfl) rfl) ?_
      refine gl (i' := 47) (fun _ _ => aw_aload_n K (dOf ck_mX12_findsBest rfl rfl) rfl) ?_
      refine gl (i' := 48) (fun _ _ => aw_getf K (dOf ck_mX12_findsBest rfl rfl) rfl rfl (Nat.le_of_ble_eq_true rfl) wd_1206 (k := 1) rfl) ?_
      refine gl (i' := 49) (fun _ _ => aw_bip K (dOf ck_mX12_findsBest rfl rfl) (v := 19) rfl) ?_
      refine gl (i' := 50) (fun _ _ => aw_iload K (dOf ck_mX12_findsBest rfl rfl) rfl) ?_
      refine gl (i' := 51) (fun _ _ => aw_iadd K (dOf ck_mX12_findsBest rfl rfl)) ?_
      refine g_gd (fun hb10 => ?_)
      refine gl (i' := 52) (fun _ _ => aw_iald K (dOf ck_mX12_findsBest rfl rfl) rfl hb10) ?_
      refine gl (i' := 53) (fun _ _ => aw_iadd K (dOf ck_mX12_findsBest rfl rfl)) ?_
      refine gl (i' := 54) (fun _ _ => aw_istore_n K (dOf ck_mX12_findsBest rfl rfl) (Nat.le_of_ble_eq_true rfl)) ?_
      refine g_lv (lv' := [(2, .inl _), (0, .inr (.inr (.inl (some _)))), (1, .inl _), (3, .inl _), (4, .inl _)]) rfl ?_
      refine gl (i' := 55) (fun _ _ => aw_iload K (dOf ck_mX12_findsBest rfl rfl) rfl) ?_
      refine gl (i' := 56) (fun _ _ => aw_istore_n K (dOf ck_mX12_findsBest rfl rfl) (Nat.le_of_ble_eq_true rfl)) ?_
      refine g_lv (lv' := [(3, .inl _), (2, .inl _), (0, .inr (.inr (.inl (some _)))), (1, .inl _), (4, .inl _)]) rfl ?_
      refine g_goto K (dOf ck_mX12_findsBest rfl rfl).1 (t := 18) (aJ_of (by decide +kernel)) ?_
      refine g_sub [2, 3, 1, 0] rfl ?_
      exact hk18 _ _ _
def R_findsBest_18 (x1 : Int) : Nat → Int → Int → aM → Option (Int × aM)
  | 0, _, _, _ => none
  | n + 1, x2, x3, mm => if x2 < (mm 176 17) then (R_findsBest_24 (R_findsBest_18 x1 n) x1 x2 x3 FU 0 mm) else (some (1, mm))
set_option maxHeartbeats 4000000 in
theorem lk_R_findsBest_18 {p : Program} {l : Launch} {e : Env} {s : State} {m : MethodId} {args : Array Value} {below : List Frame} {meth : Method} {c : Code} {D : va_G} {cA : FieldType → ClassId} {ad adV : Nat → Nat} {z0 : Nat} {al0 : List Nat} (K : aK p s m args meth c mX12_findsBest D cA ad adV z0) (x1 : Int)  : ∀ (n : Nat) (x2 : Int) (x3 : Int) (mm : aM), aG p l e { frames := 4, cells := 0, slots := 0, locals := 101 } s m args below meth c D cA ad z0 mX12_findsBest al0 rIM (R_findsBest_18 x1 n x2 x3 mm) 18 [(0, .inr (.inr (.inl (some 176)))), (1, .inl x1), (2, .inl x2), (3, .inl x3)] [] mm := by
  intro n
  induction n with
  | zero => intro x2 x3 mm; exact g_none
  | succ n ih =>
    intro x2 x3 mm
    rw [R_findsBest_18]
    refine gl (i' := 19) (fun _ _ => aw_iload_n K (dOf ck_mX12_findsBest rfl rfl) rfl) ?_
    refine gl (i' := 20) (fun _ _ => aw_aload_n K (dOf ck_mX12_findsBest rfl rfl) rfl) ?_
    refine gl (i' := 21) (fun _ _ => aw_getf K (dOf ck_mX12_findsBest rfl rfl) rfl rfl (Nat.le_of_ble_eq_true rfl) wd_1222 (k := 17) rfl) ?_
    refine g_icmp_ge K (dOf ck_mX12_findsBest rfl rfl) (t := 57) (aJ_of (by decide +kernel)) (fun h4 => ?_) (fun h4 => ?_)
    · refine gl (i' := 23) (fun _ _ => aw_iconst K (n := 0) (i32 _ rfl) (dOf ck_mX12_findsBest rfl rfl)) ?_
      refine gl (i' := 24) (fun _ _ => aw_istore K (dOf ck_mX12_findsBest rfl rfl) (Nat.le_of_ble_eq_true rfl)) ?_
      refine g_lv (lv' := [(4, .inl _), (0, .inr (.inr (.inl (some _)))), (1, .inl _), (2, .inl _), (3, .inl _)]) rfl ?_
      refine g_sub [1, 2, 3, 4, 0] rfl ?_
      exact lk_R_findsBest_24 K _ _ _ _ ih FU _ _
    · refine gl (i' := 58) (fun _ _ => aw_iconst K (n := 1) (i32 _ rfl) (dOf ck_mX12_findsBest rfl rfl)) ?_
      exact g_iret K (by decide +kernel) rfl (Or.inr (Or.inl ⟨rfl, Or.inr rfl⟩)) rfl
def R_findsBest (x1 : Int) (mm : aM) : Option (Int × aM) := (R_laysBest x1 mm).bind fun r1 => (st1 (aup r1 176 22 0) fun mm2 => (if (mm2 184 13) < 1000 then (R_findsBest_18 x1 FU 0 13 mm2) else (some (0, mm2))))
set_option maxHeartbeats 4000000 in
theorem met_R_findsBest {l : Launch} {D : va_G} {cA : FieldType → ClassId} {ad adV : Nat → Nat} {z0 : Nat} {x1 : Int} {mm : aM}  {r : Int × aM} (h : R_findsBest x1 mm = some r) : aMet l D cA ad adV z0 mX12_findsBest 4 101 0 0 [.inr (.inr (.inl (some 176))), .inl x1] SH mm (rIM r).1 SH (rIM r).2 := by
  refine aMet_ofG (by decide +kernel) rfl (Nat.le_of_ble_eq_true rfl) h (fun p e s m args below meth c al0 K => ?_)
  unfold R_findsBest
  refine gl (i' := 1) (fun _ _ => aw_aload_n K (dOf ck_mX12_findsBest rfl rfl) rfl) ?_
  refine gl (i' := 2) (fun _ _ => aw_iload_n K (dOf ck_mX12_findsBest rfl rfl) rfl) ?_
  refine g_callVM K [.inl _] rfl (dOf ck_mX12_findsBest rfl rfl) al_OneBreathModel_289 rfl rfl ⟨wd_1459, wd_101⟩ rfl (Nat.le_of_ble_eq_true rfl) ⟨Nat.le_of_ble_eq_true rfl, Nat.le_of_ble_eq_true rfl⟩ (fun b hb => met_R_laysBest  hb) (fun r1 hr1 => ?_)
  refine gl (i' := 4) (fun _ _ => aw_aload_n K (dOf ck_mX12_findsBest rfl rfl) rfl) ?_
  refine gl (i' := 5) (fun _ _ => aw_iconst K (n := 0) (i32 _ rfl) (dOf ck_mX12_findsBest rfl rfl)) ?_
  refine g_st1 ?_
  refine gl (i' := 6) (fun _ _ => aw_putf K (dOf ck_mX12_findsBest rfl rfl) rfl rfl (Nat.le_of_ble_eq_true rfl) wd_1227 (k := 22) rfl rfl (Or.inl rfl)) ?_
  refine gl (i' := 7) (fun _ _ => aw_aload_n K (dOf ck_mX12_findsBest rfl rfl) rfl) ?_
  refine gl (i' := 8) (fun _ _ => aw_getf K (dOf ck_mX12_findsBest rfl rfl) rfl rfl (Nat.le_of_ble_eq_true rfl) wd_1224 (k := 19) rfl) ?_
  refine gl (i' := 9) (fun _ _ => aw_bip K (dOf ck_mX12_findsBest rfl rfl) (v := 13) rfl) ?_
  refine gl (i' := 10) (fun _ _ => aw_iald K (dOf ck_mX12_findsBest rfl rfl) rfl (by decide)) ?_
  refine gl (i' := 11) (fun _ _ => aw_sip K (dOf ck_mX12_findsBest rfl rfl) (v := 1000) rfl) ?_
  refine g_icmp_lt K (dOf ck_mX12_findsBest rfl rfl) (t := 14) (aJ_of (by decide +kernel)) (fun h3 => ?_) (fun h3 => ?_)
  · refine gl (i' := 15) (fun _ _ => aw_iconst K (n := 0) (i32 _ rfl) (dOf ck_mX12_findsBest rfl rfl)) ?_
    refine gl (i' := 16) (fun _ _ => aw_istore_n K (dOf ck_mX12_findsBest rfl rfl) (Nat.le_of_ble_eq_true rfl)) ?_
    refine g_lv (lv' := [(2, .inl _), (0, .inr (.inr (.inl (some _)))), (1, .inl _)]) rfl ?_
    refine gl (i' := 17) (fun _ _ => aw_bip K (dOf ck_mX12_findsBest rfl rfl) (v := 13) rfl) ?_
    refine gl (i' := 18) (fun _ _ => aw_istore_n K (dOf ck_mX12_findsBest rfl rfl) (Nat.le_of_ble_eq_true rfl)) ?_
    refine g_lv (lv' := [(3, .inl _), (2, .inl _), (0, .inr (.inr (.inl (some _)))), (1, .inl _)]) rfl ?_
    refine g_sub [2, 3, 1, 0] rfl ?_
    exact lk_R_findsBest_18 K _ FU _ _ _
  · refine gl (i' := 13) (fun _ _ => aw_iconst K (n := 0) (i32 _ rfl) (dOf ck_mX12_findsBest rfl rfl)) ?_
    exact g_iret K (dOf ck_mX12_findsBest rfl rfl).1 rfl (Or.inr (Or.inl ⟨rfl, Or.inl rfl⟩)) rfl
def R_finds_14 (s0 : Int) (mm : aM) : Option (Int × aM) := (R_findsBest s0 mm).bind fun r3 => (if r3.1 = 0 ∨ r3.1 = 1 then (some (r3.1, r3.2)) else none)
set_option maxHeartbeats 4000000 in
theorem lk_R_finds_14 {p : Program} {l : Launch} {e : Env} {s : State} {m : MethodId} {args : Array Value} {below : List Frame} {meth : Method} {c : Code} {D : va_G} {cA : FieldType → ClassId} {ad adV : Nat → Nat} {z0 : Nat} {al0 : List Nat} (K : aK p s m args meth c mX12_finds D cA ad adV z0)   (s0 : Int) (mm : aM) : aG p l e { frames := 5, cells := 0, slots := 0, locals := 125 } s m args below meth c D cA ad z0 mX12_finds al0 rIM (R_finds_14 s0 mm) 14 [] [.inl s0, .inr (.inr (.inl (some 176)))] mm := by
  unfold R_finds_14
  refine g_callVIM K [.inl _] rfl (dOf ck_mX12_finds rfl rfl) al_OneBreathModel_306 rfl rfl ⟨wd_1456, wd_100⟩ rfl (Nat.le_of_ble_eq_true rfl) ⟨Nat.le_of_ble_eq_true rfl, Nat.le_of_ble_eq_true rfl⟩ (fun b hb => met_R_findsBest  hb) (fun r3 hr3 => ?_)
  refine g_gd (fun hb4 => ?_)
  exact g_iret K (by decide +kernel) rfl (Or.inr (Or.inl ⟨rfl, hb4⟩)) rfl
def R_finds (x1 : Int) (mm : aM) : Option (Int × aM) := if x1 < 2 then ((R_findsFirst x1 mm).bind fun r5 => (if r5.1 = 0 ∨ r5.1 = 1 then (some (r5.1, r5.2)) else none)) else (if x1 = 3 then (R_finds_14 1 mm) else (R_finds_14 0 mm))
set_option maxHeartbeats 4000000 in
theorem met_R_finds {l : Launch} {D : va_G} {cA : FieldType → ClassId} {ad adV : Nat → Nat} {z0 : Nat} {x1 : Int} {mm : aM}  {r : Int × aM} (h : R_finds x1 mm = some r) : aMet l D cA ad adV z0 mX12_finds 5 125 0 0 [.inr (.inr (.inl (some 176))), .inl x1] SH mm (rIM r).1 SH (rIM r).2 := by
  refine aMet_ofG (by decide +kernel) rfl (Nat.le_of_ble_eq_true rfl) h (fun p e s m args below meth c al0 K => ?_)
  unfold R_finds
  refine gl (i' := 1) (fun _ _ => aw_iload_n K (dOf ck_mX12_finds rfl rfl) rfl) ?_
  refine gl (i' := 2) (fun _ _ => aw_iconst K (n := 2) (i32 _ rfl) (dOf ck_mX12_finds rfl rfl)) ?_
  refine g_icmp_ge K (dOf ck_mX12_finds rfl rfl) (t := 7) (aJ_of (by decide +kernel)) (fun h1 => ?_) (fun h1 => ?_)
  · refine gl (i' := 4) (fun _ _ => aw_aload_n K (dOf ck_mX12_finds rfl rfl) rfl) ?_
    refine gl (i' := 5) (fun _ _ => aw_iload_n K (dOf ck_mX12_finds rfl rfl) rfl) ?_
    refine g_callVIM K [.inl _] rfl (dOf ck_mX12_finds rfl rfl) al_OneBreathModel_303 rfl rfl ⟨wd_1450, wd_98⟩ rfl (Nat.le_of_ble_eq_true rfl) ⟨Nat.le_of_ble_eq_true rfl, Nat.le_of_ble_eq_true rfl⟩ (fun b hb => met_R_findsFirst  hb) (fun r5 hr5 => ?_)
    refine g_goto K (dOf ck_mX12_finds rfl rfl).1 (t := 15) (aJ_of (by decide +kernel)) ?_
    refine g_gd (fun hb6 => ?_)
    exact g_iret K (by decide +kernel) rfl (Or.inr (Or.inl ⟨rfl, hb6⟩)) rfl
  · refine gl (i' := 8) (fun _ _ => aw_aload_n K (dOf ck_mX12_finds rfl rfl) rfl) ?_
    refine gl (i' := 9) (fun _ _ => aw_iload_n K (dOf ck_mX12_finds rfl rfl) rfl) ?_
    refine gl (i' := 10) (fun _ _ => aw_iconst K (n := 3) (i32 _ rfl) (dOf ck_mX12_finds rfl rfl)) ?_
    refine g_icmp_ne K (dOf ck_mX12_finds rfl rfl) (t := 13) (aJ_of (by decide +kernel)) (fun h2 => ?_) (fun h2 => ?_)
    · refine gl (i' := 12) (fun _ _ => aw_iconst K (n := 1) (i32 _ rfl) (dOf ck_mX12_finds rfl rfl)) ?_
      refine g_goto K (dOf ck_mX12_finds rfl rfl).1 (t := 14) (aJ_of (by decide +kernel)) ?_
      refine g_sub [] rfl ?_
      exact lk_R_finds_14 K _ _
    · refine gl (i' := 14) (fun _ _ => aw_iconst K (n := 0) (i32 _ rfl) (dOf ck_mX12_finds rfl rfl)) ?_
      refine g_sub [] rfl ?_
      exact lk_R_finds_14 K _ _
def R_cut (x1 : Int) (x2 : Int) (mm : aM) : Option (Int × aM) := st1 (aup mm 176 0 0) fun mm1 => ((R_within x1 0 3 mm1).bind fun r2 => (if r2 = 0 then (some ((-2), mm1)) else (if x2 < (-1) then (some ((-3), mm1)) else ((R_looksAtLine mm1).bind fun r5 => ((R_finds x1 r5).bind fun r6 => (if r6.1 = 0 then (some ((-1), r6.2)) else (if x2 = (-1) then (some (r6.2 176 22, r6.2)) else (if x2 < (r6.2 176 22) then (if 0 ≤ x2 ∧ x2 < 40 then (some (r6.2 186 x2.toNat, r6.2)) else none) else (some ((-1), r6.2))))))))))
set_option maxHeartbeats 4000000 in
theorem met_R_cut {l : Launch} {D : va_G} {cA : FieldType → ClassId} {ad adV : Nat → Nat} {z0 : Nat} {x1 : Int} {x2 : Int} {mm : aM}  {r : Int × aM} (h : R_cut x1 x2 mm = some r) : aMet l D cA ad adV z0 mX12_cut 6 146 0 0 [.inr (.inr (.inl (some 176))), .inl x1, .inl x2] SH mm (rIM r).1 SH (rIM r).2 := by
  refine aMet_ofG (by decide +kernel) rfl (Nat.le_of_ble_eq_true rfl) h (fun p e s m args below meth c al0 K => ?_)
  unfold R_cut
  refine gl (i' := 1) (fun _ _ => aw_aload_n K (dOf ck_mX12_cut rfl rfl) rfl) ?_
  refine gl (i' := 2) (fun _ _ => aw_iconst K (n := 0) (i32 _ rfl) (dOf ck_mX12_cut rfl rfl)) ?_
  refine g_st1 ?_
  refine gl (i' := 3) (fun _ _ => aw_putf K (dOf ck_mX12_cut rfl rfl) rfl rfl (Nat.le_of_ble_eq_true rfl) wd_1205 (k := 0) rfl rfl (Or.inl rfl)) ?_
  refine gl (i' := 4) (fun _ _ => aw_iload_n K (dOf ck_mX12_cut rfl rfl) rfl) ?_
  refine gl (i' := 5) (fun _ _ => aw_i2l K (dOf ck_mX12_cut rfl rfl)) ?_
  refine gl (i' := 6) (fun _ _ => aw_lcn K (dOf ck_mX12_cut rfl rfl) (v := 0) rfl) ?_
  refine gl (i' := 7) (fun _ _ => aw_ldc2 K (dOf ck_mX12_cut rfl rfl) (n := 3) wd_1365 (i64 _ rfl)) ?_
  refine g_callSI K [.inr (.inl _), .inr (.inl _), .inr (.inl _)] rfl (dOf ck_mX12_cut rfl rfl) al_OneBreathModel_176 wd_1269 rfl (Nat.le_of_ble_eq_true rfl) ⟨Nat.le_of_ble_eq_true rfl, Nat.le_of_ble_eq_true rfl⟩ (fun b hb => met_R_within  hb) (fun r2 hr2 => ?_)
  refine g_if_ne K (dOf ck_mX12_cut rfl rfl) (t := 11) (aJ_of (by decide +kernel)) (fun h3 => ?_) (fun h3 => ?_)
  · refine gl (i' := 10) (fun _ _ => aw_bip K (dOf ck_mX12_cut rfl rfl) (v := -2) rfl) ?_
    exact g_iret K (dOf ck_mX12_cut rfl rfl).1 rfl (Or.inl rfl) rfl
  · refine gl (i' := 12) (fun _ _ => aw_iload_n K (dOf ck_mX12_cut rfl rfl) rfl) ?_
    refine gl (i' := 13) (fun _ _ => aw_iconst K (n := -1) (i32 _ rfl) (dOf ck_mX12_cut rfl rfl)) ?_
    refine g_icmp_ge K (dOf ck_mX12_cut rfl rfl) (t := 16) (aJ_of (by decide +kernel)) (fun h4 => ?_) (fun h4 => ?_)
    · refine gl (i' := 15) (fun _ _ => aw_bip K (dOf ck_mX12_cut rfl rfl) (v := -3) rfl) ?_
      exact g_iret K (dOf ck_mX12_cut rfl rfl).1 rfl (Or.inl rfl) rfl
    · refine gl (i' := 17) (fun _ _ => aw_aload_n K (dOf ck_mX12_cut rfl rfl) rfl) ?_
      refine g_callVM K [] rfl (dOf ck_mX12_cut rfl rfl) al_OneBreathModel_279 rfl rfl ⟨wd_1430, wd_93⟩ rfl (Nat.le_of_ble_eq_true rfl) ⟨Nat.le_of_ble_eq_true rfl, Nat.le_of_ble_eq_true rfl⟩ (fun b hb => met_R_looksAtLine  hb) (fun r5 hr5 => ?_)
      refine gl (i' := 19) (fun _ _ => aw_aload_n K (dOf ck_mX12_cut rfl rfl) rfl) ?_
      refine gl (i' := 20) (fun _ _ => aw_iload_n K (dOf ck_mX12_cut rfl rfl) rfl) ?_
      refine g_callVIM K [.inl _] rfl (dOf ck_mX12_cut rfl rfl) al_OneBreathModel_310 rfl rfl ⟨wd_1447, wd_97⟩ rfl (Nat.le_of_ble_eq_true rfl) ⟨Nat.le_of_ble_eq_true rfl, Nat.le_of_ble_eq_true rfl⟩ (fun b hb => met_R_finds  hb) (fun r6 hr6 => ?_)
      refine g_if_ne K (dOf ck_mX12_cut rfl rfl) (t := 24) (aJ_of (by decide +kernel)) (fun h7 => ?_) (fun h7 => ?_)
      · refine gl (i' := 23) (fun _ _ => aw_iconst K (n := -1) (i32 _ rfl) (dOf ck_mX12_cut rfl rfl)) ?_
        exact g_iret K (dOf ck_mX12_cut rfl rfl).1 rfl (Or.inl rfl) rfl
      · refine gl (i' := 25) (fun _ _ => aw_iload_n K (dOf ck_mX12_cut rfl rfl) rfl) ?_
        refine gl (i' := 26) (fun _ _ => aw_iconst K (n := -1) (i32 _ rfl) (dOf ck_mX12_cut rfl rfl)) ?_
        refine g_icmp_ne K (dOf ck_mX12_cut rfl rfl) (t := 30) (aJ_of (by decide +kernel)) (fun h8 => ?_) (fun h8 => ?_)
        · refine gl (i' := 28) (fun _ _ => aw_aload_n K (dOf ck_mX12_cut rfl rfl) rfl) ?_
          refine gl (i' := 29) (fun _ _ => aw_getf K (dOf ck_mX12_cut rfl rfl) rfl rfl (Nat.le_of_ble_eq_true rfl) wd_1227 (k := 22) rfl) ?_
          refine g_goto K (dOf ck_mX12_cut rfl rfl).1 (t := 40) (aJ_of (by decide +kernel)) ?_
          exact g_iret K (by decide +kernel) rfl (Or.inl rfl) rfl
        · refine gl (i' := 31) (fun _ _ => aw_iload_n K (dOf ck_mX12_cut rfl rfl) rfl) ?_
          refine gl (i' := 32) (fun _ _ => aw_aload_n K (dOf ck_mX12_cut rfl rfl) rfl) ?_
          refine gl (i' := 33) (fun _ _ => aw_getf K (dOf ck_mX12_cut rfl rfl) rfl rfl (Nat.le_of_ble_eq_true rfl) wd_1227 (k := 22) rfl) ?_
          refine g_icmp_ge K (dOf ck_mX12_cut rfl rfl) (t := 39) (aJ_of (by decide +kernel)) (fun h9 => ?_) (fun h9 => ?_)
          · refine gl (i' := 35) (fun _ _ => aw_aload_n K (dOf ck_mX12_cut rfl rfl) rfl) ?_
            refine gl (i' := 36) (fun _ _ => aw_getf K (dOf ck_mX12_cut rfl rfl) rfl rfl (Nat.le_of_ble_eq_true rfl) wd_1226 (k := 21) rfl) ?_
            refine gl (i' := 37) (fun _ _ => aw_iload_n K (dOf ck_mX12_cut rfl rfl) rfl) ?_
            refine g_gd (fun hb10 => ?_)
            refine gl (i' := 38) (fun _ _ => aw_iald K (dOf ck_mX12_cut rfl rfl) rfl hb10) ?_
            refine g_goto K (dOf ck_mX12_cut rfl rfl).1 (t := 40) (aJ_of (by decide +kernel)) ?_
            exact g_iret K (by decide +kernel) rfl (Or.inl rfl) rfl
          · refine gl (i' := 40) (fun _ _ => aw_iconst K (n := -1) (i32 _ rfl) (dOf ck_mX12_cut rfl rfl)) ?_
            exact g_iret K (by decide +kernel) rfl (Or.inl rfl) rfl
def R_mistakes  (mm : aM) : Option (Int × aM) := st1 (aup mm 176 0 0) fun mm1 => ((R_looksAtLine mm1).bind fun r2 => ((R_findsBest 1 r2).bind fun r3 => (if r3.1 = 0 then (some ((-1), r3.2)) else (some (r3.2 184 13, r3.2)))))
set_option maxHeartbeats 4000000 in
theorem met_R_mistakes {l : Launch} {D : va_G} {cA : FieldType → ClassId} {ad adV : Nat → Nat} {z0 : Nat}  {mm : aM}  {r : Int × aM} (h : R_mistakes  mm = some r) : aMet l D cA ad adV z0 mX12_mistakes 5 125 0 0 [.inr (.inr (.inl (some 176)))] SH mm (rIM r).1 SH (rIM r).2 := by
  refine aMet_ofG (by decide +kernel) rfl (Nat.le_of_ble_eq_true rfl) h (fun p e s m args below meth c al0 K => ?_)
  unfold R_mistakes
  refine gl (i' := 1) (fun _ _ => aw_aload_n K (dOf ck_mX12_mistakes rfl rfl) rfl) ?_
  refine gl (i' := 2) (fun _ _ => aw_iconst K (n := 0) (i32 _ rfl) (dOf ck_mX12_mistakes rfl rfl)) ?_
  refine g_st1 ?_
  refine gl (i' := 3) (fun _ _ => aw_putf K (dOf ck_mX12_mistakes rfl rfl) rfl rfl (Nat.le_of_ble_eq_true rfl) wd_1205 (k := 0) rfl rfl (Or.inl rfl)) ?_
  refine gl (i' := 4) (fun _ _ => aw_aload_n K (dOf ck_mX12_mistakes rfl rfl) rfl) ?_
  refine g_callVM K [] rfl (dOf ck_mX12_mistakes rfl rfl) al_OneBreathModel_279 rfl rfl ⟨wd_1430, wd_93⟩ rfl (Nat.le_of_ble_eq_true rfl) ⟨Nat.le_of_ble_eq_true rfl, Nat.le_of_ble_eq_true rfl⟩ (fun b hb => met_R_looksAtLine  hb) (fun r2 hr2 => ?_)
  refine gl (i' := 6) (fun _ _ => aw_aload_n K (dOf ck_mX12_mistakes rfl rfl) rfl) ?_
  refine gl (i' := 7) (fun _ _ => aw_iconst K (n := 1) (i32 _ rfl) (dOf ck_mX12_mistakes rfl rfl)) ?_
  refine g_callVIM K [.inl _] rfl (dOf ck_mX12_mistakes rfl rfl) al_OneBreathModel_306 rfl rfl ⟨wd_1456, wd_100⟩ rfl (Nat.le_of_ble_eq_true rfl) ⟨Nat.le_of_ble_eq_true rfl, Nat.le_of_ble_eq_true rfl⟩ (fun b hb => met_R_findsBest  hb) (fun r3 hr3 => ?_)
  refine g_if_eq K (dOf ck_mX12_mistakes rfl rfl) (t := 14) (aJ_of (by decide +kernel)) (fun h4 => ?_) (fun h4 => ?_)
  · refine gl (i' := 15) (fun _ _ => aw_iconst K (n := -1) (i32 _ rfl) (dOf ck_mX12_mistakes rfl rfl)) ?_
    exact g_iret K (by decide +kernel) rfl (Or.inl rfl) rfl
  · refine gl (i' := 10) (fun _ _ => aw_aload_n K (dOf ck_mX12_mistakes rfl rfl) rfl) ?_
    refine gl (i' := 11) (fun _ _ => aw_getf K (dOf ck_mX12_mistakes rfl rfl) rfl rfl (Nat.le_of_ble_eq_true rfl) wd_1224 (k := 19) rfl) ?_
    refine gl (i' := 12) (fun _ _ => aw_bip K (dOf ck_mX12_mistakes rfl rfl) (v := 13) rfl) ?_
    refine gl (i' := 13) (fun _ _ => aw_iald K (dOf ck_mX12_mistakes rfl rfl) rfl (by decide)) ?_
    refine g_goto K (dOf ck_mX12_mistakes rfl rfl).1 (t := 15) (aJ_of (by decide +kernel)) ?_
    exact g_iret K (by decide +kernel) rfl (Or.inl rfl) rfl
def R_bound_121 (k23 : Int → Int → aM → Option (Int × aM)) (k28 : Int → Int → aM → Option (Int × aM)) (x1 : Int) (x4 : Int) (x5 : Int) (s0 : Int) (s1 : Int) (mm : aM) : Option (Int × aM) := k28 (w64 (s1 + s0)) (w32 (x5 + 1)) mm
set_option maxHeartbeats 4000000 in
theorem lk_R_bound_121 {p : Program} {l : Launch} {e : Env} {s : State} {m : MethodId} {args : Array Value} {below : List Frame} {meth : Method} {c : Code} {D : va_G} {cA : FieldType → ClassId} {ad adV : Nat → Nat} {z0 : Nat} {al0 : List Nat} (K : aK p s m args meth c mX12_bound D cA ad adV z0) (x1 : Int) (x4 : Int) (x5 : Int) (k23 : Int → Int → aM → Option (Int × aM)) (hk23 : ∀ (x2 : Int) (x4 : Int) (mm : aM), aG p l e { frames := 3, cells := 0, slots := 0, locals := 74 } s m args below meth c D cA ad z0 mX12_bound al0 rIM (k23 x2 x4 mm) 23 [(0, .inr (.inr (.inl (some 176)))), (1, .inl x1), (2, .inr (.inl x2)), (4, .inl x4)] [] mm) (k28 : Int → Int → aM → Option (Int × aM)) (hk28 : ∀ (x2 : Int) (x5 : Int) (mm : aM), aG p l e { frames := 3, cells := 0, slots := 0, locals := 74 } s m args below meth c D cA ad z0 mX12_bound al0 rIM (k28 x2 x5 mm) 28 [(0, .inr (.inr (.inl (some 176)))), (1, .inl x1), (2, .inr (.inl x2)), (4, .inl x4), (5, .inl x5)] [] mm)  (s0 : Int) (s1 : Int) (mm : aM) : aG p l e { frames := 3, cells := 0, slots := 0, locals := 74 } s m args below meth c D cA ad z0 mX12_bound al0 rIM (R_bound_121 k23 k28 x1 x4 x5 s0 s1 mm) 121 [(0, .inr (.inr (.inl (some 176)))), (1, .inl x1), (4, .inl x4), (5, .inl x5)] [.inr (.inl s0), .inr (.inl s1)] mm := by
  unfold R_bound_121
  refine gl (i' := 122) (fun _ _ => aw_ladd K (dOf ck_mX12_bound rfl rfl)) ?_
  refine gl (i' := 123) (fun _ _ => aw_lstore_n K (dOf ck_mX12_bound rfl rfl) (Nat.le_of_ble_eq_true rfl)) ?_
  refine g_lv (lv' := [(2, .inr (.inl _)), (0, .inr (.inr (.inl (some _)))), (1, .inl _), (4, .inl _), (5, .inl _)]) rfl ?_
  refine gl (i' := 124) (fun _ _ => aw_iinc K (dOf ck_mX12_bound rfl rfl) (Nat.le_of_ble_eq_true rfl) rfl) ?_
  refine g_lv (lv' := [(5, .inl _), (2, .inr (.inl _)), (0, .inr (.inr (.inl (some _)))), (1, .inl _), (4, .inl _)]) rfl ?_
  refine g_goto K (dOf ck_mX12_bound rfl rfl).1 (t := 28) (aJ_of (by decide +kernel)) ?_
  refine g_sub [2, 3, 1, 4, 0] rfl ?_
  exact hk28 _ _ _
def R_bound_88 (k23 : Int → Int → aM → Option (Int × aM)) (k28 : Int → Int → aM → Option (Int × aM)) (x1 : Int) (x2 : Int) (x4 : Int) (x5 : Int) (x7 : Int) (mm : aM) : Option (Int × aM) := if 0 ≤ (w32 ((w32 (13 * x4)) + x5)) ∧ (w32 ((w32 (13 * x4)) + x5)) < 533 then (st1 (aup mm 188 (w32 ((w32 (13 * x4)) + x5)).toNat (Int.tmod x7 1000000007)) fun mm11 => (if x4 = x1 then (if 0 ≤ (w32 ((w32 ((w32 (x4 * 14)) + x5)) * 3)) ∧ (w32 ((w32 ((w32 (x4 * 14)) + x5)) * 3)) < 1722 then (R_bound_121 k23 k28 x1 x4 x5 (Int.tmod (w64 ((Int.tmod x7 1000000007) * (mm11 183 (w32 ((w32 ((w32 (x4 * 14)) + x5)) * 3)).toNat))) 1000000007) x2 mm11) else none) else (R_bound_121 k23 k28 x1 x4 x5 0 x2 mm11))) else none
set_option maxHeartbeats 4000000 in
theorem lk_R_bound_88 {p : Program} {l : Launch} {e : Env} {s : State} {m : MethodId} {args : Array Value} {below : List Frame} {meth : Method} {c : Code} {D : va_G} {cA : FieldType → ClassId} {ad adV : Nat → Nat} {z0 : Nat} {al0 : List Nat} (K : aK p s m args meth c mX12_bound D cA ad adV z0) (x1 : Int) (x2 : Int) (x4 : Int) (x5 : Int) (x7 : Int) (k23 : Int → Int → aM → Option (Int × aM)) (hk23 : ∀ (x2 : Int) (x4 : Int) (mm : aM), aG p l e { frames := 3, cells := 0, slots := 0, locals := 74 } s m args below meth c D cA ad z0 mX12_bound al0 rIM (k23 x2 x4 mm) 23 [(0, .inr (.inr (.inl (some 176)))), (1, .inl x1), (2, .inr (.inl x2)), (4, .inl x4)] [] mm) (k28 : Int → Int → aM → Option (Int × aM)) (hk28 : ∀ (x2 : Int) (x5 : Int) (mm : aM), aG p l e { frames := 3, cells := 0, slots := 0, locals := 74 } s m args below meth c D cA ad z0 mX12_bound al0 rIM (k28 x2 x5 mm) 28 [(0, .inr (.inr (.inl (some 176)))), (1, .inl x1), (2, .inr (.inl x2)), (4, .inl x4), (5, .inl x5)] [] mm)  (mm : aM) : aG p l e { frames := 3, cells := 0, slots := 0, locals := 74 } s m args below meth c D cA ad z0 mX12_bound al0 rIM (R_bound_88 k23 k28 x1 x2 x4 x5 x7 mm) 88 [(0, .inr (.inr (.inl (some 176)))), (1, .inl x1), (2, .inr (.inl x2)), (4, .inl x4), (5, .inl x5), (7, .inr (.inl x7))] [] mm := by
  unfold R_bound_88
  refine gl (i' := 89) (fun _ _ => aw_aload_n K (dOf ck_mX12_bound rfl rfl) rfl) ?_
  refine gl (i' := 90) (fun _ _ => aw_getf K (dOf ck_mX12_bound rfl rfl) rfl rfl (Nat.le_of_ble_eq_true rfl) wd_1229 (k := 24) rfl) ?_
  refine gl (i' := 91) (fun _ _ => aw_bip K (dOf ck_mX12_bound rfl rfl) (v := 13) rfl) ?_
  refine gl (i' := 92) (fun _ _ => aw_iload K (dOf ck_mX12_bound rfl rfl) rfl) ?_
  refine gl (i' := 93) (fun _ _ => aw_imul K (dOf ck_mX12_bound rfl rfl)) ?_
  refine gl (i' := 94) (fun _ _ => aw_iload K (dOf ck_mX12_bound rfl rfl) rfl) ?_
  refine gl (i' := 95) (fun _ _ => aw_iadd K (dOf ck_mX12_bound rfl rfl)) ?_
  refine gl (i' := 96) (fun _ _ => aw_lload K (dOf ck_mX12_bound rfl rfl) rfl) ?_
  refine gl (i' := 97) (fun _ _ => aw_ldc2 K (dOf ck_mX12_bound rfl rfl) (n := 1000000007) wd_1441 (i64 _ rfl)) ?_
  refine gl (i' := 98) (fun _ _ => aw_lrem K (by decide) (dOf ck_mX12_bound rfl rfl)) ?_
  refine g_gd (fun hb10 => ?_)
  refine g_st1 ?_
  refine gl (i' := 99) (fun _ _ => aw_last K (dOf ck_mX12_bound rfl rfl) rfl hb10) ?_
  refine gl (i' := 100) (fun _ _ => aw_lload_n K (dOf ck_mX12_bound rfl rfl) rfl) ?_
  refine gl (i' := 101) (fun _ _ => aw_iload K (dOf ck_mX12_bound rfl rfl) rfl) ?_
  refine gl (i' := 102) (fun _ _ => aw_iload_n K (dOf ck_mX12_bound rfl rfl) rfl) ?_
  refine g_icmp_ne K (dOf ck_mX12_bound rfl rfl) (t := 120) (aJ_of (by decide +kernel)) (fun h12 => ?_) (fun h12 => ?_)
  · refine gl (i' := 104) (fun _ _ => aw_lload K (dOf ck_mX12_bound rfl rfl) rfl) ?_
    refine gl (i' := 105) (fun _ _ => aw_ldc2 K (dOf ck_mX12_bound rfl rfl) (n := 1000000007) wd_1441 (i64 _ rfl)) ?_
    refine gl (i' := 106) (fun _ _ => aw_lrem K (by decide) (dOf ck_mX12_bound rfl rfl)) ?_
    refine gl (i' := 107) (fun _ _ => aw_aload_n K (dOf ck_mX12_bound rfl rfl) rfl) ?_
    refine gl (i' := 108) (fun _ _ => aw_getf K (dOf ck_mX12_bound rfl rfl) rfl rfl (Nat.le_of_ble_eq_true rfl) wd_1223 (k := 18) rfl) ?_
    refine gl (i' := 109) (fun _ _ => aw_iload K (dOf ck_mX12_bound rfl rfl) rfl) ?_
    refine gl (i' := 110) (fun _ _ => aw_bip K (dOf ck_mX12_bound rfl rfl) (v := 14) rfl) ?_
    refine gl (i' := 111) (fun _ _ => aw_imul K (dOf ck_mX12_bound rfl rfl)) ?_
    refine gl (i' := 112) (fun _ _ => aw_iload K (dOf ck_mX12_bound rfl rfl) rfl) ?_
    refine gl (i' := 113) (fun _ _ => aw_iadd K (dOf ck_mX12_bound rfl rfl)) ?_
    refine gl (i' := 114) (fun _ _ => aw_iconst K (n := 3) (i32 _ rfl) (dOf ck_mX12_bound rfl rfl)) ?_
    refine gl (i' := 115) (fun _ _ => aw_imul K (dOf ck_mX12_bound rfl rfl)) ?_
    refine g_gd (fun hb13 => ?_)
    refine gl (i' := 116) (fun _ _ => aw_lald K (dOf ck_mX12_bound rfl rfl) rfl hb13) ?_
    refine gl (i' := 117) (fun _ _ => aw_lmul K (dOf ck_mX12_bound rfl rfl)) ?_
    refine gl (i' := 118) (fun _ _ => aw_ldc2 K (dOf ck_mX12_bound rfl rfl) (n := 1000000007) wd_1441 (i64 _ rfl)) ?_
    refine gl (i' := 119) (fun _ _ => aw_lrem K (by decide) (dOf ck_mX12_bound rfl rfl)) ?_
    refine g_goto K (dOf ck_mX12_bound rfl rfl).1 (t := 121) (aJ_of (by decide +kernel)) ?_
    refine g_sub [0, 1, 3, 4] rfl ?_
    exact lk_R_bound_121 K _ _ _ _ hk23 _ hk28 _ _ _
  · refine gl (i' := 121) (fun _ _ => aw_lcn K (dOf ck_mX12_bound rfl rfl) (v := 0) rfl) ?_
    refine g_sub [0, 1, 3, 4] rfl ?_
    exact lk_R_bound_121 K _ _ _ _ hk23 _ hk28 _ _ _
def R_bound_84 (k23 : Int → Int → aM → Option (Int × aM)) (k28 : Int → Int → aM → Option (Int × aM)) (k60 : Int → Int → aM → Option (Int × aM)) (x1 : Int) (x2 : Int) (x4 : Int) (x5 : Int) (x6 : Int) (x9 : Int) (s0 : Int) (s1 : Int) (mm : aM) : Option (Int × aM) := k60 (w64 (s1 + s0)) (w32 (x9 + 1)) mm
set_option maxHeartbeats 4000000 in
theorem lk_R_bound_84 {p : Program} {l : Launch} {e : Env} {s : State} {m : MethodId} {args : Array Value} {below : List Frame} {meth : Method} {c : Code} {D : va_G} {cA : FieldType → ClassId} {ad adV : Nat → Nat} {z0 : Nat} {al0 : List Nat} (K : aK p s m args meth c mX12_bound D cA ad adV z0) (x1 : Int) (x2 : Int) (x4 : Int) (x5 : Int) (x6 : Int) (x9 : Int) (k23 : Int → Int → aM → Option (Int × aM)) (hk23 : ∀ (x2 : Int) (x4 : Int) (mm : aM), aG p l e { frames := 3, cells := 0, slots := 0, locals := 74 } s m args below meth c D cA ad z0 mX12_bound al0 rIM (k23 x2 x4 mm) 23 [(0, .inr (.inr (.inl (some 176)))), (1, .inl x1), (2, .inr (.inl x2)), (4, .inl x4)] [] mm) (k28 : Int → Int → aM → Option (Int × aM)) (hk28 : ∀ (x2 : Int) (x5 : Int) (mm : aM), aG p l e { frames := 3, cells := 0, slots := 0, locals := 74 } s m args below meth c D cA ad z0 mX12_bound al0 rIM (k28 x2 x5 mm) 28 [(0, .inr (.inr (.inl (some 176)))), (1, .inl x1), (2, .inr (.inl x2)), (4, .inl x4), (5, .inl x5)] [] mm) (k60 : Int → Int → aM → Option (Int × aM)) (hk60 : ∀ (x7 : Int) (x9 : Int) (mm : aM), aG p l e { frames := 3, cells := 0, slots := 0, locals := 74 } s m args below meth c D cA ad z0 mX12_bound al0 rIM (k60 x7 x9 mm) 60 [(0, .inr (.inr (.inl (some 176)))), (1, .inl x1), (2, .inr (.inl x2)), (4, .inl x4), (5, .inl x5), (6, .inl x6), (7, .inr (.inl x7)), (9, .inl x9)] [] mm)  (s0 : Int) (s1 : Int) (mm : aM) : aG p l e { frames := 3, cells := 0, slots := 0, locals := 74 } s m args below meth c D cA ad z0 mX12_bound al0 rIM (R_bound_84 k23 k28 k60 x1 x2 x4 x5 x6 x9 s0 s1 mm) 84 [(0, .inr (.inr (.inl (some 176)))), (1, .inl x1), (2, .inr (.inl x2)), (4, .inl x4), (5, .inl x5), (6, .inl x6), (9, .inl x9)] [.inr (.inl s0), .inr (.inl s1)] mm := by
  unfold R_bound_84
  refine gl (i' := 85) (fun _ _ => aw_ladd K (dOf ck_mX12_bound rfl rfl)) ?_
  refine gl (i' := 86) (fun _ _ => aw_lstore K (dOf ck_mX12_bound rfl rfl) (Nat.le_of_ble_eq_true rfl)) ?_
  refine g_lv (lv' := [(7, .inr (.inl _)), (0, .inr (.inr (.inl (some _)))), (1, .inl _), (2, .inr (.inl _)), (4, .inl _), (5, .inl _), (6, .inl _), (9, .inl _)]) rfl ?_
  refine gl (i' := 87) (fun _ _ => aw_iinc K (dOf ck_mX12_bound rfl rfl) (Nat.le_of_ble_eq_true rfl) rfl) ?_
  refine g_lv (lv' := [(9, .inl _), (7, .inr (.inl _)), (0, .inr (.inr (.inl (some _)))), (1, .inl _), (2, .inr (.inl _)), (4, .inl _), (5, .inl _), (6, .inl _)]) rfl ?_
  refine g_goto K (dOf ck_mX12_bound rfl rfl).1 (t := 60) (aJ_of (by decide +kernel)) ?_
  refine g_sub [2, 3, 4, 5, 6, 7, 1, 0] rfl ?_
  exact hk60 _ _ _
def R_bound_60 (k23 : Int → Int → aM → Option (Int × aM)) (k28 : Int → Int → aM → Option (Int × aM)) (x1 : Int) (x2 : Int) (x4 : Int) (x5 : Int) (x6 : Int) : Nat → Int → Int → aM → Option (Int × aM)
  | 0, _, _, _ => none
  | n + 1, x7, x9, mm => if x9 < (mm 177 18) then (if 0 < x6 then ((R_mayStand x9 x5 mm).bind fun r19 => (if r19 = 0 then (R_bound_84 k23 k28 (R_bound_60 k23 k28 x1 x2 x4 x5 x6 n) x1 x2 x4 x5 x6 x9 0 x7 mm) else (if 0 ≤ (w32 ((w32 (13 * x6)) + x9)) ∧ (w32 ((w32 (13 * x6)) + x9)) < 533 then (R_bound_84 k23 k28 (R_bound_60 k23 k28 x1 x2 x4 x5 x6 n) x1 x2 x4 x5 x6 x9 (mm 188 (w32 ((w32 (13 * x6)) + x9)).toNat) x7 mm) else none))) else (R_bound_88 k23 k28 x1 x2 x4 x5 x7 mm)) else (R_bound_88 k23 k28 x1 x2 x4 x5 x7 mm)
set_option maxHeartbeats 4000000 in
theorem lk_R_bound_60 {p : Program} {l : Launch} {e : Env} {s : State} {m : MethodId} {args : Array Value} {below : List Frame} {meth : Method} {c : Code} {D : va_G} {cA : FieldType → ClassId} {ad adV : Nat → Nat} {z0 : Nat} {al0 : List Nat} (K : aK p s m args meth c mX12_bound D cA ad adV z0) (x1 : Int) (x2 : Int) (x4 : Int) (x5 : Int) (x6 : Int) (k23 : Int → Int → aM → Option (Int × aM)) (hk23 : ∀ (x2 : Int) (x4 : Int) (mm : aM), aG p l e { frames := 3, cells := 0, slots := 0, locals := 74 } s m args below meth c D cA ad z0 mX12_bound al0 rIM (k23 x2 x4 mm) 23 [(0, .inr (.inr (.inl (some 176)))), (1, .inl x1), (2, .inr (.inl x2)), (4, .inl x4)] [] mm) (k28 : Int → Int → aM → Option (Int × aM)) (hk28 : ∀ (x2 : Int) (x5 : Int) (mm : aM), aG p l e { frames := 3, cells := 0, slots := 0, locals := 74 } s m args below meth c D cA ad z0 mX12_bound al0 rIM (k28 x2 x5 mm) 28 [(0, .inr (.inr (.inl (some 176)))), (1, .inl x1), (2, .inr (.inl x2)), (4, .inl x4), (5, .inl x5)] [] mm)  : ∀ (n : Nat) (x7 : Int) (x9 : Int) (mm : aM), aG p l e { frames := 3, cells := 0, slots := 0, locals := 74 } s m args below meth c D cA ad z0 mX12_bound al0 rIM (R_bound_60 k23 k28 x1 x2 x4 x5 x6 n x7 x9 mm) 60 [(0, .inr (.inr (.inl (some 176)))), (1, .inl x1), (2, .inr (.inl x2)), (4, .inl x4), (5, .inl x5), (6, .inl x6), (7, .inr (.inl x7)), (9, .inl x9)] [] mm := by
  intro n
  induction n with
  | zero => intro x7 x9 mm; exact g_none
  | succ n ih =>
    intro x7 x9 mm
    rw [R_bound_60]
    refine gl (i' := 61) (fun _ _ => aw_iload K (dOf ck_mX12_bound rfl rfl) rfl) ?_
    refine gl (i' := 62) (fun _ _ => aw_aload_n K (dOf ck_mX12_bound rfl rfl) rfl) ?_
    refine gl (i' := 63) (fun _ _ => aw_getf K (dOf ck_mX12_bound rfl rfl) rfl rfl (Nat.le_of_ble_eq_true rfl) wd_1206 (k := 1) rfl) ?_
    refine gl (i' := 64) (fun _ _ => aw_bip K (dOf ck_mX12_bound rfl rfl) (v := 18) rfl) ?_
    refine gl (i' := 65) (fun _ _ => aw_iald K (dOf ck_mX12_bound rfl rfl) rfl (by decide)) ?_
    refine g_icmp_ge K (dOf ck_mX12_bound rfl rfl) (t := 88) (aJ_of (by decide +kernel)) (fun h17 => ?_) (fun h17 => ?_)
    · refine gl (i' := 67) (fun _ _ => aw_iload K (dOf ck_mX12_bound rfl rfl) rfl) ?_
      refine g_if_le K (dOf ck_mX12_bound rfl rfl) (t := 88) (aJ_of (by decide +kernel)) (fun h18 => ?_) (fun h18 => ?_)
      · refine gl (i' := 69) (fun _ _ => aw_lload K (dOf ck_mX12_bound rfl rfl) rfl) ?_
        refine gl (i' := 70) (fun _ _ => aw_aload_n K (dOf ck_mX12_bound rfl rfl) rfl) ?_
        refine gl (i' := 71) (fun _ _ => aw_iload K (dOf ck_mX12_bound rfl rfl) rfl) ?_
        refine gl (i' := 72) (fun _ _ => aw_iload K (dOf ck_mX12_bound rfl rfl) rfl) ?_
        refine g_callVI K [.inl _, .inl _] rfl (dOf ck_mX12_bound rfl rfl) al_OneBreathModel_247 rfl rfl ⟨wd_1396, wd_87⟩ rfl (Nat.le_of_ble_eq_true rfl) ⟨Nat.le_of_ble_eq_true rfl, Nat.le_of_ble_eq_true rfl⟩ (fun b hb => met_R_mayStand  hb) (fun r19 hr19 => ?_)
        refine g_if_eq K (dOf ck_mX12_bound rfl rfl) (t := 83) (aJ_of (by decide +kernel)) (fun h20 => ?_) (fun h20 => ?_)
        · refine gl (i' := 84) (fun _ _ => aw_lcn K (dOf ck_mX12_bound rfl rfl) (v := 0) rfl) ?_
          refine g_sub [0, 1, 2, 3, 4, 5, 7] rfl ?_
          exact lk_R_bound_84 K _ _ _ _ _ _ _ hk23 _ hk28 _ ih _ _ _
        · refine gl (i' := 75) (fun _ _ => aw_aload_n K (dOf ck_mX12_bound rfl rfl) rfl) ?_
          refine gl (i' := 76) (fun _ _ => aw_getf K (dOf ck_mX12_bound rfl rfl) rfl rfl (Nat.le_of_ble_eq_true rfl) wd_1229 (k := 24) rfl) ?_
          refine gl (i' := 77) (fun _ _ => aw_bip K (dOf ck_mX12_bound rfl rfl) (v := 13) rfl) ?_
          refine gl (i' := 78) (fun _ _ => aw_iload K (dOf ck_mX12_bound rfl rfl) rfl) ?_
          refine gl (i' := 79) (fun _ _ => aw_imul K (dOf ck_mX12_bound rfl rfl)) ?_
          refine gl (i' := 80) (fun _ _ => aw_iload K (dOf ck_mX12_bound rfl rfl) rfl) ?_
          refine gl (i' := 81) (fun _ _ => aw_iadd K (dOf ck_mX12_bound rfl rfl)) ?_
          refine g_gd (fun hb21 => ?_)
          refine gl (i' := 82) (fun _ _ => aw_lald K (dOf ck_mX12_bound rfl rfl) rfl hb21) ?_
          refine g_goto K (dOf ck_mX12_bound rfl rfl).1 (t := 84) (aJ_of (by decide +kernel)) ?_
          refine g_sub [0, 1, 2, 3, 4, 5, 7] rfl ?_
          exact lk_R_bound_84 K _ _ _ _ _ _ _ hk23 _ hk28 _ ih _ _ _
      · refine g_sub [0, 1, 2, 3, 4, 6] rfl ?_
        exact lk_R_bound_88 K _ _ _ _ _ _ hk23 _ hk28 _
    · refine g_sub [0, 1, 2, 3, 4, 6] rfl ?_
      exact lk_R_bound_88 K _ _ _ _ _ _ hk23 _ hk28 _
def R_bound_57 (k23 : Int → Int → aM → Option (Int × aM)) (k28 : Int → Int → aM → Option (Int × aM)) (x1 : Int) (x2 : Int) (x4 : Int) (x5 : Int) (x6 : Int) (s0 : Int) (mm : aM) : Option (Int × aM) := R_bound_60 k23 k28 x1 x2 x4 x5 x6 FU s0 0 mm
set_option maxHeartbeats 4000000 in
theorem lk_R_bound_57 {p : Program} {l : Launch} {e : Env} {s : State} {m : MethodId} {args : Array Value} {below : List Frame} {meth : Method} {c : Code} {D : va_G} {cA : FieldType → ClassId} {ad adV : Nat → Nat} {z0 : Nat} {al0 : List Nat} (K : aK p s m args meth c mX12_bound D cA ad adV z0) (x1 : Int) (x2 : Int) (x4 : Int) (x5 : Int) (x6 : Int) (k23 : Int → Int → aM → Option (Int × aM)) (hk23 : ∀ (x2 : Int) (x4 : Int) (mm : aM), aG p l e { frames := 3, cells := 0, slots := 0, locals := 74 } s m args below meth c D cA ad z0 mX12_bound al0 rIM (k23 x2 x4 mm) 23 [(0, .inr (.inr (.inl (some 176)))), (1, .inl x1), (2, .inr (.inl x2)), (4, .inl x4)] [] mm) (k28 : Int → Int → aM → Option (Int × aM)) (hk28 : ∀ (x2 : Int) (x5 : Int) (mm : aM), aG p l e { frames := 3, cells := 0, slots := 0, locals := 74 } s m args below meth c D cA ad z0 mX12_bound al0 rIM (k28 x2 x5 mm) 28 [(0, .inr (.inr (.inl (some 176)))), (1, .inl x1), (2, .inr (.inl x2)), (4, .inl x4), (5, .inl x5)] [] mm)  (s0 : Int) (mm : aM) : aG p l e { frames := 3, cells := 0, slots := 0, locals := 74 } s m args below meth c D cA ad z0 mX12_bound al0 rIM (R_bound_57 k23 k28 x1 x2 x4 x5 x6 s0 mm) 57 [(0, .inr (.inr (.inl (some 176)))), (1, .inl x1), (2, .inr (.inl x2)), (4, .inl x4), (5, .inl x5), (6, .inl x6)] [.inr (.inl s0)] mm := by
  unfold R_bound_57
  refine gl (i' := 58) (fun _ _ => aw_lstore K (dOf ck_mX12_bound rfl rfl) (Nat.le_of_ble_eq_true rfl)) ?_
  refine g_lv (lv' := [(7, .inr (.inl _)), (0, .inr (.inr (.inl (some _)))), (1, .inl _), (2, .inr (.inl _)), (4, .inl _), (5, .inl _), (6, .inl _)]) rfl ?_
  refine gl (i' := 59) (fun _ _ => aw_iconst K (n := 0) (i32 _ rfl) (dOf ck_mX12_bound rfl rfl)) ?_
  refine gl (i' := 60) (fun _ _ => aw_istore K (dOf ck_mX12_bound rfl rfl) (Nat.le_of_ble_eq_true rfl)) ?_
  refine g_lv (lv' := [(9, .inl _), (7, .inr (.inl _)), (0, .inr (.inr (.inl (some _)))), (1, .inl _), (2, .inr (.inl _)), (4, .inl _), (5, .inl _), (6, .inl _)]) rfl ?_
  refine g_sub [2, 3, 4, 5, 6, 7, 1, 0] rfl ?_
  exact lk_R_bound_60 K _ _ _ _ _ _ hk23 _ hk28 FU _ _ _
def R_bound_28 (k23 : Int → Int → aM → Option (Int × aM)) (x1 : Int) (x4 : Int) : Nat → Int → Int → aM → Option (Int × aM)
  | 0, _, _, _ => none
  | n + 1, x2, x5, mm => if x5 < (mm 177 18) then (if 0 ≤ (w32 (19 + x5)) ∧ (w32 (19 + x5)) < 588 then (if (w32 (x4 - (mm 177 (w32 (19 + x5)).toNat))) < 0 then (R_bound_88 k23 (R_bound_28 k23 x1 x4 n) x1 x2 x4 x5 0 mm) else ((R_mistakesAt x5 (w32 (x4 - (mm 177 (w32 (19 + x5)).toNat))) mm).bind fun r14 => (if r14 = 0 then (if (w32 (x4 - (mm 177 (w32 (19 + x5)).toNat))) = 0 then (R_bound_57 k23 (R_bound_28 k23 x1 x4 n) x1 x2 x4 x5 (w32 (x4 - (mm 177 (w32 (19 + x5)).toNat))) 1 mm) else (R_bound_57 k23 (R_bound_28 k23 x1 x4 n) x1 x2 x4 x5 (w32 (x4 - (mm 177 (w32 (19 + x5)).toNat))) 0 mm)) else (R_bound_88 k23 (R_bound_28 k23 x1 x4 n) x1 x2 x4 x5 0 mm)))) else none) else (k23 x2 (w32 (x4 + 1)) mm)
set_option maxHeartbeats 4000000 in
theorem lk_R_bound_28 {p : Program} {l : Launch} {e : Env} {s : State} {m : MethodId} {args : Array Value} {below : List Frame} {meth : Method} {c : Code} {D : va_G} {cA : FieldType → ClassId} {ad adV : Nat → Nat} {z0 : Nat} {al0 : List Nat} (K : aK p s m args meth c mX12_bound D cA ad adV z0) (x1 : Int) (x4 : Int) (k23 : Int → Int → aM → Option (Int × aM)) (hk23 : ∀ (x2 : Int) (x4 : Int) (mm : aM), aG p l e { frames := 3, cells := 0, slots := 0, locals := 74 } s m args below meth c D cA ad z0 mX12_bound al0 rIM (k23 x2 x4 mm) 23 [(0, .inr (.inr (.inl (some 176)))), (1, .inl x1), (2, .inr (.inl x2)), (4, .inl x4)] [] mm)  : ∀ (n : Nat) (x2 : Int) (x5 : Int) (mm : aM), aG p l e { frames := 3, cells := 0, slots := 0, locals := 74 } s m args below meth c D cA ad z0 mX12_bound al0 rIM (R_bound_28 k23 x1 x4 n x2 x5 mm) 28 [(0, .inr (.inr (.inl (some 176)))), (1, .inl x1), (2, .inr (.inl x2)), (4, .inl x4), (5, .inl x5)] [] mm := by
  intro n
  induction n with
  | zero => intro x2 x5 mm; exact g_none
  | succ n ih =>
    intro x2 x5 mm
    rw [R_bound_28]
    refine gl (i' := 29) (fun _ _ => aw_iload K (dOf ck_mX12_bound rfl rfl) rfl) ?_
    refine gl (i' := 30) (fun _ _ => aw_aload_n K (dOf ck_mX12_bound rfl rfl) rfl) ?_
    refine gl (i' := 31) (fun _ _ => aw_getf K (dOf ck_mX12_bound rfl rfl) rfl rfl (Nat.le_of_ble_eq_true rfl) wd_1206 (k := 1) rfl) ?_
    refine gl (i' := 32) (fun _ _ => aw_bip K (dOf ck_mX12_bound rfl rfl) (v := 18) rfl) ?_
    refine gl (i' := 33) (fun _ _ => aw_iald K (dOf ck_mX12_bound rfl rfl) rfl (by decide)) ?_
    refine g_icmp_ge K (dOf ck_mX12_bound rfl rfl) (t := 125) (aJ_of (by decide +kernel)) (fun h7 => ?_) (fun h7 => ?_)
    · refine gl (i' := 35) (fun _ _ => aw_iload K (dOf ck_mX12_bound rfl rfl) rfl) ?_
      refine gl (i' := 36) (fun _ _ => aw_aload_n K (dOf ck_mX12_bound rfl rfl) rfl) ?_
      refine gl (i' := 37) (fun _ _ => aw_getf K (dOf ck_mX12_bound rfl rfl) rfl rfl (Nat.le_of_ble_eq_true rfl) wd_1206 (k := 1) rfl) ?_
      refine gl (i' := 38) (fun _ _ => aw_bip K (dOf ck_mX12_bound rfl rfl) (v := 19) rfl) ?_
      refine gl (i' := 39) (fun _ _ => aw_iload K (dOf ck_mX12_bound rfl rfl) rfl) ?_
      refine gl (i' := 40) (fun _ _ => aw_iadd K (dOf ck_mX12_bound rfl rfl)) ?_
      refine g_gd (fun hb8 => ?_)
      refine gl (i' := 41) (fun _ _ => aw_iald K (dOf ck_mX12_bound rfl rfl) rfl hb8) ?_
      refine gl (i' := 42) (fun _ _ => aw_isub K (dOf ck_mX12_bound rfl rfl)) ?_
      refine gl (i' := 43) (fun _ _ => aw_istore K (dOf ck_mX12_bound rfl rfl) (Nat.le_of_ble_eq_true rfl)) ?_
      refine g_lv (lv' := [(6, .inl _), (0, .inr (.inr (.inl (some _)))), (1, .inl _), (2, .inr (.inl _)), (4, .inl _), (5, .inl _)]) rfl ?_
      refine gl (i' := 44) (fun _ _ => aw_lcn K (dOf ck_mX12_bound rfl rfl) (v := 0) rfl) ?_
      refine gl (i' := 45) (fun _ _ => aw_lstore K (dOf ck_mX12_bound rfl rfl) (Nat.le_of_ble_eq_true rfl)) ?_
      refine g_lv (lv' := [(7, .inr (.inl _)), (6, .inl _), (0, .inr (.inr (.inl (some _)))), (1, .inl _), (2, .inr (.inl _)), (4, .inl _), (5, .inl _)]) rfl ?_
      refine gl (i' := 46) (fun _ _ => aw_iload K (dOf ck_mX12_bound rfl rfl) rfl) ?_
      refine g_if_lt K (dOf ck_mX12_bound rfl rfl) (t := 88) (aJ_of (by decide +kernel)) (fun h9 => ?_) (fun h9 => ?_)
      · refine g_sub [2, 3, 4, 5, 6, 0] rfl ?_
        exact lk_R_bound_88 K _ _ _ _ _ _ hk23 _ ih _
      · refine gl (i' := 48) (fun _ _ => aw_aload_n K (dOf ck_mX12_bound rfl rfl) rfl) ?_
        refine gl (i' := 49) (fun _ _ => aw_iload K (dOf ck_mX12_bound rfl rfl) rfl) ?_
        refine gl (i' := 50) (fun _ _ => aw_iload K (dOf ck_mX12_bound rfl rfl) rfl) ?_
        refine g_callVI K [.inl _, .inl _] rfl (dOf ck_mX12_bound rfl rfl) al_OneBreathModel_274 rfl rfl ⟨wd_1439, wd_96⟩ rfl (Nat.le_of_ble_eq_true rfl) ⟨Nat.le_of_ble_eq_true rfl, Nat.le_of_ble_eq_true rfl⟩ (fun b hb => met_R_mistakesAt  hb) (fun r14 hr14 => ?_)
        refine g_if_ne K (dOf ck_mX12_bound rfl rfl) (t := 88) (aJ_of (by decide +kernel)) (fun h15 => ?_) (fun h15 => ?_)
        · refine gl (i' := 53) (fun _ _ => aw_iload K (dOf ck_mX12_bound rfl rfl) rfl) ?_
          refine g_if_ne K (dOf ck_mX12_bound rfl rfl) (t := 56) (aJ_of (by decide +kernel)) (fun h16 => ?_) (fun h16 => ?_)
          · refine gl (i' := 55) (fun _ _ => aw_lcn K (dOf ck_mX12_bound rfl rfl) (v := 1) rfl) ?_
            refine g_goto K (dOf ck_mX12_bound rfl rfl).1 (t := 57) (aJ_of (by decide +kernel)) ?_
            refine g_sub [2, 3, 4, 5, 6, 1] rfl ?_
            exact lk_R_bound_57 K _ _ _ _ _ _ hk23 _ ih _ _
          · refine gl (i' := 57) (fun _ _ => aw_lcn K (dOf ck_mX12_bound rfl rfl) (v := 0) rfl) ?_
            refine g_sub [2, 3, 4, 5, 6, 1] rfl ?_
            exact lk_R_bound_57 K _ _ _ _ _ _ hk23 _ ih _ _
        · refine g_sub [2, 3, 4, 5, 6, 0] rfl ?_
          exact lk_R_bound_88 K _ _ _ _ _ _ hk23 _ ih _
    · refine gl (i' := 126) (fun _ _ => aw_iinc K (dOf ck_mX12_bound rfl rfl) (Nat.le_of_ble_eq_true rfl) rfl) ?_
      refine g_lv (lv' := [(4, .inl _), (0, .inr (.inr (.inl (some _)))), (1, .inl _), (2, .inr (.inl _)), (5, .inl _)]) rfl ?_
      refine g_goto K (dOf ck_mX12_bound rfl rfl).1 (t := 23) (aJ_of (by decide +kernel)) ?_
      refine g_sub [1, 2, 3, 0] rfl ?_
      exact hk23 _ _ _
def R_bound_23 (x1 : Int) : Nat → Int → Int → aM → Option (Int × aM)
  | 0, _, _, _ => none
  | n + 1, x2, x4, mm => if x1 < x4 then (some (w32 (Int.tmod x2 1000000007), mm)) else (R_bound_28 (R_bound_23 x1 n) x1 x4 FU x2 0 mm)
set_option maxHeartbeats 4000000 in
theorem lk_R_bound_23 {p : Program} {l : Launch} {e : Env} {s : State} {m : MethodId} {args : Array Value} {below : List Frame} {meth : Method} {c : Code} {D : va_G} {cA : FieldType → ClassId} {ad adV : Nat → Nat} {z0 : Nat} {al0 : List Nat} (K : aK p s m args meth c mX12_bound D cA ad adV z0) (x1 : Int)  : ∀ (n : Nat) (x2 : Int) (x4 : Int) (mm : aM), aG p l e { frames := 3, cells := 0, slots := 0, locals := 74 } s m args below meth c D cA ad z0 mX12_bound al0 rIM (R_bound_23 x1 n x2 x4 mm) 23 [(0, .inr (.inr (.inl (some 176)))), (1, .inl x1), (2, .inr (.inl x2)), (4, .inl x4)] [] mm := by
  intro n
  induction n with
  | zero => intro x2 x4 mm; exact g_none
  | succ n ih =>
    intro x2 x4 mm
    rw [R_bound_23]
    refine gl (i' := 24) (fun _ _ => aw_iload K (dOf ck_mX12_bound rfl rfl) rfl) ?_
    refine gl (i' := 25) (fun _ _ => aw_iload_n K (dOf ck_mX12_bound rfl rfl) rfl) ?_
    refine g_icmp_gt K (dOf ck_mX12_bound rfl rfl) (t := 127) (aJ_of (by decide +kernel)) (fun h6 => ?_) (fun h6 => ?_)
    · refine gl (i' := 128) (fun _ _ => aw_lload_n K (dOf ck_mX12_bound rfl rfl) rfl) ?_
      refine gl (i' := 129) (fun _ _ => aw_ldc2 K (dOf ck_mX12_bound rfl rfl) (n := 1000000007) wd_1441 (i64 _ rfl)) ?_
      refine gl (i' := 130) (fun _ _ => aw_lrem K (by decide) (dOf ck_mX12_bound rfl rfl)) ?_
      refine gl (i' := 131) (fun _ _ => aw_l2i K (dOf ck_mX12_bound rfl rfl)) ?_
      exact g_iret K (by decide +kernel) rfl (Or.inl rfl) rfl
    · refine gl (i' := 27) (fun _ _ => aw_iconst K (n := 0) (i32 _ rfl) (dOf ck_mX12_bound rfl rfl)) ?_
      refine gl (i' := 28) (fun _ _ => aw_istore K (dOf ck_mX12_bound rfl rfl) (Nat.le_of_ble_eq_true rfl)) ?_
      refine g_lv (lv' := [(5, .inl _), (0, .inr (.inr (.inl (some _)))), (1, .inl _), (2, .inr (.inl _)), (4, .inl _)]) rfl ?_
      refine g_sub [1, 2, 3, 4, 0] rfl ?_
      exact lk_R_bound_28 K _ _ _ ih FU _ _ _
def R_bound (x1 : Int) (mm : aM) : Option (Int × aM) := st1 (aup mm 176 0 0) fun mm1 => ((R_within x1 1 (mm1 177 155) mm1).bind fun r2 => (if r2 = 0 then (some ((-3), mm1)) else ((R_looksAtLine mm1).bind fun r4 => ((R_laysWays r4).bind fun r5 => (R_bound_23 x1 FU 0 1 r5)))))
set_option maxHeartbeats 4000000 in
theorem met_R_bound {l : Launch} {D : va_G} {cA : FieldType → ClassId} {ad adV : Nat → Nat} {z0 : Nat} {x1 : Int} {mm : aM}  {r : Int × aM} (h : R_bound x1 mm = some r) : aMet l D cA ad adV z0 mX12_bound 3 74 0 0 [.inr (.inr (.inl (some 176))), .inl x1] SH mm (rIM r).1 SH (rIM r).2 := by
  refine aMet_ofG (by decide +kernel) rfl (Nat.le_of_ble_eq_true rfl) h (fun p e s m args below meth c al0 K => ?_)
  unfold R_bound
  refine gl (i' := 1) (fun _ _ => aw_aload_n K (dOf ck_mX12_bound rfl rfl) rfl) ?_
  refine gl (i' := 2) (fun _ _ => aw_iconst K (n := 0) (i32 _ rfl) (dOf ck_mX12_bound rfl rfl)) ?_
  refine g_st1 ?_
  refine gl (i' := 3) (fun _ _ => aw_putf K (dOf ck_mX12_bound rfl rfl) rfl rfl (Nat.le_of_ble_eq_true rfl) wd_1205 (k := 0) rfl rfl (Or.inl rfl)) ?_
  refine gl (i' := 4) (fun _ _ => aw_iload_n K (dOf ck_mX12_bound rfl rfl) rfl) ?_
  refine gl (i' := 5) (fun _ _ => aw_i2l K (dOf ck_mX12_bound rfl rfl)) ?_
  refine gl (i' := 6) (fun _ _ => aw_lcn K (dOf ck_mX12_bound rfl rfl) (v := 1) rfl) ?_
  refine gl (i' := 7) (fun _ _ => aw_aload_n K (dOf ck_mX12_bound rfl rfl) rfl) ?_
  refine gl (i' := 8) (fun _ _ => aw_getf K (dOf ck_mX12_bound rfl rfl) rfl rfl (Nat.le_of_ble_eq_true rfl) wd_1206 (k := 1) rfl) ?_
  refine gl (i' := 9) (fun _ _ => aw_sip K (dOf ck_mX12_bound rfl rfl) (v := 155) rfl) ?_
  refine gl (i' := 10) (fun _ _ => aw_iald K (dOf ck_mX12_bound rfl rfl) rfl (by decide)) ?_
  refine gl (i' := 11) (fun _ _ => aw_i2l K (dOf ck_mX12_bound rfl rfl)) ?_
  refine g_callSI K [.inr (.inl _), .inr (.inl _), .inr (.inl _)] rfl (dOf ck_mX12_bound rfl rfl) al_OneBreathModel_176 wd_1269 rfl (Nat.le_of_ble_eq_true rfl) ⟨Nat.le_of_ble_eq_true rfl, Nat.le_of_ble_eq_true rfl⟩ (fun b hb => met_R_within  hb) (fun r2 hr2 => ?_)
  refine g_if_ne K (dOf ck_mX12_bound rfl rfl) (t := 15) (aJ_of (by decide +kernel)) (fun h3 => ?_) (fun h3 => ?_)
  · refine gl (i' := 14) (fun _ _ => aw_bip K (dOf ck_mX12_bound rfl rfl) (v := -3) rfl) ?_
    exact g_iret K (dOf ck_mX12_bound rfl rfl).1 rfl (Or.inl rfl) rfl
  · refine gl (i' := 16) (fun _ _ => aw_aload_n K (dOf ck_mX12_bound rfl rfl) rfl) ?_
    refine g_callVM K [] rfl (dOf ck_mX12_bound rfl rfl) al_OneBreathModel_279 rfl rfl ⟨wd_1430, wd_93⟩ rfl (Nat.le_of_ble_eq_true rfl) ⟨Nat.le_of_ble_eq_true rfl, Nat.le_of_ble_eq_true rfl⟩ (fun b hb => met_R_looksAtLine  hb) (fun r4 hr4 => ?_)
    refine gl (i' := 18) (fun _ _ => aw_aload_n K (dOf ck_mX12_bound rfl rfl) rfl) ?_
    refine g_callVM K [] rfl (dOf ck_mX12_bound rfl rfl) al_OneBreathModel_282 rfl rfl ⟨wd_1433, wd_94⟩ rfl (Nat.le_of_ble_eq_true rfl) ⟨Nat.le_of_ble_eq_true rfl, Nat.le_of_ble_eq_true rfl⟩ (fun b hb => met_R_laysWays  hb) (fun r5 hr5 => ?_)
    refine gl (i' := 20) (fun _ _ => aw_lcn K (dOf ck_mX12_bound rfl rfl) (v := 0) rfl) ?_
    refine gl (i' := 21) (fun _ _ => aw_lstore_n K (dOf ck_mX12_bound rfl rfl) (Nat.le_of_ble_eq_true rfl)) ?_
    refine g_lv (lv' := [(2, .inr (.inl _)), (0, .inr (.inr (.inl (some _)))), (1, .inl _)]) rfl ?_
    refine gl (i' := 22) (fun _ _ => aw_iconst K (n := 1) (i32 _ rfl) (dOf ck_mX12_bound rfl rfl)) ?_
    refine gl (i' := 23) (fun _ _ => aw_istore K (dOf ck_mX12_bound rfl rfl) (Nat.le_of_ble_eq_true rfl)) ?_
    refine g_lv (lv' := [(4, .inl _), (2, .inr (.inl _)), (0, .inr (.inr (.inl (some _)))), (1, .inl _)]) rfl ?_
    refine g_sub [2, 3, 1, 0] rfl ?_
    exact lk_R_bound_23 K _ FU _ _ _
def R_isEnd (x1 : Int) (mm : aM) : Option Int := if 0 ≤ (w32 (19 + (w32 (Int.tdiv x1 6)))) ∧ (w32 (19 + (w32 (Int.tdiv x1 6)))) < 588 then (if (Int.tmod x1 6) = (w32 ((mm 177 (w32 (19 + (w32 (Int.tdiv x1 6)))).toNat) - 1)) then (some 1) else (some 0)) else none
set_option maxHeartbeats 4000000 in
theorem met_R_isEnd {l : Launch} {D : va_G} {cA : FieldType → ClassId} {ad adV : Nat → Nat} {z0 : Nat} {x1 : Int} {mm : aM}  {r : Int} (h : R_isEnd x1 mm = some r) : aMet l D cA ad adV z0 mX12_isEnd 0 0 0 0 [.inr (.inr (.inl (some 176))), .inl x1] SH mm ((rI mm) r).1 SH ((rI mm) r).2 := by
  refine aMet_ofG (by decide +kernel) rfl (Nat.le_of_ble_eq_true rfl) h (fun p e s m args below meth c al0 K => ?_)
  unfold R_isEnd
  refine gl (i' := 1) (fun _ _ => aw_iload_n K (dOf ck_mX12_isEnd rfl rfl) rfl) ?_
  refine gl (i' := 2) (fun _ _ => aw_bip K (dOf ck_mX12_isEnd rfl rfl) (v := 6) rfl) ?_
  refine gl (i' := 3) (fun _ _ => aw_irem K (by decide) (dOf ck_mX12_isEnd rfl rfl)) ?_
  refine gl (i' := 4) (fun _ _ => aw_aload_n K (dOf ck_mX12_isEnd rfl rfl) rfl) ?_
  refine gl (i' := 5) (fun _ _ => aw_getf K (dOf ck_mX12_isEnd rfl rfl) rfl rfl (Nat.le_of_ble_eq_true rfl) wd_1206 (k := 1) rfl) ?_
  refine gl (i' := 6) (fun _ _ => aw_bip K (dOf ck_mX12_isEnd rfl rfl) (v := 19) rfl) ?_
  refine gl (i' := 7) (fun _ _ => aw_iload_n K (dOf ck_mX12_isEnd rfl rfl) rfl) ?_
  refine gl (i' := 8) (fun _ _ => aw_bip K (dOf ck_mX12_isEnd rfl rfl) (v := 6) rfl) ?_
  refine gl (i' := 9) (fun _ _ => aw_idiv K (by decide) (dOf ck_mX12_isEnd rfl rfl)) ?_
  refine gl (i' := 10) (fun _ _ => aw_iadd K (dOf ck_mX12_isEnd rfl rfl)) ?_
  refine g_gd (fun hb1 => ?_)
  refine gl (i' := 11) (fun _ _ => aw_iald K (dOf ck_mX12_isEnd rfl rfl) rfl hb1) ?_
  refine gl (i' := 12) (fun _ _ => aw_iconst K (n := 1) (i32 _ rfl) (dOf ck_mX12_isEnd rfl rfl)) ?_
  refine gl (i' := 13) (fun _ _ => aw_isub K (dOf ck_mX12_isEnd rfl rfl)) ?_
  refine g_icmp_ne K (dOf ck_mX12_isEnd rfl rfl) (t := 16) (aJ_of (by decide +kernel)) (fun h2 => ?_) (fun h2 => ?_)
  · refine gl (i' := 15) (fun _ _ => aw_iconst K (n := 1) (i32 _ rfl) (dOf ck_mX12_isEnd rfl rfl)) ?_
    refine g_goto K (dOf ck_mX12_isEnd rfl rfl).1 (t := 17) (aJ_of (by decide +kernel)) ?_
    exact g_iret K (by decide +kernel) rfl (Or.inr (Or.inl ⟨rfl, Or.inr rfl⟩)) rfl
  · refine gl (i' := 17) (fun _ _ => aw_iconst K (n := 0) (i32 _ rfl) (dOf ck_mX12_isEnd rfl rfl)) ?_
    exact g_iret K (by decide +kernel) rfl (Or.inr (Or.inl ⟨rfl, Or.inl rfl⟩)) rfl
def R_slots  (mm : aM) : Option Int := some (mm 177 18)
set_option maxHeartbeats 4000000 in
theorem met_R_slots {l : Launch} {D : va_G} {cA : FieldType → ClassId} {ad adV : Nat → Nat} {z0 : Nat}  {mm : aM}  {r : Int} (h : R_slots  mm = some r) : aMet l D cA ad adV z0 mX12_slots 0 0 0 0 [.inr (.inr (.inl (some 176)))] SH mm ((rI mm) r).1 SH ((rI mm) r).2 := by
  refine aMet_ofG (by decide +kernel) rfl (Nat.le_of_ble_eq_true rfl) h (fun p e s m args below meth c al0 K => ?_)
  unfold R_slots
  refine gl (i' := 1) (fun _ _ => aw_aload_n K (dOf ck_mX12_slots rfl rfl) rfl) ?_
  refine gl (i' := 2) (fun _ _ => aw_getf K (dOf ck_mX12_slots rfl rfl) rfl rfl (Nat.le_of_ble_eq_true rfl) wd_1206 (k := 1) rfl) ?_
  refine gl (i' := 3) (fun _ _ => aw_bip K (dOf ck_mX12_slots rfl rfl) (v := 18) rfl) ?_
  refine gl (i' := 4) (fun _ _ => aw_iald K (dOf ck_mX12_slots rfl rfl) rfl (by decide)) ?_
  exact g_iret K (by decide +kernel) rfl (Or.inl rfl) rfl
def R_isOut (x1 : Int) (mm : aM) : Option Int := if (iand (ishr (mm 176 32) x1) 1) = 1 then (some 1) else (some 0)
set_option maxHeartbeats 4000000 in
theorem met_R_isOut {l : Launch} {D : va_G} {cA : FieldType → ClassId} {ad adV : Nat → Nat} {z0 : Nat} {x1 : Int} {mm : aM}  {r : Int} (h : R_isOut x1 mm = some r) : aMet l D cA ad adV z0 mX12_isOut 0 0 0 0 [.inr (.inr (.inl (some 176))), .inl x1] SH mm ((rI mm) r).1 SH ((rI mm) r).2 := by
  refine aMet_ofG (by decide +kernel) rfl (Nat.le_of_ble_eq_true rfl) h (fun p e s m args below meth c al0 K => ?_)
  unfold R_isOut
  refine gl (i' := 1) (fun _ _ => aw_aload_n K (dOf ck_mX12_isOut rfl rfl) rfl) ?_
  refine gl (i' := 2) (fun _ _ => aw_getf K (dOf ck_mX12_isOut rfl rfl) rfl rfl (Nat.le_of_ble_eq_true rfl) wd_1237 (k := 32) rfl) ?_
  refine gl (i' := 3) (fun _ _ => aw_iload_n K (dOf ck_mX12_isOut rfl rfl) rfl) ?_
  refine gl (i' := 4) (fun _ _ => aw_ishr K (dOf ck_mX12_isOut rfl rfl)) ?_
  refine gl (i' := 5) (fun _ _ => aw_iconst K (n := 1) (i32 _ rfl) (dOf ck_mX12_isOut rfl rfl)) ?_
  refine gl (i' := 6) (fun _ _ => aw_iand K (dOf ck_mX12_isOut rfl rfl)) ?_
  refine gl (i' := 7) (fun _ _ => aw_iconst K (n := 1) (i32 _ rfl) (dOf ck_mX12_isOut rfl rfl)) ?_
  refine g_icmp_ne K (dOf ck_mX12_isOut rfl rfl) (t := 10) (aJ_of (by decide +kernel)) (fun h1 => ?_) (fun h1 => ?_)
  · refine gl (i' := 9) (fun _ _ => aw_iconst K (n := 1) (i32 _ rfl) (dOf ck_mX12_isOut rfl rfl)) ?_
    refine g_goto K (dOf ck_mX12_isOut rfl rfl).1 (t := 11) (aJ_of (by decide +kernel)) ?_
    exact g_iret K (by decide +kernel) rfl (Or.inr (Or.inl ⟨rfl, Or.inr rfl⟩)) rfl
  · refine gl (i' := 11) (fun _ _ => aw_iconst K (n := 0) (i32 _ rfl) (dOf ck_mX12_isOut rfl rfl)) ?_
    exact g_iret K (by decide +kernel) rfl (Or.inr (Or.inl ⟨rfl, Or.inl rfl⟩)) rfl
def R_follows_45 (k19 : Int → Int → aM → Option (Int × aM)) (x2 : Nat) (x1 : Int) (x3 : Int) (x4 : Int) (mm : aM) : Option (Int × aM) := k19 x3 (w32 (x4 + 1)) mm
set_option maxHeartbeats 4000000 in
theorem lk_R_follows_45 {p : Program} {l : Launch} {e : Env} {s : State} {m : MethodId} {args : Array Value} {below : List Frame} {meth : Method} {c : Code} {D : va_G} {cA : FieldType → ClassId} {ad adV : Nat → Nat} {z0 : Nat} {al0 : List Nat} (K : aK p s m args meth c mX12_follows D cA ad adV z0) {x2 : Nat} (x1 : Int) (x3 : Int) (x4 : Int) (hx2 : okI x2) (k19 : Int → Int → aM → Option (Int × aM)) (hk19 : ∀ (x3 : Int) (x4 : Int) (mm : aM), aG p l e { frames := 1, cells := 0, slots := 0, locals := 22 } s m args below meth c D cA ad z0 mX12_follows al0 rIM (k19 x3 x4 mm) 19 [(0, .inr (.inr (.inl (some 176)))), (1, .inl x1), (2, .inr (.inr (.inl (some x2)))), (3, .inl x3), (4, .inl x4)] [] mm)  (mm : aM) : aG p l e { frames := 1, cells := 0, slots := 0, locals := 22 } s m args below meth c D cA ad z0 mX12_follows al0 rIM (R_follows_45 k19 x2 x1 x3 x4 mm) 45 [(0, .inr (.inr (.inl (some 176)))), (1, .inl x1), (2, .inr (.inr (.inl (some x2)))), (3, .inl x3), (4, .inl x4)] [] mm := by
  unfold R_follows_45
  refine gl (i' := 46) (fun _ _ => aw_iinc K (dOf ck_mX12_follows rfl rfl) (Nat.le_of_ble_eq_true rfl) rfl) ?_
  refine g_lv (lv' := [(4, .inl _), (0, .inr (.inr (.inl (some _)))), (1, .inl _), (2, .inr (.inr (.inl (some _)))), (3, .inl _)]) rfl ?_
  refine g_goto K (dOf ck_mX12_follows rfl rfl).1 (t := 19) (aJ_of (by decide +kernel)) ?_
  refine g_sub [1, 2, 3, 4, 0] rfl ?_
  exact hk19 _ _ _
def R_follows_38 (k19 : Int → Int → aM → Option (Int × aM)) (x2 : Nat) (x1 : Int) (x3 : Int) (x4 : Int) (mm : aM) : Option (Int × aM) := if 0 ≤ x3 ∧ x3 < aln x2 then (st1 (aup mm x2 x3.toNat (w32 (6 * x4))) fun mm8 => (R_follows_45 k19 x2 x1 (w32 (x3 + 1)) x4 mm8)) else none
set_option maxHeartbeats 4000000 in
theorem lk_R_follows_38 {p : Program} {l : Launch} {e : Env} {s : State} {m : MethodId} {args : Array Value} {below : List Frame} {meth : Method} {c : Code} {D : va_G} {cA : FieldType → ClassId} {ad adV : Nat → Nat} {z0 : Nat} {al0 : List Nat} (K : aK p s m args meth c mX12_follows D cA ad adV z0) {x2 : Nat} (x1 : Int) (x3 : Int) (x4 : Int) (hx2 : okI x2) (k19 : Int → Int → aM → Option (Int × aM)) (hk19 : ∀ (x3 : Int) (x4 : Int) (mm : aM), aG p l e { frames := 1, cells := 0, slots := 0, locals := 22 } s m args below meth c D cA ad z0 mX12_follows al0 rIM (k19 x3 x4 mm) 19 [(0, .inr (.inr (.inl (some 176)))), (1, .inl x1), (2, .inr (.inr (.inl (some x2)))), (3, .inl x3), (4, .inl x4)] [] mm)  (mm : aM) : aG p l e { frames := 1, cells := 0, slots := 0, locals := 22 } s m args below meth c D cA ad z0 mX12_follows al0 rIM (R_follows_38 k19 x2 x1 x3 x4 mm) 38 [(0, .inr (.inr (.inl (some 176)))), (1, .inl x1), (2, .inr (.inr (.inl (some x2)))), (3, .inl x3), (4, .inl x4)] [] mm := by
  unfold R_follows_38
  refine gl (i' := 39) (fun _ _ => aw_aload_n K (dOf ck_mX12_follows rfl rfl) rfl) ?_
  refine gl (i' := 40) (fun _ _ => aw_iload_n K (dOf ck_mX12_follows rfl rfl) rfl) ?_
  refine gl (i' := 41) (fun _ _ => aw_bip K (dOf ck_mX12_follows rfl rfl) (v := 6) rfl) ?_
  refine gl (i' := 42) (fun _ _ => aw_iload K (dOf ck_mX12_follows rfl rfl) rfl) ?_
  refine gl (i' := 43) (fun _ _ => aw_imul K (dOf ck_mX12_follows rfl rfl)) ?_
  refine g_gd (fun hb7 => ?_)
  refine g_st1 ?_
  refine gl (i' := 44) (fun _ _ => aw_iast K (dOf ck_mX12_follows rfl rfl) (okI_at hx2) hb7) ?_
  refine gl (i' := 45) (fun _ _ => aw_iinc K (dOf ck_mX12_follows rfl rfl) (Nat.le_of_ble_eq_true rfl) rfl) ?_
  refine g_lv (lv' := [(3, .inl _), (0, .inr (.inr (.inl (some _)))), (1, .inl _), (2, .inr (.inr (.inl (some _)))), (4, .inl _)]) rfl ?_
  refine g_sub [1, 2, 3, 0, 4] rfl ?_
  exact lk_R_follows_45 K _ _ _ hx2 _ hk19 _
def R_follows_19 (x2 : Nat) (x1 : Int) : Nat → Int → Int → aM → Option (Int × aM)
  | 0, _, _, _ => none
  | n + 1, x3, x4, mm => (R_slots mm).bind fun r2 => (if x4 < r2 then ((R_isOut x4 mm).bind fun r4 => (if r4 = 0 then (if x1 = (-1) then (R_follows_38 (R_follows_19 x2 x1 n) x2 x1 x3 x4 mm) else ((R_mayStand (w32 (Int.tdiv x1 6)) x4 mm).bind fun r9 => (if r9 = 0 then (R_follows_45 (R_follows_19 x2 x1 n) x2 x1 x3 x4 mm) else (R_follows_38 (R_follows_19 x2 x1 n) x2 x1 x3 x4 mm)))) else (R_follows_45 (R_follows_19 x2 x1 n) x2 x1 x3 x4 mm))) else (some (x3, mm)))
set_option maxHeartbeats 4000000 in
theorem lk_R_follows_19 {p : Program} {l : Launch} {e : Env} {s : State} {m : MethodId} {args : Array Value} {below : List Frame} {meth : Method} {c : Code} {D : va_G} {cA : FieldType → ClassId} {ad adV : Nat → Nat} {z0 : Nat} {al0 : List Nat} (K : aK p s m args meth c mX12_follows D cA ad adV z0) {x2 : Nat} (x1 : Int) (hx2 : okI x2)  : ∀ (n : Nat) (x3 : Int) (x4 : Int) (mm : aM), aG p l e { frames := 1, cells := 0, slots := 0, locals := 22 } s m args below meth c D cA ad z0 mX12_follows al0 rIM (R_follows_19 x2 x1 n x3 x4 mm) 19 [(0, .inr (.inr (.inl (some 176)))), (1, .inl x1), (2, .inr (.inr (.inl (some x2)))), (3, .inl x3), (4, .inl x4)] [] mm := by
  intro n
  induction n with
  | zero => intro x3 x4 mm; exact g_none
  | succ n ih =>
    intro x3 x4 mm
    rw [R_follows_19]
    refine gl (i' := 20) (fun _ _ => aw_iload K (dOf ck_mX12_follows rfl rfl) rfl) ?_
    refine gl (i' := 21) (fun _ _ => aw_aload_n K (dOf ck_mX12_follows rfl rfl) rfl) ?_
    refine g_callVI K [] rfl (dOf ck_mX12_follows rfl rfl) al_OneBreathModel_319 rfl rfl ⟨wd_1492, wd_108⟩ rfl (Nat.le_of_ble_eq_true rfl) ⟨Nat.le_of_ble_eq_true rfl, Nat.le_of_ble_eq_true rfl⟩ (fun b hb => met_R_slots  hb) (fun r2 hr2 => ?_)
    refine g_icmp_ge K (dOf ck_mX12_follows rfl rfl) (t := 47) (aJ_of (by decide +kernel)) (fun h3 => ?_) (fun h3 => ?_)
    · refine gl (i' := 24) (fun _ _ => aw_aload_n K (dOf ck_mX12_follows rfl rfl) rfl) ?_
      refine gl (i' := 25) (fun _ _ => aw_iload K (dOf ck_mX12_follows rfl rfl) rfl) ?_
      refine g_callVI K [.inl _] rfl (dOf ck_mX12_follows rfl rfl) al_OneBreathModel_322 rfl rfl ⟨wd_1495, wd_109⟩ rfl (Nat.le_of_ble_eq_true rfl) ⟨Nat.le_of_ble_eq_true rfl, Nat.le_of_ble_eq_true rfl⟩ (fun b hb => met_R_isOut  hb) (fun r4 hr4 => ?_)
      refine g_if_ne K (dOf ck_mX12_follows rfl rfl) (t := 45) (aJ_of (by decide +kernel)) (fun h5 => ?_) (fun h5 => ?_)
      · refine gl (i' := 28) (fun _ _ => aw_iload_n K (dOf ck_mX12_follows rfl rfl) rfl) ?_
        refine gl (i' := 29) (fun _ _ => aw_iconst K (n := -1) (i32 _ rfl) (dOf ck_mX12_follows rfl rfl)) ?_
        refine g_icmp_eq K (dOf ck_mX12_follows rfl rfl) (t := 38) (aJ_of (by decide +kernel)) (fun h6 => ?_) (fun h6 => ?_)
        · refine g_sub [0, 1, 2, 3, 4] rfl ?_
          exact lk_R_follows_38 K _ _ _ hx2 _ ih _
        · refine gl (i' := 31) (fun _ _ => aw_aload_n K (dOf ck_mX12_follows rfl rfl) rfl) ?_
          refine gl (i' := 32) (fun _ _ => aw_iload_n K (dOf ck_mX12_follows rfl rfl) rfl) ?_
          refine gl (i' := 33) (fun _ _ => aw_bip K (dOf ck_mX12_follows rfl rfl) (v := 6) rfl) ?_
          refine gl (i' := 34) (fun _ _ => aw_idiv K (by decide) (dOf ck_mX12_follows rfl rfl)) ?_
          refine gl (i' := 35) (fun _ _ => aw_iload K (dOf ck_mX12_follows rfl rfl) rfl) ?_
          refine g_callVI K [.inl _, .inl _] rfl (dOf ck_mX12_follows rfl rfl) al_OneBreathModel_247 rfl rfl ⟨wd_1396, wd_87⟩ rfl (Nat.le_of_ble_eq_true rfl) ⟨Nat.le_of_ble_eq_true rfl, Nat.le_of_ble_eq_true rfl⟩ (fun b hb => met_R_mayStand  hb) (fun r9 hr9 => ?_)
          refine g_if_ne K (dOf ck_mX12_follows rfl rfl) (t := 38) (aJ_of (by decide +kernel)) (fun h10 => ?_) (fun h10 => ?_)
          · refine g_goto K (dOf ck_mX12_follows rfl rfl).1 (t := 45) (aJ_of (by decide +kernel)) ?_
            refine g_sub [0, 1, 2, 3, 4] rfl ?_
            exact lk_R_follows_45 K _ _ _ hx2 _ ih _
          · refine g_sub [0, 1, 2, 3, 4] rfl ?_
            exact lk_R_follows_38 K _ _ _ hx2 _ ih _
      · refine g_sub [0, 1, 2, 3, 4] rfl ?_
        exact lk_R_follows_45 K _ _ _ hx2 _ ih _
    · refine gl (i' := 48) (fun _ _ => aw_iload_n K (dOf ck_mX12_follows rfl rfl) rfl) ?_
      exact g_iret K (by decide +kernel) rfl (Or.inl rfl) rfl
def R_follows_15 (x2 : Nat) (x1 : Int) (mm : aM) : Option (Int × aM) := R_follows_19 x2 x1 FU 0 0 mm
set_option maxHeartbeats 4000000 in
theorem lk_R_follows_15 {p : Program} {l : Launch} {e : Env} {s : State} {m : MethodId} {args : Array Value} {below : List Frame} {meth : Method} {c : Code} {D : va_G} {cA : FieldType → ClassId} {ad adV : Nat → Nat} {z0 : Nat} {al0 : List Nat} (K : aK p s m args meth c mX12_follows D cA ad adV z0) {x2 : Nat} (x1 : Int) (hx2 : okI x2)  (mm : aM) : aG p l e { frames := 1, cells := 0, slots := 0, locals := 22 } s m args below meth c D cA ad z0 mX12_follows al0 rIM (R_follows_15 x2 x1 mm) 15 [(0, .inr (.inr (.inl (some 176)))), (1, .inl x1), (2, .inr (.inr (.inl (some x2))))] [] mm := by
  unfold R_follows_15
  refine gl (i' := 16) (fun _ _ => aw_iconst K (n := 0) (i32 _ rfl) (dOf ck_mX12_follows rfl rfl)) ?_
  refine gl (i' := 17) (fun _ _ => aw_istore_n K (dOf ck_mX12_follows rfl rfl) (Nat.le_of_ble_eq_true rfl)) ?_
  refine g_lv (lv' := [(3, .inl _), (0, .inr (.inr (.inl (some _)))), (1, .inl _), (2, .inr (.inr (.inl (some _))))]) rfl ?_
  refine gl (i' := 18) (fun _ _ => aw_iconst K (n := 0) (i32 _ rfl) (dOf ck_mX12_follows rfl rfl)) ?_
  refine gl (i' := 19) (fun _ _ => aw_istore K (dOf ck_mX12_follows rfl rfl) (Nat.le_of_ble_eq_true rfl)) ?_
  refine g_lv (lv' := [(4, .inl _), (3, .inl _), (0, .inr (.inr (.inl (some _)))), (1, .inl _), (2, .inr (.inr (.inl (some _))))]) rfl ?_
  refine g_sub [2, 3, 4, 1, 0] rfl ?_
  exact lk_R_follows_19 K _ hx2 FU _ _ _
def R_follows (x1 : Int) (x2 : Nat) (mm : aM) : Option (Int × aM) := if x1 = (-1) then (R_follows_15 x2 x1 mm) else ((R_isEnd x1 mm).bind fun r11 => (if r11 = 0 then (if (0 : Int) ≤ 0 ∧ (0 : Int) < aln x2 then (st1 (aup mm x2 0 (w32 (x1 + 1))) fun mm14 => (some (1, mm14))) else none) else (R_follows_15 x2 x1 mm)))
set_option maxHeartbeats 4000000 in
theorem met_R_follows {l : Launch} {D : va_G} {cA : FieldType → ClassId} {ad adV : Nat → Nat} {z0 : Nat} {x1 : Int} {x2 : Nat} {mm : aM} (hx2 : okI x2) {r : Int × aM} (h : R_follows x1 x2 mm = some r) : aMet l D cA ad adV z0 mX12_follows 1 22 0 0 [.inr (.inr (.inl (some 176))), .inl x1, .inr (.inr (.inl (some x2)))] SH mm (rIM r).1 SH (rIM r).2 := by
  refine aMet_ofG (by decide +kernel) rfl (Nat.le_of_ble_eq_true rfl) h (fun p e s m args below meth c al0 K => ?_)
  unfold R_follows
  refine gl (i' := 1) (fun _ _ => aw_iload_n K (dOf ck_mX12_follows rfl rfl) rfl) ?_
  refine gl (i' := 2) (fun _ _ => aw_iconst K (n := -1) (i32 _ rfl) (dOf ck_mX12_follows rfl rfl)) ?_
  refine g_icmp_eq K (dOf ck_mX12_follows rfl rfl) (t := 15) (aJ_of (by decide +kernel)) (fun h1 => ?_) (fun h1 => ?_)
  · refine g_sub [0, 1, 2] rfl ?_
    exact lk_R_follows_15 K _ hx2 _
  · refine gl (i' := 4) (fun _ _ => aw_aload_n K (dOf ck_mX12_follows rfl rfl) rfl) ?_
    refine gl (i' := 5) (fun _ _ => aw_iload_n K (dOf ck_mX12_follows rfl rfl) rfl) ?_
    refine g_callVI K [.inl _] rfl (dOf ck_mX12_follows rfl rfl) al_OneBreathModel_316 rfl rfl ⟨wd_1489, wd_107⟩ rfl (Nat.le_of_ble_eq_true rfl) ⟨Nat.le_of_ble_eq_true rfl, Nat.le_of_ble_eq_true rfl⟩ (fun b hb => met_R_isEnd  hb) (fun r11 hr11 => ?_)
    refine g_if_ne K (dOf ck_mX12_follows rfl rfl) (t := 15) (aJ_of (by decide +kernel)) (fun h12 => ?_) (fun h12 => ?_)
    · refine gl (i' := 8) (fun _ _ => aw_aload_n K (dOf ck_mX12_follows rfl rfl) rfl) ?_
      refine gl (i' := 9) (fun _ _ => aw_iconst K (n := 0) (i32 _ rfl) (dOf ck_mX12_follows rfl rfl)) ?_
      refine gl (i' := 10) (fun _ _ => aw_iload_n K (dOf ck_mX12_follows rfl rfl) rfl) ?_
      refine gl (i' := 11) (fun _ _ => aw_iconst K (n := 1) (i32 _ rfl) (dOf ck_mX12_follows rfl rfl)) ?_
      refine gl (i' := 12) (fun _ _ => aw_iadd K (dOf ck_mX12_follows rfl rfl)) ?_
      refine g_gd (fun hb13 => ?_)
      refine g_st1 ?_
      refine gl (i' := 13) (fun _ _ => aw_iast K (dOf ck_mX12_follows rfl rfl) (okI_at hx2) hb13) ?_
      refine gl (i' := 14) (fun _ _ => aw_iconst K (n := 1) (i32 _ rfl) (dOf ck_mX12_follows rfl rfl)) ?_
      exact g_iret K (dOf ck_mX12_follows rfl rfl).1 rfl (Or.inl rfl) rfl
    · refine g_sub [0, 1, 2] rfl ?_
      exact lk_R_follows_15 K _ hx2 _
def R_adds1 (x1 : Int) (x2 : Int) (mm : aM) : Option aM := if 0 ≤ x1 ∧ x1 < 54834 then (if (mm 193 x1.toNat) = (mm 176 30) then (some mm) else (st1 (aup mm 193 x1.toNat (mm 176 30)) fun mm3 => (st1 (aup mm3 189 x1.toNat x2) fun mm4 => (if 0 ≤ (mm4 176 29) ∧ (mm4 176 29) < 54834 then (st1 (aup mm4 190 (mm4 176 29).toNat x1) fun mm6 => (st1 (aup mm6 176 29 (w32 ((mm6 176 29) + 1))) fun mm7 => (some mm7))) else none)))) else none
set_option maxHeartbeats 4000000 in
theorem met_R_adds1 {l : Launch} {D : va_G} {cA : FieldType → ClassId} {ad adV : Nat → Nat} {z0 : Nat} {x1 : Int} {x2 : Int} {mm : aM}  {r : aM} (h : R_adds1 x1 x2 mm = some r) : aMet l D cA ad adV z0 mX12_adds1 0 0 0 0 [.inr (.inr (.inl (some 176))), .inl x1, .inl x2] SH mm (rM r).1 SH (rM r).2 := by
  refine aMet_ofG (by decide +kernel) rfl (Nat.le_of_ble_eq_true rfl) h (fun p e s m args below meth c al0 K => ?_)
  unfold R_adds1
  refine gl (i' := 1) (fun _ _ => aw_aload_n K (dOf ck_mX12_adds1 rfl rfl) rfl) ?_
  refine gl (i' := 2) (fun _ _ => aw_getf K (dOf ck_mX12_adds1 rfl rfl) rfl rfl (Nat.le_of_ble_eq_true rfl) wd_1239 (k := 34) rfl) ?_
  refine gl (i' := 3) (fun _ _ => aw_iload_n K (dOf ck_mX12_adds1 rfl rfl) rfl) ?_
  refine g_gd (fun hb1 => ?_)
  refine gl (i' := 4) (fun _ _ => aw_iald K (dOf ck_mX12_adds1 rfl rfl) rfl hb1) ?_
  refine gl (i' := 5) (fun _ _ => aw_aload_n K (dOf ck_mX12_adds1 rfl rfl) rfl) ?_
  refine gl (i' := 6) (fun _ _ => aw_getf K (dOf ck_mX12_adds1 rfl rfl) rfl rfl (Nat.le_of_ble_eq_true rfl) wd_1235 (k := 30) rfl) ?_
  refine g_icmp_ne K (dOf ck_mX12_adds1 rfl rfl) (t := 8) (aJ_of (by decide +kernel)) (fun h2 => ?_) (fun h2 => ?_)
  · exact g_vret K (dOf ck_mX12_adds1 rfl rfl).1 rfl rfl
  · refine gl (i' := 9) (fun _ _ => aw_aload_n K (dOf ck_mX12_adds1 rfl rfl) rfl) ?_
    refine gl (i' := 10) (fun _ _ => aw_getf K (dOf ck_mX12_adds1 rfl rfl) rfl rfl (Nat.le_of_ble_eq_true rfl) wd_1239 (k := 34) rfl) ?_
    refine gl (i' := 11) (fun _ _ => aw_iload_n K (dOf ck_mX12_adds1 rfl rfl) rfl) ?_
    refine gl (i' := 12) (fun _ _ => aw_aload_n K (dOf ck_mX12_adds1 rfl rfl) rfl) ?_
    refine gl (i' := 13) (fun _ _ => aw_getf K (dOf ck_mX12_adds1 rfl rfl) rfl rfl (Nat.le_of_ble_eq_true rfl) wd_1235 (k := 30) rfl) ?_
    refine g_st1 ?_
    refine gl (i' := 14) (fun _ _ => aw_iast K (dOf ck_mX12_adds1 rfl rfl) rfl hb1) ?_
    refine gl (i' := 15) (fun _ _ => aw_aload_n K (dOf ck_mX12_adds1 rfl rfl) rfl) ?_
    refine gl (i' := 16) (fun _ _ => aw_getf K (dOf ck_mX12_adds1 rfl rfl) rfl rfl (Nat.le_of_ble_eq_true rfl) wd_1230 (k := 25) rfl) ?_
    refine gl (i' := 17) (fun _ _ => aw_iload_n K (dOf ck_mX12_adds1 rfl rfl) rfl) ?_
    refine gl (i' := 18) (fun _ _ => aw_iload_n K (dOf ck_mX12_adds1 rfl rfl) rfl) ?_
    refine g_st1 ?_
    refine gl (i' := 19) (fun _ _ => aw_iast K (dOf ck_mX12_adds1 rfl rfl) rfl hb1) ?_
    refine gl (i' := 20) (fun _ _ => aw_aload_n K (dOf ck_mX12_adds1 rfl rfl) rfl) ?_
    refine gl (i' := 21) (fun _ _ => aw_getf K (dOf ck_mX12_adds1 rfl rfl) rfl rfl (Nat.le_of_ble_eq_true rfl) wd_1231 (k := 26) rfl) ?_
    refine gl (i' := 22) (fun _ _ => aw_aload_n K (dOf ck_mX12_adds1 rfl rfl) rfl) ?_
    refine gl (i' := 23) (fun _ _ => aw_getf K (dOf ck_mX12_adds1 rfl rfl) rfl rfl (Nat.le_of_ble_eq_true rfl) wd_1234 (k := 29) rfl) ?_
    refine gl (i' := 24) (fun _ _ => aw_iload_n K (dOf ck_mX12_adds1 rfl rfl) rfl) ?_
    refine g_gd (fun hb5 => ?_)
    refine g_st1 ?_
    refine gl (i' := 25) (fun _ _ => aw_iast K (dOf ck_mX12_adds1 rfl rfl) rfl hb5) ?_
    refine gl (i' := 26) (fun _ _ => aw_aload_n K (dOf ck_mX12_adds1 rfl rfl) rfl) ?_
    refine gl (i' := 27) (fun _ _ => aw_dup K rfl (dOf ck_mX12_adds1 rfl rfl)) ?_
    refine gl (i' := 28) (fun _ _ => aw_getf K (dOf ck_mX12_adds1 rfl rfl) rfl rfl (Nat.le_of_ble_eq_true rfl) wd_1234 (k := 29) rfl) ?_
    refine gl (i' := 29) (fun _ _ => aw_iconst K (n := 1) (i32 _ rfl) (dOf ck_mX12_adds1 rfl rfl)) ?_
    refine gl (i' := 30) (fun _ _ => aw_iadd K (dOf ck_mX12_adds1 rfl rfl)) ?_
    refine g_st1 ?_
    refine gl (i' := 31) (fun _ _ => aw_putf K (dOf ck_mX12_adds1 rfl rfl) rfl rfl (Nat.le_of_ble_eq_true rfl) wd_1234 (k := 29) rfl rfl (Or.inl rfl)) ?_
    exact g_vret K (by decide +kernel) rfl rfl
def R_soundAt (x1 : Int) (mm : aM) : Option Int := if 0 ≤ (w32 (58 + x1)) ∧ (w32 (58 + x1)) < 588 then (some (mm 177 (w32 (58 + x1)).toNat)) else none
set_option maxHeartbeats 4000000 in
theorem met_R_soundAt {l : Launch} {D : va_G} {cA : FieldType → ClassId} {ad adV : Nat → Nat} {z0 : Nat} {x1 : Int} {mm : aM}  {r : Int} (h : R_soundAt x1 mm = some r) : aMet l D cA ad adV z0 mX12_soundAt 0 0 0 0 [.inr (.inr (.inl (some 176))), .inl x1] SH mm ((rI mm) r).1 SH ((rI mm) r).2 := by
  refine aMet_ofG (by decide +kernel) rfl (Nat.le_of_ble_eq_true rfl) h (fun p e s m args below meth c al0 K => ?_)
  unfold R_soundAt
  refine gl (i' := 1) (fun _ _ => aw_aload_n K (dOf ck_mX12_soundAt rfl rfl) rfl) ?_
  refine gl (i' := 2) (fun _ _ => aw_getf K (dOf ck_mX12_soundAt rfl rfl) rfl rfl (Nat.le_of_ble_eq_true rfl) wd_1206 (k := 1) rfl) ?_
  refine gl (i' := 3) (fun _ _ => aw_bip K (dOf ck_mX12_soundAt rfl rfl) (v := 58) rfl) ?_
  refine gl (i' := 4) (fun _ _ => aw_iload_n K (dOf ck_mX12_soundAt rfl rfl) rfl) ?_
  refine gl (i' := 5) (fun _ _ => aw_iadd K (dOf ck_mX12_soundAt rfl rfl)) ?_
  refine g_gd (fun hb1 => ?_)
  refine gl (i' := 6) (fun _ _ => aw_iald K (dOf ck_mX12_soundAt rfl rfl) rfl hb1) ?_
  exact g_iret K (by decide +kernel) rfl (Or.inl rfl) rfl
def R_hasStop (x1 : Int) (mm : aM) : Option Int := (R_isEnd x1 mm).bind fun r1 => (if r1 = 0 then (some 0) else (if 0 ≤ (w32 (45 + (w32 (Int.tdiv x1 6)))) ∧ (w32 (45 + (w32 (Int.tdiv x1 6)))) < 588 then (if (iand (ishr (mm 176 33) (mm 177 (w32 (45 + (w32 (Int.tdiv x1 6)))).toNat)) 1) = 1 then (some 1) else (some 0)) else none))
set_option maxHeartbeats 4000000 in
theorem met_R_hasStop {l : Launch} {D : va_G} {cA : FieldType → ClassId} {ad adV : Nat → Nat} {z0 : Nat} {x1 : Int} {mm : aM}  {r : Int} (h : R_hasStop x1 mm = some r) : aMet l D cA ad adV z0 mX12_hasStop 1 21 0 0 [.inr (.inr (.inl (some 176))), .inl x1] SH mm ((rI mm) r).1 SH ((rI mm) r).2 := by
  refine aMet_ofG (by decide +kernel) rfl (Nat.le_of_ble_eq_true rfl) h (fun p e s m args below meth c al0 K => ?_)
  unfold R_hasStop
  refine gl (i' := 1) (fun _ _ => aw_aload_n K (dOf ck_mX12_hasStop rfl rfl) rfl) ?_
  refine gl (i' := 2) (fun _ _ => aw_iload_n K (dOf ck_mX12_hasStop rfl rfl) rfl) ?_
  refine g_callVI K [.inl _] rfl (dOf ck_mX12_hasStop rfl rfl) al_OneBreathModel_316 rfl rfl ⟨wd_1489, wd_107⟩ rfl (Nat.le_of_ble_eq_true rfl) ⟨Nat.le_of_ble_eq_true rfl, Nat.le_of_ble_eq_true rfl⟩ (fun b hb => met_R_isEnd  hb) (fun r1 hr1 => ?_)
  refine g_if_eq K (dOf ck_mX12_hasStop rfl rfl) (t := 21) (aJ_of (by decide +kernel)) (fun h2 => ?_) (fun h2 => ?_)
  · refine gl (i' := 22) (fun _ _ => aw_iconst K (n := 0) (i32 _ rfl) (dOf ck_mX12_hasStop rfl rfl)) ?_
    exact g_iret K (by decide +kernel) rfl (Or.inr (Or.inl ⟨rfl, Or.inl rfl⟩)) rfl
  · refine gl (i' := 5) (fun _ _ => aw_aload_n K (dOf ck_mX12_hasStop rfl rfl) rfl) ?_
    refine gl (i' := 6) (fun _ _ => aw_getf K (dOf ck_mX12_hasStop rfl rfl) rfl rfl (Nat.le_of_ble_eq_true rfl) wd_1238 (k := 33) rfl) ?_
    refine gl (i' := 7) (fun _ _ => aw_aload_n K (dOf ck_mX12_hasStop rfl rfl) rfl) ?_
    refine gl (i' := 8) (fun _ _ => aw_getf K (dOf ck_mX12_hasStop rfl rfl) rfl rfl (Nat.le_of_ble_eq_true rfl) wd_1206 (k := 1) rfl) ?_
    refine gl (i' := 9) (fun _ _ => aw_bip K (dOf ck_mX12_hasStop rfl rfl) (v := 45) rfl) ?_
    refine gl (i' := 10) (fun _ _ => aw_iload_n K (dOf ck_mX12_hasStop rfl rfl) rfl) ?_
    refine gl (i' := 11) (fun _ _ => aw_bip K (dOf ck_mX12_hasStop rfl rfl) (v := 6) rfl) ?_
    refine gl (i' := 12) (fun _ _ => aw_idiv K (by decide) (dOf ck_mX12_hasStop rfl rfl)) ?_
    refine gl (i' := 13) (fun _ _ => aw_iadd K (dOf ck_mX12_hasStop rfl rfl)) ?_
    refine g_gd (fun hb3 => ?_)
    refine gl (i' := 14) (fun _ _ => aw_iald K (dOf ck_mX12_hasStop rfl rfl) rfl hb3) ?_
    refine gl (i' := 15) (fun _ _ => aw_ishr K (dOf ck_mX12_hasStop rfl rfl)) ?_
    refine gl (i' := 16) (fun _ _ => aw_iconst K (n := 1) (i32 _ rfl) (dOf ck_mX12_hasStop rfl rfl)) ?_
    refine gl (i' := 17) (fun _ _ => aw_iand K (dOf ck_mX12_hasStop rfl rfl)) ?_
    refine gl (i' := 18) (fun _ _ => aw_iconst K (n := 1) (i32 _ rfl) (dOf ck_mX12_hasStop rfl rfl)) ?_
    refine g_icmp_ne K (dOf ck_mX12_hasStop rfl rfl) (t := 21) (aJ_of (by decide +kernel)) (fun h4 => ?_) (fun h4 => ?_)
    · refine gl (i' := 20) (fun _ _ => aw_iconst K (n := 1) (i32 _ rfl) (dOf ck_mX12_hasStop rfl rfl)) ?_
      refine g_goto K (dOf ck_mX12_hasStop rfl rfl).1 (t := 22) (aJ_of (by decide +kernel)) ?_
      exact g_iret K (by decide +kernel) rfl (Or.inr (Or.inl ⟨rfl, Or.inr rfl⟩)) rfl
    · refine gl (i' := 22) (fun _ _ => aw_iconst K (n := 0) (i32 _ rfl) (dOf ck_mX12_hasStop rfl rfl)) ?_
      exact g_iret K (by decide +kernel) rfl (Or.inr (Or.inl ⟨rfl, Or.inl rfl⟩)) rfl
def R_pairOf (x0 : Int) (x1 : Int) (x2 : Int) (x3 : Int) (mm : aM) : Option Int := some (w32 ((w32 ((w32 (78 + (w32 ((w32 ((w32 (x0 * 78)) + x1)) * 9)))) + (w32 (3 * x2)))) + x3))
set_option maxHeartbeats 4000000 in
theorem met_R_pairOf {l : Launch} {D : va_G} {cA : FieldType → ClassId} {ad adV : Nat → Nat} {z0 : Nat} {x0 : Int} {x1 : Int} {x2 : Int} {x3 : Int} {mm : aM}  {r : Int} (h : R_pairOf x0 x1 x2 x3 mm = some r) : aMet l D cA ad adV z0 mX12_pairOf 0 0 0 0 [.inl x0, .inl x1, .inl x2, .inl x3] SH mm ((rI mm) r).1 SH ((rI mm) r).2 := by
  refine aMet_ofG (by decide +kernel) rfl (Nat.le_of_ble_eq_true rfl) h (fun p e s m args below meth c al0 K => ?_)
  unfold R_pairOf
  refine gl (i' := 1) (fun _ _ => aw_bip K (dOf ck_mX12_pairOf rfl rfl) (v := 78) rfl) ?_
  refine gl (i' := 2) (fun _ _ => aw_iload_n K (dOf ck_mX12_pairOf rfl rfl) rfl) ?_
  refine gl (i' := 3) (fun _ _ => aw_bip K (dOf ck_mX12_pairOf rfl rfl) (v := 78) rfl) ?_
  refine gl (i' := 4) (fun _ _ => aw_imul K (dOf ck_mX12_pairOf rfl rfl)) ?_
  refine gl (i' := 5) (fun _ _ => aw_iload_n K (dOf ck_mX12_pairOf rfl rfl) rfl) ?_
  refine gl (i' := 6) (fun _ _ => aw_iadd K (dOf ck_mX12_pairOf rfl rfl)) ?_
  refine gl (i' := 7) (fun _ _ => aw_bip K (dOf ck_mX12_pairOf rfl rfl) (v := 9) rfl) ?_
  refine gl (i' := 8) (fun _ _ => aw_imul K (dOf ck_mX12_pairOf rfl rfl)) ?_
  refine gl (i' := 9) (fun _ _ => aw_iadd K (dOf ck_mX12_pairOf rfl rfl)) ?_
  refine gl (i' := 10) (fun _ _ => aw_iconst K (n := 3) (i32 _ rfl) (dOf ck_mX12_pairOf rfl rfl)) ?_
  refine gl (i' := 11) (fun _ _ => aw_iload_n K (dOf ck_mX12_pairOf rfl rfl) rfl) ?_
  refine gl (i' := 12) (fun _ _ => aw_imul K (dOf ck_mX12_pairOf rfl rfl)) ?_
  refine gl (i' := 13) (fun _ _ => aw_iadd K (dOf ck_mX12_pairOf rfl rfl)) ?_
  refine gl (i' := 14) (fun _ _ => aw_iload_n K (dOf ck_mX12_pairOf rfl rfl) rfl) ?_
  refine gl (i' := 15) (fun _ _ => aw_iadd K (dOf ck_mX12_pairOf rfl rfl)) ?_
  exact g_iret K (by decide +kernel) rfl (Or.inl rfl) rfl
def R_goesTo_46 (x1 : Int) (x2 : Int) (x3 : Int) (x4 : Int) (x5 : Int) (x6 : Int) (mm : aM) : Option aM := if x3 < x5 then ((R_pairOf x1 x2 (w32 (x3 + 1)) x4 mm).bind fun r18 => ((R_adds1 r18 x6 mm).bind fun r19 => (some r19))) else (some mm)
set_option maxHeartbeats 4000000 in
theorem lk_R_goesTo_46 {p : Program} {l : Launch} {e : Env} {s : State} {m : MethodId} {args : Array Value} {below : List Frame} {meth : Method} {c : Code} {D : va_G} {cA : FieldType → ClassId} {ad adV : Nat → Nat} {z0 : Nat} {al0 : List Nat} (K : aK p s m args meth c mX12_goesTo D cA ad adV z0) (x1 : Int) (x2 : Int) (x3 : Int) (x4 : Int) (x5 : Int) (x6 : Int)  (mm : aM) : aG p l e { frames := 2, cells := 0, slots := 0, locals := 42 } s m args below meth c D cA ad z0 mX12_goesTo al0 rM (R_goesTo_46 x1 x2 x3 x4 x5 x6 mm) 46 [(0, .inr (.inr (.inl (some 176)))), (1, .inl x1), (2, .inl x2), (3, .inl x3), (4, .inl x4), (5, .inl x5), (6, .inl x6)] [] mm := by
  unfold R_goesTo_46
  refine gl (i' := 47) (fun _ _ => aw_iload_n K (dOf ck_mX12_goesTo rfl rfl) rfl) ?_
  refine gl (i' := 48) (fun _ _ => aw_iload K (dOf ck_mX12_goesTo rfl rfl) rfl) ?_
  refine g_icmp_ge K (dOf ck_mX12_goesTo rfl rfl) (t := 92) (aJ_of (by decide +kernel)) (fun h17 => ?_) (fun h17 => ?_)
  · refine gl (i' := 50) (fun _ _ => aw_aload_n K (dOf ck_mX12_goesTo rfl rfl) rfl) ?_
    refine gl (i' := 51) (fun _ _ => aw_iload_n K (dOf ck_mX12_goesTo rfl rfl) rfl) ?_
    refine gl (i' := 52) (fun _ _ => aw_iload_n K (dOf ck_mX12_goesTo rfl rfl) rfl) ?_
    refine gl (i' := 53) (fun _ _ => aw_iload_n K (dOf ck_mX12_goesTo rfl rfl) rfl) ?_
    refine gl (i' := 54) (fun _ _ => aw_iconst K (n := 1) (i32 _ rfl) (dOf ck_mX12_goesTo rfl rfl)) ?_
    refine gl (i' := 55) (fun _ _ => aw_iadd K (dOf ck_mX12_goesTo rfl rfl)) ?_
    refine gl (i' := 56) (fun _ _ => aw_iload K (dOf ck_mX12_goesTo rfl rfl) rfl) ?_
    refine g_callSI K [.inl _, .inl _, .inl _, .inl _] rfl (dOf ck_mX12_goesTo rfl rfl) al_OneBreathModel_340 wd_1510 rfl (Nat.le_of_ble_eq_true rfl) ⟨Nat.le_of_ble_eq_true rfl, Nat.le_of_ble_eq_true rfl⟩ (fun b hb => met_R_pairOf  hb) (fun r18 hr18 => ?_)
    refine gl (i' := 58) (fun _ _ => aw_iload K (dOf ck_mX12_goesTo rfl rfl) rfl) ?_
    refine g_callVM K [.inl _, .inl _] rfl (dOf ck_mX12_goesTo rfl rfl) al_OneBreathModel_344 rfl rfl ⟨wd_1498, wd_110⟩ rfl (Nat.le_of_ble_eq_true rfl) ⟨Nat.le_of_ble_eq_true rfl, Nat.le_of_ble_eq_true rfl⟩ (fun b hb => met_R_adds1  hb) (fun r19 hr19 => ?_)
    refine g_goto K (dOf ck_mX12_goesTo rfl rfl).1 (t := 92) (aJ_of (by decide +kernel)) ?_
    exact g_vret K (by decide +kernel) rfl rfl
  · exact g_vret K (by decide +kernel) rfl rfl
def R_goesTo (x1 : Int) (x2 : Int) (x3 : Int) (x4 : Int) (x5 : Int) (x6 : Int) (mm : aM) : Option aM := (R_soundAt x1 mm).bind fun r1 => ((R_soundAt x2 mm).bind fun r2 => ((R_hasStop x1 mm).bind fun r3 => ((R_hasStop x2 mm).bind fun r4 => (if r3 = r4 then (if r1 = r2 then ((R_pairOf x1 x2 x3 x4 mm).bind fun r22 => ((R_adds1 r22 x6 mm).bind fun r23 => (some r23))) else ((R_isLike r1 r2 mm).bind fun r7 => (if r7 = 0 then (if 0 ≤ (w32 (10 + r1)) ∧ (w32 (10 + r1)) < 588 then (if 0 ≤ (w32 (10 + r2)) ∧ (w32 (10 + r2)) < 588 then (if (iand (mm 177 (w32 (10 + r1)).toNat) (mm 177 (w32 (10 + r2)).toNat)) = 0 then (some mm) else (if x3 < x5 then (if x4 < x5 then ((R_pairOf x1 x2 (w32 (x3 + 1)) (w32 (x4 + 1)) mm).bind fun r14 => ((R_adds1 r14 x6 mm).bind fun r15 => (some r15))) else (some mm)) else (some mm))) else none) else none) else (if x4 < x5 then ((R_pairOf x1 x2 x3 (w32 (x4 + 1)) mm).bind fun r20 => ((R_adds1 r20 x6 mm).bind fun r21 => (R_goesTo_46 x1 x2 x3 x4 x5 x6 r21))) else (R_goesTo_46 x1 x2 x3 x4 x5 x6 mm))))) else (some mm)))))
set_option maxHeartbeats 4000000 in
theorem met_R_goesTo {l : Launch} {D : va_G} {cA : FieldType → ClassId} {ad adV : Nat → Nat} {z0 : Nat} {x1 : Int} {x2 : Int} {x3 : Int} {x4 : Int} {x5 : Int} {x6 : Int} {mm : aM}  {r : aM} (h : R_goesTo x1 x2 x3 x4 x5 x6 mm = some r) : aMet l D cA ad adV z0 mX12_goesTo 2 42 0 0 [.inr (.inr (.inl (some 176))), .inl x1, .inl x2, .inl x3, .inl x4, .inl x5, .inl x6] SH mm (rM r).1 SH (rM r).2 := by
  refine aMet_ofG (by decide +kernel) rfl (Nat.le_of_ble_eq_true rfl) h (fun p e s m args below meth c al0 K => ?_)
  unfold R_goesTo
  refine gl (i' := 1) (fun _ _ => aw_aload_n K (dOf ck_mX12_goesTo rfl rfl) rfl) ?_
  refine gl (i' := 2) (fun _ _ => aw_iload_n K (dOf ck_mX12_goesTo rfl rfl) rfl) ?_
  refine g_callVI K [.inl _] rfl (dOf ck_mX12_goesTo rfl rfl) al_OneBreathModel_334 rfl rfl ⟨wd_1504, wd_112⟩ rfl (Nat.le_of_ble_eq_true rfl) ⟨Nat.le_of_ble_eq_true rfl, Nat.le_of_ble_eq_true rfl⟩ (fun b hb => met_R_soundAt  hb) (fun r1 hr1 => ?_)
  refine gl (i' := 4) (fun _ _ => aw_istore K (dOf ck_mX12_goesTo rfl rfl) (Nat.le_of_ble_eq_true rfl)) ?_
  refine g_lv (lv' := [(7, .inl _), (0, .inr (.inr (.inl (some _)))), (1, .inl _), (2, .inl _), (3, .inl _), (4, .inl _), (5, .inl _), (6, .inl _)]) rfl ?_
  refine gl (i' := 5) (fun _ _ => aw_aload_n K (dOf ck_mX12_goesTo rfl rfl) rfl) ?_
  refine gl (i' := 6) (fun _ _ => aw_iload_n K (dOf ck_mX12_goesTo rfl rfl) rfl) ?_
  refine g_callVI K [.inl _] rfl (dOf ck_mX12_goesTo rfl rfl) al_OneBreathModel_334 rfl rfl ⟨wd_1504, wd_112⟩ rfl (Nat.le_of_ble_eq_true rfl) ⟨Nat.le_of_ble_eq_true rfl, Nat.le_of_ble_eq_true rfl⟩ (fun b hb => met_R_soundAt  hb) (fun r2 hr2 => ?_)
  refine gl (i' := 8) (fun _ _ => aw_istore K (dOf ck_mX12_goesTo rfl rfl) (Nat.le_of_ble_eq_true rfl)) ?_
  refine g_lv (lv' := [(8, .inl _), (7, .inl _), (0, .inr (.inr (.inl (some _)))), (1, .inl _), (2, .inl _), (3, .inl _), (4, .inl _), (5, .inl _), (6, .inl _)]) rfl ?_
  refine gl (i' := 9) (fun _ _ => aw_aload_n K (dOf ck_mX12_goesTo rfl rfl) rfl) ?_
  refine gl (i' := 10) (fun _ _ => aw_iload_n K (dOf ck_mX12_goesTo rfl rfl) rfl) ?_
  refine g_callVI K [.inl _] rfl (dOf ck_mX12_goesTo rfl rfl) al_OneBreathModel_337 rfl rfl ⟨wd_1507, wd_113⟩ rfl (Nat.le_of_ble_eq_true rfl) ⟨Nat.le_of_ble_eq_true rfl, Nat.le_of_ble_eq_true rfl⟩ (fun b hb => met_R_hasStop  hb) (fun r3 hr3 => ?_)
  refine gl (i' := 12) (fun _ _ => aw_aload_n K (dOf ck_mX12_goesTo rfl rfl) rfl) ?_
  refine gl (i' := 13) (fun _ _ => aw_iload_n K (dOf ck_mX12_goesTo rfl rfl) rfl) ?_
  refine g_callVI K [.inl _] rfl (dOf ck_mX12_goesTo rfl rfl) al_OneBreathModel_337 rfl rfl ⟨wd_1507, wd_113⟩ rfl (Nat.le_of_ble_eq_true rfl) ⟨Nat.le_of_ble_eq_true rfl, Nat.le_of_ble_eq_true rfl⟩ (fun b hb => met_R_hasStop  hb) (fun r4 hr4 => ?_)
  refine g_icmp_eq K (dOf ck_mX12_goesTo rfl rfl) (t := 16) (aJ_of (by decide +kernel)) (fun h5 => ?_) (fun h5 => ?_)
  · refine gl (i' := 17) (fun _ _ => aw_iload K (dOf ck_mX12_goesTo rfl rfl) rfl) ?_
    refine gl (i' := 18) (fun _ _ => aw_iload K (dOf ck_mX12_goesTo rfl rfl) rfl) ?_
    refine g_icmp_ne K (dOf ck_mX12_goesTo rfl rfl) (t := 28) (aJ_of (by decide +kernel)) (fun h6 => ?_) (fun h6 => ?_)
    · refine gl (i' := 20) (fun _ _ => aw_aload_n K (dOf ck_mX12_goesTo rfl rfl) rfl) ?_
      refine gl (i' := 21) (fun _ _ => aw_iload_n K (dOf ck_mX12_goesTo rfl rfl) rfl) ?_
      refine gl (i' := 22) (fun _ _ => aw_iload_n K (dOf ck_mX12_goesTo rfl rfl) rfl) ?_
      refine gl (i' := 23) (fun _ _ => aw_iload_n K (dOf ck_mX12_goesTo rfl rfl) rfl) ?_
      refine gl (i' := 24) (fun _ _ => aw_iload K (dOf ck_mX12_goesTo rfl rfl) rfl) ?_
      refine g_callSI K [.inl _, .inl _, .inl _, .inl _] rfl (dOf ck_mX12_goesTo rfl rfl) al_OneBreathModel_340 wd_1510 rfl (Nat.le_of_ble_eq_true rfl) ⟨Nat.le_of_ble_eq_true rfl, Nat.le_of_ble_eq_true rfl⟩ (fun b hb => met_R_pairOf  hb) (fun r22 hr22 => ?_)
      refine gl (i' := 26) (fun _ _ => aw_iload K (dOf ck_mX12_goesTo rfl rfl) rfl) ?_
      refine g_callVM K [.inl _, .inl _] rfl (dOf ck_mX12_goesTo rfl rfl) al_OneBreathModel_344 rfl rfl ⟨wd_1498, wd_110⟩ rfl (Nat.le_of_ble_eq_true rfl) ⟨Nat.le_of_ble_eq_true rfl, Nat.le_of_ble_eq_true rfl⟩ (fun b hb => met_R_adds1  hb) (fun r23 hr23 => ?_)
      refine g_goto K (dOf ck_mX12_goesTo rfl rfl).1 (t := 92) (aJ_of (by decide +kernel)) ?_
      exact g_vret K (by decide +kernel) rfl rfl
    · refine gl (i' := 29) (fun _ _ => aw_aload_n K (dOf ck_mX12_goesTo rfl rfl) rfl) ?_
      refine gl (i' := 30) (fun _ _ => aw_iload K (dOf ck_mX12_goesTo rfl rfl) rfl) ?_
      refine gl (i' := 31) (fun _ _ => aw_iload K (dOf ck_mX12_goesTo rfl rfl) rfl) ?_
      refine g_callVI K [.inl _, .inl _] rfl (dOf ck_mX12_goesTo rfl rfl) al_OneBreathModel_241 rfl rfl ⟨wd_1382, wd_85⟩ rfl (Nat.le_of_ble_eq_true rfl) ⟨Nat.le_of_ble_eq_true rfl, Nat.le_of_ble_eq_true rfl⟩ (fun b hb => met_R_isLike  hb) (fun r7 hr7 => ?_)
      refine g_if_eq K (dOf ck_mX12_goesTo rfl rfl) (t := 60) (aJ_of (by decide +kernel)) (fun h8 => ?_) (fun h8 => ?_)
      · refine gl (i' := 61) (fun _ _ => aw_aload_n K (dOf ck_mX12_goesTo rfl rfl) rfl) ?_
        refine gl (i' := 62) (fun _ _ => aw_getf K (dOf ck_mX12_goesTo rfl rfl) rfl rfl (Nat.le_of_ble_eq_true rfl) wd_1206 (k := 1) rfl) ?_
        refine gl (i' := 63) (fun _ _ => aw_bip K (dOf ck_mX12_goesTo rfl rfl) (v := 10) rfl) ?_
        refine gl (i' := 64) (fun _ _ => aw_iload K (dOf ck_mX12_goesTo rfl rfl) rfl) ?_
        refine gl (i' := 65) (fun _ _ => aw_iadd K (dOf ck_mX12_goesTo rfl rfl)) ?_
        refine g_gd (fun hb9 => ?_)
        refine gl (i' := 66) (fun _ _ => aw_iald K (dOf ck_mX12_goesTo rfl rfl) rfl hb9) ?_
        refine gl (i' := 67) (fun _ _ => aw_aload_n K (dOf ck_mX12_goesTo rfl rfl) rfl) ?_
        refine gl (i' := 68) (fun _ _ => aw_getf K (dOf ck_mX12_goesTo rfl rfl) rfl rfl (Nat.le_of_ble_eq_true rfl) wd_1206 (k := 1) rfl) ?_
        refine gl (i' := 69) (fun _ _ => aw_bip K (dOf ck_mX12_goesTo rfl rfl) (v := 10) rfl) ?_
        refine gl (i' := 70) (fun _ _ => aw_iload K (dOf ck_mX12_goesTo rfl rfl) rfl) ?_
        refine gl (i' := 71) (fun _ _ => aw_iadd K (dOf ck_mX12_goesTo rfl rfl)) ?_
        refine g_gd (fun hb10 => ?_)
        refine gl (i' := 72) (fun _ _ => aw_iald K (dOf ck_mX12_goesTo rfl rfl) rfl hb10) ?_
        refine gl (i' := 73) (fun _ _ => aw_iand K (dOf ck_mX12_goesTo rfl rfl)) ?_
        refine g_if_eq K (dOf ck_mX12_goesTo rfl rfl) (t := 92) (aJ_of (by decide +kernel)) (fun h11 => ?_) (fun h11 => ?_)
        · exact g_vret K (by decide +kernel) rfl rfl
        · refine gl (i' := 75) (fun _ _ => aw_iload_n K (dOf ck_mX12_goesTo rfl rfl) rfl) ?_
          refine gl (i' := 76) (fun _ _ => aw_iload K (dOf ck_mX12_goesTo rfl rfl) rfl) ?_
          refine g_icmp_ge K (dOf ck_mX12_goesTo rfl rfl) (t := 92) (aJ_of (by decide +kernel)) (fun h12 => ?_) (fun h12 => ?_)
          · refine gl (i' := 78) (fun _ _ => aw_iload K (dOf ck_mX12_goesTo rfl rfl) rfl) ?_
            refine gl (i' := 79) (fun _ _ => aw_iload K (dOf ck_mX12_goesTo rfl rfl) rfl) ?_
            refine g_icmp_ge K (dOf ck_mX12_goesTo rfl rfl) (t := 92) (aJ_of (by decide +kernel)) (fun h13 => ?_) (fun h13 => ?_)
            · refine gl (i' := 81) (fun _ _ => aw_aload_n K (dOf ck_mX12_goesTo rfl rfl) rfl) ?_
              refine gl (i' := 82) (fun _ _ => aw_iload_n K (dOf ck_mX12_goesTo rfl rfl) rfl) ?_
              refine gl (i' := 83) (fun _ _ => aw_iload_n K (dOf ck_mX12_goesTo rfl rfl) rfl) ?_
              refine gl (i' := 84) (fun _ _ => aw_iload_n K (dOf ck_mX12_goesTo rfl rfl) rfl) ?_
              refine gl (i' := 85) (fun _ _ => aw_iconst K (n := 1) (i32 _ rfl) (dOf ck_mX12_goesTo rfl rfl)) ?_
              refine gl (i' := 86) (fun _ _ => aw_iadd K (dOf ck_mX12_goesTo rfl rfl)) ?_
              refine gl (i' := 87) (fun _ _ => aw_iload K (dOf ck_mX12_goesTo rfl rfl) rfl) ?_
              refine gl (i' := 88) (fun _ _ => aw_iconst K (n := 1) (i32 _ rfl) (dOf ck_mX12_goesTo rfl rfl)) ?_
              refine gl (i' := 89) (fun _ _ => aw_iadd K (dOf ck_mX12_goesTo rfl rfl)) ?_
              refine g_callSI K [.inl _, .inl _, .inl _, .inl _] rfl (dOf ck_mX12_goesTo rfl rfl) al_OneBreathModel_340 wd_1510 rfl (Nat.le_of_ble_eq_true rfl) ⟨Nat.le_of_ble_eq_true rfl, Nat.le_of_ble_eq_true rfl⟩ (fun b hb => met_R_pairOf  hb) (fun r14 hr14 => ?_)
              refine gl (i' := 91) (fun _ _ => aw_iload K (dOf ck_mX12_goesTo rfl rfl) rfl) ?_
              refine g_callVM K [.inl _, .inl _] rfl (dOf ck_mX12_goesTo rfl rfl) al_OneBreathModel_344 rfl rfl ⟨wd_1498, wd_110⟩ rfl (Nat.le_of_ble_eq_true rfl) ⟨Nat.le_of_ble_eq_true rfl, Nat.le_of_ble_eq_true rfl⟩ (fun b hb => met_R_adds1  hb) (fun r15 hr15 => ?_)
              exact g_vret K (by decide +kernel) rfl rfl
            · exact g_vret K (by decide +kernel) rfl rfl
          · exact g_vret K (by decide +kernel) rfl rfl
      · refine gl (i' := 34) (fun _ _ => aw_iload K (dOf ck_mX12_goesTo rfl rfl) rfl) ?_
        refine gl (i' := 35) (fun _ _ => aw_iload K (dOf ck_mX12_goesTo rfl rfl) rfl) ?_
        refine g_icmp_ge K (dOf ck_mX12_goesTo rfl rfl) (t := 46) (aJ_of (by decide +kernel)) (fun h16 => ?_) (fun h16 => ?_)
        · refine gl (i' := 37) (fun _ _ => aw_aload_n K (dOf ck_mX12_goesTo rfl rfl) rfl) ?_
          refine gl (i' := 38) (fun _ _ => aw_iload_n K (dOf ck_mX12_goesTo rfl rfl) rfl) ?_
          refine gl (i' := 39) (fun _ _ => aw_iload_n K (dOf ck_mX12_goesTo rfl rfl) rfl) ?_
          refine gl (i' := 40) (fun _ _ => aw_iload_n K (dOf ck_mX12_goesTo rfl rfl) rfl) ?_
          refine gl (i' := 41) (fun _ _ => aw_iload K (dOf ck_mX12_goesTo rfl rfl) rfl) ?_
          refine gl (i' := 42) (fun _ _ => aw_iconst K (n := 1) (i32 _ rfl) (dOf ck_mX12_goesTo rfl rfl)) ?_
          refine gl (i' := 43) (fun _ _ => aw_iadd K (dOf ck_mX12_goesTo rfl rfl)) ?_
          refine g_callSI K [.inl _, .inl _, .inl _, .inl _] rfl (dOf ck_mX12_goesTo rfl rfl) al_OneBreathModel_340 wd_1510 rfl (Nat.le_of_ble_eq_true rfl) ⟨Nat.le_of_ble_eq_true rfl, Nat.le_of_ble_eq_true rfl⟩ (fun b hb => met_R_pairOf  hb) (fun r20 hr20 => ?_)
          refine gl (i' := 45) (fun _ _ => aw_iload K (dOf ck_mX12_goesTo rfl rfl) rfl) ?_
          refine g_callVM K [.inl _, .inl _] rfl (dOf ck_mX12_goesTo rfl rfl) al_OneBreathModel_344 rfl rfl ⟨wd_1498, wd_110⟩ rfl (Nat.le_of_ble_eq_true rfl) ⟨Nat.le_of_ble_eq_true rfl, Nat.le_of_ble_eq_true rfl⟩ (fun b hb => met_R_adds1  hb) (fun r21 hr21 => ?_)
          refine g_sub [2, 3, 4, 5, 6, 7, 8] rfl ?_
          exact lk_R_goesTo_46 K _ _ _ _ _ _ _
        · refine g_sub [2, 3, 4, 5, 6, 7, 8] rfl ?_
          exact lk_R_goesTo_46 K _ _ _ _ _ _ _
  · exact g_vret K (dOf ck_mX12_goesTo rfl rfl).1 rfl rfl
def R_spreadsSame_40 (k8 : Int → aM → Option aM) (k20 : Int → aM → Option aM) (x2 : Int) (x3 : Int) (x4 : Int) (x5 : Int) (x6 : Int) (mm : aM) : Option aM := k20 (w32 (x6 + 1)) mm
set_option maxHeartbeats 4000000 in
theorem lk_R_spreadsSame_40 {p : Program} {l : Launch} {e : Env} {s : State} {m : MethodId} {args : Array Value} {below : List Frame} {meth : Method} {c : Code} {D : va_G} {cA : FieldType → ClassId} {ad adV : Nat → Nat} {z0 : Nat} {al0 : List Nat} (K : aK p s m args meth c mX12_spreadsSame D cA ad adV z0) (x2 : Int) (x3 : Int) (x4 : Int) (x5 : Int) (x6 : Int) (k8 : Int → aM → Option aM) (hk8 : ∀ (x5 : Int) (mm : aM), aG p l e { frames := 3, cells := 0, slots := 0, locals := 70 } s m args below meth c D cA ad z0 mX12_spreadsSame al0 rM (k8 x5 mm) 8 [(0, .inr (.inr (.inl (some 176)))), (2, .inl x2), (3, .inl x3), (4, .inl x4), (5, .inl x5)] [] mm) (k20 : Int → aM → Option aM) (hk20 : ∀ (x6 : Int) (mm : aM), aG p l e { frames := 3, cells := 0, slots := 0, locals := 70 } s m args below meth c D cA ad z0 mX12_spreadsSame al0 rM (k20 x6 mm) 20 [(0, .inr (.inr (.inl (some 176)))), (2, .inl x2), (3, .inl x3), (4, .inl x4), (5, .inl x5), (6, .inl x6)] [] mm)  (mm : aM) : aG p l e { frames := 3, cells := 0, slots := 0, locals := 70 } s m args below meth c D cA ad z0 mX12_spreadsSame al0 rM (R_spreadsSame_40 k8 k20 x2 x3 x4 x5 x6 mm) 40 [(0, .inr (.inr (.inl (some 176)))), (2, .inl x2), (3, .inl x3), (4, .inl x4), (5, .inl x5), (6, .inl x6)] [] mm := by
  unfold R_spreadsSame_40
  refine gl (i' := 41) (fun _ _ => aw_iinc K (dOf ck_mX12_spreadsSame rfl rfl) (Nat.le_of_ble_eq_true rfl) rfl) ?_
  refine g_lv (lv' := [(6, .inl _), (0, .inr (.inr (.inl (some _)))), (2, .inl _), (3, .inl _), (4, .inl _), (5, .inl _)]) rfl ?_
  refine g_goto K (dOf ck_mX12_spreadsSame rfl rfl).1 (t := 20) (aJ_of (by decide +kernel)) ?_
  refine g_sub [1, 2, 3, 4, 5, 0] rfl ?_
  exact hk20 _ _
def R_spreadsSame_20 (k8 : Int → aM → Option aM) (x2 : Int) (x3 : Int) (x4 : Int) (x5 : Int) : Nat → Int → aM → Option aM
  | 0, _, _ => none
  | n + 1, x6, mm => if x6 < x4 then (if x5 = x6 then (R_spreadsSame_40 k8 (R_spreadsSame_20 k8 x2 x3 x4 x5 n) x2 x3 x4 x5 x6 mm) else (if 0 ≤ x5 ∧ x5 < 13 then (if 0 ≤ x6 ∧ x6 < 13 then ((R_goesTo (mm 194 x5.toNat) (mm 194 x6.toNat) 0 0 x2 x3 mm).bind fun r9 => (R_spreadsSame_40 k8 (R_spreadsSame_20 k8 x2 x3 x4 x5 n) x2 x3 x4 x5 x6 r9)) else none) else none)) else (k8 (w32 (x5 + 1)) mm)
set_option maxHeartbeats 4000000 in
theorem lk_R_spreadsSame_20 {p : Program} {l : Launch} {e : Env} {s : State} {m : MethodId} {args : Array Value} {below : List Frame} {meth : Method} {c : Code} {D : va_G} {cA : FieldType → ClassId} {ad adV : Nat → Nat} {z0 : Nat} {al0 : List Nat} (K : aK p s m args meth c mX12_spreadsSame D cA ad adV z0) (x2 : Int) (x3 : Int) (x4 : Int) (x5 : Int) (k8 : Int → aM → Option aM) (hk8 : ∀ (x5 : Int) (mm : aM), aG p l e { frames := 3, cells := 0, slots := 0, locals := 70 } s m args below meth c D cA ad z0 mX12_spreadsSame al0 rM (k8 x5 mm) 8 [(0, .inr (.inr (.inl (some 176)))), (2, .inl x2), (3, .inl x3), (4, .inl x4), (5, .inl x5)] [] mm)  : ∀ (n : Nat) (x6 : Int) (mm : aM), aG p l e { frames := 3, cells := 0, slots := 0, locals := 70 } s m args below meth c D cA ad z0 mX12_spreadsSame al0 rM (R_spreadsSame_20 k8 x2 x3 x4 x5 n x6 mm) 20 [(0, .inr (.inr (.inl (some 176)))), (2, .inl x2), (3, .inl x3), (4, .inl x4), (5, .inl x5), (6, .inl x6)] [] mm := by
  intro n
  induction n with
  | zero => intro x6 mm; exact g_none
  | succ n ih =>
    intro x6 mm
    rw [R_spreadsSame_20]
    refine gl (i' := 21) (fun _ _ => aw_iload K (dOf ck_mX12_spreadsSame rfl rfl) rfl) ?_
    refine gl (i' := 22) (fun _ _ => aw_iload K (dOf ck_mX12_spreadsSame rfl rfl) rfl) ?_
    refine g_icmp_ge K (dOf ck_mX12_spreadsSame rfl rfl) (t := 42) (aJ_of (by decide +kernel)) (fun h5 => ?_) (fun h5 => ?_)
    · refine gl (i' := 24) (fun _ _ => aw_iload K (dOf ck_mX12_spreadsSame rfl rfl) rfl) ?_
      refine gl (i' := 25) (fun _ _ => aw_iload K (dOf ck_mX12_spreadsSame rfl rfl) rfl) ?_
      refine g_icmp_eq K (dOf ck_mX12_spreadsSame rfl rfl) (t := 40) (aJ_of (by decide +kernel)) (fun h6 => ?_) (fun h6 => ?_)
      · refine g_sub [0, 1, 2, 3, 4, 5] rfl ?_
        exact lk_R_spreadsSame_40 K _ _ _ _ _ _ hk8 _ ih _
      · refine gl (i' := 27) (fun _ _ => aw_aload_n K (dOf ck_mX12_spreadsSame rfl rfl) rfl) ?_
        refine gl (i' := 28) (fun _ _ => aw_aload_n K (dOf ck_mX12_spreadsSame rfl rfl) rfl) ?_
        refine gl (i' := 29) (fun _ _ => aw_getf K (dOf ck_mX12_spreadsSame rfl rfl) rfl rfl (Nat.le_of_ble_eq_true rfl) wd_1240 (k := 35) rfl) ?_
        refine gl (i' := 30) (fun _ _ => aw_iload K (dOf ck_mX12_spreadsSame rfl rfl) rfl) ?_
        refine g_gd (fun hb7 => ?_)
        refine gl (i' := 31) (fun _ _ => aw_iald K (dOf ck_mX12_spreadsSame rfl rfl) rfl hb7) ?_
        refine gl (i' := 32) (fun _ _ => aw_aload_n K (dOf ck_mX12_spreadsSame rfl rfl) rfl) ?_
        refine gl (i' := 33) (fun _ _ => aw_getf K (dOf ck_mX12_spreadsSame rfl rfl) rfl rfl (Nat.le_of_ble_eq_true rfl) wd_1240 (k := 35) rfl) ?_
        refine gl (i' := 34) (fun _ _ => aw_iload K (dOf ck_mX12_spreadsSame rfl rfl) rfl) ?_
        refine g_gd (fun hb8 => ?_)
        refine gl (i' := 35) (fun _ _ => aw_iald K (dOf ck_mX12_spreadsSame rfl rfl) rfl hb8) ?_
        refine gl (i' := 36) (fun _ _ => aw_iconst K (n := 0) (i32 _ rfl) (dOf ck_mX12_spreadsSame rfl rfl)) ?_
        refine gl (i' := 37) (fun _ _ => aw_iconst K (n := 0) (i32 _ rfl) (dOf ck_mX12_spreadsSame rfl rfl)) ?_
        refine gl (i' := 38) (fun _ _ => aw_iload_n K (dOf ck_mX12_spreadsSame rfl rfl) rfl) ?_
        refine gl (i' := 39) (fun _ _ => aw_iload_n K (dOf ck_mX12_spreadsSame rfl rfl) rfl) ?_
        refine g_callVM K [.inl _, .inl _, .inl _, .inl _, .inl _, .inl _] rfl (dOf ck_mX12_spreadsSame rfl rfl) al_OneBreathModel_352 rfl rfl ⟨wd_1501, wd_111⟩ rfl (Nat.le_of_ble_eq_true rfl) ⟨Nat.le_of_ble_eq_true rfl, Nat.le_of_ble_eq_true rfl⟩ (fun b hb => met_R_goesTo  hb) (fun r9 hr9 => ?_)
        refine g_sub [0, 1, 2, 3, 4, 5] rfl ?_
        exact lk_R_spreadsSame_40 K _ _ _ _ _ _ hk8 _ ih _
    · refine gl (i' := 43) (fun _ _ => aw_iinc K (dOf ck_mX12_spreadsSame rfl rfl) (Nat.le_of_ble_eq_true rfl) rfl) ?_
      refine g_lv (lv' := [(5, .inl _), (0, .inr (.inr (.inl (some _)))), (2, .inl _), (3, .inl _), (4, .inl _), (6, .inl _)]) rfl ?_
      refine g_goto K (dOf ck_mX12_spreadsSame rfl rfl).1 (t := 8) (aJ_of (by decide +kernel)) ?_
      refine g_sub [1, 2, 3, 4, 0] rfl ?_
      exact hk8 _ _
def R_spreadsSame_8 (x2 : Int) (x3 : Int) (x4 : Int) : Nat → Int → aM → Option aM
  | 0, _, _ => none
  | n + 1, x5, mm => if x5 < x4 then (if 0 ≤ x5 ∧ x5 < 13 then ((R_adds1 (mm 194 x5.toNat) x3 mm).bind fun r4 => (R_spreadsSame_20 (R_spreadsSame_8 x2 x3 x4 n) x2 x3 x4 x5 FU 0 r4)) else none) else (some mm)
set_option maxHeartbeats 4000000 in
theorem lk_R_spreadsSame_8 {p : Program} {l : Launch} {e : Env} {s : State} {m : MethodId} {args : Array Value} {below : List Frame} {meth : Method} {c : Code} {D : va_G} {cA : FieldType → ClassId} {ad adV : Nat → Nat} {z0 : Nat} {al0 : List Nat} (K : aK p s m args meth c mX12_spreadsSame D cA ad adV z0) (x2 : Int) (x3 : Int) (x4 : Int)  : ∀ (n : Nat) (x5 : Int) (mm : aM), aG p l e { frames := 3, cells := 0, slots := 0, locals := 70 } s m args below meth c D cA ad z0 mX12_spreadsSame al0 rM (R_spreadsSame_8 x2 x3 x4 n x5 mm) 8 [(0, .inr (.inr (.inl (some 176)))), (2, .inl x2), (3, .inl x3), (4, .inl x4), (5, .inl x5)] [] mm := by
  intro n
  induction n with
  | zero => intro x5 mm; exact g_none
  | succ n ih =>
    intro x5 mm
    rw [R_spreadsSame_8]
    refine gl (i' := 9) (fun _ _ => aw_iload K (dOf ck_mX12_spreadsSame rfl rfl) rfl) ?_
    refine gl (i' := 10) (fun _ _ => aw_iload K (dOf ck_mX12_spreadsSame rfl rfl) rfl) ?_
    refine g_icmp_ge K (dOf ck_mX12_spreadsSame rfl rfl) (t := 44) (aJ_of (by decide +kernel)) (fun h2 => ?_) (fun h2 => ?_)
    · refine gl (i' := 12) (fun _ _ => aw_aload_n K (dOf ck_mX12_spreadsSame rfl rfl) rfl) ?_
      refine gl (i' := 13) (fun _ _ => aw_aload_n K (dOf ck_mX12_spreadsSame rfl rfl) rfl) ?_
      refine gl (i' := 14) (fun _ _ => aw_getf K (dOf ck_mX12_spreadsSame rfl rfl) rfl rfl (Nat.le_of_ble_eq_true rfl) wd_1240 (k := 35) rfl) ?_
      refine gl (i' := 15) (fun _ _ => aw_iload K (dOf ck_mX12_spreadsSame rfl rfl) rfl) ?_
      refine g_gd (fun hb3 => ?_)
      refine gl (i' := 16) (fun _ _ => aw_iald K (dOf ck_mX12_spreadsSame rfl rfl) rfl hb3) ?_
      refine gl (i' := 17) (fun _ _ => aw_iload_n K (dOf ck_mX12_spreadsSame rfl rfl) rfl) ?_
      refine g_callVM K [.inl _, .inl _] rfl (dOf ck_mX12_spreadsSame rfl rfl) al_OneBreathModel_344 rfl rfl ⟨wd_1498, wd_110⟩ rfl (Nat.le_of_ble_eq_true rfl) ⟨Nat.le_of_ble_eq_true rfl, Nat.le_of_ble_eq_true rfl⟩ (fun b hb => met_R_adds1  hb) (fun r4 hr4 => ?_)
      refine gl (i' := 19) (fun _ _ => aw_iconst K (n := 0) (i32 _ rfl) (dOf ck_mX12_spreadsSame rfl rfl)) ?_
      refine gl (i' := 20) (fun _ _ => aw_istore K (dOf ck_mX12_spreadsSame rfl rfl) (Nat.le_of_ble_eq_true rfl)) ?_
      refine g_lv (lv' := [(6, .inl _), (0, .inr (.inr (.inl (some _)))), (2, .inl _), (3, .inl _), (4, .inl _), (5, .inl _)]) rfl ?_
      refine g_sub [1, 2, 3, 4, 5, 0] rfl ?_
      exact lk_R_spreadsSame_20 K _ _ _ _ _ ih FU _ _
    · exact g_vret K (by decide +kernel) rfl rfl
def R_spreadsSame (x1 : Int) (x2 : Int) (x3 : Int) (mm : aM) : Option aM := (R_follows x1 194 mm).bind fun r1 => (R_spreadsSame_8 x2 x3 r1.1 FU 0 r1.2)
set_option maxHeartbeats 4000000 in
theorem met_R_spreadsSame {l : Launch} {D : va_G} {cA : FieldType → ClassId} {ad adV : Nat → Nat} {z0 : Nat} {x1 : Int} {x2 : Int} {x3 : Int} {mm : aM}  {r : aM} (h : R_spreadsSame x1 x2 x3 mm = some r) : aMet l D cA ad adV z0 mX12_spreadsSame 3 70 0 0 [.inr (.inr (.inl (some 176))), .inl x1, .inl x2, .inl x3] SH mm (rM r).1 SH (rM r).2 := by
  refine aMet_ofG (by decide +kernel) rfl (Nat.le_of_ble_eq_true rfl) h (fun p e s m args below meth c al0 K => ?_)
  unfold R_spreadsSame
  refine gl (i' := 1) (fun _ _ => aw_aload_n K (dOf ck_mX12_spreadsSame rfl rfl) rfl) ?_
  refine gl (i' := 2) (fun _ _ => aw_iload_n K (dOf ck_mX12_spreadsSame rfl rfl) rfl) ?_
  refine gl (i' := 3) (fun _ _ => aw_aload_n K (dOf ck_mX12_spreadsSame rfl rfl) rfl) ?_
  refine gl (i' := 4) (fun _ _ => aw_getf K (dOf ck_mX12_spreadsSame rfl rfl) rfl rfl (Nat.le_of_ble_eq_true rfl) wd_1240 (k := 35) rfl) ?_
  refine g_callVIM K [.inl _, .inr (.inr (.inl (some _)))] rfl (dOf ck_mX12_spreadsSame rfl rfl) al_OneBreathModel_348 rfl rfl ⟨wd_1486, wd_106⟩ rfl (Nat.le_of_ble_eq_true rfl) ⟨Nat.le_of_ble_eq_true rfl, Nat.le_of_ble_eq_true rfl⟩ (fun b hb => met_R_follows ⟨_, rfl⟩ hb) (fun r1 hr1 => ?_)
  refine gl (i' := 6) (fun _ _ => aw_istore K (dOf ck_mX12_spreadsSame rfl rfl) (Nat.le_of_ble_eq_true rfl)) ?_
  refine g_lv (lv' := [(4, .inl _), (0, .inr (.inr (.inl (some _)))), (1, .inl _), (2, .inl _), (3, .inl _)]) rfl ?_
  refine gl (i' := 7) (fun _ _ => aw_iconst K (n := 0) (i32 _ rfl) (dOf ck_mX12_spreadsSame rfl rfl)) ?_
  refine gl (i' := 8) (fun _ _ => aw_istore K (dOf ck_mX12_spreadsSame rfl rfl) (Nat.le_of_ble_eq_true rfl)) ?_
  refine g_lv (lv' := [(5, .inl _), (4, .inl _), (0, .inr (.inr (.inl (some _)))), (1, .inl _), (2, .inl _), (3, .inl _)]) rfl ?_
  refine g_sub [2, 4, 5, 1, 0] rfl ?_
  exact lk_R_spreadsSame_8 K _ _ _ FU _ _
def R_canEnd (x1 : Int) (mm : aM) : Option Int := (R_isEnd x1 mm).bind fun r1 => (if r1 = 0 then (some 0) else ((R_mayEnd (w32 (Int.tdiv x1 6)) mm).bind fun r3 => (if r3 = 0 then (some 0) else (some 1))))
set_option maxHeartbeats 4000000 in
theorem met_R_canEnd {l : Launch} {D : va_G} {cA : FieldType → ClassId} {ad adV : Nat → Nat} {z0 : Nat} {x1 : Int} {mm : aM}  {r : Int} (h : R_canEnd x1 mm = some r) : aMet l D cA ad adV z0 mX12_canEnd 1 21 0 0 [.inr (.inr (.inl (some 176))), .inl x1] SH mm ((rI mm) r).1 SH ((rI mm) r).2 := by
  refine aMet_ofG (by decide +kernel) rfl (Nat.le_of_ble_eq_true rfl) h (fun p e s m args below meth c al0 K => ?_)
  unfold R_canEnd
  refine gl (i' := 1) (fun _ _ => aw_aload_n K (dOf ck_mX12_canEnd rfl rfl) rfl) ?_
  refine gl (i' := 2) (fun _ _ => aw_iload_n K (dOf ck_mX12_canEnd rfl rfl) rfl) ?_
  refine g_callVI K [.inl _] rfl (dOf ck_mX12_canEnd rfl rfl) al_OneBreathModel_316 rfl rfl ⟨wd_1489, wd_107⟩ rfl (Nat.le_of_ble_eq_true rfl) ⟨Nat.le_of_ble_eq_true rfl, Nat.le_of_ble_eq_true rfl⟩ (fun b hb => met_R_isEnd  hb) (fun r1 hr1 => ?_)
  refine g_if_eq K (dOf ck_mX12_canEnd rfl rfl) (t := 12) (aJ_of (by decide +kernel)) (fun h2 => ?_) (fun h2 => ?_)
  · refine gl (i' := 13) (fun _ _ => aw_iconst K (n := 0) (i32 _ rfl) (dOf ck_mX12_canEnd rfl rfl)) ?_
    exact g_iret K (by decide +kernel) rfl (Or.inr (Or.inl ⟨rfl, Or.inl rfl⟩)) rfl
  · refine gl (i' := 5) (fun _ _ => aw_aload_n K (dOf ck_mX12_canEnd rfl rfl) rfl) ?_
    refine gl (i' := 6) (fun _ _ => aw_iload_n K (dOf ck_mX12_canEnd rfl rfl) rfl) ?_
    refine gl (i' := 7) (fun _ _ => aw_bip K (dOf ck_mX12_canEnd rfl rfl) (v := 6) rfl) ?_
    refine gl (i' := 8) (fun _ _ => aw_idiv K (by decide) (dOf ck_mX12_canEnd rfl rfl)) ?_
    refine g_callVI K [.inl _] rfl (dOf ck_mX12_canEnd rfl rfl) al_OneBreathModel_253 rfl rfl ⟨wd_1402, wd_89⟩ rfl (Nat.le_of_ble_eq_true rfl) ⟨Nat.le_of_ble_eq_true rfl, Nat.le_of_ble_eq_true rfl⟩ (fun b hb => met_R_mayEnd  hb) (fun r3 hr3 => ?_)
    refine g_if_eq K (dOf ck_mX12_canEnd rfl rfl) (t := 12) (aJ_of (by decide +kernel)) (fun h4 => ?_) (fun h4 => ?_)
    · refine gl (i' := 13) (fun _ _ => aw_iconst K (n := 0) (i32 _ rfl) (dOf ck_mX12_canEnd rfl rfl)) ?_
      exact g_iret K (by decide +kernel) rfl (Or.inr (Or.inl ⟨rfl, Or.inl rfl⟩)) rfl
    · refine gl (i' := 11) (fun _ _ => aw_iconst K (n := 1) (i32 _ rfl) (dOf ck_mX12_canEnd rfl rfl)) ?_
      refine g_goto K (dOf ck_mX12_canEnd rfl rfl).1 (t := 13) (aJ_of (by decide +kernel)) ?_
      exact g_iret K (by decide +kernel) rfl (Or.inr (Or.inl ⟨rfl, Or.inr rfl⟩)) rfl
def R_isGoal (x1 : Int) (mm : aM) : Option Int := if x1 < 78 then (some 0) else ((R_canEnd (w32 (Int.tdiv (w32 (Int.tdiv (w32 (x1 - 78)) 9)) 78)) mm).bind fun r2 => (if r2 = 0 then (some 0) else ((R_canEnd (Int.tmod (w32 (Int.tdiv (w32 (x1 - 78)) 9)) 78) mm).bind fun r4 => (if r4 = 0 then (some 0) else (some 1)))))
set_option maxHeartbeats 4000000 in
theorem met_R_isGoal {l : Launch} {D : va_G} {cA : FieldType → ClassId} {ad adV : Nat → Nat} {z0 : Nat} {x1 : Int} {mm : aM}  {r : Int} (h : R_isGoal x1 mm = some r) : aMet l D cA ad adV z0 mX12_isGoal 2 42 0 0 [.inr (.inr (.inl (some 176))), .inl x1] SH mm ((rI mm) r).1 SH ((rI mm) r).2 := by
  refine aMet_ofG (by decide +kernel) rfl (Nat.le_of_ble_eq_true rfl) h (fun p e s m args below meth c al0 K => ?_)
  unfold R_isGoal
  refine gl (i' := 1) (fun _ _ => aw_iload_n K (dOf ck_mX12_isGoal rfl rfl) rfl) ?_
  refine gl (i' := 2) (fun _ _ => aw_bip K (dOf ck_mX12_isGoal rfl rfl) (v := 78) rfl) ?_
  refine g_icmp_ge K (dOf ck_mX12_isGoal rfl rfl) (t := 5) (aJ_of (by decide +kernel)) (fun h1 => ?_) (fun h1 => ?_)
  · refine gl (i' := 4) (fun _ _ => aw_iconst K (n := 0) (i32 _ rfl) (dOf ck_mX12_isGoal rfl rfl)) ?_
    exact g_iret K (dOf ck_mX12_isGoal rfl rfl).1 rfl (Or.inr (Or.inl ⟨rfl, Or.inl rfl⟩)) rfl
  · refine gl (i' := 6) (fun _ _ => aw_iload_n K (dOf ck_mX12_isGoal rfl rfl) rfl) ?_
    refine gl (i' := 7) (fun _ _ => aw_bip K (dOf ck_mX12_isGoal rfl rfl) (v := 78) rfl) ?_
    refine gl (i' := 8) (fun _ _ => aw_isub K (dOf ck_mX12_isGoal rfl rfl)) ?_
    refine gl (i' := 9) (fun _ _ => aw_bip K (dOf ck_mX12_isGoal rfl rfl) (v := 9) rfl) ?_
    refine gl (i' := 10) (fun _ _ => aw_idiv K (by decide) (dOf ck_mX12_isGoal rfl rfl)) ?_
    refine gl (i' := 11) (fun _ _ => aw_istore_n K (dOf ck_mX12_isGoal rfl rfl) (Nat.le_of_ble_eq_true rfl)) ?_
    refine g_lv (lv' := [(2, .inl _), (0, .inr (.inr (.inl (some _)))), (1, .inl _)]) rfl ?_
    refine gl (i' := 12) (fun _ _ => aw_aload_n K (dOf ck_mX12_isGoal rfl rfl) rfl) ?_
    refine gl (i' := 13) (fun _ _ => aw_iload_n K (dOf ck_mX12_isGoal rfl rfl) rfl) ?_
    refine gl (i' := 14) (fun _ _ => aw_bip K (dOf ck_mX12_isGoal rfl rfl) (v := 78) rfl) ?_
    refine gl (i' := 15) (fun _ _ => aw_idiv K (by decide) (dOf ck_mX12_isGoal rfl rfl)) ?_
    refine g_callVI K [.inl _] rfl (dOf ck_mX12_isGoal rfl rfl) al_OneBreathModel_356 rfl rfl ⟨wd_1516, wd_115⟩ rfl (Nat.le_of_ble_eq_true rfl) ⟨Nat.le_of_ble_eq_true rfl, Nat.le_of_ble_eq_true rfl⟩ (fun b hb => met_R_canEnd  hb) (fun r2 hr2 => ?_)
    refine g_if_eq K (dOf ck_mX12_isGoal rfl rfl) (t := 25) (aJ_of (by decide +kernel)) (fun h3 => ?_) (fun h3 => ?_)
    · refine gl (i' := 26) (fun _ _ => aw_iconst K (n := 0) (i32 _ rfl) (dOf ck_mX12_isGoal rfl rfl)) ?_
      exact g_iret K (by decide +kernel) rfl (Or.inr (Or.inl ⟨rfl, Or.inl rfl⟩)) rfl
    · refine gl (i' := 18) (fun _ _ => aw_aload_n K (dOf ck_mX12_isGoal rfl rfl) rfl) ?_
      refine gl (i' := 19) (fun _ _ => aw_iload_n K (dOf ck_mX12_isGoal rfl rfl) rfl) ?_
      refine gl (i' := 20) (fun _ _ => aw_bip K (dOf ck_mX12_isGoal rfl rfl) (v := 78) rfl) ?_
      refine gl (i' := 21) (fun _ _ => aw_irem K (by decide) (dOf ck_mX12_isGoal rfl rfl)) ?_
      refine g_callVI K [.inl _] rfl (dOf ck_mX12_isGoal rfl rfl) al_OneBreathModel_356 rfl rfl ⟨wd_1516, wd_115⟩ rfl (Nat.le_of_ble_eq_true rfl) ⟨Nat.le_of_ble_eq_true rfl, Nat.le_of_ble_eq_true rfl⟩ (fun b hb => met_R_canEnd  hb) (fun r4 hr4 => ?_)
      refine g_if_eq K (dOf ck_mX12_isGoal rfl rfl) (t := 25) (aJ_of (by decide +kernel)) (fun h5 => ?_) (fun h5 => ?_)
      · refine gl (i' := 26) (fun _ _ => aw_iconst K (n := 0) (i32 _ rfl) (dOf ck_mX12_isGoal rfl rfl)) ?_
        exact g_iret K (by decide +kernel) rfl (Or.inr (Or.inl ⟨rfl, Or.inl rfl⟩)) rfl
      · refine gl (i' := 24) (fun _ _ => aw_iconst K (n := 1) (i32 _ rfl) (dOf ck_mX12_isGoal rfl rfl)) ?_
        refine g_goto K (dOf ck_mX12_isGoal rfl rfl).1 (t := 26) (aJ_of (by decide +kernel)) ?_
        exact g_iret K (by decide +kernel) rfl (Or.inr (Or.inl ⟨rfl, Or.inr rfl⟩)) rfl
