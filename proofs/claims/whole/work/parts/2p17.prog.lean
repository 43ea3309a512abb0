def R_fits_37 (mm : aM) (k14 : Int → Option Int) (x1 : Int) (x2 : Int) (x3 : Int) : Option Int := k14 (w32 (x3 + 1))
set_option maxHeartbeats 4000000 in
theorem lk_R_fits_37 {p : Program} {l : Launch} {e : Env} {s : State} {m : MethodId} {args : Array Value} {below : List Frame} {meth : Method} {c : Code} {D : va_G} {cA : FieldType → ClassId} {ad adV : Nat → Nat} {z0 : Nat} {al0 : List Nat} {mm : aM} (K : aK p s m args meth c mX12_fits D cA ad adV z0) (x1 : Int) (x2 : Int) (x3 : Int) (k14 : Int → Option Int) (hk14 : ∀ (x3 : Int), aG p l e { frames := 1, cells := 0, slots := 0, locals := 22 } s m args below meth c D cA ad z0 mX12_fits al0 (rI mm) (k14 x3) 14 [(0, .inr (.inr (.inl (some 176)))), (1, .inl x1), (2, .inl x2), (3, .inl x3)] [] mm)  : aG p l e { frames := 1, cells := 0, slots := 0, locals := 22 } s m args below meth c D cA ad z0 mX12_fits al0 (rI mm) (R_fits_37 mm k14 x1 x2 x3) 37 [(0, .inr (.inr (.inl (some 176)))), (1, .inl x1), (2, .inl x2), (3, .inl x3)] [] mm := by
  unfold R_fits_37
  refine gl (i' := 38) (fun _ _ => aw_iinc K (dOf ck_mX12_fits rfl rfl) (Nat.le_of_ble_eq_true rfl) rfl) ?_
  refine g_lv (lv' := [(3, .inl _), (0, .inr (.inr (.inl (some _)))), (1, .inl _), (2, .inl _)]) rfl ?_
  refine g_goto K (dOf ck_mX12_fits rfl rfl).1 (t := 14) (aJ_of (by decide +kernel)) ?_
  refine g_sub [1, 2, 3, 0] rfl ?_
  exact hk14 _
def R_fits_14 (mm : aM) (x1 : Int) (x2 : Int) : Nat → Int → Option Int
  | 0, _ => none
  | n + 1, x3 => if x3 < (mm 177 0) then ((R_isLike x1 x3 mm).bind fun r3 => (if r3 = 0 then (R_fits_37 mm (R_fits_14 mm x1 x2 n) x1 x2 x3) else (if (iand (ishr (mm 177 9) x3) 1) = x2 then (some 1) else (R_fits_37 mm (R_fits_14 mm x1 x2 n) x1 x2 x3)))) else (some 2)
set_option maxHeartbeats 4000000 in
theorem lk_R_fits_14 {p : Program} {l : Launch} {e : Env} {s : State} {m : MethodId} {args : Array Value} {below : List Frame} {meth : Method} {c : Code} {D : va_G} {cA : FieldType → ClassId} {ad adV : Nat → Nat} {z0 : Nat} {al0 : List Nat} {mm : aM} (K : aK p s m args meth c mX12_fits D cA ad adV z0) (x1 : Int) (x2 : Int)  : ∀ (n : Nat) (x3 : Int), aG p l e { frames := 1, cells := 0, slots := 0, locals := 22 } s m args below meth c D cA ad z0 mX12_fits al0 (rI mm) (R_fits_14 mm x1 x2 n x3) 14 [(0, .inr (.inr (.inl (some 176)))), (1, .inl x1), (2, .inl x2), (3, .inl x3)] [] mm := by
  intro n
  induction n with
  | zero => intro x3; exact g_none
  | succ n ih =>
    intro x3
    rw [R_fits_14]
    refine gl (i' := 15) (fun _ _ => aw_iload_n K (dOf ck_mX12_fits rfl rfl) rfl) ?_
    refine gl (i' := 16) (fun _ _ => aw_aload_n K (dOf ck_mX12_fits rfl rfl) rfl) ?_
    refine gl (i' := 17) (fun _ _ => aw_getf K (dOf ck_mX12_fits rfl rfl) rfl rfl (Nat.le_of_ble_eq_true rfl) wd_1206 (k := 1) rfl) ?_
    refine gl (i' := 18) (fun _ _ => aw_iconst K (n := 0) (i32 _ rfl) (dOf ck_mX12_fits rfl rfl)) ?_
    refine gl (i' := 19) (fun _ _ => aw_iald K (dOf ck_mX12_fits rfl rfl) rfl (by decide)) ?_
    refine g_icmp_ge K (dOf ck_mX12_fits rfl rfl) (t := 39) (aJ_of (by decide +kernel)) (fun h2 => ?_) (fun h2 => ?_)
    · refine gl (i' := 21) (fun _ _ => aw_aload_n K (dOf ck_mX12_fits rfl rfl) rfl) ?_
      refine gl (i' := 22) (fun _ _ => aw_iload_n K (dOf ck_mX12_fits rfl rfl) rfl) ?_
      refine gl (i' := 23) (fun _ _ => aw_iload_n K (dOf ck_mX12_fits rfl rfl) rfl) ?_
      refine g_callVI K [.inl _, .inl _] rfl (dOf ck_mX12_fits rfl rfl) al_OneBreathModel_241 rfl rfl ⟨wd_1382, wd_85⟩ rfl (Nat.le_of_ble_eq_true rfl) ⟨Nat.le_of_ble_eq_true rfl, Nat.le_of_ble_eq_true rfl⟩ (fun b hb => met_R_isLike  hb) (fun r3 hr3 => ?_)
      refine g_if_eq K (dOf ck_mX12_fits rfl rfl) (t := 37) (aJ_of (by decide +kernel)) (fun h4 => ?_) (fun h4 => ?_)
      · refine g_sub [0, 1, 2, 3] rfl ?_
        exact lk_R_fits_37 K _ _ _ _ ih
      · refine gl (i' := 26) (fun _ _ => aw_aload_n K (dOf ck_mX12_fits rfl rfl) rfl) ?_
        refine gl (i' := 27) (fun _ _ => aw_getf K (dOf ck_mX12_fits rfl rfl) rfl rfl (Nat.le_of_ble_eq_true rfl) wd_1206 (k := 1) rfl) ?_
        refine gl (i' := 28) (fun _ _ => aw_bip K (dOf ck_mX12_fits rfl rfl) (v := 9) rfl) ?_
        refine gl (i' := 29) (fun _ _ => aw_iald K (dOf ck_mX12_fits rfl rfl) rfl (by decide)) ?_
        refine gl (i' := 30) (fun _ _ => aw_iload_n K (dOf ck_mX12_fits rfl rfl) rfl) ?_
        refine gl (i' := 31) (fun _ _ => aw_ishr K (dOf ck_mX12_fits rfl rfl)) ?_
        refine gl (i' := 32) (fun _ _ => aw_iconst K (n := 1) (i32 _ rfl) (dOf ck_mX12_fits rfl rfl)) ?_
        refine gl (i' := 33) (fun _ _ => aw_iand K (dOf ck_mX12_fits rfl rfl)) ?_
        refine gl (i' := 34) (fun _ _ => aw_iload_n K (dOf ck_mX12_fits rfl rfl) rfl) ?_
        refine g_icmp_ne K (dOf ck_mX12_fits rfl rfl) (t := 37) (aJ_of (by decide +kernel)) (fun h5 => ?_) (fun h5 => ?_)
        · refine gl (i' := 36) (fun _ _ => aw_iconst K (n := 1) (i32 _ rfl) (dOf ck_mX12_fits rfl rfl)) ?_
          exact g_iret K (dOf ck_mX12_fits rfl rfl).1 rfl (Or.inl rfl) rfl
        · refine g_sub [0, 1, 2, 3] rfl ?_
          exact lk_R_fits_37 K _ _ _ _ ih
    · refine gl (i' := 40) (fun _ _ => aw_iconst K (n := 2) (i32 _ rfl) (dOf ck_mX12_fits rfl rfl)) ?_
      exact g_iret K (by decide +kernel) rfl (Or.inl rfl) rfl
def R_fits (x1 : Int) (x2 : Int) (mm : aM) : Option Int := if (iand (ishr (mm 177 9) x1) 1) = x2 then (some 0) else (R_fits_14 mm x1 x2 FU 0)
set_option maxHeartbeats 4000000 in
theorem met_R_fits {l : Launch} {D : va_G} {cA : FieldType → ClassId} {ad adV : Nat → Nat} {z0 : Nat} {x1 : Int} {x2 : Int} {mm : aM}  {r : Int} (h : R_fits x1 x2 mm = some r) : aMet l D cA ad adV z0 mX12_fits 1 22 0 0 [.inr (.inr (.inl (some 176))), .inl x1, .inl x2] SH mm ((rI mm) r).1 SH ((rI mm) r).2 := by
  refine aMet_ofG (by decide +kernel) rfl (Nat.le_of_ble_eq_true rfl) h (fun p e s m args below meth c al0 K => ?_)
  unfold R_fits
  refine gl (i' := 1) (fun _ _ => aw_aload_n K (dOf ck_mX12_fits rfl rfl) rfl) ?_
  refine gl (i' := 2) (fun _ _ => aw_getf K (dOf ck_mX12_fits rfl rfl) rfl rfl (Nat.le_of_ble_eq_true rfl) wd_1206 (k := 1) rfl) ?_
  refine gl (i' := 3) (fun _ _ => aw_bip K (dOf ck_mX12_fits rfl rfl) (v := 9) rfl) ?_
  refine gl (i' := 4) (fun _ _ => aw_iald K (dOf ck_mX12_fits rfl rfl) rfl (by decide)) ?_
  refine gl (i' := 5) (fun _ _ => aw_iload_n K (dOf ck_mX12_fits rfl rfl) rfl) ?_
  refine gl (i' := 6) (fun _ _ => aw_ishr K (dOf ck_mX12_fits rfl rfl)) ?_
  refine gl (i' := 7) (fun _ _ => aw_iconst K (n := 1) (i32 _ rfl) (dOf ck_mX12_fits rfl rfl)) ?_
  refine gl (i' := 8) (fun _ _ => aw_iand K (dOf ck_mX12_fits rfl rfl)) ?_
  refine gl (i' := 9) (fun _ _ => aw_iload_n K (dOf ck_mX12_fits rfl rfl) rfl) ?_
  refine g_icmp_ne K (dOf ck_mX12_fits rfl rfl) (t := 12) (aJ_of (by decide +kernel)) (fun h1 => ?_) (fun h1 => ?_)
  · refine gl (i' := 11) (fun _ _ => aw_iconst K (n := 0) (i32 _ rfl) (dOf ck_mX12_fits rfl rfl)) ?_
    exact g_iret K (dOf ck_mX12_fits rfl rfl).1 rfl (Or.inl rfl) rfl
  · refine gl (i' := 13) (fun _ _ => aw_iconst K (n := 0) (i32 _ rfl) (dOf ck_mX12_fits rfl rfl)) ?_
    refine gl (i' := 14) (fun _ _ => aw_istore_n K (dOf ck_mX12_fits rfl rfl) (Nat.le_of_ble_eq_true rfl)) ?_
    refine g_lv (lv' := [(3, .inl _), (0, .inr (.inr (.inl (some _)))), (1, .inl _), (2, .inl _)]) rfl ?_
    refine g_sub [1, 2, 3, 0] rfl ?_
    exact lk_R_fits_14 K _ _ FU _
def R_fittedTo_125 (k11 : Int → aM → Option (Int × aM)) (k16 : Int → aM → Option (Int × aM)) (x1 : Int) (x2 : Int) (x3 : Int) (x4 : Int) (x5 : Int) (x6 : Int) (mm : aM) : Option (Int × aM) := if 0 ≤ (w32 ((w32 (x4 * x3)) + x5)) ∧ (w32 ((w32 (x4 * x3)) + x5)) < 200 then (st1 (aup mm 181 (w32 ((w32 (x4 * x3)) + x5)).toNat x6) fun mm8 => (k16 (w32 (x5 + 1)) mm8)) else none
set_option maxHeartbeats 4000000 in
theorem lk_R_fittedTo_125 {p : Program} {l : Launch} {e : Env} {s : State} {m : MethodId} {args : Array Value} {below : List Frame} {meth : Method} {c : Code} {D : va_G} {cA : FieldType → ClassId} {ad adV : Nat → Nat} {z0 : Nat} {al0 : List Nat} (K : aK p s m args meth c mX12_fittedTo D cA ad adV z0) (x1 : Int) (x2 : Int) (x3 : Int) (x4 : Int) (x5 : Int) (x6 : Int) (k11 : Int → aM → Option (Int × aM)) (hk11 : ∀ (x4 : Int) (mm : aM), aG p l e { frames := 2, cells := 0, slots := 0, locals := 45 } s m args below meth c D cA ad z0 mX12_fittedTo al0 rIM (k11 x4 mm) 11 [(0, .inr (.inr (.inl (some 176)))), (1, .inl x1), (2, .inl x2), (3, .inl x3), (4, .inl x4)] [] mm) (k16 : Int → aM → Option (Int × aM)) (hk16 : ∀ (x5 : Int) (mm : aM), aG p l e { frames := 2, cells := 0, slots := 0, locals := 45 } s m args below meth c D cA ad z0 mX12_fittedTo al0 rIM (k16 x5 mm) 16 [(0, .inr (.inr (.inl (some 176)))), (1, .inl x1), (2, .inl x2), (3, .inl x3), (4, .inl x4), (5, .inl x5)] [] mm)  (mm : aM) : aG p l e { frames := 2, cells := 0, slots := 0, locals := 45 } s m args below meth c D cA ad z0 mX12_fittedTo al0 rIM (R_fittedTo_125 k11 k16 x1 x2 x3 x4 x5 x6 mm) 125 [(0, .inr (.inr (.inl (some 176)))), (1, .inl x1), (2, .inl x2), (3, .inl x3), (4, .inl x4), (5, .inl x5), (6, .inl x6)] [] mm := by
  unfold R_fittedTo_125
  refine gl (i' := 126) (fun _ _ => aw_aload_n K (dOf ck_mX12_fittedTo rfl rfl) rfl) ?_
  refine gl (i' := 127) (fun _ _ => aw_getf K (dOf ck_mX12_fittedTo rfl rfl) rfl rfl (Nat.le_of_ble_eq_true rfl) wd_1220 (k := 15) rfl) ?_
  refine gl (i' := 128) (fun _ _ => aw_iload K (dOf ck_mX12_fittedTo rfl rfl) rfl) ?_
  refine gl (i' := 129) (fun _ _ => aw_iload_n K (dOf ck_mX12_fittedTo rfl rfl) rfl) ?_
  refine gl (i' := 130) (fun _ _ => aw_imul K (dOf ck_mX12_fittedTo rfl rfl)) ?_
  refine gl (i' := 131) (fun _ _ => aw_iload K (dOf ck_mX12_fittedTo rfl rfl) rfl) ?_
  refine gl (i' := 132) (fun _ _ => aw_iadd K (dOf ck_mX12_fittedTo rfl rfl)) ?_
  refine gl (i' := 133) (fun _ _ => aw_iload K (dOf ck_mX12_fittedTo rfl rfl) rfl) ?_
  refine g_gd (fun hb7 => ?_)
  refine g_st1 ?_
  refine gl (i' := 134) (fun _ _ => aw_iast K (dOf ck_mX12_fittedTo rfl rfl) rfl hb7) ?_
  refine gl (i' := 135) (fun _ _ => aw_iinc K (dOf ck_mX12_fittedTo rfl rfl) (Nat.le_of_ble_eq_true rfl) rfl) ?_
  refine g_lv (lv' := [(5, .inl _), (0, .inr (.inr (.inl (some _)))), (1, .inl _), (2, .inl _), (3, .inl _), (4, .inl _), (6, .inl _)]) rfl ?_
  refine g_goto K (dOf ck_mX12_fittedTo rfl rfl).1 (t := 16) (aJ_of (by decide +kernel)) ?_
  refine g_sub [1, 2, 3, 4, 5, 0] rfl ?_
  exact hk16 _ _
def R_fittedTo_124 (k11 : Int → aM → Option (Int × aM)) (k16 : Int → aM → Option (Int × aM)) (x1 : Int) (x2 : Int) (x3 : Int) (x4 : Int) (x5 : Int) (s0 : Int) (mm : aM) : Option (Int × aM) := R_fittedTo_125 k11 k16 x1 x2 x3 x4 x5 s0 mm
set_option maxHeartbeats 4000000 in
theorem lk_R_fittedTo_124 {p : Program} {l : Launch} {e : Env} {s : State} {m : MethodId} {args : Array Value} {below : List Frame} {meth : Method} {c : Code} {D : va_G} {cA : FieldType → ClassId} {ad adV : Nat → Nat} {z0 : Nat} {al0 : List Nat} (K : aK p s m args meth c mX12_fittedTo D cA ad adV z0) (x1 : Int) (x2 : Int) (x3 : Int) (x4 : Int) (x5 : Int) (k11 : Int → aM → Option (Int × aM)) (hk11 : ∀ (x4 : Int) (mm : aM), aG p l e { frames := 2, cells := 0, slots := 0, locals := 45 } s m args below meth c D cA ad z0 mX12_fittedTo al0 rIM (k11 x4 mm) 11 [(0, .inr (.inr (.inl (some 176)))), (1, .inl x1), (2, .inl x2), (3, .inl x3), (4, .inl x4)] [] mm) (k16 : Int → aM → Option (Int × aM)) (hk16 : ∀ (x5 : Int) (mm : aM), aG p l e { frames := 2, cells := 0, slots := 0, locals := 45 } s m args below meth c D cA ad z0 mX12_fittedTo al0 rIM (k16 x5 mm) 16 [(0, .inr (.inr (.inl (some 176)))), (1, .inl x1), (2, .inl x2), (3, .inl x3), (4, .inl x4), (5, .inl x5)] [] mm)  (s0 : Int) (mm : aM) : aG p l e { frames := 2, cells := 0, slots := 0, locals := 45 } s m args below meth c D cA ad z0 mX12_fittedTo al0 rIM (R_fittedTo_124 k11 k16 x1 x2 x3 x4 x5 s0 mm) 124 [(0, .inr (.inr (.inl (some 176)))), (1, .inl x1), (2, .inl x2), (3, .inl x3), (4, .inl x4), (5, .inl x5)] [.inl s0] mm := by
  unfold R_fittedTo_124
  refine gl (i' := 125) (fun _ _ => aw_istore K (dOf ck_mX12_fittedTo rfl rfl) (Nat.le_of_ble_eq_true rfl)) ?_
  refine g_lv (lv' := [(6, .inl _), (0, .inr (.inr (.inl (some _)))), (1, .inl _), (2, .inl _), (3, .inl _), (4, .inl _), (5, .inl _)]) rfl ?_
  refine g_sub [1, 2, 3, 4, 5, 6, 0] rfl ?_
  exact lk_R_fittedTo_125 K _ _ _ _ _ _ _ hk11 _ hk16 _
def R_fittedTo_75 (k11 : Int → aM → Option (Int × aM)) (k16 : Int → aM → Option (Int × aM)) (x1 : Int) (x2 : Int) (x3 : Int) (x4 : Int) (x5 : Int) (s0 : Int) (mm : aM) : Option (Int × aM) := if 0 ≤ (w32 ((w32 ((w32 ((w32 (x4 - 1)) * x3)) + x5)) - 1)) ∧ (w32 ((w32 ((w32 ((w32 (x4 - 1)) * x3)) + x5)) - 1)) < 200 then (if 0 ≤ (w32 (x4 - 1)) ∧ (w32 (x4 - 1)) < 500 then ((R_soundOf 177 (mm 179 (w32 (x4 - 1)).toNat) mm).bind fun r15 => (if 0 ≤ (w32 (148 + x1)) ∧ (w32 (148 + x1)) < 588 then ((R_fits r15 (iand (ishr (mm 177 (w32 (148 + x1)).toNat) (w32 (x5 - 1))) 1) mm).bind fun r17 => (if (w32 ((mm 181 (w32 ((w32 ((w32 ((w32 (x4 - 1)) * x3)) + x5)) - 1)).toNat) + r17)) < (w32 (s0 + 2)) then (R_fittedTo_124 k11 k16 x1 x2 x3 x4 x5 (w32 ((mm 181 (w32 ((w32 ((w32 ((w32 (x4 - 1)) * x3)) + x5)) - 1)).toNat) + r17)) mm) else (R_fittedTo_124 k11 k16 x1 x2 x3 x4 x5 (w32 (s0 + 2)) mm))) else none)) else none) else none
set_option maxHeartbeats 4000000 in
theorem lk_R_fittedTo_75 {p : Program} {l : Launch} {e : Env} {s : State} {m : MethodId} {args : Array Value} {below : List Frame} {meth : Method} {c : Code} {D : va_G} {cA : FieldType → ClassId} {ad adV : Nat → Nat} {z0 : Nat} {al0 : List Nat} (K : aK p s m args meth c mX12_fittedTo D cA ad adV z0) (x1 : Int) (x2 : Int) (x3 : Int) (x4 : Int) (x5 : Int) (k11 : Int → aM → Option (Int × aM)) (hk11 : ∀ (x4 : Int) (mm : aM), aG p l e { frames := 2, cells := 0, slots := 0, locals := 45 } s m args below meth c D cA ad z0 mX12_fittedTo al0 rIM (k11 x4 mm) 11 [(0, .inr (.inr (.inl (some 176)))), (1, .inl x1), (2, .inl x2), (3, .inl x3), (4, .inl x4)] [] mm) (k16 : Int → aM → Option (Int × aM)) (hk16 : ∀ (x5 : Int) (mm : aM), aG p l e { frames := 2, cells := 0, slots := 0, locals := 45 } s m args below meth c D cA ad z0 mX12_fittedTo al0 rIM (k16 x5 mm) 16 [(0, .inr (.inr (.inl (some 176)))), (1, .inl x1), (2, .inl x2), (3, .inl x3), (4, .inl x4), (5, .inl x5)] [] mm)  (s0 : Int) (mm : aM) : aG p l e { frames := 2, cells := 0, slots := 0, locals := 45 } s m args below meth c D cA ad z0 mX12_fittedTo al0 rIM (R_fittedTo_75 k11 k16 x1 x2 x3 x4 x5 s0 mm) 75 [(0, .inr (.inr (.inl (some 176)))), (1, .inl x1), (2, .inl x2), (3, .inl x3), (4, .inl x4), (5, .inl x5)] [.inl s0] mm := by
  unfold R_fittedTo_75
  refine gl (i' := 76) (fun _ _ => aw_istore K (dOf ck_mX12_fittedTo rfl rfl) (Nat.le_of_ble_eq_true rfl)) ?_
  refine g_lv (lv' := [(7, .inl _), (0, .inr (.inr (.inl (some _)))), (1, .inl _), (2, .inl _), (3, .inl _), (4, .inl _), (5, .inl _)]) rfl ?_
  refine gl (i' := 77) (fun _ _ => aw_aload_n K (dOf ck_mX12_fittedTo rfl rfl) rfl) ?_
  refine gl (i' := 78) (fun _ _ => aw_getf K (dOf ck_mX12_fittedTo rfl rfl) rfl rfl (Nat.le_of_ble_eq_true rfl) wd_1220 (k := 15) rfl) ?_
  refine gl (i' := 79) (fun _ _ => aw_iload K (dOf ck_mX12_fittedTo rfl rfl) rfl) ?_
  refine gl (i' := 80) (fun _ _ => aw_iconst K (n := 1) (i32 _ rfl) (dOf ck_mX12_fittedTo rfl rfl)) ?_
  refine gl (i' := 81) (fun _ _ => aw_isub K (dOf ck_mX12_fittedTo rfl rfl)) ?_
  refine gl (i' := 82) (fun _ _ => aw_iload_n K (dOf ck_mX12_fittedTo rfl rfl) rfl) ?_
  refine gl (i' := 83) (fun _ _ => aw_imul K (dOf ck_mX12_fittedTo rfl rfl)) ?_
  refine gl (i' := 84) (fun _ _ => aw_iload K (dOf ck_mX12_fittedTo rfl rfl) rfl) ?_
  refine gl (i' := 85) (fun _ _ => aw_iadd K (dOf ck_mX12_fittedTo rfl rfl)) ?_
  refine gl (i' := 86) (fun _ _ => aw_iconst K (n := 1) (i32 _ rfl) (dOf ck_mX12_fittedTo rfl rfl)) ?_
  refine gl (i' := 87) (fun _ _ => aw_isub K (dOf ck_mX12_fittedTo rfl rfl)) ?_
  refine g_gd (fun hb13 => ?_)
  refine gl (i' := 88) (fun _ _ => aw_iald K (dOf ck_mX12_fittedTo rfl rfl) rfl hb13) ?_
  refine gl (i' := 89) (fun _ _ => aw_aload_n K (dOf ck_mX12_fittedTo rfl rfl) rfl) ?_
  refine gl (i' := 90) (fun _ _ => aw_aload_n K (dOf ck_mX12_fittedTo rfl rfl) rfl) ?_
  refine gl (i' := 91) (fun _ _ => aw_aload_n K (dOf ck_mX12_fittedTo rfl rfl) rfl) ?_
  refine gl (i' := 92) (fun _ _ => aw_getf K (dOf ck_mX12_fittedTo rfl rfl) rfl rfl (Nat.le_of_ble_eq_true rfl) wd_1206 (k := 1) rfl) ?_
  refine gl (i' := 93) (fun _ _ => aw_aload_n K (dOf ck_mX12_fittedTo rfl rfl) rfl) ?_
  refine gl (i' := 94) (fun _ _ => aw_getf K (dOf ck_mX12_fittedTo rfl rfl) rfl rfl (Nat.le_of_ble_eq_true rfl) wd_1208 (k := 3) rfl) ?_
  refine gl (i' := 95) (fun _ _ => aw_iload K (dOf ck_mX12_fittedTo rfl rfl) rfl) ?_
  refine gl (i' := 96) (fun _ _ => aw_iconst K (n := 1) (i32 _ rfl) (dOf ck_mX12_fittedTo rfl rfl)) ?_
  refine gl (i' := 97) (fun _ _ => aw_isub K (dOf ck_mX12_fittedTo rfl rfl)) ?_
  refine g_gd (fun hb14 => ?_)
  refine gl (i' := 98) (fun _ _ => aw_iald K (dOf ck_mX12_fittedTo rfl rfl) rfl hb14) ?_
  refine g_callVI K [.inr (.inr (.inl (some _))), .inl _] rfl (dOf ck_mX12_fittedTo rfl rfl) al_OneBreathModel_180 rfl rfl ⟨wd_1319, wd_76⟩ rfl (Nat.le_of_ble_eq_true rfl) ⟨Nat.le_of_ble_eq_true rfl, Nat.le_of_ble_eq_true rfl⟩ (fun b hb => met_R_soundOf ⟨_, rfl⟩ hb) (fun r15 hr15 => ?_)
  refine gl (i' := 100) (fun _ _ => aw_aload_n K (dOf ck_mX12_fittedTo rfl rfl) rfl) ?_
  refine gl (i' := 101) (fun _ _ => aw_getf K (dOf ck_mX12_fittedTo rfl rfl) rfl rfl (Nat.le_of_ble_eq_true rfl) wd_1206 (k := 1) rfl) ?_
  refine gl (i' := 102) (fun _ _ => aw_sip K (dOf ck_mX12_fittedTo rfl rfl) (v := 148) rfl) ?_
  refine gl (i' := 103) (fun _ _ => aw_iload_n K (dOf ck_mX12_fittedTo rfl rfl) rfl) ?_
  refine gl (i' := 104) (fun _ _ => aw_iadd K (dOf ck_mX12_fittedTo rfl rfl)) ?_
  refine g_gd (fun hb16 => ?_)
  refine gl (i' := 105) (fun _ _ => aw_iald K (dOf ck_mX12_fittedTo rfl rfl) rfl hb16) ?_
  refine gl (i' := 106) (fun _ _ => aw_iload K (dOf ck_mX12_fittedTo rfl rfl) rfl) ?_
  refine gl (i' := 107) (fun _ _ => aw_iconst K (n := 1) (i32 _ rfl) (dOf ck_mX12_fittedTo rfl rfl)) ?_
  refine gl (i' := 108) (fun _ _ => aw_isub K (dOf ck_mX12_fittedTo rfl rfl)) ?_
  refine gl (i' := 109) (fun _ _ => aw_ishr K (dOf ck_mX12_fittedTo rfl rfl)) ?_
  refine gl (i' := 110) (fun _ _ => aw_iconst K (n := 1) (i32 _ rfl) (dOf ck_mX12_fittedTo rfl rfl)) ?_
  refine gl (i' := 111) (fun _ _ => aw_iand K (dOf ck_mX12_fittedTo rfl rfl)) ?_
  refine g_callVI K [.inl _, .inl _] rfl (dOf ck_mX12_fittedTo rfl rfl) al_OneBreathModel_419 rfl rfl ⟨wd_1590, wd_126⟩ rfl (Nat.le_of_ble_eq_true rfl) ⟨Nat.le_of_ble_eq_true rfl, Nat.le_of_ble_eq_true rfl⟩ (fun b hb => met_R_fits  hb) (fun r17 hr17 => ?_)
  refine gl (i' := 113) (fun _ _ => aw_iadd K (dOf ck_mX12_fittedTo rfl rfl)) ?_
  refine gl (i' := 114) (fun _ _ => aw_istore K (dOf ck_mX12_fittedTo rfl rfl) (Nat.le_of_ble_eq_true rfl)) ?_
  refine g_lv (lv' := [(8, .inl _), (7, .inl _), (0, .inr (.inr (.inl (some _)))), (1, .inl _), (2, .inl _), (3, .inl _), (4, .inl _), (5, .inl _)]) rfl ?_
  refine gl (i' := 115) (fun _ _ => aw_iload K (dOf ck_mX12_fittedTo rfl rfl) rfl) ?_
  refine gl (i' := 116) (fun _ _ => aw_iload K (dOf ck_mX12_fittedTo rfl rfl) rfl) ?_
  refine gl (i' := 117) (fun _ _ => aw_iconst K (n := 2) (i32 _ rfl) (dOf ck_mX12_fittedTo rfl rfl)) ?_
  refine gl (i' := 118) (fun _ _ => aw_iadd K (dOf ck_mX12_fittedTo rfl rfl)) ?_
  refine g_icmp_ge K (dOf ck_mX12_fittedTo rfl rfl) (t := 121) (aJ_of (by decide +kernel)) (fun h18 => ?_) (fun h18 => ?_)
  · refine gl (i' := 120) (fun _ _ => aw_iload K (dOf ck_mX12_fittedTo rfl rfl) rfl) ?_
    refine g_goto K (dOf ck_mX12_fittedTo rfl rfl).1 (t := 124) (aJ_of (by decide +kernel)) ?_
    refine g_sub [2, 3, 4, 5, 6, 7] rfl ?_
    exact lk_R_fittedTo_124 K _ _ _ _ _ _ hk11 _ hk16 _ _
  · refine gl (i' := 122) (fun _ _ => aw_iload K (dOf ck_mX12_fittedTo rfl rfl) rfl) ?_
    refine gl (i' := 123) (fun _ _ => aw_iconst K (n := 2) (i32 _ rfl) (dOf ck_mX12_fittedTo rfl rfl)) ?_
    refine gl (i' := 124) (fun _ _ => aw_iadd K (dOf ck_mX12_fittedTo rfl rfl)) ?_
    refine g_sub [2, 3, 4, 5, 6, 7] rfl ?_
    exact lk_R_fittedTo_124 K _ _ _ _ _ _ hk11 _ hk16 _ _
def R_fittedTo_28 (k11 : Int → aM → Option (Int × aM)) (k16 : Int → aM → Option (Int × aM)) (x1 : Int) (x2 : Int) (x3 : Int) (x4 : Int) (x5 : Int) (s0 : Int) (mm : aM) : Option (Int × aM) := if 0 < x4 then (if 0 < x5 then (if 0 ≤ (w32 ((w32 ((w32 (x4 - 1)) * x3)) + x5)) ∧ (w32 ((w32 ((w32 (x4 - 1)) * x3)) + x5)) < 200 then (if 0 ≤ (w32 ((w32 ((w32 (x4 * x3)) + x5)) - 1)) ∧ (w32 ((w32 ((w32 (x4 * x3)) + x5)) - 1)) < 200 then (if (mm 181 (w32 ((w32 ((w32 (x4 - 1)) * x3)) + x5)).toNat) < (mm 181 (w32 ((w32 ((w32 (x4 * x3)) + x5)) - 1)).toNat) then (R_fittedTo_75 k11 k16 x1 x2 x3 x4 x5 (mm 181 (w32 ((w32 ((w32 (x4 - 1)) * x3)) + x5)).toNat) mm) else (R_fittedTo_75 k11 k16 x1 x2 x3 x4 x5 (mm 181 (w32 ((w32 ((w32 (x4 * x3)) + x5)) - 1)).toNat) mm)) else none) else none) else (R_fittedTo_125 k11 k16 x1 x2 x3 x4 x5 s0 mm)) else (R_fittedTo_125 k11 k16 x1 x2 x3 x4 x5 s0 mm)
set_option maxHeartbeats 4000000 in
theorem lk_R_fittedTo_28 {p : Program} {l : Launch} {e : Env} {s : State} {m : MethodId} {args : Array Value} {below : List Frame} {meth : Method} {c : Code} {D : va_G} {cA : FieldType → ClassId} {ad adV : Nat → Nat} {z0 : Nat} {al0 : List Nat} (K : aK p s m args meth c mX12_fittedTo D cA ad adV z0) (x1 : Int) (x2 : Int) (x3 : Int) (x4 : Int) (x5 : Int) (k11 : Int → aM → Option (Int × aM)) (hk11 : ∀ (x4 : Int) (mm : aM), aG p l e { frames := 2, cells := 0, slots := 0, locals := 45 } s m args below meth c D cA ad z0 mX12_fittedTo al0 rIM (k11 x4 mm) 11 [(0, .inr (.inr (.inl (some 176)))), (1, .inl x1), (2, .inl x2), (3, .inl x3), (4, .inl x4)] [] mm) (k16 : Int → aM → Option (Int × aM)) (hk16 : ∀ (x5 : Int) (mm : aM), aG p l e { frames := 2, cells := 0, slots := 0, locals := 45 } s m args below meth c D cA ad z0 mX12_fittedTo al0 rIM (k16 x5 mm) 16 [(0, .inr (.inr (.inl (some 176)))), (1, .inl x1), (2, .inl x2), (3, .inl x3), (4, .inl x4), (5, .inl x5)] [] mm)  (s0 : Int) (mm : aM) : aG p l e { frames := 2, cells := 0, slots := 0, locals := 45 } s m args below meth c D cA ad z0 mX12_fittedTo al0 rIM (R_fittedTo_28 k11 k16 x1 x2 x3 x4 x5 s0 mm) 28 [(0, .inr (.inr (.inl (some 176)))), (1, .inl x1), (2, .inl x2), (3, .inl x3), (4, .inl x4), (5, .inl x5)] [.inl s0] mm := by
  unfold R_fittedTo_28
  refine gl (i' := 29) (fun _ _ => aw_istore K (dOf ck_mX12_fittedTo rfl rfl) (Nat.le_of_ble_eq_true rfl)) ?_
  refine g_lv (lv' := [(6, .inl _), (0, .inr (.inr (.inl (some _)))), (1, .inl _), (2, .inl _), (3, .inl _), (4, .inl _), (5, .inl _)]) rfl ?_
  refine gl (i' := 30) (fun _ _ => aw_iload K (dOf ck_mX12_fittedTo rfl rfl) rfl) ?_
  refine g_if_le K (dOf ck_mX12_fittedTo rfl rfl) (t := 125) (aJ_of (by decide +kernel)) (fun h6 => ?_) (fun h6 => ?_)
  · refine gl (i' := 32) (fun _ _ => aw_iload K (dOf ck_mX12_fittedTo rfl rfl) rfl) ?_
    refine g_if_le K (dOf ck_mX12_fittedTo rfl rfl) (t := 125) (aJ_of (by decide +kernel)) (fun h9 => ?_) (fun h9 => ?_)
    · refine gl (i' := 34) (fun _ _ => aw_aload_n K (dOf ck_mX12_fittedTo rfl rfl) rfl) ?_
      refine gl (i' := 35) (fun _ _ => aw_getf K (dOf ck_mX12_fittedTo rfl rfl) rfl rfl (Nat.le_of_ble_eq_true rfl) wd_1220 (k := 15) rfl) ?_
      refine gl (i' := 36) (fun _ _ => aw_iload K (dOf ck_mX12_fittedTo rfl rfl) rfl) ?_
      refine gl (i' := 37) (fun _ _ => aw_iconst K (n := 1) (i32 _ rfl) (dOf ck_mX12_fittedTo rfl rfl)) ?_
      refine gl (i' := 38) (fun _ _ => aw_isub K (dOf ck_mX12_fittedTo rfl rfl)) ?_
      refine gl (i' := 39) (fun _ _ => aw_iload_n K (dOf ck_mX12_fittedTo rfl rfl) rfl) ?_
      refine gl (i' := 40) (fun _ _ => aw_imul K (dOf ck_mX12_fittedTo rfl rfl)) ?_
      refine gl (i' := 41) (fun _ _ => aw_iload K (dOf ck_mX12_fittedTo rfl rfl) rfl) ?_
      refine gl (i' := 42) (fun _ _ => aw_iadd K (dOf ck_mX12_fittedTo rfl rfl)) ?_
      refine g_gd (fun hb10 => ?_)
      refine gl (i' := 43) (fun _ _ => aw_iald K (dOf ck_mX12_fittedTo rfl rfl) rfl hb10) ?_
      refine gl (i' := 44) (fun _ _ => aw_aload_n K (dOf ck_mX12_fittedTo rfl rfl) rfl) ?_
      refine gl (i' := 45) (fun _ _ => aw_getf K (dOf ck_mX12_fittedTo rfl rfl) rfl rfl (Nat.le_of_ble_eq_true rfl) wd_1220 (k := 15) rfl) ?_
      refine gl (i' := 46) (fun _ _ => aw_iload K (dOf ck_mX12_fittedTo rfl rfl) rfl) ?_
      refine gl (i' := 47) (fun _ _ => aw_iload_n K (dOf ck_mX12_fittedTo rfl rfl) rfl) ?_
      refine gl (i' := 48) (fun _ _ => aw_imul K (dOf ck_mX12_fittedTo rfl rfl)) ?_
      refine gl (i' := 49) (fun _ _ => aw_iload K (dOf ck_mX12_fittedTo rfl rfl) rfl) ?_
      refine gl (i' := 50) (fun _ _ => aw_iadd K (dOf ck_mX12_fittedTo rfl rfl)) ?_
      refine gl (i' := 51) (fun _ _ => aw_iconst K (n := 1) (i32 _ rfl) (dOf ck_mX12_fittedTo rfl rfl)) ?_
      refine gl (i' := 52) (fun _ _ => aw_isub K (dOf ck_mX12_fittedTo rfl rfl)) ?_
      refine g_gd (fun hb11 => ?_)
      refine gl (i' := 53) (fun _ _ => aw_iald K (dOf ck_mX12_fittedTo rfl rfl) rfl hb11) ?_
      refine g_icmp_ge K (dOf ck_mX12_fittedTo rfl rfl) (t := 65) (aJ_of (by decide +kernel)) (fun h12 => ?_) (fun h12 => ?_)
      · refine gl (i' := 55) (fun _ _ => aw_aload_n K (dOf ck_mX12_fittedTo rfl rfl) rfl) ?_
        refine gl (i' := 56) (fun _ _ => aw_getf K (dOf ck_mX12_fittedTo rfl rfl) rfl rfl (Nat.le_of_ble_eq_true rfl) wd_1220 (k := 15) rfl) ?_
        refine gl (i' := 57) (fun _ _ => aw_iload K (dOf ck_mX12_fittedTo rfl rfl) rfl) ?_
        refine gl (i' := 58) (fun _ _ => aw_iconst K (n := 1) (i32 _ rfl) (dOf ck_mX12_fittedTo rfl rfl)) ?_
        refine gl (i' := 59) (fun _ _ => aw_isub K (dOf ck_mX12_fittedTo rfl rfl)) ?_
        refine gl (i' := 60) (fun _ _ => aw_iload_n K (dOf ck_mX12_fittedTo rfl rfl) rfl) ?_
        refine gl (i' := 61) (fun _ _ => aw_imul K (dOf ck_mX12_fittedTo rfl rfl)) ?_
        refine gl (i' := 62) (fun _ _ => aw_iload K (dOf ck_mX12_fittedTo rfl rfl) rfl) ?_
        refine gl (i' := 63) (fun _ _ => aw_iadd K (dOf ck_mX12_fittedTo rfl rfl)) ?_
        refine gl (i' := 64) (fun _ _ => aw_iald K (dOf ck_mX12_fittedTo rfl rfl) rfl hb10) ?_
        refine g_goto K (dOf ck_mX12_fittedTo rfl rfl).1 (t := 75) (aJ_of (by decide +kernel)) ?_
        refine g_sub [1, 2, 3, 4, 5, 6] rfl ?_
        exact lk_R_fittedTo_75 K _ _ _ _ _ _ hk11 _ hk16 _ _
      · refine gl (i' := 66) (fun _ _ => aw_aload_n K (dOf ck_mX12_fittedTo rfl rfl) rfl) ?_
        refine gl (i' := 67) (fun _ _ => aw_getf K (dOf ck_mX12_fittedTo rfl rfl) rfl rfl (Nat.le_of_ble_eq_true rfl) wd_1220 (k := 15) rfl) ?_
        refine gl (i' := 68) (fun _ _ => aw_iload K (dOf ck_mX12_fittedTo rfl rfl) rfl) ?_
        refine gl (i' := 69) (fun _ _ => aw_iload_n K (dOf ck_mX12_fittedTo rfl rfl) rfl) ?_
        refine gl (i' := 70) (fun _ _ => aw_imul K (dOf ck_mX12_fittedTo rfl rfl)) ?_
        refine gl (i' := 71) (fun _ _ => aw_iload K (dOf ck_mX12_fittedTo rfl rfl) rfl) ?_
        refine gl (i' := 72) (fun _ _ => aw_iadd K (dOf ck_mX12_fittedTo rfl rfl)) ?_
        refine gl (i' := 73) (fun _ _ => aw_iconst K (n := 1) (i32 _ rfl) (dOf ck_mX12_fittedTo rfl rfl)) ?_
        refine gl (i' := 74) (fun _ _ => aw_isub K (dOf ck_mX12_fittedTo rfl rfl)) ?_
        refine gl (i' := 75) (fun _ _ => aw_iald K (dOf ck_mX12_fittedTo rfl rfl) rfl hb11) ?_
        refine g_sub [1, 2, 3, 4, 5, 6] rfl ?_
        exact lk_R_fittedTo_75 K _ _ _ _ _ _ hk11 _ hk16 _ _
    · refine g_sub [1, 2, 3, 4, 5, 6, 0] rfl ?_
      exact lk_R_fittedTo_125 K _ _ _ _ _ _ _ hk11 _ hk16 _
  · refine g_sub [1, 2, 3, 4, 5, 6, 0] rfl ?_
    exact lk_R_fittedTo_125 K _ _ _ _ _ _ _ hk11 _ hk16 _
def R_fittedTo_16 (k11 : Int → aM → Option (Int × aM)) (x1 : Int) (x2 : Int) (x3 : Int) (x4 : Int) : Nat → Int → aM → Option (Int × aM)
  | 0, _, _ => none
  | n + 1, x5, mm => if x5 < x3 then (if x4 = 0 then (R_fittedTo_28 k11 (R_fittedTo_16 k11 x1 x2 x3 x4 n) x1 x2 x3 x4 x5 (w32 (2 * x5)) mm) else (R_fittedTo_28 k11 (R_fittedTo_16 k11 x1 x2 x3 x4 n) x1 x2 x3 x4 x5 (w32 (2 * x4)) mm)) else (k11 (w32 (x4 + 1)) mm)
set_option maxHeartbeats 4000000 in
theorem lk_R_fittedTo_16 {p : Program} {l : Launch} {e : Env} {s : State} {m : MethodId} {args : Array Value} {below : List Frame} {meth : Method} {c : Code} {D : va_G} {cA : FieldType → ClassId} {ad adV : Nat → Nat} {z0 : Nat} {al0 : List Nat} (K : aK p s m args meth c mX12_fittedTo D cA ad adV z0) (x1 : Int) (x2 : Int) (x3 : Int) (x4 : Int) (k11 : Int → aM → Option (Int × aM)) (hk11 : ∀ (x4 : Int) (mm : aM), aG p l e { frames := 2, cells := 0, slots := 0, locals := 45 } s m args below meth c D cA ad z0 mX12_fittedTo al0 rIM (k11 x4 mm) 11 [(0, .inr (.inr (.inl (some 176)))), (1, .inl x1), (2, .inl x2), (3, .inl x3), (4, .inl x4)] [] mm)  : ∀ (n : Nat) (x5 : Int) (mm : aM), aG p l e { frames := 2, cells := 0, slots := 0, locals := 45 } s m args below meth c D cA ad z0 mX12_fittedTo al0 rIM (R_fittedTo_16 k11 x1 x2 x3 x4 n x5 mm) 16 [(0, .inr (.inr (.inl (some 176)))), (1, .inl x1), (2, .inl x2), (3, .inl x3), (4, .inl x4), (5, .inl x5)] [] mm := by
  intro n
  induction n with
  | zero => intro x5 mm; exact g_none
  | succ n ih =>
    intro x5 mm
    rw [R_fittedTo_16]
    refine gl (i' := 17) (fun _ _ => aw_iload K (dOf ck_mX12_fittedTo rfl rfl) rfl) ?_
    refine gl (i' := 18) (fun _ _ => aw_iload_n K (dOf ck_mX12_fittedTo rfl rfl) rfl) ?_
    refine g_icmp_ge K (dOf ck_mX12_fittedTo rfl rfl) (t := 136) (aJ_of (by decide +kernel)) (fun h4 => ?_) (fun h4 => ?_)
    · refine gl (i' := 20) (fun _ _ => aw_iload K (dOf ck_mX12_fittedTo rfl rfl) rfl) ?_
      refine g_if_ne K (dOf ck_mX12_fittedTo rfl rfl) (t := 25) (aJ_of (by decide +kernel)) (fun h5 => ?_) (fun h5 => ?_)
      · refine gl (i' := 22) (fun _ _ => aw_iconst K (n := 2) (i32 _ rfl) (dOf ck_mX12_fittedTo rfl rfl)) ?_
        refine gl (i' := 23) (fun _ _ => aw_iload K (dOf ck_mX12_fittedTo rfl rfl) rfl) ?_
        refine gl (i' := 24) (fun _ _ => aw_imul K (dOf ck_mX12_fittedTo rfl rfl)) ?_
        refine g_goto K (dOf ck_mX12_fittedTo rfl rfl).1 (t := 28) (aJ_of (by decide +kernel)) ?_
        refine g_sub [0, 1, 2, 3, 4, 5] rfl ?_
        exact lk_R_fittedTo_28 K _ _ _ _ _ _ hk11 _ ih _ _
      · refine gl (i' := 26) (fun _ _ => aw_iconst K (n := 2) (i32 _ rfl) (dOf ck_mX12_fittedTo rfl rfl)) ?_
        refine gl (i' := 27) (fun _ _ => aw_iload K (dOf ck_mX12_fittedTo rfl rfl) rfl) ?_
        refine gl (i' := 28) (fun _ _ => aw_imul K (dOf ck_mX12_fittedTo rfl rfl)) ?_
        refine g_sub [0, 1, 2, 3, 4, 5] rfl ?_
        exact lk_R_fittedTo_28 K _ _ _ _ _ _ hk11 _ ih _ _
    · refine gl (i' := 137) (fun _ _ => aw_iinc K (dOf ck_mX12_fittedTo rfl rfl) (Nat.le_of_ble_eq_true rfl) rfl) ?_
      refine g_lv (lv' := [(4, .inl _), (0, .inr (.inr (.inl (some _)))), (1, .inl _), (2, .inl _), (3, .inl _), (5, .inl _)]) rfl ?_
      refine g_goto K (dOf ck_mX12_fittedTo rfl rfl).1 (t := 11) (aJ_of (by decide +kernel)) ?_
      refine g_sub [1, 2, 3, 4, 0] rfl ?_
      exact hk11 _ _
def R_fittedTo_11 (x1 : Int) (x2 : Int) (x3 : Int) : Nat → Int → aM → Option (Int × aM)
  | 0, _, _ => none
  | n + 1, x4, mm => if x2 < x4 then (if 0 ≤ (w32 ((w32 ((w32 (x2 * x3)) + x3)) - 1)) ∧ (w32 ((w32 ((w32 (x2 * x3)) + x3)) - 1)) < 200 then (some (mm 181 (w32 ((w32 ((w32 (x2 * x3)) + x3)) - 1)).toNat, mm)) else none) else (R_fittedTo_16 (R_fittedTo_11 x1 x2 x3 n) x1 x2 x3 x4 FU 0 mm)
set_option maxHeartbeats 4000000 in
theorem lk_R_fittedTo_11 {p : Program} {l : Launch} {e : Env} {s : State} {m : MethodId} {args : Array Value} {below : List Frame} {meth : Method} {c : Code} {D : va_G} {cA : FieldType → ClassId} {ad adV : Nat → Nat} {z0 : Nat} {al0 : List Nat} (K : aK p s m args meth c mX12_fittedTo D cA ad adV z0) (x1 : Int) (x2 : Int) (x3 : Int)  : ∀ (n : Nat) (x4 : Int) (mm : aM), aG p l e { frames := 2, cells := 0, slots := 0, locals := 45 } s m args below meth c D cA ad z0 mX12_fittedTo al0 rIM (R_fittedTo_11 x1 x2 x3 n x4 mm) 11 [(0, .inr (.inr (.inl (some 176)))), (1, .inl x1), (2, .inl x2), (3, .inl x3), (4, .inl x4)] [] mm := by
  intro n
  induction n with
  | zero => intro x4 mm; exact g_none
  | succ n ih =>
    intro x4 mm
    rw [R_fittedTo_11]
    refine gl (i' := 12) (fun _ _ => aw_iload K (dOf ck_mX12_fittedTo rfl rfl) rfl) ?_
    refine gl (i' := 13) (fun _ _ => aw_iload_n K (dOf ck_mX12_fittedTo rfl rfl) rfl) ?_
    refine g_icmp_gt K (dOf ck_mX12_fittedTo rfl rfl) (t := 138) (aJ_of (by decide +kernel)) (fun h2 => ?_) (fun h2 => ?_)
    · refine gl (i' := 139) (fun _ _ => aw_aload_n K (dOf ck_mX12_fittedTo rfl rfl) rfl) ?_
      refine gl (i' := 140) (fun _ _ => aw_getf K (dOf ck_mX12_fittedTo rfl rfl) rfl rfl (Nat.le_of_ble_eq_true rfl) wd_1220 (k := 15) rfl) ?_
      refine gl (i' := 141) (fun _ _ => aw_iload_n K (dOf ck_mX12_fittedTo rfl rfl) rfl) ?_
      refine gl (i' := 142) (fun _ _ => aw_iload_n K (dOf ck_mX12_fittedTo rfl rfl) rfl) ?_
      refine gl (i' := 143) (fun _ _ => aw_imul K (dOf ck_mX12_fittedTo rfl rfl)) ?_
      refine gl (i' := 144) (fun _ _ => aw_iload_n K (dOf ck_mX12_fittedTo rfl rfl) rfl) ?_
      refine gl (i' := 145) (fun _ _ => aw_iadd K (dOf ck_mX12_fittedTo rfl rfl)) ?_
      refine gl (i' := 146) (fun _ _ => aw_iconst K (n := 1) (i32 _ rfl) (dOf ck_mX12_fittedTo rfl rfl)) ?_
      refine gl (i' := 147) (fun _ _ => aw_isub K (dOf ck_mX12_fittedTo rfl rfl)) ?_
      refine g_gd (fun hb3 => ?_)
      refine gl (i' := 148) (fun _ _ => aw_iald K (dOf ck_mX12_fittedTo rfl rfl) rfl hb3) ?_
      exact g_iret K (by decide +kernel) rfl (Or.inl rfl) rfl
    · refine gl (i' := 15) (fun _ _ => aw_iconst K (n := 0) (i32 _ rfl) (dOf ck_mX12_fittedTo rfl rfl)) ?_
      refine gl (i' := 16) (fun _ _ => aw_istore K (dOf ck_mX12_fittedTo rfl rfl) (Nat.le_of_ble_eq_true rfl)) ?_
      refine g_lv (lv' := [(5, .inl _), (0, .inr (.inr (.inl (some _)))), (1, .inl _), (2, .inl _), (3, .inl _), (4, .inl _)]) rfl ?_
      refine g_sub [1, 2, 3, 4, 5, 0] rfl ?_
      exact lk_R_fittedTo_16 K _ _ _ _ _ ih FU _ _
def R_fittedTo (x1 : Int) (x2 : Int) (mm : aM) : Option (Int × aM) := if 0 ≤ (w32 (142 + x1)) ∧ (w32 (142 + x1)) < 588 then (R_fittedTo_11 x1 x2 (w32 ((mm 177 (w32 (142 + x1)).toNat) + 1)) FU 0 mm) else none
set_option maxHeartbeats 4000000 in
theorem met_R_fittedTo {l : Launch} {D : va_G} {cA : FieldType → ClassId} {ad adV : Nat → Nat} {z0 : Nat} {x1 : Int} {x2 : Int} {mm : aM}  {r : Int × aM} (h : R_fittedTo x1 x2 mm = some r) : aMet l D cA ad adV z0 mX12_fittedTo 2 45 0 0 [.inr (.inr (.inl (some 176))), .inl x1, .inl x2] SH mm (rIM r).1 SH (rIM r).2 := by
  refine aMet_ofG (by decide +kernel) rfl (Nat.le_of_ble_eq_true rfl) h (fun p e s m args below meth c al0 K => ?_)
  unfold R_fittedTo
  refine gl (i' := 1) (fun _ _ => aw_aload_n K (dOf ck_mX12_fittedTo rfl rfl) rfl) ?_
  refine gl (i' := 2) (fun _ _ => aw_getf K (dOf ck_mX12_fittedTo rfl rfl) rfl rfl (Nat.le_of_ble_eq_true rfl) wd_1206 (k := 1) rfl) ?_
  refine gl (i' := 3) (fun _ _ => aw_sip K (dOf ck_mX12_fittedTo rfl rfl) (v := 142) rfl) ?_
  refine gl (i' := 4) (fun _ _ => aw_iload_n K (dOf ck_mX12_fittedTo rfl rfl) rfl) ?_
  refine gl (i' := 5) (fun _ _ => aw_iadd K (dOf ck_mX12_fittedTo rfl rfl)) ?_
  refine g_gd (fun hb1 => ?_)
  refine gl (i' := 6) (fun _ _ => aw_iald K (dOf ck_mX12_fittedTo rfl rfl) rfl hb1) ?_
  refine gl (i' := 7) (fun _ _ => aw_iconst K (n := 1) (i32 _ rfl) (dOf ck_mX12_fittedTo rfl rfl)) ?_
  refine gl (i' := 8) (fun _ _ => aw_iadd K (dOf ck_mX12_fittedTo rfl rfl)) ?_
  refine gl (i' := 9) (fun _ _ => aw_istore_n K (dOf ck_mX12_fittedTo rfl rfl) (Nat.le_of_ble_eq_true rfl)) ?_
  refine g_lv (lv' := [(3, .inl _), (0, .inr (.inr (.inl (some _)))), (1, .inl _), (2, .inl _)]) rfl ?_
  refine gl (i' := 10) (fun _ _ => aw_iconst K (n := 0) (i32 _ rfl) (dOf ck_mX12_fittedTo rfl rfl)) ?_
  refine gl (i' := 11) (fun _ _ => aw_istore K (dOf ck_mX12_fittedTo rfl rfl) (Nat.le_of_ble_eq_true rfl)) ?_
  refine g_lv (lv' := [(4, .inl _), (3, .inl _), (0, .inr (.inr (.inl (some _)))), (1, .inl _), (2, .inl _)]) rfl ?_
  refine g_sub [2, 3, 4, 1, 0] rfl ?_
  exact lk_R_fittedTo_11 K _ _ _ FU _ _
def R_fitted_69 (x3 : Int) (mm : aM) : Option (Int × aM) := some (x3, mm)
set_option maxHeartbeats 4000000 in
theorem lk_R_fitted_69 {p : Program} {l : Launch} {e : Env} {s : State} {m : MethodId} {args : Array Value} {below : List Frame} {meth : Method} {c : Code} {D : va_G} {cA : FieldType → ClassId} {ad adV : Nat → Nat} {z0 : Nat} {al0 : List Nat} (K : aK p s m args meth c mX12_fitted D cA ad adV z0) (x3 : Int)  (mm : aM) : aG p l e { frames := 3, cells := 0, slots := 0, locals := 73 } s m args below meth c D cA ad z0 mX12_fitted al0 rIM (R_fitted_69 x3 mm) 69 [(3, .inl x3)] [] mm := by
  unfold R_fitted_69
  refine gl (i' := 70) (fun _ _ => aw_iload_n K (dOf ck_mX12_fitted rfl rfl) rfl) ?_
  refine g_goto K (dOf ck_mX12_fitted rfl rfl).1 (t := 72) (aJ_of (by decide +kernel)) ?_
  exact g_iret K (by decide +kernel) rfl (Or.inl rfl) rfl
def R_fitted_61 (k39 : Int → Int → Int → aM → Option (Int × aM)) (x1 : Int) (x2 : Int) (x3 : Int) (x4 : Int) (x5 : Int) (mm : aM) : Option (Int × aM) := k39 x3 x4 (w32 (x5 + 1)) mm
set_option maxHeartbeats 4000000 in
theorem lk_R_fitted_61 {p : Program} {l : Launch} {e : Env} {s : State} {m : MethodId} {args : Array Value} {below : List Frame} {meth : Method} {c : Code} {D : va_G} {cA : FieldType → ClassId} {ad adV : Nat → Nat} {z0 : Nat} {al0 : List Nat} (K : aK p s m args meth c mX12_fitted D cA ad adV z0) (x1 : Int) (x2 : Int) (x3 : Int) (x4 : Int) (x5 : Int) (k39 : Int → Int → Int → aM → Option (Int × aM)) (hk39 : ∀ (x3 : Int) (x4 : Int) (x5 : Int) (mm : aM), aG p l e { frames := 3, cells := 0, slots := 0, locals := 73 } s m args below meth c D cA ad z0 mX12_fitted al0 rIM (k39 x3 x4 x5 mm) 39 [(0, .inr (.inr (.inl (some 176)))), (1, .inl x1), (2, .inl x2), (3, .inl x3), (4, .inl x4), (5, .inl x5)] [] mm)  (mm : aM) : aG p l e { frames := 3, cells := 0, slots := 0, locals := 73 } s m args below meth c D cA ad z0 mX12_fitted al0 rIM (R_fitted_61 k39 x1 x2 x3 x4 x5 mm) 61 [(0, .inr (.inr (.inl (some 176)))), (1, .inl x1), (2, .inl x2), (3, .inl x3), (4, .inl x4), (5, .inl x5)] [] mm := by
  unfold R_fitted_61
  refine gl (i' := 62) (fun _ _ => aw_iinc K (dOf ck_mX12_fitted rfl rfl) (Nat.le_of_ble_eq_true rfl) rfl) ?_
  refine g_lv (lv' := [(5, .inl _), (0, .inr (.inr (.inl (some _)))), (1, .inl _), (2, .inl _), (3, .inl _), (4, .inl _)]) rfl ?_
  refine g_goto K (dOf ck_mX12_fitted rfl rfl).1 (t := 39) (aJ_of (by decide +kernel)) ?_
  refine g_sub [1, 2, 3, 4, 5, 0] rfl ?_
  exact hk39 _ _ _ _
def R_fitted_57 (k39 : Int → Int → Int → aM → Option (Int × aM)) (x1 : Int) (x2 : Int) (x5 : Int) (x6 : Int) (mm : aM) : Option (Int × aM) := R_fitted_61 k39 x1 x2 x5 x6 x5 mm
set_option maxHeartbeats 4000000 in
theorem lk_R_fitted_57 {p : Program} {l : Launch} {e : Env} {s : State} {m : MethodId} {args : Array Value} {below : List Frame} {meth : Method} {c : Code} {D : va_G} {cA : FieldType → ClassId} {ad adV : Nat → Nat} {z0 : Nat} {al0 : List Nat} (K : aK p s m args meth c mX12_fitted D cA ad adV z0) (x1 : Int) (x2 : Int) (x5 : Int) (x6 : Int) (k39 : Int → Int → Int → aM → Option (Int × aM)) (hk39 : ∀ (x3 : Int) (x4 : Int) (x5 : Int) (mm : aM), aG p l e { frames := 3, cells := 0, slots := 0, locals := 73 } s m args below meth c D cA ad z0 mX12_fitted al0 rIM (k39 x3 x4 x5 mm) 39 [(0, .inr (.inr (.inl (some 176)))), (1, .inl x1), (2, .inl x2), (3, .inl x3), (4, .inl x4), (5, .inl x5)] [] mm)  (mm : aM) : aG p l e { frames := 3, cells := 0, slots := 0, locals := 73 } s m args below meth c D cA ad z0 mX12_fitted al0 rIM (R_fitted_57 k39 x1 x2 x5 x6 mm) 57 [(0, .inr (.inr (.inl (some 176)))), (1, .inl x1), (2, .inl x2), (5, .inl x5), (6, .inl x6)] [] mm := by
  unfold R_fitted_57
  refine gl (i' := 58) (fun _ _ => aw_iload K (dOf ck_mX12_fitted rfl rfl) rfl) ?_
  refine gl (i' := 59) (fun _ _ => aw_istore_n K (dOf ck_mX12_fitted rfl rfl) (Nat.le_of_ble_eq_true rfl)) ?_
  refine g_lv (lv' := [(3, .inl _), (0, .inr (.inr (.inl (some _)))), (1, .inl _), (2, .inl _), (5, .inl _), (6, .inl _)]) rfl ?_
  refine gl (i' := 60) (fun _ _ => aw_iload K (dOf ck_mX12_fitted rfl rfl) rfl) ?_
  refine gl (i' := 61) (fun _ _ => aw_istore K (dOf ck_mX12_fitted rfl rfl) (Nat.le_of_ble_eq_true rfl)) ?_
  refine g_lv (lv' := [(4, .inl _), (3, .inl _), (0, .inr (.inr (.inl (some _)))), (1, .inl _), (2, .inl _), (5, .inl _), (6, .inl _)]) rfl ?_
  refine g_sub [2, 3, 4, 1, 0, 5] rfl ?_
  exact lk_R_fitted_61 K _ _ _ _ _ _ hk39 _
def R_fitted_39 (x1 : Int) (x2 : Int) : Nat → Int → Int → Int → aM → Option (Int × aM)
  | 0, _, _, _, _ => none
  | n + 1, x3, x4, x5, mm => if x5 < (mm 177 141) then ((R_fittedTo x5 x1 mm).bind fun r13 => (if x3 = (-1) then (R_fitted_57 (R_fitted_39 x1 x2 n) x1 x2 x5 r13.1 r13.2) else (if r13.1 < x4 then (R_fitted_57 (R_fitted_39 x1 x2 n) x1 x2 x5 r13.1 r13.2) else (R_fitted_61 (R_fitted_39 x1 x2 n) x1 x2 x3 x4 x5 r13.2)))) else (if x3 = (-1) then (R_fitted_69 x3 mm) else (if x2 = 1 then (R_fitted_69 x3 mm) else (some (x4, mm))))
set_option maxHeartbeats 4000000 in
theorem lk_R_fitted_39 {p : Program} {l : Launch} {e : Env} {s : State} {m : MethodId} {args : Array Value} {below : List Frame} {meth : Method} {c : Code} {D : va_G} {cA : FieldType → ClassId} {ad adV : Nat → Nat} {z0 : Nat} {al0 : List Nat} (K : aK p s m args meth c mX12_fitted D cA ad adV z0) (x1 : Int) (x2 : Int)  : ∀ (n : Nat) (x3 : Int) (x4 : Int) (x5 : Int) (mm : aM), aG p l e { frames := 3, cells := 0, slots := 0, locals := 73 } s m args below meth c D cA ad z0 mX12_fitted al0 rIM (R_fitted_39 x1 x2 n x3 x4 x5 mm) 39 [(0, .inr (.inr (.inl (some 176)))), (1, .inl x1), (2, .inl x2), (3, .inl x3), (4, .inl x4), (5, .inl x5)] [] mm := by
  intro n
  induction n with
  | zero => intro x3 x4 x5 mm; exact g_none
  | succ n ih =>
    intro x3 x4 x5 mm
    rw [R_fitted_39]
    refine gl (i' := 40) (fun _ _ => aw_iload K (dOf ck_mX12_fitted rfl rfl) rfl) ?_
    refine gl (i' := 41) (fun _ _ => aw_aload_n K (dOf ck_mX12_fitted rfl rfl) rfl) ?_
    refine gl (i' := 42) (fun _ _ => aw_getf K (dOf ck_mX12_fitted rfl rfl) rfl rfl (Nat.le_of_ble_eq_true rfl) wd_1206 (k := 1) rfl) ?_
    refine gl (i' := 43) (fun _ _ => aw_sip K (dOf ck_mX12_fitted rfl rfl) (v := 141) rfl) ?_
    refine gl (i' := 44) (fun _ _ => aw_iald K (dOf ck_mX12_fitted rfl rfl) rfl (by decide)) ?_
    refine g_icmp_ge K (dOf ck_mX12_fitted rfl rfl) (t := 63) (aJ_of (by decide +kernel)) (fun h10 => ?_) (fun h10 => ?_)
    · refine gl (i' := 46) (fun _ _ => aw_aload_n K (dOf ck_mX12_fitted rfl rfl) rfl) ?_
      refine gl (i' := 47) (fun _ _ => aw_iload K (dOf ck_mX12_fitted rfl rfl) rfl) ?_
      refine gl (i' := 48) (fun _ _ => aw_iload_n K (dOf ck_mX12_fitted rfl rfl) rfl) ?_
      refine g_callVIM K [.inl _, .inl _] rfl (dOf ck_mX12_fitted rfl rfl) al_OneBreathModel_422 rfl rfl ⟨wd_1587, wd_125⟩ rfl (Nat.le_of_ble_eq_true rfl) ⟨Nat.le_of_ble_eq_true rfl, Nat.le_of_ble_eq_true rfl⟩ (fun b hb => met_R_fittedTo  hb) (fun r13 hr13 => ?_)
      refine gl (i' := 50) (fun _ _ => aw_istore K (dOf ck_mX12_fitted rfl rfl) (Nat.le_of_ble_eq_true rfl)) ?_
      refine g_lv (lv' := [(6, .inl _), (0, .inr (.inr (.inl (some _)))), (1, .inl _), (2, .inl _), (3, .inl _), (4, .inl _), (5, .inl _)]) rfl ?_
      refine gl (i' := 51) (fun _ _ => aw_iload_n K (dOf ck_mX12_fitted rfl rfl) rfl) ?_
      refine gl (i' := 52) (fun _ _ => aw_iconst K (n := -1) (i32 _ rfl) (dOf ck_mX12_fitted rfl rfl)) ?_
      refine g_icmp_eq K (dOf ck_mX12_fitted rfl rfl) (t := 57) (aJ_of (by decide +kernel)) (fun h14 => ?_) (fun h14 => ?_)
      · refine g_sub [1, 2, 3, 6, 0] rfl ?_
        exact lk_R_fitted_57 K _ _ _ _ _ ih _
      · refine gl (i' := 54) (fun _ _ => aw_iload K (dOf ck_mX12_fitted rfl rfl) rfl) ?_
        refine gl (i' := 55) (fun _ _ => aw_iload K (dOf ck_mX12_fitted rfl rfl) rfl) ?_
        refine g_icmp_lt K (dOf ck_mX12_fitted rfl rfl) (t := 57) (aJ_of (by decide +kernel)) (fun h15 => ?_) (fun h15 => ?_)
        · refine g_sub [1, 2, 3, 6, 0] rfl ?_
          exact lk_R_fitted_57 K _ _ _ _ _ ih _
        · refine g_goto K (dOf ck_mX12_fitted rfl rfl).1 (t := 61) (aJ_of (by decide +kernel)) ?_
          refine g_sub [1, 2, 3, 4, 5, 6] rfl ?_
          exact lk_R_fitted_61 K _ _ _ _ _ _ ih _
    · refine gl (i' := 64) (fun _ _ => aw_iload_n K (dOf ck_mX12_fitted rfl rfl) rfl) ?_
      refine gl (i' := 65) (fun _ _ => aw_iconst K (n := -1) (i32 _ rfl) (dOf ck_mX12_fitted rfl rfl)) ?_
      refine g_icmp_eq K (dOf ck_mX12_fitted rfl rfl) (t := 69) (aJ_of (by decide +kernel)) (fun h11 => ?_) (fun h11 => ?_)
      · refine g_sub [3] rfl ?_
        exact lk_R_fitted_69 K _ _
      · refine gl (i' := 67) (fun _ _ => aw_iload_n K (dOf ck_mX12_fitted rfl rfl) rfl) ?_
        refine gl (i' := 68) (fun _ _ => aw_iconst K (n := 1) (i32 _ rfl) (dOf ck_mX12_fitted rfl rfl)) ?_
        refine g_icmp_ne K (dOf ck_mX12_fitted rfl rfl) (t := 71) (aJ_of (by decide +kernel)) (fun h12 => ?_) (fun h12 => ?_)
        · refine g_sub [3] rfl ?_
          exact lk_R_fitted_69 K _ _
        · refine gl (i' := 72) (fun _ _ => aw_iload K (dOf ck_mX12_fitted rfl rfl) rfl) ?_
          exact g_iret K (by decide +kernel) rfl (Or.inl rfl) rfl
def R_fitted (x1 : Int) (x2 : Int) (mm : aM) : Option (Int × aM) := st1 (aup mm 176 0 0) fun mm1 => ((R_within x2 0 1 mm1).bind fun r2 => (if r2 = 0 then (some ((-2), mm1)) else ((R_within x1 0 (mm1 176 5) mm1).bind fun r4 => (if r4 = 0 then (some ((-3), mm1)) else (st1 (aup mm1 176 5 0) fun mm6 => (if 12 < x1 then (some ((-9), mm6)) else ((R_areSoundsOnTape x1 mm6).bind fun r8 => (if r8 = 0 then (some ((-9), mm6)) else (R_fitted_39 x1 x2 FU (-1) 0 0 mm6)))))))))
set_option maxHeartbeats 4000000 in
theorem met_R_fitted {l : Launch} {D : va_G} {cA : FieldType → ClassId} {ad adV : Nat → Nat} {z0 : Nat} {x1 : Int} {x2 : Int} {mm : aM}  {r : Int × aM} (h : R_fitted x1 x2 mm = some r) : aMet l D cA ad adV z0 mX12_fitted 3 73 0 0 [.inr (.inr (.inl (some 176))), .inl x1, .inl x2] SH mm (rIM r).1 SH (rIM r).2 := by
  refine aMet_ofG (by decide +kernel) rfl (Nat.le_of_ble_eq_true rfl) h (fun p e s m args below meth c al0 K => ?_)
  unfold R_fitted
  refine gl (i' := 1) (fun _ _ => aw_aload_n K (dOf ck_mX12_fitted rfl rfl) rfl) ?_
  refine gl (i' := 2) (fun _ _ => aw_iconst K (n := 0) (i32 _ rfl) (dOf ck_mX12_fitted rfl rfl)) ?_
  refine g_st1 ?_
  refine gl (i' := 3) (fun _ _ => aw_putf K (dOf ck_mX12_fitted rfl rfl) rfl rfl (Nat.le_of_ble_eq_true rfl) wd_1205 (k := 0) rfl rfl (Or.inl rfl)) ?_
  refine gl (i' := 4) (fun _ _ => aw_iload_n K (dOf ck_mX12_fitted rfl rfl) rfl) ?_
  refine gl (i' := 5) (fun _ _ => aw_i2l K (dOf ck_mX12_fitted rfl rfl)) ?_
  refine gl (i' := 6) (fun _ _ => aw_lcn K (dOf ck_mX12_fitted rfl rfl) (v := 0) rfl) ?_
  refine gl (i' := 7) (fun _ _ => aw_lcn K (dOf ck_mX12_fitted rfl rfl) (v := 1) rfl) ?_
  refine g_callSI K [.inr (.inl _), .inr (.inl _), .inr (.inl _)] rfl (dOf ck_mX12_fitted rfl rfl) al_OneBreathModel_176 wd_1269 rfl (Nat.le_of_ble_eq_true rfl) ⟨Nat.le_of_ble_eq_true rfl, Nat.le_of_ble_eq_true rfl⟩ (fun b hb => met_R_within  hb) (fun r2 hr2 => ?_)
  refine g_if_ne K (dOf ck_mX12_fitted rfl rfl) (t := 11) (aJ_of (by decide +kernel)) (fun h3 => ?_) (fun h3 => ?_)
  · refine gl (i' := 10) (fun _ _ => aw_bip K (dOf ck_mX12_fitted rfl rfl) (v := -2) rfl) ?_
    exact g_iret K (dOf ck_mX12_fitted rfl rfl).1 rfl (Or.inl rfl) rfl
  · refine gl (i' := 12) (fun _ _ => aw_iload_n K (dOf ck_mX12_fitted rfl rfl) rfl) ?_
    refine gl (i' := 13) (fun _ _ => aw_i2l K (dOf ck_mX12_fitted rfl rfl)) ?_
    refine gl (i' := 14) (fun _ _ => aw_lcn K (dOf ck_mX12_fitted rfl rfl) (v := 0) rfl) ?_
    refine gl (i' := 15) (fun _ _ => aw_aload_n K (dOf ck_mX12_fitted rfl rfl) rfl) ?_
    refine gl (i' := 16) (fun _ _ => aw_getf K (dOf ck_mX12_fitted rfl rfl) rfl rfl (Nat.le_of_ble_eq_true rfl) wd_1210 (k := 5) rfl) ?_
    refine gl (i' := 17) (fun _ _ => aw_i2l K (dOf ck_mX12_fitted rfl rfl)) ?_
    refine g_callSI K [.inr (.inl _), .inr (.inl _), .inr (.inl _)] rfl (dOf ck_mX12_fitted rfl rfl) al_OneBreathModel_176 wd_1269 rfl (Nat.le_of_ble_eq_true rfl) ⟨Nat.le_of_ble_eq_true rfl, Nat.le_of_ble_eq_true rfl⟩ (fun b hb => met_R_within  hb) (fun r4 hr4 => ?_)
    refine g_if_ne K (dOf ck_mX12_fitted rfl rfl) (t := 21) (aJ_of (by decide +kernel)) (fun h5 => ?_) (fun h5 => ?_)
    · refine gl (i' := 20) (fun _ _ => aw_bip K (dOf ck_mX12_fitted rfl rfl) (v := -3) rfl) ?_
      exact g_iret K (dOf ck_mX12_fitted rfl rfl).1 rfl (Or.inl rfl) rfl
    · refine gl (i' := 22) (fun _ _ => aw_aload_n K (dOf ck_mX12_fitted rfl rfl) rfl) ?_
      refine gl (i' := 23) (fun _ _ => aw_iconst K (n := 0) (i32 _ rfl) (dOf ck_mX12_fitted rfl rfl)) ?_
      refine g_st1 ?_
      refine gl (i' := 24) (fun _ _ => aw_putf K (dOf ck_mX12_fitted rfl rfl) rfl rfl (Nat.le_of_ble_eq_true rfl) wd_1210 (k := 5) rfl rfl (Or.inl rfl)) ?_
      refine gl (i' := 25) (fun _ _ => aw_iload_n K (dOf ck_mX12_fitted rfl rfl) rfl) ?_
      refine gl (i' := 26) (fun _ _ => aw_bip K (dOf ck_mX12_fitted rfl rfl) (v := 12) rfl) ?_
      refine g_icmp_gt K (dOf ck_mX12_fitted rfl rfl) (t := 31) (aJ_of (by decide +kernel)) (fun h7 => ?_) (fun h7 => ?_)
      · refine gl (i' := 32) (fun _ _ => aw_bip K (dOf ck_mX12_fitted rfl rfl) (v := -9) rfl) ?_
        exact g_iret K (dOf ck_mX12_fitted rfl rfl).1 rfl (Or.inl rfl) rfl
      · refine gl (i' := 28) (fun _ _ => aw_aload_n K (dOf ck_mX12_fitted rfl rfl) rfl) ?_
        refine gl (i' := 29) (fun _ _ => aw_iload_n K (dOf ck_mX12_fitted rfl rfl) rfl) ?_
        refine g_callVI K [.inl _] rfl (dOf ck_mX12_fitted rfl rfl) al_OneBreathModel_268 rfl rfl ⟨wd_1419, wd_92⟩ rfl (Nat.le_of_ble_eq_true rfl) ⟨Nat.le_of_ble_eq_true rfl, Nat.le_of_ble_eq_true rfl⟩ (fun b hb => met_R_areSoundsOnTape  hb) (fun r8 hr8 => ?_)
        refine g_if_ne K (dOf ck_mX12_fitted rfl rfl) (t := 33) (aJ_of (by decide +kernel)) (fun h9 => ?_) (fun h9 => ?_)
        · refine gl (i' := 32) (fun _ _ => aw_bip K (dOf ck_mX12_fitted rfl rfl) (v := -9) rfl) ?_
          exact g_iret K (dOf ck_mX12_fitted rfl rfl).1 rfl (Or.inl rfl) rfl
        · refine gl (i' := 34) (fun _ _ => aw_iconst K (n := -1) (i32 _ rfl) (dOf ck_mX12_fitted rfl rfl)) ?_
          refine gl (i' := 35) (fun _ _ => aw_istore_n K (dOf ck_mX12_fitted rfl rfl) (Nat.le_of_ble_eq_true rfl)) ?_
          refine g_lv (lv' := [(3, .inl _), (0, .inr (.inr (.inl (some _)))), (1, .inl _), (2, .inl _)]) rfl ?_
          refine gl (i' := 36) (fun _ _ => aw_iconst K (n := 0) (i32 _ rfl) (dOf ck_mX12_fitted rfl rfl)) ?_
          refine gl (i' := 37) (fun _ _ => aw_istore K (dOf ck_mX12_fitted rfl rfl) (Nat.le_of_ble_eq_true rfl)) ?_
          refine g_lv (lv' := [(4, .inl _), (3, .inl _), (0, .inr (.inr (.inl (some _)))), (1, .inl _), (2, .inl _)]) rfl ?_
          refine gl (i' := 38) (fun _ _ => aw_iconst K (n := 0) (i32 _ rfl) (dOf ck_mX12_fitted rfl rfl)) ?_
          refine gl (i' := 39) (fun _ _ => aw_istore K (dOf ck_mX12_fitted rfl rfl) (Nat.le_of_ble_eq_true rfl)) ?_
          refine g_lv (lv' := [(5, .inl _), (4, .inl _), (3, .inl _), (0, .inr (.inr (.inl (some _)))), (1, .inl _), (2, .inl _)]) rfl ?_
          refine g_sub [3, 4, 5, 2, 1, 0] rfl ?_
          exact lk_R_fitted_39 K _ _ FU _ _ _ _
def R_talk_7  : Nat → Int → Int → aM → Option (Int × aM)
  | 0, _, _, _ => none
  | n + 1, x1, x2, mm => if x2 < (mm 177 18) then (if 0 ≤ (w32 (32 + x2)) ∧ (w32 (32 + x2)) < 588 then (if 0 ≤ (w32 (19 + x2)) ∧ (w32 (19 + x2)) < 588 then (R_talk_7 n (w32 (x1 + (w32 ((mm 177 (w32 (32 + x2)).toNat) * (mm 177 (w32 (19 + x2)).toNat))))) (w32 (x2 + 1)) mm) else none) else none) else (some (x1, mm))
set_option maxHeartbeats 4000000 in
theorem lk_R_talk_7 {p : Program} {l : Launch} {e : Env} {s : State} {m : MethodId} {args : Array Value} {below : List Frame} {meth : Method} {c : Code} {D : va_G} {cA : FieldType → ClassId} {ad adV : Nat → Nat} {z0 : Nat} {al0 : List Nat} (K : aK p s m args meth c mX12_talk D cA ad adV z0)   : ∀ (n : Nat) (x1 : Int) (x2 : Int) (mm : aM), aG p l e { frames := 0, cells := 0, slots := 0, locals := 0 } s m args below meth c D cA ad z0 mX12_talk al0 rIM (R_talk_7 n x1 x2 mm) 7 [(0, .inr (.inr (.inl (some 176)))), (1, .inl x1), (2, .inl x2)] [] mm := by
  intro n
  induction n with
  | zero => intro x1 x2 mm; exact g_none
  | succ n ih =>
    intro x1 x2 mm
    rw [R_talk_7]
    refine gl (i' := 8) (fun _ _ => aw_iload_n K (dOf ck_mX12_talk rfl rfl) rfl) ?_
    refine gl (i' := 9) (fun _ _ => aw_aload_n K (dOf ck_mX12_talk rfl rfl) rfl) ?_
    refine gl (i' := 10) (fun _ _ => aw_getf K (dOf ck_mX12_talk rfl rfl) rfl rfl (Nat.le_of_ble_eq_true rfl) wd_1206 (k := 1) rfl) ?_
    refine gl (i' := 11) (fun _ _ => aw_bip K (dOf ck_mX12_talk rfl rfl) (v := 18) rfl) ?_
    refine gl (i' := 12) (fun _ _ => aw_iald K (dOf ck_mX12_talk rfl rfl) rfl (by decide)) ?_
    refine g_icmp_ge K (dOf ck_mX12_talk rfl rfl) (t := 31) (aJ_of (by decide +kernel)) (fun h2 => ?_) (fun h2 => ?_)
    · refine gl (i' := 14) (fun _ _ => aw_iload_n K (dOf ck_mX12_talk rfl rfl) rfl) ?_
      refine gl (i' := 15) (fun _ _ => aw_aload_n K (dOf ck_mX12_talk rfl rfl) rfl) ?_
      refine gl (i' := 16) (fun _ _ => aw_getf K (dOf ck_mX12_talk rfl rfl) rfl rfl (Nat.le_of_ble_eq_true rfl) wd_1206 (k := 1) rfl) ?_
      refine gl (i' := 17) (fun _ _ => aw_bip K (dOf ck_mX12_talk rfl rfl) (v := 32) rfl) ?_
      refine gl (i' := 18) (fun _ _ => aw_iload_n K (dOf ck_mX12_talk rfl rfl) rfl) ?_
      refine gl (i' := 19) (fun _ _ => aw_iadd K (dOf ck_mX12_talk rfl rfl)) ?_
      refine g_gd (fun hb3 => ?_)
      refine gl (i' := 20) (fun _ _ => aw_iald K (dOf ck_mX12_talk rfl rfl) rfl hb3) ?_
      refine gl (i' := 21) (fun _ _ => aw_aload_n K (dOf ck_mX12_talk rfl rfl) rfl) ?_
      refine gl (i' := 22) (fun _ _ => aw_getf K (dOf ck_mX12_talk rfl rfl) rfl rfl (Nat.le_of_ble_eq_true rfl) wd_1206 (k := 1) rfl) ?_
      refine gl (i' := 23) (fun _ _ => aw_bip K (dOf ck_mX12_talk rfl rfl) (v := 19) rfl) ?_
      refine gl (i' := 24) (fun _ _ => aw_iload_n K (dOf ck_mX12_talk rfl rfl) rfl) ?_
      refine gl (i' := 25) (fun _ _ => aw_iadd K (dOf ck_mX12_talk rfl rfl)) ?_
      refine g_gd (fun hb4 => ?_)
      refine gl (i' := 26) (fun _ _ => aw_iald K (dOf ck_mX12_talk rfl rfl) rfl hb4) ?_
      refine gl (i' := 27) (fun _ _ => aw_imul K (dOf ck_mX12_talk rfl rfl)) ?_
      refine gl (i' := 28) (fun _ _ => aw_iadd K (dOf ck_mX12_talk rfl rfl)) ?_
      refine gl (i' := 29) (fun _ _ => aw_istore_n K (dOf ck_mX12_talk rfl rfl) (Nat.le_of_ble_eq_true rfl)) ?_
      refine g_lv (lv' := [(1, .inl _), (0, .inr (.inr (.inl (some _)))), (2, .inl _)]) rfl ?_
      refine gl (i' := 30) (fun _ _ => aw_iinc K (dOf ck_mX12_talk rfl rfl) (Nat.le_of_ble_eq_true rfl) rfl) ?_
      refine g_lv (lv' := [(2, .inl _), (1, .inl _), (0, .inr (.inr (.inl (some _))))]) rfl ?_
      refine g_goto K (dOf ck_mX12_talk rfl rfl).1 (t := 7) (aJ_of (by decide +kernel)) ?_
      refine g_sub [2, 1, 0] rfl ?_
      exact ih _ _ _
    · refine gl (i' := 32) (fun _ _ => aw_iload_n K (dOf ck_mX12_talk rfl rfl) rfl) ?_
      exact g_iret K (by decide +kernel) rfl (Or.inl rfl) rfl
def R_talk  (mm : aM) : Option (Int × aM) := st1 (aup mm 176 0 0) fun mm1 => (R_talk_7 FU 0 0 mm1)
set_option maxHeartbeats 4000000 in
theorem met_R_talk {l : Launch} {D : va_G} {cA : FieldType → ClassId} {ad adV : Nat → Nat} {z0 : Nat}  {mm : aM}  {r : Int × aM} (h : R_talk  mm = some r) : aMet l D cA ad adV z0 mX12_talk 0 0 0 0 [.inr (.inr (.inl (some 176)))] SH mm (rIM r).1 SH (rIM r).2 := by
  refine aMet_ofG (by decide +kernel) rfl (Nat.le_of_ble_eq_true rfl) h (fun p e s m args below meth c al0 K => ?_)
  unfold R_talk
  refine gl (i' := 1) (fun _ _ => aw_aload_n K (dOf ck_mX12_talk rfl rfl) rfl) ?_
  refine gl (i' := 2) (fun _ _ => aw_iconst K (n := 0) (i32 _ rfl) (dOf ck_mX12_talk rfl rfl)) ?_
  refine g_st1 ?_
  refine gl (i' := 3) (fun _ _ => aw_putf K (dOf ck_mX12_talk rfl rfl) rfl rfl (Nat.le_of_ble_eq_true rfl) wd_1205 (k := 0) rfl rfl (Or.inl rfl)) ?_
  refine gl (i' := 4) (fun _ _ => aw_iconst K (n := 0) (i32 _ rfl) (dOf ck_mX12_talk rfl rfl)) ?_
  refine gl (i' := 5) (fun _ _ => aw_istore_n K (dOf ck_mX12_talk rfl rfl) (Nat.le_of_ble_eq_true rfl)) ?_
  refine g_lv (lv' := [(1, .inl _), (0, .inr (.inr (.inl (some _))))]) rfl ?_
  refine gl (i' := 6) (fun _ _ => aw_iconst K (n := 0) (i32 _ rfl) (dOf ck_mX12_talk rfl rfl)) ?_
  refine gl (i' := 7) (fun _ _ => aw_istore_n K (dOf ck_mX12_talk rfl rfl) (Nat.le_of_ble_eq_true rfl)) ?_
  refine g_lv (lv' := [(2, .inl _), (1, .inl _), (0, .inr (.inr (.inl (some _))))]) rfl ?_
  refine g_sub [2, 1, 0] rfl ?_
  exact lk_R_talk_7 K FU _ _ _
def R_code_96 (k67 : Int → Int → aM → Option (Int × aM)) (k74 : Int → Int → Int → aM → Option (Int × aM)) (k81 : Int → Int → aM → Option (Int × aM)) (x1 : Int) (x2 : Int) (x4 : Int) (x5 : Int) (x6 : Int) (x8 : Int) (s0 : Int) (mm : aM) : Option (Int × aM) := k81 s0 (w32 (x8 + 1)) mm
set_option maxHeartbeats 4000000 in
theorem lk_R_code_96 {p : Program} {l : Launch} {e : Env} {s : State} {m : MethodId} {args : Array Value} {below : List Frame} {meth : Method} {c : Code} {D : va_G} {cA : FieldType → ClassId} {ad adV : Nat → Nat} {z0 : Nat} {al0 : List Nat} (K : aK p s m args meth c mX12_code D cA ad adV z0) (x1 : Int) (x2 : Int) (x4 : Int) (x5 : Int) (x6 : Int) (x8 : Int) (k67 : Int → Int → aM → Option (Int × aM)) (hk67 : ∀ (x2 : Int) (x4 : Int) (mm : aM), aG p l e { frames := 1, cells := 0, slots := 0, locals := 25 } s m args below meth c D cA ad z0 mX12_code al0 rIM (k67 x2 x4 mm) 67 [(0, .inr (.inr (.inl (some 176)))), (1, .inl x1), (2, .inl x2), (4, .inl x4)] [] mm) (k74 : Int → Int → Int → aM → Option (Int × aM)) (hk74 : ∀ (x2 : Int) (x5 : Int) (x6 : Int) (mm : aM), aG p l e { frames := 1, cells := 0, slots := 0, locals := 25 } s m args below meth c D cA ad z0 mX12_code al0 rIM (k74 x2 x5 x6 mm) 74 [(0, .inr (.inr (.inl (some 176)))), (1, .inl x1), (2, .inl x2), (4, .inl x4), (5, .inl x5), (6, .inl x6)] [] mm) (k81 : Int → Int → aM → Option (Int × aM)) (hk81 : ∀ (x7 : Int) (x8 : Int) (mm : aM), aG p l e { frames := 1, cells := 0, slots := 0, locals := 25 } s m args below meth c D cA ad z0 mX12_code al0 rIM (k81 x7 x8 mm) 81 [(0, .inr (.inr (.inl (some 176)))), (1, .inl x1), (2, .inl x2), (4, .inl x4), (5, .inl x5), (6, .inl x6), (7, .inl x7), (8, .inl x8)] [] mm)  (s0 : Int) (mm : aM) : aG p l e { frames := 1, cells := 0, slots := 0, locals := 25 } s m args below meth c D cA ad z0 mX12_code al0 rIM (R_code_96 k67 k74 k81 x1 x2 x4 x5 x6 x8 s0 mm) 96 [(0, .inr (.inr (.inl (some 176)))), (1, .inl x1), (2, .inl x2), (4, .inl x4), (5, .inl x5), (6, .inl x6), (8, .inl x8)] [.inl s0] mm := by
  unfold R_code_96
  refine gl (i' := 97) (fun _ _ => aw_istore K (dOf ck_mX12_code rfl rfl) (Nat.le_of_ble_eq_true rfl)) ?_
  refine g_lv (lv' := [(7, .inl _), (0, .inr (.inr (.inl (some _)))), (1, .inl _), (2, .inl _), (4, .inl _), (5, .inl _), (6, .inl _), (8, .inl _)]) rfl ?_
  refine gl (i' := 98) (fun _ _ => aw_iinc K (dOf ck_mX12_code rfl rfl) (Nat.le_of_ble_eq_true rfl) rfl) ?_
  refine g_lv (lv' := [(8, .inl _), (7, .inl _), (0, .inr (.inr (.inl (some _)))), (1, .inl _), (2, .inl _), (4, .inl _), (5, .inl _), (6, .inl _)]) rfl ?_
  refine g_goto K (dOf ck_mX12_code rfl rfl).1 (t := 81) (aJ_of (by decide +kernel)) ?_
  refine g_sub [2, 3, 4, 5, 6, 7, 1, 0] rfl ?_
  exact hk81 _ _ _
def R_code_81 (k67 : Int → Int → aM → Option (Int × aM)) (k74 : Int → Int → Int → aM → Option (Int × aM)) (x1 : Int) (x2 : Int) (x4 : Int) (x5 : Int) (x6 : Int) : Nat → Int → Int → aM → Option (Int × aM)
  | 0, _, _, _ => none
  | n + 1, x7, x8, mm => if x8 < x2 then (if 0 ≤ x8 ∧ x8 < 24 then (if 0 ≤ x7 ∧ x7 < 24 then (if (mm 199 x8.toNat) < (mm 199 x7.toNat) then (R_code_96 k67 k74 (R_code_81 k67 k74 x1 x2 x4 x5 x6 n) x1 x2 x4 x5 x6 x8 x8 mm) else (R_code_96 k67 k74 (R_code_81 k67 k74 x1 x2 x4 x5 x6 n) x1 x2 x4 x5 x6 x8 x7 mm)) else none) else none) else (if 0 ≤ x7 ∧ x7 < 24 then (if 0 ≤ (w32 (x2 + (-1))) ∧ (w32 (x2 + (-1))) < 24 then (st1 (aup mm 199 x7.toNat (mm 199 (w32 (x2 + (-1))).toNat)) fun mm15 => (k74 (w32 (x2 + (-1))) (w32 (x5 + (mm 199 x7.toNat))) (w32 (x6 + 1)) mm15)) else none) else none)
set_option maxHeartbeats 4000000 in
theorem lk_R_code_81 {p : Program} {l : Launch} {e : Env} {s : State} {m : MethodId} {args : Array Value} {below : List Frame} {meth : Method} {c : Code} {D : va_G} {cA : FieldType → ClassId} {ad adV : Nat → Nat} {z0 : Nat} {al0 : List Nat} (K : aK p s m args meth c mX12_code D cA ad adV z0) (x1 : Int) (x2 : Int) (x4 : Int) (x5 : Int) (x6 : Int) (k67 : Int → Int → aM → Option (Int × aM)) (hk67 : ∀ (x2 : Int) (x4 : Int) (mm : aM), aG p l e { frames := 1, cells := 0, slots := 0, locals := 25 } s m args below meth c D cA ad z0 mX12_code al0 rIM (k67 x2 x4 mm) 67 [(0, .inr (.inr (.inl (some 176)))), (1, .inl x1), (2, .inl x2), (4, .inl x4)] [] mm) (k74 : Int → Int → Int → aM → Option (Int × aM)) (hk74 : ∀ (x2 : Int) (x5 : Int) (x6 : Int) (mm : aM), aG p l e { frames := 1, cells := 0, slots := 0, locals := 25 } s m args below meth c D cA ad z0 mX12_code al0 rIM (k74 x2 x5 x6 mm) 74 [(0, .inr (.inr (.inl (some 176)))), (1, .inl x1), (2, .inl x2), (4, .inl x4), (5, .inl x5), (6, .inl x6)] [] mm)  : ∀ (n : Nat) (x7 : Int) (x8 : Int) (mm : aM), aG p l e { frames := 1, cells := 0, slots := 0, locals := 25 } s m args below meth c D cA ad z0 mX12_code al0 rIM (R_code_81 k67 k74 x1 x2 x4 x5 x6 n x7 x8 mm) 81 [(0, .inr (.inr (.inl (some 176)))), (1, .inl x1), (2, .inl x2), (4, .inl x4), (5, .inl x5), (6, .inl x6), (7, .inl x7), (8, .inl x8)] [] mm := by
  intro n
  induction n with
  | zero => intro x7 x8 mm; exact g_none
  | succ n ih =>
    intro x7 x8 mm
    rw [R_code_81]
    refine gl (i' := 82) (fun _ _ => aw_iload K (dOf ck_mX12_code rfl rfl) rfl) ?_
    refine gl (i' := 83) (fun _ _ => aw_iload_n K (dOf ck_mX12_code rfl rfl) rfl) ?_
    refine g_icmp_ge K (dOf ck_mX12_code rfl rfl) (t := 99) (aJ_of (by decide +kernel)) (fun h12 => ?_) (fun h12 => ?_)
    · refine gl (i' := 85) (fun _ _ => aw_aload_n K (dOf ck_mX12_code rfl rfl) rfl) ?_
      refine gl (i' := 86) (fun _ _ => aw_getf K (dOf ck_mX12_code rfl rfl) rfl rfl (Nat.le_of_ble_eq_true rfl) wd_1249 (k := 44) rfl) ?_
      refine gl (i' := 87) (fun _ _ => aw_iload K (dOf ck_mX12_code rfl rfl) rfl) ?_
      refine g_gd (fun hb16 => ?_)
      refine gl (i' := 88) (fun _ _ => aw_iald K (dOf ck_mX12_code rfl rfl) rfl hb16) ?_
      refine gl (i' := 89) (fun _ _ => aw_aload_n K (dOf ck_mX12_code rfl rfl) rfl) ?_
      refine gl (i' := 90) (fun _ _ => aw_getf K (dOf ck_mX12_code rfl rfl) rfl rfl (Nat.le_of_ble_eq_true rfl) wd_1249 (k := 44) rfl) ?_
      refine gl (i' := 91) (fun _ _ => aw_iload K (dOf ck_mX12_code rfl rfl) rfl) ?_
      refine g_gd (fun hb17 => ?_)
      refine gl (i' := 92) (fun _ _ => aw_iald K (dOf ck_mX12_code rfl rfl) rfl hb17) ?_
      refine g_icmp_ge K (dOf ck_mX12_code rfl rfl) (t := 95) (aJ_of (by decide +kernel)) (fun h18 => ?_) (fun h18 => ?_)
      · refine gl (i' := 94) (fun _ _ => aw_iload K (dOf ck_mX12_code rfl rfl) rfl) ?_
        refine g_goto K (dOf ck_mX12_code rfl rfl).1 (t := 96) (aJ_of (by decide +kernel)) ?_
        refine g_sub [0, 1, 2, 3, 4, 5, 7] rfl ?_
        exact lk_R_code_96 K _ _ _ _ _ _ _ hk67 _ hk74 _ ih _ _
      · refine gl (i' := 96) (fun _ _ => aw_iload K (dOf ck_mX12_code rfl rfl) rfl) ?_
        refine g_sub [0, 1, 2, 3, 4, 5, 7] rfl ?_
        exact lk_R_code_96 K _ _ _ _ _ _ _ hk67 _ hk74 _ ih _ _
    · refine gl (i' := 100) (fun _ _ => aw_iload K (dOf ck_mX12_code rfl rfl) rfl) ?_
      refine gl (i' := 101) (fun _ _ => aw_aload_n K (dOf ck_mX12_code rfl rfl) rfl) ?_
      refine gl (i' := 102) (fun _ _ => aw_getf K (dOf ck_mX12_code rfl rfl) rfl rfl (Nat.le_of_ble_eq_true rfl) wd_1249 (k := 44) rfl) ?_
      refine gl (i' := 103) (fun _ _ => aw_iload K (dOf ck_mX12_code rfl rfl) rfl) ?_
      refine g_gd (fun hb13 => ?_)
      refine gl (i' := 104) (fun _ _ => aw_iald K (dOf ck_mX12_code rfl rfl) rfl hb13) ?_
      refine gl (i' := 105) (fun _ _ => aw_iadd K (dOf ck_mX12_code rfl rfl)) ?_
      refine gl (i' := 106) (fun _ _ => aw_istore K (dOf ck_mX12_code rfl rfl) (Nat.le_of_ble_eq_true rfl)) ?_
      refine g_lv (lv' := [(5, .inl _), (0, .inr (.inr (.inl (some _)))), (1, .inl _), (2, .inl _), (4, .inl _), (6, .inl _), (7, .inl _), (8, .inl _)]) rfl ?_
      refine gl (i' := 107) (fun _ _ => aw_iinc K (dOf ck_mX12_code rfl rfl) (Nat.le_of_ble_eq_true rfl) rfl) ?_
      refine g_lv (lv' := [(2, .inl _), (5, .inl _), (0, .inr (.inr (.inl (some _)))), (1, .inl _), (4, .inl _), (6, .inl _), (7, .inl _), (8, .inl _)]) rfl ?_
      refine gl (i' := 108) (fun _ _ => aw_aload_n K (dOf ck_mX12_code rfl rfl) rfl) ?_
      refine gl (i' := 109) (fun _ _ => aw_getf K (dOf ck_mX12_code rfl rfl) rfl rfl (Nat.le_of_ble_eq_true rfl) wd_1249 (k := 44) rfl) ?_
      refine gl (i' := 110) (fun _ _ => aw_iload K (dOf ck_mX12_code rfl rfl) rfl) ?_
      refine gl (i' := 111) (fun _ _ => aw_aload_n K (dOf ck_mX12_code rfl rfl) rfl) ?_
      refine gl (i' := 112) (fun _ _ => aw_getf K (dOf ck_mX12_code rfl rfl) rfl rfl (Nat.le_of_ble_eq_true rfl) wd_1249 (k := 44) rfl) ?_
      refine gl (i' := 113) (fun _ _ => aw_iload_n K (dOf ck_mX12_code rfl rfl) rfl) ?_
      refine g_gd (fun hb14 => ?_)
      refine gl (i' := 114) (fun _ _ => aw_iald K (dOf ck_mX12_code rfl rfl) rfl hb14) ?_
      refine g_st1 ?_
      refine gl (i' := 115) (fun _ _ => aw_iast K (dOf ck_mX12_code rfl rfl) rfl hb13) ?_
      refine gl (i' := 116) (fun _ _ => aw_iinc K (dOf ck_mX12_code rfl rfl) (Nat.le_of_ble_eq_true rfl) rfl) ?_
      refine g_lv (lv' := [(6, .inl _), (2, .inl _), (5, .inl _), (0, .inr (.inr (.inl (some _)))), (1, .inl _), (4, .inl _), (7, .inl _), (8, .inl _)]) rfl ?_
      refine g_goto K (dOf ck_mX12_code rfl rfl).1 (t := 74) (aJ_of (by decide +kernel)) ?_
      refine g_sub [3, 4, 1, 5, 2, 0] rfl ?_
      exact hk74 _ _ _ _
def R_code_74 (k67 : Int → Int → aM → Option (Int × aM)) (x1 : Int) (x4 : Int) : Nat → Int → Int → Int → aM → Option (Int × aM)
  | 0, _, _, _, _ => none
  | n + 1, x2, x5, x6, mm => if x6 < x1 then (R_code_81 k67 (R_code_74 k67 x1 x4 n) x1 x2 x4 x5 x6 FU 0 1 mm) else (if 0 ≤ x2 ∧ x2 < 24 then (st1 (aup mm 199 x2.toNat x5) fun mm11 => (k67 (w32 (x2 + 1)) (w32 (x4 + x5)) mm11)) else none)
set_option maxHeartbeats 4000000 in
theorem lk_R_code_74 {p : Program} {l : Launch} {e : Env} {s : State} {m : MethodId} {args : Array Value} {below : List Frame} {meth : Method} {c : Code} {D : va_G} {cA : FieldType → ClassId} {ad adV : Nat → Nat} {z0 : Nat} {al0 : List Nat} (K : aK p s m args meth c mX12_code D cA ad adV z0) (x1 : Int) (x4 : Int) (k67 : Int → Int → aM → Option (Int × aM)) (hk67 : ∀ (x2 : Int) (x4 : Int) (mm : aM), aG p l e { frames := 1, cells := 0, slots := 0, locals := 25 } s m args below meth c D cA ad z0 mX12_code al0 rIM (k67 x2 x4 mm) 67 [(0, .inr (.inr (.inl (some 176)))), (1, .inl x1), (2, .inl x2), (4, .inl x4)] [] mm)  : ∀ (n : Nat) (x2 : Int) (x5 : Int) (x6 : Int) (mm : aM), aG p l e { frames := 1, cells := 0, slots := 0, locals := 25 } s m args below meth c D cA ad z0 mX12_code al0 rIM (R_code_74 k67 x1 x4 n x2 x5 x6 mm) 74 [(0, .inr (.inr (.inl (some 176)))), (1, .inl x1), (2, .inl x2), (4, .inl x4), (5, .inl x5), (6, .inl x6)] [] mm := by
  intro n
  induction n with
  | zero => intro x2 x5 x6 mm; exact g_none
  | succ n ih =>
    intro x2 x5 x6 mm
    rw [R_code_74]
    refine gl (i' := 75) (fun _ _ => aw_iload K (dOf ck_mX12_code rfl rfl) rfl) ?_
    refine gl (i' := 76) (fun _ _ => aw_iload_n K (dOf ck_mX12_code rfl rfl) rfl) ?_
    refine g_icmp_ge K (dOf ck_mX12_code rfl rfl) (t := 117) (aJ_of (by decide +kernel)) (fun h9 => ?_) (fun h9 => ?_)
    · refine gl (i' := 78) (fun _ _ => aw_iconst K (n := 0) (i32 _ rfl) (dOf ck_mX12_code rfl rfl)) ?_
      refine gl (i' := 79) (fun _ _ => aw_istore K (dOf ck_mX12_code rfl rfl) (Nat.le_of_ble_eq_true rfl)) ?_
      refine g_lv (lv' := [(7, .inl _), (0, .inr (.inr (.inl (some _)))), (1, .inl _), (2, .inl _), (4, .inl _), (5, .inl _), (6, .inl _)]) rfl ?_
      refine gl (i' := 80) (fun _ _ => aw_iconst K (n := 1) (i32 _ rfl) (dOf ck_mX12_code rfl rfl)) ?_
      refine gl (i' := 81) (fun _ _ => aw_istore K (dOf ck_mX12_code rfl rfl) (Nat.le_of_ble_eq_true rfl)) ?_
      refine g_lv (lv' := [(8, .inl _), (7, .inl _), (0, .inr (.inr (.inl (some _)))), (1, .inl _), (2, .inl _), (4, .inl _), (5, .inl _), (6, .inl _)]) rfl ?_
      refine g_sub [2, 3, 4, 5, 6, 7, 1, 0] rfl ?_
      exact lk_R_code_81 K _ _ _ _ _ _ hk67 _ ih FU _ _ _
    · refine gl (i' := 118) (fun _ _ => aw_aload_n K (dOf ck_mX12_code rfl rfl) rfl) ?_
      refine gl (i' := 119) (fun _ _ => aw_getf K (dOf ck_mX12_code rfl rfl) rfl rfl (Nat.le_of_ble_eq_true rfl) wd_1249 (k := 44) rfl) ?_
      refine gl (i' := 120) (fun _ _ => aw_iload_n K (dOf ck_mX12_code rfl rfl) rfl) ?_
      refine gl (i' := 121) (fun _ _ => aw_iload K (dOf ck_mX12_code rfl rfl) rfl) ?_
      refine g_gd (fun hb10 => ?_)
      refine g_st1 ?_
      refine gl (i' := 122) (fun _ _ => aw_iast K (dOf ck_mX12_code rfl rfl) rfl hb10) ?_
      refine gl (i' := 123) (fun _ _ => aw_iinc K (dOf ck_mX12_code rfl rfl) (Nat.le_of_ble_eq_true rfl) rfl) ?_
      refine g_lv (lv' := [(2, .inl _), (0, .inr (.inr (.inl (some _)))), (1, .inl _), (4, .inl _), (5, .inl _), (6, .inl _)]) rfl ?_
      refine gl (i' := 124) (fun _ _ => aw_iload K (dOf ck_mX12_code rfl rfl) rfl) ?_
      refine gl (i' := 125) (fun _ _ => aw_iload K (dOf ck_mX12_code rfl rfl) rfl) ?_
      refine gl (i' := 126) (fun _ _ => aw_iadd K (dOf ck_mX12_code rfl rfl)) ?_
      refine gl (i' := 127) (fun _ _ => aw_istore K (dOf ck_mX12_code rfl rfl) (Nat.le_of_ble_eq_true rfl)) ?_
      refine g_lv (lv' := [(4, .inl _), (2, .inl _), (0, .inr (.inr (.inl (some _)))), (1, .inl _), (5, .inl _), (6, .inl _)]) rfl ?_
      refine g_goto K (dOf ck_mX12_code rfl rfl).1 (t := 67) (aJ_of (by decide +kernel)) ?_
      refine g_sub [2, 3, 1, 0] rfl ?_
      exact hk67 _ _ _
def R_code_67 (x1 : Int) : Nat → Int → Int → aM → Option (Int × aM)
  | 0, _, _, _ => none
  | n + 1, x2, x4, mm => if 1 < x2 then (R_code_74 (R_code_67 x1 n) x1 x4 FU x2 0 0 mm) else (some (x4, mm))
set_option maxHeartbeats 4000000 in
theorem lk_R_code_67 {p : Program} {l : Launch} {e : Env} {s : State} {m : MethodId} {args : Array Value} {below : List Frame} {meth : Method} {c : Code} {D : va_G} {cA : FieldType → ClassId} {ad adV : Nat → Nat} {z0 : Nat} {al0 : List Nat} (K : aK p s m args meth c mX12_code D cA ad adV z0) (x1 : Int)  : ∀ (n : Nat) (x2 : Int) (x4 : Int) (mm : aM), aG p l e { frames := 1, cells := 0, slots := 0, locals := 25 } s m args below meth c D cA ad z0 mX12_code al0 rIM (R_code_67 x1 n x2 x4 mm) 67 [(0, .inr (.inr (.inl (some 176)))), (1, .inl x1), (2, .inl x2), (4, .inl x4)] [] mm := by
  intro n
  induction n with
  | zero => intro x2 x4 mm; exact g_none
  | succ n ih =>
    intro x2 x4 mm
    rw [R_code_67]
    refine gl (i' := 68) (fun _ _ => aw_iload_n K (dOf ck_mX12_code rfl rfl) rfl) ?_
    refine gl (i' := 69) (fun _ _ => aw_iconst K (n := 1) (i32 _ rfl) (dOf ck_mX12_code rfl rfl)) ?_
    refine g_icmp_le K (dOf ck_mX12_code rfl rfl) (t := 128) (aJ_of (by decide +kernel)) (fun h8 => ?_) (fun h8 => ?_)
    · refine gl (i' := 71) (fun _ _ => aw_iconst K (n := 0) (i32 _ rfl) (dOf ck_mX12_code rfl rfl)) ?_
      refine gl (i' := 72) (fun _ _ => aw_istore K (dOf ck_mX12_code rfl rfl) (Nat.le_of_ble_eq_true rfl)) ?_
      refine g_lv (lv' := [(5, .inl _), (0, .inr (.inr (.inl (some _)))), (1, .inl _), (2, .inl _), (4, .inl _)]) rfl ?_
      refine gl (i' := 73) (fun _ _ => aw_iconst K (n := 0) (i32 _ rfl) (dOf ck_mX12_code rfl rfl)) ?_
      refine gl (i' := 74) (fun _ _ => aw_istore K (dOf ck_mX12_code rfl rfl) (Nat.le_of_ble_eq_true rfl)) ?_
      refine g_lv (lv' := [(6, .inl _), (5, .inl _), (0, .inr (.inr (.inl (some _)))), (1, .inl _), (2, .inl _), (4, .inl _)]) rfl ?_
      refine g_sub [2, 3, 4, 5, 1, 0] rfl ?_
      exact lk_R_code_74 K _ _ _ ih FU _ _ _ _
    · refine gl (i' := 129) (fun _ _ => aw_iload K (dOf ck_mX12_code rfl rfl) rfl) ?_
      exact g_iret K (by decide +kernel) rfl (Or.inl rfl) rfl
def R_code_48 (x1 : Int) : Nat → Int → aM → Option (Int × aM)
  | 0, _, _ => none
  | n + 1, x3, mm => if (w32 (x1 - 1)) ≠ 0 then (if (Int.tmod (w32 (x3 - 1)) (w32 (x1 - 1))) = 0 then (R_code_67 x1 FU x3 0 mm) else (if 0 ≤ x3 ∧ x3 < 24 then (st1 (aup mm 199 x3.toNat 0) fun mm20 => (R_code_48 x1 n (w32 (x3 + 1)) mm20)) else none)) else none
set_option maxHeartbeats 4000000 in
theorem lk_R_code_48 {p : Program} {l : Launch} {e : Env} {s : State} {m : MethodId} {args : Array Value} {below : List Frame} {meth : Method} {c : Code} {D : va_G} {cA : FieldType → ClassId} {ad adV : Nat → Nat} {z0 : Nat} {al0 : List Nat} (K : aK p s m args meth c mX12_code D cA ad adV z0) (x1 : Int)  : ∀ (n : Nat) (x3 : Int) (mm : aM), aG p l e { frames := 1, cells := 0, slots := 0, locals := 25 } s m args below meth c D cA ad z0 mX12_code al0 rIM (R_code_48 x1 n x3 mm) 48 [(0, .inr (.inr (.inl (some 176)))), (1, .inl x1), (3, .inl x3)] [] mm := by
  intro n
  induction n with
  | zero => intro x3 mm; exact g_none
  | succ n ih =>
    intro x3 mm
    rw [R_code_48]
    refine gl (i' := 49) (fun _ _ => aw_iload_n K (dOf ck_mX12_code rfl rfl) rfl) ?_
    refine gl (i' := 50) (fun _ _ => aw_iconst K (n := 1) (i32 _ rfl) (dOf ck_mX12_code rfl rfl)) ?_
    refine gl (i' := 51) (fun _ _ => aw_isub K (dOf ck_mX12_code rfl rfl)) ?_
    refine gl (i' := 52) (fun _ _ => aw_iload_n K (dOf ck_mX12_code rfl rfl) rfl) ?_
    refine gl (i' := 53) (fun _ _ => aw_iconst K (n := 1) (i32 _ rfl) (dOf ck_mX12_code rfl rfl)) ?_
    refine gl (i' := 54) (fun _ _ => aw_isub K (dOf ck_mX12_code rfl rfl)) ?_
    refine g_gd (fun hb6 => ?_)
    refine gl (i' := 55) (fun _ _ => aw_irem K hb6 (dOf ck_mX12_code rfl rfl)) ?_
    refine g_if_eq K (dOf ck_mX12_code rfl rfl) (t := 63) (aJ_of (by decide +kernel)) (fun h7 => ?_) (fun h7 => ?_)
    · refine gl (i' := 64) (fun _ _ => aw_iconst K (n := 0) (i32 _ rfl) (dOf ck_mX12_code rfl rfl)) ?_
      refine gl (i' := 65) (fun _ _ => aw_istore K (dOf ck_mX12_code rfl rfl) (Nat.le_of_ble_eq_true rfl)) ?_
      refine g_lv (lv' := [(4, .inl _), (0, .inr (.inr (.inl (some _)))), (1, .inl _), (3, .inl _)]) rfl ?_
      refine gl (i' := 66) (fun _ _ => aw_iload_n K (dOf ck_mX12_code rfl rfl) rfl) ?_
      refine gl (i' := 67) (fun _ _ => aw_istore_n K (dOf ck_mX12_code rfl rfl) (Nat.le_of_ble_eq_true rfl)) ?_
      refine g_lv (lv' := [(2, .inl _), (4, .inl _), (0, .inr (.inr (.inl (some _)))), (1, .inl _), (3, .inl _)]) rfl ?_
      refine g_sub [2, 3, 0, 1] rfl ?_
      exact lk_R_code_67 K _ FU _ _ _
    · refine gl (i' := 57) (fun _ _ => aw_aload_n K (dOf ck_mX12_code rfl rfl) rfl) ?_
      refine gl (i' := 58) (fun _ _ => aw_getf K (dOf ck_mX12_code rfl rfl) rfl rfl (Nat.le_of_ble_eq_true rfl) wd_1249 (k := 44) rfl) ?_
      refine gl (i' := 59) (fun _ _ => aw_iload_n K (dOf ck_mX12_code rfl rfl) rfl) ?_
      refine gl (i' := 60) (fun _ _ => aw_iconst K (n := 0) (i32 _ rfl) (dOf ck_mX12_code rfl rfl)) ?_
      refine g_gd (fun hb19 => ?_)
      refine g_st1 ?_
      refine gl (i' := 61) (fun _ _ => aw_iast K (dOf ck_mX12_code rfl rfl) rfl hb19) ?_
      refine gl (i' := 62) (fun _ _ => aw_iinc K (dOf ck_mX12_code rfl rfl) (Nat.le_of_ble_eq_true rfl) rfl) ?_
      refine g_lv (lv' := [(3, .inl _), (0, .inr (.inr (.inl (some _)))), (1, .inl _)]) rfl ?_
      refine g_goto K (dOf ck_mX12_code rfl rfl).1 (t := 48) (aJ_of (by decide +kernel)) ?_
      refine g_sub [1, 2, 0] rfl ?_
      exact ih _ _
def R_code_32 (x1 : Int) (x2 : Int) : Nat → Int → Int → aM → Option (Int × aM)
  | 0, _, _, _ => none
  | n + 1, x3, x4, mm => if x4 < x2 then (if 0 ≤ (w32 (32 + x4)) ∧ (w32 (32 + x4)) < 588 then (if 0 ≤ x3 ∧ x3 < 24 then (st1 (aup mm 199 x3.toNat (mm 177 (w32 (32 + x4)).toNat)) fun mm23 => (R_code_32 x1 x2 n (w32 (x3 + 1)) (w32 (x4 + 1)) mm23)) else none) else none) else (R_code_48 x1 FU x3 mm)
set_option maxHeartbeats 4000000 in
theorem lk_R_code_32 {p : Program} {l : Launch} {e : Env} {s : State} {m : MethodId} {args : Array Value} {below : List Frame} {meth : Method} {c : Code} {D : va_G} {cA : FieldType → ClassId} {ad adV : Nat → Nat} {z0 : Nat} {al0 : List Nat} (K : aK p s m args meth c mX12_code D cA ad adV z0) (x1 : Int) (x2 : Int)  : ∀ (n : Nat) (x3 : Int) (x4 : Int) (mm : aM), aG p l e { frames := 1, cells := 0, slots := 0, locals := 25 } s m args below meth c D cA ad z0 mX12_code al0 rIM (R_code_32 x1 x2 n x3 x4 mm) 32 [(0, .inr (.inr (.inl (some 176)))), (1, .inl x1), (2, .inl x2), (3, .inl x3), (4, .inl x4)] [] mm := by
  intro n
  induction n with
  | zero => intro x3 x4 mm; exact g_none
  | succ n ih =>
    intro x3 x4 mm
    rw [R_code_32]
    refine gl (i' := 33) (fun _ _ => aw_iload K (dOf ck_mX12_code rfl rfl) rfl) ?_
    refine gl (i' := 34) (fun _ _ => aw_iload_n K (dOf ck_mX12_code rfl rfl) rfl) ?_
    refine g_icmp_ge K (dOf ck_mX12_code rfl rfl) (t := 48) (aJ_of (by decide +kernel)) (fun h5 => ?_) (fun h5 => ?_)
    · refine gl (i' := 36) (fun _ _ => aw_aload_n K (dOf ck_mX12_code rfl rfl) rfl) ?_
      refine gl (i' := 37) (fun _ _ => aw_getf K (dOf ck_mX12_code rfl rfl) rfl rfl (Nat.le_of_ble_eq_true rfl) wd_1249 (k := 44) rfl) ?_
      refine gl (i' := 38) (fun _ _ => aw_iload_n K (dOf ck_mX12_code rfl rfl) rfl) ?_
      refine gl (i' := 39) (fun _ _ => aw_aload_n K (dOf ck_mX12_code rfl rfl) rfl) ?_
      refine gl (i' := 40) (fun _ _ => aw_getf K (dOf ck_mX12_code rfl rfl) rfl rfl (Nat.le_of_ble_eq_true rfl) wd_1206 (k := 1) rfl) ?_
      refine gl (i' := 41) (fun _ _ => aw_bip K (dOf ck_mX12_code rfl rfl) (v := 32) rfl) ?_
      refine gl (i' := 42) (fun _ _ => aw_iload K (dOf ck_mX12_code rfl rfl) rfl) ?_
      refine gl (i' := 43) (fun _ _ => aw_iadd K (dOf ck_mX12_code rfl rfl)) ?_
      refine g_gd (fun hb21 => ?_)
      refine gl (i' := 44) (fun _ _ => aw_iald K (dOf ck_mX12_code rfl rfl) rfl hb21) ?_
      refine g_gd (fun hb22 => ?_)
      refine g_st1 ?_
      refine gl (i' := 45) (fun _ _ => aw_iast K (dOf ck_mX12_code rfl rfl) rfl hb22) ?_
      refine gl (i' := 46) (fun _ _ => aw_iinc K (dOf ck_mX12_code rfl rfl) (Nat.le_of_ble_eq_true rfl) rfl) ?_
      refine g_lv (lv' := [(3, .inl _), (0, .inr (.inr (.inl (some _)))), (1, .inl _), (2, .inl _), (4, .inl _)]) rfl ?_
      refine gl (i' := 47) (fun _ _ => aw_iinc K (dOf ck_mX12_code rfl rfl) (Nat.le_of_ble_eq_true rfl) rfl) ?_
      refine g_lv (lv' := [(4, .inl _), (3, .inl _), (0, .inr (.inr (.inl (some _)))), (1, .inl _), (2, .inl _)]) rfl ?_
      refine g_goto K (dOf ck_mX12_code rfl rfl).1 (t := 32) (aJ_of (by decide +kernel)) ?_
      refine g_sub [2, 3, 4, 1, 0] rfl ?_
      exact ih _ _ _
    · refine g_sub [0, 1, 3] rfl ?_
      exact lk_R_code_48 K _ FU _ _
def R_code (x1 : Int) (mm : aM) : Option (Int × aM) := st1 (aup mm 176 0 0) fun mm1 => ((R_within x1 2 8 mm1).bind fun r2 => (if r2 = 0 then (some ((-3), mm1)) else (if (mm1 177 18) < 2 then (if (mm1 177 18) = 0 then (some (0, mm1)) else (some (mm1 177 32, mm1))) else (R_code_32 x1 (mm1 177 18) FU 0 0 mm1))))
set_option maxHeartbeats 4000000 in
theorem met_R_code {l : Launch} {D : va_G} {cA : FieldType → ClassId} {ad adV : Nat → Nat} {z0 : Nat} {x1 : Int} {mm : aM}  {r : Int × aM} (h : R_code x1 mm = some r) : aMet l D cA ad adV z0 mX12_code 1 25 0 0 [.inr (.inr (.inl (some 176))), .inl x1] SH mm (rIM r).1 SH (rIM r).2 := by
  refine aMet_ofG (by decide +kernel) rfl (Nat.le_of_ble_eq_true rfl) h (fun p e s m args below meth c al0 K => ?_)
  unfold R_code
  refine gl (i' := 1) (fun _ _ => aw_aload_n K (dOf ck_mX12_code rfl rfl) rfl) ?_
  refine gl (i' := 2) (fun _ _ => aw_iconst K (n := 0) (i32 _ rfl) (dOf ck_mX12_code rfl rfl)) ?_
  refine g_st1 ?_
  refine gl (i' := 3) (fun _ _ => aw_putf K (dOf ck_mX12_code rfl rfl) rfl rfl (Nat.le_of_ble_eq_true rfl) wd_1205 (k := 0) rfl rfl (Or.inl rfl)) ?_
  refine gl (i' := 4) (fun _ _ => aw_iload_n K (dOf ck_mX12_code rfl rfl) rfl) ?_
  refine gl (i' := 5) (fun _ _ => aw_i2l K (dOf ck_mX12_code rfl rfl)) ?_
  refine gl (i' := 6) (fun _ _ => aw_ldc2 K (dOf ck_mX12_code rfl rfl) (n := 2) wd_1347 (i64 _ rfl)) ?_
  refine gl (i' := 7) (fun _ _ => aw_ldc2 K (dOf ck_mX12_code rfl rfl) (n := 8) wd_1600 (i64 _ rfl)) ?_
  refine g_callSI K [.inr (.inl _), .inr (.inl _), .inr (.inl _)] rfl (dOf ck_mX12_code rfl rfl) al_OneBreathModel_176 wd_1269 rfl (Nat.le_of_ble_eq_true rfl) ⟨Nat.le_of_ble_eq_true rfl, Nat.le_of_ble_eq_true rfl⟩ (fun b hb => met_R_within  hb) (fun r2 hr2 => ?_)
  refine g_if_ne K (dOf ck_mX12_code rfl rfl) (t := 11) (aJ_of (by decide +kernel)) (fun h3 => ?_) (fun h3 => ?_)
  · refine gl (i' := 10) (fun _ _ => aw_bip K (dOf ck_mX12_code rfl rfl) (v := -3) rfl) ?_
    exact g_iret K (dOf ck_mX12_code rfl rfl).1 rfl (Or.inl rfl) rfl
  · refine gl (i' := 12) (fun _ _ => aw_aload_n K (dOf ck_mX12_code rfl rfl) rfl) ?_
    refine gl (i' := 13) (fun _ _ => aw_getf K (dOf ck_mX12_code rfl rfl) rfl rfl (Nat.le_of_ble_eq_true rfl) wd_1206 (k := 1) rfl) ?_
    refine gl (i' := 14) (fun _ _ => aw_bip K (dOf ck_mX12_code rfl rfl) (v := 18) rfl) ?_
    refine gl (i' := 15) (fun _ _ => aw_iald K (dOf ck_mX12_code rfl rfl) rfl (by decide)) ?_
    refine gl (i' := 16) (fun _ _ => aw_istore_n K (dOf ck_mX12_code rfl rfl) (Nat.le_of_ble_eq_true rfl)) ?_
    refine g_lv (lv' := [(2, .inl _), (0, .inr (.inr (.inl (some _)))), (1, .inl _)]) rfl ?_
    refine gl (i' := 17) (fun _ _ => aw_iload_n K (dOf ck_mX12_code rfl rfl) rfl) ?_
    refine gl (i' := 18) (fun _ _ => aw_iconst K (n := 2) (i32 _ rfl) (dOf ck_mX12_code rfl rfl)) ?_
    refine g_icmp_ge K (dOf ck_mX12_code rfl rfl) (t := 28) (aJ_of (by decide +kernel)) (fun h4 => ?_) (fun h4 => ?_)
    · refine gl (i' := 20) (fun _ _ => aw_iload_n K (dOf ck_mX12_code rfl rfl) rfl) ?_
      refine g_if_ne K (dOf ck_mX12_code rfl rfl) (t := 23) (aJ_of (by decide +kernel)) (fun h24 => ?_) (fun h24 => ?_)
      · refine gl (i' := 22) (fun _ _ => aw_iconst K (n := 0) (i32 _ rfl) (dOf ck_mX12_code rfl rfl)) ?_
        refine g_goto K (dOf ck_mX12_code rfl rfl).1 (t := 27) (aJ_of (by decide +kernel)) ?_
        exact g_iret K (dOf ck_mX12_code rfl rfl).1 rfl (Or.inl rfl) rfl
      · refine gl (i' := 24) (fun _ _ => aw_aload_n K (dOf ck_mX12_code rfl rfl) rfl) ?_
        refine gl (i' := 25) (fun _ _ => aw_getf K (dOf ck_mX12_code rfl rfl) rfl rfl (Nat.le_of_ble_eq_true rfl) wd_1206 (k := 1) rfl) ?_
        refine gl (i' := 26) (fun _ _ => aw_bip K (dOf ck_mX12_code rfl rfl) (v := 32) rfl) ?_
        refine gl (i' := 27) (fun _ _ => aw_iald K (dOf ck_mX12_code rfl rfl) rfl (by decide)) ?_
        exact g_iret K (dOf ck_mX12_code rfl rfl).1 rfl (Or.inl rfl) rfl
    · refine gl (i' := 29) (fun _ _ => aw_iconst K (n := 0) (i32 _ rfl) (dOf ck_mX12_code rfl rfl)) ?_
      refine gl (i' := 30) (fun _ _ => aw_istore_n K (dOf ck_mX12_code rfl rfl) (Nat.le_of_ble_eq_true rfl)) ?_
      refine g_lv (lv' := [(3, .inl _), (2, .inl _), (0, .inr (.inr (.inl (some _)))), (1, .inl _)]) rfl ?_
      refine gl (i' := 31) (fun _ _ => aw_iconst K (n := 0) (i32 _ rfl) (dOf ck_mX12_code rfl rfl)) ?_
      refine gl (i' := 32) (fun _ _ => aw_istore K (dOf ck_mX12_code rfl rfl) (Nat.le_of_ble_eq_true rfl)) ?_
      refine g_lv (lv' := [(4, .inl _), (3, .inl _), (2, .inl _), (0, .inr (.inr (.inl (some _)))), (1, .inl _)]) rfl ?_
      refine g_sub [3, 4, 2, 1, 0] rfl ?_
      exact lk_R_code_32 K _ _ FU _ _ _
def R_said_95 (k15 : Int → Int → aM → Option (Int × aM)) (k20 : Int → Int → aM → Option (Int × aM)) (x1 : Int) (x4 : Int) (x5 : Int) (s0 : Int) (s1 : Int) (mm : aM) : Option (Int × aM) := k20 (w64 (s1 + s0)) (w32 (x5 + 1)) mm
set_option maxHeartbeats 4000000 in
theorem lk_R_said_95 {p : Program} {l : Launch} {e : Env} {s : State} {m : MethodId} {args : Array Value} {below : List Frame} {meth : Method} {c : Code} {D : va_G} {cA : FieldType → ClassId} {ad adV : Nat → Nat} {z0 : Nat} {al0 : List Nat} (K : aK p s m args meth c mX12_said D cA ad adV z0) (x1 : Int) (x4 : Int) (x5 : Int) (k15 : Int → Int → aM → Option (Int × aM)) (hk15 : ∀ (x2 : Int) (x4 : Int) (mm : aM), aG p l e { frames := 1, cells := 0, slots := 0, locals := 25 } s m args below meth c D cA ad z0 mX12_said al0 rIM (k15 x2 x4 mm) 15 [(0, .inr (.inr (.inl (some 176)))), (1, .inl x1), (2, .inr (.inl x2)), (4, .inl x4)] [] mm) (k20 : Int → Int → aM → Option (Int × aM)) (hk20 : ∀ (x2 : Int) (x5 : Int) (mm : aM), aG p l e { frames := 1, cells := 0, slots := 0, locals := 25 } s m args below meth c D cA ad z0 mX12_said al0 rIM (k20 x2 x5 mm) 20 [(0, .inr (.inr (.inl (some 176)))), (1, .inl x1), (2, .inr (.inl x2)), (4, .inl x4), (5, .inl x5)] [] mm)  (s0 : Int) (s1 : Int) (mm : aM) : aG p l e { frames := 1, cells := 0, slots := 0, locals := 25 } s m args below meth c D cA ad z0 mX12_said al0 rIM (R_said_95 k15 k20 x1 x4 x5 s0 s1 mm) 95 [(0, .inr (.inr (.inl (some 176)))), (1, .inl x1), (4, .inl x4), (5, .inl x5)] [.inr (.inl s0), .inr (.inl s1)] mm := by
  unfold R_said_95
  refine gl (i' := 96) (fun _ _ => aw_ladd K (dOf ck_mX12_said rfl rfl)) ?_
  refine gl (i' := 97) (fun _ _ => aw_lstore_n K (dOf ck_mX12_said rfl rfl) (Nat.le_of_ble_eq_true rfl)) ?_
  refine g_lv (lv' := [(2, .inr (.inl _)), (0, .inr (.inr (.inl (some _)))), (1, .inl _), (4, .inl _), (5, .inl _)]) rfl ?_
  refine gl (i' := 98) (fun _ _ => aw_iinc K (dOf ck_mX12_said rfl rfl) (Nat.le_of_ble_eq_true rfl) rfl) ?_
  refine g_lv (lv' := [(5, .inl _), (2, .inr (.inl _)), (0, .inr (.inr (.inl (some _)))), (1, .inl _), (4, .inl _)]) rfl ?_
  refine g_goto K (dOf ck_mX12_said rfl rfl).1 (t := 20) (aJ_of (by decide +kernel)) ?_
  refine g_sub [2, 3, 1, 4, 0] rfl ?_
  exact hk20 _ _ _
def R_said_94 (k15 : Int → Int → aM → Option (Int × aM)) (k20 : Int → Int → aM → Option (Int × aM)) (x1 : Int) (x4 : Int) (x5 : Int) (s0 : Int) (mm : aM) : Option (Int × aM) := R_said_95 k15 k20 x1 x4 x5 0 s0 mm
set_option maxHeartbeats 4000000 in
theorem lk_R_said_94 {p : Program} {l : Launch} {e : Env} {s : State} {m : MethodId} {args : Array Value} {below : List Frame} {meth : Method} {c : Code} {D : va_G} {cA : FieldType → ClassId} {ad adV : Nat → Nat} {z0 : Nat} {al0 : List Nat} (K : aK p s m args meth c mX12_said D cA ad adV z0) (x1 : Int) (x4 : Int) (x5 : Int) (k15 : Int → Int → aM → Option (Int × aM)) (hk15 : ∀ (x2 : Int) (x4 : Int) (mm : aM), aG p l e { frames := 1, cells := 0, slots := 0, locals := 25 } s m args below meth c D cA ad z0 mX12_said al0 rIM (k15 x2 x4 mm) 15 [(0, .inr (.inr (.inl (some 176)))), (1, .inl x1), (2, .inr (.inl x2)), (4, .inl x4)] [] mm) (k20 : Int → Int → aM → Option (Int × aM)) (hk20 : ∀ (x2 : Int) (x5 : Int) (mm : aM), aG p l e { frames := 1, cells := 0, slots := 0, locals := 25 } s m args below meth c D cA ad z0 mX12_said al0 rIM (k20 x2 x5 mm) 20 [(0, .inr (.inr (.inl (some 176)))), (1, .inl x1), (2, .inr (.inl x2)), (4, .inl x4), (5, .inl x5)] [] mm)  (s0 : Int) (mm : aM) : aG p l e { frames := 1, cells := 0, slots := 0, locals := 25 } s m args below meth c D cA ad z0 mX12_said al0 rIM (R_said_94 k15 k20 x1 x4 x5 s0 mm) 94 [(0, .inr (.inr (.inl (some 176)))), (1, .inl x1), (4, .inl x4), (5, .inl x5)] [.inr (.inl s0)] mm := by
  unfold R_said_94
  refine gl (i' := 95) (fun _ _ => aw_lcn K (dOf ck_mX12_said rfl rfl) (v := 0) rfl) ?_
  refine g_sub [0, 1, 2, 3] rfl ?_
  exact lk_R_said_95 K _ _ _ _ hk15 _ hk20 _ _ _
def R_said_71 (k15 : Int → Int → aM → Option (Int × aM)) (k20 : Int → Int → aM → Option (Int × aM)) (x1 : Int) (x2 : Int) (x4 : Int) (x5 : Int) (x7 : Int) (mm : aM) : Option (Int × aM) := if 0 ≤ (w32 ((w32 (13 * x4)) + x5)) ∧ (w32 ((w32 (13 * x4)) + x5)) < 793 then (st1 (aup mm 201 (w32 ((w32 (13 * x4)) + x5)).toNat (Int.tmod x7 1000000007)) fun mm10 => (if x4 = x1 then ((R_mayEnd x5 mm10).bind fun r12 => (if r12 = 0 then (R_said_94 k15 k20 x1 x4 x5 x2 mm10) else (R_said_95 k15 k20 x1 x4 x5 (Int.tmod x7 1000000007) x2 mm10))) else (R_said_94 k15 k20 x1 x4 x5 x2 mm10))) else none
set_option maxHeartbeats 4000000 in
theorem lk_R_said_71 {p : Program} {l : Launch} {e : Env} {s : State} {m : MethodId} {args : Array Value} {below : List Frame} {meth : Method} {c : Code} {D : va_G} {cA : FieldType → ClassId} {ad adV : Nat → Nat} {z0 : Nat} {al0 : List Nat} (K : aK p s m args meth c mX12_said D cA ad adV z0) (x1 : Int) (x2 : Int) (x4 : Int) (x5 : Int) (x7 : Int) (k15 : Int → Int → aM → Option (Int × aM)) (hk15 : ∀ (x2 : Int) (x4 : Int) (mm : aM), aG p l e { frames := 1, cells := 0, slots := 0, locals := 25 } s m args below meth c D cA ad z0 mX12_said al0 rIM (k15 x2 x4 mm) 15 [(0, .inr (.inr (.inl (some 176)))), (1, .inl x1), (2, .inr (.inl x2)), (4, .inl x4)] [] mm) (k20 : Int → Int → aM → Option (Int × aM)) (hk20 : ∀ (x2 : Int) (x5 : Int) (mm : aM), aG p l e { frames := 1, cells := 0, slots := 0, locals := 25 } s m args below meth c D cA ad z0 mX12_said al0 rIM (k20 x2 x5 mm) 20 [(0, .inr (.inr (.inl (some 176)))), (1, .inl x1), (2, .inr (.inl x2)), (4, .inl x4), (5, .inl x5)] [] mm)  (mm : aM) : aG p l e { frames := 1, cells := 0, slots := 0, locals := 25 } s m args below meth c D cA ad z0 mX12_said al0 rIM (R_said_71 k15 k20 x1 x2 x4 x5 x7 mm) 71 [(0, .inr (.inr (.inl (some 176)))), (1, .inl x1), (2, .inr (.inl x2)), (4, .inl x4), (5, .inl x5), (7, .inr (.inl x7))] [] mm := by
  unfold R_said_71
  refine gl (i' := 72) (fun _ _ => aw_aload_n K (dOf ck_mX12_said rfl rfl) rfl) ?_
  refine gl (i' := 73) (fun _ _ => aw_getf K (dOf ck_mX12_said rfl rfl) rfl rfl (Nat.le_of_ble_eq_true rfl) wd_1251 (k := 46) rfl) ?_
  refine gl (i' := 74) (fun _ _ => aw_bip K (dOf ck_mX12_said rfl rfl) (v := 13) rfl) ?_
  refine gl (i' := 75) (fun _ _ => aw_iload K (dOf ck_mX12_said rfl rfl) rfl) ?_
  refine gl (i' := 76) (fun _ _ => aw_imul K (dOf ck_mX12_said rfl rfl)) ?_
  refine gl (i' := 77) (fun _ _ => aw_iload K (dOf ck_mX12_said rfl rfl) rfl) ?_
  refine gl (i' := 78) (fun _ _ => aw_iadd K (dOf ck_mX12_said rfl rfl)) ?_
  refine gl (i' := 79) (fun _ _ => aw_lload K (dOf ck_mX12_said rfl rfl) rfl) ?_
  refine gl (i' := 80) (fun _ _ => aw_ldc2 K (dOf ck_mX12_said rfl rfl) (n := 1000000007) wd_1441 (i64 _ rfl)) ?_
  refine gl (i' := 81) (fun _ _ => aw_lrem K (by decide) (dOf ck_mX12_said rfl rfl)) ?_
  refine g_gd (fun hb9 => ?_)
  refine g_st1 ?_
  refine gl (i' := 82) (fun _ _ => aw_last K (dOf ck_mX12_said rfl rfl) rfl hb9) ?_
  refine gl (i' := 83) (fun _ _ => aw_lload_n K (dOf ck_mX12_said rfl rfl) rfl) ?_
  refine gl (i' := 84) (fun _ _ => aw_iload K (dOf ck_mX12_said rfl rfl) rfl) ?_
  refine gl (i' := 85) (fun _ _ => aw_iload_n K (dOf ck_mX12_said rfl rfl) rfl) ?_
  refine g_icmp_ne K (dOf ck_mX12_said rfl rfl) (t := 94) (aJ_of (by decide +kernel)) (fun h11 => ?_) (fun h11 => ?_)
  · refine gl (i' := 87) (fun _ _ => aw_aload_n K (dOf ck_mX12_said rfl rfl) rfl) ?_
    refine gl (i' := 88) (fun _ _ => aw_iload K (dOf ck_mX12_said rfl rfl) rfl) ?_
    refine g_callVI K [.inl _] rfl (dOf ck_mX12_said rfl rfl) al_OneBreathModel_253 rfl rfl ⟨wd_1402, wd_89⟩ rfl (Nat.le_of_ble_eq_true rfl) ⟨Nat.le_of_ble_eq_true rfl, Nat.le_of_ble_eq_true rfl⟩ (fun b hb => met_R_mayEnd  hb) (fun r12 hr12 => ?_)
    refine g_if_eq K (dOf ck_mX12_said rfl rfl) (t := 94) (aJ_of (by decide +kernel)) (fun h13 => ?_) (fun h13 => ?_)
    · refine g_sub [0, 1, 3, 4] rfl ?_
      exact lk_R_said_94 K _ _ _ _ hk15 _ hk20 _ _
    · refine gl (i' := 91) (fun _ _ => aw_lload K (dOf ck_mX12_said rfl rfl) rfl) ?_
      refine gl (i' := 92) (fun _ _ => aw_ldc2 K (dOf ck_mX12_said rfl rfl) (n := 1000000007) wd_1441 (i64 _ rfl)) ?_
      refine gl (i' := 93) (fun _ _ => aw_lrem K (by decide) (dOf ck_mX12_said rfl rfl)) ?_
      refine g_goto K (dOf ck_mX12_said rfl rfl).1 (t := 95) (aJ_of (by decide +kernel)) ?_
      refine g_sub [0, 1, 3, 4] rfl ?_
      exact lk_R_said_95 K _ _ _ _ hk15 _ hk20 _ _ _
  · refine g_sub [0, 1, 3, 4] rfl ?_
    exact lk_R_said_94 K _ _ _ _ hk15 _ hk20 _ _
def R_said_67 (k15 : Int → Int → aM → Option (Int × aM)) (k20 : Int → Int → aM → Option (Int × aM)) (k43 : Int → Int → aM → Option (Int × aM)) (x1 : Int) (x2 : Int) (x4 : Int) (x5 : Int) (x6 : Int) (x9 : Int) (s0 : Int) (s1 : Int) (mm : aM) : Option (Int × aM) := k43 (w64 (s1 + s0)) (w32 (x9 + 1)) mm
set_option maxHeartbeats 4000000 in
theorem lk_R_said_67 {p : Program} {l : Launch} {e : Env} {s : State} {m : MethodId} {args : Array Value} {below : List Frame} {meth : Method} {c : Code} {D : va_G} {cA : FieldType → ClassId} {ad adV : Nat → Nat} {z0 : Nat} {al0 : List Nat} (K : aK p s m args meth c mX12_said D cA ad adV z0) (x1 : Int) (x2 : Int) (x4 : Int) (x5 : Int) (x6 : Int) (x9 : Int) (k15 : Int → Int → aM → Option (Int × aM)) (hk15 : ∀ (x2 : Int) (x4 : Int) (mm : aM), aG p l e { frames := 1, cells := 0, slots := 0, locals := 25 } s m args below meth c D cA ad z0 mX12_said al0 rIM (k15 x2 x4 mm) 15 [(0, .inr (.inr (.inl (some 176)))), (1, .inl x1), (2, .inr (.inl x2)), (4, .inl x4)] [] mm) (k20 : Int → Int → aM → Option (Int × aM)) (hk20 : ∀ (x2 : Int) (x5 : Int) (mm : aM), aG p l e { frames := 1, cells := 0, slots := 0, locals := 25 } s m args below meth c D cA ad z0 mX12_said al0 rIM (k20 x2 x5 mm) 20 [(0, .inr (.inr (.inl (some 176)))), (1, .inl x1), (2, .inr (.inl x2)), (4, .inl x4), (5, .inl x5)] [] mm) (k43 : Int → Int → aM → Option (Int × aM)) (hk43 : ∀ (x7 : Int) (x9 : Int) (mm : aM), aG p l e { frames := 1, cells := 0, slots := 0, locals := 25 } s m args below meth c D cA ad z0 mX12_said al0 rIM (k43 x7 x9 mm) 43 [(0, .inr (.inr (.inl (some 176)))), (1, .inl x1), (2, .inr (.inl x2)), (4, .inl x4), (5, .inl x5), (6, .inl x6), (7, .inr (.inl x7)), (9, .inl x9)] [] mm)  (s0 : Int) (s1 : Int) (mm : aM) : aG p l e { frames := 1, cells := 0, slots := 0, locals := 25 } s m args below meth c D cA ad z0 mX12_said al0 rIM (R_said_67 k15 k20 k43 x1 x2 x4 x5 x6 x9 s0 s1 mm) 67 [(0, .inr (.inr (.inl (some 176)))), (1, .inl x1), (2, .inr (.inl x2)), (4, .inl x4), (5, .inl x5), (6, .inl x6), (9, .inl x9)] [.inr (.inl s0), .inr (.inl s1)] mm := by
  unfold R_said_67
  refine gl (i' := 68) (fun _ _ => aw_ladd K (dOf ck_mX12_said rfl rfl)) ?_
  refine gl (i' := 69) (fun _ _ => aw_lstore K (dOf ck_mX12_said rfl rfl) (Nat.le_of_ble_eq_true rfl)) ?_
  refine g_lv (lv' := [(7, .inr (.inl _)), (0, .inr (.inr (.inl (some _)))), (1, .inl _), (2, .inr (.inl _)), (4, .inl _), (5, .inl _), (6, .inl _), (9, .inl _)]) rfl ?_
  refine gl (i' := 70) (fun _ _ => aw_iinc K (dOf ck_mX12_said rfl rfl) (Nat.le_of_ble_eq_true rfl) rfl) ?_
  refine g_lv (lv' := [(9, .inl _), (7, .inr (.inl _)), (0, .inr (.inr (.inl (some _)))), (1, .inl _), (2, .inr (.inl _)), (4, .inl _), (5, .inl _), (6, .inl _)]) rfl ?_
  refine g_goto K (dOf ck_mX12_said rfl rfl).1 (t := 43) (aJ_of (by decide +kernel)) ?_
  refine g_sub [2, 3, 4, 5, 6, 7, 1, 0] rfl ?_
  exact hk43 _ _ _
def R_said_43 (k15 : Int → Int → aM → Option (Int × aM)) (k20 : Int → Int → aM → Option (Int × aM)) (x1 : Int) (x2 : Int) (x4 : Int) (x5 : Int) (x6 : Int) : Nat → Int → Int → aM → Option (Int × aM)
  | 0, _, _, _ => none
  | n + 1, x7, x9, mm => if x9 < (mm 177 18) then (if 0 < x6 then ((R_mayStand x9 x5 mm).bind fun r15 => (if r15 = 0 then (R_said_67 k15 k20 (R_said_43 k15 k20 x1 x2 x4 x5 x6 n) x1 x2 x4 x5 x6 x9 0 x7 mm) else (if 0 ≤ (w32 ((w32 (13 * x6)) + x9)) ∧ (w32 ((w32 (13 * x6)) + x9)) < 793 then (R_said_67 k15 k20 (R_said_43 k15 k20 x1 x2 x4 x5 x6 n) x1 x2 x4 x5 x6 x9 (mm 201 (w32 ((w32 (13 * x6)) + x9)).toNat) x7 mm) else none))) else (R_said_71 k15 k20 x1 x2 x4 x5 x7 mm)) else (R_said_71 k15 k20 x1 x2 x4 x5 x7 mm)
set_option maxHeartbeats 4000000 in
theorem lk_R_said_43 {p : Program} {l : Launch} {e : Env} {s : State} {m : MethodId} {args : Array Value} {below : List Frame} {meth : Method} {c : Code} {D : va_G} {cA : FieldType → ClassId} {ad adV : Nat → Nat} {z0 : Nat} {al0 : List Nat} (K : aK p s m args meth c mX12_said D cA ad adV z0) (x1 : Int) (x2 : Int) (x4 : Int) (x5 : Int) (x6 : Int) (k15 : Int → Int → aM → Option (Int × aM)) (hk15 : ∀ (x2 : Int) (x4 : Int) (mm : aM), aG p l e { frames := 1, cells := 0, slots := 0, locals := 25 } s m args below meth c D cA ad z0 mX12_said al0 rIM (k15 x2 x4 mm) 15 [(0, .inr (.inr (.inl (some 176)))), (1, .inl x1), (2, .inr (.inl x2)), (4, .inl x4)] [] mm) (k20 : Int → Int → aM → Option (Int × aM)) (hk20 : ∀ (x2 : Int) (x5 : Int) (mm : aM), aG p l e { frames := 1, cells := 0, slots := 0, locals := 25 } s m args below meth c D cA ad z0 mX12_said al0 rIM (k20 x2 x5 mm) 20 [(0, .inr (.inr (.inl (some 176)))), (1, .inl x1), (2, .inr (.inl x2)), (4, .inl x4), (5, .inl x5)] [] mm)  : ∀ (n : Nat) (x7 : Int) (x9 : Int) (mm : aM), aG p l e { frames := 1, cells := 0, slots := 0, locals := 25 } s m args below meth c D cA ad z0 mX12_said al0 rIM (R_said_43 k15 k20 x1 x2 x4 x5 x6 n x7 x9 mm) 43 [(0, .inr (.inr (.inl (some 176)))), (1, .inl x1), (2, .inr (.inl x2)), (4, .inl x4), (5, .inl x5), (6, .inl x6), (7, .inr (.inl x7)), (9, .inl x9)] [] mm := by
  intro n
  induction n with
  | zero => intro x7 x9 mm; exact g_none
  | succ n ih =>
    intro x7 x9 mm
    rw [R_said_43]
    refine gl (i' := 44) (fun _ _ => aw_iload K (dOf ck_mX12_said rfl rfl) rfl) ?_
    refine gl (i' := 45) (fun _ _ => aw_aload_n K (dOf ck_mX12_said rfl rfl) rfl) ?_
    refine gl (i' := 46) (fun _ _ => aw_getf K (dOf ck_mX12_said rfl rfl) rfl rfl (Nat.le_of_ble_eq_true rfl) wd_1206 (k := 1) rfl) ?_
    refine gl (i' := 47) (fun _ _ => aw_bip K (dOf ck_mX12_said rfl rfl) (v := 18) rfl) ?_
    refine gl (i' := 48) (fun _ _ => aw_iald K (dOf ck_mX12_said rfl rfl) rfl (by decide)) ?_
    refine g_icmp_ge K (dOf ck_mX12_said rfl rfl) (t := 71) (aJ_of (by decide +kernel)) (fun h8 => ?_) (fun h8 => ?_)
    · refine gl (i' := 50) (fun _ _ => aw_iload K (dOf ck_mX12_said rfl rfl) rfl) ?_
      refine g_if_le K (dOf ck_mX12_said rfl rfl) (t := 71) (aJ_of (by decide +kernel)) (fun h14 => ?_) (fun h14 => ?_)
      · refine gl (i' := 52) (fun _ _ => aw_lload K (dOf ck_mX12_said rfl rfl) rfl) ?_
        refine gl (i' := 53) (fun _ _ => aw_aload_n K (dOf ck_mX12_said rfl rfl) rfl) ?_
        refine gl (i' := 54) (fun _ _ => aw_iload K (dOf ck_mX12_said rfl rfl) rfl) ?_
        refine gl (i' := 55) (fun _ _ => aw_iload K (dOf ck_mX12_said rfl rfl) rfl) ?_
        refine g_callVI K [.inl _, .inl _] rfl (dOf ck_mX12_said rfl rfl) al_OneBreathModel_247 rfl rfl ⟨wd_1396, wd_87⟩ rfl (Nat.le_of_ble_eq_true rfl) ⟨Nat.le_of_ble_eq_true rfl, Nat.le_of_ble_eq_true rfl⟩ (fun b hb => met_R_mayStand  hb) (fun r15 hr15 => ?_)
        refine g_if_eq K (dOf ck_mX12_said rfl rfl) (t := 66) (aJ_of (by decide +kernel)) (fun h16 => ?_) (fun h16 => ?_)
        · refine gl (i' := 67) (fun _ _ => aw_lcn K (dOf ck_mX12_said rfl rfl) (v := 0) rfl) ?_
          refine g_sub [0, 1, 2, 3, 4, 5, 7] rfl ?_
          exact lk_R_said_67 K _ _ _ _ _ _ _ hk15 _ hk20 _ ih _ _ _
        · refine gl (i' := 58) (fun _ _ => aw_aload_n K (dOf ck_mX12_said rfl rfl) rfl) ?_
          refine gl (i' := 59) (fun _ _ => aw_getf K (dOf ck_mX12_said rfl rfl) rfl rfl (Nat.le_of_ble_eq_true rfl) wd_1251 (k := 46) rfl) ?_
          refine gl (i' := 60) (fun _ _ => aw_bip K (dOf ck_mX12_said rfl rfl) (v := 13) rfl) ?_
          refine gl (i' := 61) (fun _ _ => aw_iload K (dOf ck_mX12_said rfl rfl) rfl) ?_
          refine gl (i' := 62) (fun _ _ => aw_imul K (dOf ck_mX12_said rfl rfl)) ?_
          refine gl (i' := 63) (fun _ _ => aw_iload K (dOf ck_mX12_said rfl rfl) rfl) ?_
          refine gl (i' := 64) (fun _ _ => aw_iadd K (dOf ck_mX12_said rfl rfl)) ?_
          refine g_gd (fun hb17 => ?_)
          refine gl (i' := 65) (fun _ _ => aw_lald K (dOf ck_mX12_said rfl rfl) rfl hb17) ?_
          refine g_goto K (dOf ck_mX12_said rfl rfl).1 (t := 67) (aJ_of (by decide +kernel)) ?_
          refine g_sub [0, 1, 2, 3, 4, 5, 7] rfl ?_
          exact lk_R_said_67 K _ _ _ _ _ _ _ hk15 _ hk20 _ ih _ _ _
      · refine g_sub [0, 1, 2, 3, 4, 6] rfl ?_
        exact lk_R_said_71 K _ _ _ _ _ _ hk15 _ hk20 _
    · refine g_sub [0, 1, 2, 3, 4, 6] rfl ?_
      exact lk_R_said_71 K _ _ _ _ _ _ hk15 _ hk20 _
def R_said_40 (k15 : Int → Int → aM → Option (Int × aM)) (k20 : Int → Int → aM → Option (Int × aM)) (x1 : Int) (x2 : Int) (x4 : Int) (x5 : Int) (x6 : Int) (s0 : Int) (mm : aM) : Option (Int × aM) := R_said_43 k15 k20 x1 x2 x4 x5 x6 FU s0 0 mm
set_option maxHeartbeats 4000000 in
theorem lk_R_said_40 {p : Program} {l : Launch} {e : Env} {s : State} {m : MethodId} {args : Array Value} {below : List Frame} {meth : Method} {c : Code} {D : va_G} {cA : FieldType → ClassId} {ad adV : Nat → Nat} {z0 : Nat} {al0 : List Nat} (K : aK p s m args meth c mX12_said D cA ad adV z0) (x1 : Int) (x2 : Int) (x4 : Int) (x5 : Int) (x6 : Int) (k15 : Int → Int → aM → Option (Int × aM)) (hk15 : ∀ (x2 : Int) (x4 : Int) (mm : aM), aG p l e { frames := 1, cells := 0, slots := 0, locals := 25 } s m args below meth c D cA ad z0 mX12_said al0 rIM (k15 x2 x4 mm) 15 [(0, .inr (.inr (.inl (some 176)))), (1, .inl x1), (2, .inr (.inl x2)), (4, .inl x4)] [] mm) (k20 : Int → Int → aM → Option (Int × aM)) (hk20 : ∀ (x2 : Int) (x5 : Int) (mm : aM), aG p l e { frames := 1, cells := 0, slots := 0, locals := 25 } s m args below meth c D cA ad z0 mX12_said al0 rIM (k20 x2 x5 mm) 20 [(0, .inr (.inr (.inl (some 176)))), (1, .inl x1), (2, .inr (.inl x2)), (4, .inl x4), (5, .inl x5)] [] mm)  (s0 : Int) (mm : aM) : aG p l e { frames := 1, cells := 0, slots := 0, locals := 25 } s m args below meth c D cA ad z0 mX12_said al0 rIM (R_said_40 k15 k20 x1 x2 x4 x5 x6 s0 mm) 40 [(0, .inr (.inr (.inl (some 176)))), (1, .inl x1), (2, .inr (.inl x2)), (4, .inl x4), (5, .inl x5), (6, .inl x6)] [.inr (.inl s0)] mm := by
  unfold R_said_40
  refine gl (i' := 41) (fun _ _ => aw_lstore K (dOf ck_mX12_said rfl rfl) (Nat.le_of_ble_eq_true rfl)) ?_
  refine g_lv (lv' := [(7, .inr (.inl _)), (0, .inr (.inr (.inl (some _)))), (1, .inl _), (2, .inr (.inl _)), (4, .inl _), (5, .inl _), (6, .inl _)]) rfl ?_
  refine gl (i' := 42) (fun _ _ => aw_iconst K (n := 0) (i32 _ rfl) (dOf ck_mX12_said rfl rfl)) ?_
  refine gl (i' := 43) (fun _ _ => aw_istore K (dOf ck_mX12_said rfl rfl) (Nat.le_of_ble_eq_true rfl)) ?_
  refine g_lv (lv' := [(9, .inl _), (7, .inr (.inl _)), (0, .inr (.inr (.inl (some _)))), (1, .inl _), (2, .inr (.inl _)), (4, .inl _), (5, .inl _), (6, .inl _)]) rfl ?_
  refine g_sub [2, 3, 4, 5, 6, 7, 1, 0] rfl ?_
  exact lk_R_said_43 K _ _ _ _ _ _ hk15 _ hk20 FU _ _ _
def R_said_20 (k15 : Int → Int → aM → Option (Int × aM)) (x1 : Int) (x4 : Int) : Nat → Int → Int → aM → Option (Int × aM)
  | 0, _, _, _ => none
  | n + 1, x2, x5, mm => if x5 < (mm 177 18) then (if 0 ≤ (w32 (19 + x5)) ∧ (w32 (19 + x5)) < 588 then (if (w32 (x4 - (mm 177 (w32 (19 + x5)).toNat))) = 0 then (R_said_40 k15 (R_said_20 k15 x1 x4 n) x1 x2 x4 x5 (w32 (x4 - (mm 177 (w32 (19 + x5)).toNat))) 1 mm) else (R_said_40 k15 (R_said_20 k15 x1 x4 n) x1 x2 x4 x5 (w32 (x4 - (mm 177 (w32 (19 + x5)).toNat))) 0 mm)) else none) else (k15 x2 (w32 (x4 + 1)) mm)
set_option maxHeartbeats 4000000 in
theorem lk_R_said_20 {p : Program} {l : Launch} {e : Env} {s : State} {m : MethodId} {args : Array Value} {below : List Frame} {meth : Method} {c : Code} {D : va_G} {cA : FieldType → ClassId} {ad adV : Nat → Nat} {z0 : Nat} {al0 : List Nat} (K : aK p s m args meth c mX12_said D cA ad adV z0) (x1 : Int) (x4 : Int) (k15 : Int → Int → aM → Option (Int × aM)) (hk15 : ∀ (x2 : Int) (x4 : Int) (mm : aM), aG p l e { frames := 1, cells := 0, slots := 0, locals := 25 } s m args below meth c D cA ad z0 mX12_said al0 rIM (k15 x2 x4 mm) 15 [(0, .inr (.inr (.inl (some 176)))), (1, .inl x1), (2, .inr (.inl x2)), (4, .inl x4)] [] mm)  : ∀ (n : Nat) (x2 : Int) (x5 : Int) (mm : aM), aG p l e { frames := 1, cells := 0, slots := 0, locals := 25 } s m args below meth c D cA ad z0 mX12_said al0 rIM (R_said_20 k15 x1 x4 n x2 x5 mm) 20 [(0, .inr (.inr (.inl (some 176)))), (1, .inl x1), (2, .inr (.inl x2)), (4, .inl x4), (5, .inl x5)] [] mm := by
  intro n
  induction n with
  | zero => intro x2 x5 mm; exact g_none
  | succ n ih =>
    intro x2 x5 mm
    rw [R_said_20]
    refine gl (i' := 21) (fun _ _ => aw_iload K (dOf ck_mX12_said rfl rfl) rfl) ?_
    refine gl (i' := 22) (fun _ _ => aw_aload_n K (dOf ck_mX12_said rfl rfl) rfl) ?_
    refine gl (i' := 23) (fun _ _ => aw_getf K (dOf ck_mX12_said rfl rfl) rfl rfl (Nat.le_of_ble_eq_true rfl) wd_1206 (k := 1) rfl) ?_
    refine gl (i' := 24) (fun _ _ => aw_bip K (dOf ck_mX12_said rfl rfl) (v := 18) rfl) ?_
    refine gl (i' := 25) (fun _ _ => aw_iald K (dOf ck_mX12_said rfl rfl) rfl (by decide)) ?_
    refine g_icmp_ge K (dOf ck_mX12_said rfl rfl) (t := 99) (aJ_of (by decide +kernel)) (fun h5 => ?_) (fun h5 => ?_)
    · refine gl (i' := 27) (fun _ _ => aw_iload K (dOf ck_mX12_said rfl rfl) rfl) ?_
      refine gl (i' := 28) (fun _ _ => aw_aload_n K (dOf ck_mX12_said rfl rfl) rfl) ?_
      refine gl (i' := 29) (fun _ _ => aw_getf K (dOf ck_mX12_said rfl rfl) rfl rfl (Nat.le_of_ble_eq_true rfl) wd_1206 (k := 1) rfl) ?_
      refine gl (i' := 30) (fun _ _ => aw_bip K (dOf ck_mX12_said rfl rfl) (v := 19) rfl) ?_
      refine gl (i' := 31) (fun _ _ => aw_iload K (dOf ck_mX12_said rfl rfl) rfl) ?_
      refine gl (i' := 32) (fun _ _ => aw_iadd K (dOf ck_mX12_said rfl rfl)) ?_
      refine g_gd (fun hb6 => ?_)
      refine gl (i' := 33) (fun _ _ => aw_iald K (dOf ck_mX12_said rfl rfl) rfl hb6) ?_
      refine gl (i' := 34) (fun _ _ => aw_isub K (dOf ck_mX12_said rfl rfl)) ?_
      refine gl (i' := 35) (fun _ _ => aw_istore K (dOf ck_mX12_said rfl rfl) (Nat.le_of_ble_eq_true rfl)) ?_
      refine g_lv (lv' := [(6, .inl _), (0, .inr (.inr (.inl (some _)))), (1, .inl _), (2, .inr (.inl _)), (4, .inl _), (5, .inl _)]) rfl ?_
      refine gl (i' := 36) (fun _ _ => aw_iload K (dOf ck_mX12_said rfl rfl) rfl) ?_
      refine g_if_ne K (dOf ck_mX12_said rfl rfl) (t := 39) (aJ_of (by decide +kernel)) (fun h7 => ?_) (fun h7 => ?_)
      · refine gl (i' := 38) (fun _ _ => aw_lcn K (dOf ck_mX12_said rfl rfl) (v := 1) rfl) ?_
        refine g_goto K (dOf ck_mX12_said rfl rfl).1 (t := 40) (aJ_of (by decide +kernel)) ?_
        refine g_sub [1, 2, 3, 4, 5, 0] rfl ?_
        exact lk_R_said_40 K _ _ _ _ _ _ hk15 _ ih _ _
      · refine gl (i' := 40) (fun _ _ => aw_lcn K (dOf ck_mX12_said rfl rfl) (v := 0) rfl) ?_
        refine g_sub [1, 2, 3, 4, 5, 0] rfl ?_
        exact lk_R_said_40 K _ _ _ _ _ _ hk15 _ ih _ _
    · refine gl (i' := 100) (fun _ _ => aw_iinc K (dOf ck_mX12_said rfl rfl) (Nat.le_of_ble_eq_true rfl) rfl) ?_
      refine g_lv (lv' := [(4, .inl _), (0, .inr (.inr (.inl (some _)))), (1, .inl _), (2, .inr (.inl _)), (5, .inl _)]) rfl ?_
      refine g_goto K (dOf ck_mX12_said rfl rfl).1 (t := 15) (aJ_of (by decide +kernel)) ?_
      refine g_sub [1, 2, 3, 0] rfl ?_
      exact hk15 _ _ _
def R_said_15 (x1 : Int) : Nat → Int → Int → aM → Option (Int × aM)
  | 0, _, _, _ => none
  | n + 1, x2, x4, mm => if x1 < x4 then (some (w32 (Int.tmod x2 1000000007), mm)) else (R_said_20 (R_said_15 x1 n) x1 x4 FU x2 0 mm)
set_option maxHeartbeats 4000000 in
theorem lk_R_said_15 {p : Program} {l : Launch} {e : Env} {s : State} {m : MethodId} {args : Array Value} {below : List Frame} {meth : Method} {c : Code} {D : va_G} {cA : FieldType → ClassId} {ad adV : Nat → Nat} {z0 : Nat} {al0 : List Nat} (K : aK p s m args meth c mX12_said D cA ad adV z0) (x1 : Int)  : ∀ (n : Nat) (x2 : Int) (x4 : Int) (mm : aM), aG p l e { frames := 1, cells := 0, slots := 0, locals := 25 } s m args below meth c D cA ad z0 mX12_said al0 rIM (R_said_15 x1 n x2 x4 mm) 15 [(0, .inr (.inr (.inl (some 176)))), (1, .inl x1), (2, .inr (.inl x2)), (4, .inl x4)] [] mm := by
  intro n
  induction n with
  | zero => intro x2 x4 mm; exact g_none
  | succ n ih =>
    intro x2 x4 mm
    rw [R_said_15]
    refine gl (i' := 16) (fun _ _ => aw_iload K (dOf ck_mX12_said rfl rfl) rfl) ?_
    refine gl (i' := 17) (fun _ _ => aw_iload_n K (dOf ck_mX12_said rfl rfl) rfl) ?_
    refine g_icmp_gt K (dOf ck_mX12_said rfl rfl) (t := 101) (aJ_of (by decide +kernel)) (fun h4 => ?_) (fun h4 => ?_)
    · refine gl (i' := 102) (fun _ _ => aw_lload_n K (dOf ck_mX12_said rfl rfl) rfl) ?_
      refine gl (i' := 103) (fun _ _ => aw_ldc2 K (dOf ck_mX12_said rfl rfl) (n := 1000000007) wd_1441 (i64 _ rfl)) ?_
      refine gl (i' := 104) (fun _ _ => aw_lrem K (by decide) (dOf ck_mX12_said rfl rfl)) ?_
      refine gl (i' := 105) (fun _ _ => aw_l2i K (dOf ck_mX12_said rfl rfl)) ?_
      exact g_iret K (by decide +kernel) rfl (Or.inl rfl) rfl
    · refine gl (i' := 19) (fun _ _ => aw_iconst K (n := 0) (i32 _ rfl) (dOf ck_mX12_said rfl rfl)) ?_
      refine gl (i' := 20) (fun _ _ => aw_istore K (dOf ck_mX12_said rfl rfl) (Nat.le_of_ble_eq_true rfl)) ?_
      refine g_lv (lv' := [(5, .inl _), (0, .inr (.inr (.inl (some _)))), (1, .inl _), (2, .inr (.inl _)), (4, .inl _)]) rfl ?_
      refine g_sub [1, 2, 3, 4, 0] rfl ?_
      exact lk_R_said_20 K _ _ _ ih FU _ _ _
def R_said (x1 : Int) (mm : aM) : Option (Int × aM) := st1 (aup mm 176 0 0) fun mm1 => ((R_within x1 0 60 mm1).bind fun r2 => (if r2 = 0 then (some ((-3), mm1)) else (R_said_15 x1 FU 0 1 mm1)))
set_option maxHeartbeats 4000000 in
theorem met_R_said {l : Launch} {D : va_G} {cA : FieldType → ClassId} {ad adV : Nat → Nat} {z0 : Nat} {x1 : Int} {mm : aM}  {r : Int × aM} (h : R_said x1 mm = some r) : aMet l D cA ad adV z0 mX12_said 1 25 0 0 [.inr (.inr (.inl (some 176))), .inl x1] SH mm (rIM r).1 SH (rIM r).2 := by
  refine aMet_ofG (by decide +kernel) rfl (Nat.le_of_ble_eq_true rfl) h (fun p e s m args below meth c al0 K => ?_)
  unfold R_said
  refine gl (i' := 1) (fun _ _ => aw_aload_n K (dOf ck_mX12_said rfl rfl) rfl) ?_
  refine gl (i' := 2) (fun _ _ => aw_iconst K (n := 0) (i32 _ rfl) (dOf ck_mX12_said rfl rfl)) ?_
  refine g_st1 ?_
  refine gl (i' := 3) (fun _ _ => aw_putf K (dOf ck_mX12_said rfl rfl) rfl rfl (Nat.le_of_ble_eq_true rfl) wd_1205 (k := 0) rfl rfl (Or.inl rfl)) ?_
  refine gl (i' := 4) (fun _ _ => aw_iload_n K (dOf ck_mX12_said rfl rfl) rfl) ?_
  refine gl (i' := 5) (fun _ _ => aw_i2l K (dOf ck_mX12_said rfl rfl)) ?_
  refine gl (i' := 6) (fun _ _ => aw_lcn K (dOf ck_mX12_said rfl rfl) (v := 0) rfl) ?_
  refine gl (i' := 7) (fun _ _ => aw_ldc2 K (dOf ck_mX12_said rfl rfl) (n := 60) wd_1605 (i64 _ rfl)) ?_
  refine g_callSI K [.inr (.inl _), .inr (.inl _), .inr (.inl _)] rfl (dOf ck_mX12_said rfl rfl) al_OneBreathModel_176 wd_1269 rfl (Nat.le_of_ble_eq_true rfl) ⟨Nat.le_of_ble_eq_true rfl, Nat.le_of_ble_eq_true rfl⟩ (fun b hb => met_R_within  hb) (fun r2 hr2 => ?_)
  refine g_if_ne K (dOf ck_mX12_said rfl rfl) (t := 11) (aJ_of (by decide +kernel)) (fun h3 => ?_) (fun h3 => ?_)
  · refine gl (i' := 10) (fun _ _ => aw_bip K (dOf ck_mX12_said rfl rfl) (v := -3) rfl) ?_
    exact g_iret K (dOf ck_mX12_said rfl rfl).1 rfl (Or.inl rfl) rfl
  · refine gl (i' := 12) (fun _ _ => aw_lcn K (dOf ck_mX12_said rfl rfl) (v := 0) rfl) ?_
    refine gl (i' := 13) (fun _ _ => aw_lstore_n K (dOf ck_mX12_said rfl rfl) (Nat.le_of_ble_eq_true rfl)) ?_
    refine g_lv (lv' := [(2, .inr (.inl _)), (0, .inr (.inr (.inl (some _)))), (1, .inl _)]) rfl ?_
    refine gl (i' := 14) (fun _ _ => aw_iconst K (n := 1) (i32 _ rfl) (dOf ck_mX12_said rfl rfl)) ?_
    refine gl (i' := 15) (fun _ _ => aw_istore K (dOf ck_mX12_said rfl rfl) (Nat.le_of_ble_eq_true rfl)) ?_
    refine g_lv (lv' := [(4, .inl _), (2, .inr (.inl _)), (0, .inr (.inr (.inl (some _)))), (1, .inl _)]) rfl ?_
    refine g_sub [2, 3, 1, 0] rfl ?_
    exact lk_R_said_15 K _ FU _ _ _
def R_mostSounds_128 (k110 : Int → Int → aM → Option (Int × aM)) (x3 : Int) (s0 : Int) (mm : aM) : Option (Int × aM) := k110 s0 (w32 (x3 + 1)) mm
set_option maxHeartbeats 4000000 in
theorem lk_R_mostSounds_128 {p : Program} {l : Launch} {e : Env} {s : State} {m : MethodId} {args : Array Value} {below : List Frame} {meth : Method} {c : Code} {D : va_G} {cA : FieldType → ClassId} {ad adV : Nat → Nat} {z0 : Nat} {al0 : List Nat} (K : aK p s m args meth c mX12_mostSounds D cA ad adV z0) (x3 : Int) (k110 : Int → Int → aM → Option (Int × aM)) (hk110 : ∀ (x2 : Int) (x3 : Int) (mm : aM), aG p l e { frames := 1, cells := 0, slots := 0, locals := 22 } s m args below meth c D cA ad z0 mX12_mostSounds al0 rIM (k110 x2 x3 mm) 110 [(0, .inr (.inr (.inl (some 176)))), (2, .inl x2), (3, .inl x3)] [] mm)  (s0 : Int) (mm : aM) : aG p l e { frames := 1, cells := 0, slots := 0, locals := 22 } s m args below meth c D cA ad z0 mX12_mostSounds al0 rIM (R_mostSounds_128 k110 x3 s0 mm) 128 [(0, .inr (.inr (.inl (some 176)))), (3, .inl x3)] [.inl s0] mm := by
  unfold R_mostSounds_128
  refine gl (i' := 129) (fun _ _ => aw_istore_n K (dOf ck_mX12_mostSounds rfl rfl) (Nat.le_of_ble_eq_true rfl)) ?_
  refine g_lv (lv' := [(2, .inl _), (0, .inr (.inr (.inl (some _)))), (3, .inl _)]) rfl ?_
  refine gl (i' := 130) (fun _ _ => aw_iinc K (dOf ck_mX12_mostSounds rfl rfl) (Nat.le_of_ble_eq_true rfl) rfl) ?_
  refine g_lv (lv' := [(3, .inl _), (2, .inl _), (0, .inr (.inr (.inl (some _))))]) rfl ?_
  refine g_goto K (dOf ck_mX12_mostSounds rfl rfl).1 (t := 110) (aJ_of (by decide +kernel)) ?_
  refine g_sub [2, 1, 0] rfl ?_
  exact hk110 _ _ _
def R_mostSounds_110  : Nat → Int → Int → aM → Option (Int × aM)
  | 0, _, _, _ => none
  | n + 1, x2, x3, mm => if x3 < (mm 177 18) then (if 0 ≤ x3 ∧ x3 < 13 then (if x2 < (mm 202 x3.toNat) then (R_mostSounds_128 (R_mostSounds_110 n) x3 (mm 202 x3.toNat) mm) else (R_mostSounds_128 (R_mostSounds_110 n) x3 x2 mm)) else none) else (some (x2, mm))
set_option maxHeartbeats 4000000 in
theorem lk_R_mostSounds_110 {p : Program} {l : Launch} {e : Env} {s : State} {m : MethodId} {args : Array Value} {below : List Frame} {meth : Method} {c : Code} {D : va_G} {cA : FieldType → ClassId} {ad adV : Nat → Nat} {z0 : Nat} {al0 : List Nat} (K : aK p s m args meth c mX12_mostSounds D cA ad adV z0)   : ∀ (n : Nat) (x2 : Int) (x3 : Int) (mm : aM), aG p l e { frames := 1, cells := 0, slots := 0, locals := 22 } s m args below meth c D cA ad z0 mX12_mostSounds al0 rIM (R_mostSounds_110 n x2 x3 mm) 110 [(0, .inr (.inr (.inl (some 176)))), (2, .inl x2), (3, .inl x3)] [] mm := by
  intro n
  induction n with
  | zero => intro x2 x3 mm; exact g_none
  | succ n ih =>
    intro x2 x3 mm
    rw [R_mostSounds_110]
    refine gl (i' := 111) (fun _ _ => aw_iload_n K (dOf ck_mX12_mostSounds rfl rfl) rfl) ?_
    refine gl (i' := 112) (fun _ _ => aw_aload_n K (dOf ck_mX12_mostSounds rfl rfl) rfl) ?_
    refine gl (i' := 113) (fun _ _ => aw_getf K (dOf ck_mX12_mostSounds rfl rfl) rfl rfl (Nat.le_of_ble_eq_true rfl) wd_1206 (k := 1) rfl) ?_
    refine gl (i' := 114) (fun _ _ => aw_bip K (dOf ck_mX12_mostSounds rfl rfl) (v := 18) rfl) ?_
    refine gl (i' := 115) (fun _ _ => aw_iald K (dOf ck_mX12_mostSounds rfl rfl) rfl (by decide)) ?_
    refine g_icmp_ge K (dOf ck_mX12_mostSounds rfl rfl) (t := 131) (aJ_of (by decide +kernel)) (fun h2 => ?_) (fun h2 => ?_)
    · refine gl (i' := 117) (fun _ _ => aw_aload_n K (dOf ck_mX12_mostSounds rfl rfl) rfl) ?_
      refine gl (i' := 118) (fun _ _ => aw_getf K (dOf ck_mX12_mostSounds rfl rfl) rfl rfl (Nat.le_of_ble_eq_true rfl) wd_1252 (k := 47) rfl) ?_
      refine gl (i' := 119) (fun _ _ => aw_iload_n K (dOf ck_mX12_mostSounds rfl rfl) rfl) ?_
      refine g_gd (fun hb3 => ?_)
      refine gl (i' := 120) (fun _ _ => aw_iald K (dOf ck_mX12_mostSounds rfl rfl) rfl hb3) ?_
      refine gl (i' := 121) (fun _ _ => aw_iload_n K (dOf ck_mX12_mostSounds rfl rfl) rfl) ?_
      refine g_icmp_le K (dOf ck_mX12_mostSounds rfl rfl) (t := 127) (aJ_of (by decide +kernel)) (fun h4 => ?_) (fun h4 => ?_)
      · refine gl (i' := 123) (fun _ _ => aw_aload_n K (dOf ck_mX12_mostSounds rfl rfl) rfl) ?_
        refine gl (i' := 124) (fun _ _ => aw_getf K (dOf ck_mX12_mostSounds rfl rfl) rfl rfl (Nat.le_of_ble_eq_true rfl) wd_1252 (k := 47) rfl) ?_
        refine gl (i' := 125) (fun _ _ => aw_iload_n K (dOf ck_mX12_mostSounds rfl rfl) rfl) ?_
        refine gl (i' := 126) (fun _ _ => aw_iald K (dOf ck_mX12_mostSounds rfl rfl) rfl hb3) ?_
        refine g_goto K (dOf ck_mX12_mostSounds rfl rfl).1 (t := 128) (aJ_of (by decide +kernel)) ?_
        refine g_sub [0, 2] rfl ?_
        exact lk_R_mostSounds_128 K _ _ ih _ _
      · refine gl (i' := 128) (fun _ _ => aw_iload_n K (dOf ck_mX12_mostSounds rfl rfl) rfl) ?_
        refine g_sub [0, 2] rfl ?_
        exact lk_R_mostSounds_128 K _ _ ih _ _
    · refine gl (i' := 132) (fun _ _ => aw_iload_n K (dOf ck_mX12_mostSounds rfl rfl) rfl) ?_
      exact g_iret K (by decide +kernel) rfl (Or.inl rfl) rfl
def R_mostSounds_88 (k2 : Int → aM → Option (Int × aM)) (x1 : Int) (x2 : Int) : Nat → Int → aM → Option (Int × aM)
  | 0, _, _ => none
  | n + 1, x3, mm => if x3 < (mm 177 18) then (if 0 ≤ x3 ∧ x3 < 13 then (st1 (aup mm 202 x3.toNat (mm 203 x3.toNat)) fun mm8 => (R_mostSounds_88 k2 x1 x2 n (w32 (x3 + 1)) mm8)) else none) else (k2 (w32 (x2 + 1)) mm)
set_option maxHeartbeats 4000000 in
theorem lk_R_mostSounds_88 {p : Program} {l : Launch} {e : Env} {s : State} {m : MethodId} {args : Array Value} {below : List Frame} {meth : Method} {c : Code} {D : va_G} {cA : FieldType → ClassId} {ad adV : Nat → Nat} {z0 : Nat} {al0 : List Nat} (K : aK p s m args meth c mX12_mostSounds D cA ad adV z0) (x1 : Int) (x2 : Int) (k2 : Int → aM → Option (Int × aM)) (hk2 : ∀ (x2 : Int) (mm : aM), aG p l e { frames := 1, cells := 0, slots := 0, locals := 22 } s m args below meth c D cA ad z0 mX12_mostSounds al0 rIM (k2 x2 mm) 2 [(0, .inr (.inr (.inl (some 176)))), (1, .inl x1), (2, .inl x2)] [] mm)  : ∀ (n : Nat) (x3 : Int) (mm : aM), aG p l e { frames := 1, cells := 0, slots := 0, locals := 22 } s m args below meth c D cA ad z0 mX12_mostSounds al0 rIM (R_mostSounds_88 k2 x1 x2 n x3 mm) 88 [(0, .inr (.inr (.inl (some 176)))), (1, .inl x1), (2, .inl x2), (3, .inl x3)] [] mm := by
  intro n
  induction n with
  | zero => intro x3 mm; exact g_none
  | succ n ih =>
    intro x3 mm
    rw [R_mostSounds_88]
    refine gl (i' := 89) (fun _ _ => aw_iload_n K (dOf ck_mX12_mostSounds rfl rfl) rfl) ?_
    refine gl (i' := 90) (fun _ _ => aw_aload_n K (dOf ck_mX12_mostSounds rfl rfl) rfl) ?_
    refine gl (i' := 91) (fun _ _ => aw_getf K (dOf ck_mX12_mostSounds rfl rfl) rfl rfl (Nat.le_of_ble_eq_true rfl) wd_1206 (k := 1) rfl) ?_
    refine gl (i' := 92) (fun _ _ => aw_bip K (dOf ck_mX12_mostSounds rfl rfl) (v := 18) rfl) ?_
    refine gl (i' := 93) (fun _ _ => aw_iald K (dOf ck_mX12_mostSounds rfl rfl) rfl (by decide)) ?_
    refine g_icmp_ge K (dOf ck_mX12_mostSounds rfl rfl) (t := 104) (aJ_of (by decide +kernel)) (fun h6 => ?_) (fun h6 => ?_)
    · refine gl (i' := 95) (fun _ _ => aw_aload_n K (dOf ck_mX12_mostSounds rfl rfl) rfl) ?_
      refine gl (i' := 96) (fun _ _ => aw_getf K (dOf ck_mX12_mostSounds rfl rfl) rfl rfl (Nat.le_of_ble_eq_true rfl) wd_1252 (k := 47) rfl) ?_
      refine gl (i' := 97) (fun _ _ => aw_iload_n K (dOf ck_mX12_mostSounds rfl rfl) rfl) ?_
      refine gl (i' := 98) (fun _ _ => aw_aload_n K (dOf ck_mX12_mostSounds rfl rfl) rfl) ?_
      refine gl (i' := 99) (fun _ _ => aw_getf K (dOf ck_mX12_mostSounds rfl rfl) rfl rfl (Nat.le_of_ble_eq_true rfl) wd_1253 (k := 48) rfl) ?_
      refine gl (i' := 100) (fun _ _ => aw_iload_n K (dOf ck_mX12_mostSounds rfl rfl) rfl) ?_
      refine g_gd (fun hb7 => ?_)
      refine gl (i' := 101) (fun _ _ => aw_iald K (dOf ck_mX12_mostSounds rfl rfl) rfl hb7) ?_
      refine g_st1 ?_
      refine gl (i' := 102) (fun _ _ => aw_iast K (dOf ck_mX12_mostSounds rfl rfl) rfl hb7) ?_
      refine gl (i' := 103) (fun _ _ => aw_iinc K (dOf ck_mX12_mostSounds rfl rfl) (Nat.le_of_ble_eq_true rfl) rfl) ?_
      refine g_lv (lv' := [(3, .inl _), (0, .inr (.inr (.inl (some _)))), (1, .inl _), (2, .inl _)]) rfl ?_
      refine g_goto K (dOf ck_mX12_mostSounds rfl rfl).1 (t := 88) (aJ_of (by decide +kernel)) ?_
      refine g_sub [1, 2, 3, 0] rfl ?_
      exact ih _ _
    · refine gl (i' := 105) (fun _ _ => aw_iinc K (dOf ck_mX12_mostSounds rfl rfl) (Nat.le_of_ble_eq_true rfl) rfl) ?_
      refine g_lv (lv' := [(2, .inl _), (0, .inr (.inr (.inl (some _)))), (1, .inl _), (3, .inl _)]) rfl ?_
      refine g_goto K (dOf ck_mX12_mostSounds rfl rfl).1 (t := 2) (aJ_of (by decide +kernel)) ?_
      refine g_sub [1, 2, 0] rfl ?_
      exact hk2 _ _
def R_mostSounds_84 (k2 : Int → aM → Option (Int × aM)) (k7 : Int → aM → Option (Int × aM)) (x1 : Int) (x2 : Int) (x3 : Int) (mm : aM) : Option (Int × aM) := k7 (w32 (x3 + 1)) mm
set_option maxHeartbeats 4000000 in
theorem lk_R_mostSounds_84 {p : Program} {l : Launch} {e : Env} {s : State} {m : MethodId} {args : Array Value} {below : List Frame} {meth : Method} {c : Code} {D : va_G} {cA : FieldType → ClassId} {ad adV : Nat → Nat} {z0 : Nat} {al0 : List Nat} (K : aK p s m args meth c mX12_mostSounds D cA ad adV z0) (x1 : Int) (x2 : Int) (x3 : Int) (k2 : Int → aM → Option (Int × aM)) (hk2 : ∀ (x2 : Int) (mm : aM), aG p l e { frames := 1, cells := 0, slots := 0, locals := 22 } s m args below meth c D cA ad z0 mX12_mostSounds al0 rIM (k2 x2 mm) 2 [(0, .inr (.inr (.inl (some 176)))), (1, .inl x1), (2, .inl x2)] [] mm) (k7 : Int → aM → Option (Int × aM)) (hk7 : ∀ (x3 : Int) (mm : aM), aG p l e { frames := 1, cells := 0, slots := 0, locals := 22 } s m args below meth c D cA ad z0 mX12_mostSounds al0 rIM (k7 x3 mm) 7 [(0, .inr (.inr (.inl (some 176)))), (1, .inl x1), (2, .inl x2), (3, .inl x3)] [] mm)  (mm : aM) : aG p l e { frames := 1, cells := 0, slots := 0, locals := 22 } s m args below meth c D cA ad z0 mX12_mostSounds al0 rIM (R_mostSounds_84 k2 k7 x1 x2 x3 mm) 84 [(0, .inr (.inr (.inl (some 176)))), (1, .inl x1), (2, .inl x2), (3, .inl x3)] [] mm := by
  unfold R_mostSounds_84
  refine gl (i' := 85) (fun _ _ => aw_iinc K (dOf ck_mX12_mostSounds rfl rfl) (Nat.le_of_ble_eq_true rfl) rfl) ?_
  refine g_lv (lv' := [(3, .inl _), (0, .inr (.inr (.inl (some _)))), (1, .inl _), (2, .inl _)]) rfl ?_
  refine g_goto K (dOf ck_mX12_mostSounds rfl rfl).1 (t := 7) (aJ_of (by decide +kernel)) ?_
  refine g_sub [1, 2, 3, 0] rfl ?_
  exact hk7 _ _
def R_mostSounds_82 (k2 : Int → aM → Option (Int × aM)) (k7 : Int → aM → Option (Int × aM)) (k33 : Int → aM → Option (Int × aM)) (x1 : Int) (x2 : Int) (x3 : Int) (x4 : Int) (mm : aM) : Option (Int × aM) := k33 (w32 (x4 + 1)) mm
set_option maxHeartbeats 4000000 in
theorem lk_R_mostSounds_82 {p : Program} {l : Launch} {e : Env} {s : State} {m : MethodId} {args : Array Value} {below : List Frame} {meth : Method} {c : Code} {D : va_G} {cA : FieldType → ClassId} {ad adV : Nat → Nat} {z0 : Nat} {al0 : List Nat} (K : aK p s m args meth c mX12_mostSounds D cA ad adV z0) (x1 : Int) (x2 : Int) (x3 : Int) (x4 : Int) (k2 : Int → aM → Option (Int × aM)) (hk2 : ∀ (x2 : Int) (mm : aM), aG p l e { frames := 1, cells := 0, slots := 0, locals := 22 } s m args below meth c D cA ad z0 mX12_mostSounds al0 rIM (k2 x2 mm) 2 [(0, .inr (.inr (.inl (some 176)))), (1, .inl x1), (2, .inl x2)] [] mm) (k7 : Int → aM → Option (Int × aM)) (hk7 : ∀ (x3 : Int) (mm : aM), aG p l e { frames := 1, cells := 0, slots := 0, locals := 22 } s m args below meth c D cA ad z0 mX12_mostSounds al0 rIM (k7 x3 mm) 7 [(0, .inr (.inr (.inl (some 176)))), (1, .inl x1), (2, .inl x2), (3, .inl x3)] [] mm) (k33 : Int → aM → Option (Int × aM)) (hk33 : ∀ (x4 : Int) (mm : aM), aG p l e { frames := 1, cells := 0, slots := 0, locals := 22 } s m args below meth c D cA ad z0 mX12_mostSounds al0 rIM (k33 x4 mm) 33 [(0, .inr (.inr (.inl (some 176)))), (1, .inl x1), (2, .inl x2), (3, .inl x3), (4, .inl x4)] [] mm)  (mm : aM) : aG p l e { frames := 1, cells := 0, slots := 0, locals := 22 } s m args below meth c D cA ad z0 mX12_mostSounds al0 rIM (R_mostSounds_82 k2 k7 k33 x1 x2 x3 x4 mm) 82 [(0, .inr (.inr (.inl (some 176)))), (1, .inl x1), (2, .inl x2), (3, .inl x3), (4, .inl x4)] [] mm := by
  unfold R_mostSounds_82
  refine gl (i' := 83) (fun _ _ => aw_iinc K (dOf ck_mX12_mostSounds rfl rfl) (Nat.le_of_ble_eq_true rfl) rfl) ?_
  refine g_lv (lv' := [(4, .inl _), (0, .inr (.inr (.inl (some _)))), (1, .inl _), (2, .inl _), (3, .inl _)]) rfl ?_
  refine g_goto K (dOf ck_mX12_mostSounds rfl rfl).1 (t := 33) (aJ_of (by decide +kernel)) ?_
  refine g_sub [1, 2, 3, 4, 0] rfl ?_
  exact hk33 _ _
def R_mostSounds_33 (k2 : Int → aM → Option (Int × aM)) (k7 : Int → aM → Option (Int × aM)) (x1 : Int) (x2 : Int) (x3 : Int) : Nat → Int → aM → Option (Int × aM)
  | 0, _, _ => none
  | n + 1, x4, mm => if x4 < (mm 177 18) then (if 0 < x2 then ((R_mayStand x3 x4 mm).bind fun r14 => (if r14 = 0 then (R_mostSounds_82 k2 k7 (R_mostSounds_33 k2 k7 x1 x2 x3 n) x1 x2 x3 x4 mm) else (if 0 ≤ x4 ∧ x4 < 13 then (if 0 < (mm 202 x4.toNat) then (if 0 ≤ (w32 (19 + x3)) ∧ (w32 (19 + x3)) < 588 then (if 0 ≤ x3 ∧ x3 < 13 then (if (mm 203 x3.toNat) < (w32 ((mm 177 (w32 (19 + x3)).toNat) + (mm 202 x4.toNat))) then (st1 (aup mm 203 x3.toNat (w32 ((mm 177 (w32 (19 + x3)).toNat) + (mm 202 x4.toNat)))) fun mm21 => (R_mostSounds_82 k2 k7 (R_mostSounds_33 k2 k7 x1 x2 x3 n) x1 x2 x3 x4 mm21)) else (R_mostSounds_82 k2 k7 (R_mostSounds_33 k2 k7 x1 x2 x3 n) x1 x2 x3 x4 mm)) else none) else none) else (R_mostSounds_82 k2 k7 (R_mostSounds_33 k2 k7 x1 x2 x3 n) x1 x2 x3 x4 mm)) else none))) else (R_mostSounds_84 k2 k7 x1 x2 x3 mm)) else (R_mostSounds_84 k2 k7 x1 x2 x3 mm)
set_option maxHeartbeats 4000000 in
theorem lk_R_mostSounds_33 {p : Program} {l : Launch} {e : Env} {s : State} {m : MethodId} {args : Array Value} {below : List Frame} {meth : Method} {c : Code} {D : va_G} {cA : FieldType → ClassId} {ad adV : Nat → Nat} {z0 : Nat} {al0 : List Nat} (K : aK p s m args meth c mX12_mostSounds D cA ad adV z0) (x1 : Int) (x2 : Int) (x3 : Int) (k2 : Int → aM → Option (Int × aM)) (hk2 : ∀ (x2 : Int) (mm : aM), aG p l e { frames := 1, cells := 0, slots := 0, locals := 22 } s m args below meth c D cA ad z0 mX12_mostSounds al0 rIM (k2 x2 mm) 2 [(0, .inr (.inr (.inl (some 176)))), (1, .inl x1), (2, .inl x2)] [] mm) (k7 : Int → aM → Option (Int × aM)) (hk7 : ∀ (x3 : Int) (mm : aM), aG p l e { frames := 1, cells := 0, slots := 0, locals := 22 } s m args below meth c D cA ad z0 mX12_mostSounds al0 rIM (k7 x3 mm) 7 [(0, .inr (.inr (.inl (some 176)))), (1, .inl x1), (2, .inl x2), (3, .inl x3)] [] mm)  : ∀ (n : Nat) (x4 : Int) (mm : aM), aG p l e { frames := 1, cells := 0, slots := 0, locals := 22 } s m args below meth c D cA ad z0 mX12_mostSounds al0 rIM (R_mostSounds_33 k2 k7 x1 x2 x3 n x4 mm) 33 [(0, .inr (.inr (.inl (some 176)))), (1, .inl x1), (2, .inl x2), (3, .inl x3), (4, .inl x4)] [] mm := by
  intro n
  induction n with
  | zero => intro x4 mm; exact g_none
  | succ n ih =>
    intro x4 mm
    rw [R_mostSounds_33]
    refine gl (i' := 34) (fun _ _ => aw_iload K (dOf ck_mX12_mostSounds rfl rfl) rfl) ?_
    refine gl (i' := 35) (fun _ _ => aw_aload_n K (dOf ck_mX12_mostSounds rfl rfl) rfl) ?_
    refine gl (i' := 36) (fun _ _ => aw_getf K (dOf ck_mX12_mostSounds rfl rfl) rfl rfl (Nat.le_of_ble_eq_true rfl) wd_1206 (k := 1) rfl) ?_
    refine gl (i' := 37) (fun _ _ => aw_bip K (dOf ck_mX12_mostSounds rfl rfl) (v := 18) rfl) ?_
    refine gl (i' := 38) (fun _ _ => aw_iald K (dOf ck_mX12_mostSounds rfl rfl) rfl (by decide)) ?_
    refine g_icmp_ge K (dOf ck_mX12_mostSounds rfl rfl) (t := 84) (aJ_of (by decide +kernel)) (fun h12 => ?_) (fun h12 => ?_)
    · refine gl (i' := 40) (fun _ _ => aw_iload_n K (dOf ck_mX12_mostSounds rfl rfl) rfl) ?_
      refine g_if_le K (dOf ck_mX12_mostSounds rfl rfl) (t := 84) (aJ_of (by decide +kernel)) (fun h13 => ?_) (fun h13 => ?_)
      · refine gl (i' := 42) (fun _ _ => aw_aload_n K (dOf ck_mX12_mostSounds rfl rfl) rfl) ?_
        refine gl (i' := 43) (fun _ _ => aw_iload_n K (dOf ck_mX12_mostSounds rfl rfl) rfl) ?_
        refine gl (i' := 44) (fun _ _ => aw_iload K (dOf ck_mX12_mostSounds rfl rfl) rfl) ?_
        refine g_callVI K [.inl _, .inl _] rfl (dOf ck_mX12_mostSounds rfl rfl) al_OneBreathModel_247 rfl rfl ⟨wd_1396, wd_87⟩ rfl (Nat.le_of_ble_eq_true rfl) ⟨Nat.le_of_ble_eq_true rfl, Nat.le_of_ble_eq_true rfl⟩ (fun b hb => met_R_mayStand  hb) (fun r14 hr14 => ?_)
        refine g_if_eq K (dOf ck_mX12_mostSounds rfl rfl) (t := 82) (aJ_of (by decide +kernel)) (fun h15 => ?_) (fun h15 => ?_)
        · refine g_sub [0, 1, 2, 3, 4] rfl ?_
          exact lk_R_mostSounds_82 K _ _ _ _ _ hk2 _ hk7 _ ih _
        · refine gl (i' := 47) (fun _ _ => aw_aload_n K (dOf ck_mX12_mostSounds rfl rfl) rfl) ?_
          refine gl (i' := 48) (fun _ _ => aw_getf K (dOf ck_mX12_mostSounds rfl rfl) rfl rfl (Nat.le_of_ble_eq_true rfl) wd_1252 (k := 47) rfl) ?_
          refine gl (i' := 49) (fun _ _ => aw_iload K (dOf ck_mX12_mostSounds rfl rfl) rfl) ?_
          refine g_gd (fun hb16 => ?_)
          refine gl (i' := 50) (fun _ _ => aw_iald K (dOf ck_mX12_mostSounds rfl rfl) rfl hb16) ?_
          refine g_if_le K (dOf ck_mX12_mostSounds rfl rfl) (t := 82) (aJ_of (by decide +kernel)) (fun h17 => ?_) (fun h17 => ?_)
          · refine gl (i' := 52) (fun _ _ => aw_aload_n K (dOf ck_mX12_mostSounds rfl rfl) rfl) ?_
            refine gl (i' := 53) (fun _ _ => aw_getf K (dOf ck_mX12_mostSounds rfl rfl) rfl rfl (Nat.le_of_ble_eq_true rfl) wd_1206 (k := 1) rfl) ?_
            refine gl (i' := 54) (fun _ _ => aw_bip K (dOf ck_mX12_mostSounds rfl rfl) (v := 19) rfl) ?_
            refine gl (i' := 55) (fun _ _ => aw_iload_n K (dOf ck_mX12_mostSounds rfl rfl) rfl) ?_
            refine gl (i' := 56) (fun _ _ => aw_iadd K (dOf ck_mX12_mostSounds rfl rfl)) ?_
            refine g_gd (fun hb18 => ?_)
            refine gl (i' := 57) (fun _ _ => aw_iald K (dOf ck_mX12_mostSounds rfl rfl) rfl hb18) ?_
            refine gl (i' := 58) (fun _ _ => aw_aload_n K (dOf ck_mX12_mostSounds rfl rfl) rfl) ?_
            refine gl (i' := 59) (fun _ _ => aw_getf K (dOf ck_mX12_mostSounds rfl rfl) rfl rfl (Nat.le_of_ble_eq_true rfl) wd_1252 (k := 47) rfl) ?_
            refine gl (i' := 60) (fun _ _ => aw_iload K (dOf ck_mX12_mostSounds rfl rfl) rfl) ?_
            refine gl (i' := 61) (fun _ _ => aw_iald K (dOf ck_mX12_mostSounds rfl rfl) rfl hb16) ?_
            refine gl (i' := 62) (fun _ _ => aw_iadd K (dOf ck_mX12_mostSounds rfl rfl)) ?_
            refine gl (i' := 63) (fun _ _ => aw_aload_n K (dOf ck_mX12_mostSounds rfl rfl) rfl) ?_
            refine gl (i' := 64) (fun _ _ => aw_getf K (dOf ck_mX12_mostSounds rfl rfl) rfl rfl (Nat.le_of_ble_eq_true rfl) wd_1253 (k := 48) rfl) ?_
            refine gl (i' := 65) (fun _ _ => aw_iload_n K (dOf ck_mX12_mostSounds rfl rfl) rfl) ?_
            refine g_gd (fun hb19 => ?_)
            refine gl (i' := 66) (fun _ _ => aw_iald K (dOf ck_mX12_mostSounds rfl rfl) rfl hb19) ?_
            refine g_icmp_le K (dOf ck_mX12_mostSounds rfl rfl) (t := 82) (aJ_of (by decide +kernel)) (fun h20 => ?_) (fun h20 => ?_)
            · refine gl (i' := 68) (fun _ _ => aw_aload_n K (dOf ck_mX12_mostSounds rfl rfl) rfl) ?_
              refine gl (i' := 69) (fun _ _ => aw_getf K (dOf ck_mX12_mostSounds rfl rfl) rfl rfl (Nat.le_of_ble_eq_true rfl) wd_1253 (k := 48) rfl) ?_
              refine gl (i' := 70) (fun _ _ => aw_iload_n K (dOf ck_mX12_mostSounds rfl rfl) rfl) ?_
              refine gl (i' := 71) (fun _ _ => aw_aload_n K (dOf ck_mX12_mostSounds rfl rfl) rfl) ?_
              refine gl (i' := 72) (fun _ _ => aw_getf K (dOf ck_mX12_mostSounds rfl rfl) rfl rfl (Nat.le_of_ble_eq_true rfl) wd_1206 (k := 1) rfl) ?_
              refine gl (i' := 73) (fun _ _ => aw_bip K (dOf ck_mX12_mostSounds rfl rfl) (v := 19) rfl) ?_
              refine gl (i' := 74) (fun _ _ => aw_iload_n K (dOf ck_mX12_mostSounds rfl rfl) rfl) ?_
              refine gl (i' := 75) (fun _ _ => aw_iadd K (dOf ck_mX12_mostSounds rfl rfl)) ?_
              refine gl (i' := 76) (fun _ _ => aw_iald K (dOf ck_mX12_mostSounds rfl rfl) rfl hb18) ?_
              refine gl (i' := 77) (fun _ _ => aw_aload_n K (dOf ck_mX12_mostSounds rfl rfl) rfl) ?_
              refine gl (i' := 78) (fun _ _ => aw_getf K (dOf ck_mX12_mostSounds rfl rfl) rfl rfl (Nat.le_of_ble_eq_true rfl) wd_1252 (k := 47) rfl) ?_
              refine gl (i' := 79) (fun _ _ => aw_iload K (dOf ck_mX12_mostSounds rfl rfl) rfl) ?_
              refine gl (i' := 80) (fun _ _ => aw_iald K (dOf ck_mX12_mostSounds rfl rfl) rfl hb16) ?_
              refine gl (i' := 81) (fun _ _ => aw_iadd K (dOf ck_mX12_mostSounds rfl rfl)) ?_
              refine g_st1 ?_
              refine gl (i' := 82) (fun _ _ => aw_iast K (dOf ck_mX12_mostSounds rfl rfl) rfl hb19) ?_
              refine g_sub [0, 1, 2, 3, 4] rfl ?_
              exact lk_R_mostSounds_82 K _ _ _ _ _ hk2 _ hk7 _ ih _
            · refine g_sub [0, 1, 2, 3, 4] rfl ?_
              exact lk_R_mostSounds_82 K _ _ _ _ _ hk2 _ hk7 _ ih _
          · refine g_sub [0, 1, 2, 3, 4] rfl ?_
            exact lk_R_mostSounds_82 K _ _ _ _ _ hk2 _ hk7 _ ih _
      · refine g_sub [0, 1, 2, 3] rfl ?_
        exact lk_R_mostSounds_84 K _ _ _ _ hk2 _ hk7 _
    · refine g_sub [0, 1, 2, 3] rfl ?_
      exact lk_R_mostSounds_84 K _ _ _ _ hk2 _ hk7 _
def R_mostSounds_30 (k2 : Int → aM → Option (Int × aM)) (k7 : Int → aM → Option (Int × aM)) (x1 : Int) (x2 : Int) (x3 : Int) (s0 : Int) (s1 : Int) (mm : aM) : Option (Int × aM) := if 0 ≤ s1 ∧ s1 < 13 then (st1 (aup mm 203 s1.toNat s0) fun mm11 => (R_mostSounds_33 k2 k7 x1 x2 x3 FU 0 mm11)) else none
set_option maxHeartbeats 4000000 in
theorem lk_R_mostSounds_30 {p : Program} {l : Launch} {e : Env} {s : State} {m : MethodId} {args : Array Value} {below : List Frame} {meth : Method} {c : Code} {D : va_G} {cA : FieldType → ClassId} {ad adV : Nat → Nat} {z0 : Nat} {al0 : List Nat} (K : aK p s m args meth c mX12_mostSounds D cA ad adV z0) (x1 : Int) (x2 : Int) (x3 : Int) (k2 : Int → aM → Option (Int × aM)) (hk2 : ∀ (x2 : Int) (mm : aM), aG p l e { frames := 1, cells := 0, slots := 0, locals := 22 } s m args below meth c D cA ad z0 mX12_mostSounds al0 rIM (k2 x2 mm) 2 [(0, .inr (.inr (.inl (some 176)))), (1, .inl x1), (2, .inl x2)] [] mm) (k7 : Int → aM → Option (Int × aM)) (hk7 : ∀ (x3 : Int) (mm : aM), aG p l e { frames := 1, cells := 0, slots := 0, locals := 22 } s m args below meth c D cA ad z0 mX12_mostSounds al0 rIM (k7 x3 mm) 7 [(0, .inr (.inr (.inl (some 176)))), (1, .inl x1), (2, .inl x2), (3, .inl x3)] [] mm)  (s0 : Int) (s1 : Int) (mm : aM) : aG p l e { frames := 1, cells := 0, slots := 0, locals := 22 } s m args below meth c D cA ad z0 mX12_mostSounds al0 rIM (R_mostSounds_30 k2 k7 x1 x2 x3 s0 s1 mm) 30 [(0, .inr (.inr (.inl (some 176)))), (1, .inl x1), (2, .inl x2), (3, .inl x3)] [.inl s0, .inl s1, .inr (.inr (.inl (some 203)))] mm := by
  unfold R_mostSounds_30
  refine g_gd (fun hb10 => ?_)
  refine g_st1 ?_
  refine gl (i' := 31) (fun _ _ => aw_iast K (dOf ck_mX12_mostSounds rfl rfl) rfl hb10) ?_
  refine gl (i' := 32) (fun _ _ => aw_iconst K (n := 0) (i32 _ rfl) (dOf ck_mX12_mostSounds rfl rfl)) ?_
  refine gl (i' := 33) (fun _ _ => aw_istore K (dOf ck_mX12_mostSounds rfl rfl) (Nat.le_of_ble_eq_true rfl)) ?_
  refine g_lv (lv' := [(4, .inl _), (0, .inr (.inr (.inl (some _)))), (1, .inl _), (2, .inl _), (3, .inl _)]) rfl ?_
  refine g_sub [1, 2, 3, 4, 0] rfl ?_
  exact lk_R_mostSounds_33 K _ _ _ _ hk2 _ hk7 FU _ _
def R_mostSounds_29 (k2 : Int → aM → Option (Int × aM)) (k7 : Int → aM → Option (Int × aM)) (x1 : Int) (x2 : Int) (x3 : Int) (s0 : Int) (mm : aM) : Option (Int × aM) := R_mostSounds_30 k2 k7 x1 x2 x3 0 s0 mm
set_option maxHeartbeats 4000000 in
theorem lk_R_mostSounds_29 {p : Program} {l : Launch} {e : Env} {s : State} {m : MethodId} {args : Array Value} {below : List Frame} {meth : Method} {c : Code} {D : va_G} {cA : FieldType → ClassId} {ad adV : Nat → Nat} {z0 : Nat} {al0 : List Nat} (K : aK p s m args meth c mX12_mostSounds D cA ad adV z0) (x1 : Int) (x2 : Int) (x3 : Int) (k2 : Int → aM → Option (Int × aM)) (hk2 : ∀ (x2 : Int) (mm : aM), aG p l e { frames := 1, cells := 0, slots := 0, locals := 22 } s m args below meth c D cA ad z0 mX12_mostSounds al0 rIM (k2 x2 mm) 2 [(0, .inr (.inr (.inl (some 176)))), (1, .inl x1), (2, .inl x2)] [] mm) (k7 : Int → aM → Option (Int × aM)) (hk7 : ∀ (x3 : Int) (mm : aM), aG p l e { frames := 1, cells := 0, slots := 0, locals := 22 } s m args below meth c D cA ad z0 mX12_mostSounds al0 rIM (k7 x3 mm) 7 [(0, .inr (.inr (.inl (some 176)))), (1, .inl x1), (2, .inl x2), (3, .inl x3)] [] mm)  (s0 : Int) (mm : aM) : aG p l e { frames := 1, cells := 0, slots := 0, locals := 22 } s m args below meth c D cA ad z0 mX12_mostSounds al0 rIM (R_mostSounds_29 k2 k7 x1 x2 x3 s0 mm) 29 [(0, .inr (.inr (.inl (some 176)))), (1, .inl x1), (2, .inl x2), (3, .inl x3)] [.inl s0, .inr (.inr (.inl (some 203)))] mm := by
  unfold R_mostSounds_29
  refine gl (i' := 30) (fun _ _ => aw_iconst K (n := 0) (i32 _ rfl) (dOf ck_mX12_mostSounds rfl rfl)) ?_
  refine g_sub [0, 1, 2, 3] rfl ?_
  exact lk_R_mostSounds_30 K _ _ _ _ hk2 _ hk7 _ _ _
def R_mostSounds_7 (k2 : Int → aM → Option (Int × aM)) (x1 : Int) (x2 : Int) : Nat → Int → aM → Option (Int × aM)
  | 0, _, _ => none
  | n + 1, x3, mm => if x3 < (mm 177 18) then (if x2 = 0 then ((R_mayEnd x3 mm).bind fun r22 => (if r22 = 0 then (R_mostSounds_29 k2 (R_mostSounds_7 k2 x1 x2 n) x1 x2 x3 x3 mm) else (if 0 ≤ (w32 (19 + x3)) ∧ (w32 (19 + x3)) < 588 then (R_mostSounds_30 k2 (R_mostSounds_7 k2 x1 x2 n) x1 x2 x3 (mm 177 (w32 (19 + x3)).toNat) x3 mm) else none))) else (R_mostSounds_29 k2 (R_mostSounds_7 k2 x1 x2 n) x1 x2 x3 x3 mm)) else (R_mostSounds_88 k2 x1 x2 FU 0 mm)
set_option maxHeartbeats 4000000 in
theorem lk_R_mostSounds_7 {p : Program} {l : Launch} {e : Env} {s : State} {m : MethodId} {args : Array Value} {below : List Frame} {meth : Method} {c : Code} {D : va_G} {cA : FieldType → ClassId} {ad adV : Nat → Nat} {z0 : Nat} {al0 : List Nat} (K : aK p s m args meth c mX12_mostSounds D cA ad adV z0) (x1 : Int) (x2 : Int) (k2 : Int → aM → Option (Int × aM)) (hk2 : ∀ (x2 : Int) (mm : aM), aG p l e { frames := 1, cells := 0, slots := 0, locals := 22 } s m args below meth c D cA ad z0 mX12_mostSounds al0 rIM (k2 x2 mm) 2 [(0, .inr (.inr (.inl (some 176)))), (1, .inl x1), (2, .inl x2)] [] mm)  : ∀ (n : Nat) (x3 : Int) (mm : aM), aG p l e { frames := 1, cells := 0, slots := 0, locals := 22 } s m args below meth c D cA ad z0 mX12_mostSounds al0 rIM (R_mostSounds_7 k2 x1 x2 n x3 mm) 7 [(0, .inr (.inr (.inl (some 176)))), (1, .inl x1), (2, .inl x2), (3, .inl x3)] [] mm := by
  intro n
  induction n with
  | zero => intro x3 mm; exact g_none
  | succ n ih =>
    intro x3 mm
    rw [R_mostSounds_7]
    refine gl (i' := 8) (fun _ _ => aw_iload_n K (dOf ck_mX12_mostSounds rfl rfl) rfl) ?_
    refine gl (i' := 9) (fun _ _ => aw_aload_n K (dOf ck_mX12_mostSounds rfl rfl) rfl) ?_
    refine gl (i' := 10) (fun _ _ => aw_getf K (dOf ck_mX12_mostSounds rfl rfl) rfl rfl (Nat.le_of_ble_eq_true rfl) wd_1206 (k := 1) rfl) ?_
    refine gl (i' := 11) (fun _ _ => aw_bip K (dOf ck_mX12_mostSounds rfl rfl) (v := 18) rfl) ?_
    refine gl (i' := 12) (fun _ _ => aw_iald K (dOf ck_mX12_mostSounds rfl rfl) rfl (by decide)) ?_
    refine g_icmp_ge K (dOf ck_mX12_mostSounds rfl rfl) (t := 86) (aJ_of (by decide +kernel)) (fun h5 => ?_) (fun h5 => ?_)
    · refine gl (i' := 14) (fun _ _ => aw_aload_n K (dOf ck_mX12_mostSounds rfl rfl) rfl) ?_
      refine gl (i' := 15) (fun _ _ => aw_getf K (dOf ck_mX12_mostSounds rfl rfl) rfl rfl (Nat.le_of_ble_eq_true rfl) wd_1253 (k := 48) rfl) ?_
      refine gl (i' := 16) (fun _ _ => aw_iload_n K (dOf ck_mX12_mostSounds rfl rfl) rfl) ?_
      refine gl (i' := 17) (fun _ _ => aw_iload_n K (dOf ck_mX12_mostSounds rfl rfl) rfl) ?_
      refine g_if_ne K (dOf ck_mX12_mostSounds rfl rfl) (t := 29) (aJ_of (by decide +kernel)) (fun h9 => ?_) (fun h9 => ?_)
      · refine gl (i' := 19) (fun _ _ => aw_aload_n K (dOf ck_mX12_mostSounds rfl rfl) rfl) ?_
        refine gl (i' := 20) (fun _ _ => aw_iload_n K (dOf ck_mX12_mostSounds rfl rfl) rfl) ?_
        refine g_callVI K [.inl _] rfl (dOf ck_mX12_mostSounds rfl rfl) al_OneBreathModel_253 rfl rfl ⟨wd_1402, wd_89⟩ rfl (Nat.le_of_ble_eq_true rfl) ⟨Nat.le_of_ble_eq_true rfl, Nat.le_of_ble_eq_true rfl⟩ (fun b hb => met_R_mayEnd  hb) (fun r22 hr22 => ?_)
        refine g_if_eq K (dOf ck_mX12_mostSounds rfl rfl) (t := 29) (aJ_of (by decide +kernel)) (fun h23 => ?_) (fun h23 => ?_)
        · refine g_sub [0, 1, 2, 3] rfl ?_
          exact lk_R_mostSounds_29 K _ _ _ _ hk2 _ ih _ _
        · refine gl (i' := 23) (fun _ _ => aw_aload_n K (dOf ck_mX12_mostSounds rfl rfl) rfl) ?_
          refine gl (i' := 24) (fun _ _ => aw_getf K (dOf ck_mX12_mostSounds rfl rfl) rfl rfl (Nat.le_of_ble_eq_true rfl) wd_1206 (k := 1) rfl) ?_
          refine gl (i' := 25) (fun _ _ => aw_bip K (dOf ck_mX12_mostSounds rfl rfl) (v := 19) rfl) ?_
          refine gl (i' := 26) (fun _ _ => aw_iload_n K (dOf ck_mX12_mostSounds rfl rfl) rfl) ?_
          refine gl (i' := 27) (fun _ _ => aw_iadd K (dOf ck_mX12_mostSounds rfl rfl)) ?_
          refine g_gd (fun hb24 => ?_)
          refine gl (i' := 28) (fun _ _ => aw_iald K (dOf ck_mX12_mostSounds rfl rfl) rfl hb24) ?_
          refine g_goto K (dOf ck_mX12_mostSounds rfl rfl).1 (t := 30) (aJ_of (by decide +kernel)) ?_
          refine g_sub [0, 1, 2, 3] rfl ?_
          exact lk_R_mostSounds_30 K _ _ _ _ hk2 _ ih _ _ _
      · refine g_sub [0, 1, 2, 3] rfl ?_
        exact lk_R_mostSounds_29 K _ _ _ _ hk2 _ ih _ _
    · refine gl (i' := 87) (fun _ _ => aw_iconst K (n := 0) (i32 _ rfl) (dOf ck_mX12_mostSounds rfl rfl)) ?_
      refine gl (i' := 88) (fun _ _ => aw_istore_n K (dOf ck_mX12_mostSounds rfl rfl) (Nat.le_of_ble_eq_true rfl)) ?_
      refine g_lv (lv' := [(3, .inl _), (0, .inr (.inr (.inl (some _)))), (1, .inl _), (2, .inl _)]) rfl ?_
      refine g_sub [1, 2, 3, 0] rfl ?_
      exact lk_R_mostSounds_88 K _ _ _ hk2 FU _ _
def R_mostSounds_2 (x1 : Int) : Nat → Int → aM → Option (Int × aM)
  | 0, _, _ => none
  | n + 1, x2, mm => if x2 < x1 then (R_mostSounds_7 (R_mostSounds_2 x1 n) x1 x2 FU 0 mm) else (R_mostSounds_110 FU 0 0 mm)
set_option maxHeartbeats 4000000 in
theorem lk_R_mostSounds_2 {p : Program} {l : Launch} {e : Env} {s : State} {m : MethodId} {args : Array Value} {below : List Frame} {meth : Method} {c : Code} {D : va_G} {cA : FieldType → ClassId} {ad adV : Nat → Nat} {z0 : Nat} {al0 : List Nat} (K : aK p s m args meth c mX12_mostSounds D cA ad adV z0) (x1 : Int)  : ∀ (n : Nat) (x2 : Int) (mm : aM), aG p l e { frames := 1, cells := 0, slots := 0, locals := 22 } s m args below meth c D cA ad z0 mX12_mostSounds al0 rIM (R_mostSounds_2 x1 n x2 mm) 2 [(0, .inr (.inr (.inl (some 176)))), (1, .inl x1), (2, .inl x2)] [] mm := by
  intro n
  induction n with
  | zero => intro x2 mm; exact g_none
  | succ n ih =>
    intro x2 mm
    rw [R_mostSounds_2]
    refine gl (i' := 3) (fun _ _ => aw_iload_n K (dOf ck_mX12_mostSounds rfl rfl) rfl) ?_
    refine gl (i' := 4) (fun _ _ => aw_iload_n K (dOf ck_mX12_mostSounds rfl rfl) rfl) ?_
    refine g_icmp_ge K (dOf ck_mX12_mostSounds rfl rfl) (t := 106) (aJ_of (by decide +kernel)) (fun h1 => ?_) (fun h1 => ?_)
    · refine gl (i' := 6) (fun _ _ => aw_iconst K (n := 0) (i32 _ rfl) (dOf ck_mX12_mostSounds rfl rfl)) ?_
      refine gl (i' := 7) (fun _ _ => aw_istore_n K (dOf ck_mX12_mostSounds rfl rfl) (Nat.le_of_ble_eq_true rfl)) ?_
      refine g_lv (lv' := [(3, .inl _), (0, .inr (.inr (.inl (some _)))), (1, .inl _), (2, .inl _)]) rfl ?_
      refine g_sub [1, 2, 3, 0] rfl ?_
      exact lk_R_mostSounds_7 K _ _ _ ih FU _ _
    · refine gl (i' := 107) (fun _ _ => aw_iconst K (n := 0) (i32 _ rfl) (dOf ck_mX12_mostSounds rfl rfl)) ?_
      refine gl (i' := 108) (fun _ _ => aw_istore_n K (dOf ck_mX12_mostSounds rfl rfl) (Nat.le_of_ble_eq_true rfl)) ?_
      refine g_lv (lv' := [(2, .inl _), (0, .inr (.inr (.inl (some _)))), (1, .inl _)]) rfl ?_
      refine gl (i' := 109) (fun _ _ => aw_iconst K (n := 0) (i32 _ rfl) (dOf ck_mX12_mostSounds rfl rfl)) ?_
      refine gl (i' := 110) (fun _ _ => aw_istore_n K (dOf ck_mX12_mostSounds rfl rfl) (Nat.le_of_ble_eq_true rfl)) ?_
      refine g_lv (lv' := [(3, .inl _), (2, .inl _), (0, .inr (.inr (.inl (some _)))), (1, .inl _)]) rfl ?_
      refine g_sub [2, 1, 0] rfl ?_
      exact lk_R_mostSounds_110 K FU _ _ _
def R_mostSounds (x1 : Int) (mm : aM) : Option (Int × aM) := R_mostSounds_2 x1 FU 0 mm
set_option maxHeartbeats 4000000 in
theorem met_R_mostSounds {l : Launch} {D : va_G} {cA : FieldType → ClassId} {ad adV : Nat → Nat} {z0 : Nat} {x1 : Int} {mm : aM}  {r : Int × aM} (h : R_mostSounds x1 mm = some r) : aMet l D cA ad adV z0 mX12_mostSounds 1 22 0 0 [.inr (.inr (.inl (some 176))), .inl x1] SH mm (rIM r).1 SH (rIM r).2 := by
  refine aMet_ofG (by decide +kernel) rfl (Nat.le_of_ble_eq_true rfl) h (fun p e s m args below meth c al0 K => ?_)
  unfold R_mostSounds
  refine gl (i' := 1) (fun _ _ => aw_iconst K (n := 0) (i32 _ rfl) (dOf ck_mX12_mostSounds rfl rfl)) ?_
  refine gl (i' := 2) (fun _ _ => aw_istore_n K (dOf ck_mX12_mostSounds rfl rfl) (Nat.le_of_ble_eq_true rfl)) ?_
  refine g_lv (lv' := [(2, .inl _), (0, .inr (.inr (.inl (some _)))), (1, .inl _)]) rfl ?_
  refine g_sub [1, 2, 0] rfl ?_
  exact lk_R_mostSounds_2 K _ FU _ _
