def R_spreadsPair_45 (k40 : Int → aM → Option aM) (x2 : Int) (x3 : Int) (x5 : Int) (x6 : Int) (x9 : Int) (x10 : Int) (x11 : Int) : Nat → Int → aM → Option aM
  | 0, _, _ => none
  | n + 1, x12, mm => if x12 < x10 then (if 0 ≤ x11 ∧ x11 < 13 then (if 0 ≤ x12 ∧ x12 < 13 then ((R_goesTo (mm 194 x11.toNat) (mm 195 x12.toNat) x6 x5 x2 x3 mm).bind fun r7 => (R_spreadsPair_45 k40 x2 x3 x5 x6 x9 x10 x11 n (w32 (x12 + 1)) r7)) else none) else none) else (k40 (w32 (x11 + 1)) mm)
set_option maxHeartbeats 4000000 in
theorem lk_R_spreadsPair_45 {p : Program} {l : Launch} {e : Env} {s : State} {m : MethodId} {args : Array Value} {below : List Frame} {meth : Method} {c : Code} {D : va_G} {cA : FieldType → ClassId} {ad adV : Nat → Nat} {z0 : Nat} {al0 : List Nat} (K : aK p s m args meth c mX12_spreadsPair D cA ad adV z0) (x2 : Int) (x3 : Int) (x5 : Int) (x6 : Int) (x9 : Int) (x10 : Int) (x11 : Int) (k40 : Int → aM → Option aM) (hk40 : ∀ (x11 : Int) (mm : aM), aG p l e { frames := 3, cells := 0, slots := 0, locals := 70 } s m args below meth c D cA ad z0 mX12_spreadsPair al0 rM (k40 x11 mm) 40 [(0, .inr (.inr (.inl (some 176)))), (2, .inl x2), (3, .inl x3), (5, .inl x5), (6, .inl x6), (9, .inl x9), (10, .inl x10), (11, .inl x11)] [] mm)  : ∀ (n : Nat) (x12 : Int) (mm : aM), aG p l e { frames := 3, cells := 0, slots := 0, locals := 70 } s m args below meth c D cA ad z0 mX12_spreadsPair al0 rM (R_spreadsPair_45 k40 x2 x3 x5 x6 x9 x10 x11 n x12 mm) 45 [(0, .inr (.inr (.inl (some 176)))), (2, .inl x2), (3, .inl x3), (5, .inl x5), (6, .inl x6), (9, .inl x9), (10, .inl x10), (11, .inl x11), (12, .inl x12)] [] mm := by
  intro n
  induction n with
  | zero => intro x12 mm; exact g_none
  | succ n ih =>
    intro x12 mm
    rw [R_spreadsPair_45]
    refine gl (i' := 46) (fun _ _ => aw_iload K (dOf ck_mX12_spreadsPair rfl rfl) rfl) ?_
    refine gl (i' := 47) (fun _ _ => aw_iload K (dOf ck_mX12_spreadsPair rfl rfl) rfl) ?_
    refine g_icmp_ge K (dOf ck_mX12_spreadsPair rfl rfl) (t := 64) (aJ_of (by decide +kernel)) (fun h4 => ?_) (fun h4 => ?_)
    · refine gl (i' := 49) (fun _ _ => aw_aload_n K (dOf ck_mX12_spreadsPair rfl rfl) rfl) ?_
      refine gl (i' := 50) (fun _ _ => aw_aload_n K (dOf ck_mX12_spreadsPair rfl rfl) rfl) ?_
      refine gl (i' := 51) (fun _ _ => aw_getf K (dOf ck_mX12_spreadsPair rfl rfl) rfl rfl (Nat.le_of_ble_eq_true rfl) wd_1240 (k := 35) rfl) ?_
      refine gl (i' := 52) (fun _ _ => aw_iload K (dOf ck_mX12_spreadsPair rfl rfl) rfl) ?_
      refine g_gd (fun hb5 => ?_)
      refine gl (i' := 53) (fun _ _ => aw_iald K (dOf ck_mX12_spreadsPair rfl rfl) rfl hb5) ?_
      refine gl (i' := 54) (fun _ _ => aw_aload_n K (dOf ck_mX12_spreadsPair rfl rfl) rfl) ?_
      refine gl (i' := 55) (fun _ _ => aw_getf K (dOf ck_mX12_spreadsPair rfl rfl) rfl rfl (Nat.le_of_ble_eq_true rfl) wd_1241 (k := 36) rfl) ?_
      refine gl (i' := 56) (fun _ _ => aw_iload K (dOf ck_mX12_spreadsPair rfl rfl) rfl) ?_
      refine g_gd (fun hb6 => ?_)
      refine gl (i' := 57) (fun _ _ => aw_iald K (dOf ck_mX12_spreadsPair rfl rfl) rfl hb6) ?_
      refine gl (i' := 58) (fun _ _ => aw_iload K (dOf ck_mX12_spreadsPair rfl rfl) rfl) ?_
      refine gl (i' := 59) (fun _ _ => aw_iload K (dOf ck_mX12_spreadsPair rfl rfl) rfl) ?_
      refine gl (i' := 60) (fun _ _ => aw_iload_n K (dOf ck_mX12_spreadsPair rfl rfl) rfl) ?_
      refine gl (i' := 61) (fun _ _ => aw_iload_n K (dOf ck_mX12_spreadsPair rfl rfl) rfl) ?_
      refine g_callVM K [.inl _, .inl _, .inl _, .inl _, .inl _, .inl _] rfl (dOf ck_mX12_spreadsPair rfl rfl) al_OneBreathModel_352 rfl rfl ⟨wd_1501, wd_111⟩ rfl (Nat.le_of_ble_eq_true rfl) ⟨Nat.le_of_ble_eq_true rfl, Nat.le_of_ble_eq_true rfl⟩ (fun b hb => met_R_goesTo  hb) (fun r7 hr7 => ?_)
      refine gl (i' := 63) (fun _ _ => aw_iinc K (dOf ck_mX12_spreadsPair rfl rfl) (Nat.le_of_ble_eq_true rfl) rfl) ?_
      refine g_lv (lv' := [(12, .inl _), (0, .inr (.inr (.inl (some _)))), (2, .inl _), (3, .inl _), (5, .inl _), (6, .inl _), (9, .inl _), (10, .inl _), (11, .inl _)]) rfl ?_
      refine g_goto K (dOf ck_mX12_spreadsPair rfl rfl).1 (t := 45) (aJ_of (by decide +kernel)) ?_
      refine g_sub [1, 2, 3, 4, 5, 6, 7, 8, 0] rfl ?_
      exact ih _ _
    · refine gl (i' := 65) (fun _ _ => aw_iinc K (dOf ck_mX12_spreadsPair rfl rfl) (Nat.le_of_ble_eq_true rfl) rfl) ?_
      refine g_lv (lv' := [(11, .inl _), (0, .inr (.inr (.inl (some _)))), (2, .inl _), (3, .inl _), (5, .inl _), (6, .inl _), (9, .inl _), (10, .inl _), (12, .inl _)]) rfl ?_
      refine g_goto K (dOf ck_mX12_spreadsPair rfl rfl).1 (t := 40) (aJ_of (by decide +kernel)) ?_
      refine g_sub [1, 2, 3, 4, 5, 6, 7, 0] rfl ?_
      exact hk40 _ _
def R_spreadsPair_40 (x2 : Int) (x3 : Int) (x5 : Int) (x6 : Int) (x9 : Int) (x10 : Int) : Nat → Int → aM → Option aM
  | 0, _, _ => none
  | n + 1, x11, mm => if x11 < x9 then (R_spreadsPair_45 (R_spreadsPair_40 x2 x3 x5 x6 x9 x10 n) x2 x3 x5 x6 x9 x10 x11 FU 0 mm) else (some mm)
set_option maxHeartbeats 4000000 in
theorem lk_R_spreadsPair_40 {p : Program} {l : Launch} {e : Env} {s : State} {m : MethodId} {args : Array Value} {below : List Frame} {meth : Method} {c : Code} {D : va_G} {cA : FieldType → ClassId} {ad adV : Nat → Nat} {z0 : Nat} {al0 : List Nat} (K : aK p s m args meth c mX12_spreadsPair D cA ad adV z0) (x2 : Int) (x3 : Int) (x5 : Int) (x6 : Int) (x9 : Int) (x10 : Int)  : ∀ (n : Nat) (x11 : Int) (mm : aM), aG p l e { frames := 3, cells := 0, slots := 0, locals := 70 } s m args below meth c D cA ad z0 mX12_spreadsPair al0 rM (R_spreadsPair_40 x2 x3 x5 x6 x9 x10 n x11 mm) 40 [(0, .inr (.inr (.inl (some 176)))), (2, .inl x2), (3, .inl x3), (5, .inl x5), (6, .inl x6), (9, .inl x9), (10, .inl x10), (11, .inl x11)] [] mm := by
  intro n
  induction n with
  | zero => intro x11 mm; exact g_none
  | succ n ih =>
    intro x11 mm
    rw [R_spreadsPair_40]
    refine gl (i' := 41) (fun _ _ => aw_iload K (dOf ck_mX12_spreadsPair rfl rfl) rfl) ?_
    refine gl (i' := 42) (fun _ _ => aw_iload K (dOf ck_mX12_spreadsPair rfl rfl) rfl) ?_
    refine g_icmp_ge K (dOf ck_mX12_spreadsPair rfl rfl) (t := 66) (aJ_of (by decide +kernel)) (fun h3 => ?_) (fun h3 => ?_)
    · refine gl (i' := 44) (fun _ _ => aw_iconst K (n := 0) (i32 _ rfl) (dOf ck_mX12_spreadsPair rfl rfl)) ?_
      refine gl (i' := 45) (fun _ _ => aw_istore K (dOf ck_mX12_spreadsPair rfl rfl) (Nat.le_of_ble_eq_true rfl)) ?_
      refine g_lv (lv' := [(12, .inl _), (0, .inr (.inr (.inl (some _)))), (2, .inl _), (3, .inl _), (5, .inl _), (6, .inl _), (9, .inl _), (10, .inl _), (11, .inl _)]) rfl ?_
      refine g_sub [1, 2, 3, 4, 5, 6, 7, 8, 0] rfl ?_
      exact lk_R_spreadsPair_45 K _ _ _ _ _ _ _ _ ih FU _ _
    · exact g_vret K (by decide +kernel) rfl rfl
def R_spreadsPair (x1 : Int) (x2 : Int) (x3 : Int) (mm : aM) : Option aM := (R_follows (w32 (Int.tdiv (w32 (Int.tdiv (w32 (x1 - 78)) 9)) 78)) 194 mm).bind fun r1 => ((R_follows (Int.tmod (w32 (Int.tdiv (w32 (x1 - 78)) 9)) 78) 195 r1.2).bind fun r2 => (R_spreadsPair_40 x2 x3 (Int.tmod (w32 (x1 - 78)) 3) (Int.tmod (w32 (Int.tdiv (w32 (x1 - 78)) 3)) 3) r1.1 r2.1 FU 0 r2.2))
set_option maxHeartbeats 4000000 in
theorem met_R_spreadsPair {l : Launch} {D : va_G} {cA : FieldType → ClassId} {ad adV : Nat → Nat} {z0 : Nat} {x1 : Int} {x2 : Int} {x3 : Int} {mm : aM}  {r : aM} (h : R_spreadsPair x1 x2 x3 mm = some r) : aMet l D cA ad adV z0 mX12_spreadsPair 3 70 0 0 [.inr (.inr (.inl (some 176))), .inl x1, .inl x2, .inl x3] SH mm (rM r).1 SH (rM r).2 := by
  refine aMet_ofG (by decide +kernel) rfl (Nat.le_of_ble_eq_true rfl) h (fun p e s m args below meth c al0 K => ?_)
  unfold R_spreadsPair
  refine gl (i' := 1) (fun _ _ => aw_iload_n K (dOf ck_mX12_spreadsPair rfl rfl) rfl) ?_
  refine gl (i' := 2) (fun _ _ => aw_bip K (dOf ck_mX12_spreadsPair rfl rfl) (v := 78) rfl) ?_
  refine gl (i' := 3) (fun _ _ => aw_isub K (dOf ck_mX12_spreadsPair rfl rfl)) ?_
  refine gl (i' := 4) (fun _ _ => aw_istore K (dOf ck_mX12_spreadsPair rfl rfl) (Nat.le_of_ble_eq_true rfl)) ?_
  refine g_lv (lv' := [(4, .inl _), (0, .inr (.inr (.inl (some _)))), (1, .inl _), (2, .inl _), (3, .inl _)]) rfl ?_
  refine gl (i' := 5) (fun _ _ => aw_iload K (dOf ck_mX12_spreadsPair rfl rfl) rfl) ?_
  refine gl (i' := 6) (fun _ _ => aw_iconst K (n := 3) (i32 _ rfl) (dOf ck_mX12_spreadsPair rfl rfl)) ?_
  refine gl (i' := 7) (fun _ _ => aw_irem K (by decide) (dOf ck_mX12_spreadsPair rfl rfl)) ?_
  refine gl (i' := 8) (fun _ _ => aw_istore K (dOf ck_mX12_spreadsPair rfl rfl) (Nat.le_of_ble_eq_true rfl)) ?_
  refine g_lv (lv' := [(5, .inl _), (4, .inl _), (0, .inr (.inr (.inl (some _)))), (1, .inl _), (2, .inl _), (3, .inl _)]) rfl ?_
  refine gl (i' := 9) (fun _ _ => aw_iload K (dOf ck_mX12_spreadsPair rfl rfl) rfl) ?_
  refine gl (i' := 10) (fun _ _ => aw_iconst K (n := 3) (i32 _ rfl) (dOf ck_mX12_spreadsPair rfl rfl)) ?_
  refine gl (i' := 11) (fun _ _ => aw_idiv K (by decide) (dOf ck_mX12_spreadsPair rfl rfl)) ?_
  refine gl (i' := 12) (fun _ _ => aw_iconst K (n := 3) (i32 _ rfl) (dOf ck_mX12_spreadsPair rfl rfl)) ?_
  refine gl (i' := 13) (fun _ _ => aw_irem K (by decide) (dOf ck_mX12_spreadsPair rfl rfl)) ?_
  refine gl (i' := 14) (fun _ _ => aw_istore K (dOf ck_mX12_spreadsPair rfl rfl) (Nat.le_of_ble_eq_true rfl)) ?_
  refine g_lv (lv' := [(6, .inl _), (5, .inl _), (4, .inl _), (0, .inr (.inr (.inl (some _)))), (1, .inl _), (2, .inl _), (3, .inl _)]) rfl ?_
  refine gl (i' := 15) (fun _ _ => aw_iload K (dOf ck_mX12_spreadsPair rfl rfl) rfl) ?_
  refine gl (i' := 16) (fun _ _ => aw_bip K (dOf ck_mX12_spreadsPair rfl rfl) (v := 9) rfl) ?_
  refine gl (i' := 17) (fun _ _ => aw_idiv K (by decide) (dOf ck_mX12_spreadsPair rfl rfl)) ?_
  refine gl (i' := 18) (fun _ _ => aw_bip K (dOf ck_mX12_spreadsPair rfl rfl) (v := 78) rfl) ?_
  refine gl (i' := 19) (fun _ _ => aw_idiv K (by decide) (dOf ck_mX12_spreadsPair rfl rfl)) ?_
  refine gl (i' := 20) (fun _ _ => aw_istore K (dOf ck_mX12_spreadsPair rfl rfl) (Nat.le_of_ble_eq_true rfl)) ?_
  refine g_lv (lv' := [(7, .inl _), (6, .inl _), (5, .inl _), (4, .inl _), (0, .inr (.inr (.inl (some _)))), (1, .inl _), (2, .inl _), (3, .inl _)]) rfl ?_
  refine gl (i' := 21) (fun _ _ => aw_iload K (dOf ck_mX12_spreadsPair rfl rfl) rfl) ?_
  refine gl (i' := 22) (fun _ _ => aw_bip K (dOf ck_mX12_spreadsPair rfl rfl) (v := 9) rfl) ?_
  refine gl (i' := 23) (fun _ _ => aw_idiv K (by decide) (dOf ck_mX12_spreadsPair rfl rfl)) ?_
  refine gl (i' := 24) (fun _ _ => aw_bip K (dOf ck_mX12_spreadsPair rfl rfl) (v := 78) rfl) ?_
  refine gl (i' := 25) (fun _ _ => aw_irem K (by decide) (dOf ck_mX12_spreadsPair rfl rfl)) ?_
  refine gl (i' := 26) (fun _ _ => aw_istore K (dOf ck_mX12_spreadsPair rfl rfl) (Nat.le_of_ble_eq_true rfl)) ?_
  refine g_lv (lv' := [(8, .inl _), (7, .inl _), (6, .inl _), (5, .inl _), (4, .inl _), (0, .inr (.inr (.inl (some _)))), (1, .inl _), (2, .inl _), (3, .inl _)]) rfl ?_
  refine gl (i' := 27) (fun _ _ => aw_aload_n K (dOf ck_mX12_spreadsPair rfl rfl) rfl) ?_
  refine gl (i' := 28) (fun _ _ => aw_iload K (dOf ck_mX12_spreadsPair rfl rfl) rfl) ?_
  refine gl (i' := 29) (fun _ _ => aw_aload_n K (dOf ck_mX12_spreadsPair rfl rfl) rfl) ?_
  refine gl (i' := 30) (fun _ _ => aw_getf K (dOf ck_mX12_spreadsPair rfl rfl) rfl rfl (Nat.le_of_ble_eq_true rfl) wd_1240 (k := 35) rfl) ?_
  refine g_callVIM K [.inl _, .inr (.inr (.inl (some _)))] rfl (dOf ck_mX12_spreadsPair rfl rfl) al_OneBreathModel_348 rfl rfl ⟨wd_1486, wd_106⟩ rfl (Nat.le_of_ble_eq_true rfl) ⟨Nat.le_of_ble_eq_true rfl, Nat.le_of_ble_eq_true rfl⟩ (fun b hb => met_R_follows ⟨_, rfl⟩ hb) (fun r1 hr1 => ?_)
  refine gl (i' := 32) (fun _ _ => aw_istore K (dOf ck_mX12_spreadsPair rfl rfl) (Nat.le_of_ble_eq_true rfl)) ?_
  refine g_lv (lv' := [(9, .inl _), (8, .inl _), (7, .inl _), (6, .inl _), (5, .inl _), (4, .inl _), (0, .inr (.inr (.inl (some _)))), (1, .inl _), (2, .inl _), (3, .inl _)]) rfl ?_
  refine gl (i' := 33) (fun _ _ => aw_aload_n K (dOf ck_mX12_spreadsPair rfl rfl) rfl) ?_
  refine gl (i' := 34) (fun _ _ => aw_iload K (dOf ck_mX12_spreadsPair rfl rfl) rfl) ?_
  refine gl (i' := 35) (fun _ _ => aw_aload_n K (dOf ck_mX12_spreadsPair rfl rfl) rfl) ?_
  refine gl (i' := 36) (fun _ _ => aw_getf K (dOf ck_mX12_spreadsPair rfl rfl) rfl rfl (Nat.le_of_ble_eq_true rfl) wd_1241 (k := 36) rfl) ?_
  refine g_callVIM K [.inl _, .inr (.inr (.inl (some _)))] rfl (dOf ck_mX12_spreadsPair rfl rfl) al_OneBreathModel_348 rfl rfl ⟨wd_1486, wd_106⟩ rfl (Nat.le_of_ble_eq_true rfl) ⟨Nat.le_of_ble_eq_true rfl, Nat.le_of_ble_eq_true rfl⟩ (fun b hb => met_R_follows ⟨_, rfl⟩ hb) (fun r2 hr2 => ?_)
  refine gl (i' := 38) (fun _ _ => aw_istore K (dOf ck_mX12_spreadsPair rfl rfl) (Nat.le_of_ble_eq_true rfl)) ?_
  refine g_lv (lv' := [(10, .inl _), (9, .inl _), (8, .inl _), (7, .inl _), (6, .inl _), (5, .inl _), (4, .inl _), (0, .inr (.inr (.inl (some _)))), (1, .inl _), (2, .inl _), (3, .inl _)]) rfl ?_
  refine gl (i' := 39) (fun _ _ => aw_iconst K (n := 0) (i32 _ rfl) (dOf ck_mX12_spreadsPair rfl rfl)) ?_
  refine gl (i' := 40) (fun _ _ => aw_istore K (dOf ck_mX12_spreadsPair rfl rfl) (Nat.le_of_ble_eq_true rfl)) ?_
  refine g_lv (lv' := [(11, .inl _), (10, .inl _), (9, .inl _), (8, .inl _), (7, .inl _), (6, .inl _), (5, .inl _), (4, .inl _), (0, .inr (.inr (.inl (some _)))), (1, .inl _), (2, .inl _), (3, .inl _)]) rfl ?_
  refine g_sub [8, 10, 11, 6, 5, 2, 1, 0] rfl ?_
  exact lk_R_spreadsPair_40 K _ _ _ _ _ _ FU _ _
def R_unsureOf_65 (k19 : Int → aM → Option (Int × aM)) (x1 : Int) (x2 : Int) (mm : aM) : Option (Int × aM) := k19 (w32 (x2 + 1)) mm
set_option maxHeartbeats 4000000 in
theorem lk_R_unsureOf_65 {p : Program} {l : Launch} {e : Env} {s : State} {m : MethodId} {args : Array Value} {below : List Frame} {meth : Method} {c : Code} {D : va_G} {cA : FieldType → ClassId} {ad adV : Nat → Nat} {z0 : Nat} {al0 : List Nat} (K : aK p s m args meth c mX12_unsureOf D cA ad adV z0) (x1 : Int) (x2 : Int) (k19 : Int → aM → Option (Int × aM)) (hk19 : ∀ (x2 : Int) (mm : aM), aG p l e { frames := 4, cells := 0, slots := 0, locals := 102 } s m args below meth c D cA ad z0 mX12_unsureOf al0 rIM (k19 x2 mm) 19 [(0, .inr (.inr (.inl (some 176)))), (1, .inl x1), (2, .inl x2)] [] mm)  (mm : aM) : aG p l e { frames := 4, cells := 0, slots := 0, locals := 102 } s m args below meth c D cA ad z0 mX12_unsureOf al0 rIM (R_unsureOf_65 k19 x1 x2 mm) 65 [(0, .inr (.inr (.inl (some 176)))), (1, .inl x1), (2, .inl x2)] [] mm := by
  unfold R_unsureOf_65
  refine gl (i' := 66) (fun _ _ => aw_iinc K (dOf ck_mX12_unsureOf rfl rfl) (Nat.le_of_ble_eq_true rfl) rfl) ?_
  refine g_lv (lv' := [(2, .inl _), (0, .inr (.inr (.inl (some _)))), (1, .inl _)]) rfl ?_
  refine g_goto K (dOf ck_mX12_unsureOf rfl rfl).1 (t := 19) (aJ_of (by decide +kernel)) ?_
  refine g_sub [1, 2, 0] rfl ?_
  exact hk19 _ _
def R_unsureOf_19 (x1 : Int) : Nat → Int → aM → Option (Int × aM)
  | 0, _, _ => none
  | n + 1, x2, mm => if x2 < (mm 176 29) then (if 0 ≤ x2 ∧ x2 < 54834 then ((R_isGoal (mm 190 x2.toNat) mm).bind fun r7 => (if r7 = 0 then (if (mm 190 x2.toNat) < 78 then (if 0 ≤ (mm 190 x2.toNat) ∧ (mm 190 x2.toNat) < 54834 then ((R_spreadsSame (mm 190 x2.toNat) x1 (w32 ((mm 189 (mm 190 x2.toNat).toNat) + 1)) mm).bind fun r13 => (R_unsureOf_65 (R_unsureOf_19 x1 n) x1 x2 r13)) else none) else (if 0 ≤ (mm 190 x2.toNat) ∧ (mm 190 x2.toNat) < 54834 then ((R_spreadsPair (mm 190 x2.toNat) x1 (w32 ((mm 189 (mm 190 x2.toNat).toNat) + 1)) mm).bind fun r11 => (R_unsureOf_65 (R_unsureOf_19 x1 n) x1 x2 r11)) else none)) else (if 0 ≤ (mm 190 x2.toNat) ∧ (mm 190 x2.toNat) < 54834 then (st1 (aup mm 176 31 (mm 189 (mm 190 x2.toNat).toNat)) fun mm15 => (some (mm15 176 31, mm15))) else none))) else none) else (some ((-1), mm))
set_option maxHeartbeats 4000000 in
theorem lk_R_unsureOf_19 {p : Program} {l : Launch} {e : Env} {s : State} {m : MethodId} {args : Array Value} {below : List Frame} {meth : Method} {c : Code} {D : va_G} {cA : FieldType → ClassId} {ad adV : Nat → Nat} {z0 : Nat} {al0 : List Nat} (K : aK p s m args meth c mX12_unsureOf D cA ad adV z0) (x1 : Int)  : ∀ (n : Nat) (x2 : Int) (mm : aM), aG p l e { frames := 4, cells := 0, slots := 0, locals := 102 } s m args below meth c D cA ad z0 mX12_unsureOf al0 rIM (R_unsureOf_19 x1 n x2 mm) 19 [(0, .inr (.inr (.inl (some 176)))), (1, .inl x1), (2, .inl x2)] [] mm := by
  intro n
  induction n with
  | zero => intro x2 mm; exact g_none
  | succ n ih =>
    intro x2 mm
    rw [R_unsureOf_19]
    refine gl (i' := 20) (fun _ _ => aw_iload_n K (dOf ck_mX12_unsureOf rfl rfl) rfl) ?_
    refine gl (i' := 21) (fun _ _ => aw_aload_n K (dOf ck_mX12_unsureOf rfl rfl) rfl) ?_
    refine gl (i' := 22) (fun _ _ => aw_getf K (dOf ck_mX12_unsureOf rfl rfl) rfl rfl (Nat.le_of_ble_eq_true rfl) wd_1234 (k := 29) rfl) ?_
    refine g_icmp_ge K (dOf ck_mX12_unsureOf rfl rfl) (t := 67) (aJ_of (by decide +kernel)) (fun h5 => ?_) (fun h5 => ?_)
    · refine gl (i' := 24) (fun _ _ => aw_aload_n K (dOf ck_mX12_unsureOf rfl rfl) rfl) ?_
      refine gl (i' := 25) (fun _ _ => aw_getf K (dOf ck_mX12_unsureOf rfl rfl) rfl rfl (Nat.le_of_ble_eq_true rfl) wd_1231 (k := 26) rfl) ?_
      refine gl (i' := 26) (fun _ _ => aw_iload_n K (dOf ck_mX12_unsureOf rfl rfl) rfl) ?_
      refine g_gd (fun hb6 => ?_)
      refine gl (i' := 27) (fun _ _ => aw_iald K (dOf ck_mX12_unsureOf rfl rfl) rfl hb6) ?_
      refine gl (i' := 28) (fun _ _ => aw_istore_n K (dOf ck_mX12_unsureOf rfl rfl) (Nat.le_of_ble_eq_true rfl)) ?_
      refine g_lv (lv' := [(3, .inl _), (0, .inr (.inr (.inl (some _)))), (1, .inl _), (2, .inl _)]) rfl ?_
      refine gl (i' := 29) (fun _ _ => aw_aload_n K (dOf ck_mX12_unsureOf rfl rfl) rfl) ?_
      refine gl (i' := 30) (fun _ _ => aw_iload_n K (dOf ck_mX12_unsureOf rfl rfl) rfl) ?_
      refine g_callVI K [.inl _] rfl (dOf ck_mX12_unsureOf rfl rfl) al_OneBreathModel_366 rfl rfl ⟨wd_1513, wd_114⟩ rfl (Nat.le_of_ble_eq_true rfl) ⟨Nat.le_of_ble_eq_true rfl, Nat.le_of_ble_eq_true rfl⟩ (fun b hb => met_R_isGoal  hb) (fun r7 hr7 => ?_)
      refine g_if_eq K (dOf ck_mX12_unsureOf rfl rfl) (t := 41) (aJ_of (by decide +kernel)) (fun h8 => ?_) (fun h8 => ?_)
      · refine gl (i' := 42) (fun _ _ => aw_iload_n K (dOf ck_mX12_unsureOf rfl rfl) rfl) ?_
        refine gl (i' := 43) (fun _ _ => aw_bip K (dOf ck_mX12_unsureOf rfl rfl) (v := 78) rfl) ?_
        refine g_icmp_ge K (dOf ck_mX12_unsureOf rfl rfl) (t := 55) (aJ_of (by decide +kernel)) (fun h9 => ?_) (fun h9 => ?_)
        · refine gl (i' := 45) (fun _ _ => aw_aload_n K (dOf ck_mX12_unsureOf rfl rfl) rfl) ?_
          refine gl (i' := 46) (fun _ _ => aw_iload_n K (dOf ck_mX12_unsureOf rfl rfl) rfl) ?_
          refine gl (i' := 47) (fun _ _ => aw_iload_n K (dOf ck_mX12_unsureOf rfl rfl) rfl) ?_
          refine gl (i' := 48) (fun _ _ => aw_aload_n K (dOf ck_mX12_unsureOf rfl rfl) rfl) ?_
          refine gl (i' := 49) (fun _ _ => aw_getf K (dOf ck_mX12_unsureOf rfl rfl) rfl rfl (Nat.le_of_ble_eq_true rfl) wd_1230 (k := 25) rfl) ?_
          refine gl (i' := 50) (fun _ _ => aw_iload_n K (dOf ck_mX12_unsureOf rfl rfl) rfl) ?_
          refine g_gd (fun hb12 => ?_)
          refine gl (i' := 51) (fun _ _ => aw_iald K (dOf ck_mX12_unsureOf rfl rfl) rfl hb12) ?_
          refine gl (i' := 52) (fun _ _ => aw_iconst K (n := 1) (i32 _ rfl) (dOf ck_mX12_unsureOf rfl rfl)) ?_
          refine gl (i' := 53) (fun _ _ => aw_iadd K (dOf ck_mX12_unsureOf rfl rfl)) ?_
          refine g_callVM K [.inl _, .inl _, .inl _] rfl (dOf ck_mX12_unsureOf rfl rfl) al_OneBreathModel_362 rfl rfl ⟨wd_1483, wd_105⟩ rfl (Nat.le_of_ble_eq_true rfl) ⟨Nat.le_of_ble_eq_true rfl, Nat.le_of_ble_eq_true rfl⟩ (fun b hb => met_R_spreadsSame  hb) (fun r13 hr13 => ?_)
          refine g_goto K (dOf ck_mX12_unsureOf rfl rfl).1 (t := 65) (aJ_of (by decide +kernel)) ?_
          refine g_sub [1, 2, 3] rfl ?_
          exact lk_R_unsureOf_65 K _ _ _ ih _
        · refine gl (i' := 56) (fun _ _ => aw_aload_n K (dOf ck_mX12_unsureOf rfl rfl) rfl) ?_
          refine gl (i' := 57) (fun _ _ => aw_iload_n K (dOf ck_mX12_unsureOf rfl rfl) rfl) ?_
          refine gl (i' := 58) (fun _ _ => aw_iload_n K (dOf ck_mX12_unsureOf rfl rfl) rfl) ?_
          refine gl (i' := 59) (fun _ _ => aw_aload_n K (dOf ck_mX12_unsureOf rfl rfl) rfl) ?_
          refine gl (i' := 60) (fun _ _ => aw_getf K (dOf ck_mX12_unsureOf rfl rfl) rfl rfl (Nat.le_of_ble_eq_true rfl) wd_1230 (k := 25) rfl) ?_
          refine gl (i' := 61) (fun _ _ => aw_iload_n K (dOf ck_mX12_unsureOf rfl rfl) rfl) ?_
          refine g_gd (fun hb10 => ?_)
          refine gl (i' := 62) (fun _ _ => aw_iald K (dOf ck_mX12_unsureOf rfl rfl) rfl hb10) ?_
          refine gl (i' := 63) (fun _ _ => aw_iconst K (n := 1) (i32 _ rfl) (dOf ck_mX12_unsureOf rfl rfl)) ?_
          refine gl (i' := 64) (fun _ _ => aw_iadd K (dOf ck_mX12_unsureOf rfl rfl)) ?_
          refine g_callVM K [.inl _, .inl _, .inl _] rfl (dOf ck_mX12_unsureOf rfl rfl) al_OneBreathModel_369 rfl rfl ⟨wd_1519, wd_116⟩ rfl (Nat.le_of_ble_eq_true rfl) ⟨Nat.le_of_ble_eq_true rfl, Nat.le_of_ble_eq_true rfl⟩ (fun b hb => met_R_spreadsPair  hb) (fun r11 hr11 => ?_)
          refine g_sub [1, 2, 3] rfl ?_
          exact lk_R_unsureOf_65 K _ _ _ ih _
      · refine gl (i' := 33) (fun _ _ => aw_aload_n K (dOf ck_mX12_unsureOf rfl rfl) rfl) ?_
        refine gl (i' := 34) (fun _ _ => aw_aload_n K (dOf ck_mX12_unsureOf rfl rfl) rfl) ?_
        refine gl (i' := 35) (fun _ _ => aw_getf K (dOf ck_mX12_unsureOf rfl rfl) rfl rfl (Nat.le_of_ble_eq_true rfl) wd_1230 (k := 25) rfl) ?_
        refine gl (i' := 36) (fun _ _ => aw_iload_n K (dOf ck_mX12_unsureOf rfl rfl) rfl) ?_
        refine g_gd (fun hb14 => ?_)
        refine gl (i' := 37) (fun _ _ => aw_iald K (dOf ck_mX12_unsureOf rfl rfl) rfl hb14) ?_
        refine g_st1 ?_
        refine gl (i' := 38) (fun _ _ => aw_putf K (dOf ck_mX12_unsureOf rfl rfl) rfl rfl (Nat.le_of_ble_eq_true rfl) wd_1236 (k := 31) rfl rfl (Or.inl rfl)) ?_
        refine gl (i' := 39) (fun _ _ => aw_aload_n K (dOf ck_mX12_unsureOf rfl rfl) rfl) ?_
        refine gl (i' := 40) (fun _ _ => aw_getf K (dOf ck_mX12_unsureOf rfl rfl) rfl rfl (Nat.le_of_ble_eq_true rfl) wd_1236 (k := 31) rfl) ?_
        exact g_iret K (dOf ck_mX12_unsureOf rfl rfl).1 rfl (Or.inl rfl) rfl
    · refine gl (i' := 68) (fun _ _ => aw_iconst K (n := -1) (i32 _ rfl) (dOf ck_mX12_unsureOf rfl rfl)) ?_
      exact g_iret K (by decide +kernel) rfl (Or.inl rfl) rfl
def R_unsureOf (x1 : Int) (mm : aM) : Option (Int × aM) := st1 (aup mm 176 30 (w32 ((mm 176 30) + 1))) fun mm1 => (st1 (aup mm1 176 29 0) fun mm2 => (st1 (aup mm2 176 31 (-1)) fun mm3 => ((R_spreadsSame (-1) x1 1 mm3).bind fun r4 => (R_unsureOf_19 x1 FU 0 r4))))
set_option maxHeartbeats 4000000 in
theorem met_R_unsureOf {l : Launch} {D : va_G} {cA : FieldType → ClassId} {ad adV : Nat → Nat} {z0 : Nat} {x1 : Int} {mm : aM}  {r : Int × aM} (h : R_unsureOf x1 mm = some r) : aMet l D cA ad adV z0 mX12_unsureOf 4 102 0 0 [.inr (.inr (.inl (some 176))), .inl x1] SH mm (rIM r).1 SH (rIM r).2 := by
  refine aMet_ofG (by decide +kernel) rfl (Nat.le_of_ble_eq_true rfl) h (fun p e s m args below meth c al0 K => ?_)
  unfold R_unsureOf
  refine gl (i' := 1) (fun _ _ => aw_aload_n K (dOf ck_mX12_unsureOf rfl rfl) rfl) ?_
  refine gl (i' := 2) (fun _ _ => aw_dup K rfl (dOf ck_mX12_unsureOf rfl rfl)) ?_
  refine gl (i' := 3) (fun _ _ => aw_getf K (dOf ck_mX12_unsureOf rfl rfl) rfl rfl (Nat.le_of_ble_eq_true rfl) wd_1235 (k := 30) rfl) ?_
  refine gl (i' := 4) (fun _ _ => aw_iconst K (n := 1) (i32 _ rfl) (dOf ck_mX12_unsureOf rfl rfl)) ?_
  refine gl (i' := 5) (fun _ _ => aw_iadd K (dOf ck_mX12_unsureOf rfl rfl)) ?_
  refine g_st1 ?_
  refine gl (i' := 6) (fun _ _ => aw_putf K (dOf ck_mX12_unsureOf rfl rfl) rfl rfl (Nat.le_of_ble_eq_true rfl) wd_1235 (k := 30) rfl rfl (Or.inl rfl)) ?_
  refine gl (i' := 7) (fun _ _ => aw_aload_n K (dOf ck_mX12_unsureOf rfl rfl) rfl) ?_
  refine gl (i' := 8) (fun _ _ => aw_iconst K (n := 0) (i32 _ rfl) (dOf ck_mX12_unsureOf rfl rfl)) ?_
  refine g_st1 ?_
  refine gl (i' := 9) (fun _ _ => aw_putf K (dOf ck_mX12_unsureOf rfl rfl) rfl rfl (Nat.le_of_ble_eq_true rfl) wd_1234 (k := 29) rfl rfl (Or.inl rfl)) ?_
  refine gl (i' := 10) (fun _ _ => aw_aload_n K (dOf ck_mX12_unsureOf rfl rfl) rfl) ?_
  refine gl (i' := 11) (fun _ _ => aw_iconst K (n := -1) (i32 _ rfl) (dOf ck_mX12_unsureOf rfl rfl)) ?_
  refine g_st1 ?_
  refine gl (i' := 12) (fun _ _ => aw_putf K (dOf ck_mX12_unsureOf rfl rfl) rfl rfl (Nat.le_of_ble_eq_true rfl) wd_1236 (k := 31) rfl rfl (Or.inl rfl)) ?_
  refine gl (i' := 13) (fun _ _ => aw_aload_n K (dOf ck_mX12_unsureOf rfl rfl) rfl) ?_
  refine gl (i' := 14) (fun _ _ => aw_iconst K (n := -1) (i32 _ rfl) (dOf ck_mX12_unsureOf rfl rfl)) ?_
  refine gl (i' := 15) (fun _ _ => aw_iload_n K (dOf ck_mX12_unsureOf rfl rfl) rfl) ?_
  refine gl (i' := 16) (fun _ _ => aw_iconst K (n := 1) (i32 _ rfl) (dOf ck_mX12_unsureOf rfl rfl)) ?_
  refine g_callVM K [.inl _, .inl _, .inl _] rfl (dOf ck_mX12_unsureOf rfl rfl) al_OneBreathModel_362 rfl rfl ⟨wd_1483, wd_105⟩ rfl (Nat.le_of_ble_eq_true rfl) ⟨Nat.le_of_ble_eq_true rfl, Nat.le_of_ble_eq_true rfl⟩ (fun b hb => met_R_spreadsSame  hb) (fun r4 hr4 => ?_)
  refine gl (i' := 18) (fun _ _ => aw_iconst K (n := 0) (i32 _ rfl) (dOf ck_mX12_unsureOf rfl rfl)) ?_
  refine gl (i' := 19) (fun _ _ => aw_istore_n K (dOf ck_mX12_unsureOf rfl rfl) (Nat.le_of_ble_eq_true rfl)) ?_
  refine g_lv (lv' := [(2, .inl _), (0, .inr (.inr (.inl (some _)))), (1, .inl _)]) rfl ?_
  refine g_sub [1, 2, 0] rfl ?_
  exact lk_R_unsureOf_19 K _ FU _ _
def R_unsure (x1 : Int) (mm : aM) : Option (Int × aM) := st1 (aup mm 176 0 0) fun mm1 => ((R_within x1 0 2 mm1).bind fun r2 => (if r2 = 0 then (some ((-3), mm1)) else ((R_unsureOf x1 mm1).bind fun r4 => (some (r4.1, r4.2)))))
set_option maxHeartbeats 4000000 in
theorem met_R_unsure {l : Launch} {D : va_G} {cA : FieldType → ClassId} {ad adV : Nat → Nat} {z0 : Nat} {x1 : Int} {mm : aM}  {r : Int × aM} (h : R_unsure x1 mm = some r) : aMet l D cA ad adV z0 mX12_unsure 5 125 0 0 [.inr (.inr (.inl (some 176))), .inl x1] SH mm (rIM r).1 SH (rIM r).2 := by
  refine aMet_ofG (by decide +kernel) rfl (Nat.le_of_ble_eq_true rfl) h (fun p e s m args below meth c al0 K => ?_)
  unfold R_unsure
  refine gl (i' := 1) (fun _ _ => aw_aload_n K (dOf ck_mX12_unsure rfl rfl) rfl) ?_
  refine gl (i' := 2) (fun _ _ => aw_iconst K (n := 0) (i32 _ rfl) (dOf ck_mX12_unsure rfl rfl)) ?_
  refine g_st1 ?_
  refine gl (i' := 3) (fun _ _ => aw_putf K (dOf ck_mX12_unsure rfl rfl) rfl rfl (Nat.le_of_ble_eq_true rfl) wd_1205 (k := 0) rfl rfl (Or.inl rfl)) ?_
  refine gl (i' := 4) (fun _ _ => aw_iload_n K (dOf ck_mX12_unsure rfl rfl) rfl) ?_
  refine gl (i' := 5) (fun _ _ => aw_i2l K (dOf ck_mX12_unsure rfl rfl)) ?_
  refine gl (i' := 6) (fun _ _ => aw_lcn K (dOf ck_mX12_unsure rfl rfl) (v := 0) rfl) ?_
  refine gl (i' := 7) (fun _ _ => aw_ldc2 K (dOf ck_mX12_unsure rfl rfl) (n := 2) wd_1347 (i64 _ rfl)) ?_
  refine g_callSI K [.inr (.inl _), .inr (.inl _), .inr (.inl _)] rfl (dOf ck_mX12_unsure rfl rfl) al_OneBreathModel_176 wd_1269 rfl (Nat.le_of_ble_eq_true rfl) ⟨Nat.le_of_ble_eq_true rfl, Nat.le_of_ble_eq_true rfl⟩ (fun b hb => met_R_within  hb) (fun r2 hr2 => ?_)
  refine g_if_eq K (dOf ck_mX12_unsure rfl rfl) (t := 13) (aJ_of (by decide +kernel)) (fun h3 => ?_) (fun h3 => ?_)
  · refine gl (i' := 14) (fun _ _ => aw_bip K (dOf ck_mX12_unsure rfl rfl) (v := -3) rfl) ?_
    exact g_iret K (by decide +kernel) rfl (Or.inl rfl) rfl
  · refine gl (i' := 10) (fun _ _ => aw_aload_n K (dOf ck_mX12_unsure rfl rfl) rfl) ?_
    refine gl (i' := 11) (fun _ _ => aw_iload_n K (dOf ck_mX12_unsure rfl rfl) rfl) ?_
    refine g_callVIM K [.inl _] rfl (dOf ck_mX12_unsure rfl rfl) al_OneBreathModel_372 rfl rfl ⟨wd_1480, wd_104⟩ rfl (Nat.le_of_ble_eq_true rfl) ⟨Nat.le_of_ble_eq_true rfl, Nat.le_of_ble_eq_true rfl⟩ (fun b hb => met_R_unsureOf  hb) (fun r4 hr4 => ?_)
    refine g_goto K (dOf ck_mX12_unsure rfl rfl).1 (t := 14) (aJ_of (by decide +kernel)) ?_
    exact g_iret K (by decide +kernel) rfl (Or.inl rfl) rfl
def R_gathers_158 (k59 : Int → Int → aM → Option (Int × aM)) (k64 : Int → Int → aM → Option (Int × aM)) (x2 : Int) (x3 : Int) (x4 : Int) (x7 : Int) (x8 : Int) (x9 : Int) (x10 : Int) (x11 : Int) (mm : aM) : Option (Int × aM) := k64 x4 (w32 (x11 + 1)) mm
set_option maxHeartbeats 4000000 in
theorem lk_R_gathers_158 {p : Program} {l : Launch} {e : Env} {s : State} {m : MethodId} {args : Array Value} {below : List Frame} {meth : Method} {c : Code} {D : va_G} {cA : FieldType → ClassId} {ad adV : Nat → Nat} {z0 : Nat} {al0 : List Nat} (K : aK p s m args meth c mX12_gathers D cA ad adV z0) (x2 : Int) (x3 : Int) (x4 : Int) (x7 : Int) (x8 : Int) (x9 : Int) (x10 : Int) (x11 : Int) (k59 : Int → Int → aM → Option (Int × aM)) (hk59 : ∀ (x4 : Int) (x10 : Int) (mm : aM), aG p l e { frames := 2, cells := 0, slots := 0, locals := 46 } s m args below meth c D cA ad z0 mX12_gathers al0 rIM (k59 x4 x10 mm) 59 [(0, .inr (.inr (.inl (some 176)))), (2, .inl x2), (3, .inl x3), (4, .inl x4), (7, .inl x7), (8, .inl x8), (9, .inl x9), (10, .inl x10)] [] mm) (k64 : Int → Int → aM → Option (Int × aM)) (hk64 : ∀ (x4 : Int) (x11 : Int) (mm : aM), aG p l e { frames := 2, cells := 0, slots := 0, locals := 46 } s m args below meth c D cA ad z0 mX12_gathers al0 rIM (k64 x4 x11 mm) 64 [(0, .inr (.inr (.inl (some 176)))), (2, .inl x2), (3, .inl x3), (4, .inl x4), (7, .inl x7), (8, .inl x8), (9, .inl x9), (10, .inl x10), (11, .inl x11)] [] mm)  (mm : aM) : aG p l e { frames := 2, cells := 0, slots := 0, locals := 46 } s m args below meth c D cA ad z0 mX12_gathers al0 rIM (R_gathers_158 k59 k64 x2 x3 x4 x7 x8 x9 x10 x11 mm) 158 [(0, .inr (.inr (.inl (some 176)))), (2, .inl x2), (3, .inl x3), (4, .inl x4), (7, .inl x7), (8, .inl x8), (9, .inl x9), (10, .inl x10), (11, .inl x11)] [] mm := by
  unfold R_gathers_158
  refine gl (i' := 159) (fun _ _ => aw_iinc K (dOf ck_mX12_gathers rfl rfl) (Nat.le_of_ble_eq_true rfl) rfl) ?_
  refine g_lv (lv' := [(11, .inl _), (0, .inr (.inr (.inl (some _)))), (2, .inl _), (3, .inl _), (4, .inl _), (7, .inl _), (8, .inl _), (9, .inl _), (10, .inl _)]) rfl ?_
  refine g_goto K (dOf ck_mX12_gathers rfl rfl).1 (t := 64) (aJ_of (by decide +kernel)) ?_
  refine g_sub [1, 2, 3, 4, 5, 6, 7, 8, 0] rfl ?_
  exact hk64 _ _ _
def R_gathers_110 (k59 : Int → Int → aM → Option (Int × aM)) (k64 : Int → Int → aM → Option (Int × aM)) (x2 : Int) (x3 : Int) (x4 : Int) (x7 : Int) (x8 : Int) (x9 : Int) (x10 : Int) (x11 : Int) (s0 : Int) (mm : aM) : Option (Int × aM) := if 0 ≤ s0 ∧ s0 < 54834 then (if (mm 193 s0.toNat) = (mm 176 30) then (if (mm 189 s0.toNat) = x2 then (if (mm 191 s0.toNat) = 0 then (R_gathers_158 k59 k64 x2 x3 x4 x7 x8 x9 x10 x11 mm) else (if x3 = (-1) then (R_gathers_158 k59 k64 x2 x3 1 x7 x8 x9 x10 x11 mm) else (if (mm 192 s0.toNat) = 0 then (st1 (aup mm 192 s0.toNat 1) fun mm27 => (if 0 ≤ (mm27 176 40) ∧ (mm27 176 40) < 54834 then (st1 (aup mm27 197 (mm27 176 40).toNat s0) fun mm29 => (st1 (aup mm29 176 40 (w32 ((mm29 176 40) + 1))) fun mm30 => (R_gathers_158 k59 k64 x2 x3 1 x7 x8 x9 x10 x11 mm30))) else none)) else (R_gathers_158 k59 k64 x2 x3 1 x7 x8 x9 x10 x11 mm)))) else (R_gathers_158 k59 k64 x2 x3 x4 x7 x8 x9 x10 x11 mm)) else (R_gathers_158 k59 k64 x2 x3 x4 x7 x8 x9 x10 x11 mm)) else none
set_option maxHeartbeats 4000000 in
theorem lk_R_gathers_110 {p : Program} {l : Launch} {e : Env} {s : State} {m : MethodId} {args : Array Value} {below : List Frame} {meth : Method} {c : Code} {D : va_G} {cA : FieldType → ClassId} {ad adV : Nat → Nat} {z0 : Nat} {al0 : List Nat} (K : aK p s m args meth c mX12_gathers D cA ad adV z0) (x2 : Int) (x3 : Int) (x4 : Int) (x7 : Int) (x8 : Int) (x9 : Int) (x10 : Int) (x11 : Int) (k59 : Int → Int → aM → Option (Int × aM)) (hk59 : ∀ (x4 : Int) (x10 : Int) (mm : aM), aG p l e { frames := 2, cells := 0, slots := 0, locals := 46 } s m args below meth c D cA ad z0 mX12_gathers al0 rIM (k59 x4 x10 mm) 59 [(0, .inr (.inr (.inl (some 176)))), (2, .inl x2), (3, .inl x3), (4, .inl x4), (7, .inl x7), (8, .inl x8), (9, .inl x9), (10, .inl x10)] [] mm) (k64 : Int → Int → aM → Option (Int × aM)) (hk64 : ∀ (x4 : Int) (x11 : Int) (mm : aM), aG p l e { frames := 2, cells := 0, slots := 0, locals := 46 } s m args below meth c D cA ad z0 mX12_gathers al0 rIM (k64 x4 x11 mm) 64 [(0, .inr (.inr (.inl (some 176)))), (2, .inl x2), (3, .inl x3), (4, .inl x4), (7, .inl x7), (8, .inl x8), (9, .inl x9), (10, .inl x10), (11, .inl x11)] [] mm)  (s0 : Int) (mm : aM) : aG p l e { frames := 2, cells := 0, slots := 0, locals := 46 } s m args below meth c D cA ad z0 mX12_gathers al0 rIM (R_gathers_110 k59 k64 x2 x3 x4 x7 x8 x9 x10 x11 s0 mm) 110 [(0, .inr (.inr (.inl (some 176)))), (2, .inl x2), (3, .inl x3), (4, .inl x4), (7, .inl x7), (8, .inl x8), (9, .inl x9), (10, .inl x10), (11, .inl x11)] [.inl s0] mm := by
  unfold R_gathers_110
  refine gl (i' := 111) (fun _ _ => aw_istore K (dOf ck_mX12_gathers rfl rfl) (Nat.le_of_ble_eq_true rfl)) ?_
  refine g_lv (lv' := [(13, .inl _), (0, .inr (.inr (.inl (some _)))), (2, .inl _), (3, .inl _), (4, .inl _), (7, .inl _), (8, .inl _), (9, .inl _), (10, .inl _), (11, .inl _)]) rfl ?_
  refine gl (i' := 112) (fun _ _ => aw_aload_n K (dOf ck_mX12_gathers rfl rfl) rfl) ?_
  refine gl (i' := 113) (fun _ _ => aw_getf K (dOf ck_mX12_gathers rfl rfl) rfl rfl (Nat.le_of_ble_eq_true rfl) wd_1239 (k := 34) rfl) ?_
  refine gl (i' := 114) (fun _ _ => aw_iload K (dOf ck_mX12_gathers rfl rfl) rfl) ?_
  refine g_gd (fun hb21 => ?_)
  refine gl (i' := 115) (fun _ _ => aw_iald K (dOf ck_mX12_gathers rfl rfl) rfl hb21) ?_
  refine gl (i' := 116) (fun _ _ => aw_aload_n K (dOf ck_mX12_gathers rfl rfl) rfl) ?_
  refine gl (i' := 117) (fun _ _ => aw_getf K (dOf ck_mX12_gathers rfl rfl) rfl rfl (Nat.le_of_ble_eq_true rfl) wd_1235 (k := 30) rfl) ?_
  refine g_icmp_ne K (dOf ck_mX12_gathers rfl rfl) (t := 158) (aJ_of (by decide +kernel)) (fun h22 => ?_) (fun h22 => ?_)
  · refine gl (i' := 119) (fun _ _ => aw_aload_n K (dOf ck_mX12_gathers rfl rfl) rfl) ?_
    refine gl (i' := 120) (fun _ _ => aw_getf K (dOf ck_mX12_gathers rfl rfl) rfl rfl (Nat.le_of_ble_eq_true rfl) wd_1230 (k := 25) rfl) ?_
    refine gl (i' := 121) (fun _ _ => aw_iload K (dOf ck_mX12_gathers rfl rfl) rfl) ?_
    refine gl (i' := 122) (fun _ _ => aw_iald K (dOf ck_mX12_gathers rfl rfl) rfl hb21) ?_
    refine gl (i' := 123) (fun _ _ => aw_iload_n K (dOf ck_mX12_gathers rfl rfl) rfl) ?_
    refine g_icmp_ne K (dOf ck_mX12_gathers rfl rfl) (t := 158) (aJ_of (by decide +kernel)) (fun h23 => ?_) (fun h23 => ?_)
    · refine gl (i' := 125) (fun _ _ => aw_aload_n K (dOf ck_mX12_gathers rfl rfl) rfl) ?_
      refine gl (i' := 126) (fun _ _ => aw_getf K (dOf ck_mX12_gathers rfl rfl) rfl rfl (Nat.le_of_ble_eq_true rfl) wd_1232 (k := 27) rfl) ?_
      refine gl (i' := 127) (fun _ _ => aw_iload K (dOf ck_mX12_gathers rfl rfl) rfl) ?_
      refine gl (i' := 128) (fun _ _ => aw_zald K (dOf ck_mX12_gathers rfl rfl) rfl hb21) ?_
      refine g_if_ne K (dOf ck_mX12_gathers rfl rfl) (t := 130) (aJ_of (by decide +kernel)) (fun h24 => ?_) (fun h24 => ?_)
      · refine g_goto K (dOf ck_mX12_gathers rfl rfl).1 (t := 158) (aJ_of (by decide +kernel)) ?_
        refine g_sub [1, 2, 3, 4, 5, 6, 7, 8, 9] rfl ?_
        exact lk_R_gathers_158 K _ _ _ _ _ _ _ _ _ hk59 _ hk64 _
      · refine gl (i' := 131) (fun _ _ => aw_iconst K (n := 1) (i32 _ rfl) (dOf ck_mX12_gathers rfl rfl)) ?_
        refine gl (i' := 132) (fun _ _ => aw_istore K (dOf ck_mX12_gathers rfl rfl) (Nat.le_of_ble_eq_true rfl)) ?_
        refine g_lv (lv' := [(4, .inl _), (13, .inl _), (0, .inr (.inr (.inl (some _)))), (2, .inl _), (3, .inl _), (7, .inl _), (8, .inl _), (9, .inl _), (10, .inl _), (11, .inl _)]) rfl ?_
        refine gl (i' := 133) (fun _ _ => aw_iload_n K (dOf ck_mX12_gathers rfl rfl) rfl) ?_
        refine gl (i' := 134) (fun _ _ => aw_iconst K (n := -1) (i32 _ rfl) (dOf ck_mX12_gathers rfl rfl)) ?_
        refine g_icmp_eq K (dOf ck_mX12_gathers rfl rfl) (t := 158) (aJ_of (by decide +kernel)) (fun h25 => ?_) (fun h25 => ?_)
        · refine g_sub [2, 3, 4, 0, 5, 6, 7, 8, 9] rfl ?_
          exact lk_R_gathers_158 K _ _ _ _ _ _ _ _ _ hk59 _ hk64 _
        · refine gl (i' := 136) (fun _ _ => aw_aload_n K (dOf ck_mX12_gathers rfl rfl) rfl) ?_
          refine gl (i' := 137) (fun _ _ => aw_getf K (dOf ck_mX12_gathers rfl rfl) rfl rfl (Nat.le_of_ble_eq_true rfl) wd_1233 (k := 28) rfl) ?_
          refine gl (i' := 138) (fun _ _ => aw_iload K (dOf ck_mX12_gathers rfl rfl) rfl) ?_
          refine gl (i' := 139) (fun _ _ => aw_zald K (dOf ck_mX12_gathers rfl rfl) rfl hb21) ?_
          refine g_if_eq K (dOf ck_mX12_gathers rfl rfl) (t := 141) (aJ_of (by decide +kernel)) (fun h26 => ?_) (fun h26 => ?_)
          · refine gl (i' := 142) (fun _ _ => aw_aload_n K (dOf ck_mX12_gathers rfl rfl) rfl) ?_
            refine gl (i' := 143) (fun _ _ => aw_getf K (dOf ck_mX12_gathers rfl rfl) rfl rfl (Nat.le_of_ble_eq_true rfl) wd_1233 (k := 28) rfl) ?_
            refine gl (i' := 144) (fun _ _ => aw_iload K (dOf ck_mX12_gathers rfl rfl) rfl) ?_
            refine gl (i' := 145) (fun _ _ => aw_iconst K (n := 1) (i32 _ rfl) (dOf ck_mX12_gathers rfl rfl)) ?_
            refine g_st1 ?_
            refine gl (i' := 146) (fun _ _ => aw_zast K (dOf ck_mX12_gathers rfl rfl) rfl hb21 (Or.inr rfl)) ?_
            refine gl (i' := 147) (fun _ _ => aw_aload_n K (dOf ck_mX12_gathers rfl rfl) rfl) ?_
            refine gl (i' := 148) (fun _ _ => aw_getf K (dOf ck_mX12_gathers rfl rfl) rfl rfl (Nat.le_of_ble_eq_true rfl) wd_1243 (k := 38) rfl) ?_
            refine gl (i' := 149) (fun _ _ => aw_aload_n K (dOf ck_mX12_gathers rfl rfl) rfl) ?_
            refine gl (i' := 150) (fun _ _ => aw_getf K (dOf ck_mX12_gathers rfl rfl) rfl rfl (Nat.le_of_ble_eq_true rfl) wd_1245 (k := 40) rfl) ?_
            refine gl (i' := 151) (fun _ _ => aw_iload K (dOf ck_mX12_gathers rfl rfl) rfl) ?_
            refine g_gd (fun hb28 => ?_)
            refine g_st1 ?_
            refine gl (i' := 152) (fun _ _ => aw_iast K (dOf ck_mX12_gathers rfl rfl) rfl hb28) ?_
            refine gl (i' := 153) (fun _ _ => aw_aload_n K (dOf ck_mX12_gathers rfl rfl) rfl) ?_
            refine gl (i' := 154) (fun _ _ => aw_dup K rfl (dOf ck_mX12_gathers rfl rfl)) ?_
            refine gl (i' := 155) (fun _ _ => aw_getf K (dOf ck_mX12_gathers rfl rfl) rfl rfl (Nat.le_of_ble_eq_true rfl) wd_1245 (k := 40) rfl) ?_
            refine gl (i' := 156) (fun _ _ => aw_iconst K (n := 1) (i32 _ rfl) (dOf ck_mX12_gathers rfl rfl)) ?_
            refine gl (i' := 157) (fun _ _ => aw_iadd K (dOf ck_mX12_gathers rfl rfl)) ?_
            refine g_st1 ?_
            refine gl (i' := 158) (fun _ _ => aw_putf K (dOf ck_mX12_gathers rfl rfl) rfl rfl (Nat.le_of_ble_eq_true rfl) wd_1245 (k := 40) rfl rfl (Or.inl rfl)) ?_
            refine g_sub [2, 3, 4, 0, 5, 6, 7, 8, 9] rfl ?_
            exact lk_R_gathers_158 K _ _ _ _ _ _ _ _ _ hk59 _ hk64 _
          · refine g_goto K (dOf ck_mX12_gathers rfl rfl).1 (t := 158) (aJ_of (by decide +kernel)) ?_
            refine g_sub [2, 3, 4, 0, 5, 6, 7, 8, 9] rfl ?_
            exact lk_R_gathers_158 K _ _ _ _ _ _ _ _ _ hk59 _ hk64 _
    · refine g_sub [1, 2, 3, 4, 5, 6, 7, 8, 9] rfl ?_
      exact lk_R_gathers_158 K _ _ _ _ _ _ _ _ _ hk59 _ hk64 _
  · refine g_sub [1, 2, 3, 4, 5, 6, 7, 8, 9] rfl ?_
    exact lk_R_gathers_158 K _ _ _ _ _ _ _ _ _ hk59 _ hk64 _
def R_gathers_99 (k59 : Int → Int → aM → Option (Int × aM)) (k64 : Int → Int → aM → Option (Int × aM)) (x2 : Int) (x3 : Int) (x4 : Int) (x7 : Int) (x8 : Int) (x9 : Int) (x10 : Int) (x11 : Int) (mm : aM) : Option (Int × aM) := if 0 ≤ x10 ∧ x10 < 13 then (if 0 ≤ x11 ∧ x11 < 13 then ((R_pairOf (mm 194 x10.toNat) (mm 195 x11.toNat) 0 0 mm).bind fun r20 => (R_gathers_110 k59 k64 x2 x3 x4 x7 x8 x9 x10 x11 r20 mm)) else none) else none
set_option maxHeartbeats 4000000 in
theorem lk_R_gathers_99 {p : Program} {l : Launch} {e : Env} {s : State} {m : MethodId} {args : Array Value} {below : List Frame} {meth : Method} {c : Code} {D : va_G} {cA : FieldType → ClassId} {ad adV : Nat → Nat} {z0 : Nat} {al0 : List Nat} (K : aK p s m args meth c mX12_gathers D cA ad adV z0) (x2 : Int) (x3 : Int) (x4 : Int) (x7 : Int) (x8 : Int) (x9 : Int) (x10 : Int) (x11 : Int) (k59 : Int → Int → aM → Option (Int × aM)) (hk59 : ∀ (x4 : Int) (x10 : Int) (mm : aM), aG p l e { frames := 2, cells := 0, slots := 0, locals := 46 } s m args below meth c D cA ad z0 mX12_gathers al0 rIM (k59 x4 x10 mm) 59 [(0, .inr (.inr (.inl (some 176)))), (2, .inl x2), (3, .inl x3), (4, .inl x4), (7, .inl x7), (8, .inl x8), (9, .inl x9), (10, .inl x10)] [] mm) (k64 : Int → Int → aM → Option (Int × aM)) (hk64 : ∀ (x4 : Int) (x11 : Int) (mm : aM), aG p l e { frames := 2, cells := 0, slots := 0, locals := 46 } s m args below meth c D cA ad z0 mX12_gathers al0 rIM (k64 x4 x11 mm) 64 [(0, .inr (.inr (.inl (some 176)))), (2, .inl x2), (3, .inl x3), (4, .inl x4), (7, .inl x7), (8, .inl x8), (9, .inl x9), (10, .inl x10), (11, .inl x11)] [] mm)  (mm : aM) : aG p l e { frames := 2, cells := 0, slots := 0, locals := 46 } s m args below meth c D cA ad z0 mX12_gathers al0 rIM (R_gathers_99 k59 k64 x2 x3 x4 x7 x8 x9 x10 x11 mm) 99 [(0, .inr (.inr (.inl (some 176)))), (2, .inl x2), (3, .inl x3), (4, .inl x4), (7, .inl x7), (8, .inl x8), (9, .inl x9), (10, .inl x10), (11, .inl x11)] [] mm := by
  unfold R_gathers_99
  refine gl (i' := 100) (fun _ _ => aw_aload_n K (dOf ck_mX12_gathers rfl rfl) rfl) ?_
  refine gl (i' := 101) (fun _ _ => aw_getf K (dOf ck_mX12_gathers rfl rfl) rfl rfl (Nat.le_of_ble_eq_true rfl) wd_1240 (k := 35) rfl) ?_
  refine gl (i' := 102) (fun _ _ => aw_iload K (dOf ck_mX12_gathers rfl rfl) rfl) ?_
  refine g_gd (fun hb18 => ?_)
  refine gl (i' := 103) (fun _ _ => aw_iald K (dOf ck_mX12_gathers rfl rfl) rfl hb18) ?_
  refine gl (i' := 104) (fun _ _ => aw_aload_n K (dOf ck_mX12_gathers rfl rfl) rfl) ?_
  refine gl (i' := 105) (fun _ _ => aw_getf K (dOf ck_mX12_gathers rfl rfl) rfl rfl (Nat.le_of_ble_eq_true rfl) wd_1241 (k := 36) rfl) ?_
  refine gl (i' := 106) (fun _ _ => aw_iload K (dOf ck_mX12_gathers rfl rfl) rfl) ?_
  refine g_gd (fun hb19 => ?_)
  refine gl (i' := 107) (fun _ _ => aw_iald K (dOf ck_mX12_gathers rfl rfl) rfl hb19) ?_
  refine gl (i' := 108) (fun _ _ => aw_iconst K (n := 0) (i32 _ rfl) (dOf ck_mX12_gathers rfl rfl)) ?_
  refine gl (i' := 109) (fun _ _ => aw_iconst K (n := 0) (i32 _ rfl) (dOf ck_mX12_gathers rfl rfl)) ?_
  refine g_callSI K [.inl _, .inl _, .inl _, .inl _] rfl (dOf ck_mX12_gathers rfl rfl) al_OneBreathModel_340 wd_1510 rfl (Nat.le_of_ble_eq_true rfl) ⟨Nat.le_of_ble_eq_true rfl, Nat.le_of_ble_eq_true rfl⟩ (fun b hb => met_R_pairOf  hb) (fun r20 hr20 => ?_)
  refine g_sub [0, 1, 2, 3, 4, 5, 6, 7, 8] rfl ?_
  exact lk_R_gathers_110 K _ _ _ _ _ _ _ _ _ hk59 _ hk64 _ _
def R_gathers_89 (k59 : Int → Int → aM → Option (Int × aM)) (k64 : Int → Int → aM → Option (Int × aM)) (x2 : Int) (x3 : Int) (x4 : Int) (x7 : Int) (x8 : Int) (x9 : Int) (x10 : Int) (x11 : Int) (mm : aM) : Option (Int × aM) := if x7 = 0 then (R_gathers_99 k59 k64 x2 x3 x4 x7 x8 x9 x10 x11 mm) else (if x10 = x11 then (if 0 ≤ x10 ∧ x10 < 13 then (R_gathers_110 k59 k64 x2 x3 x4 x7 x8 x9 x10 x11 (mm 194 x10.toNat) mm) else none) else (R_gathers_99 k59 k64 x2 x3 x4 x7 x8 x9 x10 x11 mm))
set_option maxHeartbeats 4000000 in
theorem lk_R_gathers_89 {p : Program} {l : Launch} {e : Env} {s : State} {m : MethodId} {args : Array Value} {below : List Frame} {meth : Method} {c : Code} {D : va_G} {cA : FieldType → ClassId} {ad adV : Nat → Nat} {z0 : Nat} {al0 : List Nat} (K : aK p s m args meth c mX12_gathers D cA ad adV z0) (x2 : Int) (x3 : Int) (x4 : Int) (x7 : Int) (x8 : Int) (x9 : Int) (x10 : Int) (x11 : Int) (k59 : Int → Int → aM → Option (Int × aM)) (hk59 : ∀ (x4 : Int) (x10 : Int) (mm : aM), aG p l e { frames := 2, cells := 0, slots := 0, locals := 46 } s m args below meth c D cA ad z0 mX12_gathers al0 rIM (k59 x4 x10 mm) 59 [(0, .inr (.inr (.inl (some 176)))), (2, .inl x2), (3, .inl x3), (4, .inl x4), (7, .inl x7), (8, .inl x8), (9, .inl x9), (10, .inl x10)] [] mm) (k64 : Int → Int → aM → Option (Int × aM)) (hk64 : ∀ (x4 : Int) (x11 : Int) (mm : aM), aG p l e { frames := 2, cells := 0, slots := 0, locals := 46 } s m args below meth c D cA ad z0 mX12_gathers al0 rIM (k64 x4 x11 mm) 64 [(0, .inr (.inr (.inl (some 176)))), (2, .inl x2), (3, .inl x3), (4, .inl x4), (7, .inl x7), (8, .inl x8), (9, .inl x9), (10, .inl x10), (11, .inl x11)] [] mm)  (mm : aM) : aG p l e { frames := 2, cells := 0, slots := 0, locals := 46 } s m args below meth c D cA ad z0 mX12_gathers al0 rIM (R_gathers_89 k59 k64 x2 x3 x4 x7 x8 x9 x10 x11 mm) 89 [(0, .inr (.inr (.inl (some 176)))), (2, .inl x2), (3, .inl x3), (4, .inl x4), (7, .inl x7), (8, .inl x8), (9, .inl x9), (10, .inl x10), (11, .inl x11)] [] mm := by
  unfold R_gathers_89
  refine gl (i' := 90) (fun _ _ => aw_iload K (dOf ck_mX12_gathers rfl rfl) rfl) ?_
  refine g_if_eq K (dOf ck_mX12_gathers rfl rfl) (t := 99) (aJ_of (by decide +kernel)) (fun h17 => ?_) (fun h17 => ?_)
  · refine g_sub [0, 1, 2, 3, 4, 5, 6, 7, 8] rfl ?_
    exact lk_R_gathers_99 K _ _ _ _ _ _ _ _ _ hk59 _ hk64 _
  · refine gl (i' := 92) (fun _ _ => aw_iload K (dOf ck_mX12_gathers rfl rfl) rfl) ?_
    refine gl (i' := 93) (fun _ _ => aw_iload K (dOf ck_mX12_gathers rfl rfl) rfl) ?_
    refine g_icmp_ne K (dOf ck_mX12_gathers rfl rfl) (t := 99) (aJ_of (by decide +kernel)) (fun h31 => ?_) (fun h31 => ?_)
    · refine gl (i' := 95) (fun _ _ => aw_aload_n K (dOf ck_mX12_gathers rfl rfl) rfl) ?_
      refine gl (i' := 96) (fun _ _ => aw_getf K (dOf ck_mX12_gathers rfl rfl) rfl rfl (Nat.le_of_ble_eq_true rfl) wd_1240 (k := 35) rfl) ?_
      refine gl (i' := 97) (fun _ _ => aw_iload K (dOf ck_mX12_gathers rfl rfl) rfl) ?_
      refine g_gd (fun hb32 => ?_)
      refine gl (i' := 98) (fun _ _ => aw_iald K (dOf ck_mX12_gathers rfl rfl) rfl hb32) ?_
      refine g_goto K (dOf ck_mX12_gathers rfl rfl).1 (t := 110) (aJ_of (by decide +kernel)) ?_
      refine g_sub [0, 1, 2, 3, 4, 5, 6, 7, 8] rfl ?_
      exact lk_R_gathers_110 K _ _ _ _ _ _ _ _ _ hk59 _ hk64 _ _
    · refine g_sub [0, 1, 2, 3, 4, 5, 6, 7, 8] rfl ?_
      exact lk_R_gathers_99 K _ _ _ _ _ _ _ _ _ hk59 _ hk64 _
def R_gathers_64 (k59 : Int → Int → aM → Option (Int × aM)) (x2 : Int) (x3 : Int) (x7 : Int) (x8 : Int) (x9 : Int) (x10 : Int) : Nat → Int → Int → aM → Option (Int × aM)
  | 0, _, _, _ => none
  | n + 1, x4, x11, mm => if x11 < x9 then (if 0 ≤ x10 ∧ x10 < 13 then ((R_soundAt (mm 194 x10.toNat) mm).bind fun r12 => (if 0 ≤ x11 ∧ x11 < 13 then ((R_soundAt (mm 195 x11.toNat) mm).bind fun r14 => (if r12 = r14 then (if x3 = (-1) then (R_gathers_89 k59 (R_gathers_64 k59 x2 x3 x7 x8 x9 x10 n) x2 x3 x4 x7 x8 x9 x10 x11 mm) else (if r12 = x3 then (R_gathers_89 k59 (R_gathers_64 k59 x2 x3 x7 x8 x9 x10 n) x2 x3 x4 x7 x8 x9 x10 x11 mm) else (R_gathers_158 k59 (R_gathers_64 k59 x2 x3 x7 x8 x9 x10 n) x2 x3 x4 x7 x8 x9 x10 x11 mm))) else (R_gathers_158 k59 (R_gathers_64 k59 x2 x3 x7 x8 x9 x10 n) x2 x3 x4 x7 x8 x9 x10 x11 mm))) else none)) else none) else (k59 x4 (w32 (x10 + 1)) mm)
set_option maxHeartbeats 4000000 in
theorem lk_R_gathers_64 {p : Program} {l : Launch} {e : Env} {s : State} {m : MethodId} {args : Array Value} {below : List Frame} {meth : Method} {c : Code} {D : va_G} {cA : FieldType → ClassId} {ad adV : Nat → Nat} {z0 : Nat} {al0 : List Nat} (K : aK p s m args meth c mX12_gathers D cA ad adV z0) (x2 : Int) (x3 : Int) (x7 : Int) (x8 : Int) (x9 : Int) (x10 : Int) (k59 : Int → Int → aM → Option (Int × aM)) (hk59 : ∀ (x4 : Int) (x10 : Int) (mm : aM), aG p l e { frames := 2, cells := 0, slots := 0, locals := 46 } s m args below meth c D cA ad z0 mX12_gathers al0 rIM (k59 x4 x10 mm) 59 [(0, .inr (.inr (.inl (some 176)))), (2, .inl x2), (3, .inl x3), (4, .inl x4), (7, .inl x7), (8, .inl x8), (9, .inl x9), (10, .inl x10)] [] mm)  : ∀ (n : Nat) (x4 : Int) (x11 : Int) (mm : aM), aG p l e { frames := 2, cells := 0, slots := 0, locals := 46 } s m args below meth c D cA ad z0 mX12_gathers al0 rIM (R_gathers_64 k59 x2 x3 x7 x8 x9 x10 n x4 x11 mm) 64 [(0, .inr (.inr (.inl (some 176)))), (2, .inl x2), (3, .inl x3), (4, .inl x4), (7, .inl x7), (8, .inl x8), (9, .inl x9), (10, .inl x10), (11, .inl x11)] [] mm := by
  intro n
  induction n with
  | zero => intro x4 x11 mm; exact g_none
  | succ n ih =>
    intro x4 x11 mm
    rw [R_gathers_64]
    refine gl (i' := 65) (fun _ _ => aw_iload K (dOf ck_mX12_gathers rfl rfl) rfl) ?_
    refine gl (i' := 66) (fun _ _ => aw_iload K (dOf ck_mX12_gathers rfl rfl) rfl) ?_
    refine g_icmp_ge K (dOf ck_mX12_gathers rfl rfl) (t := 160) (aJ_of (by decide +kernel)) (fun h10 => ?_) (fun h10 => ?_)
    · refine gl (i' := 68) (fun _ _ => aw_aload_n K (dOf ck_mX12_gathers rfl rfl) rfl) ?_
      refine gl (i' := 69) (fun _ _ => aw_aload_n K (dOf ck_mX12_gathers rfl rfl) rfl) ?_
      refine gl (i' := 70) (fun _ _ => aw_getf K (dOf ck_mX12_gathers rfl rfl) rfl rfl (Nat.le_of_ble_eq_true rfl) wd_1240 (k := 35) rfl) ?_
      refine gl (i' := 71) (fun _ _ => aw_iload K (dOf ck_mX12_gathers rfl rfl) rfl) ?_
      refine g_gd (fun hb11 => ?_)
      refine gl (i' := 72) (fun _ _ => aw_iald K (dOf ck_mX12_gathers rfl rfl) rfl hb11) ?_
      refine g_callVI K [.inl _] rfl (dOf ck_mX12_gathers rfl rfl) al_OneBreathModel_334 rfl rfl ⟨wd_1504, wd_112⟩ rfl (Nat.le_of_ble_eq_true rfl) ⟨Nat.le_of_ble_eq_true rfl, Nat.le_of_ble_eq_true rfl⟩ (fun b hb => met_R_soundAt  hb) (fun r12 hr12 => ?_)
      refine gl (i' := 74) (fun _ _ => aw_istore K (dOf ck_mX12_gathers rfl rfl) (Nat.le_of_ble_eq_true rfl)) ?_
      refine g_lv (lv' := [(12, .inl _), (0, .inr (.inr (.inl (some _)))), (2, .inl _), (3, .inl _), (4, .inl _), (7, .inl _), (8, .inl _), (9, .inl _), (10, .inl _), (11, .inl _)]) rfl ?_
      refine gl (i' := 75) (fun _ _ => aw_iload K (dOf ck_mX12_gathers rfl rfl) rfl) ?_
      refine gl (i' := 76) (fun _ _ => aw_aload_n K (dOf ck_mX12_gathers rfl rfl) rfl) ?_
      refine gl (i' := 77) (fun _ _ => aw_aload_n K (dOf ck_mX12_gathers rfl rfl) rfl) ?_
      refine gl (i' := 78) (fun _ _ => aw_getf K (dOf ck_mX12_gathers rfl rfl) rfl rfl (Nat.le_of_ble_eq_true rfl) wd_1241 (k := 36) rfl) ?_
      refine gl (i' := 79) (fun _ _ => aw_iload K (dOf ck_mX12_gathers rfl rfl) rfl) ?_
      refine g_gd (fun hb13 => ?_)
      refine gl (i' := 80) (fun _ _ => aw_iald K (dOf ck_mX12_gathers rfl rfl) rfl hb13) ?_
      refine g_callVI K [.inl _] rfl (dOf ck_mX12_gathers rfl rfl) al_OneBreathModel_334 rfl rfl ⟨wd_1504, wd_112⟩ rfl (Nat.le_of_ble_eq_true rfl) ⟨Nat.le_of_ble_eq_true rfl, Nat.le_of_ble_eq_true rfl⟩ (fun b hb => met_R_soundAt  hb) (fun r14 hr14 => ?_)
      refine g_icmp_ne K (dOf ck_mX12_gathers rfl rfl) (t := 158) (aJ_of (by decide +kernel)) (fun h15 => ?_) (fun h15 => ?_)
      · refine gl (i' := 83) (fun _ _ => aw_iload_n K (dOf ck_mX12_gathers rfl rfl) rfl) ?_
        refine gl (i' := 84) (fun _ _ => aw_iconst K (n := -1) (i32 _ rfl) (dOf ck_mX12_gathers rfl rfl)) ?_
        refine g_icmp_eq K (dOf ck_mX12_gathers rfl rfl) (t := 89) (aJ_of (by decide +kernel)) (fun h16 => ?_) (fun h16 => ?_)
        · refine g_sub [1, 2, 3, 4, 5, 6, 7, 8, 9] rfl ?_
          exact lk_R_gathers_89 K _ _ _ _ _ _ _ _ _ hk59 _ ih _
        · refine gl (i' := 86) (fun _ _ => aw_iload K (dOf ck_mX12_gathers rfl rfl) rfl) ?_
          refine gl (i' := 87) (fun _ _ => aw_iload_n K (dOf ck_mX12_gathers rfl rfl) rfl) ?_
          refine g_icmp_eq K (dOf ck_mX12_gathers rfl rfl) (t := 89) (aJ_of (by decide +kernel)) (fun h33 => ?_) (fun h33 => ?_)
          · refine g_sub [1, 2, 3, 4, 5, 6, 7, 8, 9] rfl ?_
            exact lk_R_gathers_89 K _ _ _ _ _ _ _ _ _ hk59 _ ih _
          · refine g_goto K (dOf ck_mX12_gathers rfl rfl).1 (t := 158) (aJ_of (by decide +kernel)) ?_
            refine g_sub [1, 2, 3, 4, 5, 6, 7, 8, 9] rfl ?_
            exact lk_R_gathers_158 K _ _ _ _ _ _ _ _ _ hk59 _ ih _
      · refine g_sub [1, 2, 3, 4, 5, 6, 7, 8, 9] rfl ?_
        exact lk_R_gathers_158 K _ _ _ _ _ _ _ _ _ hk59 _ ih _
    · refine gl (i' := 161) (fun _ _ => aw_iinc K (dOf ck_mX12_gathers rfl rfl) (Nat.le_of_ble_eq_true rfl) rfl) ?_
      refine g_lv (lv' := [(10, .inl _), (0, .inr (.inr (.inl (some _)))), (2, .inl _), (3, .inl _), (4, .inl _), (7, .inl _), (8, .inl _), (9, .inl _), (11, .inl _)]) rfl ?_
      refine g_goto K (dOf ck_mX12_gathers rfl rfl).1 (t := 59) (aJ_of (by decide +kernel)) ?_
      refine g_sub [1, 2, 3, 4, 5, 6, 7, 0] rfl ?_
      exact hk59 _ _ _
def R_gathers_59 (x2 : Int) (x3 : Int) (x7 : Int) (x8 : Int) (x9 : Int) : Nat → Int → Int → aM → Option (Int × aM)
  | 0, _, _, _ => none
  | n + 1, x4, x10, mm => if x10 < x8 then (R_gathers_64 (R_gathers_59 x2 x3 x7 x8 x9 n) x2 x3 x7 x8 x9 x10 FU x4 0 mm) else (if x4 = 0 ∨ x4 = 1 then (some (x4, mm)) else none)
set_option maxHeartbeats 4000000 in
theorem lk_R_gathers_59 {p : Program} {l : Launch} {e : Env} {s : State} {m : MethodId} {args : Array Value} {below : List Frame} {meth : Method} {c : Code} {D : va_G} {cA : FieldType → ClassId} {ad adV : Nat → Nat} {z0 : Nat} {al0 : List Nat} (K : aK p s m args meth c mX12_gathers D cA ad adV z0) (x2 : Int) (x3 : Int) (x7 : Int) (x8 : Int) (x9 : Int)  : ∀ (n : Nat) (x4 : Int) (x10 : Int) (mm : aM), aG p l e { frames := 2, cells := 0, slots := 0, locals := 46 } s m args below meth c D cA ad z0 mX12_gathers al0 rIM (R_gathers_59 x2 x3 x7 x8 x9 n x4 x10 mm) 59 [(0, .inr (.inr (.inl (some 176)))), (2, .inl x2), (3, .inl x3), (4, .inl x4), (7, .inl x7), (8, .inl x8), (9, .inl x9), (10, .inl x10)] [] mm := by
  intro n
  induction n with
  | zero => intro x4 x10 mm; exact g_none
  | succ n ih =>
    intro x4 x10 mm
    rw [R_gathers_59]
    refine gl (i' := 60) (fun _ _ => aw_iload K (dOf ck_mX12_gathers rfl rfl) rfl) ?_
    refine gl (i' := 61) (fun _ _ => aw_iload K (dOf ck_mX12_gathers rfl rfl) rfl) ?_
    refine g_icmp_ge K (dOf ck_mX12_gathers rfl rfl) (t := 162) (aJ_of (by decide +kernel)) (fun h8 => ?_) (fun h8 => ?_)
    · refine gl (i' := 63) (fun _ _ => aw_iconst K (n := 0) (i32 _ rfl) (dOf ck_mX12_gathers rfl rfl)) ?_
      refine gl (i' := 64) (fun _ _ => aw_istore K (dOf ck_mX12_gathers rfl rfl) (Nat.le_of_ble_eq_true rfl)) ?_
      refine g_lv (lv' := [(11, .inl _), (0, .inr (.inr (.inl (some _)))), (2, .inl _), (3, .inl _), (4, .inl _), (7, .inl _), (8, .inl _), (9, .inl _), (10, .inl _)]) rfl ?_
      refine g_sub [1, 2, 3, 4, 5, 6, 7, 8, 0] rfl ?_
      exact lk_R_gathers_64 K _ _ _ _ _ _ _ ih FU _ _ _
    · refine gl (i' := 163) (fun _ _ => aw_iload K (dOf ck_mX12_gathers rfl rfl) rfl) ?_
      refine g_gd (fun hb9 => ?_)
      exact g_iret K (by decide +kernel) rfl (Or.inr (Or.inl ⟨rfl, hb9⟩)) rfl
def R_gathers_44 (x2 : Int) (x3 : Int) (x4 : Int) (x5 : Int) (x6 : Int) (s0 : Int) (mm : aM) : Option (Int × aM) := (R_follows x5 194 mm).bind fun r6 => ((R_follows x6 195 r6.2).bind fun r7 => (R_gathers_59 x2 x3 s0 r6.1 r7.1 FU x4 0 r7.2))
set_option maxHeartbeats 4000000 in
theorem lk_R_gathers_44 {p : Program} {l : Launch} {e : Env} {s : State} {m : MethodId} {args : Array Value} {below : List Frame} {meth : Method} {c : Code} {D : va_G} {cA : FieldType → ClassId} {ad adV : Nat → Nat} {z0 : Nat} {al0 : List Nat} (K : aK p s m args meth c mX12_gathers D cA ad adV z0) (x2 : Int) (x3 : Int) (x4 : Int) (x5 : Int) (x6 : Int)  (s0 : Int) (mm : aM) : aG p l e { frames := 2, cells := 0, slots := 0, locals := 46 } s m args below meth c D cA ad z0 mX12_gathers al0 rIM (R_gathers_44 x2 x3 x4 x5 x6 s0 mm) 44 [(0, .inr (.inr (.inl (some 176)))), (2, .inl x2), (3, .inl x3), (4, .inl x4), (5, .inl x5), (6, .inl x6)] [.inl s0] mm := by
  unfold R_gathers_44
  refine gl (i' := 45) (fun _ _ => aw_istore K (dOf ck_mX12_gathers rfl rfl) (Nat.le_of_ble_eq_true rfl)) ?_
  refine g_lv (lv' := [(7, .inl _), (0, .inr (.inr (.inl (some _)))), (2, .inl _), (3, .inl _), (4, .inl _), (5, .inl _), (6, .inl _)]) rfl ?_
  refine gl (i' := 46) (fun _ _ => aw_aload_n K (dOf ck_mX12_gathers rfl rfl) rfl) ?_
  refine gl (i' := 47) (fun _ _ => aw_iload K (dOf ck_mX12_gathers rfl rfl) rfl) ?_
  refine gl (i' := 48) (fun _ _ => aw_aload_n K (dOf ck_mX12_gathers rfl rfl) rfl) ?_
  refine gl (i' := 49) (fun _ _ => aw_getf K (dOf ck_mX12_gathers rfl rfl) rfl rfl (Nat.le_of_ble_eq_true rfl) wd_1240 (k := 35) rfl) ?_
  refine g_callVIM K [.inl _, .inr (.inr (.inl (some _)))] rfl (dOf ck_mX12_gathers rfl rfl) al_OneBreathModel_348 rfl rfl ⟨wd_1486, wd_106⟩ rfl (Nat.le_of_ble_eq_true rfl) ⟨Nat.le_of_ble_eq_true rfl, Nat.le_of_ble_eq_true rfl⟩ (fun b hb => met_R_follows ⟨_, rfl⟩ hb) (fun r6 hr6 => ?_)
  refine gl (i' := 51) (fun _ _ => aw_istore K (dOf ck_mX12_gathers rfl rfl) (Nat.le_of_ble_eq_true rfl)) ?_
  refine g_lv (lv' := [(8, .inl _), (7, .inl _), (0, .inr (.inr (.inl (some _)))), (2, .inl _), (3, .inl _), (4, .inl _), (5, .inl _), (6, .inl _)]) rfl ?_
  refine gl (i' := 52) (fun _ _ => aw_aload_n K (dOf ck_mX12_gathers rfl rfl) rfl) ?_
  refine gl (i' := 53) (fun _ _ => aw_iload K (dOf ck_mX12_gathers rfl rfl) rfl) ?_
  refine gl (i' := 54) (fun _ _ => aw_aload_n K (dOf ck_mX12_gathers rfl rfl) rfl) ?_
  refine gl (i' := 55) (fun _ _ => aw_getf K (dOf ck_mX12_gathers rfl rfl) rfl rfl (Nat.le_of_ble_eq_true rfl) wd_1241 (k := 36) rfl) ?_
  refine g_callVIM K [.inl _, .inr (.inr (.inl (some _)))] rfl (dOf ck_mX12_gathers rfl rfl) al_OneBreathModel_348 rfl rfl ⟨wd_1486, wd_106⟩ rfl (Nat.le_of_ble_eq_true rfl) ⟨Nat.le_of_ble_eq_true rfl, Nat.le_of_ble_eq_true rfl⟩ (fun b hb => met_R_follows ⟨_, rfl⟩ hb) (fun r7 hr7 => ?_)
  refine gl (i' := 57) (fun _ _ => aw_istore K (dOf ck_mX12_gathers rfl rfl) (Nat.le_of_ble_eq_true rfl)) ?_
  refine g_lv (lv' := [(9, .inl _), (8, .inl _), (7, .inl _), (0, .inr (.inr (.inl (some _)))), (2, .inl _), (3, .inl _), (4, .inl _), (5, .inl _), (6, .inl _)]) rfl ?_
  refine gl (i' := 58) (fun _ _ => aw_iconst K (n := 0) (i32 _ rfl) (dOf ck_mX12_gathers rfl rfl)) ?_
  refine gl (i' := 59) (fun _ _ => aw_istore K (dOf ck_mX12_gathers rfl rfl) (Nat.le_of_ble_eq_true rfl)) ?_
  refine g_lv (lv' := [(10, .inl _), (9, .inl _), (8, .inl _), (7, .inl _), (0, .inr (.inr (.inl (some _)))), (2, .inl _), (3, .inl _), (4, .inl _), (5, .inl _), (6, .inl _)]) rfl ?_
  refine g_sub [4, 5, 6, 7, 3, 2, 1, 0] rfl ?_
  exact lk_R_gathers_59 K _ _ _ _ _ FU _ _ _
def R_gathers_37 (x1 : Int) (x2 : Int) (x3 : Int) (x4 : Int) (x5 : Int) (s0 : Int) (mm : aM) : Option (Int × aM) := if x1 < 78 then (R_gathers_44 x2 x3 x4 x5 s0 1 mm) else (R_gathers_44 x2 x3 x4 x5 s0 0 mm)
set_option maxHeartbeats 4000000 in
theorem lk_R_gathers_37 {p : Program} {l : Launch} {e : Env} {s : State} {m : MethodId} {args : Array Value} {below : List Frame} {meth : Method} {c : Code} {D : va_G} {cA : FieldType → ClassId} {ad adV : Nat → Nat} {z0 : Nat} {al0 : List Nat} (K : aK p s m args meth c mX12_gathers D cA ad adV z0) (x1 : Int) (x2 : Int) (x3 : Int) (x4 : Int) (x5 : Int)  (s0 : Int) (mm : aM) : aG p l e { frames := 2, cells := 0, slots := 0, locals := 46 } s m args below meth c D cA ad z0 mX12_gathers al0 rIM (R_gathers_37 x1 x2 x3 x4 x5 s0 mm) 37 [(0, .inr (.inr (.inl (some 176)))), (1, .inl x1), (2, .inl x2), (3, .inl x3), (4, .inl x4), (5, .inl x5)] [.inl s0] mm := by
  unfold R_gathers_37
  refine gl (i' := 38) (fun _ _ => aw_istore K (dOf ck_mX12_gathers rfl rfl) (Nat.le_of_ble_eq_true rfl)) ?_
  refine g_lv (lv' := [(6, .inl _), (0, .inr (.inr (.inl (some _)))), (1, .inl _), (2, .inl _), (3, .inl _), (4, .inl _), (5, .inl _)]) rfl ?_
  refine gl (i' := 39) (fun _ _ => aw_iload_n K (dOf ck_mX12_gathers rfl rfl) rfl) ?_
  refine gl (i' := 40) (fun _ _ => aw_bip K (dOf ck_mX12_gathers rfl rfl) (v := 78) rfl) ?_
  refine g_icmp_ge K (dOf ck_mX12_gathers rfl rfl) (t := 43) (aJ_of (by decide +kernel)) (fun h5 => ?_) (fun h5 => ?_)
  · refine gl (i' := 42) (fun _ _ => aw_iconst K (n := 1) (i32 _ rfl) (dOf ck_mX12_gathers rfl rfl)) ?_
    refine g_goto K (dOf ck_mX12_gathers rfl rfl).1 (t := 44) (aJ_of (by decide +kernel)) ?_
    refine g_sub [1, 3, 4, 5, 6, 0] rfl ?_
    exact lk_R_gathers_44 K _ _ _ _ _ _ _
  · refine gl (i' := 44) (fun _ _ => aw_iconst K (n := 0) (i32 _ rfl) (dOf ck_mX12_gathers rfl rfl)) ?_
    refine g_sub [1, 3, 4, 5, 6, 0] rfl ?_
    exact lk_R_gathers_44 K _ _ _ _ _ _ _
def R_gathers_19 (x1 : Int) (x2 : Int) (x3 : Int) (x4 : Int) (s0 : Int) (mm : aM) : Option (Int × aM) := if x1 = (-1) then (R_gathers_37 x1 x2 x3 x4 s0 (-1) mm) else (if x1 < 78 then (R_gathers_37 x1 x2 x3 x4 s0 x1 mm) else (R_gathers_37 x1 x2 x3 x4 s0 (Int.tmod (w32 (Int.tdiv (w32 (x1 - 78)) 9)) 78) mm))
set_option maxHeartbeats 4000000 in
theorem lk_R_gathers_19 {p : Program} {l : Launch} {e : Env} {s : State} {m : MethodId} {args : Array Value} {below : List Frame} {meth : Method} {c : Code} {D : va_G} {cA : FieldType → ClassId} {ad adV : Nat → Nat} {z0 : Nat} {al0 : List Nat} (K : aK p s m args meth c mX12_gathers D cA ad adV z0) (x1 : Int) (x2 : Int) (x3 : Int) (x4 : Int)  (s0 : Int) (mm : aM) : aG p l e { frames := 2, cells := 0, slots := 0, locals := 46 } s m args below meth c D cA ad z0 mX12_gathers al0 rIM (R_gathers_19 x1 x2 x3 x4 s0 mm) 19 [(0, .inr (.inr (.inl (some 176)))), (1, .inl x1), (2, .inl x2), (3, .inl x3), (4, .inl x4)] [.inl s0] mm := by
  unfold R_gathers_19
  refine gl (i' := 20) (fun _ _ => aw_istore K (dOf ck_mX12_gathers rfl rfl) (Nat.le_of_ble_eq_true rfl)) ?_
  refine g_lv (lv' := [(5, .inl _), (0, .inr (.inr (.inl (some _)))), (1, .inl _), (2, .inl _), (3, .inl _), (4, .inl _)]) rfl ?_
  refine gl (i' := 21) (fun _ _ => aw_iload_n K (dOf ck_mX12_gathers rfl rfl) rfl) ?_
  refine gl (i' := 22) (fun _ _ => aw_iconst K (n := -1) (i32 _ rfl) (dOf ck_mX12_gathers rfl rfl)) ?_
  refine g_icmp_ne K (dOf ck_mX12_gathers rfl rfl) (t := 25) (aJ_of (by decide +kernel)) (fun h3 => ?_) (fun h3 => ?_)
  · refine gl (i' := 24) (fun _ _ => aw_iconst K (n := -1) (i32 _ rfl) (dOf ck_mX12_gathers rfl rfl)) ?_
    refine g_goto K (dOf ck_mX12_gathers rfl rfl).1 (t := 37) (aJ_of (by decide +kernel)) ?_
    refine g_sub [1, 2, 3, 4, 5, 0] rfl ?_
    exact lk_R_gathers_37 K _ _ _ _ _ _ _
  · refine gl (i' := 26) (fun _ _ => aw_iload_n K (dOf ck_mX12_gathers rfl rfl) rfl) ?_
    refine gl (i' := 27) (fun _ _ => aw_bip K (dOf ck_mX12_gathers rfl rfl) (v := 78) rfl) ?_
    refine g_icmp_ge K (dOf ck_mX12_gathers rfl rfl) (t := 30) (aJ_of (by decide +kernel)) (fun h4 => ?_) (fun h4 => ?_)
    · refine gl (i' := 29) (fun _ _ => aw_iload_n K (dOf ck_mX12_gathers rfl rfl) rfl) ?_
      refine g_goto K (dOf ck_mX12_gathers rfl rfl).1 (t := 37) (aJ_of (by decide +kernel)) ?_
      refine g_sub [1, 2, 3, 4, 5, 0] rfl ?_
      exact lk_R_gathers_37 K _ _ _ _ _ _ _
    · refine gl (i' := 31) (fun _ _ => aw_iload_n K (dOf ck_mX12_gathers rfl rfl) rfl) ?_
      refine gl (i' := 32) (fun _ _ => aw_bip K (dOf ck_mX12_gathers rfl rfl) (v := 78) rfl) ?_
      refine gl (i' := 33) (fun _ _ => aw_isub K (dOf ck_mX12_gathers rfl rfl)) ?_
      refine gl (i' := 34) (fun _ _ => aw_bip K (dOf ck_mX12_gathers rfl rfl) (v := 9) rfl) ?_
      refine gl (i' := 35) (fun _ _ => aw_idiv K (by decide) (dOf ck_mX12_gathers rfl rfl)) ?_
      refine gl (i' := 36) (fun _ _ => aw_bip K (dOf ck_mX12_gathers rfl rfl) (v := 78) rfl) ?_
      refine gl (i' := 37) (fun _ _ => aw_irem K (by decide) (dOf ck_mX12_gathers rfl rfl)) ?_
      refine g_sub [1, 2, 3, 4, 5, 0] rfl ?_
      exact lk_R_gathers_37 K _ _ _ _ _ _ _
def R_gathers (x1 : Int) (x2 : Int) (x3 : Int) (mm : aM) : Option (Int × aM) := if x1 = (-1) then (R_gathers_19 x1 x2 x3 0 (-1) mm) else (if x1 < 78 then (R_gathers_19 x1 x2 x3 0 x1 mm) else (R_gathers_19 x1 x2 x3 0 (w32 (Int.tdiv (w32 (Int.tdiv (w32 (x1 - 78)) 9)) 78)) mm))
set_option maxHeartbeats 4000000 in
theorem met_R_gathers {l : Launch} {D : va_G} {cA : FieldType → ClassId} {ad adV : Nat → Nat} {z0 : Nat} {x1 : Int} {x2 : Int} {x3 : Int} {mm : aM}  {r : Int × aM} (h : R_gathers x1 x2 x3 mm = some r) : aMet l D cA ad adV z0 mX12_gathers 2 46 0 0 [.inr (.inr (.inl (some 176))), .inl x1, .inl x2, .inl x3] SH mm (rIM r).1 SH (rIM r).2 := by
  refine aMet_ofG (by decide +kernel) rfl (Nat.le_of_ble_eq_true rfl) h (fun p e s m args below meth c al0 K => ?_)
  unfold R_gathers
  refine gl (i' := 1) (fun _ _ => aw_iconst K (n := 0) (i32 _ rfl) (dOf ck_mX12_gathers rfl rfl)) ?_
  refine gl (i' := 2) (fun _ _ => aw_istore K (dOf ck_mX12_gathers rfl rfl) (Nat.le_of_ble_eq_true rfl)) ?_
  refine g_lv (lv' := [(4, .inl _), (0, .inr (.inr (.inl (some _)))), (1, .inl _), (2, .inl _), (3, .inl _)]) rfl ?_
  refine gl (i' := 3) (fun _ _ => aw_iload_n K (dOf ck_mX12_gathers rfl rfl) rfl) ?_
  refine gl (i' := 4) (fun _ _ => aw_iconst K (n := -1) (i32 _ rfl) (dOf ck_mX12_gathers rfl rfl)) ?_
  refine g_icmp_ne K (dOf ck_mX12_gathers rfl rfl) (t := 7) (aJ_of (by decide +kernel)) (fun h1 => ?_) (fun h1 => ?_)
  · refine gl (i' := 6) (fun _ _ => aw_iconst K (n := -1) (i32 _ rfl) (dOf ck_mX12_gathers rfl rfl)) ?_
    refine g_goto K (dOf ck_mX12_gathers rfl rfl).1 (t := 19) (aJ_of (by decide +kernel)) ?_
    refine g_sub [1, 2, 3, 4, 0] rfl ?_
    exact lk_R_gathers_19 K _ _ _ _ _ _
  · refine gl (i' := 8) (fun _ _ => aw_iload_n K (dOf ck_mX12_gathers rfl rfl) rfl) ?_
    refine gl (i' := 9) (fun _ _ => aw_bip K (dOf ck_mX12_gathers rfl rfl) (v := 78) rfl) ?_
    refine g_icmp_ge K (dOf ck_mX12_gathers rfl rfl) (t := 12) (aJ_of (by decide +kernel)) (fun h2 => ?_) (fun h2 => ?_)
    · refine gl (i' := 11) (fun _ _ => aw_iload_n K (dOf ck_mX12_gathers rfl rfl) rfl) ?_
      refine g_goto K (dOf ck_mX12_gathers rfl rfl).1 (t := 19) (aJ_of (by decide +kernel)) ?_
      refine g_sub [1, 2, 3, 4, 0] rfl ?_
      exact lk_R_gathers_19 K _ _ _ _ _ _
    · refine gl (i' := 13) (fun _ _ => aw_iload_n K (dOf ck_mX12_gathers rfl rfl) rfl) ?_
      refine gl (i' := 14) (fun _ _ => aw_bip K (dOf ck_mX12_gathers rfl rfl) (v := 78) rfl) ?_
      refine gl (i' := 15) (fun _ _ => aw_isub K (dOf ck_mX12_gathers rfl rfl)) ?_
      refine gl (i' := 16) (fun _ _ => aw_bip K (dOf ck_mX12_gathers rfl rfl) (v := 9) rfl) ?_
      refine gl (i' := 17) (fun _ _ => aw_idiv K (by decide) (dOf ck_mX12_gathers rfl rfl)) ?_
      refine gl (i' := 18) (fun _ _ => aw_bip K (dOf ck_mX12_gathers rfl rfl) (v := 78) rfl) ?_
      refine gl (i' := 19) (fun _ _ => aw_idiv K (by decide) (dOf ck_mX12_gathers rfl rfl)) ?_
      refine g_sub [1, 2, 3, 4, 0] rfl ?_
      exact lk_R_gathers_19 K _ _ _ _ _ _
def R_unsureAt_124 (k86 : Int → Int → aM → Option (Int × aM)) (x1 : Int) (x3 : Int) (x4 : Int) : Nat → Int → aM → Option (Int × aM)
  | 0, _, _ => none
  | n + 1, x5, mm => if x5 < (mm 176 40) then (if 0 ≤ x5 ∧ x5 < 54834 then (st1 (aup mm 196 x5.toNat (mm 197 x5.toNat)) fun mm15 => (if 0 ≤ (mm15 196 x5.toNat) ∧ (mm15 196 x5.toNat) < 54834 then (st1 (aup mm15 192 (mm15 196 x5.toNat).toNat 0) fun mm17 => (R_unsureAt_124 k86 x1 x3 x4 n (w32 (x5 + 1)) mm17)) else none)) else none) else (k86 x3 (w32 (x4 + 1)) mm)
set_option maxHeartbeats 4000000 in
theorem lk_R_unsureAt_124 {p : Program} {l : Launch} {e : Env} {s : State} {m : MethodId} {args : Array Value} {below : List Frame} {meth : Method} {c : Code} {D : va_G} {cA : FieldType → ClassId} {ad adV : Nat → Nat} {z0 : Nat} {al0 : List Nat} (K : aK p s m args meth c mX12_unsureAt D cA ad adV z0) (x1 : Int) (x3 : Int) (x4 : Int) (k86 : Int → Int → aM → Option (Int × aM)) (hk86 : ∀ (x3 : Int) (x4 : Int) (mm : aM), aG p l e { frames := 5, cells := 0, slots := 0, locals := 125 } s m args below meth c D cA ad z0 mX12_unsureAt al0 rIM (k86 x3 x4 mm) 86 [(0, .inr (.inr (.inl (some 176)))), (1, .inl x1), (3, .inl x3), (4, .inl x4)] [] mm)  : ∀ (n : Nat) (x5 : Int) (mm : aM), aG p l e { frames := 5, cells := 0, slots := 0, locals := 125 } s m args below meth c D cA ad z0 mX12_unsureAt al0 rIM (R_unsureAt_124 k86 x1 x3 x4 n x5 mm) 124 [(0, .inr (.inr (.inl (some 176)))), (1, .inl x1), (3, .inl x3), (4, .inl x4), (5, .inl x5)] [] mm := by
  intro n
  induction n with
  | zero => intro x5 mm; exact g_none
  | succ n ih =>
    intro x5 mm
    rw [R_unsureAt_124]
    refine gl (i' := 125) (fun _ _ => aw_iload K (dOf ck_mX12_unsureAt rfl rfl) rfl) ?_
    refine gl (i' := 126) (fun _ _ => aw_aload_n K (dOf ck_mX12_unsureAt rfl rfl) rfl) ?_
    refine gl (i' := 127) (fun _ _ => aw_getf K (dOf ck_mX12_unsureAt rfl rfl) rfl rfl (Nat.le_of_ble_eq_true rfl) wd_1245 (k := 40) rfl) ?_
    refine g_icmp_ge K (dOf ck_mX12_unsureAt rfl rfl) (t := 146) (aJ_of (by decide +kernel)) (fun h13 => ?_) (fun h13 => ?_)
    · refine gl (i' := 129) (fun _ _ => aw_aload_n K (dOf ck_mX12_unsureAt rfl rfl) rfl) ?_
      refine gl (i' := 130) (fun _ _ => aw_getf K (dOf ck_mX12_unsureAt rfl rfl) rfl rfl (Nat.le_of_ble_eq_true rfl) wd_1242 (k := 37) rfl) ?_
      refine gl (i' := 131) (fun _ _ => aw_iload K (dOf ck_mX12_unsureAt rfl rfl) rfl) ?_
      refine gl (i' := 132) (fun _ _ => aw_aload_n K (dOf ck_mX12_unsureAt rfl rfl) rfl) ?_
      refine gl (i' := 133) (fun _ _ => aw_getf K (dOf ck_mX12_unsureAt rfl rfl) rfl rfl (Nat.le_of_ble_eq_true rfl) wd_1243 (k := 38) rfl) ?_
      refine gl (i' := 134) (fun _ _ => aw_iload K (dOf ck_mX12_unsureAt rfl rfl) rfl) ?_
      refine g_gd (fun hb14 => ?_)
      refine gl (i' := 135) (fun _ _ => aw_iald K (dOf ck_mX12_unsureAt rfl rfl) rfl hb14) ?_
      refine g_st1 ?_
      refine gl (i' := 136) (fun _ _ => aw_iast K (dOf ck_mX12_unsureAt rfl rfl) rfl hb14) ?_
      refine gl (i' := 137) (fun _ _ => aw_aload_n K (dOf ck_mX12_unsureAt rfl rfl) rfl) ?_
      refine gl (i' := 138) (fun _ _ => aw_getf K (dOf ck_mX12_unsureAt rfl rfl) rfl rfl (Nat.le_of_ble_eq_true rfl) wd_1233 (k := 28) rfl) ?_
      refine gl (i' := 139) (fun _ _ => aw_aload_n K (dOf ck_mX12_unsureAt rfl rfl) rfl) ?_
      refine gl (i' := 140) (fun _ _ => aw_getf K (dOf ck_mX12_unsureAt rfl rfl) rfl rfl (Nat.le_of_ble_eq_true rfl) wd_1242 (k := 37) rfl) ?_
      refine gl (i' := 141) (fun _ _ => aw_iload K (dOf ck_mX12_unsureAt rfl rfl) rfl) ?_
      refine gl (i' := 142) (fun _ _ => aw_iald K (dOf ck_mX12_unsureAt rfl rfl) rfl hb14) ?_
      refine gl (i' := 143) (fun _ _ => aw_iconst K (n := 0) (i32 _ rfl) (dOf ck_mX12_unsureAt rfl rfl)) ?_
      refine g_gd (fun hb16 => ?_)
      refine g_st1 ?_
      refine gl (i' := 144) (fun _ _ => aw_zast K (dOf ck_mX12_unsureAt rfl rfl) rfl hb16 (Or.inl rfl)) ?_
      refine gl (i' := 145) (fun _ _ => aw_iinc K (dOf ck_mX12_unsureAt rfl rfl) (Nat.le_of_ble_eq_true rfl) rfl) ?_
      refine g_lv (lv' := [(5, .inl _), (0, .inr (.inr (.inl (some _)))), (1, .inl _), (3, .inl _), (4, .inl _)]) rfl ?_
      refine g_goto K (dOf ck_mX12_unsureAt rfl rfl).1 (t := 124) (aJ_of (by decide +kernel)) ?_
      refine g_sub [1, 2, 3, 4, 0] rfl ?_
      exact ih _ _
    · refine gl (i' := 147) (fun _ _ => aw_iinc K (dOf ck_mX12_unsureAt rfl rfl) (Nat.le_of_ble_eq_true rfl) rfl) ?_
      refine g_lv (lv' := [(4, .inl _), (0, .inr (.inr (.inl (some _)))), (1, .inl _), (3, .inl _), (5, .inl _)]) rfl ?_
      refine g_goto K (dOf ck_mX12_unsureAt rfl rfl).1 (t := 86) (aJ_of (by decide +kernel)) ?_
      refine g_sub [1, 2, 3, 0] rfl ?_
      exact hk86 _ _ _
def R_unsureAt_100 (k86 : Int → Int → aM → Option (Int × aM)) (k94 : Int → aM → Option (Int × aM)) (x1 : Int) (x3 : Int) (x4 : Int) : Nat → Int → aM → Option (Int × aM)
  | 0, _, _ => none
  | n + 1, x5, mm => if x5 < (mm 176 39) then (if 0 ≤ x5 ∧ x5 < 54834 then ((R_gathers (mm 196 x5.toNat) (w32 (x4 + 1)) x3 mm).bind fun r20 => (R_unsureAt_100 k86 k94 x1 x3 x4 n (w32 (x5 + 1)) r20.2)) else none) else (k94 x3 mm)
set_option maxHeartbeats 4000000 in
theorem lk_R_unsureAt_100 {p : Program} {l : Launch} {e : Env} {s : State} {m : MethodId} {args : Array Value} {below : List Frame} {meth : Method} {c : Code} {D : va_G} {cA : FieldType → ClassId} {ad adV : Nat → Nat} {z0 : Nat} {al0 : List Nat} (K : aK p s m args meth c mX12_unsureAt D cA ad adV z0) (x1 : Int) (x3 : Int) (x4 : Int) (k86 : Int → Int → aM → Option (Int × aM)) (hk86 : ∀ (x3 : Int) (x4 : Int) (mm : aM), aG p l e { frames := 5, cells := 0, slots := 0, locals := 125 } s m args below meth c D cA ad z0 mX12_unsureAt al0 rIM (k86 x3 x4 mm) 86 [(0, .inr (.inr (.inl (some 176)))), (1, .inl x1), (3, .inl x3), (4, .inl x4)] [] mm) (k94 : Int → aM → Option (Int × aM)) (hk94 : ∀ (x3 : Int) (mm : aM), aG p l e { frames := 5, cells := 0, slots := 0, locals := 125 } s m args below meth c D cA ad z0 mX12_unsureAt al0 rIM (k94 x3 mm) 94 [(0, .inr (.inr (.inl (some 176)))), (1, .inl x1), (3, .inl x3), (4, .inl x4)] [] mm)  : ∀ (n : Nat) (x5 : Int) (mm : aM), aG p l e { frames := 5, cells := 0, slots := 0, locals := 125 } s m args below meth c D cA ad z0 mX12_unsureAt al0 rIM (R_unsureAt_100 k86 k94 x1 x3 x4 n x5 mm) 100 [(0, .inr (.inr (.inl (some 176)))), (1, .inl x1), (3, .inl x3), (4, .inl x4), (5, .inl x5)] [] mm := by
  intro n
  induction n with
  | zero => intro x5 mm; exact g_none
  | succ n ih =>
    intro x5 mm
    rw [R_unsureAt_100]
    refine gl (i' := 101) (fun _ _ => aw_iload K (dOf ck_mX12_unsureAt rfl rfl) rfl) ?_
    refine gl (i' := 102) (fun _ _ => aw_aload_n K (dOf ck_mX12_unsureAt rfl rfl) rfl) ?_
    refine gl (i' := 103) (fun _ _ => aw_getf K (dOf ck_mX12_unsureAt rfl rfl) rfl rfl (Nat.le_of_ble_eq_true rfl) wd_1244 (k := 39) rfl) ?_
    refine g_icmp_ge K (dOf ck_mX12_unsureAt rfl rfl) (t := 117) (aJ_of (by decide +kernel)) (fun h18 => ?_) (fun h18 => ?_)
    · refine gl (i' := 105) (fun _ _ => aw_aload_n K (dOf ck_mX12_unsureAt rfl rfl) rfl) ?_
      refine gl (i' := 106) (fun _ _ => aw_aload_n K (dOf ck_mX12_unsureAt rfl rfl) rfl) ?_
      refine gl (i' := 107) (fun _ _ => aw_getf K (dOf ck_mX12_unsureAt rfl rfl) rfl rfl (Nat.le_of_ble_eq_true rfl) wd_1242 (k := 37) rfl) ?_
      refine gl (i' := 108) (fun _ _ => aw_iload K (dOf ck_mX12_unsureAt rfl rfl) rfl) ?_
      refine g_gd (fun hb19 => ?_)
      refine gl (i' := 109) (fun _ _ => aw_iald K (dOf ck_mX12_unsureAt rfl rfl) rfl hb19) ?_
      refine gl (i' := 110) (fun _ _ => aw_iload K (dOf ck_mX12_unsureAt rfl rfl) rfl) ?_
      refine gl (i' := 111) (fun _ _ => aw_iconst K (n := 1) (i32 _ rfl) (dOf ck_mX12_unsureAt rfl rfl)) ?_
      refine gl (i' := 112) (fun _ _ => aw_iadd K (dOf ck_mX12_unsureAt rfl rfl)) ?_
      refine gl (i' := 113) (fun _ _ => aw_iload_n K (dOf ck_mX12_unsureAt rfl rfl) rfl) ?_
      refine g_callVIM K [.inl _, .inl _, .inl _] rfl (dOf ck_mX12_unsureAt rfl rfl) al_OneBreathModel_378 rfl rfl ⟨wd_1526, wd_117⟩ rfl (Nat.le_of_ble_eq_true rfl) ⟨Nat.le_of_ble_eq_true rfl, Nat.le_of_ble_eq_true rfl⟩ (fun b hb => met_R_gathers  hb) (fun r20 hr20 => ?_)
      refine gl (i' := 115) (fun _ _ => aw_pop K rfl (dOf ck_mX12_unsureAt rfl rfl)) ?_
      refine gl (i' := 116) (fun _ _ => aw_iinc K (dOf ck_mX12_unsureAt rfl rfl) (Nat.le_of_ble_eq_true rfl) rfl) ?_
      refine g_lv (lv' := [(5, .inl _), (0, .inr (.inr (.inl (some _)))), (1, .inl _), (3, .inl _), (4, .inl _)]) rfl ?_
      refine g_goto K (dOf ck_mX12_unsureAt rfl rfl).1 (t := 100) (aJ_of (by decide +kernel)) ?_
      refine g_sub [1, 2, 3, 4, 0] rfl ?_
      exact ih _ _
    · refine g_goto K (dOf ck_mX12_unsureAt rfl rfl).1 (t := 94) (aJ_of (by decide +kernel)) ?_
      refine g_sub [0, 1, 2, 3] rfl ?_
      exact hk94 _ _
def R_unsureAt_94 (k86 : Int → Int → aM → Option (Int × aM)) (x1 : Int) (x4 : Int) : Nat → Int → aM → Option (Int × aM)
  | 0, _, _ => none
  | n + 1, x3, mm => if (mm 176 40) = 0 then (R_unsureAt_100 k86 (R_unsureAt_94 k86 x1 x4 n) x1 (w32 (x3 + 1)) x4 FU 0 mm) else (st1 (aup mm 176 39 (mm 176 40)) fun mm12 => (R_unsureAt_124 k86 x1 x3 x4 FU 0 mm12))
set_option maxHeartbeats 4000000 in
theorem lk_R_unsureAt_94 {p : Program} {l : Launch} {e : Env} {s : State} {m : MethodId} {args : Array Value} {below : List Frame} {meth : Method} {c : Code} {D : va_G} {cA : FieldType → ClassId} {ad adV : Nat → Nat} {z0 : Nat} {al0 : List Nat} (K : aK p s m args meth c mX12_unsureAt D cA ad adV z0) (x1 : Int) (x4 : Int) (k86 : Int → Int → aM → Option (Int × aM)) (hk86 : ∀ (x3 : Int) (x4 : Int) (mm : aM), aG p l e { frames := 5, cells := 0, slots := 0, locals := 125 } s m args below meth c D cA ad z0 mX12_unsureAt al0 rIM (k86 x3 x4 mm) 86 [(0, .inr (.inr (.inl (some 176)))), (1, .inl x1), (3, .inl x3), (4, .inl x4)] [] mm)  : ∀ (n : Nat) (x3 : Int) (mm : aM), aG p l e { frames := 5, cells := 0, slots := 0, locals := 125 } s m args below meth c D cA ad z0 mX12_unsureAt al0 rIM (R_unsureAt_94 k86 x1 x4 n x3 mm) 94 [(0, .inr (.inr (.inl (some 176)))), (1, .inl x1), (3, .inl x3), (4, .inl x4)] [] mm := by
  intro n
  induction n with
  | zero => intro x3 mm; exact g_none
  | succ n ih =>
    intro x3 mm
    rw [R_unsureAt_94]
    refine gl (i' := 95) (fun _ _ => aw_aload_n K (dOf ck_mX12_unsureAt rfl rfl) rfl) ?_
    refine gl (i' := 96) (fun _ _ => aw_getf K (dOf ck_mX12_unsureAt rfl rfl) rfl rfl (Nat.le_of_ble_eq_true rfl) wd_1245 (k := 40) rfl) ?_
    refine g_if_ne K (dOf ck_mX12_unsureAt rfl rfl) (t := 118) (aJ_of (by decide +kernel)) (fun h11 => ?_) (fun h11 => ?_)
    · refine gl (i' := 98) (fun _ _ => aw_iinc K (dOf ck_mX12_unsureAt rfl rfl) (Nat.le_of_ble_eq_true rfl) rfl) ?_
      refine g_lv (lv' := [(3, .inl _), (0, .inr (.inr (.inl (some _)))), (1, .inl _), (4, .inl _)]) rfl ?_
      refine gl (i' := 99) (fun _ _ => aw_iconst K (n := 0) (i32 _ rfl) (dOf ck_mX12_unsureAt rfl rfl)) ?_
      refine gl (i' := 100) (fun _ _ => aw_istore K (dOf ck_mX12_unsureAt rfl rfl) (Nat.le_of_ble_eq_true rfl)) ?_
      refine g_lv (lv' := [(5, .inl _), (3, .inl _), (0, .inr (.inr (.inl (some _)))), (1, .inl _), (4, .inl _)]) rfl ?_
      refine g_sub [2, 3, 1, 4, 0] rfl ?_
      exact lk_R_unsureAt_100 K _ _ _ _ hk86 _ ih FU _ _
    · refine gl (i' := 119) (fun _ _ => aw_aload_n K (dOf ck_mX12_unsureAt rfl rfl) rfl) ?_
      refine gl (i' := 120) (fun _ _ => aw_aload_n K (dOf ck_mX12_unsureAt rfl rfl) rfl) ?_
      refine gl (i' := 121) (fun _ _ => aw_getf K (dOf ck_mX12_unsureAt rfl rfl) rfl rfl (Nat.le_of_ble_eq_true rfl) wd_1245 (k := 40) rfl) ?_
      refine g_st1 ?_
      refine gl (i' := 122) (fun _ _ => aw_putf K (dOf ck_mX12_unsureAt rfl rfl) rfl rfl (Nat.le_of_ble_eq_true rfl) wd_1244 (k := 39) rfl rfl (Or.inl rfl)) ?_
      refine gl (i' := 123) (fun _ _ => aw_iconst K (n := 0) (i32 _ rfl) (dOf ck_mX12_unsureAt rfl rfl)) ?_
      refine gl (i' := 124) (fun _ _ => aw_istore K (dOf ck_mX12_unsureAt rfl rfl) (Nat.le_of_ble_eq_true rfl)) ?_
      refine g_lv (lv' := [(5, .inl _), (0, .inr (.inr (.inl (some _)))), (1, .inl _), (3, .inl _), (4, .inl _)]) rfl ?_
      refine g_sub [1, 2, 3, 4, 0] rfl ?_
      exact lk_R_unsureAt_124 K _ _ _ _ hk86 FU _ _
def R_unsureAt_86 (x1 : Int) : Nat → Int → Int → aM → Option (Int × aM)
  | 0, _, _, _ => none
  | n + 1, x3, x4, mm => if x1 < x4 then (some (x3, mm)) else (st1 (aup mm 176 40 0) fun mm10 => (R_unsureAt_94 (R_unsureAt_86 x1 n) x1 x4 FU (-1) mm10))
set_option maxHeartbeats 4000000 in
theorem lk_R_unsureAt_86 {p : Program} {l : Launch} {e : Env} {s : State} {m : MethodId} {args : Array Value} {below : List Frame} {meth : Method} {c : Code} {D : va_G} {cA : FieldType → ClassId} {ad adV : Nat → Nat} {z0 : Nat} {al0 : List Nat} (K : aK p s m args meth c mX12_unsureAt D cA ad adV z0) (x1 : Int)  : ∀ (n : Nat) (x3 : Int) (x4 : Int) (mm : aM), aG p l e { frames := 5, cells := 0, slots := 0, locals := 125 } s m args below meth c D cA ad z0 mX12_unsureAt al0 rIM (R_unsureAt_86 x1 n x3 x4 mm) 86 [(0, .inr (.inr (.inl (some 176)))), (1, .inl x1), (3, .inl x3), (4, .inl x4)] [] mm := by
  intro n
  induction n with
  | zero => intro x3 x4 mm; exact g_none
  | succ n ih =>
    intro x3 x4 mm
    rw [R_unsureAt_86]
    refine gl (i' := 87) (fun _ _ => aw_iload K (dOf ck_mX12_unsureAt rfl rfl) rfl) ?_
    refine gl (i' := 88) (fun _ _ => aw_iload_n K (dOf ck_mX12_unsureAt rfl rfl) rfl) ?_
    refine g_icmp_gt K (dOf ck_mX12_unsureAt rfl rfl) (t := 148) (aJ_of (by decide +kernel)) (fun h9 => ?_) (fun h9 => ?_)
    · refine gl (i' := 149) (fun _ _ => aw_iload_n K (dOf ck_mX12_unsureAt rfl rfl) rfl) ?_
      exact g_iret K (by decide +kernel) rfl (Or.inl rfl) rfl
    · refine gl (i' := 90) (fun _ _ => aw_aload_n K (dOf ck_mX12_unsureAt rfl rfl) rfl) ?_
      refine gl (i' := 91) (fun _ _ => aw_iconst K (n := 0) (i32 _ rfl) (dOf ck_mX12_unsureAt rfl rfl)) ?_
      refine g_st1 ?_
      refine gl (i' := 92) (fun _ _ => aw_putf K (dOf ck_mX12_unsureAt rfl rfl) rfl rfl (Nat.le_of_ble_eq_true rfl) wd_1245 (k := 40) rfl rfl (Or.inl rfl)) ?_
      refine gl (i' := 93) (fun _ _ => aw_iconst K (n := -1) (i32 _ rfl) (dOf ck_mX12_unsureAt rfl rfl)) ?_
      refine gl (i' := 94) (fun _ _ => aw_istore_n K (dOf ck_mX12_unsureAt rfl rfl) (Nat.le_of_ble_eq_true rfl)) ?_
      refine g_lv (lv' := [(3, .inl _), (0, .inr (.inr (.inl (some _)))), (1, .inl _), (4, .inl _)]) rfl ?_
      refine g_sub [1, 2, 0, 3] rfl ?_
      exact lk_R_unsureAt_94 K _ _ _ ih FU _ _
def R_unsureAt_71 (k26 : Int → aM → Option (Int × aM)) (x1 : Int) (x2 : Int) (x3 : Int) (s0 : Int) (s1 : Int) (mm : aM) : Option (Int × aM) := if 0 ≤ s1 ∧ s1 < 54834 then (if s0 = 0 ∨ s0 = 1 then (st1 (aup mm 191 s1.toNat s0) fun mm28 => (k26 (w32 (x3 + (-1))) mm28)) else none) else none
set_option maxHeartbeats 4000000 in
theorem lk_R_unsureAt_71 {p : Program} {l : Launch} {e : Env} {s : State} {m : MethodId} {args : Array Value} {below : List Frame} {meth : Method} {c : Code} {D : va_G} {cA : FieldType → ClassId} {ad adV : Nat → Nat} {z0 : Nat} {al0 : List Nat} (K : aK p s m args meth c mX12_unsureAt D cA ad adV z0) (x1 : Int) (x2 : Int) (x3 : Int) (k26 : Int → aM → Option (Int × aM)) (hk26 : ∀ (x3 : Int) (mm : aM), aG p l e { frames := 5, cells := 0, slots := 0, locals := 125 } s m args below meth c D cA ad z0 mX12_unsureAt al0 rIM (k26 x3 mm) 26 [(0, .inr (.inr (.inl (some 176)))), (1, .inl x1), (2, .inl x2), (3, .inl x3)] [] mm)  (s0 : Int) (s1 : Int) (mm : aM) : aG p l e { frames := 5, cells := 0, slots := 0, locals := 125 } s m args below meth c D cA ad z0 mX12_unsureAt al0 rIM (R_unsureAt_71 k26 x1 x2 x3 s0 s1 mm) 71 [(0, .inr (.inr (.inl (some 176)))), (1, .inl x1), (2, .inl x2), (3, .inl x3)] [.inl s0, .inl s1, .inr (.inr (.inl (some 191)))] mm := by
  unfold R_unsureAt_71
  refine g_gd (fun hb26 => ?_)
  refine g_gd (fun hb27 => ?_)
  refine g_st1 ?_
  refine gl (i' := 72) (fun _ _ => aw_zast K (dOf ck_mX12_unsureAt rfl rfl) rfl hb26 hb27) ?_
  refine gl (i' := 73) (fun _ _ => aw_iinc K (dOf ck_mX12_unsureAt rfl rfl) (Nat.le_of_ble_eq_true rfl) rfl) ?_
  refine g_lv (lv' := [(3, .inl _), (0, .inr (.inr (.inl (some _)))), (1, .inl _), (2, .inl _)]) rfl ?_
  refine g_goto K (dOf ck_mX12_unsureAt rfl rfl).1 (t := 26) (aJ_of (by decide +kernel)) ?_
  refine g_sub [1, 2, 3, 0] rfl ?_
  exact hk26 _ _
def R_unsureAt_70 (k26 : Int → aM → Option (Int × aM)) (x1 : Int) (x2 : Int) (x3 : Int) (s0 : Int) (mm : aM) : Option (Int × aM) := R_unsureAt_71 k26 x1 x2 x3 0 s0 mm
set_option maxHeartbeats 4000000 in
theorem lk_R_unsureAt_70 {p : Program} {l : Launch} {e : Env} {s : State} {m : MethodId} {args : Array Value} {below : List Frame} {meth : Method} {c : Code} {D : va_G} {cA : FieldType → ClassId} {ad adV : Nat → Nat} {z0 : Nat} {al0 : List Nat} (K : aK p s m args meth c mX12_unsureAt D cA ad adV z0) (x1 : Int) (x2 : Int) (x3 : Int) (k26 : Int → aM → Option (Int × aM)) (hk26 : ∀ (x3 : Int) (mm : aM), aG p l e { frames := 5, cells := 0, slots := 0, locals := 125 } s m args below meth c D cA ad z0 mX12_unsureAt al0 rIM (k26 x3 mm) 26 [(0, .inr (.inr (.inl (some 176)))), (1, .inl x1), (2, .inl x2), (3, .inl x3)] [] mm)  (s0 : Int) (mm : aM) : aG p l e { frames := 5, cells := 0, slots := 0, locals := 125 } s m args below meth c D cA ad z0 mX12_unsureAt al0 rIM (R_unsureAt_70 k26 x1 x2 x3 s0 mm) 70 [(0, .inr (.inr (.inl (some 176)))), (1, .inl x1), (2, .inl x2), (3, .inl x3)] [.inl s0, .inr (.inr (.inl (some 191)))] mm := by
  unfold R_unsureAt_70
  refine gl (i' := 71) (fun _ _ => aw_iconst K (n := 0) (i32 _ rfl) (dOf ck_mX12_unsureAt rfl rfl)) ?_
  refine g_sub [0, 1, 2, 3] rfl ?_
  exact lk_R_unsureAt_71 K _ _ _ _ hk26 _ _ _
def R_unsureAt_26 (x1 : Int) (x2 : Int) : Nat → Int → aM → Option (Int × aM)
  | 0, _, _ => none
  | n + 1, x3, mm => if x3 < 0 then (st1 (aup mm 176 39 1) fun mm7 => (st1 (aup mm7 196 0 (-1)) fun mm8 => (R_unsureAt_86 x1 FU (-1) 0 mm8))) else (if 0 ≤ x3 ∧ x3 < 54834 then (if 0 ≤ (mm 190 x3.toNat) ∧ (mm 190 x3.toNat) < 54834 then (st1 (aup mm 192 (mm 190 x3.toNat).toNat 0) fun mm23 => (if (mm23 189 (mm 190 x3.toNat).toNat) = x2 then ((R_isGoal (mm 190 x3.toNat) mm23).bind fun r31 => (R_unsureAt_71 (R_unsureAt_26 x1 x2 n) x1 x2 x3 r31 (mm 190 x3.toNat) mm23)) else (if (mm23 189 (mm 190 x3.toNat).toNat) < x2 then ((R_gathers (mm 190 x3.toNat) (w32 ((mm23 189 (mm 190 x3.toNat).toNat) + 1)) (-1) mm23).bind fun r29 => (if r29.1 = 0 then (R_unsureAt_70 (R_unsureAt_26 x1 x2 n) x1 x2 x3 (mm 190 x3.toNat) r29.2) else (R_unsureAt_71 (R_unsureAt_26 x1 x2 n) x1 x2 x3 1 (mm 190 x3.toNat) r29.2))) else (R_unsureAt_70 (R_unsureAt_26 x1 x2 n) x1 x2 x3 (mm 190 x3.toNat) mm23)))) else none) else none)
set_option maxHeartbeats 4000000 in
theorem lk_R_unsureAt_26 {p : Program} {l : Launch} {e : Env} {s : State} {m : MethodId} {args : Array Value} {below : List Frame} {meth : Method} {c : Code} {D : va_G} {cA : FieldType → ClassId} {ad adV : Nat → Nat} {z0 : Nat} {al0 : List Nat} (K : aK p s m args meth c mX12_unsureAt D cA ad adV z0) (x1 : Int) (x2 : Int)  : ∀ (n : Nat) (x3 : Int) (mm : aM), aG p l e { frames := 5, cells := 0, slots := 0, locals := 125 } s m args below meth c D cA ad z0 mX12_unsureAt al0 rIM (R_unsureAt_26 x1 x2 n x3 mm) 26 [(0, .inr (.inr (.inl (some 176)))), (1, .inl x1), (2, .inl x2), (3, .inl x3)] [] mm := by
  intro n
  induction n with
  | zero => intro x3 mm; exact g_none
  | succ n ih =>
    intro x3 mm
    rw [R_unsureAt_26]
    refine gl (i' := 27) (fun _ _ => aw_iload_n K (dOf ck_mX12_unsureAt rfl rfl) rfl) ?_
    refine g_if_lt K (dOf ck_mX12_unsureAt rfl rfl) (t := 74) (aJ_of (by decide +kernel)) (fun h6 => ?_) (fun h6 => ?_)
    · refine gl (i' := 75) (fun _ _ => aw_aload_n K (dOf ck_mX12_unsureAt rfl rfl) rfl) ?_
      refine gl (i' := 76) (fun _ _ => aw_iconst K (n := 1) (i32 _ rfl) (dOf ck_mX12_unsureAt rfl rfl)) ?_
      refine g_st1 ?_
      refine gl (i' := 77) (fun _ _ => aw_putf K (dOf ck_mX12_unsureAt rfl rfl) rfl rfl (Nat.le_of_ble_eq_true rfl) wd_1244 (k := 39) rfl rfl (Or.inl rfl)) ?_
      refine gl (i' := 78) (fun _ _ => aw_aload_n K (dOf ck_mX12_unsureAt rfl rfl) rfl) ?_
      refine gl (i' := 79) (fun _ _ => aw_getf K (dOf ck_mX12_unsureAt rfl rfl) rfl rfl (Nat.le_of_ble_eq_true rfl) wd_1242 (k := 37) rfl) ?_
      refine gl (i' := 80) (fun _ _ => aw_iconst K (n := 0) (i32 _ rfl) (dOf ck_mX12_unsureAt rfl rfl)) ?_
      refine gl (i' := 81) (fun _ _ => aw_iconst K (n := -1) (i32 _ rfl) (dOf ck_mX12_unsureAt rfl rfl)) ?_
      refine g_st1 ?_
      refine gl (i' := 82) (fun _ _ => aw_iast K (dOf ck_mX12_unsureAt rfl rfl) rfl (by decide)) ?_
      refine gl (i' := 83) (fun _ _ => aw_iconst K (n := -1) (i32 _ rfl) (dOf ck_mX12_unsureAt rfl rfl)) ?_
      refine gl (i' := 84) (fun _ _ => aw_istore_n K (dOf ck_mX12_unsureAt rfl rfl) (Nat.le_of_ble_eq_true rfl)) ?_
      refine g_lv (lv' := [(3, .inl _), (0, .inr (.inr (.inl (some _)))), (1, .inl _), (2, .inl _)]) rfl ?_
      refine gl (i' := 85) (fun _ _ => aw_iconst K (n := 0) (i32 _ rfl) (dOf ck_mX12_unsureAt rfl rfl)) ?_
      refine gl (i' := 86) (fun _ _ => aw_istore K (dOf ck_mX12_unsureAt rfl rfl) (Nat.le_of_ble_eq_true rfl)) ?_
      refine g_lv (lv' := [(4, .inl _), (3, .inl _), (0, .inr (.inr (.inl (some _)))), (1, .inl _), (2, .inl _)]) rfl ?_
      refine g_sub [2, 3, 1, 0] rfl ?_
      exact lk_R_unsureAt_86 K _ FU _ _ _
    · refine gl (i' := 29) (fun _ _ => aw_aload_n K (dOf ck_mX12_unsureAt rfl rfl) rfl) ?_
      refine gl (i' := 30) (fun _ _ => aw_getf K (dOf ck_mX12_unsureAt rfl rfl) rfl rfl (Nat.le_of_ble_eq_true rfl) wd_1231 (k := 26) rfl) ?_
      refine gl (i' := 31) (fun _ _ => aw_iload_n K (dOf ck_mX12_unsureAt rfl rfl) rfl) ?_
      refine g_gd (fun hb21 => ?_)
      refine gl (i' := 32) (fun _ _ => aw_iald K (dOf ck_mX12_unsureAt rfl rfl) rfl hb21) ?_
      refine gl (i' := 33) (fun _ _ => aw_istore K (dOf ck_mX12_unsureAt rfl rfl) (Nat.le_of_ble_eq_true rfl)) ?_
      refine g_lv (lv' := [(4, .inl _), (0, .inr (.inr (.inl (some _)))), (1, .inl _), (2, .inl _), (3, .inl _)]) rfl ?_
      refine gl (i' := 34) (fun _ _ => aw_aload_n K (dOf ck_mX12_unsureAt rfl rfl) rfl) ?_
      refine gl (i' := 35) (fun _ _ => aw_getf K (dOf ck_mX12_unsureAt rfl rfl) rfl rfl (Nat.le_of_ble_eq_true rfl) wd_1233 (k := 28) rfl) ?_
      refine gl (i' := 36) (fun _ _ => aw_iload K (dOf ck_mX12_unsureAt rfl rfl) rfl) ?_
      refine gl (i' := 37) (fun _ _ => aw_iconst K (n := 0) (i32 _ rfl) (dOf ck_mX12_unsureAt rfl rfl)) ?_
      refine g_gd (fun hb22 => ?_)
      refine g_st1 ?_
      refine gl (i' := 38) (fun _ _ => aw_zast K (dOf ck_mX12_unsureAt rfl rfl) rfl hb22 (Or.inl rfl)) ?_
      refine gl (i' := 39) (fun _ _ => aw_aload_n K (dOf ck_mX12_unsureAt rfl rfl) rfl) ?_
      refine gl (i' := 40) (fun _ _ => aw_getf K (dOf ck_mX12_unsureAt rfl rfl) rfl rfl (Nat.le_of_ble_eq_true rfl) wd_1232 (k := 27) rfl) ?_
      refine gl (i' := 41) (fun _ _ => aw_iload K (dOf ck_mX12_unsureAt rfl rfl) rfl) ?_
      refine gl (i' := 42) (fun _ _ => aw_aload_n K (dOf ck_mX12_unsureAt rfl rfl) rfl) ?_
      refine gl (i' := 43) (fun _ _ => aw_getf K (dOf ck_mX12_unsureAt rfl rfl) rfl rfl (Nat.le_of_ble_eq_true rfl) wd_1230 (k := 25) rfl) ?_
      refine gl (i' := 44) (fun _ _ => aw_iload K (dOf ck_mX12_unsureAt rfl rfl) rfl) ?_
      refine gl (i' := 45) (fun _ _ => aw_iald K (dOf ck_mX12_unsureAt rfl rfl) rfl hb22) ?_
      refine gl (i' := 46) (fun _ _ => aw_iload_n K (dOf ck_mX12_unsureAt rfl rfl) rfl) ?_
      refine g_icmp_ne K (dOf ck_mX12_unsureAt rfl rfl) (t := 51) (aJ_of (by decide +kernel)) (fun h24 => ?_) (fun h24 => ?_)
      · refine gl (i' := 48) (fun _ _ => aw_aload_n K (dOf ck_mX12_unsureAt rfl rfl) rfl) ?_
        refine gl (i' := 49) (fun _ _ => aw_iload K (dOf ck_mX12_unsureAt rfl rfl) rfl) ?_
        refine g_callVI K [.inl _] rfl (dOf ck_mX12_unsureAt rfl rfl) al_OneBreathModel_366 rfl rfl ⟨wd_1513, wd_114⟩ rfl (Nat.le_of_ble_eq_true rfl) ⟨Nat.le_of_ble_eq_true rfl, Nat.le_of_ble_eq_true rfl⟩ (fun b hb => met_R_isGoal  hb) (fun r31 hr31 => ?_)
        refine g_goto K (dOf ck_mX12_unsureAt rfl rfl).1 (t := 71) (aJ_of (by decide +kernel)) ?_
        refine g_sub [1, 2, 3, 4] rfl ?_
        exact lk_R_unsureAt_71 K _ _ _ _ ih _ _ _
      · refine gl (i' := 52) (fun _ _ => aw_aload_n K (dOf ck_mX12_unsureAt rfl rfl) rfl) ?_
        refine gl (i' := 53) (fun _ _ => aw_getf K (dOf ck_mX12_unsureAt rfl rfl) rfl rfl (Nat.le_of_ble_eq_true rfl) wd_1230 (k := 25) rfl) ?_
        refine gl (i' := 54) (fun _ _ => aw_iload K (dOf ck_mX12_unsureAt rfl rfl) rfl) ?_
        refine gl (i' := 55) (fun _ _ => aw_iald K (dOf ck_mX12_unsureAt rfl rfl) rfl hb22) ?_
        refine gl (i' := 56) (fun _ _ => aw_iload_n K (dOf ck_mX12_unsureAt rfl rfl) rfl) ?_
        refine g_icmp_ge K (dOf ck_mX12_unsureAt rfl rfl) (t := 70) (aJ_of (by decide +kernel)) (fun h25 => ?_) (fun h25 => ?_)
        · refine gl (i' := 58) (fun _ _ => aw_aload_n K (dOf ck_mX12_unsureAt rfl rfl) rfl) ?_
          refine gl (i' := 59) (fun _ _ => aw_iload K (dOf ck_mX12_unsureAt rfl rfl) rfl) ?_
          refine gl (i' := 60) (fun _ _ => aw_aload_n K (dOf ck_mX12_unsureAt rfl rfl) rfl) ?_
          refine gl (i' := 61) (fun _ _ => aw_getf K (dOf ck_mX12_unsureAt rfl rfl) rfl rfl (Nat.le_of_ble_eq_true rfl) wd_1230 (k := 25) rfl) ?_
          refine gl (i' := 62) (fun _ _ => aw_iload K (dOf ck_mX12_unsureAt rfl rfl) rfl) ?_
          refine gl (i' := 63) (fun _ _ => aw_iald K (dOf ck_mX12_unsureAt rfl rfl) rfl hb22) ?_
          refine gl (i' := 64) (fun _ _ => aw_iconst K (n := 1) (i32 _ rfl) (dOf ck_mX12_unsureAt rfl rfl)) ?_
          refine gl (i' := 65) (fun _ _ => aw_iadd K (dOf ck_mX12_unsureAt rfl rfl)) ?_
          refine gl (i' := 66) (fun _ _ => aw_iconst K (n := -1) (i32 _ rfl) (dOf ck_mX12_unsureAt rfl rfl)) ?_
          refine g_callVIM K [.inl _, .inl _, .inl _] rfl (dOf ck_mX12_unsureAt rfl rfl) al_OneBreathModel_378 rfl rfl ⟨wd_1526, wd_117⟩ rfl (Nat.le_of_ble_eq_true rfl) ⟨Nat.le_of_ble_eq_true rfl, Nat.le_of_ble_eq_true rfl⟩ (fun b hb => met_R_gathers  hb) (fun r29 hr29 => ?_)
          refine g_if_eq K (dOf ck_mX12_unsureAt rfl rfl) (t := 70) (aJ_of (by decide +kernel)) (fun h30 => ?_) (fun h30 => ?_)
          · refine g_sub [1, 2, 3, 4] rfl ?_
            exact lk_R_unsureAt_70 K _ _ _ _ ih _ _
          · refine gl (i' := 69) (fun _ _ => aw_iconst K (n := 1) (i32 _ rfl) (dOf ck_mX12_unsureAt rfl rfl)) ?_
            refine g_goto K (dOf ck_mX12_unsureAt rfl rfl).1 (t := 71) (aJ_of (by decide +kernel)) ?_
            refine g_sub [1, 2, 3, 4] rfl ?_
            exact lk_R_unsureAt_71 K _ _ _ _ ih _ _ _
        · refine g_sub [1, 2, 3, 4] rfl ?_
          exact lk_R_unsureAt_70 K _ _ _ _ ih _ _
def R_unsureAt (x1 : Int) (mm : aM) : Option (Int × aM) := st1 (aup mm 176 0 0) fun mm1 => ((R_unsureOf 0 mm1).bind fun r2 => (if r2.1 = (-1) then (some ((-1), r2.2)) else ((R_within x1 0 (w32 (r2.1 - 1)) r2.2).bind fun r4 => (if r4 = 0 then (some ((-1), r2.2)) else (R_unsureAt_26 x1 r2.1 FU (w32 ((r2.2 176 29) - 1)) r2.2)))))
set_option maxHeartbeats 4000000 in
theorem met_R_unsureAt {l : Launch} {D : va_G} {cA : FieldType → ClassId} {ad adV : Nat → Nat} {z0 : Nat} {x1 : Int} {mm : aM}  {r : Int × aM} (h : R_unsureAt x1 mm = some r) : aMet l D cA ad adV z0 mX12_unsureAt 5 125 0 0 [.inr (.inr (.inl (some 176))), .inl x1] SH mm (rIM r).1 SH (rIM r).2 := by
  refine aMet_ofG (by decide +kernel) rfl (Nat.le_of_ble_eq_true rfl) h (fun p e s m args below meth c al0 K => ?_)
  unfold R_unsureAt
  refine gl (i' := 1) (fun _ _ => aw_aload_n K (dOf ck_mX12_unsureAt rfl rfl) rfl) ?_
  refine gl (i' := 2) (fun _ _ => aw_iconst K (n := 0) (i32 _ rfl) (dOf ck_mX12_unsureAt rfl rfl)) ?_
  refine g_st1 ?_
  refine gl (i' := 3) (fun _ _ => aw_putf K (dOf ck_mX12_unsureAt rfl rfl) rfl rfl (Nat.le_of_ble_eq_true rfl) wd_1205 (k := 0) rfl rfl (Or.inl rfl)) ?_
  refine gl (i' := 4) (fun _ _ => aw_aload_n K (dOf ck_mX12_unsureAt rfl rfl) rfl) ?_
  refine gl (i' := 5) (fun _ _ => aw_iconst K (n := 0) (i32 _ rfl) (dOf ck_mX12_unsureAt rfl rfl)) ?_
  refine g_callVIM K [.inl _] rfl (dOf ck_mX12_unsureAt rfl rfl) al_OneBreathModel_372 rfl rfl ⟨wd_1480, wd_104⟩ rfl (Nat.le_of_ble_eq_true rfl) ⟨Nat.le_of_ble_eq_true rfl, Nat.le_of_ble_eq_true rfl⟩ (fun b hb => met_R_unsureOf  hb) (fun r2 hr2 => ?_)
  refine gl (i' := 7) (fun _ _ => aw_istore_n K (dOf ck_mX12_unsureAt rfl rfl) (Nat.le_of_ble_eq_true rfl)) ?_
  refine g_lv (lv' := [(2, .inl _), (0, .inr (.inr (.inl (some _)))), (1, .inl _)]) rfl ?_
  refine gl (i' := 8) (fun _ _ => aw_iload_n K (dOf ck_mX12_unsureAt rfl rfl) rfl) ?_
  refine gl (i' := 9) (fun _ _ => aw_iconst K (n := -1) (i32 _ rfl) (dOf ck_mX12_unsureAt rfl rfl)) ?_
  refine g_icmp_eq K (dOf ck_mX12_unsureAt rfl rfl) (t := 19) (aJ_of (by decide +kernel)) (fun h3 => ?_) (fun h3 => ?_)
  · refine gl (i' := 20) (fun _ _ => aw_iconst K (n := -1) (i32 _ rfl) (dOf ck_mX12_unsureAt rfl rfl)) ?_
    exact g_iret K (dOf ck_mX12_unsureAt rfl rfl).1 rfl (Or.inl rfl) rfl
  · refine gl (i' := 11) (fun _ _ => aw_iload_n K (dOf ck_mX12_unsureAt rfl rfl) rfl) ?_
    refine gl (i' := 12) (fun _ _ => aw_i2l K (dOf ck_mX12_unsureAt rfl rfl)) ?_
    refine gl (i' := 13) (fun _ _ => aw_lcn K (dOf ck_mX12_unsureAt rfl rfl) (v := 0) rfl) ?_
    refine gl (i' := 14) (fun _ _ => aw_iload_n K (dOf ck_mX12_unsureAt rfl rfl) rfl) ?_
    refine gl (i' := 15) (fun _ _ => aw_iconst K (n := 1) (i32 _ rfl) (dOf ck_mX12_unsureAt rfl rfl)) ?_
    refine gl (i' := 16) (fun _ _ => aw_isub K (dOf ck_mX12_unsureAt rfl rfl)) ?_
    refine gl (i' := 17) (fun _ _ => aw_i2l K (dOf ck_mX12_unsureAt rfl rfl)) ?_
    refine g_callSI K [.inr (.inl _), .inr (.inl _), .inr (.inl _)] rfl (dOf ck_mX12_unsureAt rfl rfl) al_OneBreathModel_176 wd_1269 rfl (Nat.le_of_ble_eq_true rfl) ⟨Nat.le_of_ble_eq_true rfl, Nat.le_of_ble_eq_true rfl⟩ (fun b hb => met_R_within  hb) (fun r4 hr4 => ?_)
    refine g_if_ne K (dOf ck_mX12_unsureAt rfl rfl) (t := 21) (aJ_of (by decide +kernel)) (fun h5 => ?_) (fun h5 => ?_)
    · refine gl (i' := 20) (fun _ _ => aw_iconst K (n := -1) (i32 _ rfl) (dOf ck_mX12_unsureAt rfl rfl)) ?_
      exact g_iret K (dOf ck_mX12_unsureAt rfl rfl).1 rfl (Or.inl rfl) rfl
    · refine gl (i' := 22) (fun _ _ => aw_aload_n K (dOf ck_mX12_unsureAt rfl rfl) rfl) ?_
      refine gl (i' := 23) (fun _ _ => aw_getf K (dOf ck_mX12_unsureAt rfl rfl) rfl rfl (Nat.le_of_ble_eq_true rfl) wd_1234 (k := 29) rfl) ?_
      refine gl (i' := 24) (fun _ _ => aw_iconst K (n := 1) (i32 _ rfl) (dOf ck_mX12_unsureAt rfl rfl)) ?_
      refine gl (i' := 25) (fun _ _ => aw_isub K (dOf ck_mX12_unsureAt rfl rfl)) ?_
      refine gl (i' := 26) (fun _ _ => aw_istore_n K (dOf ck_mX12_unsureAt rfl rfl) (Nat.le_of_ble_eq_true rfl)) ?_
      refine g_lv (lv' := [(3, .inl _), (2, .inl _), (0, .inr (.inr (.inl (some _)))), (1, .inl _)]) rfl ?_
      refine g_sub [2, 3, 1, 0] rfl ?_
      exact lk_R_unsureAt_26 K _ _ FU _ _
def R_isSure (x1 : Int) (mm : aM) : Option (Int × aM) := (R_unsureOf x1 mm).bind fun r1 => (if r1.1 = (-1) then (some (1, r1.2)) else (some (0, r1.2)))
set_option maxHeartbeats 4000000 in
theorem met_R_isSure {l : Launch} {D : va_G} {cA : FieldType → ClassId} {ad adV : Nat → Nat} {z0 : Nat} {x1 : Int} {mm : aM}  {r : Int × aM} (h : R_isSure x1 mm = some r) : aMet l D cA ad adV z0 mX12_isSure 5 125 0 0 [.inr (.inr (.inl (some 176))), .inl x1] SH mm (rIM r).1 SH (rIM r).2 := by
  refine aMet_ofG (by decide +kernel) rfl (Nat.le_of_ble_eq_true rfl) h (fun p e s m args below meth c al0 K => ?_)
  unfold R_isSure
  refine gl (i' := 1) (fun _ _ => aw_aload_n K (dOf ck_mX12_isSure rfl rfl) rfl) ?_
  refine gl (i' := 2) (fun _ _ => aw_iload_n K (dOf ck_mX12_isSure rfl rfl) rfl) ?_
  refine g_callVIM K [.inl _] rfl (dOf ck_mX12_isSure rfl rfl) al_OneBreathModel_372 rfl rfl ⟨wd_1480, wd_104⟩ rfl (Nat.le_of_ble_eq_true rfl) ⟨Nat.le_of_ble_eq_true rfl, Nat.le_of_ble_eq_true rfl⟩ (fun b hb => met_R_unsureOf  hb) (fun r1 hr1 => ?_)
  refine gl (i' := 4) (fun _ _ => aw_iconst K (n := -1) (i32 _ rfl) (dOf ck_mX12_isSure rfl rfl)) ?_
  refine g_icmp_ne K (dOf ck_mX12_isSure rfl rfl) (t := 7) (aJ_of (by decide +kernel)) (fun h2 => ?_) (fun h2 => ?_)
  · refine gl (i' := 6) (fun _ _ => aw_iconst K (n := 1) (i32 _ rfl) (dOf ck_mX12_isSure rfl rfl)) ?_
    refine g_goto K (dOf ck_mX12_isSure rfl rfl).1 (t := 8) (aJ_of (by decide +kernel)) ?_
    exact g_iret K (by decide +kernel) rfl (Or.inr (Or.inl ⟨rfl, Or.inr rfl⟩)) rfl
  · refine gl (i' := 8) (fun _ _ => aw_iconst K (n := 0) (i32 _ rfl) (dOf ck_mX12_isSure rfl rfl)) ?_
    exact g_iret K (by decide +kernel) rfl (Or.inr (Or.inl ⟨rfl, Or.inl rfl⟩)) rfl
def R_bears_5  : Nat → Int → aM → Option (Int × aM)
  | 0, _, _ => none
  | n + 1, x1, mm => if x1 < 0 then (some ((-1), mm)) else ((R_isSure x1 mm).bind fun r3 => (if r3.1 = 0 then (R_bears_5 n (w32 (x1 + (-1))) r3.2) else (some (x1, r3.2))))
set_option maxHeartbeats 4000000 in
theorem lk_R_bears_5 {p : Program} {l : Launch} {e : Env} {s : State} {m : MethodId} {args : Array Value} {below : List Frame} {meth : Method} {c : Code} {D : va_G} {cA : FieldType → ClassId} {ad adV : Nat → Nat} {z0 : Nat} {al0 : List Nat} (K : aK p s m args meth c mX12_bears D cA ad adV z0)   : ∀ (n : Nat) (x1 : Int) (mm : aM), aG p l e { frames := 6, cells := 0, slots := 0, locals := 146 } s m args below meth c D cA ad z0 mX12_bears al0 rIM (R_bears_5 n x1 mm) 5 [(0, .inr (.inr (.inl (some 176)))), (1, .inl x1)] [] mm := by
  intro n
  induction n with
  | zero => intro x1 mm; exact g_none
  | succ n ih =>
    intro x1 mm
    rw [R_bears_5]
    refine gl (i' := 6) (fun _ _ => aw_iload_n K (dOf ck_mX12_bears rfl rfl) rfl) ?_
    refine g_if_lt K (dOf ck_mX12_bears rfl rfl) (t := 15) (aJ_of (by decide +kernel)) (fun h2 => ?_) (fun h2 => ?_)
    · refine gl (i' := 16) (fun _ _ => aw_iconst K (n := -1) (i32 _ rfl) (dOf ck_mX12_bears rfl rfl)) ?_
      exact g_iret K (by decide +kernel) rfl (Or.inl rfl) rfl
    · refine gl (i' := 8) (fun _ _ => aw_aload_n K (dOf ck_mX12_bears rfl rfl) rfl) ?_
      refine gl (i' := 9) (fun _ _ => aw_iload_n K (dOf ck_mX12_bears rfl rfl) rfl) ?_
      refine g_callVIM K [.inl _] rfl (dOf ck_mX12_bears rfl rfl) al_OneBreathModel_385 rfl rfl ⟨wd_1533, wd_118⟩ rfl (Nat.le_of_ble_eq_true rfl) ⟨Nat.le_of_ble_eq_true rfl, Nat.le_of_ble_eq_true rfl⟩ (fun b hb => met_R_isSure  hb) (fun r3 hr3 => ?_)
      refine g_if_eq K (dOf ck_mX12_bears rfl rfl) (t := 13) (aJ_of (by decide +kernel)) (fun h4 => ?_) (fun h4 => ?_)
      · refine gl (i' := 14) (fun _ _ => aw_iinc K (dOf ck_mX12_bears rfl rfl) (Nat.le_of_ble_eq_true rfl) rfl) ?_
        refine g_lv (lv' := [(1, .inl _), (0, .inr (.inr (.inl (some _))))]) rfl ?_
        refine g_goto K (dOf ck_mX12_bears rfl rfl).1 (t := 5) (aJ_of (by decide +kernel)) ?_
        refine g_sub [1, 0] rfl ?_
        exact ih _ _
      · refine gl (i' := 12) (fun _ _ => aw_iload_n K (dOf ck_mX12_bears rfl rfl) rfl) ?_
        exact g_iret K (dOf ck_mX12_bears rfl rfl).1 rfl (Or.inl rfl) rfl
def R_bears  (mm : aM) : Option (Int × aM) := st1 (aup mm 176 0 0) fun mm1 => (R_bears_5 FU 2 mm1)
set_option maxHeartbeats 4000000 in
theorem met_R_bears {l : Launch} {D : va_G} {cA : FieldType → ClassId} {ad adV : Nat → Nat} {z0 : Nat}  {mm : aM}  {r : Int × aM} (h : R_bears  mm = some r) : aMet l D cA ad adV z0 mX12_bears 6 146 0 0 [.inr (.inr (.inl (some 176)))] SH mm (rIM r).1 SH (rIM r).2 := by
  refine aMet_ofG (by decide +kernel) rfl (Nat.le_of_ble_eq_true rfl) h (fun p e s m args below meth c al0 K => ?_)
  unfold R_bears
  refine gl (i' := 1) (fun _ _ => aw_aload_n K (dOf ck_mX12_bears rfl rfl) rfl) ?_
  refine gl (i' := 2) (fun _ _ => aw_iconst K (n := 0) (i32 _ rfl) (dOf ck_mX12_bears rfl rfl)) ?_
  refine g_st1 ?_
  refine gl (i' := 3) (fun _ _ => aw_putf K (dOf ck_mX12_bears rfl rfl) rfl rfl (Nat.le_of_ble_eq_true rfl) wd_1205 (k := 0) rfl rfl (Or.inl rfl)) ?_
  refine gl (i' := 4) (fun _ _ => aw_iconst K (n := 2) (i32 _ rfl) (dOf ck_mX12_bears rfl rfl)) ?_
  refine gl (i' := 5) (fun _ _ => aw_istore_n K (dOf ck_mX12_bears rfl rfl) (Nat.le_of_ble_eq_true rfl)) ?_
  refine g_lv (lv' := [(1, .inl _), (0, .inr (.inr (.inl (some _))))]) rfl ?_
  refine g_sub [1, 0] rfl ?_
  exact lk_R_bears_5 K FU _ _
def R_isThere_67 (mm : aM) (k2 : Int → Option Int) (x1 : Int) (x2 : Int) (x3 : Int) : Option Int := if x3 = 0 then (k2 (w32 (x2 + 1))) else (some 1)
set_option maxHeartbeats 4000000 in
theorem lk_R_isThere_67 {p : Program} {l : Launch} {e : Env} {s : State} {m : MethodId} {args : Array Value} {below : List Frame} {meth : Method} {c : Code} {D : va_G} {cA : FieldType → ClassId} {ad adV : Nat → Nat} {z0 : Nat} {al0 : List Nat} {mm : aM} (K : aK p s m args meth c mX12_isThere D cA ad adV z0) (x1 : Int) (x2 : Int) (x3 : Int) (k2 : Int → Option Int) (hk2 : ∀ (x2 : Int), aG p l e { frames := 0, cells := 0, slots := 0, locals := 0 } s m args below meth c D cA ad z0 mX12_isThere al0 (rI mm) (k2 x2) 2 [(0, .inr (.inr (.inl (some 176)))), (1, .inl x1), (2, .inl x2)] [] mm)  : aG p l e { frames := 0, cells := 0, slots := 0, locals := 0 } s m args below meth c D cA ad z0 mX12_isThere al0 (rI mm) (R_isThere_67 mm k2 x1 x2 x3) 67 [(0, .inr (.inr (.inl (some 176)))), (1, .inl x1), (2, .inl x2), (3, .inl x3)] [] mm := by
  unfold R_isThere_67
  refine gl (i' := 68) (fun _ _ => aw_iload_n K (dOf ck_mX12_isThere rfl rfl) rfl) ?_
  refine g_if_eq K (dOf ck_mX12_isThere rfl rfl) (t := 71) (aJ_of (by decide +kernel)) (fun h5 => ?_) (fun h5 => ?_)
  · refine gl (i' := 72) (fun _ _ => aw_iinc K (dOf ck_mX12_isThere rfl rfl) (Nat.le_of_ble_eq_true rfl) rfl) ?_
    refine g_lv (lv' := [(2, .inl _), (0, .inr (.inr (.inl (some _)))), (1, .inl _), (3, .inl _)]) rfl ?_
    refine g_goto K (dOf ck_mX12_isThere rfl rfl).1 (t := 2) (aJ_of (by decide +kernel)) ?_
    refine g_sub [1, 2, 0] rfl ?_
    exact hk2 _
  · refine gl (i' := 70) (fun _ _ => aw_iconst K (n := 1) (i32 _ rfl) (dOf ck_mX12_isThere rfl rfl)) ?_
    exact g_iret K (dOf ck_mX12_isThere rfl rfl).1 rfl (Or.inr (Or.inl ⟨rfl, Or.inr rfl⟩)) rfl
def R_isThere_64 (mm : aM) (k2 : Int → Option Int) (k30 : Int → Int → Option Int) (x1 : Int) (x2 : Int) (x4 : Int) (s0 : Int) : Option Int := k30 s0 (w32 (x4 + 1))
set_option maxHeartbeats 4000000 in
theorem lk_R_isThere_64 {p : Program} {l : Launch} {e : Env} {s : State} {m : MethodId} {args : Array Value} {below : List Frame} {meth : Method} {c : Code} {D : va_G} {cA : FieldType → ClassId} {ad adV : Nat → Nat} {z0 : Nat} {al0 : List Nat} {mm : aM} (K : aK p s m args meth c mX12_isThere D cA ad adV z0) (x1 : Int) (x2 : Int) (x4 : Int) (k2 : Int → Option Int) (hk2 : ∀ (x2 : Int), aG p l e { frames := 0, cells := 0, slots := 0, locals := 0 } s m args below meth c D cA ad z0 mX12_isThere al0 (rI mm) (k2 x2) 2 [(0, .inr (.inr (.inl (some 176)))), (1, .inl x1), (2, .inl x2)] [] mm) (k30 : Int → Int → Option Int) (hk30 : ∀ (x3 : Int) (x4 : Int), aG p l e { frames := 0, cells := 0, slots := 0, locals := 0 } s m args below meth c D cA ad z0 mX12_isThere al0 (rI mm) (k30 x3 x4) 30 [(0, .inr (.inr (.inl (some 176)))), (1, .inl x1), (2, .inl x2), (3, .inl x3), (4, .inl x4)] [] mm)  (s0 : Int) : aG p l e { frames := 0, cells := 0, slots := 0, locals := 0 } s m args below meth c D cA ad z0 mX12_isThere al0 (rI mm) (R_isThere_64 mm k2 k30 x1 x2 x4 s0) 64 [(0, .inr (.inr (.inl (some 176)))), (1, .inl x1), (2, .inl x2), (4, .inl x4)] [.inl s0] mm := by
  unfold R_isThere_64
  refine gl (i' := 65) (fun _ _ => aw_istore_n K (dOf ck_mX12_isThere rfl rfl) (Nat.le_of_ble_eq_true rfl)) ?_
  refine g_lv (lv' := [(3, .inl _), (0, .inr (.inr (.inl (some _)))), (1, .inl _), (2, .inl _), (4, .inl _)]) rfl ?_
  refine gl (i' := 66) (fun _ _ => aw_iinc K (dOf ck_mX12_isThere rfl rfl) (Nat.le_of_ble_eq_true rfl) rfl) ?_
  refine g_lv (lv' := [(4, .inl _), (3, .inl _), (0, .inr (.inr (.inl (some _)))), (1, .inl _), (2, .inl _)]) rfl ?_
  refine g_goto K (dOf ck_mX12_isThere rfl rfl).1 (t := 30) (aJ_of (by decide +kernel)) ?_
  refine g_sub [2, 3, 4, 1, 0] rfl ?_
  exact hk30 _ _
def R_isThere_30 (mm : aM) (k2 : Int → Option Int) (x1 : Int) (x2 : Int) : Nat → Int → Int → Option Int
  | 0, _, _ => none
  | n + 1, x3, x4 => if 0 ≤ (w32 (19 + x1)) ∧ (w32 (19 + x1)) < 588 then (if x4 < (mm 177 (w32 (19 + x1)).toNat) then (if x3 = 0 then (R_isThere_67 mm k2 x1 x2 x3) else (if 0 ≤ (w32 ((w32 (58 + (w32 (6 * x2)))) + x4)) ∧ (w32 ((w32 (58 + (w32 (6 * x2)))) + x4)) < 588 then (if 0 ≤ (w32 ((w32 (58 + (w32 (6 * x1)))) + x4)) ∧ (w32 ((w32 (58 + (w32 (6 * x1)))) + x4)) < 588 then (if (mm 177 (w32 ((w32 (58 + (w32 (6 * x2)))) + x4)).toNat) = (mm 177 (w32 ((w32 (58 + (w32 (6 * x1)))) + x4)).toNat) then (R_isThere_64 mm k2 (R_isThere_30 mm k2 x1 x2 n) x1 x2 x4 1) else (R_isThere_64 mm k2 (R_isThere_30 mm k2 x1 x2 n) x1 x2 x4 0)) else none) else none)) else (R_isThere_67 mm k2 x1 x2 x3)) else none
set_option maxHeartbeats 4000000 in
theorem lk_R_isThere_30 {p : Program} {l : Launch} {e : Env} {s : State} {m : MethodId} {args : Array Value} {below : List Frame} {meth : Method} {c : Code} {D : va_G} {cA : FieldType → ClassId} {ad adV : Nat → Nat} {z0 : Nat} {al0 : List Nat} {mm : aM} (K : aK p s m args meth c mX12_isThere D cA ad adV z0) (x1 : Int) (x2 : Int) (k2 : Int → Option Int) (hk2 : ∀ (x2 : Int), aG p l e { frames := 0, cells := 0, slots := 0, locals := 0 } s m args below meth c D cA ad z0 mX12_isThere al0 (rI mm) (k2 x2) 2 [(0, .inr (.inr (.inl (some 176)))), (1, .inl x1), (2, .inl x2)] [] mm)  : ∀ (n : Nat) (x3 : Int) (x4 : Int), aG p l e { frames := 0, cells := 0, slots := 0, locals := 0 } s m args below meth c D cA ad z0 mX12_isThere al0 (rI mm) (R_isThere_30 mm k2 x1 x2 n x3 x4) 30 [(0, .inr (.inr (.inl (some 176)))), (1, .inl x1), (2, .inl x2), (3, .inl x3), (4, .inl x4)] [] mm := by
  intro n
  induction n with
  | zero => intro x3 x4; exact g_none
  | succ n ih =>
    intro x3 x4
    rw [R_isThere_30]
    refine gl (i' := 31) (fun _ _ => aw_iload K (dOf ck_mX12_isThere rfl rfl) rfl) ?_
    refine gl (i' := 32) (fun _ _ => aw_aload_n K (dOf ck_mX12_isThere rfl rfl) rfl) ?_
    refine gl (i' := 33) (fun _ _ => aw_getf K (dOf ck_mX12_isThere rfl rfl) rfl rfl (Nat.le_of_ble_eq_true rfl) wd_1206 (k := 1) rfl) ?_
    refine gl (i' := 34) (fun _ _ => aw_bip K (dOf ck_mX12_isThere rfl rfl) (v := 19) rfl) ?_
    refine gl (i' := 35) (fun _ _ => aw_iload_n K (dOf ck_mX12_isThere rfl rfl) rfl) ?_
    refine gl (i' := 36) (fun _ _ => aw_iadd K (dOf ck_mX12_isThere rfl rfl)) ?_
    refine g_gd (fun hb3 => ?_)
    refine gl (i' := 37) (fun _ _ => aw_iald K (dOf ck_mX12_isThere rfl rfl) rfl hb3) ?_
    refine g_icmp_ge K (dOf ck_mX12_isThere rfl rfl) (t := 67) (aJ_of (by decide +kernel)) (fun h4 => ?_) (fun h4 => ?_)
    · refine gl (i' := 39) (fun _ _ => aw_iload_n K (dOf ck_mX12_isThere rfl rfl) rfl) ?_
      refine g_if_eq K (dOf ck_mX12_isThere rfl rfl) (t := 67) (aJ_of (by decide +kernel)) (fun h6 => ?_) (fun h6 => ?_)
      · refine g_sub [0, 1, 2, 3] rfl ?_
        exact lk_R_isThere_67 K _ _ _ _ hk2
      · refine gl (i' := 41) (fun _ _ => aw_aload_n K (dOf ck_mX12_isThere rfl rfl) rfl) ?_
        refine gl (i' := 42) (fun _ _ => aw_getf K (dOf ck_mX12_isThere rfl rfl) rfl rfl (Nat.le_of_ble_eq_true rfl) wd_1206 (k := 1) rfl) ?_
        refine gl (i' := 43) (fun _ _ => aw_bip K (dOf ck_mX12_isThere rfl rfl) (v := 58) rfl) ?_
        refine gl (i' := 44) (fun _ _ => aw_bip K (dOf ck_mX12_isThere rfl rfl) (v := 6) rfl) ?_
        refine gl (i' := 45) (fun _ _ => aw_iload_n K (dOf ck_mX12_isThere rfl rfl) rfl) ?_
        refine gl (i' := 46) (fun _ _ => aw_imul K (dOf ck_mX12_isThere rfl rfl)) ?_
        refine gl (i' := 47) (fun _ _ => aw_iadd K (dOf ck_mX12_isThere rfl rfl)) ?_
        refine gl (i' := 48) (fun _ _ => aw_iload K (dOf ck_mX12_isThere rfl rfl) rfl) ?_
        refine gl (i' := 49) (fun _ _ => aw_iadd K (dOf ck_mX12_isThere rfl rfl)) ?_
        refine g_gd (fun hb7 => ?_)
        refine gl (i' := 50) (fun _ _ => aw_iald K (dOf ck_mX12_isThere rfl rfl) rfl hb7) ?_
        refine gl (i' := 51) (fun _ _ => aw_aload_n K (dOf ck_mX12_isThere rfl rfl) rfl) ?_
        refine gl (i' := 52) (fun _ _ => aw_getf K (dOf ck_mX12_isThere rfl rfl) rfl rfl (Nat.le_of_ble_eq_true rfl) wd_1206 (k := 1) rfl) ?_
        refine gl (i' := 53) (fun _ _ => aw_bip K (dOf ck_mX12_isThere rfl rfl) (v := 58) rfl) ?_
        refine gl (i' := 54) (fun _ _ => aw_bip K (dOf ck_mX12_isThere rfl rfl) (v := 6) rfl) ?_
        refine gl (i' := 55) (fun _ _ => aw_iload_n K (dOf ck_mX12_isThere rfl rfl) rfl) ?_
        refine gl (i' := 56) (fun _ _ => aw_imul K (dOf ck_mX12_isThere rfl rfl)) ?_
        refine gl (i' := 57) (fun _ _ => aw_iadd K (dOf ck_mX12_isThere rfl rfl)) ?_
        refine gl (i' := 58) (fun _ _ => aw_iload K (dOf ck_mX12_isThere rfl rfl) rfl) ?_
        refine gl (i' := 59) (fun _ _ => aw_iadd K (dOf ck_mX12_isThere rfl rfl)) ?_
        refine g_gd (fun hb8 => ?_)
        refine gl (i' := 60) (fun _ _ => aw_iald K (dOf ck_mX12_isThere rfl rfl) rfl hb8) ?_
        refine g_icmp_ne K (dOf ck_mX12_isThere rfl rfl) (t := 63) (aJ_of (by decide +kernel)) (fun h9 => ?_) (fun h9 => ?_)
        · refine gl (i' := 62) (fun _ _ => aw_iconst K (n := 1) (i32 _ rfl) (dOf ck_mX12_isThere rfl rfl)) ?_
          refine g_goto K (dOf ck_mX12_isThere rfl rfl).1 (t := 64) (aJ_of (by decide +kernel)) ?_
          refine g_sub [0, 1, 2, 4] rfl ?_
          exact lk_R_isThere_64 K _ _ _ _ hk2 _ ih _
        · refine gl (i' := 64) (fun _ _ => aw_iconst K (n := 0) (i32 _ rfl) (dOf ck_mX12_isThere rfl rfl)) ?_
          refine g_sub [0, 1, 2, 4] rfl ?_
          exact lk_R_isThere_64 K _ _ _ _ hk2 _ ih _
    · refine g_sub [0, 1, 2, 3] rfl ?_
      exact lk_R_isThere_67 K _ _ _ _ hk2
def R_isThere_27 (mm : aM) (k2 : Int → Option Int) (x1 : Int) (x2 : Int) (s0 : Int) : Option Int := R_isThere_30 mm k2 x1 x2 FU s0 0
set_option maxHeartbeats 4000000 in
theorem lk_R_isThere_27 {p : Program} {l : Launch} {e : Env} {s : State} {m : MethodId} {args : Array Value} {below : List Frame} {meth : Method} {c : Code} {D : va_G} {cA : FieldType → ClassId} {ad adV : Nat → Nat} {z0 : Nat} {al0 : List Nat} {mm : aM} (K : aK p s m args meth c mX12_isThere D cA ad adV z0) (x1 : Int) (x2 : Int) (k2 : Int → Option Int) (hk2 : ∀ (x2 : Int), aG p l e { frames := 0, cells := 0, slots := 0, locals := 0 } s m args below meth c D cA ad z0 mX12_isThere al0 (rI mm) (k2 x2) 2 [(0, .inr (.inr (.inl (some 176)))), (1, .inl x1), (2, .inl x2)] [] mm)  (s0 : Int) : aG p l e { frames := 0, cells := 0, slots := 0, locals := 0 } s m args below meth c D cA ad z0 mX12_isThere al0 (rI mm) (R_isThere_27 mm k2 x1 x2 s0) 27 [(0, .inr (.inr (.inl (some 176)))), (1, .inl x1), (2, .inl x2)] [.inl s0] mm := by
  unfold R_isThere_27
  refine gl (i' := 28) (fun _ _ => aw_istore_n K (dOf ck_mX12_isThere rfl rfl) (Nat.le_of_ble_eq_true rfl)) ?_
  refine g_lv (lv' := [(3, .inl _), (0, .inr (.inr (.inl (some _)))), (1, .inl _), (2, .inl _)]) rfl ?_
  refine gl (i' := 29) (fun _ _ => aw_iconst K (n := 0) (i32 _ rfl) (dOf ck_mX12_isThere rfl rfl)) ?_
  refine gl (i' := 30) (fun _ _ => aw_istore K (dOf ck_mX12_isThere rfl rfl) (Nat.le_of_ble_eq_true rfl)) ?_
  refine g_lv (lv' := [(4, .inl _), (3, .inl _), (0, .inr (.inr (.inl (some _)))), (1, .inl _), (2, .inl _)]) rfl ?_
  refine g_sub [2, 3, 4, 1, 0] rfl ?_
  exact lk_R_isThere_30 K _ _ _ hk2 FU _ _
def R_isThere_26 (mm : aM) (k2 : Int → Option Int) (x1 : Int) (x2 : Int) : Option Int := R_isThere_27 mm k2 x1 x2 0
set_option maxHeartbeats 4000000 in
theorem lk_R_isThere_26 {p : Program} {l : Launch} {e : Env} {s : State} {m : MethodId} {args : Array Value} {below : List Frame} {meth : Method} {c : Code} {D : va_G} {cA : FieldType → ClassId} {ad adV : Nat → Nat} {z0 : Nat} {al0 : List Nat} {mm : aM} (K : aK p s m args meth c mX12_isThere D cA ad adV z0) (x1 : Int) (x2 : Int) (k2 : Int → Option Int) (hk2 : ∀ (x2 : Int), aG p l e { frames := 0, cells := 0, slots := 0, locals := 0 } s m args below meth c D cA ad z0 mX12_isThere al0 (rI mm) (k2 x2) 2 [(0, .inr (.inr (.inl (some 176)))), (1, .inl x1), (2, .inl x2)] [] mm)  : aG p l e { frames := 0, cells := 0, slots := 0, locals := 0 } s m args below meth c D cA ad z0 mX12_isThere al0 (rI mm) (R_isThere_26 mm k2 x1 x2) 26 [(0, .inr (.inr (.inl (some 176)))), (1, .inl x1), (2, .inl x2)] [] mm := by
  unfold R_isThere_26
  refine gl (i' := 27) (fun _ _ => aw_iconst K (n := 0) (i32 _ rfl) (dOf ck_mX12_isThere rfl rfl)) ?_
  refine g_sub [0, 1, 2] rfl ?_
  exact lk_R_isThere_27 K _ _ _ hk2 _
def R_isThere_2 (mm : aM) (x1 : Int) : Nat → Int → Option Int
  | 0, _ => none
  | n + 1, x2 => if x2 < (mm 177 18) then (if x2 = x1 then (R_isThere_26 mm (R_isThere_2 mm x1 n) x1 x2) else (if 0 ≤ (w32 (19 + x2)) ∧ (w32 (19 + x2)) < 588 then (if 0 ≤ (w32 (19 + x1)) ∧ (w32 (19 + x1)) < 588 then (if (mm 177 (w32 (19 + x2)).toNat) = (mm 177 (w32 (19 + x1)).toNat) then (R_isThere_27 mm (R_isThere_2 mm x1 n) x1 x2 1) else (R_isThere_26 mm (R_isThere_2 mm x1 n) x1 x2)) else none) else none)) else (some 0)
set_option maxHeartbeats 4000000 in
theorem lk_R_isThere_2 {p : Program} {l : Launch} {e : Env} {s : State} {m : MethodId} {args : Array Value} {below : List Frame} {meth : Method} {c : Code} {D : va_G} {cA : FieldType → ClassId} {ad adV : Nat → Nat} {z0 : Nat} {al0 : List Nat} {mm : aM} (K : aK p s m args meth c mX12_isThere D cA ad adV z0) (x1 : Int)  : ∀ (n : Nat) (x2 : Int), aG p l e { frames := 0, cells := 0, slots := 0, locals := 0 } s m args below meth c D cA ad z0 mX12_isThere al0 (rI mm) (R_isThere_2 mm x1 n x2) 2 [(0, .inr (.inr (.inl (some 176)))), (1, .inl x1), (2, .inl x2)] [] mm := by
  intro n
  induction n with
  | zero => intro x2; exact g_none
  | succ n ih =>
    intro x2
    rw [R_isThere_2]
    refine gl (i' := 3) (fun _ _ => aw_iload_n K (dOf ck_mX12_isThere rfl rfl) rfl) ?_
    refine gl (i' := 4) (fun _ _ => aw_aload_n K (dOf ck_mX12_isThere rfl rfl) rfl) ?_
    refine gl (i' := 5) (fun _ _ => aw_getf K (dOf ck_mX12_isThere rfl rfl) rfl rfl (Nat.le_of_ble_eq_true rfl) wd_1206 (k := 1) rfl) ?_
    refine gl (i' := 6) (fun _ _ => aw_bip K (dOf ck_mX12_isThere rfl rfl) (v := 18) rfl) ?_
    refine gl (i' := 7) (fun _ _ => aw_iald K (dOf ck_mX12_isThere rfl rfl) rfl (by decide)) ?_
    refine g_icmp_ge K (dOf ck_mX12_isThere rfl rfl) (t := 73) (aJ_of (by decide +kernel)) (fun h1 => ?_) (fun h1 => ?_)
    · refine gl (i' := 9) (fun _ _ => aw_iload_n K (dOf ck_mX12_isThere rfl rfl) rfl) ?_
      refine gl (i' := 10) (fun _ _ => aw_iload_n K (dOf ck_mX12_isThere rfl rfl) rfl) ?_
      refine g_icmp_eq K (dOf ck_mX12_isThere rfl rfl) (t := 26) (aJ_of (by decide +kernel)) (fun h2 => ?_) (fun h2 => ?_)
      · refine g_sub [0, 1, 2] rfl ?_
        exact lk_R_isThere_26 K _ _ _ ih
      · refine gl (i' := 12) (fun _ _ => aw_aload_n K (dOf ck_mX12_isThere rfl rfl) rfl) ?_
        refine gl (i' := 13) (fun _ _ => aw_getf K (dOf ck_mX12_isThere rfl rfl) rfl rfl (Nat.le_of_ble_eq_true rfl) wd_1206 (k := 1) rfl) ?_
        refine gl (i' := 14) (fun _ _ => aw_bip K (dOf ck_mX12_isThere rfl rfl) (v := 19) rfl) ?_
        refine gl (i' := 15) (fun _ _ => aw_iload_n K (dOf ck_mX12_isThere rfl rfl) rfl) ?_
        refine gl (i' := 16) (fun _ _ => aw_iadd K (dOf ck_mX12_isThere rfl rfl)) ?_
        refine g_gd (fun hb10 => ?_)
        refine gl (i' := 17) (fun _ _ => aw_iald K (dOf ck_mX12_isThere rfl rfl) rfl hb10) ?_
        refine gl (i' := 18) (fun _ _ => aw_aload_n K (dOf ck_mX12_isThere rfl rfl) rfl) ?_
        refine gl (i' := 19) (fun _ _ => aw_getf K (dOf ck_mX12_isThere rfl rfl) rfl rfl (Nat.le_of_ble_eq_true rfl) wd_1206 (k := 1) rfl) ?_
        refine gl (i' := 20) (fun _ _ => aw_bip K (dOf ck_mX12_isThere rfl rfl) (v := 19) rfl) ?_
        refine gl (i' := 21) (fun _ _ => aw_iload_n K (dOf ck_mX12_isThere rfl rfl) rfl) ?_
        refine gl (i' := 22) (fun _ _ => aw_iadd K (dOf ck_mX12_isThere rfl rfl)) ?_
        refine g_gd (fun hb11 => ?_)
        refine gl (i' := 23) (fun _ _ => aw_iald K (dOf ck_mX12_isThere rfl rfl) rfl hb11) ?_
        refine g_icmp_ne K (dOf ck_mX12_isThere rfl rfl) (t := 26) (aJ_of (by decide +kernel)) (fun h12 => ?_) (fun h12 => ?_)
        · refine gl (i' := 25) (fun _ _ => aw_iconst K (n := 1) (i32 _ rfl) (dOf ck_mX12_isThere rfl rfl)) ?_
          refine g_goto K (dOf ck_mX12_isThere rfl rfl).1 (t := 27) (aJ_of (by decide +kernel)) ?_
          refine g_sub [0, 1, 2] rfl ?_
          exact lk_R_isThere_27 K _ _ _ ih _
        · refine g_sub [0, 1, 2] rfl ?_
          exact lk_R_isThere_26 K _ _ _ ih
    · refine gl (i' := 74) (fun _ _ => aw_iconst K (n := 0) (i32 _ rfl) (dOf ck_mX12_isThere rfl rfl)) ?_
      exact g_iret K (by decide +kernel) rfl (Or.inr (Or.inl ⟨rfl, Or.inl rfl⟩)) rfl
def R_isThere (x1 : Int) (mm : aM) : Option Int := R_isThere_2 mm x1 FU 0
set_option maxHeartbeats 4000000 in
theorem met_R_isThere {l : Launch} {D : va_G} {cA : FieldType → ClassId} {ad adV : Nat → Nat} {z0 : Nat} {x1 : Int} {mm : aM}  {r : Int} (h : R_isThere x1 mm = some r) : aMet l D cA ad adV z0 mX12_isThere 0 0 0 0 [.inr (.inr (.inl (some 176))), .inl x1] SH mm ((rI mm) r).1 SH ((rI mm) r).2 := by
  refine aMet_ofG (by decide +kernel) rfl (Nat.le_of_ble_eq_true rfl) h (fun p e s m args below meth c al0 K => ?_)
  unfold R_isThere
  refine gl (i' := 1) (fun _ _ => aw_iconst K (n := 0) (i32 _ rfl) (dOf ck_mX12_isThere rfl rfl)) ?_
  refine gl (i' := 2) (fun _ _ => aw_istore_n K (dOf ck_mX12_isThere rfl rfl) (Nat.le_of_ble_eq_true rfl)) ?_
  refine g_lv (lv' := [(2, .inl _), (0, .inr (.inr (.inl (some _)))), (1, .inl _)]) rfl ?_
  refine g_sub [1, 2, 0] rfl ?_
  exact lk_R_isThere_2 K _ FU _
def R_isShaped_71 (mm : aM) (k2 : Int → Option Int) (x1 : Int) (x2 : Int) (x3 : Int) : Option Int := if x3 = 0 then (k2 (w32 (x2 + 1))) else (some 1)
set_option maxHeartbeats 4000000 in
theorem lk_R_isShaped_71 {p : Program} {l : Launch} {e : Env} {s : State} {m : MethodId} {args : Array Value} {below : List Frame} {meth : Method} {c : Code} {D : va_G} {cA : FieldType → ClassId} {ad adV : Nat → Nat} {z0 : Nat} {al0 : List Nat} {mm : aM} (K : aK p s m args meth c mX12_isShaped D cA ad adV z0) (x1 : Int) (x2 : Int) (x3 : Int) (k2 : Int → Option Int) (hk2 : ∀ (x2 : Int), aG p l e { frames := 0, cells := 0, slots := 0, locals := 0 } s m args below meth c D cA ad z0 mX12_isShaped al0 (rI mm) (k2 x2) 2 [(0, .inr (.inr (.inl (some 176)))), (1, .inl x1), (2, .inl x2)] [] mm)  : aG p l e { frames := 0, cells := 0, slots := 0, locals := 0 } s m args below meth c D cA ad z0 mX12_isShaped al0 (rI mm) (R_isShaped_71 mm k2 x1 x2 x3) 71 [(0, .inr (.inr (.inl (some 176)))), (1, .inl x1), (2, .inl x2), (3, .inl x3)] [] mm := by
  unfold R_isShaped_71
  refine gl (i' := 72) (fun _ _ => aw_iload_n K (dOf ck_mX12_isShaped rfl rfl) rfl) ?_
  refine g_if_eq K (dOf ck_mX12_isShaped rfl rfl) (t := 75) (aJ_of (by decide +kernel)) (fun h8 => ?_) (fun h8 => ?_)
  · refine gl (i' := 76) (fun _ _ => aw_iinc K (dOf ck_mX12_isShaped rfl rfl) (Nat.le_of_ble_eq_true rfl) rfl) ?_
    refine g_lv (lv' := [(2, .inl _), (0, .inr (.inr (.inl (some _)))), (1, .inl _), (3, .inl _)]) rfl ?_
    refine g_goto K (dOf ck_mX12_isShaped rfl rfl).1 (t := 2) (aJ_of (by decide +kernel)) ?_
    refine g_sub [1, 2, 0] rfl ?_
    exact hk2 _
  · refine gl (i' := 74) (fun _ _ => aw_iconst K (n := 1) (i32 _ rfl) (dOf ck_mX12_isShaped rfl rfl)) ?_
    exact g_iret K (dOf ck_mX12_isShaped rfl rfl).1 rfl (Or.inr (Or.inl ⟨rfl, Or.inr rfl⟩)) rfl
def R_isShaped_68 (mm : aM) (k2 : Int → Option Int) (k27 : Int → Int → Option Int) (x1 : Int) (x2 : Int) (x4 : Int) (s0 : Int) : Option Int := k27 s0 (w32 (x4 + 1))
set_option maxHeartbeats 4000000 in
theorem lk_R_isShaped_68 {p : Program} {l : Launch} {e : Env} {s : State} {m : MethodId} {args : Array Value} {below : List Frame} {meth : Method} {c : Code} {D : va_G} {cA : FieldType → ClassId} {ad adV : Nat → Nat} {z0 : Nat} {al0 : List Nat} {mm : aM} (K : aK p s m args meth c mX12_isShaped D cA ad adV z0) (x1 : Int) (x2 : Int) (x4 : Int) (k2 : Int → Option Int) (hk2 : ∀ (x2 : Int), aG p l e { frames := 0, cells := 0, slots := 0, locals := 0 } s m args below meth c D cA ad z0 mX12_isShaped al0 (rI mm) (k2 x2) 2 [(0, .inr (.inr (.inl (some 176)))), (1, .inl x1), (2, .inl x2)] [] mm) (k27 : Int → Int → Option Int) (hk27 : ∀ (x3 : Int) (x4 : Int), aG p l e { frames := 0, cells := 0, slots := 0, locals := 0 } s m args below meth c D cA ad z0 mX12_isShaped al0 (rI mm) (k27 x3 x4) 27 [(0, .inr (.inr (.inl (some 176)))), (1, .inl x1), (2, .inl x2), (3, .inl x3), (4, .inl x4)] [] mm)  (s0 : Int) : aG p l e { frames := 0, cells := 0, slots := 0, locals := 0 } s m args below meth c D cA ad z0 mX12_isShaped al0 (rI mm) (R_isShaped_68 mm k2 k27 x1 x2 x4 s0) 68 [(0, .inr (.inr (.inl (some 176)))), (1, .inl x1), (2, .inl x2), (4, .inl x4)] [.inl s0] mm := by
  unfold R_isShaped_68
  refine gl (i' := 69) (fun _ _ => aw_istore_n K (dOf ck_mX12_isShaped rfl rfl) (Nat.le_of_ble_eq_true rfl)) ?_
  refine g_lv (lv' := [(3, .inl _), (0, .inr (.inr (.inl (some _)))), (1, .inl _), (2, .inl _), (4, .inl _)]) rfl ?_
  refine gl (i' := 70) (fun _ _ => aw_iinc K (dOf ck_mX12_isShaped rfl rfl) (Nat.le_of_ble_eq_true rfl) rfl) ?_
  refine g_lv (lv' := [(4, .inl _), (3, .inl _), (0, .inr (.inr (.inl (some _)))), (1, .inl _), (2, .inl _)]) rfl ?_
  refine g_goto K (dOf ck_mX12_isShaped rfl rfl).1 (t := 27) (aJ_of (by decide +kernel)) ?_
  refine g_sub [2, 3, 4, 1, 0] rfl ?_
  exact hk27 _ _
def R_isShaped_27 (mm : aM) (k2 : Int → Option Int) (x1 : Int) (x2 : Int) : Nat → Int → Int → Option Int
  | 0, _, _ => none
  | n + 1, x3, x4 => if 0 ≤ (w32 (19 + x1)) ∧ (w32 (19 + x1)) < 588 then (if x4 < (mm 177 (w32 (19 + x1)).toNat) then (if x3 = 0 then (R_isShaped_71 mm k2 x1 x2 x3) else (if 0 ≤ (w32 (148 + x2)) ∧ (w32 (148 + x2)) < 588 then (if 0 ≤ (w32 ((w32 (58 + (w32 (6 * x1)))) + x4)) ∧ (w32 ((w32 (58 + (w32 (6 * x1)))) + x4)) < 588 then (if (iand (ishr (mm 177 (w32 (148 + x2)).toNat) x4) 1) = (iand (ishr (mm 177 9) (mm 177 (w32 ((w32 (58 + (w32 (6 * x1)))) + x4)).toNat)) 1) then (R_isShaped_68 mm k2 (R_isShaped_27 mm k2 x1 x2 n) x1 x2 x4 1) else (R_isShaped_68 mm k2 (R_isShaped_27 mm k2 x1 x2 n) x1 x2 x4 0)) else none) else none)) else (R_isShaped_71 mm k2 x1 x2 x3)) else none
set_option maxHeartbeats 4000000 in
theorem lk_R_isShaped_27 {p : Program} {l : Launch} {e : Env} {s : State} {m : MethodId} {args : Array Value} {below : List Frame} {meth : Method} {c : Code} {D : va_G} {cA : FieldType → ClassId} {ad adV : Nat → Nat} {z0 : Nat} {al0 : List Nat} {mm : aM} (K : aK p s m args meth c mX12_isShaped D cA ad adV z0) (x1 : Int) (x2 : Int) (k2 : Int → Option Int) (hk2 : ∀ (x2 : Int), aG p l e { frames := 0, cells := 0, slots := 0, locals := 0 } s m args below meth c D cA ad z0 mX12_isShaped al0 (rI mm) (k2 x2) 2 [(0, .inr (.inr (.inl (some 176)))), (1, .inl x1), (2, .inl x2)] [] mm)  : ∀ (n : Nat) (x3 : Int) (x4 : Int), aG p l e { frames := 0, cells := 0, slots := 0, locals := 0 } s m args below meth c D cA ad z0 mX12_isShaped al0 (rI mm) (R_isShaped_27 mm k2 x1 x2 n x3 x4) 27 [(0, .inr (.inr (.inl (some 176)))), (1, .inl x1), (2, .inl x2), (3, .inl x3), (4, .inl x4)] [] mm := by
  intro n
  induction n with
  | zero => intro x3 x4; exact g_none
  | succ n ih =>
    intro x3 x4
    rw [R_isShaped_27]
    refine gl (i' := 28) (fun _ _ => aw_iload K (dOf ck_mX12_isShaped rfl rfl) rfl) ?_
    refine gl (i' := 29) (fun _ _ => aw_aload_n K (dOf ck_mX12_isShaped rfl rfl) rfl) ?_
    refine gl (i' := 30) (fun _ _ => aw_getf K (dOf ck_mX12_isShaped rfl rfl) rfl rfl (Nat.le_of_ble_eq_true rfl) wd_1206 (k := 1) rfl) ?_
    refine gl (i' := 31) (fun _ _ => aw_bip K (dOf ck_mX12_isShaped rfl rfl) (v := 19) rfl) ?_
    refine gl (i' := 32) (fun _ _ => aw_iload_n K (dOf ck_mX12_isShaped rfl rfl) rfl) ?_
    refine gl (i' := 33) (fun _ _ => aw_iadd K (dOf ck_mX12_isShaped rfl rfl)) ?_
    refine g_gd (fun hb6 => ?_)
    refine gl (i' := 34) (fun _ _ => aw_iald K (dOf ck_mX12_isShaped rfl rfl) rfl hb6) ?_
    refine g_icmp_ge K (dOf ck_mX12_isShaped rfl rfl) (t := 71) (aJ_of (by decide +kernel)) (fun h7 => ?_) (fun h7 => ?_)
    · refine gl (i' := 36) (fun _ _ => aw_iload_n K (dOf ck_mX12_isShaped rfl rfl) rfl) ?_
      refine g_if_eq K (dOf ck_mX12_isShaped rfl rfl) (t := 71) (aJ_of (by decide +kernel)) (fun h9 => ?_) (fun h9 => ?_)
      · refine g_sub [0, 1, 2, 3] rfl ?_
        exact lk_R_isShaped_71 K _ _ _ _ hk2
      · refine gl (i' := 38) (fun _ _ => aw_aload_n K (dOf ck_mX12_isShaped rfl rfl) rfl) ?_
        refine gl (i' := 39) (fun _ _ => aw_getf K (dOf ck_mX12_isShaped rfl rfl) rfl rfl (Nat.le_of_ble_eq_true rfl) wd_1206 (k := 1) rfl) ?_
        refine gl (i' := 40) (fun _ _ => aw_sip K (dOf ck_mX12_isShaped rfl rfl) (v := 148) rfl) ?_
        refine gl (i' := 41) (fun _ _ => aw_iload_n K (dOf ck_mX12_isShaped rfl rfl) rfl) ?_
        refine gl (i' := 42) (fun _ _ => aw_iadd K (dOf ck_mX12_isShaped rfl rfl)) ?_
        refine g_gd (fun hb10 => ?_)
        refine gl (i' := 43) (fun _ _ => aw_iald K (dOf ck_mX12_isShaped rfl rfl) rfl hb10) ?_
        refine gl (i' := 44) (fun _ _ => aw_iload K (dOf ck_mX12_isShaped rfl rfl) rfl) ?_
        refine gl (i' := 45) (fun _ _ => aw_ishr K (dOf ck_mX12_isShaped rfl rfl)) ?_
        refine gl (i' := 46) (fun _ _ => aw_iconst K (n := 1) (i32 _ rfl) (dOf ck_mX12_isShaped rfl rfl)) ?_
        refine gl (i' := 47) (fun _ _ => aw_iand K (dOf ck_mX12_isShaped rfl rfl)) ?_
        refine gl (i' := 48) (fun _ _ => aw_aload_n K (dOf ck_mX12_isShaped rfl rfl) rfl) ?_
        refine gl (i' := 49) (fun _ _ => aw_getf K (dOf ck_mX12_isShaped rfl rfl) rfl rfl (Nat.le_of_ble_eq_true rfl) wd_1206 (k := 1) rfl) ?_
        refine gl (i' := 50) (fun _ _ => aw_bip K (dOf ck_mX12_isShaped rfl rfl) (v := 9) rfl) ?_
        refine gl (i' := 51) (fun _ _ => aw_iald K (dOf ck_mX12_isShaped rfl rfl) rfl (by decide)) ?_
        refine gl (i' := 52) (fun _ _ => aw_aload_n K (dOf ck_mX12_isShaped rfl rfl) rfl) ?_
        refine gl (i' := 53) (fun _ _ => aw_getf K (dOf ck_mX12_isShaped rfl rfl) rfl rfl (Nat.le_of_ble_eq_true rfl) wd_1206 (k := 1) rfl) ?_
        refine gl (i' := 54) (fun _ _ => aw_bip K (dOf ck_mX12_isShaped rfl rfl) (v := 58) rfl) ?_
        refine gl (i' := 55) (fun _ _ => aw_bip K (dOf ck_mX12_isShaped rfl rfl) (v := 6) rfl) ?_
        refine gl (i' := 56) (fun _ _ => aw_iload_n K (dOf ck_mX12_isShaped rfl rfl) rfl) ?_
        refine gl (i' := 57) (fun _ _ => aw_imul K (dOf ck_mX12_isShaped rfl rfl)) ?_
        refine gl (i' := 58) (fun _ _ => aw_iadd K (dOf ck_mX12_isShaped rfl rfl)) ?_
        refine gl (i' := 59) (fun _ _ => aw_iload K (dOf ck_mX12_isShaped rfl rfl) rfl) ?_
        refine gl (i' := 60) (fun _ _ => aw_iadd K (dOf ck_mX12_isShaped rfl rfl)) ?_
        refine g_gd (fun hb11 => ?_)
        refine gl (i' := 61) (fun _ _ => aw_iald K (dOf ck_mX12_isShaped rfl rfl) rfl hb11) ?_
        refine gl (i' := 62) (fun _ _ => aw_ishr K (dOf ck_mX12_isShaped rfl rfl)) ?_
        refine gl (i' := 63) (fun _ _ => aw_iconst K (n := 1) (i32 _ rfl) (dOf ck_mX12_isShaped rfl rfl)) ?_
        refine gl (i' := 64) (fun _ _ => aw_iand K (dOf ck_mX12_isShaped rfl rfl)) ?_
        refine g_icmp_ne K (dOf ck_mX12_isShaped rfl rfl) (t := 67) (aJ_of (by decide +kernel)) (fun h12 => ?_) (fun h12 => ?_)
        · refine gl (i' := 66) (fun _ _ => aw_iconst K (n := 1) (i32 _ rfl) (dOf ck_mX12_isShaped rfl rfl)) ?_
          refine g_goto K (dOf ck_mX12_isShaped rfl rfl).1 (t := 68) (aJ_of (by decide +kernel)) ?_
          refine g_sub [0, 1, 2, 4] rfl ?_
          exact lk_R_isShaped_68 K _ _ _ _ hk2 _ ih _
        · refine gl (i' := 68) (fun _ _ => aw_iconst K (n := 0) (i32 _ rfl) (dOf ck_mX12_isShaped rfl rfl)) ?_
          refine g_sub [0, 1, 2, 4] rfl ?_
          exact lk_R_isShaped_68 K _ _ _ _ hk2 _ ih _
    · refine g_sub [0, 1, 2, 3] rfl ?_
      exact lk_R_isShaped_71 K _ _ _ _ hk2
def R_isShaped_24 (mm : aM) (k2 : Int → Option Int) (x1 : Int) (x2 : Int) (s0 : Int) : Option Int := R_isShaped_27 mm k2 x1 x2 FU s0 0
set_option maxHeartbeats 4000000 in
theorem lk_R_isShaped_24 {p : Program} {l : Launch} {e : Env} {s : State} {m : MethodId} {args : Array Value} {below : List Frame} {meth : Method} {c : Code} {D : va_G} {cA : FieldType → ClassId} {ad adV : Nat → Nat} {z0 : Nat} {al0 : List Nat} {mm : aM} (K : aK p s m args meth c mX12_isShaped D cA ad adV z0) (x1 : Int) (x2 : Int) (k2 : Int → Option Int) (hk2 : ∀ (x2 : Int), aG p l e { frames := 0, cells := 0, slots := 0, locals := 0 } s m args below meth c D cA ad z0 mX12_isShaped al0 (rI mm) (k2 x2) 2 [(0, .inr (.inr (.inl (some 176)))), (1, .inl x1), (2, .inl x2)] [] mm)  (s0 : Int) : aG p l e { frames := 0, cells := 0, slots := 0, locals := 0 } s m args below meth c D cA ad z0 mX12_isShaped al0 (rI mm) (R_isShaped_24 mm k2 x1 x2 s0) 24 [(0, .inr (.inr (.inl (some 176)))), (1, .inl x1), (2, .inl x2)] [.inl s0] mm := by
  unfold R_isShaped_24
  refine gl (i' := 25) (fun _ _ => aw_istore_n K (dOf ck_mX12_isShaped rfl rfl) (Nat.le_of_ble_eq_true rfl)) ?_
  refine g_lv (lv' := [(3, .inl _), (0, .inr (.inr (.inl (some _)))), (1, .inl _), (2, .inl _)]) rfl ?_
  refine gl (i' := 26) (fun _ _ => aw_iconst K (n := 0) (i32 _ rfl) (dOf ck_mX12_isShaped rfl rfl)) ?_
  refine gl (i' := 27) (fun _ _ => aw_istore K (dOf ck_mX12_isShaped rfl rfl) (Nat.le_of_ble_eq_true rfl)) ?_
  refine g_lv (lv' := [(4, .inl _), (3, .inl _), (0, .inr (.inr (.inl (some _)))), (1, .inl _), (2, .inl _)]) rfl ?_
  refine g_sub [2, 3, 4, 1, 0] rfl ?_
  exact lk_R_isShaped_27 K _ _ _ hk2 FU _ _
def R_isShaped_2 (mm : aM) (x1 : Int) : Nat → Int → Option Int
  | 0, _ => none
  | n + 1, x2 => if x2 < (mm 177 141) then (if 0 ≤ (w32 (142 + x2)) ∧ (w32 (142 + x2)) < 588 then (if 0 ≤ (w32 (19 + x1)) ∧ (w32 (19 + x1)) < 588 then (if (mm 177 (w32 (142 + x2)).toNat) = (mm 177 (w32 (19 + x1)).toNat) then (R_isShaped_24 mm (R_isShaped_2 mm x1 n) x1 x2 1) else (R_isShaped_24 mm (R_isShaped_2 mm x1 n) x1 x2 0)) else none) else none) else (if (mm 177 141) = 0 then (some 1) else (some 0))
set_option maxHeartbeats 4000000 in
theorem lk_R_isShaped_2 {p : Program} {l : Launch} {e : Env} {s : State} {m : MethodId} {args : Array Value} {below : List Frame} {meth : Method} {c : Code} {D : va_G} {cA : FieldType → ClassId} {ad adV : Nat → Nat} {z0 : Nat} {al0 : List Nat} {mm : aM} (K : aK p s m args meth c mX12_isShaped D cA ad adV z0) (x1 : Int)  : ∀ (n : Nat) (x2 : Int), aG p l e { frames := 0, cells := 0, slots := 0, locals := 0 } s m args below meth c D cA ad z0 mX12_isShaped al0 (rI mm) (R_isShaped_2 mm x1 n x2) 2 [(0, .inr (.inr (.inl (some 176)))), (1, .inl x1), (2, .inl x2)] [] mm := by
  intro n
  induction n with
  | zero => intro x2; exact g_none
  | succ n ih =>
    intro x2
    rw [R_isShaped_2]
    refine gl (i' := 3) (fun _ _ => aw_iload_n K (dOf ck_mX12_isShaped rfl rfl) rfl) ?_
    refine gl (i' := 4) (fun _ _ => aw_aload_n K (dOf ck_mX12_isShaped rfl rfl) rfl) ?_
    refine gl (i' := 5) (fun _ _ => aw_getf K (dOf ck_mX12_isShaped rfl rfl) rfl rfl (Nat.le_of_ble_eq_true rfl) wd_1206 (k := 1) rfl) ?_
    refine gl (i' := 6) (fun _ _ => aw_sip K (dOf ck_mX12_isShaped rfl rfl) (v := 141) rfl) ?_
    refine gl (i' := 7) (fun _ _ => aw_iald K (dOf ck_mX12_isShaped rfl rfl) rfl (by decide)) ?_
    refine g_icmp_ge K (dOf ck_mX12_isShaped rfl rfl) (t := 77) (aJ_of (by decide +kernel)) (fun h1 => ?_) (fun h1 => ?_)
    · refine gl (i' := 9) (fun _ _ => aw_aload_n K (dOf ck_mX12_isShaped rfl rfl) rfl) ?_
      refine gl (i' := 10) (fun _ _ => aw_getf K (dOf ck_mX12_isShaped rfl rfl) rfl rfl (Nat.le_of_ble_eq_true rfl) wd_1206 (k := 1) rfl) ?_
      refine gl (i' := 11) (fun _ _ => aw_sip K (dOf ck_mX12_isShaped rfl rfl) (v := 142) rfl) ?_
      refine gl (i' := 12) (fun _ _ => aw_iload_n K (dOf ck_mX12_isShaped rfl rfl) rfl) ?_
      refine gl (i' := 13) (fun _ _ => aw_iadd K (dOf ck_mX12_isShaped rfl rfl)) ?_
      refine g_gd (fun hb3 => ?_)
      refine gl (i' := 14) (fun _ _ => aw_iald K (dOf ck_mX12_isShaped rfl rfl) rfl hb3) ?_
      refine gl (i' := 15) (fun _ _ => aw_aload_n K (dOf ck_mX12_isShaped rfl rfl) rfl) ?_
      refine gl (i' := 16) (fun _ _ => aw_getf K (dOf ck_mX12_isShaped rfl rfl) rfl rfl (Nat.le_of_ble_eq_true rfl) wd_1206 (k := 1) rfl) ?_
      refine gl (i' := 17) (fun _ _ => aw_bip K (dOf ck_mX12_isShaped rfl rfl) (v := 19) rfl) ?_
      refine gl (i' := 18) (fun _ _ => aw_iload_n K (dOf ck_mX12_isShaped rfl rfl) rfl) ?_
      refine gl (i' := 19) (fun _ _ => aw_iadd K (dOf ck_mX12_isShaped rfl rfl)) ?_
      refine g_gd (fun hb4 => ?_)
      refine gl (i' := 20) (fun _ _ => aw_iald K (dOf ck_mX12_isShaped rfl rfl) rfl hb4) ?_
      refine g_icmp_ne K (dOf ck_mX12_isShaped rfl rfl) (t := 23) (aJ_of (by decide +kernel)) (fun h5 => ?_) (fun h5 => ?_)
      · refine gl (i' := 22) (fun _ _ => aw_iconst K (n := 1) (i32 _ rfl) (dOf ck_mX12_isShaped rfl rfl)) ?_
        refine g_goto K (dOf ck_mX12_isShaped rfl rfl).1 (t := 24) (aJ_of (by decide +kernel)) ?_
        refine g_sub [0, 1, 2] rfl ?_
        exact lk_R_isShaped_24 K _ _ _ ih _
      · refine gl (i' := 24) (fun _ _ => aw_iconst K (n := 0) (i32 _ rfl) (dOf ck_mX12_isShaped rfl rfl)) ?_
        refine g_sub [0, 1, 2] rfl ?_
        exact lk_R_isShaped_24 K _ _ _ ih _
    · refine gl (i' := 78) (fun _ _ => aw_aload_n K (dOf ck_mX12_isShaped rfl rfl) rfl) ?_
      refine gl (i' := 79) (fun _ _ => aw_getf K (dOf ck_mX12_isShaped rfl rfl) rfl rfl (Nat.le_of_ble_eq_true rfl) wd_1206 (k := 1) rfl) ?_
      refine gl (i' := 80) (fun _ _ => aw_sip K (dOf ck_mX12_isShaped rfl rfl) (v := 141) rfl) ?_
      refine gl (i' := 81) (fun _ _ => aw_iald K (dOf ck_mX12_isShaped rfl rfl) rfl (by decide)) ?_
      refine g_if_ne K (dOf ck_mX12_isShaped rfl rfl) (t := 84) (aJ_of (by decide +kernel)) (fun h2 => ?_) (fun h2 => ?_)
      · refine gl (i' := 83) (fun _ _ => aw_iconst K (n := 1) (i32 _ rfl) (dOf ck_mX12_isShaped rfl rfl)) ?_
        refine g_goto K (dOf ck_mX12_isShaped rfl rfl).1 (t := 85) (aJ_of (by decide +kernel)) ?_
        exact g_iret K (by decide +kernel) rfl (Or.inr (Or.inl ⟨rfl, Or.inr rfl⟩)) rfl
      · refine gl (i' := 85) (fun _ _ => aw_iconst K (n := 0) (i32 _ rfl) (dOf ck_mX12_isShaped rfl rfl)) ?_
        exact g_iret K (by decide +kernel) rfl (Or.inr (Or.inl ⟨rfl, Or.inl rfl⟩)) rfl
def R_isShaped (x1 : Int) (mm : aM) : Option Int := R_isShaped_2 mm x1 FU 0
set_option maxHeartbeats 4000000 in
theorem met_R_isShaped {l : Launch} {D : va_G} {cA : FieldType → ClassId} {ad adV : Nat → Nat} {z0 : Nat} {x1 : Int} {mm : aM}  {r : Int} (h : R_isShaped x1 mm = some r) : aMet l D cA ad adV z0 mX12_isShaped 0 0 0 0 [.inr (.inr (.inl (some 176))), .inl x1] SH mm ((rI mm) r).1 SH ((rI mm) r).2 := by
  refine aMet_ofG (by decide +kernel) rfl (Nat.le_of_ble_eq_true rfl) h (fun p e s m args below meth c al0 K => ?_)
  unfold R_isShaped
  refine gl (i' := 1) (fun _ _ => aw_iconst K (n := 0) (i32 _ rfl) (dOf ck_mX12_isShaped rfl rfl)) ?_
  refine gl (i' := 2) (fun _ _ => aw_istore_n K (dOf ck_mX12_isShaped rfl rfl) (Nat.le_of_ble_eq_true rfl)) ?_
  refine g_lv (lv' := [(2, .inl _), (0, .inr (.inr (.inl (some _)))), (1, .inl _)]) rfl ?_
  refine g_sub [1, 2, 0] rfl ?_
  exact lk_R_isShaped_2 K _ FU _
