def Sounds_become (t : Nat) (x1 : Nat) (mm : aM) : Option aM := st1 (aupr mm (t + 1) (aCpy (mm (x1 + 1)) (mm (t + 1)) 0 0 40)) fun mm1 => (st1 (aup mm1 t 1 (mm1 x1 1)) fun mm2 => (some mm2))
set_option maxHeartbeats 4000000 in
theorem met_Sounds_become {l : Launch} {D : va_G} {cA : FieldType → ClassId} {ad adV : Nat → Nat} {z0 : Nat} {t : Nat} {x1 : Nat} {mm : aM} (ht : okS t) (hx1 : okS x1) {r : aM} (h : Sounds_become t x1 mm = some r) : aMet l D cA ad adV z0 mX6_become 1 26 0 0 [.inr (.inr (.inl (some t))), .inr (.inr (.inl (some x1)))] SH mm (rM r).1 SH (rM r).2 := by
  refine aMet_ofG (by decide +kernel) rfl (Nat.le_of_ble_eq_true rfl) h (fun p e s m args below meth c al0 K => ?_)
  unfold Sounds_become
  refine gl (i' := 1) (fun _ _ => aw_aload_n K (dOf ck_mX6_become rfl rfl) rfl) ?_
  refine gl (i' := 2) (fun _ _ => aw_getf K (dOf ck_mX6_become rfl rfl) (shS_0 hx1) rfl (Nat.le_of_ble_eq_true rfl) wd_294 (k := 0) rfl) ?_
  refine gl (i' := 3) (fun _ _ => aw_iconst K (n := 0) (i32 _ rfl) (dOf ck_mX6_become rfl rfl)) ?_
  refine gl (i' := 4) (fun _ _ => aw_aload_n K (dOf ck_mX6_become rfl rfl) rfl) ?_
  refine gl (i' := 5) (fun _ _ => aw_getf K (dOf ck_mX6_become rfl rfl) (shS_0 ht) rfl (Nat.le_of_ble_eq_true rfl) wd_294 (k := 0) rfl) ?_
  refine gl (i' := 6) (fun _ _ => aw_iconst K (n := 0) (i32 _ rfl) (dOf ck_mX6_become rfl rfl)) ?_
  refine gl (i' := 7) (fun _ _ => aw_bip K (dOf ck_mX6_become rfl rfl) (v := 40) rfl) ?_
  refine g_st1 ?_
  refine gl (i' := 8) (fun _ _ => aw_copy K (dOf ck_mX6_become rfl rfl) ⟨wd_725, wd_611, wd_610, wd_157⟩ (shS_1 hx1) (shS_1 ht) (by decide) (by decide) (by decide) (by decide) (by decide) (Nat.le_of_ble_eq_true rfl) ⟨Nat.le_of_ble_eq_true rfl, Nat.le_of_ble_eq_true rfl⟩) ?_
  refine gl (i' := 9) (fun _ _ => aw_aload_n K (dOf ck_mX6_become rfl rfl) rfl) ?_
  refine gl (i' := 10) (fun _ _ => aw_aload_n K (dOf ck_mX6_become rfl rfl) rfl) ?_
  refine gl (i' := 11) (fun _ _ => aw_getf K (dOf ck_mX6_become rfl rfl) (shS_0 hx1) rfl (Nat.le_of_ble_eq_true rfl) wd_299 (k := 1) rfl) ?_
  refine g_st1 ?_
  refine gl (i' := 12) (fun _ _ => aw_putf K (dOf ck_mX6_become rfl rfl) (shS_0 ht) rfl (Nat.le_of_ble_eq_true rfl) wd_299 (k := 1) rfl rfl (Or.inl rfl)) ?_
  exact g_vret K (by decide +kernel) rfl rfl
def B_line (x1 : Int) (mm : aM) : Option (Int × aM) := if 40 < x1 then (some ((-3), mm)) else ((Tape_holds x1 mm).bind fun r2 => (if r2 = 0 then (some ((-3), mm)) else ((Tape_spellInto x1 mm).bind fun r4 => (st1 (aup r4.2 1 1 0) fun mm5 => (if r4.1 = 0 then (some ((-9), mm5)) else ((Sounds_become 47 49 mm5).bind fun r7 => ((Cutter_forget 61 r7).bind fun r8 => (some (x1, r8)))))))))
set_option maxHeartbeats 4000000 in
theorem met_B_line {l : Launch} {D : va_G} {cA : FieldType → ClassId} {ad adV : Nat → Nat} {z0 : Nat} {x1 : Int} {mm : aM}  {r : Int × aM} (h : B_line x1 mm = some r) : aMet l D cA ad adV z0 mX11_line 2 47 0 0 [.inr (.inr (.inl (some 0))), .inl x1] SH mm (rIM r).1 SH (rIM r).2 := by
  refine aMet_ofG (by decide +kernel) rfl (Nat.le_of_ble_eq_true rfl) h (fun p e s m args below meth c al0 K => ?_)
  unfold B_line
  refine gl (i' := 1) (fun _ _ => aw_iload_n K (dOf ck_mX11_line rfl rfl) rfl) ?_
  refine gl (i' := 2) (fun _ _ => aw_bip K (dOf ck_mX11_line rfl rfl) (v := 40) rfl) ?_
  refine g_icmp_gt K (dOf ck_mX11_line rfl rfl) (t := 8) (aJ_of (by decide +kernel)) (fun h1 => ?_) (fun h1 => ?_)
  · refine gl (i' := 9) (fun _ _ => aw_bip K (dOf ck_mX11_line rfl rfl) (v := -3) rfl) ?_
    exact g_iret K (dOf ck_mX11_line rfl rfl).1 rfl (Or.inl rfl) rfl
  · refine gl (i' := 4) (fun _ _ => aw_aload_n K (dOf ck_mX11_line rfl rfl) rfl) ?_
    refine gl (i' := 5) (fun _ _ => aw_getf K (dOf ck_mX11_line rfl rfl) rfl rfl (Nat.le_of_ble_eq_true rfl) wd_460 (k := 0) rfl) ?_
    refine gl (i' := 6) (fun _ _ => aw_iload_n K (dOf ck_mX11_line rfl rfl) rfl) ?_
    refine g_callVI K [.inl _] rfl (dOf ck_mX11_line rfl rfl) al_OneBreath_111 rfl rfl ⟨wd_488, wd_489⟩ rfl (Nat.le_of_ble_eq_true rfl) ⟨Nat.le_of_ble_eq_true rfl, Nat.le_of_ble_eq_true rfl⟩ (fun b hb => met_Tape_holds  hb) (fun r2 hr2 => ?_)
    refine g_if_ne K (dOf ck_mX11_line rfl rfl) (t := 10) (aJ_of (by decide +kernel)) (fun h3 => ?_) (fun h3 => ?_)
    · refine gl (i' := 9) (fun _ _ => aw_bip K (dOf ck_mX11_line rfl rfl) (v := -3) rfl) ?_
      exact g_iret K (dOf ck_mX11_line rfl rfl).1 rfl (Or.inl rfl) rfl
    · refine gl (i' := 11) (fun _ _ => aw_aload_n K (dOf ck_mX11_line rfl rfl) rfl) ?_
      refine gl (i' := 12) (fun _ _ => aw_getf K (dOf ck_mX11_line rfl rfl) rfl rfl (Nat.le_of_ble_eq_true rfl) wd_460 (k := 0) rfl) ?_
      refine gl (i' := 13) (fun _ _ => aw_iload_n K (dOf ck_mX11_line rfl rfl) rfl) ?_
      refine gl (i' := 14) (fun _ _ => aw_aload_n K (dOf ck_mX11_line rfl rfl) rfl) ?_
      refine gl (i' := 15) (fun _ _ => aw_getf K (dOf ck_mX11_line rfl rfl) rfl rfl (Nat.le_of_ble_eq_true rfl) wd_461 (k := 1) rfl) ?_
      refine gl (i' := 16) (fun _ _ => aw_aload_n K (dOf ck_mX11_line rfl rfl) rfl) ?_
      refine gl (i' := 17) (fun _ _ => aw_getf K (dOf ck_mX11_line rfl rfl) rfl rfl (Nat.le_of_ble_eq_true rfl) wd_463 (k := 3) rfl) ?_
      refine g_callVIM K [.inl _, .inr (.inr (.inl (some _))), .inr (.inr (.inl (some _)))] rfl (dOf ck_mX11_line rfl rfl) al_OneBreath_188 rfl rfl ⟨wd_656, wd_657⟩ rfl (Nat.le_of_ble_eq_true rfl) ⟨Nat.le_of_ble_eq_true rfl, Nat.le_of_ble_eq_true rfl⟩ (fun b hb => met_Tape_spellInto  hb) (fun r4 hr4 => ?_)
      refine gl (i' := 19) (fun _ _ => aw_istore_n K (dOf ck_mX11_line rfl rfl) (Nat.le_of_ble_eq_true rfl)) ?_
      refine g_lv (lv' := [(2, .inl _), (0, .inr (.inr (.inl (some _)))), (1, .inl _)]) rfl ?_
      refine gl (i' := 20) (fun _ _ => aw_aload_n K (dOf ck_mX11_line rfl rfl) rfl) ?_
      refine gl (i' := 21) (fun _ _ => aw_getf K (dOf ck_mX11_line rfl rfl) rfl rfl (Nat.le_of_ble_eq_true rfl) wd_460 (k := 0) rfl) ?_
      refine gl (i' := 22) (fun _ _ => aw_iconst K (n := 0) (i32 _ rfl) (dOf ck_mX11_line rfl rfl)) ?_
      refine g_st1 ?_
      refine gl (i' := 23) (fun _ _ => aw_putf K (dOf ck_mX11_line rfl rfl) rfl rfl (Nat.le_of_ble_eq_true rfl) wd_275 (k := 1) rfl rfl (Or.inl rfl)) ?_
      refine gl (i' := 24) (fun _ _ => aw_iload_n K (dOf ck_mX11_line rfl rfl) rfl) ?_
      refine g_if_ne K (dOf ck_mX11_line rfl rfl) (t := 27) (aJ_of (by decide +kernel)) (fun h6 => ?_) (fun h6 => ?_)
      · refine gl (i' := 26) (fun _ _ => aw_bip K (dOf ck_mX11_line rfl rfl) (v := -9) rfl) ?_
        exact g_iret K (dOf ck_mX11_line rfl rfl).1 rfl (Or.inl rfl) rfl
      · refine gl (i' := 28) (fun _ _ => aw_aload_n K (dOf ck_mX11_line rfl rfl) rfl) ?_
        refine gl (i' := 29) (fun _ _ => aw_getf K (dOf ck_mX11_line rfl rfl) rfl rfl (Nat.le_of_ble_eq_true rfl) wd_462 (k := 2) rfl) ?_
        refine gl (i' := 30) (fun _ _ => aw_aload_n K (dOf ck_mX11_line rfl rfl) rfl) ?_
        refine gl (i' := 31) (fun _ _ => aw_getf K (dOf ck_mX11_line rfl rfl) rfl rfl (Nat.le_of_ble_eq_true rfl) wd_463 (k := 3) rfl) ?_
        refine g_callVM K [.inr (.inr (.inl (some _)))] rfl (dOf ck_mX11_line rfl rfl) al_OneBreath_233 rfl rfl ⟨wd_722, wd_723⟩ rfl (Nat.le_of_ble_eq_true rfl) ⟨Nat.le_of_ble_eq_true rfl, Nat.le_of_ble_eq_true rfl⟩ (fun b hb => met_Sounds_become (by unfold okS; omega) (by unfold okS; omega) hb) (fun r7 hr7 => ?_)
        refine gl (i' := 33) (fun _ _ => aw_aload_n K (dOf ck_mX11_line rfl rfl) rfl) ?_
        refine gl (i' := 34) (fun _ _ => aw_getf K (dOf ck_mX11_line rfl rfl) rfl rfl (Nat.le_of_ble_eq_true rfl) wd_466 (k := 6) rfl) ?_
        refine g_callVM K [] rfl (dOf ck_mX11_line rfl rfl) al_OneBreath_230 rfl rfl ⟨wd_616, wd_617⟩ rfl (Nat.le_of_ble_eq_true rfl) ⟨Nat.le_of_ble_eq_true rfl, Nat.le_of_ble_eq_true rfl⟩ (fun b hb => met_Cutter_forget (by unfold okC; omega) hb) (fun r8 hr8 => ?_)
        refine gl (i' := 36) (fun _ _ => aw_iload_n K (dOf ck_mX11_line rfl rfl) rfl) ?_
        exact g_iret K (by decide +kernel) rfl (Or.inl rfl) rfl
def B_at (x1 : Int) (mm : aM) : Option Int := if x1 < 0 then (some (-1)) else (if x1 < (mm 47 1) then (if 0 ≤ x1 ∧ x1 < 40 then (some (mm 48 x1.toNat)) else none) else (some (-1)))
set_option maxHeartbeats 4000000 in
theorem met_B_at {l : Launch} {D : va_G} {cA : FieldType → ClassId} {ad adV : Nat → Nat} {z0 : Nat} {x1 : Int} {mm : aM}  {r : Int} (h : B_at x1 mm = some r) : aMet l D cA ad adV z0 mX11_at 0 0 0 0 [.inr (.inr (.inl (some 0))), .inl x1] SH mm ((rI mm) r).1 SH ((rI mm) r).2 := by
  refine aMet_ofG (by decide +kernel) rfl (Nat.le_of_ble_eq_true rfl) h (fun p e s m args below meth c al0 K => ?_)
  unfold B_at
  refine gl (i' := 1) (fun _ _ => aw_iload_n K (dOf ck_mX11_at rfl rfl) rfl) ?_
  refine g_if_lt K (dOf ck_mX11_at rfl rfl) (t := 13) (aJ_of (by decide +kernel)) (fun h1 => ?_) (fun h1 => ?_)
  · refine gl (i' := 14) (fun _ _ => aw_iconst K (n := -1) (i32 _ rfl) (dOf ck_mX11_at rfl rfl)) ?_
    exact g_iret K (by decide +kernel) rfl (Or.inl rfl) rfl
  · refine gl (i' := 3) (fun _ _ => aw_iload_n K (dOf ck_mX11_at rfl rfl) rfl) ?_
    refine gl (i' := 4) (fun _ _ => aw_aload_n K (dOf ck_mX11_at rfl rfl) rfl) ?_
    refine gl (i' := 5) (fun _ _ => aw_getf K (dOf ck_mX11_at rfl rfl) rfl rfl (Nat.le_of_ble_eq_true rfl) wd_462 (k := 2) rfl) ?_
    refine gl (i' := 6) (fun _ _ => aw_getf K (dOf ck_mX11_at rfl rfl) rfl rfl (Nat.le_of_ble_eq_true rfl) wd_303 (k := 1) rfl) ?_
    refine g_icmp_ge K (dOf ck_mX11_at rfl rfl) (t := 13) (aJ_of (by decide +kernel)) (fun h2 => ?_) (fun h2 => ?_)
    · refine gl (i' := 8) (fun _ _ => aw_aload_n K (dOf ck_mX11_at rfl rfl) rfl) ?_
      refine gl (i' := 9) (fun _ _ => aw_getf K (dOf ck_mX11_at rfl rfl) rfl rfl (Nat.le_of_ble_eq_true rfl) wd_462 (k := 2) rfl) ?_
      refine gl (i' := 10) (fun _ _ => aw_getf K (dOf ck_mX11_at rfl rfl) rfl rfl (Nat.le_of_ble_eq_true rfl) wd_298 (k := 0) rfl) ?_
      refine gl (i' := 11) (fun _ _ => aw_iload_n K (dOf ck_mX11_at rfl rfl) rfl) ?_
      refine g_gd (fun hb3 => ?_)
      refine gl (i' := 12) (fun _ _ => aw_bald K (dOf ck_mX11_at rfl rfl) rfl hb3) ?_
      refine g_goto K (dOf ck_mX11_at rfl rfl).1 (t := 14) (aJ_of (by decide +kernel)) ?_
      exact g_iret K (by decide +kernel) rfl (Or.inl rfl) rfl
    · refine gl (i' := 14) (fun _ _ => aw_iconst K (n := -1) (i32 _ rfl) (dOf ck_mX11_at rfl rfl)) ?_
      exact g_iret K (by decide +kernel) rfl (Or.inl rfl) rfl
def Cutter_missesAt_52 (mm : aM) (k18 : Int → Int → Option Int) (t : Nat) (x1 : Nat) (x2 : Int) (x3 : Int) (x4 : Int) (x5 : Int) (x6 : Int) : Option Int := k18 x5 (w32 (x6 + 1))
set_option maxHeartbeats 4000000 in
theorem lk_Cutter_missesAt_52 {p : Program} {l : Launch} {e : Env} {s : State} {m : MethodId} {args : Array Value} {below : List Frame} {meth : Method} {c : Code} {D : va_G} {cA : FieldType → ClassId} {ad adV : Nat → Nat} {z0 : Nat} {al0 : List Nat} {mm : aM} (K : aK p s m args meth c mX1_missesAt D cA ad adV z0) {t : Nat} {x1 : Nat} (x2 : Int) (x3 : Int) (x4 : Int) (x5 : Int) (x6 : Int) (ht : okC t) (hx1 : okS x1) (k18 : Int → Int → Option Int) (hk18 : ∀ (x5 : Int) (x6 : Int), aG p l e { frames := 0, cells := 0, slots := 0, locals := 0 } s m args below meth c D cA ad z0 mX1_missesAt al0 (rI mm) (k18 x5 x6) 18 [(0, .inr (.inr (.inl (some t)))), (1, .inr (.inr (.inl (some x1)))), (2, .inl x2), (3, .inl x3), (4, .inl x4), (5, .inl x5), (6, .inl x6)] [] mm)  : aG p l e { frames := 0, cells := 0, slots := 0, locals := 0 } s m args below meth c D cA ad z0 mX1_missesAt al0 (rI mm) (Cutter_missesAt_52 mm k18 t x1 x2 x3 x4 x5 x6) 52 [(0, .inr (.inr (.inl (some t)))), (1, .inr (.inr (.inl (some x1)))), (2, .inl x2), (3, .inl x3), (4, .inl x4), (5, .inl x5), (6, .inl x6)] [] mm := by
  unfold Cutter_missesAt_52
  refine gl (i' := 53) (fun _ _ => aw_iinc K (dOf ck_mX1_missesAt rfl rfl) (Nat.le_of_ble_eq_true rfl) rfl) ?_
  refine g_lv (lv' := [(6, .inl _), (0, .inr (.inr (.inl (some _)))), (1, .inr (.inr (.inl (some _)))), (2, .inl _), (3, .inl _), (4, .inl _), (5, .inl _)]) rfl ?_
  refine g_goto K (dOf ck_mX1_missesAt rfl rfl).1 (t := 18) (aJ_of (by decide +kernel)) ?_
  refine g_sub [1, 2, 3, 4, 5, 6, 0] rfl ?_
  exact hk18 _ _
def Cutter_missesAt_18 (mm : aM) (t : Nat) (x1 : Nat) (x2 : Int) (x3 : Int) (x4 : Int) : Nat → Int → Int → Option Int
  | 0, _, _ => none
  | n + 1, x5, x6 => if x6 < x4 then (if 0 ≤ x3 ∧ x3 < 12 then (if 0 ≤ x6 ∧ x6 < 6 then (if 0 ≤ (w32 (x2 + x6)) ∧ (w32 (x2 + x6)) < 40 then (if (mm (25 + 4 + x3.toNat) x6.toNat) = (mm (x1 + 1) (w32 (x2 + x6)).toNat) then (Cutter_missesAt_52 mm (Cutter_missesAt_18 mm t x1 x2 x3 x4 n) t x1 x2 x3 x4 x5 x6) else (if 0 ≤ (mm (25 + 4 + x3.toNat) x6.toNat) ∧ (mm (25 + 4 + x3.toNat) x6.toNat) < 8 then (if (iand (ishr (mm 27 (mm (25 + 4 + x3.toNat) x6.toNat).toNat) (mm (x1 + 1) (w32 (x2 + x6)).toNat)) 1) = 0 then (some (-1)) else (Cutter_missesAt_52 mm (Cutter_missesAt_18 mm t x1 x2 x3 x4 n) t x1 x2 x3 x4 (w32 (x5 + 1)) x6)) else none)) else none) else none) else none) else (some x5)
set_option maxHeartbeats 4000000 in
theorem lk_Cutter_missesAt_18 {p : Program} {l : Launch} {e : Env} {s : State} {m : MethodId} {args : Array Value} {below : List Frame} {meth : Method} {c : Code} {D : va_G} {cA : FieldType → ClassId} {ad adV : Nat → Nat} {z0 : Nat} {al0 : List Nat} {mm : aM} (K : aK p s m args meth c mX1_missesAt D cA ad adV z0) {t : Nat} {x1 : Nat} (x2 : Int) (x3 : Int) (x4 : Int) (ht : okC t) (hx1 : okS x1)  : ∀ (n : Nat) (x5 : Int) (x6 : Int), aG p l e { frames := 0, cells := 0, slots := 0, locals := 0 } s m args below meth c D cA ad z0 mX1_missesAt al0 (rI mm) (Cutter_missesAt_18 mm t x1 x2 x3 x4 n x5 x6) 18 [(0, .inr (.inr (.inl (some t)))), (1, .inr (.inr (.inl (some x1)))), (2, .inl x2), (3, .inl x3), (4, .inl x4), (5, .inl x5), (6, .inl x6)] [] mm := by
  intro n
  induction n with
  | zero => intro x5 x6; exact g_none
  | succ n ih =>
    intro x5 x6
    rw [Cutter_missesAt_18]
    refine gl (i' := 19) (fun _ _ => aw_iload K (dOf ck_mX1_missesAt rfl rfl) rfl) ?_
    refine gl (i' := 20) (fun _ _ => aw_iload K (dOf ck_mX1_missesAt rfl rfl) rfl) ?_
    refine g_icmp_ge K (dOf ck_mX1_missesAt rfl rfl) (t := 54) (aJ_of (by decide +kernel)) (fun h3 => ?_) (fun h3 => ?_)
    · refine gl (i' := 22) (fun _ _ => aw_aload_n K (dOf ck_mX1_missesAt rfl rfl) rfl) ?_
      refine gl (i' := 23) (fun _ _ => aw_getf K (dOf ck_mX1_missesAt rfl rfl) (shC_0 ht) rfl (Nat.le_of_ble_eq_true rfl) wd_342 (k := 0) rfl) ?_
      refine gl (i' := 24) (fun _ _ => aw_getf K (dOf ck_mX1_missesAt rfl rfl) rfl rfl (Nat.le_of_ble_eq_true rfl) wd_231 (k := 8) rfl) ?_
      refine gl (i' := 25) (fun _ _ => aw_iload_n K (dOf ck_mX1_missesAt rfl rfl) rfl) ?_
      refine g_gd (fun hb4 => ?_)
      refine gl (i' := 26) (fun _ _ => aw_aald K (dOf ck_mX1_missesAt rfl rfl) (shTa (t := 25) (by unfold okT; omega)) hb4 (rsT_at hb4)) ?_
      refine gl (i' := 27) (fun _ _ => aw_iload K (dOf ck_mX1_missesAt rfl rfl) rfl) ?_
      refine g_gd (fun hb5 => ?_)
      refine gl (i' := 28) (fun _ _ => aw_bald K (dOf ck_mX1_missesAt rfl rfl) (shTr (t := 25) (by unfold okT; omega) hb4) hb5) ?_
      refine gl (i' := 29) (fun _ _ => aw_istore K (dOf ck_mX1_missesAt rfl rfl) (Nat.le_of_ble_eq_true rfl)) ?_
      refine g_lv (lv' := [(7, .inl _), (0, .inr (.inr (.inl (some _)))), (1, .inr (.inr (.inl (some _)))), (2, .inl _), (3, .inl _), (4, .inl _), (5, .inl _), (6, .inl _)]) rfl ?_
      refine gl (i' := 30) (fun _ _ => aw_aload_n K (dOf ck_mX1_missesAt rfl rfl) rfl) ?_
      refine gl (i' := 31) (fun _ _ => aw_getf K (dOf ck_mX1_missesAt rfl rfl) (shS_0 hx1) rfl (Nat.le_of_ble_eq_true rfl) wd_296 (k := 0) rfl) ?_
      refine gl (i' := 32) (fun _ _ => aw_iload_n K (dOf ck_mX1_missesAt rfl rfl) rfl) ?_
      refine gl (i' := 33) (fun _ _ => aw_iload K (dOf ck_mX1_missesAt rfl rfl) rfl) ?_
      refine gl (i' := 34) (fun _ _ => aw_iadd K (dOf ck_mX1_missesAt rfl rfl)) ?_
      refine g_gd (fun hb6 => ?_)
      refine gl (i' := 35) (fun _ _ => aw_bald K (dOf ck_mX1_missesAt rfl rfl) (shS_1 hx1) hb6) ?_
      refine gl (i' := 36) (fun _ _ => aw_istore K (dOf ck_mX1_missesAt rfl rfl) (Nat.le_of_ble_eq_true rfl)) ?_
      refine g_lv (lv' := [(8, .inl _), (7, .inl _), (0, .inr (.inr (.inl (some _)))), (1, .inr (.inr (.inl (some _)))), (2, .inl _), (3, .inl _), (4, .inl _), (5, .inl _), (6, .inl _)]) rfl ?_
      refine gl (i' := 37) (fun _ _ => aw_iload K (dOf ck_mX1_missesAt rfl rfl) rfl) ?_
      refine gl (i' := 38) (fun _ _ => aw_iload K (dOf ck_mX1_missesAt rfl rfl) rfl) ?_
      refine g_icmp_eq K (dOf ck_mX1_missesAt rfl rfl) (t := 52) (aJ_of (by decide +kernel)) (fun h7 => ?_) (fun h7 => ?_)
      · refine g_sub [2, 3, 4, 5, 6, 7, 8] rfl ?_
        exact lk_Cutter_missesAt_52 K _ _ _ _ _ ht hx1 _ ih
      · refine gl (i' := 40) (fun _ _ => aw_aload_n K (dOf ck_mX1_missesAt rfl rfl) rfl) ?_
        refine gl (i' := 41) (fun _ _ => aw_getf K (dOf ck_mX1_missesAt rfl rfl) (shC_0 ht) rfl (Nat.le_of_ble_eq_true rfl) wd_342 (k := 0) rfl) ?_
        refine gl (i' := 42) (fun _ _ => aw_getf K (dOf ck_mX1_missesAt rfl rfl) rfl rfl (Nat.le_of_ble_eq_true rfl) wd_222 (k := 7) rfl) ?_
        refine gl (i' := 43) (fun _ _ => aw_iload K (dOf ck_mX1_missesAt rfl rfl) rfl) ?_
        refine g_gd (fun hb8 => ?_)
        refine gl (i' := 44) (fun _ _ => aw_iald K (dOf ck_mX1_missesAt rfl rfl) rfl hb8) ?_
        refine gl (i' := 45) (fun _ _ => aw_iload K (dOf ck_mX1_missesAt rfl rfl) rfl) ?_
        refine gl (i' := 46) (fun _ _ => aw_ishr K (dOf ck_mX1_missesAt rfl rfl)) ?_
        refine gl (i' := 47) (fun _ _ => aw_iconst K (n := 1) (i32 _ rfl) (dOf ck_mX1_missesAt rfl rfl)) ?_
        refine gl (i' := 48) (fun _ _ => aw_iand K (dOf ck_mX1_missesAt rfl rfl)) ?_
        refine g_if_ne K (dOf ck_mX1_missesAt rfl rfl) (t := 51) (aJ_of (by decide +kernel)) (fun h9 => ?_) (fun h9 => ?_)
        · refine gl (i' := 50) (fun _ _ => aw_iconst K (n := -1) (i32 _ rfl) (dOf ck_mX1_missesAt rfl rfl)) ?_
          exact g_iret K (dOf ck_mX1_missesAt rfl rfl).1 rfl (Or.inl rfl) rfl
        · refine gl (i' := 52) (fun _ _ => aw_iinc K (dOf ck_mX1_missesAt rfl rfl) (Nat.le_of_ble_eq_true rfl) rfl) ?_
          refine g_lv (lv' := [(5, .inl _), (8, .inl _), (7, .inl _), (0, .inr (.inr (.inl (some _)))), (1, .inr (.inr (.inl (some _)))), (2, .inl _), (3, .inl _), (4, .inl _), (6, .inl _)]) rfl ?_
          refine g_sub [3, 4, 5, 6, 7, 0, 8] rfl ?_
          exact lk_Cutter_missesAt_52 K _ _ _ _ _ ht hx1 _ ih
    · refine gl (i' := 55) (fun _ _ => aw_iload K (dOf ck_mX1_missesAt rfl rfl) rfl) ?_
      exact g_iret K (by decide +kernel) rfl (Or.inl rfl) rfl
def Cutter_missesAt (t : Nat) (x1 : Nat) (x2 : Int) (x3 : Int) (mm : aM) : Option Int := if 0 ≤ x3 ∧ x3 < 12 then (if (mm x1 1) < (w32 (x2 + (mm 41 x3.toNat))) then (some (-1)) else (Cutter_missesAt_18 mm t x1 x2 x3 (mm 41 x3.toNat) FU 0 0)) else none
set_option maxHeartbeats 4000000 in
theorem met_Cutter_missesAt {l : Launch} {D : va_G} {cA : FieldType → ClassId} {ad adV : Nat → Nat} {z0 : Nat} {t : Nat} {x1 : Nat} {x2 : Int} {x3 : Int} {mm : aM} (ht : okC t) (hx1 : okS x1) {r : Int} (h : Cutter_missesAt t x1 x2 x3 mm = some r) : aMet l D cA ad adV z0 mX1_missesAt 0 0 0 0 [.inr (.inr (.inl (some t))), .inr (.inr (.inl (some x1))), .inl x2, .inl x3] SH mm ((rI mm) r).1 SH ((rI mm) r).2 := by
  refine aMet_ofG (by decide +kernel) rfl (Nat.le_of_ble_eq_true rfl) h (fun p e s m args below meth c al0 K => ?_)
  unfold Cutter_missesAt
  refine gl (i' := 1) (fun _ _ => aw_aload_n K (dOf ck_mX1_missesAt rfl rfl) rfl) ?_
  refine gl (i' := 2) (fun _ _ => aw_getf K (dOf ck_mX1_missesAt rfl rfl) (shC_0 ht) rfl (Nat.le_of_ble_eq_true rfl) wd_342 (k := 0) rfl) ?_
  refine gl (i' := 3) (fun _ _ => aw_getf K (dOf ck_mX1_missesAt rfl rfl) rfl rfl (Nat.le_of_ble_eq_true rfl) wd_240 (k := 9) rfl) ?_
  refine gl (i' := 4) (fun _ _ => aw_iload_n K (dOf ck_mX1_missesAt rfl rfl) rfl) ?_
  refine g_gd (fun hb1 => ?_)
  refine gl (i' := 5) (fun _ _ => aw_iald K (dOf ck_mX1_missesAt rfl rfl) rfl hb1) ?_
  refine gl (i' := 6) (fun _ _ => aw_istore K (dOf ck_mX1_missesAt rfl rfl) (Nat.le_of_ble_eq_true rfl)) ?_
  refine g_lv (lv' := [(4, .inl _), (0, .inr (.inr (.inl (some _)))), (1, .inr (.inr (.inl (some _)))), (2, .inl _), (3, .inl _)]) rfl ?_
  refine gl (i' := 7) (fun _ _ => aw_iload_n K (dOf ck_mX1_missesAt rfl rfl) rfl) ?_
  refine gl (i' := 8) (fun _ _ => aw_iload K (dOf ck_mX1_missesAt rfl rfl) rfl) ?_
  refine gl (i' := 9) (fun _ _ => aw_iadd K (dOf ck_mX1_missesAt rfl rfl)) ?_
  refine gl (i' := 10) (fun _ _ => aw_aload_n K (dOf ck_mX1_missesAt rfl rfl) rfl) ?_
  refine gl (i' := 11) (fun _ _ => aw_getf K (dOf ck_mX1_missesAt rfl rfl) (shS_0 hx1) rfl (Nat.le_of_ble_eq_true rfl) wd_301 (k := 1) rfl) ?_
  refine g_icmp_le K (dOf ck_mX1_missesAt rfl rfl) (t := 14) (aJ_of (by decide +kernel)) (fun h2 => ?_) (fun h2 => ?_)
  · refine gl (i' := 13) (fun _ _ => aw_iconst K (n := -1) (i32 _ rfl) (dOf ck_mX1_missesAt rfl rfl)) ?_
    exact g_iret K (dOf ck_mX1_missesAt rfl rfl).1 rfl (Or.inl rfl) rfl
  · refine gl (i' := 15) (fun _ _ => aw_iconst K (n := 0) (i32 _ rfl) (dOf ck_mX1_missesAt rfl rfl)) ?_
    refine gl (i' := 16) (fun _ _ => aw_istore K (dOf ck_mX1_missesAt rfl rfl) (Nat.le_of_ble_eq_true rfl)) ?_
    refine g_lv (lv' := [(5, .inl _), (4, .inl _), (0, .inr (.inr (.inl (some _)))), (1, .inr (.inr (.inl (some _)))), (2, .inl _), (3, .inl _)]) rfl ?_
    refine gl (i' := 17) (fun _ _ => aw_iconst K (n := 0) (i32 _ rfl) (dOf ck_mX1_missesAt rfl rfl)) ?_
    refine gl (i' := 18) (fun _ _ => aw_istore K (dOf ck_mX1_missesAt rfl rfl) (Nat.le_of_ble_eq_true rfl)) ?_
    refine g_lv (lv' := [(6, .inl _), (5, .inl _), (4, .inl _), (0, .inr (.inr (.inl (some _)))), (1, .inr (.inr (.inl (some _)))), (2, .inl _), (3, .inl _)]) rfl ?_
    refine g_sub [3, 4, 5, 6, 2, 1, 0] rfl ?_
    exact lk_Cutter_missesAt_18 K _ _ _ ht hx1 FU _ _
def Cutter_lay_14 (k8 : Int → aM → Option aM) (t : Nat) (x1 : Nat) (x2 : Int) : Nat → Int → aM → Option aM
  | 0, _, _ => none
  | n + 1, x3, mm => if x3 < (mm 25 2) then ((Cutter_missesAt t x1 x2 x3 mm).bind fun r5 => (if 0 ≤ (w32 ((w32 (x2 * 12)) + x3)) ∧ (w32 ((w32 (x2 * 12)) + x3)) < 720 then (st1 (aup mm (t + 1) (w32 ((w32 (x2 * 12)) + x3)).toNat (w8 (w8 r5))) fun mm7 => (Cutter_lay_14 k8 t x1 x2 n (w32 (x3 + 1)) mm7)) else none)) else (k8 (w32 (x2 + 1)) mm)
set_option maxHeartbeats 4000000 in
theorem lk_Cutter_lay_14 {p : Program} {l : Launch} {e : Env} {s : State} {m : MethodId} {args : Array Value} {below : List Frame} {meth : Method} {c : Code} {D : va_G} {cA : FieldType → ClassId} {ad adV : Nat → Nat} {z0 : Nat} {al0 : List Nat} (K : aK p s m args meth c mX1_lay D cA ad adV z0) {t : Nat} {x1 : Nat} (x2 : Int) (ht : okC t) (hx1 : okS x1) (k8 : Int → aM → Option aM) (hk8 : ∀ (x2 : Int) (mm : aM), aG p l e { frames := 1, cells := 0, slots := 0, locals := 28 } s m args below meth c D cA ad z0 mX1_lay al0 rM (k8 x2 mm) 8 [(0, .inr (.inr (.inl (some t)))), (1, .inr (.inr (.inl (some x1)))), (2, .inl x2)] [] mm)  : ∀ (n : Nat) (x3 : Int) (mm : aM), aG p l e { frames := 1, cells := 0, slots := 0, locals := 28 } s m args below meth c D cA ad z0 mX1_lay al0 rM (Cutter_lay_14 k8 t x1 x2 n x3 mm) 14 [(0, .inr (.inr (.inl (some t)))), (1, .inr (.inr (.inl (some x1)))), (2, .inl x2), (3, .inl x3)] [] mm := by
  intro n
  induction n with
  | zero => intro x3 mm; exact g_none
  | succ n ih =>
    intro x3 mm
    rw [Cutter_lay_14]
    refine gl (i' := 15) (fun _ _ => aw_iload_n K (dOf ck_mX1_lay rfl rfl) rfl) ?_
    refine gl (i' := 16) (fun _ _ => aw_aload_n K (dOf ck_mX1_lay rfl rfl) rfl) ?_
    refine gl (i' := 17) (fun _ _ => aw_getf K (dOf ck_mX1_lay rfl rfl) (shC_0 ht) rfl (Nat.le_of_ble_eq_true rfl) wd_342 (k := 0) rfl) ?_
    refine gl (i' := 18) (fun _ _ => aw_getf K (dOf ck_mX1_lay rfl rfl) rfl rfl (Nat.le_of_ble_eq_true rfl) wd_199 (k := 2) rfl) ?_
    refine g_icmp_ge K (dOf ck_mX1_lay rfl rfl) (t := 35) (aJ_of (by decide +kernel)) (fun h4 => ?_) (fun h4 => ?_)
    · refine gl (i' := 20) (fun _ _ => aw_aload_n K (dOf ck_mX1_lay rfl rfl) rfl) ?_
      refine gl (i' := 21) (fun _ _ => aw_getf K (dOf ck_mX1_lay rfl rfl) (shC_0 ht) rfl (Nat.le_of_ble_eq_true rfl) wd_344 (k := 2) rfl) ?_
      refine gl (i' := 22) (fun _ _ => aw_iload_n K (dOf ck_mX1_lay rfl rfl) rfl) ?_
      refine gl (i' := 23) (fun _ _ => aw_bip K (dOf ck_mX1_lay rfl rfl) (v := 12) rfl) ?_
      refine gl (i' := 24) (fun _ _ => aw_imul K (dOf ck_mX1_lay rfl rfl)) ?_
      refine gl (i' := 25) (fun _ _ => aw_iload_n K (dOf ck_mX1_lay rfl rfl) rfl) ?_
      refine gl (i' := 26) (fun _ _ => aw_iadd K (dOf ck_mX1_lay rfl rfl)) ?_
      refine gl (i' := 27) (fun _ _ => aw_aload_n K (dOf ck_mX1_lay rfl rfl) rfl) ?_
      refine gl (i' := 28) (fun _ _ => aw_aload_n K (dOf ck_mX1_lay rfl rfl) rfl) ?_
      refine gl (i' := 29) (fun _ _ => aw_iload_n K (dOf ck_mX1_lay rfl rfl) rfl) ?_
      refine gl (i' := 30) (fun _ _ => aw_iload_n K (dOf ck_mX1_lay rfl rfl) rfl) ?_
      refine g_callVI K [.inr (.inr (.inl (some _))), .inl _, .inl _] rfl (dOf ck_mX1_lay rfl rfl) al_OneBreath_Cutter_51 (shC_0 ht) rfl ⟨wd_740, wd_19⟩ rfl (Nat.le_of_ble_eq_true rfl) ⟨Nat.le_of_ble_eq_true rfl, Nat.le_of_ble_eq_true rfl⟩ (fun b hb => met_Cutter_missesAt ht hx1 hb) (fun r5 hr5 => ?_)
      refine gl (i' := 32) (fun _ _ => aw_i2b K (dOf ck_mX1_lay rfl rfl)) ?_
      refine g_gd (fun hb6 => ?_)
      refine g_st1 ?_
      refine gl (i' := 33) (fun _ _ => aw_bast K (dOf ck_mX1_lay rfl rfl) (shC_1 ht) hb6) ?_
      refine gl (i' := 34) (fun _ _ => aw_iinc K (dOf ck_mX1_lay rfl rfl) (Nat.le_of_ble_eq_true rfl) rfl) ?_
      refine g_lv (lv' := [(3, .inl _), (0, .inr (.inr (.inl (some _)))), (1, .inr (.inr (.inl (some _)))), (2, .inl _)]) rfl ?_
      refine g_goto K (dOf ck_mX1_lay rfl rfl).1 (t := 14) (aJ_of (by decide +kernel)) ?_
      refine g_sub [1, 2, 3, 0] rfl ?_
      exact ih _ _
    · refine gl (i' := 36) (fun _ _ => aw_iinc K (dOf ck_mX1_lay rfl rfl) (Nat.le_of_ble_eq_true rfl) rfl) ?_
      refine g_lv (lv' := [(2, .inl _), (0, .inr (.inr (.inl (some _)))), (1, .inr (.inr (.inl (some _)))), (3, .inl _)]) rfl ?_
      refine g_goto K (dOf ck_mX1_lay rfl rfl).1 (t := 8) (aJ_of (by decide +kernel)) ?_
      refine g_sub [1, 2, 0] rfl ?_
      exact hk8 _ _
def Cutter_lay_8 (t : Nat) (x1 : Nat) : Nat → Int → aM → Option aM
  | 0, _, _ => none
  | n + 1, x2, mm => if x2 < (mm t 1) then (Cutter_lay_14 (Cutter_lay_8 t x1 n) t x1 x2 FU 0 mm) else (some mm)
set_option maxHeartbeats 4000000 in
theorem lk_Cutter_lay_8 {p : Program} {l : Launch} {e : Env} {s : State} {m : MethodId} {args : Array Value} {below : List Frame} {meth : Method} {c : Code} {D : va_G} {cA : FieldType → ClassId} {ad adV : Nat → Nat} {z0 : Nat} {al0 : List Nat} (K : aK p s m args meth c mX1_lay D cA ad adV z0) {t : Nat} {x1 : Nat} (ht : okC t) (hx1 : okS x1)  : ∀ (n : Nat) (x2 : Int) (mm : aM), aG p l e { frames := 1, cells := 0, slots := 0, locals := 28 } s m args below meth c D cA ad z0 mX1_lay al0 rM (Cutter_lay_8 t x1 n x2 mm) 8 [(0, .inr (.inr (.inl (some t)))), (1, .inr (.inr (.inl (some x1)))), (2, .inl x2)] [] mm := by
  intro n
  induction n with
  | zero => intro x2 mm; exact g_none
  | succ n ih =>
    intro x2 mm
    rw [Cutter_lay_8]
    refine gl (i' := 9) (fun _ _ => aw_iload_n K (dOf ck_mX1_lay rfl rfl) rfl) ?_
    refine gl (i' := 10) (fun _ _ => aw_aload_n K (dOf ck_mX1_lay rfl rfl) rfl) ?_
    refine gl (i' := 11) (fun _ _ => aw_getf K (dOf ck_mX1_lay rfl rfl) (shC_0 ht) rfl (Nat.le_of_ble_eq_true rfl) wd_343 (k := 1) rfl) ?_
    refine g_icmp_ge K (dOf ck_mX1_lay rfl rfl) (t := 37) (aJ_of (by decide +kernel)) (fun h3 => ?_) (fun h3 => ?_)
    · refine gl (i' := 13) (fun _ _ => aw_iconst K (n := 0) (i32 _ rfl) (dOf ck_mX1_lay rfl rfl)) ?_
      refine gl (i' := 14) (fun _ _ => aw_istore_n K (dOf ck_mX1_lay rfl rfl) (Nat.le_of_ble_eq_true rfl)) ?_
      refine g_lv (lv' := [(3, .inl _), (0, .inr (.inr (.inl (some _)))), (1, .inr (.inr (.inl (some _)))), (2, .inl _)]) rfl ?_
      refine g_sub [1, 2, 3, 0] rfl ?_
      exact lk_Cutter_lay_14 K _ ht hx1 _ ih FU _ _
    · exact g_vret K (by decide +kernel) rfl rfl
def Cutter_lay (t : Nat) (x1 : Nat) (mm : aM) : Option aM := (Cutter_forget t mm).bind fun r1 => (st1 (aup r1 t 1 (r1 x1 1)) fun mm2 => (Cutter_lay_8 t x1 FU 0 mm2))
set_option maxHeartbeats 4000000 in
theorem met_Cutter_lay {l : Launch} {D : va_G} {cA : FieldType → ClassId} {ad adV : Nat → Nat} {z0 : Nat} {t : Nat} {x1 : Nat} {mm : aM} (ht : okC t) (hx1 : okS x1) {r : aM} (h : Cutter_lay t x1 mm = some r) : aMet l D cA ad adV z0 mX1_lay 1 28 0 0 [.inr (.inr (.inl (some t))), .inr (.inr (.inl (some x1)))] SH mm (rM r).1 SH (rM r).2 := by
  refine aMet_ofG (by decide +kernel) rfl (Nat.le_of_ble_eq_true rfl) h (fun p e s m args below meth c al0 K => ?_)
  unfold Cutter_lay
  refine gl (i' := 1) (fun _ _ => aw_aload_n K (dOf ck_mX1_lay rfl rfl) rfl) ?_
  refine g_callVM K [] rfl (dOf ck_mX1_lay rfl rfl) al_OneBreath_Cutter_37 (shC_0 ht) rfl ⟨wd_616, wd_617⟩ rfl (Nat.le_of_ble_eq_true rfl) ⟨Nat.le_of_ble_eq_true rfl, Nat.le_of_ble_eq_true rfl⟩ (fun b hb => met_Cutter_forget ht hb) (fun r1 hr1 => ?_)
  refine gl (i' := 3) (fun _ _ => aw_aload_n K (dOf ck_mX1_lay rfl rfl) rfl) ?_
  refine gl (i' := 4) (fun _ _ => aw_aload_n K (dOf ck_mX1_lay rfl rfl) rfl) ?_
  refine gl (i' := 5) (fun _ _ => aw_getf K (dOf ck_mX1_lay rfl rfl) (shS_0 hx1) rfl (Nat.le_of_ble_eq_true rfl) wd_301 (k := 1) rfl) ?_
  refine g_st1 ?_
  refine gl (i' := 6) (fun _ _ => aw_putf K (dOf ck_mX1_lay rfl rfl) (shC_0 ht) rfl (Nat.le_of_ble_eq_true rfl) wd_343 (k := 1) rfl rfl (Or.inl rfl)) ?_
  refine gl (i' := 7) (fun _ _ => aw_iconst K (n := 0) (i32 _ rfl) (dOf ck_mX1_lay rfl rfl)) ?_
  refine gl (i' := 8) (fun _ _ => aw_istore_n K (dOf ck_mX1_lay rfl rfl) (Nat.le_of_ble_eq_true rfl)) ?_
  refine g_lv (lv' := [(2, .inl _), (0, .inr (.inr (.inl (some _)))), (1, .inr (.inr (.inl (some _))))]) rfl ?_
  refine g_sub [1, 2, 0] rfl ?_
  exact lk_Cutter_lay_8 K ht hx1 FU _ _
def Cutter_wayIndex (x0 : Int) (x1 : Int) (x2 : Int) (mm : aM) : Option Int := some (w32 ((w32 ((w32 ((w32 (x0 * 5)) + x1)) * 3)) + x2))
set_option maxHeartbeats 4000000 in
theorem met_Cutter_wayIndex {l : Launch} {D : va_G} {cA : FieldType → ClassId} {ad adV : Nat → Nat} {z0 : Nat} {x0 : Int} {x1 : Int} {x2 : Int} {mm : aM}  {r : Int} (h : Cutter_wayIndex x0 x1 x2 mm = some r) : aMet l D cA ad adV z0 mX1_wayIndex 0 0 0 0 [.inl x0, .inl x1, .inl x2] SH mm ((rI mm) r).1 SH ((rI mm) r).2 := by
  refine aMet_ofG (by decide +kernel) rfl (Nat.le_of_ble_eq_true rfl) h (fun p e s m args below meth c al0 K => ?_)
  unfold Cutter_wayIndex
  refine gl (i' := 1) (fun _ _ => aw_iload_n K (dOf ck_mX1_wayIndex rfl rfl) rfl) ?_
  refine gl (i' := 2) (fun _ _ => aw_iconst K (n := 5) (i32 _ rfl) (dOf ck_mX1_wayIndex rfl rfl)) ?_
  refine gl (i' := 3) (fun _ _ => aw_imul K (dOf ck_mX1_wayIndex rfl rfl)) ?_
  refine gl (i' := 4) (fun _ _ => aw_iload_n K (dOf ck_mX1_wayIndex rfl rfl) rfl) ?_
  refine gl (i' := 5) (fun _ _ => aw_iadd K (dOf ck_mX1_wayIndex rfl rfl)) ?_
  refine gl (i' := 6) (fun _ _ => aw_iconst K (n := 3) (i32 _ rfl) (dOf ck_mX1_wayIndex rfl rfl)) ?_
  refine gl (i' := 7) (fun _ _ => aw_imul K (dOf ck_mX1_wayIndex rfl rfl)) ?_
  refine gl (i' := 8) (fun _ _ => aw_iload_n K (dOf ck_mX1_wayIndex rfl rfl) rfl) ?_
  refine gl (i' := 9) (fun _ _ => aw_iadd K (dOf ck_mX1_wayIndex rfl rfl)) ?_
  exact g_iret K (by decide +kernel) rfl (Or.inl rfl) rfl
def Cutter_waysFrom_65 (mm : aM) (k17 : Int → Int → Option Int) (t : Nat) (x1 : Int) (x2 : Int) (x3 : Int) (x4 : Int) (x6 : Int) : Option Int := k17 x4 (w32 (x6 + 1))
set_option maxHeartbeats 4000000 in
theorem lk_Cutter_waysFrom_65 {p : Program} {l : Launch} {e : Env} {s : State} {m : MethodId} {args : Array Value} {below : List Frame} {meth : Method} {c : Code} {D : va_G} {cA : FieldType → ClassId} {ad adV : Nat → Nat} {z0 : Nat} {al0 : List Nat} {mm : aM} (K : aK p s m args meth c mX1_waysFrom D cA ad adV z0) {t : Nat} (x1 : Int) (x2 : Int) (x3 : Int) (x4 : Int) (x6 : Int) (ht : okC t) (k17 : Int → Int → Option Int) (hk17 : ∀ (x4 : Int) (x6 : Int), aG p l e { frames := 1, cells := 0, slots := 0, locals := 22 } s m args below meth c D cA ad z0 mX1_waysFrom al0 (rL mm) (k17 x4 x6) 17 [(0, .inr (.inr (.inl (some t)))), (1, .inl x1), (2, .inl x2), (3, .inl x3), (4, .inr (.inl x4)), (6, .inl x6)] [] mm)  : aG p l e { frames := 1, cells := 0, slots := 0, locals := 22 } s m args below meth c D cA ad z0 mX1_waysFrom al0 (rL mm) (Cutter_waysFrom_65 mm k17 t x1 x2 x3 x4 x6) 65 [(0, .inr (.inr (.inl (some t)))), (1, .inl x1), (2, .inl x2), (3, .inl x3), (4, .inr (.inl x4)), (6, .inl x6)] [] mm := by
  unfold Cutter_waysFrom_65
  refine gl (i' := 66) (fun _ _ => aw_iinc K (dOf ck_mX1_waysFrom rfl rfl) (Nat.le_of_ble_eq_true rfl) rfl) ?_
  refine g_lv (lv' := [(6, .inl _), (0, .inr (.inr (.inl (some _)))), (1, .inl _), (2, .inl _), (3, .inl _), (4, .inr (.inl _))]) rfl ?_
  refine g_goto K (dOf ck_mX1_waysFrom rfl rfl).1 (t := 17) (aJ_of (by decide +kernel)) ?_
  refine g_sub [1, 2, 3, 4, 5, 0] rfl ?_
  exact hk17 _ _
def Cutter_waysFrom_17 (mm : aM) (t : Nat) (x1 : Int) (x2 : Int) (x3 : Int) : Nat → Int → Int → Option Int
  | 0, _, _ => none
  | n + 1, x4, x6 => if x6 < (mm 25 2) then (if 0 ≤ (w32 ((w32 (x1 * 12)) + x6)) ∧ (w32 ((w32 (x1 * 12)) + x6)) < 720 then (if (mm (t + 1) (w32 ((w32 (x1 * 12)) + x6)).toNat) = (-1) then (Cutter_waysFrom_65 mm (Cutter_waysFrom_17 mm t x1 x2 x3 n) t x1 x2 x3 x4 x6) else (if x3 < (mm (t + 1) (w32 ((w32 (x1 * 12)) + x6)).toNat) then (Cutter_waysFrom_65 mm (Cutter_waysFrom_17 mm t x1 x2 x3 n) t x1 x2 x3 x4 x6) else ((Tongue_mayFollow 25 x2 x6 mm).bind fun r6 => (if r6 = 0 then (Cutter_waysFrom_65 mm (Cutter_waysFrom_17 mm t x1 x2 x3 n) t x1 x2 x3 x4 x6) else (if 0 ≤ x6 ∧ x6 < 12 then ((Cutter_wayIndex (w32 (x1 + (mm 41 x6.toNat))) (mm 43 x6.toNat) (w32 (x3 - (mm (t + 1) (w32 ((w32 (x1 * 12)) + x6)).toNat))) mm).bind fun r9 => (if 0 ≤ r9 ∧ r9 < 915 then (Cutter_waysFrom_65 mm (Cutter_waysFrom_17 mm t x1 x2 x3 n) t x1 x2 x3 (w64 (x4 + (mm (t + 3) r9.toNat))) x6) else none)) else none))))) else none) else (some (Int.tmod x4 1000000007))
set_option maxHeartbeats 4000000 in
theorem lk_Cutter_waysFrom_17 {p : Program} {l : Launch} {e : Env} {s : State} {m : MethodId} {args : Array Value} {below : List Frame} {meth : Method} {c : Code} {D : va_G} {cA : FieldType → ClassId} {ad adV : Nat → Nat} {z0 : Nat} {al0 : List Nat} {mm : aM} (K : aK p s m args meth c mX1_waysFrom D cA ad adV z0) {t : Nat} (x1 : Int) (x2 : Int) (x3 : Int) (ht : okC t)  : ∀ (n : Nat) (x4 : Int) (x6 : Int), aG p l e { frames := 1, cells := 0, slots := 0, locals := 22 } s m args below meth c D cA ad z0 mX1_waysFrom al0 (rL mm) (Cutter_waysFrom_17 mm t x1 x2 x3 n x4 x6) 17 [(0, .inr (.inr (.inl (some t)))), (1, .inl x1), (2, .inl x2), (3, .inl x3), (4, .inr (.inl x4)), (6, .inl x6)] [] mm := by
  intro n
  induction n with
  | zero => intro x4 x6; exact g_none
  | succ n ih =>
    intro x4 x6
    rw [Cutter_waysFrom_17]
    refine gl (i' := 18) (fun _ _ => aw_iload K (dOf ck_mX1_waysFrom rfl rfl) rfl) ?_
    refine gl (i' := 19) (fun _ _ => aw_aload_n K (dOf ck_mX1_waysFrom rfl rfl) rfl) ?_
    refine gl (i' := 20) (fun _ _ => aw_getf K (dOf ck_mX1_waysFrom rfl rfl) (shC_0 ht) rfl (Nat.le_of_ble_eq_true rfl) wd_342 (k := 0) rfl) ?_
    refine gl (i' := 21) (fun _ _ => aw_getf K (dOf ck_mX1_waysFrom rfl rfl) rfl rfl (Nat.le_of_ble_eq_true rfl) wd_199 (k := 2) rfl) ?_
    refine g_icmp_ge K (dOf ck_mX1_waysFrom rfl rfl) (t := 67) (aJ_of (by decide +kernel)) (fun h2 => ?_) (fun h2 => ?_)
    · refine gl (i' := 23) (fun _ _ => aw_aload_n K (dOf ck_mX1_waysFrom rfl rfl) rfl) ?_
      refine gl (i' := 24) (fun _ _ => aw_getf K (dOf ck_mX1_waysFrom rfl rfl) (shC_0 ht) rfl (Nat.le_of_ble_eq_true rfl) wd_344 (k := 2) rfl) ?_
      refine gl (i' := 25) (fun _ _ => aw_iload_n K (dOf ck_mX1_waysFrom rfl rfl) rfl) ?_
      refine gl (i' := 26) (fun _ _ => aw_bip K (dOf ck_mX1_waysFrom rfl rfl) (v := 12) rfl) ?_
      refine gl (i' := 27) (fun _ _ => aw_imul K (dOf ck_mX1_waysFrom rfl rfl)) ?_
      refine gl (i' := 28) (fun _ _ => aw_iload K (dOf ck_mX1_waysFrom rfl rfl) rfl) ?_
      refine gl (i' := 29) (fun _ _ => aw_iadd K (dOf ck_mX1_waysFrom rfl rfl)) ?_
      refine g_gd (fun hb3 => ?_)
      refine gl (i' := 30) (fun _ _ => aw_bald K (dOf ck_mX1_waysFrom rfl rfl) (shC_1 ht) hb3) ?_
      refine gl (i' := 31) (fun _ _ => aw_istore K (dOf ck_mX1_waysFrom rfl rfl) (Nat.le_of_ble_eq_true rfl)) ?_
      refine g_lv (lv' := [(7, .inl _), (0, .inr (.inr (.inl (some _)))), (1, .inl _), (2, .inl _), (3, .inl _), (4, .inr (.inl _)), (6, .inl _)]) rfl ?_
      refine gl (i' := 32) (fun _ _ => aw_iload K (dOf ck_mX1_waysFrom rfl rfl) rfl) ?_
      refine gl (i' := 33) (fun _ _ => aw_iconst K (n := -1) (i32 _ rfl) (dOf ck_mX1_waysFrom rfl rfl)) ?_
      refine g_icmp_eq K (dOf ck_mX1_waysFrom rfl rfl) (t := 65) (aJ_of (by decide +kernel)) (fun h4 => ?_) (fun h4 => ?_)
      · refine g_sub [1, 2, 3, 4, 5, 6] rfl ?_
        exact lk_Cutter_waysFrom_65 K _ _ _ _ _ ht _ ih
      · refine gl (i' := 35) (fun _ _ => aw_iload K (dOf ck_mX1_waysFrom rfl rfl) rfl) ?_
        refine gl (i' := 36) (fun _ _ => aw_iload_n K (dOf ck_mX1_waysFrom rfl rfl) rfl) ?_
        refine g_icmp_gt K (dOf ck_mX1_waysFrom rfl rfl) (t := 65) (aJ_of (by decide +kernel)) (fun h5 => ?_) (fun h5 => ?_)
        · refine g_sub [1, 2, 3, 4, 5, 6] rfl ?_
          exact lk_Cutter_waysFrom_65 K _ _ _ _ _ ht _ ih
        · refine gl (i' := 38) (fun _ _ => aw_aload_n K (dOf ck_mX1_waysFrom rfl rfl) rfl) ?_
          refine gl (i' := 39) (fun _ _ => aw_getf K (dOf ck_mX1_waysFrom rfl rfl) (shC_0 ht) rfl (Nat.le_of_ble_eq_true rfl) wd_342 (k := 0) rfl) ?_
          refine gl (i' := 40) (fun _ _ => aw_iload_n K (dOf ck_mX1_waysFrom rfl rfl) rfl) ?_
          refine gl (i' := 41) (fun _ _ => aw_iload K (dOf ck_mX1_waysFrom rfl rfl) rfl) ?_
          refine g_callVI K [.inl _, .inl _] rfl (dOf ck_mX1_waysFrom rfl rfl) al_OneBreath_Cutter_89 rfl rfl ⟨wd_701, wd_702⟩ rfl (Nat.le_of_ble_eq_true rfl) ⟨Nat.le_of_ble_eq_true rfl, Nat.le_of_ble_eq_true rfl⟩ (fun b hb => met_Tongue_mayFollow (by unfold okT; omega) hb) (fun r6 hr6 => ?_)
          refine g_if_eq K (dOf ck_mX1_waysFrom rfl rfl) (t := 65) (aJ_of (by decide +kernel)) (fun h7 => ?_) (fun h7 => ?_)
          · refine g_sub [1, 2, 3, 4, 5, 6] rfl ?_
            exact lk_Cutter_waysFrom_65 K _ _ _ _ _ ht _ ih
          · refine gl (i' := 44) (fun _ _ => aw_lload K (dOf ck_mX1_waysFrom rfl rfl) rfl) ?_
            refine gl (i' := 45) (fun _ _ => aw_aload_n K (dOf ck_mX1_waysFrom rfl rfl) rfl) ?_
            refine gl (i' := 46) (fun _ _ => aw_getf K (dOf ck_mX1_waysFrom rfl rfl) (shC_0 ht) rfl (Nat.le_of_ble_eq_true rfl) wd_346 (k := 4) rfl) ?_
            refine gl (i' := 47) (fun _ _ => aw_iload_n K (dOf ck_mX1_waysFrom rfl rfl) rfl) ?_
            refine gl (i' := 48) (fun _ _ => aw_aload_n K (dOf ck_mX1_waysFrom rfl rfl) rfl) ?_
            refine gl (i' := 49) (fun _ _ => aw_getf K (dOf ck_mX1_waysFrom rfl rfl) (shC_0 ht) rfl (Nat.le_of_ble_eq_true rfl) wd_342 (k := 0) rfl) ?_
            refine gl (i' := 50) (fun _ _ => aw_getf K (dOf ck_mX1_waysFrom rfl rfl) rfl rfl (Nat.le_of_ble_eq_true rfl) wd_240 (k := 9) rfl) ?_
            refine gl (i' := 51) (fun _ _ => aw_iload K (dOf ck_mX1_waysFrom rfl rfl) rfl) ?_
            refine g_gd (fun hb8 => ?_)
            refine gl (i' := 52) (fun _ _ => aw_iald K (dOf ck_mX1_waysFrom rfl rfl) rfl hb8) ?_
            refine gl (i' := 53) (fun _ _ => aw_iadd K (dOf ck_mX1_waysFrom rfl rfl)) ?_
            refine gl (i' := 54) (fun _ _ => aw_aload_n K (dOf ck_mX1_waysFrom rfl rfl) rfl) ?_
            refine gl (i' := 55) (fun _ _ => aw_getf K (dOf ck_mX1_waysFrom rfl rfl) (shC_0 ht) rfl (Nat.le_of_ble_eq_true rfl) wd_342 (k := 0) rfl) ?_
            refine gl (i' := 56) (fun _ _ => aw_getf K (dOf ck_mX1_waysFrom rfl rfl) rfl rfl (Nat.le_of_ble_eq_true rfl) wd_255 (k := 11) rfl) ?_
            refine gl (i' := 57) (fun _ _ => aw_iload K (dOf ck_mX1_waysFrom rfl rfl) rfl) ?_
            refine gl (i' := 58) (fun _ _ => aw_iald K (dOf ck_mX1_waysFrom rfl rfl) rfl hb8) ?_
            refine gl (i' := 59) (fun _ _ => aw_iload_n K (dOf ck_mX1_waysFrom rfl rfl) rfl) ?_
            refine gl (i' := 60) (fun _ _ => aw_iload K (dOf ck_mX1_waysFrom rfl rfl) rfl) ?_
            refine gl (i' := 61) (fun _ _ => aw_isub K (dOf ck_mX1_waysFrom rfl rfl)) ?_
            refine g_callSI K [.inl _, .inl _, .inl _] rfl (dOf ck_mX1_waysFrom rfl rfl) al_OneBreath_Cutter_77 wd_747 rfl (Nat.le_of_ble_eq_true rfl) ⟨Nat.le_of_ble_eq_true rfl, Nat.le_of_ble_eq_true rfl⟩ (fun b hb => met_Cutter_wayIndex  hb) (fun r9 hr9 => ?_)
            refine g_gd (fun hb10 => ?_)
            refine gl (i' := 63) (fun _ _ => aw_lald K (dOf ck_mX1_waysFrom rfl rfl) (shC_3 ht) hb10) ?_
            refine gl (i' := 64) (fun _ _ => aw_ladd K (dOf ck_mX1_waysFrom rfl rfl)) ?_
            refine gl (i' := 65) (fun _ _ => aw_lstore K (dOf ck_mX1_waysFrom rfl rfl) (Nat.le_of_ble_eq_true rfl)) ?_
            refine g_lv (lv' := [(4, .inr (.inl _)), (7, .inl _), (0, .inr (.inr (.inl (some _)))), (1, .inl _), (2, .inl _), (3, .inl _), (6, .inl _)]) rfl ?_
            refine g_sub [2, 3, 4, 5, 0, 6] rfl ?_
            exact lk_Cutter_waysFrom_65 K _ _ _ _ _ ht _ ih
    · refine gl (i' := 68) (fun _ _ => aw_lload K (dOf ck_mX1_waysFrom rfl rfl) rfl) ?_
      refine gl (i' := 69) (fun _ _ => aw_ldc2 K (dOf ck_mX1_waysFrom rfl rfl) (n := 1000000007) wd_754 (i64 _ rfl)) ?_
      refine gl (i' := 70) (fun _ _ => aw_lrem K (by decide) (dOf ck_mX1_waysFrom rfl rfl)) ?_
      exact g_lret K (by decide +kernel) rfl rfl
def Cutter_waysFrom (t : Nat) (x1 : Int) (x2 : Int) (x3 : Int) (mm : aM) : Option Int := if x1 = (mm t 1) then ((Tongue_mayEnd 25 x2 mm).bind fun r11 => (if r11 = 0 then (some 0) else (some 1))) else (Cutter_waysFrom_17 mm t x1 x2 x3 FU 0 0)
set_option maxHeartbeats 4000000 in
theorem met_Cutter_waysFrom {l : Launch} {D : va_G} {cA : FieldType → ClassId} {ad adV : Nat → Nat} {z0 : Nat} {t : Nat} {x1 : Int} {x2 : Int} {x3 : Int} {mm : aM} (ht : okC t) {r : Int} (h : Cutter_waysFrom t x1 x2 x3 mm = some r) : aMet l D cA ad adV z0 mX1_waysFrom 1 22 0 0 [.inr (.inr (.inl (some t))), .inl x1, .inl x2, .inl x3] SH mm ((rL mm) r).1 SH ((rL mm) r).2 := by
  refine aMet_ofG (by decide +kernel) rfl (Nat.le_of_ble_eq_true rfl) h (fun p e s m args below meth c al0 K => ?_)
  unfold Cutter_waysFrom
  refine gl (i' := 1) (fun _ _ => aw_iload_n K (dOf ck_mX1_waysFrom rfl rfl) rfl) ?_
  refine gl (i' := 2) (fun _ _ => aw_aload_n K (dOf ck_mX1_waysFrom rfl rfl) rfl) ?_
  refine gl (i' := 3) (fun _ _ => aw_getf K (dOf ck_mX1_waysFrom rfl rfl) (shC_0 ht) rfl (Nat.le_of_ble_eq_true rfl) wd_343 (k := 1) rfl) ?_
  refine g_icmp_ne K (dOf ck_mX1_waysFrom rfl rfl) (t := 13) (aJ_of (by decide +kernel)) (fun h1 => ?_) (fun h1 => ?_)
  · refine gl (i' := 5) (fun _ _ => aw_aload_n K (dOf ck_mX1_waysFrom rfl rfl) rfl) ?_
    refine gl (i' := 6) (fun _ _ => aw_getf K (dOf ck_mX1_waysFrom rfl rfl) (shC_0 ht) rfl (Nat.le_of_ble_eq_true rfl) wd_342 (k := 0) rfl) ?_
    refine gl (i' := 7) (fun _ _ => aw_iload_n K (dOf ck_mX1_waysFrom rfl rfl) rfl) ?_
    refine g_callVI K [.inl _] rfl (dOf ck_mX1_waysFrom rfl rfl) al_OneBreath_Cutter_85 rfl rfl ⟨wd_705, wd_706⟩ rfl (Nat.le_of_ble_eq_true rfl) ⟨Nat.le_of_ble_eq_true rfl, Nat.le_of_ble_eq_true rfl⟩ (fun b hb => met_Tongue_mayEnd (by unfold okT; omega) hb) (fun r11 hr11 => ?_)
    refine g_if_eq K (dOf ck_mX1_waysFrom rfl rfl) (t := 11) (aJ_of (by decide +kernel)) (fun h12 => ?_) (fun h12 => ?_)
    · refine gl (i' := 12) (fun _ _ => aw_lcn K (dOf ck_mX1_waysFrom rfl rfl) (v := 0) rfl) ?_
      exact g_lret K (dOf ck_mX1_waysFrom rfl rfl).1 rfl rfl
    · refine gl (i' := 10) (fun _ _ => aw_lcn K (dOf ck_mX1_waysFrom rfl rfl) (v := 1) rfl) ?_
      refine g_goto K (dOf ck_mX1_waysFrom rfl rfl).1 (t := 12) (aJ_of (by decide +kernel)) ?_
      exact g_lret K (dOf ck_mX1_waysFrom rfl rfl).1 rfl rfl
  · refine gl (i' := 14) (fun _ _ => aw_lcn K (dOf ck_mX1_waysFrom rfl rfl) (v := 0) rfl) ?_
    refine gl (i' := 15) (fun _ _ => aw_lstore K (dOf ck_mX1_waysFrom rfl rfl) (Nat.le_of_ble_eq_true rfl)) ?_
    refine g_lv (lv' := [(4, .inr (.inl _)), (0, .inr (.inr (.inl (some _)))), (1, .inl _), (2, .inl _), (3, .inl _)]) rfl ?_
    refine gl (i' := 16) (fun _ _ => aw_iconst K (n := 0) (i32 _ rfl) (dOf ck_mX1_waysFrom rfl rfl)) ?_
    refine gl (i' := 17) (fun _ _ => aw_istore K (dOf ck_mX1_waysFrom rfl rfl) (Nat.le_of_ble_eq_true rfl)) ?_
    refine g_lv (lv' := [(6, .inl _), (4, .inr (.inl _)), (0, .inr (.inr (.inl (some _)))), (1, .inl _), (2, .inl _), (3, .inl _)]) rfl ?_
    refine g_sub [2, 3, 4, 5, 1, 0] rfl ?_
    exact lk_Cutter_waysFrom_17 K _ _ _ ht FU _ _
def Cutter_countWays_12 (k3 : Int → aM → Option (Int × aM)) (k7 : Int → aM → Option (Int × aM)) (t : Nat) (x1 : Int) (x2 : Int) (x3 : Int) : Nat → Int → aM → Option (Int × aM)
  | 0, _, _ => none
  | n + 1, x4, mm => if x1 < x4 then (k7 (w32 (x3 + 1)) mm) else ((Cutter_wayIndex x2 x3 x4 mm).bind fun r6 => ((Cutter_waysFrom t x2 x3 x4 mm).bind fun r7 => (if 0 ≤ r6 ∧ r6 < 915 then (st1 (aup mm (t + 3) r6.toNat r7) fun mm9 => (Cutter_countWays_12 k3 k7 t x1 x2 x3 n (w32 (x4 + 1)) mm9)) else none)))
set_option maxHeartbeats 4000000 in
theorem lk_Cutter_countWays_12 {p : Program} {l : Launch} {e : Env} {s : State} {m : MethodId} {args : Array Value} {below : List Frame} {meth : Method} {c : Code} {D : va_G} {cA : FieldType → ClassId} {ad adV : Nat → Nat} {z0 : Nat} {al0 : List Nat} (K : aK p s m args meth c mX1_countWays D cA ad adV z0) {t : Nat} (x1 : Int) (x2 : Int) (x3 : Int) (ht : okC t) (k3 : Int → aM → Option (Int × aM)) (hk3 : ∀ (x2 : Int) (mm : aM), aG p l e { frames := 2, cells := 0, slots := 0, locals := 49 } s m args below meth c D cA ad z0 mX1_countWays al0 rIM (k3 x2 mm) 3 [(0, .inr (.inr (.inl (some t)))), (1, .inl x1), (2, .inl x2)] [] mm) (k7 : Int → aM → Option (Int × aM)) (hk7 : ∀ (x3 : Int) (mm : aM), aG p l e { frames := 2, cells := 0, slots := 0, locals := 49 } s m args below meth c D cA ad z0 mX1_countWays al0 rIM (k7 x3 mm) 7 [(0, .inr (.inr (.inl (some t)))), (1, .inl x1), (2, .inl x2), (3, .inl x3)] [] mm)  : ∀ (n : Nat) (x4 : Int) (mm : aM), aG p l e { frames := 2, cells := 0, slots := 0, locals := 49 } s m args below meth c D cA ad z0 mX1_countWays al0 rIM (Cutter_countWays_12 k3 k7 t x1 x2 x3 n x4 mm) 12 [(0, .inr (.inr (.inl (some t)))), (1, .inl x1), (2, .inl x2), (3, .inl x3), (4, .inl x4)] [] mm := by
  intro n
  induction n with
  | zero => intro x4 mm; exact g_none
  | succ n ih =>
    intro x4 mm
    rw [Cutter_countWays_12]
    refine gl (i' := 13) (fun _ _ => aw_iload K (dOf ck_mX1_countWays rfl rfl) rfl) ?_
    refine gl (i' := 14) (fun _ _ => aw_iload_n K (dOf ck_mX1_countWays rfl rfl) rfl) ?_
    refine g_icmp_gt K (dOf ck_mX1_countWays rfl rfl) (t := 29) (aJ_of (by decide +kernel)) (fun h5 => ?_) (fun h5 => ?_)
    · refine gl (i' := 30) (fun _ _ => aw_iinc K (dOf ck_mX1_countWays rfl rfl) (Nat.le_of_ble_eq_true rfl) rfl) ?_
      refine g_lv (lv' := [(3, .inl _), (0, .inr (.inr (.inl (some _)))), (1, .inl _), (2, .inl _), (4, .inl _)]) rfl ?_
      refine g_goto K (dOf ck_mX1_countWays rfl rfl).1 (t := 7) (aJ_of (by decide +kernel)) ?_
      refine g_sub [1, 2, 3, 0] rfl ?_
      exact hk7 _ _
    · refine gl (i' := 16) (fun _ _ => aw_aload_n K (dOf ck_mX1_countWays rfl rfl) rfl) ?_
      refine gl (i' := 17) (fun _ _ => aw_getf K (dOf ck_mX1_countWays rfl rfl) (shC_0 ht) rfl (Nat.le_of_ble_eq_true rfl) wd_346 (k := 4) rfl) ?_
      refine gl (i' := 18) (fun _ _ => aw_iload_n K (dOf ck_mX1_countWays rfl rfl) rfl) ?_
      refine gl (i' := 19) (fun _ _ => aw_iload_n K (dOf ck_mX1_countWays rfl rfl) rfl) ?_
      refine gl (i' := 20) (fun _ _ => aw_iload K (dOf ck_mX1_countWays rfl rfl) rfl) ?_
      refine g_callSI K [.inl _, .inl _, .inl _] rfl (dOf ck_mX1_countWays rfl rfl) al_OneBreath_Cutter_77 wd_747 rfl (Nat.le_of_ble_eq_true rfl) ⟨Nat.le_of_ble_eq_true rfl, Nat.le_of_ble_eq_true rfl⟩ (fun b hb => met_Cutter_wayIndex  hb) (fun r6 hr6 => ?_)
      refine gl (i' := 22) (fun _ _ => aw_aload_n K (dOf ck_mX1_countWays rfl rfl) rfl) ?_
      refine gl (i' := 23) (fun _ _ => aw_iload_n K (dOf ck_mX1_countWays rfl rfl) rfl) ?_
      refine gl (i' := 24) (fun _ _ => aw_iload_n K (dOf ck_mX1_countWays rfl rfl) rfl) ?_
      refine gl (i' := 25) (fun _ _ => aw_iload K (dOf ck_mX1_countWays rfl rfl) rfl) ?_
      refine g_callVL K [.inl _, .inl _, .inl _] rfl (dOf ck_mX1_countWays rfl rfl) al_OneBreath_Cutter_81 (shC_0 ht) rfl ⟨wd_750, wd_20⟩ rfl (Nat.le_of_ble_eq_true rfl) ⟨Nat.le_of_ble_eq_true rfl, Nat.le_of_ble_eq_true rfl⟩ (fun b hb => met_Cutter_waysFrom ht hb) (fun r7 hr7 => ?_)
      refine g_gd (fun hb8 => ?_)
      refine g_st1 ?_
      refine gl (i' := 27) (fun _ _ => aw_last K (dOf ck_mX1_countWays rfl rfl) (shC_3 ht) hb8) ?_
      refine gl (i' := 28) (fun _ _ => aw_iinc K (dOf ck_mX1_countWays rfl rfl) (Nat.le_of_ble_eq_true rfl) rfl) ?_
      refine g_lv (lv' := [(4, .inl _), (0, .inr (.inr (.inl (some _)))), (1, .inl _), (2, .inl _), (3, .inl _)]) rfl ?_
      refine g_goto K (dOf ck_mX1_countWays rfl rfl).1 (t := 12) (aJ_of (by decide +kernel)) ?_
      refine g_sub [1, 2, 3, 4, 0] rfl ?_
      exact ih _ _
def Cutter_countWays_7 (k3 : Int → aM → Option (Int × aM)) (t : Nat) (x1 : Int) (x2 : Int) : Nat → Int → aM → Option (Int × aM)
  | 0, _, _ => none
  | n + 1, x3, mm => if x3 < 5 then (Cutter_countWays_12 k3 (Cutter_countWays_7 k3 t x1 x2 n) t x1 x2 x3 FU 0 mm) else (k3 (w32 (x2 + (-1))) mm)
set_option maxHeartbeats 4000000 in
theorem lk_Cutter_countWays_7 {p : Program} {l : Launch} {e : Env} {s : State} {m : MethodId} {args : Array Value} {below : List Frame} {meth : Method} {c : Code} {D : va_G} {cA : FieldType → ClassId} {ad adV : Nat → Nat} {z0 : Nat} {al0 : List Nat} (K : aK p s m args meth c mX1_countWays D cA ad adV z0) {t : Nat} (x1 : Int) (x2 : Int) (ht : okC t) (k3 : Int → aM → Option (Int × aM)) (hk3 : ∀ (x2 : Int) (mm : aM), aG p l e { frames := 2, cells := 0, slots := 0, locals := 49 } s m args below meth c D cA ad z0 mX1_countWays al0 rIM (k3 x2 mm) 3 [(0, .inr (.inr (.inl (some t)))), (1, .inl x1), (2, .inl x2)] [] mm)  : ∀ (n : Nat) (x3 : Int) (mm : aM), aG p l e { frames := 2, cells := 0, slots := 0, locals := 49 } s m args below meth c D cA ad z0 mX1_countWays al0 rIM (Cutter_countWays_7 k3 t x1 x2 n x3 mm) 7 [(0, .inr (.inr (.inl (some t)))), (1, .inl x1), (2, .inl x2), (3, .inl x3)] [] mm := by
  intro n
  induction n with
  | zero => intro x3 mm; exact g_none
  | succ n ih =>
    intro x3 mm
    rw [Cutter_countWays_7]
    refine gl (i' := 8) (fun _ _ => aw_iload_n K (dOf ck_mX1_countWays rfl rfl) rfl) ?_
    refine gl (i' := 9) (fun _ _ => aw_iconst K (n := 5) (i32 _ rfl) (dOf ck_mX1_countWays rfl rfl)) ?_
    refine g_icmp_ge K (dOf ck_mX1_countWays rfl rfl) (t := 31) (aJ_of (by decide +kernel)) (fun h4 => ?_) (fun h4 => ?_)
    · refine gl (i' := 11) (fun _ _ => aw_iconst K (n := 0) (i32 _ rfl) (dOf ck_mX1_countWays rfl rfl)) ?_
      refine gl (i' := 12) (fun _ _ => aw_istore K (dOf ck_mX1_countWays rfl rfl) (Nat.le_of_ble_eq_true rfl)) ?_
      refine g_lv (lv' := [(4, .inl _), (0, .inr (.inr (.inl (some _)))), (1, .inl _), (2, .inl _), (3, .inl _)]) rfl ?_
      refine g_sub [1, 2, 3, 4, 0] rfl ?_
      exact lk_Cutter_countWays_12 K _ _ _ ht _ hk3 _ ih FU _ _
    · refine gl (i' := 32) (fun _ _ => aw_iinc K (dOf ck_mX1_countWays rfl rfl) (Nat.le_of_ble_eq_true rfl) rfl) ?_
      refine g_lv (lv' := [(2, .inl _), (0, .inr (.inr (.inl (some _)))), (1, .inl _), (3, .inl _)]) rfl ?_
      refine g_goto K (dOf ck_mX1_countWays rfl rfl).1 (t := 3) (aJ_of (by decide +kernel)) ?_
      refine g_sub [1, 2, 0] rfl ?_
      exact hk3 _ _
def Cutter_countWays_3 (t : Nat) (x1 : Int) : Nat → Int → aM → Option (Int × aM)
  | 0, _, _ => none
  | n + 1, x2, mm => if x2 < 0 then ((Cutter_wayIndex 0 4 x1 mm).bind fun r2 => (if 0 ≤ r2 ∧ r2 < 915 then (some (w32 (mm (t + 3) r2.toNat), mm)) else none)) else (Cutter_countWays_7 (Cutter_countWays_3 t x1 n) t x1 x2 FU 0 mm)
set_option maxHeartbeats 4000000 in
theorem lk_Cutter_countWays_3 {p : Program} {l : Launch} {e : Env} {s : State} {m : MethodId} {args : Array Value} {below : List Frame} {meth : Method} {c : Code} {D : va_G} {cA : FieldType → ClassId} {ad adV : Nat → Nat} {z0 : Nat} {al0 : List Nat} (K : aK p s m args meth c mX1_countWays D cA ad adV z0) {t : Nat} (x1 : Int) (ht : okC t)  : ∀ (n : Nat) (x2 : Int) (mm : aM), aG p l e { frames := 2, cells := 0, slots := 0, locals := 49 } s m args below meth c D cA ad z0 mX1_countWays al0 rIM (Cutter_countWays_3 t x1 n x2 mm) 3 [(0, .inr (.inr (.inl (some t)))), (1, .inl x1), (2, .inl x2)] [] mm := by
  intro n
  induction n with
  | zero => intro x2 mm; exact g_none
  | succ n ih =>
    intro x2 mm
    rw [Cutter_countWays_3]
    refine gl (i' := 4) (fun _ _ => aw_iload_n K (dOf ck_mX1_countWays rfl rfl) rfl) ?_
    refine g_if_lt K (dOf ck_mX1_countWays rfl rfl) (t := 33) (aJ_of (by decide +kernel)) (fun h1 => ?_) (fun h1 => ?_)
    · refine gl (i' := 34) (fun _ _ => aw_aload_n K (dOf ck_mX1_countWays rfl rfl) rfl) ?_
      refine gl (i' := 35) (fun _ _ => aw_getf K (dOf ck_mX1_countWays rfl rfl) (shC_0 ht) rfl (Nat.le_of_ble_eq_true rfl) wd_346 (k := 4) rfl) ?_
      refine gl (i' := 36) (fun _ _ => aw_iconst K (n := 0) (i32 _ rfl) (dOf ck_mX1_countWays rfl rfl)) ?_
      refine gl (i' := 37) (fun _ _ => aw_iconst K (n := 4) (i32 _ rfl) (dOf ck_mX1_countWays rfl rfl)) ?_
      refine gl (i' := 38) (fun _ _ => aw_iload_n K (dOf ck_mX1_countWays rfl rfl) rfl) ?_
      refine g_callSI K [.inl _, .inl _, .inl _] rfl (dOf ck_mX1_countWays rfl rfl) al_OneBreath_Cutter_77 wd_747 rfl (Nat.le_of_ble_eq_true rfl) ⟨Nat.le_of_ble_eq_true rfl, Nat.le_of_ble_eq_true rfl⟩ (fun b hb => met_Cutter_wayIndex  hb) (fun r2 hr2 => ?_)
      refine g_gd (fun hb3 => ?_)
      refine gl (i' := 40) (fun _ _ => aw_lald K (dOf ck_mX1_countWays rfl rfl) (shC_3 ht) hb3) ?_
      refine gl (i' := 41) (fun _ _ => aw_l2i K (dOf ck_mX1_countWays rfl rfl)) ?_
      exact g_iret K (by decide +kernel) rfl (Or.inl rfl) rfl
    · refine gl (i' := 6) (fun _ _ => aw_iconst K (n := 0) (i32 _ rfl) (dOf ck_mX1_countWays rfl rfl)) ?_
      refine gl (i' := 7) (fun _ _ => aw_istore_n K (dOf ck_mX1_countWays rfl rfl) (Nat.le_of_ble_eq_true rfl)) ?_
      refine g_lv (lv' := [(3, .inl _), (0, .inr (.inr (.inl (some _)))), (1, .inl _), (2, .inl _)]) rfl ?_
      refine g_sub [1, 2, 3, 0] rfl ?_
      exact lk_Cutter_countWays_7 K _ _ ht _ ih FU _ _
def Cutter_countWays (t : Nat) (x1 : Int) (mm : aM) : Option (Int × aM) := Cutter_countWays_3 t x1 FU (mm t 1) mm
set_option maxHeartbeats 4000000 in
theorem met_Cutter_countWays {l : Launch} {D : va_G} {cA : FieldType → ClassId} {ad adV : Nat → Nat} {z0 : Nat} {t : Nat} {x1 : Int} {mm : aM} (ht : okC t) {r : Int × aM} (h : Cutter_countWays t x1 mm = some r) : aMet l D cA ad adV z0 mX1_countWays 2 49 0 0 [.inr (.inr (.inl (some t))), .inl x1] SH mm (rIM r).1 SH (rIM r).2 := by
  refine aMet_ofG (by decide +kernel) rfl (Nat.le_of_ble_eq_true rfl) h (fun p e s m args below meth c al0 K => ?_)
  unfold Cutter_countWays
  refine gl (i' := 1) (fun _ _ => aw_aload_n K (dOf ck_mX1_countWays rfl rfl) rfl) ?_
  refine gl (i' := 2) (fun _ _ => aw_getf K (dOf ck_mX1_countWays rfl rfl) (shC_0 ht) rfl (Nat.le_of_ble_eq_true rfl) wd_343 (k := 1) rfl) ?_
  refine gl (i' := 3) (fun _ _ => aw_istore_n K (dOf ck_mX1_countWays rfl rfl) (Nat.le_of_ble_eq_true rfl)) ?_
  refine g_lv (lv' := [(2, .inl _), (0, .inr (.inr (.inl (some _)))), (1, .inl _)]) rfl ?_
  refine g_sub [1, 2, 0] rfl ?_
  exact lk_Cutter_countWays_3 K _ ht FU _ _
def B_cuts (x1 : Int) (mm : aM) : Option (Int × aM) := if x1 < 0 then (some ((-3), mm)) else (if 2 < x1 then (some ((-3), mm)) else ((Cutter_lay 67 47 mm).bind fun r3 => ((Cutter_countWays 67 x1 r3).bind fun r4 => (some (r4.1, r4.2)))))
set_option maxHeartbeats 4000000 in
theorem met_B_cuts {l : Launch} {D : va_G} {cA : FieldType → ClassId} {ad adV : Nat → Nat} {z0 : Nat} {x1 : Int} {mm : aM}  {r : Int × aM} (h : B_cuts x1 mm = some r) : aMet l D cA ad adV z0 mX11_cuts 3 73 0 0 [.inr (.inr (.inl (some 0))), .inl x1] SH mm (rIM r).1 SH (rIM r).2 := by
  refine aMet_ofG (by decide +kernel) rfl (Nat.le_of_ble_eq_true rfl) h (fun p e s m args below meth c al0 K => ?_)
  unfold B_cuts
  refine gl (i' := 1) (fun _ _ => aw_iload_n K (dOf ck_mX11_cuts rfl rfl) rfl) ?_
  refine g_if_lt K (dOf ck_mX11_cuts rfl rfl) (t := 5) (aJ_of (by decide +kernel)) (fun h1 => ?_) (fun h1 => ?_)
  · refine gl (i' := 6) (fun _ _ => aw_bip K (dOf ck_mX11_cuts rfl rfl) (v := -3) rfl) ?_
    exact g_iret K (dOf ck_mX11_cuts rfl rfl).1 rfl (Or.inl rfl) rfl
  · refine gl (i' := 3) (fun _ _ => aw_iload_n K (dOf ck_mX11_cuts rfl rfl) rfl) ?_
    refine gl (i' := 4) (fun _ _ => aw_iconst K (n := 2) (i32 _ rfl) (dOf ck_mX11_cuts rfl rfl)) ?_
    refine g_icmp_le K (dOf ck_mX11_cuts rfl rfl) (t := 7) (aJ_of (by decide +kernel)) (fun h2 => ?_) (fun h2 => ?_)
    · refine gl (i' := 6) (fun _ _ => aw_bip K (dOf ck_mX11_cuts rfl rfl) (v := -3) rfl) ?_
      exact g_iret K (dOf ck_mX11_cuts rfl rfl).1 rfl (Or.inl rfl) rfl
    · refine gl (i' := 8) (fun _ _ => aw_aload_n K (dOf ck_mX11_cuts rfl rfl) rfl) ?_
      refine gl (i' := 9) (fun _ _ => aw_getf K (dOf ck_mX11_cuts rfl rfl) rfl rfl (Nat.le_of_ble_eq_true rfl) wd_467 (k := 7) rfl) ?_
      refine gl (i' := 10) (fun _ _ => aw_aload_n K (dOf ck_mX11_cuts rfl rfl) rfl) ?_
      refine gl (i' := 11) (fun _ _ => aw_getf K (dOf ck_mX11_cuts rfl rfl) rfl rfl (Nat.le_of_ble_eq_true rfl) wd_462 (k := 2) rfl) ?_
      refine g_callVM K [.inr (.inr (.inl (some _)))] rfl (dOf ck_mX11_cuts rfl rfl) al_OneBreath_236 rfl rfl ⟨wd_735, wd_736⟩ rfl (Nat.le_of_ble_eq_true rfl) ⟨Nat.le_of_ble_eq_true rfl, Nat.le_of_ble_eq_true rfl⟩ (fun b hb => met_Cutter_lay (by unfold okC; omega) (by unfold okS; omega) hb) (fun r3 hr3 => ?_)
      refine gl (i' := 13) (fun _ _ => aw_aload_n K (dOf ck_mX11_cuts rfl rfl) rfl) ?_
      refine gl (i' := 14) (fun _ _ => aw_getf K (dOf ck_mX11_cuts rfl rfl) rfl rfl (Nat.le_of_ble_eq_true rfl) wd_467 (k := 7) rfl) ?_
      refine gl (i' := 15) (fun _ _ => aw_iload_n K (dOf ck_mX11_cuts rfl rfl) rfl) ?_
      refine g_callVIM K [.inl _] rfl (dOf ck_mX11_cuts rfl rfl) al_OneBreath_239 rfl rfl ⟨wd_743, wd_744⟩ rfl (Nat.le_of_ble_eq_true rfl) ⟨Nat.le_of_ble_eq_true rfl, Nat.le_of_ble_eq_true rfl⟩ (fun b hb => met_Cutter_countWays (by unfold okC; omega) hb) (fun r4 hr4 => ?_)
      exact g_iret K (by decide +kernel) rfl (Or.inl rfl) rfl
def B_isCut (x0 : Int) (mm : aM) : Option Int := if x0 < 0 then (some 0) else (if 3 < x0 then (some 0) else (some 1))
set_option maxHeartbeats 4000000 in
theorem met_B_isCut {l : Launch} {D : va_G} {cA : FieldType → ClassId} {ad adV : Nat → Nat} {z0 : Nat} {x0 : Int} {mm : aM}  {r : Int} (h : B_isCut x0 mm = some r) : aMet l D cA ad adV z0 mX11_isCut 0 0 0 0 [.inl x0] SH mm ((rI mm) r).1 SH ((rI mm) r).2 := by
  refine aMet_ofG (by decide +kernel) rfl (Nat.le_of_ble_eq_true rfl) h (fun p e s m args below meth c al0 K => ?_)
  unfold B_isCut
  refine gl (i' := 1) (fun _ _ => aw_iload_n K (dOf ck_mX11_isCut rfl rfl) rfl) ?_
  refine g_if_lt K (dOf ck_mX11_isCut rfl rfl) (t := 7) (aJ_of (by decide +kernel)) (fun h1 => ?_) (fun h1 => ?_)
  · refine gl (i' := 8) (fun _ _ => aw_iconst K (n := 0) (i32 _ rfl) (dOf ck_mX11_isCut rfl rfl)) ?_
    exact g_iret K (by decide +kernel) rfl (Or.inr (Or.inl ⟨rfl, Or.inl rfl⟩)) rfl
  · refine gl (i' := 3) (fun _ _ => aw_iload_n K (dOf ck_mX11_isCut rfl rfl) rfl) ?_
    refine gl (i' := 4) (fun _ _ => aw_iconst K (n := 3) (i32 _ rfl) (dOf ck_mX11_isCut rfl rfl)) ?_
    refine g_icmp_gt K (dOf ck_mX11_isCut rfl rfl) (t := 7) (aJ_of (by decide +kernel)) (fun h2 => ?_) (fun h2 => ?_)
    · refine gl (i' := 8) (fun _ _ => aw_iconst K (n := 0) (i32 _ rfl) (dOf ck_mX11_isCut rfl rfl)) ?_
      exact g_iret K (by decide +kernel) rfl (Or.inr (Or.inl ⟨rfl, Or.inl rfl⟩)) rfl
    · refine gl (i' := 6) (fun _ _ => aw_iconst K (n := 1) (i32 _ rfl) (dOf ck_mX11_isCut rfl rfl)) ?_
      refine g_goto K (dOf ck_mX11_isCut rfl rfl).1 (t := 8) (aJ_of (by decide +kernel)) ?_
      exact g_iret K (by decide +kernel) rfl (Or.inr (Or.inl ⟨rfl, Or.inr rfl⟩)) rfl
def Cutter_priceThrough_71 (mm : aM) (t : Nat) (x3 : Int) (x4 : Int) (x6 : Int) (s0 : Int) : Option Int := if s0 = 0 then (some x6) else (if 0 ≤ x3 ∧ x3 < 12 then (some (w32 ((w32 (x6 + (w32 (x4 * 10000)))) - (mm 42 x3.toNat)))) else none)
set_option maxHeartbeats 4000000 in
theorem lk_Cutter_priceThrough_71 {p : Program} {l : Launch} {e : Env} {s : State} {m : MethodId} {args : Array Value} {below : List Frame} {meth : Method} {c : Code} {D : va_G} {cA : FieldType → ClassId} {ad adV : Nat → Nat} {z0 : Nat} {al0 : List Nat} {mm : aM} (K : aK p s m args meth c mX1_priceThrough D cA ad adV z0) {t : Nat} (x3 : Int) (x4 : Int) (x6 : Int) (ht : okC t)  (s0 : Int) : aG p l e { frames := 1, cells := 0, slots := 0, locals := 22 } s m args below meth c D cA ad z0 mX1_priceThrough al0 (rI mm) (Cutter_priceThrough_71 mm t x3 x4 x6 s0) 71 [(0, .inr (.inr (.inl (some t)))), (3, .inl x3), (4, .inl x4), (6, .inl x6)] [.inl s0] mm := by
  unfold Cutter_priceThrough_71
  refine gl (i' := 72) (fun _ _ => aw_istore K (dOf ck_mX1_priceThrough rfl rfl) (Nat.le_of_ble_eq_true rfl)) ?_
  refine g_lv (lv' := [(7, .inl _), (0, .inr (.inr (.inl (some _)))), (3, .inl _), (4, .inl _), (6, .inl _)]) rfl ?_
  refine gl (i' := 73) (fun _ _ => aw_iload K (dOf ck_mX1_priceThrough rfl rfl) rfl) ?_
  refine g_if_eq K (dOf ck_mX1_priceThrough rfl rfl) (t := 86) (aJ_of (by decide +kernel)) (fun h11 => ?_) (fun h11 => ?_)
  · refine gl (i' := 87) (fun _ _ => aw_iload K (dOf ck_mX1_priceThrough rfl rfl) rfl) ?_
    exact g_iret K (by decide +kernel) rfl (Or.inl rfl) rfl
  · refine gl (i' := 75) (fun _ _ => aw_iload K (dOf ck_mX1_priceThrough rfl rfl) rfl) ?_
    refine gl (i' := 76) (fun _ _ => aw_iload K (dOf ck_mX1_priceThrough rfl rfl) rfl) ?_
    refine gl (i' := 77) (fun _ _ => aw_sip K (dOf ck_mX1_priceThrough rfl rfl) (v := 10000) rfl) ?_
    refine gl (i' := 78) (fun _ _ => aw_imul K (dOf ck_mX1_priceThrough rfl rfl)) ?_
    refine gl (i' := 79) (fun _ _ => aw_iadd K (dOf ck_mX1_priceThrough rfl rfl)) ?_
    refine gl (i' := 80) (fun _ _ => aw_aload_n K (dOf ck_mX1_priceThrough rfl rfl) rfl) ?_
    refine gl (i' := 81) (fun _ _ => aw_getf K (dOf ck_mX1_priceThrough rfl rfl) (shC_0 ht) rfl (Nat.le_of_ble_eq_true rfl) wd_342 (k := 0) rfl) ?_
    refine gl (i' := 82) (fun _ _ => aw_getf K (dOf ck_mX1_priceThrough rfl rfl) rfl rfl (Nat.le_of_ble_eq_true rfl) wd_249 (k := 10) rfl) ?_
    refine gl (i' := 83) (fun _ _ => aw_iload_n K (dOf ck_mX1_priceThrough rfl rfl) rfl) ?_
    refine g_gd (fun hb12 => ?_)
    refine gl (i' := 84) (fun _ _ => aw_iald K (dOf ck_mX1_priceThrough rfl rfl) rfl hb12) ?_
    refine gl (i' := 85) (fun _ _ => aw_isub K (dOf ck_mX1_priceThrough rfl rfl)) ?_
    refine g_goto K (dOf ck_mX1_priceThrough rfl rfl).1 (t := 87) (aJ_of (by decide +kernel)) ?_
    exact g_iret K (by decide +kernel) rfl (Or.inl rfl) rfl
def Cutter_priceThrough_68 (mm : aM) (t : Nat) (x3 : Int) (x4 : Int) (x6 : Int) : Option Int := Cutter_priceThrough_71 mm t x3 x4 x6 1
set_option maxHeartbeats 4000000 in
theorem lk_Cutter_priceThrough_68 {p : Program} {l : Launch} {e : Env} {s : State} {m : MethodId} {args : Array Value} {below : List Frame} {meth : Method} {c : Code} {D : va_G} {cA : FieldType → ClassId} {ad adV : Nat → Nat} {z0 : Nat} {al0 : List Nat} {mm : aM} (K : aK p s m args meth c mX1_priceThrough D cA ad adV z0) {t : Nat} (x3 : Int) (x4 : Int) (x6 : Int) (ht : okC t)  : aG p l e { frames := 1, cells := 0, slots := 0, locals := 22 } s m args below meth c D cA ad z0 mX1_priceThrough al0 (rI mm) (Cutter_priceThrough_68 mm t x3 x4 x6) 68 [(0, .inr (.inr (.inl (some t)))), (3, .inl x3), (4, .inl x4), (6, .inl x6)] [] mm := by
  unfold Cutter_priceThrough_68
  refine gl (i' := 69) (fun _ _ => aw_iconst K (n := 1) (i32 _ rfl) (dOf ck_mX1_priceThrough rfl rfl)) ?_
  refine g_goto K (dOf ck_mX1_priceThrough rfl rfl).1 (t := 71) (aJ_of (by decide +kernel)) ?_
  refine g_sub [0, 1, 2, 3] rfl ?_
  exact lk_Cutter_priceThrough_71 K _ _ _ ht _
def Cutter_priceThrough_25 (mm : aM) (t : Nat) (x1 : Int) (x2 : Int) (x3 : Int) (x4 : Int) (s0 : Int) : Option Int := if s0 = 0 then (some 268435456) else ((Tongue_mayFollow 25 x2 x3 mm).bind fun r5 => (if r5 = 0 then (some 268435456) else (if 0 ≤ x3 ∧ x3 < 12 then (if 0 ≤ (w32 ((w32 ((w32 (x1 + (mm 41 x3.toNat))) * 5)) + (mm 43 x3.toNat))) ∧ (w32 ((w32 ((w32 (x1 + (mm 41 x3.toNat))) * 5)) + (mm 43 x3.toNat))) < 305 then (if (mm (t + 2) (w32 ((w32 ((w32 (x1 + (mm 41 x3.toNat))) * 5)) + (mm 43 x3.toNat))).toNat) = 268435456 then (some 268435456) else (if (mm t 5) = 2 then (Cutter_priceThrough_68 mm t x3 x4 (mm (t + 2) (w32 ((w32 ((w32 (x1 + (mm 41 x3.toNat))) * 5)) + (mm 43 x3.toNat))).toNat)) else (if (mm t 5) = 3 then (Cutter_priceThrough_68 mm t x3 x4 (mm (t + 2) (w32 ((w32 ((w32 (x1 + (mm 41 x3.toNat))) * 5)) + (mm 43 x3.toNat))).toNat)) else (Cutter_priceThrough_71 mm t x3 x4 (mm (t + 2) (w32 ((w32 ((w32 (x1 + (mm 41 x3.toNat))) * 5)) + (mm 43 x3.toNat))).toNat) 0)))) else none) else none)))
set_option maxHeartbeats 4000000 in
theorem lk_Cutter_priceThrough_25 {p : Program} {l : Launch} {e : Env} {s : State} {m : MethodId} {args : Array Value} {below : List Frame} {meth : Method} {c : Code} {D : va_G} {cA : FieldType → ClassId} {ad adV : Nat → Nat} {z0 : Nat} {al0 : List Nat} {mm : aM} (K : aK p s m args meth c mX1_priceThrough D cA ad adV z0) {t : Nat} (x1 : Int) (x2 : Int) (x3 : Int) (x4 : Int) (ht : okC t)  (s0 : Int) : aG p l e { frames := 1, cells := 0, slots := 0, locals := 22 } s m args below meth c D cA ad z0 mX1_priceThrough al0 (rI mm) (Cutter_priceThrough_25 mm t x1 x2 x3 x4 s0) 25 [(0, .inr (.inr (.inl (some t)))), (1, .inl x1), (2, .inl x2), (3, .inl x3), (4, .inl x4)] [.inl s0] mm := by
  unfold Cutter_priceThrough_25
  refine gl (i' := 26) (fun _ _ => aw_istore K (dOf ck_mX1_priceThrough rfl rfl) (Nat.le_of_ble_eq_true rfl)) ?_
  refine g_lv (lv' := [(5, .inl _), (0, .inr (.inr (.inl (some _)))), (1, .inl _), (2, .inl _), (3, .inl _), (4, .inl _)]) rfl ?_
  refine gl (i' := 27) (fun _ _ => aw_iload K (dOf ck_mX1_priceThrough rfl rfl) rfl) ?_
  refine g_if_eq K (dOf ck_mX1_priceThrough rfl rfl) (t := 34) (aJ_of (by decide +kernel)) (fun h4 => ?_) (fun h4 => ?_)
  · refine gl (i' := 35) (fun _ _ => aw_ldc K (dOf ck_mX1_priceThrough rfl rfl) (n := 268435456) wd_772 (i32 _ rfl)) ?_
    exact g_iret K (dOf ck_mX1_priceThrough rfl rfl).1 rfl (Or.inl rfl) rfl
  · refine gl (i' := 29) (fun _ _ => aw_aload_n K (dOf ck_mX1_priceThrough rfl rfl) rfl) ?_
    refine gl (i' := 30) (fun _ _ => aw_getf K (dOf ck_mX1_priceThrough rfl rfl) (shC_0 ht) rfl (Nat.le_of_ble_eq_true rfl) wd_342 (k := 0) rfl) ?_
    refine gl (i' := 31) (fun _ _ => aw_iload_n K (dOf ck_mX1_priceThrough rfl rfl) rfl) ?_
    refine gl (i' := 32) (fun _ _ => aw_iload_n K (dOf ck_mX1_priceThrough rfl rfl) rfl) ?_
    refine g_callVI K [.inl _, .inl _] rfl (dOf ck_mX1_priceThrough rfl rfl) al_OneBreath_Cutter_89 rfl rfl ⟨wd_701, wd_702⟩ rfl (Nat.le_of_ble_eq_true rfl) ⟨Nat.le_of_ble_eq_true rfl, Nat.le_of_ble_eq_true rfl⟩ (fun b hb => met_Tongue_mayFollow (by unfold okT; omega) hb) (fun r5 hr5 => ?_)
    refine g_if_ne K (dOf ck_mX1_priceThrough rfl rfl) (t := 36) (aJ_of (by decide +kernel)) (fun h6 => ?_) (fun h6 => ?_)
    · refine gl (i' := 35) (fun _ _ => aw_ldc K (dOf ck_mX1_priceThrough rfl rfl) (n := 268435456) wd_772 (i32 _ rfl)) ?_
      exact g_iret K (dOf ck_mX1_priceThrough rfl rfl).1 rfl (Or.inl rfl) rfl
    · refine gl (i' := 37) (fun _ _ => aw_aload_n K (dOf ck_mX1_priceThrough rfl rfl) rfl) ?_
      refine gl (i' := 38) (fun _ _ => aw_getf K (dOf ck_mX1_priceThrough rfl rfl) (shC_0 ht) rfl (Nat.le_of_ble_eq_true rfl) wd_345 (k := 3) rfl) ?_
      refine gl (i' := 39) (fun _ _ => aw_iload_n K (dOf ck_mX1_priceThrough rfl rfl) rfl) ?_
      refine gl (i' := 40) (fun _ _ => aw_aload_n K (dOf ck_mX1_priceThrough rfl rfl) rfl) ?_
      refine gl (i' := 41) (fun _ _ => aw_getf K (dOf ck_mX1_priceThrough rfl rfl) (shC_0 ht) rfl (Nat.le_of_ble_eq_true rfl) wd_342 (k := 0) rfl) ?_
      refine gl (i' := 42) (fun _ _ => aw_getf K (dOf ck_mX1_priceThrough rfl rfl) rfl rfl (Nat.le_of_ble_eq_true rfl) wd_240 (k := 9) rfl) ?_
      refine gl (i' := 43) (fun _ _ => aw_iload_n K (dOf ck_mX1_priceThrough rfl rfl) rfl) ?_
      refine g_gd (fun hb7 => ?_)
      refine gl (i' := 44) (fun _ _ => aw_iald K (dOf ck_mX1_priceThrough rfl rfl) rfl hb7) ?_
      refine gl (i' := 45) (fun _ _ => aw_iadd K (dOf ck_mX1_priceThrough rfl rfl)) ?_
      refine gl (i' := 46) (fun _ _ => aw_iconst K (n := 5) (i32 _ rfl) (dOf ck_mX1_priceThrough rfl rfl)) ?_
      refine gl (i' := 47) (fun _ _ => aw_imul K (dOf ck_mX1_priceThrough rfl rfl)) ?_
      refine gl (i' := 48) (fun _ _ => aw_aload_n K (dOf ck_mX1_priceThrough rfl rfl) rfl) ?_
      refine gl (i' := 49) (fun _ _ => aw_getf K (dOf ck_mX1_priceThrough rfl rfl) (shC_0 ht) rfl (Nat.le_of_ble_eq_true rfl) wd_342 (k := 0) rfl) ?_
      refine gl (i' := 50) (fun _ _ => aw_getf K (dOf ck_mX1_priceThrough rfl rfl) rfl rfl (Nat.le_of_ble_eq_true rfl) wd_255 (k := 11) rfl) ?_
      refine gl (i' := 51) (fun _ _ => aw_iload_n K (dOf ck_mX1_priceThrough rfl rfl) rfl) ?_
      refine gl (i' := 52) (fun _ _ => aw_iald K (dOf ck_mX1_priceThrough rfl rfl) rfl hb7) ?_
      refine gl (i' := 53) (fun _ _ => aw_iadd K (dOf ck_mX1_priceThrough rfl rfl)) ?_
      refine g_gd (fun hb8 => ?_)
      refine gl (i' := 54) (fun _ _ => aw_iald K (dOf ck_mX1_priceThrough rfl rfl) (shC_2 ht) hb8) ?_
      refine gl (i' := 55) (fun _ _ => aw_istore K (dOf ck_mX1_priceThrough rfl rfl) (Nat.le_of_ble_eq_true rfl)) ?_
      refine g_lv (lv' := [(6, .inl _), (5, .inl _), (0, .inr (.inr (.inl (some _)))), (1, .inl _), (2, .inl _), (3, .inl _), (4, .inl _)]) rfl ?_
      refine gl (i' := 56) (fun _ _ => aw_iload K (dOf ck_mX1_priceThrough rfl rfl) rfl) ?_
      refine gl (i' := 57) (fun _ _ => aw_ldc K (dOf ck_mX1_priceThrough rfl rfl) (n := 268435456) wd_772 (i32 _ rfl)) ?_
      refine g_icmp_ne K (dOf ck_mX1_priceThrough rfl rfl) (t := 60) (aJ_of (by decide +kernel)) (fun h9 => ?_) (fun h9 => ?_)
      · refine gl (i' := 59) (fun _ _ => aw_ldc K (dOf ck_mX1_priceThrough rfl rfl) (n := 268435456) wd_772 (i32 _ rfl)) ?_
        exact g_iret K (dOf ck_mX1_priceThrough rfl rfl).1 rfl (Or.inl rfl) rfl
      · refine gl (i' := 61) (fun _ _ => aw_aload_n K (dOf ck_mX1_priceThrough rfl rfl) rfl) ?_
        refine gl (i' := 62) (fun _ _ => aw_getf K (dOf ck_mX1_priceThrough rfl rfl) (shC_0 ht) rfl (Nat.le_of_ble_eq_true rfl) wd_347 (k := 5) rfl) ?_
        refine gl (i' := 63) (fun _ _ => aw_iconst K (n := 2) (i32 _ rfl) (dOf ck_mX1_priceThrough rfl rfl)) ?_
        refine g_icmp_eq K (dOf ck_mX1_priceThrough rfl rfl) (t := 68) (aJ_of (by decide +kernel)) (fun h10 => ?_) (fun h10 => ?_)
        · refine g_sub [2, 5, 6, 0] rfl ?_
          exact lk_Cutter_priceThrough_68 K _ _ _ ht
        · refine gl (i' := 65) (fun _ _ => aw_aload_n K (dOf ck_mX1_priceThrough rfl rfl) rfl) ?_
          refine gl (i' := 66) (fun _ _ => aw_getf K (dOf ck_mX1_priceThrough rfl rfl) (shC_0 ht) rfl (Nat.le_of_ble_eq_true rfl) wd_347 (k := 5) rfl) ?_
          refine gl (i' := 67) (fun _ _ => aw_iconst K (n := 3) (i32 _ rfl) (dOf ck_mX1_priceThrough rfl rfl)) ?_
          refine g_icmp_ne K (dOf ck_mX1_priceThrough rfl rfl) (t := 70) (aJ_of (by decide +kernel)) (fun h13 => ?_) (fun h13 => ?_)
          · refine g_sub [2, 5, 6, 0] rfl ?_
            exact lk_Cutter_priceThrough_68 K _ _ _ ht
          · refine gl (i' := 71) (fun _ _ => aw_iconst K (n := 0) (i32 _ rfl) (dOf ck_mX1_priceThrough rfl rfl)) ?_
            refine g_sub [2, 5, 6, 0] rfl ?_
            exact lk_Cutter_priceThrough_71 K _ _ _ ht _
def Cutter_priceThrough (t : Nat) (x1 : Int) (x2 : Int) (x3 : Int) (mm : aM) : Option Int := if 0 ≤ (w32 ((w32 (x1 * 12)) + x3)) ∧ (w32 ((w32 (x1 * 12)) + x3)) < 720 then (if (mm t 5) = 3 then (if (mm (t + 1) (w32 ((w32 (x1 * 12)) + x3)).toNat) = (-1) then (Cutter_priceThrough_25 mm t x1 x2 x3 (mm (t + 1) (w32 ((w32 (x1 * 12)) + x3)).toNat) 0) else (Cutter_priceThrough_25 mm t x1 x2 x3 (mm (t + 1) (w32 ((w32 (x1 * 12)) + x3)).toNat) 1)) else (if (mm (t + 1) (w32 ((w32 (x1 * 12)) + x3)).toNat) = 0 then (Cutter_priceThrough_25 mm t x1 x2 x3 (mm (t + 1) (w32 ((w32 (x1 * 12)) + x3)).toNat) 1) else (Cutter_priceThrough_25 mm t x1 x2 x3 (mm (t + 1) (w32 ((w32 (x1 * 12)) + x3)).toNat) 0))) else none
set_option maxHeartbeats 4000000 in
theorem met_Cutter_priceThrough {l : Launch} {D : va_G} {cA : FieldType → ClassId} {ad adV : Nat → Nat} {z0 : Nat} {t : Nat} {x1 : Int} {x2 : Int} {x3 : Int} {mm : aM} (ht : okC t) {r : Int} (h : Cutter_priceThrough t x1 x2 x3 mm = some r) : aMet l D cA ad adV z0 mX1_priceThrough 1 22 0 0 [.inr (.inr (.inl (some t))), .inl x1, .inl x2, .inl x3] SH mm ((rI mm) r).1 SH ((rI mm) r).2 := by
  refine aMet_ofG (by decide +kernel) rfl (Nat.le_of_ble_eq_true rfl) h (fun p e s m args below meth c al0 K => ?_)
  unfold Cutter_priceThrough
  refine gl (i' := 1) (fun _ _ => aw_aload_n K (dOf ck_mX1_priceThrough rfl rfl) rfl) ?_
  refine gl (i' := 2) (fun _ _ => aw_getf K (dOf ck_mX1_priceThrough rfl rfl) (shC_0 ht) rfl (Nat.le_of_ble_eq_true rfl) wd_344 (k := 2) rfl) ?_
  refine gl (i' := 3) (fun _ _ => aw_iload_n K (dOf ck_mX1_priceThrough rfl rfl) rfl) ?_
  refine gl (i' := 4) (fun _ _ => aw_bip K (dOf ck_mX1_priceThrough rfl rfl) (v := 12) rfl) ?_
  refine gl (i' := 5) (fun _ _ => aw_imul K (dOf ck_mX1_priceThrough rfl rfl)) ?_
  refine gl (i' := 6) (fun _ _ => aw_iload_n K (dOf ck_mX1_priceThrough rfl rfl) rfl) ?_
  refine gl (i' := 7) (fun _ _ => aw_iadd K (dOf ck_mX1_priceThrough rfl rfl)) ?_
  refine g_gd (fun hb1 => ?_)
  refine gl (i' := 8) (fun _ _ => aw_bald K (dOf ck_mX1_priceThrough rfl rfl) (shC_1 ht) hb1) ?_
  refine gl (i' := 9) (fun _ _ => aw_istore K (dOf ck_mX1_priceThrough rfl rfl) (Nat.le_of_ble_eq_true rfl)) ?_
  refine g_lv (lv' := [(4, .inl _), (0, .inr (.inr (.inl (some _)))), (1, .inl _), (2, .inl _), (3, .inl _)]) rfl ?_
  refine gl (i' := 10) (fun _ _ => aw_aload_n K (dOf ck_mX1_priceThrough rfl rfl) rfl) ?_
  refine gl (i' := 11) (fun _ _ => aw_getf K (dOf ck_mX1_priceThrough rfl rfl) (shC_0 ht) rfl (Nat.le_of_ble_eq_true rfl) wd_347 (k := 5) rfl) ?_
  refine gl (i' := 12) (fun _ _ => aw_iconst K (n := 3) (i32 _ rfl) (dOf ck_mX1_priceThrough rfl rfl)) ?_
  refine g_icmp_ne K (dOf ck_mX1_priceThrough rfl rfl) (t := 20) (aJ_of (by decide +kernel)) (fun h2 => ?_) (fun h2 => ?_)
  · refine gl (i' := 14) (fun _ _ => aw_iload K (dOf ck_mX1_priceThrough rfl rfl) rfl) ?_
    refine gl (i' := 15) (fun _ _ => aw_iconst K (n := -1) (i32 _ rfl) (dOf ck_mX1_priceThrough rfl rfl)) ?_
    refine g_icmp_eq K (dOf ck_mX1_priceThrough rfl rfl) (t := 18) (aJ_of (by decide +kernel)) (fun h14 => ?_) (fun h14 => ?_)
    · refine gl (i' := 19) (fun _ _ => aw_iconst K (n := 0) (i32 _ rfl) (dOf ck_mX1_priceThrough rfl rfl)) ?_
      refine g_goto K (dOf ck_mX1_priceThrough rfl rfl).1 (t := 25) (aJ_of (by decide +kernel)) ?_
      refine g_sub [1, 2, 3, 4, 0] rfl ?_
      exact lk_Cutter_priceThrough_25 K _ _ _ _ ht _
    · refine gl (i' := 17) (fun _ _ => aw_iconst K (n := 1) (i32 _ rfl) (dOf ck_mX1_priceThrough rfl rfl)) ?_
      refine g_goto K (dOf ck_mX1_priceThrough rfl rfl).1 (t := 25) (aJ_of (by decide +kernel)) ?_
      refine g_sub [1, 2, 3, 4, 0] rfl ?_
      exact lk_Cutter_priceThrough_25 K _ _ _ _ ht _
  · refine gl (i' := 21) (fun _ _ => aw_iload K (dOf ck_mX1_priceThrough rfl rfl) rfl) ?_
    refine g_if_ne K (dOf ck_mX1_priceThrough rfl rfl) (t := 24) (aJ_of (by decide +kernel)) (fun h3 => ?_) (fun h3 => ?_)
    · refine gl (i' := 23) (fun _ _ => aw_iconst K (n := 1) (i32 _ rfl) (dOf ck_mX1_priceThrough rfl rfl)) ?_
      refine g_goto K (dOf ck_mX1_priceThrough rfl rfl).1 (t := 25) (aJ_of (by decide +kernel)) ?_
      refine g_sub [1, 2, 3, 4, 0] rfl ?_
      exact lk_Cutter_priceThrough_25 K _ _ _ _ ht _
    · refine gl (i' := 25) (fun _ _ => aw_iconst K (n := 0) (i32 _ rfl) (dOf ck_mX1_priceThrough rfl rfl)) ?_
      refine g_sub [1, 2, 3, 4, 0] rfl ?_
      exact lk_Cutter_priceThrough_25 K _ _ _ _ ht _
def Cutter_leastFrom_17 (mm : aM) (t : Nat) (x1 : Int) (x2 : Int) : Nat → Int → Int → Option Int
  | 0, _, _ => none
  | n + 1, x3, x4 => if x4 < (mm 25 2) then ((Cutter_priceThrough t x1 x2 x4 mm).bind fun r3 => ((Jmath_min x3 r3 mm).bind fun r4 => (Cutter_leastFrom_17 mm t x1 x2 n r4 (w32 (x4 + 1))))) else (some x3)
set_option maxHeartbeats 4000000 in
theorem lk_Cutter_leastFrom_17 {p : Program} {l : Launch} {e : Env} {s : State} {m : MethodId} {args : Array Value} {below : List Frame} {meth : Method} {c : Code} {D : va_G} {cA : FieldType → ClassId} {ad adV : Nat → Nat} {z0 : Nat} {al0 : List Nat} {mm : aM} (K : aK p s m args meth c mX1_leastFrom D cA ad adV z0) {t : Nat} (x1 : Int) (x2 : Int) (ht : okC t)  : ∀ (n : Nat) (x3 : Int) (x4 : Int), aG p l e { frames := 2, cells := 0, slots := 0, locals := 49 } s m args below meth c D cA ad z0 mX1_leastFrom al0 (rI mm) (Cutter_leastFrom_17 mm t x1 x2 n x3 x4) 17 [(0, .inr (.inr (.inl (some t)))), (1, .inl x1), (2, .inl x2), (3, .inl x3), (4, .inl x4)] [] mm := by
  intro n
  induction n with
  | zero => intro x3 x4; exact g_none
  | succ n ih =>
    intro x3 x4
    rw [Cutter_leastFrom_17]
    refine gl (i' := 18) (fun _ _ => aw_iload K (dOf ck_mX1_leastFrom rfl rfl) rfl) ?_
    refine gl (i' := 19) (fun _ _ => aw_aload_n K (dOf ck_mX1_leastFrom rfl rfl) rfl) ?_
    refine gl (i' := 20) (fun _ _ => aw_getf K (dOf ck_mX1_leastFrom rfl rfl) (shC_0 ht) rfl (Nat.le_of_ble_eq_true rfl) wd_342 (k := 0) rfl) ?_
    refine gl (i' := 21) (fun _ _ => aw_getf K (dOf ck_mX1_leastFrom rfl rfl) rfl rfl (Nat.le_of_ble_eq_true rfl) wd_199 (k := 2) rfl) ?_
    refine g_icmp_ge K (dOf ck_mX1_leastFrom rfl rfl) (t := 32) (aJ_of (by decide +kernel)) (fun h2 => ?_) (fun h2 => ?_)
    · refine gl (i' := 23) (fun _ _ => aw_iload_n K (dOf ck_mX1_leastFrom rfl rfl) rfl) ?_
      refine gl (i' := 24) (fun _ _ => aw_aload_n K (dOf ck_mX1_leastFrom rfl rfl) rfl) ?_
      refine gl (i' := 25) (fun _ _ => aw_iload_n K (dOf ck_mX1_leastFrom rfl rfl) rfl) ?_
      refine gl (i' := 26) (fun _ _ => aw_iload_n K (dOf ck_mX1_leastFrom rfl rfl) rfl) ?_
      refine gl (i' := 27) (fun _ _ => aw_iload K (dOf ck_mX1_leastFrom rfl rfl) rfl) ?_
      refine g_callVI K [.inl _, .inl _, .inl _] rfl (dOf ck_mX1_leastFrom rfl rfl) al_OneBreath_Cutter_115 (shC_0 ht) rfl ⟨wd_774, wd_23⟩ rfl (Nat.le_of_ble_eq_true rfl) ⟨Nat.le_of_ble_eq_true rfl, Nat.le_of_ble_eq_true rfl⟩ (fun b hb => met_Cutter_priceThrough ht hb) (fun r3 hr3 => ?_)
      refine g_callSI K [.inl _, .inl _] rfl (dOf ck_mX1_leastFrom rfl rfl) al_OneBreath_Cutter_68 wd_496 rfl (Nat.le_of_ble_eq_true rfl) ⟨Nat.le_of_ble_eq_true rfl, Nat.le_of_ble_eq_true rfl⟩ (fun b hb => met_Jmath_min  hb) (fun r4 hr4 => ?_)
      refine gl (i' := 30) (fun _ _ => aw_istore_n K (dOf ck_mX1_leastFrom rfl rfl) (Nat.le_of_ble_eq_true rfl)) ?_
      refine g_lv (lv' := [(3, .inl _), (0, .inr (.inr (.inl (some _)))), (1, .inl _), (2, .inl _), (4, .inl _)]) rfl ?_
      refine gl (i' := 31) (fun _ _ => aw_iinc K (dOf ck_mX1_leastFrom rfl rfl) (Nat.le_of_ble_eq_true rfl) rfl) ?_
      refine g_lv (lv' := [(4, .inl _), (3, .inl _), (0, .inr (.inr (.inl (some _)))), (1, .inl _), (2, .inl _)]) rfl ?_
      refine g_goto K (dOf ck_mX1_leastFrom rfl rfl).1 (t := 17) (aJ_of (by decide +kernel)) ?_
      refine g_sub [2, 3, 4, 1, 0] rfl ?_
      exact ih _ _
    · refine gl (i' := 33) (fun _ _ => aw_iload_n K (dOf ck_mX1_leastFrom rfl rfl) rfl) ?_
      exact g_iret K (by decide +kernel) rfl (Or.inl rfl) rfl
def Cutter_leastFrom (t : Nat) (x1 : Int) (x2 : Int) (mm : aM) : Option Int := if x1 = (mm t 1) then ((Tongue_mayEnd 25 x2 mm).bind fun r5 => (if r5 = 0 then (some 268435456) else (some 0))) else (Cutter_leastFrom_17 mm t x1 x2 FU 268435456 0)
set_option maxHeartbeats 4000000 in
theorem met_Cutter_leastFrom {l : Launch} {D : va_G} {cA : FieldType → ClassId} {ad adV : Nat → Nat} {z0 : Nat} {t : Nat} {x1 : Int} {x2 : Int} {mm : aM} (ht : okC t) {r : Int} (h : Cutter_leastFrom t x1 x2 mm = some r) : aMet l D cA ad adV z0 mX1_leastFrom 2 49 0 0 [.inr (.inr (.inl (some t))), .inl x1, .inl x2] SH mm ((rI mm) r).1 SH ((rI mm) r).2 := by
  refine aMet_ofG (by decide +kernel) rfl (Nat.le_of_ble_eq_true rfl) h (fun p e s m args below meth c al0 K => ?_)
  unfold Cutter_leastFrom
  refine gl (i' := 1) (fun _ _ => aw_iload_n K (dOf ck_mX1_leastFrom rfl rfl) rfl) ?_
  refine gl (i' := 2) (fun _ _ => aw_aload_n K (dOf ck_mX1_leastFrom rfl rfl) rfl) ?_
  refine gl (i' := 3) (fun _ _ => aw_getf K (dOf ck_mX1_leastFrom rfl rfl) (shC_0 ht) rfl (Nat.le_of_ble_eq_true rfl) wd_343 (k := 1) rfl) ?_
  refine g_icmp_ne K (dOf ck_mX1_leastFrom rfl rfl) (t := 13) (aJ_of (by decide +kernel)) (fun h1 => ?_) (fun h1 => ?_)
  · refine gl (i' := 5) (fun _ _ => aw_aload_n K (dOf ck_mX1_leastFrom rfl rfl) rfl) ?_
    refine gl (i' := 6) (fun _ _ => aw_getf K (dOf ck_mX1_leastFrom rfl rfl) (shC_0 ht) rfl (Nat.le_of_ble_eq_true rfl) wd_342 (k := 0) rfl) ?_
    refine gl (i' := 7) (fun _ _ => aw_iload_n K (dOf ck_mX1_leastFrom rfl rfl) rfl) ?_
    refine g_callVI K [.inl _] rfl (dOf ck_mX1_leastFrom rfl rfl) al_OneBreath_Cutter_85 rfl rfl ⟨wd_705, wd_706⟩ rfl (Nat.le_of_ble_eq_true rfl) ⟨Nat.le_of_ble_eq_true rfl, Nat.le_of_ble_eq_true rfl⟩ (fun b hb => met_Tongue_mayEnd (by unfold okT; omega) hb) (fun r5 hr5 => ?_)
    refine g_if_eq K (dOf ck_mX1_leastFrom rfl rfl) (t := 11) (aJ_of (by decide +kernel)) (fun h6 => ?_) (fun h6 => ?_)
    · refine gl (i' := 12) (fun _ _ => aw_ldc K (dOf ck_mX1_leastFrom rfl rfl) (n := 268435456) wd_772 (i32 _ rfl)) ?_
      exact g_iret K (dOf ck_mX1_leastFrom rfl rfl).1 rfl (Or.inl rfl) rfl
    · refine gl (i' := 10) (fun _ _ => aw_iconst K (n := 0) (i32 _ rfl) (dOf ck_mX1_leastFrom rfl rfl)) ?_
      refine g_goto K (dOf ck_mX1_leastFrom rfl rfl).1 (t := 12) (aJ_of (by decide +kernel)) ?_
      exact g_iret K (dOf ck_mX1_leastFrom rfl rfl).1 rfl (Or.inl rfl) rfl
  · refine gl (i' := 14) (fun _ _ => aw_ldc K (dOf ck_mX1_leastFrom rfl rfl) (n := 268435456) wd_772 (i32 _ rfl)) ?_
    refine gl (i' := 15) (fun _ _ => aw_istore_n K (dOf ck_mX1_leastFrom rfl rfl) (Nat.le_of_ble_eq_true rfl)) ?_
    refine g_lv (lv' := [(3, .inl _), (0, .inr (.inr (.inl (some _)))), (1, .inl _), (2, .inl _)]) rfl ?_
    refine gl (i' := 16) (fun _ _ => aw_iconst K (n := 0) (i32 _ rfl) (dOf ck_mX1_leastFrom rfl rfl)) ?_
    refine gl (i' := 17) (fun _ _ => aw_istore K (dOf ck_mX1_leastFrom rfl rfl) (Nat.le_of_ble_eq_true rfl)) ?_
    refine g_lv (lv' := [(4, .inl _), (3, .inl _), (0, .inr (.inr (.inl (some _)))), (1, .inl _), (2, .inl _)]) rfl ?_
    refine g_sub [2, 3, 4, 1, 0] rfl ?_
    exact lk_Cutter_leastFrom_17 K _ _ ht FU _ _
def Cutter_choosePut (t : Nat) (x1 : Int) (x2 : Int) (mm : aM) : Option aM := if (mm t 8) < 60 then (if 0 ≤ (mm t 8) ∧ (mm t 8) < 60 then (st1 (aup mm (t + 4) (mm t 8).toNat x1) fun mm3 => (if 0 ≤ (mm3 t 8) ∧ (mm3 t 8) < 60 then (st1 (aup mm3 (t + 5) (mm3 t 8).toNat x2) fun mm5 => (st1 (aup mm5 t 8 (w32 ((mm5 t 8) + 1))) fun mm6 => (some mm6))) else none)) else none) else (some mm)
set_option maxHeartbeats 4000000 in
theorem met_Cutter_choosePut {l : Launch} {D : va_G} {cA : FieldType → ClassId} {ad adV : Nat → Nat} {z0 : Nat} {t : Nat} {x1 : Int} {x2 : Int} {mm : aM} (ht : okC t) {r : aM} (h : Cutter_choosePut t x1 x2 mm = some r) : aMet l D cA ad adV z0 mX1_choosePut 0 0 0 0 [.inr (.inr (.inl (some t))), .inl x1, .inl x2] SH mm (rM r).1 SH (rM r).2 := by
  refine aMet_ofG (by decide +kernel) rfl (Nat.le_of_ble_eq_true rfl) h (fun p e s m args below meth c al0 K => ?_)
  unfold Cutter_choosePut
  refine gl (i' := 1) (fun _ _ => aw_aload_n K (dOf ck_mX1_choosePut rfl rfl) rfl) ?_
  refine gl (i' := 2) (fun _ _ => aw_getf K (dOf ck_mX1_choosePut rfl rfl) (shC_0 ht) rfl (Nat.le_of_ble_eq_true rfl) wd_353 (k := 8) rfl) ?_
  refine gl (i' := 3) (fun _ _ => aw_bip K (dOf ck_mX1_choosePut rfl rfl) (v := 60) rfl) ?_
  refine g_icmp_ge K (dOf ck_mX1_choosePut rfl rfl) (t := 22) (aJ_of (by decide +kernel)) (fun h1 => ?_) (fun h1 => ?_)
  · refine gl (i' := 5) (fun _ _ => aw_aload_n K (dOf ck_mX1_choosePut rfl rfl) rfl) ?_
    refine gl (i' := 6) (fun _ _ => aw_getf K (dOf ck_mX1_choosePut rfl rfl) (shC_0 ht) rfl (Nat.le_of_ble_eq_true rfl) wd_348 (k := 6) rfl) ?_
    refine gl (i' := 7) (fun _ _ => aw_aload_n K (dOf ck_mX1_choosePut rfl rfl) rfl) ?_
    refine gl (i' := 8) (fun _ _ => aw_getf K (dOf ck_mX1_choosePut rfl rfl) (shC_0 ht) rfl (Nat.le_of_ble_eq_true rfl) wd_353 (k := 8) rfl) ?_
    refine gl (i' := 9) (fun _ _ => aw_iload_n K (dOf ck_mX1_choosePut rfl rfl) rfl) ?_
    refine g_gd (fun hb2 => ?_)
    refine g_st1 ?_
    refine gl (i' := 10) (fun _ _ => aw_iast K (dOf ck_mX1_choosePut rfl rfl) (shC_4 ht) hb2) ?_
    refine gl (i' := 11) (fun _ _ => aw_aload_n K (dOf ck_mX1_choosePut rfl rfl) rfl) ?_
    refine gl (i' := 12) (fun _ _ => aw_getf K (dOf ck_mX1_choosePut rfl rfl) (shC_0 ht) rfl (Nat.le_of_ble_eq_true rfl) wd_351 (k := 7) rfl) ?_
    refine gl (i' := 13) (fun _ _ => aw_aload_n K (dOf ck_mX1_choosePut rfl rfl) rfl) ?_
    refine gl (i' := 14) (fun _ _ => aw_getf K (dOf ck_mX1_choosePut rfl rfl) (shC_0 ht) rfl (Nat.le_of_ble_eq_true rfl) wd_353 (k := 8) rfl) ?_
    refine gl (i' := 15) (fun _ _ => aw_iload_n K (dOf ck_mX1_choosePut rfl rfl) rfl) ?_
    refine g_gd (fun hb4 => ?_)
    refine g_st1 ?_
    refine gl (i' := 16) (fun _ _ => aw_iast K (dOf ck_mX1_choosePut rfl rfl) (shC_5 ht) hb4) ?_
    refine gl (i' := 17) (fun _ _ => aw_aload_n K (dOf ck_mX1_choosePut rfl rfl) rfl) ?_
    refine gl (i' := 18) (fun _ _ => aw_dup K rfl (dOf ck_mX1_choosePut rfl rfl)) ?_
    refine gl (i' := 19) (fun _ _ => aw_getf K (dOf ck_mX1_choosePut rfl rfl) (shC_0 ht) rfl (Nat.le_of_ble_eq_true rfl) wd_353 (k := 8) rfl) ?_
    refine gl (i' := 20) (fun _ _ => aw_iconst K (n := 1) (i32 _ rfl) (dOf ck_mX1_choosePut rfl rfl)) ?_
    refine gl (i' := 21) (fun _ _ => aw_iadd K (dOf ck_mX1_choosePut rfl rfl)) ?_
    refine g_st1 ?_
    refine gl (i' := 22) (fun _ _ => aw_putf K (dOf ck_mX1_choosePut rfl rfl) (shC_0 ht) rfl (Nat.le_of_ble_eq_true rfl) wd_353 (k := 8) rfl rfl (Or.inl rfl)) ?_
    exact g_vret K (by decide +kernel) rfl rfl
  · exact g_vret K (by decide +kernel) rfl rfl
def Cutter_chooseFrom_44 (k6 : Int → Int → Int → aM → Option aM) (t : Nat) (x3 : Int) (x5 : Int) (x7 : Int) (mm : aM) : Option aM := (Cutter_choosePut t x7 x3 mm).bind fun r6 => (if 0 ≤ x7 ∧ x7 < 12 then (k6 (w32 (x3 + (r6 41 x7.toNat))) (r6 43 x7.toNat) (w32 (x5 + 1)) r6) else none)
set_option maxHeartbeats 4000000 in
theorem lk_Cutter_chooseFrom_44 {p : Program} {l : Launch} {e : Env} {s : State} {m : MethodId} {args : Array Value} {below : List Frame} {meth : Method} {c : Code} {D : va_G} {cA : FieldType → ClassId} {ad adV : Nat → Nat} {z0 : Nat} {al0 : List Nat} (K : aK p s m args meth c mX1_chooseFrom D cA ad adV z0) {t : Nat} (x3 : Int) (x5 : Int) (x7 : Int) (ht : okC t) (k6 : Int → Int → Int → aM → Option aM) (hk6 : ∀ (x3 : Int) (x4 : Int) (x5 : Int) (mm : aM), aG p l e { frames := 2, cells := 0, slots := 0, locals := 49 } s m args below meth c D cA ad z0 mX1_chooseFrom al0 rM (k6 x3 x4 x5 mm) 6 [(0, .inr (.inr (.inl (some t)))), (3, .inl x3), (4, .inl x4), (5, .inl x5)] [] mm)  (mm : aM) : aG p l e { frames := 2, cells := 0, slots := 0, locals := 49 } s m args below meth c D cA ad z0 mX1_chooseFrom al0 rM (Cutter_chooseFrom_44 k6 t x3 x5 x7 mm) 44 [(0, .inr (.inr (.inl (some t)))), (3, .inl x3), (5, .inl x5), (7, .inl x7)] [] mm := by
  unfold Cutter_chooseFrom_44
  refine gl (i' := 45) (fun _ _ => aw_aload_n K (dOf ck_mX1_chooseFrom rfl rfl) rfl) ?_
  refine gl (i' := 46) (fun _ _ => aw_iload K (dOf ck_mX1_chooseFrom rfl rfl) rfl) ?_
  refine gl (i' := 47) (fun _ _ => aw_iload_n K (dOf ck_mX1_chooseFrom rfl rfl) rfl) ?_
  refine g_callVM K [.inl _, .inl _] rfl (dOf ck_mX1_chooseFrom rfl rfl) al_OneBreath_Cutter_121 (shC_0 ht) rfl ⟨wd_781, wd_25⟩ rfl (Nat.le_of_ble_eq_true rfl) ⟨Nat.le_of_ble_eq_true rfl, Nat.le_of_ble_eq_true rfl⟩ (fun b hb => met_Cutter_choosePut ht hb) (fun r6 hr6 => ?_)
  refine gl (i' := 49) (fun _ _ => aw_iload_n K (dOf ck_mX1_chooseFrom rfl rfl) rfl) ?_
  refine gl (i' := 50) (fun _ _ => aw_aload_n K (dOf ck_mX1_chooseFrom rfl rfl) rfl) ?_
  refine gl (i' := 51) (fun _ _ => aw_getf K (dOf ck_mX1_chooseFrom rfl rfl) (shC_0 ht) rfl (Nat.le_of_ble_eq_true rfl) wd_342 (k := 0) rfl) ?_
  refine gl (i' := 52) (fun _ _ => aw_getf K (dOf ck_mX1_chooseFrom rfl rfl) rfl rfl (Nat.le_of_ble_eq_true rfl) wd_240 (k := 9) rfl) ?_
  refine gl (i' := 53) (fun _ _ => aw_iload K (dOf ck_mX1_chooseFrom rfl rfl) rfl) ?_
  refine g_gd (fun hb7 => ?_)
  refine gl (i' := 54) (fun _ _ => aw_iald K (dOf ck_mX1_chooseFrom rfl rfl) rfl hb7) ?_
  refine gl (i' := 55) (fun _ _ => aw_iadd K (dOf ck_mX1_chooseFrom rfl rfl)) ?_
  refine gl (i' := 56) (fun _ _ => aw_istore_n K (dOf ck_mX1_chooseFrom rfl rfl) (Nat.le_of_ble_eq_true rfl)) ?_
  refine g_lv (lv' := [(3, .inl _), (0, .inr (.inr (.inl (some _)))), (5, .inl _), (7, .inl _)]) rfl ?_
  refine gl (i' := 57) (fun _ _ => aw_aload_n K (dOf ck_mX1_chooseFrom rfl rfl) rfl) ?_
  refine gl (i' := 58) (fun _ _ => aw_getf K (dOf ck_mX1_chooseFrom rfl rfl) (shC_0 ht) rfl (Nat.le_of_ble_eq_true rfl) wd_342 (k := 0) rfl) ?_
  refine gl (i' := 59) (fun _ _ => aw_getf K (dOf ck_mX1_chooseFrom rfl rfl) rfl rfl (Nat.le_of_ble_eq_true rfl) wd_255 (k := 11) rfl) ?_
  refine gl (i' := 60) (fun _ _ => aw_iload K (dOf ck_mX1_chooseFrom rfl rfl) rfl) ?_
  refine gl (i' := 61) (fun _ _ => aw_iald K (dOf ck_mX1_chooseFrom rfl rfl) rfl hb7) ?_
  refine gl (i' := 62) (fun _ _ => aw_istore K (dOf ck_mX1_chooseFrom rfl rfl) (Nat.le_of_ble_eq_true rfl)) ?_
  refine g_lv (lv' := [(4, .inl _), (3, .inl _), (0, .inr (.inr (.inl (some _)))), (5, .inl _), (7, .inl _)]) rfl ?_
  refine gl (i' := 63) (fun _ _ => aw_iinc K (dOf ck_mX1_chooseFrom rfl rfl) (Nat.le_of_ble_eq_true rfl) rfl) ?_
  refine g_lv (lv' := [(5, .inl _), (4, .inl _), (3, .inl _), (0, .inr (.inr (.inl (some _)))), (7, .inl _)]) rfl ?_
  refine g_goto K (dOf ck_mX1_chooseFrom rfl rfl).1 (t := 6) (aJ_of (by decide +kernel)) ?_
  refine g_sub [3, 2, 1, 0] rfl ?_
  exact hk6 _ _ _ _
def Cutter_chooseFrom_28 (k6 : Int → Int → Int → aM → Option aM) (t : Nat) (x3 : Int) (x4 : Int) (x5 : Int) (x6 : Int) : Nat → Int → aM → Option aM
  | 0, _, _ => none
  | n + 1, x7, mm => if x7 < (w32 ((mm 25 2) - 1)) then ((Cutter_priceThrough t x3 x4 x7 mm).bind fun r8 => (if r8 = x6 then (Cutter_chooseFrom_44 k6 t x3 x5 x7 mm) else (Cutter_chooseFrom_28 k6 t x3 x4 x5 x6 n (w32 (x7 + 1)) mm))) else (Cutter_chooseFrom_44 k6 t x3 x5 x7 mm)
set_option maxHeartbeats 4000000 in
theorem lk_Cutter_chooseFrom_28 {p : Program} {l : Launch} {e : Env} {s : State} {m : MethodId} {args : Array Value} {below : List Frame} {meth : Method} {c : Code} {D : va_G} {cA : FieldType → ClassId} {ad adV : Nat → Nat} {z0 : Nat} {al0 : List Nat} (K : aK p s m args meth c mX1_chooseFrom D cA ad adV z0) {t : Nat} (x3 : Int) (x4 : Int) (x5 : Int) (x6 : Int) (ht : okC t) (k6 : Int → Int → Int → aM → Option aM) (hk6 : ∀ (x3 : Int) (x4 : Int) (x5 : Int) (mm : aM), aG p l e { frames := 2, cells := 0, slots := 0, locals := 49 } s m args below meth c D cA ad z0 mX1_chooseFrom al0 rM (k6 x3 x4 x5 mm) 6 [(0, .inr (.inr (.inl (some t)))), (3, .inl x3), (4, .inl x4), (5, .inl x5)] [] mm)  : ∀ (n : Nat) (x7 : Int) (mm : aM), aG p l e { frames := 2, cells := 0, slots := 0, locals := 49 } s m args below meth c D cA ad z0 mX1_chooseFrom al0 rM (Cutter_chooseFrom_28 k6 t x3 x4 x5 x6 n x7 mm) 28 [(0, .inr (.inr (.inl (some t)))), (3, .inl x3), (4, .inl x4), (5, .inl x5), (6, .inl x6), (7, .inl x7)] [] mm := by
  intro n
  induction n with
  | zero => intro x7 mm; exact g_none
  | succ n ih =>
    intro x7 mm
    rw [Cutter_chooseFrom_28]
    refine gl (i' := 29) (fun _ _ => aw_iload K (dOf ck_mX1_chooseFrom rfl rfl) rfl) ?_
    refine gl (i' := 30) (fun _ _ => aw_aload_n K (dOf ck_mX1_chooseFrom rfl rfl) rfl) ?_
    refine gl (i' := 31) (fun _ _ => aw_getf K (dOf ck_mX1_chooseFrom rfl rfl) (shC_0 ht) rfl (Nat.le_of_ble_eq_true rfl) wd_342 (k := 0) rfl) ?_
    refine gl (i' := 32) (fun _ _ => aw_getf K (dOf ck_mX1_chooseFrom rfl rfl) rfl rfl (Nat.le_of_ble_eq_true rfl) wd_199 (k := 2) rfl) ?_
    refine gl (i' := 33) (fun _ _ => aw_iconst K (n := 1) (i32 _ rfl) (dOf ck_mX1_chooseFrom rfl rfl)) ?_
    refine gl (i' := 34) (fun _ _ => aw_isub K (dOf ck_mX1_chooseFrom rfl rfl)) ?_
    refine g_icmp_ge K (dOf ck_mX1_chooseFrom rfl rfl) (t := 44) (aJ_of (by decide +kernel)) (fun h5 => ?_) (fun h5 => ?_)
    · refine gl (i' := 36) (fun _ _ => aw_aload_n K (dOf ck_mX1_chooseFrom rfl rfl) rfl) ?_
      refine gl (i' := 37) (fun _ _ => aw_iload_n K (dOf ck_mX1_chooseFrom rfl rfl) rfl) ?_
      refine gl (i' := 38) (fun _ _ => aw_iload K (dOf ck_mX1_chooseFrom rfl rfl) rfl) ?_
      refine gl (i' := 39) (fun _ _ => aw_iload K (dOf ck_mX1_chooseFrom rfl rfl) rfl) ?_
      refine g_callVI K [.inl _, .inl _, .inl _] rfl (dOf ck_mX1_chooseFrom rfl rfl) al_OneBreath_Cutter_115 (shC_0 ht) rfl ⟨wd_774, wd_23⟩ rfl (Nat.le_of_ble_eq_true rfl) ⟨Nat.le_of_ble_eq_true rfl, Nat.le_of_ble_eq_true rfl⟩ (fun b hb => met_Cutter_priceThrough ht hb) (fun r8 hr8 => ?_)
      refine gl (i' := 41) (fun _ _ => aw_iload K (dOf ck_mX1_chooseFrom rfl rfl) rfl) ?_
      refine g_icmp_eq K (dOf ck_mX1_chooseFrom rfl rfl) (t := 44) (aJ_of (by decide +kernel)) (fun h9 => ?_) (fun h9 => ?_)
      · refine g_sub [0, 1, 3, 5] rfl ?_
        exact lk_Cutter_chooseFrom_44 K _ _ _ ht _ hk6 _
      · refine gl (i' := 43) (fun _ _ => aw_iinc K (dOf ck_mX1_chooseFrom rfl rfl) (Nat.le_of_ble_eq_true rfl) rfl) ?_
        refine g_lv (lv' := [(7, .inl _), (0, .inr (.inr (.inl (some _)))), (3, .inl _), (4, .inl _), (5, .inl _), (6, .inl _)]) rfl ?_
        refine g_goto K (dOf ck_mX1_chooseFrom rfl rfl).1 (t := 28) (aJ_of (by decide +kernel)) ?_
        refine g_sub [1, 2, 3, 4, 5, 0] rfl ?_
        exact ih _ _
    · refine g_sub [0, 1, 3, 5] rfl ?_
      exact lk_Cutter_chooseFrom_44 K _ _ _ ht _ hk6 _
def Cutter_chooseFrom_6 (t : Nat) : Nat → Int → Int → Int → aM → Option aM
  | 0, _, _, _, _ => none
  | n + 1, x3, x4, x5, mm => if x5 < 60 then (if x3 < (mm t 1) then (if 0 ≤ (w32 ((w32 (x3 * 5)) + x4)) ∧ (w32 ((w32 (x3 * 5)) + x4)) < 305 then (if (mm (t + 2) (w32 ((w32 (x3 * 5)) + x4)).toNat) = 268435456 then (some mm) else (Cutter_chooseFrom_28 (Cutter_chooseFrom_6 t n) t x3 x4 x5 (mm (t + 2) (w32 ((w32 (x3 * 5)) + x4)).toNat) FU 0 mm)) else none) else (some mm)) else (some mm)
set_option maxHeartbeats 4000000 in
theorem lk_Cutter_chooseFrom_6 {p : Program} {l : Launch} {e : Env} {s : State} {m : MethodId} {args : Array Value} {below : List Frame} {meth : Method} {c : Code} {D : va_G} {cA : FieldType → ClassId} {ad adV : Nat → Nat} {z0 : Nat} {al0 : List Nat} (K : aK p s m args meth c mX1_chooseFrom D cA ad adV z0) {t : Nat} (ht : okC t)  : ∀ (n : Nat) (x3 : Int) (x4 : Int) (x5 : Int) (mm : aM), aG p l e { frames := 2, cells := 0, slots := 0, locals := 49 } s m args below meth c D cA ad z0 mX1_chooseFrom al0 rM (Cutter_chooseFrom_6 t n x3 x4 x5 mm) 6 [(0, .inr (.inr (.inl (some t)))), (3, .inl x3), (4, .inl x4), (5, .inl x5)] [] mm := by
  intro n
  induction n with
  | zero => intro x3 x4 x5 mm; exact g_none
  | succ n ih =>
    intro x3 x4 x5 mm
    rw [Cutter_chooseFrom_6]
    refine gl (i' := 7) (fun _ _ => aw_iload K (dOf ck_mX1_chooseFrom rfl rfl) rfl) ?_
    refine gl (i' := 8) (fun _ _ => aw_bip K (dOf ck_mX1_chooseFrom rfl rfl) (v := 60) rfl) ?_
    refine g_icmp_ge K (dOf ck_mX1_chooseFrom rfl rfl) (t := 64) (aJ_of (by decide +kernel)) (fun h1 => ?_) (fun h1 => ?_)
    · refine gl (i' := 10) (fun _ _ => aw_iload_n K (dOf ck_mX1_chooseFrom rfl rfl) rfl) ?_
      refine gl (i' := 11) (fun _ _ => aw_aload_n K (dOf ck_mX1_chooseFrom rfl rfl) rfl) ?_
      refine gl (i' := 12) (fun _ _ => aw_getf K (dOf ck_mX1_chooseFrom rfl rfl) (shC_0 ht) rfl (Nat.le_of_ble_eq_true rfl) wd_343 (k := 1) rfl) ?_
      refine g_icmp_ge K (dOf ck_mX1_chooseFrom rfl rfl) (t := 64) (aJ_of (by decide +kernel)) (fun h2 => ?_) (fun h2 => ?_)
      · refine gl (i' := 14) (fun _ _ => aw_aload_n K (dOf ck_mX1_chooseFrom rfl rfl) rfl) ?_
        refine gl (i' := 15) (fun _ _ => aw_getf K (dOf ck_mX1_chooseFrom rfl rfl) (shC_0 ht) rfl (Nat.le_of_ble_eq_true rfl) wd_345 (k := 3) rfl) ?_
        refine gl (i' := 16) (fun _ _ => aw_iload_n K (dOf ck_mX1_chooseFrom rfl rfl) rfl) ?_
        refine gl (i' := 17) (fun _ _ => aw_iconst K (n := 5) (i32 _ rfl) (dOf ck_mX1_chooseFrom rfl rfl)) ?_
        refine gl (i' := 18) (fun _ _ => aw_imul K (dOf ck_mX1_chooseFrom rfl rfl)) ?_
        refine gl (i' := 19) (fun _ _ => aw_iload K (dOf ck_mX1_chooseFrom rfl rfl) rfl) ?_
        refine gl (i' := 20) (fun _ _ => aw_iadd K (dOf ck_mX1_chooseFrom rfl rfl)) ?_
        refine g_gd (fun hb3 => ?_)
        refine gl (i' := 21) (fun _ _ => aw_iald K (dOf ck_mX1_chooseFrom rfl rfl) (shC_2 ht) hb3) ?_
        refine gl (i' := 22) (fun _ _ => aw_istore K (dOf ck_mX1_chooseFrom rfl rfl) (Nat.le_of_ble_eq_true rfl)) ?_
        refine g_lv (lv' := [(6, .inl _), (0, .inr (.inr (.inl (some _)))), (3, .inl _), (4, .inl _), (5, .inl _)]) rfl ?_
        refine gl (i' := 23) (fun _ _ => aw_iload K (dOf ck_mX1_chooseFrom rfl rfl) rfl) ?_
        refine gl (i' := 24) (fun _ _ => aw_ldc K (dOf ck_mX1_chooseFrom rfl rfl) (n := 268435456) wd_772 (i32 _ rfl)) ?_
        refine g_icmp_ne K (dOf ck_mX1_chooseFrom rfl rfl) (t := 26) (aJ_of (by decide +kernel)) (fun h4 => ?_) (fun h4 => ?_)
        · exact g_vret K (dOf ck_mX1_chooseFrom rfl rfl).1 rfl rfl
        · refine gl (i' := 27) (fun _ _ => aw_iconst K (n := 0) (i32 _ rfl) (dOf ck_mX1_chooseFrom rfl rfl)) ?_
          refine gl (i' := 28) (fun _ _ => aw_istore K (dOf ck_mX1_chooseFrom rfl rfl) (Nat.le_of_ble_eq_true rfl)) ?_
          refine g_lv (lv' := [(7, .inl _), (6, .inl _), (0, .inr (.inr (.inl (some _)))), (3, .inl _), (4, .inl _), (5, .inl _)]) rfl ?_
          refine g_sub [2, 3, 4, 5, 1, 0] rfl ?_
          exact lk_Cutter_chooseFrom_28 K _ _ _ _ ht _ ih FU _ _
      · exact g_vret K (by decide +kernel) rfl rfl
    · exact g_vret K (by decide +kernel) rfl rfl
def Cutter_chooseFrom (t : Nat) (x1 : Int) (x2 : Int) (mm : aM) : Option aM := Cutter_chooseFrom_6 t FU x1 x2 0 mm
set_option maxHeartbeats 4000000 in
theorem met_Cutter_chooseFrom {l : Launch} {D : va_G} {cA : FieldType → ClassId} {ad adV : Nat → Nat} {z0 : Nat} {t : Nat} {x1 : Int} {x2 : Int} {mm : aM} (ht : okC t) {r : aM} (h : Cutter_chooseFrom t x1 x2 mm = some r) : aMet l D cA ad adV z0 mX1_chooseFrom 2 49 0 0 [.inr (.inr (.inl (some t))), .inl x1, .inl x2] SH mm (rM r).1 SH (rM r).2 := by
  refine aMet_ofG (by decide +kernel) rfl (Nat.le_of_ble_eq_true rfl) h (fun p e s m args below meth c al0 K => ?_)
  unfold Cutter_chooseFrom
  refine gl (i' := 1) (fun _ _ => aw_iload_n K (dOf ck_mX1_chooseFrom rfl rfl) rfl) ?_
  refine gl (i' := 2) (fun _ _ => aw_istore_n K (dOf ck_mX1_chooseFrom rfl rfl) (Nat.le_of_ble_eq_true rfl)) ?_
  refine g_lv (lv' := [(3, .inl _), (0, .inr (.inr (.inl (some _)))), (1, .inl _), (2, .inl _)]) rfl ?_
  refine gl (i' := 3) (fun _ _ => aw_iload_n K (dOf ck_mX1_chooseFrom rfl rfl) rfl) ?_
  refine gl (i' := 4) (fun _ _ => aw_istore K (dOf ck_mX1_chooseFrom rfl rfl) (Nat.le_of_ble_eq_true rfl)) ?_
  refine g_lv (lv' := [(4, .inl _), (3, .inl _), (0, .inr (.inr (.inl (some _)))), (1, .inl _), (2, .inl _)]) rfl ?_
  refine gl (i' := 5) (fun _ _ => aw_iconst K (n := 0) (i32 _ rfl) (dOf ck_mX1_chooseFrom rfl rfl)) ?_
  refine gl (i' := 6) (fun _ _ => aw_istore K (dOf ck_mX1_chooseFrom rfl rfl) (Nat.le_of_ble_eq_true rfl)) ?_
  refine g_lv (lv' := [(5, .inl _), (4, .inl _), (3, .inl _), (0, .inr (.inr (.inl (some _)))), (1, .inl _), (2, .inl _)]) rfl ?_
  refine g_sub [3, 2, 1, 0] rfl ?_
  exact lk_Cutter_chooseFrom_6 K ht FU _ _ _ _
def Cutter_turnToSecond_29 (k5 : Int → aM → Option aM) (t : Nat) (x1 : Int) (x2 : Int) : Nat → Int → aM → Option aM
  | 0, _, _ => none
  | n + 1, x3, mm => if x3 < (mm 25 2) then (if 0 ≤ x1 ∧ x1 < 60 then ((Cutter_priceThrough t (mm (t + 5) x1.toNat) x2 x3 mm).bind fun r9 => (if r9 = 268435456 then (Cutter_turnToSecond_29 k5 t x1 x2 n (w32 (x3 + 1)) mm) else (st1 (aup mm t 8 x1) fun mm11 => ((Cutter_choosePut t x3 (mm11 (t + 5) x1.toNat) mm11).bind fun r12 => (if 0 ≤ x3 ∧ x3 < 12 then ((Cutter_chooseFrom t (w32 ((r12 (t + 5) x1.toNat) + (r12 41 x3.toNat))) (r12 43 x3.toNat) r12).bind fun r14 => (some r14)) else none))))) else none) else (k5 (w32 (x1 + (-1))) mm)
set_option maxHeartbeats 4000000 in
theorem lk_Cutter_turnToSecond_29 {p : Program} {l : Launch} {e : Env} {s : State} {m : MethodId} {args : Array Value} {below : List Frame} {meth : Method} {c : Code} {D : va_G} {cA : FieldType → ClassId} {ad adV : Nat → Nat} {z0 : Nat} {al0 : List Nat} (K : aK p s m args meth c mX1_turnToSecond D cA ad adV z0) {t : Nat} (x1 : Int) (x2 : Int) (ht : okC t) (k5 : Int → aM → Option aM) (hk5 : ∀ (x1 : Int) (mm : aM), aG p l e { frames := 3, cells := 0, slots := 0, locals := 76 } s m args below meth c D cA ad z0 mX1_turnToSecond al0 rM (k5 x1 mm) 5 [(0, .inr (.inr (.inl (some t)))), (1, .inl x1)] [] mm)  : ∀ (n : Nat) (x3 : Int) (mm : aM), aG p l e { frames := 3, cells := 0, slots := 0, locals := 76 } s m args below meth c D cA ad z0 mX1_turnToSecond al0 rM (Cutter_turnToSecond_29 k5 t x1 x2 n x3 mm) 29 [(0, .inr (.inr (.inl (some t)))), (1, .inl x1), (2, .inl x2), (3, .inl x3)] [] mm := by
  intro n
  induction n with
  | zero => intro x3 mm; exact g_none
  | succ n ih =>
    intro x3 mm
    rw [Cutter_turnToSecond_29]
    refine gl (i' := 30) (fun _ _ => aw_iload_n K (dOf ck_mX1_turnToSecond rfl rfl) rfl) ?_
    refine gl (i' := 31) (fun _ _ => aw_aload_n K (dOf ck_mX1_turnToSecond rfl rfl) rfl) ?_
    refine gl (i' := 32) (fun _ _ => aw_getf K (dOf ck_mX1_turnToSecond rfl rfl) (shC_0 ht) rfl (Nat.le_of_ble_eq_true rfl) wd_342 (k := 0) rfl) ?_
    refine gl (i' := 33) (fun _ _ => aw_getf K (dOf ck_mX1_turnToSecond rfl rfl) rfl rfl (Nat.le_of_ble_eq_true rfl) wd_199 (k := 2) rfl) ?_
    refine g_icmp_ge K (dOf ck_mX1_turnToSecond rfl rfl) (t := 74) (aJ_of (by decide +kernel)) (fun h7 => ?_) (fun h7 => ?_)
    · refine gl (i' := 35) (fun _ _ => aw_aload_n K (dOf ck_mX1_turnToSecond rfl rfl) rfl) ?_
      refine gl (i' := 36) (fun _ _ => aw_aload_n K (dOf ck_mX1_turnToSecond rfl rfl) rfl) ?_
      refine gl (i' := 37) (fun _ _ => aw_getf K (dOf ck_mX1_turnToSecond rfl rfl) (shC_0 ht) rfl (Nat.le_of_ble_eq_true rfl) wd_351 (k := 7) rfl) ?_
      refine gl (i' := 38) (fun _ _ => aw_iload_n K (dOf ck_mX1_turnToSecond rfl rfl) rfl) ?_
      refine g_gd (fun hb8 => ?_)
      refine gl (i' := 39) (fun _ _ => aw_iald K (dOf ck_mX1_turnToSecond rfl rfl) (shC_5 ht) hb8) ?_
      refine gl (i' := 40) (fun _ _ => aw_iload_n K (dOf ck_mX1_turnToSecond rfl rfl) rfl) ?_
      refine gl (i' := 41) (fun _ _ => aw_iload_n K (dOf ck_mX1_turnToSecond rfl rfl) rfl) ?_
      refine g_callVI K [.inl _, .inl _, .inl _] rfl (dOf ck_mX1_turnToSecond rfl rfl) al_OneBreath_Cutter_115 (shC_0 ht) rfl ⟨wd_774, wd_23⟩ rfl (Nat.le_of_ble_eq_true rfl) ⟨Nat.le_of_ble_eq_true rfl, Nat.le_of_ble_eq_true rfl⟩ (fun b hb => met_Cutter_priceThrough ht hb) (fun r9 hr9 => ?_)
      refine gl (i' := 43) (fun _ _ => aw_ldc K (dOf ck_mX1_turnToSecond rfl rfl) (n := 268435456) wd_772 (i32 _ rfl)) ?_
      refine g_icmp_eq K (dOf ck_mX1_turnToSecond rfl rfl) (t := 72) (aJ_of (by decide +kernel)) (fun h10 => ?_) (fun h10 => ?_)
      · refine gl (i' := 73) (fun _ _ => aw_iinc K (dOf ck_mX1_turnToSecond rfl rfl) (Nat.le_of_ble_eq_true rfl) rfl) ?_
        refine g_lv (lv' := [(3, .inl _), (0, .inr (.inr (.inl (some _)))), (1, .inl _), (2, .inl _)]) rfl ?_
        refine g_goto K (dOf ck_mX1_turnToSecond rfl rfl).1 (t := 29) (aJ_of (by decide +kernel)) ?_
        refine g_sub [1, 2, 3, 0] rfl ?_
        exact ih _ _
      · refine gl (i' := 45) (fun _ _ => aw_aload_n K (dOf ck_mX1_turnToSecond rfl rfl) rfl) ?_
        refine gl (i' := 46) (fun _ _ => aw_iload_n K (dOf ck_mX1_turnToSecond rfl rfl) rfl) ?_
        refine g_st1 ?_
        refine gl (i' := 47) (fun _ _ => aw_putf K (dOf ck_mX1_turnToSecond rfl rfl) (shC_0 ht) rfl (Nat.le_of_ble_eq_true rfl) wd_353 (k := 8) rfl rfl (Or.inl rfl)) ?_
        refine gl (i' := 48) (fun _ _ => aw_aload_n K (dOf ck_mX1_turnToSecond rfl rfl) rfl) ?_
        refine gl (i' := 49) (fun _ _ => aw_iload_n K (dOf ck_mX1_turnToSecond rfl rfl) rfl) ?_
        refine gl (i' := 50) (fun _ _ => aw_aload_n K (dOf ck_mX1_turnToSecond rfl rfl) rfl) ?_
        refine gl (i' := 51) (fun _ _ => aw_getf K (dOf ck_mX1_turnToSecond rfl rfl) (shC_0 ht) rfl (Nat.le_of_ble_eq_true rfl) wd_351 (k := 7) rfl) ?_
        refine gl (i' := 52) (fun _ _ => aw_iload_n K (dOf ck_mX1_turnToSecond rfl rfl) rfl) ?_
        refine gl (i' := 53) (fun _ _ => aw_iald K (dOf ck_mX1_turnToSecond rfl rfl) (shC_5 ht) hb8) ?_
        refine g_callVM K [.inl _, .inl _] rfl (dOf ck_mX1_turnToSecond rfl rfl) al_OneBreath_Cutter_121 (shC_0 ht) rfl ⟨wd_781, wd_25⟩ rfl (Nat.le_of_ble_eq_true rfl) ⟨Nat.le_of_ble_eq_true rfl, Nat.le_of_ble_eq_true rfl⟩ (fun b hb => met_Cutter_choosePut ht hb) (fun r12 hr12 => ?_)
        refine gl (i' := 55) (fun _ _ => aw_aload_n K (dOf ck_mX1_turnToSecond rfl rfl) rfl) ?_
        refine gl (i' := 56) (fun _ _ => aw_aload_n K (dOf ck_mX1_turnToSecond rfl rfl) rfl) ?_
        refine gl (i' := 57) (fun _ _ => aw_getf K (dOf ck_mX1_turnToSecond rfl rfl) (shC_0 ht) rfl (Nat.le_of_ble_eq_true rfl) wd_351 (k := 7) rfl) ?_
        refine gl (i' := 58) (fun _ _ => aw_iload_n K (dOf ck_mX1_turnToSecond rfl rfl) rfl) ?_
        refine gl (i' := 59) (fun _ _ => aw_iald K (dOf ck_mX1_turnToSecond rfl rfl) (shC_5 ht) hb8) ?_
        refine gl (i' := 60) (fun _ _ => aw_aload_n K (dOf ck_mX1_turnToSecond rfl rfl) rfl) ?_
        refine gl (i' := 61) (fun _ _ => aw_getf K (dOf ck_mX1_turnToSecond rfl rfl) (shC_0 ht) rfl (Nat.le_of_ble_eq_true rfl) wd_342 (k := 0) rfl) ?_
        refine gl (i' := 62) (fun _ _ => aw_getf K (dOf ck_mX1_turnToSecond rfl rfl) rfl rfl (Nat.le_of_ble_eq_true rfl) wd_240 (k := 9) rfl) ?_
        refine gl (i' := 63) (fun _ _ => aw_iload_n K (dOf ck_mX1_turnToSecond rfl rfl) rfl) ?_
        refine g_gd (fun hb13 => ?_)
        refine gl (i' := 64) (fun _ _ => aw_iald K (dOf ck_mX1_turnToSecond rfl rfl) rfl hb13) ?_
        refine gl (i' := 65) (fun _ _ => aw_iadd K (dOf ck_mX1_turnToSecond rfl rfl)) ?_
        refine gl (i' := 66) (fun _ _ => aw_aload_n K (dOf ck_mX1_turnToSecond rfl rfl) rfl) ?_
        refine gl (i' := 67) (fun _ _ => aw_getf K (dOf ck_mX1_turnToSecond rfl rfl) (shC_0 ht) rfl (Nat.le_of_ble_eq_true rfl) wd_342 (k := 0) rfl) ?_
        refine gl (i' := 68) (fun _ _ => aw_getf K (dOf ck_mX1_turnToSecond rfl rfl) rfl rfl (Nat.le_of_ble_eq_true rfl) wd_255 (k := 11) rfl) ?_
        refine gl (i' := 69) (fun _ _ => aw_iload_n K (dOf ck_mX1_turnToSecond rfl rfl) rfl) ?_
        refine gl (i' := 70) (fun _ _ => aw_iald K (dOf ck_mX1_turnToSecond rfl rfl) rfl hb13) ?_
        refine g_callVM K [.inl _, .inl _] rfl (dOf ck_mX1_turnToSecond rfl rfl) al_OneBreath_Cutter_107 (shC_0 ht) rfl ⟨wd_778, wd_24⟩ rfl (Nat.le_of_ble_eq_true rfl) ⟨Nat.le_of_ble_eq_true rfl, Nat.le_of_ble_eq_true rfl⟩ (fun b hb => met_Cutter_chooseFrom ht hb) (fun r14 hr14 => ?_)
        exact g_vret K (dOf ck_mX1_turnToSecond rfl rfl).1 rfl rfl
    · refine gl (i' := 75) (fun _ _ => aw_iinc K (dOf ck_mX1_turnToSecond rfl rfl) (Nat.le_of_ble_eq_true rfl) rfl) ?_
      refine g_lv (lv' := [(1, .inl _), (0, .inr (.inr (.inl (some _)))), (2, .inl _), (3, .inl _)]) rfl ?_
      refine g_goto K (dOf ck_mX1_turnToSecond rfl rfl).1 (t := 5) (aJ_of (by decide +kernel)) ?_
      refine g_sub [1, 0] rfl ?_
      exact hk5 _ _
def Cutter_turnToSecond_21 (k5 : Int → aM → Option aM) (t : Nat) (x1 : Int) (s0 : Int) (mm : aM) : Option aM := if 0 ≤ x1 ∧ x1 < 60 then (Cutter_turnToSecond_29 k5 t x1 s0 FU (w32 ((mm (t + 4) x1.toNat) + 1)) mm) else none
set_option maxHeartbeats 4000000 in
theorem lk_Cutter_turnToSecond_21 {p : Program} {l : Launch} {e : Env} {s : State} {m : MethodId} {args : Array Value} {below : List Frame} {meth : Method} {c : Code} {D : va_G} {cA : FieldType → ClassId} {ad adV : Nat → Nat} {z0 : Nat} {al0 : List Nat} (K : aK p s m args meth c mX1_turnToSecond D cA ad adV z0) {t : Nat} (x1 : Int) (ht : okC t) (k5 : Int → aM → Option aM) (hk5 : ∀ (x1 : Int) (mm : aM), aG p l e { frames := 3, cells := 0, slots := 0, locals := 76 } s m args below meth c D cA ad z0 mX1_turnToSecond al0 rM (k5 x1 mm) 5 [(0, .inr (.inr (.inl (some t)))), (1, .inl x1)] [] mm)  (s0 : Int) (mm : aM) : aG p l e { frames := 3, cells := 0, slots := 0, locals := 76 } s m args below meth c D cA ad z0 mX1_turnToSecond al0 rM (Cutter_turnToSecond_21 k5 t x1 s0 mm) 21 [(0, .inr (.inr (.inl (some t)))), (1, .inl x1)] [.inl s0] mm := by
  unfold Cutter_turnToSecond_21
  refine gl (i' := 22) (fun _ _ => aw_istore_n K (dOf ck_mX1_turnToSecond rfl rfl) (Nat.le_of_ble_eq_true rfl)) ?_
  refine g_lv (lv' := [(2, .inl _), (0, .inr (.inr (.inl (some _)))), (1, .inl _)]) rfl ?_
  refine gl (i' := 23) (fun _ _ => aw_aload_n K (dOf ck_mX1_turnToSecond rfl rfl) rfl) ?_
  refine gl (i' := 24) (fun _ _ => aw_getf K (dOf ck_mX1_turnToSecond rfl rfl) (shC_0 ht) rfl (Nat.le_of_ble_eq_true rfl) wd_348 (k := 6) rfl) ?_
  refine gl (i' := 25) (fun _ _ => aw_iload_n K (dOf ck_mX1_turnToSecond rfl rfl) rfl) ?_
  refine g_gd (fun hb6 => ?_)
  refine gl (i' := 26) (fun _ _ => aw_iald K (dOf ck_mX1_turnToSecond rfl rfl) (shC_4 ht) hb6) ?_
  refine gl (i' := 27) (fun _ _ => aw_iconst K (n := 1) (i32 _ rfl) (dOf ck_mX1_turnToSecond rfl rfl)) ?_
  refine gl (i' := 28) (fun _ _ => aw_iadd K (dOf ck_mX1_turnToSecond rfl rfl)) ?_
  refine gl (i' := 29) (fun _ _ => aw_istore_n K (dOf ck_mX1_turnToSecond rfl rfl) (Nat.le_of_ble_eq_true rfl)) ?_
  refine g_lv (lv' := [(3, .inl _), (2, .inl _), (0, .inr (.inr (.inl (some _)))), (1, .inl _)]) rfl ?_
  refine g_sub [2, 3, 1, 0] rfl ?_
  exact lk_Cutter_turnToSecond_29 K _ _ ht _ hk5 FU _ _
def Cutter_turnToSecond_5 (t : Nat) : Nat → Int → aM → Option aM
  | 0, _, _ => none
  | n + 1, x1, mm => if x1 < 0 then (st1 (aup mm t 8 0) fun mm2 => (some mm2)) else (if x1 = 0 then (Cutter_turnToSecond_21 (Cutter_turnToSecond_5 t n) t x1 4 mm) else (if 0 ≤ (w32 (x1 - 1)) ∧ (w32 (x1 - 1)) < 60 then (if 0 ≤ (mm (t + 4) (w32 (x1 - 1)).toNat) ∧ (mm (t + 4) (w32 (x1 - 1)).toNat) < 12 then (Cutter_turnToSecond_21 (Cutter_turnToSecond_5 t n) t x1 (mm 43 (mm (t + 4) (w32 (x1 - 1)).toNat).toNat) mm) else none) else none))
set_option maxHeartbeats 4000000 in
theorem lk_Cutter_turnToSecond_5 {p : Program} {l : Launch} {e : Env} {s : State} {m : MethodId} {args : Array Value} {below : List Frame} {meth : Method} {c : Code} {D : va_G} {cA : FieldType → ClassId} {ad adV : Nat → Nat} {z0 : Nat} {al0 : List Nat} (K : aK p s m args meth c mX1_turnToSecond D cA ad adV z0) {t : Nat} (ht : okC t)  : ∀ (n : Nat) (x1 : Int) (mm : aM), aG p l e { frames := 3, cells := 0, slots := 0, locals := 76 } s m args below meth c D cA ad z0 mX1_turnToSecond al0 rM (Cutter_turnToSecond_5 t n x1 mm) 5 [(0, .inr (.inr (.inl (some t)))), (1, .inl x1)] [] mm := by
  intro n
  induction n with
  | zero => intro x1 mm; exact g_none
  | succ n ih =>
    intro x1 mm
    rw [Cutter_turnToSecond_5]
    refine gl (i' := 6) (fun _ _ => aw_iload_n K (dOf ck_mX1_turnToSecond rfl rfl) rfl) ?_
    refine g_if_lt K (dOf ck_mX1_turnToSecond rfl rfl) (t := 76) (aJ_of (by decide +kernel)) (fun h1 => ?_) (fun h1 => ?_)
    · refine gl (i' := 77) (fun _ _ => aw_aload_n K (dOf ck_mX1_turnToSecond rfl rfl) rfl) ?_
      refine gl (i' := 78) (fun _ _ => aw_iconst K (n := 0) (i32 _ rfl) (dOf ck_mX1_turnToSecond rfl rfl)) ?_
      refine g_st1 ?_
      refine gl (i' := 79) (fun _ _ => aw_putf K (dOf ck_mX1_turnToSecond rfl rfl) (shC_0 ht) rfl (Nat.le_of_ble_eq_true rfl) wd_353 (k := 8) rfl rfl (Or.inl rfl)) ?_
      exact g_vret K (by decide +kernel) rfl rfl
    · refine gl (i' := 8) (fun _ _ => aw_iload_n K (dOf ck_mX1_turnToSecond rfl rfl) rfl) ?_
      refine g_if_ne K (dOf ck_mX1_turnToSecond rfl rfl) (t := 11) (aJ_of (by decide +kernel)) (fun h3 => ?_) (fun h3 => ?_)
      · refine gl (i' := 10) (fun _ _ => aw_iconst K (n := 4) (i32 _ rfl) (dOf ck_mX1_turnToSecond rfl rfl)) ?_
        refine g_goto K (dOf ck_mX1_turnToSecond rfl rfl).1 (t := 21) (aJ_of (by decide +kernel)) ?_
        refine g_sub [0, 1] rfl ?_
        exact lk_Cutter_turnToSecond_21 K _ ht _ ih _ _
      · refine gl (i' := 12) (fun _ _ => aw_aload_n K (dOf ck_mX1_turnToSecond rfl rfl) rfl) ?_
        refine gl (i' := 13) (fun _ _ => aw_getf K (dOf ck_mX1_turnToSecond rfl rfl) (shC_0 ht) rfl (Nat.le_of_ble_eq_true rfl) wd_342 (k := 0) rfl) ?_
        refine gl (i' := 14) (fun _ _ => aw_getf K (dOf ck_mX1_turnToSecond rfl rfl) rfl rfl (Nat.le_of_ble_eq_true rfl) wd_255 (k := 11) rfl) ?_
        refine gl (i' := 15) (fun _ _ => aw_aload_n K (dOf ck_mX1_turnToSecond rfl rfl) rfl) ?_
        refine gl (i' := 16) (fun _ _ => aw_getf K (dOf ck_mX1_turnToSecond rfl rfl) (shC_0 ht) rfl (Nat.le_of_ble_eq_true rfl) wd_348 (k := 6) rfl) ?_
        refine gl (i' := 17) (fun _ _ => aw_iload_n K (dOf ck_mX1_turnToSecond rfl rfl) rfl) ?_
        refine gl (i' := 18) (fun _ _ => aw_iconst K (n := 1) (i32 _ rfl) (dOf ck_mX1_turnToSecond rfl rfl)) ?_
        refine gl (i' := 19) (fun _ _ => aw_isub K (dOf ck_mX1_turnToSecond rfl rfl)) ?_
        refine g_gd (fun hb4 => ?_)
        refine gl (i' := 20) (fun _ _ => aw_iald K (dOf ck_mX1_turnToSecond rfl rfl) (shC_4 ht) hb4) ?_
        refine g_gd (fun hb5 => ?_)
        refine gl (i' := 21) (fun _ _ => aw_iald K (dOf ck_mX1_turnToSecond rfl rfl) rfl hb5) ?_
        refine g_sub [0, 1] rfl ?_
        exact lk_Cutter_turnToSecond_21 K _ ht _ ih _ _
def Cutter_turnToSecond (t : Nat) (mm : aM) : Option aM := Cutter_turnToSecond_5 t FU (w32 ((mm t 8) - 1)) mm
set_option maxHeartbeats 4000000 in
theorem met_Cutter_turnToSecond {l : Launch} {D : va_G} {cA : FieldType → ClassId} {ad adV : Nat → Nat} {z0 : Nat} {t : Nat} {mm : aM} (ht : okC t) {r : aM} (h : Cutter_turnToSecond t mm = some r) : aMet l D cA ad adV z0 mX1_turnToSecond 3 76 0 0 [.inr (.inr (.inl (some t)))] SH mm (rM r).1 SH (rM r).2 := by
  refine aMet_ofG (by decide +kernel) rfl (Nat.le_of_ble_eq_true rfl) h (fun p e s m args below meth c al0 K => ?_)
  unfold Cutter_turnToSecond
  refine gl (i' := 1) (fun _ _ => aw_aload_n K (dOf ck_mX1_turnToSecond rfl rfl) rfl) ?_
  refine gl (i' := 2) (fun _ _ => aw_getf K (dOf ck_mX1_turnToSecond rfl rfl) (shC_0 ht) rfl (Nat.le_of_ble_eq_true rfl) wd_353 (k := 8) rfl) ?_
  refine gl (i' := 3) (fun _ _ => aw_iconst K (n := 1) (i32 _ rfl) (dOf ck_mX1_turnToSecond rfl rfl)) ?_
  refine gl (i' := 4) (fun _ _ => aw_isub K (dOf ck_mX1_turnToSecond rfl rfl)) ?_
  refine gl (i' := 5) (fun _ _ => aw_istore_n K (dOf ck_mX1_turnToSecond rfl rfl) (Nat.le_of_ble_eq_true rfl)) ?_
  refine g_lv (lv' := [(1, .inl _), (0, .inr (.inr (.inl (some _))))]) rfl ?_
  refine g_sub [1, 0] rfl ?_
  exact lk_Cutter_turnToSecond_5 K ht FU _ _
def Cutter_choose_41 (t : Nat) (x1 : Int) (mm : aM) : Option aM := st1 (aup mm t 9 x1) fun mm6 => (some mm6)
set_option maxHeartbeats 4000000 in
theorem lk_Cutter_choose_41 {p : Program} {l : Launch} {e : Env} {s : State} {m : MethodId} {args : Array Value} {below : List Frame} {meth : Method} {c : Code} {D : va_G} {cA : FieldType → ClassId} {ad adV : Nat → Nat} {z0 : Nat} {al0 : List Nat} (K : aK p s m args meth c mX1_choose D cA ad adV z0) {t : Nat} (x1 : Int) (ht : okC t)  (mm : aM) : aG p l e { frames := 4, cells := 0, slots := 0, locals := 99 } s m args below meth c D cA ad z0 mX1_choose al0 rM (Cutter_choose_41 t x1 mm) 41 [(0, .inr (.inr (.inl (some t)))), (1, .inl x1)] [] mm := by
  unfold Cutter_choose_41
  refine gl (i' := 42) (fun _ _ => aw_aload_n K (dOf ck_mX1_choose rfl rfl) rfl) ?_
  refine gl (i' := 43) (fun _ _ => aw_iload_n K (dOf ck_mX1_choose rfl rfl) rfl) ?_
  refine g_st1 ?_
  refine gl (i' := 44) (fun _ _ => aw_putf K (dOf ck_mX1_choose rfl rfl) (shC_0 ht) rfl (Nat.le_of_ble_eq_true rfl) wd_355 (k := 9) rfl rfl (Or.inl rfl)) ?_
  exact g_vret K (by decide +kernel) rfl rfl
def Cutter_choose_10 (k6 : Int → aM → Option aM) (t : Nat) (x1 : Int) (x2 : Int) : Nat → Int → aM → Option aM
  | 0, _, _ => none
  | n + 1, x3, mm => if x3 < 5 then ((Cutter_leastFrom t x2 x3 mm).bind fun r9 => (if 0 ≤ (w32 ((w32 (x2 * 5)) + x3)) ∧ (w32 ((w32 (x2 * 5)) + x3)) < 305 then (st1 (aup mm (t + 2) (w32 ((w32 (x2 * 5)) + x3)).toNat r9) fun mm11 => (Cutter_choose_10 k6 t x1 x2 n (w32 (x3 + 1)) mm11)) else none)) else (k6 (w32 (x2 + (-1))) mm)
set_option maxHeartbeats 4000000 in
theorem lk_Cutter_choose_10 {p : Program} {l : Launch} {e : Env} {s : State} {m : MethodId} {args : Array Value} {below : List Frame} {meth : Method} {c : Code} {D : va_G} {cA : FieldType → ClassId} {ad adV : Nat → Nat} {z0 : Nat} {al0 : List Nat} (K : aK p s m args meth c mX1_choose D cA ad adV z0) {t : Nat} (x1 : Int) (x2 : Int) (ht : okC t) (k6 : Int → aM → Option aM) (hk6 : ∀ (x2 : Int) (mm : aM), aG p l e { frames := 4, cells := 0, slots := 0, locals := 99 } s m args below meth c D cA ad z0 mX1_choose al0 rM (k6 x2 mm) 6 [(0, .inr (.inr (.inl (some t)))), (1, .inl x1), (2, .inl x2)] [] mm)  : ∀ (n : Nat) (x3 : Int) (mm : aM), aG p l e { frames := 4, cells := 0, slots := 0, locals := 99 } s m args below meth c D cA ad z0 mX1_choose al0 rM (Cutter_choose_10 k6 t x1 x2 n x3 mm) 10 [(0, .inr (.inr (.inl (some t)))), (1, .inl x1), (2, .inl x2), (3, .inl x3)] [] mm := by
  intro n
  induction n with
  | zero => intro x3 mm; exact g_none
  | succ n ih =>
    intro x3 mm
    rw [Cutter_choose_10]
    refine gl (i' := 11) (fun _ _ => aw_iload_n K (dOf ck_mX1_choose rfl rfl) rfl) ?_
    refine gl (i' := 12) (fun _ _ => aw_iconst K (n := 5) (i32 _ rfl) (dOf ck_mX1_choose rfl rfl)) ?_
    refine g_icmp_ge K (dOf ck_mX1_choose rfl rfl) (t := 27) (aJ_of (by decide +kernel)) (fun h8 => ?_) (fun h8 => ?_)
    · refine gl (i' := 14) (fun _ _ => aw_aload_n K (dOf ck_mX1_choose rfl rfl) rfl) ?_
      refine gl (i' := 15) (fun _ _ => aw_getf K (dOf ck_mX1_choose rfl rfl) (shC_0 ht) rfl (Nat.le_of_ble_eq_true rfl) wd_345 (k := 3) rfl) ?_
      refine gl (i' := 16) (fun _ _ => aw_iload_n K (dOf ck_mX1_choose rfl rfl) rfl) ?_
      refine gl (i' := 17) (fun _ _ => aw_iconst K (n := 5) (i32 _ rfl) (dOf ck_mX1_choose rfl rfl)) ?_
      refine gl (i' := 18) (fun _ _ => aw_imul K (dOf ck_mX1_choose rfl rfl)) ?_
      refine gl (i' := 19) (fun _ _ => aw_iload_n K (dOf ck_mX1_choose rfl rfl) rfl) ?_
      refine gl (i' := 20) (fun _ _ => aw_iadd K (dOf ck_mX1_choose rfl rfl)) ?_
      refine gl (i' := 21) (fun _ _ => aw_aload_n K (dOf ck_mX1_choose rfl rfl) rfl) ?_
      refine gl (i' := 22) (fun _ _ => aw_iload_n K (dOf ck_mX1_choose rfl rfl) rfl) ?_
      refine gl (i' := 23) (fun _ _ => aw_iload_n K (dOf ck_mX1_choose rfl rfl) rfl) ?_
      refine g_callVI K [.inl _, .inl _] rfl (dOf ck_mX1_choose rfl rfl) al_OneBreath_Cutter_101 (shC_0 ht) rfl ⟨wd_770, wd_22⟩ rfl (Nat.le_of_ble_eq_true rfl) ⟨Nat.le_of_ble_eq_true rfl, Nat.le_of_ble_eq_true rfl⟩ (fun b hb => met_Cutter_leastFrom ht hb) (fun r9 hr9 => ?_)
      refine g_gd (fun hb10 => ?_)
      refine g_st1 ?_
      refine gl (i' := 25) (fun _ _ => aw_iast K (dOf ck_mX1_choose rfl rfl) (shC_2 ht) hb10) ?_
      refine gl (i' := 26) (fun _ _ => aw_iinc K (dOf ck_mX1_choose rfl rfl) (Nat.le_of_ble_eq_true rfl) rfl) ?_
      refine g_lv (lv' := [(3, .inl _), (0, .inr (.inr (.inl (some _)))), (1, .inl _), (2, .inl _)]) rfl ?_
      refine g_goto K (dOf ck_mX1_choose rfl rfl).1 (t := 10) (aJ_of (by decide +kernel)) ?_
      refine g_sub [1, 2, 3, 0] rfl ?_
      exact ih _ _
    · refine gl (i' := 28) (fun _ _ => aw_iinc K (dOf ck_mX1_choose rfl rfl) (Nat.le_of_ble_eq_true rfl) rfl) ?_
      refine g_lv (lv' := [(2, .inl _), (0, .inr (.inr (.inl (some _)))), (1, .inl _), (3, .inl _)]) rfl ?_
      refine g_goto K (dOf ck_mX1_choose rfl rfl).1 (t := 6) (aJ_of (by decide +kernel)) ?_
      refine g_sub [1, 2, 0] rfl ?_
      exact hk6 _ _
def Cutter_choose_6 (t : Nat) (x1 : Int) : Nat → Int → aM → Option aM
  | 0, _, _ => none
  | n + 1, x2, mm => if x2 < 0 then (st1 (aup mm t 8 0) fun mm3 => ((Cutter_chooseFrom t 0 4 mm3).bind fun r4 => (if x1 = 1 then ((Cutter_turnToSecond t r4).bind fun r7 => (Cutter_choose_41 t x1 r7)) else (Cutter_choose_41 t x1 r4)))) else (Cutter_choose_10 (Cutter_choose_6 t x1 n) t x1 x2 FU 0 mm)
set_option maxHeartbeats 4000000 in
theorem lk_Cutter_choose_6 {p : Program} {l : Launch} {e : Env} {s : State} {m : MethodId} {args : Array Value} {below : List Frame} {meth : Method} {c : Code} {D : va_G} {cA : FieldType → ClassId} {ad adV : Nat → Nat} {z0 : Nat} {al0 : List Nat} (K : aK p s m args meth c mX1_choose D cA ad adV z0) {t : Nat} (x1 : Int) (ht : okC t)  : ∀ (n : Nat) (x2 : Int) (mm : aM), aG p l e { frames := 4, cells := 0, slots := 0, locals := 99 } s m args below meth c D cA ad z0 mX1_choose al0 rM (Cutter_choose_6 t x1 n x2 mm) 6 [(0, .inr (.inr (.inl (some t)))), (1, .inl x1), (2, .inl x2)] [] mm := by
  intro n
  induction n with
  | zero => intro x2 mm; exact g_none
  | succ n ih =>
    intro x2 mm
    rw [Cutter_choose_6]
    refine gl (i' := 7) (fun _ _ => aw_iload_n K (dOf ck_mX1_choose rfl rfl) rfl) ?_
    refine g_if_lt K (dOf ck_mX1_choose rfl rfl) (t := 29) (aJ_of (by decide +kernel)) (fun h2 => ?_) (fun h2 => ?_)
    · refine gl (i' := 30) (fun _ _ => aw_aload_n K (dOf ck_mX1_choose rfl rfl) rfl) ?_
      refine gl (i' := 31) (fun _ _ => aw_iconst K (n := 0) (i32 _ rfl) (dOf ck_mX1_choose rfl rfl)) ?_
      refine g_st1 ?_
      refine gl (i' := 32) (fun _ _ => aw_putf K (dOf ck_mX1_choose rfl rfl) (shC_0 ht) rfl (Nat.le_of_ble_eq_true rfl) wd_353 (k := 8) rfl rfl (Or.inl rfl)) ?_
      refine gl (i' := 33) (fun _ _ => aw_aload_n K (dOf ck_mX1_choose rfl rfl) rfl) ?_
      refine gl (i' := 34) (fun _ _ => aw_iconst K (n := 0) (i32 _ rfl) (dOf ck_mX1_choose rfl rfl)) ?_
      refine gl (i' := 35) (fun _ _ => aw_iconst K (n := 4) (i32 _ rfl) (dOf ck_mX1_choose rfl rfl)) ?_
      refine g_callVM K [.inl _, .inl _] rfl (dOf ck_mX1_choose rfl rfl) al_OneBreath_Cutter_107 (shC_0 ht) rfl ⟨wd_778, wd_24⟩ rfl (Nat.le_of_ble_eq_true rfl) ⟨Nat.le_of_ble_eq_true rfl, Nat.le_of_ble_eq_true rfl⟩ (fun b hb => met_Cutter_chooseFrom ht hb) (fun r4 hr4 => ?_)
      refine gl (i' := 37) (fun _ _ => aw_iload_n K (dOf ck_mX1_choose rfl rfl) rfl) ?_
      refine gl (i' := 38) (fun _ _ => aw_iconst K (n := 1) (i32 _ rfl) (dOf ck_mX1_choose rfl rfl)) ?_
      refine g_icmp_ne K (dOf ck_mX1_choose rfl rfl) (t := 41) (aJ_of (by decide +kernel)) (fun h5 => ?_) (fun h5 => ?_)
      · refine gl (i' := 40) (fun _ _ => aw_aload_n K (dOf ck_mX1_choose rfl rfl) rfl) ?_
        refine g_callVM K [] rfl (dOf ck_mX1_choose rfl rfl) al_OneBreath_Cutter_111 (shC_0 ht) rfl ⟨wd_784, wd_26⟩ rfl (Nat.le_of_ble_eq_true rfl) ⟨Nat.le_of_ble_eq_true rfl, Nat.le_of_ble_eq_true rfl⟩ (fun b hb => met_Cutter_turnToSecond ht hb) (fun r7 hr7 => ?_)
        refine g_sub [0, 1] rfl ?_
        exact lk_Cutter_choose_41 K _ ht _
      · refine g_sub [0, 1] rfl ?_
        exact lk_Cutter_choose_41 K _ ht _
    · refine gl (i' := 9) (fun _ _ => aw_iconst K (n := 0) (i32 _ rfl) (dOf ck_mX1_choose rfl rfl)) ?_
      refine gl (i' := 10) (fun _ _ => aw_istore_n K (dOf ck_mX1_choose rfl rfl) (Nat.le_of_ble_eq_true rfl)) ?_
      refine g_lv (lv' := [(3, .inl _), (0, .inr (.inr (.inl (some _)))), (1, .inl _), (2, .inl _)]) rfl ?_
      refine g_sub [1, 2, 3, 0] rfl ?_
      exact lk_Cutter_choose_10 K _ _ ht _ ih FU _ _
def Cutter_choose (t : Nat) (x1 : Int) (mm : aM) : Option aM := st1 (aup mm t 5 x1) fun mm1 => (Cutter_choose_6 t x1 FU (mm1 t 1) mm1)
set_option maxHeartbeats 4000000 in
theorem met_Cutter_choose {l : Launch} {D : va_G} {cA : FieldType → ClassId} {ad adV : Nat → Nat} {z0 : Nat} {t : Nat} {x1 : Int} {mm : aM} (ht : okC t) {r : aM} (h : Cutter_choose t x1 mm = some r) : aMet l D cA ad adV z0 mX1_choose 4 99 0 0 [.inr (.inr (.inl (some t))), .inl x1] SH mm (rM r).1 SH (rM r).2 := by
  refine aMet_ofG (by decide +kernel) rfl (Nat.le_of_ble_eq_true rfl) h (fun p e s m args below meth c al0 K => ?_)
  unfold Cutter_choose
  refine gl (i' := 1) (fun _ _ => aw_aload_n K (dOf ck_mX1_choose rfl rfl) rfl) ?_
  refine gl (i' := 2) (fun _ _ => aw_iload_n K (dOf ck_mX1_choose rfl rfl) rfl) ?_
  refine g_st1 ?_
  refine gl (i' := 3) (fun _ _ => aw_putf K (dOf ck_mX1_choose rfl rfl) (shC_0 ht) rfl (Nat.le_of_ble_eq_true rfl) wd_347 (k := 5) rfl rfl (Or.inl rfl)) ?_
  refine gl (i' := 4) (fun _ _ => aw_aload_n K (dOf ck_mX1_choose rfl rfl) rfl) ?_
  refine gl (i' := 5) (fun _ _ => aw_getf K (dOf ck_mX1_choose rfl rfl) (shC_0 ht) rfl (Nat.le_of_ble_eq_true rfl) wd_343 (k := 1) rfl) ?_
  refine gl (i' := 6) (fun _ _ => aw_istore_n K (dOf ck_mX1_choose rfl rfl) (Nat.le_of_ble_eq_true rfl)) ?_
  refine g_lv (lv' := [(2, .inl _), (0, .inr (.inr (.inl (some _)))), (1, .inl _)]) rfl ?_
  refine g_sub [1, 2, 0] rfl ?_
  exact lk_Cutter_choose_6 K _ ht FU _ _
def B_cutBreath (x1 : Int) (mm : aM) : Option aM := if (mm 61 9) = x1 then (some mm) else ((Cutter_lay 61 47 mm).bind fun r2 => ((Cutter_choose 61 x1 r2).bind fun r3 => (some r3)))
set_option maxHeartbeats 4000000 in
theorem met_B_cutBreath {l : Launch} {D : va_G} {cA : FieldType → ClassId} {ad adV : Nat → Nat} {z0 : Nat} {x1 : Int} {mm : aM}  {r : aM} (h : B_cutBreath x1 mm = some r) : aMet l D cA ad adV z0 mX11_cutBreath 5 122 0 0 [.inr (.inr (.inl (some 0))), .inl x1] SH mm (rM r).1 SH (rM r).2 := by
  refine aMet_ofG (by decide +kernel) rfl (Nat.le_of_ble_eq_true rfl) h (fun p e s m args below meth c al0 K => ?_)
  unfold B_cutBreath
  refine gl (i' := 1) (fun _ _ => aw_aload_n K (dOf ck_mX11_cutBreath rfl rfl) rfl) ?_
  refine gl (i' := 2) (fun _ _ => aw_getf K (dOf ck_mX11_cutBreath rfl rfl) rfl rfl (Nat.le_of_ble_eq_true rfl) wd_466 (k := 6) rfl) ?_
  refine gl (i' := 3) (fun _ _ => aw_getf K (dOf ck_mX11_cutBreath rfl rfl) rfl rfl (Nat.le_of_ble_eq_true rfl) wd_356 (k := 9) rfl) ?_
  refine gl (i' := 4) (fun _ _ => aw_iload_n K (dOf ck_mX11_cutBreath rfl rfl) rfl) ?_
  refine g_icmp_eq K (dOf ck_mX11_cutBreath rfl rfl) (t := 14) (aJ_of (by decide +kernel)) (fun h1 => ?_) (fun h1 => ?_)
  · exact g_vret K (by decide +kernel) rfl rfl
  · refine gl (i' := 6) (fun _ _ => aw_aload_n K (dOf ck_mX11_cutBreath rfl rfl) rfl) ?_
    refine gl (i' := 7) (fun _ _ => aw_getf K (dOf ck_mX11_cutBreath rfl rfl) rfl rfl (Nat.le_of_ble_eq_true rfl) wd_466 (k := 6) rfl) ?_
    refine gl (i' := 8) (fun _ _ => aw_aload_n K (dOf ck_mX11_cutBreath rfl rfl) rfl) ?_
    refine gl (i' := 9) (fun _ _ => aw_getf K (dOf ck_mX11_cutBreath rfl rfl) rfl rfl (Nat.le_of_ble_eq_true rfl) wd_462 (k := 2) rfl) ?_
    refine g_callVM K [.inr (.inr (.inl (some _)))] rfl (dOf ck_mX11_cutBreath rfl rfl) al_OneBreath_236 rfl rfl ⟨wd_735, wd_736⟩ rfl (Nat.le_of_ble_eq_true rfl) ⟨Nat.le_of_ble_eq_true rfl, Nat.le_of_ble_eq_true rfl⟩ (fun b hb => met_Cutter_lay (by unfold okC; omega) (by unfold okS; omega) hb) (fun r2 hr2 => ?_)
    refine gl (i' := 11) (fun _ _ => aw_aload_n K (dOf ck_mX11_cutBreath rfl rfl) rfl) ?_
    refine gl (i' := 12) (fun _ _ => aw_getf K (dOf ck_mX11_cutBreath rfl rfl) rfl rfl (Nat.le_of_ble_eq_true rfl) wd_466 (k := 6) rfl) ?_
    refine gl (i' := 13) (fun _ _ => aw_iload_n K (dOf ck_mX11_cutBreath rfl rfl) rfl) ?_
    refine g_callVM K [.inl _] rfl (dOf ck_mX11_cutBreath rfl rfl) al_OneBreath_316 rfl rfl ⟨wd_766, wd_767⟩ rfl (Nat.le_of_ble_eq_true rfl) ⟨Nat.le_of_ble_eq_true rfl, Nat.le_of_ble_eq_true rfl⟩ (fun b hb => met_Cutter_choose (by unfold okC; omega) hb) (fun r3 hr3 => ?_)
    exact g_vret K (by decide +kernel) rfl rfl
