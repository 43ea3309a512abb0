def Cutter_chosenAt (t : Nat) (x1 : Int) (mm : aM) : Option Int := if x1 < 0 then (some (-1)) else (if x1 < (mm t 8) then (if 0 ≤ x1 ∧ x1 < 60 then (some (mm (t + 4) x1.toNat)) else none) else (some (-1)))
set_option maxHeartbeats 4000000 in
theorem met_Cutter_chosenAt {l : Launch} {D : va_G} {cA : FieldType → ClassId} {ad adV : Nat → Nat} {z0 : Nat} {t : Nat} {x1 : Int} {mm : aM} (ht : okC t) {r : Int} (h : Cutter_chosenAt t x1 mm = some r) : aMet l D cA ad adV z0 mX1_chosenAt 0 0 0 0 [.inr (.inr (.inl (some t))), .inl x1] SH mm ((rI mm) r).1 SH ((rI mm) r).2 := by
  refine aMet_ofG (by decide +kernel) rfl (Nat.le_of_ble_eq_true rfl) h (fun p e s m args below meth c al0 K => ?_)
  unfold Cutter_chosenAt
  refine gl (i' := 1) (fun _ _ => aw_iload_n K (dOf ck_mX1_chosenAt rfl rfl) rfl) ?_
  refine g_if_lt K (dOf ck_mX1_chosenAt rfl rfl) (t := 11) (aJ_of (by decide +kernel)) (fun h1 => ?_) (fun h1 => ?_)
  · refine gl (i' := 12) (fun _ _ => aw_iconst K (n := -1) (i32 _ rfl) (dOf ck_mX1_chosenAt rfl rfl)) ?_
    exact g_iret K (by decide +kernel) rfl (Or.inl rfl) rfl
  · refine gl (i' := 3) (fun _ _ => aw_iload_n K (dOf ck_mX1_chosenAt rfl rfl) rfl) ?_
    refine gl (i' := 4) (fun _ _ => aw_aload_n K (dOf ck_mX1_chosenAt rfl rfl) rfl) ?_
    refine gl (i' := 5) (fun _ _ => aw_getf K (dOf ck_mX1_chosenAt rfl rfl) (shC_0 ht) rfl (Nat.le_of_ble_eq_true rfl) wd_353 (k := 8) rfl) ?_
    refine g_icmp_ge K (dOf ck_mX1_chosenAt rfl rfl) (t := 11) (aJ_of (by decide +kernel)) (fun h2 => ?_) (fun h2 => ?_)
    · refine gl (i' := 7) (fun _ _ => aw_aload_n K (dOf ck_mX1_chosenAt rfl rfl) rfl) ?_
      refine gl (i' := 8) (fun _ _ => aw_getf K (dOf ck_mX1_chosenAt rfl rfl) (shC_0 ht) rfl (Nat.le_of_ble_eq_true rfl) wd_348 (k := 6) rfl) ?_
      refine gl (i' := 9) (fun _ _ => aw_iload_n K (dOf ck_mX1_chosenAt rfl rfl) rfl) ?_
      refine g_gd (fun hb3 => ?_)
      refine gl (i' := 10) (fun _ _ => aw_iald K (dOf ck_mX1_chosenAt rfl rfl) (shC_4 ht) hb3) ?_
      refine g_goto K (dOf ck_mX1_chosenAt rfl rfl).1 (t := 12) (aJ_of (by decide +kernel)) ?_
      exact g_iret K (by decide +kernel) rfl (Or.inl rfl) rfl
    · refine gl (i' := 12) (fun _ _ => aw_iconst K (n := -1) (i32 _ rfl) (dOf ck_mX1_chosenAt rfl rfl)) ?_
      exact g_iret K (by decide +kernel) rfl (Or.inl rfl) rfl
def B_cut (x1 : Int) (x2 : Int) (mm : aM) : Option (Int × aM) := (B_isCut x1 mm).bind fun r1 => (if r1 = 0 then (some ((-2), mm)) else (if x2 < (-1) then (some ((-3), mm)) else ((B_cutBreath x1 mm).bind fun r4 => (if (r4 61 8) = 0 then (some ((-1), r4)) else (if x2 = (-1) then (some (r4 61 8, r4)) else ((Cutter_chosenAt 61 x2 r4).bind fun r7 => (some (r7, r4))))))))
set_option maxHeartbeats 4000000 in
theorem met_B_cut {l : Launch} {D : va_G} {cA : FieldType → ClassId} {ad adV : Nat → Nat} {z0 : Nat} {x1 : Int} {x2 : Int} {mm : aM}  {r : Int × aM} (h : B_cut x1 x2 mm = some r) : aMet l D cA ad adV z0 mX11_cut 6 143 0 0 [.inr (.inr (.inl (some 0))), .inl x1, .inl x2] SH mm (rIM r).1 SH (rIM r).2 := by
  refine aMet_ofG (by decide +kernel) rfl (Nat.le_of_ble_eq_true rfl) h (fun p e s m args below meth c al0 K => ?_)
  unfold B_cut
  refine gl (i' := 1) (fun _ _ => aw_iload_n K (dOf ck_mX11_cut rfl rfl) rfl) ?_
  refine g_callSI K [.inl _] rfl (dOf ck_mX11_cut rfl rfl) al_OneBreath_243 wd_760 rfl (Nat.le_of_ble_eq_true rfl) ⟨Nat.le_of_ble_eq_true rfl, Nat.le_of_ble_eq_true rfl⟩ (fun b hb => met_B_isCut  hb) (fun r1 hr1 => ?_)
  refine g_if_ne K (dOf ck_mX11_cut rfl rfl) (t := 5) (aJ_of (by decide +kernel)) (fun h2 => ?_) (fun h2 => ?_)
  · refine gl (i' := 4) (fun _ _ => aw_bip K (dOf ck_mX11_cut rfl rfl) (v := -2) rfl) ?_
    exact g_iret K (dOf ck_mX11_cut rfl rfl).1 rfl (Or.inl rfl) rfl
  · refine gl (i' := 6) (fun _ _ => aw_iload_n K (dOf ck_mX11_cut rfl rfl) rfl) ?_
    refine gl (i' := 7) (fun _ _ => aw_iconst K (n := -1) (i32 _ rfl) (dOf ck_mX11_cut rfl rfl)) ?_
    refine g_icmp_ge K (dOf ck_mX11_cut rfl rfl) (t := 10) (aJ_of (by decide +kernel)) (fun h3 => ?_) (fun h3 => ?_)
    · refine gl (i' := 9) (fun _ _ => aw_bip K (dOf ck_mX11_cut rfl rfl) (v := -3) rfl) ?_
      exact g_iret K (dOf ck_mX11_cut rfl rfl).1 rfl (Or.inl rfl) rfl
    · refine gl (i' := 11) (fun _ _ => aw_aload_n K (dOf ck_mX11_cut rfl rfl) rfl) ?_
      refine gl (i' := 12) (fun _ _ => aw_iload_n K (dOf ck_mX11_cut rfl rfl) rfl) ?_
      refine g_callVM K [.inl _] rfl (dOf ck_mX11_cut rfl rfl) al_OneBreath_246 rfl rfl ⟨wd_763, wd_21⟩ rfl (Nat.le_of_ble_eq_true rfl) ⟨Nat.le_of_ble_eq_true rfl, Nat.le_of_ble_eq_true rfl⟩ (fun b hb => met_B_cutBreath  hb) (fun r4 hr4 => ?_)
      refine gl (i' := 14) (fun _ _ => aw_aload_n K (dOf ck_mX11_cut rfl rfl) rfl) ?_
      refine gl (i' := 15) (fun _ _ => aw_getf K (dOf ck_mX11_cut rfl rfl) rfl rfl (Nat.le_of_ble_eq_true rfl) wd_466 (k := 6) rfl) ?_
      refine gl (i' := 16) (fun _ _ => aw_getf K (dOf ck_mX11_cut rfl rfl) rfl rfl (Nat.le_of_ble_eq_true rfl) wd_354 (k := 8) rfl) ?_
      refine g_if_ne K (dOf ck_mX11_cut rfl rfl) (t := 19) (aJ_of (by decide +kernel)) (fun h5 => ?_) (fun h5 => ?_)
      · refine gl (i' := 18) (fun _ _ => aw_iconst K (n := -1) (i32 _ rfl) (dOf ck_mX11_cut rfl rfl)) ?_
        exact g_iret K (dOf ck_mX11_cut rfl rfl).1 rfl (Or.inl rfl) rfl
      · refine gl (i' := 20) (fun _ _ => aw_iload_n K (dOf ck_mX11_cut rfl rfl) rfl) ?_
        refine gl (i' := 21) (fun _ _ => aw_iconst K (n := -1) (i32 _ rfl) (dOf ck_mX11_cut rfl rfl)) ?_
        refine g_icmp_ne K (dOf ck_mX11_cut rfl rfl) (t := 26) (aJ_of (by decide +kernel)) (fun h6 => ?_) (fun h6 => ?_)
        · refine gl (i' := 23) (fun _ _ => aw_aload_n K (dOf ck_mX11_cut rfl rfl) rfl) ?_
          refine gl (i' := 24) (fun _ _ => aw_getf K (dOf ck_mX11_cut rfl rfl) rfl rfl (Nat.le_of_ble_eq_true rfl) wd_466 (k := 6) rfl) ?_
          refine gl (i' := 25) (fun _ _ => aw_getf K (dOf ck_mX11_cut rfl rfl) rfl rfl (Nat.le_of_ble_eq_true rfl) wd_354 (k := 8) rfl) ?_
          refine g_goto K (dOf ck_mX11_cut rfl rfl).1 (t := 30) (aJ_of (by decide +kernel)) ?_
          exact g_iret K (by decide +kernel) rfl (Or.inl rfl) rfl
        · refine gl (i' := 27) (fun _ _ => aw_aload_n K (dOf ck_mX11_cut rfl rfl) rfl) ?_
          refine gl (i' := 28) (fun _ _ => aw_getf K (dOf ck_mX11_cut rfl rfl) rfl rfl (Nat.le_of_ble_eq_true rfl) wd_466 (k := 6) rfl) ?_
          refine gl (i' := 29) (fun _ _ => aw_iload_n K (dOf ck_mX11_cut rfl rfl) rfl) ?_
          refine g_callVI K [.inl _] rfl (dOf ck_mX11_cut rfl rfl) al_OneBreath_252 rfl rfl ⟨wd_787, wd_788⟩ rfl (Nat.le_of_ble_eq_true rfl) ⟨Nat.le_of_ble_eq_true rfl, Nat.le_of_ble_eq_true rfl⟩ (fun b hb => met_Cutter_chosenAt (by unfold okC; omega) hb) (fun r7 hr7 => ?_)
          exact g_iret K (by decide +kernel) rfl (Or.inl rfl) rfl
def Cutter_chosenMisses_4 (mm : aM) (t : Nat) : Nat → Int → Int → Option Int
  | 0, _, _ => none
  | n + 1, x1, x2 => if x2 < (mm t 8) then (if 0 ≤ x2 ∧ x2 < 60 then (if 0 ≤ (w32 ((w32 ((mm (t + 5) x2.toNat) * 12)) + (mm (t + 4) x2.toNat))) ∧ (w32 ((w32 ((mm (t + 5) x2.toNat) * 12)) + (mm (t + 4) x2.toNat))) < 720 then (Cutter_chosenMisses_4 mm t n (w32 (x1 + (mm (t + 1) (w32 ((w32 ((mm (t + 5) x2.toNat) * 12)) + (mm (t + 4) x2.toNat))).toNat))) (w32 (x2 + 1))) else none) else none) else (some x1)
set_option maxHeartbeats 4000000 in
theorem lk_Cutter_chosenMisses_4 {p : Program} {l : Launch} {e : Env} {s : State} {m : MethodId} {args : Array Value} {below : List Frame} {meth : Method} {c : Code} {D : va_G} {cA : FieldType → ClassId} {ad adV : Nat → Nat} {z0 : Nat} {al0 : List Nat} {mm : aM} (K : aK p s m args meth c mX1_chosenMisses D cA ad adV z0) {t : Nat} (ht : okC t)  : ∀ (n : Nat) (x1 : Int) (x2 : Int), aG p l e { frames := 0, cells := 0, slots := 0, locals := 0 } s m args below meth c D cA ad z0 mX1_chosenMisses al0 (rI mm) (Cutter_chosenMisses_4 mm t n x1 x2) 4 [(0, .inr (.inr (.inl (some t)))), (1, .inl x1), (2, .inl x2)] [] mm := by
  intro n
  induction n with
  | zero => intro x1 x2; exact g_none
  | succ n ih =>
    intro x1 x2
    rw [Cutter_chosenMisses_4]
    refine gl (i' := 5) (fun _ _ => aw_iload_n K (dOf ck_mX1_chosenMisses rfl rfl) rfl) ?_
    refine gl (i' := 6) (fun _ _ => aw_aload_n K (dOf ck_mX1_chosenMisses rfl rfl) rfl) ?_
    refine gl (i' := 7) (fun _ _ => aw_getf K (dOf ck_mX1_chosenMisses rfl rfl) (shC_0 ht) rfl (Nat.le_of_ble_eq_true rfl) wd_353 (k := 8) rfl) ?_
    refine g_icmp_ge K (dOf ck_mX1_chosenMisses rfl rfl) (t := 27) (aJ_of (by decide +kernel)) (fun h1 => ?_) (fun h1 => ?_)
    · refine gl (i' := 9) (fun _ _ => aw_iload_n K (dOf ck_mX1_chosenMisses rfl rfl) rfl) ?_
      refine gl (i' := 10) (fun _ _ => aw_aload_n K (dOf ck_mX1_chosenMisses rfl rfl) rfl) ?_
      refine gl (i' := 11) (fun _ _ => aw_getf K (dOf ck_mX1_chosenMisses rfl rfl) (shC_0 ht) rfl (Nat.le_of_ble_eq_true rfl) wd_344 (k := 2) rfl) ?_
      refine gl (i' := 12) (fun _ _ => aw_aload_n K (dOf ck_mX1_chosenMisses rfl rfl) rfl) ?_
      refine gl (i' := 13) (fun _ _ => aw_getf K (dOf ck_mX1_chosenMisses rfl rfl) (shC_0 ht) rfl (Nat.le_of_ble_eq_true rfl) wd_351 (k := 7) rfl) ?_
      refine gl (i' := 14) (fun _ _ => aw_iload_n K (dOf ck_mX1_chosenMisses rfl rfl) rfl) ?_
      refine g_gd (fun hb2 => ?_)
      refine gl (i' := 15) (fun _ _ => aw_iald K (dOf ck_mX1_chosenMisses rfl rfl) (shC_5 ht) hb2) ?_
      refine gl (i' := 16) (fun _ _ => aw_bip K (dOf ck_mX1_chosenMisses rfl rfl) (v := 12) rfl) ?_
      refine gl (i' := 17) (fun _ _ => aw_imul K (dOf ck_mX1_chosenMisses rfl rfl)) ?_
      refine gl (i' := 18) (fun _ _ => aw_aload_n K (dOf ck_mX1_chosenMisses rfl rfl) rfl) ?_
      refine gl (i' := 19) (fun _ _ => aw_getf K (dOf ck_mX1_chosenMisses rfl rfl) (shC_0 ht) rfl (Nat.le_of_ble_eq_true rfl) wd_348 (k := 6) rfl) ?_
      refine gl (i' := 20) (fun _ _ => aw_iload_n K (dOf ck_mX1_chosenMisses rfl rfl) rfl) ?_
      refine gl (i' := 21) (fun _ _ => aw_iald K (dOf ck_mX1_chosenMisses rfl rfl) (shC_4 ht) hb2) ?_
      refine gl (i' := 22) (fun _ _ => aw_iadd K (dOf ck_mX1_chosenMisses rfl rfl)) ?_
      refine g_gd (fun hb3 => ?_)
      refine gl (i' := 23) (fun _ _ => aw_bald K (dOf ck_mX1_chosenMisses rfl rfl) (shC_1 ht) hb3) ?_
      refine gl (i' := 24) (fun _ _ => aw_iadd K (dOf ck_mX1_chosenMisses rfl rfl)) ?_
      refine gl (i' := 25) (fun _ _ => aw_istore_n K (dOf ck_mX1_chosenMisses rfl rfl) (Nat.le_of_ble_eq_true rfl)) ?_
      refine g_lv (lv' := [(1, .inl _), (0, .inr (.inr (.inl (some _)))), (2, .inl _)]) rfl ?_
      refine gl (i' := 26) (fun _ _ => aw_iinc K (dOf ck_mX1_chosenMisses rfl rfl) (Nat.le_of_ble_eq_true rfl) rfl) ?_
      refine g_lv (lv' := [(2, .inl _), (1, .inl _), (0, .inr (.inr (.inl (some _))))]) rfl ?_
      refine g_goto K (dOf ck_mX1_chosenMisses rfl rfl).1 (t := 4) (aJ_of (by decide +kernel)) ?_
      refine g_sub [2, 1, 0] rfl ?_
      exact ih _ _
    · refine gl (i' := 28) (fun _ _ => aw_iload_n K (dOf ck_mX1_chosenMisses rfl rfl) rfl) ?_
      exact g_iret K (by decide +kernel) rfl (Or.inl rfl) rfl
def Cutter_chosenMisses (t : Nat) (mm : aM) : Option Int := Cutter_chosenMisses_4 mm t FU 0 0
set_option maxHeartbeats 4000000 in
theorem met_Cutter_chosenMisses {l : Launch} {D : va_G} {cA : FieldType → ClassId} {ad adV : Nat → Nat} {z0 : Nat} {t : Nat} {mm : aM} (ht : okC t) {r : Int} (h : Cutter_chosenMisses t mm = some r) : aMet l D cA ad adV z0 mX1_chosenMisses 0 0 0 0 [.inr (.inr (.inl (some t)))] SH mm ((rI mm) r).1 SH ((rI mm) r).2 := by
  refine aMet_ofG (by decide +kernel) rfl (Nat.le_of_ble_eq_true rfl) h (fun p e s m args below meth c al0 K => ?_)
  unfold Cutter_chosenMisses
  refine gl (i' := 1) (fun _ _ => aw_iconst K (n := 0) (i32 _ rfl) (dOf ck_mX1_chosenMisses rfl rfl)) ?_
  refine gl (i' := 2) (fun _ _ => aw_istore_n K (dOf ck_mX1_chosenMisses rfl rfl) (Nat.le_of_ble_eq_true rfl)) ?_
  refine g_lv (lv' := [(1, .inl _), (0, .inr (.inr (.inl (some _))))]) rfl ?_
  refine gl (i' := 3) (fun _ _ => aw_iconst K (n := 0) (i32 _ rfl) (dOf ck_mX1_chosenMisses rfl rfl)) ?_
  refine gl (i' := 4) (fun _ _ => aw_istore_n K (dOf ck_mX1_chosenMisses rfl rfl) (Nat.le_of_ble_eq_true rfl)) ?_
  refine g_lv (lv' := [(2, .inl _), (1, .inl _), (0, .inr (.inr (.inl (some _))))]) rfl ?_
  refine g_sub [2, 1, 0] rfl ?_
  exact lk_Cutter_chosenMisses_4 K ht FU _ _
def B_mistakes  (mm : aM) : Option (Int × aM) := (B_cutBreath 3 mm).bind fun r1 => (if (r1 61 8) = 0 then (some ((-1), r1)) else ((Cutter_chosenMisses 61 r1).bind fun r3 => (some (r3, r1))))
set_option maxHeartbeats 4000000 in
theorem met_B_mistakes {l : Launch} {D : va_G} {cA : FieldType → ClassId} {ad adV : Nat → Nat} {z0 : Nat}  {mm : aM}  {r : Int × aM} (h : B_mistakes  mm = some r) : aMet l D cA ad adV z0 mX11_mistakes 6 143 0 0 [.inr (.inr (.inl (some 0)))] SH mm (rIM r).1 SH (rIM r).2 := by
  refine aMet_ofG (by decide +kernel) rfl (Nat.le_of_ble_eq_true rfl) h (fun p e s m args below meth c al0 K => ?_)
  unfold B_mistakes
  refine gl (i' := 1) (fun _ _ => aw_aload_n K (dOf ck_mX11_mistakes rfl rfl) rfl) ?_
  refine gl (i' := 2) (fun _ _ => aw_iconst K (n := 3) (i32 _ rfl) (dOf ck_mX11_mistakes rfl rfl)) ?_
  refine g_callVM K [.inl _] rfl (dOf ck_mX11_mistakes rfl rfl) al_OneBreath_246 rfl rfl ⟨wd_763, wd_21⟩ rfl (Nat.le_of_ble_eq_true rfl) ⟨Nat.le_of_ble_eq_true rfl, Nat.le_of_ble_eq_true rfl⟩ (fun b hb => met_B_cutBreath  hb) (fun r1 hr1 => ?_)
  refine gl (i' := 4) (fun _ _ => aw_aload_n K (dOf ck_mX11_mistakes rfl rfl) rfl) ?_
  refine gl (i' := 5) (fun _ _ => aw_getf K (dOf ck_mX11_mistakes rfl rfl) rfl rfl (Nat.le_of_ble_eq_true rfl) wd_466 (k := 6) rfl) ?_
  refine gl (i' := 6) (fun _ _ => aw_getf K (dOf ck_mX11_mistakes rfl rfl) rfl rfl (Nat.le_of_ble_eq_true rfl) wd_354 (k := 8) rfl) ?_
  refine g_if_ne K (dOf ck_mX11_mistakes rfl rfl) (t := 9) (aJ_of (by decide +kernel)) (fun h2 => ?_) (fun h2 => ?_)
  · refine gl (i' := 8) (fun _ _ => aw_iconst K (n := -1) (i32 _ rfl) (dOf ck_mX11_mistakes rfl rfl)) ?_
    refine g_goto K (dOf ck_mX11_mistakes rfl rfl).1 (t := 12) (aJ_of (by decide +kernel)) ?_
    exact g_iret K (by decide +kernel) rfl (Or.inl rfl) rfl
  · refine gl (i' := 10) (fun _ _ => aw_aload_n K (dOf ck_mX11_mistakes rfl rfl) rfl) ?_
    refine gl (i' := 11) (fun _ _ => aw_getf K (dOf ck_mX11_mistakes rfl rfl) rfl rfl (Nat.le_of_ble_eq_true rfl) wd_466 (k := 6) rfl) ?_
    refine g_callVI K [] rfl (dOf ck_mX11_mistakes rfl rfl) al_OneBreath_255 rfl rfl ⟨wd_795, wd_796⟩ rfl (Nat.le_of_ble_eq_true rfl) ⟨Nat.le_of_ble_eq_true rfl, Nat.le_of_ble_eq_true rfl⟩ (fun b hb => met_Cutter_chosenMisses (by unfold okC; omega) hb) (fun r3 hr3 => ?_)
    exact g_iret K (by decide +kernel) rfl (Or.inl rfl) rfl
def Jmath_max (x0 : Int) (x1 : Int) (mm : aM) : Option Int := if x0 < x1 then (some x1) else (some x0)
set_option maxHeartbeats 4000000 in
theorem met_Jmath_max {l : Launch} {D : va_G} {cA : FieldType → ClassId} {ad adV : Nat → Nat} {z0 : Nat} {x0 : Int} {x1 : Int} {mm : aM}  {r : Int} (h : Jmath_max x0 x1 mm = some r) : aMet l D cA ad adV z0 mJ9_max_7cf53 0 0 0 0 [.inl x0, .inl x1] SH mm ((rI mm) r).1 SH ((rI mm) r).2 := by
  refine aMet_ofGF (by decide +kernel) rfl (Nat.le_of_ble_eq_true rfl) h (fun p e s m args below meth c al0 K => ?_)
  unfold Jmath_max
  refine gl (i' := 1) (fun _ _ => aw_iload_n K (dOf ck_mJ9_max_7cf53 rfl rfl) rfl) ?_
  refine gl (i' := 2) (fun _ _ => aw_iload_n K (dOf ck_mJ9_max_7cf53 rfl rfl) rfl) ?_
  refine g_icmp_lt K (dOf ck_mJ9_max_7cf53 rfl rfl) (t := 5) (aJ_of (by decide +kernel)) (fun h1 => ?_) (fun h1 => ?_)
  · refine gl (i' := 6) (fun _ _ => aw_iload_n K (dOf ck_mJ9_max_7cf53 rfl rfl) rfl) ?_
    exact g_iret K (by decide +kernel) rfl (Or.inl rfl) rfl
  · refine gl (i' := 4) (fun _ _ => aw_iload_n K (dOf ck_mJ9_max_7cf53 rfl rfl) rfl) ?_
    refine g_goto K (dOf ck_mJ9_max_7cf53 rfl rfl).1 (t := 6) (aJ_of (by decide +kernel)) ?_
    exact g_iret K (by decide +kernel) rfl (Or.inl rfl) rfl
def Cutter_breakBehind_38 (k6 : Int → aM → Option aM) (k15 : Int → aM → Option aM) (t : Nat) (x1 : Int) (x2 : Int) (x3 : Int) (mm : aM) : Option aM := k15 (w32 (x3 + 1)) mm
set_option maxHeartbeats 4000000 in
theorem lk_Cutter_breakBehind_38 {p : Program} {l : Launch} {e : Env} {s : State} {m : MethodId} {args : Array Value} {below : List Frame} {meth : Method} {c : Code} {D : va_G} {cA : FieldType → ClassId} {ad adV : Nat → Nat} {z0 : Nat} {al0 : List Nat} (K : aK p s m args meth c mX1_breakBehind D cA ad adV z0) {t : Nat} (x1 : Int) (x2 : Int) (x3 : Int) (ht : okC t) (k6 : Int → aM → Option aM) (hk6 : ∀ (x2 : Int) (mm : aM), aG p l e { frames := 1, cells := 0, slots := 0, locals := 21 } s m args below meth c D cA ad z0 mX1_breakBehind al0 rM (k6 x2 mm) 6 [(0, .inr (.inr (.inl (some t)))), (1, .inl x1), (2, .inl x2)] [] mm) (k15 : Int → aM → Option aM) (hk15 : ∀ (x3 : Int) (mm : aM), aG p l e { frames := 1, cells := 0, slots := 0, locals := 21 } s m args below meth c D cA ad z0 mX1_breakBehind al0 rM (k15 x3 mm) 15 [(0, .inr (.inr (.inl (some t)))), (1, .inl x1), (2, .inl x2), (3, .inl x3)] [] mm)  (mm : aM) : aG p l e { frames := 1, cells := 0, slots := 0, locals := 21 } s m args below meth c D cA ad z0 mX1_breakBehind al0 rM (Cutter_breakBehind_38 k6 k15 t x1 x2 x3 mm) 38 [(0, .inr (.inr (.inl (some t)))), (1, .inl x1), (2, .inl x2), (3, .inl x3)] [] mm := by
  unfold Cutter_breakBehind_38
  refine gl (i' := 39) (fun _ _ => aw_iinc K (dOf ck_mX1_breakBehind rfl rfl) (Nat.le_of_ble_eq_true rfl) rfl) ?_
  refine g_lv (lv' := [(3, .inl _), (0, .inr (.inr (.inl (some _)))), (1, .inl _), (2, .inl _)]) rfl ?_
  refine g_goto K (dOf ck_mX1_breakBehind rfl rfl).1 (t := 15) (aJ_of (by decide +kernel)) ?_
  refine g_sub [1, 2, 3, 0] rfl ?_
  exact hk15 _ _
def Cutter_breakBehind_15 (k6 : Int → aM → Option aM) (t : Nat) (x1 : Int) (x2 : Int) : Nat → Int → aM → Option aM
  | 0, _, _ => none
  | n + 1, x3, mm => if x3 < (mm 25 2) then (if 0 ≤ x3 ∧ x3 < 12 then (if x1 < (w32 (x2 + (mm 41 x3.toNat))) then (if 0 ≤ (w32 ((w32 (x2 * 12)) + x3)) ∧ (w32 ((w32 (x2 * 12)) + x3)) < 720 then (st1 (aup mm (t + 1) (w32 ((w32 (x2 * 12)) + x3)).toNat (w8 (-1))) fun mm8 => (Cutter_breakBehind_38 k6 (Cutter_breakBehind_15 k6 t x1 x2 n) t x1 x2 x3 mm8)) else none) else (Cutter_breakBehind_38 k6 (Cutter_breakBehind_15 k6 t x1 x2 n) t x1 x2 x3 mm)) else none) else (k6 (w32 (x2 + 1)) mm)
set_option maxHeartbeats 4000000 in
theorem lk_Cutter_breakBehind_15 {p : Program} {l : Launch} {e : Env} {s : State} {m : MethodId} {args : Array Value} {below : List Frame} {meth : Method} {c : Code} {D : va_G} {cA : FieldType → ClassId} {ad adV : Nat → Nat} {z0 : Nat} {al0 : List Nat} (K : aK p s m args meth c mX1_breakBehind D cA ad adV z0) {t : Nat} (x1 : Int) (x2 : Int) (ht : okC t) (k6 : Int → aM → Option aM) (hk6 : ∀ (x2 : Int) (mm : aM), aG p l e { frames := 1, cells := 0, slots := 0, locals := 21 } s m args below meth c D cA ad z0 mX1_breakBehind al0 rM (k6 x2 mm) 6 [(0, .inr (.inr (.inl (some t)))), (1, .inl x1), (2, .inl x2)] [] mm)  : ∀ (n : Nat) (x3 : Int) (mm : aM), aG p l e { frames := 1, cells := 0, slots := 0, locals := 21 } s m args below meth c D cA ad z0 mX1_breakBehind al0 rM (Cutter_breakBehind_15 k6 t x1 x2 n x3 mm) 15 [(0, .inr (.inr (.inl (some t)))), (1, .inl x1), (2, .inl x2), (3, .inl x3)] [] mm := by
  intro n
  induction n with
  | zero => intro x3 mm; exact g_none
  | succ n ih =>
    intro x3 mm
    rw [Cutter_breakBehind_15]
    refine gl (i' := 16) (fun _ _ => aw_iload_n K (dOf ck_mX1_breakBehind rfl rfl) rfl) ?_
    refine gl (i' := 17) (fun _ _ => aw_aload_n K (dOf ck_mX1_breakBehind rfl rfl) rfl) ?_
    refine gl (i' := 18) (fun _ _ => aw_getf K (dOf ck_mX1_breakBehind rfl rfl) (shC_0 ht) rfl (Nat.le_of_ble_eq_true rfl) wd_342 (k := 0) rfl) ?_
    refine gl (i' := 19) (fun _ _ => aw_getf K (dOf ck_mX1_breakBehind rfl rfl) rfl rfl (Nat.le_of_ble_eq_true rfl) wd_199 (k := 2) rfl) ?_
    refine g_icmp_ge K (dOf ck_mX1_breakBehind rfl rfl) (t := 40) (aJ_of (by decide +kernel)) (fun h4 => ?_) (fun h4 => ?_)
    · refine gl (i' := 21) (fun _ _ => aw_iload_n K (dOf ck_mX1_breakBehind rfl rfl) rfl) ?_
      refine gl (i' := 22) (fun _ _ => aw_aload_n K (dOf ck_mX1_breakBehind rfl rfl) rfl) ?_
      refine gl (i' := 23) (fun _ _ => aw_getf K (dOf ck_mX1_breakBehind rfl rfl) (shC_0 ht) rfl (Nat.le_of_ble_eq_true rfl) wd_342 (k := 0) rfl) ?_
      refine gl (i' := 24) (fun _ _ => aw_getf K (dOf ck_mX1_breakBehind rfl rfl) rfl rfl (Nat.le_of_ble_eq_true rfl) wd_240 (k := 9) rfl) ?_
      refine gl (i' := 25) (fun _ _ => aw_iload_n K (dOf ck_mX1_breakBehind rfl rfl) rfl) ?_
      refine g_gd (fun hb5 => ?_)
      refine gl (i' := 26) (fun _ _ => aw_iald K (dOf ck_mX1_breakBehind rfl rfl) rfl hb5) ?_
      refine gl (i' := 27) (fun _ _ => aw_iadd K (dOf ck_mX1_breakBehind rfl rfl)) ?_
      refine gl (i' := 28) (fun _ _ => aw_iload_n K (dOf ck_mX1_breakBehind rfl rfl) rfl) ?_
      refine g_icmp_le K (dOf ck_mX1_breakBehind rfl rfl) (t := 38) (aJ_of (by decide +kernel)) (fun h6 => ?_) (fun h6 => ?_)
      · refine gl (i' := 30) (fun _ _ => aw_aload_n K (dOf ck_mX1_breakBehind rfl rfl) rfl) ?_
        refine gl (i' := 31) (fun _ _ => aw_getf K (dOf ck_mX1_breakBehind rfl rfl) (shC_0 ht) rfl (Nat.le_of_ble_eq_true rfl) wd_344 (k := 2) rfl) ?_
        refine gl (i' := 32) (fun _ _ => aw_iload_n K (dOf ck_mX1_breakBehind rfl rfl) rfl) ?_
        refine gl (i' := 33) (fun _ _ => aw_bip K (dOf ck_mX1_breakBehind rfl rfl) (v := 12) rfl) ?_
        refine gl (i' := 34) (fun _ _ => aw_imul K (dOf ck_mX1_breakBehind rfl rfl)) ?_
        refine gl (i' := 35) (fun _ _ => aw_iload_n K (dOf ck_mX1_breakBehind rfl rfl) rfl) ?_
        refine gl (i' := 36) (fun _ _ => aw_iadd K (dOf ck_mX1_breakBehind rfl rfl)) ?_
        refine gl (i' := 37) (fun _ _ => aw_iconst K (n := -1) (i32 _ rfl) (dOf ck_mX1_breakBehind rfl rfl)) ?_
        refine g_gd (fun hb7 => ?_)
        refine g_st1 ?_
        refine gl (i' := 38) (fun _ _ => aw_bast K (dOf ck_mX1_breakBehind rfl rfl) (shC_1 ht) hb7) ?_
        refine g_sub [0, 1, 2, 3] rfl ?_
        exact lk_Cutter_breakBehind_38 K _ _ _ ht _ hk6 _ ih _
      · refine g_sub [0, 1, 2, 3] rfl ?_
        exact lk_Cutter_breakBehind_38 K _ _ _ ht _ hk6 _ ih _
    · refine gl (i' := 41) (fun _ _ => aw_iinc K (dOf ck_mX1_breakBehind rfl rfl) (Nat.le_of_ble_eq_true rfl) rfl) ?_
      refine g_lv (lv' := [(2, .inl _), (0, .inr (.inr (.inl (some _)))), (1, .inl _), (3, .inl _)]) rfl ?_
      refine g_goto K (dOf ck_mX1_breakBehind rfl rfl).1 (t := 6) (aJ_of (by decide +kernel)) ?_
      refine g_sub [1, 2, 0] rfl ?_
      exact hk6 _ _
def Cutter_breakBehind_6 (t : Nat) (x1 : Int) : Nat → Int → aM → Option aM
  | 0, _, _ => none
  | n + 1, x2, mm => if x2 < x1 then (if x2 < (mm t 1) then (Cutter_breakBehind_15 (Cutter_breakBehind_6 t x1 n) t x1 x2 FU 0 mm) else (some mm)) else (some mm)
set_option maxHeartbeats 4000000 in
theorem lk_Cutter_breakBehind_6 {p : Program} {l : Launch} {e : Env} {s : State} {m : MethodId} {args : Array Value} {below : List Frame} {meth : Method} {c : Code} {D : va_G} {cA : FieldType → ClassId} {ad adV : Nat → Nat} {z0 : Nat} {al0 : List Nat} (K : aK p s m args meth c mX1_breakBehind D cA ad adV z0) {t : Nat} (x1 : Int) (ht : okC t)  : ∀ (n : Nat) (x2 : Int) (mm : aM), aG p l e { frames := 1, cells := 0, slots := 0, locals := 21 } s m args below meth c D cA ad z0 mX1_breakBehind al0 rM (Cutter_breakBehind_6 t x1 n x2 mm) 6 [(0, .inr (.inr (.inl (some t)))), (1, .inl x1), (2, .inl x2)] [] mm := by
  intro n
  induction n with
  | zero => intro x2 mm; exact g_none
  | succ n ih =>
    intro x2 mm
    rw [Cutter_breakBehind_6]
    refine gl (i' := 7) (fun _ _ => aw_iload_n K (dOf ck_mX1_breakBehind rfl rfl) rfl) ?_
    refine gl (i' := 8) (fun _ _ => aw_iload_n K (dOf ck_mX1_breakBehind rfl rfl) rfl) ?_
    refine g_icmp_ge K (dOf ck_mX1_breakBehind rfl rfl) (t := 42) (aJ_of (by decide +kernel)) (fun h2 => ?_) (fun h2 => ?_)
    · refine gl (i' := 10) (fun _ _ => aw_iload_n K (dOf ck_mX1_breakBehind rfl rfl) rfl) ?_
      refine gl (i' := 11) (fun _ _ => aw_aload_n K (dOf ck_mX1_breakBehind rfl rfl) rfl) ?_
      refine gl (i' := 12) (fun _ _ => aw_getf K (dOf ck_mX1_breakBehind rfl rfl) (shC_0 ht) rfl (Nat.le_of_ble_eq_true rfl) wd_343 (k := 1) rfl) ?_
      refine g_icmp_ge K (dOf ck_mX1_breakBehind rfl rfl) (t := 42) (aJ_of (by decide +kernel)) (fun h3 => ?_) (fun h3 => ?_)
      · refine gl (i' := 14) (fun _ _ => aw_iconst K (n := 0) (i32 _ rfl) (dOf ck_mX1_breakBehind rfl rfl)) ?_
        refine gl (i' := 15) (fun _ _ => aw_istore_n K (dOf ck_mX1_breakBehind rfl rfl) (Nat.le_of_ble_eq_true rfl)) ?_
        refine g_lv (lv' := [(3, .inl _), (0, .inr (.inr (.inl (some _)))), (1, .inl _), (2, .inl _)]) rfl ?_
        refine g_sub [1, 2, 3, 0] rfl ?_
        exact lk_Cutter_breakBehind_15 K _ _ ht _ ih FU _ _
      · exact g_vret K (by decide +kernel) rfl rfl
    · exact g_vret K (by decide +kernel) rfl rfl
def Cutter_breakBehind (t : Nat) (x1 : Int) (mm : aM) : Option aM := (Jmath_max 0 (w32 (x1 - 6)) mm).bind fun r1 => (Cutter_breakBehind_6 t x1 FU r1 mm)
set_option maxHeartbeats 4000000 in
theorem met_Cutter_breakBehind {l : Launch} {D : va_G} {cA : FieldType → ClassId} {ad adV : Nat → Nat} {z0 : Nat} {t : Nat} {x1 : Int} {mm : aM} (ht : okC t) {r : aM} (h : Cutter_breakBehind t x1 mm = some r) : aMet l D cA ad adV z0 mX1_breakBehind 1 21 0 0 [.inr (.inr (.inl (some t))), .inl x1] SH mm (rM r).1 SH (rM r).2 := by
  refine aMet_ofG (by decide +kernel) rfl (Nat.le_of_ble_eq_true rfl) h (fun p e s m args below meth c al0 K => ?_)
  unfold Cutter_breakBehind
  refine gl (i' := 1) (fun _ _ => aw_iconst K (n := 0) (i32 _ rfl) (dOf ck_mX1_breakBehind rfl rfl)) ?_
  refine gl (i' := 2) (fun _ _ => aw_iload_n K (dOf ck_mX1_breakBehind rfl rfl) rfl) ?_
  refine gl (i' := 3) (fun _ _ => aw_bip K (dOf ck_mX1_breakBehind rfl rfl) (v := 6) rfl) ?_
  refine gl (i' := 4) (fun _ _ => aw_isub K (dOf ck_mX1_breakBehind rfl rfl)) ?_
  refine g_callSI K [.inl _, .inl _] rfl (dOf ck_mX1_breakBehind rfl rfl) al_OneBreath_Cutter_74 wd_807 rfl (Nat.le_of_ble_eq_true rfl) ⟨Nat.le_of_ble_eq_true rfl, Nat.le_of_ble_eq_true rfl⟩ (fun b hb => met_Jmath_max  hb) (fun r1 hr1 => ?_)
  refine gl (i' := 6) (fun _ _ => aw_istore_n K (dOf ck_mX1_breakBehind rfl rfl) (Nat.le_of_ble_eq_true rfl)) ?_
  refine g_lv (lv' := [(2, .inl _), (0, .inr (.inr (.inl (some _)))), (1, .inl _)]) rfl ?_
  refine g_sub [1, 2, 0] rfl ?_
  exact lk_Cutter_breakBehind_6 K _ ht FU _ _
def B_bound (x1 : Int) (mm : aM) : Option (Int × aM) := if x1 < 1 then (some ((-3), mm)) else (if (mm 47 1) < x1 then (some ((-3), mm)) else ((Cutter_lay 67 47 mm).bind fun r3 => ((Cutter_breakBehind 67 x1 r3).bind fun r4 => ((Cutter_countWays 67 0 r4).bind fun r5 => (some (r5.1, r5.2))))))
set_option maxHeartbeats 4000000 in
theorem met_B_bound {l : Launch} {D : va_G} {cA : FieldType → ClassId} {ad adV : Nat → Nat} {z0 : Nat} {x1 : Int} {mm : aM}  {r : Int × aM} (h : B_bound x1 mm = some r) : aMet l D cA ad adV z0 mX11_bound 3 73 0 0 [.inr (.inr (.inl (some 0))), .inl x1] SH mm (rIM r).1 SH (rIM r).2 := by
  refine aMet_ofG (by decide +kernel) rfl (Nat.le_of_ble_eq_true rfl) h (fun p e s m args below meth c al0 K => ?_)
  unfold B_bound
  refine gl (i' := 1) (fun _ _ => aw_iload_n K (dOf ck_mX11_bound rfl rfl) rfl) ?_
  refine gl (i' := 2) (fun _ _ => aw_iconst K (n := 1) (i32 _ rfl) (dOf ck_mX11_bound rfl rfl)) ?_
  refine g_icmp_lt K (dOf ck_mX11_bound rfl rfl) (t := 8) (aJ_of (by decide +kernel)) (fun h1 => ?_) (fun h1 => ?_)
  · refine gl (i' := 9) (fun _ _ => aw_bip K (dOf ck_mX11_bound rfl rfl) (v := -3) rfl) ?_
    exact g_iret K (dOf ck_mX11_bound rfl rfl).1 rfl (Or.inl rfl) rfl
  · refine gl (i' := 4) (fun _ _ => aw_iload_n K (dOf ck_mX11_bound rfl rfl) rfl) ?_
    refine gl (i' := 5) (fun _ _ => aw_aload_n K (dOf ck_mX11_bound rfl rfl) rfl) ?_
    refine gl (i' := 6) (fun _ _ => aw_getf K (dOf ck_mX11_bound rfl rfl) rfl rfl (Nat.le_of_ble_eq_true rfl) wd_462 (k := 2) rfl) ?_
    refine gl (i' := 7) (fun _ _ => aw_getf K (dOf ck_mX11_bound rfl rfl) rfl rfl (Nat.le_of_ble_eq_true rfl) wd_303 (k := 1) rfl) ?_
    refine g_icmp_le K (dOf ck_mX11_bound rfl rfl) (t := 10) (aJ_of (by decide +kernel)) (fun h2 => ?_) (fun h2 => ?_)
    · refine gl (i' := 9) (fun _ _ => aw_bip K (dOf ck_mX11_bound rfl rfl) (v := -3) rfl) ?_
      exact g_iret K (dOf ck_mX11_bound rfl rfl).1 rfl (Or.inl rfl) rfl
    · refine gl (i' := 11) (fun _ _ => aw_aload_n K (dOf ck_mX11_bound rfl rfl) rfl) ?_
      refine gl (i' := 12) (fun _ _ => aw_getf K (dOf ck_mX11_bound rfl rfl) rfl rfl (Nat.le_of_ble_eq_true rfl) wd_467 (k := 7) rfl) ?_
      refine gl (i' := 13) (fun _ _ => aw_aload_n K (dOf ck_mX11_bound rfl rfl) rfl) ?_
      refine gl (i' := 14) (fun _ _ => aw_getf K (dOf ck_mX11_bound rfl rfl) rfl rfl (Nat.le_of_ble_eq_true rfl) wd_462 (k := 2) rfl) ?_
      refine g_callVM K [.inr (.inr (.inl (some _)))] rfl (dOf ck_mX11_bound rfl rfl) al_OneBreath_236 rfl rfl ⟨wd_735, wd_736⟩ rfl (Nat.le_of_ble_eq_true rfl) ⟨Nat.le_of_ble_eq_true rfl, Nat.le_of_ble_eq_true rfl⟩ (fun b hb => met_Cutter_lay (by unfold okC; omega) (by unfold okS; omega) hb) (fun r3 hr3 => ?_)
      refine gl (i' := 16) (fun _ _ => aw_aload_n K (dOf ck_mX11_bound rfl rfl) rfl) ?_
      refine gl (i' := 17) (fun _ _ => aw_getf K (dOf ck_mX11_bound rfl rfl) rfl rfl (Nat.le_of_ble_eq_true rfl) wd_467 (k := 7) rfl) ?_
      refine gl (i' := 18) (fun _ _ => aw_iload_n K (dOf ck_mX11_bound rfl rfl) rfl) ?_
      refine g_callVM K [.inl _] rfl (dOf ck_mX11_bound rfl rfl) al_OneBreath_259 rfl rfl ⟨wd_803, wd_804⟩ rfl (Nat.le_of_ble_eq_true rfl) ⟨Nat.le_of_ble_eq_true rfl, Nat.le_of_ble_eq_true rfl⟩ (fun b hb => met_Cutter_breakBehind (by unfold okC; omega) hb) (fun r4 hr4 => ?_)
      refine gl (i' := 20) (fun _ _ => aw_aload_n K (dOf ck_mX11_bound rfl rfl) rfl) ?_
      refine gl (i' := 21) (fun _ _ => aw_getf K (dOf ck_mX11_bound rfl rfl) rfl rfl (Nat.le_of_ble_eq_true rfl) wd_467 (k := 7) rfl) ?_
      refine gl (i' := 22) (fun _ _ => aw_iconst K (n := 0) (i32 _ rfl) (dOf ck_mX11_bound rfl rfl)) ?_
      refine g_callVIM K [.inl _] rfl (dOf ck_mX11_bound rfl rfl) al_OneBreath_239 rfl rfl ⟨wd_743, wd_744⟩ rfl (Nat.le_of_ble_eq_true rfl) ⟨Nat.le_of_ble_eq_true rfl, Nat.le_of_ble_eq_true rfl⟩ (fun b hb => met_Cutter_countWays (by unfold okC; omega) hb) (fun r5 hr5 => ?_)
      exact g_iret K (by decide +kernel) rfl (Or.inl rfl) rfl
def Twins_put (x1 : Int) (x2 : Nat) (x3 : Int) (x4 : Int) (mm : aM) : Option aM := if 0 ≤ x1 ∧ x1 < 13 then (if 0 ≤ x3 then (if 0 + x3 ≤ aln x2 then (if 0 + x3 ≤ 7 then (st1 (aupr mm (82 + x1.toNat) (aCpy (mm x2) (mm (82 + x1.toNat)) 0 0 x3.toNat)) fun mm5 => (st1 (aup mm5 95 x1.toNat x3) fun mm6 => (st1 (aup mm6 96 x1.toNat x4) fun mm7 => (some mm7)))) else none) else none) else none) else none
set_option maxHeartbeats 4000000 in
theorem met_Twins_put {l : Launch} {D : va_G} {cA : FieldType → ClassId} {ad adV : Nat → Nat} {z0 : Nat} {x1 : Int} {x2 : Nat} {x3 : Int} {x4 : Int} {mm : aM} (hx2 : okB x2) {r : aM} (h : Twins_put x1 x2 x3 x4 mm = some r) : aMet l D cA ad adV z0 mX9_put 1 26 0 0 [.inr (.inr (.inl (some 80))), .inl x1, .inr (.inr (.inl (some x2))), .inl x3, .inl x4] SH mm (rM r).1 SH (rM r).2 := by
  refine aMet_ofG (by decide +kernel) rfl (Nat.le_of_ble_eq_true rfl) h (fun p e s m args below meth c al0 K => ?_)
  unfold Twins_put
  refine gl (i' := 1) (fun _ _ => aw_aload_n K (dOf ck_mX9_put rfl rfl) rfl) ?_
  refine gl (i' := 2) (fun _ _ => aw_iconst K (n := 0) (i32 _ rfl) (dOf ck_mX9_put rfl rfl)) ?_
  refine gl (i' := 3) (fun _ _ => aw_aload_n K (dOf ck_mX9_put rfl rfl) rfl) ?_
  refine gl (i' := 4) (fun _ _ => aw_getf K (dOf ck_mX9_put rfl rfl) rfl rfl (Nat.le_of_ble_eq_true rfl) wd_394 (k := 3) rfl) ?_
  refine gl (i' := 5) (fun _ _ => aw_iload_n K (dOf ck_mX9_put rfl rfl) rfl) ?_
  refine g_gd (fun hb1 => ?_)
  refine gl (i' := 6) (fun _ _ => aw_aald K (dOf ck_mX9_put rfl rfl) shWa hb1 (rsW_at hb1)) ?_
  refine gl (i' := 7) (fun _ _ => aw_iconst K (n := 0) (i32 _ rfl) (dOf ck_mX9_put rfl rfl)) ?_
  refine gl (i' := 8) (fun _ _ => aw_iload_n K (dOf ck_mX9_put rfl rfl) rfl) ?_
  refine g_gd (fun hb2 => ?_)
  refine g_gd (fun hb3 => ?_)
  refine g_gd (fun hb4 => ?_)
  refine g_st1 ?_
  refine gl (i' := 9) (fun _ _ => aw_copy K (dOf ck_mX9_put rfl rfl) ⟨wd_821, wd_611, wd_610, wd_157⟩ (okB_at hx2) (shWr hb1) (by decide) (by decide) hb2 hb3 hb4 (Nat.le_of_ble_eq_true rfl) ⟨Nat.le_of_ble_eq_true rfl, Nat.le_of_ble_eq_true rfl⟩) ?_
  refine gl (i' := 10) (fun _ _ => aw_aload_n K (dOf ck_mX9_put rfl rfl) rfl) ?_
  refine gl (i' := 11) (fun _ _ => aw_getf K (dOf ck_mX9_put rfl rfl) rfl rfl (Nat.le_of_ble_eq_true rfl) wd_395 (k := 4) rfl) ?_
  refine gl (i' := 12) (fun _ _ => aw_iload_n K (dOf ck_mX9_put rfl rfl) rfl) ?_
  refine gl (i' := 13) (fun _ _ => aw_iload_n K (dOf ck_mX9_put rfl rfl) rfl) ?_
  refine g_st1 ?_
  refine gl (i' := 14) (fun _ _ => aw_iast K (dOf ck_mX9_put rfl rfl) rfl hb1) ?_
  refine gl (i' := 15) (fun _ _ => aw_aload_n K (dOf ck_mX9_put rfl rfl) rfl) ?_
  refine gl (i' := 16) (fun _ _ => aw_getf K (dOf ck_mX9_put rfl rfl) rfl rfl (Nat.le_of_ble_eq_true rfl) wd_396 (k := 5) rfl) ?_
  refine gl (i' := 17) (fun _ _ => aw_iload_n K (dOf ck_mX9_put rfl rfl) rfl) ?_
  refine gl (i' := 18) (fun _ _ => aw_iload K (dOf ck_mX9_put rfl rfl) rfl) ?_
  refine g_st1 ?_
  refine gl (i' := 19) (fun _ _ => aw_iast K (dOf ck_mX9_put rfl rfl) rfl hb1) ?_
  exact g_vret K (by decide +kernel) rfl rfl
def Twins_load_80 (k34 : Int → aM → Option aM) (x2 : Int) (x3 : Int) (mm : aM) : Option aM := k34 (w32 (x3 + 1)) mm
set_option maxHeartbeats 4000000 in
theorem lk_Twins_load_80 {p : Program} {l : Launch} {e : Env} {s : State} {m : MethodId} {args : Array Value} {below : List Frame} {meth : Method} {c : Code} {D : va_G} {cA : FieldType → ClassId} {ad adV : Nat → Nat} {z0 : Nat} {al0 : List Nat} (K : aK p s m args meth c mX9_load D cA ad adV z0) (x2 : Int) (x3 : Int) (k34 : Int → aM → Option aM) (hk34 : ∀ (x3 : Int) (mm : aM), aG p l e { frames := 2, cells := 0, slots := 0, locals := 50 } s m args below meth c D cA ad z0 mX9_load al0 rM (k34 x3 mm) 34 [(0, .inr (.inr (.inl (some 80)))), (1, .inr (.inr (.inl (some 25)))), (2, .inl x2), (3, .inl x3)] [] mm)  (mm : aM) : aG p l e { frames := 2, cells := 0, slots := 0, locals := 50 } s m args below meth c D cA ad z0 mX9_load al0 rM (Twins_load_80 k34 x2 x3 mm) 80 [(0, .inr (.inr (.inl (some 80)))), (1, .inr (.inr (.inl (some 25)))), (2, .inl x2), (3, .inl x3)] [] mm := by
  unfold Twins_load_80
  refine gl (i' := 81) (fun _ _ => aw_iinc K (dOf ck_mX9_load rfl rfl) (Nat.le_of_ble_eq_true rfl) rfl) ?_
  refine g_lv (lv' := [(3, .inl _), (0, .inr (.inr (.inl (some _)))), (1, .inr (.inr (.inl (some _)))), (2, .inl _)]) rfl ?_
  refine g_goto K (dOf ck_mX9_load rfl rfl).1 (t := 34) (aJ_of (by decide +kernel)) ?_
  refine g_sub [1, 2, 3, 0] rfl ?_
  exact hk34 _ _
def Twins_load_34 (x2 : Int) : Nat → Int → aM → Option aM
  | 0, _, _ => none
  | n + 1, x3, mm => if x3 < (mm 80 0) then (if 0 ≤ x3 ∧ x3 < 12 then ((Twins_put x3 (25 + 4 + x3.toNat) (mm 41 x3.toNat) (mm 43 x3.toNat) mm).bind fun r8 => (if 0 ≤ x3 ∧ x3 < 13 then (if (iand (ishr x2 (r8 96 x3.toNat)) 1) = 0 then (Twins_load_80 (Twins_load_34 x2 n) x2 x3 r8) else (if 0 ≤ (r8 95 x3.toNat) ∧ (r8 95 x3.toNat) < 7 then (st1 (aup r8 (82 + x3.toNat) (r8 95 x3.toNat).toNat (w8 8)) fun mm12 => (st1 (aup mm12 95 x3.toNat (w32 ((mm12 95 x3.toNat) + 1))) fun mm13 => (Twins_load_80 (Twins_load_34 x2 n) x2 x3 mm13))) else none)) else none)) else none) else (some mm)
set_option maxHeartbeats 4000000 in
theorem lk_Twins_load_34 {p : Program} {l : Launch} {e : Env} {s : State} {m : MethodId} {args : Array Value} {below : List Frame} {meth : Method} {c : Code} {D : va_G} {cA : FieldType → ClassId} {ad adV : Nat → Nat} {z0 : Nat} {al0 : List Nat} (K : aK p s m args meth c mX9_load D cA ad adV z0) (x2 : Int)  : ∀ (n : Nat) (x3 : Int) (mm : aM), aG p l e { frames := 2, cells := 0, slots := 0, locals := 50 } s m args below meth c D cA ad z0 mX9_load al0 rM (Twins_load_34 x2 n x3 mm) 34 [(0, .inr (.inr (.inl (some 80)))), (1, .inr (.inr (.inl (some 25)))), (2, .inl x2), (3, .inl x3)] [] mm := by
  intro n
  induction n with
  | zero => intro x3 mm; exact g_none
  | succ n ih =>
    intro x3 mm
    rw [Twins_load_34]
    refine gl (i' := 35) (fun _ _ => aw_iload_n K (dOf ck_mX9_load rfl rfl) rfl) ?_
    refine gl (i' := 36) (fun _ _ => aw_aload_n K (dOf ck_mX9_load rfl rfl) rfl) ?_
    refine gl (i' := 37) (fun _ _ => aw_getf K (dOf ck_mX9_load rfl rfl) rfl rfl (Nat.le_of_ble_eq_true rfl) wd_391 (k := 0) rfl) ?_
    refine g_icmp_ge K (dOf ck_mX9_load rfl rfl) (t := 82) (aJ_of (by decide +kernel)) (fun h6 => ?_) (fun h6 => ?_)
    · refine gl (i' := 39) (fun _ _ => aw_aload_n K (dOf ck_mX9_load rfl rfl) rfl) ?_
      refine gl (i' := 40) (fun _ _ => aw_iload_n K (dOf ck_mX9_load rfl rfl) rfl) ?_
      refine gl (i' := 41) (fun _ _ => aw_aload_n K (dOf ck_mX9_load rfl rfl) rfl) ?_
      refine gl (i' := 42) (fun _ _ => aw_getf K (dOf ck_mX9_load rfl rfl) rfl rfl (Nat.le_of_ble_eq_true rfl) wd_229 (k := 8) rfl) ?_
      refine gl (i' := 43) (fun _ _ => aw_iload_n K (dOf ck_mX9_load rfl rfl) rfl) ?_
      refine g_gd (fun hb7 => ?_)
      refine gl (i' := 44) (fun _ _ => aw_aald K (dOf ck_mX9_load rfl rfl) (shTa (t := 25) (by unfold okT; omega)) hb7 (rsT_at hb7)) ?_
      refine gl (i' := 45) (fun _ _ => aw_aload_n K (dOf ck_mX9_load rfl rfl) rfl) ?_
      refine gl (i' := 46) (fun _ _ => aw_getf K (dOf ck_mX9_load rfl rfl) rfl rfl (Nat.le_of_ble_eq_true rfl) wd_238 (k := 9) rfl) ?_
      refine gl (i' := 47) (fun _ _ => aw_iload_n K (dOf ck_mX9_load rfl rfl) rfl) ?_
      refine gl (i' := 48) (fun _ _ => aw_iald K (dOf ck_mX9_load rfl rfl) rfl hb7) ?_
      refine gl (i' := 49) (fun _ _ => aw_aload_n K (dOf ck_mX9_load rfl rfl) rfl) ?_
      refine gl (i' := 50) (fun _ _ => aw_getf K (dOf ck_mX9_load rfl rfl) rfl rfl (Nat.le_of_ble_eq_true rfl) wd_251 (k := 11) rfl) ?_
      refine gl (i' := 51) (fun _ _ => aw_iload_n K (dOf ck_mX9_load rfl rfl) rfl) ?_
      refine gl (i' := 52) (fun _ _ => aw_iald K (dOf ck_mX9_load rfl rfl) rfl hb7) ?_
      refine g_callVM K [.inl _, .inr (.inr (.inl (some _))), .inl _, .inl _] rfl (dOf ck_mX9_load rfl rfl) al_OneBreath_Twins_78 rfl rfl ⟨wd_823, wd_824⟩ rfl (Nat.le_of_ble_eq_true rfl) ⟨Nat.le_of_ble_eq_true rfl, Nat.le_of_ble_eq_true rfl⟩ (fun b hb => met_Twins_put ⟨_, (shTr (t := 25) (by unfold okT; omega) hb7)⟩ hb) (fun r8 hr8 => ?_)
      refine gl (i' := 54) (fun _ _ => aw_iload_n K (dOf ck_mX9_load rfl rfl) rfl) ?_
      refine gl (i' := 55) (fun _ _ => aw_aload_n K (dOf ck_mX9_load rfl rfl) rfl) ?_
      refine gl (i' := 56) (fun _ _ => aw_getf K (dOf ck_mX9_load rfl rfl) rfl rfl (Nat.le_of_ble_eq_true rfl) wd_396 (k := 5) rfl) ?_
      refine gl (i' := 57) (fun _ _ => aw_iload_n K (dOf ck_mX9_load rfl rfl) rfl) ?_
      refine g_gd (fun hb9 => ?_)
      refine gl (i' := 58) (fun _ _ => aw_iald K (dOf ck_mX9_load rfl rfl) rfl hb9) ?_
      refine gl (i' := 59) (fun _ _ => aw_ishr K (dOf ck_mX9_load rfl rfl)) ?_
      refine gl (i' := 60) (fun _ _ => aw_iconst K (n := 1) (i32 _ rfl) (dOf ck_mX9_load rfl rfl)) ?_
      refine gl (i' := 61) (fun _ _ => aw_iand K (dOf ck_mX9_load rfl rfl)) ?_
      refine g_if_eq K (dOf ck_mX9_load rfl rfl) (t := 80) (aJ_of (by decide +kernel)) (fun h10 => ?_) (fun h10 => ?_)
      · refine g_sub [0, 1, 2, 3] rfl ?_
        exact lk_Twins_load_80 K _ _ _ ih _
      · refine gl (i' := 63) (fun _ _ => aw_aload_n K (dOf ck_mX9_load rfl rfl) rfl) ?_
        refine gl (i' := 64) (fun _ _ => aw_getf K (dOf ck_mX9_load rfl rfl) rfl rfl (Nat.le_of_ble_eq_true rfl) wd_394 (k := 3) rfl) ?_
        refine gl (i' := 65) (fun _ _ => aw_iload_n K (dOf ck_mX9_load rfl rfl) rfl) ?_
        refine gl (i' := 66) (fun _ _ => aw_aald K (dOf ck_mX9_load rfl rfl) shWa hb9 (rsW_at hb9)) ?_
        refine gl (i' := 67) (fun _ _ => aw_aload_n K (dOf ck_mX9_load rfl rfl) rfl) ?_
        refine gl (i' := 68) (fun _ _ => aw_getf K (dOf ck_mX9_load rfl rfl) rfl rfl (Nat.le_of_ble_eq_true rfl) wd_395 (k := 4) rfl) ?_
        refine gl (i' := 69) (fun _ _ => aw_iload_n K (dOf ck_mX9_load rfl rfl) rfl) ?_
        refine gl (i' := 70) (fun _ _ => aw_iald K (dOf ck_mX9_load rfl rfl) rfl hb9) ?_
        refine gl (i' := 71) (fun _ _ => aw_bip K (dOf ck_mX9_load rfl rfl) (v := 8) rfl) ?_
        refine g_gd (fun hb11 => ?_)
        refine g_st1 ?_
        refine gl (i' := 72) (fun _ _ => aw_bast K (dOf ck_mX9_load rfl rfl) (shWr hb9) hb11) ?_
        refine gl (i' := 73) (fun _ _ => aw_aload_n K (dOf ck_mX9_load rfl rfl) rfl) ?_
        refine gl (i' := 74) (fun _ _ => aw_getf K (dOf ck_mX9_load rfl rfl) rfl rfl (Nat.le_of_ble_eq_true rfl) wd_395 (k := 4) rfl) ?_
        refine gl (i' := 75) (fun _ _ => aw_iload_n K (dOf ck_mX9_load rfl rfl) rfl) ?_
        refine gl (i' := 76) (fun _ _ => aw_dup2_11 K rfl rfl (dOf ck_mX9_load rfl rfl)) ?_
        refine gl (i' := 77) (fun _ _ => aw_iald K (dOf ck_mX9_load rfl rfl) rfl hb9) ?_
        refine gl (i' := 78) (fun _ _ => aw_iconst K (n := 1) (i32 _ rfl) (dOf ck_mX9_load rfl rfl)) ?_
        refine gl (i' := 79) (fun _ _ => aw_iadd K (dOf ck_mX9_load rfl rfl)) ?_
        refine g_st1 ?_
        refine gl (i' := 80) (fun _ _ => aw_iast K (dOf ck_mX9_load rfl rfl) rfl hb9) ?_
        refine g_sub [0, 1, 2, 3] rfl ?_
        exact lk_Twins_load_80 K _ _ _ ih _
    · exact g_vret K (by decide +kernel) rfl rfl
def Twins_load (x2 : Int) (mm : aM) : Option aM := st1 (aup mm 80 0 (mm 25 2)) fun mm1 => (st1 (aup mm1 80 1 (w32 ((ishl 1 (mm1 80 0)) - 1))) fun mm2 => (st1 (aup mm2 80 2 (mm2 25 5)) fun mm3 => (st1 (aupr mm3 98 (aCpy (mm3 27) (mm3 98) 0 0 8)) fun mm4 => (st1 (aupr mm4 97 (aCpy (mm4 44) (mm4 97) 0 0 4)) fun mm5 => (Twins_load_34 x2 FU 0 mm5)))))
set_option maxHeartbeats 4000000 in
theorem met_Twins_load {l : Launch} {D : va_G} {cA : FieldType → ClassId} {ad adV : Nat → Nat} {z0 : Nat} {x2 : Int} {mm : aM}  {r : aM} (h : Twins_load x2 mm = some r) : aMet l D cA ad adV z0 mX9_load 2 50 0 0 [.inr (.inr (.inl (some 80))), .inr (.inr (.inl (some 25))), .inl x2] SH mm (rM r).1 SH (rM r).2 := by
  refine aMet_ofG (by decide +kernel) rfl (Nat.le_of_ble_eq_true rfl) h (fun p e s m args below meth c al0 K => ?_)
  unfold Twins_load
  refine gl (i' := 1) (fun _ _ => aw_aload_n K (dOf ck_mX9_load rfl rfl) rfl) ?_
  refine gl (i' := 2) (fun _ _ => aw_aload_n K (dOf ck_mX9_load rfl rfl) rfl) ?_
  refine gl (i' := 3) (fun _ _ => aw_getf K (dOf ck_mX9_load rfl rfl) rfl rfl (Nat.le_of_ble_eq_true rfl) wd_196 (k := 2) rfl) ?_
  refine g_st1 ?_
  refine gl (i' := 4) (fun _ _ => aw_putf K (dOf ck_mX9_load rfl rfl) rfl rfl (Nat.le_of_ble_eq_true rfl) wd_391 (k := 0) rfl rfl (Or.inl rfl)) ?_
  refine gl (i' := 5) (fun _ _ => aw_aload_n K (dOf ck_mX9_load rfl rfl) rfl) ?_
  refine gl (i' := 6) (fun _ _ => aw_iconst K (n := 1) (i32 _ rfl) (dOf ck_mX9_load rfl rfl)) ?_
  refine gl (i' := 7) (fun _ _ => aw_aload_n K (dOf ck_mX9_load rfl rfl) rfl) ?_
  refine gl (i' := 8) (fun _ _ => aw_getf K (dOf ck_mX9_load rfl rfl) rfl rfl (Nat.le_of_ble_eq_true rfl) wd_391 (k := 0) rfl) ?_
  refine gl (i' := 9) (fun _ _ => aw_ishl K (dOf ck_mX9_load rfl rfl)) ?_
  refine gl (i' := 10) (fun _ _ => aw_iconst K (n := 1) (i32 _ rfl) (dOf ck_mX9_load rfl rfl)) ?_
  refine gl (i' := 11) (fun _ _ => aw_isub K (dOf ck_mX9_load rfl rfl)) ?_
  refine g_st1 ?_
  refine gl (i' := 12) (fun _ _ => aw_putf K (dOf ck_mX9_load rfl rfl) rfl rfl (Nat.le_of_ble_eq_true rfl) wd_392 (k := 1) rfl rfl (Or.inl rfl)) ?_
  refine gl (i' := 13) (fun _ _ => aw_aload_n K (dOf ck_mX9_load rfl rfl) rfl) ?_
  refine gl (i' := 14) (fun _ _ => aw_aload_n K (dOf ck_mX9_load rfl rfl) rfl) ?_
  refine gl (i' := 15) (fun _ _ => aw_getf K (dOf ck_mX9_load rfl rfl) rfl rfl (Nat.le_of_ble_eq_true rfl) wd_212 (k := 5) rfl) ?_
  refine g_st1 ?_
  refine gl (i' := 16) (fun _ _ => aw_putf K (dOf ck_mX9_load rfl rfl) rfl rfl (Nat.le_of_ble_eq_true rfl) wd_393 (k := 2) rfl rfl (Or.inl rfl)) ?_
  refine gl (i' := 17) (fun _ _ => aw_aload_n K (dOf ck_mX9_load rfl rfl) rfl) ?_
  refine gl (i' := 18) (fun _ _ => aw_getf K (dOf ck_mX9_load rfl rfl) rfl rfl (Nat.le_of_ble_eq_true rfl) wd_220 (k := 7) rfl) ?_
  refine gl (i' := 19) (fun _ _ => aw_iconst K (n := 0) (i32 _ rfl) (dOf ck_mX9_load rfl rfl)) ?_
  refine gl (i' := 20) (fun _ _ => aw_aload_n K (dOf ck_mX9_load rfl rfl) rfl) ?_
  refine gl (i' := 21) (fun _ _ => aw_getf K (dOf ck_mX9_load rfl rfl) rfl rfl (Nat.le_of_ble_eq_true rfl) wd_398 (k := 7) rfl) ?_
  refine gl (i' := 22) (fun _ _ => aw_iconst K (n := 0) (i32 _ rfl) (dOf ck_mX9_load rfl rfl)) ?_
  refine gl (i' := 23) (fun _ _ => aw_bip K (dOf ck_mX9_load rfl rfl) (v := 8) rfl) ?_
  refine g_st1 ?_
  refine gl (i' := 24) (fun _ _ => aw_copy K (dOf ck_mX9_load rfl rfl) ⟨wd_821, wd_611, wd_610, wd_157⟩ rfl rfl (by decide) (by decide) (by decide) (by decide) (by decide) (Nat.le_of_ble_eq_true rfl) ⟨Nat.le_of_ble_eq_true rfl, Nat.le_of_ble_eq_true rfl⟩) ?_
  refine gl (i' := 25) (fun _ _ => aw_aload_n K (dOf ck_mX9_load rfl rfl) rfl) ?_
  refine gl (i' := 26) (fun _ _ => aw_getf K (dOf ck_mX9_load rfl rfl) rfl rfl (Nat.le_of_ble_eq_true rfl) wd_258 (k := 12) rfl) ?_
  refine gl (i' := 27) (fun _ _ => aw_iconst K (n := 0) (i32 _ rfl) (dOf ck_mX9_load rfl rfl)) ?_
  refine gl (i' := 28) (fun _ _ => aw_aload_n K (dOf ck_mX9_load rfl rfl) rfl) ?_
  refine gl (i' := 29) (fun _ _ => aw_getf K (dOf ck_mX9_load rfl rfl) rfl rfl (Nat.le_of_ble_eq_true rfl) wd_397 (k := 6) rfl) ?_
  refine gl (i' := 30) (fun _ _ => aw_iconst K (n := 0) (i32 _ rfl) (dOf ck_mX9_load rfl rfl)) ?_
  refine gl (i' := 31) (fun _ _ => aw_iconst K (n := 4) (i32 _ rfl) (dOf ck_mX9_load rfl rfl)) ?_
  refine g_st1 ?_
  refine gl (i' := 32) (fun _ _ => aw_copy K (dOf ck_mX9_load rfl rfl) ⟨wd_821, wd_611, wd_610, wd_157⟩ rfl rfl (by decide) (by decide) (by decide) (by decide) (by decide) (Nat.le_of_ble_eq_true rfl) ⟨Nat.le_of_ble_eq_true rfl, Nat.le_of_ble_eq_true rfl⟩) ?_
  refine gl (i' := 33) (fun _ _ => aw_iconst K (n := 0) (i32 _ rfl) (dOf ck_mX9_load rfl rfl)) ?_
  refine gl (i' := 34) (fun _ _ => aw_istore_n K (dOf ck_mX9_load rfl rfl) (Nat.le_of_ble_eq_true rfl)) ?_
  refine g_lv (lv' := [(3, .inl _), (0, .inr (.inr (.inl (some _)))), (1, .inr (.inr (.inl (some _)))), (2, .inl _)]) rfl ?_
  refine g_sub [1, 2, 3, 0] rfl ?_
  exact lk_Twins_load_34 K _ FU _ _
def Jarr_rangeCheck (x0 : Int) (x1 : Int) (x2 : Int) (mm : aM) : Option aM := if x2 < x1 then (none) else (if x1 < 0 then (none) else (if x0 < x2 then (none) else (some mm)))
set_option maxHeartbeats 4000000 in
theorem met_Jarr_rangeCheck {l : Launch} {D : va_G} {cA : FieldType → ClassId} {ad adV : Nat → Nat} {z0 : Nat} {x0 : Int} {x1 : Int} {x2 : Int} {mm : aM}  {r : aM} (h : Jarr_rangeCheck x0 x1 x2 mm = some r) : aMet l D cA ad adV z0 mJ7_rangeCheck_23922 0 0 0 0 [.inl x0, .inl x1, .inl x2] SH mm (rM r).1 SH (rM r).2 := by
  refine aMet_ofG (by decide +kernel) rfl (Nat.le_of_ble_eq_true rfl) h (fun p e s m args below meth c al0 K => ?_)
  unfold Jarr_rangeCheck
  refine gl (i' := 1) (fun _ _ => aw_iload_n K (dOf ck_mJ7_rangeCheck_23922 rfl rfl) rfl) ?_
  refine gl (i' := 2) (fun _ _ => aw_iload_n K (dOf ck_mJ7_rangeCheck_23922 rfl rfl) rfl) ?_
  refine g_icmp_le K (dOf ck_mJ7_rangeCheck_23922 rfl rfl) (t := 21) (aJ_of (by decide +kernel)) (fun h1 => ?_) (fun h1 => ?_)
  · exact g_none
  · refine gl (i' := 22) (fun _ _ => aw_iload_n K (dOf ck_mJ7_rangeCheck_23922 rfl rfl) rfl) ?_
    refine g_if_ge K (dOf ck_mJ7_rangeCheck_23922 rfl rfl) (t := 28) (aJ_of (by decide +kernel)) (fun h2 => ?_) (fun h2 => ?_)
    · exact g_none
    · refine gl (i' := 29) (fun _ _ => aw_iload_n K (dOf ck_mJ7_rangeCheck_23922 rfl rfl) rfl) ?_
      refine gl (i' := 30) (fun _ _ => aw_iload_n K (dOf ck_mJ7_rangeCheck_23922 rfl rfl) rfl) ?_
      refine g_icmp_le K (dOf ck_mJ7_rangeCheck_23922 rfl rfl) (t := 36) (aJ_of (by decide +kernel)) (fun h3 => ?_) (fun h3 => ?_)
      · exact g_none
      · exact g_vret K (by decide +kernel) rfl rfl
def Jarr_fillLR_7 (x0 : Nat) (x2 : Int) (x3 : Int) : Nat → Int → aM → Option aM
  | 0, _, _ => none
  | n + 1, x5, mm => if x5 < x2 then (if 0 ≤ x5 ∧ x5 < aln x0 then (st1 (aup mm x0 x5.toNat x3) fun mm4 => (Jarr_fillLR_7 x0 x2 x3 n (w32 (x5 + 1)) mm4)) else none) else (some mm)
set_option maxHeartbeats 4000000 in
theorem lk_Jarr_fillLR_7 {p : Program} {l : Launch} {e : Env} {s : State} {m : MethodId} {args : Array Value} {below : List Frame} {meth : Method} {c : Code} {D : va_G} {cA : FieldType → ClassId} {ad adV : Nat → Nat} {z0 : Nat} {al0 : List Nat} (K : aK p s m args meth c mJ7_fill_bad5a D cA ad adV z0) {x0 : Nat} (x2 : Int) (x3 : Int) (hx0 : okL x0)  : ∀ (n : Nat) (x5 : Int) (mm : aM), aG p l e { frames := 1, cells := 0, slots := 0, locals := 22 } s m args below meth c D cA ad z0 mJ7_fill_bad5a al0 rM (Jarr_fillLR_7 x0 x2 x3 n x5 mm) 7 [(0, .inr (.inr (.inl (some x0)))), (2, .inl x2), (3, .inr (.inl x3)), (5, .inl x5)] [] mm := by
  intro n
  induction n with
  | zero => intro x5 mm; exact g_none
  | succ n ih =>
    intro x5 mm
    rw [Jarr_fillLR_7]
    refine gl (i' := 8) (fun _ _ => aw_iload K (dOf ck_mJ7_fill_bad5a rfl rfl) rfl) ?_
    refine gl (i' := 9) (fun _ _ => aw_iload_n K (dOf ck_mJ7_fill_bad5a rfl rfl) rfl) ?_
    refine g_icmp_ge K (dOf ck_mJ7_fill_bad5a rfl rfl) (t := 16) (aJ_of (by decide +kernel)) (fun h2 => ?_) (fun h2 => ?_)
    · refine gl (i' := 11) (fun _ _ => aw_aload_n K (dOf ck_mJ7_fill_bad5a rfl rfl) rfl) ?_
      refine gl (i' := 12) (fun _ _ => aw_iload K (dOf ck_mJ7_fill_bad5a rfl rfl) rfl) ?_
      refine gl (i' := 13) (fun _ _ => aw_lload_n K (dOf ck_mJ7_fill_bad5a rfl rfl) rfl) ?_
      refine g_gd (fun hb3 => ?_)
      refine g_st1 ?_
      refine gl (i' := 14) (fun _ _ => aw_last K (dOf ck_mJ7_fill_bad5a rfl rfl) (okL_at hx0) hb3) ?_
      refine gl (i' := 15) (fun _ _ => aw_iinc K (dOf ck_mJ7_fill_bad5a rfl rfl) (Nat.le_of_ble_eq_true rfl) rfl) ?_
      refine g_lv (lv' := [(5, .inl _), (0, .inr (.inr (.inl (some _)))), (2, .inl _), (3, .inr (.inl _))]) rfl ?_
      refine g_goto K (dOf ck_mJ7_fill_bad5a rfl rfl).1 (t := 7) (aJ_of (by decide +kernel)) ?_
      refine g_sub [1, 2, 3, 0] rfl ?_
      exact ih _ _
    · exact g_vret K (by decide +kernel) rfl rfl
def Jarr_fillLR (x0 : Nat) (x1 : Int) (x2 : Int) (x3 : Int) (mm : aM) : Option aM := (Jarr_rangeCheck ((aln x0 : Nat) : Int) x1 x2 mm).bind fun r1 => (Jarr_fillLR_7 x0 x2 x3 FU x1 r1)
set_option maxHeartbeats 4000000 in
theorem met_Jarr_fillLR {l : Launch} {D : va_G} {cA : FieldType → ClassId} {ad adV : Nat → Nat} {z0 : Nat} {x0 : Nat} {x1 : Int} {x2 : Int} {x3 : Int} {mm : aM} (hx0 : okL x0) {r : aM} (h : Jarr_fillLR x0 x1 x2 x3 mm = some r) : aMet l D cA ad adV z0 mJ7_fill_bad5a 1 22 0 0 [.inr (.inr (.inl (some x0))), .inl x1, .inl x2, .inr (.inl x3)] SH mm (rM r).1 SH (rM r).2 := by
  refine aMet_ofG (by decide +kernel) rfl (Nat.le_of_ble_eq_true rfl) h (fun p e s m args below meth c al0 K => ?_)
  unfold Jarr_fillLR
  refine gl (i' := 1) (fun _ _ => aw_aload_n K (dOf ck_mJ7_fill_bad5a rfl rfl) rfl) ?_
  refine gl (i' := 2) (fun _ _ => aw_alen K (dOf ck_mJ7_fill_bad5a rfl rfl) (okL_at hx0) rfl (aln_lt _)) ?_
  refine gl (i' := 3) (fun _ _ => aw_iload_n K (dOf ck_mJ7_fill_bad5a rfl rfl) rfl) ?_
  refine gl (i' := 4) (fun _ _ => aw_iload_n K (dOf ck_mJ7_fill_bad5a rfl rfl) rfl) ?_
  refine g_callSM K [.inl _, .inl _, .inl _] rfl (dOf ck_mJ7_fill_bad5a rfl rfl) al_java_util_Arrays_13 wd_837 rfl (Nat.le_of_ble_eq_true rfl) ⟨Nat.le_of_ble_eq_true rfl, Nat.le_of_ble_eq_true rfl⟩ (fun b hb => met_Jarr_rangeCheck  hb) (fun r1 hr1 => ?_)
  refine gl (i' := 6) (fun _ _ => aw_iload_n K (dOf ck_mJ7_fill_bad5a rfl rfl) rfl) ?_
  refine gl (i' := 7) (fun _ _ => aw_istore K (dOf ck_mJ7_fill_bad5a rfl rfl) (Nat.le_of_ble_eq_true rfl)) ?_
  refine g_lv (lv' := [(5, .inl _), (0, .inr (.inr (.inl (some _)))), (1, .inl _), (2, .inl _), (3, .inr (.inl _))]) rfl ?_
  refine g_sub [1, 3, 4, 0] rfl ?_
  exact lk_Jarr_fillLR_7 K _ _ hx0 FU _ _
def Twins_allow_27 (k2 : Int → aM → Option aM) (x1 : Int) (x2 : Int) (mm : aM) : Option aM := k2 (w32 (x2 + 1)) mm
set_option maxHeartbeats 4000000 in
theorem lk_Twins_allow_27 {p : Program} {l : Launch} {e : Env} {s : State} {m : MethodId} {args : Array Value} {below : List Frame} {meth : Method} {c : Code} {D : va_G} {cA : FieldType → ClassId} {ad adV : Nat → Nat} {z0 : Nat} {al0 : List Nat} (K : aK p s m args meth c mX9_allow D cA ad adV z0) (x1 : Int) (x2 : Int) (k2 : Int → aM → Option aM) (hk2 : ∀ (x2 : Int) (mm : aM), aG p l e { frames := 0, cells := 0, slots := 0, locals := 0 } s m args below meth c D cA ad z0 mX9_allow al0 rM (k2 x2 mm) 2 [(0, .inr (.inr (.inl (some 80)))), (1, .inl x1), (2, .inl x2)] [] mm)  (mm : aM) : aG p l e { frames := 0, cells := 0, slots := 0, locals := 0 } s m args below meth c D cA ad z0 mX9_allow al0 rM (Twins_allow_27 k2 x1 x2 mm) 27 [(0, .inr (.inr (.inl (some 80)))), (1, .inl x1), (2, .inl x2)] [] mm := by
  unfold Twins_allow_27
  refine gl (i' := 28) (fun _ _ => aw_iinc K (dOf ck_mX9_allow rfl rfl) (Nat.le_of_ble_eq_true rfl) rfl) ?_
  refine g_lv (lv' := [(2, .inl _), (0, .inr (.inr (.inl (some _)))), (1, .inl _)]) rfl ?_
  refine g_goto K (dOf ck_mX9_allow rfl rfl).1 (t := 2) (aJ_of (by decide +kernel)) ?_
  refine g_sub [1, 2, 0] rfl ?_
  exact hk2 _ _
def Twins_allow_2 (x1 : Int) : Nat → Int → aM → Option aM
  | 0, _, _ => none
  | n + 1, x2, mm => if x2 < 4 then (if 0 ≤ x2 ∧ x2 < 4 then (if 0 ≤ x1 ∧ x1 < 13 then (if (iand (ishr (mm 97 x2.toNat) (mm 96 x1.toNat)) 1) = 0 then (Twins_allow_27 (Twins_allow_2 x1 n) x1 x2 mm) else (st1 (aup mm 99 x2.toNat (ior (mm 99 x2.toNat) (ishl 1 x1))) fun mm5 => (Twins_allow_27 (Twins_allow_2 x1 n) x1 x2 mm5))) else none) else none) else (some mm)
set_option maxHeartbeats 4000000 in
theorem lk_Twins_allow_2 {p : Program} {l : Launch} {e : Env} {s : State} {m : MethodId} {args : Array Value} {below : List Frame} {meth : Method} {c : Code} {D : va_G} {cA : FieldType → ClassId} {ad adV : Nat → Nat} {z0 : Nat} {al0 : List Nat} (K : aK p s m args meth c mX9_allow D cA ad adV z0) (x1 : Int)  : ∀ (n : Nat) (x2 : Int) (mm : aM), aG p l e { frames := 0, cells := 0, slots := 0, locals := 0 } s m args below meth c D cA ad z0 mX9_allow al0 rM (Twins_allow_2 x1 n x2 mm) 2 [(0, .inr (.inr (.inl (some 80)))), (1, .inl x1), (2, .inl x2)] [] mm := by
  intro n
  induction n with
  | zero => intro x2 mm; exact g_none
  | succ n ih =>
    intro x2 mm
    rw [Twins_allow_2]
    refine gl (i' := 3) (fun _ _ => aw_iload_n K (dOf ck_mX9_allow rfl rfl) rfl) ?_
    refine gl (i' := 4) (fun _ _ => aw_iconst K (n := 4) (i32 _ rfl) (dOf ck_mX9_allow rfl rfl)) ?_
    refine g_icmp_ge K (dOf ck_mX9_allow rfl rfl) (t := 29) (aJ_of (by decide +kernel)) (fun h1 => ?_) (fun h1 => ?_)
    · refine gl (i' := 6) (fun _ _ => aw_aload_n K (dOf ck_mX9_allow rfl rfl) rfl) ?_
      refine gl (i' := 7) (fun _ _ => aw_getf K (dOf ck_mX9_allow rfl rfl) rfl rfl (Nat.le_of_ble_eq_true rfl) wd_397 (k := 6) rfl) ?_
      refine gl (i' := 8) (fun _ _ => aw_iload_n K (dOf ck_mX9_allow rfl rfl) rfl) ?_
      refine g_gd (fun hb2 => ?_)
      refine gl (i' := 9) (fun _ _ => aw_iald K (dOf ck_mX9_allow rfl rfl) rfl hb2) ?_
      refine gl (i' := 10) (fun _ _ => aw_aload_n K (dOf ck_mX9_allow rfl rfl) rfl) ?_
      refine gl (i' := 11) (fun _ _ => aw_getf K (dOf ck_mX9_allow rfl rfl) rfl rfl (Nat.le_of_ble_eq_true rfl) wd_396 (k := 5) rfl) ?_
      refine gl (i' := 12) (fun _ _ => aw_iload_n K (dOf ck_mX9_allow rfl rfl) rfl) ?_
      refine g_gd (fun hb3 => ?_)
      refine gl (i' := 13) (fun _ _ => aw_iald K (dOf ck_mX9_allow rfl rfl) rfl hb3) ?_
      refine gl (i' := 14) (fun _ _ => aw_ishr K (dOf ck_mX9_allow rfl rfl)) ?_
      refine gl (i' := 15) (fun _ _ => aw_iconst K (n := 1) (i32 _ rfl) (dOf ck_mX9_allow rfl rfl)) ?_
      refine gl (i' := 16) (fun _ _ => aw_iand K (dOf ck_mX9_allow rfl rfl)) ?_
      refine g_if_eq K (dOf ck_mX9_allow rfl rfl) (t := 27) (aJ_of (by decide +kernel)) (fun h4 => ?_) (fun h4 => ?_)
      · refine g_sub [0, 1, 2] rfl ?_
        exact lk_Twins_allow_27 K _ _ _ ih _
      · refine gl (i' := 18) (fun _ _ => aw_aload_n K (dOf ck_mX9_allow rfl rfl) rfl) ?_
        refine gl (i' := 19) (fun _ _ => aw_getf K (dOf ck_mX9_allow rfl rfl) rfl rfl (Nat.le_of_ble_eq_true rfl) wd_399 (k := 8) rfl) ?_
        refine gl (i' := 20) (fun _ _ => aw_iload_n K (dOf ck_mX9_allow rfl rfl) rfl) ?_
        refine gl (i' := 21) (fun _ _ => aw_dup2_11 K rfl rfl (dOf ck_mX9_allow rfl rfl)) ?_
        refine gl (i' := 22) (fun _ _ => aw_iald K (dOf ck_mX9_allow rfl rfl) rfl hb2) ?_
        refine gl (i' := 23) (fun _ _ => aw_iconst K (n := 1) (i32 _ rfl) (dOf ck_mX9_allow rfl rfl)) ?_
        refine gl (i' := 24) (fun _ _ => aw_iload_n K (dOf ck_mX9_allow rfl rfl) rfl) ?_
        refine gl (i' := 25) (fun _ _ => aw_ishl K (dOf ck_mX9_allow rfl rfl)) ?_
        refine gl (i' := 26) (fun _ _ => aw_ior K (dOf ck_mX9_allow rfl rfl)) ?_
        refine g_st1 ?_
        refine gl (i' := 27) (fun _ _ => aw_iast K (dOf ck_mX9_allow rfl rfl) rfl hb2) ?_
        refine g_sub [0, 1, 2] rfl ?_
        exact lk_Twins_allow_27 K _ _ _ ih _
    · exact g_vret K (by decide +kernel) rfl rfl
def Twins_allow (x1 : Int) (mm : aM) : Option aM := Twins_allow_2 x1 FU 0 mm
set_option maxHeartbeats 4000000 in
theorem met_Twins_allow {l : Launch} {D : va_G} {cA : FieldType → ClassId} {ad adV : Nat → Nat} {z0 : Nat} {x1 : Int} {mm : aM}  {r : aM} (h : Twins_allow x1 mm = some r) : aMet l D cA ad adV z0 mX9_allow 0 0 0 0 [.inr (.inr (.inl (some 80))), .inl x1] SH mm (rM r).1 SH (rM r).2 := by
  refine aMet_ofG (by decide +kernel) rfl (Nat.le_of_ble_eq_true rfl) h (fun p e s m args below meth c al0 K => ?_)
  unfold Twins_allow
  refine gl (i' := 1) (fun _ _ => aw_iconst K (n := 0) (i32 _ rfl) (dOf ck_mX9_allow rfl rfl)) ?_
  refine gl (i' := 2) (fun _ _ => aw_istore_n K (dOf ck_mX9_allow rfl rfl) (Nat.le_of_ble_eq_true rfl)) ?_
  refine g_lv (lv' := [(2, .inl _), (0, .inr (.inr (.inl (some _)))), (1, .inl _)]) rfl ?_
  refine g_sub [1, 2, 0] rfl ?_
  exact lk_Twins_allow_2 K _ FU _ _
def Twins_oddState (x1 : Int) (x2 : Int) (x3 : Int) (x4 : Int) (mm : aM) : Option Int := some (w32 ((w32 ((w32 ((w32 (16 + (w32 ((w32 ((w32 ((w32 (x1 * 7)) + x2)) - 1)) * 5)))) + x3)) * (mm 80 10))) + x4))
set_option maxHeartbeats 4000000 in
theorem met_Twins_oddState {l : Launch} {D : va_G} {cA : FieldType → ClassId} {ad adV : Nat → Nat} {z0 : Nat} {x1 : Int} {x2 : Int} {x3 : Int} {x4 : Int} {mm : aM}  {r : Int} (h : Twins_oddState x1 x2 x3 x4 mm = some r) : aMet l D cA ad adV z0 mX9_oddState 0 0 0 0 [.inr (.inr (.inl (some 80))), .inl x1, .inl x2, .inl x3, .inl x4] SH mm ((rI mm) r).1 SH ((rI mm) r).2 := by
  refine aMet_ofG (by decide +kernel) rfl (Nat.le_of_ble_eq_true rfl) h (fun p e s m args below meth c al0 K => ?_)
  unfold Twins_oddState
  refine gl (i' := 1) (fun _ _ => aw_bip K (dOf ck_mX9_oddState rfl rfl) (v := 16) rfl) ?_
  refine gl (i' := 2) (fun _ _ => aw_iload_n K (dOf ck_mX9_oddState rfl rfl) rfl) ?_
  refine gl (i' := 3) (fun _ _ => aw_bip K (dOf ck_mX9_oddState rfl rfl) (v := 7) rfl) ?_
  refine gl (i' := 4) (fun _ _ => aw_imul K (dOf ck_mX9_oddState rfl rfl)) ?_
  refine gl (i' := 5) (fun _ _ => aw_iload_n K (dOf ck_mX9_oddState rfl rfl) rfl) ?_
  refine gl (i' := 6) (fun _ _ => aw_iadd K (dOf ck_mX9_oddState rfl rfl)) ?_
  refine gl (i' := 7) (fun _ _ => aw_iconst K (n := 1) (i32 _ rfl) (dOf ck_mX9_oddState rfl rfl)) ?_
  refine gl (i' := 8) (fun _ _ => aw_isub K (dOf ck_mX9_oddState rfl rfl)) ?_
  refine gl (i' := 9) (fun _ _ => aw_iconst K (n := 5) (i32 _ rfl) (dOf ck_mX9_oddState rfl rfl)) ?_
  refine gl (i' := 10) (fun _ _ => aw_imul K (dOf ck_mX9_oddState rfl rfl)) ?_
  refine gl (i' := 11) (fun _ _ => aw_iadd K (dOf ck_mX9_oddState rfl rfl)) ?_
  refine gl (i' := 12) (fun _ _ => aw_iload_n K (dOf ck_mX9_oddState rfl rfl) rfl) ?_
  refine gl (i' := 13) (fun _ _ => aw_iadd K (dOf ck_mX9_oddState rfl rfl)) ?_
  refine gl (i' := 14) (fun _ _ => aw_aload_n K (dOf ck_mX9_oddState rfl rfl) rfl) ?_
  refine gl (i' := 15) (fun _ _ => aw_getf K (dOf ck_mX9_oddState rfl rfl) rfl rfl (Nat.le_of_ble_eq_true rfl) wd_401 (k := 10) rfl) ?_
  refine gl (i' := 16) (fun _ _ => aw_imul K (dOf ck_mX9_oddState rfl rfl)) ?_
  refine gl (i' := 17) (fun _ _ => aw_iload K (dOf ck_mX9_oddState rfl rfl) rfl) ?_
  refine gl (i' := 18) (fun _ _ => aw_iadd K (dOf ck_mX9_oddState rfl rfl)) ?_
  exact g_iret K (by decide +kernel) rfl (Or.inl rfl) rfl
def Twins_push (x1 : Int) (x2 : Int) (mm : aM) : Option aM := if 0 ≤ (ishr x1 6) ∧ (ishr x1 6) < 67 then (if (land (mm 101 (ishr x1 6).toNat) (lshl 1 (iand x1 63))) = 0 then (if 0 ≤ (w32 ((w32 ((Int.tmod x2 8) * 67)) + (ishr x1 6))) ∧ (w32 ((w32 ((Int.tmod x2 8) * 67)) + (ishr x1 6))) < 536 then (if (land (mm 100 (w32 ((w32 ((Int.tmod x2 8) * 67)) + (ishr x1 6))).toNat) (lshl 1 (iand x1 63))) = 0 then (st1 (aup mm 100 (w32 ((w32 ((Int.tmod x2 8) * 67)) + (ishr x1 6))).toNat (lor (mm 100 (w32 ((w32 ((Int.tmod x2 8) * 67)) + (ishr x1 6))).toNat) (lshl 1 (iand x1 63)))) fun mm5 => (st1 (aup mm5 80 12 (w32 ((mm5 80 12) + 1))) fun mm6 => (some mm6))) else (some mm)) else none) else (some mm)) else none
set_option maxHeartbeats 4000000 in
theorem met_Twins_push {l : Launch} {D : va_G} {cA : FieldType → ClassId} {ad adV : Nat → Nat} {z0 : Nat} {x1 : Int} {x2 : Int} {mm : aM}  {r : aM} (h : Twins_push x1 x2 mm = some r) : aMet l D cA ad adV z0 mX9_push 0 0 0 0 [.inr (.inr (.inl (some 80))), .inl x1, .inl x2] SH mm (rM r).1 SH (rM r).2 := by
  refine aMet_ofG (by decide +kernel) rfl (Nat.le_of_ble_eq_true rfl) h (fun p e s m args below meth c al0 K => ?_)
  unfold Twins_push
  refine gl (i' := 1) (fun _ _ => aw_iload_n K (dOf ck_mX9_push rfl rfl) rfl) ?_
  refine gl (i' := 2) (fun _ _ => aw_bip K (dOf ck_mX9_push rfl rfl) (v := 8) rfl) ?_
  refine gl (i' := 3) (fun _ _ => aw_irem K (by decide) (dOf ck_mX9_push rfl rfl)) ?_
  refine gl (i' := 4) (fun _ _ => aw_bip K (dOf ck_mX9_push rfl rfl) (v := 67) rfl) ?_
  refine gl (i' := 5) (fun _ _ => aw_imul K (dOf ck_mX9_push rfl rfl)) ?_
  refine gl (i' := 6) (fun _ _ => aw_iload_n K (dOf ck_mX9_push rfl rfl) rfl) ?_
  refine gl (i' := 7) (fun _ _ => aw_bip K (dOf ck_mX9_push rfl rfl) (v := 6) rfl) ?_
  refine gl (i' := 8) (fun _ _ => aw_ishr K (dOf ck_mX9_push rfl rfl)) ?_
  refine gl (i' := 9) (fun _ _ => aw_iadd K (dOf ck_mX9_push rfl rfl)) ?_
  refine gl (i' := 10) (fun _ _ => aw_istore_n K (dOf ck_mX9_push rfl rfl) (Nat.le_of_ble_eq_true rfl)) ?_
  refine g_lv (lv' := [(3, .inl _), (0, .inr (.inr (.inl (some _)))), (1, .inl _), (2, .inl _)]) rfl ?_
  refine gl (i' := 11) (fun _ _ => aw_lcn K (dOf ck_mX9_push rfl rfl) (v := 1) rfl) ?_
  refine gl (i' := 12) (fun _ _ => aw_iload_n K (dOf ck_mX9_push rfl rfl) rfl) ?_
  refine gl (i' := 13) (fun _ _ => aw_bip K (dOf ck_mX9_push rfl rfl) (v := 63) rfl) ?_
  refine gl (i' := 14) (fun _ _ => aw_iand K (dOf ck_mX9_push rfl rfl)) ?_
  refine gl (i' := 15) (fun _ _ => aw_lshl K (dOf ck_mX9_push rfl rfl)) ?_
  refine gl (i' := 16) (fun _ _ => aw_lstore K (dOf ck_mX9_push rfl rfl) (Nat.le_of_ble_eq_true rfl)) ?_
  refine g_lv (lv' := [(4, .inr (.inl _)), (3, .inl _), (0, .inr (.inr (.inl (some _)))), (1, .inl _), (2, .inl _)]) rfl ?_
  refine gl (i' := 17) (fun _ _ => aw_aload_n K (dOf ck_mX9_push rfl rfl) rfl) ?_
  refine gl (i' := 18) (fun _ _ => aw_getf K (dOf ck_mX9_push rfl rfl) rfl rfl (Nat.le_of_ble_eq_true rfl) wd_406 (k := 15) rfl) ?_
  refine gl (i' := 19) (fun _ _ => aw_iload_n K (dOf ck_mX9_push rfl rfl) rfl) ?_
  refine gl (i' := 20) (fun _ _ => aw_bip K (dOf ck_mX9_push rfl rfl) (v := 6) rfl) ?_
  refine gl (i' := 21) (fun _ _ => aw_ishr K (dOf ck_mX9_push rfl rfl)) ?_
  refine g_gd (fun hb1 => ?_)
  refine gl (i' := 22) (fun _ _ => aw_lald K (dOf ck_mX9_push rfl rfl) rfl hb1) ?_
  refine gl (i' := 23) (fun _ _ => aw_lload K (dOf ck_mX9_push rfl rfl) rfl) ?_
  refine gl (i' := 24) (fun _ _ => aw_land K (dOf ck_mX9_push rfl rfl)) ?_
  refine gl (i' := 25) (fun _ _ => aw_lcn K (dOf ck_mX9_push rfl rfl) (v := 0) rfl) ?_
  refine g_lcmp_ne K (dOf ck_mX9_push rfl rfl) (dOf ck_mX9_push rfl rfl) (t := 50) (aJ_of (by decide +kernel)) (fun h2 => ?_) (fun h2 => ?_)
  · refine gl (i' := 28) (fun _ _ => aw_aload_n K (dOf ck_mX9_push rfl rfl) rfl) ?_
    refine gl (i' := 29) (fun _ _ => aw_getf K (dOf ck_mX9_push rfl rfl) rfl rfl (Nat.le_of_ble_eq_true rfl) wd_405 (k := 14) rfl) ?_
    refine gl (i' := 30) (fun _ _ => aw_iload_n K (dOf ck_mX9_push rfl rfl) rfl) ?_
    refine g_gd (fun hb3 => ?_)
    refine gl (i' := 31) (fun _ _ => aw_lald K (dOf ck_mX9_push rfl rfl) rfl hb3) ?_
    refine gl (i' := 32) (fun _ _ => aw_lload K (dOf ck_mX9_push rfl rfl) rfl) ?_
    refine gl (i' := 33) (fun _ _ => aw_land K (dOf ck_mX9_push rfl rfl)) ?_
    refine gl (i' := 34) (fun _ _ => aw_lcn K (dOf ck_mX9_push rfl rfl) (v := 0) rfl) ?_
    refine g_lcmp_ne K (dOf ck_mX9_push rfl rfl) (dOf ck_mX9_push rfl rfl) (t := 50) (aJ_of (by decide +kernel)) (fun h4 => ?_) (fun h4 => ?_)
    · refine gl (i' := 37) (fun _ _ => aw_aload_n K (dOf ck_mX9_push rfl rfl) rfl) ?_
      refine gl (i' := 38) (fun _ _ => aw_getf K (dOf ck_mX9_push rfl rfl) rfl rfl (Nat.le_of_ble_eq_true rfl) wd_405 (k := 14) rfl) ?_
      refine gl (i' := 39) (fun _ _ => aw_iload_n K (dOf ck_mX9_push rfl rfl) rfl) ?_
      refine gl (i' := 40) (fun _ _ => aw_dup2_11 K rfl rfl (dOf ck_mX9_push rfl rfl)) ?_
      refine gl (i' := 41) (fun _ _ => aw_lald K (dOf ck_mX9_push rfl rfl) rfl hb3) ?_
      refine gl (i' := 42) (fun _ _ => aw_lload K (dOf ck_mX9_push rfl rfl) rfl) ?_
      refine gl (i' := 43) (fun _ _ => aw_lor K (dOf ck_mX9_push rfl rfl)) ?_
      refine g_st1 ?_
      refine gl (i' := 44) (fun _ _ => aw_last K (dOf ck_mX9_push rfl rfl) rfl hb3) ?_
      refine gl (i' := 45) (fun _ _ => aw_aload_n K (dOf ck_mX9_push rfl rfl) rfl) ?_
      refine gl (i' := 46) (fun _ _ => aw_dup K rfl (dOf ck_mX9_push rfl rfl)) ?_
      refine gl (i' := 47) (fun _ _ => aw_getf K (dOf ck_mX9_push rfl rfl) rfl rfl (Nat.le_of_ble_eq_true rfl) wd_403 (k := 12) rfl) ?_
      refine gl (i' := 48) (fun _ _ => aw_iconst K (n := 1) (i32 _ rfl) (dOf ck_mX9_push rfl rfl)) ?_
      refine gl (i' := 49) (fun _ _ => aw_iadd K (dOf ck_mX9_push rfl rfl)) ?_
      refine g_st1 ?_
      refine gl (i' := 50) (fun _ _ => aw_putf K (dOf ck_mX9_push rfl rfl) rfl rfl (Nat.le_of_ble_eq_true rfl) wd_403 (k := 12) rfl rfl (Or.inl rfl)) ?_
      exact g_vret K (by decide +kernel) rfl rfl
    · exact g_vret K (by decide +kernel) rfl rfl
  · exact g_vret K (by decide +kernel) rfl rfl
def Twins_begin_88 (k63 : Int → aM → Option aM) (x2 : Int) (mm : aM) : Option aM := k63 (w32 (x2 + 1)) mm
set_option maxHeartbeats 4000000 in
theorem lk_Twins_begin_88 {p : Program} {l : Launch} {e : Env} {s : State} {m : MethodId} {args : Array Value} {below : List Frame} {meth : Method} {c : Code} {D : va_G} {cA : FieldType → ClassId} {ad adV : Nat → Nat} {z0 : Nat} {al0 : List Nat} (K : aK p s m args meth c mX9_begin D cA ad adV z0) (x2 : Int) (k63 : Int → aM → Option aM) (hk63 : ∀ (x2 : Int) (mm : aM), aG p l e { frames := 2, cells := 0, slots := 0, locals := 47 } s m args below meth c D cA ad z0 mX9_begin al0 rM (k63 x2 mm) 63 [(0, .inr (.inr (.inl (some 80)))), (2, .inl x2)] [] mm)  (mm : aM) : aG p l e { frames := 2, cells := 0, slots := 0, locals := 47 } s m args below meth c D cA ad z0 mX9_begin al0 rM (Twins_begin_88 k63 x2 mm) 88 [(0, .inr (.inr (.inl (some 80)))), (2, .inl x2)] [] mm := by
  unfold Twins_begin_88
  refine gl (i' := 89) (fun _ _ => aw_iinc K (dOf ck_mX9_begin rfl rfl) (Nat.le_of_ble_eq_true rfl) rfl) ?_
  refine g_lv (lv' := [(2, .inl _), (0, .inr (.inr (.inl (some _))))]) rfl ?_
  refine g_goto K (dOf ck_mX9_begin rfl rfl).1 (t := 63) (aJ_of (by decide +kernel)) ?_
  refine g_sub [1, 0] rfl ?_
  exact hk63 _ _
def Twins_begin_63  : Nat → Int → aM → Option aM
  | 0, _, _ => none
  | n + 1, x2, mm => if x2 < 13 then (if (iand (ishr (mm 80 1) x2) 1) = 0 then (Twins_begin_88 (Twins_begin_63 n) x2 mm) else ((Twins_allow x2 mm).bind fun r11 => (if 0 ≤ x2 ∧ x2 < 13 then ((Twins_oddState x2 (r11 95 x2.toNat) 4 0 r11).bind fun r13 => ((Twins_push r13 0 r11).bind fun r14 => (Twins_begin_88 (Twins_begin_63 n) x2 r14))) else none))) else (some mm)
set_option maxHeartbeats 4000000 in
theorem lk_Twins_begin_63 {p : Program} {l : Launch} {e : Env} {s : State} {m : MethodId} {args : Array Value} {below : List Frame} {meth : Method} {c : Code} {D : va_G} {cA : FieldType → ClassId} {ad adV : Nat → Nat} {z0 : Nat} {al0 : List Nat} (K : aK p s m args meth c mX9_begin D cA ad adV z0)   : ∀ (n : Nat) (x2 : Int) (mm : aM), aG p l e { frames := 2, cells := 0, slots := 0, locals := 47 } s m args below meth c D cA ad z0 mX9_begin al0 rM (Twins_begin_63 n x2 mm) 63 [(0, .inr (.inr (.inl (some 80)))), (2, .inl x2)] [] mm := by
  intro n
  induction n with
  | zero => intro x2 mm; exact g_none
  | succ n ih =>
    intro x2 mm
    rw [Twins_begin_63]
    refine gl (i' := 64) (fun _ _ => aw_iload_n K (dOf ck_mX9_begin rfl rfl) rfl) ?_
    refine gl (i' := 65) (fun _ _ => aw_bip K (dOf ck_mX9_begin rfl rfl) (v := 13) rfl) ?_
    refine g_icmp_ge K (dOf ck_mX9_begin rfl rfl) (t := 90) (aJ_of (by decide +kernel)) (fun h9 => ?_) (fun h9 => ?_)
    · refine gl (i' := 67) (fun _ _ => aw_aload_n K (dOf ck_mX9_begin rfl rfl) rfl) ?_
      refine gl (i' := 68) (fun _ _ => aw_getf K (dOf ck_mX9_begin rfl rfl) rfl rfl (Nat.le_of_ble_eq_true rfl) wd_392 (k := 1) rfl) ?_
      refine gl (i' := 69) (fun _ _ => aw_iload_n K (dOf ck_mX9_begin rfl rfl) rfl) ?_
      refine gl (i' := 70) (fun _ _ => aw_ishr K (dOf ck_mX9_begin rfl rfl)) ?_
      refine gl (i' := 71) (fun _ _ => aw_iconst K (n := 1) (i32 _ rfl) (dOf ck_mX9_begin rfl rfl)) ?_
      refine gl (i' := 72) (fun _ _ => aw_iand K (dOf ck_mX9_begin rfl rfl)) ?_
      refine g_if_eq K (dOf ck_mX9_begin rfl rfl) (t := 88) (aJ_of (by decide +kernel)) (fun h10 => ?_) (fun h10 => ?_)
      · refine g_sub [0, 1] rfl ?_
        exact lk_Twins_begin_88 K _ _ ih _
      · refine gl (i' := 74) (fun _ _ => aw_aload_n K (dOf ck_mX9_begin rfl rfl) rfl) ?_
        refine gl (i' := 75) (fun _ _ => aw_iload_n K (dOf ck_mX9_begin rfl rfl) rfl) ?_
        refine g_callVM K [.inl _] rfl (dOf ck_mX9_begin rfl rfl) al_OneBreath_Twins_122 rfl rfl ⟨wd_841, wd_28⟩ rfl (Nat.le_of_ble_eq_true rfl) ⟨Nat.le_of_ble_eq_true rfl, Nat.le_of_ble_eq_true rfl⟩ (fun b hb => met_Twins_allow  hb) (fun r11 hr11 => ?_)
        refine gl (i' := 77) (fun _ _ => aw_aload_n K (dOf ck_mX9_begin rfl rfl) rfl) ?_
        refine gl (i' := 78) (fun _ _ => aw_aload_n K (dOf ck_mX9_begin rfl rfl) rfl) ?_
        refine gl (i' := 79) (fun _ _ => aw_iload_n K (dOf ck_mX9_begin rfl rfl) rfl) ?_
        refine gl (i' := 80) (fun _ _ => aw_aload_n K (dOf ck_mX9_begin rfl rfl) rfl) ?_
        refine gl (i' := 81) (fun _ _ => aw_getf K (dOf ck_mX9_begin rfl rfl) rfl rfl (Nat.le_of_ble_eq_true rfl) wd_395 (k := 4) rfl) ?_
        refine gl (i' := 82) (fun _ _ => aw_iload_n K (dOf ck_mX9_begin rfl rfl) rfl) ?_
        refine g_gd (fun hb12 => ?_)
        refine gl (i' := 83) (fun _ _ => aw_iald K (dOf ck_mX9_begin rfl rfl) rfl hb12) ?_
        refine gl (i' := 84) (fun _ _ => aw_iconst K (n := 4) (i32 _ rfl) (dOf ck_mX9_begin rfl rfl)) ?_
        refine gl (i' := 85) (fun _ _ => aw_iconst K (n := 0) (i32 _ rfl) (dOf ck_mX9_begin rfl rfl)) ?_
        refine g_callVI K [.inl _, .inl _, .inl _, .inl _] rfl (dOf ck_mX9_begin rfl rfl) al_OneBreath_Twins_125 rfl rfl ⟨wd_844, wd_29⟩ rfl (Nat.le_of_ble_eq_true rfl) ⟨Nat.le_of_ble_eq_true rfl, Nat.le_of_ble_eq_true rfl⟩ (fun b hb => met_Twins_oddState  hb) (fun r13 hr13 => ?_)
        refine gl (i' := 87) (fun _ _ => aw_iconst K (n := 0) (i32 _ rfl) (dOf ck_mX9_begin rfl rfl)) ?_
        refine g_callVM K [.inl _, .inl _] rfl (dOf ck_mX9_begin rfl rfl) al_OneBreath_Twins_129 rfl rfl ⟨wd_847, wd_30⟩ rfl (Nat.le_of_ble_eq_true rfl) ⟨Nat.le_of_ble_eq_true rfl, Nat.le_of_ble_eq_true rfl⟩ (fun b hb => met_Twins_push  hb) (fun r14 hr14 => ?_)
        refine g_sub [0, 1] rfl ?_
        exact lk_Twins_begin_88 K _ _ ih _
    · exact g_vret K (by decide +kernel) rfl rfl
def Twins_begin_39  : Nat → Int → aM → Option aM
  | 0, _, _ => none
  | n + 1, x2, mm => if x2 < 8 then ((Jarr_fillLR 100 (w32 (x2 * 67)) (w32 ((w32 (x2 * 67)) + (mm 80 11))) 0 mm).bind fun r15 => (Twins_begin_39 n (w32 (x2 + 1)) r15)) else ((Jarr_fillI 99 0 mm).bind fun r8 => (Twins_begin_63 FU 0 r8))
set_option maxHeartbeats 4000000 in
theorem lk_Twins_begin_39 {p : Program} {l : Launch} {e : Env} {s : State} {m : MethodId} {args : Array Value} {below : List Frame} {meth : Method} {c : Code} {D : va_G} {cA : FieldType → ClassId} {ad adV : Nat → Nat} {z0 : Nat} {al0 : List Nat} (K : aK p s m args meth c mX9_begin D cA ad adV z0)   : ∀ (n : Nat) (x2 : Int) (mm : aM), aG p l e { frames := 2, cells := 0, slots := 0, locals := 47 } s m args below meth c D cA ad z0 mX9_begin al0 rM (Twins_begin_39 n x2 mm) 39 [(0, .inr (.inr (.inl (some 80)))), (2, .inl x2)] [] mm := by
  intro n
  induction n with
  | zero => intro x2 mm; exact g_none
  | succ n ih =>
    intro x2 mm
    rw [Twins_begin_39]
    refine gl (i' := 40) (fun _ _ => aw_iload_n K (dOf ck_mX9_begin rfl rfl) rfl) ?_
    refine gl (i' := 41) (fun _ _ => aw_bip K (dOf ck_mX9_begin rfl rfl) (v := 8) rfl) ?_
    refine g_icmp_ge K (dOf ck_mX9_begin rfl rfl) (t := 57) (aJ_of (by decide +kernel)) (fun h7 => ?_) (fun h7 => ?_)
    · refine gl (i' := 43) (fun _ _ => aw_aload_n K (dOf ck_mX9_begin rfl rfl) rfl) ?_
      refine gl (i' := 44) (fun _ _ => aw_getf K (dOf ck_mX9_begin rfl rfl) rfl rfl (Nat.le_of_ble_eq_true rfl) wd_405 (k := 14) rfl) ?_
      refine gl (i' := 45) (fun _ _ => aw_iload_n K (dOf ck_mX9_begin rfl rfl) rfl) ?_
      refine gl (i' := 46) (fun _ _ => aw_bip K (dOf ck_mX9_begin rfl rfl) (v := 67) rfl) ?_
      refine gl (i' := 47) (fun _ _ => aw_imul K (dOf ck_mX9_begin rfl rfl)) ?_
      refine gl (i' := 48) (fun _ _ => aw_iload_n K (dOf ck_mX9_begin rfl rfl) rfl) ?_
      refine gl (i' := 49) (fun _ _ => aw_bip K (dOf ck_mX9_begin rfl rfl) (v := 67) rfl) ?_
      refine gl (i' := 50) (fun _ _ => aw_imul K (dOf ck_mX9_begin rfl rfl)) ?_
      refine gl (i' := 51) (fun _ _ => aw_aload_n K (dOf ck_mX9_begin rfl rfl) rfl) ?_
      refine gl (i' := 52) (fun _ _ => aw_getf K (dOf ck_mX9_begin rfl rfl) rfl rfl (Nat.le_of_ble_eq_true rfl) wd_402 (k := 11) rfl) ?_
      refine gl (i' := 53) (fun _ _ => aw_iadd K (dOf ck_mX9_begin rfl rfl)) ?_
      refine gl (i' := 54) (fun _ _ => aw_lcn K (dOf ck_mX9_begin rfl rfl) (v := 0) rfl) ?_
      refine g_callSM K [.inr (.inr (.inl (some _))), .inl _, .inl _, .inr (.inl _)] rfl (dOf ck_mX9_begin rfl rfl) al_OneBreath_Twins_113 wd_834 rfl (Nat.le_of_ble_eq_true rfl) ⟨Nat.le_of_ble_eq_true rfl, Nat.le_of_ble_eq_true rfl⟩ (fun b hb => met_Jarr_fillLR ⟨_, rfl⟩ hb) (fun r15 hr15 => ?_)
      refine gl (i' := 56) (fun _ _ => aw_iinc K (dOf ck_mX9_begin rfl rfl) (Nat.le_of_ble_eq_true rfl) rfl) ?_
      refine g_lv (lv' := [(2, .inl _), (0, .inr (.inr (.inl (some _))))]) rfl ?_
      refine g_goto K (dOf ck_mX9_begin rfl rfl).1 (t := 39) (aJ_of (by decide +kernel)) ?_
      refine g_sub [1, 0] rfl ?_
      exact ih _ _
    · refine gl (i' := 58) (fun _ _ => aw_aload_n K (dOf ck_mX9_begin rfl rfl) rfl) ?_
      refine gl (i' := 59) (fun _ _ => aw_getf K (dOf ck_mX9_begin rfl rfl) rfl rfl (Nat.le_of_ble_eq_true rfl) wd_399 (k := 8) rfl) ?_
      refine gl (i' := 60) (fun _ _ => aw_iconst K (n := 0) (i32 _ rfl) (dOf ck_mX9_begin rfl rfl)) ?_
      refine g_callSM K [.inr (.inr (.inl (some _))), .inl _] rfl (dOf ck_mX9_begin rfl rfl) al_OneBreath_Twins_119 wd_186 rfl (Nat.le_of_ble_eq_true rfl) ⟨Nat.le_of_ble_eq_true rfl, Nat.le_of_ble_eq_true rfl⟩ (fun b hb => met_Jarr_fillI ⟨_, rfl⟩ hb) (fun r8 hr8 => ?_)
      refine gl (i' := 62) (fun _ _ => aw_iconst K (n := 0) (i32 _ rfl) (dOf ck_mX9_begin rfl rfl)) ?_
      refine gl (i' := 63) (fun _ _ => aw_istore_n K (dOf ck_mX9_begin rfl rfl) (Nat.le_of_ble_eq_true rfl)) ?_
      refine g_lv (lv' := [(2, .inl _), (0, .inr (.inr (.inl (some _))))]) rfl ?_
      refine g_sub [1, 0] rfl ?_
      exact lk_Twins_begin_63 K FU _ _
def Twins_begin (x1 : Int) (mm : aM) : Option aM := st1 (aup mm 80 9 x1) fun mm1 => (st1 (aup mm1 80 10 (w32 ((w32 ((mm1 80 9) + 1)) * (w32 ((mm1 80 9) + 1))))) fun mm2 => (st1 (aup mm2 80 11 (w32 (Int.tdiv (w32 ((w32 (471 * (mm2 80 10))) + 63)) 64))) fun mm3 => (st1 (aup mm3 80 12 0) fun mm4 => (st1 (aup mm4 80 16 0) fun mm5 => ((Jarr_fillLR 101 0 (mm5 80 11) 0 mm5).bind fun r6 => (Twins_begin_39 FU 0 r6))))))
set_option maxHeartbeats 4000000 in
theorem met_Twins_begin {l : Launch} {D : va_G} {cA : FieldType → ClassId} {ad adV : Nat → Nat} {z0 : Nat} {x1 : Int} {mm : aM}  {r : aM} (h : Twins_begin x1 mm = some r) : aMet l D cA ad adV z0 mX9_begin 2 47 0 0 [.inr (.inr (.inl (some 80))), .inl x1] SH mm (rM r).1 SH (rM r).2 := by
  refine aMet_ofG (by decide +kernel) rfl (Nat.le_of_ble_eq_true rfl) h (fun p e s m args below meth c al0 K => ?_)
  unfold Twins_begin
  refine gl (i' := 1) (fun _ _ => aw_aload_n K (dOf ck_mX9_begin rfl rfl) rfl) ?_
  refine gl (i' := 2) (fun _ _ => aw_iload_n K (dOf ck_mX9_begin rfl rfl) rfl) ?_
  refine g_st1 ?_
  refine gl (i' := 3) (fun _ _ => aw_putf K (dOf ck_mX9_begin rfl rfl) rfl rfl (Nat.le_of_ble_eq_true rfl) wd_400 (k := 9) rfl rfl (Or.inl rfl)) ?_
  refine gl (i' := 4) (fun _ _ => aw_aload_n K (dOf ck_mX9_begin rfl rfl) rfl) ?_
  refine gl (i' := 5) (fun _ _ => aw_aload_n K (dOf ck_mX9_begin rfl rfl) rfl) ?_
  refine gl (i' := 6) (fun _ _ => aw_getf K (dOf ck_mX9_begin rfl rfl) rfl rfl (Nat.le_of_ble_eq_true rfl) wd_400 (k := 9) rfl) ?_
  refine gl (i' := 7) (fun _ _ => aw_iconst K (n := 1) (i32 _ rfl) (dOf ck_mX9_begin rfl rfl)) ?_
  refine gl (i' := 8) (fun _ _ => aw_iadd K (dOf ck_mX9_begin rfl rfl)) ?_
  refine gl (i' := 9) (fun _ _ => aw_aload_n K (dOf ck_mX9_begin rfl rfl) rfl) ?_
  refine gl (i' := 10) (fun _ _ => aw_getf K (dOf ck_mX9_begin rfl rfl) rfl rfl (Nat.le_of_ble_eq_true rfl) wd_400 (k := 9) rfl) ?_
  refine gl (i' := 11) (fun _ _ => aw_iconst K (n := 1) (i32 _ rfl) (dOf ck_mX9_begin rfl rfl)) ?_
  refine gl (i' := 12) (fun _ _ => aw_iadd K (dOf ck_mX9_begin rfl rfl)) ?_
  refine gl (i' := 13) (fun _ _ => aw_imul K (dOf ck_mX9_begin rfl rfl)) ?_
  refine g_st1 ?_
  refine gl (i' := 14) (fun _ _ => aw_putf K (dOf ck_mX9_begin rfl rfl) rfl rfl (Nat.le_of_ble_eq_true rfl) wd_401 (k := 10) rfl rfl (Or.inl rfl)) ?_
  refine gl (i' := 15) (fun _ _ => aw_aload_n K (dOf ck_mX9_begin rfl rfl) rfl) ?_
  refine gl (i' := 16) (fun _ _ => aw_sip K (dOf ck_mX9_begin rfl rfl) (v := 471) rfl) ?_
  refine gl (i' := 17) (fun _ _ => aw_aload_n K (dOf ck_mX9_begin rfl rfl) rfl) ?_
  refine gl (i' := 18) (fun _ _ => aw_getf K (dOf ck_mX9_begin rfl rfl) rfl rfl (Nat.le_of_ble_eq_true rfl) wd_401 (k := 10) rfl) ?_
  refine gl (i' := 19) (fun _ _ => aw_imul K (dOf ck_mX9_begin rfl rfl)) ?_
  refine gl (i' := 20) (fun _ _ => aw_bip K (dOf ck_mX9_begin rfl rfl) (v := 63) rfl) ?_
  refine gl (i' := 21) (fun _ _ => aw_iadd K (dOf ck_mX9_begin rfl rfl)) ?_
  refine gl (i' := 22) (fun _ _ => aw_bip K (dOf ck_mX9_begin rfl rfl) (v := 64) rfl) ?_
  refine gl (i' := 23) (fun _ _ => aw_idiv K (by decide) (dOf ck_mX9_begin rfl rfl)) ?_
  refine g_st1 ?_
  refine gl (i' := 24) (fun _ _ => aw_putf K (dOf ck_mX9_begin rfl rfl) rfl rfl (Nat.le_of_ble_eq_true rfl) wd_402 (k := 11) rfl rfl (Or.inl rfl)) ?_
  refine gl (i' := 25) (fun _ _ => aw_aload_n K (dOf ck_mX9_begin rfl rfl) rfl) ?_
  refine gl (i' := 26) (fun _ _ => aw_iconst K (n := 0) (i32 _ rfl) (dOf ck_mX9_begin rfl rfl)) ?_
  refine g_st1 ?_
  refine gl (i' := 27) (fun _ _ => aw_putf K (dOf ck_mX9_begin rfl rfl) rfl rfl (Nat.le_of_ble_eq_true rfl) wd_403 (k := 12) rfl rfl (Or.inl rfl)) ?_
  refine gl (i' := 28) (fun _ _ => aw_aload_n K (dOf ck_mX9_begin rfl rfl) rfl) ?_
  refine gl (i' := 29) (fun _ _ => aw_iconst K (n := 0) (i32 _ rfl) (dOf ck_mX9_begin rfl rfl)) ?_
  refine g_st1 ?_
  refine gl (i' := 30) (fun _ _ => aw_putf K (dOf ck_mX9_begin rfl rfl) rfl rfl (Nat.le_of_ble_eq_true rfl) wd_407 (k := 16) rfl rfl (Or.inl rfl)) ?_
  refine gl (i' := 31) (fun _ _ => aw_aload_n K (dOf ck_mX9_begin rfl rfl) rfl) ?_
  refine gl (i' := 32) (fun _ _ => aw_getf K (dOf ck_mX9_begin rfl rfl) rfl rfl (Nat.le_of_ble_eq_true rfl) wd_406 (k := 15) rfl) ?_
  refine gl (i' := 33) (fun _ _ => aw_iconst K (n := 0) (i32 _ rfl) (dOf ck_mX9_begin rfl rfl)) ?_
  refine gl (i' := 34) (fun _ _ => aw_aload_n K (dOf ck_mX9_begin rfl rfl) rfl) ?_
  refine gl (i' := 35) (fun _ _ => aw_getf K (dOf ck_mX9_begin rfl rfl) rfl rfl (Nat.le_of_ble_eq_true rfl) wd_402 (k := 11) rfl) ?_
  refine gl (i' := 36) (fun _ _ => aw_lcn K (dOf ck_mX9_begin rfl rfl) (v := 0) rfl) ?_
  refine g_callSM K [.inr (.inr (.inl (some _))), .inl _, .inl _, .inr (.inl _)] rfl (dOf ck_mX9_begin rfl rfl) al_OneBreath_Twins_113 wd_834 rfl (Nat.le_of_ble_eq_true rfl) ⟨Nat.le_of_ble_eq_true rfl, Nat.le_of_ble_eq_true rfl⟩ (fun b hb => met_Jarr_fillLR ⟨_, rfl⟩ hb) (fun r6 hr6 => ?_)
  refine gl (i' := 38) (fun _ _ => aw_iconst K (n := 0) (i32 _ rfl) (dOf ck_mX9_begin rfl rfl)) ?_
  refine gl (i' := 39) (fun _ _ => aw_istore_n K (dOf ck_mX9_begin rfl rfl) (Nat.le_of_ble_eq_true rfl)) ?_
  refine g_lv (lv' := [(2, .inl _), (0, .inr (.inr (.inl (some _)))), (1, .inl _)]) rfl ?_
  refine g_sub [1, 0] rfl ?_
  exact lk_Twins_begin_39 K FU _ _
def Jlong_lowestOneBit (x0 : Int) (mm : aM) : Option Int := some (land x0 (w64 (-x0)))
set_option maxHeartbeats 4000000 in
theorem met_Jlong_lowestOneBit {l : Launch} {D : va_G} {cA : FieldType → ClassId} {ad adV : Nat → Nat} {z0 : Nat} {x0 : Int} {mm : aM}  {r : Int} (h : Jlong_lowestOneBit x0 mm = some r) : aMet l D cA ad adV z0 mJ13_lowestOneBit_067f4 0 0 0 0 [.inr (.inl x0)] SH mm ((rL mm) r).1 SH ((rL mm) r).2 := by
  refine aMet_ofG (by decide +kernel) rfl (Nat.le_of_ble_eq_true rfl) h (fun p e s m args below meth c al0 K => ?_)
  unfold Jlong_lowestOneBit
  refine gl (i' := 1) (fun _ _ => aw_lload_n K (dOf ck_mJ13_lowestOneBit_067f4 rfl rfl) rfl) ?_
  refine gl (i' := 2) (fun _ _ => aw_lload_n K (dOf ck_mJ13_lowestOneBit_067f4 rfl rfl) rfl) ?_
  refine gl (i' := 3) (fun _ _ => aw_lneg K (dOf ck_mJ13_lowestOneBit_067f4 rfl rfl)) ?_
  refine gl (i' := 4) (fun _ _ => aw_land K (dOf ck_mJ13_lowestOneBit_067f4 rfl rfl)) ?_
  exact g_lret K (by decide +kernel) rfl rfl
def Jint_numberOfTrailingZeros_48 (mm : aM) (x0 : Int) (x1 : Int) : Option Int := some (w32 (x1 + (iushr x0 1)))
set_option maxHeartbeats 4000000 in
theorem lk_Jint_numberOfTrailingZeros_48 {p : Program} {l : Launch} {e : Env} {s : State} {m : MethodId} {args : Array Value} {below : List Frame} {meth : Method} {c : Code} {D : va_G} {cA : FieldType → ClassId} {ad adV : Nat → Nat} {z0 : Nat} {al0 : List Nat} {mm : aM} (K : aK p s m args meth c mJ6_numberOfTrailingZeros_0f7a4 D cA ad adV z0) (x0 : Int) (x1 : Int)  : aG p l e { frames := 0, cells := 0, slots := 0, locals := 0 } s m args below meth c D cA ad z0 mJ6_numberOfTrailingZeros_0f7a4 al0 (rI mm) (Jint_numberOfTrailingZeros_48 mm x0 x1) 48 [(0, .inl x0), (1, .inl x1)] [] mm := by
  unfold Jint_numberOfTrailingZeros_48
  refine gl (i' := 49) (fun _ _ => aw_iload_n K (dOf ck_mJ6_numberOfTrailingZeros_0f7a4 rfl rfl) rfl) ?_
  refine gl (i' := 50) (fun _ _ => aw_iload_n K (dOf ck_mJ6_numberOfTrailingZeros_0f7a4 rfl rfl) rfl) ?_
  refine gl (i' := 51) (fun _ _ => aw_iconst K (n := 1) (i32 _ rfl) (dOf ck_mJ6_numberOfTrailingZeros_0f7a4 rfl rfl)) ?_
  refine gl (i' := 52) (fun _ _ => aw_iushr K (dOf ck_mJ6_numberOfTrailingZeros_0f7a4 rfl rfl)) ?_
  refine gl (i' := 53) (fun _ _ => aw_iadd K (dOf ck_mJ6_numberOfTrailingZeros_0f7a4 rfl rfl)) ?_
  exact g_iret K (by decide +kernel) rfl (Or.inl rfl) rfl
def Jint_numberOfTrailingZeros_40 (mm : aM) (x0 : Int) (x1 : Int) : Option Int := if 4 < x0 then (Jint_numberOfTrailingZeros_48 mm (iushr x0 2) (w32 (x1 + 2))) else (Jint_numberOfTrailingZeros_48 mm x0 x1)
set_option maxHeartbeats 4000000 in
theorem lk_Jint_numberOfTrailingZeros_40 {p : Program} {l : Launch} {e : Env} {s : State} {m : MethodId} {args : Array Value} {below : List Frame} {meth : Method} {c : Code} {D : va_G} {cA : FieldType → ClassId} {ad adV : Nat → Nat} {z0 : Nat} {al0 : List Nat} {mm : aM} (K : aK p s m args meth c mJ6_numberOfTrailingZeros_0f7a4 D cA ad adV z0) (x0 : Int) (x1 : Int)  : aG p l e { frames := 0, cells := 0, slots := 0, locals := 0 } s m args below meth c D cA ad z0 mJ6_numberOfTrailingZeros_0f7a4 al0 (rI mm) (Jint_numberOfTrailingZeros_40 mm x0 x1) 40 [(0, .inl x0), (1, .inl x1)] [] mm := by
  unfold Jint_numberOfTrailingZeros_40
  refine gl (i' := 41) (fun _ _ => aw_iload_n K (dOf ck_mJ6_numberOfTrailingZeros_0f7a4 rfl rfl) rfl) ?_
  refine gl (i' := 42) (fun _ _ => aw_iconst K (n := 4) (i32 _ rfl) (dOf ck_mJ6_numberOfTrailingZeros_0f7a4 rfl rfl)) ?_
  refine g_icmp_le K (dOf ck_mJ6_numberOfTrailingZeros_0f7a4 rfl rfl) (t := 48) (aJ_of (by decide +kernel)) (fun h5 => ?_) (fun h5 => ?_)
  · refine gl (i' := 44) (fun _ _ => aw_iinc K (dOf ck_mJ6_numberOfTrailingZeros_0f7a4 rfl rfl) (Nat.le_of_ble_eq_true rfl) rfl) ?_
    refine g_lv (lv' := [(1, .inl _), (0, .inl _)]) rfl ?_
    refine gl (i' := 45) (fun _ _ => aw_iload_n K (dOf ck_mJ6_numberOfTrailingZeros_0f7a4 rfl rfl) rfl) ?_
    refine gl (i' := 46) (fun _ _ => aw_iconst K (n := 2) (i32 _ rfl) (dOf ck_mJ6_numberOfTrailingZeros_0f7a4 rfl rfl)) ?_
    refine gl (i' := 47) (fun _ _ => aw_iushr K (dOf ck_mJ6_numberOfTrailingZeros_0f7a4 rfl rfl)) ?_
    refine gl (i' := 48) (fun _ _ => aw_istore_n K (dOf ck_mJ6_numberOfTrailingZeros_0f7a4 rfl rfl) (Nat.le_of_ble_eq_true rfl)) ?_
    refine g_lv (lv' := [(0, .inl _), (1, .inl _)]) rfl ?_
    refine g_sub [0, 1] rfl ?_
    exact lk_Jint_numberOfTrailingZeros_48 K _ _
  · refine g_sub [0, 1] rfl ?_
    exact lk_Jint_numberOfTrailingZeros_48 K _ _
def Jint_numberOfTrailingZeros_32 (mm : aM) (x0 : Int) (x1 : Int) : Option Int := if 16 < x0 then (Jint_numberOfTrailingZeros_40 mm (iushr x0 4) (w32 (x1 + 4))) else (Jint_numberOfTrailingZeros_40 mm x0 x1)
set_option maxHeartbeats 4000000 in
theorem lk_Jint_numberOfTrailingZeros_32 {p : Program} {l : Launch} {e : Env} {s : State} {m : MethodId} {args : Array Value} {below : List Frame} {meth : Method} {c : Code} {D : va_G} {cA : FieldType → ClassId} {ad adV : Nat → Nat} {z0 : Nat} {al0 : List Nat} {mm : aM} (K : aK p s m args meth c mJ6_numberOfTrailingZeros_0f7a4 D cA ad adV z0) (x0 : Int) (x1 : Int)  : aG p l e { frames := 0, cells := 0, slots := 0, locals := 0 } s m args below meth c D cA ad z0 mJ6_numberOfTrailingZeros_0f7a4 al0 (rI mm) (Jint_numberOfTrailingZeros_32 mm x0 x1) 32 [(0, .inl x0), (1, .inl x1)] [] mm := by
  unfold Jint_numberOfTrailingZeros_32
  refine gl (i' := 33) (fun _ _ => aw_iload_n K (dOf ck_mJ6_numberOfTrailingZeros_0f7a4 rfl rfl) rfl) ?_
  refine gl (i' := 34) (fun _ _ => aw_bip K (dOf ck_mJ6_numberOfTrailingZeros_0f7a4 rfl rfl) (v := 16) rfl) ?_
  refine g_icmp_le K (dOf ck_mJ6_numberOfTrailingZeros_0f7a4 rfl rfl) (t := 40) (aJ_of (by decide +kernel)) (fun h4 => ?_) (fun h4 => ?_)
  · refine gl (i' := 36) (fun _ _ => aw_iinc K (dOf ck_mJ6_numberOfTrailingZeros_0f7a4 rfl rfl) (Nat.le_of_ble_eq_true rfl) rfl) ?_
    refine g_lv (lv' := [(1, .inl _), (0, .inl _)]) rfl ?_
    refine gl (i' := 37) (fun _ _ => aw_iload_n K (dOf ck_mJ6_numberOfTrailingZeros_0f7a4 rfl rfl) rfl) ?_
    refine gl (i' := 38) (fun _ _ => aw_iconst K (n := 4) (i32 _ rfl) (dOf ck_mJ6_numberOfTrailingZeros_0f7a4 rfl rfl)) ?_
    refine gl (i' := 39) (fun _ _ => aw_iushr K (dOf ck_mJ6_numberOfTrailingZeros_0f7a4 rfl rfl)) ?_
    refine gl (i' := 40) (fun _ _ => aw_istore_n K (dOf ck_mJ6_numberOfTrailingZeros_0f7a4 rfl rfl) (Nat.le_of_ble_eq_true rfl)) ?_
    refine g_lv (lv' := [(0, .inl _), (1, .inl _)]) rfl ?_
    refine g_sub [0, 1] rfl ?_
    exact lk_Jint_numberOfTrailingZeros_40 K _ _
  · refine g_sub [0, 1] rfl ?_
    exact lk_Jint_numberOfTrailingZeros_40 K _ _
def Jint_numberOfTrailingZeros_24 (mm : aM) (x0 : Int) (x1 : Int) : Option Int := if 256 < x0 then (Jint_numberOfTrailingZeros_32 mm (iushr x0 8) (w32 (x1 + 8))) else (Jint_numberOfTrailingZeros_32 mm x0 x1)
set_option maxHeartbeats 4000000 in
theorem lk_Jint_numberOfTrailingZeros_24 {p : Program} {l : Launch} {e : Env} {s : State} {m : MethodId} {args : Array Value} {below : List Frame} {meth : Method} {c : Code} {D : va_G} {cA : FieldType → ClassId} {ad adV : Nat → Nat} {z0 : Nat} {al0 : List Nat} {mm : aM} (K : aK p s m args meth c mJ6_numberOfTrailingZeros_0f7a4 D cA ad adV z0) (x0 : Int) (x1 : Int)  : aG p l e { frames := 0, cells := 0, slots := 0, locals := 0 } s m args below meth c D cA ad z0 mJ6_numberOfTrailingZeros_0f7a4 al0 (rI mm) (Jint_numberOfTrailingZeros_24 mm x0 x1) 24 [(0, .inl x0), (1, .inl x1)] [] mm := by
  unfold Jint_numberOfTrailingZeros_24
  refine gl (i' := 25) (fun _ _ => aw_iload_n K (dOf ck_mJ6_numberOfTrailingZeros_0f7a4 rfl rfl) rfl) ?_
  refine gl (i' := 26) (fun _ _ => aw_sip K (dOf ck_mJ6_numberOfTrailingZeros_0f7a4 rfl rfl) (v := 256) rfl) ?_
  refine g_icmp_le K (dOf ck_mJ6_numberOfTrailingZeros_0f7a4 rfl rfl) (t := 32) (aJ_of (by decide +kernel)) (fun h3 => ?_) (fun h3 => ?_)
  · refine gl (i' := 28) (fun _ _ => aw_iinc K (dOf ck_mJ6_numberOfTrailingZeros_0f7a4 rfl rfl) (Nat.le_of_ble_eq_true rfl) rfl) ?_
    refine g_lv (lv' := [(1, .inl _), (0, .inl _)]) rfl ?_
    refine gl (i' := 29) (fun _ _ => aw_iload_n K (dOf ck_mJ6_numberOfTrailingZeros_0f7a4 rfl rfl) rfl) ?_
    refine gl (i' := 30) (fun _ _ => aw_bip K (dOf ck_mJ6_numberOfTrailingZeros_0f7a4 rfl rfl) (v := 8) rfl) ?_
    refine gl (i' := 31) (fun _ _ => aw_iushr K (dOf ck_mJ6_numberOfTrailingZeros_0f7a4 rfl rfl)) ?_
    refine gl (i' := 32) (fun _ _ => aw_istore_n K (dOf ck_mJ6_numberOfTrailingZeros_0f7a4 rfl rfl) (Nat.le_of_ble_eq_true rfl)) ?_
    refine g_lv (lv' := [(0, .inl _), (1, .inl _)]) rfl ?_
    refine g_sub [0, 1] rfl ?_
    exact lk_Jint_numberOfTrailingZeros_32 K _ _
  · refine g_sub [0, 1] rfl ?_
    exact lk_Jint_numberOfTrailingZeros_32 K _ _
def Jint_numberOfTrailingZeros (x0 : Int) (mm : aM) : Option Int := if 0 < (iand (ixor x0 (-1)) (w32 (x0 - 1))) then (if 65536 < (iand (ixor x0 (-1)) (w32 (x0 - 1))) then (Jint_numberOfTrailingZeros_24 mm (iushr (iand (ixor x0 (-1)) (w32 (x0 - 1))) 16) (w32 (1 + 16))) else (Jint_numberOfTrailingZeros_24 mm (iand (ixor x0 (-1)) (w32 (x0 - 1))) 1)) else (some (iand (iand (ixor x0 (-1)) (w32 (x0 - 1))) 32))
set_option maxHeartbeats 4000000 in
theorem met_Jint_numberOfTrailingZeros {l : Launch} {D : va_G} {cA : FieldType → ClassId} {ad adV : Nat → Nat} {z0 : Nat} {x0 : Int} {mm : aM}  {r : Int} (h : Jint_numberOfTrailingZeros x0 mm = some r) : aMet l D cA ad adV z0 mJ6_numberOfTrailingZeros_0f7a4 0 0 0 0 [.inl x0] SH mm ((rI mm) r).1 SH ((rI mm) r).2 := by
  refine aMet_ofG (by decide +kernel) rfl (Nat.le_of_ble_eq_true rfl) h (fun p e s m args below meth c al0 K => ?_)
  unfold Jint_numberOfTrailingZeros
  refine gl (i' := 1) (fun _ _ => aw_iload_n K (dOf ck_mJ6_numberOfTrailingZeros_0f7a4 rfl rfl) rfl) ?_
  refine gl (i' := 2) (fun _ _ => aw_iconst K (n := -1) (i32 _ rfl) (dOf ck_mJ6_numberOfTrailingZeros_0f7a4 rfl rfl)) ?_
  refine gl (i' := 3) (fun _ _ => aw_ixor K (dOf ck_mJ6_numberOfTrailingZeros_0f7a4 rfl rfl)) ?_
  refine gl (i' := 4) (fun _ _ => aw_iload_n K (dOf ck_mJ6_numberOfTrailingZeros_0f7a4 rfl rfl) rfl) ?_
  refine gl (i' := 5) (fun _ _ => aw_iconst K (n := 1) (i32 _ rfl) (dOf ck_mJ6_numberOfTrailingZeros_0f7a4 rfl rfl)) ?_
  refine gl (i' := 6) (fun _ _ => aw_isub K (dOf ck_mJ6_numberOfTrailingZeros_0f7a4 rfl rfl)) ?_
  refine gl (i' := 7) (fun _ _ => aw_iand K (dOf ck_mJ6_numberOfTrailingZeros_0f7a4 rfl rfl)) ?_
  refine gl (i' := 8) (fun _ _ => aw_istore_n K (dOf ck_mJ6_numberOfTrailingZeros_0f7a4 rfl rfl) (Nat.le_of_ble_eq_true rfl)) ?_
  refine g_lv (lv' := [(0, .inl _)]) rfl ?_
  refine gl (i' := 9) (fun _ _ => aw_iload_n K (dOf ck_mJ6_numberOfTrailingZeros_0f7a4 rfl rfl) rfl) ?_
  refine g_if_gt K (dOf ck_mJ6_numberOfTrailingZeros_0f7a4 rfl rfl) (t := 14) (aJ_of (by decide +kernel)) (fun h1 => ?_) (fun h1 => ?_)
  · refine gl (i' := 15) (fun _ _ => aw_iconst K (n := 1) (i32 _ rfl) (dOf ck_mJ6_numberOfTrailingZeros_0f7a4 rfl rfl)) ?_
    refine gl (i' := 16) (fun _ _ => aw_istore_n K (dOf ck_mJ6_numberOfTrailingZeros_0f7a4 rfl rfl) (Nat.le_of_ble_eq_true rfl)) ?_
    refine g_lv (lv' := [(1, .inl _), (0, .inl _)]) rfl ?_
    refine gl (i' := 17) (fun _ _ => aw_iload_n K (dOf ck_mJ6_numberOfTrailingZeros_0f7a4 rfl rfl) rfl) ?_
    refine gl (i' := 18) (fun _ _ => aw_ldcw K (dOf ck_mJ6_numberOfTrailingZeros_0f7a4 rfl rfl) (n := 65536) wd_862 (i32 _ rfl)) ?_
    refine g_icmp_le K (dOf ck_mJ6_numberOfTrailingZeros_0f7a4 rfl rfl) (t := 24) (aJ_of (by decide +kernel)) (fun h2 => ?_) (fun h2 => ?_)
    · refine gl (i' := 20) (fun _ _ => aw_iinc K (dOf ck_mJ6_numberOfTrailingZeros_0f7a4 rfl rfl) (Nat.le_of_ble_eq_true rfl) rfl) ?_
      refine g_lv (lv' := [(1, .inl _), (0, .inl _)]) rfl ?_
      refine gl (i' := 21) (fun _ _ => aw_iload_n K (dOf ck_mJ6_numberOfTrailingZeros_0f7a4 rfl rfl) rfl) ?_
      refine gl (i' := 22) (fun _ _ => aw_bip K (dOf ck_mJ6_numberOfTrailingZeros_0f7a4 rfl rfl) (v := 16) rfl) ?_
      refine gl (i' := 23) (fun _ _ => aw_iushr K (dOf ck_mJ6_numberOfTrailingZeros_0f7a4 rfl rfl)) ?_
      refine gl (i' := 24) (fun _ _ => aw_istore_n K (dOf ck_mJ6_numberOfTrailingZeros_0f7a4 rfl rfl) (Nat.le_of_ble_eq_true rfl)) ?_
      refine g_lv (lv' := [(0, .inl _), (1, .inl _)]) rfl ?_
      refine g_sub [0, 1] rfl ?_
      exact lk_Jint_numberOfTrailingZeros_24 K _ _
    · refine g_sub [1, 0] rfl ?_
      exact lk_Jint_numberOfTrailingZeros_24 K _ _
  · refine gl (i' := 11) (fun _ _ => aw_iload_n K (dOf ck_mJ6_numberOfTrailingZeros_0f7a4 rfl rfl) rfl) ?_
    refine gl (i' := 12) (fun _ _ => aw_bip K (dOf ck_mJ6_numberOfTrailingZeros_0f7a4 rfl rfl) (v := 32) rfl) ?_
    refine gl (i' := 13) (fun _ _ => aw_iand K (dOf ck_mJ6_numberOfTrailingZeros_0f7a4 rfl rfl)) ?_
    exact g_iret K (dOf ck_mJ6_numberOfTrailingZeros_0f7a4 rfl rfl).1 rfl (Or.inl rfl) rfl
def Jlong_numberOfTrailingZeros (x0 : Int) (mm : aM) : Option Int := if (w32 x0) = 0 then ((Jint_numberOfTrailingZeros (w32 (lushr x0 32)) mm).bind fun r3 => (some (w32 (32 + r3)))) else ((Jint_numberOfTrailingZeros (w32 x0) mm).bind fun r2 => (some r2))
set_option maxHeartbeats 4000000 in
theorem met_Jlong_numberOfTrailingZeros {l : Launch} {D : va_G} {cA : FieldType → ClassId} {ad adV : Nat → Nat} {z0 : Nat} {x0 : Int} {mm : aM}  {r : Int} (h : Jlong_numberOfTrailingZeros x0 mm = some r) : aMet l D cA ad adV z0 mJ13_numberOfTrailingZeros_95d88 1 21 0 0 [.inr (.inl x0)] SH mm ((rI mm) r).1 SH ((rI mm) r).2 := by
  refine aMet_ofG (by decide +kernel) rfl (Nat.le_of_ble_eq_true rfl) h (fun p e s m args below meth c al0 K => ?_)
  unfold Jlong_numberOfTrailingZeros
  refine gl (i' := 1) (fun _ _ => aw_lload_n K (dOf ck_mJ13_numberOfTrailingZeros_95d88 rfl rfl) rfl) ?_
  refine gl (i' := 2) (fun _ _ => aw_l2i K (dOf ck_mJ13_numberOfTrailingZeros_95d88 rfl rfl)) ?_
  refine gl (i' := 3) (fun _ _ => aw_istore_n K (dOf ck_mJ13_numberOfTrailingZeros_95d88 rfl rfl) (Nat.le_of_ble_eq_true rfl)) ?_
  refine g_lv (lv' := [(2, .inl _), (0, .inr (.inl _))]) rfl ?_
  refine gl (i' := 4) (fun _ _ => aw_iload_n K (dOf ck_mJ13_numberOfTrailingZeros_95d88 rfl rfl) rfl) ?_
  refine g_if_ne K (dOf ck_mJ13_numberOfTrailingZeros_95d88 rfl rfl) (t := 13) (aJ_of (by decide +kernel)) (fun h1 => ?_) (fun h1 => ?_)
  · refine gl (i' := 6) (fun _ _ => aw_bip K (dOf ck_mJ13_numberOfTrailingZeros_95d88 rfl rfl) (v := 32) rfl) ?_
    refine gl (i' := 7) (fun _ _ => aw_lload_n K (dOf ck_mJ13_numberOfTrailingZeros_95d88 rfl rfl) rfl) ?_
    refine gl (i' := 8) (fun _ _ => aw_bip K (dOf ck_mJ13_numberOfTrailingZeros_95d88 rfl rfl) (v := 32) rfl) ?_
    refine gl (i' := 9) (fun _ _ => aw_lushr K (dOf ck_mJ13_numberOfTrailingZeros_95d88 rfl rfl)) ?_
    refine gl (i' := 10) (fun _ _ => aw_l2i K (dOf ck_mJ13_numberOfTrailingZeros_95d88 rfl rfl)) ?_
    refine g_callSI K [.inl _] rfl (dOf ck_mJ13_numberOfTrailingZeros_95d88 rfl rfl) al_java_lang_Long_311 wd_860 rfl (Nat.le_of_ble_eq_true rfl) ⟨Nat.le_of_ble_eq_true rfl, Nat.le_of_ble_eq_true rfl⟩ (fun b hb => met_Jint_numberOfTrailingZeros  hb) (fun r3 hr3 => ?_)
    refine gl (i' := 12) (fun _ _ => aw_iadd K (dOf ck_mJ13_numberOfTrailingZeros_95d88 rfl rfl)) ?_
    refine g_goto K (dOf ck_mJ13_numberOfTrailingZeros_95d88 rfl rfl).1 (t := 15) (aJ_of (by decide +kernel)) ?_
    exact g_iret K (by decide +kernel) rfl (Or.inl rfl) rfl
  · refine gl (i' := 14) (fun _ _ => aw_iload_n K (dOf ck_mJ13_numberOfTrailingZeros_95d88 rfl rfl) rfl) ?_
    refine g_callSI K [.inl _] rfl (dOf ck_mJ13_numberOfTrailingZeros_95d88 rfl rfl) al_java_lang_Long_311 wd_860 rfl (Nat.le_of_ble_eq_true rfl) ⟨Nat.le_of_ble_eq_true rfl, Nat.le_of_ble_eq_true rfl⟩ (fun b hb => met_Jint_numberOfTrailingZeros  hb) (fun r2 hr2 => ?_)
    exact g_iret K (by decide +kernel) rfl (Or.inl rfl) rfl
def Twins_pop_82 (k8 : Int → aM → Option (Int × aM)) (x2 : Int) (x3 : Int) (mm : aM) : Option (Int × aM) := k8 (w32 (x3 + 1)) mm
set_option maxHeartbeats 4000000 in
theorem lk_Twins_pop_82 {p : Program} {l : Launch} {e : Env} {s : State} {m : MethodId} {args : Array Value} {below : List Frame} {meth : Method} {c : Code} {D : va_G} {cA : FieldType → ClassId} {ad adV : Nat → Nat} {z0 : Nat} {al0 : List Nat} (K : aK p s m args meth c mX9_pop D cA ad adV z0) (x2 : Int) (x3 : Int) (k8 : Int → aM → Option (Int × aM)) (hk8 : ∀ (x3 : Int) (mm : aM), aG p l e { frames := 2, cells := 0, slots := 0, locals := 43 } s m args below meth c D cA ad z0 mX9_pop al0 rIM (k8 x3 mm) 8 [(0, .inr (.inr (.inl (some 80)))), (2, .inl x2), (3, .inl x3)] [] mm)  (mm : aM) : aG p l e { frames := 2, cells := 0, slots := 0, locals := 43 } s m args below meth c D cA ad z0 mX9_pop al0 rIM (Twins_pop_82 k8 x2 x3 mm) 82 [(0, .inr (.inr (.inl (some 80)))), (2, .inl x2), (3, .inl x3)] [] mm := by
  unfold Twins_pop_82
  refine gl (i' := 83) (fun _ _ => aw_iinc K (dOf ck_mX9_pop rfl rfl) (Nat.le_of_ble_eq_true rfl) rfl) ?_
  refine g_lv (lv' := [(3, .inl _), (0, .inr (.inr (.inl (some _)))), (2, .inl _)]) rfl ?_
  refine g_goto K (dOf ck_mX9_pop rfl rfl).1 (t := 8) (aJ_of (by decide +kernel)) ?_
  refine g_sub [1, 2, 0] rfl ?_
  exact hk8 _ _
def Twins_pop_8 (x2 : Int) : Nat → Int → aM → Option (Int × aM)
  | 0, _, _ => none
  | n + 1, x3, mm => if x3 < 8478 then (if (mm 80 13) < (mm 80 11) then (if 0 ≤ (w32 (x2 + (mm 80 13))) ∧ (w32 (x2 + (mm 80 13))) < 536 then ((Jlong_lowestOneBit (mm 100 (w32 (x2 + (mm 80 13))).toNat) mm).bind fun r4 => (if r4 = 0 then (st1 (aup mm 80 13 (w32 ((mm 80 13) + 1))) fun mm12 => (Twins_pop_82 (Twins_pop_8 x2 n) x2 x3 mm12)) else (st1 (aup mm 100 (w32 (x2 + (mm 80 13))).toNat (land (mm 100 (w32 (x2 + (mm 80 13))).toNat) (lxor r4 (-1)))) fun mm6 => (st1 (aup mm6 80 12 (w32 ((mm6 80 12) - 1))) fun mm7 => (if 0 ≤ (mm7 80 13) ∧ (mm7 80 13) < 67 then (if (land (mm7 101 (mm7 80 13).toNat) r4) = 0 then (st1 (aup mm7 101 (mm7 80 13).toNat (lor (mm7 101 (mm7 80 13).toNat) r4)) fun mm10 => ((Jlong_numberOfTrailingZeros r4 mm10).bind fun r11 => (some (w32 ((w32 ((mm10 80 13) * 64)) + r11), mm10)))) else (Twins_pop_82 (Twins_pop_8 x2 n) x2 x3 mm7)) else none))))) else none) else (some ((-1), mm))) else (some ((-1), mm))
set_option maxHeartbeats 4000000 in
theorem lk_Twins_pop_8 {p : Program} {l : Launch} {e : Env} {s : State} {m : MethodId} {args : Array Value} {below : List Frame} {meth : Method} {c : Code} {D : va_G} {cA : FieldType → ClassId} {ad adV : Nat → Nat} {z0 : Nat} {al0 : List Nat} (K : aK p s m args meth c mX9_pop D cA ad adV z0) (x2 : Int)  : ∀ (n : Nat) (x3 : Int) (mm : aM), aG p l e { frames := 2, cells := 0, slots := 0, locals := 43 } s m args below meth c D cA ad z0 mX9_pop al0 rIM (Twins_pop_8 x2 n x3 mm) 8 [(0, .inr (.inr (.inl (some 80)))), (2, .inl x2), (3, .inl x3)] [] mm := by
  intro n
  induction n with
  | zero => intro x3 mm; exact g_none
  | succ n ih =>
    intro x3 mm
    rw [Twins_pop_8]
    refine gl (i' := 9) (fun _ _ => aw_iload_n K (dOf ck_mX9_pop rfl rfl) rfl) ?_
    refine gl (i' := 10) (fun _ _ => aw_sip K (dOf ck_mX9_pop rfl rfl) (v := 8478) rfl) ?_
    refine g_icmp_ge K (dOf ck_mX9_pop rfl rfl) (t := 84) (aJ_of (by decide +kernel)) (fun h1 => ?_) (fun h1 => ?_)
    · refine gl (i' := 12) (fun _ _ => aw_aload_n K (dOf ck_mX9_pop rfl rfl) rfl) ?_
      refine gl (i' := 13) (fun _ _ => aw_getf K (dOf ck_mX9_pop rfl rfl) rfl rfl (Nat.le_of_ble_eq_true rfl) wd_404 (k := 13) rfl) ?_
      refine gl (i' := 14) (fun _ _ => aw_aload_n K (dOf ck_mX9_pop rfl rfl) rfl) ?_
      refine gl (i' := 15) (fun _ _ => aw_getf K (dOf ck_mX9_pop rfl rfl) rfl rfl (Nat.le_of_ble_eq_true rfl) wd_402 (k := 11) rfl) ?_
      refine g_icmp_ge K (dOf ck_mX9_pop rfl rfl) (t := 84) (aJ_of (by decide +kernel)) (fun h2 => ?_) (fun h2 => ?_)
      · refine gl (i' := 17) (fun _ _ => aw_aload_n K (dOf ck_mX9_pop rfl rfl) rfl) ?_
        refine gl (i' := 18) (fun _ _ => aw_getf K (dOf ck_mX9_pop rfl rfl) rfl rfl (Nat.le_of_ble_eq_true rfl) wd_405 (k := 14) rfl) ?_
        refine gl (i' := 19) (fun _ _ => aw_iload_n K (dOf ck_mX9_pop rfl rfl) rfl) ?_
        refine gl (i' := 20) (fun _ _ => aw_aload_n K (dOf ck_mX9_pop rfl rfl) rfl) ?_
        refine gl (i' := 21) (fun _ _ => aw_getf K (dOf ck_mX9_pop rfl rfl) rfl rfl (Nat.le_of_ble_eq_true rfl) wd_404 (k := 13) rfl) ?_
        refine gl (i' := 22) (fun _ _ => aw_iadd K (dOf ck_mX9_pop rfl rfl)) ?_
        refine g_gd (fun hb3 => ?_)
        refine gl (i' := 23) (fun _ _ => aw_lald K (dOf ck_mX9_pop rfl rfl) rfl hb3) ?_
        refine g_callSL K [.inr (.inl _)] rfl (dOf ck_mX9_pop rfl rfl) al_OneBreath_Twins_132 wd_853 rfl (Nat.le_of_ble_eq_true rfl) ⟨Nat.le_of_ble_eq_true rfl, Nat.le_of_ble_eq_true rfl⟩ (fun b hb => met_Jlong_lowestOneBit  hb) (fun r4 hr4 => ?_)
        refine gl (i' := 25) (fun _ _ => aw_lstore K (dOf ck_mX9_pop rfl rfl) (Nat.le_of_ble_eq_true rfl)) ?_
        refine g_lv (lv' := [(4, .inr (.inl _)), (0, .inr (.inr (.inl (some _)))), (2, .inl _), (3, .inl _)]) rfl ?_
        refine gl (i' := 26) (fun _ _ => aw_lload K (dOf ck_mX9_pop rfl rfl) rfl) ?_
        refine gl (i' := 27) (fun _ _ => aw_lcn K (dOf ck_mX9_pop rfl rfl) (v := 0) rfl) ?_
        refine g_lcmp_ne K (dOf ck_mX9_pop rfl rfl) (dOf ck_mX9_pop rfl rfl) (t := 36) (aJ_of (by decide +kernel)) (fun h5 => ?_) (fun h5 => ?_)
        · refine gl (i' := 30) (fun _ _ => aw_aload_n K (dOf ck_mX9_pop rfl rfl) rfl) ?_
          refine gl (i' := 31) (fun _ _ => aw_dup K rfl (dOf ck_mX9_pop rfl rfl)) ?_
          refine gl (i' := 32) (fun _ _ => aw_getf K (dOf ck_mX9_pop rfl rfl) rfl rfl (Nat.le_of_ble_eq_true rfl) wd_404 (k := 13) rfl) ?_
          refine gl (i' := 33) (fun _ _ => aw_iconst K (n := 1) (i32 _ rfl) (dOf ck_mX9_pop rfl rfl)) ?_
          refine gl (i' := 34) (fun _ _ => aw_iadd K (dOf ck_mX9_pop rfl rfl)) ?_
          refine g_st1 ?_
          refine gl (i' := 35) (fun _ _ => aw_putf K (dOf ck_mX9_pop rfl rfl) rfl rfl (Nat.le_of_ble_eq_true rfl) wd_404 (k := 13) rfl rfl (Or.inl rfl)) ?_
          refine g_goto K (dOf ck_mX9_pop rfl rfl).1 (t := 82) (aJ_of (by decide +kernel)) ?_
          refine g_sub [1, 2, 3] rfl ?_
          exact lk_Twins_pop_82 K _ _ _ ih _
        · refine gl (i' := 37) (fun _ _ => aw_aload_n K (dOf ck_mX9_pop rfl rfl) rfl) ?_
          refine gl (i' := 38) (fun _ _ => aw_getf K (dOf ck_mX9_pop rfl rfl) rfl rfl (Nat.le_of_ble_eq_true rfl) wd_405 (k := 14) rfl) ?_
          refine gl (i' := 39) (fun _ _ => aw_iload_n K (dOf ck_mX9_pop rfl rfl) rfl) ?_
          refine gl (i' := 40) (fun _ _ => aw_aload_n K (dOf ck_mX9_pop rfl rfl) rfl) ?_
          refine gl (i' := 41) (fun _ _ => aw_getf K (dOf ck_mX9_pop rfl rfl) rfl rfl (Nat.le_of_ble_eq_true rfl) wd_404 (k := 13) rfl) ?_
          refine gl (i' := 42) (fun _ _ => aw_iadd K (dOf ck_mX9_pop rfl rfl)) ?_
          refine gl (i' := 43) (fun _ _ => aw_dup2_11 K rfl rfl (dOf ck_mX9_pop rfl rfl)) ?_
          refine gl (i' := 44) (fun _ _ => aw_lald K (dOf ck_mX9_pop rfl rfl) rfl hb3) ?_
          refine gl (i' := 45) (fun _ _ => aw_lload K (dOf ck_mX9_pop rfl rfl) rfl) ?_
          refine gl (i' := 46) (fun _ _ => aw_ldc2 K (dOf ck_mX9_pop rfl rfl) (n := -1) (by rw [show Int64.ofInt (-1) = (-1 : Int64) by decide]; exact wd_855) (i64 _ rfl)) ?_
          refine gl (i' := 47) (fun _ _ => aw_lxor K (dOf ck_mX9_pop rfl rfl)) ?_
          refine gl (i' := 48) (fun _ _ => aw_land K (dOf ck_mX9_pop rfl rfl)) ?_
          refine g_st1 ?_
          refine gl (i' := 49) (fun _ _ => aw_last K (dOf ck_mX9_pop rfl rfl) rfl hb3) ?_
          refine gl (i' := 50) (fun _ _ => aw_aload_n K (dOf ck_mX9_pop rfl rfl) rfl) ?_
          refine gl (i' := 51) (fun _ _ => aw_dup K rfl (dOf ck_mX9_pop rfl rfl)) ?_
          refine gl (i' := 52) (fun _ _ => aw_getf K (dOf ck_mX9_pop rfl rfl) rfl rfl (Nat.le_of_ble_eq_true rfl) wd_403 (k := 12) rfl) ?_
          refine gl (i' := 53) (fun _ _ => aw_iconst K (n := 1) (i32 _ rfl) (dOf ck_mX9_pop rfl rfl)) ?_
          refine gl (i' := 54) (fun _ _ => aw_isub K (dOf ck_mX9_pop rfl rfl)) ?_
          refine g_st1 ?_
          refine gl (i' := 55) (fun _ _ => aw_putf K (dOf ck_mX9_pop rfl rfl) rfl rfl (Nat.le_of_ble_eq_true rfl) wd_403 (k := 12) rfl rfl (Or.inl rfl)) ?_
          refine gl (i' := 56) (fun _ _ => aw_aload_n K (dOf ck_mX9_pop rfl rfl) rfl) ?_
          refine gl (i' := 57) (fun _ _ => aw_getf K (dOf ck_mX9_pop rfl rfl) rfl rfl (Nat.le_of_ble_eq_true rfl) wd_406 (k := 15) rfl) ?_
          refine gl (i' := 58) (fun _ _ => aw_aload_n K (dOf ck_mX9_pop rfl rfl) rfl) ?_
          refine gl (i' := 59) (fun _ _ => aw_getf K (dOf ck_mX9_pop rfl rfl) rfl rfl (Nat.le_of_ble_eq_true rfl) wd_404 (k := 13) rfl) ?_
          refine g_gd (fun hb8 => ?_)
          refine gl (i' := 60) (fun _ _ => aw_lald K (dOf ck_mX9_pop rfl rfl) rfl hb8) ?_
          refine gl (i' := 61) (fun _ _ => aw_lload K (dOf ck_mX9_pop rfl rfl) rfl) ?_
          refine gl (i' := 62) (fun _ _ => aw_land K (dOf ck_mX9_pop rfl rfl)) ?_
          refine gl (i' := 63) (fun _ _ => aw_lcn K (dOf ck_mX9_pop rfl rfl) (v := 0) rfl) ?_
          refine g_lcmp_ne K (dOf ck_mX9_pop rfl rfl) (dOf ck_mX9_pop rfl rfl) (t := 82) (aJ_of (by decide +kernel)) (fun h9 => ?_) (fun h9 => ?_)
          · refine gl (i' := 66) (fun _ _ => aw_aload_n K (dOf ck_mX9_pop rfl rfl) rfl) ?_
            refine gl (i' := 67) (fun _ _ => aw_getf K (dOf ck_mX9_pop rfl rfl) rfl rfl (Nat.le_of_ble_eq_true rfl) wd_406 (k := 15) rfl) ?_
            refine gl (i' := 68) (fun _ _ => aw_aload_n K (dOf ck_mX9_pop rfl rfl) rfl) ?_
            refine gl (i' := 69) (fun _ _ => aw_getf K (dOf ck_mX9_pop rfl rfl) rfl rfl (Nat.le_of_ble_eq_true rfl) wd_404 (k := 13) rfl) ?_
            refine gl (i' := 70) (fun _ _ => aw_dup2_11 K rfl rfl (dOf ck_mX9_pop rfl rfl)) ?_
            refine gl (i' := 71) (fun _ _ => aw_lald K (dOf ck_mX9_pop rfl rfl) rfl hb8) ?_
            refine gl (i' := 72) (fun _ _ => aw_lload K (dOf ck_mX9_pop rfl rfl) rfl) ?_
            refine gl (i' := 73) (fun _ _ => aw_lor K (dOf ck_mX9_pop rfl rfl)) ?_
            refine g_st1 ?_
            refine gl (i' := 74) (fun _ _ => aw_last K (dOf ck_mX9_pop rfl rfl) rfl hb8) ?_
            refine gl (i' := 75) (fun _ _ => aw_aload_n K (dOf ck_mX9_pop rfl rfl) rfl) ?_
            refine gl (i' := 76) (fun _ _ => aw_getf K (dOf ck_mX9_pop rfl rfl) rfl rfl (Nat.le_of_ble_eq_true rfl) wd_404 (k := 13) rfl) ?_
            refine gl (i' := 77) (fun _ _ => aw_bip K (dOf ck_mX9_pop rfl rfl) (v := 64) rfl) ?_
            refine gl (i' := 78) (fun _ _ => aw_imul K (dOf ck_mX9_pop rfl rfl)) ?_
            refine gl (i' := 79) (fun _ _ => aw_lload K (dOf ck_mX9_pop rfl rfl) rfl) ?_
            refine g_callSI K [.inr (.inl _)] rfl (dOf ck_mX9_pop rfl rfl) al_OneBreath_Twins_140 wd_857 rfl (Nat.le_of_ble_eq_true rfl) ⟨Nat.le_of_ble_eq_true rfl, Nat.le_of_ble_eq_true rfl⟩ (fun b hb => met_Jlong_numberOfTrailingZeros  hb) (fun r11 hr11 => ?_)
            refine gl (i' := 81) (fun _ _ => aw_iadd K (dOf ck_mX9_pop rfl rfl)) ?_
            exact g_iret K (dOf ck_mX9_pop rfl rfl).1 rfl (Or.inl rfl) rfl
          · refine g_sub [1, 2, 3] rfl ?_
            exact lk_Twins_pop_82 K _ _ _ ih _
      · refine gl (i' := 85) (fun _ _ => aw_iconst K (n := -1) (i32 _ rfl) (dOf ck_mX9_pop rfl rfl)) ?_
        exact g_iret K (by decide +kernel) rfl (Or.inl rfl) rfl
    · refine gl (i' := 85) (fun _ _ => aw_iconst K (n := -1) (i32 _ rfl) (dOf ck_mX9_pop rfl rfl)) ?_
      exact g_iret K (by decide +kernel) rfl (Or.inl rfl) rfl
def Twins_pop (x1 : Int) (mm : aM) : Option (Int × aM) := Twins_pop_8 (w32 ((Int.tmod x1 8) * 67)) FU 0 mm
set_option maxHeartbeats 4000000 in
theorem met_Twins_pop {l : Launch} {D : va_G} {cA : FieldType → ClassId} {ad adV : Nat → Nat} {z0 : Nat} {x1 : Int} {mm : aM}  {r : Int × aM} (h : Twins_pop x1 mm = some r) : aMet l D cA ad adV z0 mX9_pop 2 43 0 0 [.inr (.inr (.inl (some 80))), .inl x1] SH mm (rIM r).1 SH (rIM r).2 := by
  refine aMet_ofG (by decide +kernel) rfl (Nat.le_of_ble_eq_true rfl) h (fun p e s m args below meth c al0 K => ?_)
  unfold Twins_pop
  refine gl (i' := 1) (fun _ _ => aw_iload_n K (dOf ck_mX9_pop rfl rfl) rfl) ?_
  refine gl (i' := 2) (fun _ _ => aw_bip K (dOf ck_mX9_pop rfl rfl) (v := 8) rfl) ?_
  refine gl (i' := 3) (fun _ _ => aw_irem K (by decide) (dOf ck_mX9_pop rfl rfl)) ?_
  refine gl (i' := 4) (fun _ _ => aw_bip K (dOf ck_mX9_pop rfl rfl) (v := 67) rfl) ?_
  refine gl (i' := 5) (fun _ _ => aw_imul K (dOf ck_mX9_pop rfl rfl)) ?_
  refine gl (i' := 6) (fun _ _ => aw_istore_n K (dOf ck_mX9_pop rfl rfl) (Nat.le_of_ble_eq_true rfl)) ?_
  refine g_lv (lv' := [(2, .inl _), (0, .inr (.inr (.inl (some _)))), (1, .inl _)]) rfl ?_
  refine gl (i' := 7) (fun _ _ => aw_iconst K (n := 0) (i32 _ rfl) (dOf ck_mX9_pop rfl rfl)) ?_
  refine gl (i' := 8) (fun _ _ => aw_istore_n K (dOf ck_mX9_pop rfl rfl) (Nat.le_of_ble_eq_true rfl)) ?_
  refine g_lv (lv' := [(3, .inl _), (2, .inl _), (0, .inr (.inr (.inl (some _)))), (1, .inl _)]) rfl ?_
  refine g_sub [2, 1, 0] rfl ?_
  exact lk_Twins_pop_8 K _ FU _ _
