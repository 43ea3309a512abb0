def B_shape (x1 : Int) (x2 : Int) (mm : aM) : Option Int := if x1 < 0 then (some (-2)) else (if x1 < (mm 25 3) then (if x2 = (-1) then (if 0 ≤ x1 ∧ x1 < 6 then (some (mm 45 x1.toNat)) else none) else (if x2 < 0 then (some (-2)) else (if 0 ≤ x1 ∧ x1 < 6 then (if x2 < (mm 45 x1.toNat) then (some (iand (ishr (mm 46 x1.toNat) x2) 1)) else (some (-2))) else none))) else (some (-2)))
set_option maxHeartbeats 4000000 in
theorem met_B_shape {l : Launch} {D : va_G} {cA : FieldType → ClassId} {ad adV : Nat → Nat} {z0 : Nat} {x1 : Int} {x2 : Int} {mm : aM}  {r : Int} (h : B_shape x1 x2 mm = some r) : aMet l D cA ad adV z0 mX11_shape 0 0 0 0 [.inr (.inr (.inl (some 0))), .inl x1, .inl x2] SH mm ((rI mm) r).1 SH ((rI mm) r).2 := by
  refine aMet_ofG (by decide +kernel) rfl (Nat.le_of_ble_eq_true rfl) h (fun p e s m args below meth c al0 K => ?_)
  unfold B_shape
  refine gl (i' := 1) (fun _ _ => aw_iload_n K (dOf ck_mX11_shape rfl rfl) rfl) ?_
  refine g_if_lt K (dOf ck_mX11_shape rfl rfl) (t := 7) (aJ_of (by decide +kernel)) (fun h1 => ?_) (fun h1 => ?_)
  · refine gl (i' := 8) (fun _ _ => aw_bip K (dOf ck_mX11_shape rfl rfl) (v := -2) rfl) ?_
    exact g_iret K (dOf ck_mX11_shape rfl rfl).1 rfl (Or.inl rfl) rfl
  · refine gl (i' := 3) (fun _ _ => aw_iload_n K (dOf ck_mX11_shape rfl rfl) rfl) ?_
    refine gl (i' := 4) (fun _ _ => aw_aload_n K (dOf ck_mX11_shape rfl rfl) rfl) ?_
    refine gl (i' := 5) (fun _ _ => aw_getf K (dOf ck_mX11_shape rfl rfl) rfl rfl (Nat.le_of_ble_eq_true rfl) wd_461 (k := 1) rfl) ?_
    refine gl (i' := 6) (fun _ _ => aw_getf K (dOf ck_mX11_shape rfl rfl) rfl rfl (Nat.le_of_ble_eq_true rfl) wd_204 (k := 3) rfl) ?_
    refine g_icmp_lt K (dOf ck_mX11_shape rfl rfl) (t := 9) (aJ_of (by decide +kernel)) (fun h2 => ?_) (fun h2 => ?_)
    · refine gl (i' := 10) (fun _ _ => aw_iload_n K (dOf ck_mX11_shape rfl rfl) rfl) ?_
      refine gl (i' := 11) (fun _ _ => aw_iconst K (n := -1) (i32 _ rfl) (dOf ck_mX11_shape rfl rfl)) ?_
      refine g_icmp_ne K (dOf ck_mX11_shape rfl rfl) (t := 18) (aJ_of (by decide +kernel)) (fun h3 => ?_) (fun h3 => ?_)
      · refine gl (i' := 13) (fun _ _ => aw_aload_n K (dOf ck_mX11_shape rfl rfl) rfl) ?_
        refine gl (i' := 14) (fun _ _ => aw_getf K (dOf ck_mX11_shape rfl rfl) rfl rfl (Nat.le_of_ble_eq_true rfl) wd_461 (k := 1) rfl) ?_
        refine gl (i' := 15) (fun _ _ => aw_getf K (dOf ck_mX11_shape rfl rfl) rfl rfl (Nat.le_of_ble_eq_true rfl) wd_264 (k := 13) rfl) ?_
        refine gl (i' := 16) (fun _ _ => aw_iload_n K (dOf ck_mX11_shape rfl rfl) rfl) ?_
        refine g_gd (fun hb7 => ?_)
        refine gl (i' := 17) (fun _ _ => aw_iald K (dOf ck_mX11_shape rfl rfl) rfl hb7) ?_
        exact g_iret K (dOf ck_mX11_shape rfl rfl).1 rfl (Or.inl rfl) rfl
      · refine gl (i' := 19) (fun _ _ => aw_iload_n K (dOf ck_mX11_shape rfl rfl) rfl) ?_
        refine g_if_lt K (dOf ck_mX11_shape rfl rfl) (t := 27) (aJ_of (by decide +kernel)) (fun h4 => ?_) (fun h4 => ?_)
        · refine gl (i' := 28) (fun _ _ => aw_bip K (dOf ck_mX11_shape rfl rfl) (v := -2) rfl) ?_
          exact g_iret K (dOf ck_mX11_shape rfl rfl).1 rfl (Or.inl rfl) rfl
        · refine gl (i' := 21) (fun _ _ => aw_iload_n K (dOf ck_mX11_shape rfl rfl) rfl) ?_
          refine gl (i' := 22) (fun _ _ => aw_aload_n K (dOf ck_mX11_shape rfl rfl) rfl) ?_
          refine gl (i' := 23) (fun _ _ => aw_getf K (dOf ck_mX11_shape rfl rfl) rfl rfl (Nat.le_of_ble_eq_true rfl) wd_461 (k := 1) rfl) ?_
          refine gl (i' := 24) (fun _ _ => aw_getf K (dOf ck_mX11_shape rfl rfl) rfl rfl (Nat.le_of_ble_eq_true rfl) wd_264 (k := 13) rfl) ?_
          refine gl (i' := 25) (fun _ _ => aw_iload_n K (dOf ck_mX11_shape rfl rfl) rfl) ?_
          refine g_gd (fun hb5 => ?_)
          refine gl (i' := 26) (fun _ _ => aw_iald K (dOf ck_mX11_shape rfl rfl) rfl hb5) ?_
          refine g_icmp_lt K (dOf ck_mX11_shape rfl rfl) (t := 29) (aJ_of (by decide +kernel)) (fun h6 => ?_) (fun h6 => ?_)
          · refine gl (i' := 30) (fun _ _ => aw_aload_n K (dOf ck_mX11_shape rfl rfl) rfl) ?_
            refine gl (i' := 31) (fun _ _ => aw_getf K (dOf ck_mX11_shape rfl rfl) rfl rfl (Nat.le_of_ble_eq_true rfl) wd_461 (k := 1) rfl) ?_
            refine gl (i' := 32) (fun _ _ => aw_getf K (dOf ck_mX11_shape rfl rfl) rfl rfl (Nat.le_of_ble_eq_true rfl) wd_269 (k := 14) rfl) ?_
            refine gl (i' := 33) (fun _ _ => aw_iload_n K (dOf ck_mX11_shape rfl rfl) rfl) ?_
            refine gl (i' := 34) (fun _ _ => aw_iald K (dOf ck_mX11_shape rfl rfl) rfl hb5) ?_
            refine gl (i' := 35) (fun _ _ => aw_iload_n K (dOf ck_mX11_shape rfl rfl) rfl) ?_
            refine gl (i' := 36) (fun _ _ => aw_ishr K (dOf ck_mX11_shape rfl rfl)) ?_
            refine gl (i' := 37) (fun _ _ => aw_iconst K (n := 1) (i32 _ rfl) (dOf ck_mX11_shape rfl rfl)) ?_
            refine gl (i' := 38) (fun _ _ => aw_iand K (dOf ck_mX11_shape rfl rfl)) ?_
            exact g_iret K (by decide +kernel) rfl (Or.inl rfl) rfl
          · refine gl (i' := 28) (fun _ _ => aw_bip K (dOf ck_mX11_shape rfl rfl) (v := -2) rfl) ?_
            exact g_iret K (dOf ck_mX11_shape rfl rfl).1 rfl (Or.inl rfl) rfl
    · refine gl (i' := 8) (fun _ _ => aw_bip K (dOf ck_mX11_shape rfl rfl) (v := -2) rfl) ?_
      exact g_iret K (dOf ck_mX11_shape rfl rfl).1 rfl (Or.inl rfl) rfl
def B_isKind (x0 : Int) (mm : aM) : Option Int := if x0 < 0 then (some 0) else (if x0 < 4 then (some 1) else (some 0))
set_option maxHeartbeats 4000000 in
theorem met_B_isKind {l : Launch} {D : va_G} {cA : FieldType → ClassId} {ad adV : Nat → Nat} {z0 : Nat} {x0 : Int} {mm : aM}  {r : Int} (h : B_isKind x0 mm = some r) : aMet l D cA ad adV z0 mX11_isKind 0 0 0 0 [.inl x0] SH mm ((rI mm) r).1 SH ((rI mm) r).2 := by
  refine aMet_ofG (by decide +kernel) rfl (Nat.le_of_ble_eq_true rfl) h (fun p e s m args below meth c al0 K => ?_)
  unfold B_isKind
  refine gl (i' := 1) (fun _ _ => aw_iload_n K (dOf ck_mX11_isKind rfl rfl) rfl) ?_
  refine g_if_lt K (dOf ck_mX11_isKind rfl rfl) (t := 7) (aJ_of (by decide +kernel)) (fun h1 => ?_) (fun h1 => ?_)
  · refine gl (i' := 8) (fun _ _ => aw_iconst K (n := 0) (i32 _ rfl) (dOf ck_mX11_isKind rfl rfl)) ?_
    exact g_iret K (by decide +kernel) rfl (Or.inr (Or.inl ⟨rfl, Or.inl rfl⟩)) rfl
  · refine gl (i' := 3) (fun _ _ => aw_iload_n K (dOf ck_mX11_isKind rfl rfl) rfl) ?_
    refine gl (i' := 4) (fun _ _ => aw_iconst K (n := 4) (i32 _ rfl) (dOf ck_mX11_isKind rfl rfl)) ?_
    refine g_icmp_ge K (dOf ck_mX11_isKind rfl rfl) (t := 7) (aJ_of (by decide +kernel)) (fun h2 => ?_) (fun h2 => ?_)
    · refine gl (i' := 6) (fun _ _ => aw_iconst K (n := 1) (i32 _ rfl) (dOf ck_mX11_isKind rfl rfl)) ?_
      refine g_goto K (dOf ck_mX11_isKind rfl rfl).1 (t := 8) (aJ_of (by decide +kernel)) ?_
      exact g_iret K (by decide +kernel) rfl (Or.inr (Or.inl ⟨rfl, Or.inr rfl⟩)) rfl
    · refine gl (i' := 8) (fun _ _ => aw_iconst K (n := 0) (i32 _ rfl) (dOf ck_mX11_isKind rfl rfl)) ?_
      exact g_iret K (by decide +kernel) rfl (Or.inr (Or.inl ⟨rfl, Or.inl rfl⟩)) rfl
def B_behind (x1 : Int) (mm : aM) : Option Int := (B_isKind x1 mm).bind fun r1 => (if r1 = 0 then (some (-2)) else (if 0 ≤ x1 ∧ x1 < 4 then (some (mm 44 x1.toNat)) else none))
set_option maxHeartbeats 4000000 in
theorem met_B_behind {l : Launch} {D : va_G} {cA : FieldType → ClassId} {ad adV : Nat → Nat} {z0 : Nat} {x1 : Int} {mm : aM}  {r : Int} (h : B_behind x1 mm = some r) : aMet l D cA ad adV z0 mX11_behind 1 20 0 0 [.inr (.inr (.inl (some 0))), .inl x1] SH mm ((rI mm) r).1 SH ((rI mm) r).2 := by
  refine aMet_ofG (by decide +kernel) rfl (Nat.le_of_ble_eq_true rfl) h (fun p e s m args below meth c al0 K => ?_)
  unfold B_behind
  refine gl (i' := 1) (fun _ _ => aw_iload_n K (dOf ck_mX11_behind rfl rfl) rfl) ?_
  refine g_callSI K [.inl _] rfl (dOf ck_mX11_behind rfl rfl) al_OneBreath_179 wd_645 rfl (Nat.le_of_ble_eq_true rfl) ⟨Nat.le_of_ble_eq_true rfl, Nat.le_of_ble_eq_true rfl⟩ (fun b hb => met_B_isKind  hb) (fun r1 hr1 => ?_)
  refine g_if_eq K (dOf ck_mX11_behind rfl rfl) (t := 9) (aJ_of (by decide +kernel)) (fun h2 => ?_) (fun h2 => ?_)
  · refine gl (i' := 10) (fun _ _ => aw_bip K (dOf ck_mX11_behind rfl rfl) (v := -2) rfl) ?_
    exact g_iret K (by decide +kernel) rfl (Or.inl rfl) rfl
  · refine gl (i' := 4) (fun _ _ => aw_aload_n K (dOf ck_mX11_behind rfl rfl) rfl) ?_
    refine gl (i' := 5) (fun _ _ => aw_getf K (dOf ck_mX11_behind rfl rfl) rfl rfl (Nat.le_of_ble_eq_true rfl) wd_461 (k := 1) rfl) ?_
    refine gl (i' := 6) (fun _ _ => aw_getf K (dOf ck_mX11_behind rfl rfl) rfl rfl (Nat.le_of_ble_eq_true rfl) wd_259 (k := 12) rfl) ?_
    refine gl (i' := 7) (fun _ _ => aw_iload_n K (dOf ck_mX11_behind rfl rfl) rfl) ?_
    refine g_gd (fun hb3 => ?_)
    refine gl (i' := 8) (fun _ _ => aw_iald K (dOf ck_mX11_behind rfl rfl) rfl hb3) ?_
    refine g_goto K (dOf ck_mX11_behind rfl rfl).1 (t := 10) (aJ_of (by decide +kernel)) ?_
    exact g_iret K (by decide +kernel) rfl (Or.inl rfl) rfl
def B_ends (x1 : Int) (mm : aM) : Option Int := (B_isKind x1 mm).bind fun r1 => (if r1 = 0 then (some (-2)) else (some (iand (ishr (mm 25 5) x1) 1)))
set_option maxHeartbeats 4000000 in
theorem met_B_ends {l : Launch} {D : va_G} {cA : FieldType → ClassId} {ad adV : Nat → Nat} {z0 : Nat} {x1 : Int} {mm : aM}  {r : Int} (h : B_ends x1 mm = some r) : aMet l D cA ad adV z0 mX11_ends 1 20 0 0 [.inr (.inr (.inl (some 0))), .inl x1] SH mm ((rI mm) r).1 SH ((rI mm) r).2 := by
  refine aMet_ofG (by decide +kernel) rfl (Nat.le_of_ble_eq_true rfl) h (fun p e s m args below meth c al0 K => ?_)
  unfold B_ends
  refine gl (i' := 1) (fun _ _ => aw_iload_n K (dOf ck_mX11_ends rfl rfl) rfl) ?_
  refine g_callSI K [.inl _] rfl (dOf ck_mX11_ends rfl rfl) al_OneBreath_179 wd_645 rfl (Nat.le_of_ble_eq_true rfl) ⟨Nat.le_of_ble_eq_true rfl, Nat.le_of_ble_eq_true rfl⟩ (fun b hb => met_B_isKind  hb) (fun r1 hr1 => ?_)
  refine g_if_eq K (dOf ck_mX11_ends rfl rfl) (t := 11) (aJ_of (by decide +kernel)) (fun h2 => ?_) (fun h2 => ?_)
  · refine gl (i' := 12) (fun _ _ => aw_bip K (dOf ck_mX11_ends rfl rfl) (v := -2) rfl) ?_
    exact g_iret K (by decide +kernel) rfl (Or.inl rfl) rfl
  · refine gl (i' := 4) (fun _ _ => aw_aload_n K (dOf ck_mX11_ends rfl rfl) rfl) ?_
    refine gl (i' := 5) (fun _ _ => aw_getf K (dOf ck_mX11_ends rfl rfl) rfl rfl (Nat.le_of_ble_eq_true rfl) wd_461 (k := 1) rfl) ?_
    refine gl (i' := 6) (fun _ _ => aw_getf K (dOf ck_mX11_ends rfl rfl) rfl rfl (Nat.le_of_ble_eq_true rfl) wd_214 (k := 5) rfl) ?_
    refine gl (i' := 7) (fun _ _ => aw_iload_n K (dOf ck_mX11_ends rfl rfl) rfl) ?_
    refine gl (i' := 8) (fun _ _ => aw_ishr K (dOf ck_mX11_ends rfl rfl)) ?_
    refine gl (i' := 9) (fun _ _ => aw_iconst K (n := 1) (i32 _ rfl) (dOf ck_mX11_ends rfl rfl)) ?_
    refine gl (i' := 10) (fun _ _ => aw_iand K (dOf ck_mX11_ends rfl rfl)) ?_
    refine g_goto K (dOf ck_mX11_ends rfl rfl).1 (t := 12) (aJ_of (by decide +kernel)) ?_
    exact g_iret K (by decide +kernel) rfl (Or.inl rfl) rfl
def Sounds_add (t : Nat) (x1 : Int) (mm : aM) : Option aM := if (mm t 1) < 40 then (if 0 ≤ (mm t 1) ∧ (mm t 1) < 40 then (st1 (aup mm (t + 1) (mm t 1).toNat (w8 x1)) fun mm3 => (st1 (aup mm3 t 1 (w32 ((mm3 t 1) + 1))) fun mm4 => (some mm4))) else none) else (some mm)
set_option maxHeartbeats 4000000 in
theorem met_Sounds_add {l : Launch} {D : va_G} {cA : FieldType → ClassId} {ad adV : Nat → Nat} {z0 : Nat} {t : Nat} {x1 : Int} {mm : aM} (ht : okS t) {r : aM} (h : Sounds_add t x1 mm = some r) : aMet l D cA ad adV z0 mX6_add 0 0 0 0 [.inr (.inr (.inl (some t))), .inl x1] SH mm (rM r).1 SH (rM r).2 := by
  refine aMet_ofG (by decide +kernel) rfl (Nat.le_of_ble_eq_true rfl) h (fun p e s m args below meth c al0 K => ?_)
  unfold Sounds_add
  refine gl (i' := 1) (fun _ _ => aw_aload_n K (dOf ck_mX6_add rfl rfl) rfl) ?_
  refine gl (i' := 2) (fun _ _ => aw_getf K (dOf ck_mX6_add rfl rfl) (shS_0 ht) rfl (Nat.le_of_ble_eq_true rfl) wd_299 (k := 1) rfl) ?_
  refine gl (i' := 3) (fun _ _ => aw_bip K (dOf ck_mX6_add rfl rfl) (v := 40) rfl) ?_
  refine g_icmp_ge K (dOf ck_mX6_add rfl rfl) (t := 16) (aJ_of (by decide +kernel)) (fun h1 => ?_) (fun h1 => ?_)
  · refine gl (i' := 5) (fun _ _ => aw_aload_n K (dOf ck_mX6_add rfl rfl) rfl) ?_
    refine gl (i' := 6) (fun _ _ => aw_getf K (dOf ck_mX6_add rfl rfl) (shS_0 ht) rfl (Nat.le_of_ble_eq_true rfl) wd_294 (k := 0) rfl) ?_
    refine gl (i' := 7) (fun _ _ => aw_aload_n K (dOf ck_mX6_add rfl rfl) rfl) ?_
    refine gl (i' := 8) (fun _ _ => aw_getf K (dOf ck_mX6_add rfl rfl) (shS_0 ht) rfl (Nat.le_of_ble_eq_true rfl) wd_299 (k := 1) rfl) ?_
    refine gl (i' := 9) (fun _ _ => aw_iload_n K (dOf ck_mX6_add rfl rfl) rfl) ?_
    refine g_gd (fun hb2 => ?_)
    refine g_st1 ?_
    refine gl (i' := 10) (fun _ _ => aw_bast K (dOf ck_mX6_add rfl rfl) (shS_1 ht) hb2) ?_
    refine gl (i' := 11) (fun _ _ => aw_aload_n K (dOf ck_mX6_add rfl rfl) rfl) ?_
    refine gl (i' := 12) (fun _ _ => aw_dup K rfl (dOf ck_mX6_add rfl rfl)) ?_
    refine gl (i' := 13) (fun _ _ => aw_getf K (dOf ck_mX6_add rfl rfl) (shS_0 ht) rfl (Nat.le_of_ble_eq_true rfl) wd_299 (k := 1) rfl) ?_
    refine gl (i' := 14) (fun _ _ => aw_iconst K (n := 1) (i32 _ rfl) (dOf ck_mX6_add rfl rfl)) ?_
    refine gl (i' := 15) (fun _ _ => aw_iadd K (dOf ck_mX6_add rfl rfl)) ?_
    refine g_st1 ?_
    refine gl (i' := 16) (fun _ _ => aw_putf K (dOf ck_mX6_add rfl rfl) (shS_0 ht) rfl (Nat.le_of_ble_eq_true rfl) wd_299 (k := 1) rfl rfl (Or.inl rfl)) ?_
    exact g_vret K (by decide +kernel) rfl rfl
  · exact g_vret K (by decide +kernel) rfl rfl
def Tape_spellInto_14 (x1 : Int) : Nat → Int → aM → Option (Int × aM)
  | 0, _, _ => none
  | n + 1, x4, mm => if x4 < x1 then (if 0 ≤ x4 ∧ x4 < 500 then ((Tongue_findSound 25 (mm 2 x4.toNat) mm).bind fun r6 => (if r6 = (-1) then (some (0, mm)) else ((Sounds_add 49 (w8 r6) mm).bind fun r8 => (Tape_spellInto_14 x1 n (w32 (x4 + 1)) r8)))) else none) else (some (1, mm))
set_option maxHeartbeats 4000000 in
theorem lk_Tape_spellInto_14 {p : Program} {l : Launch} {e : Env} {s : State} {m : MethodId} {args : Array Value} {below : List Frame} {meth : Method} {c : Code} {D : va_G} {cA : FieldType → ClassId} {ad adV : Nat → Nat} {z0 : Nat} {al0 : List Nat} (K : aK p s m args meth c mX7_spellInto D cA ad adV z0) (x1 : Int)  : ∀ (n : Nat) (x4 : Int) (mm : aM), aG p l e { frames := 1, cells := 0, slots := 0, locals := 22 } s m args below meth c D cA ad z0 mX7_spellInto al0 rIM (Tape_spellInto_14 x1 n x4 mm) 14 [(0, .inr (.inr (.inl (some 1)))), (1, .inl x1), (2, .inr (.inr (.inl (some 25)))), (3, .inr (.inr (.inl (some 49)))), (4, .inl x4)] [] mm := by
  intro n
  induction n with
  | zero => intro x4 mm; exact g_none
  | succ n ih =>
    intro x4 mm
    rw [Tape_spellInto_14]
    refine gl (i' := 15) (fun _ _ => aw_iload K (dOf ck_mX7_spellInto rfl rfl) rfl) ?_
    refine gl (i' := 16) (fun _ _ => aw_iload_n K (dOf ck_mX7_spellInto rfl rfl) rfl) ?_
    refine g_icmp_ge K (dOf ck_mX7_spellInto rfl rfl) (t := 35) (aJ_of (by decide +kernel)) (fun h4 => ?_) (fun h4 => ?_)
    · refine gl (i' := 18) (fun _ _ => aw_aload_n K (dOf ck_mX7_spellInto rfl rfl) rfl) ?_
      refine gl (i' := 19) (fun _ _ => aw_aload_n K (dOf ck_mX7_spellInto rfl rfl) rfl) ?_
      refine gl (i' := 20) (fun _ _ => aw_getf K (dOf ck_mX7_spellInto rfl rfl) rfl rfl (Nat.le_of_ble_eq_true rfl) wd_274 (k := 0) rfl) ?_
      refine gl (i' := 21) (fun _ _ => aw_iload K (dOf ck_mX7_spellInto rfl rfl) rfl) ?_
      refine g_gd (fun hb5 => ?_)
      refine gl (i' := 22) (fun _ _ => aw_bald K (dOf ck_mX7_spellInto rfl rfl) rfl hb5) ?_
      refine g_callVI K [.inl _] rfl (dOf ck_mX7_spellInto rfl rfl) al_OneBreath_Tape_34 rfl rfl ⟨wd_579, wd_580⟩ rfl (Nat.le_of_ble_eq_true rfl) ⟨Nat.le_of_ble_eq_true rfl, Nat.le_of_ble_eq_true rfl⟩ (fun b hb => met_Tongue_findSound (by unfold okT; omega) hb) (fun r6 hr6 => ?_)
      refine gl (i' := 24) (fun _ _ => aw_istore K (dOf ck_mX7_spellInto rfl rfl) (Nat.le_of_ble_eq_true rfl)) ?_
      refine g_lv (lv' := [(5, .inl _), (0, .inr (.inr (.inl (some _)))), (1, .inl _), (2, .inr (.inr (.inl (some _)))), (3, .inr (.inr (.inl (some _)))), (4, .inl _)]) rfl ?_
      refine gl (i' := 25) (fun _ _ => aw_iload K (dOf ck_mX7_spellInto rfl rfl) rfl) ?_
      refine gl (i' := 26) (fun _ _ => aw_iconst K (n := -1) (i32 _ rfl) (dOf ck_mX7_spellInto rfl rfl)) ?_
      refine g_icmp_ne K (dOf ck_mX7_spellInto rfl rfl) (t := 29) (aJ_of (by decide +kernel)) (fun h7 => ?_) (fun h7 => ?_)
      · refine gl (i' := 28) (fun _ _ => aw_iconst K (n := 0) (i32 _ rfl) (dOf ck_mX7_spellInto rfl rfl)) ?_
        exact g_iret K (dOf ck_mX7_spellInto rfl rfl).1 rfl (Or.inr (Or.inl ⟨rfl, Or.inl rfl⟩)) rfl
      · refine gl (i' := 30) (fun _ _ => aw_aload_n K (dOf ck_mX7_spellInto rfl rfl) rfl) ?_
        refine gl (i' := 31) (fun _ _ => aw_iload K (dOf ck_mX7_spellInto rfl rfl) rfl) ?_
        refine gl (i' := 32) (fun _ _ => aw_i2b K (dOf ck_mX7_spellInto rfl rfl)) ?_
        refine g_callVM K [.inl _] rfl (dOf ck_mX7_spellInto rfl rfl) al_OneBreath_Tape_38 rfl rfl ⟨wd_660, wd_661⟩ rfl (Nat.le_of_ble_eq_true rfl) ⟨Nat.le_of_ble_eq_true rfl, Nat.le_of_ble_eq_true rfl⟩ (fun b hb => met_Sounds_add (by unfold okS; omega) hb) (fun r8 hr8 => ?_)
        refine gl (i' := 34) (fun _ _ => aw_iinc K (dOf ck_mX7_spellInto rfl rfl) (Nat.le_of_ble_eq_true rfl) rfl) ?_
        refine g_lv (lv' := [(4, .inl _), (5, .inl _), (0, .inr (.inr (.inl (some _)))), (1, .inl _), (2, .inr (.inr (.inl (some _)))), (3, .inr (.inr (.inl (some _))))]) rfl ?_
        refine g_goto K (dOf ck_mX7_spellInto rfl rfl).1 (t := 14) (aJ_of (by decide +kernel)) ?_
        refine g_sub [2, 3, 4, 5, 0] rfl ?_
        exact ih _ _
    · refine gl (i' := 36) (fun _ _ => aw_iconst K (n := 1) (i32 _ rfl) (dOf ck_mX7_spellInto rfl rfl)) ?_
      exact g_iret K (by decide +kernel) rfl (Or.inr (Or.inl ⟨rfl, Or.inr rfl⟩)) rfl
def Tape_spellInto (x1 : Int) (mm : aM) : Option (Int × aM) := st1 (aup mm 49 1 0) fun mm1 => (if 40 < x1 then (some (0, mm1)) else (if (mm1 1 1) < x1 then (some (0, mm1)) else (Tape_spellInto_14 x1 FU 0 mm1)))
set_option maxHeartbeats 4000000 in
theorem met_Tape_spellInto {l : Launch} {D : va_G} {cA : FieldType → ClassId} {ad adV : Nat → Nat} {z0 : Nat} {x1 : Int} {mm : aM}  {r : Int × aM} (h : Tape_spellInto x1 mm = some r) : aMet l D cA ad adV z0 mX7_spellInto 1 22 0 0 [.inr (.inr (.inl (some 1))), .inl x1, .inr (.inr (.inl (some 25))), .inr (.inr (.inl (some 49)))] SH mm (rIM r).1 SH (rIM r).2 := by
  refine aMet_ofG (by decide +kernel) rfl (Nat.le_of_ble_eq_true rfl) h (fun p e s m args below meth c al0 K => ?_)
  unfold Tape_spellInto
  refine gl (i' := 1) (fun _ _ => aw_aload_n K (dOf ck_mX7_spellInto rfl rfl) rfl) ?_
  refine gl (i' := 2) (fun _ _ => aw_iconst K (n := 0) (i32 _ rfl) (dOf ck_mX7_spellInto rfl rfl)) ?_
  refine g_st1 ?_
  refine gl (i' := 3) (fun _ _ => aw_putf K (dOf ck_mX7_spellInto rfl rfl) rfl rfl (Nat.le_of_ble_eq_true rfl) wd_304 (k := 1) rfl rfl (Or.inl rfl)) ?_
  refine gl (i' := 4) (fun _ _ => aw_iload_n K (dOf ck_mX7_spellInto rfl rfl) rfl) ?_
  refine gl (i' := 5) (fun _ _ => aw_bip K (dOf ck_mX7_spellInto rfl rfl) (v := 40) rfl) ?_
  refine g_icmp_gt K (dOf ck_mX7_spellInto rfl rfl) (t := 10) (aJ_of (by decide +kernel)) (fun h2 => ?_) (fun h2 => ?_)
  · refine gl (i' := 11) (fun _ _ => aw_iconst K (n := 0) (i32 _ rfl) (dOf ck_mX7_spellInto rfl rfl)) ?_
    exact g_iret K (dOf ck_mX7_spellInto rfl rfl).1 rfl (Or.inr (Or.inl ⟨rfl, Or.inl rfl⟩)) rfl
  · refine gl (i' := 7) (fun _ _ => aw_iload_n K (dOf ck_mX7_spellInto rfl rfl) rfl) ?_
    refine gl (i' := 8) (fun _ _ => aw_aload_n K (dOf ck_mX7_spellInto rfl rfl) rfl) ?_
    refine gl (i' := 9) (fun _ _ => aw_getf K (dOf ck_mX7_spellInto rfl rfl) rfl rfl (Nat.le_of_ble_eq_true rfl) wd_276 (k := 1) rfl) ?_
    refine g_icmp_le K (dOf ck_mX7_spellInto rfl rfl) (t := 12) (aJ_of (by decide +kernel)) (fun h3 => ?_) (fun h3 => ?_)
    · refine gl (i' := 11) (fun _ _ => aw_iconst K (n := 0) (i32 _ rfl) (dOf ck_mX7_spellInto rfl rfl)) ?_
      exact g_iret K (dOf ck_mX7_spellInto rfl rfl).1 rfl (Or.inr (Or.inl ⟨rfl, Or.inl rfl⟩)) rfl
    · refine gl (i' := 13) (fun _ _ => aw_iconst K (n := 0) (i32 _ rfl) (dOf ck_mX7_spellInto rfl rfl)) ?_
      refine gl (i' := 14) (fun _ _ => aw_istore K (dOf ck_mX7_spellInto rfl rfl) (Nat.le_of_ble_eq_true rfl)) ?_
      refine g_lv (lv' := [(4, .inl _), (0, .inr (.inr (.inl (some _)))), (1, .inl _), (2, .inr (.inr (.inl (some _)))), (3, .inr (.inr (.inl (some _))))]) rfl ?_
      refine g_sub [1, 2, 3, 4, 0] rfl ?_
      exact lk_Tape_spellInto_14 K _ FU _ _
def B_spelt (x1 : Int) (mm : aM) : Option (Int × aM) := (Tape_holds x1 mm).bind fun r1 => (if r1 = 0 then (some ((-3), mm)) else ((Tape_spellInto x1 mm).bind fun r3 => (st1 (aup r3.2 1 1 0) fun mm4 => (if r3.1 = 0 then (some ((-1), mm4)) else ((Tongue_findWord 25 50 (mm4 49 1) mm4).bind fun r6 => (some (r6, mm4)))))))
set_option maxHeartbeats 4000000 in
theorem met_B_spelt {l : Launch} {D : va_G} {cA : FieldType → ClassId} {ad adV : Nat → Nat} {z0 : Nat} {x1 : Int} {mm : aM}  {r : Int × aM} (h : B_spelt x1 mm = some r) : aMet l D cA ad adV z0 mX11_spelt 2 47 0 0 [.inr (.inr (.inl (some 0))), .inl x1] SH mm (rIM r).1 SH (rIM r).2 := by
  refine aMet_ofG (by decide +kernel) rfl (Nat.le_of_ble_eq_true rfl) h (fun p e s m args below meth c al0 K => ?_)
  unfold B_spelt
  refine gl (i' := 1) (fun _ _ => aw_aload_n K (dOf ck_mX11_spelt rfl rfl) rfl) ?_
  refine gl (i' := 2) (fun _ _ => aw_getf K (dOf ck_mX11_spelt rfl rfl) rfl rfl (Nat.le_of_ble_eq_true rfl) wd_460 (k := 0) rfl) ?_
  refine gl (i' := 3) (fun _ _ => aw_iload_n K (dOf ck_mX11_spelt rfl rfl) rfl) ?_
  refine g_callVI K [.inl _] rfl (dOf ck_mX11_spelt rfl rfl) al_OneBreath_111 rfl rfl ⟨wd_488, wd_489⟩ rfl (Nat.le_of_ble_eq_true rfl) ⟨Nat.le_of_ble_eq_true rfl, Nat.le_of_ble_eq_true rfl⟩ (fun b hb => met_Tape_holds  hb) (fun r1 hr1 => ?_)
  refine g_if_ne K (dOf ck_mX11_spelt rfl rfl) (t := 7) (aJ_of (by decide +kernel)) (fun h2 => ?_) (fun h2 => ?_)
  · refine gl (i' := 6) (fun _ _ => aw_bip K (dOf ck_mX11_spelt rfl rfl) (v := -3) rfl) ?_
    exact g_iret K (dOf ck_mX11_spelt rfl rfl).1 rfl (Or.inl rfl) rfl
  · refine gl (i' := 8) (fun _ _ => aw_aload_n K (dOf ck_mX11_spelt rfl rfl) rfl) ?_
    refine gl (i' := 9) (fun _ _ => aw_getf K (dOf ck_mX11_spelt rfl rfl) rfl rfl (Nat.le_of_ble_eq_true rfl) wd_460 (k := 0) rfl) ?_
    refine gl (i' := 10) (fun _ _ => aw_iload_n K (dOf ck_mX11_spelt rfl rfl) rfl) ?_
    refine gl (i' := 11) (fun _ _ => aw_aload_n K (dOf ck_mX11_spelt rfl rfl) rfl) ?_
    refine gl (i' := 12) (fun _ _ => aw_getf K (dOf ck_mX11_spelt rfl rfl) rfl rfl (Nat.le_of_ble_eq_true rfl) wd_461 (k := 1) rfl) ?_
    refine gl (i' := 13) (fun _ _ => aw_aload_n K (dOf ck_mX11_spelt rfl rfl) rfl) ?_
    refine gl (i' := 14) (fun _ _ => aw_getf K (dOf ck_mX11_spelt rfl rfl) rfl rfl (Nat.le_of_ble_eq_true rfl) wd_463 (k := 3) rfl) ?_
    refine g_callVIM K [.inl _, .inr (.inr (.inl (some _))), .inr (.inr (.inl (some _)))] rfl (dOf ck_mX11_spelt rfl rfl) al_OneBreath_188 rfl rfl ⟨wd_656, wd_657⟩ rfl (Nat.le_of_ble_eq_true rfl) ⟨Nat.le_of_ble_eq_true rfl, Nat.le_of_ble_eq_true rfl⟩ (fun b hb => met_Tape_spellInto  hb) (fun r3 hr3 => ?_)
    refine gl (i' := 16) (fun _ _ => aw_istore_n K (dOf ck_mX11_spelt rfl rfl) (Nat.le_of_ble_eq_true rfl)) ?_
    refine g_lv (lv' := [(2, .inl _), (0, .inr (.inr (.inl (some _)))), (1, .inl _)]) rfl ?_
    refine gl (i' := 17) (fun _ _ => aw_aload_n K (dOf ck_mX11_spelt rfl rfl) rfl) ?_
    refine gl (i' := 18) (fun _ _ => aw_getf K (dOf ck_mX11_spelt rfl rfl) rfl rfl (Nat.le_of_ble_eq_true rfl) wd_460 (k := 0) rfl) ?_
    refine gl (i' := 19) (fun _ _ => aw_iconst K (n := 0) (i32 _ rfl) (dOf ck_mX11_spelt rfl rfl)) ?_
    refine g_st1 ?_
    refine gl (i' := 20) (fun _ _ => aw_putf K (dOf ck_mX11_spelt rfl rfl) rfl rfl (Nat.le_of_ble_eq_true rfl) wd_275 (k := 1) rfl rfl (Or.inl rfl)) ?_
    refine gl (i' := 21) (fun _ _ => aw_iload_n K (dOf ck_mX11_spelt rfl rfl) rfl) ?_
    refine g_if_eq K (dOf ck_mX11_spelt rfl rfl) (t := 32) (aJ_of (by decide +kernel)) (fun h5 => ?_) (fun h5 => ?_)
    · refine gl (i' := 33) (fun _ _ => aw_iconst K (n := -1) (i32 _ rfl) (dOf ck_mX11_spelt rfl rfl)) ?_
      exact g_iret K (by decide +kernel) rfl (Or.inl rfl) rfl
    · refine gl (i' := 23) (fun _ _ => aw_aload_n K (dOf ck_mX11_spelt rfl rfl) rfl) ?_
      refine gl (i' := 24) (fun _ _ => aw_getf K (dOf ck_mX11_spelt rfl rfl) rfl rfl (Nat.le_of_ble_eq_true rfl) wd_461 (k := 1) rfl) ?_
      refine gl (i' := 25) (fun _ _ => aw_aload_n K (dOf ck_mX11_spelt rfl rfl) rfl) ?_
      refine gl (i' := 26) (fun _ _ => aw_getf K (dOf ck_mX11_spelt rfl rfl) rfl rfl (Nat.le_of_ble_eq_true rfl) wd_463 (k := 3) rfl) ?_
      refine gl (i' := 27) (fun _ _ => aw_getf K (dOf ck_mX11_spelt rfl rfl) rfl rfl (Nat.le_of_ble_eq_true rfl) wd_298 (k := 0) rfl) ?_
      refine gl (i' := 28) (fun _ _ => aw_aload_n K (dOf ck_mX11_spelt rfl rfl) rfl) ?_
      refine gl (i' := 29) (fun _ _ => aw_getf K (dOf ck_mX11_spelt rfl rfl) rfl rfl (Nat.le_of_ble_eq_true rfl) wd_463 (k := 3) rfl) ?_
      refine gl (i' := 30) (fun _ _ => aw_getf K (dOf ck_mX11_spelt rfl rfl) rfl rfl (Nat.le_of_ble_eq_true rfl) wd_303 (k := 1) rfl) ?_
      refine g_callVI K [.inr (.inr (.inl (some _))), .inl _] rfl (dOf ck_mX11_spelt rfl rfl) al_OneBreath_195 rfl rfl ⟨wd_592, wd_593⟩ rfl (Nat.le_of_ble_eq_true rfl) ⟨Nat.le_of_ble_eq_true rfl, Nat.le_of_ble_eq_true rfl⟩ (fun b hb => met_Tongue_findWord (by unfold okT; omega) ⟨_, rfl⟩ hb) (fun r6 hr6 => ?_)
      refine g_goto K (dOf ck_mX11_spelt rfl rfl).1 (t := 33) (aJ_of (by decide +kernel)) ?_
      exact g_iret K (by decide +kernel) rfl (Or.inl rfl) rfl
def Measure_costInstead (x1 : Int) (x2 : Int) (mm : aM) : Option Int := if (iand (ishr x2 x1) 1) = 0 then (if 0 ≤ x1 ∧ x1 < 8 then (if (iand (mm 27 x1.toNat) x2) = 0 then (some 2) else (some 1)) else none) else (some 0)
set_option maxHeartbeats 4000000 in
theorem met_Measure_costInstead {l : Launch} {D : va_G} {cA : FieldType → ClassId} {ad adV : Nat → Nat} {z0 : Nat} {x1 : Int} {x2 : Int} {mm : aM}  {r : Int} (h : Measure_costInstead x1 x2 mm = some r) : aMet l D cA ad adV z0 mX2_costInstead 0 0 0 0 [.inr (.inr (.inl (some 25))), .inl x1, .inl x2] SH mm ((rI mm) r).1 SH ((rI mm) r).2 := by
  refine aMet_ofG (by decide +kernel) rfl (Nat.le_of_ble_eq_true rfl) h (fun p e s m args below meth c al0 K => ?_)
  unfold Measure_costInstead
  refine gl (i' := 1) (fun _ _ => aw_iload_n K (dOf ck_mX2_costInstead rfl rfl) rfl) ?_
  refine gl (i' := 2) (fun _ _ => aw_iload_n K (dOf ck_mX2_costInstead rfl rfl) rfl) ?_
  refine gl (i' := 3) (fun _ _ => aw_ishr K (dOf ck_mX2_costInstead rfl rfl)) ?_
  refine gl (i' := 4) (fun _ _ => aw_iconst K (n := 1) (i32 _ rfl) (dOf ck_mX2_costInstead rfl rfl)) ?_
  refine gl (i' := 5) (fun _ _ => aw_iand K (dOf ck_mX2_costInstead rfl rfl)) ?_
  refine g_if_eq K (dOf ck_mX2_costInstead rfl rfl) (t := 8) (aJ_of (by decide +kernel)) (fun h1 => ?_) (fun h1 => ?_)
  · refine gl (i' := 9) (fun _ _ => aw_aload_n K (dOf ck_mX2_costInstead rfl rfl) rfl) ?_
    refine gl (i' := 10) (fun _ _ => aw_getf K (dOf ck_mX2_costInstead rfl rfl) rfl rfl (Nat.le_of_ble_eq_true rfl) wd_223 (k := 7) rfl) ?_
    refine gl (i' := 11) (fun _ _ => aw_iload_n K (dOf ck_mX2_costInstead rfl rfl) rfl) ?_
    refine g_gd (fun hb2 => ?_)
    refine gl (i' := 12) (fun _ _ => aw_iald K (dOf ck_mX2_costInstead rfl rfl) rfl hb2) ?_
    refine gl (i' := 13) (fun _ _ => aw_iload_n K (dOf ck_mX2_costInstead rfl rfl) rfl) ?_
    refine gl (i' := 14) (fun _ _ => aw_iand K (dOf ck_mX2_costInstead rfl rfl)) ?_
    refine g_if_eq K (dOf ck_mX2_costInstead rfl rfl) (t := 17) (aJ_of (by decide +kernel)) (fun h3 => ?_) (fun h3 => ?_)
    · refine gl (i' := 18) (fun _ _ => aw_iconst K (n := 2) (i32 _ rfl) (dOf ck_mX2_costInstead rfl rfl)) ?_
      exact g_iret K (by decide +kernel) rfl (Or.inl rfl) rfl
    · refine gl (i' := 16) (fun _ _ => aw_iconst K (n := 1) (i32 _ rfl) (dOf ck_mX2_costInstead rfl rfl)) ?_
      refine g_goto K (dOf ck_mX2_costInstead rfl rfl).1 (t := 18) (aJ_of (by decide +kernel)) ?_
      exact g_iret K (by decide +kernel) rfl (Or.inl rfl) rfl
  · refine gl (i' := 7) (fun _ _ => aw_iconst K (n := 0) (i32 _ rfl) (dOf ck_mX2_costInstead rfl rfl)) ?_
    exact g_iret K (dOf ck_mX2_costInstead rfl rfl).1 rfl (Or.inl rfl) rfl
def Measure_leastCost_35 (k16 : Int → aM → Option (Int × aM)) (x2 : Nat) (x3 : Int) (x4 : Int) (x5 : Int) : Nat → Int → Int → aM → Option (Int × aM)
  | 0, _, _, _ => none
  | n + 1, x6, x7, mm => if x7 < x4 then (if 0 ≤ x5 ∧ x5 < aln x2 then (if 0 ≤ x7 ∧ x7 < 6 then ((Measure_costInstead (mm x2 x5.toNat) (mm 77 x7.toNat) mm).bind fun r8 => (if 0 ≤ x7 ∧ x7 < 7 then (if 0 ≤ (w32 (x7 + 1)) ∧ (w32 (x7 + 1)) < 7 then ((Jmath_min (mm 78 x7.toNat) (mm 78 (w32 (x7 + 1)).toNat) mm).bind fun r11 => ((Jmath_min (w32 (x6 + r8)) (w32 (r11 + 2)) mm).bind fun r12 => (st1 (aup mm 78 (w32 (x7 + 1)).toNat r12) fun mm13 => (Measure_leastCost_35 k16 x2 x3 x4 x5 n (mm 78 (w32 (x7 + 1)).toNat) (w32 (x7 + 1)) mm13)))) else none) else none)) else none) else none) else (k16 (w32 (x5 + 1)) mm)
set_option maxHeartbeats 4000000 in
theorem lk_Measure_leastCost_35 {p : Program} {l : Launch} {e : Env} {s : State} {m : MethodId} {args : Array Value} {below : List Frame} {meth : Method} {c : Code} {D : va_G} {cA : FieldType → ClassId} {ad adV : Nat → Nat} {z0 : Nat} {al0 : List Nat} (K : aK p s m args meth c mX2_leastCost D cA ad adV z0) {x2 : Nat} (x3 : Int) (x4 : Int) (x5 : Int) (hx2 : okB x2) (k16 : Int → aM → Option (Int × aM)) (hk16 : ∀ (x5 : Int) (mm : aM), aG p l e { frames := 1, cells := 0, slots := 0, locals := 22 } s m args below meth c D cA ad z0 mX2_leastCost al0 rIM (k16 x5 mm) 16 [(0, .inr (.inr (.inl (some 76)))), (1, .inr (.inr (.inl (some 25)))), (2, .inr (.inr (.inl (some x2)))), (3, .inl x3), (4, .inl x4), (5, .inl x5)] [] mm)  : ∀ (n : Nat) (x6 : Int) (x7 : Int) (mm : aM), aG p l e { frames := 1, cells := 0, slots := 0, locals := 22 } s m args below meth c D cA ad z0 mX2_leastCost al0 rIM (Measure_leastCost_35 k16 x2 x3 x4 x5 n x6 x7 mm) 35 [(0, .inr (.inr (.inl (some 76)))), (1, .inr (.inr (.inl (some 25)))), (2, .inr (.inr (.inl (some x2)))), (3, .inl x3), (4, .inl x4), (5, .inl x5), (6, .inl x6), (7, .inl x7)] [] mm := by
  intro n
  induction n with
  | zero => intro x6 x7 mm; exact g_none
  | succ n ih =>
    intro x6 x7 mm
    rw [Measure_leastCost_35]
    refine gl (i' := 36) (fun _ _ => aw_iload K (dOf ck_mX2_leastCost rfl rfl) rfl) ?_
    refine gl (i' := 37) (fun _ _ => aw_iload K (dOf ck_mX2_leastCost rfl rfl) rfl) ?_
    refine g_icmp_ge K (dOf ck_mX2_leastCost rfl rfl) (t := 82) (aJ_of (by decide +kernel)) (fun h5 => ?_) (fun h5 => ?_)
    · refine gl (i' := 39) (fun _ _ => aw_iload K (dOf ck_mX2_leastCost rfl rfl) rfl) ?_
      refine gl (i' := 40) (fun _ _ => aw_aload_n K (dOf ck_mX2_leastCost rfl rfl) rfl) ?_
      refine gl (i' := 41) (fun _ _ => aw_aload_n K (dOf ck_mX2_leastCost rfl rfl) rfl) ?_
      refine gl (i' := 42) (fun _ _ => aw_iload K (dOf ck_mX2_leastCost rfl rfl) rfl) ?_
      refine g_gd (fun hb6 => ?_)
      refine gl (i' := 43) (fun _ _ => aw_bald K (dOf ck_mX2_leastCost rfl rfl) (okB_at hx2) hb6) ?_
      refine gl (i' := 44) (fun _ _ => aw_aload_n K (dOf ck_mX2_leastCost rfl rfl) rfl) ?_
      refine gl (i' := 45) (fun _ _ => aw_getf K (dOf ck_mX2_leastCost rfl rfl) rfl rfl (Nat.le_of_ble_eq_true rfl) wd_377 (k := 0) rfl) ?_
      refine gl (i' := 46) (fun _ _ => aw_iload K (dOf ck_mX2_leastCost rfl rfl) rfl) ?_
      refine g_gd (fun hb7 => ?_)
      refine gl (i' := 47) (fun _ _ => aw_iald K (dOf ck_mX2_leastCost rfl rfl) rfl hb7) ?_
      refine g_callSI K [.inr (.inr (.inl (some _))), .inl _, .inl _] rfl (dOf ck_mX2_leastCost rfl rfl) al_OneBreath_Measure_44 wd_676 rfl (Nat.le_of_ble_eq_true rfl) ⟨Nat.le_of_ble_eq_true rfl, Nat.le_of_ble_eq_true rfl⟩ (fun b hb => met_Measure_costInstead  hb) (fun r8 hr8 => ?_)
      refine gl (i' := 49) (fun _ _ => aw_iadd K (dOf ck_mX2_leastCost rfl rfl)) ?_
      refine gl (i' := 50) (fun _ _ => aw_istore K (dOf ck_mX2_leastCost rfl rfl) (Nat.le_of_ble_eq_true rfl)) ?_
      refine g_lv (lv' := [(8, .inl _), (0, .inr (.inr (.inl (some _)))), (1, .inr (.inr (.inl (some _)))), (2, .inr (.inr (.inl (some _)))), (3, .inl _), (4, .inl _), (5, .inl _), (6, .inl _), (7, .inl _)]) rfl ?_
      refine gl (i' := 51) (fun _ _ => aw_aload_n K (dOf ck_mX2_leastCost rfl rfl) rfl) ?_
      refine gl (i' := 52) (fun _ _ => aw_getf K (dOf ck_mX2_leastCost rfl rfl) rfl rfl (Nat.le_of_ble_eq_true rfl) wd_378 (k := 1) rfl) ?_
      refine gl (i' := 53) (fun _ _ => aw_iload K (dOf ck_mX2_leastCost rfl rfl) rfl) ?_
      refine g_gd (fun hb9 => ?_)
      refine gl (i' := 54) (fun _ _ => aw_iald K (dOf ck_mX2_leastCost rfl rfl) rfl hb9) ?_
      refine gl (i' := 55) (fun _ _ => aw_aload_n K (dOf ck_mX2_leastCost rfl rfl) rfl) ?_
      refine gl (i' := 56) (fun _ _ => aw_getf K (dOf ck_mX2_leastCost rfl rfl) rfl rfl (Nat.le_of_ble_eq_true rfl) wd_378 (k := 1) rfl) ?_
      refine gl (i' := 57) (fun _ _ => aw_iload K (dOf ck_mX2_leastCost rfl rfl) rfl) ?_
      refine gl (i' := 58) (fun _ _ => aw_iconst K (n := 1) (i32 _ rfl) (dOf ck_mX2_leastCost rfl rfl)) ?_
      refine gl (i' := 59) (fun _ _ => aw_iadd K (dOf ck_mX2_leastCost rfl rfl)) ?_
      refine g_gd (fun hb10 => ?_)
      refine gl (i' := 60) (fun _ _ => aw_iald K (dOf ck_mX2_leastCost rfl rfl) rfl hb10) ?_
      refine g_callSI K [.inl _, .inl _] rfl (dOf ck_mX2_leastCost rfl rfl) al_OneBreath_Measure_48 wd_496 rfl (Nat.le_of_ble_eq_true rfl) ⟨Nat.le_of_ble_eq_true rfl, Nat.le_of_ble_eq_true rfl⟩ (fun b hb => met_Jmath_min  hb) (fun r11 hr11 => ?_)
      refine gl (i' := 62) (fun _ _ => aw_iconst K (n := 2) (i32 _ rfl) (dOf ck_mX2_leastCost rfl rfl)) ?_
      refine gl (i' := 63) (fun _ _ => aw_iadd K (dOf ck_mX2_leastCost rfl rfl)) ?_
      refine gl (i' := 64) (fun _ _ => aw_istore K (dOf ck_mX2_leastCost rfl rfl) (Nat.le_of_ble_eq_true rfl)) ?_
      refine g_lv (lv' := [(9, .inl _), (8, .inl _), (0, .inr (.inr (.inl (some _)))), (1, .inr (.inr (.inl (some _)))), (2, .inr (.inr (.inl (some _)))), (3, .inl _), (4, .inl _), (5, .inl _), (6, .inl _), (7, .inl _)]) rfl ?_
      refine gl (i' := 65) (fun _ _ => aw_aload_n K (dOf ck_mX2_leastCost rfl rfl) rfl) ?_
      refine gl (i' := 66) (fun _ _ => aw_getf K (dOf ck_mX2_leastCost rfl rfl) rfl rfl (Nat.le_of_ble_eq_true rfl) wd_378 (k := 1) rfl) ?_
      refine gl (i' := 67) (fun _ _ => aw_iload K (dOf ck_mX2_leastCost rfl rfl) rfl) ?_
      refine gl (i' := 68) (fun _ _ => aw_iconst K (n := 1) (i32 _ rfl) (dOf ck_mX2_leastCost rfl rfl)) ?_
      refine gl (i' := 69) (fun _ _ => aw_iadd K (dOf ck_mX2_leastCost rfl rfl)) ?_
      refine gl (i' := 70) (fun _ _ => aw_iald K (dOf ck_mX2_leastCost rfl rfl) rfl hb10) ?_
      refine gl (i' := 71) (fun _ _ => aw_istore K (dOf ck_mX2_leastCost rfl rfl) (Nat.le_of_ble_eq_true rfl)) ?_
      refine g_lv (lv' := [(6, .inl _), (9, .inl _), (8, .inl _), (0, .inr (.inr (.inl (some _)))), (1, .inr (.inr (.inl (some _)))), (2, .inr (.inr (.inl (some _)))), (3, .inl _), (4, .inl _), (5, .inl _), (7, .inl _)]) rfl ?_
      refine gl (i' := 72) (fun _ _ => aw_aload_n K (dOf ck_mX2_leastCost rfl rfl) rfl) ?_
      refine gl (i' := 73) (fun _ _ => aw_getf K (dOf ck_mX2_leastCost rfl rfl) rfl rfl (Nat.le_of_ble_eq_true rfl) wd_378 (k := 1) rfl) ?_
      refine gl (i' := 74) (fun _ _ => aw_iload K (dOf ck_mX2_leastCost rfl rfl) rfl) ?_
      refine gl (i' := 75) (fun _ _ => aw_iconst K (n := 1) (i32 _ rfl) (dOf ck_mX2_leastCost rfl rfl)) ?_
      refine gl (i' := 76) (fun _ _ => aw_iadd K (dOf ck_mX2_leastCost rfl rfl)) ?_
      refine gl (i' := 77) (fun _ _ => aw_iload K (dOf ck_mX2_leastCost rfl rfl) rfl) ?_
      refine gl (i' := 78) (fun _ _ => aw_iload K (dOf ck_mX2_leastCost rfl rfl) rfl) ?_
      refine g_callSI K [.inl _, .inl _] rfl (dOf ck_mX2_leastCost rfl rfl) al_OneBreath_Measure_48 wd_496 rfl (Nat.le_of_ble_eq_true rfl) ⟨Nat.le_of_ble_eq_true rfl, Nat.le_of_ble_eq_true rfl⟩ (fun b hb => met_Jmath_min  hb) (fun r12 hr12 => ?_)
      refine g_st1 ?_
      refine gl (i' := 80) (fun _ _ => aw_iast K (dOf ck_mX2_leastCost rfl rfl) rfl hb10) ?_
      refine gl (i' := 81) (fun _ _ => aw_iinc K (dOf ck_mX2_leastCost rfl rfl) (Nat.le_of_ble_eq_true rfl) rfl) ?_
      refine g_lv (lv' := [(7, .inl _), (6, .inl _), (9, .inl _), (8, .inl _), (0, .inr (.inr (.inl (some _)))), (1, .inr (.inr (.inl (some _)))), (2, .inr (.inr (.inl (some _)))), (3, .inl _), (4, .inl _), (5, .inl _)]) rfl ?_
      refine g_goto K (dOf ck_mX2_leastCost rfl rfl).1 (t := 35) (aJ_of (by decide +kernel)) ?_
      refine g_sub [4, 5, 6, 7, 8, 9, 1, 0] rfl ?_
      exact ih _ _ _
    · refine gl (i' := 83) (fun _ _ => aw_iinc K (dOf ck_mX2_leastCost rfl rfl) (Nat.le_of_ble_eq_true rfl) rfl) ?_
      refine g_lv (lv' := [(5, .inl _), (0, .inr (.inr (.inl (some _)))), (1, .inr (.inr (.inl (some _)))), (2, .inr (.inr (.inl (some _)))), (3, .inl _), (4, .inl _), (6, .inl _), (7, .inl _)]) rfl ?_
      refine g_goto K (dOf ck_mX2_leastCost rfl rfl).1 (t := 16) (aJ_of (by decide +kernel)) ?_
      refine g_sub [1, 2, 3, 4, 5, 0] rfl ?_
      exact hk16 _ _
def Measure_leastCost_16 (x2 : Nat) (x3 : Int) (x4 : Int) : Nat → Int → aM → Option (Int × aM)
  | 0, _, _ => none
  | n + 1, x5, mm => if x5 < x3 then (st1 (aup mm 78 0 (w32 ((w32 (x5 + 1)) * 2))) fun mm4 => (Measure_leastCost_35 (Measure_leastCost_16 x2 x3 x4 n) x2 x3 x4 x5 FU (mm 78 0) 0 mm4)) else (if 0 ≤ x4 ∧ x4 < 7 then (some (mm 78 x4.toNat, mm)) else none)
set_option maxHeartbeats 4000000 in
theorem lk_Measure_leastCost_16 {p : Program} {l : Launch} {e : Env} {s : State} {m : MethodId} {args : Array Value} {below : List Frame} {meth : Method} {c : Code} {D : va_G} {cA : FieldType → ClassId} {ad adV : Nat → Nat} {z0 : Nat} {al0 : List Nat} (K : aK p s m args meth c mX2_leastCost D cA ad adV z0) {x2 : Nat} (x3 : Int) (x4 : Int) (hx2 : okB x2)  : ∀ (n : Nat) (x5 : Int) (mm : aM), aG p l e { frames := 1, cells := 0, slots := 0, locals := 22 } s m args below meth c D cA ad z0 mX2_leastCost al0 rIM (Measure_leastCost_16 x2 x3 x4 n x5 mm) 16 [(0, .inr (.inr (.inl (some 76)))), (1, .inr (.inr (.inl (some 25)))), (2, .inr (.inr (.inl (some x2)))), (3, .inl x3), (4, .inl x4), (5, .inl x5)] [] mm := by
  intro n
  induction n with
  | zero => intro x5 mm; exact g_none
  | succ n ih =>
    intro x5 mm
    rw [Measure_leastCost_16]
    refine gl (i' := 17) (fun _ _ => aw_iload K (dOf ck_mX2_leastCost rfl rfl) rfl) ?_
    refine gl (i' := 18) (fun _ _ => aw_iload_n K (dOf ck_mX2_leastCost rfl rfl) rfl) ?_
    refine g_icmp_ge K (dOf ck_mX2_leastCost rfl rfl) (t := 84) (aJ_of (by decide +kernel)) (fun h2 => ?_) (fun h2 => ?_)
    · refine gl (i' := 20) (fun _ _ => aw_aload_n K (dOf ck_mX2_leastCost rfl rfl) rfl) ?_
      refine gl (i' := 21) (fun _ _ => aw_getf K (dOf ck_mX2_leastCost rfl rfl) rfl rfl (Nat.le_of_ble_eq_true rfl) wd_378 (k := 1) rfl) ?_
      refine gl (i' := 22) (fun _ _ => aw_iconst K (n := 0) (i32 _ rfl) (dOf ck_mX2_leastCost rfl rfl)) ?_
      refine gl (i' := 23) (fun _ _ => aw_iald K (dOf ck_mX2_leastCost rfl rfl) rfl (by decide)) ?_
      refine gl (i' := 24) (fun _ _ => aw_istore K (dOf ck_mX2_leastCost rfl rfl) (Nat.le_of_ble_eq_true rfl)) ?_
      refine g_lv (lv' := [(6, .inl _), (0, .inr (.inr (.inl (some _)))), (1, .inr (.inr (.inl (some _)))), (2, .inr (.inr (.inl (some _)))), (3, .inl _), (4, .inl _), (5, .inl _)]) rfl ?_
      refine gl (i' := 25) (fun _ _ => aw_aload_n K (dOf ck_mX2_leastCost rfl rfl) rfl) ?_
      refine gl (i' := 26) (fun _ _ => aw_getf K (dOf ck_mX2_leastCost rfl rfl) rfl rfl (Nat.le_of_ble_eq_true rfl) wd_378 (k := 1) rfl) ?_
      refine gl (i' := 27) (fun _ _ => aw_iconst K (n := 0) (i32 _ rfl) (dOf ck_mX2_leastCost rfl rfl)) ?_
      refine gl (i' := 28) (fun _ _ => aw_iload K (dOf ck_mX2_leastCost rfl rfl) rfl) ?_
      refine gl (i' := 29) (fun _ _ => aw_iconst K (n := 1) (i32 _ rfl) (dOf ck_mX2_leastCost rfl rfl)) ?_
      refine gl (i' := 30) (fun _ _ => aw_iadd K (dOf ck_mX2_leastCost rfl rfl)) ?_
      refine gl (i' := 31) (fun _ _ => aw_iconst K (n := 2) (i32 _ rfl) (dOf ck_mX2_leastCost rfl rfl)) ?_
      refine gl (i' := 32) (fun _ _ => aw_imul K (dOf ck_mX2_leastCost rfl rfl)) ?_
      refine g_st1 ?_
      refine gl (i' := 33) (fun _ _ => aw_iast K (dOf ck_mX2_leastCost rfl rfl) rfl (by decide)) ?_
      refine gl (i' := 34) (fun _ _ => aw_iconst K (n := 0) (i32 _ rfl) (dOf ck_mX2_leastCost rfl rfl)) ?_
      refine gl (i' := 35) (fun _ _ => aw_istore K (dOf ck_mX2_leastCost rfl rfl) (Nat.le_of_ble_eq_true rfl)) ?_
      refine g_lv (lv' := [(7, .inl _), (6, .inl _), (0, .inr (.inr (.inl (some _)))), (1, .inr (.inr (.inl (some _)))), (2, .inr (.inr (.inl (some _)))), (3, .inl _), (4, .inl _), (5, .inl _)]) rfl ?_
      refine g_sub [2, 3, 4, 5, 6, 7, 1, 0] rfl ?_
      exact lk_Measure_leastCost_35 K _ _ _ hx2 _ ih FU _ _ _
    · refine gl (i' := 85) (fun _ _ => aw_aload_n K (dOf ck_mX2_leastCost rfl rfl) rfl) ?_
      refine gl (i' := 86) (fun _ _ => aw_getf K (dOf ck_mX2_leastCost rfl rfl) rfl rfl (Nat.le_of_ble_eq_true rfl) wd_378 (k := 1) rfl) ?_
      refine gl (i' := 87) (fun _ _ => aw_iload K (dOf ck_mX2_leastCost rfl rfl) rfl) ?_
      refine g_gd (fun hb3 => ?_)
      refine gl (i' := 88) (fun _ _ => aw_iald K (dOf ck_mX2_leastCost rfl rfl) rfl hb3) ?_
      exact g_iret K (by decide +kernel) rfl (Or.inl rfl) rfl
def Measure_leastCost_2 (x2 : Nat) (x3 : Int) (x4 : Int) : Nat → Int → aM → Option (Int × aM)
  | 0, _, _ => none
  | n + 1, x5, mm => if x4 < x5 then (Measure_leastCost_16 x2 x3 x4 FU 0 mm) else (if 0 ≤ x5 ∧ x5 < 7 then (st1 (aup mm 78 x5.toNat (w32 (x5 * 2))) fun mm15 => (Measure_leastCost_2 x2 x3 x4 n (w32 (x5 + 1)) mm15)) else none)
set_option maxHeartbeats 4000000 in
theorem lk_Measure_leastCost_2 {p : Program} {l : Launch} {e : Env} {s : State} {m : MethodId} {args : Array Value} {below : List Frame} {meth : Method} {c : Code} {D : va_G} {cA : FieldType → ClassId} {ad adV : Nat → Nat} {z0 : Nat} {al0 : List Nat} (K : aK p s m args meth c mX2_leastCost D cA ad adV z0) {x2 : Nat} (x3 : Int) (x4 : Int) (hx2 : okB x2)  : ∀ (n : Nat) (x5 : Int) (mm : aM), aG p l e { frames := 1, cells := 0, slots := 0, locals := 22 } s m args below meth c D cA ad z0 mX2_leastCost al0 rIM (Measure_leastCost_2 x2 x3 x4 n x5 mm) 2 [(0, .inr (.inr (.inl (some 76)))), (1, .inr (.inr (.inl (some 25)))), (2, .inr (.inr (.inl (some x2)))), (3, .inl x3), (4, .inl x4), (5, .inl x5)] [] mm := by
  intro n
  induction n with
  | zero => intro x5 mm; exact g_none
  | succ n ih =>
    intro x5 mm
    rw [Measure_leastCost_2]
    refine gl (i' := 3) (fun _ _ => aw_iload K (dOf ck_mX2_leastCost rfl rfl) rfl) ?_
    refine gl (i' := 4) (fun _ _ => aw_iload K (dOf ck_mX2_leastCost rfl rfl) rfl) ?_
    refine g_icmp_gt K (dOf ck_mX2_leastCost rfl rfl) (t := 14) (aJ_of (by decide +kernel)) (fun h1 => ?_) (fun h1 => ?_)
    · refine gl (i' := 15) (fun _ _ => aw_iconst K (n := 0) (i32 _ rfl) (dOf ck_mX2_leastCost rfl rfl)) ?_
      refine gl (i' := 16) (fun _ _ => aw_istore K (dOf ck_mX2_leastCost rfl rfl) (Nat.le_of_ble_eq_true rfl)) ?_
      refine g_lv (lv' := [(5, .inl _), (0, .inr (.inr (.inl (some _)))), (1, .inr (.inr (.inl (some _)))), (2, .inr (.inr (.inl (some _)))), (3, .inl _), (4, .inl _)]) rfl ?_
      refine g_sub [1, 2, 3, 4, 5, 0] rfl ?_
      exact lk_Measure_leastCost_16 K _ _ hx2 FU _ _
    · refine gl (i' := 6) (fun _ _ => aw_aload_n K (dOf ck_mX2_leastCost rfl rfl) rfl) ?_
      refine gl (i' := 7) (fun _ _ => aw_getf K (dOf ck_mX2_leastCost rfl rfl) rfl rfl (Nat.le_of_ble_eq_true rfl) wd_378 (k := 1) rfl) ?_
      refine gl (i' := 8) (fun _ _ => aw_iload K (dOf ck_mX2_leastCost rfl rfl) rfl) ?_
      refine gl (i' := 9) (fun _ _ => aw_iload K (dOf ck_mX2_leastCost rfl rfl) rfl) ?_
      refine gl (i' := 10) (fun _ _ => aw_iconst K (n := 2) (i32 _ rfl) (dOf ck_mX2_leastCost rfl rfl)) ?_
      refine gl (i' := 11) (fun _ _ => aw_imul K (dOf ck_mX2_leastCost rfl rfl)) ?_
      refine g_gd (fun hb14 => ?_)
      refine g_st1 ?_
      refine gl (i' := 12) (fun _ _ => aw_iast K (dOf ck_mX2_leastCost rfl rfl) rfl hb14) ?_
      refine gl (i' := 13) (fun _ _ => aw_iinc K (dOf ck_mX2_leastCost rfl rfl) (Nat.le_of_ble_eq_true rfl) rfl) ?_
      refine g_lv (lv' := [(5, .inl _), (0, .inr (.inr (.inl (some _)))), (1, .inr (.inr (.inl (some _)))), (2, .inr (.inr (.inl (some _)))), (3, .inl _), (4, .inl _)]) rfl ?_
      refine g_goto K (dOf ck_mX2_leastCost rfl rfl).1 (t := 2) (aJ_of (by decide +kernel)) ?_
      refine g_sub [1, 2, 3, 4, 5, 0] rfl ?_
      exact ih _ _
def Measure_leastCost (x2 : Nat) (x3 : Int) (x4 : Int) (mm : aM) : Option (Int × aM) := Measure_leastCost_2 x2 x3 x4 FU 0 mm
set_option maxHeartbeats 4000000 in
theorem met_Measure_leastCost {l : Launch} {D : va_G} {cA : FieldType → ClassId} {ad adV : Nat → Nat} {z0 : Nat} {x2 : Nat} {x3 : Int} {x4 : Int} {mm : aM} (hx2 : okB x2) {r : Int × aM} (h : Measure_leastCost x2 x3 x4 mm = some r) : aMet l D cA ad adV z0 mX2_leastCost 1 22 0 0 [.inr (.inr (.inl (some 76))), .inr (.inr (.inl (some 25))), .inr (.inr (.inl (some x2))), .inl x3, .inl x4] SH mm (rIM r).1 SH (rIM r).2 := by
  refine aMet_ofG (by decide +kernel) rfl (Nat.le_of_ble_eq_true rfl) h (fun p e s m args below meth c al0 K => ?_)
  unfold Measure_leastCost
  refine gl (i' := 1) (fun _ _ => aw_iconst K (n := 0) (i32 _ rfl) (dOf ck_mX2_leastCost rfl rfl)) ?_
  refine gl (i' := 2) (fun _ _ => aw_istore K (dOf ck_mX2_leastCost rfl rfl) (Nat.le_of_ble_eq_true rfl)) ?_
  refine g_lv (lv' := [(5, .inl _), (0, .inr (.inr (.inl (some _)))), (1, .inr (.inr (.inl (some _)))), (2, .inr (.inr (.inl (some _)))), (3, .inl _), (4, .inl _)]) rfl ?_
  refine g_sub [1, 2, 3, 4, 5, 0] rfl ?_
  exact lk_Measure_leastCost_2 K _ _ hx2 FU _ _
def Measure_toWord_2 (x2 : Nat) (x3 : Int) (x4 : Int) : Nat → Int → aM → Option (Int × aM)
  | 0, _, _ => none
  | n + 1, x5, mm => if 0 ≤ x4 ∧ x4 < 12 then (if x5 < (mm 41 x4.toNat) then (if 0 ≤ x5 ∧ x5 < 6 then (st1 (aup mm 77 x5.toNat (ishl 1 (mm (25 + 4 + x4.toNat) x5.toNat))) fun mm5 => (Measure_toWord_2 x2 x3 x4 n (w32 (x5 + 1)) mm5)) else none) else ((Measure_leastCost x2 x3 (mm 41 x4.toNat) mm).bind fun r3 => (some (r3.1, r3.2)))) else none
set_option maxHeartbeats 4000000 in
theorem lk_Measure_toWord_2 {p : Program} {l : Launch} {e : Env} {s : State} {m : MethodId} {args : Array Value} {below : List Frame} {meth : Method} {c : Code} {D : va_G} {cA : FieldType → ClassId} {ad adV : Nat → Nat} {z0 : Nat} {al0 : List Nat} (K : aK p s m args meth c mX2_toWord D cA ad adV z0) {x2 : Nat} (x3 : Int) (x4 : Int) (hx2 : okB x2)  : ∀ (n : Nat) (x5 : Int) (mm : aM), aG p l e { frames := 2, cells := 0, slots := 0, locals := 51 } s m args below meth c D cA ad z0 mX2_toWord al0 rIM (Measure_toWord_2 x2 x3 x4 n x5 mm) 2 [(0, .inr (.inr (.inl (some 76)))), (1, .inr (.inr (.inl (some 25)))), (2, .inr (.inr (.inl (some x2)))), (3, .inl x3), (4, .inl x4), (5, .inl x5)] [] mm := by
  intro n
  induction n with
  | zero => intro x5 mm; exact g_none
  | succ n ih =>
    intro x5 mm
    rw [Measure_toWord_2]
    refine gl (i' := 3) (fun _ _ => aw_iload K (dOf ck_mX2_toWord rfl rfl) rfl) ?_
    refine gl (i' := 4) (fun _ _ => aw_aload_n K (dOf ck_mX2_toWord rfl rfl) rfl) ?_
    refine gl (i' := 5) (fun _ _ => aw_getf K (dOf ck_mX2_toWord rfl rfl) rfl rfl (Nat.le_of_ble_eq_true rfl) wd_236 (k := 9) rfl) ?_
    refine gl (i' := 6) (fun _ _ => aw_iload K (dOf ck_mX2_toWord rfl rfl) rfl) ?_
    refine g_gd (fun hb1 => ?_)
    refine gl (i' := 7) (fun _ _ => aw_iald K (dOf ck_mX2_toWord rfl rfl) rfl hb1) ?_
    refine g_icmp_ge K (dOf ck_mX2_toWord rfl rfl) (t := 22) (aJ_of (by decide +kernel)) (fun h2 => ?_) (fun h2 => ?_)
    · refine gl (i' := 9) (fun _ _ => aw_aload_n K (dOf ck_mX2_toWord rfl rfl) rfl) ?_
      refine gl (i' := 10) (fun _ _ => aw_getf K (dOf ck_mX2_toWord rfl rfl) rfl rfl (Nat.le_of_ble_eq_true rfl) wd_377 (k := 0) rfl) ?_
      refine gl (i' := 11) (fun _ _ => aw_iload K (dOf ck_mX2_toWord rfl rfl) rfl) ?_
      refine gl (i' := 12) (fun _ _ => aw_iconst K (n := 1) (i32 _ rfl) (dOf ck_mX2_toWord rfl rfl)) ?_
      refine gl (i' := 13) (fun _ _ => aw_aload_n K (dOf ck_mX2_toWord rfl rfl) rfl) ?_
      refine gl (i' := 14) (fun _ _ => aw_getf K (dOf ck_mX2_toWord rfl rfl) rfl rfl (Nat.le_of_ble_eq_true rfl) wd_227 (k := 8) rfl) ?_
      refine gl (i' := 15) (fun _ _ => aw_iload K (dOf ck_mX2_toWord rfl rfl) rfl) ?_
      refine gl (i' := 16) (fun _ _ => aw_aald K (dOf ck_mX2_toWord rfl rfl) (shTa (t := 25) (by unfold okT; omega)) hb1 (rsT_at hb1)) ?_
      refine gl (i' := 17) (fun _ _ => aw_iload K (dOf ck_mX2_toWord rfl rfl) rfl) ?_
      refine g_gd (fun hb4 => ?_)
      refine gl (i' := 18) (fun _ _ => aw_bald K (dOf ck_mX2_toWord rfl rfl) (shTr (t := 25) (by unfold okT; omega) hb1) hb4) ?_
      refine gl (i' := 19) (fun _ _ => aw_ishl K (dOf ck_mX2_toWord rfl rfl)) ?_
      refine g_st1 ?_
      refine gl (i' := 20) (fun _ _ => aw_iast K (dOf ck_mX2_toWord rfl rfl) rfl hb4) ?_
      refine gl (i' := 21) (fun _ _ => aw_iinc K (dOf ck_mX2_toWord rfl rfl) (Nat.le_of_ble_eq_true rfl) rfl) ?_
      refine g_lv (lv' := [(5, .inl _), (0, .inr (.inr (.inl (some _)))), (1, .inr (.inr (.inl (some _)))), (2, .inr (.inr (.inl (some _)))), (3, .inl _), (4, .inl _)]) rfl ?_
      refine g_goto K (dOf ck_mX2_toWord rfl rfl).1 (t := 2) (aJ_of (by decide +kernel)) ?_
      refine g_sub [1, 2, 3, 4, 5, 0] rfl ?_
      exact ih _ _
    · refine gl (i' := 23) (fun _ _ => aw_aload_n K (dOf ck_mX2_toWord rfl rfl) rfl) ?_
      refine gl (i' := 24) (fun _ _ => aw_aload_n K (dOf ck_mX2_toWord rfl rfl) rfl) ?_
      refine gl (i' := 25) (fun _ _ => aw_aload_n K (dOf ck_mX2_toWord rfl rfl) rfl) ?_
      refine gl (i' := 26) (fun _ _ => aw_iload_n K (dOf ck_mX2_toWord rfl rfl) rfl) ?_
      refine gl (i' := 27) (fun _ _ => aw_aload_n K (dOf ck_mX2_toWord rfl rfl) rfl) ?_
      refine gl (i' := 28) (fun _ _ => aw_getf K (dOf ck_mX2_toWord rfl rfl) rfl rfl (Nat.le_of_ble_eq_true rfl) wd_236 (k := 9) rfl) ?_
      refine gl (i' := 29) (fun _ _ => aw_iload K (dOf ck_mX2_toWord rfl rfl) rfl) ?_
      refine gl (i' := 30) (fun _ _ => aw_iald K (dOf ck_mX2_toWord rfl rfl) rfl hb1) ?_
      refine g_callVIM K [.inr (.inr (.inl (some _))), .inr (.inr (.inl (some _))), .inl _, .inl _] rfl (dOf ck_mX2_toWord rfl rfl) al_OneBreath_Measure_27 rfl rfl ⟨wd_673, wd_18⟩ rfl (Nat.le_of_ble_eq_true rfl) ⟨Nat.le_of_ble_eq_true rfl, Nat.le_of_ble_eq_true rfl⟩ (fun b hb => met_Measure_leastCost ⟨_, (okB_at hx2)⟩ hb) (fun r3 hr3 => ?_)
      exact g_iret K (by decide +kernel) rfl (Or.inl rfl) rfl
def Measure_toWord (x2 : Nat) (x3 : Int) (x4 : Int) (mm : aM) : Option (Int × aM) := Measure_toWord_2 x2 x3 x4 FU 0 mm
set_option maxHeartbeats 4000000 in
theorem met_Measure_toWord {l : Launch} {D : va_G} {cA : FieldType → ClassId} {ad adV : Nat → Nat} {z0 : Nat} {x2 : Nat} {x3 : Int} {x4 : Int} {mm : aM} (hx2 : okB x2) {r : Int × aM} (h : Measure_toWord x2 x3 x4 mm = some r) : aMet l D cA ad adV z0 mX2_toWord 2 51 0 0 [.inr (.inr (.inl (some 76))), .inr (.inr (.inl (some 25))), .inr (.inr (.inl (some x2))), .inl x3, .inl x4] SH mm (rIM r).1 SH (rIM r).2 := by
  refine aMet_ofG (by decide +kernel) rfl (Nat.le_of_ble_eq_true rfl) h (fun p e s m args below meth c al0 K => ?_)
  unfold Measure_toWord
  refine gl (i' := 1) (fun _ _ => aw_iconst K (n := 0) (i32 _ rfl) (dOf ck_mX2_toWord rfl rfl)) ?_
  refine gl (i' := 2) (fun _ _ => aw_istore K (dOf ck_mX2_toWord rfl rfl) (Nat.le_of_ble_eq_true rfl)) ?_
  refine g_lv (lv' := [(5, .inl _), (0, .inr (.inr (.inl (some _)))), (1, .inr (.inr (.inl (some _)))), (2, .inr (.inr (.inl (some _)))), (3, .inl _), (4, .inl _)]) rfl ?_
  refine g_sub [1, 2, 3, 4, 5, 0] rfl ?_
  exact lk_Measure_toWord_2 K _ _ hx2 FU _ _
def B_unlike (x1 : Int) (x2 : Int) (mm : aM) : Option (Int × aM) := (Tongue_hasWord 25 x1 mm).bind fun r1 => (if r1 = 0 then (some ((-2), mm)) else ((Tongue_hasWord 25 x2 mm).bind fun r3 => (if r3 = 0 then (some ((-2), mm)) else (if 0 ≤ x1 ∧ x1 < 12 then ((Measure_toWord (25 + 4 + x1.toNat) (mm 41 x1.toNat) x2 mm).bind fun r6 => (some (r6.1, r6.2))) else none))))
set_option maxHeartbeats 4000000 in
theorem met_B_unlike {l : Launch} {D : va_G} {cA : FieldType → ClassId} {ad adV : Nat → Nat} {z0 : Nat} {x1 : Int} {x2 : Int} {mm : aM}  {r : Int × aM} (h : B_unlike x1 x2 mm = some r) : aMet l D cA ad adV z0 mX11_unlike 3 76 0 0 [.inr (.inr (.inl (some 0))), .inl x1, .inl x2] SH mm (rIM r).1 SH (rIM r).2 := by
  refine aMet_ofG (by decide +kernel) rfl (Nat.le_of_ble_eq_true rfl) h (fun p e s m args below meth c al0 K => ?_)
  unfold B_unlike
  refine gl (i' := 1) (fun _ _ => aw_aload_n K (dOf ck_mX11_unlike rfl rfl) rfl) ?_
  refine gl (i' := 2) (fun _ _ => aw_getf K (dOf ck_mX11_unlike rfl rfl) rfl rfl (Nat.le_of_ble_eq_true rfl) wd_461 (k := 1) rfl) ?_
  refine gl (i' := 3) (fun _ _ => aw_iload_n K (dOf ck_mX11_unlike rfl rfl) rfl) ?_
  refine gl (i' := 4) (fun _ _ => aw_i2l K (dOf ck_mX11_unlike rfl rfl)) ?_
  refine g_callVI K [.inr (.inl _)] rfl (dOf ck_mX11_unlike rfl rfl) al_OneBreath_153 rfl rfl ⟨wd_633, wd_634⟩ rfl (Nat.le_of_ble_eq_true rfl) ⟨Nat.le_of_ble_eq_true rfl, Nat.le_of_ble_eq_true rfl⟩ (fun b hb => met_Tongue_hasWord (by unfold okT; omega) hb) (fun r1 hr1 => ?_)
  refine g_if_eq K (dOf ck_mX11_unlike rfl rfl) (t := 12) (aJ_of (by decide +kernel)) (fun h2 => ?_) (fun h2 => ?_)
  · refine gl (i' := 13) (fun _ _ => aw_bip K (dOf ck_mX11_unlike rfl rfl) (v := -2) rfl) ?_
    exact g_iret K (dOf ck_mX11_unlike rfl rfl).1 rfl (Or.inl rfl) rfl
  · refine gl (i' := 7) (fun _ _ => aw_aload_n K (dOf ck_mX11_unlike rfl rfl) rfl) ?_
    refine gl (i' := 8) (fun _ _ => aw_getf K (dOf ck_mX11_unlike rfl rfl) rfl rfl (Nat.le_of_ble_eq_true rfl) wd_461 (k := 1) rfl) ?_
    refine gl (i' := 9) (fun _ _ => aw_iload_n K (dOf ck_mX11_unlike rfl rfl) rfl) ?_
    refine gl (i' := 10) (fun _ _ => aw_i2l K (dOf ck_mX11_unlike rfl rfl)) ?_
    refine g_callVI K [.inr (.inl _)] rfl (dOf ck_mX11_unlike rfl rfl) al_OneBreath_153 rfl rfl ⟨wd_633, wd_634⟩ rfl (Nat.le_of_ble_eq_true rfl) ⟨Nat.le_of_ble_eq_true rfl, Nat.le_of_ble_eq_true rfl⟩ (fun b hb => met_Tongue_hasWord (by unfold okT; omega) hb) (fun r3 hr3 => ?_)
    refine g_if_ne K (dOf ck_mX11_unlike rfl rfl) (t := 14) (aJ_of (by decide +kernel)) (fun h4 => ?_) (fun h4 => ?_)
    · refine gl (i' := 13) (fun _ _ => aw_bip K (dOf ck_mX11_unlike rfl rfl) (v := -2) rfl) ?_
      exact g_iret K (dOf ck_mX11_unlike rfl rfl).1 rfl (Or.inl rfl) rfl
    · refine gl (i' := 15) (fun _ _ => aw_aload_n K (dOf ck_mX11_unlike rfl rfl) rfl) ?_
      refine gl (i' := 16) (fun _ _ => aw_getf K (dOf ck_mX11_unlike rfl rfl) rfl rfl (Nat.le_of_ble_eq_true rfl) wd_469 (k := 9) rfl) ?_
      refine gl (i' := 17) (fun _ _ => aw_aload_n K (dOf ck_mX11_unlike rfl rfl) rfl) ?_
      refine gl (i' := 18) (fun _ _ => aw_getf K (dOf ck_mX11_unlike rfl rfl) rfl rfl (Nat.le_of_ble_eq_true rfl) wd_461 (k := 1) rfl) ?_
      refine gl (i' := 19) (fun _ _ => aw_aload_n K (dOf ck_mX11_unlike rfl rfl) rfl) ?_
      refine gl (i' := 20) (fun _ _ => aw_getf K (dOf ck_mX11_unlike rfl rfl) rfl rfl (Nat.le_of_ble_eq_true rfl) wd_461 (k := 1) rfl) ?_
      refine gl (i' := 21) (fun _ _ => aw_getf K (dOf ck_mX11_unlike rfl rfl) rfl rfl (Nat.le_of_ble_eq_true rfl) wd_232 (k := 8) rfl) ?_
      refine gl (i' := 22) (fun _ _ => aw_iload_n K (dOf ck_mX11_unlike rfl rfl) rfl) ?_
      refine g_gd (fun hb5 => ?_)
      refine gl (i' := 23) (fun _ _ => aw_aald K (dOf ck_mX11_unlike rfl rfl) (shTa (t := 25) (by unfold okT; omega)) hb5 (rsT_at hb5)) ?_
      refine gl (i' := 24) (fun _ _ => aw_aload_n K (dOf ck_mX11_unlike rfl rfl) rfl) ?_
      refine gl (i' := 25) (fun _ _ => aw_getf K (dOf ck_mX11_unlike rfl rfl) rfl rfl (Nat.le_of_ble_eq_true rfl) wd_461 (k := 1) rfl) ?_
      refine gl (i' := 26) (fun _ _ => aw_getf K (dOf ck_mX11_unlike rfl rfl) rfl rfl (Nat.le_of_ble_eq_true rfl) wd_241 (k := 9) rfl) ?_
      refine gl (i' := 27) (fun _ _ => aw_iload_n K (dOf ck_mX11_unlike rfl rfl) rfl) ?_
      refine gl (i' := 28) (fun _ _ => aw_iald K (dOf ck_mX11_unlike rfl rfl) rfl hb5) ?_
      refine gl (i' := 29) (fun _ _ => aw_iload_n K (dOf ck_mX11_unlike rfl rfl) rfl) ?_
      refine g_callVIM K [.inr (.inr (.inl (some _))), .inr (.inr (.inl (some _))), .inl _, .inl _] rfl (dOf ck_mX11_unlike rfl rfl) al_OneBreath_199 rfl rfl ⟨wd_669, wd_670⟩ rfl (Nat.le_of_ble_eq_true rfl) ⟨Nat.le_of_ble_eq_true rfl, Nat.le_of_ble_eq_true rfl⟩ (fun b hb => met_Measure_toWord ⟨_, (shTr (t := 25) (by unfold okT; omega) hb5)⟩ hb) (fun r6 hr6 => ?_)
      exact g_iret K (by decide +kernel) rfl (Or.inl rfl) rfl
def B_near_49 (k14 : Int → Int → Int → aM → Option (Int × aM)) (x1 : Int) (x2 : Int) (x3 : Int) (x4 : Int) (mm : aM) : Option (Int × aM) := k14 x2 x3 (w32 (x4 + 1)) mm
set_option maxHeartbeats 4000000 in
theorem lk_B_near_49 {p : Program} {l : Launch} {e : Env} {s : State} {m : MethodId} {args : Array Value} {below : List Frame} {meth : Method} {c : Code} {D : va_G} {cA : FieldType → ClassId} {ad adV : Nat → Nat} {z0 : Nat} {al0 : List Nat} (K : aK p s m args meth c mX11_near D cA ad adV z0) (x1 : Int) (x2 : Int) (x3 : Int) (x4 : Int) (k14 : Int → Int → Int → aM → Option (Int × aM)) (hk14 : ∀ (x2 : Int) (x3 : Int) (x4 : Int) (mm : aM), aG p l e { frames := 3, cells := 0, slots := 0, locals := 76 } s m args below meth c D cA ad z0 mX11_near al0 rIM (k14 x2 x3 x4 mm) 14 [(0, .inr (.inr (.inl (some 0)))), (1, .inl x1), (2, .inl x2), (3, .inl x3), (4, .inl x4)] [] mm)  (mm : aM) : aG p l e { frames := 3, cells := 0, slots := 0, locals := 76 } s m args below meth c D cA ad z0 mX11_near al0 rIM (B_near_49 k14 x1 x2 x3 x4 mm) 49 [(0, .inr (.inr (.inl (some 0)))), (1, .inl x1), (2, .inl x2), (3, .inl x3), (4, .inl x4)] [] mm := by
  unfold B_near_49
  refine gl (i' := 50) (fun _ _ => aw_iinc K (dOf ck_mX11_near rfl rfl) (Nat.le_of_ble_eq_true rfl) rfl) ?_
  refine g_lv (lv' := [(4, .inl _), (0, .inr (.inr (.inl (some _)))), (1, .inl _), (2, .inl _), (3, .inl _)]) rfl ?_
  refine g_goto K (dOf ck_mX11_near rfl rfl).1 (t := 14) (aJ_of (by decide +kernel)) ?_
  refine g_sub [1, 2, 3, 4, 0] rfl ?_
  exact hk14 _ _ _ _
def B_near_45 (k14 : Int → Int → Int → aM → Option (Int × aM)) (x1 : Int) (x4 : Int) (x5 : Int) (mm : aM) : Option (Int × aM) := B_near_49 k14 x1 x4 x5 x4 mm
set_option maxHeartbeats 4000000 in
theorem lk_B_near_45 {p : Program} {l : Launch} {e : Env} {s : State} {m : MethodId} {args : Array Value} {below : List Frame} {meth : Method} {c : Code} {D : va_G} {cA : FieldType → ClassId} {ad adV : Nat → Nat} {z0 : Nat} {al0 : List Nat} (K : aK p s m args meth c mX11_near D cA ad adV z0) (x1 : Int) (x4 : Int) (x5 : Int) (k14 : Int → Int → Int → aM → Option (Int × aM)) (hk14 : ∀ (x2 : Int) (x3 : Int) (x4 : Int) (mm : aM), aG p l e { frames := 3, cells := 0, slots := 0, locals := 76 } s m args below meth c D cA ad z0 mX11_near al0 rIM (k14 x2 x3 x4 mm) 14 [(0, .inr (.inr (.inl (some 0)))), (1, .inl x1), (2, .inl x2), (3, .inl x3), (4, .inl x4)] [] mm)  (mm : aM) : aG p l e { frames := 3, cells := 0, slots := 0, locals := 76 } s m args below meth c D cA ad z0 mX11_near al0 rIM (B_near_45 k14 x1 x4 x5 mm) 45 [(0, .inr (.inr (.inl (some 0)))), (1, .inl x1), (4, .inl x4), (5, .inl x5)] [] mm := by
  unfold B_near_45
  refine gl (i' := 46) (fun _ _ => aw_iload K (dOf ck_mX11_near rfl rfl) rfl) ?_
  refine gl (i' := 47) (fun _ _ => aw_istore_n K (dOf ck_mX11_near rfl rfl) (Nat.le_of_ble_eq_true rfl)) ?_
  refine g_lv (lv' := [(2, .inl _), (0, .inr (.inr (.inl (some _)))), (1, .inl _), (4, .inl _), (5, .inl _)]) rfl ?_
  refine gl (i' := 48) (fun _ _ => aw_iload K (dOf ck_mX11_near rfl rfl) rfl) ?_
  refine gl (i' := 49) (fun _ _ => aw_istore_n K (dOf ck_mX11_near rfl rfl) (Nat.le_of_ble_eq_true rfl)) ?_
  refine g_lv (lv' := [(3, .inl _), (2, .inl _), (0, .inr (.inr (.inl (some _)))), (1, .inl _), (4, .inl _), (5, .inl _)]) rfl ?_
  refine g_sub [2, 3, 1, 0, 4] rfl ?_
  exact lk_B_near_49 K _ _ _ _ _ hk14 _
def B_near_14 (x1 : Int) : Nat → Int → Int → Int → aM → Option (Int × aM)
  | 0, _, _, _, _ => none
  | n + 1, x2, x3, x4, mm => if x4 < (mm 25 2) then (if 0 ≤ x1 ∧ x1 < 12 then ((Measure_toWord (25 + 4 + x1.toNat) (mm 41 x1.toNat) x4 mm).bind fun r5 => (if x4 = x1 then (B_near_49 (B_near_14 x1 n) x1 x2 x3 x4 r5.2) else (if x2 = (-1) then (B_near_45 (B_near_14 x1 n) x1 x4 r5.1 r5.2) else (if r5.1 < x3 then (B_near_45 (B_near_14 x1 n) x1 x4 r5.1 r5.2) else (B_near_49 (B_near_14 x1 n) x1 x2 x3 x4 r5.2))))) else none) else (some (x2, mm))
set_option maxHeartbeats 4000000 in
theorem lk_B_near_14 {p : Program} {l : Launch} {e : Env} {s : State} {m : MethodId} {args : Array Value} {below : List Frame} {meth : Method} {c : Code} {D : va_G} {cA : FieldType → ClassId} {ad adV : Nat → Nat} {z0 : Nat} {al0 : List Nat} (K : aK p s m args meth c mX11_near D cA ad adV z0) (x1 : Int)  : ∀ (n : Nat) (x2 : Int) (x3 : Int) (x4 : Int) (mm : aM), aG p l e { frames := 3, cells := 0, slots := 0, locals := 76 } s m args below meth c D cA ad z0 mX11_near al0 rIM (B_near_14 x1 n x2 x3 x4 mm) 14 [(0, .inr (.inr (.inl (some 0)))), (1, .inl x1), (2, .inl x2), (3, .inl x3), (4, .inl x4)] [] mm := by
  intro n
  induction n with
  | zero => intro x2 x3 x4 mm; exact g_none
  | succ n ih =>
    intro x2 x3 x4 mm
    rw [B_near_14]
    refine gl (i' := 15) (fun _ _ => aw_iload K (dOf ck_mX11_near rfl rfl) rfl) ?_
    refine gl (i' := 16) (fun _ _ => aw_aload_n K (dOf ck_mX11_near rfl rfl) rfl) ?_
    refine gl (i' := 17) (fun _ _ => aw_getf K (dOf ck_mX11_near rfl rfl) rfl rfl (Nat.le_of_ble_eq_true rfl) wd_461 (k := 1) rfl) ?_
    refine gl (i' := 18) (fun _ _ => aw_getf K (dOf ck_mX11_near rfl rfl) rfl rfl (Nat.le_of_ble_eq_true rfl) wd_202 (k := 2) rfl) ?_
    refine g_icmp_ge K (dOf ck_mX11_near rfl rfl) (t := 51) (aJ_of (by decide +kernel)) (fun h3 => ?_) (fun h3 => ?_)
    · refine gl (i' := 20) (fun _ _ => aw_aload_n K (dOf ck_mX11_near rfl rfl) rfl) ?_
      refine gl (i' := 21) (fun _ _ => aw_getf K (dOf ck_mX11_near rfl rfl) rfl rfl (Nat.le_of_ble_eq_true rfl) wd_469 (k := 9) rfl) ?_
      refine gl (i' := 22) (fun _ _ => aw_aload_n K (dOf ck_mX11_near rfl rfl) rfl) ?_
      refine gl (i' := 23) (fun _ _ => aw_getf K (dOf ck_mX11_near rfl rfl) rfl rfl (Nat.le_of_ble_eq_true rfl) wd_461 (k := 1) rfl) ?_
      refine gl (i' := 24) (fun _ _ => aw_aload_n K (dOf ck_mX11_near rfl rfl) rfl) ?_
      refine gl (i' := 25) (fun _ _ => aw_getf K (dOf ck_mX11_near rfl rfl) rfl rfl (Nat.le_of_ble_eq_true rfl) wd_461 (k := 1) rfl) ?_
      refine gl (i' := 26) (fun _ _ => aw_getf K (dOf ck_mX11_near rfl rfl) rfl rfl (Nat.le_of_ble_eq_true rfl) wd_232 (k := 8) rfl) ?_
      refine gl (i' := 27) (fun _ _ => aw_iload_n K (dOf ck_mX11_near rfl rfl) rfl) ?_
      refine g_gd (fun hb4 => ?_)
      refine gl (i' := 28) (fun _ _ => aw_aald K (dOf ck_mX11_near rfl rfl) (shTa (t := 25) (by unfold okT; omega)) hb4 (rsT_at hb4)) ?_
      refine gl (i' := 29) (fun _ _ => aw_aload_n K (dOf ck_mX11_near rfl rfl) rfl) ?_
      refine gl (i' := 30) (fun _ _ => aw_getf K (dOf ck_mX11_near rfl rfl) rfl rfl (Nat.le_of_ble_eq_true rfl) wd_461 (k := 1) rfl) ?_
      refine gl (i' := 31) (fun _ _ => aw_getf K (dOf ck_mX11_near rfl rfl) rfl rfl (Nat.le_of_ble_eq_true rfl) wd_241 (k := 9) rfl) ?_
      refine gl (i' := 32) (fun _ _ => aw_iload_n K (dOf ck_mX11_near rfl rfl) rfl) ?_
      refine gl (i' := 33) (fun _ _ => aw_iald K (dOf ck_mX11_near rfl rfl) rfl hb4) ?_
      refine gl (i' := 34) (fun _ _ => aw_iload K (dOf ck_mX11_near rfl rfl) rfl) ?_
      refine g_callVIM K [.inr (.inr (.inl (some _))), .inr (.inr (.inl (some _))), .inl _, .inl _] rfl (dOf ck_mX11_near rfl rfl) al_OneBreath_199 rfl rfl ⟨wd_669, wd_670⟩ rfl (Nat.le_of_ble_eq_true rfl) ⟨Nat.le_of_ble_eq_true rfl, Nat.le_of_ble_eq_true rfl⟩ (fun b hb => met_Measure_toWord ⟨_, (shTr (t := 25) (by unfold okT; omega) hb4)⟩ hb) (fun r5 hr5 => ?_)
      refine gl (i' := 36) (fun _ _ => aw_istore K (dOf ck_mX11_near rfl rfl) (Nat.le_of_ble_eq_true rfl)) ?_
      refine g_lv (lv' := [(5, .inl _), (0, .inr (.inr (.inl (some _)))), (1, .inl _), (2, .inl _), (3, .inl _), (4, .inl _)]) rfl ?_
      refine gl (i' := 37) (fun _ _ => aw_iload K (dOf ck_mX11_near rfl rfl) rfl) ?_
      refine gl (i' := 38) (fun _ _ => aw_iload_n K (dOf ck_mX11_near rfl rfl) rfl) ?_
      refine g_icmp_eq K (dOf ck_mX11_near rfl rfl) (t := 49) (aJ_of (by decide +kernel)) (fun h6 => ?_) (fun h6 => ?_)
      · refine g_sub [1, 2, 3, 4, 5] rfl ?_
        exact lk_B_near_49 K _ _ _ _ _ ih _
      · refine gl (i' := 40) (fun _ _ => aw_iload_n K (dOf ck_mX11_near rfl rfl) rfl) ?_
        refine gl (i' := 41) (fun _ _ => aw_iconst K (n := -1) (i32 _ rfl) (dOf ck_mX11_near rfl rfl)) ?_
        refine g_icmp_eq K (dOf ck_mX11_near rfl rfl) (t := 45) (aJ_of (by decide +kernel)) (fun h7 => ?_) (fun h7 => ?_)
        · refine g_sub [1, 2, 5, 0] rfl ?_
          exact lk_B_near_45 K _ _ _ _ ih _
        · refine gl (i' := 43) (fun _ _ => aw_iload K (dOf ck_mX11_near rfl rfl) rfl) ?_
          refine gl (i' := 44) (fun _ _ => aw_iload_n K (dOf ck_mX11_near rfl rfl) rfl) ?_
          refine g_icmp_ge K (dOf ck_mX11_near rfl rfl) (t := 49) (aJ_of (by decide +kernel)) (fun h8 => ?_) (fun h8 => ?_)
          · refine g_sub [1, 2, 5, 0] rfl ?_
            exact lk_B_near_45 K _ _ _ _ ih _
          · refine g_sub [1, 2, 3, 4, 5] rfl ?_
            exact lk_B_near_49 K _ _ _ _ _ ih _
    · refine gl (i' := 52) (fun _ _ => aw_iload_n K (dOf ck_mX11_near rfl rfl) rfl) ?_
      exact g_iret K (by decide +kernel) rfl (Or.inl rfl) rfl
def B_near (x1 : Int) (mm : aM) : Option (Int × aM) := (Tongue_hasWord 25 x1 mm).bind fun r1 => (if r1 = 0 then (some ((-2), mm)) else (B_near_14 x1 FU (-1) 0 0 mm))
set_option maxHeartbeats 4000000 in
theorem met_B_near {l : Launch} {D : va_G} {cA : FieldType → ClassId} {ad adV : Nat → Nat} {z0 : Nat} {x1 : Int} {mm : aM}  {r : Int × aM} (h : B_near x1 mm = some r) : aMet l D cA ad adV z0 mX11_near 3 76 0 0 [.inr (.inr (.inl (some 0))), .inl x1] SH mm (rIM r).1 SH (rIM r).2 := by
  refine aMet_ofG (by decide +kernel) rfl (Nat.le_of_ble_eq_true rfl) h (fun p e s m args below meth c al0 K => ?_)
  unfold B_near
  refine gl (i' := 1) (fun _ _ => aw_aload_n K (dOf ck_mX11_near rfl rfl) rfl) ?_
  refine gl (i' := 2) (fun _ _ => aw_getf K (dOf ck_mX11_near rfl rfl) rfl rfl (Nat.le_of_ble_eq_true rfl) wd_461 (k := 1) rfl) ?_
  refine gl (i' := 3) (fun _ _ => aw_iload_n K (dOf ck_mX11_near rfl rfl) rfl) ?_
  refine gl (i' := 4) (fun _ _ => aw_i2l K (dOf ck_mX11_near rfl rfl)) ?_
  refine g_callVI K [.inr (.inl _)] rfl (dOf ck_mX11_near rfl rfl) al_OneBreath_153 rfl rfl ⟨wd_633, wd_634⟩ rfl (Nat.le_of_ble_eq_true rfl) ⟨Nat.le_of_ble_eq_true rfl, Nat.le_of_ble_eq_true rfl⟩ (fun b hb => met_Tongue_hasWord (by unfold okT; omega) hb) (fun r1 hr1 => ?_)
  refine g_if_ne K (dOf ck_mX11_near rfl rfl) (t := 8) (aJ_of (by decide +kernel)) (fun h2 => ?_) (fun h2 => ?_)
  · refine gl (i' := 7) (fun _ _ => aw_bip K (dOf ck_mX11_near rfl rfl) (v := -2) rfl) ?_
    exact g_iret K (dOf ck_mX11_near rfl rfl).1 rfl (Or.inl rfl) rfl
  · refine gl (i' := 9) (fun _ _ => aw_iconst K (n := -1) (i32 _ rfl) (dOf ck_mX11_near rfl rfl)) ?_
    refine gl (i' := 10) (fun _ _ => aw_istore_n K (dOf ck_mX11_near rfl rfl) (Nat.le_of_ble_eq_true rfl)) ?_
    refine g_lv (lv' := [(2, .inl _), (0, .inr (.inr (.inl (some _)))), (1, .inl _)]) rfl ?_
    refine gl (i' := 11) (fun _ _ => aw_iconst K (n := 0) (i32 _ rfl) (dOf ck_mX11_near rfl rfl)) ?_
    refine gl (i' := 12) (fun _ _ => aw_istore_n K (dOf ck_mX11_near rfl rfl) (Nat.le_of_ble_eq_true rfl)) ?_
    refine g_lv (lv' := [(3, .inl _), (2, .inl _), (0, .inr (.inr (.inl (some _)))), (1, .inl _)]) rfl ?_
    refine gl (i' := 13) (fun _ _ => aw_iconst K (n := 0) (i32 _ rfl) (dOf ck_mX11_near rfl rfl)) ?_
    refine gl (i' := 14) (fun _ _ => aw_istore K (dOf ck_mX11_near rfl rfl) (Nat.le_of_ble_eq_true rfl)) ?_
    refine g_lv (lv' := [(4, .inl _), (3, .inl _), (2, .inl _), (0, .inr (.inr (.inl (some _)))), (1, .inl _)]) rfl ?_
    refine g_sub [3, 4, 2, 1, 0] rfl ?_
    exact lk_B_near_14 K _ FU _ _ _ _
def Rows_isRow (x1 : Int) (mm : aM) : Option Int := if x1 < 0 then (some 0) else (if x1 < 4 then (some 1) else (some 0))
set_option maxHeartbeats 4000000 in
theorem met_Rows_isRow {l : Launch} {D : va_G} {cA : FieldType → ClassId} {ad adV : Nat → Nat} {z0 : Nat} {x1 : Int} {mm : aM}  {r : Int} (h : Rows_isRow x1 mm = some r) : aMet l D cA ad adV z0 mX5_isRow 0 0 0 0 [.inr (.inr (.inl (some 51))), .inl x1] SH mm ((rI mm) r).1 SH ((rI mm) r).2 := by
  refine aMet_ofG (by decide +kernel) rfl (Nat.le_of_ble_eq_true rfl) h (fun p e s m args below meth c al0 K => ?_)
  unfold Rows_isRow
  refine gl (i' := 1) (fun _ _ => aw_iload_n K (dOf ck_mX5_isRow rfl rfl) rfl) ?_
  refine g_if_lt K (dOf ck_mX5_isRow rfl rfl) (t := 7) (aJ_of (by decide +kernel)) (fun h1 => ?_) (fun h1 => ?_)
  · refine gl (i' := 8) (fun _ _ => aw_iconst K (n := 0) (i32 _ rfl) (dOf ck_mX5_isRow rfl rfl)) ?_
    exact g_iret K (by decide +kernel) rfl (Or.inr (Or.inl ⟨rfl, Or.inl rfl⟩)) rfl
  · refine gl (i' := 3) (fun _ _ => aw_iload_n K (dOf ck_mX5_isRow rfl rfl) rfl) ?_
    refine gl (i' := 4) (fun _ _ => aw_iconst K (n := 4) (i32 _ rfl) (dOf ck_mX5_isRow rfl rfl)) ?_
    refine g_icmp_ge K (dOf ck_mX5_isRow rfl rfl) (t := 7) (aJ_of (by decide +kernel)) (fun h2 => ?_) (fun h2 => ?_)
    · refine gl (i' := 6) (fun _ _ => aw_iconst K (n := 1) (i32 _ rfl) (dOf ck_mX5_isRow rfl rfl)) ?_
      refine g_goto K (dOf ck_mX5_isRow rfl rfl).1 (t := 8) (aJ_of (by decide +kernel)) ?_
      exact g_iret K (by decide +kernel) rfl (Or.inr (Or.inl ⟨rfl, Or.inr rfl⟩)) rfl
    · refine gl (i' := 8) (fun _ _ => aw_iconst K (n := 0) (i32 _ rfl) (dOf ck_mX5_isRow rfl rfl)) ?_
      exact g_iret K (by decide +kernel) rfl (Or.inr (Or.inl ⟨rfl, Or.inl rfl⟩)) rfl
def Rows_isMissing (x1 : Int) (mm : aM) : Option Int := if 0 ≤ x1 ∧ x1 < 4 then (if (mm 57 x1.toNat) = (-1) then (some 1) else (some 0)) else none
set_option maxHeartbeats 4000000 in
theorem met_Rows_isMissing {l : Launch} {D : va_G} {cA : FieldType → ClassId} {ad adV : Nat → Nat} {z0 : Nat} {x1 : Int} {mm : aM}  {r : Int} (h : Rows_isMissing x1 mm = some r) : aMet l D cA ad adV z0 mX5_isMissing 0 0 0 0 [.inr (.inr (.inl (some 51))), .inl x1] SH mm ((rI mm) r).1 SH ((rI mm) r).2 := by
  refine aMet_ofG (by decide +kernel) rfl (Nat.le_of_ble_eq_true rfl) h (fun p e s m args below meth c al0 K => ?_)
  unfold Rows_isMissing
  refine gl (i' := 1) (fun _ _ => aw_aload_n K (dOf ck_mX5_isMissing rfl rfl) rfl) ?_
  refine gl (i' := 2) (fun _ _ => aw_getf K (dOf ck_mX5_isMissing rfl rfl) rfl rfl (Nat.le_of_ble_eq_true rfl) wd_314 (k := 1) rfl) ?_
  refine gl (i' := 3) (fun _ _ => aw_iload_n K (dOf ck_mX5_isMissing rfl rfl) rfl) ?_
  refine g_gd (fun hb1 => ?_)
  refine gl (i' := 4) (fun _ _ => aw_iald K (dOf ck_mX5_isMissing rfl rfl) rfl hb1) ?_
  refine gl (i' := 5) (fun _ _ => aw_iconst K (n := -1) (i32 _ rfl) (dOf ck_mX5_isMissing rfl rfl)) ?_
  refine g_icmp_ne K (dOf ck_mX5_isMissing rfl rfl) (t := 8) (aJ_of (by decide +kernel)) (fun h2 => ?_) (fun h2 => ?_)
  · refine gl (i' := 7) (fun _ _ => aw_iconst K (n := 1) (i32 _ rfl) (dOf ck_mX5_isMissing rfl rfl)) ?_
    refine g_goto K (dOf ck_mX5_isMissing rfl rfl).1 (t := 9) (aJ_of (by decide +kernel)) ?_
    exact g_iret K (by decide +kernel) rfl (Or.inr (Or.inl ⟨rfl, Or.inr rfl⟩)) rfl
  · refine gl (i' := 9) (fun _ _ => aw_iconst K (n := 0) (i32 _ rfl) (dOf ck_mX5_isMissing rfl rfl)) ?_
    exact g_iret K (by decide +kernel) rfl (Or.inr (Or.inl ⟨rfl, Or.inl rfl⟩)) rfl
def Tongue_mayFollow_15 (mm : aM) (t : Nat) : Option Int := some 1
set_option maxHeartbeats 4000000 in
theorem lk_Tongue_mayFollow_15 {p : Program} {l : Launch} {e : Env} {s : State} {m : MethodId} {args : Array Value} {below : List Frame} {meth : Method} {c : Code} {D : va_G} {cA : FieldType → ClassId} {ad adV : Nat → Nat} {z0 : Nat} {al0 : List Nat} {mm : aM} (K : aK p s m args meth c mX8_mayFollow D cA ad adV z0) {t : Nat} (ht : okT t)  : aG p l e { frames := 0, cells := 0, slots := 0, locals := 0 } s m args below meth c D cA ad z0 mX8_mayFollow al0 (rI mm) (Tongue_mayFollow_15 mm t) 15 [] [] mm := by
  unfold Tongue_mayFollow_15
  refine gl (i' := 16) (fun _ _ => aw_iconst K (n := 1) (i32 _ rfl) (dOf ck_mX8_mayFollow rfl rfl)) ?_
  refine g_goto K (dOf ck_mX8_mayFollow rfl rfl).1 (t := 18) (aJ_of (by decide +kernel)) ?_
  exact g_iret K (by decide +kernel) rfl (Or.inr (Or.inl ⟨rfl, Or.inr rfl⟩)) rfl
def Tongue_mayFollow (t : Nat) (x1 : Int) (x2 : Int) (mm : aM) : Option Int := if x1 = 4 then (Tongue_mayFollow_15 mm t) else (if 0 ≤ x1 ∧ x1 < 4 then (if 0 ≤ x2 ∧ x2 < 12 then (if (iand (ishr (mm (t + 19) x1.toNat) (mm (t + 18) x2.toNat)) 1) = 0 then (some 0) else (Tongue_mayFollow_15 mm t)) else none) else none)
set_option maxHeartbeats 4000000 in
theorem met_Tongue_mayFollow {l : Launch} {D : va_G} {cA : FieldType → ClassId} {ad adV : Nat → Nat} {z0 : Nat} {t : Nat} {x1 : Int} {x2 : Int} {mm : aM} (ht : okT t) {r : Int} (h : Tongue_mayFollow t x1 x2 mm = some r) : aMet l D cA ad adV z0 mX8_mayFollow 0 0 0 0 [.inr (.inr (.inl (some t))), .inl x1, .inl x2] SH mm ((rI mm) r).1 SH ((rI mm) r).2 := by
  refine aMet_ofG (by decide +kernel) rfl (Nat.le_of_ble_eq_true rfl) h (fun p e s m args below meth c al0 K => ?_)
  unfold Tongue_mayFollow
  refine gl (i' := 1) (fun _ _ => aw_iload_n K (dOf ck_mX8_mayFollow rfl rfl) rfl) ?_
  refine gl (i' := 2) (fun _ _ => aw_iconst K (n := 4) (i32 _ rfl) (dOf ck_mX8_mayFollow rfl rfl)) ?_
  refine g_icmp_eq K (dOf ck_mX8_mayFollow rfl rfl) (t := 15) (aJ_of (by decide +kernel)) (fun h1 => ?_) (fun h1 => ?_)
  · refine g_sub [] rfl ?_
    exact lk_Tongue_mayFollow_15 K ht
  · refine gl (i' := 4) (fun _ _ => aw_aload_n K (dOf ck_mX8_mayFollow rfl rfl) rfl) ?_
    refine gl (i' := 5) (fun _ _ => aw_getf K (dOf ck_mX8_mayFollow rfl rfl) (shT_0 ht) rfl (Nat.le_of_ble_eq_true rfl) wd_257 (k := 12) rfl) ?_
    refine gl (i' := 6) (fun _ _ => aw_iload_n K (dOf ck_mX8_mayFollow rfl rfl) rfl) ?_
    refine g_gd (fun hb2 => ?_)
    refine gl (i' := 7) (fun _ _ => aw_iald K (dOf ck_mX8_mayFollow rfl rfl) (shT_19 ht) hb2) ?_
    refine gl (i' := 8) (fun _ _ => aw_aload_n K (dOf ck_mX8_mayFollow rfl rfl) rfl) ?_
    refine gl (i' := 9) (fun _ _ => aw_getf K (dOf ck_mX8_mayFollow rfl rfl) (shT_0 ht) rfl (Nat.le_of_ble_eq_true rfl) wd_250 (k := 11) rfl) ?_
    refine gl (i' := 10) (fun _ _ => aw_iload_n K (dOf ck_mX8_mayFollow rfl rfl) rfl) ?_
    refine g_gd (fun hb3 => ?_)
    refine gl (i' := 11) (fun _ _ => aw_iald K (dOf ck_mX8_mayFollow rfl rfl) (shT_18 ht) hb3) ?_
    refine gl (i' := 12) (fun _ _ => aw_ishr K (dOf ck_mX8_mayFollow rfl rfl)) ?_
    refine gl (i' := 13) (fun _ _ => aw_iconst K (n := 1) (i32 _ rfl) (dOf ck_mX8_mayFollow rfl rfl)) ?_
    refine gl (i' := 14) (fun _ _ => aw_iand K (dOf ck_mX8_mayFollow rfl rfl)) ?_
    refine g_if_eq K (dOf ck_mX8_mayFollow rfl rfl) (t := 17) (aJ_of (by decide +kernel)) (fun h4 => ?_) (fun h4 => ?_)
    · refine gl (i' := 18) (fun _ _ => aw_iconst K (n := 0) (i32 _ rfl) (dOf ck_mX8_mayFollow rfl rfl)) ?_
      exact g_iret K (by decide +kernel) rfl (Or.inr (Or.inl ⟨rfl, Or.inl rfl⟩)) rfl
    · refine g_sub [] rfl ?_
      exact lk_Tongue_mayFollow_15 K ht
def Tongue_mayEnd (t : Nat) (x1 : Int) (mm : aM) : Option Int := if x1 = 4 then (some 0) else (if (iand (ishr (mm t 5) x1) 1) = 0 then (some 0) else (some 1))
set_option maxHeartbeats 4000000 in
theorem met_Tongue_mayEnd {l : Launch} {D : va_G} {cA : FieldType → ClassId} {ad adV : Nat → Nat} {z0 : Nat} {t : Nat} {x1 : Int} {mm : aM} (ht : okT t) {r : Int} (h : Tongue_mayEnd t x1 mm = some r) : aMet l D cA ad adV z0 mX8_mayEnd 0 0 0 0 [.inr (.inr (.inl (some t))), .inl x1] SH mm ((rI mm) r).1 SH ((rI mm) r).2 := by
  refine aMet_ofG (by decide +kernel) rfl (Nat.le_of_ble_eq_true rfl) h (fun p e s m args below meth c al0 K => ?_)
  unfold Tongue_mayEnd
  refine gl (i' := 1) (fun _ _ => aw_iload_n K (dOf ck_mX8_mayEnd rfl rfl) rfl) ?_
  refine gl (i' := 2) (fun _ _ => aw_iconst K (n := 4) (i32 _ rfl) (dOf ck_mX8_mayEnd rfl rfl)) ?_
  refine g_icmp_eq K (dOf ck_mX8_mayEnd rfl rfl) (t := 12) (aJ_of (by decide +kernel)) (fun h1 => ?_) (fun h1 => ?_)
  · refine gl (i' := 13) (fun _ _ => aw_iconst K (n := 0) (i32 _ rfl) (dOf ck_mX8_mayEnd rfl rfl)) ?_
    exact g_iret K (by decide +kernel) rfl (Or.inr (Or.inl ⟨rfl, Or.inl rfl⟩)) rfl
  · refine gl (i' := 4) (fun _ _ => aw_aload_n K (dOf ck_mX8_mayEnd rfl rfl) rfl) ?_
    refine gl (i' := 5) (fun _ _ => aw_getf K (dOf ck_mX8_mayEnd rfl rfl) (shT_0 ht) rfl (Nat.le_of_ble_eq_true rfl) wd_213 (k := 5) rfl) ?_
    refine gl (i' := 6) (fun _ _ => aw_iload_n K (dOf ck_mX8_mayEnd rfl rfl) rfl) ?_
    refine gl (i' := 7) (fun _ _ => aw_ishr K (dOf ck_mX8_mayEnd rfl rfl)) ?_
    refine gl (i' := 8) (fun _ _ => aw_iconst K (n := 1) (i32 _ rfl) (dOf ck_mX8_mayEnd rfl rfl)) ?_
    refine gl (i' := 9) (fun _ _ => aw_iand K (dOf ck_mX8_mayEnd rfl rfl)) ?_
    refine g_if_eq K (dOf ck_mX8_mayEnd rfl rfl) (t := 12) (aJ_of (by decide +kernel)) (fun h2 => ?_) (fun h2 => ?_)
    · refine gl (i' := 13) (fun _ _ => aw_iconst K (n := 0) (i32 _ rfl) (dOf ck_mX8_mayEnd rfl rfl)) ?_
      exact g_iret K (by decide +kernel) rfl (Or.inr (Or.inl ⟨rfl, Or.inl rfl⟩)) rfl
    · refine gl (i' := 11) (fun _ _ => aw_iconst K (n := 1) (i32 _ rfl) (dOf ck_mX8_mayEnd rfl rfl)) ?_
      refine g_goto K (dOf ck_mX8_mayEnd rfl rfl).1 (t := 13) (aJ_of (by decide +kernel)) ?_
      exact g_iret K (by decide +kernel) rfl (Or.inr (Or.inl ⟨rfl, Or.inr rfl⟩)) rfl
def Verdict_hear_98 (s0 : Int) (mm : aM) : Option aM := if s0 = 0 ∨ s0 = 1 then (st1 (aup mm 59 5 s0) fun mm9 => (some mm9)) else none
set_option maxHeartbeats 4000000 in
theorem lk_Verdict_hear_98 {p : Program} {l : Launch} {e : Env} {s : State} {m : MethodId} {args : Array Value} {below : List Frame} {meth : Method} {c : Code} {D : va_G} {cA : FieldType → ClassId} {ad adV : Nat → Nat} {z0 : Nat} {al0 : List Nat} (K : aK p s m args meth c mX10_hear D cA ad adV z0)   (s0 : Int) (mm : aM) : aG p l e { frames := 1, cells := 0, slots := 0, locals := 22 } s m args below meth c D cA ad z0 mX10_hear al0 rM (Verdict_hear_98 s0 mm) 98 [] [.inl s0, .inr (.inr (.inl (some 59)))] mm := by
  unfold Verdict_hear_98
  refine g_gd (fun hb8 => ?_)
  refine g_st1 ?_
  refine gl (i' := 99) (fun _ _ => aw_putf K (dOf ck_mX10_hear rfl rfl) rfl rfl (Nat.le_of_ble_eq_true rfl) wd_334 (k := 5) rfl rfl (Or.inr ⟨rfl, hb8⟩)) ?_
  exact g_vret K (by decide +kernel) rfl rfl
def Verdict_hear_97 (mm : aM) : Option aM := Verdict_hear_98 0 mm
set_option maxHeartbeats 4000000 in
theorem lk_Verdict_hear_97 {p : Program} {l : Launch} {e : Env} {s : State} {m : MethodId} {args : Array Value} {below : List Frame} {meth : Method} {c : Code} {D : va_G} {cA : FieldType → ClassId} {ad adV : Nat → Nat} {z0 : Nat} {al0 : List Nat} (K : aK p s m args meth c mX10_hear D cA ad adV z0)   (mm : aM) : aG p l e { frames := 1, cells := 0, slots := 0, locals := 22 } s m args below meth c D cA ad z0 mX10_hear al0 rM (Verdict_hear_97 mm) 97 [] [.inr (.inr (.inl (some 59)))] mm := by
  unfold Verdict_hear_97
  refine gl (i' := 98) (fun _ _ => aw_iconst K (n := 0) (i32 _ rfl) (dOf ck_mX10_hear rfl rfl)) ?_
  refine g_sub [] rfl ?_
  exact lk_Verdict_hear_98 K _ _
def Verdict_hear_86 (x4 : Int) (mm : aM) : Option aM := if (mm 59 2) = (-1) then ((Tongue_mayEnd 25 x4 mm).bind fun r10 => (if r10 = 0 then (Verdict_hear_97 mm) else (Verdict_hear_98 1 mm))) else (Verdict_hear_97 mm)
set_option maxHeartbeats 4000000 in
theorem lk_Verdict_hear_86 {p : Program} {l : Launch} {e : Env} {s : State} {m : MethodId} {args : Array Value} {below : List Frame} {meth : Method} {c : Code} {D : va_G} {cA : FieldType → ClassId} {ad adV : Nat → Nat} {z0 : Nat} {al0 : List Nat} (K : aK p s m args meth c mX10_hear D cA ad adV z0) (x4 : Int)  (mm : aM) : aG p l e { frames := 1, cells := 0, slots := 0, locals := 22 } s m args below meth c D cA ad z0 mX10_hear al0 rM (Verdict_hear_86 x4 mm) 86 [(0, .inr (.inr (.inl (some 59)))), (1, .inr (.inr (.inl (some 25)))), (4, .inl x4)] [] mm := by
  unfold Verdict_hear_86
  refine gl (i' := 87) (fun _ _ => aw_aload_n K (dOf ck_mX10_hear rfl rfl) rfl) ?_
  refine gl (i' := 88) (fun _ _ => aw_aload_n K (dOf ck_mX10_hear rfl rfl) rfl) ?_
  refine gl (i' := 89) (fun _ _ => aw_getf K (dOf ck_mX10_hear rfl rfl) rfl rfl (Nat.le_of_ble_eq_true rfl) wd_328 (k := 2) rfl) ?_
  refine gl (i' := 90) (fun _ _ => aw_iconst K (n := -1) (i32 _ rfl) (dOf ck_mX10_hear rfl rfl)) ?_
  refine g_icmp_ne K (dOf ck_mX10_hear rfl rfl) (t := 97) (aJ_of (by decide +kernel)) (fun h7 => ?_) (fun h7 => ?_)
  · refine gl (i' := 92) (fun _ _ => aw_aload_n K (dOf ck_mX10_hear rfl rfl) rfl) ?_
    refine gl (i' := 93) (fun _ _ => aw_iload K (dOf ck_mX10_hear rfl rfl) rfl) ?_
    refine g_callVI K [.inl _] rfl (dOf ck_mX10_hear rfl rfl) al_OneBreath_Verdict_55 rfl rfl ⟨wd_705, wd_706⟩ rfl (Nat.le_of_ble_eq_true rfl) ⟨Nat.le_of_ble_eq_true rfl, Nat.le_of_ble_eq_true rfl⟩ (fun b hb => met_Tongue_mayEnd (by unfold okT; omega) hb) (fun r10 hr10 => ?_)
    refine g_if_eq K (dOf ck_mX10_hear rfl rfl) (t := 97) (aJ_of (by decide +kernel)) (fun h11 => ?_) (fun h11 => ?_)
    · refine g_sub [] rfl ?_
      exact lk_Verdict_hear_97 K _
    · refine gl (i' := 96) (fun _ _ => aw_iconst K (n := 1) (i32 _ rfl) (dOf ck_mX10_hear rfl rfl)) ?_
      refine g_goto K (dOf ck_mX10_hear rfl rfl).1 (t := 98) (aJ_of (by decide +kernel)) ?_
      refine g_sub [] rfl ?_
      exact lk_Verdict_hear_98 K _ _
  · refine g_sub [] rfl ?_
    exact lk_Verdict_hear_97 K _
def Verdict_hear_84 (k16 : Int → Int → aM → Option aM) (x3 : Int) (x4 : Int) (x5 : Int) (mm : aM) : Option aM := k16 x4 (w32 (x5 + 1)) mm
set_option maxHeartbeats 4000000 in
theorem lk_Verdict_hear_84 {p : Program} {l : Launch} {e : Env} {s : State} {m : MethodId} {args : Array Value} {below : List Frame} {meth : Method} {c : Code} {D : va_G} {cA : FieldType → ClassId} {ad adV : Nat → Nat} {z0 : Nat} {al0 : List Nat} (K : aK p s m args meth c mX10_hear D cA ad adV z0) (x3 : Int) (x4 : Int) (x5 : Int) (k16 : Int → Int → aM → Option aM) (hk16 : ∀ (x4 : Int) (x5 : Int) (mm : aM), aG p l e { frames := 1, cells := 0, slots := 0, locals := 22 } s m args below meth c D cA ad z0 mX10_hear al0 rM (k16 x4 x5 mm) 16 [(0, .inr (.inr (.inl (some 59)))), (1, .inr (.inr (.inl (some 25)))), (2, .inr (.inr (.inl (some 51)))), (3, .inl x3), (4, .inl x4), (5, .inl x5)] [] mm)  (mm : aM) : aG p l e { frames := 1, cells := 0, slots := 0, locals := 22 } s m args below meth c D cA ad z0 mX10_hear al0 rM (Verdict_hear_84 k16 x3 x4 x5 mm) 84 [(0, .inr (.inr (.inl (some 59)))), (1, .inr (.inr (.inl (some 25)))), (2, .inr (.inr (.inl (some 51)))), (3, .inl x3), (4, .inl x4), (5, .inl x5)] [] mm := by
  unfold Verdict_hear_84
  refine gl (i' := 85) (fun _ _ => aw_iinc K (dOf ck_mX10_hear rfl rfl) (Nat.le_of_ble_eq_true rfl) rfl) ?_
  refine g_lv (lv' := [(5, .inl _), (0, .inr (.inr (.inl (some _)))), (1, .inr (.inr (.inl (some _)))), (2, .inr (.inr (.inl (some _)))), (3, .inl _), (4, .inl _)]) rfl ?_
  refine g_goto K (dOf ck_mX10_hear rfl rfl).1 (t := 16) (aJ_of (by decide +kernel)) ?_
  refine g_sub [1, 2, 3, 4, 5, 0] rfl ?_
  exact hk16 _ _ _
def Verdict_hear_43 (k16 : Int → Int → aM → Option aM) (x3 : Int) (x4 : Int) (x5 : Int) (mm : aM) : Option aM := st1 (aup mm 59 2 x5) fun mm16 => (Verdict_hear_84 k16 x3 x4 x5 mm16)
set_option maxHeartbeats 4000000 in
theorem lk_Verdict_hear_43 {p : Program} {l : Launch} {e : Env} {s : State} {m : MethodId} {args : Array Value} {below : List Frame} {meth : Method} {c : Code} {D : va_G} {cA : FieldType → ClassId} {ad adV : Nat → Nat} {z0 : Nat} {al0 : List Nat} (K : aK p s m args meth c mX10_hear D cA ad adV z0) (x3 : Int) (x4 : Int) (x5 : Int) (k16 : Int → Int → aM → Option aM) (hk16 : ∀ (x4 : Int) (x5 : Int) (mm : aM), aG p l e { frames := 1, cells := 0, slots := 0, locals := 22 } s m args below meth c D cA ad z0 mX10_hear al0 rM (k16 x4 x5 mm) 16 [(0, .inr (.inr (.inl (some 59)))), (1, .inr (.inr (.inl (some 25)))), (2, .inr (.inr (.inl (some 51)))), (3, .inl x3), (4, .inl x4), (5, .inl x5)] [] mm)  (mm : aM) : aG p l e { frames := 1, cells := 0, slots := 0, locals := 22 } s m args below meth c D cA ad z0 mX10_hear al0 rM (Verdict_hear_43 k16 x3 x4 x5 mm) 43 [(0, .inr (.inr (.inl (some 59)))), (1, .inr (.inr (.inl (some 25)))), (2, .inr (.inr (.inl (some 51)))), (3, .inl x3), (4, .inl x4), (5, .inl x5)] [] mm := by
  unfold Verdict_hear_43
  refine gl (i' := 44) (fun _ _ => aw_aload_n K (dOf ck_mX10_hear rfl rfl) rfl) ?_
  refine gl (i' := 45) (fun _ _ => aw_iload K (dOf ck_mX10_hear rfl rfl) rfl) ?_
  refine g_st1 ?_
  refine gl (i' := 46) (fun _ _ => aw_putf K (dOf ck_mX10_hear rfl rfl) rfl rfl (Nat.le_of_ble_eq_true rfl) wd_328 (k := 2) rfl rfl (Or.inl rfl)) ?_
  refine g_goto K (dOf ck_mX10_hear rfl rfl).1 (t := 84) (aJ_of (by decide +kernel)) ?_
  refine g_sub [0, 1, 2, 3, 4, 5] rfl ?_
  exact lk_Verdict_hear_84 K _ _ _ _ hk16 _
def Verdict_hear_16 (x3 : Int) : Nat → Int → Int → aM → Option aM
  | 0, _, _, _ => none
  | n + 1, x4, x5, mm => if 0 ≤ x3 ∧ x3 < 4 then (if x5 < (mm 57 x3.toNat) then (if (mm 59 2) = (-1) then (if 0 ≤ x5 ∧ x5 < 40 then ((Tongue_hasWord 25 (mm (53 + x3.toNat) x5.toNat) mm).bind fun r14 => (if r14 = 0 then (Verdict_hear_43 (Verdict_hear_16 x3 n) x3 x4 x5 mm) else ((Tongue_mayFollow 25 x4 (w32 (mm (53 + x3.toNat) x5.toNat)) mm).bind fun r17 => (if r17 = 0 then (Verdict_hear_43 (Verdict_hear_16 x3 n) x3 x4 x5 mm) else (st1 (aup mm 60 x5.toNat (w32 (mm (53 + x3.toNat) x5.toNat))) fun mm19 => (st1 (aup mm19 59 1 (w32 ((mm19 59 1) + 1))) fun mm20 => (if 0 ≤ (w32 (mm (53 + x3.toNat) x5.toNat)) ∧ (w32 (mm (53 + x3.toNat) x5.toNat)) < 12 then (st1 (aup mm20 59 3 (w32 ((mm20 59 3) + (mm20 41 (w32 (mm (53 + x3.toNat) x5.toNat)).toNat)))) fun mm22 => (st1 (aup mm22 59 4 (w32 ((mm22 59 4) + (mm22 42 (w32 (mm (53 + x3.toNat) x5.toNat)).toNat)))) fun mm23 => (Verdict_hear_84 (Verdict_hear_16 x3 n) x3 (mm23 43 (w32 (mm (53 + x3.toNat) x5.toNat)).toNat) x5 mm23))) else none))))))) else none) else (Verdict_hear_86 x4 mm)) else (Verdict_hear_86 x4 mm)) else none
set_option maxHeartbeats 4000000 in
theorem lk_Verdict_hear_16 {p : Program} {l : Launch} {e : Env} {s : State} {m : MethodId} {args : Array Value} {below : List Frame} {meth : Method} {c : Code} {D : va_G} {cA : FieldType → ClassId} {ad adV : Nat → Nat} {z0 : Nat} {al0 : List Nat} (K : aK p s m args meth c mX10_hear D cA ad adV z0) (x3 : Int)  : ∀ (n : Nat) (x4 : Int) (x5 : Int) (mm : aM), aG p l e { frames := 1, cells := 0, slots := 0, locals := 22 } s m args below meth c D cA ad z0 mX10_hear al0 rM (Verdict_hear_16 x3 n x4 x5 mm) 16 [(0, .inr (.inr (.inl (some 59)))), (1, .inr (.inr (.inl (some 25)))), (2, .inr (.inr (.inl (some 51)))), (3, .inl x3), (4, .inl x4), (5, .inl x5)] [] mm := by
  intro n
  induction n with
  | zero => intro x4 x5 mm; exact g_none
  | succ n ih =>
    intro x4 x5 mm
    rw [Verdict_hear_16]
    refine gl (i' := 17) (fun _ _ => aw_iload K (dOf ck_mX10_hear rfl rfl) rfl) ?_
    refine gl (i' := 18) (fun _ _ => aw_aload_n K (dOf ck_mX10_hear rfl rfl) rfl) ?_
    refine gl (i' := 19) (fun _ _ => aw_getf K (dOf ck_mX10_hear rfl rfl) rfl rfl (Nat.le_of_ble_eq_true rfl) wd_315 (k := 1) rfl) ?_
    refine gl (i' := 20) (fun _ _ => aw_iload_n K (dOf ck_mX10_hear rfl rfl) rfl) ?_
    refine g_gd (fun hb5 => ?_)
    refine gl (i' := 21) (fun _ _ => aw_iald K (dOf ck_mX10_hear rfl rfl) rfl hb5) ?_
    refine g_icmp_ge K (dOf ck_mX10_hear rfl rfl) (t := 86) (aJ_of (by decide +kernel)) (fun h6 => ?_) (fun h6 => ?_)
    · refine gl (i' := 23) (fun _ _ => aw_aload_n K (dOf ck_mX10_hear rfl rfl) rfl) ?_
      refine gl (i' := 24) (fun _ _ => aw_getf K (dOf ck_mX10_hear rfl rfl) rfl rfl (Nat.le_of_ble_eq_true rfl) wd_328 (k := 2) rfl) ?_
      refine gl (i' := 25) (fun _ _ => aw_iconst K (n := -1) (i32 _ rfl) (dOf ck_mX10_hear rfl rfl)) ?_
      refine g_icmp_ne K (dOf ck_mX10_hear rfl rfl) (t := 86) (aJ_of (by decide +kernel)) (fun h12 => ?_) (fun h12 => ?_)
      · refine gl (i' := 27) (fun _ _ => aw_aload_n K (dOf ck_mX10_hear rfl rfl) rfl) ?_
        refine gl (i' := 28) (fun _ _ => aw_getf K (dOf ck_mX10_hear rfl rfl) rfl rfl (Nat.le_of_ble_eq_true rfl) wd_313 (k := 0) rfl) ?_
        refine gl (i' := 29) (fun _ _ => aw_iload_n K (dOf ck_mX10_hear rfl rfl) rfl) ?_
        refine gl (i' := 30) (fun _ _ => aw_aald K (dOf ck_mX10_hear rfl rfl) shVa hb5 (rsV_at hb5)) ?_
        refine gl (i' := 31) (fun _ _ => aw_iload K (dOf ck_mX10_hear rfl rfl) rfl) ?_
        refine g_gd (fun hb13 => ?_)
        refine gl (i' := 32) (fun _ _ => aw_lald K (dOf ck_mX10_hear rfl rfl) (shVr hb5) hb13) ?_
        refine gl (i' := 33) (fun _ _ => aw_lstore K (dOf ck_mX10_hear rfl rfl) (Nat.le_of_ble_eq_true rfl)) ?_
        refine g_lv (lv' := [(6, .inr (.inl _)), (0, .inr (.inr (.inl (some _)))), (1, .inr (.inr (.inl (some _)))), (2, .inr (.inr (.inl (some _)))), (3, .inl _), (4, .inl _), (5, .inl _)]) rfl ?_
        refine gl (i' := 34) (fun _ _ => aw_aload_n K (dOf ck_mX10_hear rfl rfl) rfl) ?_
        refine gl (i' := 35) (fun _ _ => aw_lload K (dOf ck_mX10_hear rfl rfl) rfl) ?_
        refine g_callVI K [.inr (.inl _)] rfl (dOf ck_mX10_hear rfl rfl) al_OneBreath_Verdict_37 rfl rfl ⟨wd_633, wd_634⟩ rfl (Nat.le_of_ble_eq_true rfl) ⟨Nat.le_of_ble_eq_true rfl, Nat.le_of_ble_eq_true rfl⟩ (fun b hb => met_Tongue_hasWord (by unfold okT; omega) hb) (fun r14 hr14 => ?_)
        refine g_if_eq K (dOf ck_mX10_hear rfl rfl) (t := 43) (aJ_of (by decide +kernel)) (fun h15 => ?_) (fun h15 => ?_)
        · refine g_sub [1, 2, 3, 4, 5, 6] rfl ?_
          exact lk_Verdict_hear_43 K _ _ _ _ ih _
        · refine gl (i' := 38) (fun _ _ => aw_aload_n K (dOf ck_mX10_hear rfl rfl) rfl) ?_
          refine gl (i' := 39) (fun _ _ => aw_iload K (dOf ck_mX10_hear rfl rfl) rfl) ?_
          refine gl (i' := 40) (fun _ _ => aw_lload K (dOf ck_mX10_hear rfl rfl) rfl) ?_
          refine gl (i' := 41) (fun _ _ => aw_l2i K (dOf ck_mX10_hear rfl rfl)) ?_
          refine g_callVI K [.inl _, .inl _] rfl (dOf ck_mX10_hear rfl rfl) al_OneBreath_Verdict_43 rfl rfl ⟨wd_701, wd_702⟩ rfl (Nat.le_of_ble_eq_true rfl) ⟨Nat.le_of_ble_eq_true rfl, Nat.le_of_ble_eq_true rfl⟩ (fun b hb => met_Tongue_mayFollow (by unfold okT; omega) hb) (fun r17 hr17 => ?_)
          refine g_if_ne K (dOf ck_mX10_hear rfl rfl) (t := 47) (aJ_of (by decide +kernel)) (fun h18 => ?_) (fun h18 => ?_)
          · refine g_sub [1, 2, 3, 4, 5, 6] rfl ?_
            exact lk_Verdict_hear_43 K _ _ _ _ ih _
          · refine gl (i' := 48) (fun _ _ => aw_lload K (dOf ck_mX10_hear rfl rfl) rfl) ?_
            refine gl (i' := 49) (fun _ _ => aw_l2i K (dOf ck_mX10_hear rfl rfl)) ?_
            refine gl (i' := 50) (fun _ _ => aw_istore K (dOf ck_mX10_hear rfl rfl) (Nat.le_of_ble_eq_true rfl)) ?_
            refine g_lv (lv' := [(8, .inl _), (6, .inr (.inl _)), (0, .inr (.inr (.inl (some _)))), (1, .inr (.inr (.inl (some _)))), (2, .inr (.inr (.inl (some _)))), (3, .inl _), (4, .inl _), (5, .inl _)]) rfl ?_
            refine gl (i' := 51) (fun _ _ => aw_aload_n K (dOf ck_mX10_hear rfl rfl) rfl) ?_
            refine gl (i' := 52) (fun _ _ => aw_getf K (dOf ck_mX10_hear rfl rfl) rfl rfl (Nat.le_of_ble_eq_true rfl) wd_324 (k := 0) rfl) ?_
            refine gl (i' := 53) (fun _ _ => aw_iload K (dOf ck_mX10_hear rfl rfl) rfl) ?_
            refine gl (i' := 54) (fun _ _ => aw_iload K (dOf ck_mX10_hear rfl rfl) rfl) ?_
            refine g_st1 ?_
            refine gl (i' := 55) (fun _ _ => aw_iast K (dOf ck_mX10_hear rfl rfl) rfl hb13) ?_
            refine gl (i' := 56) (fun _ _ => aw_aload_n K (dOf ck_mX10_hear rfl rfl) rfl) ?_
            refine gl (i' := 57) (fun _ _ => aw_dup K rfl (dOf ck_mX10_hear rfl rfl)) ?_
            refine gl (i' := 58) (fun _ _ => aw_getf K (dOf ck_mX10_hear rfl rfl) rfl rfl (Nat.le_of_ble_eq_true rfl) wd_326 (k := 1) rfl) ?_
            refine gl (i' := 59) (fun _ _ => aw_iconst K (n := 1) (i32 _ rfl) (dOf ck_mX10_hear rfl rfl)) ?_
            refine gl (i' := 60) (fun _ _ => aw_iadd K (dOf ck_mX10_hear rfl rfl)) ?_
            refine g_st1 ?_
            refine gl (i' := 61) (fun _ _ => aw_putf K (dOf ck_mX10_hear rfl rfl) rfl rfl (Nat.le_of_ble_eq_true rfl) wd_326 (k := 1) rfl rfl (Or.inl rfl)) ?_
            refine gl (i' := 62) (fun _ _ => aw_aload_n K (dOf ck_mX10_hear rfl rfl) rfl) ?_
            refine gl (i' := 63) (fun _ _ => aw_dup K rfl (dOf ck_mX10_hear rfl rfl)) ?_
            refine gl (i' := 64) (fun _ _ => aw_getf K (dOf ck_mX10_hear rfl rfl) rfl rfl (Nat.le_of_ble_eq_true rfl) wd_330 (k := 3) rfl) ?_
            refine gl (i' := 65) (fun _ _ => aw_aload_n K (dOf ck_mX10_hear rfl rfl) rfl) ?_
            refine gl (i' := 66) (fun _ _ => aw_getf K (dOf ck_mX10_hear rfl rfl) rfl rfl (Nat.le_of_ble_eq_true rfl) wd_239 (k := 9) rfl) ?_
            refine gl (i' := 67) (fun _ _ => aw_iload K (dOf ck_mX10_hear rfl rfl) rfl) ?_
            refine g_gd (fun hb21 => ?_)
            refine gl (i' := 68) (fun _ _ => aw_iald K (dOf ck_mX10_hear rfl rfl) rfl hb21) ?_
            refine gl (i' := 69) (fun _ _ => aw_iadd K (dOf ck_mX10_hear rfl rfl)) ?_
            refine g_st1 ?_
            refine gl (i' := 70) (fun _ _ => aw_putf K (dOf ck_mX10_hear rfl rfl) rfl rfl (Nat.le_of_ble_eq_true rfl) wd_330 (k := 3) rfl rfl (Or.inl rfl)) ?_
            refine gl (i' := 71) (fun _ _ => aw_aload_n K (dOf ck_mX10_hear rfl rfl) rfl) ?_
            refine gl (i' := 72) (fun _ _ => aw_dup K rfl (dOf ck_mX10_hear rfl rfl)) ?_
            refine gl (i' := 73) (fun _ _ => aw_getf K (dOf ck_mX10_hear rfl rfl) rfl rfl (Nat.le_of_ble_eq_true rfl) wd_332 (k := 4) rfl) ?_
            refine gl (i' := 74) (fun _ _ => aw_aload_n K (dOf ck_mX10_hear rfl rfl) rfl) ?_
            refine gl (i' := 75) (fun _ _ => aw_getf K (dOf ck_mX10_hear rfl rfl) rfl rfl (Nat.le_of_ble_eq_true rfl) wd_245 (k := 10) rfl) ?_
            refine gl (i' := 76) (fun _ _ => aw_iload K (dOf ck_mX10_hear rfl rfl) rfl) ?_
            refine gl (i' := 77) (fun _ _ => aw_iald K (dOf ck_mX10_hear rfl rfl) rfl hb21) ?_
            refine gl (i' := 78) (fun _ _ => aw_iadd K (dOf ck_mX10_hear rfl rfl)) ?_
            refine g_st1 ?_
            refine gl (i' := 79) (fun _ _ => aw_putf K (dOf ck_mX10_hear rfl rfl) rfl rfl (Nat.le_of_ble_eq_true rfl) wd_332 (k := 4) rfl rfl (Or.inl rfl)) ?_
            refine gl (i' := 80) (fun _ _ => aw_aload_n K (dOf ck_mX10_hear rfl rfl) rfl) ?_
            refine gl (i' := 81) (fun _ _ => aw_getf K (dOf ck_mX10_hear rfl rfl) rfl rfl (Nat.le_of_ble_eq_true rfl) wd_252 (k := 11) rfl) ?_
            refine gl (i' := 82) (fun _ _ => aw_iload K (dOf ck_mX10_hear rfl rfl) rfl) ?_
            refine gl (i' := 83) (fun _ _ => aw_iald K (dOf ck_mX10_hear rfl rfl) rfl hb21) ?_
            refine gl (i' := 84) (fun _ _ => aw_istore K (dOf ck_mX10_hear rfl rfl) (Nat.le_of_ble_eq_true rfl)) ?_
            refine g_lv (lv' := [(4, .inl _), (8, .inl _), (6, .inr (.inl _)), (0, .inr (.inr (.inl (some _)))), (1, .inr (.inr (.inl (some _)))), (2, .inr (.inr (.inl (some _)))), (3, .inl _), (5, .inl _)]) rfl ?_
            refine g_sub [3, 4, 5, 6, 0, 7] rfl ?_
            exact lk_Verdict_hear_84 K _ _ _ _ ih _
      · refine g_sub [0, 1, 4] rfl ?_
        exact lk_Verdict_hear_86 K _ _
    · refine g_sub [0, 1, 4] rfl ?_
      exact lk_Verdict_hear_86 K _ _
def Verdict_hear (x3 : Int) (mm : aM) : Option aM := st1 (aup mm 59 1 0) fun mm1 => (st1 (aup mm1 59 2 (-1)) fun mm2 => (st1 (aup mm2 59 3 0) fun mm3 => (st1 (aup mm3 59 4 0) fun mm4 => (Verdict_hear_16 x3 FU 4 0 mm4))))
set_option maxHeartbeats 4000000 in
theorem met_Verdict_hear {l : Launch} {D : va_G} {cA : FieldType → ClassId} {ad adV : Nat → Nat} {z0 : Nat} {x3 : Int} {mm : aM}  {r : aM} (h : Verdict_hear x3 mm = some r) : aMet l D cA ad adV z0 mX10_hear 1 22 0 0 [.inr (.inr (.inl (some 59))), .inr (.inr (.inl (some 25))), .inr (.inr (.inl (some 51))), .inl x3] SH mm (rM r).1 SH (rM r).2 := by
  refine aMet_ofG (by decide +kernel) rfl (Nat.le_of_ble_eq_true rfl) h (fun p e s m args below meth c al0 K => ?_)
  unfold Verdict_hear
  refine gl (i' := 1) (fun _ _ => aw_aload_n K (dOf ck_mX10_hear rfl rfl) rfl) ?_
  refine gl (i' := 2) (fun _ _ => aw_iconst K (n := 0) (i32 _ rfl) (dOf ck_mX10_hear rfl rfl)) ?_
  refine g_st1 ?_
  refine gl (i' := 3) (fun _ _ => aw_putf K (dOf ck_mX10_hear rfl rfl) rfl rfl (Nat.le_of_ble_eq_true rfl) wd_326 (k := 1) rfl rfl (Or.inl rfl)) ?_
  refine gl (i' := 4) (fun _ _ => aw_aload_n K (dOf ck_mX10_hear rfl rfl) rfl) ?_
  refine gl (i' := 5) (fun _ _ => aw_iconst K (n := -1) (i32 _ rfl) (dOf ck_mX10_hear rfl rfl)) ?_
  refine g_st1 ?_
  refine gl (i' := 6) (fun _ _ => aw_putf K (dOf ck_mX10_hear rfl rfl) rfl rfl (Nat.le_of_ble_eq_true rfl) wd_328 (k := 2) rfl rfl (Or.inl rfl)) ?_
  refine gl (i' := 7) (fun _ _ => aw_aload_n K (dOf ck_mX10_hear rfl rfl) rfl) ?_
  refine gl (i' := 8) (fun _ _ => aw_iconst K (n := 0) (i32 _ rfl) (dOf ck_mX10_hear rfl rfl)) ?_
  refine g_st1 ?_
  refine gl (i' := 9) (fun _ _ => aw_putf K (dOf ck_mX10_hear rfl rfl) rfl rfl (Nat.le_of_ble_eq_true rfl) wd_330 (k := 3) rfl rfl (Or.inl rfl)) ?_
  refine gl (i' := 10) (fun _ _ => aw_aload_n K (dOf ck_mX10_hear rfl rfl) rfl) ?_
  refine gl (i' := 11) (fun _ _ => aw_iconst K (n := 0) (i32 _ rfl) (dOf ck_mX10_hear rfl rfl)) ?_
  refine g_st1 ?_
  refine gl (i' := 12) (fun _ _ => aw_putf K (dOf ck_mX10_hear rfl rfl) rfl rfl (Nat.le_of_ble_eq_true rfl) wd_332 (k := 4) rfl rfl (Or.inl rfl)) ?_
  refine gl (i' := 13) (fun _ _ => aw_iconst K (n := 4) (i32 _ rfl) (dOf ck_mX10_hear rfl rfl)) ?_
  refine gl (i' := 14) (fun _ _ => aw_istore K (dOf ck_mX10_hear rfl rfl) (Nat.le_of_ble_eq_true rfl)) ?_
  refine g_lv (lv' := [(4, .inl _), (0, .inr (.inr (.inl (some _)))), (1, .inr (.inr (.inl (some _)))), (2, .inr (.inr (.inl (some _)))), (3, .inl _)]) rfl ?_
  refine gl (i' := 15) (fun _ _ => aw_iconst K (n := 0) (i32 _ rfl) (dOf ck_mX10_hear rfl rfl)) ?_
  refine gl (i' := 16) (fun _ _ => aw_istore K (dOf ck_mX10_hear rfl rfl) (Nat.le_of_ble_eq_true rfl)) ?_
  refine g_lv (lv' := [(5, .inl _), (4, .inl _), (0, .inr (.inr (.inl (some _)))), (1, .inr (.inr (.inl (some _)))), (2, .inr (.inr (.inl (some _)))), (3, .inl _)]) rfl ?_
  refine g_sub [2, 3, 4, 5, 1, 0] rfl ?_
  exact lk_Verdict_hear_16 K _ FU _ _ _
def B_judge (x1 : Int) (x2 : Int) (mm : aM) : Option (Int × aM) := (Rows_isRow x1 mm).bind fun r1 => (if r1 = 0 then (some ((-2), mm)) else (if x2 < 0 then (some ((-2), mm)) else (if 3 < x2 then (some ((-2), mm)) else ((Rows_isMissing x1 mm).bind fun r5 => (if r5 = 0 then ((Verdict_hear x1 mm).bind fun r7 => (if x2 = 0 then (some (r7 59 2, r7)) else (if x2 = 1 then (if (r7 59 5) = 0 then (some (0, r7)) else (some (1, r7))) else (if x2 = 2 then (some (r7 59 3, r7)) else (some (r7 59 4, r7)))))) else (some ((-6), mm)))))))
set_option maxHeartbeats 4000000 in
theorem met_B_judge {l : Launch} {D : va_G} {cA : FieldType → ClassId} {ad adV : Nat → Nat} {z0 : Nat} {x1 : Int} {x2 : Int} {mm : aM}  {r : Int × aM} (h : B_judge x1 x2 mm = some r) : aMet l D cA ad adV z0 mX11_judge 2 50 0 0 [.inr (.inr (.inl (some 0))), .inl x1, .inl x2] SH mm (rIM r).1 SH (rIM r).2 := by
  refine aMet_ofG (by decide +kernel) rfl (Nat.le_of_ble_eq_true rfl) h (fun p e s m args below meth c al0 K => ?_)
  unfold B_judge
  refine gl (i' := 1) (fun _ _ => aw_aload_n K (dOf ck_mX11_judge rfl rfl) rfl) ?_
  refine gl (i' := 2) (fun _ _ => aw_getf K (dOf ck_mX11_judge rfl rfl) rfl rfl (Nat.le_of_ble_eq_true rfl) wd_464 (k := 4) rfl) ?_
  refine gl (i' := 3) (fun _ _ => aw_iload_n K (dOf ck_mX11_judge rfl rfl) rfl) ?_
  refine g_callVI K [.inl _] rfl (dOf ck_mX11_judge rfl rfl) al_OneBreath_206 rfl rfl ⟨wd_688, wd_689⟩ rfl (Nat.le_of_ble_eq_true rfl) ⟨Nat.le_of_ble_eq_true rfl, Nat.le_of_ble_eq_true rfl⟩ (fun b hb => met_Rows_isRow  hb) (fun r1 hr1 => ?_)
  refine g_if_eq K (dOf ck_mX11_judge rfl rfl) (t := 10) (aJ_of (by decide +kernel)) (fun h2 => ?_) (fun h2 => ?_)
  · refine gl (i' := 11) (fun _ _ => aw_bip K (dOf ck_mX11_judge rfl rfl) (v := -2) rfl) ?_
    exact g_iret K (dOf ck_mX11_judge rfl rfl).1 rfl (Or.inl rfl) rfl
  · refine gl (i' := 6) (fun _ _ => aw_iload_n K (dOf ck_mX11_judge rfl rfl) rfl) ?_
    refine g_if_lt K (dOf ck_mX11_judge rfl rfl) (t := 10) (aJ_of (by decide +kernel)) (fun h3 => ?_) (fun h3 => ?_)
    · refine gl (i' := 11) (fun _ _ => aw_bip K (dOf ck_mX11_judge rfl rfl) (v := -2) rfl) ?_
      exact g_iret K (dOf ck_mX11_judge rfl rfl).1 rfl (Or.inl rfl) rfl
    · refine gl (i' := 8) (fun _ _ => aw_iload_n K (dOf ck_mX11_judge rfl rfl) rfl) ?_
      refine gl (i' := 9) (fun _ _ => aw_iconst K (n := 3) (i32 _ rfl) (dOf ck_mX11_judge rfl rfl)) ?_
      refine g_icmp_le K (dOf ck_mX11_judge rfl rfl) (t := 12) (aJ_of (by decide +kernel)) (fun h4 => ?_) (fun h4 => ?_)
      · refine gl (i' := 11) (fun _ _ => aw_bip K (dOf ck_mX11_judge rfl rfl) (v := -2) rfl) ?_
        exact g_iret K (dOf ck_mX11_judge rfl rfl).1 rfl (Or.inl rfl) rfl
      · refine gl (i' := 13) (fun _ _ => aw_aload_n K (dOf ck_mX11_judge rfl rfl) rfl) ?_
        refine gl (i' := 14) (fun _ _ => aw_getf K (dOf ck_mX11_judge rfl rfl) rfl rfl (Nat.le_of_ble_eq_true rfl) wd_464 (k := 4) rfl) ?_
        refine gl (i' := 15) (fun _ _ => aw_iload_n K (dOf ck_mX11_judge rfl rfl) rfl) ?_
        refine g_callVI K [.inl _] rfl (dOf ck_mX11_judge rfl rfl) al_OneBreath_209 rfl rfl ⟨wd_692, wd_693⟩ rfl (Nat.le_of_ble_eq_true rfl) ⟨Nat.le_of_ble_eq_true rfl, Nat.le_of_ble_eq_true rfl⟩ (fun b hb => met_Rows_isMissing  hb) (fun r5 hr5 => ?_)
        refine g_if_eq K (dOf ck_mX11_judge rfl rfl) (t := 19) (aJ_of (by decide +kernel)) (fun h6 => ?_) (fun h6 => ?_)
        · refine gl (i' := 20) (fun _ _ => aw_aload_n K (dOf ck_mX11_judge rfl rfl) rfl) ?_
          refine gl (i' := 21) (fun _ _ => aw_getf K (dOf ck_mX11_judge rfl rfl) rfl rfl (Nat.le_of_ble_eq_true rfl) wd_465 (k := 5) rfl) ?_
          refine gl (i' := 22) (fun _ _ => aw_aload_n K (dOf ck_mX11_judge rfl rfl) rfl) ?_
          refine gl (i' := 23) (fun _ _ => aw_getf K (dOf ck_mX11_judge rfl rfl) rfl rfl (Nat.le_of_ble_eq_true rfl) wd_461 (k := 1) rfl) ?_
          refine gl (i' := 24) (fun _ _ => aw_aload_n K (dOf ck_mX11_judge rfl rfl) rfl) ?_
          refine gl (i' := 25) (fun _ _ => aw_getf K (dOf ck_mX11_judge rfl rfl) rfl rfl (Nat.le_of_ble_eq_true rfl) wd_464 (k := 4) rfl) ?_
          refine gl (i' := 26) (fun _ _ => aw_iload_n K (dOf ck_mX11_judge rfl rfl) rfl) ?_
          refine g_callVM K [.inr (.inr (.inl (some _))), .inr (.inr (.inl (some _))), .inl _] rfl (dOf ck_mX11_judge rfl rfl) al_OneBreath_212 rfl rfl ⟨wd_696, wd_697⟩ rfl (Nat.le_of_ble_eq_true rfl) ⟨Nat.le_of_ble_eq_true rfl, Nat.le_of_ble_eq_true rfl⟩ (fun b hb => met_Verdict_hear  hb) (fun r7 hr7 => ?_)
          refine gl (i' := 28) (fun _ _ => aw_iload_n K (dOf ck_mX11_judge rfl rfl) rfl) ?_
          refine g_if (fun h8 => ?_) (fun h8 => ?_)
          · refine gl (fun _ _ => aw_tableIn K (dOf (n := 26) ck_mX11_judge rfl rfl).1 (by omega) (by omega) (off := 26) (by rw [h8]; rfl) (t := 29) (aJ_of (by decide +kernel))) ?_
            refine gl (i' := 30) (fun _ _ => aw_aload_n K (dOf ck_mX11_judge rfl rfl) rfl) ?_
            refine gl (i' := 31) (fun _ _ => aw_getf K (dOf ck_mX11_judge rfl rfl) rfl rfl (Nat.le_of_ble_eq_true rfl) wd_465 (k := 5) rfl) ?_
            refine gl (i' := 32) (fun _ _ => aw_getf K (dOf ck_mX11_judge rfl rfl) rfl rfl (Nat.le_of_ble_eq_true rfl) wd_329 (k := 2) rfl) ?_
            exact g_iret K (dOf ck_mX11_judge rfl rfl).1 rfl (Or.inl rfl) rfl
          · refine g_if (fun h9 => ?_) (fun h9 => ?_)
            · refine gl (fun _ _ => aw_tableIn K (dOf (n := 26) ck_mX11_judge rfl rfl).1 (by omega) (by omega) (off := 34) (by rw [h9]; rfl) (t := 33) (aJ_of (by decide +kernel))) ?_
              refine gl (i' := 34) (fun _ _ => aw_aload_n K (dOf ck_mX11_judge rfl rfl) rfl) ?_
              refine gl (i' := 35) (fun _ _ => aw_getf K (dOf ck_mX11_judge rfl rfl) rfl rfl (Nat.le_of_ble_eq_true rfl) wd_465 (k := 5) rfl) ?_
              refine gl (i' := 36) (fun _ _ => aw_getf K (dOf ck_mX11_judge rfl rfl) rfl rfl (Nat.le_of_ble_eq_true rfl) wd_335 (k := 5) rfl) ?_
              refine g_if_eq K (dOf ck_mX11_judge rfl rfl) (t := 39) (aJ_of (by decide +kernel)) (fun h10 => ?_) (fun h10 => ?_)
              · refine gl (i' := 40) (fun _ _ => aw_iconst K (n := 0) (i32 _ rfl) (dOf ck_mX11_judge rfl rfl)) ?_
                exact g_iret K (dOf ck_mX11_judge rfl rfl).1 rfl (Or.inl rfl) rfl
              · refine gl (i' := 38) (fun _ _ => aw_iconst K (n := 1) (i32 _ rfl) (dOf ck_mX11_judge rfl rfl)) ?_
                refine g_goto K (dOf ck_mX11_judge rfl rfl).1 (t := 40) (aJ_of (by decide +kernel)) ?_
                exact g_iret K (dOf ck_mX11_judge rfl rfl).1 rfl (Or.inl rfl) rfl
            · refine g_if (fun h11 => ?_) (fun h11 => ?_)
              · refine gl (fun _ _ => aw_tableIn K (dOf (n := 26) ck_mX11_judge rfl rfl).1 (by omega) (by omega) (off := 50) (by rw [h11]; rfl) (t := 41) (aJ_of (by decide +kernel))) ?_
                refine gl (i' := 42) (fun _ _ => aw_aload_n K (dOf ck_mX11_judge rfl rfl) rfl) ?_
                refine gl (i' := 43) (fun _ _ => aw_getf K (dOf ck_mX11_judge rfl rfl) rfl rfl (Nat.le_of_ble_eq_true rfl) wd_465 (k := 5) rfl) ?_
                refine gl (i' := 44) (fun _ _ => aw_getf K (dOf ck_mX11_judge rfl rfl) rfl rfl (Nat.le_of_ble_eq_true rfl) wd_331 (k := 3) rfl) ?_
                exact g_iret K (dOf ck_mX11_judge rfl rfl).1 rfl (Or.inl rfl) rfl
              · refine gl (fun _ _ => aw_tableOut K (dOf (n := 26) ck_mX11_judge rfl rfl).1 (by omega) (t := 45) (aJ_of (by decide +kernel))) ?_
                refine gl (i' := 46) (fun _ _ => aw_aload_n K (dOf ck_mX11_judge rfl rfl) rfl) ?_
                refine gl (i' := 47) (fun _ _ => aw_getf K (dOf ck_mX11_judge rfl rfl) rfl rfl (Nat.le_of_ble_eq_true rfl) wd_465 (k := 5) rfl) ?_
                refine gl (i' := 48) (fun _ _ => aw_getf K (dOf ck_mX11_judge rfl rfl) rfl rfl (Nat.le_of_ble_eq_true rfl) wd_333 (k := 4) rfl) ?_
                exact g_iret K (by decide +kernel) rfl (Or.inl rfl) rfl
        · refine gl (i' := 18) (fun _ _ => aw_bip K (dOf ck_mX11_judge rfl rfl) (v := -6) rfl) ?_
          exact g_iret K (dOf ck_mX11_judge rfl rfl).1 rfl (Or.inl rfl) rfl
def Verdict_sayInto_11 (k5 : Int → aM → Option aM) (x2 : Nat) (x3 : Int) : Nat → Int → aM → Option aM
  | 0, _, _ => none
  | n + 1, x4, mm => if 0 ≤ x3 ∧ x3 < 40 then (if 0 ≤ (mm 60 x3.toNat) ∧ (mm 60 x3.toNat) < 12 then (if x4 < (mm 41 (mm 60 x3.toNat).toNat) then (if 0 ≤ x4 ∧ x4 < 6 then ((Sounds_add x2 (mm (25 + 4 + (mm 60 x3.toNat).toNat) x4.toNat) mm).bind fun r7 => (Verdict_sayInto_11 k5 x2 x3 n (w32 (x4 + 1)) r7)) else none) else (k5 (w32 (x3 + 1)) mm)) else none) else none
set_option maxHeartbeats 4000000 in
theorem lk_Verdict_sayInto_11 {p : Program} {l : Launch} {e : Env} {s : State} {m : MethodId} {args : Array Value} {below : List Frame} {meth : Method} {c : Code} {D : va_G} {cA : FieldType → ClassId} {ad adV : Nat → Nat} {z0 : Nat} {al0 : List Nat} (K : aK p s m args meth c mX10_sayInto D cA ad adV z0) {x2 : Nat} (x3 : Int) (hx2 : okS x2) (k5 : Int → aM → Option aM) (hk5 : ∀ (x3 : Int) (mm : aM), aG p l e { frames := 1, cells := 0, slots := 0, locals := 21 } s m args below meth c D cA ad z0 mX10_sayInto al0 rM (k5 x3 mm) 5 [(0, .inr (.inr (.inl (some 59)))), (1, .inr (.inr (.inl (some 25)))), (2, .inr (.inr (.inl (some x2)))), (3, .inl x3)] [] mm)  : ∀ (n : Nat) (x4 : Int) (mm : aM), aG p l e { frames := 1, cells := 0, slots := 0, locals := 21 } s m args below meth c D cA ad z0 mX10_sayInto al0 rM (Verdict_sayInto_11 k5 x2 x3 n x4 mm) 11 [(0, .inr (.inr (.inl (some 59)))), (1, .inr (.inr (.inl (some 25)))), (2, .inr (.inr (.inl (some x2)))), (3, .inl x3), (4, .inl x4)] [] mm := by
  intro n
  induction n with
  | zero => intro x4 mm; exact g_none
  | succ n ih =>
    intro x4 mm
    rw [Verdict_sayInto_11]
    refine gl (i' := 12) (fun _ _ => aw_iload K (dOf ck_mX10_sayInto rfl rfl) rfl) ?_
    refine gl (i' := 13) (fun _ _ => aw_aload_n K (dOf ck_mX10_sayInto rfl rfl) rfl) ?_
    refine gl (i' := 14) (fun _ _ => aw_getf K (dOf ck_mX10_sayInto rfl rfl) rfl rfl (Nat.le_of_ble_eq_true rfl) wd_239 (k := 9) rfl) ?_
    refine gl (i' := 15) (fun _ _ => aw_aload_n K (dOf ck_mX10_sayInto rfl rfl) rfl) ?_
    refine gl (i' := 16) (fun _ _ => aw_getf K (dOf ck_mX10_sayInto rfl rfl) rfl rfl (Nat.le_of_ble_eq_true rfl) wd_324 (k := 0) rfl) ?_
    refine gl (i' := 17) (fun _ _ => aw_iload_n K (dOf ck_mX10_sayInto rfl rfl) rfl) ?_
    refine g_gd (fun hb3 => ?_)
    refine gl (i' := 18) (fun _ _ => aw_iald K (dOf ck_mX10_sayInto rfl rfl) rfl hb3) ?_
    refine g_gd (fun hb4 => ?_)
    refine gl (i' := 19) (fun _ _ => aw_iald K (dOf ck_mX10_sayInto rfl rfl) rfl hb4) ?_
    refine g_icmp_ge K (dOf ck_mX10_sayInto rfl rfl) (t := 33) (aJ_of (by decide +kernel)) (fun h5 => ?_) (fun h5 => ?_)
    · refine gl (i' := 21) (fun _ _ => aw_aload_n K (dOf ck_mX10_sayInto rfl rfl) rfl) ?_
      refine gl (i' := 22) (fun _ _ => aw_aload_n K (dOf ck_mX10_sayInto rfl rfl) rfl) ?_
      refine gl (i' := 23) (fun _ _ => aw_getf K (dOf ck_mX10_sayInto rfl rfl) rfl rfl (Nat.le_of_ble_eq_true rfl) wd_230 (k := 8) rfl) ?_
      refine gl (i' := 24) (fun _ _ => aw_aload_n K (dOf ck_mX10_sayInto rfl rfl) rfl) ?_
      refine gl (i' := 25) (fun _ _ => aw_getf K (dOf ck_mX10_sayInto rfl rfl) rfl rfl (Nat.le_of_ble_eq_true rfl) wd_324 (k := 0) rfl) ?_
      refine gl (i' := 26) (fun _ _ => aw_iload_n K (dOf ck_mX10_sayInto rfl rfl) rfl) ?_
      refine gl (i' := 27) (fun _ _ => aw_iald K (dOf ck_mX10_sayInto rfl rfl) rfl hb3) ?_
      refine gl (i' := 28) (fun _ _ => aw_aald K (dOf ck_mX10_sayInto rfl rfl) (shTa (t := 25) (by unfold okT; omega)) hb4 (rsT_at hb4)) ?_
      refine gl (i' := 29) (fun _ _ => aw_iload K (dOf ck_mX10_sayInto rfl rfl) rfl) ?_
      refine g_gd (fun hb6 => ?_)
      refine gl (i' := 30) (fun _ _ => aw_bald K (dOf ck_mX10_sayInto rfl rfl) (shTr (t := 25) (by unfold okT; omega) hb4) hb6) ?_
      refine g_callVM K [.inl _] rfl (dOf ck_mX10_sayInto rfl rfl) al_OneBreath_Verdict_72 (shS_0 hx2) rfl ⟨wd_660, wd_661⟩ rfl (Nat.le_of_ble_eq_true rfl) ⟨Nat.le_of_ble_eq_true rfl, Nat.le_of_ble_eq_true rfl⟩ (fun b hb => met_Sounds_add hx2 hb) (fun r7 hr7 => ?_)
      refine gl (i' := 32) (fun _ _ => aw_iinc K (dOf ck_mX10_sayInto rfl rfl) (Nat.le_of_ble_eq_true rfl) rfl) ?_
      refine g_lv (lv' := [(4, .inl _), (0, .inr (.inr (.inl (some _)))), (1, .inr (.inr (.inl (some _)))), (2, .inr (.inr (.inl (some _)))), (3, .inl _)]) rfl ?_
      refine g_goto K (dOf ck_mX10_sayInto rfl rfl).1 (t := 11) (aJ_of (by decide +kernel)) ?_
      refine g_sub [1, 2, 3, 4, 0] rfl ?_
      exact ih _ _
    · refine gl (i' := 34) (fun _ _ => aw_iinc K (dOf ck_mX10_sayInto rfl rfl) (Nat.le_of_ble_eq_true rfl) rfl) ?_
      refine g_lv (lv' := [(3, .inl _), (0, .inr (.inr (.inl (some _)))), (1, .inr (.inr (.inl (some _)))), (2, .inr (.inr (.inl (some _)))), (4, .inl _)]) rfl ?_
      refine g_goto K (dOf ck_mX10_sayInto rfl rfl).1 (t := 5) (aJ_of (by decide +kernel)) ?_
      refine g_sub [1, 2, 3, 0] rfl ?_
      exact hk5 _ _
def Verdict_sayInto_5 (x2 : Nat) : Nat → Int → aM → Option aM
  | 0, _, _ => none
  | n + 1, x3, mm => if x3 < (mm 59 1) then (Verdict_sayInto_11 (Verdict_sayInto_5 x2 n) x2 x3 FU 0 mm) else (some mm)
set_option maxHeartbeats 4000000 in
theorem lk_Verdict_sayInto_5 {p : Program} {l : Launch} {e : Env} {s : State} {m : MethodId} {args : Array Value} {below : List Frame} {meth : Method} {c : Code} {D : va_G} {cA : FieldType → ClassId} {ad adV : Nat → Nat} {z0 : Nat} {al0 : List Nat} (K : aK p s m args meth c mX10_sayInto D cA ad adV z0) {x2 : Nat} (hx2 : okS x2)  : ∀ (n : Nat) (x3 : Int) (mm : aM), aG p l e { frames := 1, cells := 0, slots := 0, locals := 21 } s m args below meth c D cA ad z0 mX10_sayInto al0 rM (Verdict_sayInto_5 x2 n x3 mm) 5 [(0, .inr (.inr (.inl (some 59)))), (1, .inr (.inr (.inl (some 25)))), (2, .inr (.inr (.inl (some x2)))), (3, .inl x3)] [] mm := by
  intro n
  induction n with
  | zero => intro x3 mm; exact g_none
  | succ n ih =>
    intro x3 mm
    rw [Verdict_sayInto_5]
    refine gl (i' := 6) (fun _ _ => aw_iload_n K (dOf ck_mX10_sayInto rfl rfl) rfl) ?_
    refine gl (i' := 7) (fun _ _ => aw_aload_n K (dOf ck_mX10_sayInto rfl rfl) rfl) ?_
    refine gl (i' := 8) (fun _ _ => aw_getf K (dOf ck_mX10_sayInto rfl rfl) rfl rfl (Nat.le_of_ble_eq_true rfl) wd_326 (k := 1) rfl) ?_
    refine g_icmp_ge K (dOf ck_mX10_sayInto rfl rfl) (t := 35) (aJ_of (by decide +kernel)) (fun h2 => ?_) (fun h2 => ?_)
    · refine gl (i' := 10) (fun _ _ => aw_iconst K (n := 0) (i32 _ rfl) (dOf ck_mX10_sayInto rfl rfl)) ?_
      refine gl (i' := 11) (fun _ _ => aw_istore K (dOf ck_mX10_sayInto rfl rfl) (Nat.le_of_ble_eq_true rfl)) ?_
      refine g_lv (lv' := [(4, .inl _), (0, .inr (.inr (.inl (some _)))), (1, .inr (.inr (.inl (some _)))), (2, .inr (.inr (.inl (some _)))), (3, .inl _)]) rfl ?_
      refine g_sub [1, 2, 3, 4, 0] rfl ?_
      exact lk_Verdict_sayInto_11 K _ hx2 _ ih FU _ _
    · exact g_vret K (by decide +kernel) rfl rfl
def Verdict_sayInto (x2 : Nat) (mm : aM) : Option aM := st1 (aup mm x2 1 0) fun mm1 => (Verdict_sayInto_5 x2 FU 0 mm1)
set_option maxHeartbeats 4000000 in
theorem met_Verdict_sayInto {l : Launch} {D : va_G} {cA : FieldType → ClassId} {ad adV : Nat → Nat} {z0 : Nat} {x2 : Nat} {mm : aM} (hx2 : okS x2) {r : aM} (h : Verdict_sayInto x2 mm = some r) : aMet l D cA ad adV z0 mX10_sayInto 1 21 0 0 [.inr (.inr (.inl (some 59))), .inr (.inr (.inl (some 25))), .inr (.inr (.inl (some x2)))] SH mm (rM r).1 SH (rM r).2 := by
  refine aMet_ofG (by decide +kernel) rfl (Nat.le_of_ble_eq_true rfl) h (fun p e s m args below meth c al0 K => ?_)
  unfold Verdict_sayInto
  refine gl (i' := 1) (fun _ _ => aw_aload_n K (dOf ck_mX10_sayInto rfl rfl) rfl) ?_
  refine gl (i' := 2) (fun _ _ => aw_iconst K (n := 0) (i32 _ rfl) (dOf ck_mX10_sayInto rfl rfl)) ?_
  refine g_st1 ?_
  refine gl (i' := 3) (fun _ _ => aw_putf K (dOf ck_mX10_sayInto rfl rfl) (shS_0 hx2) rfl (Nat.le_of_ble_eq_true rfl) wd_300 (k := 1) rfl rfl (Or.inl rfl)) ?_
  refine gl (i' := 4) (fun _ _ => aw_iconst K (n := 0) (i32 _ rfl) (dOf ck_mX10_sayInto rfl rfl)) ?_
  refine gl (i' := 5) (fun _ _ => aw_istore_n K (dOf ck_mX10_sayInto rfl rfl) (Nat.le_of_ble_eq_true rfl)) ?_
  refine g_lv (lv' := [(3, .inl _), (0, .inr (.inr (.inl (some _)))), (1, .inr (.inr (.inl (some _)))), (2, .inr (.inr (.inl (some _))))]) rfl ?_
  refine g_sub [1, 2, 3, 0] rfl ?_
  exact lk_Verdict_sayInto_5 K hx2 FU _ _
def B_say (x1 : Int) (mm : aM) : Option (Int × aM) := (Rows_isRow x1 mm).bind fun r1 => (if r1 = 0 then (some ((-2), mm)) else ((Rows_isMissing x1 mm).bind fun r3 => (if r3 = 0 then ((Verdict_hear x1 mm).bind fun r5 => (if (r5 59 5) = 0 then (some ((-3), r5)) else (if 40 < (r5 59 3) then (some ((-5), r5)) else ((Verdict_sayInto 47 r5).bind fun r8 => ((Cutter_forget 61 r8).bind fun r9 => (some (r9 47 1, r9))))))) else (some ((-6), mm)))))
set_option maxHeartbeats 4000000 in
theorem met_B_say {l : Launch} {D : va_G} {cA : FieldType → ClassId} {ad adV : Nat → Nat} {z0 : Nat} {x1 : Int} {mm : aM}  {r : Int × aM} (h : B_say x1 mm = some r) : aMet l D cA ad adV z0 mX11_say 2 50 0 0 [.inr (.inr (.inl (some 0))), .inl x1] SH mm (rIM r).1 SH (rIM r).2 := by
  refine aMet_ofG (by decide +kernel) rfl (Nat.le_of_ble_eq_true rfl) h (fun p e s m args below meth c al0 K => ?_)
  unfold B_say
  refine gl (i' := 1) (fun _ _ => aw_aload_n K (dOf ck_mX11_say rfl rfl) rfl) ?_
  refine gl (i' := 2) (fun _ _ => aw_getf K (dOf ck_mX11_say rfl rfl) rfl rfl (Nat.le_of_ble_eq_true rfl) wd_464 (k := 4) rfl) ?_
  refine gl (i' := 3) (fun _ _ => aw_iload_n K (dOf ck_mX11_say rfl rfl) rfl) ?_
  refine g_callVI K [.inl _] rfl (dOf ck_mX11_say rfl rfl) al_OneBreath_206 rfl rfl ⟨wd_688, wd_689⟩ rfl (Nat.le_of_ble_eq_true rfl) ⟨Nat.le_of_ble_eq_true rfl, Nat.le_of_ble_eq_true rfl⟩ (fun b hb => met_Rows_isRow  hb) (fun r1 hr1 => ?_)
  refine g_if_ne K (dOf ck_mX11_say rfl rfl) (t := 7) (aJ_of (by decide +kernel)) (fun h2 => ?_) (fun h2 => ?_)
  · refine gl (i' := 6) (fun _ _ => aw_bip K (dOf ck_mX11_say rfl rfl) (v := -2) rfl) ?_
    exact g_iret K (dOf ck_mX11_say rfl rfl).1 rfl (Or.inl rfl) rfl
  · refine gl (i' := 8) (fun _ _ => aw_aload_n K (dOf ck_mX11_say rfl rfl) rfl) ?_
    refine gl (i' := 9) (fun _ _ => aw_getf K (dOf ck_mX11_say rfl rfl) rfl rfl (Nat.le_of_ble_eq_true rfl) wd_464 (k := 4) rfl) ?_
    refine gl (i' := 10) (fun _ _ => aw_iload_n K (dOf ck_mX11_say rfl rfl) rfl) ?_
    refine g_callVI K [.inl _] rfl (dOf ck_mX11_say rfl rfl) al_OneBreath_209 rfl rfl ⟨wd_692, wd_693⟩ rfl (Nat.le_of_ble_eq_true rfl) ⟨Nat.le_of_ble_eq_true rfl, Nat.le_of_ble_eq_true rfl⟩ (fun b hb => met_Rows_isMissing  hb) (fun r3 hr3 => ?_)
    refine g_if_eq K (dOf ck_mX11_say rfl rfl) (t := 14) (aJ_of (by decide +kernel)) (fun h4 => ?_) (fun h4 => ?_)
    · refine gl (i' := 15) (fun _ _ => aw_aload_n K (dOf ck_mX11_say rfl rfl) rfl) ?_
      refine gl (i' := 16) (fun _ _ => aw_getf K (dOf ck_mX11_say rfl rfl) rfl rfl (Nat.le_of_ble_eq_true rfl) wd_465 (k := 5) rfl) ?_
      refine gl (i' := 17) (fun _ _ => aw_aload_n K (dOf ck_mX11_say rfl rfl) rfl) ?_
      refine gl (i' := 18) (fun _ _ => aw_getf K (dOf ck_mX11_say rfl rfl) rfl rfl (Nat.le_of_ble_eq_true rfl) wd_461 (k := 1) rfl) ?_
      refine gl (i' := 19) (fun _ _ => aw_aload_n K (dOf ck_mX11_say rfl rfl) rfl) ?_
      refine gl (i' := 20) (fun _ _ => aw_getf K (dOf ck_mX11_say rfl rfl) rfl rfl (Nat.le_of_ble_eq_true rfl) wd_464 (k := 4) rfl) ?_
      refine gl (i' := 21) (fun _ _ => aw_iload_n K (dOf ck_mX11_say rfl rfl) rfl) ?_
      refine g_callVM K [.inr (.inr (.inl (some _))), .inr (.inr (.inl (some _))), .inl _] rfl (dOf ck_mX11_say rfl rfl) al_OneBreath_212 rfl rfl ⟨wd_696, wd_697⟩ rfl (Nat.le_of_ble_eq_true rfl) ⟨Nat.le_of_ble_eq_true rfl, Nat.le_of_ble_eq_true rfl⟩ (fun b hb => met_Verdict_hear  hb) (fun r5 hr5 => ?_)
      refine gl (i' := 23) (fun _ _ => aw_aload_n K (dOf ck_mX11_say rfl rfl) rfl) ?_
      refine gl (i' := 24) (fun _ _ => aw_getf K (dOf ck_mX11_say rfl rfl) rfl rfl (Nat.le_of_ble_eq_true rfl) wd_465 (k := 5) rfl) ?_
      refine gl (i' := 25) (fun _ _ => aw_getf K (dOf ck_mX11_say rfl rfl) rfl rfl (Nat.le_of_ble_eq_true rfl) wd_335 (k := 5) rfl) ?_
      refine g_if_ne K (dOf ck_mX11_say rfl rfl) (t := 28) (aJ_of (by decide +kernel)) (fun h6 => ?_) (fun h6 => ?_)
      · refine gl (i' := 27) (fun _ _ => aw_bip K (dOf ck_mX11_say rfl rfl) (v := -3) rfl) ?_
        exact g_iret K (dOf ck_mX11_say rfl rfl).1 rfl (Or.inl rfl) rfl
      · refine gl (i' := 29) (fun _ _ => aw_aload_n K (dOf ck_mX11_say rfl rfl) rfl) ?_
        refine gl (i' := 30) (fun _ _ => aw_getf K (dOf ck_mX11_say rfl rfl) rfl rfl (Nat.le_of_ble_eq_true rfl) wd_465 (k := 5) rfl) ?_
        refine gl (i' := 31) (fun _ _ => aw_getf K (dOf ck_mX11_say rfl rfl) rfl rfl (Nat.le_of_ble_eq_true rfl) wd_331 (k := 3) rfl) ?_
        refine gl (i' := 32) (fun _ _ => aw_bip K (dOf ck_mX11_say rfl rfl) (v := 40) rfl) ?_
        refine g_icmp_le K (dOf ck_mX11_say rfl rfl) (t := 35) (aJ_of (by decide +kernel)) (fun h7 => ?_) (fun h7 => ?_)
        · refine gl (i' := 34) (fun _ _ => aw_bip K (dOf ck_mX11_say rfl rfl) (v := -5) rfl) ?_
          exact g_iret K (dOf ck_mX11_say rfl rfl).1 rfl (Or.inl rfl) rfl
        · refine gl (i' := 36) (fun _ _ => aw_aload_n K (dOf ck_mX11_say rfl rfl) rfl) ?_
          refine gl (i' := 37) (fun _ _ => aw_getf K (dOf ck_mX11_say rfl rfl) rfl rfl (Nat.le_of_ble_eq_true rfl) wd_465 (k := 5) rfl) ?_
          refine gl (i' := 38) (fun _ _ => aw_aload_n K (dOf ck_mX11_say rfl rfl) rfl) ?_
          refine gl (i' := 39) (fun _ _ => aw_getf K (dOf ck_mX11_say rfl rfl) rfl rfl (Nat.le_of_ble_eq_true rfl) wd_461 (k := 1) rfl) ?_
          refine gl (i' := 40) (fun _ _ => aw_aload_n K (dOf ck_mX11_say rfl rfl) rfl) ?_
          refine gl (i' := 41) (fun _ _ => aw_getf K (dOf ck_mX11_say rfl rfl) rfl rfl (Nat.le_of_ble_eq_true rfl) wd_462 (k := 2) rfl) ?_
          refine g_callVM K [.inr (.inr (.inl (some _))), .inr (.inr (.inl (some _)))] rfl (dOf ck_mX11_say rfl rfl) al_OneBreath_226 rfl rfl ⟨wd_713, wd_714⟩ rfl (Nat.le_of_ble_eq_true rfl) ⟨Nat.le_of_ble_eq_true rfl, Nat.le_of_ble_eq_true rfl⟩ (fun b hb => met_Verdict_sayInto (by unfold okS; omega) hb) (fun r8 hr8 => ?_)
          refine gl (i' := 43) (fun _ _ => aw_aload_n K (dOf ck_mX11_say rfl rfl) rfl) ?_
          refine gl (i' := 44) (fun _ _ => aw_getf K (dOf ck_mX11_say rfl rfl) rfl rfl (Nat.le_of_ble_eq_true rfl) wd_466 (k := 6) rfl) ?_
          refine g_callVM K [] rfl (dOf ck_mX11_say rfl rfl) al_OneBreath_230 rfl rfl ⟨wd_616, wd_617⟩ rfl (Nat.le_of_ble_eq_true rfl) ⟨Nat.le_of_ble_eq_true rfl, Nat.le_of_ble_eq_true rfl⟩ (fun b hb => met_Cutter_forget (by unfold okC; omega) hb) (fun r9 hr9 => ?_)
          refine gl (i' := 46) (fun _ _ => aw_aload_n K (dOf ck_mX11_say rfl rfl) rfl) ?_
          refine gl (i' := 47) (fun _ _ => aw_getf K (dOf ck_mX11_say rfl rfl) rfl rfl (Nat.le_of_ble_eq_true rfl) wd_462 (k := 2) rfl) ?_
          refine gl (i' := 48) (fun _ _ => aw_getf K (dOf ck_mX11_say rfl rfl) rfl rfl (Nat.le_of_ble_eq_true rfl) wd_303 (k := 1) rfl) ?_
          exact g_iret K (by decide +kernel) rfl (Or.inl rfl) rfl
    · refine gl (i' := 13) (fun _ _ => aw_bip K (dOf ck_mX11_say rfl rfl) (v := -6) rfl) ?_
      exact g_iret K (dOf ck_mX11_say rfl rfl).1 rfl (Or.inl rfl) rfl
