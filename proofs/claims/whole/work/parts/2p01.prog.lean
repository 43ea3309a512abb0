def Tongue_begins_10 (mm : aM) (t : Nat) (x1 : Nat) (x2 : Int) (x3 : Int) : Nat → Int → Option Int
  | 0, _ => none
  | n + 1, x4 => if x4 < x2 then (if 0 ≤ x4 ∧ x4 < aln x1 then (if 0 ≤ x3 ∧ x3 < 12 then (if 0 ≤ x4 ∧ x4 < 6 then (if (mm x1 x4.toNat) = (mm (t + 4 + x3.toNat) x4.toNat) then (Tongue_begins_10 mm t x1 x2 x3 n (w32 (x4 + 1))) else (some 0)) else none) else none) else none) else (some 1)
set_option maxHeartbeats 4000000 in
theorem lk_Tongue_begins_10 {p : Program} {l : Launch} {e : Env} {s : State} {m : MethodId} {args : Array Value} {below : List Frame} {meth : Method} {c : Code} {D : va_G} {cA : FieldType → ClassId} {ad adV : Nat → Nat} {z0 : Nat} {al0 : List Nat} {mm : aM} (K : aK p s m args meth c mX8_begins D cA ad adV z0) {t : Nat} {x1 : Nat} (x2 : Int) (x3 : Int) (ht : okT t) (hx1 : okB x1)  : ∀ (n : Nat) (x4 : Int), aG p l e { frames := 0, cells := 0, slots := 0, locals := 0 } s m args below meth c D cA ad z0 mX8_begins al0 (rI mm) (Tongue_begins_10 mm t x1 x2 x3 n x4) 10 [(0, .inr (.inr (.inl (some t)))), (1, .inr (.inr (.inl (some x1)))), (2, .inl x2), (3, .inl x3), (4, .inl x4)] [] mm := by
  intro n
  induction n with
  | zero => intro x4; exact g_none
  | succ n ih =>
    intro x4
    rw [Tongue_begins_10]
    refine gl (i' := 11) (fun _ _ => aw_iload K (dOf ck_mX8_begins rfl rfl) rfl) ?_
    refine gl (i' := 12) (fun _ _ => aw_iload_n K (dOf ck_mX8_begins rfl rfl) rfl) ?_
    refine g_icmp_ge K (dOf ck_mX8_begins rfl rfl) (t := 27) (aJ_of (by decide +kernel)) (fun h3 => ?_) (fun h3 => ?_)
    · refine gl (i' := 14) (fun _ _ => aw_aload_n K (dOf ck_mX8_begins rfl rfl) rfl) ?_
      refine gl (i' := 15) (fun _ _ => aw_iload K (dOf ck_mX8_begins rfl rfl) rfl) ?_
      refine g_gd (fun hb4 => ?_)
      refine gl (i' := 16) (fun _ _ => aw_bald K (dOf ck_mX8_begins rfl rfl) (okB_at hx1) hb4) ?_
      refine gl (i' := 17) (fun _ _ => aw_aload_n K (dOf ck_mX8_begins rfl rfl) rfl) ?_
      refine gl (i' := 18) (fun _ _ => aw_getf K (dOf ck_mX8_begins rfl rfl) (shT_0 ht) rfl (Nat.le_of_ble_eq_true rfl) wd_226 (k := 8) rfl) ?_
      refine gl (i' := 19) (fun _ _ => aw_iload_n K (dOf ck_mX8_begins rfl rfl) rfl) ?_
      refine g_gd (fun hb5 => ?_)
      refine gl (i' := 20) (fun _ _ => aw_aald K (dOf ck_mX8_begins rfl rfl) (shTa ht) hb5 (rsT_at hb5)) ?_
      refine gl (i' := 21) (fun _ _ => aw_iload K (dOf ck_mX8_begins rfl rfl) rfl) ?_
      refine g_gd (fun hb6 => ?_)
      refine gl (i' := 22) (fun _ _ => aw_bald K (dOf ck_mX8_begins rfl rfl) (shTr ht hb5) hb6) ?_
      refine g_icmp_eq K (dOf ck_mX8_begins rfl rfl) (t := 25) (aJ_of (by decide +kernel)) (fun h7 => ?_) (fun h7 => ?_)
      · refine gl (i' := 26) (fun _ _ => aw_iinc K (dOf ck_mX8_begins rfl rfl) (Nat.le_of_ble_eq_true rfl) rfl) ?_
        refine g_lv (lv' := [(4, .inl _), (0, .inr (.inr (.inl (some _)))), (1, .inr (.inr (.inl (some _)))), (2, .inl _), (3, .inl _)]) rfl ?_
        refine g_goto K (dOf ck_mX8_begins rfl rfl).1 (t := 10) (aJ_of (by decide +kernel)) ?_
        refine g_sub [1, 2, 3, 4, 0] rfl ?_
        exact ih _
      · refine gl (i' := 24) (fun _ _ => aw_iconst K (n := 0) (i32 _ rfl) (dOf ck_mX8_begins rfl rfl)) ?_
        exact g_iret K (dOf ck_mX8_begins rfl rfl).1 rfl (Or.inr (Or.inl ⟨rfl, Or.inl rfl⟩)) rfl
    · refine gl (i' := 28) (fun _ _ => aw_iconst K (n := 1) (i32 _ rfl) (dOf ck_mX8_begins rfl rfl)) ?_
      exact g_iret K (by decide +kernel) rfl (Or.inr (Or.inl ⟨rfl, Or.inr rfl⟩)) rfl
def Tongue_begins (t : Nat) (x1 : Nat) (x2 : Int) (x3 : Int) (mm : aM) : Option Int := if 0 ≤ x3 ∧ x3 < 12 then (if (mm (t + 16) x3.toNat) < x2 then (some 0) else (Tongue_begins_10 mm t x1 x2 x3 FU 0)) else none
set_option maxHeartbeats 4000000 in
theorem met_Tongue_begins {l : Launch} {D : va_G} {cA : FieldType → ClassId} {ad adV : Nat → Nat} {z0 : Nat} {t : Nat} {x1 : Nat} {x2 : Int} {x3 : Int} {mm : aM} (ht : okT t) (hx1 : okB x1) {r : Int} (h : Tongue_begins t x1 x2 x3 mm = some r) : aMet l D cA ad adV z0 mX8_begins 0 0 0 0 [.inr (.inr (.inl (some t))), .inr (.inr (.inl (some x1))), .inl x2, .inl x3] SH mm ((rI mm) r).1 SH ((rI mm) r).2 := by
  refine aMet_ofG (by decide +kernel) rfl (Nat.le_of_ble_eq_true rfl) h (fun p e s m args below meth c al0 K => ?_)
  unfold Tongue_begins
  refine gl (i' := 1) (fun _ _ => aw_iload_n K (dOf ck_mX8_begins rfl rfl) rfl) ?_
  refine gl (i' := 2) (fun _ _ => aw_aload_n K (dOf ck_mX8_begins rfl rfl) rfl) ?_
  refine gl (i' := 3) (fun _ _ => aw_getf K (dOf ck_mX8_begins rfl rfl) (shT_0 ht) rfl (Nat.le_of_ble_eq_true rfl) wd_235 (k := 9) rfl) ?_
  refine gl (i' := 4) (fun _ _ => aw_iload_n K (dOf ck_mX8_begins rfl rfl) rfl) ?_
  refine g_gd (fun hb1 => ?_)
  refine gl (i' := 5) (fun _ _ => aw_iald K (dOf ck_mX8_begins rfl rfl) (shT_16 ht) hb1) ?_
  refine g_icmp_le K (dOf ck_mX8_begins rfl rfl) (t := 8) (aJ_of (by decide +kernel)) (fun h2 => ?_) (fun h2 => ?_)
  · refine gl (i' := 7) (fun _ _ => aw_iconst K (n := 0) (i32 _ rfl) (dOf ck_mX8_begins rfl rfl)) ?_
    exact g_iret K (dOf ck_mX8_begins rfl rfl).1 rfl (Or.inr (Or.inl ⟨rfl, Or.inl rfl⟩)) rfl
  · refine gl (i' := 9) (fun _ _ => aw_iconst K (n := 0) (i32 _ rfl) (dOf ck_mX8_begins rfl rfl)) ?_
    refine gl (i' := 10) (fun _ _ => aw_istore K (dOf ck_mX8_begins rfl rfl) (Nat.le_of_ble_eq_true rfl)) ?_
    refine g_lv (lv' := [(4, .inl _), (0, .inr (.inr (.inl (some _)))), (1, .inr (.inr (.inl (some _)))), (2, .inl _), (3, .inl _)]) rfl ?_
    refine g_sub [1, 2, 3, 4, 0] rfl ?_
    exact lk_Tongue_begins_10 K _ _ ht hx1 FU _
def Tongue_findWord_20 (mm : aM) (k2 : Int → Option Int) (t : Nat) (x1 : Nat) (x2 : Int) (x3 : Int) : Option Int := k2 (w32 (x3 + 1))
set_option maxHeartbeats 4000000 in
theorem lk_Tongue_findWord_20 {p : Program} {l : Launch} {e : Env} {s : State} {m : MethodId} {args : Array Value} {below : List Frame} {meth : Method} {c : Code} {D : va_G} {cA : FieldType → ClassId} {ad adV : Nat → Nat} {z0 : Nat} {al0 : List Nat} {mm : aM} (K : aK p s m args meth c mX8_findWord D cA ad adV z0) {t : Nat} {x1 : Nat} (x2 : Int) (x3 : Int) (ht : okT t) (hx1 : okB x1) (k2 : Int → Option Int) (hk2 : ∀ (x3 : Int), aG p l e { frames := 1, cells := 0, slots := 0, locals := 24 } s m args below meth c D cA ad z0 mX8_findWord al0 (rI mm) (k2 x3) 2 [(0, .inr (.inr (.inl (some t)))), (1, .inr (.inr (.inl (some x1)))), (2, .inl x2), (3, .inl x3)] [] mm)  : aG p l e { frames := 1, cells := 0, slots := 0, locals := 24 } s m args below meth c D cA ad z0 mX8_findWord al0 (rI mm) (Tongue_findWord_20 mm k2 t x1 x2 x3) 20 [(0, .inr (.inr (.inl (some t)))), (1, .inr (.inr (.inl (some x1)))), (2, .inl x2), (3, .inl x3)] [] mm := by
  unfold Tongue_findWord_20
  refine gl (i' := 21) (fun _ _ => aw_iinc K (dOf ck_mX8_findWord rfl rfl) (Nat.le_of_ble_eq_true rfl) rfl) ?_
  refine g_lv (lv' := [(3, .inl _), (0, .inr (.inr (.inl (some _)))), (1, .inr (.inr (.inl (some _)))), (2, .inl _)]) rfl ?_
  refine g_goto K (dOf ck_mX8_findWord rfl rfl).1 (t := 2) (aJ_of (by decide +kernel)) ?_
  refine g_sub [1, 2, 3, 0] rfl ?_
  exact hk2 _
def Tongue_findWord_2 (mm : aM) (t : Nat) (x1 : Nat) (x2 : Int) : Nat → Int → Option Int
  | 0, _ => none
  | n + 1, x3 => if x3 < (mm t 2) then (if 0 ≤ x3 ∧ x3 < 12 then (if (mm (t + 16) x3.toNat) = x2 then ((Tongue_begins t x1 x2 x3 mm).bind fun r4 => (if r4 = 0 then (Tongue_findWord_20 mm (Tongue_findWord_2 mm t x1 x2 n) t x1 x2 x3) else (some x3))) else (Tongue_findWord_20 mm (Tongue_findWord_2 mm t x1 x2 n) t x1 x2 x3)) else none) else (some (-1))
set_option maxHeartbeats 4000000 in
theorem lk_Tongue_findWord_2 {p : Program} {l : Launch} {e : Env} {s : State} {m : MethodId} {args : Array Value} {below : List Frame} {meth : Method} {c : Code} {D : va_G} {cA : FieldType → ClassId} {ad adV : Nat → Nat} {z0 : Nat} {al0 : List Nat} {mm : aM} (K : aK p s m args meth c mX8_findWord D cA ad adV z0) {t : Nat} {x1 : Nat} (x2 : Int) (ht : okT t) (hx1 : okB x1)  : ∀ (n : Nat) (x3 : Int), aG p l e { frames := 1, cells := 0, slots := 0, locals := 24 } s m args below meth c D cA ad z0 mX8_findWord al0 (rI mm) (Tongue_findWord_2 mm t x1 x2 n x3) 2 [(0, .inr (.inr (.inl (some t)))), (1, .inr (.inr (.inl (some x1)))), (2, .inl x2), (3, .inl x3)] [] mm := by
  intro n
  induction n with
  | zero => intro x3; exact g_none
  | succ n ih =>
    intro x3
    rw [Tongue_findWord_2]
    refine gl (i' := 3) (fun _ _ => aw_iload_n K (dOf ck_mX8_findWord rfl rfl) rfl) ?_
    refine gl (i' := 4) (fun _ _ => aw_aload_n K (dOf ck_mX8_findWord rfl rfl) rfl) ?_
    refine gl (i' := 5) (fun _ _ => aw_getf K (dOf ck_mX8_findWord rfl rfl) (shT_0 ht) rfl (Nat.le_of_ble_eq_true rfl) wd_198 (k := 2) rfl) ?_
    refine g_icmp_ge K (dOf ck_mX8_findWord rfl rfl) (t := 22) (aJ_of (by decide +kernel)) (fun h1 => ?_) (fun h1 => ?_)
    · refine gl (i' := 7) (fun _ _ => aw_aload_n K (dOf ck_mX8_findWord rfl rfl) rfl) ?_
      refine gl (i' := 8) (fun _ _ => aw_getf K (dOf ck_mX8_findWord rfl rfl) (shT_0 ht) rfl (Nat.le_of_ble_eq_true rfl) wd_235 (k := 9) rfl) ?_
      refine gl (i' := 9) (fun _ _ => aw_iload_n K (dOf ck_mX8_findWord rfl rfl) rfl) ?_
      refine g_gd (fun hb2 => ?_)
      refine gl (i' := 10) (fun _ _ => aw_iald K (dOf ck_mX8_findWord rfl rfl) (shT_16 ht) hb2) ?_
      refine gl (i' := 11) (fun _ _ => aw_iload_n K (dOf ck_mX8_findWord rfl rfl) rfl) ?_
      refine g_icmp_ne K (dOf ck_mX8_findWord rfl rfl) (t := 20) (aJ_of (by decide +kernel)) (fun h3 => ?_) (fun h3 => ?_)
      · refine gl (i' := 13) (fun _ _ => aw_aload_n K (dOf ck_mX8_findWord rfl rfl) rfl) ?_
        refine gl (i' := 14) (fun _ _ => aw_aload_n K (dOf ck_mX8_findWord rfl rfl) rfl) ?_
        refine gl (i' := 15) (fun _ _ => aw_iload_n K (dOf ck_mX8_findWord rfl rfl) rfl) ?_
        refine gl (i' := 16) (fun _ _ => aw_iload_n K (dOf ck_mX8_findWord rfl rfl) rfl) ?_
        refine g_callVI K [.inr (.inr (.inl (some _))), .inl _, .inl _] rfl (dOf ck_mX8_findWord rfl rfl) al_OneBreath_Tongue_76 (shT_0 ht) rfl ⟨wd_596, wd_597⟩ rfl (Nat.le_of_ble_eq_true rfl) ⟨Nat.le_of_ble_eq_true rfl, Nat.le_of_ble_eq_true rfl⟩ (fun b hb => met_Tongue_begins ht ⟨_, (okB_at hx1)⟩ hb) (fun r4 hr4 => ?_)
        refine g_if_eq K (dOf ck_mX8_findWord rfl rfl) (t := 20) (aJ_of (by decide +kernel)) (fun h5 => ?_) (fun h5 => ?_)
        · refine g_sub [0, 1, 2, 3] rfl ?_
          exact lk_Tongue_findWord_20 K _ _ ht hx1 _ ih
        · refine gl (i' := 19) (fun _ _ => aw_iload_n K (dOf ck_mX8_findWord rfl rfl) rfl) ?_
          exact g_iret K (dOf ck_mX8_findWord rfl rfl).1 rfl (Or.inl rfl) rfl
      · refine g_sub [0, 1, 2, 3] rfl ?_
        exact lk_Tongue_findWord_20 K _ _ ht hx1 _ ih
    · refine gl (i' := 23) (fun _ _ => aw_iconst K (n := -1) (i32 _ rfl) (dOf ck_mX8_findWord rfl rfl)) ?_
      exact g_iret K (by decide +kernel) rfl (Or.inl rfl) rfl
def Tongue_findWord (t : Nat) (x1 : Nat) (x2 : Int) (mm : aM) : Option Int := Tongue_findWord_2 mm t x1 x2 FU 0
set_option maxHeartbeats 4000000 in
theorem met_Tongue_findWord {l : Launch} {D : va_G} {cA : FieldType → ClassId} {ad adV : Nat → Nat} {z0 : Nat} {t : Nat} {x1 : Nat} {x2 : Int} {mm : aM} (ht : okT t) (hx1 : okB x1) {r : Int} (h : Tongue_findWord t x1 x2 mm = some r) : aMet l D cA ad adV z0 mX8_findWord 1 24 0 0 [.inr (.inr (.inl (some t))), .inr (.inr (.inl (some x1))), .inl x2] SH mm ((rI mm) r).1 SH ((rI mm) r).2 := by
  refine aMet_ofG (by decide +kernel) rfl (Nat.le_of_ble_eq_true rfl) h (fun p e s m args below meth c al0 K => ?_)
  unfold Tongue_findWord
  refine gl (i' := 1) (fun _ _ => aw_iconst K (n := 0) (i32 _ rfl) (dOf ck_mX8_findWord rfl rfl)) ?_
  refine gl (i' := 2) (fun _ _ => aw_istore_n K (dOf ck_mX8_findWord rfl rfl) (Nat.le_of_ble_eq_true rfl)) ?_
  refine g_lv (lv' := [(3, .inl _), (0, .inr (.inr (.inl (some _)))), (1, .inr (.inr (.inl (some _)))), (2, .inl _)]) rfl ?_
  refine g_sub [1, 2, 3, 0] rfl ?_
  exact lk_Tongue_findWord_2 K _ ht hx1 FU _
def Tape_wantName (x1 : Nat) (mm : aM) : Option aM := (Tape_wants 1 mm).bind fun r1 => (if r1.1 = 0 then (some r1.2) else ((Tape_isNamed x1 r1.2).bind fun r3 => (if r3 = 0 then ((Tape_fail 2 r1.2).bind fun r5 => (some r5)) else (some r1.2))))
set_option maxHeartbeats 4000000 in
theorem met_Tape_wantName {l : Launch} {D : va_G} {cA : FieldType → ClassId} {ad adV : Nat → Nat} {z0 : Nat} {x1 : Nat} {mm : aM}  {r : aM} (h : Tape_wantName x1 mm = some r) : aMet l D cA ad adV z0 mX7_wantName 5 107 0 0 [.inr (.inr (.inl (some 1))), .inr (.inr (.inr x1))] SH mm (rM r).1 SH (rM r).2 := by
  refine aMet_ofG (by decide +kernel) rfl (Nat.le_of_ble_eq_true rfl) h (fun p e s m args below meth c al0 K => ?_)
  unfold Tape_wantName
  refine gl (i' := 1) (fun _ _ => aw_aload_n K (dOf ck_mX7_wantName rfl rfl) rfl) ?_
  refine gl (i' := 2) (fun _ _ => aw_iconst K (n := 1) (i32 _ rfl) (dOf ck_mX7_wantName rfl rfl)) ?_
  refine g_callVIM K [.inl _] rfl (dOf ck_mX7_wantName rfl rfl) al_OneBreath_Tape_67 rfl rfl ⟨wd_558, wd_5⟩ rfl (Nat.le_of_ble_eq_true rfl) ⟨Nat.le_of_ble_eq_true rfl, Nat.le_of_ble_eq_true rfl⟩ (fun b hb => met_Tape_wants  hb) (fun r1 hr1 => ?_)
  refine g_if_eq K (dOf ck_mX7_wantName rfl rfl) (t := 11) (aJ_of (by decide +kernel)) (fun h2 => ?_) (fun h2 => ?_)
  · exact g_vret K (by decide +kernel) rfl rfl
  · refine gl (i' := 5) (fun _ _ => aw_aload_n K (dOf ck_mX7_wantName rfl rfl) rfl) ?_
    refine gl (i' := 6) (fun _ _ => aw_sload_n K (dOf ck_mX7_wantName rfl rfl) rfl) ?_
    refine g_callVI K [.inr (.inr (.inr _))] rfl (dOf ck_mX7_wantName rfl rfl) al_OneBreath_Tape_80 rfl rfl ⟨wd_509, wd_3⟩ rfl (Nat.le_of_ble_eq_true rfl) ⟨Nat.le_of_ble_eq_true rfl, Nat.le_of_ble_eq_true rfl⟩ (fun b hb => met_Tape_isNamed  hb) (fun r3 hr3 => ?_)
    refine g_if_ne K (dOf ck_mX7_wantName rfl rfl) (t := 11) (aJ_of (by decide +kernel)) (fun h4 => ?_) (fun h4 => ?_)
    · refine gl (i' := 9) (fun _ _ => aw_aload_n K (dOf ck_mX7_wantName rfl rfl) rfl) ?_
      refine gl (i' := 10) (fun _ _ => aw_iconst K (n := 2) (i32 _ rfl) (dOf ck_mX7_wantName rfl rfl)) ?_
      refine g_callVM K [.inl _] rfl (dOf ck_mX7_wantName rfl rfl) al_OneBreath_Tape_74 rfl rfl ⟨wd_506, wd_2⟩ rfl (Nat.le_of_ble_eq_true rfl) ⟨Nat.le_of_ble_eq_true rfl, Nat.le_of_ble_eq_true rfl⟩ (fun b hb => met_Tape_fail  hb) (fun r5 hr5 => ?_)
      exact g_vret K (by decide +kernel) rfl rfl
    · exact g_vret K (by decide +kernel) rfl rfl
def Tape_readWord_28 (mm : aM) : Option aM := (Tape_fail 3 mm).bind fun r5 => (some r5)
set_option maxHeartbeats 4000000 in
theorem lk_Tape_readWord_28 {p : Program} {l : Launch} {e : Env} {s : State} {m : MethodId} {args : Array Value} {below : List Frame} {meth : Method} {c : Code} {D : va_G} {cA : FieldType → ClassId} {ad adV : Nat → Nat} {z0 : Nat} {al0 : List Nat} (K : aK p s m args meth c mX7_readWord D cA ad adV z0)   (mm : aM) : aG p l e { frames := 6, cells := 0, slots := 0, locals := 128 } s m args below meth c D cA ad z0 mX7_readWord al0 rM (Tape_readWord_28 mm) 28 [(0, .inr (.inr (.inl (some 1))))] [] mm := by
  unfold Tape_readWord_28
  refine gl (i' := 29) (fun _ _ => aw_aload_n K (dOf ck_mX7_readWord rfl rfl) rfl) ?_
  refine gl (i' := 30) (fun _ _ => aw_iconst K (n := 3) (i32 _ rfl) (dOf ck_mX7_readWord rfl rfl)) ?_
  refine g_callVM K [.inl _] rfl (dOf ck_mX7_readWord rfl rfl) al_OneBreath_Tape_74 rfl rfl ⟨wd_506, wd_2⟩ rfl (Nat.le_of_ble_eq_true rfl) ⟨Nat.le_of_ble_eq_true rfl, Nat.le_of_ble_eq_true rfl⟩ (fun b hb => met_Tape_fail  hb) (fun r5 hr5 => ?_)
  exact g_vret K (dOf ck_mX7_readWord rfl rfl).1 rfl rfl
def Tape_readWord_34 (x1 : Int) (x2 : Int) : Nat → Int → aM → Option aM
  | 0, _, _ => none
  | n + 1, x3, mm => if x3 < x2 then (if 0 ≤ x1 ∧ x1 < 12 then (if 0 ≤ (w32 ((mm 1 5) + x3)) ∧ (w32 ((mm 1 5) + x3)) < 500 then ((Tongue_findSound 3 (mm 2 (w32 ((mm 1 5) + x3)).toNat) mm).bind fun r23 => (if 0 ≤ x3 ∧ x3 < 6 then (st1 (aup mm (3 + 4 + x1.toNat) x3.toNat (w8 (w8 r23))) fun mm25 => (Tape_readWord_34 x1 x2 n (w32 (x3 + 1)) mm25)) else none)) else none) else none) else (if 0 ≤ x1 ∧ x1 < 12 then ((Tongue_findWord 3 (3 + 4 + x1.toNat) x2 mm).bind fun r10 => (if r10 = (-1) then (st1 (aup mm 19 x1.toNat x2) fun mm12 => ((Tape_wantName 7 mm12).bind fun r13 => ((Tape_wantNumber 99 r13).bind fun r14 => (st1 (aup r14.2 20 x1.toNat r14.1) fun mm15 => ((Tape_wantName 8 mm15).bind fun r16 => ((Tape_wantNumber 3 r16).bind fun r17 => (st1 (aup r17.2 21 x1.toNat r17.1) fun mm18 => (st1 (aup mm18 3 2 (w32 ((mm18 3 2) + 1))) fun mm19 => (some mm19))))))))) else ((Tape_fail 3 mm).bind fun r20 => (some r20)))) else none)
set_option maxHeartbeats 4000000 in
theorem lk_Tape_readWord_34 {p : Program} {l : Launch} {e : Env} {s : State} {m : MethodId} {args : Array Value} {below : List Frame} {meth : Method} {c : Code} {D : va_G} {cA : FieldType → ClassId} {ad adV : Nat → Nat} {z0 : Nat} {al0 : List Nat} (K : aK p s m args meth c mX7_readWord D cA ad adV z0) (x1 : Int) (x2 : Int)  : ∀ (n : Nat) (x3 : Int) (mm : aM), aG p l e { frames := 6, cells := 0, slots := 0, locals := 128 } s m args below meth c D cA ad z0 mX7_readWord al0 rM (Tape_readWord_34 x1 x2 n x3 mm) 34 [(0, .inr (.inr (.inl (some 1)))), (1, .inl x1), (2, .inl x2), (3, .inl x3)] [] mm := by
  intro n
  induction n with
  | zero => intro x3 mm; exact g_none
  | succ n ih =>
    intro x3 mm
    rw [Tape_readWord_34]
    refine gl (i' := 35) (fun _ _ => aw_iload_n K (dOf ck_mX7_readWord rfl rfl) rfl) ?_
    refine gl (i' := 36) (fun _ _ => aw_iload_n K (dOf ck_mX7_readWord rfl rfl) rfl) ?_
    refine g_icmp_ge K (dOf ck_mX7_readWord rfl rfl) (t := 57) (aJ_of (by decide +kernel)) (fun h8 => ?_) (fun h8 => ?_)
    · refine gl (i' := 38) (fun _ _ => aw_aload_n K (dOf ck_mX7_readWord rfl rfl) rfl) ?_
      refine gl (i' := 39) (fun _ _ => aw_getf K (dOf ck_mX7_readWord rfl rfl) rfl rfl (Nat.le_of_ble_eq_true rfl) wd_278 (k := 3) rfl) ?_
      refine gl (i' := 40) (fun _ _ => aw_getf K (dOf ck_mX7_readWord rfl rfl) rfl rfl (Nat.le_of_ble_eq_true rfl) wd_233 (k := 8) rfl) ?_
      refine gl (i' := 41) (fun _ _ => aw_iload_n K (dOf ck_mX7_readWord rfl rfl) rfl) ?_
      refine g_gd (fun hb21 => ?_)
      refine gl (i' := 42) (fun _ _ => aw_aald K (dOf ck_mX7_readWord rfl rfl) (shTa (t := 3) (by unfold okT; omega)) hb21 (rsT_at hb21)) ?_
      refine gl (i' := 43) (fun _ _ => aw_iload_n K (dOf ck_mX7_readWord rfl rfl) rfl) ?_
      refine gl (i' := 44) (fun _ _ => aw_aload_n K (dOf ck_mX7_readWord rfl rfl) rfl) ?_
      refine gl (i' := 45) (fun _ _ => aw_getf K (dOf ck_mX7_readWord rfl rfl) rfl rfl (Nat.le_of_ble_eq_true rfl) wd_278 (k := 3) rfl) ?_
      refine gl (i' := 46) (fun _ _ => aw_aload_n K (dOf ck_mX7_readWord rfl rfl) rfl) ?_
      refine gl (i' := 47) (fun _ _ => aw_getf K (dOf ck_mX7_readWord rfl rfl) rfl rfl (Nat.le_of_ble_eq_true rfl) wd_274 (k := 0) rfl) ?_
      refine gl (i' := 48) (fun _ _ => aw_aload_n K (dOf ck_mX7_readWord rfl rfl) rfl) ?_
      refine gl (i' := 49) (fun _ _ => aw_getf K (dOf ck_mX7_readWord rfl rfl) rfl rfl (Nat.le_of_ble_eq_true rfl) wd_281 (k := 5) rfl) ?_
      refine gl (i' := 50) (fun _ _ => aw_iload_n K (dOf ck_mX7_readWord rfl rfl) rfl) ?_
      refine gl (i' := 51) (fun _ _ => aw_iadd K (dOf ck_mX7_readWord rfl rfl)) ?_
      refine g_gd (fun hb22 => ?_)
      refine gl (i' := 52) (fun _ _ => aw_bald K (dOf ck_mX7_readWord rfl rfl) rfl hb22) ?_
      refine g_callVI K [.inl _] rfl (dOf ck_mX7_readWord rfl rfl) al_OneBreath_Tape_34 rfl rfl ⟨wd_579, wd_580⟩ rfl (Nat.le_of_ble_eq_true rfl) ⟨Nat.le_of_ble_eq_true rfl, Nat.le_of_ble_eq_true rfl⟩ (fun b hb => met_Tongue_findSound (by unfold okT; omega) hb) (fun r23 hr23 => ?_)
      refine gl (i' := 54) (fun _ _ => aw_i2b K (dOf ck_mX7_readWord rfl rfl)) ?_
      refine g_gd (fun hb24 => ?_)
      refine g_st1 ?_
      refine gl (i' := 55) (fun _ _ => aw_bast K (dOf ck_mX7_readWord rfl rfl) (shTr (t := 3) (by unfold okT; omega) hb21) hb24) ?_
      refine gl (i' := 56) (fun _ _ => aw_iinc K (dOf ck_mX7_readWord rfl rfl) (Nat.le_of_ble_eq_true rfl) rfl) ?_
      refine g_lv (lv' := [(3, .inl _), (0, .inr (.inr (.inl (some _)))), (1, .inl _), (2, .inl _)]) rfl ?_
      refine g_goto K (dOf ck_mX7_readWord rfl rfl).1 (t := 34) (aJ_of (by decide +kernel)) ?_
      refine g_sub [1, 2, 3, 0] rfl ?_
      exact ih _ _
    · refine gl (i' := 58) (fun _ _ => aw_aload_n K (dOf ck_mX7_readWord rfl rfl) rfl) ?_
      refine gl (i' := 59) (fun _ _ => aw_getf K (dOf ck_mX7_readWord rfl rfl) rfl rfl (Nat.le_of_ble_eq_true rfl) wd_278 (k := 3) rfl) ?_
      refine gl (i' := 60) (fun _ _ => aw_aload_n K (dOf ck_mX7_readWord rfl rfl) rfl) ?_
      refine gl (i' := 61) (fun _ _ => aw_getf K (dOf ck_mX7_readWord rfl rfl) rfl rfl (Nat.le_of_ble_eq_true rfl) wd_278 (k := 3) rfl) ?_
      refine gl (i' := 62) (fun _ _ => aw_getf K (dOf ck_mX7_readWord rfl rfl) rfl rfl (Nat.le_of_ble_eq_true rfl) wd_233 (k := 8) rfl) ?_
      refine gl (i' := 63) (fun _ _ => aw_iload_n K (dOf ck_mX7_readWord rfl rfl) rfl) ?_
      refine g_gd (fun hb9 => ?_)
      refine gl (i' := 64) (fun _ _ => aw_aald K (dOf ck_mX7_readWord rfl rfl) (shTa (t := 3) (by unfold okT; omega)) hb9 (rsT_at hb9)) ?_
      refine gl (i' := 65) (fun _ _ => aw_iload_n K (dOf ck_mX7_readWord rfl rfl) rfl) ?_
      refine g_callVI K [.inr (.inr (.inl (some _))), .inl _] rfl (dOf ck_mX7_readWord rfl rfl) al_OneBreath_Tape_148 rfl rfl ⟨wd_592, wd_593⟩ rfl (Nat.le_of_ble_eq_true rfl) ⟨Nat.le_of_ble_eq_true rfl, Nat.le_of_ble_eq_true rfl⟩ (fun b hb => met_Tongue_findWord (by unfold okT; omega) ⟨_, (shTr (t := 3) (by unfold okT; omega) hb9)⟩ hb) (fun r10 hr10 => ?_)
      refine gl (i' := 67) (fun _ _ => aw_iconst K (n := -1) (i32 _ rfl) (dOf ck_mX7_readWord rfl rfl)) ?_
      refine g_icmp_eq K (dOf ck_mX7_readWord rfl rfl) (t := 72) (aJ_of (by decide +kernel)) (fun h11 => ?_) (fun h11 => ?_)
      · refine gl (i' := 73) (fun _ _ => aw_aload_n K (dOf ck_mX7_readWord rfl rfl) rfl) ?_
        refine gl (i' := 74) (fun _ _ => aw_getf K (dOf ck_mX7_readWord rfl rfl) rfl rfl (Nat.le_of_ble_eq_true rfl) wd_278 (k := 3) rfl) ?_
        refine gl (i' := 75) (fun _ _ => aw_getf K (dOf ck_mX7_readWord rfl rfl) rfl rfl (Nat.le_of_ble_eq_true rfl) wd_242 (k := 9) rfl) ?_
        refine gl (i' := 76) (fun _ _ => aw_iload_n K (dOf ck_mX7_readWord rfl rfl) rfl) ?_
        refine gl (i' := 77) (fun _ _ => aw_iload_n K (dOf ck_mX7_readWord rfl rfl) rfl) ?_
        refine g_st1 ?_
        refine gl (i' := 78) (fun _ _ => aw_iast K (dOf ck_mX7_readWord rfl rfl) rfl hb9) ?_
        refine gl (i' := 79) (fun _ _ => aw_aload_n K (dOf ck_mX7_readWord rfl rfl) rfl) ?_
        refine gl (i' := 80) (fun _ _ => aw_ldcs K (dOf ck_mX7_readWord rfl rfl) (n := 7) rfl) ?_
        refine g_callVM K [.inr (.inr (.inr _))] rfl (dOf ck_mX7_readWord rfl rfl) al_OneBreath_Tape_157 rfl rfl ⟨wd_600, wd_15⟩ rfl (Nat.le_of_ble_eq_true rfl) ⟨Nat.le_of_ble_eq_true rfl, Nat.le_of_ble_eq_true rfl⟩ (fun b hb => met_Tape_wantName  hb) (fun r13 hr13 => ?_)
        refine gl (i' := 82) (fun _ _ => aw_aload_n K (dOf ck_mX7_readWord rfl rfl) rfl) ?_
        refine gl (i' := 83) (fun _ _ => aw_getf K (dOf ck_mX7_readWord rfl rfl) rfl rfl (Nat.le_of_ble_eq_true rfl) wd_278 (k := 3) rfl) ?_
        refine gl (i' := 84) (fun _ _ => aw_getf K (dOf ck_mX7_readWord rfl rfl) rfl rfl (Nat.le_of_ble_eq_true rfl) wd_248 (k := 10) rfl) ?_
        refine gl (i' := 85) (fun _ _ => aw_iload_n K (dOf ck_mX7_readWord rfl rfl) rfl) ?_
        refine gl (i' := 86) (fun _ _ => aw_aload_n K (dOf ck_mX7_readWord rfl rfl) rfl) ?_
        refine gl (i' := 87) (fun _ _ => aw_bip K (dOf ck_mX7_readWord rfl rfl) (v := 99) rfl) ?_
        refine g_callVIM K [.inl _] rfl (dOf ck_mX7_readWord rfl rfl) al_OneBreath_Tape_164 rfl rfl ⟨wd_567, wd_8⟩ rfl (Nat.le_of_ble_eq_true rfl) ⟨Nat.le_of_ble_eq_true rfl, Nat.le_of_ble_eq_true rfl⟩ (fun b hb => met_Tape_wantNumber  hb) (fun r14 hr14 => ?_)
        refine g_st1 ?_
        refine gl (i' := 89) (fun _ _ => aw_iast K (dOf ck_mX7_readWord rfl rfl) rfl hb9) ?_
        refine gl (i' := 90) (fun _ _ => aw_aload_n K (dOf ck_mX7_readWord rfl rfl) rfl) ?_
        refine gl (i' := 91) (fun _ _ => aw_ldcs K (dOf ck_mX7_readWord rfl rfl) (n := 8) rfl) ?_
        refine g_callVM K [.inr (.inr (.inr _))] rfl (dOf ck_mX7_readWord rfl rfl) al_OneBreath_Tape_157 rfl rfl ⟨wd_600, wd_15⟩ rfl (Nat.le_of_ble_eq_true rfl) ⟨Nat.le_of_ble_eq_true rfl, Nat.le_of_ble_eq_true rfl⟩ (fun b hb => met_Tape_wantName  hb) (fun r16 hr16 => ?_)
        refine gl (i' := 93) (fun _ _ => aw_aload_n K (dOf ck_mX7_readWord rfl rfl) rfl) ?_
        refine gl (i' := 94) (fun _ _ => aw_getf K (dOf ck_mX7_readWord rfl rfl) rfl rfl (Nat.le_of_ble_eq_true rfl) wd_278 (k := 3) rfl) ?_
        refine gl (i' := 95) (fun _ _ => aw_getf K (dOf ck_mX7_readWord rfl rfl) rfl rfl (Nat.le_of_ble_eq_true rfl) wd_256 (k := 11) rfl) ?_
        refine gl (i' := 96) (fun _ _ => aw_iload_n K (dOf ck_mX7_readWord rfl rfl) rfl) ?_
        refine gl (i' := 97) (fun _ _ => aw_aload_n K (dOf ck_mX7_readWord rfl rfl) rfl) ?_
        refine gl (i' := 98) (fun _ _ => aw_iconst K (n := 3) (i32 _ rfl) (dOf ck_mX7_readWord rfl rfl)) ?_
        refine g_callVIM K [.inl _] rfl (dOf ck_mX7_readWord rfl rfl) al_OneBreath_Tape_164 rfl rfl ⟨wd_567, wd_8⟩ rfl (Nat.le_of_ble_eq_true rfl) ⟨Nat.le_of_ble_eq_true rfl, Nat.le_of_ble_eq_true rfl⟩ (fun b hb => met_Tape_wantNumber  hb) (fun r17 hr17 => ?_)
        refine g_st1 ?_
        refine gl (i' := 100) (fun _ _ => aw_iast K (dOf ck_mX7_readWord rfl rfl) rfl hb9) ?_
        refine gl (i' := 101) (fun _ _ => aw_aload_n K (dOf ck_mX7_readWord rfl rfl) rfl) ?_
        refine gl (i' := 102) (fun _ _ => aw_getf K (dOf ck_mX7_readWord rfl rfl) rfl rfl (Nat.le_of_ble_eq_true rfl) wd_278 (k := 3) rfl) ?_
        refine gl (i' := 103) (fun _ _ => aw_dup K rfl (dOf ck_mX7_readWord rfl rfl)) ?_
        refine gl (i' := 104) (fun _ _ => aw_getf K (dOf ck_mX7_readWord rfl rfl) rfl rfl (Nat.le_of_ble_eq_true rfl) wd_201 (k := 2) rfl) ?_
        refine gl (i' := 105) (fun _ _ => aw_iconst K (n := 1) (i32 _ rfl) (dOf ck_mX7_readWord rfl rfl)) ?_
        refine gl (i' := 106) (fun _ _ => aw_iadd K (dOf ck_mX7_readWord rfl rfl)) ?_
        refine g_st1 ?_
        refine gl (i' := 107) (fun _ _ => aw_putf K (dOf ck_mX7_readWord rfl rfl) rfl rfl (Nat.le_of_ble_eq_true rfl) wd_201 (k := 2) rfl rfl (Or.inl rfl)) ?_
        exact g_vret K (by decide +kernel) rfl rfl
      · refine gl (i' := 69) (fun _ _ => aw_aload_n K (dOf ck_mX7_readWord rfl rfl) rfl) ?_
        refine gl (i' := 70) (fun _ _ => aw_iconst K (n := 3) (i32 _ rfl) (dOf ck_mX7_readWord rfl rfl)) ?_
        refine g_callVM K [.inl _] rfl (dOf ck_mX7_readWord rfl rfl) al_OneBreath_Tape_74 rfl rfl ⟨wd_506, wd_2⟩ rfl (Nat.le_of_ble_eq_true rfl) ⟨Nat.le_of_ble_eq_true rfl, Nat.le_of_ble_eq_true rfl⟩ (fun b hb => met_Tape_fail  hb) (fun r20 hr20 => ?_)
        exact g_vret K (dOf ck_mX7_readWord rfl rfl).1 rfl rfl
def Tape_readWord  (mm : aM) : Option aM := if (mm 3 2) < 12 then ((Tape_wants 1 mm).bind fun r2 => (if r2.1 = 0 then (some r2.2) else (if 6 < (w32 ((r2.2 1 6) - (r2.2 1 5))) then (Tape_readWord_28 r2.2) else ((Tape_isOfSounds r2.2).bind fun r6 => (if r6 = 0 then (Tape_readWord_28 r2.2) else (Tape_readWord_34 (mm 3 2) (w32 ((r2.2 1 6) - (r2.2 1 5))) FU 0 r2.2)))))) else ((Tape_fail 4 mm).bind fun r26 => (some r26))
set_option maxHeartbeats 4000000 in
theorem met_Tape_readWord {l : Launch} {D : va_G} {cA : FieldType → ClassId} {ad adV : Nat → Nat} {z0 : Nat}  {mm : aM}  {r : aM} (h : Tape_readWord  mm = some r) : aMet l D cA ad adV z0 mX7_readWord 6 128 0 0 [.inr (.inr (.inl (some 1)))] SH mm (rM r).1 SH (rM r).2 := by
  refine aMet_ofG (by decide +kernel) rfl (Nat.le_of_ble_eq_true rfl) h (fun p e s m args below meth c al0 K => ?_)
  unfold Tape_readWord
  refine gl (i' := 1) (fun _ _ => aw_aload_n K (dOf ck_mX7_readWord rfl rfl) rfl) ?_
  refine gl (i' := 2) (fun _ _ => aw_getf K (dOf ck_mX7_readWord rfl rfl) rfl rfl (Nat.le_of_ble_eq_true rfl) wd_278 (k := 3) rfl) ?_
  refine gl (i' := 3) (fun _ _ => aw_getf K (dOf ck_mX7_readWord rfl rfl) rfl rfl (Nat.le_of_ble_eq_true rfl) wd_201 (k := 2) rfl) ?_
  refine gl (i' := 4) (fun _ _ => aw_istore_n K (dOf ck_mX7_readWord rfl rfl) (Nat.le_of_ble_eq_true rfl)) ?_
  refine g_lv (lv' := [(1, .inl _), (0, .inr (.inr (.inl (some _))))]) rfl ?_
  refine gl (i' := 5) (fun _ _ => aw_iload_n K (dOf ck_mX7_readWord rfl rfl) rfl) ?_
  refine gl (i' := 6) (fun _ _ => aw_bip K (dOf ck_mX7_readWord rfl rfl) (v := 12) rfl) ?_
  refine g_icmp_lt K (dOf ck_mX7_readWord rfl rfl) (t := 11) (aJ_of (by decide +kernel)) (fun h1 => ?_) (fun h1 => ?_)
  · refine gl (i' := 12) (fun _ _ => aw_aload_n K (dOf ck_mX7_readWord rfl rfl) rfl) ?_
    refine gl (i' := 13) (fun _ _ => aw_iconst K (n := 1) (i32 _ rfl) (dOf ck_mX7_readWord rfl rfl)) ?_
    refine g_callVIM K [.inl _] rfl (dOf ck_mX7_readWord rfl rfl) al_OneBreath_Tape_67 rfl rfl ⟨wd_558, wd_5⟩ rfl (Nat.le_of_ble_eq_true rfl) ⟨Nat.le_of_ble_eq_true rfl, Nat.le_of_ble_eq_true rfl⟩ (fun b hb => met_Tape_wants  hb) (fun r2 hr2 => ?_)
    refine g_if_ne K (dOf ck_mX7_readWord rfl rfl) (t := 16) (aJ_of (by decide +kernel)) (fun h3 => ?_) (fun h3 => ?_)
    · exact g_vret K (dOf ck_mX7_readWord rfl rfl).1 rfl rfl
    · refine gl (i' := 17) (fun _ _ => aw_aload_n K (dOf ck_mX7_readWord rfl rfl) rfl) ?_
      refine gl (i' := 18) (fun _ _ => aw_getf K (dOf ck_mX7_readWord rfl rfl) rfl rfl (Nat.le_of_ble_eq_true rfl) wd_282 (k := 6) rfl) ?_
      refine gl (i' := 19) (fun _ _ => aw_aload_n K (dOf ck_mX7_readWord rfl rfl) rfl) ?_
      refine gl (i' := 20) (fun _ _ => aw_getf K (dOf ck_mX7_readWord rfl rfl) rfl rfl (Nat.le_of_ble_eq_true rfl) wd_281 (k := 5) rfl) ?_
      refine gl (i' := 21) (fun _ _ => aw_isub K (dOf ck_mX7_readWord rfl rfl)) ?_
      refine gl (i' := 22) (fun _ _ => aw_istore_n K (dOf ck_mX7_readWord rfl rfl) (Nat.le_of_ble_eq_true rfl)) ?_
      refine g_lv (lv' := [(2, .inl _), (1, .inl _), (0, .inr (.inr (.inl (some _))))]) rfl ?_
      refine gl (i' := 23) (fun _ _ => aw_iload_n K (dOf ck_mX7_readWord rfl rfl) rfl) ?_
      refine gl (i' := 24) (fun _ _ => aw_bip K (dOf ck_mX7_readWord rfl rfl) (v := 6) rfl) ?_
      refine g_icmp_gt K (dOf ck_mX7_readWord rfl rfl) (t := 28) (aJ_of (by decide +kernel)) (fun h4 => ?_) (fun h4 => ?_)
      · refine g_sub [2] rfl ?_
        exact lk_Tape_readWord_28 K _
      · refine gl (i' := 26) (fun _ _ => aw_aload_n K (dOf ck_mX7_readWord rfl rfl) rfl) ?_
        refine g_callVI K [] rfl (dOf ck_mX7_readWord rfl rfl) al_OneBreath_Tape_129 rfl rfl ⟨wd_576, wd_11⟩ rfl (Nat.le_of_ble_eq_true rfl) ⟨Nat.le_of_ble_eq_true rfl, Nat.le_of_ble_eq_true rfl⟩ (fun b hb => met_Tape_isOfSounds  hb) (fun r6 hr6 => ?_)
        refine g_if_ne K (dOf ck_mX7_readWord rfl rfl) (t := 32) (aJ_of (by decide +kernel)) (fun h7 => ?_) (fun h7 => ?_)
        · refine g_sub [2] rfl ?_
          exact lk_Tape_readWord_28 K _
        · refine gl (i' := 33) (fun _ _ => aw_iconst K (n := 0) (i32 _ rfl) (dOf ck_mX7_readWord rfl rfl)) ?_
          refine gl (i' := 34) (fun _ _ => aw_istore_n K (dOf ck_mX7_readWord rfl rfl) (Nat.le_of_ble_eq_true rfl)) ?_
          refine g_lv (lv' := [(3, .inl _), (2, .inl _), (1, .inl _), (0, .inr (.inr (.inl (some _))))]) rfl ?_
          refine g_sub [3, 2, 1, 0] rfl ?_
          exact lk_Tape_readWord_34 K _ _ FU _ _
  · refine gl (i' := 8) (fun _ _ => aw_aload_n K (dOf ck_mX7_readWord rfl rfl) rfl) ?_
    refine gl (i' := 9) (fun _ _ => aw_iconst K (n := 4) (i32 _ rfl) (dOf ck_mX7_readWord rfl rfl)) ?_
    refine g_callVM K [.inl _] rfl (dOf ck_mX7_readWord rfl rfl) al_OneBreath_Tape_74 rfl rfl ⟨wd_506, wd_2⟩ rfl (Nat.le_of_ble_eq_true rfl) ⟨Nat.le_of_ble_eq_true rfl, Nat.le_of_ble_eq_true rfl⟩ (fun b hb => met_Tape_fail  hb) (fun r26 hr26 => ?_)
    exact g_vret K (dOf ck_mX7_readWord rfl rfl).1 rfl rfl
def Tape_readShape_61 (k31 : Int → Int → aM → Option aM) (x1 : Int) (x3 : Int) (s0 : Int) (s1 : Int) (mm : aM) : Option aM := k31 (ior s1 s0) (w32 (x3 + 1)) mm
set_option maxHeartbeats 4000000 in
theorem lk_Tape_readShape_61 {p : Program} {l : Launch} {e : Env} {s : State} {m : MethodId} {args : Array Value} {below : List Frame} {meth : Method} {c : Code} {D : va_G} {cA : FieldType → ClassId} {ad adV : Nat → Nat} {z0 : Nat} {al0 : List Nat} (K : aK p s m args meth c mX7_readShape D cA ad adV z0) (x1 : Int) (x3 : Int) (k31 : Int → Int → aM → Option aM) (hk31 : ∀ (x2 : Int) (x3 : Int) (mm : aM), aG p l e { frames := 2, cells := 0, slots := 0, locals := 42 } s m args below meth c D cA ad z0 mX7_readShape al0 rM (k31 x2 x3 mm) 31 [(0, .inr (.inr (.inl (some 1)))), (1, .inl x1), (2, .inl x2), (3, .inl x3)] [] mm)  (s0 : Int) (s1 : Int) (mm : aM) : aG p l e { frames := 2, cells := 0, slots := 0, locals := 42 } s m args below meth c D cA ad z0 mX7_readShape al0 rM (Tape_readShape_61 k31 x1 x3 s0 s1 mm) 61 [(0, .inr (.inr (.inl (some 1)))), (1, .inl x1), (3, .inl x3)] [.inl s0, .inl s1] mm := by
  unfold Tape_readShape_61
  refine gl (i' := 62) (fun _ _ => aw_ior K (dOf ck_mX7_readShape rfl rfl)) ?_
  refine gl (i' := 63) (fun _ _ => aw_istore_n K (dOf ck_mX7_readShape rfl rfl) (Nat.le_of_ble_eq_true rfl)) ?_
  refine g_lv (lv' := [(2, .inl _), (0, .inr (.inr (.inl (some _)))), (1, .inl _), (3, .inl _)]) rfl ?_
  refine gl (i' := 64) (fun _ _ => aw_iinc K (dOf ck_mX7_readShape rfl rfl) (Nat.le_of_ble_eq_true rfl) rfl) ?_
  refine g_lv (lv' := [(3, .inl _), (2, .inl _), (0, .inr (.inr (.inl (some _)))), (1, .inl _)]) rfl ?_
  refine g_goto K (dOf ck_mX7_readShape rfl rfl).1 (t := 31) (aJ_of (by decide +kernel)) ?_
  refine g_sub [2, 3, 1, 0] rfl ?_
  exact hk31 _ _ _
def Tape_readShape_52 (k31 : Int → Int → aM → Option aM) (x1 : Int) (x2 : Int) (x3 : Int) (x4 : Int) (mm : aM) : Option aM := if x4 = 111 then (Tape_readShape_61 k31 x1 x3 (ishl 1 x3) x2 mm) else (Tape_readShape_61 k31 x1 x3 0 x2 mm)
set_option maxHeartbeats 4000000 in
theorem lk_Tape_readShape_52 {p : Program} {l : Launch} {e : Env} {s : State} {m : MethodId} {args : Array Value} {below : List Frame} {meth : Method} {c : Code} {D : va_G} {cA : FieldType → ClassId} {ad adV : Nat → Nat} {z0 : Nat} {al0 : List Nat} (K : aK p s m args meth c mX7_readShape D cA ad adV z0) (x1 : Int) (x2 : Int) (x3 : Int) (x4 : Int) (k31 : Int → Int → aM → Option aM) (hk31 : ∀ (x2 : Int) (x3 : Int) (mm : aM), aG p l e { frames := 2, cells := 0, slots := 0, locals := 42 } s m args below meth c D cA ad z0 mX7_readShape al0 rM (k31 x2 x3 mm) 31 [(0, .inr (.inr (.inl (some 1)))), (1, .inl x1), (2, .inl x2), (3, .inl x3)] [] mm)  (mm : aM) : aG p l e { frames := 2, cells := 0, slots := 0, locals := 42 } s m args below meth c D cA ad z0 mX7_readShape al0 rM (Tape_readShape_52 k31 x1 x2 x3 x4 mm) 52 [(0, .inr (.inr (.inl (some 1)))), (1, .inl x1), (2, .inl x2), (3, .inl x3), (4, .inl x4)] [] mm := by
  unfold Tape_readShape_52
  refine gl (i' := 53) (fun _ _ => aw_iload_n K (dOf ck_mX7_readShape rfl rfl) rfl) ?_
  refine gl (i' := 54) (fun _ _ => aw_iload K (dOf ck_mX7_readShape rfl rfl) rfl) ?_
  refine gl (i' := 55) (fun _ _ => aw_bip K (dOf ck_mX7_readShape rfl rfl) (v := 111) rfl) ?_
  refine g_icmp_ne K (dOf ck_mX7_readShape rfl rfl) (t := 60) (aJ_of (by decide +kernel)) (fun h13 => ?_) (fun h13 => ?_)
  · refine gl (i' := 57) (fun _ _ => aw_iconst K (n := 1) (i32 _ rfl) (dOf ck_mX7_readShape rfl rfl)) ?_
    refine gl (i' := 58) (fun _ _ => aw_iload_n K (dOf ck_mX7_readShape rfl rfl) rfl) ?_
    refine gl (i' := 59) (fun _ _ => aw_ishl K (dOf ck_mX7_readShape rfl rfl)) ?_
    refine g_goto K (dOf ck_mX7_readShape rfl rfl).1 (t := 61) (aJ_of (by decide +kernel)) ?_
    refine g_sub [0, 1, 3] rfl ?_
    exact lk_Tape_readShape_61 K _ _ _ hk31 _ _ _
  · refine gl (i' := 61) (fun _ _ => aw_iconst K (n := 0) (i32 _ rfl) (dOf ck_mX7_readShape rfl rfl)) ?_
    refine g_sub [0, 1, 3] rfl ?_
    exact lk_Tape_readShape_61 K _ _ _ hk31 _ _ _
def Tape_readShape_31 (x1 : Int) : Nat → Int → Int → aM → Option aM
  | 0, _, _, _ => none
  | n + 1, x2, x3, mm => if x3 < x1 then (if 0 ≤ (w32 ((mm 1 5) + x3)) ∧ (w32 ((mm 1 5) + x3)) < 500 then (if (mm 2 (w32 ((mm 1 5) + x3)).toNat) = 111 then (Tape_readShape_52 (Tape_readShape_31 x1 n) x1 x2 x3 (mm 2 (w32 ((mm 1 5) + x3)).toNat) mm) else (if (mm 2 (w32 ((mm 1 5) + x3)).toNat) = 115 then (Tape_readShape_52 (Tape_readShape_31 x1 n) x1 x2 x3 (mm 2 (w32 ((mm 1 5) + x3)).toNat) mm) else ((Tape_fail 3 mm).bind fun r15 => (some r15)))) else none) else (if 0 ≤ (mm 3 3) ∧ (mm 3 3) < 6 then (st1 (aup mm 23 (mm 3 3).toNat x1) fun mm7 => (if 0 ≤ (mm7 3 3) ∧ (mm7 3 3) < 6 then (st1 (aup mm7 24 (mm7 3 3).toNat x2) fun mm9 => (st1 (aup mm9 3 3 (w32 ((mm9 3 3) + 1))) fun mm10 => (some mm10))) else none)) else none)
set_option maxHeartbeats 4000000 in
theorem lk_Tape_readShape_31 {p : Program} {l : Launch} {e : Env} {s : State} {m : MethodId} {args : Array Value} {below : List Frame} {meth : Method} {c : Code} {D : va_G} {cA : FieldType → ClassId} {ad adV : Nat → Nat} {z0 : Nat} {al0 : List Nat} (K : aK p s m args meth c mX7_readShape D cA ad adV z0) (x1 : Int)  : ∀ (n : Nat) (x2 : Int) (x3 : Int) (mm : aM), aG p l e { frames := 2, cells := 0, slots := 0, locals := 42 } s m args below meth c D cA ad z0 mX7_readShape al0 rM (Tape_readShape_31 x1 n x2 x3 mm) 31 [(0, .inr (.inr (.inl (some 1)))), (1, .inl x1), (2, .inl x2), (3, .inl x3)] [] mm := by
  intro n
  induction n with
  | zero => intro x2 x3 mm; exact g_none
  | succ n ih =>
    intro x2 x3 mm
    rw [Tape_readShape_31]
    refine gl (i' := 32) (fun _ _ => aw_iload_n K (dOf ck_mX7_readShape rfl rfl) rfl) ?_
    refine gl (i' := 33) (fun _ _ => aw_iload_n K (dOf ck_mX7_readShape rfl rfl) rfl) ?_
    refine g_icmp_ge K (dOf ck_mX7_readShape rfl rfl) (t := 65) (aJ_of (by decide +kernel)) (fun h5 => ?_) (fun h5 => ?_)
    · refine gl (i' := 35) (fun _ _ => aw_aload_n K (dOf ck_mX7_readShape rfl rfl) rfl) ?_
      refine gl (i' := 36) (fun _ _ => aw_getf K (dOf ck_mX7_readShape rfl rfl) rfl rfl (Nat.le_of_ble_eq_true rfl) wd_274 (k := 0) rfl) ?_
      refine gl (i' := 37) (fun _ _ => aw_aload_n K (dOf ck_mX7_readShape rfl rfl) rfl) ?_
      refine gl (i' := 38) (fun _ _ => aw_getf K (dOf ck_mX7_readShape rfl rfl) rfl rfl (Nat.le_of_ble_eq_true rfl) wd_281 (k := 5) rfl) ?_
      refine gl (i' := 39) (fun _ _ => aw_iload_n K (dOf ck_mX7_readShape rfl rfl) rfl) ?_
      refine gl (i' := 40) (fun _ _ => aw_iadd K (dOf ck_mX7_readShape rfl rfl)) ?_
      refine g_gd (fun hb11 => ?_)
      refine gl (i' := 41) (fun _ _ => aw_bald K (dOf ck_mX7_readShape rfl rfl) rfl hb11) ?_
      refine gl (i' := 42) (fun _ _ => aw_istore K (dOf ck_mX7_readShape rfl rfl) (Nat.le_of_ble_eq_true rfl)) ?_
      refine g_lv (lv' := [(4, .inl _), (0, .inr (.inr (.inl (some _)))), (1, .inl _), (2, .inl _), (3, .inl _)]) rfl ?_
      refine gl (i' := 43) (fun _ _ => aw_iload K (dOf ck_mX7_readShape rfl rfl) rfl) ?_
      refine gl (i' := 44) (fun _ _ => aw_bip K (dOf ck_mX7_readShape rfl rfl) (v := 111) rfl) ?_
      refine g_icmp_eq K (dOf ck_mX7_readShape rfl rfl) (t := 52) (aJ_of (by decide +kernel)) (fun h12 => ?_) (fun h12 => ?_)
      · refine g_sub [1, 2, 3, 4, 0] rfl ?_
        exact lk_Tape_readShape_52 K _ _ _ _ _ ih _
      · refine gl (i' := 46) (fun _ _ => aw_iload K (dOf ck_mX7_readShape rfl rfl) rfl) ?_
        refine gl (i' := 47) (fun _ _ => aw_bip K (dOf ck_mX7_readShape rfl rfl) (v := 115) rfl) ?_
        refine g_icmp_eq K (dOf ck_mX7_readShape rfl rfl) (t := 52) (aJ_of (by decide +kernel)) (fun h14 => ?_) (fun h14 => ?_)
        · refine g_sub [1, 2, 3, 4, 0] rfl ?_
          exact lk_Tape_readShape_52 K _ _ _ _ _ ih _
        · refine gl (i' := 49) (fun _ _ => aw_aload_n K (dOf ck_mX7_readShape rfl rfl) rfl) ?_
          refine gl (i' := 50) (fun _ _ => aw_iconst K (n := 3) (i32 _ rfl) (dOf ck_mX7_readShape rfl rfl)) ?_
          refine g_callVM K [.inl _] rfl (dOf ck_mX7_readShape rfl rfl) al_OneBreath_Tape_74 rfl rfl ⟨wd_506, wd_2⟩ rfl (Nat.le_of_ble_eq_true rfl) ⟨Nat.le_of_ble_eq_true rfl, Nat.le_of_ble_eq_true rfl⟩ (fun b hb => met_Tape_fail  hb) (fun r15 hr15 => ?_)
          exact g_vret K (dOf ck_mX7_readShape rfl rfl).1 rfl rfl
    · refine gl (i' := 66) (fun _ _ => aw_aload_n K (dOf ck_mX7_readShape rfl rfl) rfl) ?_
      refine gl (i' := 67) (fun _ _ => aw_getf K (dOf ck_mX7_readShape rfl rfl) rfl rfl (Nat.le_of_ble_eq_true rfl) wd_278 (k := 3) rfl) ?_
      refine gl (i' := 68) (fun _ _ => aw_getf K (dOf ck_mX7_readShape rfl rfl) rfl rfl (Nat.le_of_ble_eq_true rfl) wd_266 (k := 13) rfl) ?_
      refine gl (i' := 69) (fun _ _ => aw_aload_n K (dOf ck_mX7_readShape rfl rfl) rfl) ?_
      refine gl (i' := 70) (fun _ _ => aw_getf K (dOf ck_mX7_readShape rfl rfl) rfl rfl (Nat.le_of_ble_eq_true rfl) wd_278 (k := 3) rfl) ?_
      refine gl (i' := 71) (fun _ _ => aw_getf K (dOf ck_mX7_readShape rfl rfl) rfl rfl (Nat.le_of_ble_eq_true rfl) wd_206 (k := 3) rfl) ?_
      refine gl (i' := 72) (fun _ _ => aw_iload_n K (dOf ck_mX7_readShape rfl rfl) rfl) ?_
      refine g_gd (fun hb6 => ?_)
      refine g_st1 ?_
      refine gl (i' := 73) (fun _ _ => aw_iast K (dOf ck_mX7_readShape rfl rfl) rfl hb6) ?_
      refine gl (i' := 74) (fun _ _ => aw_aload_n K (dOf ck_mX7_readShape rfl rfl) rfl) ?_
      refine gl (i' := 75) (fun _ _ => aw_getf K (dOf ck_mX7_readShape rfl rfl) rfl rfl (Nat.le_of_ble_eq_true rfl) wd_278 (k := 3) rfl) ?_
      refine gl (i' := 76) (fun _ _ => aw_getf K (dOf ck_mX7_readShape rfl rfl) rfl rfl (Nat.le_of_ble_eq_true rfl) wd_271 (k := 14) rfl) ?_
      refine gl (i' := 77) (fun _ _ => aw_aload_n K (dOf ck_mX7_readShape rfl rfl) rfl) ?_
      refine gl (i' := 78) (fun _ _ => aw_getf K (dOf ck_mX7_readShape rfl rfl) rfl rfl (Nat.le_of_ble_eq_true rfl) wd_278 (k := 3) rfl) ?_
      refine gl (i' := 79) (fun _ _ => aw_getf K (dOf ck_mX7_readShape rfl rfl) rfl rfl (Nat.le_of_ble_eq_true rfl) wd_206 (k := 3) rfl) ?_
      refine gl (i' := 80) (fun _ _ => aw_iload_n K (dOf ck_mX7_readShape rfl rfl) rfl) ?_
      refine g_gd (fun hb8 => ?_)
      refine g_st1 ?_
      refine gl (i' := 81) (fun _ _ => aw_iast K (dOf ck_mX7_readShape rfl rfl) rfl hb8) ?_
      refine gl (i' := 82) (fun _ _ => aw_aload_n K (dOf ck_mX7_readShape rfl rfl) rfl) ?_
      refine gl (i' := 83) (fun _ _ => aw_getf K (dOf ck_mX7_readShape rfl rfl) rfl rfl (Nat.le_of_ble_eq_true rfl) wd_278 (k := 3) rfl) ?_
      refine gl (i' := 84) (fun _ _ => aw_dup K rfl (dOf ck_mX7_readShape rfl rfl)) ?_
      refine gl (i' := 85) (fun _ _ => aw_getf K (dOf ck_mX7_readShape rfl rfl) rfl rfl (Nat.le_of_ble_eq_true rfl) wd_206 (k := 3) rfl) ?_
      refine gl (i' := 86) (fun _ _ => aw_iconst K (n := 1) (i32 _ rfl) (dOf ck_mX7_readShape rfl rfl)) ?_
      refine gl (i' := 87) (fun _ _ => aw_iadd K (dOf ck_mX7_readShape rfl rfl)) ?_
      refine g_st1 ?_
      refine gl (i' := 88) (fun _ _ => aw_putf K (dOf ck_mX7_readShape rfl rfl) rfl rfl (Nat.le_of_ble_eq_true rfl) wd_206 (k := 3) rfl rfl (Or.inl rfl)) ?_
      exact g_vret K (by decide +kernel) rfl rfl
def Tape_readShape  (mm : aM) : Option aM := if (mm 3 3) < 6 then ((Tape_wants 1 mm).bind fun r2 => (if r2.1 = 0 then (some r2.2) else (if 6 < (w32 ((r2.2 1 6) - (r2.2 1 5))) then ((Tape_fail 3 r2.2).bind fun r16 => (some r16)) else (Tape_readShape_31 (w32 ((r2.2 1 6) - (r2.2 1 5))) FU 0 0 r2.2)))) else ((Tape_fail 4 mm).bind fun r17 => (some r17))
set_option maxHeartbeats 4000000 in
theorem met_Tape_readShape {l : Launch} {D : va_G} {cA : FieldType → ClassId} {ad adV : Nat → Nat} {z0 : Nat}  {mm : aM}  {r : aM} (h : Tape_readShape  mm = some r) : aMet l D cA ad adV z0 mX7_readShape 2 42 0 0 [.inr (.inr (.inl (some 1)))] SH mm (rM r).1 SH (rM r).2 := by
  refine aMet_ofG (by decide +kernel) rfl (Nat.le_of_ble_eq_true rfl) h (fun p e s m args below meth c al0 K => ?_)
  unfold Tape_readShape
  refine gl (i' := 1) (fun _ _ => aw_aload_n K (dOf ck_mX7_readShape rfl rfl) rfl) ?_
  refine gl (i' := 2) (fun _ _ => aw_getf K (dOf ck_mX7_readShape rfl rfl) rfl rfl (Nat.le_of_ble_eq_true rfl) wd_278 (k := 3) rfl) ?_
  refine gl (i' := 3) (fun _ _ => aw_getf K (dOf ck_mX7_readShape rfl rfl) rfl rfl (Nat.le_of_ble_eq_true rfl) wd_206 (k := 3) rfl) ?_
  refine gl (i' := 4) (fun _ _ => aw_bip K (dOf ck_mX7_readShape rfl rfl) (v := 6) rfl) ?_
  refine g_icmp_lt K (dOf ck_mX7_readShape rfl rfl) (t := 9) (aJ_of (by decide +kernel)) (fun h1 => ?_) (fun h1 => ?_)
  · refine gl (i' := 10) (fun _ _ => aw_aload_n K (dOf ck_mX7_readShape rfl rfl) rfl) ?_
    refine gl (i' := 11) (fun _ _ => aw_iconst K (n := 1) (i32 _ rfl) (dOf ck_mX7_readShape rfl rfl)) ?_
    refine g_callVIM K [.inl _] rfl (dOf ck_mX7_readShape rfl rfl) al_OneBreath_Tape_67 rfl rfl ⟨wd_558, wd_5⟩ rfl (Nat.le_of_ble_eq_true rfl) ⟨Nat.le_of_ble_eq_true rfl, Nat.le_of_ble_eq_true rfl⟩ (fun b hb => met_Tape_wants  hb) (fun r2 hr2 => ?_)
    refine g_if_ne K (dOf ck_mX7_readShape rfl rfl) (t := 14) (aJ_of (by decide +kernel)) (fun h3 => ?_) (fun h3 => ?_)
    · exact g_vret K (dOf ck_mX7_readShape rfl rfl).1 rfl rfl
    · refine gl (i' := 15) (fun _ _ => aw_aload_n K (dOf ck_mX7_readShape rfl rfl) rfl) ?_
      refine gl (i' := 16) (fun _ _ => aw_getf K (dOf ck_mX7_readShape rfl rfl) rfl rfl (Nat.le_of_ble_eq_true rfl) wd_282 (k := 6) rfl) ?_
      refine gl (i' := 17) (fun _ _ => aw_aload_n K (dOf ck_mX7_readShape rfl rfl) rfl) ?_
      refine gl (i' := 18) (fun _ _ => aw_getf K (dOf ck_mX7_readShape rfl rfl) rfl rfl (Nat.le_of_ble_eq_true rfl) wd_281 (k := 5) rfl) ?_
      refine gl (i' := 19) (fun _ _ => aw_isub K (dOf ck_mX7_readShape rfl rfl)) ?_
      refine gl (i' := 20) (fun _ _ => aw_istore_n K (dOf ck_mX7_readShape rfl rfl) (Nat.le_of_ble_eq_true rfl)) ?_
      refine g_lv (lv' := [(1, .inl _), (0, .inr (.inr (.inl (some _))))]) rfl ?_
      refine gl (i' := 21) (fun _ _ => aw_iload_n K (dOf ck_mX7_readShape rfl rfl) rfl) ?_
      refine gl (i' := 22) (fun _ _ => aw_bip K (dOf ck_mX7_readShape rfl rfl) (v := 6) rfl) ?_
      refine g_icmp_le K (dOf ck_mX7_readShape rfl rfl) (t := 27) (aJ_of (by decide +kernel)) (fun h4 => ?_) (fun h4 => ?_)
      · refine gl (i' := 24) (fun _ _ => aw_aload_n K (dOf ck_mX7_readShape rfl rfl) rfl) ?_
        refine gl (i' := 25) (fun _ _ => aw_iconst K (n := 3) (i32 _ rfl) (dOf ck_mX7_readShape rfl rfl)) ?_
        refine g_callVM K [.inl _] rfl (dOf ck_mX7_readShape rfl rfl) al_OneBreath_Tape_74 rfl rfl ⟨wd_506, wd_2⟩ rfl (Nat.le_of_ble_eq_true rfl) ⟨Nat.le_of_ble_eq_true rfl, Nat.le_of_ble_eq_true rfl⟩ (fun b hb => met_Tape_fail  hb) (fun r16 hr16 => ?_)
        exact g_vret K (dOf ck_mX7_readShape rfl rfl).1 rfl rfl
      · refine gl (i' := 28) (fun _ _ => aw_iconst K (n := 0) (i32 _ rfl) (dOf ck_mX7_readShape rfl rfl)) ?_
        refine gl (i' := 29) (fun _ _ => aw_istore_n K (dOf ck_mX7_readShape rfl rfl) (Nat.le_of_ble_eq_true rfl)) ?_
        refine g_lv (lv' := [(2, .inl _), (1, .inl _), (0, .inr (.inr (.inl (some _))))]) rfl ?_
        refine gl (i' := 30) (fun _ _ => aw_iconst K (n := 0) (i32 _ rfl) (dOf ck_mX7_readShape rfl rfl)) ?_
        refine gl (i' := 31) (fun _ _ => aw_istore_n K (dOf ck_mX7_readShape rfl rfl) (Nat.le_of_ble_eq_true rfl)) ?_
        refine g_lv (lv' := [(3, .inl _), (2, .inl _), (1, .inl _), (0, .inr (.inr (.inl (some _))))]) rfl ?_
        refine g_sub [3, 2, 1, 0] rfl ?_
        exact lk_Tape_readShape_31 K _ FU _ _ _
  · refine gl (i' := 6) (fun _ _ => aw_aload_n K (dOf ck_mX7_readShape rfl rfl) rfl) ?_
    refine gl (i' := 7) (fun _ _ => aw_iconst K (n := 4) (i32 _ rfl) (dOf ck_mX7_readShape rfl rfl)) ?_
    refine g_callVM K [.inl _] rfl (dOf ck_mX7_readShape rfl rfl) al_OneBreath_Tape_74 rfl rfl ⟨wd_506, wd_2⟩ rfl (Nat.le_of_ble_eq_true rfl) ⟨Nat.le_of_ble_eq_true rfl, Nat.le_of_ble_eq_true rfl⟩ (fun b hb => met_Tape_fail  hb) (fun r17 hr17 => ?_)
    exact g_vret K (dOf ck_mX7_readShape rfl rfl).1 rfl rfl
def Tape_readLine  (mm : aM) : Option aM := if (mm 1 4) = 4 then ((Tape_fail 1 mm).bind fun r28 => (some r28)) else (if (mm 1 4) = 1 then ((Tape_isNamed 0 mm).bind fun r3 => (if r3 = 0 then ((Tape_isNamed 1 mm).bind fun r5 => (if r5 = 0 then ((Tape_isNamed 2 mm).bind fun r7 => (if r7 = 0 then (if (mm 3 1) = 0 then ((Tape_fail 2 mm).bind fun r23 => (some r23)) else ((Tape_isNamed 3 mm).bind fun r10 => (if r10 = 0 then ((Tape_isNamed 4 mm).bind fun r12 => (if r12 = 0 then ((Tape_isNamed 5 mm).bind fun r14 => (if r14 = 0 then ((Tape_isNamed 6 mm).bind fun r16 => (if r16 = 0 then ((Tape_fail 2 mm).bind fun r18 => (some r18)) else ((Tape_readShape mm).bind fun r19 => (some r19)))) else ((Tape_readWord mm).bind fun r20 => (some r20)))) else ((Tape_readLike mm).bind fun r21 => (some r21)))) else ((Tape_readOpen mm).bind fun r22 => (some r22))))) else ((Tape_readLast mm).bind fun r24 => (some r24)))) else ((Tape_readNever mm).bind fun r25 => (some r25)))) else ((Tape_readSounds mm).bind fun r26 => (some r26)))) else ((Tape_fail 2 mm).bind fun r27 => (some r27)))
set_option maxHeartbeats 4000000 in
theorem met_Tape_readLine {l : Launch} {D : va_G} {cA : FieldType → ClassId} {ad adV : Nat → Nat} {z0 : Nat}  {mm : aM}  {r : aM} (h : Tape_readLine  mm = some r) : aMet l D cA ad adV z0 mX7_readLine 7 151 0 0 [.inr (.inr (.inl (some 1)))] SH mm (rM r).1 SH (rM r).2 := by
  refine aMet_ofG (by decide +kernel) rfl (Nat.le_of_ble_eq_true rfl) h (fun p e s m args below meth c al0 K => ?_)
  unfold Tape_readLine
  refine gl (i' := 1) (fun _ _ => aw_aload_n K (dOf ck_mX7_readLine rfl rfl) rfl) ?_
  refine gl (i' := 2) (fun _ _ => aw_getf K (dOf ck_mX7_readLine rfl rfl) rfl rfl (Nat.le_of_ble_eq_true rfl) wd_280 (k := 4) rfl) ?_
  refine gl (i' := 3) (fun _ _ => aw_iconst K (n := 4) (i32 _ rfl) (dOf ck_mX7_readLine rfl rfl)) ?_
  refine g_icmp_ne K (dOf ck_mX7_readLine rfl rfl) (t := 8) (aJ_of (by decide +kernel)) (fun h1 => ?_) (fun h1 => ?_)
  · refine gl (i' := 5) (fun _ _ => aw_aload_n K (dOf ck_mX7_readLine rfl rfl) rfl) ?_
    refine gl (i' := 6) (fun _ _ => aw_iconst K (n := 1) (i32 _ rfl) (dOf ck_mX7_readLine rfl rfl)) ?_
    refine g_callVM K [.inl _] rfl (dOf ck_mX7_readLine rfl rfl) al_OneBreath_Tape_74 rfl rfl ⟨wd_506, wd_2⟩ rfl (Nat.le_of_ble_eq_true rfl) ⟨Nat.le_of_ble_eq_true rfl, Nat.le_of_ble_eq_true rfl⟩ (fun b hb => met_Tape_fail  hb) (fun r28 hr28 => ?_)
    refine g_goto K (dOf ck_mX7_readLine rfl rfl).1 (t := 76) (aJ_of (by decide +kernel)) ?_
    exact g_vret K (by decide +kernel) rfl rfl
  · refine gl (i' := 9) (fun _ _ => aw_aload_n K (dOf ck_mX7_readLine rfl rfl) rfl) ?_
    refine gl (i' := 10) (fun _ _ => aw_getf K (dOf ck_mX7_readLine rfl rfl) rfl rfl (Nat.le_of_ble_eq_true rfl) wd_280 (k := 4) rfl) ?_
    refine gl (i' := 11) (fun _ _ => aw_iconst K (n := 1) (i32 _ rfl) (dOf ck_mX7_readLine rfl rfl)) ?_
    refine g_icmp_eq K (dOf ck_mX7_readLine rfl rfl) (t := 16) (aJ_of (by decide +kernel)) (fun h2 => ?_) (fun h2 => ?_)
    · refine gl (i' := 17) (fun _ _ => aw_aload_n K (dOf ck_mX7_readLine rfl rfl) rfl) ?_
      refine gl (i' := 18) (fun _ _ => aw_ldcs K (dOf ck_mX7_readLine rfl rfl) (n := 0) rfl) ?_
      refine g_callVI K [.inr (.inr (.inr _))] rfl (dOf ck_mX7_readLine rfl rfl) al_OneBreath_Tape_80 rfl rfl ⟨wd_509, wd_3⟩ rfl (Nat.le_of_ble_eq_true rfl) ⟨Nat.le_of_ble_eq_true rfl, Nat.le_of_ble_eq_true rfl⟩ (fun b hb => met_Tape_isNamed  hb) (fun r3 hr3 => ?_)
      refine g_if_eq K (dOf ck_mX7_readLine rfl rfl) (t := 23) (aJ_of (by decide +kernel)) (fun h4 => ?_) (fun h4 => ?_)
      · refine gl (i' := 24) (fun _ _ => aw_aload_n K (dOf ck_mX7_readLine rfl rfl) rfl) ?_
        refine gl (i' := 25) (fun _ _ => aw_ldcs K (dOf ck_mX7_readLine rfl rfl) (n := 1) rfl) ?_
        refine g_callVI K [.inr (.inr (.inr _))] rfl (dOf ck_mX7_readLine rfl rfl) al_OneBreath_Tape_80 rfl rfl ⟨wd_509, wd_3⟩ rfl (Nat.le_of_ble_eq_true rfl) ⟨Nat.le_of_ble_eq_true rfl, Nat.le_of_ble_eq_true rfl⟩ (fun b hb => met_Tape_isNamed  hb) (fun r5 hr5 => ?_)
        refine g_if_eq K (dOf ck_mX7_readLine rfl rfl) (t := 30) (aJ_of (by decide +kernel)) (fun h6 => ?_) (fun h6 => ?_)
        · refine gl (i' := 31) (fun _ _ => aw_aload_n K (dOf ck_mX7_readLine rfl rfl) rfl) ?_
          refine gl (i' := 32) (fun _ _ => aw_ldcs K (dOf ck_mX7_readLine rfl rfl) (n := 2) rfl) ?_
          refine g_callVI K [.inr (.inr (.inr _))] rfl (dOf ck_mX7_readLine rfl rfl) al_OneBreath_Tape_80 rfl rfl ⟨wd_509, wd_3⟩ rfl (Nat.le_of_ble_eq_true rfl) ⟨Nat.le_of_ble_eq_true rfl, Nat.le_of_ble_eq_true rfl⟩ (fun b hb => met_Tape_isNamed  hb) (fun r7 hr7 => ?_)
          refine g_if_eq K (dOf ck_mX7_readLine rfl rfl) (t := 37) (aJ_of (by decide +kernel)) (fun h8 => ?_) (fun h8 => ?_)
          · refine gl (i' := 38) (fun _ _ => aw_aload_n K (dOf ck_mX7_readLine rfl rfl) rfl) ?_
            refine gl (i' := 39) (fun _ _ => aw_getf K (dOf ck_mX7_readLine rfl rfl) rfl rfl (Nat.le_of_ble_eq_true rfl) wd_278 (k := 3) rfl) ?_
            refine gl (i' := 40) (fun _ _ => aw_getf K (dOf ck_mX7_readLine rfl rfl) rfl rfl (Nat.le_of_ble_eq_true rfl) wd_195 (k := 1) rfl) ?_
            refine g_if_ne K (dOf ck_mX7_readLine rfl rfl) (t := 45) (aJ_of (by decide +kernel)) (fun h9 => ?_) (fun h9 => ?_)
            · refine gl (i' := 42) (fun _ _ => aw_aload_n K (dOf ck_mX7_readLine rfl rfl) rfl) ?_
              refine gl (i' := 43) (fun _ _ => aw_iconst K (n := 2) (i32 _ rfl) (dOf ck_mX7_readLine rfl rfl)) ?_
              refine g_callVM K [.inl _] rfl (dOf ck_mX7_readLine rfl rfl) al_OneBreath_Tape_74 rfl rfl ⟨wd_506, wd_2⟩ rfl (Nat.le_of_ble_eq_true rfl) ⟨Nat.le_of_ble_eq_true rfl, Nat.le_of_ble_eq_true rfl⟩ (fun b hb => met_Tape_fail  hb) (fun r23 hr23 => ?_)
              refine g_goto K (dOf ck_mX7_readLine rfl rfl).1 (t := 76) (aJ_of (by decide +kernel)) ?_
              exact g_vret K (by decide +kernel) rfl rfl
            · refine gl (i' := 46) (fun _ _ => aw_aload_n K (dOf ck_mX7_readLine rfl rfl) rfl) ?_
              refine gl (i' := 47) (fun _ _ => aw_ldcs K (dOf ck_mX7_readLine rfl rfl) (n := 3) rfl) ?_
              refine g_callVI K [.inr (.inr (.inr _))] rfl (dOf ck_mX7_readLine rfl rfl) al_OneBreath_Tape_80 rfl rfl ⟨wd_509, wd_3⟩ rfl (Nat.le_of_ble_eq_true rfl) ⟨Nat.le_of_ble_eq_true rfl, Nat.le_of_ble_eq_true rfl⟩ (fun b hb => met_Tape_isNamed  hb) (fun r10 hr10 => ?_)
              refine g_if_eq K (dOf ck_mX7_readLine rfl rfl) (t := 52) (aJ_of (by decide +kernel)) (fun h11 => ?_) (fun h11 => ?_)
              · refine gl (i' := 53) (fun _ _ => aw_aload_n K (dOf ck_mX7_readLine rfl rfl) rfl) ?_
                refine gl (i' := 54) (fun _ _ => aw_ldcs K (dOf ck_mX7_readLine rfl rfl) (n := 4) rfl) ?_
                refine g_callVI K [.inr (.inr (.inr _))] rfl (dOf ck_mX7_readLine rfl rfl) al_OneBreath_Tape_80 rfl rfl ⟨wd_509, wd_3⟩ rfl (Nat.le_of_ble_eq_true rfl) ⟨Nat.le_of_ble_eq_true rfl, Nat.le_of_ble_eq_true rfl⟩ (fun b hb => met_Tape_isNamed  hb) (fun r12 hr12 => ?_)
                refine g_if_eq K (dOf ck_mX7_readLine rfl rfl) (t := 59) (aJ_of (by decide +kernel)) (fun h13 => ?_) (fun h13 => ?_)
                · refine gl (i' := 60) (fun _ _ => aw_aload_n K (dOf ck_mX7_readLine rfl rfl) rfl) ?_
                  refine gl (i' := 61) (fun _ _ => aw_ldcs K (dOf ck_mX7_readLine rfl rfl) (n := 5) rfl) ?_
                  refine g_callVI K [.inr (.inr (.inr _))] rfl (dOf ck_mX7_readLine rfl rfl) al_OneBreath_Tape_80 rfl rfl ⟨wd_509, wd_3⟩ rfl (Nat.le_of_ble_eq_true rfl) ⟨Nat.le_of_ble_eq_true rfl, Nat.le_of_ble_eq_true rfl⟩ (fun b hb => met_Tape_isNamed  hb) (fun r14 hr14 => ?_)
                  refine g_if_eq K (dOf ck_mX7_readLine rfl rfl) (t := 66) (aJ_of (by decide +kernel)) (fun h15 => ?_) (fun h15 => ?_)
                  · refine gl (i' := 67) (fun _ _ => aw_aload_n K (dOf ck_mX7_readLine rfl rfl) rfl) ?_
                    refine gl (i' := 68) (fun _ _ => aw_ldcs K (dOf ck_mX7_readLine rfl rfl) (n := 6) rfl) ?_
                    refine g_callVI K [.inr (.inr (.inr _))] rfl (dOf ck_mX7_readLine rfl rfl) al_OneBreath_Tape_80 rfl rfl ⟨wd_509, wd_3⟩ rfl (Nat.le_of_ble_eq_true rfl) ⟨Nat.le_of_ble_eq_true rfl, Nat.le_of_ble_eq_true rfl⟩ (fun b hb => met_Tape_isNamed  hb) (fun r16 hr16 => ?_)
                    refine g_if_eq K (dOf ck_mX7_readLine rfl rfl) (t := 73) (aJ_of (by decide +kernel)) (fun h17 => ?_) (fun h17 => ?_)
                    · refine gl (i' := 74) (fun _ _ => aw_aload_n K (dOf ck_mX7_readLine rfl rfl) rfl) ?_
                      refine gl (i' := 75) (fun _ _ => aw_iconst K (n := 2) (i32 _ rfl) (dOf ck_mX7_readLine rfl rfl)) ?_
                      refine g_callVM K [.inl _] rfl (dOf ck_mX7_readLine rfl rfl) al_OneBreath_Tape_74 rfl rfl ⟨wd_506, wd_2⟩ rfl (Nat.le_of_ble_eq_true rfl) ⟨Nat.le_of_ble_eq_true rfl, Nat.le_of_ble_eq_true rfl⟩ (fun b hb => met_Tape_fail  hb) (fun r18 hr18 => ?_)
                      exact g_vret K (by decide +kernel) rfl rfl
                    · refine gl (i' := 71) (fun _ _ => aw_aload_n K (dOf ck_mX7_readLine rfl rfl) rfl) ?_
                      refine g_callVM K [] rfl (dOf ck_mX7_readLine rfl rfl) al_OneBreath_Tape_116 rfl rfl ⟨wd_603, wd_16⟩ rfl (Nat.le_of_ble_eq_true rfl) ⟨Nat.le_of_ble_eq_true rfl, Nat.le_of_ble_eq_true rfl⟩ (fun b hb => met_Tape_readShape  hb) (fun r19 hr19 => ?_)
                      refine g_goto K (dOf ck_mX7_readLine rfl rfl).1 (t := 76) (aJ_of (by decide +kernel)) ?_
                      exact g_vret K (by decide +kernel) rfl rfl
                  · refine gl (i' := 64) (fun _ _ => aw_aload_n K (dOf ck_mX7_readLine rfl rfl) rfl) ?_
                    refine g_callVM K [] rfl (dOf ck_mX7_readLine rfl rfl) al_OneBreath_Tape_111 rfl rfl ⟨wd_589, wd_14⟩ rfl (Nat.le_of_ble_eq_true rfl) ⟨Nat.le_of_ble_eq_true rfl, Nat.le_of_ble_eq_true rfl⟩ (fun b hb => met_Tape_readWord  hb) (fun r20 hr20 => ?_)
                    refine g_goto K (dOf ck_mX7_readLine rfl rfl).1 (t := 76) (aJ_of (by decide +kernel)) ?_
                    exact g_vret K (by decide +kernel) rfl rfl
                · refine gl (i' := 57) (fun _ _ => aw_aload_n K (dOf ck_mX7_readLine rfl rfl) rfl) ?_
                  refine g_callVM K [] rfl (dOf ck_mX7_readLine rfl rfl) al_OneBreath_Tape_106 rfl rfl ⟨wd_583, wd_12⟩ rfl (Nat.le_of_ble_eq_true rfl) ⟨Nat.le_of_ble_eq_true rfl, Nat.le_of_ble_eq_true rfl⟩ (fun b hb => met_Tape_readLike  hb) (fun r21 hr21 => ?_)
                  refine g_goto K (dOf ck_mX7_readLine rfl rfl).1 (t := 76) (aJ_of (by decide +kernel)) ?_
                  exact g_vret K (by decide +kernel) rfl rfl
              · refine gl (i' := 50) (fun _ _ => aw_aload_n K (dOf ck_mX7_readLine rfl rfl) rfl) ?_
                refine g_callVM K [] rfl (dOf ck_mX7_readLine rfl rfl) al_OneBreath_Tape_101 rfl rfl ⟨wd_573, wd_10⟩ rfl (Nat.le_of_ble_eq_true rfl) ⟨Nat.le_of_ble_eq_true rfl, Nat.le_of_ble_eq_true rfl⟩ (fun b hb => met_Tape_readOpen  hb) (fun r22 hr22 => ?_)
                refine g_goto K (dOf ck_mX7_readLine rfl rfl).1 (t := 76) (aJ_of (by decide +kernel)) ?_
                exact g_vret K (by decide +kernel) rfl rfl
          · refine gl (i' := 35) (fun _ _ => aw_aload_n K (dOf ck_mX7_readLine rfl rfl) rfl) ?_
            refine g_callVM K [] rfl (dOf ck_mX7_readLine rfl rfl) al_OneBreath_Tape_94 rfl rfl ⟨wd_570, wd_9⟩ rfl (Nat.le_of_ble_eq_true rfl) ⟨Nat.le_of_ble_eq_true rfl, Nat.le_of_ble_eq_true rfl⟩ (fun b hb => met_Tape_readLast  hb) (fun r24 hr24 => ?_)
            refine g_goto K (dOf ck_mX7_readLine rfl rfl).1 (t := 76) (aJ_of (by decide +kernel)) ?_
            exact g_vret K (by decide +kernel) rfl rfl
        · refine gl (i' := 28) (fun _ _ => aw_aload_n K (dOf ck_mX7_readLine rfl rfl) rfl) ?_
          refine g_callVM K [] rfl (dOf ck_mX7_readLine rfl rfl) al_OneBreath_Tape_89 rfl rfl ⟨wd_564, wd_7⟩ rfl (Nat.le_of_ble_eq_true rfl) ⟨Nat.le_of_ble_eq_true rfl, Nat.le_of_ble_eq_true rfl⟩ (fun b hb => met_Tape_readNever  hb) (fun r25 hr25 => ?_)
          refine g_goto K (dOf ck_mX7_readLine rfl rfl).1 (t := 76) (aJ_of (by decide +kernel)) ?_
          exact g_vret K (by decide +kernel) rfl rfl
      · refine gl (i' := 21) (fun _ _ => aw_aload_n K (dOf ck_mX7_readLine rfl rfl) rfl) ?_
        refine g_callVM K [] rfl (dOf ck_mX7_readLine rfl rfl) al_OneBreath_Tape_84 rfl rfl ⟨wd_555, wd_4⟩ rfl (Nat.le_of_ble_eq_true rfl) ⟨Nat.le_of_ble_eq_true rfl, Nat.le_of_ble_eq_true rfl⟩ (fun b hb => met_Tape_readSounds  hb) (fun r26 hr26 => ?_)
        refine g_goto K (dOf ck_mX7_readLine rfl rfl).1 (t := 76) (aJ_of (by decide +kernel)) ?_
        exact g_vret K (by decide +kernel) rfl rfl
    · refine gl (i' := 13) (fun _ _ => aw_aload_n K (dOf ck_mX7_readLine rfl rfl) rfl) ?_
      refine gl (i' := 14) (fun _ _ => aw_iconst K (n := 2) (i32 _ rfl) (dOf ck_mX7_readLine rfl rfl)) ?_
      refine g_callVM K [.inl _] rfl (dOf ck_mX7_readLine rfl rfl) al_OneBreath_Tape_74 rfl rfl ⟨wd_506, wd_2⟩ rfl (Nat.le_of_ble_eq_true rfl) ⟨Nat.le_of_ble_eq_true rfl, Nat.le_of_ble_eq_true rfl⟩ (fun b hb => met_Tape_fail  hb) (fun r27 hr27 => ?_)
      refine g_goto K (dOf ck_mX7_readLine rfl rfl).1 (t := 76) (aJ_of (by decide +kernel)) ?_
      exact g_vret K (by decide +kernel) rfl rfl
def Tape_readTongue_49 (k22 : Int → aM → Option aM) (x2 : Int) (mm : aM) : Option aM := k22 (w32 (x2 + 1)) mm
set_option maxHeartbeats 4000000 in
theorem lk_Tape_readTongue_49 {p : Program} {l : Launch} {e : Env} {s : State} {m : MethodId} {args : Array Value} {below : List Frame} {meth : Method} {c : Code} {D : va_G} {cA : FieldType → ClassId} {ad adV : Nat → Nat} {z0 : Nat} {al0 : List Nat} (K : aK p s m args meth c mX7_readTongue D cA ad adV z0) (x2 : Int) (k22 : Int → aM → Option aM) (hk22 : ∀ (x2 : Int) (mm : aM), aG p l e { frames := 8, cells := 0, slots := 0, locals := 171 } s m args below meth c D cA ad z0 mX7_readTongue al0 rM (k22 x2 mm) 22 [(0, .inr (.inr (.inl (some 1)))), (2, .inl x2)] [] mm)  (mm : aM) : aG p l e { frames := 8, cells := 0, slots := 0, locals := 171 } s m args below meth c D cA ad z0 mX7_readTongue al0 rM (Tape_readTongue_49 k22 x2 mm) 49 [(0, .inr (.inr (.inl (some 1)))), (2, .inl x2)] [] mm := by
  unfold Tape_readTongue_49
  refine gl (i' := 50) (fun _ _ => aw_iinc K (dOf ck_mX7_readTongue rfl rfl) (Nat.le_of_ble_eq_true rfl) rfl) ?_
  refine g_lv (lv' := [(2, .inl _), (0, .inr (.inr (.inl (some _))))]) rfl ?_
  refine g_goto K (dOf ck_mX7_readTongue rfl rfl).1 (t := 22) (aJ_of (by decide +kernel)) ?_
  refine g_sub [1, 0] rfl ?_
  exact hk22 _ _
def Tape_readTongue_22  : Nat → Int → aM → Option aM
  | 0, _, _ => none
  | n + 1, x2, mm => if x2 < 500 then (if (mm 1 4) = 0 then (some mm) else (if (mm 1 7) = 0 then ((Tape_readLine mm).bind fun r11 => (if (r11 1 7) = 0 then ((Tape_wants 3 r11).bind fun r13 => (if r13.1 = 0 then (Tape_readTongue_49 (Tape_readTongue_22 n) x2 r13.2) else (st1 (aup r13.2 3 0 (w32 ((r13.2 3 0) + 1))) fun mm15 => ((Tape_advance mm15).bind fun r16 => (Tape_readTongue_49 (Tape_readTongue_22 n) x2 r16))))) else (Tape_readTongue_49 (Tape_readTongue_22 n) x2 r11))) else (some mm))) else (some mm)
set_option maxHeartbeats 4000000 in
theorem lk_Tape_readTongue_22 {p : Program} {l : Launch} {e : Env} {s : State} {m : MethodId} {args : Array Value} {below : List Frame} {meth : Method} {c : Code} {D : va_G} {cA : FieldType → ClassId} {ad adV : Nat → Nat} {z0 : Nat} {al0 : List Nat} (K : aK p s m args meth c mX7_readTongue D cA ad adV z0)   : ∀ (n : Nat) (x2 : Int) (mm : aM), aG p l e { frames := 8, cells := 0, slots := 0, locals := 171 } s m args below meth c D cA ad z0 mX7_readTongue al0 rM (Tape_readTongue_22 n x2 mm) 22 [(0, .inr (.inr (.inl (some 1)))), (2, .inl x2)] [] mm := by
  intro n
  induction n with
  | zero => intro x2 mm; exact g_none
  | succ n ih =>
    intro x2 mm
    rw [Tape_readTongue_22]
    refine gl (i' := 23) (fun _ _ => aw_iload_n K (dOf ck_mX7_readTongue rfl rfl) rfl) ?_
    refine gl (i' := 24) (fun _ _ => aw_sip K (dOf ck_mX7_readTongue rfl rfl) (v := 500) rfl) ?_
    refine g_icmp_ge K (dOf ck_mX7_readTongue rfl rfl) (t := 51) (aJ_of (by decide +kernel)) (fun h8 => ?_) (fun h8 => ?_)
    · refine gl (i' := 26) (fun _ _ => aw_aload_n K (dOf ck_mX7_readTongue rfl rfl) rfl) ?_
      refine gl (i' := 27) (fun _ _ => aw_getf K (dOf ck_mX7_readTongue rfl rfl) rfl rfl (Nat.le_of_ble_eq_true rfl) wd_280 (k := 4) rfl) ?_
      refine g_if_eq K (dOf ck_mX7_readTongue rfl rfl) (t := 51) (aJ_of (by decide +kernel)) (fun h9 => ?_) (fun h9 => ?_)
      · exact g_vret K (by decide +kernel) rfl rfl
      · refine gl (i' := 29) (fun _ _ => aw_aload_n K (dOf ck_mX7_readTongue rfl rfl) rfl) ?_
        refine gl (i' := 30) (fun _ _ => aw_getf K (dOf ck_mX7_readTongue rfl rfl) rfl rfl (Nat.le_of_ble_eq_true rfl) wd_284 (k := 7) rfl) ?_
        refine g_if_ne K (dOf ck_mX7_readTongue rfl rfl) (t := 51) (aJ_of (by decide +kernel)) (fun h10 => ?_) (fun h10 => ?_)
        · refine gl (i' := 32) (fun _ _ => aw_aload_n K (dOf ck_mX7_readTongue rfl rfl) rfl) ?_
          refine g_callVM K [] rfl (dOf ck_mX7_readTongue rfl rfl) al_OneBreath_Tape_64 rfl rfl ⟨wd_503, wd_1⟩ rfl (Nat.le_of_ble_eq_true rfl) ⟨Nat.le_of_ble_eq_true rfl, Nat.le_of_ble_eq_true rfl⟩ (fun b hb => met_Tape_readLine  hb) (fun r11 hr11 => ?_)
          refine gl (i' := 34) (fun _ _ => aw_aload_n K (dOf ck_mX7_readTongue rfl rfl) rfl) ?_
          refine gl (i' := 35) (fun _ _ => aw_getf K (dOf ck_mX7_readTongue rfl rfl) rfl rfl (Nat.le_of_ble_eq_true rfl) wd_284 (k := 7) rfl) ?_
          refine g_if_ne K (dOf ck_mX7_readTongue rfl rfl) (t := 49) (aJ_of (by decide +kernel)) (fun h12 => ?_) (fun h12 => ?_)
          · refine gl (i' := 37) (fun _ _ => aw_aload_n K (dOf ck_mX7_readTongue rfl rfl) rfl) ?_
            refine gl (i' := 38) (fun _ _ => aw_iconst K (n := 3) (i32 _ rfl) (dOf ck_mX7_readTongue rfl rfl)) ?_
            refine g_callVIM K [.inl _] rfl (dOf ck_mX7_readTongue rfl rfl) al_OneBreath_Tape_67 rfl rfl ⟨wd_558, wd_5⟩ rfl (Nat.le_of_ble_eq_true rfl) ⟨Nat.le_of_ble_eq_true rfl, Nat.le_of_ble_eq_true rfl⟩ (fun b hb => met_Tape_wants  hb) (fun r13 hr13 => ?_)
            refine g_if_eq K (dOf ck_mX7_readTongue rfl rfl) (t := 49) (aJ_of (by decide +kernel)) (fun h14 => ?_) (fun h14 => ?_)
            · refine g_sub [0, 1] rfl ?_
              exact lk_Tape_readTongue_49 K _ _ ih _
            · refine gl (i' := 41) (fun _ _ => aw_aload_n K (dOf ck_mX7_readTongue rfl rfl) rfl) ?_
              refine gl (i' := 42) (fun _ _ => aw_getf K (dOf ck_mX7_readTongue rfl rfl) rfl rfl (Nat.le_of_ble_eq_true rfl) wd_278 (k := 3) rfl) ?_
              refine gl (i' := 43) (fun _ _ => aw_dup K rfl (dOf ck_mX7_readTongue rfl rfl)) ?_
              refine gl (i' := 44) (fun _ _ => aw_getf K (dOf ck_mX7_readTongue rfl rfl) rfl rfl (Nat.le_of_ble_eq_true rfl) wd_190 (k := 0) rfl) ?_
              refine gl (i' := 45) (fun _ _ => aw_iconst K (n := 1) (i32 _ rfl) (dOf ck_mX7_readTongue rfl rfl)) ?_
              refine gl (i' := 46) (fun _ _ => aw_iadd K (dOf ck_mX7_readTongue rfl rfl)) ?_
              refine g_st1 ?_
              refine gl (i' := 47) (fun _ _ => aw_putf K (dOf ck_mX7_readTongue rfl rfl) rfl rfl (Nat.le_of_ble_eq_true rfl) wd_190 (k := 0) rfl rfl (Or.inl rfl)) ?_
              refine gl (i' := 48) (fun _ _ => aw_aload_n K (dOf ck_mX7_readTongue rfl rfl) rfl) ?_
              refine g_callVM K [] rfl (dOf ck_mX7_readTongue rfl rfl) al_OneBreath_Tape_58 rfl rfl ⟨wd_500, wd_0⟩ rfl (Nat.le_of_ble_eq_true rfl) ⟨Nat.le_of_ble_eq_true rfl, Nat.le_of_ble_eq_true rfl⟩ (fun b hb => met_Tape_advance  hb) (fun r16 hr16 => ?_)
              refine g_sub [0, 1] rfl ?_
              exact lk_Tape_readTongue_49 K _ _ ih _
          · refine g_sub [0, 1] rfl ?_
            exact lk_Tape_readTongue_49 K _ _ ih _
        · exact g_vret K (by decide +kernel) rfl rfl
    · exact g_vret K (by decide +kernel) rfl rfl
def Tape_readTongue (x1 : Int) (mm : aM) : Option aM := (Jmath_min x1 (mm 1 1) mm).bind fun r1 => (st1 (aup mm 1 2 r1) fun mm2 => (st1 (aup mm2 1 6 0) fun mm3 => (st1 (aup mm3 1 7 0) fun mm4 => (st1 (aup mm4 1 8 (-1)) fun mm5 => ((Tongue_empty 3 mm5).bind fun r6 => ((Tape_advance r6).bind fun r7 => (Tape_readTongue_22 FU 0 r7)))))))
set_option maxHeartbeats 4000000 in
theorem met_Tape_readTongue {l : Launch} {D : va_G} {cA : FieldType → ClassId} {ad adV : Nat → Nat} {z0 : Nat} {x1 : Int} {mm : aM}  {r : aM} (h : Tape_readTongue x1 mm = some r) : aMet l D cA ad adV z0 mX7_readTongue 8 171 0 0 [.inr (.inr (.inl (some 1))), .inl x1] SH mm (rM r).1 SH (rM r).2 := by
  refine aMet_ofG (by decide +kernel) rfl (Nat.le_of_ble_eq_true rfl) h (fun p e s m args below meth c al0 K => ?_)
  unfold Tape_readTongue
  refine gl (i' := 1) (fun _ _ => aw_aload_n K (dOf ck_mX7_readTongue rfl rfl) rfl) ?_
  refine gl (i' := 2) (fun _ _ => aw_iload_n K (dOf ck_mX7_readTongue rfl rfl) rfl) ?_
  refine gl (i' := 3) (fun _ _ => aw_aload_n K (dOf ck_mX7_readTongue rfl rfl) rfl) ?_
  refine gl (i' := 4) (fun _ _ => aw_getf K (dOf ck_mX7_readTongue rfl rfl) rfl rfl (Nat.le_of_ble_eq_true rfl) wd_276 (k := 1) rfl) ?_
  refine g_callSI K [.inl _, .inl _] rfl (dOf ck_mX7_readTongue rfl rfl) al_OneBreath_Tape_42 wd_496 rfl (Nat.le_of_ble_eq_true rfl) ⟨Nat.le_of_ble_eq_true rfl, Nat.le_of_ble_eq_true rfl⟩ (fun b hb => met_Jmath_min  hb) (fun r1 hr1 => ?_)
  refine g_st1 ?_
  refine gl (i' := 6) (fun _ _ => aw_putf K (dOf ck_mX7_readTongue rfl rfl) rfl rfl (Nat.le_of_ble_eq_true rfl) wd_277 (k := 2) rfl rfl (Or.inl rfl)) ?_
  refine gl (i' := 7) (fun _ _ => aw_aload_n K (dOf ck_mX7_readTongue rfl rfl) rfl) ?_
  refine gl (i' := 8) (fun _ _ => aw_iconst K (n := 0) (i32 _ rfl) (dOf ck_mX7_readTongue rfl rfl)) ?_
  refine g_st1 ?_
  refine gl (i' := 9) (fun _ _ => aw_putf K (dOf ck_mX7_readTongue rfl rfl) rfl rfl (Nat.le_of_ble_eq_true rfl) wd_282 (k := 6) rfl rfl (Or.inl rfl)) ?_
  refine gl (i' := 10) (fun _ _ => aw_aload_n K (dOf ck_mX7_readTongue rfl rfl) rfl) ?_
  refine gl (i' := 11) (fun _ _ => aw_iconst K (n := 0) (i32 _ rfl) (dOf ck_mX7_readTongue rfl rfl)) ?_
  refine g_st1 ?_
  refine gl (i' := 12) (fun _ _ => aw_putf K (dOf ck_mX7_readTongue rfl rfl) rfl rfl (Nat.le_of_ble_eq_true rfl) wd_284 (k := 7) rfl rfl (Or.inl rfl)) ?_
  refine gl (i' := 13) (fun _ _ => aw_aload_n K (dOf ck_mX7_readTongue rfl rfl) rfl) ?_
  refine gl (i' := 14) (fun _ _ => aw_iconst K (n := -1) (i32 _ rfl) (dOf ck_mX7_readTongue rfl rfl)) ?_
  refine g_st1 ?_
  refine gl (i' := 15) (fun _ _ => aw_putf K (dOf ck_mX7_readTongue rfl rfl) rfl rfl (Nat.le_of_ble_eq_true rfl) wd_285 (k := 8) rfl rfl (Or.inl rfl)) ?_
  refine gl (i' := 16) (fun _ _ => aw_aload_n K (dOf ck_mX7_readTongue rfl rfl) rfl) ?_
  refine gl (i' := 17) (fun _ _ => aw_getf K (dOf ck_mX7_readTongue rfl rfl) rfl rfl (Nat.le_of_ble_eq_true rfl) wd_278 (k := 3) rfl) ?_
  refine g_callVM K [] rfl (dOf ck_mX7_readTongue rfl rfl) al_OneBreath_Tape_55 rfl rfl ⟨wd_182, wd_183⟩ rfl (Nat.le_of_ble_eq_true rfl) ⟨Nat.le_of_ble_eq_true rfl, Nat.le_of_ble_eq_true rfl⟩ (fun b hb => met_Tongue_empty (by unfold okT; omega) hb) (fun r6 hr6 => ?_)
  refine gl (i' := 19) (fun _ _ => aw_aload_n K (dOf ck_mX7_readTongue rfl rfl) rfl) ?_
  refine g_callVM K [] rfl (dOf ck_mX7_readTongue rfl rfl) al_OneBreath_Tape_58 rfl rfl ⟨wd_500, wd_0⟩ rfl (Nat.le_of_ble_eq_true rfl) ⟨Nat.le_of_ble_eq_true rfl, Nat.le_of_ble_eq_true rfl⟩ (fun b hb => met_Tape_advance  hb) (fun r7 hr7 => ?_)
  refine gl (i' := 21) (fun _ _ => aw_iconst K (n := 0) (i32 _ rfl) (dOf ck_mX7_readTongue rfl rfl)) ?_
  refine gl (i' := 22) (fun _ _ => aw_istore_n K (dOf ck_mX7_readTongue rfl rfl) (Nat.le_of_ble_eq_true rfl)) ?_
  refine g_lv (lv' := [(2, .inl _), (0, .inr (.inr (.inl (some _)))), (1, .inl _)]) rfl ?_
  refine g_sub [1, 0] rfl ?_
  exact lk_Tape_readTongue_22 K FU _ _
def Tongue_become_42 (t : Nat) (x1 : Nat) : Nat → Int → aM → Option aM
  | 0, _, _ => none
  | n + 1, x2, mm => if x2 < 12 then (if 0 ≤ x2 ∧ x2 < 12 then (st1 (aupr mm (t + 4 + x2.toNat) (aCpy (mm (x1 + 4 + x2.toNat)) (mm (t + 4 + x2.toNat)) 0 0 6)) fun mm17 => (Tongue_become_42 t x1 n (w32 (x2 + 1)) mm17)) else none) else (st1 (aupr mm (t + 16) (aCpy (mm (x1 + 16)) (mm (t + 16)) 0 0 12)) fun mm10 => (st1 (aupr mm10 (t + 17) (aCpy (mm10 (x1 + 17)) (mm10 (t + 17)) 0 0 12)) fun mm11 => (st1 (aupr mm11 (t + 18) (aCpy (mm11 (x1 + 18)) (mm11 (t + 18)) 0 0 12)) fun mm12 => (st1 (aupr mm12 (t + 19) (aCpy (mm12 (x1 + 19)) (mm12 (t + 19)) 0 0 4)) fun mm13 => (st1 (aupr mm13 (t + 20) (aCpy (mm13 (x1 + 20)) (mm13 (t + 20)) 0 0 6)) fun mm14 => (st1 (aupr mm14 (t + 21) (aCpy (mm14 (x1 + 21)) (mm14 (t + 21)) 0 0 6)) fun mm15 => (some mm15)))))))
set_option maxHeartbeats 4000000 in
theorem lk_Tongue_become_42 {p : Program} {l : Launch} {e : Env} {s : State} {m : MethodId} {args : Array Value} {below : List Frame} {meth : Method} {c : Code} {D : va_G} {cA : FieldType → ClassId} {ad adV : Nat → Nat} {z0 : Nat} {al0 : List Nat} (K : aK p s m args meth c mX8_become D cA ad adV z0) {t : Nat} {x1 : Nat} (ht : okT t) (hx1 : okT x1)  : ∀ (n : Nat) (x2 : Int) (mm : aM), aG p l e { frames := 1, cells := 0, slots := 0, locals := 26 } s m args below meth c D cA ad z0 mX8_become al0 rM (Tongue_become_42 t x1 n x2 mm) 42 [(0, .inr (.inr (.inl (some t)))), (1, .inr (.inr (.inl (some x1)))), (2, .inl x2)] [] mm := by
  intro n
  induction n with
  | zero => intro x2 mm; exact g_none
  | succ n ih =>
    intro x2 mm
    rw [Tongue_become_42]
    refine gl (i' := 43) (fun _ _ => aw_iload_n K (dOf ck_mX8_become rfl rfl) rfl) ?_
    refine gl (i' := 44) (fun _ _ => aw_bip K (dOf ck_mX8_become rfl rfl) (v := 12) rfl) ?_
    refine g_icmp_ge K (dOf ck_mX8_become rfl rfl) (t := 59) (aJ_of (by decide +kernel)) (fun h9 => ?_) (fun h9 => ?_)
    · refine gl (i' := 46) (fun _ _ => aw_aload_n K (dOf ck_mX8_become rfl rfl) rfl) ?_
      refine gl (i' := 47) (fun _ _ => aw_getf K (dOf ck_mX8_become rfl rfl) (shT_0 hx1) rfl (Nat.le_of_ble_eq_true rfl) wd_226 (k := 8) rfl) ?_
      refine gl (i' := 48) (fun _ _ => aw_iload_n K (dOf ck_mX8_become rfl rfl) rfl) ?_
      refine g_gd (fun hb16 => ?_)
      refine gl (i' := 49) (fun _ _ => aw_aald K (dOf ck_mX8_become rfl rfl) (shTa hx1) hb16 (rsT_at hb16)) ?_
      refine gl (i' := 50) (fun _ _ => aw_iconst K (n := 0) (i32 _ rfl) (dOf ck_mX8_become rfl rfl)) ?_
      refine gl (i' := 51) (fun _ _ => aw_aload_n K (dOf ck_mX8_become rfl rfl) rfl) ?_
      refine gl (i' := 52) (fun _ _ => aw_getf K (dOf ck_mX8_become rfl rfl) (shT_0 ht) rfl (Nat.le_of_ble_eq_true rfl) wd_226 (k := 8) rfl) ?_
      refine gl (i' := 53) (fun _ _ => aw_iload_n K (dOf ck_mX8_become rfl rfl) rfl) ?_
      refine gl (i' := 54) (fun _ _ => aw_aald K (dOf ck_mX8_become rfl rfl) (shTa ht) hb16 (rsT_at hb16)) ?_
      refine gl (i' := 55) (fun _ _ => aw_iconst K (n := 0) (i32 _ rfl) (dOf ck_mX8_become rfl rfl)) ?_
      refine gl (i' := 56) (fun _ _ => aw_bip K (dOf ck_mX8_become rfl rfl) (v := 6) rfl) ?_
      refine g_st1 ?_
      refine gl (i' := 57) (fun _ _ => aw_copy K (dOf ck_mX8_become rfl rfl) ⟨wd_609, wd_611, wd_610, wd_157⟩ (shTr hx1 hb16) (shTr ht hb16) (by decide) (by decide) (by decide) (by decide) (by decide) (Nat.le_of_ble_eq_true rfl) ⟨Nat.le_of_ble_eq_true rfl, Nat.le_of_ble_eq_true rfl⟩) ?_
      refine gl (i' := 58) (fun _ _ => aw_iinc K (dOf ck_mX8_become rfl rfl) (Nat.le_of_ble_eq_true rfl) rfl) ?_
      refine g_lv (lv' := [(2, .inl _), (0, .inr (.inr (.inl (some _)))), (1, .inr (.inr (.inl (some _))))]) rfl ?_
      refine g_goto K (dOf ck_mX8_become rfl rfl).1 (t := 42) (aJ_of (by decide +kernel)) ?_
      refine g_sub [1, 2, 0] rfl ?_
      exact ih _ _
    · refine gl (i' := 60) (fun _ _ => aw_aload_n K (dOf ck_mX8_become rfl rfl) rfl) ?_
      refine gl (i' := 61) (fun _ _ => aw_getf K (dOf ck_mX8_become rfl rfl) (shT_0 hx1) rfl (Nat.le_of_ble_eq_true rfl) wd_235 (k := 9) rfl) ?_
      refine gl (i' := 62) (fun _ _ => aw_iconst K (n := 0) (i32 _ rfl) (dOf ck_mX8_become rfl rfl)) ?_
      refine gl (i' := 63) (fun _ _ => aw_aload_n K (dOf ck_mX8_become rfl rfl) rfl) ?_
      refine gl (i' := 64) (fun _ _ => aw_getf K (dOf ck_mX8_become rfl rfl) (shT_0 ht) rfl (Nat.le_of_ble_eq_true rfl) wd_235 (k := 9) rfl) ?_
      refine gl (i' := 65) (fun _ _ => aw_iconst K (n := 0) (i32 _ rfl) (dOf ck_mX8_become rfl rfl)) ?_
      refine gl (i' := 66) (fun _ _ => aw_bip K (dOf ck_mX8_become rfl rfl) (v := 12) rfl) ?_
      refine g_st1 ?_
      refine gl (i' := 67) (fun _ _ => aw_copy K (dOf ck_mX8_become rfl rfl) ⟨wd_609, wd_611, wd_610, wd_157⟩ (shT_16 hx1) (shT_16 ht) (by decide) (by decide) (by decide) (by decide) (by decide) (Nat.le_of_ble_eq_true rfl) ⟨Nat.le_of_ble_eq_true rfl, Nat.le_of_ble_eq_true rfl⟩) ?_
      refine gl (i' := 68) (fun _ _ => aw_aload_n K (dOf ck_mX8_become rfl rfl) rfl) ?_
      refine gl (i' := 69) (fun _ _ => aw_getf K (dOf ck_mX8_become rfl rfl) (shT_0 hx1) rfl (Nat.le_of_ble_eq_true rfl) wd_244 (k := 10) rfl) ?_
      refine gl (i' := 70) (fun _ _ => aw_iconst K (n := 0) (i32 _ rfl) (dOf ck_mX8_become rfl rfl)) ?_
      refine gl (i' := 71) (fun _ _ => aw_aload_n K (dOf ck_mX8_become rfl rfl) rfl) ?_
      refine gl (i' := 72) (fun _ _ => aw_getf K (dOf ck_mX8_become rfl rfl) (shT_0 ht) rfl (Nat.le_of_ble_eq_true rfl) wd_244 (k := 10) rfl) ?_
      refine gl (i' := 73) (fun _ _ => aw_iconst K (n := 0) (i32 _ rfl) (dOf ck_mX8_become rfl rfl)) ?_
      refine gl (i' := 74) (fun _ _ => aw_bip K (dOf ck_mX8_become rfl rfl) (v := 12) rfl) ?_
      refine g_st1 ?_
      refine gl (i' := 75) (fun _ _ => aw_copy K (dOf ck_mX8_become rfl rfl) ⟨wd_609, wd_611, wd_610, wd_157⟩ (shT_17 hx1) (shT_17 ht) (by decide) (by decide) (by decide) (by decide) (by decide) (Nat.le_of_ble_eq_true rfl) ⟨Nat.le_of_ble_eq_true rfl, Nat.le_of_ble_eq_true rfl⟩) ?_
      refine gl (i' := 76) (fun _ _ => aw_aload_n K (dOf ck_mX8_become rfl rfl) rfl) ?_
      refine gl (i' := 77) (fun _ _ => aw_getf K (dOf ck_mX8_become rfl rfl) (shT_0 hx1) rfl (Nat.le_of_ble_eq_true rfl) wd_250 (k := 11) rfl) ?_
      refine gl (i' := 78) (fun _ _ => aw_iconst K (n := 0) (i32 _ rfl) (dOf ck_mX8_become rfl rfl)) ?_
      refine gl (i' := 79) (fun _ _ => aw_aload_n K (dOf ck_mX8_become rfl rfl) rfl) ?_
      refine gl (i' := 80) (fun _ _ => aw_getf K (dOf ck_mX8_become rfl rfl) (shT_0 ht) rfl (Nat.le_of_ble_eq_true rfl) wd_250 (k := 11) rfl) ?_
      refine gl (i' := 81) (fun _ _ => aw_iconst K (n := 0) (i32 _ rfl) (dOf ck_mX8_become rfl rfl)) ?_
      refine gl (i' := 82) (fun _ _ => aw_bip K (dOf ck_mX8_become rfl rfl) (v := 12) rfl) ?_
      refine g_st1 ?_
      refine gl (i' := 83) (fun _ _ => aw_copy K (dOf ck_mX8_become rfl rfl) ⟨wd_609, wd_611, wd_610, wd_157⟩ (shT_18 hx1) (shT_18 ht) (by decide) (by decide) (by decide) (by decide) (by decide) (Nat.le_of_ble_eq_true rfl) ⟨Nat.le_of_ble_eq_true rfl, Nat.le_of_ble_eq_true rfl⟩) ?_
      refine gl (i' := 84) (fun _ _ => aw_aload_n K (dOf ck_mX8_become rfl rfl) rfl) ?_
      refine gl (i' := 85) (fun _ _ => aw_getf K (dOf ck_mX8_become rfl rfl) (shT_0 hx1) rfl (Nat.le_of_ble_eq_true rfl) wd_257 (k := 12) rfl) ?_
      refine gl (i' := 86) (fun _ _ => aw_iconst K (n := 0) (i32 _ rfl) (dOf ck_mX8_become rfl rfl)) ?_
      refine gl (i' := 87) (fun _ _ => aw_aload_n K (dOf ck_mX8_become rfl rfl) rfl) ?_
      refine gl (i' := 88) (fun _ _ => aw_getf K (dOf ck_mX8_become rfl rfl) (shT_0 ht) rfl (Nat.le_of_ble_eq_true rfl) wd_257 (k := 12) rfl) ?_
      refine gl (i' := 89) (fun _ _ => aw_iconst K (n := 0) (i32 _ rfl) (dOf ck_mX8_become rfl rfl)) ?_
      refine gl (i' := 90) (fun _ _ => aw_iconst K (n := 4) (i32 _ rfl) (dOf ck_mX8_become rfl rfl)) ?_
      refine g_st1 ?_
      refine gl (i' := 91) (fun _ _ => aw_copy K (dOf ck_mX8_become rfl rfl) ⟨wd_609, wd_611, wd_610, wd_157⟩ (shT_19 hx1) (shT_19 ht) (by decide) (by decide) (by decide) (by decide) (by decide) (Nat.le_of_ble_eq_true rfl) ⟨Nat.le_of_ble_eq_true rfl, Nat.le_of_ble_eq_true rfl⟩) ?_
      refine gl (i' := 92) (fun _ _ => aw_aload_n K (dOf ck_mX8_become rfl rfl) rfl) ?_
      refine gl (i' := 93) (fun _ _ => aw_getf K (dOf ck_mX8_become rfl rfl) (shT_0 hx1) rfl (Nat.le_of_ble_eq_true rfl) wd_262 (k := 13) rfl) ?_
      refine gl (i' := 94) (fun _ _ => aw_iconst K (n := 0) (i32 _ rfl) (dOf ck_mX8_become rfl rfl)) ?_
      refine gl (i' := 95) (fun _ _ => aw_aload_n K (dOf ck_mX8_become rfl rfl) rfl) ?_
      refine gl (i' := 96) (fun _ _ => aw_getf K (dOf ck_mX8_become rfl rfl) (shT_0 ht) rfl (Nat.le_of_ble_eq_true rfl) wd_262 (k := 13) rfl) ?_
      refine gl (i' := 97) (fun _ _ => aw_iconst K (n := 0) (i32 _ rfl) (dOf ck_mX8_become rfl rfl)) ?_
      refine gl (i' := 98) (fun _ _ => aw_bip K (dOf ck_mX8_become rfl rfl) (v := 6) rfl) ?_
      refine g_st1 ?_
      refine gl (i' := 99) (fun _ _ => aw_copy K (dOf ck_mX8_become rfl rfl) ⟨wd_609, wd_611, wd_610, wd_157⟩ (shT_20 hx1) (shT_20 ht) (by decide) (by decide) (by decide) (by decide) (by decide) (Nat.le_of_ble_eq_true rfl) ⟨Nat.le_of_ble_eq_true rfl, Nat.le_of_ble_eq_true rfl⟩) ?_
      refine gl (i' := 100) (fun _ _ => aw_aload_n K (dOf ck_mX8_become rfl rfl) rfl) ?_
      refine gl (i' := 101) (fun _ _ => aw_getf K (dOf ck_mX8_become rfl rfl) (shT_0 hx1) rfl (Nat.le_of_ble_eq_true rfl) wd_267 (k := 14) rfl) ?_
      refine gl (i' := 102) (fun _ _ => aw_iconst K (n := 0) (i32 _ rfl) (dOf ck_mX8_become rfl rfl)) ?_
      refine gl (i' := 103) (fun _ _ => aw_aload_n K (dOf ck_mX8_become rfl rfl) rfl) ?_
      refine gl (i' := 104) (fun _ _ => aw_getf K (dOf ck_mX8_become rfl rfl) (shT_0 ht) rfl (Nat.le_of_ble_eq_true rfl) wd_267 (k := 14) rfl) ?_
      refine gl (i' := 105) (fun _ _ => aw_iconst K (n := 0) (i32 _ rfl) (dOf ck_mX8_become rfl rfl)) ?_
      refine gl (i' := 106) (fun _ _ => aw_bip K (dOf ck_mX8_become rfl rfl) (v := 6) rfl) ?_
      refine g_st1 ?_
      refine gl (i' := 107) (fun _ _ => aw_copy K (dOf ck_mX8_become rfl rfl) ⟨wd_609, wd_611, wd_610, wd_157⟩ (shT_21 hx1) (shT_21 ht) (by decide) (by decide) (by decide) (by decide) (by decide) (Nat.le_of_ble_eq_true rfl) ⟨Nat.le_of_ble_eq_true rfl, Nat.le_of_ble_eq_true rfl⟩) ?_
      exact g_vret K (by decide +kernel) rfl rfl
def Tongue_become (t : Nat) (x1 : Nat) (mm : aM) : Option aM := st1 (aup mm t 0 (mm x1 0)) fun mm1 => (st1 (aup mm1 t 1 (mm1 x1 1)) fun mm2 => (st1 (aup mm2 t 2 (mm2 x1 2)) fun mm3 => (st1 (aup mm3 t 3 (mm3 x1 3)) fun mm4 => (st1 (aup mm4 t 4 (mm4 x1 4)) fun mm5 => (st1 (aup mm5 t 5 (mm5 x1 5)) fun mm6 => (st1 (aupr mm6 (t + 1) (aCpy (mm6 (x1 + 1)) (mm6 (t + 1)) 0 0 8)) fun mm7 => (st1 (aupr mm7 (t + 2) (aCpy (mm7 (x1 + 2)) (mm7 (t + 2)) 0 0 8)) fun mm8 => (Tongue_become_42 t x1 FU 0 mm8))))))))
set_option maxHeartbeats 4000000 in
theorem met_Tongue_become {l : Launch} {D : va_G} {cA : FieldType → ClassId} {ad adV : Nat → Nat} {z0 : Nat} {t : Nat} {x1 : Nat} {mm : aM} (ht : okT t) (hx1 : okT x1) {r : aM} (h : Tongue_become t x1 mm = some r) : aMet l D cA ad adV z0 mX8_become 1 26 0 0 [.inr (.inr (.inl (some t))), .inr (.inr (.inl (some x1)))] SH mm (rM r).1 SH (rM r).2 := by
  refine aMet_ofG (by decide +kernel) rfl (Nat.le_of_ble_eq_true rfl) h (fun p e s m args below meth c al0 K => ?_)
  unfold Tongue_become
  refine gl (i' := 1) (fun _ _ => aw_aload_n K (dOf ck_mX8_become rfl rfl) rfl) ?_
  refine gl (i' := 2) (fun _ _ => aw_aload_n K (dOf ck_mX8_become rfl rfl) rfl) ?_
  refine gl (i' := 3) (fun _ _ => aw_getf K (dOf ck_mX8_become rfl rfl) (shT_0 hx1) rfl (Nat.le_of_ble_eq_true rfl) wd_188 (k := 0) rfl) ?_
  refine g_st1 ?_
  refine gl (i' := 4) (fun _ _ => aw_putf K (dOf ck_mX8_become rfl rfl) (shT_0 ht) rfl (Nat.le_of_ble_eq_true rfl) wd_188 (k := 0) rfl rfl (Or.inl rfl)) ?_
  refine gl (i' := 5) (fun _ _ => aw_aload_n K (dOf ck_mX8_become rfl rfl) rfl) ?_
  refine gl (i' := 6) (fun _ _ => aw_aload_n K (dOf ck_mX8_become rfl rfl) rfl) ?_
  refine gl (i' := 7) (fun _ _ => aw_getf K (dOf ck_mX8_become rfl rfl) (shT_0 hx1) rfl (Nat.le_of_ble_eq_true rfl) wd_191 (k := 1) rfl) ?_
  refine g_st1 ?_
  refine gl (i' := 8) (fun _ _ => aw_putf K (dOf ck_mX8_become rfl rfl) (shT_0 ht) rfl (Nat.le_of_ble_eq_true rfl) wd_191 (k := 1) rfl rfl (Or.inl rfl)) ?_
  refine gl (i' := 9) (fun _ _ => aw_aload_n K (dOf ck_mX8_become rfl rfl) rfl) ?_
  refine gl (i' := 10) (fun _ _ => aw_aload_n K (dOf ck_mX8_become rfl rfl) rfl) ?_
  refine gl (i' := 11) (fun _ _ => aw_getf K (dOf ck_mX8_become rfl rfl) (shT_0 hx1) rfl (Nat.le_of_ble_eq_true rfl) wd_198 (k := 2) rfl) ?_
  refine g_st1 ?_
  refine gl (i' := 12) (fun _ _ => aw_putf K (dOf ck_mX8_become rfl rfl) (shT_0 ht) rfl (Nat.le_of_ble_eq_true rfl) wd_198 (k := 2) rfl rfl (Or.inl rfl)) ?_
  refine gl (i' := 13) (fun _ _ => aw_aload_n K (dOf ck_mX8_become rfl rfl) rfl) ?_
  refine gl (i' := 14) (fun _ _ => aw_aload_n K (dOf ck_mX8_become rfl rfl) rfl) ?_
  refine gl (i' := 15) (fun _ _ => aw_getf K (dOf ck_mX8_become rfl rfl) (shT_0 hx1) rfl (Nat.le_of_ble_eq_true rfl) wd_203 (k := 3) rfl) ?_
  refine g_st1 ?_
  refine gl (i' := 16) (fun _ _ => aw_putf K (dOf ck_mX8_become rfl rfl) (shT_0 ht) rfl (Nat.le_of_ble_eq_true rfl) wd_203 (k := 3) rfl rfl (Or.inl rfl)) ?_
  refine gl (i' := 17) (fun _ _ => aw_aload_n K (dOf ck_mX8_become rfl rfl) rfl) ?_
  refine gl (i' := 18) (fun _ _ => aw_aload_n K (dOf ck_mX8_become rfl rfl) rfl) ?_
  refine gl (i' := 19) (fun _ _ => aw_getf K (dOf ck_mX8_become rfl rfl) (shT_0 hx1) rfl (Nat.le_of_ble_eq_true rfl) wd_207 (k := 4) rfl) ?_
  refine g_st1 ?_
  refine gl (i' := 20) (fun _ _ => aw_putf K (dOf ck_mX8_become rfl rfl) (shT_0 ht) rfl (Nat.le_of_ble_eq_true rfl) wd_207 (k := 4) rfl rfl (Or.inl rfl)) ?_
  refine gl (i' := 21) (fun _ _ => aw_aload_n K (dOf ck_mX8_become rfl rfl) rfl) ?_
  refine gl (i' := 22) (fun _ _ => aw_aload_n K (dOf ck_mX8_become rfl rfl) rfl) ?_
  refine gl (i' := 23) (fun _ _ => aw_getf K (dOf ck_mX8_become rfl rfl) (shT_0 hx1) rfl (Nat.le_of_ble_eq_true rfl) wd_213 (k := 5) rfl) ?_
  refine g_st1 ?_
  refine gl (i' := 24) (fun _ _ => aw_putf K (dOf ck_mX8_become rfl rfl) (shT_0 ht) rfl (Nat.le_of_ble_eq_true rfl) wd_213 (k := 5) rfl rfl (Or.inl rfl)) ?_
  refine gl (i' := 25) (fun _ _ => aw_aload_n K (dOf ck_mX8_become rfl rfl) rfl) ?_
  refine gl (i' := 26) (fun _ _ => aw_getf K (dOf ck_mX8_become rfl rfl) (shT_0 hx1) rfl (Nat.le_of_ble_eq_true rfl) wd_216 (k := 6) rfl) ?_
  refine gl (i' := 27) (fun _ _ => aw_iconst K (n := 0) (i32 _ rfl) (dOf ck_mX8_become rfl rfl)) ?_
  refine gl (i' := 28) (fun _ _ => aw_aload_n K (dOf ck_mX8_become rfl rfl) rfl) ?_
  refine gl (i' := 29) (fun _ _ => aw_getf K (dOf ck_mX8_become rfl rfl) (shT_0 ht) rfl (Nat.le_of_ble_eq_true rfl) wd_216 (k := 6) rfl) ?_
  refine gl (i' := 30) (fun _ _ => aw_iconst K (n := 0) (i32 _ rfl) (dOf ck_mX8_become rfl rfl)) ?_
  refine gl (i' := 31) (fun _ _ => aw_bip K (dOf ck_mX8_become rfl rfl) (v := 8) rfl) ?_
  refine g_st1 ?_
  refine gl (i' := 32) (fun _ _ => aw_copy K (dOf ck_mX8_become rfl rfl) ⟨wd_609, wd_611, wd_610, wd_157⟩ (shT_1 hx1) (shT_1 ht) (by decide) (by decide) (by decide) (by decide) (by decide) (Nat.le_of_ble_eq_true rfl) ⟨Nat.le_of_ble_eq_true rfl, Nat.le_of_ble_eq_true rfl⟩) ?_
  refine gl (i' := 33) (fun _ _ => aw_aload_n K (dOf ck_mX8_become rfl rfl) rfl) ?_
  refine gl (i' := 34) (fun _ _ => aw_getf K (dOf ck_mX8_become rfl rfl) (shT_0 hx1) rfl (Nat.le_of_ble_eq_true rfl) wd_219 (k := 7) rfl) ?_
  refine gl (i' := 35) (fun _ _ => aw_iconst K (n := 0) (i32 _ rfl) (dOf ck_mX8_become rfl rfl)) ?_
  refine gl (i' := 36) (fun _ _ => aw_aload_n K (dOf ck_mX8_become rfl rfl) rfl) ?_
  refine gl (i' := 37) (fun _ _ => aw_getf K (dOf ck_mX8_become rfl rfl) (shT_0 ht) rfl (Nat.le_of_ble_eq_true rfl) wd_219 (k := 7) rfl) ?_
  refine gl (i' := 38) (fun _ _ => aw_iconst K (n := 0) (i32 _ rfl) (dOf ck_mX8_become rfl rfl)) ?_
  refine gl (i' := 39) (fun _ _ => aw_bip K (dOf ck_mX8_become rfl rfl) (v := 8) rfl) ?_
  refine g_st1 ?_
  refine gl (i' := 40) (fun _ _ => aw_copy K (dOf ck_mX8_become rfl rfl) ⟨wd_609, wd_611, wd_610, wd_157⟩ (shT_2 hx1) (shT_2 ht) (by decide) (by decide) (by decide) (by decide) (by decide) (Nat.le_of_ble_eq_true rfl) ⟨Nat.le_of_ble_eq_true rfl, Nat.le_of_ble_eq_true rfl⟩) ?_
  refine gl (i' := 41) (fun _ _ => aw_iconst K (n := 0) (i32 _ rfl) (dOf ck_mX8_become rfl rfl)) ?_
  refine gl (i' := 42) (fun _ _ => aw_istore_n K (dOf ck_mX8_become rfl rfl) (Nat.le_of_ble_eq_true rfl)) ?_
  refine g_lv (lv' := [(2, .inl _), (0, .inr (.inr (.inl (some _)))), (1, .inr (.inr (.inl (some _))))]) rfl ?_
  refine g_sub [1, 2, 0] rfl ?_
  exact lk_Tongue_become_42 K ht hx1 FU _ _
def Cutter_forget (t : Nat) (mm : aM) : Option aM := st1 (aup mm t 9 (-1)) fun mm1 => (some mm1)
set_option maxHeartbeats 4000000 in
theorem met_Cutter_forget {l : Launch} {D : va_G} {cA : FieldType → ClassId} {ad adV : Nat → Nat} {z0 : Nat} {t : Nat} {mm : aM} (ht : okC t) {r : aM} (h : Cutter_forget t mm = some r) : aMet l D cA ad adV z0 mX1_forget 0 0 0 0 [.inr (.inr (.inl (some t)))] SH mm (rM r).1 SH (rM r).2 := by
  refine aMet_ofG (by decide +kernel) rfl (Nat.le_of_ble_eq_true rfl) h (fun p e s m args below meth c al0 K => ?_)
  unfold Cutter_forget
  refine gl (i' := 1) (fun _ _ => aw_aload_n K (dOf ck_mX1_forget rfl rfl) rfl) ?_
  refine gl (i' := 2) (fun _ _ => aw_iconst K (n := -1) (i32 _ rfl) (dOf ck_mX1_forget rfl rfl)) ?_
  refine g_st1 ?_
  refine gl (i' := 3) (fun _ _ => aw_putf K (dOf ck_mX1_forget rfl rfl) (shC_0 ht) rfl (Nat.le_of_ble_eq_true rfl) wd_355 (k := 9) rfl rfl (Or.inl rfl)) ?_
  exact g_vret K (by decide +kernel) rfl rfl
def Mender_forget_9  : Nat → Int → aM → Option aM
  | 0, _, _ => none
  | n + 1, x1, mm => if x1 < 4 then (if 0 ≤ x1 ∧ x1 < 4 then (st1 (aup mm 109 x1.toNat 0) fun mm8 => (Mender_forget_9 n (w32 (x1 + 1)) mm8)) else none) else (st1 (aup mm 79 10 (-2)) fun mm4 => (st1 (aup mm4 79 11 0) fun mm5 => (st1 (aup mm5 79 15 (-2)) fun mm6 => (some mm6))))
set_option maxHeartbeats 4000000 in
theorem lk_Mender_forget_9 {p : Program} {l : Launch} {e : Env} {s : State} {m : MethodId} {args : Array Value} {below : List Frame} {meth : Method} {c : Code} {D : va_G} {cA : FieldType → ClassId} {ad adV : Nat → Nat} {z0 : Nat} {al0 : List Nat} (K : aK p s m args meth c mX3_forget D cA ad adV z0)   : ∀ (n : Nat) (x1 : Int) (mm : aM), aG p l e { frames := 1, cells := 0, slots := 0, locals := 23 } s m args below meth c D cA ad z0 mX3_forget al0 rM (Mender_forget_9 n x1 mm) 9 [(0, .inr (.inr (.inl (some 79)))), (1, .inl x1)] [] mm := by
  intro n
  induction n with
  | zero => intro x1 mm; exact g_none
  | succ n ih =>
    intro x1 mm
    rw [Mender_forget_9]
    refine gl (i' := 10) (fun _ _ => aw_iload_n K (dOf ck_mX3_forget rfl rfl) rfl) ?_
    refine gl (i' := 11) (fun _ _ => aw_iconst K (n := 4) (i32 _ rfl) (dOf ck_mX3_forget rfl rfl)) ?_
    refine g_icmp_ge K (dOf ck_mX3_forget rfl rfl) (t := 19) (aJ_of (by decide +kernel)) (fun h3 => ?_) (fun h3 => ?_)
    · refine gl (i' := 13) (fun _ _ => aw_aload_n K (dOf ck_mX3_forget rfl rfl) rfl) ?_
      refine gl (i' := 14) (fun _ _ => aw_getf K (dOf ck_mX3_forget rfl rfl) rfl rfl (Nat.le_of_ble_eq_true rfl) wd_425 (k := 7) rfl) ?_
      refine gl (i' := 15) (fun _ _ => aw_iload_n K (dOf ck_mX3_forget rfl rfl) rfl) ?_
      refine gl (i' := 16) (fun _ _ => aw_iconst K (n := 0) (i32 _ rfl) (dOf ck_mX3_forget rfl rfl)) ?_
      refine g_gd (fun hb7 => ?_)
      refine g_st1 ?_
      refine gl (i' := 17) (fun _ _ => aw_zast K (dOf ck_mX3_forget rfl rfl) rfl hb7 (Or.inl rfl)) ?_
      refine gl (i' := 18) (fun _ _ => aw_iinc K (dOf ck_mX3_forget rfl rfl) (Nat.le_of_ble_eq_true rfl) rfl) ?_
      refine g_lv (lv' := [(1, .inl _), (0, .inr (.inr (.inl (some _))))]) rfl ?_
      refine g_goto K (dOf ck_mX3_forget rfl rfl).1 (t := 9) (aJ_of (by decide +kernel)) ?_
      refine g_sub [1, 0] rfl ?_
      exact ih _ _
    · refine gl (i' := 20) (fun _ _ => aw_aload_n K (dOf ck_mX3_forget rfl rfl) rfl) ?_
      refine gl (i' := 21) (fun _ _ => aw_bip K (dOf ck_mX3_forget rfl rfl) (v := -2) rfl) ?_
      refine g_st1 ?_
      refine gl (i' := 22) (fun _ _ => aw_putf K (dOf ck_mX3_forget rfl rfl) rfl rfl (Nat.le_of_ble_eq_true rfl) wd_430 (k := 10) rfl rfl (Or.inl rfl)) ?_
      refine gl (i' := 23) (fun _ _ => aw_aload_n K (dOf ck_mX3_forget rfl rfl) rfl) ?_
      refine gl (i' := 24) (fun _ _ => aw_iconst K (n := 0) (i32 _ rfl) (dOf ck_mX3_forget rfl rfl)) ?_
      refine g_st1 ?_
      refine gl (i' := 25) (fun _ _ => aw_putf K (dOf ck_mX3_forget rfl rfl) rfl rfl (Nat.le_of_ble_eq_true rfl) wd_431 (k := 11) rfl rfl (Or.inr ⟨rfl, Or.inl rfl⟩)) ?_
      refine gl (i' := 26) (fun _ _ => aw_aload_n K (dOf ck_mX3_forget rfl rfl) rfl) ?_
      refine gl (i' := 27) (fun _ _ => aw_bip K (dOf ck_mX3_forget rfl rfl) (v := -2) rfl) ?_
      refine g_st1 ?_
      refine gl (i' := 28) (fun _ _ => aw_putf K (dOf ck_mX3_forget rfl rfl) rfl rfl (Nat.le_of_ble_eq_true rfl) wd_438 (k := 15) rfl rfl (Or.inl rfl)) ?_
      exact g_vret K (by decide +kernel) rfl rfl
def Mender_forget  (mm : aM) : Option aM := (Jarr_fillI 107 (-2) mm).bind fun r1 => (st1 (aup r1 79 6 0) fun mm2 => (Mender_forget_9 FU 0 mm2))
set_option maxHeartbeats 4000000 in
theorem met_Mender_forget {l : Launch} {D : va_G} {cA : FieldType → ClassId} {ad adV : Nat → Nat} {z0 : Nat}  {mm : aM}  {r : aM} (h : Mender_forget  mm = some r) : aMet l D cA ad adV z0 mX3_forget 1 23 0 0 [.inr (.inr (.inl (some 79)))] SH mm (rM r).1 SH (rM r).2 := by
  refine aMet_ofG (by decide +kernel) rfl (Nat.le_of_ble_eq_true rfl) h (fun p e s m args below meth c al0 K => ?_)
  unfold Mender_forget
  refine gl (i' := 1) (fun _ _ => aw_aload_n K (dOf ck_mX3_forget rfl rfl) rfl) ?_
  refine gl (i' := 2) (fun _ _ => aw_getf K (dOf ck_mX3_forget rfl rfl) rfl rfl (Nat.le_of_ble_eq_true rfl) wd_422 (k := 4) rfl) ?_
  refine gl (i' := 3) (fun _ _ => aw_bip K (dOf ck_mX3_forget rfl rfl) (v := -2) rfl) ?_
  refine g_callSM K [.inr (.inr (.inl (some _))), .inl _] rfl (dOf ck_mX3_forget rfl rfl) al_OneBreath_Mender_55 wd_186 rfl (Nat.le_of_ble_eq_true rfl) ⟨Nat.le_of_ble_eq_true rfl, Nat.le_of_ble_eq_true rfl⟩ (fun b hb => met_Jarr_fillI ⟨_, rfl⟩ hb) (fun r1 hr1 => ?_)
  refine gl (i' := 5) (fun _ _ => aw_aload_n K (dOf ck_mX3_forget rfl rfl) rfl) ?_
  refine gl (i' := 6) (fun _ _ => aw_iconst K (n := 0) (i32 _ rfl) (dOf ck_mX3_forget rfl rfl)) ?_
  refine g_st1 ?_
  refine gl (i' := 7) (fun _ _ => aw_putf K (dOf ck_mX3_forget rfl rfl) rfl rfl (Nat.le_of_ble_eq_true rfl) wd_424 (k := 6) rfl rfl (Or.inr ⟨rfl, Or.inl rfl⟩)) ?_
  refine gl (i' := 8) (fun _ _ => aw_iconst K (n := 0) (i32 _ rfl) (dOf ck_mX3_forget rfl rfl)) ?_
  refine gl (i' := 9) (fun _ _ => aw_istore_n K (dOf ck_mX3_forget rfl rfl) (Nat.le_of_ble_eq_true rfl)) ?_
  refine g_lv (lv' := [(1, .inl _), (0, .inr (.inr (.inl (some _))))]) rfl ?_
  refine g_sub [1, 0] rfl ?_
  exact lk_Mender_forget_9 K FU _ _
def B_forgetTongue  (mm : aM) : Option aM := (Cutter_forget 61 mm).bind fun r1 => ((Mender_forget r1).bind fun r2 => (some r2))
set_option maxHeartbeats 4000000 in
theorem met_B_forgetTongue {l : Launch} {D : va_G} {cA : FieldType → ClassId} {ad adV : Nat → Nat} {z0 : Nat}  {mm : aM}  {r : aM} (h : B_forgetTongue  mm = some r) : aMet l D cA ad adV z0 mX11_forgetTongue 2 44 0 0 [.inr (.inr (.inl (some 0)))] SH mm (rM r).1 SH (rM r).2 := by
  refine aMet_ofG (by decide +kernel) rfl (Nat.le_of_ble_eq_true rfl) h (fun p e s m args below meth c al0 K => ?_)
  unfold B_forgetTongue
  refine gl (i' := 1) (fun _ _ => aw_aload_n K (dOf ck_mX11_forgetTongue rfl rfl) rfl) ?_
  refine gl (i' := 2) (fun _ _ => aw_getf K (dOf ck_mX11_forgetTongue rfl rfl) rfl rfl (Nat.le_of_ble_eq_true rfl) wd_466 (k := 6) rfl) ?_
  refine g_callVM K [] rfl (dOf ck_mX11_forgetTongue rfl rfl) al_OneBreath_230 rfl rfl ⟨wd_616, wd_617⟩ rfl (Nat.le_of_ble_eq_true rfl) ⟨Nat.le_of_ble_eq_true rfl, Nat.le_of_ble_eq_true rfl⟩ (fun b hb => met_Cutter_forget (by unfold okC; omega) hb) (fun r1 hr1 => ?_)
  refine gl (i' := 4) (fun _ _ => aw_aload_n K (dOf ck_mX11_forgetTongue rfl rfl) rfl) ?_
  refine gl (i' := 5) (fun _ _ => aw_getf K (dOf ck_mX11_forgetTongue rfl rfl) rfl rfl (Nat.le_of_ble_eq_true rfl) wd_470 (k := 10) rfl) ?_
  refine g_callVM K [] rfl (dOf ck_mX11_forgetTongue rfl rfl) al_OneBreath_386 rfl rfl ⟨wd_414, wd_415⟩ rfl (Nat.le_of_ble_eq_true rfl) ⟨Nat.le_of_ble_eq_true rfl, Nat.le_of_ble_eq_true rfl⟩ (fun b hb => met_Mender_forget  hb) (fun r2 hr2 => ?_)
  exact g_vret K (by decide +kernel) rfl rfl
def B_tongue (x1 : Int) (mm : aM) : Option (Int × aM) := (Tape_holds x1 mm).bind fun r1 => (if r1 = 0 then (some ((-3), mm)) else ((Tape_readTongue x1 mm).bind fun r3 => (st1 (aup r3 1 1 0) fun mm4 => (if (mm4 1 7) = 0 then ((Tongue_become 25 3 mm4).bind fun r6 => (st1 (aup r6 47 1 0) fun mm7 => ((B_forgetTongue mm7).bind fun r8 => (some (r8 25 0, r8))))) else (some (w32 ((-30) - (mm4 1 7)), mm4))))))
set_option maxHeartbeats 4000000 in
theorem met_B_tongue {l : Launch} {D : va_G} {cA : FieldType → ClassId} {ad adV : Nat → Nat} {z0 : Nat} {x1 : Int} {mm : aM}  {r : Int × aM} (h : B_tongue x1 mm = some r) : aMet l D cA ad adV z0 mX11_tongue 9 193 0 0 [.inr (.inr (.inl (some 0))), .inl x1] SH mm (rIM r).1 SH (rIM r).2 := by
  refine aMet_ofG (by decide +kernel) rfl (Nat.le_of_ble_eq_true rfl) h (fun p e s m args below meth c al0 K => ?_)
  unfold B_tongue
  refine gl (i' := 1) (fun _ _ => aw_aload_n K (dOf ck_mX11_tongue rfl rfl) rfl) ?_
  refine gl (i' := 2) (fun _ _ => aw_getf K (dOf ck_mX11_tongue rfl rfl) rfl rfl (Nat.le_of_ble_eq_true rfl) wd_460 (k := 0) rfl) ?_
  refine gl (i' := 3) (fun _ _ => aw_iload_n K (dOf ck_mX11_tongue rfl rfl) rfl) ?_
  refine g_callVI K [.inl _] rfl (dOf ck_mX11_tongue rfl rfl) al_OneBreath_111 rfl rfl ⟨wd_488, wd_489⟩ rfl (Nat.le_of_ble_eq_true rfl) ⟨Nat.le_of_ble_eq_true rfl, Nat.le_of_ble_eq_true rfl⟩ (fun b hb => met_Tape_holds  hb) (fun r1 hr1 => ?_)
  refine g_if_ne K (dOf ck_mX11_tongue rfl rfl) (t := 7) (aJ_of (by decide +kernel)) (fun h2 => ?_) (fun h2 => ?_)
  · refine gl (i' := 6) (fun _ _ => aw_bip K (dOf ck_mX11_tongue rfl rfl) (v := -3) rfl) ?_
    exact g_iret K (dOf ck_mX11_tongue rfl rfl).1 rfl (Or.inl rfl) rfl
  · refine gl (i' := 8) (fun _ _ => aw_aload_n K (dOf ck_mX11_tongue rfl rfl) rfl) ?_
    refine gl (i' := 9) (fun _ _ => aw_getf K (dOf ck_mX11_tongue rfl rfl) rfl rfl (Nat.le_of_ble_eq_true rfl) wd_460 (k := 0) rfl) ?_
    refine gl (i' := 10) (fun _ _ => aw_iload_n K (dOf ck_mX11_tongue rfl rfl) rfl) ?_
    refine g_callVM K [.inl _] rfl (dOf ck_mX11_tongue rfl rfl) al_OneBreath_115 rfl rfl ⟨wd_492, wd_493⟩ rfl (Nat.le_of_ble_eq_true rfl) ⟨Nat.le_of_ble_eq_true rfl, Nat.le_of_ble_eq_true rfl⟩ (fun b hb => met_Tape_readTongue  hb) (fun r3 hr3 => ?_)
    refine gl (i' := 12) (fun _ _ => aw_aload_n K (dOf ck_mX11_tongue rfl rfl) rfl) ?_
    refine gl (i' := 13) (fun _ _ => aw_getf K (dOf ck_mX11_tongue rfl rfl) rfl rfl (Nat.le_of_ble_eq_true rfl) wd_460 (k := 0) rfl) ?_
    refine gl (i' := 14) (fun _ _ => aw_iconst K (n := 0) (i32 _ rfl) (dOf ck_mX11_tongue rfl rfl)) ?_
    refine g_st1 ?_
    refine gl (i' := 15) (fun _ _ => aw_putf K (dOf ck_mX11_tongue rfl rfl) rfl rfl (Nat.le_of_ble_eq_true rfl) wd_275 (k := 1) rfl rfl (Or.inl rfl)) ?_
    refine gl (i' := 16) (fun _ _ => aw_aload_n K (dOf ck_mX11_tongue rfl rfl) rfl) ?_
    refine gl (i' := 17) (fun _ _ => aw_getf K (dOf ck_mX11_tongue rfl rfl) rfl rfl (Nat.le_of_ble_eq_true rfl) wd_460 (k := 0) rfl) ?_
    refine gl (i' := 18) (fun _ _ => aw_getf K (dOf ck_mX11_tongue rfl rfl) rfl rfl (Nat.le_of_ble_eq_true rfl) wd_283 (k := 7) rfl) ?_
    refine g_if_eq K (dOf ck_mX11_tongue rfl rfl) (t := 25) (aJ_of (by decide +kernel)) (fun h5 => ?_) (fun h5 => ?_)
    · refine gl (i' := 26) (fun _ _ => aw_aload_n K (dOf ck_mX11_tongue rfl rfl) rfl) ?_
      refine gl (i' := 27) (fun _ _ => aw_getf K (dOf ck_mX11_tongue rfl rfl) rfl rfl (Nat.le_of_ble_eq_true rfl) wd_461 (k := 1) rfl) ?_
      refine gl (i' := 28) (fun _ _ => aw_aload_n K (dOf ck_mX11_tongue rfl rfl) rfl) ?_
      refine gl (i' := 29) (fun _ _ => aw_getf K (dOf ck_mX11_tongue rfl rfl) rfl rfl (Nat.le_of_ble_eq_true rfl) wd_460 (k := 0) rfl) ?_
      refine gl (i' := 30) (fun _ _ => aw_getf K (dOf ck_mX11_tongue rfl rfl) rfl rfl (Nat.le_of_ble_eq_true rfl) wd_279 (k := 3) rfl) ?_
      refine g_callVM K [.inr (.inr (.inl (some _)))] rfl (dOf ck_mX11_tongue rfl rfl) al_OneBreath_124 rfl rfl ⟨wd_606, wd_607⟩ rfl (Nat.le_of_ble_eq_true rfl) ⟨Nat.le_of_ble_eq_true rfl, Nat.le_of_ble_eq_true rfl⟩ (fun b hb => met_Tongue_become (by unfold okT; omega) (by unfold okT; omega) hb) (fun r6 hr6 => ?_)
      refine gl (i' := 32) (fun _ _ => aw_aload_n K (dOf ck_mX11_tongue rfl rfl) rfl) ?_
      refine gl (i' := 33) (fun _ _ => aw_getf K (dOf ck_mX11_tongue rfl rfl) rfl rfl (Nat.le_of_ble_eq_true rfl) wd_462 (k := 2) rfl) ?_
      refine gl (i' := 34) (fun _ _ => aw_iconst K (n := 0) (i32 _ rfl) (dOf ck_mX11_tongue rfl rfl)) ?_
      refine g_st1 ?_
      refine gl (i' := 35) (fun _ _ => aw_putf K (dOf ck_mX11_tongue rfl rfl) rfl rfl (Nat.le_of_ble_eq_true rfl) wd_303 (k := 1) rfl rfl (Or.inl rfl)) ?_
      refine gl (i' := 36) (fun _ _ => aw_aload_n K (dOf ck_mX11_tongue rfl rfl) rfl) ?_
      refine g_callVM K [] rfl (dOf ck_mX11_tongue rfl rfl) al_OneBreath_130 rfl rfl ⟨wd_613, wd_17⟩ rfl (Nat.le_of_ble_eq_true rfl) ⟨Nat.le_of_ble_eq_true rfl, Nat.le_of_ble_eq_true rfl⟩ (fun b hb => met_B_forgetTongue  hb) (fun r8 hr8 => ?_)
      refine gl (i' := 38) (fun _ _ => aw_aload_n K (dOf ck_mX11_tongue rfl rfl) rfl) ?_
      refine gl (i' := 39) (fun _ _ => aw_getf K (dOf ck_mX11_tongue rfl rfl) rfl rfl (Nat.le_of_ble_eq_true rfl) wd_461 (k := 1) rfl) ?_
      refine gl (i' := 40) (fun _ _ => aw_getf K (dOf ck_mX11_tongue rfl rfl) rfl rfl (Nat.le_of_ble_eq_true rfl) wd_189 (k := 0) rfl) ?_
      exact g_iret K (by decide +kernel) rfl (Or.inl rfl) rfl
    · refine gl (i' := 20) (fun _ _ => aw_bip K (dOf ck_mX11_tongue rfl rfl) (v := -30) rfl) ?_
      refine gl (i' := 21) (fun _ _ => aw_aload_n K (dOf ck_mX11_tongue rfl rfl) rfl) ?_
      refine gl (i' := 22) (fun _ _ => aw_getf K (dOf ck_mX11_tongue rfl rfl) rfl rfl (Nat.le_of_ble_eq_true rfl) wd_460 (k := 0) rfl) ?_
      refine gl (i' := 23) (fun _ _ => aw_getf K (dOf ck_mX11_tongue rfl rfl) rfl rfl (Nat.le_of_ble_eq_true rfl) wd_283 (k := 7) rfl) ?_
      refine gl (i' := 24) (fun _ _ => aw_isub K (dOf ck_mX11_tongue rfl rfl)) ?_
      exact g_iret K (dOf ck_mX11_tongue rfl rfl).1 rfl (Or.inl rfl) rfl
def B_fault (x1 : Int) (mm : aM) : Option Int := if x1 = 0 then (some (mm 1 7)) else (if x1 = 1 then (some (mm 1 8)) else (some (-1)))
set_option maxHeartbeats 4000000 in
theorem met_B_fault {l : Launch} {D : va_G} {cA : FieldType → ClassId} {ad adV : Nat → Nat} {z0 : Nat} {x1 : Int} {mm : aM}  {r : Int} (h : B_fault x1 mm = some r) : aMet l D cA ad adV z0 mX11_fault 0 0 0 0 [.inr (.inr (.inl (some 0))), .inl x1] SH mm ((rI mm) r).1 SH ((rI mm) r).2 := by
  refine aMet_ofG (by decide +kernel) rfl (Nat.le_of_ble_eq_true rfl) h (fun p e s m args below meth c al0 K => ?_)
  unfold B_fault
  refine gl (i' := 1) (fun _ _ => aw_iload_n K (dOf ck_mX11_fault rfl rfl) rfl) ?_
  refine g_if_ne K (dOf ck_mX11_fault rfl rfl) (t := 6) (aJ_of (by decide +kernel)) (fun h1 => ?_) (fun h1 => ?_)
  · refine gl (i' := 3) (fun _ _ => aw_aload_n K (dOf ck_mX11_fault rfl rfl) rfl) ?_
    refine gl (i' := 4) (fun _ _ => aw_getf K (dOf ck_mX11_fault rfl rfl) rfl rfl (Nat.le_of_ble_eq_true rfl) wd_460 (k := 0) rfl) ?_
    refine gl (i' := 5) (fun _ _ => aw_getf K (dOf ck_mX11_fault rfl rfl) rfl rfl (Nat.le_of_ble_eq_true rfl) wd_283 (k := 7) rfl) ?_
    exact g_iret K (dOf ck_mX11_fault rfl rfl).1 rfl (Or.inl rfl) rfl
  · refine gl (i' := 7) (fun _ _ => aw_iload_n K (dOf ck_mX11_fault rfl rfl) rfl) ?_
    refine gl (i' := 8) (fun _ _ => aw_iconst K (n := 1) (i32 _ rfl) (dOf ck_mX11_fault rfl rfl)) ?_
    refine g_icmp_ne K (dOf ck_mX11_fault rfl rfl) (t := 13) (aJ_of (by decide +kernel)) (fun h2 => ?_) (fun h2 => ?_)
    · refine gl (i' := 10) (fun _ _ => aw_aload_n K (dOf ck_mX11_fault rfl rfl) rfl) ?_
      refine gl (i' := 11) (fun _ _ => aw_getf K (dOf ck_mX11_fault rfl rfl) rfl rfl (Nat.le_of_ble_eq_true rfl) wd_460 (k := 0) rfl) ?_
      refine gl (i' := 12) (fun _ _ => aw_getf K (dOf ck_mX11_fault rfl rfl) rfl rfl (Nat.le_of_ble_eq_true rfl) wd_286 (k := 8) rfl) ?_
      refine g_goto K (dOf ck_mX11_fault rfl rfl).1 (t := 14) (aJ_of (by decide +kernel)) ?_
      exact g_iret K (by decide +kernel) rfl (Or.inl rfl) rfl
    · refine gl (i' := 14) (fun _ _ => aw_iconst K (n := -1) (i32 _ rfl) (dOf ck_mX11_fault rfl rfl)) ?_
      exact g_iret K (by decide +kernel) rfl (Or.inl rfl) rfl
def B_sound (x1 : Int) (x2 : Int) (mm : aM) : Option Int := if x1 < 0 then (some (-2)) else (if x1 < (mm 25 1) then (if x2 = 0 then (if 0 ≤ x1 ∧ x1 < 8 then (some (mm 26 x1.toNat)) else none) else (if x2 = 1 then (some (iand (ishr (mm 25 4) x1) 1)) else (if x2 = 2 then (if 0 ≤ x1 ∧ x1 < 8 then (some (mm 27 x1.toNat)) else none) else (some (-2))))) else (some (-2)))
set_option maxHeartbeats 4000000 in
theorem met_B_sound {l : Launch} {D : va_G} {cA : FieldType → ClassId} {ad adV : Nat → Nat} {z0 : Nat} {x1 : Int} {x2 : Int} {mm : aM}  {r : Int} (h : B_sound x1 x2 mm = some r) : aMet l D cA ad adV z0 mX11_sound 0 0 0 0 [.inr (.inr (.inl (some 0))), .inl x1, .inl x2] SH mm ((rI mm) r).1 SH ((rI mm) r).2 := by
  refine aMet_ofG (by decide +kernel) rfl (Nat.le_of_ble_eq_true rfl) h (fun p e s m args below meth c al0 K => ?_)
  unfold B_sound
  refine gl (i' := 1) (fun _ _ => aw_iload_n K (dOf ck_mX11_sound rfl rfl) rfl) ?_
  refine g_if_lt K (dOf ck_mX11_sound rfl rfl) (t := 7) (aJ_of (by decide +kernel)) (fun h1 => ?_) (fun h1 => ?_)
  · refine gl (i' := 8) (fun _ _ => aw_bip K (dOf ck_mX11_sound rfl rfl) (v := -2) rfl) ?_
    exact g_iret K (dOf ck_mX11_sound rfl rfl).1 rfl (Or.inl rfl) rfl
  · refine gl (i' := 3) (fun _ _ => aw_iload_n K (dOf ck_mX11_sound rfl rfl) rfl) ?_
    refine gl (i' := 4) (fun _ _ => aw_aload_n K (dOf ck_mX11_sound rfl rfl) rfl) ?_
    refine gl (i' := 5) (fun _ _ => aw_getf K (dOf ck_mX11_sound rfl rfl) rfl rfl (Nat.le_of_ble_eq_true rfl) wd_461 (k := 1) rfl) ?_
    refine gl (i' := 6) (fun _ _ => aw_getf K (dOf ck_mX11_sound rfl rfl) rfl rfl (Nat.le_of_ble_eq_true rfl) wd_193 (k := 1) rfl) ?_
    refine g_icmp_lt K (dOf ck_mX11_sound rfl rfl) (t := 9) (aJ_of (by decide +kernel)) (fun h2 => ?_) (fun h2 => ?_)
    · refine gl (i' := 10) (fun _ _ => aw_iload_n K (dOf ck_mX11_sound rfl rfl) rfl) ?_
      refine g_if (fun h3 => ?_) (fun h3 => ?_)
      · refine gl (fun _ _ => aw_tableIn K (dOf (n := 25) ck_mX11_sound rfl rfl).1 (by omega) (by omega) (off := 25) (by rw [h3]; rfl) (t := 11) (aJ_of (by decide +kernel))) ?_
        refine gl (i' := 12) (fun _ _ => aw_aload_n K (dOf ck_mX11_sound rfl rfl) rfl) ?_
        refine gl (i' := 13) (fun _ _ => aw_getf K (dOf ck_mX11_sound rfl rfl) rfl rfl (Nat.le_of_ble_eq_true rfl) wd_461 (k := 1) rfl) ?_
        refine gl (i' := 14) (fun _ _ => aw_getf K (dOf ck_mX11_sound rfl rfl) rfl rfl (Nat.le_of_ble_eq_true rfl) wd_217 (k := 6) rfl) ?_
        refine gl (i' := 15) (fun _ _ => aw_iload_n K (dOf ck_mX11_sound rfl rfl) rfl) ?_
        refine g_gd (fun hb4 => ?_)
        refine gl (i' := 16) (fun _ _ => aw_bald K (dOf ck_mX11_sound rfl rfl) rfl hb4) ?_
        exact g_iret K (dOf ck_mX11_sound rfl rfl).1 rfl (Or.inl rfl) rfl
      · refine g_if (fun h5 => ?_) (fun h5 => ?_)
        · refine gl (fun _ _ => aw_tableIn K (dOf (n := 25) ck_mX11_sound rfl rfl).1 (by omega) (by omega) (off := 35) (by rw [h5]; rfl) (t := 17) (aJ_of (by decide +kernel))) ?_
          refine gl (i' := 18) (fun _ _ => aw_aload_n K (dOf ck_mX11_sound rfl rfl) rfl) ?_
          refine gl (i' := 19) (fun _ _ => aw_getf K (dOf ck_mX11_sound rfl rfl) rfl rfl (Nat.le_of_ble_eq_true rfl) wd_461 (k := 1) rfl) ?_
          refine gl (i' := 20) (fun _ _ => aw_getf K (dOf ck_mX11_sound rfl rfl) rfl rfl (Nat.le_of_ble_eq_true rfl) wd_209 (k := 4) rfl) ?_
          refine gl (i' := 21) (fun _ _ => aw_iload_n K (dOf ck_mX11_sound rfl rfl) rfl) ?_
          refine gl (i' := 22) (fun _ _ => aw_ishr K (dOf ck_mX11_sound rfl rfl)) ?_
          refine gl (i' := 23) (fun _ _ => aw_iconst K (n := 1) (i32 _ rfl) (dOf ck_mX11_sound rfl rfl)) ?_
          refine gl (i' := 24) (fun _ _ => aw_iand K (dOf ck_mX11_sound rfl rfl)) ?_
          exact g_iret K (dOf ck_mX11_sound rfl rfl).1 rfl (Or.inl rfl) rfl
        · refine g_if (fun h6 => ?_) (fun h6 => ?_)
          · refine gl (fun _ _ => aw_tableIn K (dOf (n := 25) ck_mX11_sound rfl rfl).1 (by omega) (by omega) (off := 47) (by rw [h6]; rfl) (t := 25) (aJ_of (by decide +kernel))) ?_
            refine gl (i' := 26) (fun _ _ => aw_aload_n K (dOf ck_mX11_sound rfl rfl) rfl) ?_
            refine gl (i' := 27) (fun _ _ => aw_getf K (dOf ck_mX11_sound rfl rfl) rfl rfl (Nat.le_of_ble_eq_true rfl) wd_461 (k := 1) rfl) ?_
            refine gl (i' := 28) (fun _ _ => aw_getf K (dOf ck_mX11_sound rfl rfl) rfl rfl (Nat.le_of_ble_eq_true rfl) wd_224 (k := 7) rfl) ?_
            refine gl (i' := 29) (fun _ _ => aw_iload_n K (dOf ck_mX11_sound rfl rfl) rfl) ?_
            refine g_gd (fun hb7 => ?_)
            refine gl (i' := 30) (fun _ _ => aw_iald K (dOf ck_mX11_sound rfl rfl) rfl hb7) ?_
            exact g_iret K (dOf ck_mX11_sound rfl rfl).1 rfl (Or.inl rfl) rfl
          · refine gl (fun _ _ => aw_tableOut K (dOf (n := 25) ck_mX11_sound rfl rfl).1 (by omega) (t := 31) (aJ_of (by decide +kernel))) ?_
            refine gl (i' := 32) (fun _ _ => aw_bip K (dOf ck_mX11_sound rfl rfl) (v := -2) rfl) ?_
            exact g_iret K (by decide +kernel) rfl (Or.inl rfl) rfl
    · refine gl (i' := 8) (fun _ _ => aw_bip K (dOf ck_mX11_sound rfl rfl) (v := -2) rfl) ?_
      exact g_iret K (dOf ck_mX11_sound rfl rfl).1 rfl (Or.inl rfl) rfl
def Tongue_hasWord (t : Nat) (x1 : Int) (mm : aM) : Option Int := if x1 < 0 then (some 0) else (if x1 < (mm t 2) then (some 1) else (some 0))
set_option maxHeartbeats 4000000 in
theorem met_Tongue_hasWord {l : Launch} {D : va_G} {cA : FieldType → ClassId} {ad adV : Nat → Nat} {z0 : Nat} {t : Nat} {x1 : Int} {mm : aM} (ht : okT t) {r : Int} (h : Tongue_hasWord t x1 mm = some r) : aMet l D cA ad adV z0 mX8_hasWord 0 0 0 0 [.inr (.inr (.inl (some t))), .inr (.inl x1)] SH mm ((rI mm) r).1 SH ((rI mm) r).2 := by
  refine aMet_ofG (by decide +kernel) rfl (Nat.le_of_ble_eq_true rfl) h (fun p e s m args below meth c al0 K => ?_)
  unfold Tongue_hasWord
  refine gl (i' := 1) (fun _ _ => aw_lload_n K (dOf ck_mX8_hasWord rfl rfl) rfl) ?_
  refine gl (i' := 2) (fun _ _ => aw_lcn K (dOf ck_mX8_hasWord rfl rfl) (v := 0) rfl) ?_
  refine g_lcmp_lt K (dOf ck_mX8_hasWord rfl rfl) (dOf ck_mX8_hasWord rfl rfl) (t := 12) (aJ_of (by decide +kernel)) (fun h1 => ?_) (fun h1 => ?_)
  · refine gl (i' := 13) (fun _ _ => aw_iconst K (n := 0) (i32 _ rfl) (dOf ck_mX8_hasWord rfl rfl)) ?_
    exact g_iret K (by decide +kernel) rfl (Or.inr (Or.inl ⟨rfl, Or.inl rfl⟩)) rfl
  · refine gl (i' := 5) (fun _ _ => aw_lload_n K (dOf ck_mX8_hasWord rfl rfl) rfl) ?_
    refine gl (i' := 6) (fun _ _ => aw_aload_n K (dOf ck_mX8_hasWord rfl rfl) rfl) ?_
    refine gl (i' := 7) (fun _ _ => aw_getf K (dOf ck_mX8_hasWord rfl rfl) (shT_0 ht) rfl (Nat.le_of_ble_eq_true rfl) wd_198 (k := 2) rfl) ?_
    refine gl (i' := 8) (fun _ _ => aw_i2l K (dOf ck_mX8_hasWord rfl rfl)) ?_
    refine g_lcmp_ge K (dOf ck_mX8_hasWord rfl rfl) (dOf ck_mX8_hasWord rfl rfl) (t := 12) (aJ_of (by decide +kernel)) (fun h2 => ?_) (fun h2 => ?_)
    · refine gl (i' := 11) (fun _ _ => aw_iconst K (n := 1) (i32 _ rfl) (dOf ck_mX8_hasWord rfl rfl)) ?_
      refine g_goto K (dOf ck_mX8_hasWord rfl rfl).1 (t := 13) (aJ_of (by decide +kernel)) ?_
      exact g_iret K (by decide +kernel) rfl (Or.inr (Or.inl ⟨rfl, Or.inr rfl⟩)) rfl
    · refine gl (i' := 13) (fun _ _ => aw_iconst K (n := 0) (i32 _ rfl) (dOf ck_mX8_hasWord rfl rfl)) ?_
      exact g_iret K (by decide +kernel) rfl (Or.inr (Or.inl ⟨rfl, Or.inl rfl⟩)) rfl
def B_word (x1 : Int) (x2 : Int) (mm : aM) : Option Int := (Tongue_hasWord 25 x1 mm).bind fun r1 => (if r1 = 0 then (some (-2)) else (if x2 = 0 then (if 0 ≤ x1 ∧ x1 < 12 then (some (mm 41 x1.toNat)) else none) else (if x2 = 1 then (if 0 ≤ x1 ∧ x1 < 12 then (some (mm 42 x1.toNat)) else none) else (if x2 = 2 then (if 0 ≤ x1 ∧ x1 < 12 then (some (mm 43 x1.toNat)) else none) else (if x2 < 10 then (some (-2)) else (if 0 ≤ x1 ∧ x1 < 12 then (if (w32 (x2 - 10)) < (mm 41 x1.toNat) then (if 0 ≤ (w32 (x2 - 10)) ∧ (w32 (x2 - 10)) < 6 then (some (mm (25 + 4 + x1.toNat) (w32 (x2 - 10)).toNat)) else none) else (some (-2))) else none))))))
set_option maxHeartbeats 4000000 in
theorem met_B_word {l : Launch} {D : va_G} {cA : FieldType → ClassId} {ad adV : Nat → Nat} {z0 : Nat} {x1 : Int} {x2 : Int} {mm : aM}  {r : Int} (h : B_word x1 x2 mm = some r) : aMet l D cA ad adV z0 mX11_word 1 22 0 0 [.inr (.inr (.inl (some 0))), .inl x1, .inl x2] SH mm ((rI mm) r).1 SH ((rI mm) r).2 := by
  refine aMet_ofG (by decide +kernel) rfl (Nat.le_of_ble_eq_true rfl) h (fun p e s m args below meth c al0 K => ?_)
  unfold B_word
  refine gl (i' := 1) (fun _ _ => aw_aload_n K (dOf ck_mX11_word rfl rfl) rfl) ?_
  refine gl (i' := 2) (fun _ _ => aw_getf K (dOf ck_mX11_word rfl rfl) rfl rfl (Nat.le_of_ble_eq_true rfl) wd_461 (k := 1) rfl) ?_
  refine gl (i' := 3) (fun _ _ => aw_iload_n K (dOf ck_mX11_word rfl rfl) rfl) ?_
  refine gl (i' := 4) (fun _ _ => aw_i2l K (dOf ck_mX11_word rfl rfl)) ?_
  refine g_callVI K [.inr (.inl _)] rfl (dOf ck_mX11_word rfl rfl) al_OneBreath_153 rfl rfl ⟨wd_633, wd_634⟩ rfl (Nat.le_of_ble_eq_true rfl) ⟨Nat.le_of_ble_eq_true rfl, Nat.le_of_ble_eq_true rfl⟩ (fun b hb => met_Tongue_hasWord (by unfold okT; omega) hb) (fun r1 hr1 => ?_)
  refine g_if_ne K (dOf ck_mX11_word rfl rfl) (t := 8) (aJ_of (by decide +kernel)) (fun h2 => ?_) (fun h2 => ?_)
  · refine gl (i' := 7) (fun _ _ => aw_bip K (dOf ck_mX11_word rfl rfl) (v := -2) rfl) ?_
    exact g_iret K (dOf ck_mX11_word rfl rfl).1 rfl (Or.inl rfl) rfl
  · refine gl (i' := 9) (fun _ _ => aw_iload_n K (dOf ck_mX11_word rfl rfl) rfl) ?_
    refine g_if (fun h3 => ?_) (fun h3 => ?_)
    · refine gl (fun _ _ => aw_tableIn K (dOf (n := 28) ck_mX11_word rfl rfl).1 (by omega) (by omega) (off := 28) (by rw [h3]; rfl) (t := 10) (aJ_of (by decide +kernel))) ?_
      refine gl (i' := 11) (fun _ _ => aw_aload_n K (dOf ck_mX11_word rfl rfl) rfl) ?_
      refine gl (i' := 12) (fun _ _ => aw_getf K (dOf ck_mX11_word rfl rfl) rfl rfl (Nat.le_of_ble_eq_true rfl) wd_461 (k := 1) rfl) ?_
      refine gl (i' := 13) (fun _ _ => aw_getf K (dOf ck_mX11_word rfl rfl) rfl rfl (Nat.le_of_ble_eq_true rfl) wd_241 (k := 9) rfl) ?_
      refine gl (i' := 14) (fun _ _ => aw_iload_n K (dOf ck_mX11_word rfl rfl) rfl) ?_
      refine g_gd (fun hb4 => ?_)
      refine gl (i' := 15) (fun _ _ => aw_iald K (dOf ck_mX11_word rfl rfl) rfl hb4) ?_
      exact g_iret K (dOf ck_mX11_word rfl rfl).1 rfl (Or.inl rfl) rfl
    · refine g_if (fun h5 => ?_) (fun h5 => ?_)
      · refine gl (fun _ _ => aw_tableIn K (dOf (n := 28) ck_mX11_word rfl rfl).1 (by omega) (by omega) (off := 38) (by rw [h5]; rfl) (t := 16) (aJ_of (by decide +kernel))) ?_
        refine gl (i' := 17) (fun _ _ => aw_aload_n K (dOf ck_mX11_word rfl rfl) rfl) ?_
        refine gl (i' := 18) (fun _ _ => aw_getf K (dOf ck_mX11_word rfl rfl) rfl rfl (Nat.le_of_ble_eq_true rfl) wd_461 (k := 1) rfl) ?_
        refine gl (i' := 19) (fun _ _ => aw_getf K (dOf ck_mX11_word rfl rfl) rfl rfl (Nat.le_of_ble_eq_true rfl) wd_247 (k := 10) rfl) ?_
        refine gl (i' := 20) (fun _ _ => aw_iload_n K (dOf ck_mX11_word rfl rfl) rfl) ?_
        refine g_gd (fun hb6 => ?_)
        refine gl (i' := 21) (fun _ _ => aw_iald K (dOf ck_mX11_word rfl rfl) rfl hb6) ?_
        exact g_iret K (dOf ck_mX11_word rfl rfl).1 rfl (Or.inl rfl) rfl
      · refine g_if (fun h7 => ?_) (fun h7 => ?_)
        · refine gl (fun _ _ => aw_tableIn K (dOf (n := 28) ck_mX11_word rfl rfl).1 (by omega) (by omega) (off := 48) (by rw [h7]; rfl) (t := 22) (aJ_of (by decide +kernel))) ?_
          refine gl (i' := 23) (fun _ _ => aw_aload_n K (dOf ck_mX11_word rfl rfl) rfl) ?_
          refine gl (i' := 24) (fun _ _ => aw_getf K (dOf ck_mX11_word rfl rfl) rfl rfl (Nat.le_of_ble_eq_true rfl) wd_461 (k := 1) rfl) ?_
          refine gl (i' := 25) (fun _ _ => aw_getf K (dOf ck_mX11_word rfl rfl) rfl rfl (Nat.le_of_ble_eq_true rfl) wd_254 (k := 11) rfl) ?_
          refine gl (i' := 26) (fun _ _ => aw_iload_n K (dOf ck_mX11_word rfl rfl) rfl) ?_
          refine g_gd (fun hb8 => ?_)
          refine gl (i' := 27) (fun _ _ => aw_iald K (dOf ck_mX11_word rfl rfl) rfl hb8) ?_
          exact g_iret K (dOf ck_mX11_word rfl rfl).1 rfl (Or.inl rfl) rfl
        · refine gl (fun _ _ => aw_tableOut K (dOf (n := 28) ck_mX11_word rfl rfl).1 (by omega) (t := 28) (aJ_of (by decide +kernel))) ?_
          refine gl (i' := 29) (fun _ _ => aw_iload_n K (dOf ck_mX11_word rfl rfl) rfl) ?_
          refine gl (i' := 30) (fun _ _ => aw_bip K (dOf ck_mX11_word rfl rfl) (v := 10) rfl) ?_
          refine g_icmp_lt K (dOf ck_mX11_word rfl rfl) (t := 40) (aJ_of (by decide +kernel)) (fun h9 => ?_) (fun h9 => ?_)
          · refine gl (i' := 41) (fun _ _ => aw_bip K (dOf ck_mX11_word rfl rfl) (v := -2) rfl) ?_
            exact g_iret K (dOf ck_mX11_word rfl rfl).1 rfl (Or.inl rfl) rfl
          · refine gl (i' := 32) (fun _ _ => aw_iload_n K (dOf ck_mX11_word rfl rfl) rfl) ?_
            refine gl (i' := 33) (fun _ _ => aw_bip K (dOf ck_mX11_word rfl rfl) (v := 10) rfl) ?_
            refine gl (i' := 34) (fun _ _ => aw_isub K (dOf ck_mX11_word rfl rfl)) ?_
            refine gl (i' := 35) (fun _ _ => aw_aload_n K (dOf ck_mX11_word rfl rfl) rfl) ?_
            refine gl (i' := 36) (fun _ _ => aw_getf K (dOf ck_mX11_word rfl rfl) rfl rfl (Nat.le_of_ble_eq_true rfl) wd_461 (k := 1) rfl) ?_
            refine gl (i' := 37) (fun _ _ => aw_getf K (dOf ck_mX11_word rfl rfl) rfl rfl (Nat.le_of_ble_eq_true rfl) wd_241 (k := 9) rfl) ?_
            refine gl (i' := 38) (fun _ _ => aw_iload_n K (dOf ck_mX11_word rfl rfl) rfl) ?_
            refine g_gd (fun hb10 => ?_)
            refine gl (i' := 39) (fun _ _ => aw_iald K (dOf ck_mX11_word rfl rfl) rfl hb10) ?_
            refine g_icmp_lt K (dOf ck_mX11_word rfl rfl) (t := 42) (aJ_of (by decide +kernel)) (fun h11 => ?_) (fun h11 => ?_)
            · refine gl (i' := 43) (fun _ _ => aw_aload_n K (dOf ck_mX11_word rfl rfl) rfl) ?_
              refine gl (i' := 44) (fun _ _ => aw_getf K (dOf ck_mX11_word rfl rfl) rfl rfl (Nat.le_of_ble_eq_true rfl) wd_461 (k := 1) rfl) ?_
              refine gl (i' := 45) (fun _ _ => aw_getf K (dOf ck_mX11_word rfl rfl) rfl rfl (Nat.le_of_ble_eq_true rfl) wd_232 (k := 8) rfl) ?_
              refine gl (i' := 46) (fun _ _ => aw_iload_n K (dOf ck_mX11_word rfl rfl) rfl) ?_
              refine gl (i' := 47) (fun _ _ => aw_aald K (dOf ck_mX11_word rfl rfl) (shTa (t := 25) (by unfold okT; omega)) hb10 (rsT_at hb10)) ?_
              refine gl (i' := 48) (fun _ _ => aw_iload_n K (dOf ck_mX11_word rfl rfl) rfl) ?_
              refine gl (i' := 49) (fun _ _ => aw_bip K (dOf ck_mX11_word rfl rfl) (v := 10) rfl) ?_
              refine gl (i' := 50) (fun _ _ => aw_isub K (dOf ck_mX11_word rfl rfl)) ?_
              refine g_gd (fun hb12 => ?_)
              refine gl (i' := 51) (fun _ _ => aw_bald K (dOf ck_mX11_word rfl rfl) (shTr (t := 25) (by unfold okT; omega) hb10) hb12) ?_
              exact g_iret K (by decide +kernel) rfl (Or.inl rfl) rfl
            · refine gl (i' := 41) (fun _ _ => aw_bip K (dOf ck_mX11_word rfl rfl) (v := -2) rfl) ?_
              exact g_iret K (dOf ck_mX11_word rfl rfl).1 rfl (Or.inl rfl) rfl
