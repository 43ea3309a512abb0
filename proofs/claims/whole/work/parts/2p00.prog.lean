def Tape_put_23 (k2 : Int → aM → Option aM) (x1 : Int) (x2 : Int) (mm : aM) : Option aM := k2 (w32 (x2 + (-8))) mm
set_option maxHeartbeats 4000000 in
theorem lk_Tape_put_23 {p : Program} {l : Launch} {e : Env} {s : State} {m : MethodId} {args : Array Value} {below : List Frame} {meth : Method} {c : Code} {D : va_G} {cA : FieldType → ClassId} {ad adV : Nat → Nat} {z0 : Nat} {al0 : List Nat} (K : aK p s m args meth c mX7_put D cA ad adV z0) (x1 : Int) (x2 : Int) (k2 : Int → aM → Option aM) (hk2 : ∀ (x2 : Int) (mm : aM), aG p l e { frames := 0, cells := 0, slots := 0, locals := 0 } s m args below meth c D cA ad z0 mX7_put al0 rM (k2 x2 mm) 2 [(0, .inr (.inr (.inl (some 1)))), (1, .inl x1), (2, .inl x2)] [] mm)  (mm : aM) : aG p l e { frames := 0, cells := 0, slots := 0, locals := 0 } s m args below meth c D cA ad z0 mX7_put al0 rM (Tape_put_23 k2 x1 x2 mm) 23 [(0, .inr (.inr (.inl (some 1)))), (1, .inl x1), (2, .inl x2)] [] mm := by
  unfold Tape_put_23
  refine gl (i' := 24) (fun _ _ => aw_iinc K (dOf ck_mX7_put rfl rfl) (Nat.le_of_ble_eq_true rfl) rfl) ?_
  refine g_lv (lv' := [(2, .inl _), (0, .inr (.inr (.inl (some _)))), (1, .inl _)]) rfl ?_
  refine g_goto K (dOf ck_mX7_put rfl rfl).1 (t := 2) (aJ_of (by decide +kernel)) ?_
  refine g_sub [1, 2, 0] rfl ?_
  exact hk2 _ _
def Tape_put_2 (x1 : Int) : Nat → Int → aM → Option aM
  | 0, _, _ => none
  | n + 1, x2, mm => if x2 < 0 then (some mm) else (if (mm 1 1) < 500 then (if 0 ≤ (mm 1 1) ∧ (mm 1 1) < 500 then (st1 (aup mm 2 (mm 1 1).toNat (w8 (w8 (iushr x1 x2)))) fun mm4 => (st1 (aup mm4 1 1 (w32 ((mm4 1 1) + 1))) fun mm5 => (Tape_put_23 (Tape_put_2 x1 n) x1 x2 mm5))) else none) else (Tape_put_23 (Tape_put_2 x1 n) x1 x2 mm))
set_option maxHeartbeats 4000000 in
theorem lk_Tape_put_2 {p : Program} {l : Launch} {e : Env} {s : State} {m : MethodId} {args : Array Value} {below : List Frame} {meth : Method} {c : Code} {D : va_G} {cA : FieldType → ClassId} {ad adV : Nat → Nat} {z0 : Nat} {al0 : List Nat} (K : aK p s m args meth c mX7_put D cA ad adV z0) (x1 : Int)  : ∀ (n : Nat) (x2 : Int) (mm : aM), aG p l e { frames := 0, cells := 0, slots := 0, locals := 0 } s m args below meth c D cA ad z0 mX7_put al0 rM (Tape_put_2 x1 n x2 mm) 2 [(0, .inr (.inr (.inl (some 1)))), (1, .inl x1), (2, .inl x2)] [] mm := by
  intro n
  induction n with
  | zero => intro x2 mm; exact g_none
  | succ n ih =>
    intro x2 mm
    rw [Tape_put_2]
    refine gl (i' := 3) (fun _ _ => aw_iload_n K (dOf ck_mX7_put rfl rfl) rfl) ?_
    refine g_if_lt K (dOf ck_mX7_put rfl rfl) (t := 25) (aJ_of (by decide +kernel)) (fun h1 => ?_) (fun h1 => ?_)
    · exact g_vret K (by decide +kernel) rfl rfl
    · refine gl (i' := 5) (fun _ _ => aw_aload_n K (dOf ck_mX7_put rfl rfl) rfl) ?_
      refine gl (i' := 6) (fun _ _ => aw_getf K (dOf ck_mX7_put rfl rfl) rfl rfl (Nat.le_of_ble_eq_true rfl) wd_276 (k := 1) rfl) ?_
      refine gl (i' := 7) (fun _ _ => aw_sip K (dOf ck_mX7_put rfl rfl) (v := 500) rfl) ?_
      refine g_icmp_ge K (dOf ck_mX7_put rfl rfl) (t := 23) (aJ_of (by decide +kernel)) (fun h2 => ?_) (fun h2 => ?_)
      · refine gl (i' := 9) (fun _ _ => aw_aload_n K (dOf ck_mX7_put rfl rfl) rfl) ?_
        refine gl (i' := 10) (fun _ _ => aw_getf K (dOf ck_mX7_put rfl rfl) rfl rfl (Nat.le_of_ble_eq_true rfl) wd_274 (k := 0) rfl) ?_
        refine gl (i' := 11) (fun _ _ => aw_aload_n K (dOf ck_mX7_put rfl rfl) rfl) ?_
        refine gl (i' := 12) (fun _ _ => aw_getf K (dOf ck_mX7_put rfl rfl) rfl rfl (Nat.le_of_ble_eq_true rfl) wd_276 (k := 1) rfl) ?_
        refine gl (i' := 13) (fun _ _ => aw_iload_n K (dOf ck_mX7_put rfl rfl) rfl) ?_
        refine gl (i' := 14) (fun _ _ => aw_iload_n K (dOf ck_mX7_put rfl rfl) rfl) ?_
        refine gl (i' := 15) (fun _ _ => aw_iushr K (dOf ck_mX7_put rfl rfl)) ?_
        refine gl (i' := 16) (fun _ _ => aw_i2b K (dOf ck_mX7_put rfl rfl)) ?_
        refine g_gd (fun hb3 => ?_)
        refine g_st1 ?_
        refine gl (i' := 17) (fun _ _ => aw_bast K (dOf ck_mX7_put rfl rfl) rfl hb3) ?_
        refine gl (i' := 18) (fun _ _ => aw_aload_n K (dOf ck_mX7_put rfl rfl) rfl) ?_
        refine gl (i' := 19) (fun _ _ => aw_dup K rfl (dOf ck_mX7_put rfl rfl)) ?_
        refine gl (i' := 20) (fun _ _ => aw_getf K (dOf ck_mX7_put rfl rfl) rfl rfl (Nat.le_of_ble_eq_true rfl) wd_276 (k := 1) rfl) ?_
        refine gl (i' := 21) (fun _ _ => aw_iconst K (n := 1) (i32 _ rfl) (dOf ck_mX7_put rfl rfl)) ?_
        refine gl (i' := 22) (fun _ _ => aw_iadd K (dOf ck_mX7_put rfl rfl)) ?_
        refine g_st1 ?_
        refine gl (i' := 23) (fun _ _ => aw_putf K (dOf ck_mX7_put rfl rfl) rfl rfl (Nat.le_of_ble_eq_true rfl) wd_276 (k := 1) rfl rfl (Or.inl rfl)) ?_
        refine g_sub [0, 1, 2] rfl ?_
        exact lk_Tape_put_23 K _ _ _ ih _
      · refine g_sub [0, 1, 2] rfl ?_
        exact lk_Tape_put_23 K _ _ _ ih _
def Tape_put (x1 : Int) (mm : aM) : Option aM := Tape_put_2 x1 FU 24 mm
set_option maxHeartbeats 4000000 in
theorem met_Tape_put {l : Launch} {D : va_G} {cA : FieldType → ClassId} {ad adV : Nat → Nat} {z0 : Nat} {x1 : Int} {mm : aM}  {r : aM} (h : Tape_put x1 mm = some r) : aMet l D cA ad adV z0 mX7_put 0 0 0 0 [.inr (.inr (.inl (some 1))), .inl x1] SH mm (rM r).1 SH (rM r).2 := by
  refine aMet_ofG (by decide +kernel) rfl (Nat.le_of_ble_eq_true rfl) h (fun p e s m args below meth c al0 K => ?_)
  unfold Tape_put
  refine gl (i' := 1) (fun _ _ => aw_bip K (dOf ck_mX7_put rfl rfl) (v := 24) rfl) ?_
  refine gl (i' := 2) (fun _ _ => aw_istore_n K (dOf ck_mX7_put rfl rfl) (Nat.le_of_ble_eq_true rfl)) ?_
  refine g_lv (lv' := [(2, .inl _), (0, .inr (.inr (.inl (some _)))), (1, .inl _)]) rfl ?_
  refine g_sub [1, 2, 0] rfl ?_
  exact lk_Tape_put_2 K _ FU _ _
def B_feed (x1 : Int) (x2 : Int) (x3 : Int) (x4 : Int) (x5 : Int) (mm : aM) : Option (Int × aM) := if 480 < (mm 1 1) then (some ((-5), mm)) else ((Tape_put x1 mm).bind fun r2 => ((Tape_put x2 r2).bind fun r3 => ((Tape_put x3 r3).bind fun r4 => ((Tape_put x4 r4).bind fun r5 => ((Tape_put x5 r5).bind fun r6 => (some (r6 1 1, r6)))))))
set_option maxHeartbeats 4000000 in
theorem met_B_feed {l : Launch} {D : va_G} {cA : FieldType → ClassId} {ad adV : Nat → Nat} {z0 : Nat} {x1 : Int} {x2 : Int} {x3 : Int} {x4 : Int} {x5 : Int} {mm : aM}  {r : Int × aM} (h : B_feed x1 x2 x3 x4 x5 mm = some r) : aMet l D cA ad adV z0 mX11_feed 1 22 0 0 [.inr (.inr (.inl (some 0))), .inl x1, .inl x2, .inl x3, .inl x4, .inl x5] SH mm (rIM r).1 SH (rIM r).2 := by
  refine aMet_ofG (by decide +kernel) rfl (Nat.le_of_ble_eq_true rfl) h (fun p e s m args below meth c al0 K => ?_)
  unfold B_feed
  refine gl (i' := 1) (fun _ _ => aw_aload_n K (dOf ck_mX11_feed rfl rfl) rfl) ?_
  refine gl (i' := 2) (fun _ _ => aw_getf K (dOf ck_mX11_feed rfl rfl) rfl rfl (Nat.le_of_ble_eq_true rfl) wd_460 (k := 0) rfl) ?_
  refine gl (i' := 3) (fun _ _ => aw_getf K (dOf ck_mX11_feed rfl rfl) rfl rfl (Nat.le_of_ble_eq_true rfl) wd_275 (k := 1) rfl) ?_
  refine gl (i' := 4) (fun _ _ => aw_sip K (dOf ck_mX11_feed rfl rfl) (v := 480) rfl) ?_
  refine g_icmp_le K (dOf ck_mX11_feed rfl rfl) (t := 7) (aJ_of (by decide +kernel)) (fun h1 => ?_) (fun h1 => ?_)
  · refine gl (i' := 6) (fun _ _ => aw_bip K (dOf ck_mX11_feed rfl rfl) (v := -5) rfl) ?_
    exact g_iret K (dOf ck_mX11_feed rfl rfl).1 rfl (Or.inl rfl) rfl
  · refine gl (i' := 8) (fun _ _ => aw_aload_n K (dOf ck_mX11_feed rfl rfl) rfl) ?_
    refine gl (i' := 9) (fun _ _ => aw_getf K (dOf ck_mX11_feed rfl rfl) rfl rfl (Nat.le_of_ble_eq_true rfl) wd_460 (k := 0) rfl) ?_
    refine gl (i' := 10) (fun _ _ => aw_iload_n K (dOf ck_mX11_feed rfl rfl) rfl) ?_
    refine g_callVM K [.inl _] rfl (dOf ck_mX11_feed rfl rfl) al_OneBreath_107 rfl rfl ⟨wd_480, wd_481⟩ rfl (Nat.le_of_ble_eq_true rfl) ⟨Nat.le_of_ble_eq_true rfl, Nat.le_of_ble_eq_true rfl⟩ (fun b hb => met_Tape_put  hb) (fun r2 hr2 => ?_)
    refine gl (i' := 12) (fun _ _ => aw_aload_n K (dOf ck_mX11_feed rfl rfl) rfl) ?_
    refine gl (i' := 13) (fun _ _ => aw_getf K (dOf ck_mX11_feed rfl rfl) rfl rfl (Nat.le_of_ble_eq_true rfl) wd_460 (k := 0) rfl) ?_
    refine gl (i' := 14) (fun _ _ => aw_iload_n K (dOf ck_mX11_feed rfl rfl) rfl) ?_
    refine g_callVM K [.inl _] rfl (dOf ck_mX11_feed rfl rfl) al_OneBreath_107 rfl rfl ⟨wd_480, wd_481⟩ rfl (Nat.le_of_ble_eq_true rfl) ⟨Nat.le_of_ble_eq_true rfl, Nat.le_of_ble_eq_true rfl⟩ (fun b hb => met_Tape_put  hb) (fun r3 hr3 => ?_)
    refine gl (i' := 16) (fun _ _ => aw_aload_n K (dOf ck_mX11_feed rfl rfl) rfl) ?_
    refine gl (i' := 17) (fun _ _ => aw_getf K (dOf ck_mX11_feed rfl rfl) rfl rfl (Nat.le_of_ble_eq_true rfl) wd_460 (k := 0) rfl) ?_
    refine gl (i' := 18) (fun _ _ => aw_iload_n K (dOf ck_mX11_feed rfl rfl) rfl) ?_
    refine g_callVM K [.inl _] rfl (dOf ck_mX11_feed rfl rfl) al_OneBreath_107 rfl rfl ⟨wd_480, wd_481⟩ rfl (Nat.le_of_ble_eq_true rfl) ⟨Nat.le_of_ble_eq_true rfl, Nat.le_of_ble_eq_true rfl⟩ (fun b hb => met_Tape_put  hb) (fun r4 hr4 => ?_)
    refine gl (i' := 20) (fun _ _ => aw_aload_n K (dOf ck_mX11_feed rfl rfl) rfl) ?_
    refine gl (i' := 21) (fun _ _ => aw_getf K (dOf ck_mX11_feed rfl rfl) rfl rfl (Nat.le_of_ble_eq_true rfl) wd_460 (k := 0) rfl) ?_
    refine gl (i' := 22) (fun _ _ => aw_iload K (dOf ck_mX11_feed rfl rfl) rfl) ?_
    refine g_callVM K [.inl _] rfl (dOf ck_mX11_feed rfl rfl) al_OneBreath_107 rfl rfl ⟨wd_480, wd_481⟩ rfl (Nat.le_of_ble_eq_true rfl) ⟨Nat.le_of_ble_eq_true rfl, Nat.le_of_ble_eq_true rfl⟩ (fun b hb => met_Tape_put  hb) (fun r5 hr5 => ?_)
    refine gl (i' := 24) (fun _ _ => aw_aload_n K (dOf ck_mX11_feed rfl rfl) rfl) ?_
    refine gl (i' := 25) (fun _ _ => aw_getf K (dOf ck_mX11_feed rfl rfl) rfl rfl (Nat.le_of_ble_eq_true rfl) wd_460 (k := 0) rfl) ?_
    refine gl (i' := 26) (fun _ _ => aw_iload K (dOf ck_mX11_feed rfl rfl) rfl) ?_
    refine g_callVM K [.inl _] rfl (dOf ck_mX11_feed rfl rfl) al_OneBreath_107 rfl rfl ⟨wd_480, wd_481⟩ rfl (Nat.le_of_ble_eq_true rfl) ⟨Nat.le_of_ble_eq_true rfl, Nat.le_of_ble_eq_true rfl⟩ (fun b hb => met_Tape_put  hb) (fun r6 hr6 => ?_)
    refine gl (i' := 28) (fun _ _ => aw_aload_n K (dOf ck_mX11_feed rfl rfl) rfl) ?_
    refine gl (i' := 29) (fun _ _ => aw_getf K (dOf ck_mX11_feed rfl rfl) rfl rfl (Nat.le_of_ble_eq_true rfl) wd_460 (k := 0) rfl) ?_
    refine gl (i' := 30) (fun _ _ => aw_getf K (dOf ck_mX11_feed rfl rfl) rfl rfl (Nat.le_of_ble_eq_true rfl) wd_275 (k := 1) rfl) ?_
    exact g_iret K (by decide +kernel) rfl (Or.inl rfl) rfl
def Tape_holds (x1 : Int) (mm : aM) : Option Int := if x1 < 0 then (some 0) else (if (mm 1 1) < x1 then (some 0) else (some 1))
set_option maxHeartbeats 4000000 in
theorem met_Tape_holds {l : Launch} {D : va_G} {cA : FieldType → ClassId} {ad adV : Nat → Nat} {z0 : Nat} {x1 : Int} {mm : aM}  {r : Int} (h : Tape_holds x1 mm = some r) : aMet l D cA ad adV z0 mX7_holds 0 0 0 0 [.inr (.inr (.inl (some 1))), .inl x1] SH mm ((rI mm) r).1 SH ((rI mm) r).2 := by
  refine aMet_ofG (by decide +kernel) rfl (Nat.le_of_ble_eq_true rfl) h (fun p e s m args below meth c al0 K => ?_)
  unfold Tape_holds
  refine gl (i' := 1) (fun _ _ => aw_iload_n K (dOf ck_mX7_holds rfl rfl) rfl) ?_
  refine g_if_lt K (dOf ck_mX7_holds rfl rfl) (t := 8) (aJ_of (by decide +kernel)) (fun h1 => ?_) (fun h1 => ?_)
  · refine gl (i' := 9) (fun _ _ => aw_iconst K (n := 0) (i32 _ rfl) (dOf ck_mX7_holds rfl rfl)) ?_
    exact g_iret K (by decide +kernel) rfl (Or.inr (Or.inl ⟨rfl, Or.inl rfl⟩)) rfl
  · refine gl (i' := 3) (fun _ _ => aw_iload_n K (dOf ck_mX7_holds rfl rfl) rfl) ?_
    refine gl (i' := 4) (fun _ _ => aw_aload_n K (dOf ck_mX7_holds rfl rfl) rfl) ?_
    refine gl (i' := 5) (fun _ _ => aw_getf K (dOf ck_mX7_holds rfl rfl) rfl rfl (Nat.le_of_ble_eq_true rfl) wd_276 (k := 1) rfl) ?_
    refine g_icmp_gt K (dOf ck_mX7_holds rfl rfl) (t := 8) (aJ_of (by decide +kernel)) (fun h2 => ?_) (fun h2 => ?_)
    · refine gl (i' := 9) (fun _ _ => aw_iconst K (n := 0) (i32 _ rfl) (dOf ck_mX7_holds rfl rfl)) ?_
      exact g_iret K (by decide +kernel) rfl (Or.inr (Or.inl ⟨rfl, Or.inl rfl⟩)) rfl
    · refine gl (i' := 7) (fun _ _ => aw_iconst K (n := 1) (i32 _ rfl) (dOf ck_mX7_holds rfl rfl)) ?_
      refine g_goto K (dOf ck_mX7_holds rfl rfl).1 (t := 9) (aJ_of (by decide +kernel)) ?_
      exact g_iret K (by decide +kernel) rfl (Or.inr (Or.inl ⟨rfl, Or.inr rfl⟩)) rfl
def Jmath_min (x0 : Int) (x1 : Int) (mm : aM) : Option Int := if x1 < x0 then (some x1) else (some x0)
set_option maxHeartbeats 4000000 in
theorem met_Jmath_min {l : Launch} {D : va_G} {cA : FieldType → ClassId} {ad adV : Nat → Nat} {z0 : Nat} {x0 : Int} {x1 : Int} {mm : aM}  {r : Int} (h : Jmath_min x0 x1 mm = some r) : aMet l D cA ad adV z0 mJ9_min_7cf53 0 0 0 0 [.inl x0, .inl x1] SH mm ((rI mm) r).1 SH ((rI mm) r).2 := by
  refine aMet_ofGF (by decide +kernel) rfl (Nat.le_of_ble_eq_true rfl) h (fun p e s m args below meth c al0 K => ?_)
  unfold Jmath_min
  refine gl (i' := 1) (fun _ _ => aw_iload_n K (dOf ck_mJ9_min_7cf53 rfl rfl) rfl) ?_
  refine gl (i' := 2) (fun _ _ => aw_iload_n K (dOf ck_mJ9_min_7cf53 rfl rfl) rfl) ?_
  refine g_icmp_gt K (dOf ck_mJ9_min_7cf53 rfl rfl) (t := 5) (aJ_of (by decide +kernel)) (fun h1 => ?_) (fun h1 => ?_)
  · refine gl (i' := 6) (fun _ _ => aw_iload_n K (dOf ck_mJ9_min_7cf53 rfl rfl) rfl) ?_
    exact g_iret K (by decide +kernel) rfl (Or.inl rfl) rfl
  · refine gl (i' := 4) (fun _ _ => aw_iload_n K (dOf ck_mJ9_min_7cf53 rfl rfl) rfl) ?_
    refine g_goto K (dOf ck_mJ9_min_7cf53 rfl rfl).1 (t := 6) (aJ_of (by decide +kernel)) ?_
    exact g_iret K (by decide +kernel) rfl (Or.inl rfl) rfl
def Jarr_fillI_5 (x0 : Nat) (x1 : Int) (x3 : Int) : Nat → Int → aM → Option aM
  | 0, _, _ => none
  | n + 1, x2, mm => if x2 < x3 then (if 0 ≤ x2 ∧ x2 < aln x0 then (st1 (aup mm x0 x2.toNat x1) fun mm3 => (Jarr_fillI_5 x0 x1 x3 n (w32 (x2 + 1)) mm3)) else none) else (some mm)
set_option maxHeartbeats 4000000 in
theorem lk_Jarr_fillI_5 {p : Program} {l : Launch} {e : Env} {s : State} {m : MethodId} {args : Array Value} {below : List Frame} {meth : Method} {c : Code} {D : va_G} {cA : FieldType → ClassId} {ad adV : Nat → Nat} {z0 : Nat} {al0 : List Nat} (K : aK p s m args meth c mJ7_fill_53178 D cA ad adV z0) {x0 : Nat} (x1 : Int) (x3 : Int) (hx0 : okI x0)  : ∀ (n : Nat) (x2 : Int) (mm : aM), aG p l e { frames := 0, cells := 0, slots := 0, locals := 0 } s m args below meth c D cA ad z0 mJ7_fill_53178 al0 rM (Jarr_fillI_5 x0 x1 x3 n x2 mm) 5 [(0, .inr (.inr (.inl (some x0)))), (1, .inl x1), (2, .inl x2), (3, .inl x3)] [] mm := by
  intro n
  induction n with
  | zero => intro x2 mm; exact g_none
  | succ n ih =>
    intro x2 mm
    rw [Jarr_fillI_5]
    refine gl (i' := 6) (fun _ _ => aw_iload_n K (dOf ck_mJ7_fill_53178 rfl rfl) rfl) ?_
    refine gl (i' := 7) (fun _ _ => aw_iload_n K (dOf ck_mJ7_fill_53178 rfl rfl) rfl) ?_
    refine g_icmp_ge K (dOf ck_mJ7_fill_53178 rfl rfl) (t := 14) (aJ_of (by decide +kernel)) (fun h1 => ?_) (fun h1 => ?_)
    · refine gl (i' := 9) (fun _ _ => aw_aload_n K (dOf ck_mJ7_fill_53178 rfl rfl) rfl) ?_
      refine gl (i' := 10) (fun _ _ => aw_iload_n K (dOf ck_mJ7_fill_53178 rfl rfl) rfl) ?_
      refine gl (i' := 11) (fun _ _ => aw_iload_n K (dOf ck_mJ7_fill_53178 rfl rfl) rfl) ?_
      refine g_gd (fun hb2 => ?_)
      refine g_st1 ?_
      refine gl (i' := 12) (fun _ _ => aw_iast K (dOf ck_mJ7_fill_53178 rfl rfl) (okI_at hx0) hb2) ?_
      refine gl (i' := 13) (fun _ _ => aw_iinc K (dOf ck_mJ7_fill_53178 rfl rfl) (Nat.le_of_ble_eq_true rfl) rfl) ?_
      refine g_lv (lv' := [(2, .inl _), (0, .inr (.inr (.inl (some _)))), (1, .inl _), (3, .inl _)]) rfl ?_
      refine g_goto K (dOf ck_mJ7_fill_53178 rfl rfl).1 (t := 5) (aJ_of (by decide +kernel)) ?_
      refine g_sub [1, 2, 0, 3] rfl ?_
      exact ih _ _
    · exact g_vret K (by decide +kernel) rfl rfl
def Jarr_fillI (x0 : Nat) (x1 : Int) (mm : aM) : Option aM := Jarr_fillI_5 x0 x1 ((aln x0 : Nat) : Int) FU 0 mm
set_option maxHeartbeats 4000000 in
theorem met_Jarr_fillI {l : Launch} {D : va_G} {cA : FieldType → ClassId} {ad adV : Nat → Nat} {z0 : Nat} {x0 : Nat} {x1 : Int} {mm : aM} (hx0 : okI x0) {r : aM} (h : Jarr_fillI x0 x1 mm = some r) : aMet l D cA ad adV z0 mJ7_fill_53178 0 0 0 0 [.inr (.inr (.inl (some x0))), .inl x1] SH mm (rM r).1 SH (rM r).2 := by
  refine aMet_ofG (by decide +kernel) rfl (Nat.le_of_ble_eq_true rfl) h (fun p e s m args below meth c al0 K => ?_)
  unfold Jarr_fillI
  refine gl (i' := 1) (fun _ _ => aw_iconst K (n := 0) (i32 _ rfl) (dOf ck_mJ7_fill_53178 rfl rfl)) ?_
  refine gl (i' := 2) (fun _ _ => aw_istore_n K (dOf ck_mJ7_fill_53178 rfl rfl) (Nat.le_of_ble_eq_true rfl)) ?_
  refine g_lv (lv' := [(2, .inl _), (0, .inr (.inr (.inl (some _)))), (1, .inl _)]) rfl ?_
  refine gl (i' := 3) (fun _ _ => aw_aload_n K (dOf ck_mJ7_fill_53178 rfl rfl) rfl) ?_
  refine gl (i' := 4) (fun _ _ => aw_alen K (dOf ck_mJ7_fill_53178 rfl rfl) (okI_at hx0) rfl (aln_lt _)) ?_
  refine gl (i' := 5) (fun _ _ => aw_istore_n K (dOf ck_mJ7_fill_53178 rfl rfl) (Nat.le_of_ble_eq_true rfl)) ?_
  refine g_lv (lv' := [(3, .inl _), (2, .inl _), (0, .inr (.inr (.inl (some _)))), (1, .inl _)]) rfl ?_
  refine g_sub [2, 3, 1, 0] rfl ?_
  exact lk_Jarr_fillI_5 K _ _ hx0 FU _ _
def Tongue_empty (t : Nat) (mm : aM) : Option aM := st1 (aup mm t 0 0) fun mm1 => (st1 (aup mm1 t 1 0) fun mm2 => (st1 (aup mm2 t 2 0) fun mm3 => (st1 (aup mm3 t 3 0) fun mm4 => (st1 (aup mm4 t 4 0) fun mm5 => (st1 (aup mm5 t 5 15) fun mm6 => ((Jarr_fillI (t + 2) 0 mm6).bind fun r7 => ((Jarr_fillI (t + 19) 15 r7).bind fun r8 => (some r8))))))))
set_option maxHeartbeats 4000000 in
theorem met_Tongue_empty {l : Launch} {D : va_G} {cA : FieldType → ClassId} {ad adV : Nat → Nat} {z0 : Nat} {t : Nat} {mm : aM} (ht : okT t) {r : aM} (h : Tongue_empty t mm = some r) : aMet l D cA ad adV z0 mX8_empty 1 23 0 0 [.inr (.inr (.inl (some t)))] SH mm (rM r).1 SH (rM r).2 := by
  refine aMet_ofG (by decide +kernel) rfl (Nat.le_of_ble_eq_true rfl) h (fun p e s m args below meth c al0 K => ?_)
  unfold Tongue_empty
  refine gl (i' := 1) (fun _ _ => aw_aload_n K (dOf ck_mX8_empty rfl rfl) rfl) ?_
  refine gl (i' := 2) (fun _ _ => aw_iconst K (n := 0) (i32 _ rfl) (dOf ck_mX8_empty rfl rfl)) ?_
  refine g_st1 ?_
  refine gl (i' := 3) (fun _ _ => aw_putf K (dOf ck_mX8_empty rfl rfl) (shT_0 ht) rfl (Nat.le_of_ble_eq_true rfl) wd_188 (k := 0) rfl rfl (Or.inl rfl)) ?_
  refine gl (i' := 4) (fun _ _ => aw_aload_n K (dOf ck_mX8_empty rfl rfl) rfl) ?_
  refine gl (i' := 5) (fun _ _ => aw_iconst K (n := 0) (i32 _ rfl) (dOf ck_mX8_empty rfl rfl)) ?_
  refine g_st1 ?_
  refine gl (i' := 6) (fun _ _ => aw_putf K (dOf ck_mX8_empty rfl rfl) (shT_0 ht) rfl (Nat.le_of_ble_eq_true rfl) wd_191 (k := 1) rfl rfl (Or.inl rfl)) ?_
  refine gl (i' := 7) (fun _ _ => aw_aload_n K (dOf ck_mX8_empty rfl rfl) rfl) ?_
  refine gl (i' := 8) (fun _ _ => aw_iconst K (n := 0) (i32 _ rfl) (dOf ck_mX8_empty rfl rfl)) ?_
  refine g_st1 ?_
  refine gl (i' := 9) (fun _ _ => aw_putf K (dOf ck_mX8_empty rfl rfl) (shT_0 ht) rfl (Nat.le_of_ble_eq_true rfl) wd_198 (k := 2) rfl rfl (Or.inl rfl)) ?_
  refine gl (i' := 10) (fun _ _ => aw_aload_n K (dOf ck_mX8_empty rfl rfl) rfl) ?_
  refine gl (i' := 11) (fun _ _ => aw_iconst K (n := 0) (i32 _ rfl) (dOf ck_mX8_empty rfl rfl)) ?_
  refine g_st1 ?_
  refine gl (i' := 12) (fun _ _ => aw_putf K (dOf ck_mX8_empty rfl rfl) (shT_0 ht) rfl (Nat.le_of_ble_eq_true rfl) wd_203 (k := 3) rfl rfl (Or.inl rfl)) ?_
  refine gl (i' := 13) (fun _ _ => aw_aload_n K (dOf ck_mX8_empty rfl rfl) rfl) ?_
  refine gl (i' := 14) (fun _ _ => aw_iconst K (n := 0) (i32 _ rfl) (dOf ck_mX8_empty rfl rfl)) ?_
  refine g_st1 ?_
  refine gl (i' := 15) (fun _ _ => aw_putf K (dOf ck_mX8_empty rfl rfl) (shT_0 ht) rfl (Nat.le_of_ble_eq_true rfl) wd_207 (k := 4) rfl rfl (Or.inl rfl)) ?_
  refine gl (i' := 16) (fun _ _ => aw_aload_n K (dOf ck_mX8_empty rfl rfl) rfl) ?_
  refine gl (i' := 17) (fun _ _ => aw_bip K (dOf ck_mX8_empty rfl rfl) (v := 15) rfl) ?_
  refine g_st1 ?_
  refine gl (i' := 18) (fun _ _ => aw_putf K (dOf ck_mX8_empty rfl rfl) (shT_0 ht) rfl (Nat.le_of_ble_eq_true rfl) wd_213 (k := 5) rfl rfl (Or.inl rfl)) ?_
  refine gl (i' := 19) (fun _ _ => aw_aload_n K (dOf ck_mX8_empty rfl rfl) rfl) ?_
  refine gl (i' := 20) (fun _ _ => aw_getf K (dOf ck_mX8_empty rfl rfl) (shT_0 ht) rfl (Nat.le_of_ble_eq_true rfl) wd_219 (k := 7) rfl) ?_
  refine gl (i' := 21) (fun _ _ => aw_iconst K (n := 0) (i32 _ rfl) (dOf ck_mX8_empty rfl rfl)) ?_
  refine g_callSM K [.inr (.inr (.inl (some _))), .inl _] rfl (dOf ck_mX8_empty rfl rfl) al_OneBreath_Tongue_64 wd_186 rfl (Nat.le_of_ble_eq_true rfl) ⟨Nat.le_of_ble_eq_true rfl, Nat.le_of_ble_eq_true rfl⟩ (fun b hb => met_Jarr_fillI ⟨_, (shT_2 ht)⟩ hb) (fun r7 hr7 => ?_)
  refine gl (i' := 23) (fun _ _ => aw_aload_n K (dOf ck_mX8_empty rfl rfl) rfl) ?_
  refine gl (i' := 24) (fun _ _ => aw_getf K (dOf ck_mX8_empty rfl rfl) (shT_0 ht) rfl (Nat.le_of_ble_eq_true rfl) wd_257 (k := 12) rfl) ?_
  refine gl (i' := 25) (fun _ _ => aw_bip K (dOf ck_mX8_empty rfl rfl) (v := 15) rfl) ?_
  refine g_callSM K [.inr (.inr (.inl (some _))), .inl _] rfl (dOf ck_mX8_empty rfl rfl) al_OneBreath_Tongue_64 wd_186 rfl (Nat.le_of_ble_eq_true rfl) ⟨Nat.le_of_ble_eq_true rfl, Nat.le_of_ble_eq_true rfl⟩ (fun b hb => met_Jarr_fillI ⟨_, (shT_19 ht)⟩ hb) (fun r8 hr8 => ?_)
  exact g_vret K (by decide +kernel) rfl rfl
def Tape_advance_133 (s0 : Int) (mm : aM) : Option aM := st1 (aup mm 1 4 s0) fun mm11 => (st1 (aup mm11 1 6 (w32 ((mm11 1 6) + 1))) fun mm12 => (some mm12))
set_option maxHeartbeats 4000000 in
theorem lk_Tape_advance_133 {p : Program} {l : Launch} {e : Env} {s : State} {m : MethodId} {args : Array Value} {below : List Frame} {meth : Method} {c : Code} {D : va_G} {cA : FieldType → ClassId} {ad adV : Nat → Nat} {z0 : Nat} {al0 : List Nat} (K : aK p s m args meth c mX7_advance D cA ad adV z0)   (s0 : Int) (mm : aM) : aG p l e { frames := 0, cells := 0, slots := 0, locals := 0 } s m args below meth c D cA ad z0 mX7_advance al0 rM (Tape_advance_133 s0 mm) 133 [(0, .inr (.inr (.inl (some 1))))] [.inl s0, .inr (.inr (.inl (some 1)))] mm := by
  unfold Tape_advance_133
  refine g_st1 ?_
  refine gl (i' := 134) (fun _ _ => aw_putf K (dOf ck_mX7_advance rfl rfl) rfl rfl (Nat.le_of_ble_eq_true rfl) wd_280 (k := 4) rfl rfl (Or.inl rfl)) ?_
  refine gl (i' := 135) (fun _ _ => aw_aload_n K (dOf ck_mX7_advance rfl rfl) rfl) ?_
  refine gl (i' := 136) (fun _ _ => aw_dup K rfl (dOf ck_mX7_advance rfl rfl)) ?_
  refine gl (i' := 137) (fun _ _ => aw_getf K (dOf ck_mX7_advance rfl rfl) rfl rfl (Nat.le_of_ble_eq_true rfl) wd_282 (k := 6) rfl) ?_
  refine gl (i' := 138) (fun _ _ => aw_iconst K (n := 1) (i32 _ rfl) (dOf ck_mX7_advance rfl rfl)) ?_
  refine gl (i' := 139) (fun _ _ => aw_iadd K (dOf ck_mX7_advance rfl rfl)) ?_
  refine g_st1 ?_
  refine gl (i' := 140) (fun _ _ => aw_putf K (dOf ck_mX7_advance rfl rfl) rfl rfl (Nat.le_of_ble_eq_true rfl) wd_282 (k := 6) rfl rfl (Or.inl rfl)) ?_
  exact g_vret K (by decide +kernel) rfl rfl
def Tape_advance_111 (s0 : Int) (mm : aM) : Option aM := st1 (aup mm 1 4 s0) fun mm15 => (some mm15)
set_option maxHeartbeats 4000000 in
theorem lk_Tape_advance_111 {p : Program} {l : Launch} {e : Env} {s : State} {m : MethodId} {args : Array Value} {below : List Frame} {meth : Method} {c : Code} {D : va_G} {cA : FieldType → ClassId} {ad adV : Nat → Nat} {z0 : Nat} {al0 : List Nat} (K : aK p s m args meth c mX7_advance D cA ad adV z0)   (s0 : Int) (mm : aM) : aG p l e { frames := 0, cells := 0, slots := 0, locals := 0 } s m args below meth c D cA ad z0 mX7_advance al0 rM (Tape_advance_111 s0 mm) 111 [] [.inl s0, .inr (.inr (.inl (some 1)))] mm := by
  unfold Tape_advance_111
  refine g_st1 ?_
  refine gl (i' := 112) (fun _ _ => aw_putf K (dOf ck_mX7_advance rfl rfl) rfl rfl (Nat.le_of_ble_eq_true rfl) wd_280 (k := 4) rfl rfl (Or.inl rfl)) ?_
  exact g_vret K (dOf ck_mX7_advance rfl rfl).1 rfl rfl
def Tape_advance_95 (mm : aM) : Option aM := if (mm 1 5) < (mm 1 6) then (if 3 < (w32 ((mm 1 6) - (mm 1 5))) then (Tape_advance_111 4 mm) else (Tape_advance_111 2 mm)) else (if (mm 1 5) < (mm 1 2) then (if 0 ≤ (mm 1 5) ∧ (mm 1 5) < 500 then (if (mm 2 (mm 1 5).toNat) = 59 then (Tape_advance_133 3 mm) else (Tape_advance_133 4 mm)) else none) else (st1 (aup mm 1 4 0) fun mm13 => (some mm13)))
set_option maxHeartbeats 4000000 in
theorem lk_Tape_advance_95 {p : Program} {l : Launch} {e : Env} {s : State} {m : MethodId} {args : Array Value} {below : List Frame} {meth : Method} {c : Code} {D : va_G} {cA : FieldType → ClassId} {ad adV : Nat → Nat} {z0 : Nat} {al0 : List Nat} (K : aK p s m args meth c mX7_advance D cA ad adV z0)   (mm : aM) : aG p l e { frames := 0, cells := 0, slots := 0, locals := 0 } s m args below meth c D cA ad z0 mX7_advance al0 rM (Tape_advance_95 mm) 95 [(0, .inr (.inr (.inl (some 1))))] [] mm := by
  unfold Tape_advance_95
  refine gl (i' := 96) (fun _ _ => aw_aload_n K (dOf ck_mX7_advance rfl rfl) rfl) ?_
  refine gl (i' := 97) (fun _ _ => aw_getf K (dOf ck_mX7_advance rfl rfl) rfl rfl (Nat.le_of_ble_eq_true rfl) wd_282 (k := 6) rfl) ?_
  refine gl (i' := 98) (fun _ _ => aw_aload_n K (dOf ck_mX7_advance rfl rfl) rfl) ?_
  refine gl (i' := 99) (fun _ _ => aw_getf K (dOf ck_mX7_advance rfl rfl) rfl rfl (Nat.le_of_ble_eq_true rfl) wd_281 (k := 5) rfl) ?_
  refine g_icmp_le K (dOf ck_mX7_advance rfl rfl) (t := 113) (aJ_of (by decide +kernel)) (fun h7 => ?_) (fun h7 => ?_)
  · refine gl (i' := 101) (fun _ _ => aw_aload_n K (dOf ck_mX7_advance rfl rfl) rfl) ?_
    refine gl (i' := 102) (fun _ _ => aw_aload_n K (dOf ck_mX7_advance rfl rfl) rfl) ?_
    refine gl (i' := 103) (fun _ _ => aw_getf K (dOf ck_mX7_advance rfl rfl) rfl rfl (Nat.le_of_ble_eq_true rfl) wd_282 (k := 6) rfl) ?_
    refine gl (i' := 104) (fun _ _ => aw_aload_n K (dOf ck_mX7_advance rfl rfl) rfl) ?_
    refine gl (i' := 105) (fun _ _ => aw_getf K (dOf ck_mX7_advance rfl rfl) rfl rfl (Nat.le_of_ble_eq_true rfl) wd_281 (k := 5) rfl) ?_
    refine gl (i' := 106) (fun _ _ => aw_isub K (dOf ck_mX7_advance rfl rfl)) ?_
    refine gl (i' := 107) (fun _ _ => aw_iconst K (n := 3) (i32 _ rfl) (dOf ck_mX7_advance rfl rfl)) ?_
    refine g_icmp_le K (dOf ck_mX7_advance rfl rfl) (t := 110) (aJ_of (by decide +kernel)) (fun h14 => ?_) (fun h14 => ?_)
    · refine gl (i' := 109) (fun _ _ => aw_iconst K (n := 4) (i32 _ rfl) (dOf ck_mX7_advance rfl rfl)) ?_
      refine g_goto K (dOf ck_mX7_advance rfl rfl).1 (t := 111) (aJ_of (by decide +kernel)) ?_
      refine g_sub [] rfl ?_
      exact lk_Tape_advance_111 K _ _
    · refine gl (i' := 111) (fun _ _ => aw_iconst K (n := 2) (i32 _ rfl) (dOf ck_mX7_advance rfl rfl)) ?_
      refine g_sub [] rfl ?_
      exact lk_Tape_advance_111 K _ _
  · refine gl (i' := 114) (fun _ _ => aw_aload_n K (dOf ck_mX7_advance rfl rfl) rfl) ?_
    refine gl (i' := 115) (fun _ _ => aw_getf K (dOf ck_mX7_advance rfl rfl) rfl rfl (Nat.le_of_ble_eq_true rfl) wd_281 (k := 5) rfl) ?_
    refine gl (i' := 116) (fun _ _ => aw_aload_n K (dOf ck_mX7_advance rfl rfl) rfl) ?_
    refine gl (i' := 117) (fun _ _ => aw_getf K (dOf ck_mX7_advance rfl rfl) rfl rfl (Nat.le_of_ble_eq_true rfl) wd_277 (k := 2) rfl) ?_
    refine g_icmp_lt K (dOf ck_mX7_advance rfl rfl) (t := 122) (aJ_of (by decide +kernel)) (fun h8 => ?_) (fun h8 => ?_)
    · refine gl (i' := 123) (fun _ _ => aw_aload_n K (dOf ck_mX7_advance rfl rfl) rfl) ?_
      refine gl (i' := 124) (fun _ _ => aw_aload_n K (dOf ck_mX7_advance rfl rfl) rfl) ?_
      refine gl (i' := 125) (fun _ _ => aw_getf K (dOf ck_mX7_advance rfl rfl) rfl rfl (Nat.le_of_ble_eq_true rfl) wd_274 (k := 0) rfl) ?_
      refine gl (i' := 126) (fun _ _ => aw_aload_n K (dOf ck_mX7_advance rfl rfl) rfl) ?_
      refine gl (i' := 127) (fun _ _ => aw_getf K (dOf ck_mX7_advance rfl rfl) rfl rfl (Nat.le_of_ble_eq_true rfl) wd_281 (k := 5) rfl) ?_
      refine g_gd (fun hb9 => ?_)
      refine gl (i' := 128) (fun _ _ => aw_bald K (dOf ck_mX7_advance rfl rfl) rfl hb9) ?_
      refine gl (i' := 129) (fun _ _ => aw_bip K (dOf ck_mX7_advance rfl rfl) (v := 59) rfl) ?_
      refine g_icmp_ne K (dOf ck_mX7_advance rfl rfl) (t := 132) (aJ_of (by decide +kernel)) (fun h10 => ?_) (fun h10 => ?_)
      · refine gl (i' := 131) (fun _ _ => aw_iconst K (n := 3) (i32 _ rfl) (dOf ck_mX7_advance rfl rfl)) ?_
        refine g_goto K (dOf ck_mX7_advance rfl rfl).1 (t := 133) (aJ_of (by decide +kernel)) ?_
        refine g_sub [0] rfl ?_
        exact lk_Tape_advance_133 K _ _
      · refine gl (i' := 133) (fun _ _ => aw_iconst K (n := 4) (i32 _ rfl) (dOf ck_mX7_advance rfl rfl)) ?_
        refine g_sub [0] rfl ?_
        exact lk_Tape_advance_133 K _ _
    · refine gl (i' := 119) (fun _ _ => aw_aload_n K (dOf ck_mX7_advance rfl rfl) rfl) ?_
      refine gl (i' := 120) (fun _ _ => aw_iconst K (n := 0) (i32 _ rfl) (dOf ck_mX7_advance rfl rfl)) ?_
      refine g_st1 ?_
      refine gl (i' := 121) (fun _ _ => aw_putf K (dOf ck_mX7_advance rfl rfl) rfl rfl (Nat.le_of_ble_eq_true rfl) wd_280 (k := 4) rfl rfl (Or.inl rfl)) ?_
      exact g_vret K (dOf ck_mX7_advance rfl rfl).1 rfl rfl
def Tape_advance_69  : Nat → aM → Option aM
  | 0, _ => none
  | n + 1, mm => if (mm 1 6) < (mm 1 2) then (if 0 ≤ (mm 1 6) ∧ (mm 1 6) < 500 then (if (mm 2 (mm 1 6).toNat) < 48 then (Tape_advance_95 mm) else (if 57 < (mm 2 (mm 1 6).toNat) then (Tape_advance_95 mm) else (st1 (aup mm 1 6 (w32 ((mm 1 6) + 1))) fun mm19 => (Tape_advance_69 n mm19)))) else none) else (Tape_advance_95 mm)
set_option maxHeartbeats 4000000 in
theorem lk_Tape_advance_69 {p : Program} {l : Launch} {e : Env} {s : State} {m : MethodId} {args : Array Value} {below : List Frame} {meth : Method} {c : Code} {D : va_G} {cA : FieldType → ClassId} {ad adV : Nat → Nat} {z0 : Nat} {al0 : List Nat} (K : aK p s m args meth c mX7_advance D cA ad adV z0)   : ∀ (n : Nat) (mm : aM), aG p l e { frames := 0, cells := 0, slots := 0, locals := 0 } s m args below meth c D cA ad z0 mX7_advance al0 rM (Tape_advance_69 n mm) 69 [(0, .inr (.inr (.inl (some 1))))] [] mm := by
  intro n
  induction n with
  | zero => intro mm; exact g_none
  | succ n ih =>
    intro mm
    rw [Tape_advance_69]
    refine gl (i' := 70) (fun _ _ => aw_aload_n K (dOf ck_mX7_advance rfl rfl) rfl) ?_
    refine gl (i' := 71) (fun _ _ => aw_getf K (dOf ck_mX7_advance rfl rfl) rfl rfl (Nat.le_of_ble_eq_true rfl) wd_282 (k := 6) rfl) ?_
    refine gl (i' := 72) (fun _ _ => aw_aload_n K (dOf ck_mX7_advance rfl rfl) rfl) ?_
    refine gl (i' := 73) (fun _ _ => aw_getf K (dOf ck_mX7_advance rfl rfl) rfl rfl (Nat.le_of_ble_eq_true rfl) wd_277 (k := 2) rfl) ?_
    refine g_icmp_ge K (dOf ck_mX7_advance rfl rfl) (t := 95) (aJ_of (by decide +kernel)) (fun h6 => ?_) (fun h6 => ?_)
    · refine gl (i' := 75) (fun _ _ => aw_aload_n K (dOf ck_mX7_advance rfl rfl) rfl) ?_
      refine gl (i' := 76) (fun _ _ => aw_getf K (dOf ck_mX7_advance rfl rfl) rfl rfl (Nat.le_of_ble_eq_true rfl) wd_274 (k := 0) rfl) ?_
      refine gl (i' := 77) (fun _ _ => aw_aload_n K (dOf ck_mX7_advance rfl rfl) rfl) ?_
      refine gl (i' := 78) (fun _ _ => aw_getf K (dOf ck_mX7_advance rfl rfl) rfl rfl (Nat.le_of_ble_eq_true rfl) wd_282 (k := 6) rfl) ?_
      refine g_gd (fun hb16 => ?_)
      refine gl (i' := 79) (fun _ _ => aw_bald K (dOf ck_mX7_advance rfl rfl) rfl hb16) ?_
      refine gl (i' := 80) (fun _ _ => aw_bip K (dOf ck_mX7_advance rfl rfl) (v := 48) rfl) ?_
      refine g_icmp_lt K (dOf ck_mX7_advance rfl rfl) (t := 95) (aJ_of (by decide +kernel)) (fun h17 => ?_) (fun h17 => ?_)
      · refine g_sub [0] rfl ?_
        exact lk_Tape_advance_95 K _
      · refine gl (i' := 82) (fun _ _ => aw_aload_n K (dOf ck_mX7_advance rfl rfl) rfl) ?_
        refine gl (i' := 83) (fun _ _ => aw_getf K (dOf ck_mX7_advance rfl rfl) rfl rfl (Nat.le_of_ble_eq_true rfl) wd_274 (k := 0) rfl) ?_
        refine gl (i' := 84) (fun _ _ => aw_aload_n K (dOf ck_mX7_advance rfl rfl) rfl) ?_
        refine gl (i' := 85) (fun _ _ => aw_getf K (dOf ck_mX7_advance rfl rfl) rfl rfl (Nat.le_of_ble_eq_true rfl) wd_282 (k := 6) rfl) ?_
        refine gl (i' := 86) (fun _ _ => aw_bald K (dOf ck_mX7_advance rfl rfl) rfl hb16) ?_
        refine gl (i' := 87) (fun _ _ => aw_bip K (dOf ck_mX7_advance rfl rfl) (v := 57) rfl) ?_
        refine g_icmp_gt K (dOf ck_mX7_advance rfl rfl) (t := 95) (aJ_of (by decide +kernel)) (fun h18 => ?_) (fun h18 => ?_)
        · refine g_sub [0] rfl ?_
          exact lk_Tape_advance_95 K _
        · refine gl (i' := 89) (fun _ _ => aw_aload_n K (dOf ck_mX7_advance rfl rfl) rfl) ?_
          refine gl (i' := 90) (fun _ _ => aw_dup K rfl (dOf ck_mX7_advance rfl rfl)) ?_
          refine gl (i' := 91) (fun _ _ => aw_getf K (dOf ck_mX7_advance rfl rfl) rfl rfl (Nat.le_of_ble_eq_true rfl) wd_282 (k := 6) rfl) ?_
          refine gl (i' := 92) (fun _ _ => aw_iconst K (n := 1) (i32 _ rfl) (dOf ck_mX7_advance rfl rfl)) ?_
          refine gl (i' := 93) (fun _ _ => aw_iadd K (dOf ck_mX7_advance rfl rfl)) ?_
          refine g_st1 ?_
          refine gl (i' := 94) (fun _ _ => aw_putf K (dOf ck_mX7_advance rfl rfl) rfl rfl (Nat.le_of_ble_eq_true rfl) wd_282 (k := 6) rfl rfl (Or.inl rfl)) ?_
          refine g_goto K (dOf ck_mX7_advance rfl rfl).1 (t := 69) (aJ_of (by decide +kernel)) ?_
          refine g_sub [0] rfl ?_
          exact ih _
    · refine g_sub [0] rfl ?_
      exact lk_Tape_advance_95 K _
def Tape_advance_60 (mm : aM) : Option aM := if (mm 1 5) < (mm 1 6) then (st1 (aup mm 1 4 1) fun mm20 => (some mm20)) else (Tape_advance_69 FU mm)
set_option maxHeartbeats 4000000 in
theorem lk_Tape_advance_60 {p : Program} {l : Launch} {e : Env} {s : State} {m : MethodId} {args : Array Value} {below : List Frame} {meth : Method} {c : Code} {D : va_G} {cA : FieldType → ClassId} {ad adV : Nat → Nat} {z0 : Nat} {al0 : List Nat} (K : aK p s m args meth c mX7_advance D cA ad adV z0)   (mm : aM) : aG p l e { frames := 0, cells := 0, slots := 0, locals := 0 } s m args below meth c D cA ad z0 mX7_advance al0 rM (Tape_advance_60 mm) 60 [(0, .inr (.inr (.inl (some 1))))] [] mm := by
  unfold Tape_advance_60
  refine gl (i' := 61) (fun _ _ => aw_aload_n K (dOf ck_mX7_advance rfl rfl) rfl) ?_
  refine gl (i' := 62) (fun _ _ => aw_getf K (dOf ck_mX7_advance rfl rfl) rfl rfl (Nat.le_of_ble_eq_true rfl) wd_282 (k := 6) rfl) ?_
  refine gl (i' := 63) (fun _ _ => aw_aload_n K (dOf ck_mX7_advance rfl rfl) rfl) ?_
  refine gl (i' := 64) (fun _ _ => aw_getf K (dOf ck_mX7_advance rfl rfl) rfl rfl (Nat.le_of_ble_eq_true rfl) wd_281 (k := 5) rfl) ?_
  refine g_icmp_le K (dOf ck_mX7_advance rfl rfl) (t := 69) (aJ_of (by decide +kernel)) (fun h5 => ?_) (fun h5 => ?_)
  · refine gl (i' := 66) (fun _ _ => aw_aload_n K (dOf ck_mX7_advance rfl rfl) rfl) ?_
    refine gl (i' := 67) (fun _ _ => aw_iconst K (n := 1) (i32 _ rfl) (dOf ck_mX7_advance rfl rfl)) ?_
    refine g_st1 ?_
    refine gl (i' := 68) (fun _ _ => aw_putf K (dOf ck_mX7_advance rfl rfl) rfl rfl (Nat.le_of_ble_eq_true rfl) wd_280 (k := 4) rfl rfl (Or.inl rfl)) ?_
    exact g_vret K (dOf ck_mX7_advance rfl rfl).1 rfl rfl
  · refine g_sub [0] rfl ?_
    exact lk_Tape_advance_69 K FU _
def Tape_advance_34  : Nat → aM → Option aM
  | 0, _ => none
  | n + 1, mm => if (mm 1 6) < (mm 1 2) then (if 0 ≤ (mm 1 6) ∧ (mm 1 6) < 500 then (if (mm 2 (mm 1 6).toNat) < 97 then (Tape_advance_60 mm) else (if 122 < (mm 2 (mm 1 6).toNat) then (Tape_advance_60 mm) else (st1 (aup mm 1 6 (w32 ((mm 1 6) + 1))) fun mm24 => (Tape_advance_34 n mm24)))) else none) else (Tape_advance_60 mm)
set_option maxHeartbeats 4000000 in
theorem lk_Tape_advance_34 {p : Program} {l : Launch} {e : Env} {s : State} {m : MethodId} {args : Array Value} {below : List Frame} {meth : Method} {c : Code} {D : va_G} {cA : FieldType → ClassId} {ad adV : Nat → Nat} {z0 : Nat} {al0 : List Nat} (K : aK p s m args meth c mX7_advance D cA ad adV z0)   : ∀ (n : Nat) (mm : aM), aG p l e { frames := 0, cells := 0, slots := 0, locals := 0 } s m args below meth c D cA ad z0 mX7_advance al0 rM (Tape_advance_34 n mm) 34 [(0, .inr (.inr (.inl (some 1))))] [] mm := by
  intro n
  induction n with
  | zero => intro mm; exact g_none
  | succ n ih =>
    intro mm
    rw [Tape_advance_34]
    refine gl (i' := 35) (fun _ _ => aw_aload_n K (dOf ck_mX7_advance rfl rfl) rfl) ?_
    refine gl (i' := 36) (fun _ _ => aw_getf K (dOf ck_mX7_advance rfl rfl) rfl rfl (Nat.le_of_ble_eq_true rfl) wd_282 (k := 6) rfl) ?_
    refine gl (i' := 37) (fun _ _ => aw_aload_n K (dOf ck_mX7_advance rfl rfl) rfl) ?_
    refine gl (i' := 38) (fun _ _ => aw_getf K (dOf ck_mX7_advance rfl rfl) rfl rfl (Nat.le_of_ble_eq_true rfl) wd_277 (k := 2) rfl) ?_
    refine g_icmp_ge K (dOf ck_mX7_advance rfl rfl) (t := 60) (aJ_of (by decide +kernel)) (fun h4 => ?_) (fun h4 => ?_)
    · refine gl (i' := 40) (fun _ _ => aw_aload_n K (dOf ck_mX7_advance rfl rfl) rfl) ?_
      refine gl (i' := 41) (fun _ _ => aw_getf K (dOf ck_mX7_advance rfl rfl) rfl rfl (Nat.le_of_ble_eq_true rfl) wd_274 (k := 0) rfl) ?_
      refine gl (i' := 42) (fun _ _ => aw_aload_n K (dOf ck_mX7_advance rfl rfl) rfl) ?_
      refine gl (i' := 43) (fun _ _ => aw_getf K (dOf ck_mX7_advance rfl rfl) rfl rfl (Nat.le_of_ble_eq_true rfl) wd_282 (k := 6) rfl) ?_
      refine g_gd (fun hb21 => ?_)
      refine gl (i' := 44) (fun _ _ => aw_bald K (dOf ck_mX7_advance rfl rfl) rfl hb21) ?_
      refine gl (i' := 45) (fun _ _ => aw_bip K (dOf ck_mX7_advance rfl rfl) (v := 97) rfl) ?_
      refine g_icmp_lt K (dOf ck_mX7_advance rfl rfl) (t := 60) (aJ_of (by decide +kernel)) (fun h22 => ?_) (fun h22 => ?_)
      · refine g_sub [0] rfl ?_
        exact lk_Tape_advance_60 K _
      · refine gl (i' := 47) (fun _ _ => aw_aload_n K (dOf ck_mX7_advance rfl rfl) rfl) ?_
        refine gl (i' := 48) (fun _ _ => aw_getf K (dOf ck_mX7_advance rfl rfl) rfl rfl (Nat.le_of_ble_eq_true rfl) wd_274 (k := 0) rfl) ?_
        refine gl (i' := 49) (fun _ _ => aw_aload_n K (dOf ck_mX7_advance rfl rfl) rfl) ?_
        refine gl (i' := 50) (fun _ _ => aw_getf K (dOf ck_mX7_advance rfl rfl) rfl rfl (Nat.le_of_ble_eq_true rfl) wd_282 (k := 6) rfl) ?_
        refine gl (i' := 51) (fun _ _ => aw_bald K (dOf ck_mX7_advance rfl rfl) rfl hb21) ?_
        refine gl (i' := 52) (fun _ _ => aw_bip K (dOf ck_mX7_advance rfl rfl) (v := 122) rfl) ?_
        refine g_icmp_gt K (dOf ck_mX7_advance rfl rfl) (t := 60) (aJ_of (by decide +kernel)) (fun h23 => ?_) (fun h23 => ?_)
        · refine g_sub [0] rfl ?_
          exact lk_Tape_advance_60 K _
        · refine gl (i' := 54) (fun _ _ => aw_aload_n K (dOf ck_mX7_advance rfl rfl) rfl) ?_
          refine gl (i' := 55) (fun _ _ => aw_dup K rfl (dOf ck_mX7_advance rfl rfl)) ?_
          refine gl (i' := 56) (fun _ _ => aw_getf K (dOf ck_mX7_advance rfl rfl) rfl rfl (Nat.le_of_ble_eq_true rfl) wd_282 (k := 6) rfl) ?_
          refine gl (i' := 57) (fun _ _ => aw_iconst K (n := 1) (i32 _ rfl) (dOf ck_mX7_advance rfl rfl)) ?_
          refine gl (i' := 58) (fun _ _ => aw_iadd K (dOf ck_mX7_advance rfl rfl)) ?_
          refine g_st1 ?_
          refine gl (i' := 59) (fun _ _ => aw_putf K (dOf ck_mX7_advance rfl rfl) rfl rfl (Nat.le_of_ble_eq_true rfl) wd_282 (k := 6) rfl rfl (Or.inl rfl)) ?_
          refine g_goto K (dOf ck_mX7_advance rfl rfl).1 (t := 34) (aJ_of (by decide +kernel)) ?_
          refine g_sub [0] rfl ?_
          exact ih _
    · refine g_sub [0] rfl ?_
      exact lk_Tape_advance_60 K _
def Tape_advance_30 (mm : aM) : Option aM := st1 (aup mm 1 6 (mm 1 5)) fun mm3 => (Tape_advance_34 FU mm3)
set_option maxHeartbeats 4000000 in
theorem lk_Tape_advance_30 {p : Program} {l : Launch} {e : Env} {s : State} {m : MethodId} {args : Array Value} {below : List Frame} {meth : Method} {c : Code} {D : va_G} {cA : FieldType → ClassId} {ad adV : Nat → Nat} {z0 : Nat} {al0 : List Nat} (K : aK p s m args meth c mX7_advance D cA ad adV z0)   (mm : aM) : aG p l e { frames := 0, cells := 0, slots := 0, locals := 0 } s m args below meth c D cA ad z0 mX7_advance al0 rM (Tape_advance_30 mm) 30 [(0, .inr (.inr (.inl (some 1))))] [] mm := by
  unfold Tape_advance_30
  refine gl (i' := 31) (fun _ _ => aw_aload_n K (dOf ck_mX7_advance rfl rfl) rfl) ?_
  refine gl (i' := 32) (fun _ _ => aw_aload_n K (dOf ck_mX7_advance rfl rfl) rfl) ?_
  refine gl (i' := 33) (fun _ _ => aw_getf K (dOf ck_mX7_advance rfl rfl) rfl rfl (Nat.le_of_ble_eq_true rfl) wd_281 (k := 5) rfl) ?_
  refine g_st1 ?_
  refine gl (i' := 34) (fun _ _ => aw_putf K (dOf ck_mX7_advance rfl rfl) rfl rfl (Nat.le_of_ble_eq_true rfl) wd_282 (k := 6) rfl rfl (Or.inl rfl)) ?_
  refine g_sub [0] rfl ?_
  exact lk_Tape_advance_34 K FU _
def Tape_advance_23 (k4 : aM → Option aM) (mm : aM) : Option aM := st1 (aup mm 1 5 (w32 ((mm 1 5) + 1))) fun mm27 => (k4 mm27)
set_option maxHeartbeats 4000000 in
theorem lk_Tape_advance_23 {p : Program} {l : Launch} {e : Env} {s : State} {m : MethodId} {args : Array Value} {below : List Frame} {meth : Method} {c : Code} {D : va_G} {cA : FieldType → ClassId} {ad adV : Nat → Nat} {z0 : Nat} {al0 : List Nat} (K : aK p s m args meth c mX7_advance D cA ad adV z0) (k4 : aM → Option aM) (hk4 : ∀ (mm : aM), aG p l e { frames := 0, cells := 0, slots := 0, locals := 0 } s m args below meth c D cA ad z0 mX7_advance al0 rM (k4 mm) 4 [(0, .inr (.inr (.inl (some 1))))] [] mm)  (mm : aM) : aG p l e { frames := 0, cells := 0, slots := 0, locals := 0 } s m args below meth c D cA ad z0 mX7_advance al0 rM (Tape_advance_23 k4 mm) 23 [(0, .inr (.inr (.inl (some 1))))] [] mm := by
  unfold Tape_advance_23
  refine gl (i' := 24) (fun _ _ => aw_aload_n K (dOf ck_mX7_advance rfl rfl) rfl) ?_
  refine gl (i' := 25) (fun _ _ => aw_dup K rfl (dOf ck_mX7_advance rfl rfl)) ?_
  refine gl (i' := 26) (fun _ _ => aw_getf K (dOf ck_mX7_advance rfl rfl) rfl rfl (Nat.le_of_ble_eq_true rfl) wd_281 (k := 5) rfl) ?_
  refine gl (i' := 27) (fun _ _ => aw_iconst K (n := 1) (i32 _ rfl) (dOf ck_mX7_advance rfl rfl)) ?_
  refine gl (i' := 28) (fun _ _ => aw_iadd K (dOf ck_mX7_advance rfl rfl)) ?_
  refine g_st1 ?_
  refine gl (i' := 29) (fun _ _ => aw_putf K (dOf ck_mX7_advance rfl rfl) rfl rfl (Nat.le_of_ble_eq_true rfl) wd_281 (k := 5) rfl rfl (Or.inl rfl)) ?_
  refine g_goto K (dOf ck_mX7_advance rfl rfl).1 (t := 4) (aJ_of (by decide +kernel)) ?_
  refine g_sub [0] rfl ?_
  exact hk4 _
def Tape_advance_4  : Nat → aM → Option aM
  | 0, _ => none
  | n + 1, mm => if (mm 1 5) < (mm 1 2) then (if 0 ≤ (mm 1 5) ∧ (mm 1 5) < 500 then (if (mm 2 (mm 1 5).toNat) = 32 then (Tape_advance_23 (Tape_advance_4 n) mm) else (if (mm 2 (mm 1 5).toNat) = 10 then (Tape_advance_23 (Tape_advance_4 n) mm) else (Tape_advance_30 mm))) else none) else (Tape_advance_30 mm)
set_option maxHeartbeats 4000000 in
theorem lk_Tape_advance_4 {p : Program} {l : Launch} {e : Env} {s : State} {m : MethodId} {args : Array Value} {below : List Frame} {meth : Method} {c : Code} {D : va_G} {cA : FieldType → ClassId} {ad adV : Nat → Nat} {z0 : Nat} {al0 : List Nat} (K : aK p s m args meth c mX7_advance D cA ad adV z0)   : ∀ (n : Nat) (mm : aM), aG p l e { frames := 0, cells := 0, slots := 0, locals := 0 } s m args below meth c D cA ad z0 mX7_advance al0 rM (Tape_advance_4 n mm) 4 [(0, .inr (.inr (.inl (some 1))))] [] mm := by
  intro n
  induction n with
  | zero => intro mm; exact g_none
  | succ n ih =>
    intro mm
    rw [Tape_advance_4]
    refine gl (i' := 5) (fun _ _ => aw_aload_n K (dOf ck_mX7_advance rfl rfl) rfl) ?_
    refine gl (i' := 6) (fun _ _ => aw_getf K (dOf ck_mX7_advance rfl rfl) rfl rfl (Nat.le_of_ble_eq_true rfl) wd_281 (k := 5) rfl) ?_
    refine gl (i' := 7) (fun _ _ => aw_aload_n K (dOf ck_mX7_advance rfl rfl) rfl) ?_
    refine gl (i' := 8) (fun _ _ => aw_getf K (dOf ck_mX7_advance rfl rfl) rfl rfl (Nat.le_of_ble_eq_true rfl) wd_277 (k := 2) rfl) ?_
    refine g_icmp_ge K (dOf ck_mX7_advance rfl rfl) (t := 30) (aJ_of (by decide +kernel)) (fun h2 => ?_) (fun h2 => ?_)
    · refine gl (i' := 10) (fun _ _ => aw_aload_n K (dOf ck_mX7_advance rfl rfl) rfl) ?_
      refine gl (i' := 11) (fun _ _ => aw_getf K (dOf ck_mX7_advance rfl rfl) rfl rfl (Nat.le_of_ble_eq_true rfl) wd_274 (k := 0) rfl) ?_
      refine gl (i' := 12) (fun _ _ => aw_aload_n K (dOf ck_mX7_advance rfl rfl) rfl) ?_
      refine gl (i' := 13) (fun _ _ => aw_getf K (dOf ck_mX7_advance rfl rfl) rfl rfl (Nat.le_of_ble_eq_true rfl) wd_281 (k := 5) rfl) ?_
      refine g_gd (fun hb25 => ?_)
      refine gl (i' := 14) (fun _ _ => aw_bald K (dOf ck_mX7_advance rfl rfl) rfl hb25) ?_
      refine gl (i' := 15) (fun _ _ => aw_bip K (dOf ck_mX7_advance rfl rfl) (v := 32) rfl) ?_
      refine g_icmp_eq K (dOf ck_mX7_advance rfl rfl) (t := 23) (aJ_of (by decide +kernel)) (fun h26 => ?_) (fun h26 => ?_)
      · refine g_sub [0] rfl ?_
        exact lk_Tape_advance_23 K _ ih _
      · refine gl (i' := 17) (fun _ _ => aw_aload_n K (dOf ck_mX7_advance rfl rfl) rfl) ?_
        refine gl (i' := 18) (fun _ _ => aw_getf K (dOf ck_mX7_advance rfl rfl) rfl rfl (Nat.le_of_ble_eq_true rfl) wd_274 (k := 0) rfl) ?_
        refine gl (i' := 19) (fun _ _ => aw_aload_n K (dOf ck_mX7_advance rfl rfl) rfl) ?_
        refine gl (i' := 20) (fun _ _ => aw_getf K (dOf ck_mX7_advance rfl rfl) rfl rfl (Nat.le_of_ble_eq_true rfl) wd_281 (k := 5) rfl) ?_
        refine gl (i' := 21) (fun _ _ => aw_bald K (dOf ck_mX7_advance rfl rfl) rfl hb25) ?_
        refine gl (i' := 22) (fun _ _ => aw_bip K (dOf ck_mX7_advance rfl rfl) (v := 10) rfl) ?_
        refine g_icmp_ne K (dOf ck_mX7_advance rfl rfl) (t := 30) (aJ_of (by decide +kernel)) (fun h28 => ?_) (fun h28 => ?_)
        · refine g_sub [0] rfl ?_
          exact lk_Tape_advance_23 K _ ih _
        · refine g_sub [0] rfl ?_
          exact lk_Tape_advance_30 K _
    · refine g_sub [0] rfl ?_
      exact lk_Tape_advance_30 K _
def Tape_advance  (mm : aM) : Option aM := st1 (aup mm 1 5 (mm 1 6)) fun mm1 => (Tape_advance_4 FU mm1)
set_option maxHeartbeats 4000000 in
theorem met_Tape_advance {l : Launch} {D : va_G} {cA : FieldType → ClassId} {ad adV : Nat → Nat} {z0 : Nat}  {mm : aM}  {r : aM} (h : Tape_advance  mm = some r) : aMet l D cA ad adV z0 mX7_advance 0 0 0 0 [.inr (.inr (.inl (some 1)))] SH mm (rM r).1 SH (rM r).2 := by
  refine aMet_ofG (by decide +kernel) rfl (Nat.le_of_ble_eq_true rfl) h (fun p e s m args below meth c al0 K => ?_)
  unfold Tape_advance
  refine gl (i' := 1) (fun _ _ => aw_aload_n K (dOf ck_mX7_advance rfl rfl) rfl) ?_
  refine gl (i' := 2) (fun _ _ => aw_aload_n K (dOf ck_mX7_advance rfl rfl) rfl) ?_
  refine gl (i' := 3) (fun _ _ => aw_getf K (dOf ck_mX7_advance rfl rfl) rfl rfl (Nat.le_of_ble_eq_true rfl) wd_282 (k := 6) rfl) ?_
  refine g_st1 ?_
  refine gl (i' := 4) (fun _ _ => aw_putf K (dOf ck_mX7_advance rfl rfl) rfl rfl (Nat.le_of_ble_eq_true rfl) wd_281 (k := 5) rfl rfl (Or.inl rfl)) ?_
  refine g_sub [0] rfl ?_
  exact lk_Tape_advance_4 K FU _
def Tape_fail (x1 : Int) (mm : aM) : Option aM := if (mm 1 7) = 0 then (st1 (aup mm 1 7 x1) fun mm2 => (st1 (aup mm2 1 8 (mm2 1 5)) fun mm3 => (some mm3))) else (some mm)
set_option maxHeartbeats 4000000 in
theorem met_Tape_fail {l : Launch} {D : va_G} {cA : FieldType → ClassId} {ad adV : Nat → Nat} {z0 : Nat} {x1 : Int} {mm : aM}  {r : aM} (h : Tape_fail x1 mm = some r) : aMet l D cA ad adV z0 mX7_fail 0 0 0 0 [.inr (.inr (.inl (some 1))), .inl x1] SH mm (rM r).1 SH (rM r).2 := by
  refine aMet_ofG (by decide +kernel) rfl (Nat.le_of_ble_eq_true rfl) h (fun p e s m args below meth c al0 K => ?_)
  unfold Tape_fail
  refine gl (i' := 1) (fun _ _ => aw_aload_n K (dOf ck_mX7_fail rfl rfl) rfl) ?_
  refine gl (i' := 2) (fun _ _ => aw_getf K (dOf ck_mX7_fail rfl rfl) rfl rfl (Nat.le_of_ble_eq_true rfl) wd_284 (k := 7) rfl) ?_
  refine g_if_ne K (dOf ck_mX7_fail rfl rfl) (t := 10) (aJ_of (by decide +kernel)) (fun h1 => ?_) (fun h1 => ?_)
  · refine gl (i' := 4) (fun _ _ => aw_aload_n K (dOf ck_mX7_fail rfl rfl) rfl) ?_
    refine gl (i' := 5) (fun _ _ => aw_iload_n K (dOf ck_mX7_fail rfl rfl) rfl) ?_
    refine g_st1 ?_
    refine gl (i' := 6) (fun _ _ => aw_putf K (dOf ck_mX7_fail rfl rfl) rfl rfl (Nat.le_of_ble_eq_true rfl) wd_284 (k := 7) rfl rfl (Or.inl rfl)) ?_
    refine gl (i' := 7) (fun _ _ => aw_aload_n K (dOf ck_mX7_fail rfl rfl) rfl) ?_
    refine gl (i' := 8) (fun _ _ => aw_aload_n K (dOf ck_mX7_fail rfl rfl) rfl) ?_
    refine gl (i' := 9) (fun _ _ => aw_getf K (dOf ck_mX7_fail rfl rfl) rfl rfl (Nat.le_of_ble_eq_true rfl) wd_281 (k := 5) rfl) ?_
    refine g_st1 ?_
    refine gl (i' := 10) (fun _ _ => aw_putf K (dOf ck_mX7_fail rfl rfl) rfl rfl (Nat.le_of_ble_eq_true rfl) wd_285 (k := 8) rfl rfl (Or.inl rfl)) ?_
    exact g_vret K (by decide +kernel) rfl rfl
  · exact g_vret K (by decide +kernel) rfl rfl
def Tape_isNamed_12 (mm : aM) (x1 : Nat) : Nat → Int → Option Int
  | 0, _ => none
  | n + 1, x2 => if x1 < 10 then ((sLen x1).bind fun r4 => (if x2 < r4 then (if 0 ≤ (w32 ((mm 1 5) + x2)) ∧ (w32 ((mm 1 5) + x2)) < 500 then ((sChr x1 x2).bind fun r8 => (if (mm 2 (w32 ((mm 1 5) + x2)).toNat) = r8 then (Tape_isNamed_12 mm x1 n (w32 (x2 + 1))) else (some 0))) else none) else (some 1))) else none
set_option maxHeartbeats 4000000 in
theorem lk_Tape_isNamed_12 {p : Program} {l : Launch} {e : Env} {s : State} {m : MethodId} {args : Array Value} {below : List Frame} {meth : Method} {c : Code} {D : va_G} {cA : FieldType → ClassId} {ad adV : Nat → Nat} {z0 : Nat} {al0 : List Nat} {mm : aM} (K : aK p s m args meth c mX7_isNamed D cA ad adV z0) (x1 : Nat)  : ∀ (n : Nat) (x2 : Int), aG p l e { frames := 4, cells := 0, slots := 0, locals := 85 } s m args below meth c D cA ad z0 mX7_isNamed al0 (rI mm) (Tape_isNamed_12 mm x1 n x2) 12 [(0, .inr (.inr (.inl (some 1)))), (1, .inr (.inr (.inr x1))), (2, .inl x2)] [] mm := by
  intro n
  induction n with
  | zero => intro x2; exact g_none
  | succ n ih =>
    intro x2
    rw [Tape_isNamed_12]
    refine gl (i' := 13) (fun _ _ => aw_iload_n K (dOf ck_mX7_isNamed rfl rfl) rfl) ?_
    refine gl (i' := 14) (fun _ _ => aw_sload_n K (dOf ck_mX7_isNamed rfl rfl) rfl) ?_
    refine g_gd (fun hb5 => ?_)
    refine g_callTI K [] rfl (dOf ck_mX7_isNamed rfl rfl) al_OneBreath_Tape_187 hb5 ⟨wd_512, wd_513⟩ rfl (Nat.le_of_ble_eq_true rfl) ⟨Nat.le_of_ble_eq_true rfl, Nat.le_of_ble_eq_true rfl⟩ (fun b hb => met_strLen hb5 hb) (fun r4 hr4 => ?_)
    refine g_icmp_ge K (dOf ck_mX7_isNamed rfl rfl) (t := 31) (aJ_of (by decide +kernel)) (fun h6 => ?_) (fun h6 => ?_)
    · refine gl (i' := 17) (fun _ _ => aw_aload_n K (dOf ck_mX7_isNamed rfl rfl) rfl) ?_
      refine gl (i' := 18) (fun _ _ => aw_getf K (dOf ck_mX7_isNamed rfl rfl) rfl rfl (Nat.le_of_ble_eq_true rfl) wd_274 (k := 0) rfl) ?_
      refine gl (i' := 19) (fun _ _ => aw_aload_n K (dOf ck_mX7_isNamed rfl rfl) rfl) ?_
      refine gl (i' := 20) (fun _ _ => aw_getf K (dOf ck_mX7_isNamed rfl rfl) rfl rfl (Nat.le_of_ble_eq_true rfl) wd_281 (k := 5) rfl) ?_
      refine gl (i' := 21) (fun _ _ => aw_iload_n K (dOf ck_mX7_isNamed rfl rfl) rfl) ?_
      refine gl (i' := 22) (fun _ _ => aw_iadd K (dOf ck_mX7_isNamed rfl rfl)) ?_
      refine g_gd (fun hb7 => ?_)
      refine gl (i' := 23) (fun _ _ => aw_bald K (dOf ck_mX7_isNamed rfl rfl) rfl hb7) ?_
      refine gl (i' := 24) (fun _ _ => aw_sload_n K (dOf ck_mX7_isNamed rfl rfl) rfl) ?_
      refine gl (i' := 25) (fun _ _ => aw_iload_n K (dOf ck_mX7_isNamed rfl rfl) rfl) ?_
      refine g_callTI K [.inl _] rfl (dOf ck_mX7_isNamed rfl rfl) al_OneBreath_Tape_191 hb5 ⟨wd_521, wd_522⟩ rfl (Nat.le_of_ble_eq_true rfl) ⟨Nat.le_of_ble_eq_true rfl, Nat.le_of_ble_eq_true rfl⟩ (fun b hb => met_charAt hb5 hb) (fun r8 hr8 => ?_)
      refine g_icmp_eq K (dOf ck_mX7_isNamed rfl rfl) (t := 29) (aJ_of (by decide +kernel)) (fun h9 => ?_) (fun h9 => ?_)
      · refine gl (i' := 30) (fun _ _ => aw_iinc K (dOf ck_mX7_isNamed rfl rfl) (Nat.le_of_ble_eq_true rfl) rfl) ?_
        refine g_lv (lv' := [(2, .inl _), (0, .inr (.inr (.inl (some _)))), (1, .inr (.inr (.inr _)))]) rfl ?_
        refine g_goto K (dOf ck_mX7_isNamed rfl rfl).1 (t := 12) (aJ_of (by decide +kernel)) ?_
        refine g_sub [1, 2, 0] rfl ?_
        exact ih _
      · refine gl (i' := 28) (fun _ _ => aw_iconst K (n := 0) (i32 _ rfl) (dOf ck_mX7_isNamed rfl rfl)) ?_
        exact g_iret K (dOf ck_mX7_isNamed rfl rfl).1 rfl (Or.inr (Or.inl ⟨rfl, Or.inl rfl⟩)) rfl
    · refine gl (i' := 32) (fun _ _ => aw_iconst K (n := 1) (i32 _ rfl) (dOf ck_mX7_isNamed rfl rfl)) ?_
      exact g_iret K (by decide +kernel) rfl (Or.inr (Or.inl ⟨rfl, Or.inr rfl⟩)) rfl
def Tape_isNamed (x1 : Nat) (mm : aM) : Option Int := if x1 < 10 then ((sLen x1).bind fun r1 => (if (w32 ((mm 1 6) - (mm 1 5))) = r1 then (Tape_isNamed_12 mm x1 FU 0) else (some 0))) else none
set_option maxHeartbeats 4000000 in
theorem met_Tape_isNamed {l : Launch} {D : va_G} {cA : FieldType → ClassId} {ad adV : Nat → Nat} {z0 : Nat} {x1 : Nat} {mm : aM}  {r : Int} (h : Tape_isNamed x1 mm = some r) : aMet l D cA ad adV z0 mX7_isNamed 4 85 0 0 [.inr (.inr (.inl (some 1))), .inr (.inr (.inr x1))] SH mm ((rI mm) r).1 SH ((rI mm) r).2 := by
  refine aMet_ofG (by decide +kernel) rfl (Nat.le_of_ble_eq_true rfl) h (fun p e s m args below meth c al0 K => ?_)
  unfold Tape_isNamed
  refine gl (i' := 1) (fun _ _ => aw_aload_n K (dOf ck_mX7_isNamed rfl rfl) rfl) ?_
  refine gl (i' := 2) (fun _ _ => aw_getf K (dOf ck_mX7_isNamed rfl rfl) rfl rfl (Nat.le_of_ble_eq_true rfl) wd_282 (k := 6) rfl) ?_
  refine gl (i' := 3) (fun _ _ => aw_aload_n K (dOf ck_mX7_isNamed rfl rfl) rfl) ?_
  refine gl (i' := 4) (fun _ _ => aw_getf K (dOf ck_mX7_isNamed rfl rfl) rfl rfl (Nat.le_of_ble_eq_true rfl) wd_281 (k := 5) rfl) ?_
  refine gl (i' := 5) (fun _ _ => aw_isub K (dOf ck_mX7_isNamed rfl rfl)) ?_
  refine gl (i' := 6) (fun _ _ => aw_sload_n K (dOf ck_mX7_isNamed rfl rfl) rfl) ?_
  refine g_gd (fun hb2 => ?_)
  refine g_callTI K [] rfl (dOf ck_mX7_isNamed rfl rfl) al_OneBreath_Tape_187 hb2 ⟨wd_512, wd_513⟩ rfl (Nat.le_of_ble_eq_true rfl) ⟨Nat.le_of_ble_eq_true rfl, Nat.le_of_ble_eq_true rfl⟩ (fun b hb => met_strLen hb2 hb) (fun r1 hr1 => ?_)
  refine g_icmp_eq K (dOf ck_mX7_isNamed rfl rfl) (t := 10) (aJ_of (by decide +kernel)) (fun h3 => ?_) (fun h3 => ?_)
  · refine gl (i' := 11) (fun _ _ => aw_iconst K (n := 0) (i32 _ rfl) (dOf ck_mX7_isNamed rfl rfl)) ?_
    refine gl (i' := 12) (fun _ _ => aw_istore_n K (dOf ck_mX7_isNamed rfl rfl) (Nat.le_of_ble_eq_true rfl)) ?_
    refine g_lv (lv' := [(2, .inl _), (0, .inr (.inr (.inl (some _)))), (1, .inr (.inr (.inr _)))]) rfl ?_
    refine g_sub [1, 2, 0] rfl ?_
    exact lk_Tape_isNamed_12 K _ FU _
  · refine gl (i' := 9) (fun _ _ => aw_iconst K (n := 0) (i32 _ rfl) (dOf ck_mX7_isNamed rfl rfl)) ?_
    exact g_iret K (dOf ck_mX7_isNamed rfl rfl).1 rfl (Or.inr (Or.inl ⟨rfl, Or.inl rfl⟩)) rfl
def Tape_wants_20 (mm : aM) : Option (Int × aM) := if (mm 1 7) = 0 then (some (1, mm)) else (some (0, mm))
set_option maxHeartbeats 4000000 in
theorem lk_Tape_wants_20 {p : Program} {l : Launch} {e : Env} {s : State} {m : MethodId} {args : Array Value} {below : List Frame} {meth : Method} {c : Code} {D : va_G} {cA : FieldType → ClassId} {ad adV : Nat → Nat} {z0 : Nat} {al0 : List Nat} (K : aK p s m args meth c mX7_wants D cA ad adV z0)   (mm : aM) : aG p l e { frames := 1, cells := 0, slots := 0, locals := 21 } s m args below meth c D cA ad z0 mX7_wants al0 rIM (Tape_wants_20 mm) 20 [(0, .inr (.inr (.inl (some 1))))] [] mm := by
  unfold Tape_wants_20
  refine gl (i' := 21) (fun _ _ => aw_aload_n K (dOf ck_mX7_wants rfl rfl) rfl) ?_
  refine gl (i' := 22) (fun _ _ => aw_getf K (dOf ck_mX7_wants rfl rfl) rfl rfl (Nat.le_of_ble_eq_true rfl) wd_284 (k := 7) rfl) ?_
  refine g_if_ne K (dOf ck_mX7_wants rfl rfl) (t := 25) (aJ_of (by decide +kernel)) (fun h4 => ?_) (fun h4 => ?_)
  · refine gl (i' := 24) (fun _ _ => aw_iconst K (n := 1) (i32 _ rfl) (dOf ck_mX7_wants rfl rfl)) ?_
    refine g_goto K (dOf ck_mX7_wants rfl rfl).1 (t := 26) (aJ_of (by decide +kernel)) ?_
    exact g_iret K (by decide +kernel) rfl (Or.inr (Or.inl ⟨rfl, Or.inr rfl⟩)) rfl
  · refine gl (i' := 26) (fun _ _ => aw_iconst K (n := 0) (i32 _ rfl) (dOf ck_mX7_wants rfl rfl)) ?_
    exact g_iret K (by decide +kernel) rfl (Or.inr (Or.inl ⟨rfl, Or.inl rfl⟩)) rfl
def Tape_wants_19 (s0 : Int) (mm : aM) : Option (Int × aM) := (Tape_fail s0 mm).bind fun r6 => (Tape_wants_20 r6)
set_option maxHeartbeats 4000000 in
theorem lk_Tape_wants_19 {p : Program} {l : Launch} {e : Env} {s : State} {m : MethodId} {args : Array Value} {below : List Frame} {meth : Method} {c : Code} {D : va_G} {cA : FieldType → ClassId} {ad adV : Nat → Nat} {z0 : Nat} {al0 : List Nat} (K : aK p s m args meth c mX7_wants D cA ad adV z0)   (s0 : Int) (mm : aM) : aG p l e { frames := 1, cells := 0, slots := 0, locals := 21 } s m args below meth c D cA ad z0 mX7_wants al0 rIM (Tape_wants_19 s0 mm) 19 [(0, .inr (.inr (.inl (some 1))))] [.inl s0, .inr (.inr (.inl (some 1)))] mm := by
  unfold Tape_wants_19
  refine g_callVM K [.inl _] rfl (dOf ck_mX7_wants rfl rfl) al_OneBreath_Tape_74 rfl rfl ⟨wd_506, wd_2⟩ rfl (Nat.le_of_ble_eq_true rfl) ⟨Nat.le_of_ble_eq_true rfl, Nat.le_of_ble_eq_true rfl⟩ (fun b hb => met_Tape_fail  hb) (fun r6 hr6 => ?_)
  refine g_sub [0] rfl ?_
  exact lk_Tape_wants_20 K _
def Tape_wants (x1 : Int) (mm : aM) : Option (Int × aM) := if (mm 1 7) = 0 then ((Tape_advance mm).bind fun r2 => (if (r2 1 4) = x1 then (Tape_wants_20 r2) else (if (r2 1 4) = 4 then (Tape_wants_19 1 r2) else (Tape_wants_19 2 r2)))) else (some (0, mm))
set_option maxHeartbeats 4000000 in
theorem met_Tape_wants {l : Launch} {D : va_G} {cA : FieldType → ClassId} {ad adV : Nat → Nat} {z0 : Nat} {x1 : Int} {mm : aM}  {r : Int × aM} (h : Tape_wants x1 mm = some r) : aMet l D cA ad adV z0 mX7_wants 1 21 0 0 [.inr (.inr (.inl (some 1))), .inl x1] SH mm (rIM r).1 SH (rIM r).2 := by
  refine aMet_ofG (by decide +kernel) rfl (Nat.le_of_ble_eq_true rfl) h (fun p e s m args below meth c al0 K => ?_)
  unfold Tape_wants
  refine gl (i' := 1) (fun _ _ => aw_aload_n K (dOf ck_mX7_wants rfl rfl) rfl) ?_
  refine gl (i' := 2) (fun _ _ => aw_getf K (dOf ck_mX7_wants rfl rfl) rfl rfl (Nat.le_of_ble_eq_true rfl) wd_284 (k := 7) rfl) ?_
  refine g_if_eq K (dOf ck_mX7_wants rfl rfl) (t := 5) (aJ_of (by decide +kernel)) (fun h1 => ?_) (fun h1 => ?_)
  · refine gl (i' := 6) (fun _ _ => aw_aload_n K (dOf ck_mX7_wants rfl rfl) rfl) ?_
    refine g_callVM K [] rfl (dOf ck_mX7_wants rfl rfl) al_OneBreath_Tape_58 rfl rfl ⟨wd_500, wd_0⟩ rfl (Nat.le_of_ble_eq_true rfl) ⟨Nat.le_of_ble_eq_true rfl, Nat.le_of_ble_eq_true rfl⟩ (fun b hb => met_Tape_advance  hb) (fun r2 hr2 => ?_)
    refine gl (i' := 8) (fun _ _ => aw_aload_n K (dOf ck_mX7_wants rfl rfl) rfl) ?_
    refine gl (i' := 9) (fun _ _ => aw_getf K (dOf ck_mX7_wants rfl rfl) rfl rfl (Nat.le_of_ble_eq_true rfl) wd_280 (k := 4) rfl) ?_
    refine gl (i' := 10) (fun _ _ => aw_iload_n K (dOf ck_mX7_wants rfl rfl) rfl) ?_
    refine g_icmp_eq K (dOf ck_mX7_wants rfl rfl) (t := 20) (aJ_of (by decide +kernel)) (fun h3 => ?_) (fun h3 => ?_)
    · refine g_sub [0] rfl ?_
      exact lk_Tape_wants_20 K _
    · refine gl (i' := 12) (fun _ _ => aw_aload_n K (dOf ck_mX7_wants rfl rfl) rfl) ?_
      refine gl (i' := 13) (fun _ _ => aw_aload_n K (dOf ck_mX7_wants rfl rfl) rfl) ?_
      refine gl (i' := 14) (fun _ _ => aw_getf K (dOf ck_mX7_wants rfl rfl) rfl rfl (Nat.le_of_ble_eq_true rfl) wd_280 (k := 4) rfl) ?_
      refine gl (i' := 15) (fun _ _ => aw_iconst K (n := 4) (i32 _ rfl) (dOf ck_mX7_wants rfl rfl)) ?_
      refine g_icmp_ne K (dOf ck_mX7_wants rfl rfl) (t := 18) (aJ_of (by decide +kernel)) (fun h5 => ?_) (fun h5 => ?_)
      · refine gl (i' := 17) (fun _ _ => aw_iconst K (n := 1) (i32 _ rfl) (dOf ck_mX7_wants rfl rfl)) ?_
        refine g_goto K (dOf ck_mX7_wants rfl rfl).1 (t := 19) (aJ_of (by decide +kernel)) ?_
        refine g_sub [0] rfl ?_
        exact lk_Tape_wants_19 K _ _
      · refine gl (i' := 19) (fun _ _ => aw_iconst K (n := 2) (i32 _ rfl) (dOf ck_mX7_wants rfl rfl)) ?_
        refine g_sub [0] rfl ?_
        exact lk_Tape_wants_19 K _ _
  · refine gl (i' := 4) (fun _ _ => aw_iconst K (n := 0) (i32 _ rfl) (dOf ck_mX7_wants rfl rfl)) ?_
    exact g_iret K (dOf ck_mX7_wants rfl rfl).1 rfl (Or.inr (Or.inl ⟨rfl, Or.inl rfl⟩)) rfl
def Tape_hasTwice_5 (mm : aM) : Nat → Int → Int → Option Int
  | 0, _, _ => none
  | n + 1, x1, x2 => if x2 < (mm 1 6) then (if 0 ≤ x2 ∧ x2 < 500 then (if (iand x1 (ishl 1 (w32 ((mm 2 x2.toNat) - 97)))) = 0 then (Tape_hasTwice_5 mm n (ior x1 (ishl 1 (w32 ((mm 2 x2.toNat) - 97)))) (w32 (x2 + 1))) else (some 1)) else none) else (some 0)
set_option maxHeartbeats 4000000 in
theorem lk_Tape_hasTwice_5 {p : Program} {l : Launch} {e : Env} {s : State} {m : MethodId} {args : Array Value} {below : List Frame} {meth : Method} {c : Code} {D : va_G} {cA : FieldType → ClassId} {ad adV : Nat → Nat} {z0 : Nat} {al0 : List Nat} {mm : aM} (K : aK p s m args meth c mX7_hasTwice D cA ad adV z0)   : ∀ (n : Nat) (x1 : Int) (x2 : Int), aG p l e { frames := 0, cells := 0, slots := 0, locals := 0 } s m args below meth c D cA ad z0 mX7_hasTwice al0 (rI mm) (Tape_hasTwice_5 mm n x1 x2) 5 [(0, .inr (.inr (.inl (some 1)))), (1, .inl x1), (2, .inl x2)] [] mm := by
  intro n
  induction n with
  | zero => intro x1 x2; exact g_none
  | succ n ih =>
    intro x1 x2
    rw [Tape_hasTwice_5]
    refine gl (i' := 6) (fun _ _ => aw_iload_n K (dOf ck_mX7_hasTwice rfl rfl) rfl) ?_
    refine gl (i' := 7) (fun _ _ => aw_aload_n K (dOf ck_mX7_hasTwice rfl rfl) rfl) ?_
    refine gl (i' := 8) (fun _ _ => aw_getf K (dOf ck_mX7_hasTwice rfl rfl) rfl rfl (Nat.le_of_ble_eq_true rfl) wd_282 (k := 6) rfl) ?_
    refine g_icmp_ge K (dOf ck_mX7_hasTwice rfl rfl) (t := 30) (aJ_of (by decide +kernel)) (fun h1 => ?_) (fun h1 => ?_)
    · refine gl (i' := 10) (fun _ _ => aw_iconst K (n := 1) (i32 _ rfl) (dOf ck_mX7_hasTwice rfl rfl)) ?_
      refine gl (i' := 11) (fun _ _ => aw_aload_n K (dOf ck_mX7_hasTwice rfl rfl) rfl) ?_
      refine gl (i' := 12) (fun _ _ => aw_getf K (dOf ck_mX7_hasTwice rfl rfl) rfl rfl (Nat.le_of_ble_eq_true rfl) wd_274 (k := 0) rfl) ?_
      refine gl (i' := 13) (fun _ _ => aw_iload_n K (dOf ck_mX7_hasTwice rfl rfl) rfl) ?_
      refine g_gd (fun hb2 => ?_)
      refine gl (i' := 14) (fun _ _ => aw_bald K (dOf ck_mX7_hasTwice rfl rfl) rfl hb2) ?_
      refine gl (i' := 15) (fun _ _ => aw_bip K (dOf ck_mX7_hasTwice rfl rfl) (v := 97) rfl) ?_
      refine gl (i' := 16) (fun _ _ => aw_isub K (dOf ck_mX7_hasTwice rfl rfl)) ?_
      refine gl (i' := 17) (fun _ _ => aw_ishl K (dOf ck_mX7_hasTwice rfl rfl)) ?_
      refine gl (i' := 18) (fun _ _ => aw_istore_n K (dOf ck_mX7_hasTwice rfl rfl) (Nat.le_of_ble_eq_true rfl)) ?_
      refine g_lv (lv' := [(3, .inl _), (0, .inr (.inr (.inl (some _)))), (1, .inl _), (2, .inl _)]) rfl ?_
      refine gl (i' := 19) (fun _ _ => aw_iload_n K (dOf ck_mX7_hasTwice rfl rfl) rfl) ?_
      refine gl (i' := 20) (fun _ _ => aw_iload_n K (dOf ck_mX7_hasTwice rfl rfl) rfl) ?_
      refine gl (i' := 21) (fun _ _ => aw_iand K (dOf ck_mX7_hasTwice rfl rfl)) ?_
      refine g_if_eq K (dOf ck_mX7_hasTwice rfl rfl) (t := 24) (aJ_of (by decide +kernel)) (fun h3 => ?_) (fun h3 => ?_)
      · refine gl (i' := 25) (fun _ _ => aw_iload_n K (dOf ck_mX7_hasTwice rfl rfl) rfl) ?_
        refine gl (i' := 26) (fun _ _ => aw_iload_n K (dOf ck_mX7_hasTwice rfl rfl) rfl) ?_
        refine gl (i' := 27) (fun _ _ => aw_ior K (dOf ck_mX7_hasTwice rfl rfl)) ?_
        refine gl (i' := 28) (fun _ _ => aw_istore_n K (dOf ck_mX7_hasTwice rfl rfl) (Nat.le_of_ble_eq_true rfl)) ?_
        refine g_lv (lv' := [(1, .inl _), (3, .inl _), (0, .inr (.inr (.inl (some _)))), (2, .inl _)]) rfl ?_
        refine gl (i' := 29) (fun _ _ => aw_iinc K (dOf ck_mX7_hasTwice rfl rfl) (Nat.le_of_ble_eq_true rfl) rfl) ?_
        refine g_lv (lv' := [(2, .inl _), (1, .inl _), (3, .inl _), (0, .inr (.inr (.inl (some _))))]) rfl ?_
        refine g_goto K (dOf ck_mX7_hasTwice rfl rfl).1 (t := 5) (aJ_of (by decide +kernel)) ?_
        refine g_sub [3, 1, 0] rfl ?_
        exact ih _ _
      · refine gl (i' := 23) (fun _ _ => aw_iconst K (n := 1) (i32 _ rfl) (dOf ck_mX7_hasTwice rfl rfl)) ?_
        exact g_iret K (dOf ck_mX7_hasTwice rfl rfl).1 rfl (Or.inr (Or.inl ⟨rfl, Or.inr rfl⟩)) rfl
    · refine gl (i' := 31) (fun _ _ => aw_iconst K (n := 0) (i32 _ rfl) (dOf ck_mX7_hasTwice rfl rfl)) ?_
      exact g_iret K (by decide +kernel) rfl (Or.inr (Or.inl ⟨rfl, Or.inl rfl⟩)) rfl
def Tape_hasTwice  (mm : aM) : Option Int := Tape_hasTwice_5 mm FU 0 (mm 1 5)
set_option maxHeartbeats 4000000 in
theorem met_Tape_hasTwice {l : Launch} {D : va_G} {cA : FieldType → ClassId} {ad adV : Nat → Nat} {z0 : Nat}  {mm : aM}  {r : Int} (h : Tape_hasTwice  mm = some r) : aMet l D cA ad adV z0 mX7_hasTwice 0 0 0 0 [.inr (.inr (.inl (some 1)))] SH mm ((rI mm) r).1 SH ((rI mm) r).2 := by
  refine aMet_ofG (by decide +kernel) rfl (Nat.le_of_ble_eq_true rfl) h (fun p e s m args below meth c al0 K => ?_)
  unfold Tape_hasTwice
  refine gl (i' := 1) (fun _ _ => aw_iconst K (n := 0) (i32 _ rfl) (dOf ck_mX7_hasTwice rfl rfl)) ?_
  refine gl (i' := 2) (fun _ _ => aw_istore_n K (dOf ck_mX7_hasTwice rfl rfl) (Nat.le_of_ble_eq_true rfl)) ?_
  refine g_lv (lv' := [(1, .inl _), (0, .inr (.inr (.inl (some _))))]) rfl ?_
  refine gl (i' := 3) (fun _ _ => aw_aload_n K (dOf ck_mX7_hasTwice rfl rfl) rfl) ?_
  refine gl (i' := 4) (fun _ _ => aw_getf K (dOf ck_mX7_hasTwice rfl rfl) rfl rfl (Nat.le_of_ble_eq_true rfl) wd_281 (k := 5) rfl) ?_
  refine gl (i' := 5) (fun _ _ => aw_istore_n K (dOf ck_mX7_hasTwice rfl rfl) (Nat.le_of_ble_eq_true rfl)) ?_
  refine g_lv (lv' := [(2, .inl _), (1, .inl _), (0, .inr (.inr (.inl (some _))))]) rfl ?_
  refine g_sub [2, 1, 0] rfl ?_
  exact lk_Tape_hasTwice_5 K FU _ _
def Tape_readSounds_28 (mm : aM) : Option aM := (Tape_fail 3 mm).bind fun r5 => (some r5)
set_option maxHeartbeats 4000000 in
theorem lk_Tape_readSounds_28 {p : Program} {l : Launch} {e : Env} {s : State} {m : MethodId} {args : Array Value} {below : List Frame} {meth : Method} {c : Code} {D : va_G} {cA : FieldType → ClassId} {ad adV : Nat → Nat} {z0 : Nat} {al0 : List Nat} (K : aK p s m args meth c mX7_readSounds D cA ad adV z0)   (mm : aM) : aG p l e { frames := 2, cells := 0, slots := 0, locals := 42 } s m args below meth c D cA ad z0 mX7_readSounds al0 rM (Tape_readSounds_28 mm) 28 [(0, .inr (.inr (.inl (some 1))))] [] mm := by
  unfold Tape_readSounds_28
  refine gl (i' := 29) (fun _ _ => aw_aload_n K (dOf ck_mX7_readSounds rfl rfl) rfl) ?_
  refine gl (i' := 30) (fun _ _ => aw_iconst K (n := 3) (i32 _ rfl) (dOf ck_mX7_readSounds rfl rfl)) ?_
  refine g_callVM K [.inl _] rfl (dOf ck_mX7_readSounds rfl rfl) al_OneBreath_Tape_74 rfl rfl ⟨wd_506, wd_2⟩ rfl (Nat.le_of_ble_eq_true rfl) ⟨Nat.le_of_ble_eq_true rfl, Nat.le_of_ble_eq_true rfl⟩ (fun b hb => met_Tape_fail  hb) (fun r5 hr5 => ?_)
  exact g_vret K (dOf ck_mX7_readSounds rfl rfl).1 rfl rfl
def Tape_readSounds_34 (x1 : Int) : Nat → Int → aM → Option aM
  | 0, _, _ => none
  | n + 1, x2, mm => if x2 < x1 then (if 0 ≤ (w32 ((mm 1 5) + x2)) ∧ (w32 ((mm 1 5) + x2)) < 500 then (if 0 ≤ x2 ∧ x2 < 8 then (st1 (aup mm 4 x2.toNat (w8 (mm 2 (w32 ((mm 1 5) + x2)).toNat))) fun mm13 => (Tape_readSounds_34 x1 n (w32 (x2 + 1)) mm13)) else none) else none) else (st1 (aup mm 3 1 x1) fun mm10 => (some mm10))
set_option maxHeartbeats 4000000 in
theorem lk_Tape_readSounds_34 {p : Program} {l : Launch} {e : Env} {s : State} {m : MethodId} {args : Array Value} {below : List Frame} {meth : Method} {c : Code} {D : va_G} {cA : FieldType → ClassId} {ad adV : Nat → Nat} {z0 : Nat} {al0 : List Nat} (K : aK p s m args meth c mX7_readSounds D cA ad adV z0) (x1 : Int)  : ∀ (n : Nat) (x2 : Int) (mm : aM), aG p l e { frames := 2, cells := 0, slots := 0, locals := 42 } s m args below meth c D cA ad z0 mX7_readSounds al0 rM (Tape_readSounds_34 x1 n x2 mm) 34 [(0, .inr (.inr (.inl (some 1)))), (1, .inl x1), (2, .inl x2)] [] mm := by
  intro n
  induction n with
  | zero => intro x2 mm; exact g_none
  | succ n ih =>
    intro x2 mm
    rw [Tape_readSounds_34]
    refine gl (i' := 35) (fun _ _ => aw_iload_n K (dOf ck_mX7_readSounds rfl rfl) rfl) ?_
    refine gl (i' := 36) (fun _ _ => aw_iload_n K (dOf ck_mX7_readSounds rfl rfl) rfl) ?_
    refine g_icmp_ge K (dOf ck_mX7_readSounds rfl rfl) (t := 51) (aJ_of (by decide +kernel)) (fun h9 => ?_) (fun h9 => ?_)
    · refine gl (i' := 38) (fun _ _ => aw_aload_n K (dOf ck_mX7_readSounds rfl rfl) rfl) ?_
      refine gl (i' := 39) (fun _ _ => aw_getf K (dOf ck_mX7_readSounds rfl rfl) rfl rfl (Nat.le_of_ble_eq_true rfl) wd_278 (k := 3) rfl) ?_
      refine gl (i' := 40) (fun _ _ => aw_getf K (dOf ck_mX7_readSounds rfl rfl) rfl rfl (Nat.le_of_ble_eq_true rfl) wd_218 (k := 6) rfl) ?_
      refine gl (i' := 41) (fun _ _ => aw_iload_n K (dOf ck_mX7_readSounds rfl rfl) rfl) ?_
      refine gl (i' := 42) (fun _ _ => aw_aload_n K (dOf ck_mX7_readSounds rfl rfl) rfl) ?_
      refine gl (i' := 43) (fun _ _ => aw_getf K (dOf ck_mX7_readSounds rfl rfl) rfl rfl (Nat.le_of_ble_eq_true rfl) wd_274 (k := 0) rfl) ?_
      refine gl (i' := 44) (fun _ _ => aw_aload_n K (dOf ck_mX7_readSounds rfl rfl) rfl) ?_
      refine gl (i' := 45) (fun _ _ => aw_getf K (dOf ck_mX7_readSounds rfl rfl) rfl rfl (Nat.le_of_ble_eq_true rfl) wd_281 (k := 5) rfl) ?_
      refine gl (i' := 46) (fun _ _ => aw_iload_n K (dOf ck_mX7_readSounds rfl rfl) rfl) ?_
      refine gl (i' := 47) (fun _ _ => aw_iadd K (dOf ck_mX7_readSounds rfl rfl)) ?_
      refine g_gd (fun hb11 => ?_)
      refine gl (i' := 48) (fun _ _ => aw_bald K (dOf ck_mX7_readSounds rfl rfl) rfl hb11) ?_
      refine g_gd (fun hb12 => ?_)
      refine g_st1 ?_
      refine gl (i' := 49) (fun _ _ => aw_bast K (dOf ck_mX7_readSounds rfl rfl) rfl hb12) ?_
      refine gl (i' := 50) (fun _ _ => aw_iinc K (dOf ck_mX7_readSounds rfl rfl) (Nat.le_of_ble_eq_true rfl) rfl) ?_
      refine g_lv (lv' := [(2, .inl _), (0, .inr (.inr (.inl (some _)))), (1, .inl _)]) rfl ?_
      refine g_goto K (dOf ck_mX7_readSounds rfl rfl).1 (t := 34) (aJ_of (by decide +kernel)) ?_
      refine g_sub [1, 2, 0] rfl ?_
      exact ih _ _
    · refine gl (i' := 52) (fun _ _ => aw_aload_n K (dOf ck_mX7_readSounds rfl rfl) rfl) ?_
      refine gl (i' := 53) (fun _ _ => aw_getf K (dOf ck_mX7_readSounds rfl rfl) rfl rfl (Nat.le_of_ble_eq_true rfl) wd_278 (k := 3) rfl) ?_
      refine gl (i' := 54) (fun _ _ => aw_iload_n K (dOf ck_mX7_readSounds rfl rfl) rfl) ?_
      refine g_st1 ?_
      refine gl (i' := 55) (fun _ _ => aw_putf K (dOf ck_mX7_readSounds rfl rfl) rfl rfl (Nat.le_of_ble_eq_true rfl) wd_195 (k := 1) rfl rfl (Or.inl rfl)) ?_
      exact g_vret K (by decide +kernel) rfl rfl
def Tape_readSounds  (mm : aM) : Option aM := if 0 < (mm 3 1) then ((Tape_fail 4 mm).bind fun r14 => (some r14)) else ((Tape_wants 1 mm).bind fun r2 => (if r2.1 = 0 then (some r2.2) else (if (w32 ((r2.2 1 6) - (r2.2 1 5))) < 2 then (Tape_readSounds_28 r2.2) else (if 8 < (w32 ((r2.2 1 6) - (r2.2 1 5))) then (Tape_readSounds_28 r2.2) else ((Tape_hasTwice r2.2).bind fun r7 => (if r7 = 0 then (Tape_readSounds_34 (w32 ((r2.2 1 6) - (r2.2 1 5))) FU 0 r2.2) else (Tape_readSounds_28 r2.2)))))))
set_option maxHeartbeats 4000000 in
theorem met_Tape_readSounds {l : Launch} {D : va_G} {cA : FieldType → ClassId} {ad adV : Nat → Nat} {z0 : Nat}  {mm : aM}  {r : aM} (h : Tape_readSounds  mm = some r) : aMet l D cA ad adV z0 mX7_readSounds 2 42 0 0 [.inr (.inr (.inl (some 1)))] SH mm (rM r).1 SH (rM r).2 := by
  refine aMet_ofG (by decide +kernel) rfl (Nat.le_of_ble_eq_true rfl) h (fun p e s m args below meth c al0 K => ?_)
  unfold Tape_readSounds
  refine gl (i' := 1) (fun _ _ => aw_aload_n K (dOf ck_mX7_readSounds rfl rfl) rfl) ?_
  refine gl (i' := 2) (fun _ _ => aw_getf K (dOf ck_mX7_readSounds rfl rfl) rfl rfl (Nat.le_of_ble_eq_true rfl) wd_278 (k := 3) rfl) ?_
  refine gl (i' := 3) (fun _ _ => aw_getf K (dOf ck_mX7_readSounds rfl rfl) rfl rfl (Nat.le_of_ble_eq_true rfl) wd_195 (k := 1) rfl) ?_
  refine g_if_le K (dOf ck_mX7_readSounds rfl rfl) (t := 8) (aJ_of (by decide +kernel)) (fun h1 => ?_) (fun h1 => ?_)
  · refine gl (i' := 5) (fun _ _ => aw_aload_n K (dOf ck_mX7_readSounds rfl rfl) rfl) ?_
    refine gl (i' := 6) (fun _ _ => aw_iconst K (n := 4) (i32 _ rfl) (dOf ck_mX7_readSounds rfl rfl)) ?_
    refine g_callVM K [.inl _] rfl (dOf ck_mX7_readSounds rfl rfl) al_OneBreath_Tape_74 rfl rfl ⟨wd_506, wd_2⟩ rfl (Nat.le_of_ble_eq_true rfl) ⟨Nat.le_of_ble_eq_true rfl, Nat.le_of_ble_eq_true rfl⟩ (fun b hb => met_Tape_fail  hb) (fun r14 hr14 => ?_)
    exact g_vret K (dOf ck_mX7_readSounds rfl rfl).1 rfl rfl
  · refine gl (i' := 9) (fun _ _ => aw_aload_n K (dOf ck_mX7_readSounds rfl rfl) rfl) ?_
    refine gl (i' := 10) (fun _ _ => aw_iconst K (n := 1) (i32 _ rfl) (dOf ck_mX7_readSounds rfl rfl)) ?_
    refine g_callVIM K [.inl _] rfl (dOf ck_mX7_readSounds rfl rfl) al_OneBreath_Tape_67 rfl rfl ⟨wd_558, wd_5⟩ rfl (Nat.le_of_ble_eq_true rfl) ⟨Nat.le_of_ble_eq_true rfl, Nat.le_of_ble_eq_true rfl⟩ (fun b hb => met_Tape_wants  hb) (fun r2 hr2 => ?_)
    refine g_if_ne K (dOf ck_mX7_readSounds rfl rfl) (t := 13) (aJ_of (by decide +kernel)) (fun h3 => ?_) (fun h3 => ?_)
    · exact g_vret K (dOf ck_mX7_readSounds rfl rfl).1 rfl rfl
    · refine gl (i' := 14) (fun _ _ => aw_aload_n K (dOf ck_mX7_readSounds rfl rfl) rfl) ?_
      refine gl (i' := 15) (fun _ _ => aw_getf K (dOf ck_mX7_readSounds rfl rfl) rfl rfl (Nat.le_of_ble_eq_true rfl) wd_282 (k := 6) rfl) ?_
      refine gl (i' := 16) (fun _ _ => aw_aload_n K (dOf ck_mX7_readSounds rfl rfl) rfl) ?_
      refine gl (i' := 17) (fun _ _ => aw_getf K (dOf ck_mX7_readSounds rfl rfl) rfl rfl (Nat.le_of_ble_eq_true rfl) wd_281 (k := 5) rfl) ?_
      refine gl (i' := 18) (fun _ _ => aw_isub K (dOf ck_mX7_readSounds rfl rfl)) ?_
      refine gl (i' := 19) (fun _ _ => aw_istore_n K (dOf ck_mX7_readSounds rfl rfl) (Nat.le_of_ble_eq_true rfl)) ?_
      refine g_lv (lv' := [(1, .inl _), (0, .inr (.inr (.inl (some _))))]) rfl ?_
      refine gl (i' := 20) (fun _ _ => aw_iload_n K (dOf ck_mX7_readSounds rfl rfl) rfl) ?_
      refine gl (i' := 21) (fun _ _ => aw_iconst K (n := 2) (i32 _ rfl) (dOf ck_mX7_readSounds rfl rfl)) ?_
      refine g_icmp_lt K (dOf ck_mX7_readSounds rfl rfl) (t := 28) (aJ_of (by decide +kernel)) (fun h4 => ?_) (fun h4 => ?_)
      · refine g_sub [1] rfl ?_
        exact lk_Tape_readSounds_28 K _
      · refine gl (i' := 23) (fun _ _ => aw_iload_n K (dOf ck_mX7_readSounds rfl rfl) rfl) ?_
        refine gl (i' := 24) (fun _ _ => aw_bip K (dOf ck_mX7_readSounds rfl rfl) (v := 8) rfl) ?_
        refine g_icmp_gt K (dOf ck_mX7_readSounds rfl rfl) (t := 28) (aJ_of (by decide +kernel)) (fun h6 => ?_) (fun h6 => ?_)
        · refine g_sub [1] rfl ?_
          exact lk_Tape_readSounds_28 K _
        · refine gl (i' := 26) (fun _ _ => aw_aload_n K (dOf ck_mX7_readSounds rfl rfl) rfl) ?_
          refine g_callVI K [] rfl (dOf ck_mX7_readSounds rfl rfl) al_OneBreath_Tape_122 rfl rfl ⟨wd_561, wd_6⟩ rfl (Nat.le_of_ble_eq_true rfl) ⟨Nat.le_of_ble_eq_true rfl, Nat.le_of_ble_eq_true rfl⟩ (fun b hb => met_Tape_hasTwice  hb) (fun r7 hr7 => ?_)
          refine g_if_eq K (dOf ck_mX7_readSounds rfl rfl) (t := 32) (aJ_of (by decide +kernel)) (fun h8 => ?_) (fun h8 => ?_)
          · refine gl (i' := 33) (fun _ _ => aw_iconst K (n := 0) (i32 _ rfl) (dOf ck_mX7_readSounds rfl rfl)) ?_
            refine gl (i' := 34) (fun _ _ => aw_istore_n K (dOf ck_mX7_readSounds rfl rfl) (Nat.le_of_ble_eq_true rfl)) ?_
            refine g_lv (lv' := [(2, .inl _), (1, .inl _), (0, .inr (.inr (.inl (some _))))]) rfl ?_
            refine g_sub [2, 1, 0] rfl ?_
            exact lk_Tape_readSounds_34 K _ FU _ _
          · refine g_sub [1] rfl ?_
            exact lk_Tape_readSounds_28 K _
def Tape_wantNumber_11 (x1 : Int) : Nat → Int → Int → aM → Option (Int × aM)
  | 0, _, _, _ => none
  | n + 1, x2, x3, mm => if x3 < (mm 1 6) then (if 0 ≤ x3 ∧ x3 < 500 then (Tape_wantNumber_11 x1 n (w32 ((w32 (x2 * 10)) + (w32 ((mm 2 x3.toNat) - 48)))) (w32 (x3 + 1)) mm) else none) else (if x1 < x2 then ((Tape_fail 3 mm).bind fun r5 => (some (0, r5))) else (some (x2, mm)))
set_option maxHeartbeats 4000000 in
theorem lk_Tape_wantNumber_11 {p : Program} {l : Launch} {e : Env} {s : State} {m : MethodId} {args : Array Value} {below : List Frame} {meth : Method} {c : Code} {D : va_G} {cA : FieldType → ClassId} {ad adV : Nat → Nat} {z0 : Nat} {al0 : List Nat} (K : aK p s m args meth c mX7_wantNumber D cA ad adV z0) (x1 : Int)  : ∀ (n : Nat) (x2 : Int) (x3 : Int) (mm : aM), aG p l e { frames := 2, cells := 0, slots := 0, locals := 42 } s m args below meth c D cA ad z0 mX7_wantNumber al0 rIM (Tape_wantNumber_11 x1 n x2 x3 mm) 11 [(0, .inr (.inr (.inl (some 1)))), (1, .inl x1), (2, .inl x2), (3, .inl x3)] [] mm := by
  intro n
  induction n with
  | zero => intro x2 x3 mm; exact g_none
  | succ n ih =>
    intro x2 x3 mm
    rw [Tape_wantNumber_11]
    refine gl (i' := 12) (fun _ _ => aw_iload_n K (dOf ck_mX7_wantNumber rfl rfl) rfl) ?_
    refine gl (i' := 13) (fun _ _ => aw_aload_n K (dOf ck_mX7_wantNumber rfl rfl) rfl) ?_
    refine gl (i' := 14) (fun _ _ => aw_getf K (dOf ck_mX7_wantNumber rfl rfl) rfl rfl (Nat.le_of_ble_eq_true rfl) wd_282 (k := 6) rfl) ?_
    refine g_icmp_ge K (dOf ck_mX7_wantNumber rfl rfl) (t := 28) (aJ_of (by decide +kernel)) (fun h3 => ?_) (fun h3 => ?_)
    · refine gl (i' := 16) (fun _ _ => aw_iload_n K (dOf ck_mX7_wantNumber rfl rfl) rfl) ?_
      refine gl (i' := 17) (fun _ _ => aw_bip K (dOf ck_mX7_wantNumber rfl rfl) (v := 10) rfl) ?_
      refine gl (i' := 18) (fun _ _ => aw_imul K (dOf ck_mX7_wantNumber rfl rfl)) ?_
      refine gl (i' := 19) (fun _ _ => aw_aload_n K (dOf ck_mX7_wantNumber rfl rfl) rfl) ?_
      refine gl (i' := 20) (fun _ _ => aw_getf K (dOf ck_mX7_wantNumber rfl rfl) rfl rfl (Nat.le_of_ble_eq_true rfl) wd_274 (k := 0) rfl) ?_
      refine gl (i' := 21) (fun _ _ => aw_iload_n K (dOf ck_mX7_wantNumber rfl rfl) rfl) ?_
      refine g_gd (fun hb6 => ?_)
      refine gl (i' := 22) (fun _ _ => aw_bald K (dOf ck_mX7_wantNumber rfl rfl) rfl hb6) ?_
      refine gl (i' := 23) (fun _ _ => aw_bip K (dOf ck_mX7_wantNumber rfl rfl) (v := 48) rfl) ?_
      refine gl (i' := 24) (fun _ _ => aw_isub K (dOf ck_mX7_wantNumber rfl rfl)) ?_
      refine gl (i' := 25) (fun _ _ => aw_iadd K (dOf ck_mX7_wantNumber rfl rfl)) ?_
      refine gl (i' := 26) (fun _ _ => aw_istore_n K (dOf ck_mX7_wantNumber rfl rfl) (Nat.le_of_ble_eq_true rfl)) ?_
      refine g_lv (lv' := [(2, .inl _), (0, .inr (.inr (.inl (some _)))), (1, .inl _), (3, .inl _)]) rfl ?_
      refine gl (i' := 27) (fun _ _ => aw_iinc K (dOf ck_mX7_wantNumber rfl rfl) (Nat.le_of_ble_eq_true rfl) rfl) ?_
      refine g_lv (lv' := [(3, .inl _), (2, .inl _), (0, .inr (.inr (.inl (some _)))), (1, .inl _)]) rfl ?_
      refine g_goto K (dOf ck_mX7_wantNumber rfl rfl).1 (t := 11) (aJ_of (by decide +kernel)) ?_
      refine g_sub [2, 3, 1, 0] rfl ?_
      exact ih _ _ _
    · refine gl (i' := 29) (fun _ _ => aw_iload_n K (dOf ck_mX7_wantNumber rfl rfl) rfl) ?_
      refine gl (i' := 30) (fun _ _ => aw_iload_n K (dOf ck_mX7_wantNumber rfl rfl) rfl) ?_
      refine g_icmp_le K (dOf ck_mX7_wantNumber rfl rfl) (t := 36) (aJ_of (by decide +kernel)) (fun h4 => ?_) (fun h4 => ?_)
      · refine gl (i' := 32) (fun _ _ => aw_aload_n K (dOf ck_mX7_wantNumber rfl rfl) rfl) ?_
        refine gl (i' := 33) (fun _ _ => aw_iconst K (n := 3) (i32 _ rfl) (dOf ck_mX7_wantNumber rfl rfl)) ?_
        refine g_callVM K [.inl _] rfl (dOf ck_mX7_wantNumber rfl rfl) al_OneBreath_Tape_74 rfl rfl ⟨wd_506, wd_2⟩ rfl (Nat.le_of_ble_eq_true rfl) ⟨Nat.le_of_ble_eq_true rfl, Nat.le_of_ble_eq_true rfl⟩ (fun b hb => met_Tape_fail  hb) (fun r5 hr5 => ?_)
        refine gl (i' := 35) (fun _ _ => aw_iconst K (n := 0) (i32 _ rfl) (dOf ck_mX7_wantNumber rfl rfl)) ?_
        exact g_iret K (dOf ck_mX7_wantNumber rfl rfl).1 rfl (Or.inl rfl) rfl
      · refine gl (i' := 37) (fun _ _ => aw_iload_n K (dOf ck_mX7_wantNumber rfl rfl) rfl) ?_
        exact g_iret K (by decide +kernel) rfl (Or.inl rfl) rfl
def Tape_wantNumber (x1 : Int) (mm : aM) : Option (Int × aM) := (Tape_wants 2 mm).bind fun r1 => (if r1.1 = 0 then (some (0, r1.2)) else (Tape_wantNumber_11 x1 FU 0 (r1.2 1 5) r1.2))
set_option maxHeartbeats 4000000 in
theorem met_Tape_wantNumber {l : Launch} {D : va_G} {cA : FieldType → ClassId} {ad adV : Nat → Nat} {z0 : Nat} {x1 : Int} {mm : aM}  {r : Int × aM} (h : Tape_wantNumber x1 mm = some r) : aMet l D cA ad adV z0 mX7_wantNumber 2 42 0 0 [.inr (.inr (.inl (some 1))), .inl x1] SH mm (rIM r).1 SH (rIM r).2 := by
  refine aMet_ofG (by decide +kernel) rfl (Nat.le_of_ble_eq_true rfl) h (fun p e s m args below meth c al0 K => ?_)
  unfold Tape_wantNumber
  refine gl (i' := 1) (fun _ _ => aw_aload_n K (dOf ck_mX7_wantNumber rfl rfl) rfl) ?_
  refine gl (i' := 2) (fun _ _ => aw_iconst K (n := 2) (i32 _ rfl) (dOf ck_mX7_wantNumber rfl rfl)) ?_
  refine g_callVIM K [.inl _] rfl (dOf ck_mX7_wantNumber rfl rfl) al_OneBreath_Tape_67 rfl rfl ⟨wd_558, wd_5⟩ rfl (Nat.le_of_ble_eq_true rfl) ⟨Nat.le_of_ble_eq_true rfl, Nat.le_of_ble_eq_true rfl⟩ (fun b hb => met_Tape_wants  hb) (fun r1 hr1 => ?_)
  refine g_if_ne K (dOf ck_mX7_wantNumber rfl rfl) (t := 6) (aJ_of (by decide +kernel)) (fun h2 => ?_) (fun h2 => ?_)
  · refine gl (i' := 5) (fun _ _ => aw_iconst K (n := 0) (i32 _ rfl) (dOf ck_mX7_wantNumber rfl rfl)) ?_
    exact g_iret K (dOf ck_mX7_wantNumber rfl rfl).1 rfl (Or.inl rfl) rfl
  · refine gl (i' := 7) (fun _ _ => aw_iconst K (n := 0) (i32 _ rfl) (dOf ck_mX7_wantNumber rfl rfl)) ?_
    refine gl (i' := 8) (fun _ _ => aw_istore_n K (dOf ck_mX7_wantNumber rfl rfl) (Nat.le_of_ble_eq_true rfl)) ?_
    refine g_lv (lv' := [(2, .inl _), (0, .inr (.inr (.inl (some _)))), (1, .inl _)]) rfl ?_
    refine gl (i' := 9) (fun _ _ => aw_aload_n K (dOf ck_mX7_wantNumber rfl rfl) rfl) ?_
    refine gl (i' := 10) (fun _ _ => aw_getf K (dOf ck_mX7_wantNumber rfl rfl) rfl rfl (Nat.le_of_ble_eq_true rfl) wd_281 (k := 5) rfl) ?_
    refine gl (i' := 11) (fun _ _ => aw_istore_n K (dOf ck_mX7_wantNumber rfl rfl) (Nat.le_of_ble_eq_true rfl)) ?_
    refine g_lv (lv' := [(3, .inl _), (2, .inl _), (0, .inr (.inr (.inl (some _)))), (1, .inl _)]) rfl ?_
    refine g_sub [2, 3, 1, 0] rfl ?_
    exact lk_Tape_wantNumber_11 K _ FU _ _ _
def Tape_readNever  (mm : aM) : Option aM := (Tape_wantNumber 3 mm).bind fun r1 => ((Tape_wantNumber 3 r1.2).bind fun r2 => (if (r2.2 1 7) = 0 then (if 0 ≤ r1.1 ∧ r1.1 < 4 then (st1 (aup r2.2 22 r1.1.toNat (iand (r2.2 22 r1.1.toNat) (ixor (ishl 1 r2.1) (-1)))) fun mm5 => (some mm5)) else none) else (some r2.2)))
set_option maxHeartbeats 4000000 in
theorem met_Tape_readNever {l : Launch} {D : va_G} {cA : FieldType → ClassId} {ad adV : Nat → Nat} {z0 : Nat}  {mm : aM}  {r : aM} (h : Tape_readNever  mm = some r) : aMet l D cA ad adV z0 mX7_readNever 3 65 0 0 [.inr (.inr (.inl (some 1)))] SH mm (rM r).1 SH (rM r).2 := by
  refine aMet_ofG (by decide +kernel) rfl (Nat.le_of_ble_eq_true rfl) h (fun p e s m args below meth c al0 K => ?_)
  unfold Tape_readNever
  refine gl (i' := 1) (fun _ _ => aw_aload_n K (dOf ck_mX7_readNever rfl rfl) rfl) ?_
  refine gl (i' := 2) (fun _ _ => aw_iconst K (n := 3) (i32 _ rfl) (dOf ck_mX7_readNever rfl rfl)) ?_
  refine g_callVIM K [.inl _] rfl (dOf ck_mX7_readNever rfl rfl) al_OneBreath_Tape_164 rfl rfl ⟨wd_567, wd_8⟩ rfl (Nat.le_of_ble_eq_true rfl) ⟨Nat.le_of_ble_eq_true rfl, Nat.le_of_ble_eq_true rfl⟩ (fun b hb => met_Tape_wantNumber  hb) (fun r1 hr1 => ?_)
  refine gl (i' := 4) (fun _ _ => aw_istore_n K (dOf ck_mX7_readNever rfl rfl) (Nat.le_of_ble_eq_true rfl)) ?_
  refine g_lv (lv' := [(1, .inl _), (0, .inr (.inr (.inl (some _))))]) rfl ?_
  refine gl (i' := 5) (fun _ _ => aw_aload_n K (dOf ck_mX7_readNever rfl rfl) rfl) ?_
  refine gl (i' := 6) (fun _ _ => aw_iconst K (n := 3) (i32 _ rfl) (dOf ck_mX7_readNever rfl rfl)) ?_
  refine g_callVIM K [.inl _] rfl (dOf ck_mX7_readNever rfl rfl) al_OneBreath_Tape_164 rfl rfl ⟨wd_567, wd_8⟩ rfl (Nat.le_of_ble_eq_true rfl) ⟨Nat.le_of_ble_eq_true rfl, Nat.le_of_ble_eq_true rfl⟩ (fun b hb => met_Tape_wantNumber  hb) (fun r2 hr2 => ?_)
  refine gl (i' := 8) (fun _ _ => aw_istore_n K (dOf ck_mX7_readNever rfl rfl) (Nat.le_of_ble_eq_true rfl)) ?_
  refine g_lv (lv' := [(2, .inl _), (1, .inl _), (0, .inr (.inr (.inl (some _))))]) rfl ?_
  refine gl (i' := 9) (fun _ _ => aw_aload_n K (dOf ck_mX7_readNever rfl rfl) rfl) ?_
  refine gl (i' := 10) (fun _ _ => aw_getf K (dOf ck_mX7_readNever rfl rfl) rfl rfl (Nat.le_of_ble_eq_true rfl) wd_284 (k := 7) rfl) ?_
  refine g_if_ne K (dOf ck_mX7_readNever rfl rfl) (t := 24) (aJ_of (by decide +kernel)) (fun h3 => ?_) (fun h3 => ?_)
  · refine gl (i' := 12) (fun _ _ => aw_aload_n K (dOf ck_mX7_readNever rfl rfl) rfl) ?_
    refine gl (i' := 13) (fun _ _ => aw_getf K (dOf ck_mX7_readNever rfl rfl) rfl rfl (Nat.le_of_ble_eq_true rfl) wd_278 (k := 3) rfl) ?_
    refine gl (i' := 14) (fun _ _ => aw_getf K (dOf ck_mX7_readNever rfl rfl) rfl rfl (Nat.le_of_ble_eq_true rfl) wd_261 (k := 12) rfl) ?_
    refine gl (i' := 15) (fun _ _ => aw_iload_n K (dOf ck_mX7_readNever rfl rfl) rfl) ?_
    refine gl (i' := 16) (fun _ _ => aw_dup2_11 K rfl rfl (dOf ck_mX7_readNever rfl rfl)) ?_
    refine g_gd (fun hb4 => ?_)
    refine gl (i' := 17) (fun _ _ => aw_iald K (dOf ck_mX7_readNever rfl rfl) rfl hb4) ?_
    refine gl (i' := 18) (fun _ _ => aw_iconst K (n := 1) (i32 _ rfl) (dOf ck_mX7_readNever rfl rfl)) ?_
    refine gl (i' := 19) (fun _ _ => aw_iload_n K (dOf ck_mX7_readNever rfl rfl) rfl) ?_
    refine gl (i' := 20) (fun _ _ => aw_ishl K (dOf ck_mX7_readNever rfl rfl)) ?_
    refine gl (i' := 21) (fun _ _ => aw_iconst K (n := -1) (i32 _ rfl) (dOf ck_mX7_readNever rfl rfl)) ?_
    refine gl (i' := 22) (fun _ _ => aw_ixor K (dOf ck_mX7_readNever rfl rfl)) ?_
    refine gl (i' := 23) (fun _ _ => aw_iand K (dOf ck_mX7_readNever rfl rfl)) ?_
    refine g_st1 ?_
    refine gl (i' := 24) (fun _ _ => aw_iast K (dOf ck_mX7_readNever rfl rfl) rfl hb4) ?_
    exact g_vret K (by decide +kernel) rfl rfl
  · exact g_vret K (by decide +kernel) rfl rfl
def Tape_readLast  (mm : aM) : Option aM := (Tape_wantNumber 3 mm).bind fun r1 => (if (r1.2 1 7) = 0 then (st1 (aup r1.2 3 5 (iand (r1.2 3 5) (ixor (ishl 1 r1.1) (-1)))) fun mm3 => (some mm3)) else (some r1.2))
set_option maxHeartbeats 4000000 in
theorem met_Tape_readLast {l : Launch} {D : va_G} {cA : FieldType → ClassId} {ad adV : Nat → Nat} {z0 : Nat}  {mm : aM}  {r : aM} (h : Tape_readLast  mm = some r) : aMet l D cA ad adV z0 mX7_readLast 3 65 0 0 [.inr (.inr (.inl (some 1)))] SH mm (rM r).1 SH (rM r).2 := by
  refine aMet_ofG (by decide +kernel) rfl (Nat.le_of_ble_eq_true rfl) h (fun p e s m args below meth c al0 K => ?_)
  unfold Tape_readLast
  refine gl (i' := 1) (fun _ _ => aw_aload_n K (dOf ck_mX7_readLast rfl rfl) rfl) ?_
  refine gl (i' := 2) (fun _ _ => aw_iconst K (n := 3) (i32 _ rfl) (dOf ck_mX7_readLast rfl rfl)) ?_
  refine g_callVIM K [.inl _] rfl (dOf ck_mX7_readLast rfl rfl) al_OneBreath_Tape_164 rfl rfl ⟨wd_567, wd_8⟩ rfl (Nat.le_of_ble_eq_true rfl) ⟨Nat.le_of_ble_eq_true rfl, Nat.le_of_ble_eq_true rfl⟩ (fun b hb => met_Tape_wantNumber  hb) (fun r1 hr1 => ?_)
  refine gl (i' := 4) (fun _ _ => aw_istore_n K (dOf ck_mX7_readLast rfl rfl) (Nat.le_of_ble_eq_true rfl)) ?_
  refine g_lv (lv' := [(1, .inl _), (0, .inr (.inr (.inl (some _))))]) rfl ?_
  refine gl (i' := 5) (fun _ _ => aw_aload_n K (dOf ck_mX7_readLast rfl rfl) rfl) ?_
  refine gl (i' := 6) (fun _ _ => aw_getf K (dOf ck_mX7_readLast rfl rfl) rfl rfl (Nat.le_of_ble_eq_true rfl) wd_284 (k := 7) rfl) ?_
  refine g_if_ne K (dOf ck_mX7_readLast rfl rfl) (t := 18) (aJ_of (by decide +kernel)) (fun h2 => ?_) (fun h2 => ?_)
  · refine gl (i' := 8) (fun _ _ => aw_aload_n K (dOf ck_mX7_readLast rfl rfl) rfl) ?_
    refine gl (i' := 9) (fun _ _ => aw_getf K (dOf ck_mX7_readLast rfl rfl) rfl rfl (Nat.le_of_ble_eq_true rfl) wd_278 (k := 3) rfl) ?_
    refine gl (i' := 10) (fun _ _ => aw_dup K rfl (dOf ck_mX7_readLast rfl rfl)) ?_
    refine gl (i' := 11) (fun _ _ => aw_getf K (dOf ck_mX7_readLast rfl rfl) rfl rfl (Nat.le_of_ble_eq_true rfl) wd_215 (k := 5) rfl) ?_
    refine gl (i' := 12) (fun _ _ => aw_iconst K (n := 1) (i32 _ rfl) (dOf ck_mX7_readLast rfl rfl)) ?_
    refine gl (i' := 13) (fun _ _ => aw_iload_n K (dOf ck_mX7_readLast rfl rfl) rfl) ?_
    refine gl (i' := 14) (fun _ _ => aw_ishl K (dOf ck_mX7_readLast rfl rfl)) ?_
    refine gl (i' := 15) (fun _ _ => aw_iconst K (n := -1) (i32 _ rfl) (dOf ck_mX7_readLast rfl rfl)) ?_
    refine gl (i' := 16) (fun _ _ => aw_ixor K (dOf ck_mX7_readLast rfl rfl)) ?_
    refine gl (i' := 17) (fun _ _ => aw_iand K (dOf ck_mX7_readLast rfl rfl)) ?_
    refine g_st1 ?_
    refine gl (i' := 18) (fun _ _ => aw_putf K (dOf ck_mX7_readLast rfl rfl) rfl rfl (Nat.le_of_ble_eq_true rfl) wd_215 (k := 5) rfl rfl (Or.inl rfl)) ?_
    exact g_vret K (by decide +kernel) rfl rfl
  · exact g_vret K (by decide +kernel) rfl rfl
def Tongue_findSound_2 (mm : aM) (t : Nat) (x1 : Int) : Nat → Int → Option Int
  | 0, _ => none
  | n + 1, x2 => if x2 < (mm t 1) then (if 0 ≤ x2 ∧ x2 < 8 then (if (mm (t + 1) x2.toNat) = x1 then (some x2) else (Tongue_findSound_2 mm t x1 n (w32 (x2 + 1)))) else none) else (some (-1))
set_option maxHeartbeats 4000000 in
theorem lk_Tongue_findSound_2 {p : Program} {l : Launch} {e : Env} {s : State} {m : MethodId} {args : Array Value} {below : List Frame} {meth : Method} {c : Code} {D : va_G} {cA : FieldType → ClassId} {ad adV : Nat → Nat} {z0 : Nat} {al0 : List Nat} {mm : aM} (K : aK p s m args meth c mX8_findSound D cA ad adV z0) {t : Nat} (x1 : Int) (ht : okT t)  : ∀ (n : Nat) (x2 : Int), aG p l e { frames := 0, cells := 0, slots := 0, locals := 0 } s m args below meth c D cA ad z0 mX8_findSound al0 (rI mm) (Tongue_findSound_2 mm t x1 n x2) 2 [(0, .inr (.inr (.inl (some t)))), (1, .inl x1), (2, .inl x2)] [] mm := by
  intro n
  induction n with
  | zero => intro x2; exact g_none
  | succ n ih =>
    intro x2
    rw [Tongue_findSound_2]
    refine gl (i' := 3) (fun _ _ => aw_iload_n K (dOf ck_mX8_findSound rfl rfl) rfl) ?_
    refine gl (i' := 4) (fun _ _ => aw_aload_n K (dOf ck_mX8_findSound rfl rfl) rfl) ?_
    refine gl (i' := 5) (fun _ _ => aw_getf K (dOf ck_mX8_findSound rfl rfl) (shT_0 ht) rfl (Nat.le_of_ble_eq_true rfl) wd_191 (k := 1) rfl) ?_
    refine g_icmp_ge K (dOf ck_mX8_findSound rfl rfl) (t := 16) (aJ_of (by decide +kernel)) (fun h1 => ?_) (fun h1 => ?_)
    · refine gl (i' := 7) (fun _ _ => aw_aload_n K (dOf ck_mX8_findSound rfl rfl) rfl) ?_
      refine gl (i' := 8) (fun _ _ => aw_getf K (dOf ck_mX8_findSound rfl rfl) (shT_0 ht) rfl (Nat.le_of_ble_eq_true rfl) wd_216 (k := 6) rfl) ?_
      refine gl (i' := 9) (fun _ _ => aw_iload_n K (dOf ck_mX8_findSound rfl rfl) rfl) ?_
      refine g_gd (fun hb2 => ?_)
      refine gl (i' := 10) (fun _ _ => aw_bald K (dOf ck_mX8_findSound rfl rfl) (shT_1 ht) hb2) ?_
      refine gl (i' := 11) (fun _ _ => aw_iload_n K (dOf ck_mX8_findSound rfl rfl) rfl) ?_
      refine g_icmp_ne K (dOf ck_mX8_findSound rfl rfl) (t := 14) (aJ_of (by decide +kernel)) (fun h3 => ?_) (fun h3 => ?_)
      · refine gl (i' := 13) (fun _ _ => aw_iload_n K (dOf ck_mX8_findSound rfl rfl) rfl) ?_
        exact g_iret K (dOf ck_mX8_findSound rfl rfl).1 rfl (Or.inl rfl) rfl
      · refine gl (i' := 15) (fun _ _ => aw_iinc K (dOf ck_mX8_findSound rfl rfl) (Nat.le_of_ble_eq_true rfl) rfl) ?_
        refine g_lv (lv' := [(2, .inl _), (0, .inr (.inr (.inl (some _)))), (1, .inl _)]) rfl ?_
        refine g_goto K (dOf ck_mX8_findSound rfl rfl).1 (t := 2) (aJ_of (by decide +kernel)) ?_
        refine g_sub [1, 2, 0] rfl ?_
        exact ih _
    · refine gl (i' := 17) (fun _ _ => aw_iconst K (n := -1) (i32 _ rfl) (dOf ck_mX8_findSound rfl rfl)) ?_
      exact g_iret K (by decide +kernel) rfl (Or.inl rfl) rfl
def Tongue_findSound (t : Nat) (x1 : Int) (mm : aM) : Option Int := Tongue_findSound_2 mm t x1 FU 0
set_option maxHeartbeats 4000000 in
theorem met_Tongue_findSound {l : Launch} {D : va_G} {cA : FieldType → ClassId} {ad adV : Nat → Nat} {z0 : Nat} {t : Nat} {x1 : Int} {mm : aM} (ht : okT t) {r : Int} (h : Tongue_findSound t x1 mm = some r) : aMet l D cA ad adV z0 mX8_findSound 0 0 0 0 [.inr (.inr (.inl (some t))), .inl x1] SH mm ((rI mm) r).1 SH ((rI mm) r).2 := by
  refine aMet_ofG (by decide +kernel) rfl (Nat.le_of_ble_eq_true rfl) h (fun p e s m args below meth c al0 K => ?_)
  unfold Tongue_findSound
  refine gl (i' := 1) (fun _ _ => aw_iconst K (n := 0) (i32 _ rfl) (dOf ck_mX8_findSound rfl rfl)) ?_
  refine gl (i' := 2) (fun _ _ => aw_istore_n K (dOf ck_mX8_findSound rfl rfl) (Nat.le_of_ble_eq_true rfl)) ?_
  refine g_lv (lv' := [(2, .inl _), (0, .inr (.inr (.inl (some _)))), (1, .inl _)]) rfl ?_
  refine g_sub [1, 2, 0] rfl ?_
  exact lk_Tongue_findSound_2 K _ ht FU _
def Tape_isOfSounds_3 (mm : aM) : Nat → Int → Option Int
  | 0, _ => none
  | n + 1, x1 => if x1 < (mm 1 6) then (if 0 ≤ x1 ∧ x1 < 500 then ((Tongue_findSound 3 (mm 2 x1.toNat) mm).bind fun r3 => (if r3 = (-1) then (some 0) else (Tape_isOfSounds_3 mm n (w32 (x1 + 1))))) else none) else (some 1)
set_option maxHeartbeats 4000000 in
theorem lk_Tape_isOfSounds_3 {p : Program} {l : Launch} {e : Env} {s : State} {m : MethodId} {args : Array Value} {below : List Frame} {meth : Method} {c : Code} {D : va_G} {cA : FieldType → ClassId} {ad adV : Nat → Nat} {z0 : Nat} {al0 : List Nat} {mm : aM} (K : aK p s m args meth c mX7_isOfSounds D cA ad adV z0)   : ∀ (n : Nat) (x1 : Int), aG p l e { frames := 1, cells := 0, slots := 0, locals := 22 } s m args below meth c D cA ad z0 mX7_isOfSounds al0 (rI mm) (Tape_isOfSounds_3 mm n x1) 3 [(0, .inr (.inr (.inl (some 1)))), (1, .inl x1)] [] mm := by
  intro n
  induction n with
  | zero => intro x1; exact g_none
  | succ n ih =>
    intro x1
    rw [Tape_isOfSounds_3]
    refine gl (i' := 4) (fun _ _ => aw_iload_n K (dOf ck_mX7_isOfSounds rfl rfl) rfl) ?_
    refine gl (i' := 5) (fun _ _ => aw_aload_n K (dOf ck_mX7_isOfSounds rfl rfl) rfl) ?_
    refine gl (i' := 6) (fun _ _ => aw_getf K (dOf ck_mX7_isOfSounds rfl rfl) rfl rfl (Nat.le_of_ble_eq_true rfl) wd_282 (k := 6) rfl) ?_
    refine g_icmp_ge K (dOf ck_mX7_isOfSounds rfl rfl) (t := 20) (aJ_of (by decide +kernel)) (fun h1 => ?_) (fun h1 => ?_)
    · refine gl (i' := 8) (fun _ _ => aw_aload_n K (dOf ck_mX7_isOfSounds rfl rfl) rfl) ?_
      refine gl (i' := 9) (fun _ _ => aw_getf K (dOf ck_mX7_isOfSounds rfl rfl) rfl rfl (Nat.le_of_ble_eq_true rfl) wd_278 (k := 3) rfl) ?_
      refine gl (i' := 10) (fun _ _ => aw_aload_n K (dOf ck_mX7_isOfSounds rfl rfl) rfl) ?_
      refine gl (i' := 11) (fun _ _ => aw_getf K (dOf ck_mX7_isOfSounds rfl rfl) rfl rfl (Nat.le_of_ble_eq_true rfl) wd_274 (k := 0) rfl) ?_
      refine gl (i' := 12) (fun _ _ => aw_iload_n K (dOf ck_mX7_isOfSounds rfl rfl) rfl) ?_
      refine g_gd (fun hb2 => ?_)
      refine gl (i' := 13) (fun _ _ => aw_bald K (dOf ck_mX7_isOfSounds rfl rfl) rfl hb2) ?_
      refine g_callVI K [.inl _] rfl (dOf ck_mX7_isOfSounds rfl rfl) al_OneBreath_Tape_34 rfl rfl ⟨wd_579, wd_580⟩ rfl (Nat.le_of_ble_eq_true rfl) ⟨Nat.le_of_ble_eq_true rfl, Nat.le_of_ble_eq_true rfl⟩ (fun b hb => met_Tongue_findSound (by unfold okT; omega) hb) (fun r3 hr3 => ?_)
      refine gl (i' := 15) (fun _ _ => aw_iconst K (n := -1) (i32 _ rfl) (dOf ck_mX7_isOfSounds rfl rfl)) ?_
      refine g_icmp_ne K (dOf ck_mX7_isOfSounds rfl rfl) (t := 18) (aJ_of (by decide +kernel)) (fun h4 => ?_) (fun h4 => ?_)
      · refine gl (i' := 17) (fun _ _ => aw_iconst K (n := 0) (i32 _ rfl) (dOf ck_mX7_isOfSounds rfl rfl)) ?_
        exact g_iret K (dOf ck_mX7_isOfSounds rfl rfl).1 rfl (Or.inr (Or.inl ⟨rfl, Or.inl rfl⟩)) rfl
      · refine gl (i' := 19) (fun _ _ => aw_iinc K (dOf ck_mX7_isOfSounds rfl rfl) (Nat.le_of_ble_eq_true rfl) rfl) ?_
        refine g_lv (lv' := [(1, .inl _), (0, .inr (.inr (.inl (some _))))]) rfl ?_
        refine g_goto K (dOf ck_mX7_isOfSounds rfl rfl).1 (t := 3) (aJ_of (by decide +kernel)) ?_
        refine g_sub [1, 0] rfl ?_
        exact ih _
    · refine gl (i' := 21) (fun _ _ => aw_iconst K (n := 1) (i32 _ rfl) (dOf ck_mX7_isOfSounds rfl rfl)) ?_
      exact g_iret K (by decide +kernel) rfl (Or.inr (Or.inl ⟨rfl, Or.inr rfl⟩)) rfl
def Tape_isOfSounds  (mm : aM) : Option Int := Tape_isOfSounds_3 mm FU (mm 1 5)
set_option maxHeartbeats 4000000 in
theorem met_Tape_isOfSounds {l : Launch} {D : va_G} {cA : FieldType → ClassId} {ad adV : Nat → Nat} {z0 : Nat}  {mm : aM}  {r : Int} (h : Tape_isOfSounds  mm = some r) : aMet l D cA ad adV z0 mX7_isOfSounds 1 22 0 0 [.inr (.inr (.inl (some 1)))] SH mm ((rI mm) r).1 SH ((rI mm) r).2 := by
  refine aMet_ofG (by decide +kernel) rfl (Nat.le_of_ble_eq_true rfl) h (fun p e s m args below meth c al0 K => ?_)
  unfold Tape_isOfSounds
  refine gl (i' := 1) (fun _ _ => aw_aload_n K (dOf ck_mX7_isOfSounds rfl rfl) rfl) ?_
  refine gl (i' := 2) (fun _ _ => aw_getf K (dOf ck_mX7_isOfSounds rfl rfl) rfl rfl (Nat.le_of_ble_eq_true rfl) wd_281 (k := 5) rfl) ?_
  refine gl (i' := 3) (fun _ _ => aw_istore_n K (dOf ck_mX7_isOfSounds rfl rfl) (Nat.le_of_ble_eq_true rfl)) ?_
  refine g_lv (lv' := [(1, .inl _), (0, .inr (.inr (.inl (some _))))]) rfl ?_
  refine g_sub [1, 0] rfl ?_
  exact lk_Tape_isOfSounds_3 K FU _
def Tape_readOpen_11 (mm : aM) : Option aM := (Tape_fail 3 mm).bind fun r5 => (some r5)
set_option maxHeartbeats 4000000 in
theorem lk_Tape_readOpen_11 {p : Program} {l : Launch} {e : Env} {s : State} {m : MethodId} {args : Array Value} {below : List Frame} {meth : Method} {c : Code} {D : va_G} {cA : FieldType → ClassId} {ad adV : Nat → Nat} {z0 : Nat} {al0 : List Nat} (K : aK p s m args meth c mX7_readOpen D cA ad adV z0)   (mm : aM) : aG p l e { frames := 2, cells := 0, slots := 0, locals := 43 } s m args below meth c D cA ad z0 mX7_readOpen al0 rM (Tape_readOpen_11 mm) 11 [(0, .inr (.inr (.inl (some 1))))] [] mm := by
  unfold Tape_readOpen_11
  refine gl (i' := 12) (fun _ _ => aw_aload_n K (dOf ck_mX7_readOpen rfl rfl) rfl) ?_
  refine gl (i' := 13) (fun _ _ => aw_iconst K (n := 3) (i32 _ rfl) (dOf ck_mX7_readOpen rfl rfl)) ?_
  refine g_callVM K [.inl _] rfl (dOf ck_mX7_readOpen rfl rfl) al_OneBreath_Tape_74 rfl rfl ⟨wd_506, wd_2⟩ rfl (Nat.le_of_ble_eq_true rfl) ⟨Nat.le_of_ble_eq_true rfl, Nat.le_of_ble_eq_true rfl⟩ (fun b hb => met_Tape_fail  hb) (fun r5 hr5 => ?_)
  exact g_vret K (dOf ck_mX7_readOpen rfl rfl).1 rfl rfl
def Tape_readOpen_22  : Nat → Int → aM → Option aM
  | 0, _, _ => none
  | n + 1, x1, mm => if x1 < (mm 1 6) then (if 0 ≤ x1 ∧ x1 < 500 then ((Tongue_findSound 3 (mm 2 x1.toNat) mm).bind fun r11 => (st1 (aup mm 3 4 (ior (mm 3 4) (ishl 1 r11))) fun mm12 => (Tape_readOpen_22 n (w32 (x1 + 1)) mm12))) else none) else (some mm)
set_option maxHeartbeats 4000000 in
theorem lk_Tape_readOpen_22 {p : Program} {l : Launch} {e : Env} {s : State} {m : MethodId} {args : Array Value} {below : List Frame} {meth : Method} {c : Code} {D : va_G} {cA : FieldType → ClassId} {ad adV : Nat → Nat} {z0 : Nat} {al0 : List Nat} (K : aK p s m args meth c mX7_readOpen D cA ad adV z0)   : ∀ (n : Nat) (x1 : Int) (mm : aM), aG p l e { frames := 2, cells := 0, slots := 0, locals := 43 } s m args below meth c D cA ad z0 mX7_readOpen al0 rM (Tape_readOpen_22 n x1 mm) 22 [(0, .inr (.inr (.inl (some 1)))), (1, .inl x1)] [] mm := by
  intro n
  induction n with
  | zero => intro x1 mm; exact g_none
  | succ n ih =>
    intro x1 mm
    rw [Tape_readOpen_22]
    refine gl (i' := 23) (fun _ _ => aw_iload_n K (dOf ck_mX7_readOpen rfl rfl) rfl) ?_
    refine gl (i' := 24) (fun _ _ => aw_aload_n K (dOf ck_mX7_readOpen rfl rfl) rfl) ?_
    refine gl (i' := 25) (fun _ _ => aw_getf K (dOf ck_mX7_readOpen rfl rfl) rfl rfl (Nat.le_of_ble_eq_true rfl) wd_282 (k := 6) rfl) ?_
    refine g_icmp_ge K (dOf ck_mX7_readOpen rfl rfl) (t := 43) (aJ_of (by decide +kernel)) (fun h9 => ?_) (fun h9 => ?_)
    · refine gl (i' := 27) (fun _ _ => aw_aload_n K (dOf ck_mX7_readOpen rfl rfl) rfl) ?_
      refine gl (i' := 28) (fun _ _ => aw_getf K (dOf ck_mX7_readOpen rfl rfl) rfl rfl (Nat.le_of_ble_eq_true rfl) wd_278 (k := 3) rfl) ?_
      refine gl (i' := 29) (fun _ _ => aw_dup K rfl (dOf ck_mX7_readOpen rfl rfl)) ?_
      refine gl (i' := 30) (fun _ _ => aw_getf K (dOf ck_mX7_readOpen rfl rfl) rfl rfl (Nat.le_of_ble_eq_true rfl) wd_210 (k := 4) rfl) ?_
      refine gl (i' := 31) (fun _ _ => aw_iconst K (n := 1) (i32 _ rfl) (dOf ck_mX7_readOpen rfl rfl)) ?_
      refine gl (i' := 32) (fun _ _ => aw_aload_n K (dOf ck_mX7_readOpen rfl rfl) rfl) ?_
      refine gl (i' := 33) (fun _ _ => aw_getf K (dOf ck_mX7_readOpen rfl rfl) rfl rfl (Nat.le_of_ble_eq_true rfl) wd_278 (k := 3) rfl) ?_
      refine gl (i' := 34) (fun _ _ => aw_aload_n K (dOf ck_mX7_readOpen rfl rfl) rfl) ?_
      refine gl (i' := 35) (fun _ _ => aw_getf K (dOf ck_mX7_readOpen rfl rfl) rfl rfl (Nat.le_of_ble_eq_true rfl) wd_274 (k := 0) rfl) ?_
      refine gl (i' := 36) (fun _ _ => aw_iload_n K (dOf ck_mX7_readOpen rfl rfl) rfl) ?_
      refine g_gd (fun hb10 => ?_)
      refine gl (i' := 37) (fun _ _ => aw_bald K (dOf ck_mX7_readOpen rfl rfl) rfl hb10) ?_
      refine g_callVI K [.inl _] rfl (dOf ck_mX7_readOpen rfl rfl) al_OneBreath_Tape_34 rfl rfl ⟨wd_579, wd_580⟩ rfl (Nat.le_of_ble_eq_true rfl) ⟨Nat.le_of_ble_eq_true rfl, Nat.le_of_ble_eq_true rfl⟩ (fun b hb => met_Tongue_findSound (by unfold okT; omega) hb) (fun r11 hr11 => ?_)
      refine gl (i' := 39) (fun _ _ => aw_ishl K (dOf ck_mX7_readOpen rfl rfl)) ?_
      refine gl (i' := 40) (fun _ _ => aw_ior K (dOf ck_mX7_readOpen rfl rfl)) ?_
      refine g_st1 ?_
      refine gl (i' := 41) (fun _ _ => aw_putf K (dOf ck_mX7_readOpen rfl rfl) rfl rfl (Nat.le_of_ble_eq_true rfl) wd_210 (k := 4) rfl rfl (Or.inl rfl)) ?_
      refine gl (i' := 42) (fun _ _ => aw_iinc K (dOf ck_mX7_readOpen rfl rfl) (Nat.le_of_ble_eq_true rfl) rfl) ?_
      refine g_lv (lv' := [(1, .inl _), (0, .inr (.inr (.inl (some _))))]) rfl ?_
      refine g_goto K (dOf ck_mX7_readOpen rfl rfl).1 (t := 22) (aJ_of (by decide +kernel)) ?_
      refine g_sub [1, 0] rfl ?_
      exact ih _ _
    · exact g_vret K (by decide +kernel) rfl rfl
def Tape_readOpen  (mm : aM) : Option aM := (Tape_wants 1 mm).bind fun r1 => (if r1.1 = 0 then (some r1.2) else ((Tape_isOfSounds r1.2).bind fun r3 => (if r3 = 0 then (Tape_readOpen_11 r1.2) else ((Tape_hasTwice r1.2).bind fun r6 => (if r6 = 0 then (st1 (aup r1.2 3 4 0) fun mm8 => (Tape_readOpen_22 FU (mm8 1 5) mm8)) else (Tape_readOpen_11 r1.2))))))
set_option maxHeartbeats 4000000 in
theorem met_Tape_readOpen {l : Launch} {D : va_G} {cA : FieldType → ClassId} {ad adV : Nat → Nat} {z0 : Nat}  {mm : aM}  {r : aM} (h : Tape_readOpen  mm = some r) : aMet l D cA ad adV z0 mX7_readOpen 2 43 0 0 [.inr (.inr (.inl (some 1)))] SH mm (rM r).1 SH (rM r).2 := by
  refine aMet_ofG (by decide +kernel) rfl (Nat.le_of_ble_eq_true rfl) h (fun p e s m args below meth c al0 K => ?_)
  unfold Tape_readOpen
  refine gl (i' := 1) (fun _ _ => aw_aload_n K (dOf ck_mX7_readOpen rfl rfl) rfl) ?_
  refine gl (i' := 2) (fun _ _ => aw_iconst K (n := 1) (i32 _ rfl) (dOf ck_mX7_readOpen rfl rfl)) ?_
  refine g_callVIM K [.inl _] rfl (dOf ck_mX7_readOpen rfl rfl) al_OneBreath_Tape_67 rfl rfl ⟨wd_558, wd_5⟩ rfl (Nat.le_of_ble_eq_true rfl) ⟨Nat.le_of_ble_eq_true rfl, Nat.le_of_ble_eq_true rfl⟩ (fun b hb => met_Tape_wants  hb) (fun r1 hr1 => ?_)
  refine g_if_ne K (dOf ck_mX7_readOpen rfl rfl) (t := 5) (aJ_of (by decide +kernel)) (fun h2 => ?_) (fun h2 => ?_)
  · exact g_vret K (dOf ck_mX7_readOpen rfl rfl).1 rfl rfl
  · refine gl (i' := 6) (fun _ _ => aw_aload_n K (dOf ck_mX7_readOpen rfl rfl) rfl) ?_
    refine g_callVI K [] rfl (dOf ck_mX7_readOpen rfl rfl) al_OneBreath_Tape_129 rfl rfl ⟨wd_576, wd_11⟩ rfl (Nat.le_of_ble_eq_true rfl) ⟨Nat.le_of_ble_eq_true rfl, Nat.le_of_ble_eq_true rfl⟩ (fun b hb => met_Tape_isOfSounds  hb) (fun r3 hr3 => ?_)
    refine g_if_eq K (dOf ck_mX7_readOpen rfl rfl) (t := 11) (aJ_of (by decide +kernel)) (fun h4 => ?_) (fun h4 => ?_)
    · refine g_sub [0] rfl ?_
      exact lk_Tape_readOpen_11 K _
    · refine gl (i' := 9) (fun _ _ => aw_aload_n K (dOf ck_mX7_readOpen rfl rfl) rfl) ?_
      refine g_callVI K [] rfl (dOf ck_mX7_readOpen rfl rfl) al_OneBreath_Tape_122 rfl rfl ⟨wd_561, wd_6⟩ rfl (Nat.le_of_ble_eq_true rfl) ⟨Nat.le_of_ble_eq_true rfl, Nat.le_of_ble_eq_true rfl⟩ (fun b hb => met_Tape_hasTwice  hb) (fun r6 hr6 => ?_)
      refine g_if_eq K (dOf ck_mX7_readOpen rfl rfl) (t := 15) (aJ_of (by decide +kernel)) (fun h7 => ?_) (fun h7 => ?_)
      · refine gl (i' := 16) (fun _ _ => aw_aload_n K (dOf ck_mX7_readOpen rfl rfl) rfl) ?_
        refine gl (i' := 17) (fun _ _ => aw_getf K (dOf ck_mX7_readOpen rfl rfl) rfl rfl (Nat.le_of_ble_eq_true rfl) wd_278 (k := 3) rfl) ?_
        refine gl (i' := 18) (fun _ _ => aw_iconst K (n := 0) (i32 _ rfl) (dOf ck_mX7_readOpen rfl rfl)) ?_
        refine g_st1 ?_
        refine gl (i' := 19) (fun _ _ => aw_putf K (dOf ck_mX7_readOpen rfl rfl) rfl rfl (Nat.le_of_ble_eq_true rfl) wd_210 (k := 4) rfl rfl (Or.inl rfl)) ?_
        refine gl (i' := 20) (fun _ _ => aw_aload_n K (dOf ck_mX7_readOpen rfl rfl) rfl) ?_
        refine gl (i' := 21) (fun _ _ => aw_getf K (dOf ck_mX7_readOpen rfl rfl) rfl rfl (Nat.le_of_ble_eq_true rfl) wd_281 (k := 5) rfl) ?_
        refine gl (i' := 22) (fun _ _ => aw_istore_n K (dOf ck_mX7_readOpen rfl rfl) (Nat.le_of_ble_eq_true rfl)) ?_
        refine g_lv (lv' := [(1, .inl _), (0, .inr (.inr (.inl (some _))))]) rfl ?_
        refine g_sub [1, 0] rfl ?_
        exact lk_Tape_readOpen_22 K FU _ _
      · refine g_sub [0] rfl ?_
        exact lk_Tape_readOpen_11 K _
def Tape_wantSound_23 (s0 : Int) (mm : aM) : Option (Int × aM) := if s0 = (-1) then ((Tape_fail 3 mm).bind fun r5 => (some (s0, r5))) else (some (s0, mm))
set_option maxHeartbeats 4000000 in
theorem lk_Tape_wantSound_23 {p : Program} {l : Launch} {e : Env} {s : State} {m : MethodId} {args : Array Value} {below : List Frame} {meth : Method} {c : Code} {D : va_G} {cA : FieldType → ClassId} {ad adV : Nat → Nat} {z0 : Nat} {al0 : List Nat} (K : aK p s m args meth c mX7_wantSound D cA ad adV z0)   (s0 : Int) (mm : aM) : aG p l e { frames := 2, cells := 0, slots := 0, locals := 42 } s m args below meth c D cA ad z0 mX7_wantSound al0 rIM (Tape_wantSound_23 s0 mm) 23 [(0, .inr (.inr (.inl (some 1))))] [.inl s0] mm := by
  unfold Tape_wantSound_23
  refine gl (i' := 24) (fun _ _ => aw_istore_n K (dOf ck_mX7_wantSound rfl rfl) (Nat.le_of_ble_eq_true rfl)) ?_
  refine g_lv (lv' := [(1, .inl _), (0, .inr (.inr (.inl (some _))))]) rfl ?_
  refine gl (i' := 25) (fun _ _ => aw_iload_n K (dOf ck_mX7_wantSound rfl rfl) rfl) ?_
  refine gl (i' := 26) (fun _ _ => aw_iconst K (n := -1) (i32 _ rfl) (dOf ck_mX7_wantSound rfl rfl)) ?_
  refine g_icmp_ne K (dOf ck_mX7_wantSound rfl rfl) (t := 30) (aJ_of (by decide +kernel)) (fun h4 => ?_) (fun h4 => ?_)
  · refine gl (i' := 28) (fun _ _ => aw_aload_n K (dOf ck_mX7_wantSound rfl rfl) rfl) ?_
    refine gl (i' := 29) (fun _ _ => aw_iconst K (n := 3) (i32 _ rfl) (dOf ck_mX7_wantSound rfl rfl)) ?_
    refine g_callVM K [.inl _] rfl (dOf ck_mX7_wantSound rfl rfl) al_OneBreath_Tape_74 rfl rfl ⟨wd_506, wd_2⟩ rfl (Nat.le_of_ble_eq_true rfl) ⟨Nat.le_of_ble_eq_true rfl, Nat.le_of_ble_eq_true rfl⟩ (fun b hb => met_Tape_fail  hb) (fun r5 hr5 => ?_)
    refine gl (i' := 31) (fun _ _ => aw_iload_n K (dOf ck_mX7_wantSound rfl rfl) rfl) ?_
    exact g_iret K (by decide +kernel) rfl (Or.inl rfl) rfl
  · refine gl (i' := 31) (fun _ _ => aw_iload_n K (dOf ck_mX7_wantSound rfl rfl) rfl) ?_
    exact g_iret K (by decide +kernel) rfl (Or.inl rfl) rfl
def Tape_wantSound  (mm : aM) : Option (Int × aM) := (Tape_wants 1 mm).bind fun r1 => (if r1.1 = 0 then (some ((-1), r1.2)) else (if (w32 ((r1.2 1 6) - (r1.2 1 5))) = 1 then (if 0 ≤ (r1.2 1 5) ∧ (r1.2 1 5) < 500 then ((Tongue_findSound 3 (r1.2 2 (r1.2 1 5).toNat) r1.2).bind fun r7 => (Tape_wantSound_23 r7 r1.2)) else none) else (Tape_wantSound_23 (-1) r1.2)))
set_option maxHeartbeats 4000000 in
theorem met_Tape_wantSound {l : Launch} {D : va_G} {cA : FieldType → ClassId} {ad adV : Nat → Nat} {z0 : Nat}  {mm : aM}  {r : Int × aM} (h : Tape_wantSound  mm = some r) : aMet l D cA ad adV z0 mX7_wantSound 2 42 0 0 [.inr (.inr (.inl (some 1)))] SH mm (rIM r).1 SH (rIM r).2 := by
  refine aMet_ofG (by decide +kernel) rfl (Nat.le_of_ble_eq_true rfl) h (fun p e s m args below meth c al0 K => ?_)
  unfold Tape_wantSound
  refine gl (i' := 1) (fun _ _ => aw_aload_n K (dOf ck_mX7_wantSound rfl rfl) rfl) ?_
  refine gl (i' := 2) (fun _ _ => aw_iconst K (n := 1) (i32 _ rfl) (dOf ck_mX7_wantSound rfl rfl)) ?_
  refine g_callVIM K [.inl _] rfl (dOf ck_mX7_wantSound rfl rfl) al_OneBreath_Tape_67 rfl rfl ⟨wd_558, wd_5⟩ rfl (Nat.le_of_ble_eq_true rfl) ⟨Nat.le_of_ble_eq_true rfl, Nat.le_of_ble_eq_true rfl⟩ (fun b hb => met_Tape_wants  hb) (fun r1 hr1 => ?_)
  refine g_if_ne K (dOf ck_mX7_wantSound rfl rfl) (t := 6) (aJ_of (by decide +kernel)) (fun h2 => ?_) (fun h2 => ?_)
  · refine gl (i' := 5) (fun _ _ => aw_iconst K (n := -1) (i32 _ rfl) (dOf ck_mX7_wantSound rfl rfl)) ?_
    exact g_iret K (dOf ck_mX7_wantSound rfl rfl).1 rfl (Or.inl rfl) rfl
  · refine gl (i' := 7) (fun _ _ => aw_aload_n K (dOf ck_mX7_wantSound rfl rfl) rfl) ?_
    refine gl (i' := 8) (fun _ _ => aw_getf K (dOf ck_mX7_wantSound rfl rfl) rfl rfl (Nat.le_of_ble_eq_true rfl) wd_282 (k := 6) rfl) ?_
    refine gl (i' := 9) (fun _ _ => aw_aload_n K (dOf ck_mX7_wantSound rfl rfl) rfl) ?_
    refine gl (i' := 10) (fun _ _ => aw_getf K (dOf ck_mX7_wantSound rfl rfl) rfl rfl (Nat.le_of_ble_eq_true rfl) wd_281 (k := 5) rfl) ?_
    refine gl (i' := 11) (fun _ _ => aw_isub K (dOf ck_mX7_wantSound rfl rfl)) ?_
    refine gl (i' := 12) (fun _ _ => aw_iconst K (n := 1) (i32 _ rfl) (dOf ck_mX7_wantSound rfl rfl)) ?_
    refine g_icmp_ne K (dOf ck_mX7_wantSound rfl rfl) (t := 22) (aJ_of (by decide +kernel)) (fun h3 => ?_) (fun h3 => ?_)
    · refine gl (i' := 14) (fun _ _ => aw_aload_n K (dOf ck_mX7_wantSound rfl rfl) rfl) ?_
      refine gl (i' := 15) (fun _ _ => aw_getf K (dOf ck_mX7_wantSound rfl rfl) rfl rfl (Nat.le_of_ble_eq_true rfl) wd_278 (k := 3) rfl) ?_
      refine gl (i' := 16) (fun _ _ => aw_aload_n K (dOf ck_mX7_wantSound rfl rfl) rfl) ?_
      refine gl (i' := 17) (fun _ _ => aw_getf K (dOf ck_mX7_wantSound rfl rfl) rfl rfl (Nat.le_of_ble_eq_true rfl) wd_274 (k := 0) rfl) ?_
      refine gl (i' := 18) (fun _ _ => aw_aload_n K (dOf ck_mX7_wantSound rfl rfl) rfl) ?_
      refine gl (i' := 19) (fun _ _ => aw_getf K (dOf ck_mX7_wantSound rfl rfl) rfl rfl (Nat.le_of_ble_eq_true rfl) wd_281 (k := 5) rfl) ?_
      refine g_gd (fun hb6 => ?_)
      refine gl (i' := 20) (fun _ _ => aw_bald K (dOf ck_mX7_wantSound rfl rfl) rfl hb6) ?_
      refine g_callVI K [.inl _] rfl (dOf ck_mX7_wantSound rfl rfl) al_OneBreath_Tape_34 rfl rfl ⟨wd_579, wd_580⟩ rfl (Nat.le_of_ble_eq_true rfl) ⟨Nat.le_of_ble_eq_true rfl, Nat.le_of_ble_eq_true rfl⟩ (fun b hb => met_Tongue_findSound (by unfold okT; omega) hb) (fun r7 hr7 => ?_)
      refine g_goto K (dOf ck_mX7_wantSound rfl rfl).1 (t := 23) (aJ_of (by decide +kernel)) ?_
      refine g_sub [0] rfl ?_
      exact lk_Tape_wantSound_23 K _ _
    · refine gl (i' := 23) (fun _ _ => aw_iconst K (n := -1) (i32 _ rfl) (dOf ck_mX7_wantSound rfl rfl)) ?_
      refine g_sub [0] rfl ?_
      exact lk_Tape_wantSound_23 K _ _
def Tape_readLike  (mm : aM) : Option aM := (Tape_wantSound mm).bind fun r1 => (if r1.1 = (-1) then (some r1.2) else ((Tape_wantSound r1.2).bind fun r3 => (if r3.1 = (-1) then (some r3.2) else (if r3.1 = r1.1 then ((Tape_fail 3 r3.2).bind fun r10 => (some r10)) else (if 0 ≤ r1.1 ∧ r1.1 < 8 then (st1 (aup r3.2 5 r1.1.toNat (ior (r3.2 5 r1.1.toNat) (ishl 1 r3.1))) fun mm7 => (if 0 ≤ r3.1 ∧ r3.1 < 8 then (st1 (aup mm7 5 r3.1.toNat (ior (mm7 5 r3.1.toNat) (ishl 1 r1.1))) fun mm9 => (some mm9)) else none)) else none)))))
set_option maxHeartbeats 4000000 in
theorem met_Tape_readLike {l : Launch} {D : va_G} {cA : FieldType → ClassId} {ad adV : Nat → Nat} {z0 : Nat}  {mm : aM}  {r : aM} (h : Tape_readLike  mm = some r) : aMet l D cA ad adV z0 mX7_readLike 3 63 0 0 [.inr (.inr (.inl (some 1)))] SH mm (rM r).1 SH (rM r).2 := by
  refine aMet_ofG (by decide +kernel) rfl (Nat.le_of_ble_eq_true rfl) h (fun p e s m args below meth c al0 K => ?_)
  unfold Tape_readLike
  refine gl (i' := 1) (fun _ _ => aw_aload_n K (dOf ck_mX7_readLike rfl rfl) rfl) ?_
  refine g_callVIM K [] rfl (dOf ck_mX7_readLike rfl rfl) al_OneBreath_Tape_134 rfl rfl ⟨wd_586, wd_13⟩ rfl (Nat.le_of_ble_eq_true rfl) ⟨Nat.le_of_ble_eq_true rfl, Nat.le_of_ble_eq_true rfl⟩ (fun b hb => met_Tape_wantSound  hb) (fun r1 hr1 => ?_)
  refine gl (i' := 3) (fun _ _ => aw_istore_n K (dOf ck_mX7_readLike rfl rfl) (Nat.le_of_ble_eq_true rfl)) ?_
  refine g_lv (lv' := [(1, .inl _), (0, .inr (.inr (.inl (some _))))]) rfl ?_
  refine gl (i' := 4) (fun _ _ => aw_iload_n K (dOf ck_mX7_readLike rfl rfl) rfl) ?_
  refine gl (i' := 5) (fun _ _ => aw_iconst K (n := -1) (i32 _ rfl) (dOf ck_mX7_readLike rfl rfl)) ?_
  refine g_icmp_ne K (dOf ck_mX7_readLike rfl rfl) (t := 7) (aJ_of (by decide +kernel)) (fun h2 => ?_) (fun h2 => ?_)
  · exact g_vret K (dOf ck_mX7_readLike rfl rfl).1 rfl rfl
  · refine gl (i' := 8) (fun _ _ => aw_aload_n K (dOf ck_mX7_readLike rfl rfl) rfl) ?_
    refine g_callVIM K [] rfl (dOf ck_mX7_readLike rfl rfl) al_OneBreath_Tape_134 rfl rfl ⟨wd_586, wd_13⟩ rfl (Nat.le_of_ble_eq_true rfl) ⟨Nat.le_of_ble_eq_true rfl, Nat.le_of_ble_eq_true rfl⟩ (fun b hb => met_Tape_wantSound  hb) (fun r3 hr3 => ?_)
    refine gl (i' := 10) (fun _ _ => aw_istore_n K (dOf ck_mX7_readLike rfl rfl) (Nat.le_of_ble_eq_true rfl)) ?_
    refine g_lv (lv' := [(2, .inl _), (1, .inl _), (0, .inr (.inr (.inl (some _))))]) rfl ?_
    refine gl (i' := 11) (fun _ _ => aw_iload_n K (dOf ck_mX7_readLike rfl rfl) rfl) ?_
    refine gl (i' := 12) (fun _ _ => aw_iconst K (n := -1) (i32 _ rfl) (dOf ck_mX7_readLike rfl rfl)) ?_
    refine g_icmp_ne K (dOf ck_mX7_readLike rfl rfl) (t := 14) (aJ_of (by decide +kernel)) (fun h4 => ?_) (fun h4 => ?_)
    · exact g_vret K (dOf ck_mX7_readLike rfl rfl).1 rfl rfl
    · refine gl (i' := 15) (fun _ _ => aw_iload_n K (dOf ck_mX7_readLike rfl rfl) rfl) ?_
      refine gl (i' := 16) (fun _ _ => aw_iload_n K (dOf ck_mX7_readLike rfl rfl) rfl) ?_
      refine g_icmp_ne K (dOf ck_mX7_readLike rfl rfl) (t := 21) (aJ_of (by decide +kernel)) (fun h5 => ?_) (fun h5 => ?_)
      · refine gl (i' := 18) (fun _ _ => aw_aload_n K (dOf ck_mX7_readLike rfl rfl) rfl) ?_
        refine gl (i' := 19) (fun _ _ => aw_iconst K (n := 3) (i32 _ rfl) (dOf ck_mX7_readLike rfl rfl)) ?_
        refine g_callVM K [.inl _] rfl (dOf ck_mX7_readLike rfl rfl) al_OneBreath_Tape_74 rfl rfl ⟨wd_506, wd_2⟩ rfl (Nat.le_of_ble_eq_true rfl) ⟨Nat.le_of_ble_eq_true rfl, Nat.le_of_ble_eq_true rfl⟩ (fun b hb => met_Tape_fail  hb) (fun r10 hr10 => ?_)
        exact g_vret K (dOf ck_mX7_readLike rfl rfl).1 rfl rfl
      · refine gl (i' := 22) (fun _ _ => aw_aload_n K (dOf ck_mX7_readLike rfl rfl) rfl) ?_
        refine gl (i' := 23) (fun _ _ => aw_getf K (dOf ck_mX7_readLike rfl rfl) rfl rfl (Nat.le_of_ble_eq_true rfl) wd_278 (k := 3) rfl) ?_
        refine gl (i' := 24) (fun _ _ => aw_getf K (dOf ck_mX7_readLike rfl rfl) rfl rfl (Nat.le_of_ble_eq_true rfl) wd_225 (k := 7) rfl) ?_
        refine gl (i' := 25) (fun _ _ => aw_iload_n K (dOf ck_mX7_readLike rfl rfl) rfl) ?_
        refine gl (i' := 26) (fun _ _ => aw_dup2_11 K rfl rfl (dOf ck_mX7_readLike rfl rfl)) ?_
        refine g_gd (fun hb6 => ?_)
        refine gl (i' := 27) (fun _ _ => aw_iald K (dOf ck_mX7_readLike rfl rfl) rfl hb6) ?_
        refine gl (i' := 28) (fun _ _ => aw_iconst K (n := 1) (i32 _ rfl) (dOf ck_mX7_readLike rfl rfl)) ?_
        refine gl (i' := 29) (fun _ _ => aw_iload_n K (dOf ck_mX7_readLike rfl rfl) rfl) ?_
        refine gl (i' := 30) (fun _ _ => aw_ishl K (dOf ck_mX7_readLike rfl rfl)) ?_
        refine gl (i' := 31) (fun _ _ => aw_ior K (dOf ck_mX7_readLike rfl rfl)) ?_
        refine g_st1 ?_
        refine gl (i' := 32) (fun _ _ => aw_iast K (dOf ck_mX7_readLike rfl rfl) rfl hb6) ?_
        refine gl (i' := 33) (fun _ _ => aw_aload_n K (dOf ck_mX7_readLike rfl rfl) rfl) ?_
        refine gl (i' := 34) (fun _ _ => aw_getf K (dOf ck_mX7_readLike rfl rfl) rfl rfl (Nat.le_of_ble_eq_true rfl) wd_278 (k := 3) rfl) ?_
        refine gl (i' := 35) (fun _ _ => aw_getf K (dOf ck_mX7_readLike rfl rfl) rfl rfl (Nat.le_of_ble_eq_true rfl) wd_225 (k := 7) rfl) ?_
        refine gl (i' := 36) (fun _ _ => aw_iload_n K (dOf ck_mX7_readLike rfl rfl) rfl) ?_
        refine gl (i' := 37) (fun _ _ => aw_dup2_11 K rfl rfl (dOf ck_mX7_readLike rfl rfl)) ?_
        refine g_gd (fun hb8 => ?_)
        refine gl (i' := 38) (fun _ _ => aw_iald K (dOf ck_mX7_readLike rfl rfl) rfl hb8) ?_
        refine gl (i' := 39) (fun _ _ => aw_iconst K (n := 1) (i32 _ rfl) (dOf ck_mX7_readLike rfl rfl)) ?_
        refine gl (i' := 40) (fun _ _ => aw_iload_n K (dOf ck_mX7_readLike rfl rfl) rfl) ?_
        refine gl (i' := 41) (fun _ _ => aw_ishl K (dOf ck_mX7_readLike rfl rfl)) ?_
        refine gl (i' := 42) (fun _ _ => aw_ior K (dOf ck_mX7_readLike rfl rfl)) ?_
        refine g_st1 ?_
        refine gl (i' := 43) (fun _ _ => aw_iast K (dOf ck_mX7_readLike rfl rfl) rfl hb8) ?_
        exact g_vret K (by decide +kernel) rfl rfl
