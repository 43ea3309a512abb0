def B_talk_4 (mm : aM) : Nat → Int → Int → Option Int
  | 0, _, _ => none
  | n + 1, x1, x2 => if x2 < (mm 25 2) then (if 0 ≤ x2 ∧ x2 < 12 then (B_talk_4 mm n (w32 (x1 + (w32 ((mm 42 x2.toNat) * (mm 41 x2.toNat))))) (w32 (x2 + 1))) else none) else (some x1)
set_option maxHeartbeats 4000000 in
theorem lk_B_talk_4 {p : Program} {l : Launch} {e : Env} {s : State} {m : MethodId} {args : Array Value} {below : List Frame} {meth : Method} {c : Code} {D : va_G} {cA : FieldType → ClassId} {ad adV : Nat → Nat} {z0 : Nat} {al0 : List Nat} {mm : aM} (K : aK p s m args meth c mX11_talk D cA ad adV z0)   : ∀ (n : Nat) (x1 : Int) (x2 : Int), aG p l e { frames := 0, cells := 0, slots := 0, locals := 0 } s m args below meth c D cA ad z0 mX11_talk al0 (rI mm) (B_talk_4 mm n x1 x2) 4 [(0, .inr (.inr (.inl (some 0)))), (1, .inl x1), (2, .inl x2)] [] mm := by
  intro n
  induction n with
  | zero => intro x1 x2; exact g_none
  | succ n ih =>
    intro x1 x2
    rw [B_talk_4]
    refine gl (i' := 5) (fun _ _ => aw_iload_n K (dOf ck_mX11_talk rfl rfl) rfl) ?_
    refine gl (i' := 6) (fun _ _ => aw_aload_n K (dOf ck_mX11_talk rfl rfl) rfl) ?_
    refine gl (i' := 7) (fun _ _ => aw_getf K (dOf ck_mX11_talk rfl rfl) rfl rfl (Nat.le_of_ble_eq_true rfl) wd_461 (k := 1) rfl) ?_
    refine gl (i' := 8) (fun _ _ => aw_getf K (dOf ck_mX11_talk rfl rfl) rfl rfl (Nat.le_of_ble_eq_true rfl) wd_202 (k := 2) rfl) ?_
    refine g_icmp_ge K (dOf ck_mX11_talk rfl rfl) (t := 25) (aJ_of (by decide +kernel)) (fun h1 => ?_) (fun h1 => ?_)
    · refine gl (i' := 10) (fun _ _ => aw_iload_n K (dOf ck_mX11_talk rfl rfl) rfl) ?_
      refine gl (i' := 11) (fun _ _ => aw_aload_n K (dOf ck_mX11_talk rfl rfl) rfl) ?_
      refine gl (i' := 12) (fun _ _ => aw_getf K (dOf ck_mX11_talk rfl rfl) rfl rfl (Nat.le_of_ble_eq_true rfl) wd_461 (k := 1) rfl) ?_
      refine gl (i' := 13) (fun _ _ => aw_getf K (dOf ck_mX11_talk rfl rfl) rfl rfl (Nat.le_of_ble_eq_true rfl) wd_247 (k := 10) rfl) ?_
      refine gl (i' := 14) (fun _ _ => aw_iload_n K (dOf ck_mX11_talk rfl rfl) rfl) ?_
      refine g_gd (fun hb2 => ?_)
      refine gl (i' := 15) (fun _ _ => aw_iald K (dOf ck_mX11_talk rfl rfl) rfl hb2) ?_
      refine gl (i' := 16) (fun _ _ => aw_aload_n K (dOf ck_mX11_talk rfl rfl) rfl) ?_
      refine gl (i' := 17) (fun _ _ => aw_getf K (dOf ck_mX11_talk rfl rfl) rfl rfl (Nat.le_of_ble_eq_true rfl) wd_461 (k := 1) rfl) ?_
      refine gl (i' := 18) (fun _ _ => aw_getf K (dOf ck_mX11_talk rfl rfl) rfl rfl (Nat.le_of_ble_eq_true rfl) wd_241 (k := 9) rfl) ?_
      refine gl (i' := 19) (fun _ _ => aw_iload_n K (dOf ck_mX11_talk rfl rfl) rfl) ?_
      refine gl (i' := 20) (fun _ _ => aw_iald K (dOf ck_mX11_talk rfl rfl) rfl hb2) ?_
      refine gl (i' := 21) (fun _ _ => aw_imul K (dOf ck_mX11_talk rfl rfl)) ?_
      refine gl (i' := 22) (fun _ _ => aw_iadd K (dOf ck_mX11_talk rfl rfl)) ?_
      refine gl (i' := 23) (fun _ _ => aw_istore_n K (dOf ck_mX11_talk rfl rfl) (Nat.le_of_ble_eq_true rfl)) ?_
      refine g_lv (lv' := [(1, .inl _), (0, .inr (.inr (.inl (some _)))), (2, .inl _)]) rfl ?_
      refine gl (i' := 24) (fun _ _ => aw_iinc K (dOf ck_mX11_talk rfl rfl) (Nat.le_of_ble_eq_true rfl) rfl) ?_
      refine g_lv (lv' := [(2, .inl _), (1, .inl _), (0, .inr (.inr (.inl (some _))))]) rfl ?_
      refine g_goto K (dOf ck_mX11_talk rfl rfl).1 (t := 4) (aJ_of (by decide +kernel)) ?_
      refine g_sub [2, 1, 0] rfl ?_
      exact ih _ _
    · refine gl (i' := 26) (fun _ _ => aw_iload_n K (dOf ck_mX11_talk rfl rfl) rfl) ?_
      exact g_iret K (by decide +kernel) rfl (Or.inl rfl) rfl
def B_talk  (mm : aM) : Option Int := B_talk_4 mm FU 0 0
set_option maxHeartbeats 4000000 in
theorem met_B_talk {l : Launch} {D : va_G} {cA : FieldType → ClassId} {ad adV : Nat → Nat} {z0 : Nat}  {mm : aM}  {r : Int} (h : B_talk  mm = some r) : aMet l D cA ad adV z0 mX11_talk 0 0 0 0 [.inr (.inr (.inl (some 0)))] SH mm ((rI mm) r).1 SH ((rI mm) r).2 := by
  refine aMet_ofG (by decide +kernel) rfl (Nat.le_of_ble_eq_true rfl) h (fun p e s m args below meth c al0 K => ?_)
  unfold B_talk
  refine gl (i' := 1) (fun _ _ => aw_iconst K (n := 0) (i32 _ rfl) (dOf ck_mX11_talk rfl rfl)) ?_
  refine gl (i' := 2) (fun _ _ => aw_istore_n K (dOf ck_mX11_talk rfl rfl) (Nat.le_of_ble_eq_true rfl)) ?_
  refine g_lv (lv' := [(1, .inl _), (0, .inr (.inr (.inl (some _))))]) rfl ?_
  refine gl (i' := 3) (fun _ _ => aw_iconst K (n := 0) (i32 _ rfl) (dOf ck_mX11_talk rfl rfl)) ?_
  refine gl (i' := 4) (fun _ _ => aw_istore_n K (dOf ck_mX11_talk rfl rfl) (Nat.le_of_ble_eq_true rfl)) ?_
  refine g_lv (lv' := [(2, .inl _), (1, .inl _), (0, .inr (.inr (.inl (some _))))]) rfl ?_
  refine g_sub [2, 1, 0] rfl ?_
  exact lk_B_talk_4 K FU _ _
def Census_addWeight (x1 : Int) (mm : aM) : Option aM := if (mm 120 2) < 20 then (if 0 ≤ (mm 120 2) ∧ (mm 120 2) < 20 then (st1 (aup mm 121 (mm 120 2).toNat x1) fun mm3 => (st1 (aup mm3 120 2 (w32 ((mm3 120 2) + 1))) fun mm4 => (some mm4))) else none) else (some mm)
set_option maxHeartbeats 4000000 in
theorem met_Census_addWeight {l : Launch} {D : va_G} {cA : FieldType → ClassId} {ad adV : Nat → Nat} {z0 : Nat} {x1 : Int} {mm : aM}  {r : aM} (h : Census_addWeight x1 mm = some r) : aMet l D cA ad adV z0 mX0_addWeight 0 0 0 0 [.inr (.inr (.inl (some 120))), .inl x1] SH mm (rM r).1 SH (rM r).2 := by
  refine aMet_ofG (by decide +kernel) rfl (Nat.le_of_ble_eq_true rfl) h (fun p e s m args below meth c al0 K => ?_)
  unfold Census_addWeight
  refine gl (i' := 1) (fun _ _ => aw_aload_n K (dOf ck_mX0_addWeight rfl rfl) rfl) ?_
  refine gl (i' := 2) (fun _ _ => aw_getf K (dOf ck_mX0_addWeight rfl rfl) rfl rfl (Nat.le_of_ble_eq_true rfl) wd_448 (k := 2) rfl) ?_
  refine gl (i' := 3) (fun _ _ => aw_bip K (dOf ck_mX0_addWeight rfl rfl) (v := 20) rfl) ?_
  refine g_icmp_ge K (dOf ck_mX0_addWeight rfl rfl) (t := 16) (aJ_of (by decide +kernel)) (fun h1 => ?_) (fun h1 => ?_)
  · refine gl (i' := 5) (fun _ _ => aw_aload_n K (dOf ck_mX0_addWeight rfl rfl) rfl) ?_
    refine gl (i' := 6) (fun _ _ => aw_getf K (dOf ck_mX0_addWeight rfl rfl) rfl rfl (Nat.le_of_ble_eq_true rfl) wd_447 (k := 1) rfl) ?_
    refine gl (i' := 7) (fun _ _ => aw_aload_n K (dOf ck_mX0_addWeight rfl rfl) rfl) ?_
    refine gl (i' := 8) (fun _ _ => aw_getf K (dOf ck_mX0_addWeight rfl rfl) rfl rfl (Nat.le_of_ble_eq_true rfl) wd_448 (k := 2) rfl) ?_
    refine gl (i' := 9) (fun _ _ => aw_iload_n K (dOf ck_mX0_addWeight rfl rfl) rfl) ?_
    refine g_gd (fun hb2 => ?_)
    refine g_st1 ?_
    refine gl (i' := 10) (fun _ _ => aw_iast K (dOf ck_mX0_addWeight rfl rfl) rfl hb2) ?_
    refine gl (i' := 11) (fun _ _ => aw_aload_n K (dOf ck_mX0_addWeight rfl rfl) rfl) ?_
    refine gl (i' := 12) (fun _ _ => aw_dup K rfl (dOf ck_mX0_addWeight rfl rfl)) ?_
    refine gl (i' := 13) (fun _ _ => aw_getf K (dOf ck_mX0_addWeight rfl rfl) rfl rfl (Nat.le_of_ble_eq_true rfl) wd_448 (k := 2) rfl) ?_
    refine gl (i' := 14) (fun _ _ => aw_iconst K (n := 1) (i32 _ rfl) (dOf ck_mX0_addWeight rfl rfl)) ?_
    refine gl (i' := 15) (fun _ _ => aw_iadd K (dOf ck_mX0_addWeight rfl rfl)) ?_
    refine g_st1 ?_
    refine gl (i' := 16) (fun _ _ => aw_putf K (dOf ck_mX0_addWeight rfl rfl) rfl rfl (Nat.le_of_ble_eq_true rfl) wd_448 (k := 2) rfl rfl (Or.inl rfl)) ?_
    exact g_vret K (by decide +kernel) rfl rfl
  · exact g_vret K (by decide +kernel) rfl rfl
def Census_takeLeast_19 (k4 : Int → Int → aM → Option (Int × aM)) (x1 : Int) (x2 : Int) (mm : aM) : Option (Int × aM) := k4 x1 (w32 (x2 + 1)) mm
set_option maxHeartbeats 4000000 in
theorem lk_Census_takeLeast_19 {p : Program} {l : Launch} {e : Env} {s : State} {m : MethodId} {args : Array Value} {below : List Frame} {meth : Method} {c : Code} {D : va_G} {cA : FieldType → ClassId} {ad adV : Nat → Nat} {z0 : Nat} {al0 : List Nat} (K : aK p s m args meth c mX0_takeLeast D cA ad adV z0) (x1 : Int) (x2 : Int) (k4 : Int → Int → aM → Option (Int × aM)) (hk4 : ∀ (x1 : Int) (x2 : Int) (mm : aM), aG p l e { frames := 0, cells := 0, slots := 0, locals := 0 } s m args below meth c D cA ad z0 mX0_takeLeast al0 rIM (k4 x1 x2 mm) 4 [(0, .inr (.inr (.inl (some 120)))), (1, .inl x1), (2, .inl x2)] [] mm)  (mm : aM) : aG p l e { frames := 0, cells := 0, slots := 0, locals := 0 } s m args below meth c D cA ad z0 mX0_takeLeast al0 rIM (Census_takeLeast_19 k4 x1 x2 mm) 19 [(0, .inr (.inr (.inl (some 120)))), (1, .inl x1), (2, .inl x2)] [] mm := by
  unfold Census_takeLeast_19
  refine gl (i' := 20) (fun _ _ => aw_iinc K (dOf ck_mX0_takeLeast rfl rfl) (Nat.le_of_ble_eq_true rfl) rfl) ?_
  refine g_lv (lv' := [(2, .inl _), (0, .inr (.inr (.inl (some _)))), (1, .inl _)]) rfl ?_
  refine g_goto K (dOf ck_mX0_takeLeast rfl rfl).1 (t := 4) (aJ_of (by decide +kernel)) ?_
  refine g_sub [1, 2, 0] rfl ?_
  exact hk4 _ _ _
def Census_takeLeast_4  : Nat → Int → Int → aM → Option (Int × aM)
  | 0, _, _, _ => none
  | n + 1, x1, x2, mm => if x2 < (mm 120 2) then (if 0 ≤ x2 ∧ x2 < 20 then (if 0 ≤ x1 ∧ x1 < 20 then (if (mm 121 x2.toNat) < (mm 121 x1.toNat) then (Census_takeLeast_19 (Census_takeLeast_4 n) x2 x2 mm) else (Census_takeLeast_19 (Census_takeLeast_4 n) x1 x2 mm)) else none) else none) else (if 0 ≤ x1 ∧ x1 < 20 then (st1 (aup mm 120 2 (w32 ((mm 120 2) - 1))) fun mm3 => (if 0 ≤ (mm3 120 2) ∧ (mm3 120 2) < 20 then (st1 (aup mm3 121 x1.toNat (mm3 121 (mm3 120 2).toNat)) fun mm5 => (some (mm 121 x1.toNat, mm5))) else none)) else none)
set_option maxHeartbeats 4000000 in
theorem lk_Census_takeLeast_4 {p : Program} {l : Launch} {e : Env} {s : State} {m : MethodId} {args : Array Value} {below : List Frame} {meth : Method} {c : Code} {D : va_G} {cA : FieldType → ClassId} {ad adV : Nat → Nat} {z0 : Nat} {al0 : List Nat} (K : aK p s m args meth c mX0_takeLeast D cA ad adV z0)   : ∀ (n : Nat) (x1 : Int) (x2 : Int) (mm : aM), aG p l e { frames := 0, cells := 0, slots := 0, locals := 0 } s m args below meth c D cA ad z0 mX0_takeLeast al0 rIM (Census_takeLeast_4 n x1 x2 mm) 4 [(0, .inr (.inr (.inl (some 120)))), (1, .inl x1), (2, .inl x2)] [] mm := by
  intro n
  induction n with
  | zero => intro x1 x2 mm; exact g_none
  | succ n ih =>
    intro x1 x2 mm
    rw [Census_takeLeast_4]
    refine gl (i' := 5) (fun _ _ => aw_iload_n K (dOf ck_mX0_takeLeast rfl rfl) rfl) ?_
    refine gl (i' := 6) (fun _ _ => aw_aload_n K (dOf ck_mX0_takeLeast rfl rfl) rfl) ?_
    refine gl (i' := 7) (fun _ _ => aw_getf K (dOf ck_mX0_takeLeast rfl rfl) rfl rfl (Nat.le_of_ble_eq_true rfl) wd_448 (k := 2) rfl) ?_
    refine g_icmp_ge K (dOf ck_mX0_takeLeast rfl rfl) (t := 21) (aJ_of (by decide +kernel)) (fun h1 => ?_) (fun h1 => ?_)
    · refine gl (i' := 9) (fun _ _ => aw_aload_n K (dOf ck_mX0_takeLeast rfl rfl) rfl) ?_
      refine gl (i' := 10) (fun _ _ => aw_getf K (dOf ck_mX0_takeLeast rfl rfl) rfl rfl (Nat.le_of_ble_eq_true rfl) wd_447 (k := 1) rfl) ?_
      refine gl (i' := 11) (fun _ _ => aw_iload_n K (dOf ck_mX0_takeLeast rfl rfl) rfl) ?_
      refine g_gd (fun hb6 => ?_)
      refine gl (i' := 12) (fun _ _ => aw_iald K (dOf ck_mX0_takeLeast rfl rfl) rfl hb6) ?_
      refine gl (i' := 13) (fun _ _ => aw_aload_n K (dOf ck_mX0_takeLeast rfl rfl) rfl) ?_
      refine gl (i' := 14) (fun _ _ => aw_getf K (dOf ck_mX0_takeLeast rfl rfl) rfl rfl (Nat.le_of_ble_eq_true rfl) wd_447 (k := 1) rfl) ?_
      refine gl (i' := 15) (fun _ _ => aw_iload_n K (dOf ck_mX0_takeLeast rfl rfl) rfl) ?_
      refine g_gd (fun hb7 => ?_)
      refine gl (i' := 16) (fun _ _ => aw_iald K (dOf ck_mX0_takeLeast rfl rfl) rfl hb7) ?_
      refine g_icmp_ge K (dOf ck_mX0_takeLeast rfl rfl) (t := 19) (aJ_of (by decide +kernel)) (fun h8 => ?_) (fun h8 => ?_)
      · refine gl (i' := 18) (fun _ _ => aw_iload_n K (dOf ck_mX0_takeLeast rfl rfl) rfl) ?_
        refine gl (i' := 19) (fun _ _ => aw_istore_n K (dOf ck_mX0_takeLeast rfl rfl) (Nat.le_of_ble_eq_true rfl)) ?_
        refine g_lv (lv' := [(1, .inl _), (0, .inr (.inr (.inl (some _)))), (2, .inl _)]) rfl ?_
        refine g_sub [1, 0, 2] rfl ?_
        exact lk_Census_takeLeast_19 K _ _ _ ih _
      · refine g_sub [0, 1, 2] rfl ?_
        exact lk_Census_takeLeast_19 K _ _ _ ih _
    · refine gl (i' := 22) (fun _ _ => aw_aload_n K (dOf ck_mX0_takeLeast rfl rfl) rfl) ?_
      refine gl (i' := 23) (fun _ _ => aw_getf K (dOf ck_mX0_takeLeast rfl rfl) rfl rfl (Nat.le_of_ble_eq_true rfl) wd_447 (k := 1) rfl) ?_
      refine gl (i' := 24) (fun _ _ => aw_iload_n K (dOf ck_mX0_takeLeast rfl rfl) rfl) ?_
      refine g_gd (fun hb2 => ?_)
      refine gl (i' := 25) (fun _ _ => aw_iald K (dOf ck_mX0_takeLeast rfl rfl) rfl hb2) ?_
      refine gl (i' := 26) (fun _ _ => aw_istore_n K (dOf ck_mX0_takeLeast rfl rfl) (Nat.le_of_ble_eq_true rfl)) ?_
      refine g_lv (lv' := [(2, .inl _), (0, .inr (.inr (.inl (some _)))), (1, .inl _)]) rfl ?_
      refine gl (i' := 27) (fun _ _ => aw_aload_n K (dOf ck_mX0_takeLeast rfl rfl) rfl) ?_
      refine gl (i' := 28) (fun _ _ => aw_dup K rfl (dOf ck_mX0_takeLeast rfl rfl)) ?_
      refine gl (i' := 29) (fun _ _ => aw_getf K (dOf ck_mX0_takeLeast rfl rfl) rfl rfl (Nat.le_of_ble_eq_true rfl) wd_448 (k := 2) rfl) ?_
      refine gl (i' := 30) (fun _ _ => aw_iconst K (n := 1) (i32 _ rfl) (dOf ck_mX0_takeLeast rfl rfl)) ?_
      refine gl (i' := 31) (fun _ _ => aw_isub K (dOf ck_mX0_takeLeast rfl rfl)) ?_
      refine g_st1 ?_
      refine gl (i' := 32) (fun _ _ => aw_putf K (dOf ck_mX0_takeLeast rfl rfl) rfl rfl (Nat.le_of_ble_eq_true rfl) wd_448 (k := 2) rfl rfl (Or.inl rfl)) ?_
      refine gl (i' := 33) (fun _ _ => aw_aload_n K (dOf ck_mX0_takeLeast rfl rfl) rfl) ?_
      refine gl (i' := 34) (fun _ _ => aw_getf K (dOf ck_mX0_takeLeast rfl rfl) rfl rfl (Nat.le_of_ble_eq_true rfl) wd_447 (k := 1) rfl) ?_
      refine gl (i' := 35) (fun _ _ => aw_iload_n K (dOf ck_mX0_takeLeast rfl rfl) rfl) ?_
      refine gl (i' := 36) (fun _ _ => aw_aload_n K (dOf ck_mX0_takeLeast rfl rfl) rfl) ?_
      refine gl (i' := 37) (fun _ _ => aw_getf K (dOf ck_mX0_takeLeast rfl rfl) rfl rfl (Nat.le_of_ble_eq_true rfl) wd_447 (k := 1) rfl) ?_
      refine gl (i' := 38) (fun _ _ => aw_aload_n K (dOf ck_mX0_takeLeast rfl rfl) rfl) ?_
      refine gl (i' := 39) (fun _ _ => aw_getf K (dOf ck_mX0_takeLeast rfl rfl) rfl rfl (Nat.le_of_ble_eq_true rfl) wd_448 (k := 2) rfl) ?_
      refine g_gd (fun hb4 => ?_)
      refine gl (i' := 40) (fun _ _ => aw_iald K (dOf ck_mX0_takeLeast rfl rfl) rfl hb4) ?_
      refine g_st1 ?_
      refine gl (i' := 41) (fun _ _ => aw_iast K (dOf ck_mX0_takeLeast rfl rfl) rfl hb2) ?_
      refine gl (i' := 42) (fun _ _ => aw_iload_n K (dOf ck_mX0_takeLeast rfl rfl) rfl) ?_
      exact g_iret K (by decide +kernel) rfl (Or.inl rfl) rfl
def Census_takeLeast  (mm : aM) : Option (Int × aM) := Census_takeLeast_4 FU 0 1 mm
set_option maxHeartbeats 4000000 in
theorem met_Census_takeLeast {l : Launch} {D : va_G} {cA : FieldType → ClassId} {ad adV : Nat → Nat} {z0 : Nat}  {mm : aM}  {r : Int × aM} (h : Census_takeLeast  mm = some r) : aMet l D cA ad adV z0 mX0_takeLeast 0 0 0 0 [.inr (.inr (.inl (some 120)))] SH mm (rIM r).1 SH (rIM r).2 := by
  refine aMet_ofG (by decide +kernel) rfl (Nat.le_of_ble_eq_true rfl) h (fun p e s m args below meth c al0 K => ?_)
  unfold Census_takeLeast
  refine gl (i' := 1) (fun _ _ => aw_iconst K (n := 0) (i32 _ rfl) (dOf ck_mX0_takeLeast rfl rfl)) ?_
  refine gl (i' := 2) (fun _ _ => aw_istore_n K (dOf ck_mX0_takeLeast rfl rfl) (Nat.le_of_ble_eq_true rfl)) ?_
  refine g_lv (lv' := [(1, .inl _), (0, .inr (.inr (.inl (some _))))]) rfl ?_
  refine gl (i' := 3) (fun _ _ => aw_iconst K (n := 1) (i32 _ rfl) (dOf ck_mX0_takeLeast rfl rfl)) ?_
  refine gl (i' := 4) (fun _ _ => aw_istore_n K (dOf ck_mX0_takeLeast rfl rfl) (Nat.le_of_ble_eq_true rfl)) ?_
  refine g_lv (lv' := [(2, .inl _), (1, .inl _), (0, .inr (.inr (.inl (some _))))]) rfl ?_
  refine g_sub [2, 1, 0] rfl ?_
  exact lk_Census_takeLeast_4 K FU _ _ _
def Census_leastTalk_84 (k60 : Int → Int → aM → Option (Int × aM)) (x1 : Int) (x3 : Int) (x4 : Int) (x5 : Int) (mm : aM) : Option (Int × aM) := (Census_addWeight x5 mm).bind fun r9 => (k60 (w32 (x3 + x5)) (w32 (x4 + 1)) r9)
set_option maxHeartbeats 4000000 in
theorem lk_Census_leastTalk_84 {p : Program} {l : Launch} {e : Env} {s : State} {m : MethodId} {args : Array Value} {below : List Frame} {meth : Method} {c : Code} {D : va_G} {cA : FieldType → ClassId} {ad adV : Nat → Nat} {z0 : Nat} {al0 : List Nat} (K : aK p s m args meth c mX0_leastTalk D cA ad adV z0) (x1 : Int) (x3 : Int) (x4 : Int) (x5 : Int) (k60 : Int → Int → aM → Option (Int × aM)) (hk60 : ∀ (x3 : Int) (x4 : Int) (mm : aM), aG p l e { frames := 1, cells := 0, slots := 0, locals := 22 } s m args below meth c D cA ad z0 mX0_leastTalk al0 rIM (k60 x3 x4 mm) 60 [(0, .inr (.inr (.inl (some 120)))), (1, .inl x1), (3, .inl x3), (4, .inl x4)] [] mm)  (mm : aM) : aG p l e { frames := 1, cells := 0, slots := 0, locals := 22 } s m args below meth c D cA ad z0 mX0_leastTalk al0 rIM (Census_leastTalk_84 k60 x1 x3 x4 x5 mm) 84 [(0, .inr (.inr (.inl (some 120)))), (1, .inl x1), (3, .inl x3), (4, .inl x4), (5, .inl x5)] [] mm := by
  unfold Census_leastTalk_84
  refine gl (i' := 85) (fun _ _ => aw_aload_n K (dOf ck_mX0_leastTalk rfl rfl) rfl) ?_
  refine gl (i' := 86) (fun _ _ => aw_iload K (dOf ck_mX0_leastTalk rfl rfl) rfl) ?_
  refine g_callVM K [.inl _] rfl (dOf ck_mX0_leastTalk rfl rfl) al_OneBreath_Census_51 rfl rfl ⟨wd_1057, wd_55⟩ rfl (Nat.le_of_ble_eq_true rfl) ⟨Nat.le_of_ble_eq_true rfl, Nat.le_of_ble_eq_true rfl⟩ (fun b hb => met_Census_addWeight  hb) (fun r9 hr9 => ?_)
  refine gl (i' := 88) (fun _ _ => aw_iload_n K (dOf ck_mX0_leastTalk rfl rfl) rfl) ?_
  refine gl (i' := 89) (fun _ _ => aw_iload K (dOf ck_mX0_leastTalk rfl rfl) rfl) ?_
  refine gl (i' := 90) (fun _ _ => aw_iadd K (dOf ck_mX0_leastTalk rfl rfl)) ?_
  refine gl (i' := 91) (fun _ _ => aw_istore_n K (dOf ck_mX0_leastTalk rfl rfl) (Nat.le_of_ble_eq_true rfl)) ?_
  refine g_lv (lv' := [(3, .inl _), (0, .inr (.inr (.inl (some _)))), (1, .inl _), (4, .inl _), (5, .inl _)]) rfl ?_
  refine gl (i' := 92) (fun _ _ => aw_iinc K (dOf ck_mX0_leastTalk rfl rfl) (Nat.le_of_ble_eq_true rfl) rfl) ?_
  refine g_lv (lv' := [(4, .inl _), (3, .inl _), (0, .inr (.inr (.inl (some _)))), (1, .inl _), (5, .inl _)]) rfl ?_
  refine g_goto K (dOf ck_mX0_leastTalk rfl rfl).1 (t := 60) (aJ_of (by decide +kernel)) ?_
  refine g_sub [2, 3, 1, 0] rfl ?_
  exact hk60 _ _ _
def Census_leastTalk_71 (k60 : Int → Int → aM → Option (Int × aM)) (x1 : Int) (x3 : Int) (x4 : Int) : Nat → Int → Int → aM → Option (Int × aM)
  | 0, _, _, _ => none
  | n + 1, x5, x6, mm => if x6 < x1 then (if 0 < (mm 120 2) then ((Census_takeLeast mm).bind fun r11 => (Census_leastTalk_71 k60 x1 x3 x4 n (w32 (x5 + r11.1)) (w32 (x6 + 1)) r11.2)) else (Census_leastTalk_84 k60 x1 x3 x4 x5 mm)) else (Census_leastTalk_84 k60 x1 x3 x4 x5 mm)
set_option maxHeartbeats 4000000 in
theorem lk_Census_leastTalk_71 {p : Program} {l : Launch} {e : Env} {s : State} {m : MethodId} {args : Array Value} {below : List Frame} {meth : Method} {c : Code} {D : va_G} {cA : FieldType → ClassId} {ad adV : Nat → Nat} {z0 : Nat} {al0 : List Nat} (K : aK p s m args meth c mX0_leastTalk D cA ad adV z0) (x1 : Int) (x3 : Int) (x4 : Int) (k60 : Int → Int → aM → Option (Int × aM)) (hk60 : ∀ (x3 : Int) (x4 : Int) (mm : aM), aG p l e { frames := 1, cells := 0, slots := 0, locals := 22 } s m args below meth c D cA ad z0 mX0_leastTalk al0 rIM (k60 x3 x4 mm) 60 [(0, .inr (.inr (.inl (some 120)))), (1, .inl x1), (3, .inl x3), (4, .inl x4)] [] mm)  : ∀ (n : Nat) (x5 : Int) (x6 : Int) (mm : aM), aG p l e { frames := 1, cells := 0, slots := 0, locals := 22 } s m args below meth c D cA ad z0 mX0_leastTalk al0 rIM (Census_leastTalk_71 k60 x1 x3 x4 n x5 x6 mm) 71 [(0, .inr (.inr (.inl (some 120)))), (1, .inl x1), (3, .inl x3), (4, .inl x4), (5, .inl x5), (6, .inl x6)] [] mm := by
  intro n
  induction n with
  | zero => intro x5 x6 mm; exact g_none
  | succ n ih =>
    intro x5 x6 mm
    rw [Census_leastTalk_71]
    refine gl (i' := 72) (fun _ _ => aw_iload K (dOf ck_mX0_leastTalk rfl rfl) rfl) ?_
    refine gl (i' := 73) (fun _ _ => aw_iload_n K (dOf ck_mX0_leastTalk rfl rfl) rfl) ?_
    refine g_icmp_ge K (dOf ck_mX0_leastTalk rfl rfl) (t := 84) (aJ_of (by decide +kernel)) (fun h8 => ?_) (fun h8 => ?_)
    · refine gl (i' := 75) (fun _ _ => aw_aload_n K (dOf ck_mX0_leastTalk rfl rfl) rfl) ?_
      refine gl (i' := 76) (fun _ _ => aw_getf K (dOf ck_mX0_leastTalk rfl rfl) rfl rfl (Nat.le_of_ble_eq_true rfl) wd_448 (k := 2) rfl) ?_
      refine g_if_le K (dOf ck_mX0_leastTalk rfl rfl) (t := 84) (aJ_of (by decide +kernel)) (fun h10 => ?_) (fun h10 => ?_)
      · refine gl (i' := 78) (fun _ _ => aw_iload K (dOf ck_mX0_leastTalk rfl rfl) rfl) ?_
        refine gl (i' := 79) (fun _ _ => aw_aload_n K (dOf ck_mX0_leastTalk rfl rfl) rfl) ?_
        refine g_callVIM K [] rfl (dOf ck_mX0_leastTalk rfl rfl) al_OneBreath_Census_61 rfl rfl ⟨wd_1061, wd_56⟩ rfl (Nat.le_of_ble_eq_true rfl) ⟨Nat.le_of_ble_eq_true rfl, Nat.le_of_ble_eq_true rfl⟩ (fun b hb => met_Census_takeLeast  hb) (fun r11 hr11 => ?_)
        refine gl (i' := 81) (fun _ _ => aw_iadd K (dOf ck_mX0_leastTalk rfl rfl)) ?_
        refine gl (i' := 82) (fun _ _ => aw_istore K (dOf ck_mX0_leastTalk rfl rfl) (Nat.le_of_ble_eq_true rfl)) ?_
        refine g_lv (lv' := [(5, .inl _), (0, .inr (.inr (.inl (some _)))), (1, .inl _), (3, .inl _), (4, .inl _), (6, .inl _)]) rfl ?_
        refine gl (i' := 83) (fun _ _ => aw_iinc K (dOf ck_mX0_leastTalk rfl rfl) (Nat.le_of_ble_eq_true rfl) rfl) ?_
        refine g_lv (lv' := [(6, .inl _), (5, .inl _), (0, .inr (.inr (.inl (some _)))), (1, .inl _), (3, .inl _), (4, .inl _)]) rfl ?_
        refine g_goto K (dOf ck_mX0_leastTalk rfl rfl).1 (t := 71) (aJ_of (by decide +kernel)) ?_
        refine g_sub [2, 3, 4, 5, 1, 0] rfl ?_
        exact ih _ _ _
      · refine g_sub [0, 1, 2, 3, 4] rfl ?_
        exact lk_Census_leastTalk_84 K _ _ _ _ _ hk60 _
    · refine g_sub [0, 1, 2, 3, 4] rfl ?_
      exact lk_Census_leastTalk_84 K _ _ _ _ _ hk60 _
def Census_leastTalk_60 (x1 : Int) : Nat → Int → Int → aM → Option (Int × aM)
  | 0, _, _, _ => none
  | n + 1, x3, x4, mm => if x4 < 20 then (if 1 < (mm 120 2) then (Census_leastTalk_71 (Census_leastTalk_60 x1 n) x1 x3 x4 FU 0 0 mm) else (some (x3, mm))) else (some (x3, mm))
set_option maxHeartbeats 4000000 in
theorem lk_Census_leastTalk_60 {p : Program} {l : Launch} {e : Env} {s : State} {m : MethodId} {args : Array Value} {below : List Frame} {meth : Method} {c : Code} {D : va_G} {cA : FieldType → ClassId} {ad adV : Nat → Nat} {z0 : Nat} {al0 : List Nat} (K : aK p s m args meth c mX0_leastTalk D cA ad adV z0) (x1 : Int)  : ∀ (n : Nat) (x3 : Int) (x4 : Int) (mm : aM), aG p l e { frames := 1, cells := 0, slots := 0, locals := 22 } s m args below meth c D cA ad z0 mX0_leastTalk al0 rIM (Census_leastTalk_60 x1 n x3 x4 mm) 60 [(0, .inr (.inr (.inl (some 120)))), (1, .inl x1), (3, .inl x3), (4, .inl x4)] [] mm := by
  intro n
  induction n with
  | zero => intro x3 x4 mm; exact g_none
  | succ n ih =>
    intro x3 x4 mm
    rw [Census_leastTalk_60]
    refine gl (i' := 61) (fun _ _ => aw_iload K (dOf ck_mX0_leastTalk rfl rfl) rfl) ?_
    refine gl (i' := 62) (fun _ _ => aw_bip K (dOf ck_mX0_leastTalk rfl rfl) (v := 20) rfl) ?_
    refine g_icmp_ge K (dOf ck_mX0_leastTalk rfl rfl) (t := 93) (aJ_of (by decide +kernel)) (fun h6 => ?_) (fun h6 => ?_)
    · refine gl (i' := 64) (fun _ _ => aw_aload_n K (dOf ck_mX0_leastTalk rfl rfl) rfl) ?_
      refine gl (i' := 65) (fun _ _ => aw_getf K (dOf ck_mX0_leastTalk rfl rfl) rfl rfl (Nat.le_of_ble_eq_true rfl) wd_448 (k := 2) rfl) ?_
      refine gl (i' := 66) (fun _ _ => aw_iconst K (n := 1) (i32 _ rfl) (dOf ck_mX0_leastTalk rfl rfl)) ?_
      refine g_icmp_le K (dOf ck_mX0_leastTalk rfl rfl) (t := 93) (aJ_of (by decide +kernel)) (fun h7 => ?_) (fun h7 => ?_)
      · refine gl (i' := 68) (fun _ _ => aw_iconst K (n := 0) (i32 _ rfl) (dOf ck_mX0_leastTalk rfl rfl)) ?_
        refine gl (i' := 69) (fun _ _ => aw_istore K (dOf ck_mX0_leastTalk rfl rfl) (Nat.le_of_ble_eq_true rfl)) ?_
        refine g_lv (lv' := [(5, .inl _), (0, .inr (.inr (.inl (some _)))), (1, .inl _), (3, .inl _), (4, .inl _)]) rfl ?_
        refine gl (i' := 70) (fun _ _ => aw_iconst K (n := 0) (i32 _ rfl) (dOf ck_mX0_leastTalk rfl rfl)) ?_
        refine gl (i' := 71) (fun _ _ => aw_istore K (dOf ck_mX0_leastTalk rfl rfl) (Nat.le_of_ble_eq_true rfl)) ?_
        refine g_lv (lv' := [(6, .inl _), (5, .inl _), (0, .inr (.inr (.inl (some _)))), (1, .inl _), (3, .inl _), (4, .inl _)]) rfl ?_
        refine g_sub [2, 3, 4, 5, 1, 0] rfl ?_
        exact lk_Census_leastTalk_71 K _ _ _ _ ih FU _ _ _
      · refine gl (i' := 94) (fun _ _ => aw_iload_n K (dOf ck_mX0_leastTalk rfl rfl) rfl) ?_
        exact g_iret K (by decide +kernel) rfl (Or.inl rfl) rfl
    · refine gl (i' := 94) (fun _ _ => aw_iload_n K (dOf ck_mX0_leastTalk rfl rfl) rfl) ?_
      exact g_iret K (by decide +kernel) rfl (Or.inl rfl) rfl
def Census_leastTalk_56 (x1 : Int) (mm : aM) : Option (Int × aM) := Census_leastTalk_60 x1 FU 0 0 mm
set_option maxHeartbeats 4000000 in
theorem lk_Census_leastTalk_56 {p : Program} {l : Launch} {e : Env} {s : State} {m : MethodId} {args : Array Value} {below : List Frame} {meth : Method} {c : Code} {D : va_G} {cA : FieldType → ClassId} {ad adV : Nat → Nat} {z0 : Nat} {al0 : List Nat} (K : aK p s m args meth c mX0_leastTalk D cA ad adV z0) (x1 : Int)  (mm : aM) : aG p l e { frames := 1, cells := 0, slots := 0, locals := 22 } s m args below meth c D cA ad z0 mX0_leastTalk al0 rIM (Census_leastTalk_56 x1 mm) 56 [(0, .inr (.inr (.inl (some 120)))), (1, .inl x1)] [] mm := by
  unfold Census_leastTalk_56
  refine gl (i' := 57) (fun _ _ => aw_iconst K (n := 0) (i32 _ rfl) (dOf ck_mX0_leastTalk rfl rfl)) ?_
  refine gl (i' := 58) (fun _ _ => aw_istore_n K (dOf ck_mX0_leastTalk rfl rfl) (Nat.le_of_ble_eq_true rfl)) ?_
  refine g_lv (lv' := [(3, .inl _), (0, .inr (.inr (.inl (some _)))), (1, .inl _)]) rfl ?_
  refine gl (i' := 59) (fun _ _ => aw_iconst K (n := 0) (i32 _ rfl) (dOf ck_mX0_leastTalk rfl rfl)) ?_
  refine gl (i' := 60) (fun _ _ => aw_istore K (dOf ck_mX0_leastTalk rfl rfl) (Nat.le_of_ble_eq_true rfl)) ?_
  refine g_lv (lv' := [(4, .inl _), (3, .inl _), (0, .inr (.inr (.inl (some _)))), (1, .inl _)]) rfl ?_
  refine g_sub [2, 3, 1, 0] rfl ?_
  exact lk_Census_leastTalk_60 K _ FU _ _ _
def Census_leastTalk_37 (x1 : Int) (x2 : Int) : Nat → Int → aM → Option (Int × aM)
  | 0, _, _ => none
  | n + 1, x3, mm => if x3 < x1 then (if 0 < (mm 25 2) then (if x2 ≠ 0 then (if (Int.tmod (w32 ((mm 120 2) - 1)) x2) = 0 then (Census_leastTalk_56 x1 mm) else ((Census_addWeight 0 mm).bind fun r15 => (Census_leastTalk_37 x1 x2 n (w32 (x3 + 1)) r15))) else none) else (Census_leastTalk_56 x1 mm)) else (Census_leastTalk_56 x1 mm)
set_option maxHeartbeats 4000000 in
theorem lk_Census_leastTalk_37 {p : Program} {l : Launch} {e : Env} {s : State} {m : MethodId} {args : Array Value} {below : List Frame} {meth : Method} {c : Code} {D : va_G} {cA : FieldType → ClassId} {ad adV : Nat → Nat} {z0 : Nat} {al0 : List Nat} (K : aK p s m args meth c mX0_leastTalk D cA ad adV z0) (x1 : Int) (x2 : Int)  : ∀ (n : Nat) (x3 : Int) (mm : aM), aG p l e { frames := 1, cells := 0, slots := 0, locals := 22 } s m args below meth c D cA ad z0 mX0_leastTalk al0 rIM (Census_leastTalk_37 x1 x2 n x3 mm) 37 [(0, .inr (.inr (.inl (some 120)))), (1, .inl x1), (2, .inl x2), (3, .inl x3)] [] mm := by
  intro n
  induction n with
  | zero => intro x3 mm; exact g_none
  | succ n ih =>
    intro x3 mm
    rw [Census_leastTalk_37]
    refine gl (i' := 38) (fun _ _ => aw_iload_n K (dOf ck_mX0_leastTalk rfl rfl) rfl) ?_
    refine gl (i' := 39) (fun _ _ => aw_iload_n K (dOf ck_mX0_leastTalk rfl rfl) rfl) ?_
    refine g_icmp_ge K (dOf ck_mX0_leastTalk rfl rfl) (t := 56) (aJ_of (by decide +kernel)) (fun h5 => ?_) (fun h5 => ?_)
    · refine gl (i' := 41) (fun _ _ => aw_aload_n K (dOf ck_mX0_leastTalk rfl rfl) rfl) ?_
      refine gl (i' := 42) (fun _ _ => aw_getf K (dOf ck_mX0_leastTalk rfl rfl) rfl rfl (Nat.le_of_ble_eq_true rfl) wd_446 (k := 0) rfl) ?_
      refine gl (i' := 43) (fun _ _ => aw_getf K (dOf ck_mX0_leastTalk rfl rfl) rfl rfl (Nat.le_of_ble_eq_true rfl) wd_197 (k := 2) rfl) ?_
      refine g_if_le K (dOf ck_mX0_leastTalk rfl rfl) (t := 56) (aJ_of (by decide +kernel)) (fun h12 => ?_) (fun h12 => ?_)
      · refine gl (i' := 45) (fun _ _ => aw_aload_n K (dOf ck_mX0_leastTalk rfl rfl) rfl) ?_
        refine gl (i' := 46) (fun _ _ => aw_getf K (dOf ck_mX0_leastTalk rfl rfl) rfl rfl (Nat.le_of_ble_eq_true rfl) wd_448 (k := 2) rfl) ?_
        refine gl (i' := 47) (fun _ _ => aw_iconst K (n := 1) (i32 _ rfl) (dOf ck_mX0_leastTalk rfl rfl)) ?_
        refine gl (i' := 48) (fun _ _ => aw_isub K (dOf ck_mX0_leastTalk rfl rfl)) ?_
        refine gl (i' := 49) (fun _ _ => aw_iload_n K (dOf ck_mX0_leastTalk rfl rfl) rfl) ?_
        refine g_gd (fun hb13 => ?_)
        refine gl (i' := 50) (fun _ _ => aw_irem K hb13 (dOf ck_mX0_leastTalk rfl rfl)) ?_
        refine g_if_eq K (dOf ck_mX0_leastTalk rfl rfl) (t := 56) (aJ_of (by decide +kernel)) (fun h14 => ?_) (fun h14 => ?_)
        · refine g_sub [0, 1] rfl ?_
          exact lk_Census_leastTalk_56 K _ _
        · refine gl (i' := 52) (fun _ _ => aw_aload_n K (dOf ck_mX0_leastTalk rfl rfl) rfl) ?_
          refine gl (i' := 53) (fun _ _ => aw_iconst K (n := 0) (i32 _ rfl) (dOf ck_mX0_leastTalk rfl rfl)) ?_
          refine g_callVM K [.inl _] rfl (dOf ck_mX0_leastTalk rfl rfl) al_OneBreath_Census_51 rfl rfl ⟨wd_1057, wd_55⟩ rfl (Nat.le_of_ble_eq_true rfl) ⟨Nat.le_of_ble_eq_true rfl, Nat.le_of_ble_eq_true rfl⟩ (fun b hb => met_Census_addWeight  hb) (fun r15 hr15 => ?_)
          refine gl (i' := 55) (fun _ _ => aw_iinc K (dOf ck_mX0_leastTalk rfl rfl) (Nat.le_of_ble_eq_true rfl) rfl) ?_
          refine g_lv (lv' := [(3, .inl _), (0, .inr (.inr (.inl (some _)))), (1, .inl _), (2, .inl _)]) rfl ?_
          refine g_goto K (dOf ck_mX0_leastTalk rfl rfl).1 (t := 37) (aJ_of (by decide +kernel)) ?_
          refine g_sub [1, 2, 3, 0] rfl ?_
          exact ih _ _
      · refine g_sub [0, 1] rfl ?_
        exact lk_Census_leastTalk_56 K _ _
    · refine g_sub [0, 1] rfl ?_
      exact lk_Census_leastTalk_56 K _ _
def Census_leastTalk_5 (x1 : Int) : Nat → Int → aM → Option (Int × aM)
  | 0, _, _ => none
  | n + 1, x2, mm => if x2 < (mm 25 2) then (if 0 ≤ x2 ∧ x2 < 12 then ((Census_addWeight (mm 42 x2.toNat) mm).bind fun r17 => (Census_leastTalk_5 x1 n (w32 (x2 + 1)) r17)) else none) else (if (mm 25 2) = 1 then (some (mm 121 0, mm)) else ((Jmath_max 1 (w32 (x1 - 1)) mm).bind fun r4 => (Census_leastTalk_37 x1 r4 FU 0 mm)))
set_option maxHeartbeats 4000000 in
theorem lk_Census_leastTalk_5 {p : Program} {l : Launch} {e : Env} {s : State} {m : MethodId} {args : Array Value} {below : List Frame} {meth : Method} {c : Code} {D : va_G} {cA : FieldType → ClassId} {ad adV : Nat → Nat} {z0 : Nat} {al0 : List Nat} (K : aK p s m args meth c mX0_leastTalk D cA ad adV z0) (x1 : Int)  : ∀ (n : Nat) (x2 : Int) (mm : aM), aG p l e { frames := 1, cells := 0, slots := 0, locals := 22 } s m args below meth c D cA ad z0 mX0_leastTalk al0 rIM (Census_leastTalk_5 x1 n x2 mm) 5 [(0, .inr (.inr (.inl (some 120)))), (1, .inl x1), (2, .inl x2)] [] mm := by
  intro n
  induction n with
  | zero => intro x2 mm; exact g_none
  | succ n ih =>
    intro x2 mm
    rw [Census_leastTalk_5]
    refine gl (i' := 6) (fun _ _ => aw_iload_n K (dOf ck_mX0_leastTalk rfl rfl) rfl) ?_
    refine gl (i' := 7) (fun _ _ => aw_aload_n K (dOf ck_mX0_leastTalk rfl rfl) rfl) ?_
    refine gl (i' := 8) (fun _ _ => aw_getf K (dOf ck_mX0_leastTalk rfl rfl) rfl rfl (Nat.le_of_ble_eq_true rfl) wd_446 (k := 0) rfl) ?_
    refine gl (i' := 9) (fun _ _ => aw_getf K (dOf ck_mX0_leastTalk rfl rfl) rfl rfl (Nat.le_of_ble_eq_true rfl) wd_197 (k := 2) rfl) ?_
    refine g_icmp_ge K (dOf ck_mX0_leastTalk rfl rfl) (t := 19) (aJ_of (by decide +kernel)) (fun h2 => ?_) (fun h2 => ?_)
    · refine gl (i' := 11) (fun _ _ => aw_aload_n K (dOf ck_mX0_leastTalk rfl rfl) rfl) ?_
      refine gl (i' := 12) (fun _ _ => aw_aload_n K (dOf ck_mX0_leastTalk rfl rfl) rfl) ?_
      refine gl (i' := 13) (fun _ _ => aw_getf K (dOf ck_mX0_leastTalk rfl rfl) rfl rfl (Nat.le_of_ble_eq_true rfl) wd_446 (k := 0) rfl) ?_
      refine gl (i' := 14) (fun _ _ => aw_getf K (dOf ck_mX0_leastTalk rfl rfl) rfl rfl (Nat.le_of_ble_eq_true rfl) wd_246 (k := 10) rfl) ?_
      refine gl (i' := 15) (fun _ _ => aw_iload_n K (dOf ck_mX0_leastTalk rfl rfl) rfl) ?_
      refine g_gd (fun hb16 => ?_)
      refine gl (i' := 16) (fun _ _ => aw_iald K (dOf ck_mX0_leastTalk rfl rfl) rfl hb16) ?_
      refine g_callVM K [.inl _] rfl (dOf ck_mX0_leastTalk rfl rfl) al_OneBreath_Census_51 rfl rfl ⟨wd_1057, wd_55⟩ rfl (Nat.le_of_ble_eq_true rfl) ⟨Nat.le_of_ble_eq_true rfl, Nat.le_of_ble_eq_true rfl⟩ (fun b hb => met_Census_addWeight  hb) (fun r17 hr17 => ?_)
      refine gl (i' := 18) (fun _ _ => aw_iinc K (dOf ck_mX0_leastTalk rfl rfl) (Nat.le_of_ble_eq_true rfl) rfl) ?_
      refine g_lv (lv' := [(2, .inl _), (0, .inr (.inr (.inl (some _)))), (1, .inl _)]) rfl ?_
      refine g_goto K (dOf ck_mX0_leastTalk rfl rfl).1 (t := 5) (aJ_of (by decide +kernel)) ?_
      refine g_sub [1, 2, 0] rfl ?_
      exact ih _ _
    · refine gl (i' := 20) (fun _ _ => aw_aload_n K (dOf ck_mX0_leastTalk rfl rfl) rfl) ?_
      refine gl (i' := 21) (fun _ _ => aw_getf K (dOf ck_mX0_leastTalk rfl rfl) rfl rfl (Nat.le_of_ble_eq_true rfl) wd_446 (k := 0) rfl) ?_
      refine gl (i' := 22) (fun _ _ => aw_getf K (dOf ck_mX0_leastTalk rfl rfl) rfl rfl (Nat.le_of_ble_eq_true rfl) wd_197 (k := 2) rfl) ?_
      refine gl (i' := 23) (fun _ _ => aw_iconst K (n := 1) (i32 _ rfl) (dOf ck_mX0_leastTalk rfl rfl)) ?_
      refine g_icmp_ne K (dOf ck_mX0_leastTalk rfl rfl) (t := 29) (aJ_of (by decide +kernel)) (fun h3 => ?_) (fun h3 => ?_)
      · refine gl (i' := 25) (fun _ _ => aw_aload_n K (dOf ck_mX0_leastTalk rfl rfl) rfl) ?_
        refine gl (i' := 26) (fun _ _ => aw_getf K (dOf ck_mX0_leastTalk rfl rfl) rfl rfl (Nat.le_of_ble_eq_true rfl) wd_447 (k := 1) rfl) ?_
        refine gl (i' := 27) (fun _ _ => aw_iconst K (n := 0) (i32 _ rfl) (dOf ck_mX0_leastTalk rfl rfl)) ?_
        refine gl (i' := 28) (fun _ _ => aw_iald K (dOf ck_mX0_leastTalk rfl rfl) rfl (by decide)) ?_
        exact g_iret K (dOf ck_mX0_leastTalk rfl rfl).1 rfl (Or.inl rfl) rfl
      · refine gl (i' := 30) (fun _ _ => aw_iconst K (n := 1) (i32 _ rfl) (dOf ck_mX0_leastTalk rfl rfl)) ?_
        refine gl (i' := 31) (fun _ _ => aw_iload_n K (dOf ck_mX0_leastTalk rfl rfl) rfl) ?_
        refine gl (i' := 32) (fun _ _ => aw_iconst K (n := 1) (i32 _ rfl) (dOf ck_mX0_leastTalk rfl rfl)) ?_
        refine gl (i' := 33) (fun _ _ => aw_isub K (dOf ck_mX0_leastTalk rfl rfl)) ?_
        refine g_callSI K [.inl _, .inl _] rfl (dOf ck_mX0_leastTalk rfl rfl) al_OneBreath_Census_55 wd_807 rfl (Nat.le_of_ble_eq_true rfl) ⟨Nat.le_of_ble_eq_true rfl, Nat.le_of_ble_eq_true rfl⟩ (fun b hb => met_Jmath_max  hb) (fun r4 hr4 => ?_)
        refine gl (i' := 35) (fun _ _ => aw_istore_n K (dOf ck_mX0_leastTalk rfl rfl) (Nat.le_of_ble_eq_true rfl)) ?_
        refine g_lv (lv' := [(2, .inl _), (0, .inr (.inr (.inl (some _)))), (1, .inl _)]) rfl ?_
        refine gl (i' := 36) (fun _ _ => aw_iconst K (n := 0) (i32 _ rfl) (dOf ck_mX0_leastTalk rfl rfl)) ?_
        refine gl (i' := 37) (fun _ _ => aw_istore_n K (dOf ck_mX0_leastTalk rfl rfl) (Nat.le_of_ble_eq_true rfl)) ?_
        refine g_lv (lv' := [(3, .inl _), (2, .inl _), (0, .inr (.inr (.inl (some _)))), (1, .inl _)]) rfl ?_
        refine g_sub [2, 3, 1, 0] rfl ?_
        exact lk_Census_leastTalk_37 K _ _ FU _ _
def Census_leastTalk (x1 : Int) (mm : aM) : Option (Int × aM) := st1 (aup mm 120 2 0) fun mm1 => (Census_leastTalk_5 x1 FU 0 mm1)
set_option maxHeartbeats 4000000 in
theorem met_Census_leastTalk {l : Launch} {D : va_G} {cA : FieldType → ClassId} {ad adV : Nat → Nat} {z0 : Nat} {x1 : Int} {mm : aM}  {r : Int × aM} (h : Census_leastTalk x1 mm = some r) : aMet l D cA ad adV z0 mX0_leastTalk 1 22 0 0 [.inr (.inr (.inl (some 120))), .inl x1] SH mm (rIM r).1 SH (rIM r).2 := by
  refine aMet_ofG (by decide +kernel) rfl (Nat.le_of_ble_eq_true rfl) h (fun p e s m args below meth c al0 K => ?_)
  unfold Census_leastTalk
  refine gl (i' := 1) (fun _ _ => aw_aload_n K (dOf ck_mX0_leastTalk rfl rfl) rfl) ?_
  refine gl (i' := 2) (fun _ _ => aw_iconst K (n := 0) (i32 _ rfl) (dOf ck_mX0_leastTalk rfl rfl)) ?_
  refine g_st1 ?_
  refine gl (i' := 3) (fun _ _ => aw_putf K (dOf ck_mX0_leastTalk rfl rfl) rfl rfl (Nat.le_of_ble_eq_true rfl) wd_448 (k := 2) rfl rfl (Or.inl rfl)) ?_
  refine gl (i' := 4) (fun _ _ => aw_iconst K (n := 0) (i32 _ rfl) (dOf ck_mX0_leastTalk rfl rfl)) ?_
  refine gl (i' := 5) (fun _ _ => aw_istore_n K (dOf ck_mX0_leastTalk rfl rfl) (Nat.le_of_ble_eq_true rfl)) ?_
  refine g_lv (lv' := [(2, .inl _), (0, .inr (.inr (.inl (some _)))), (1, .inl _)]) rfl ?_
  refine g_sub [1, 2, 0] rfl ?_
  exact lk_Census_leastTalk_5 K _ FU _ _
def B_code_6 (mm : aM) : Option (Int × aM) := some ((-3), mm)
set_option maxHeartbeats 4000000 in
theorem lk_B_code_6 {p : Program} {l : Launch} {e : Env} {s : State} {m : MethodId} {args : Array Value} {below : List Frame} {meth : Method} {c : Code} {D : va_G} {cA : FieldType → ClassId} {ad adV : Nat → Nat} {z0 : Nat} {al0 : List Nat} (K : aK p s m args meth c mX11_code D cA ad adV z0)   (mm : aM) : aG p l e { frames := 2, cells := 0, slots := 0, locals := 48 } s m args below meth c D cA ad z0 mX11_code al0 rIM (B_code_6 mm) 6 [] [] mm := by
  unfold B_code_6
  refine gl (i' := 7) (fun _ _ => aw_bip K (dOf ck_mX11_code rfl rfl) (v := -3) rfl) ?_
  refine g_goto K (dOf ck_mX11_code rfl rfl).1 (t := 12) (aJ_of (by decide +kernel)) ?_
  exact g_iret K (by decide +kernel) rfl (Or.inl rfl) rfl
def B_code (x1 : Int) (mm : aM) : Option (Int × aM) := if x1 < 2 then (B_code_6 mm) else (if 8 < x1 then (B_code_6 mm) else ((Census_leastTalk x1 mm).bind fun r3 => (some (r3.1, r3.2))))
set_option maxHeartbeats 4000000 in
theorem met_B_code {l : Launch} {D : va_G} {cA : FieldType → ClassId} {ad adV : Nat → Nat} {z0 : Nat} {x1 : Int} {mm : aM}  {r : Int × aM} (h : B_code x1 mm = some r) : aMet l D cA ad adV z0 mX11_code 2 48 0 0 [.inr (.inr (.inl (some 0))), .inl x1] SH mm (rIM r).1 SH (rIM r).2 := by
  refine aMet_ofG (by decide +kernel) rfl (Nat.le_of_ble_eq_true rfl) h (fun p e s m args below meth c al0 K => ?_)
  unfold B_code
  refine gl (i' := 1) (fun _ _ => aw_iload_n K (dOf ck_mX11_code rfl rfl) rfl) ?_
  refine gl (i' := 2) (fun _ _ => aw_iconst K (n := 2) (i32 _ rfl) (dOf ck_mX11_code rfl rfl)) ?_
  refine g_icmp_lt K (dOf ck_mX11_code rfl rfl) (t := 6) (aJ_of (by decide +kernel)) (fun h1 => ?_) (fun h1 => ?_)
  · refine g_sub [] rfl ?_
    exact lk_B_code_6 K _
  · refine gl (i' := 4) (fun _ _ => aw_iload_n K (dOf ck_mX11_code rfl rfl) rfl) ?_
    refine gl (i' := 5) (fun _ _ => aw_bip K (dOf ck_mX11_code rfl rfl) (v := 8) rfl) ?_
    refine g_icmp_le K (dOf ck_mX11_code rfl rfl) (t := 8) (aJ_of (by decide +kernel)) (fun h2 => ?_) (fun h2 => ?_)
    · refine g_sub [] rfl ?_
      exact lk_B_code_6 K _
    · refine gl (i' := 9) (fun _ _ => aw_aload_n K (dOf ck_mX11_code rfl rfl) rfl) ?_
      refine gl (i' := 10) (fun _ _ => aw_getf K (dOf ck_mX11_code rfl rfl) rfl rfl (Nat.le_of_ble_eq_true rfl) wd_471 (k := 11) rfl) ?_
      refine gl (i' := 11) (fun _ _ => aw_iload_n K (dOf ck_mX11_code rfl rfl) rfl) ?_
      refine g_callVIM K [.inl _] rfl (dOf ck_mX11_code rfl rfl) al_OneBreath_310 rfl rfl ⟨wd_1053, wd_1054⟩ rfl (Nat.le_of_ble_eq_true rfl) ⟨Nat.le_of_ble_eq_true rfl, Nat.le_of_ble_eq_true rfl⟩ (fun b hb => met_Census_leastTalk  hb) (fun r3 hr3 => ?_)
      exact g_iret K (by decide +kernel) rfl (Or.inl rfl) rfl
def Cutter_layAny_40 (k9 : Int → aM → Option aM) (k15 : Int → aM → Option aM) (t : Nat) (x2 : Int) (x3 : Int) (s0 : Int) (s1 : Int) (mm : aM) : Option aM := if 0 ≤ s1 ∧ s1 < 720 then (st1 (aup mm (t + 1) s1.toNat (w8 (w8 s0))) fun mm9 => (k15 (w32 (x3 + 1)) mm9)) else none
set_option maxHeartbeats 4000000 in
theorem lk_Cutter_layAny_40 {p : Program} {l : Launch} {e : Env} {s : State} {m : MethodId} {args : Array Value} {below : List Frame} {meth : Method} {c : Code} {D : va_G} {cA : FieldType → ClassId} {ad adV : Nat → Nat} {z0 : Nat} {al0 : List Nat} (K : aK p s m args meth c mX1_layAny D cA ad adV z0) {t : Nat} (x2 : Int) (x3 : Int) (ht : okC t) (k9 : Int → aM → Option aM) (hk9 : ∀ (x2 : Int) (mm : aM), aG p l e { frames := 1, cells := 0, slots := 0, locals := 21 } s m args below meth c D cA ad z0 mX1_layAny al0 rM (k9 x2 mm) 9 [(0, .inr (.inr (.inl (some t)))), (2, .inl x2)] [] mm) (k15 : Int → aM → Option aM) (hk15 : ∀ (x3 : Int) (mm : aM), aG p l e { frames := 1, cells := 0, slots := 0, locals := 21 } s m args below meth c D cA ad z0 mX1_layAny al0 rM (k15 x3 mm) 15 [(0, .inr (.inr (.inl (some t)))), (2, .inl x2), (3, .inl x3)] [] mm)  (s0 : Int) (s1 : Int) (mm : aM) : aG p l e { frames := 1, cells := 0, slots := 0, locals := 21 } s m args below meth c D cA ad z0 mX1_layAny al0 rM (Cutter_layAny_40 k9 k15 t x2 x3 s0 s1 mm) 40 [(0, .inr (.inr (.inl (some t)))), (2, .inl x2), (3, .inl x3)] [.inl s0, .inl s1, .inr (.inr (.inl (some (t + 1))))] mm := by
  unfold Cutter_layAny_40
  refine gl (i' := 41) (fun _ _ => aw_i2b K (dOf ck_mX1_layAny rfl rfl)) ?_
  refine g_gd (fun hb8 => ?_)
  refine g_st1 ?_
  refine gl (i' := 42) (fun _ _ => aw_bast K (dOf ck_mX1_layAny rfl rfl) (shC_1 ht) hb8) ?_
  refine gl (i' := 43) (fun _ _ => aw_iinc K (dOf ck_mX1_layAny rfl rfl) (Nat.le_of_ble_eq_true rfl) rfl) ?_
  refine g_lv (lv' := [(3, .inl _), (0, .inr (.inr (.inl (some _)))), (2, .inl _)]) rfl ?_
  refine g_goto K (dOf ck_mX1_layAny rfl rfl).1 (t := 15) (aJ_of (by decide +kernel)) ?_
  refine g_sub [1, 2, 0] rfl ?_
  exact hk15 _ _
def Cutter_layAny_15 (k9 : Int → aM → Option aM) (t : Nat) (x2 : Int) : Nat → Int → aM → Option aM
  | 0, _, _ => none
  | n + 1, x3, mm => if x3 < (mm 25 2) then (if 0 ≤ x3 ∧ x3 < 12 then (if (mm t 1) < (w32 (x2 + (mm 41 x3.toNat))) then (Cutter_layAny_40 k9 (Cutter_layAny_15 k9 t x2 n) t x2 x3 (-1) (w32 ((w32 (x2 * 12)) + x3)) mm) else (Cutter_layAny_40 k9 (Cutter_layAny_15 k9 t x2 n) t x2 x3 0 (w32 ((w32 (x2 * 12)) + x3)) mm)) else none) else (k9 (w32 (x2 + 1)) mm)
set_option maxHeartbeats 4000000 in
theorem lk_Cutter_layAny_15 {p : Program} {l : Launch} {e : Env} {s : State} {m : MethodId} {args : Array Value} {below : List Frame} {meth : Method} {c : Code} {D : va_G} {cA : FieldType → ClassId} {ad adV : Nat → Nat} {z0 : Nat} {al0 : List Nat} (K : aK p s m args meth c mX1_layAny D cA ad adV z0) {t : Nat} (x2 : Int) (ht : okC t) (k9 : Int → aM → Option aM) (hk9 : ∀ (x2 : Int) (mm : aM), aG p l e { frames := 1, cells := 0, slots := 0, locals := 21 } s m args below meth c D cA ad z0 mX1_layAny al0 rM (k9 x2 mm) 9 [(0, .inr (.inr (.inl (some t)))), (2, .inl x2)] [] mm)  : ∀ (n : Nat) (x3 : Int) (mm : aM), aG p l e { frames := 1, cells := 0, slots := 0, locals := 21 } s m args below meth c D cA ad z0 mX1_layAny al0 rM (Cutter_layAny_15 k9 t x2 n x3 mm) 15 [(0, .inr (.inr (.inl (some t)))), (2, .inl x2), (3, .inl x3)] [] mm := by
  intro n
  induction n with
  | zero => intro x3 mm; exact g_none
  | succ n ih =>
    intro x3 mm
    rw [Cutter_layAny_15]
    refine gl (i' := 16) (fun _ _ => aw_iload_n K (dOf ck_mX1_layAny rfl rfl) rfl) ?_
    refine gl (i' := 17) (fun _ _ => aw_aload_n K (dOf ck_mX1_layAny rfl rfl) rfl) ?_
    refine gl (i' := 18) (fun _ _ => aw_getf K (dOf ck_mX1_layAny rfl rfl) (shC_0 ht) rfl (Nat.le_of_ble_eq_true rfl) wd_342 (k := 0) rfl) ?_
    refine gl (i' := 19) (fun _ _ => aw_getf K (dOf ck_mX1_layAny rfl rfl) rfl rfl (Nat.le_of_ble_eq_true rfl) wd_199 (k := 2) rfl) ?_
    refine g_icmp_ge K (dOf ck_mX1_layAny rfl rfl) (t := 44) (aJ_of (by decide +kernel)) (fun h5 => ?_) (fun h5 => ?_)
    · refine gl (i' := 21) (fun _ _ => aw_aload_n K (dOf ck_mX1_layAny rfl rfl) rfl) ?_
      refine gl (i' := 22) (fun _ _ => aw_getf K (dOf ck_mX1_layAny rfl rfl) (shC_0 ht) rfl (Nat.le_of_ble_eq_true rfl) wd_344 (k := 2) rfl) ?_
      refine gl (i' := 23) (fun _ _ => aw_iload_n K (dOf ck_mX1_layAny rfl rfl) rfl) ?_
      refine gl (i' := 24) (fun _ _ => aw_bip K (dOf ck_mX1_layAny rfl rfl) (v := 12) rfl) ?_
      refine gl (i' := 25) (fun _ _ => aw_imul K (dOf ck_mX1_layAny rfl rfl)) ?_
      refine gl (i' := 26) (fun _ _ => aw_iload_n K (dOf ck_mX1_layAny rfl rfl) rfl) ?_
      refine gl (i' := 27) (fun _ _ => aw_iadd K (dOf ck_mX1_layAny rfl rfl)) ?_
      refine gl (i' := 28) (fun _ _ => aw_iload_n K (dOf ck_mX1_layAny rfl rfl) rfl) ?_
      refine gl (i' := 29) (fun _ _ => aw_aload_n K (dOf ck_mX1_layAny rfl rfl) rfl) ?_
      refine gl (i' := 30) (fun _ _ => aw_getf K (dOf ck_mX1_layAny rfl rfl) (shC_0 ht) rfl (Nat.le_of_ble_eq_true rfl) wd_342 (k := 0) rfl) ?_
      refine gl (i' := 31) (fun _ _ => aw_getf K (dOf ck_mX1_layAny rfl rfl) rfl rfl (Nat.le_of_ble_eq_true rfl) wd_240 (k := 9) rfl) ?_
      refine gl (i' := 32) (fun _ _ => aw_iload_n K (dOf ck_mX1_layAny rfl rfl) rfl) ?_
      refine g_gd (fun hb6 => ?_)
      refine gl (i' := 33) (fun _ _ => aw_iald K (dOf ck_mX1_layAny rfl rfl) rfl hb6) ?_
      refine gl (i' := 34) (fun _ _ => aw_iadd K (dOf ck_mX1_layAny rfl rfl)) ?_
      refine gl (i' := 35) (fun _ _ => aw_aload_n K (dOf ck_mX1_layAny rfl rfl) rfl) ?_
      refine gl (i' := 36) (fun _ _ => aw_getf K (dOf ck_mX1_layAny rfl rfl) (shC_0 ht) rfl (Nat.le_of_ble_eq_true rfl) wd_343 (k := 1) rfl) ?_
      refine g_icmp_le K (dOf ck_mX1_layAny rfl rfl) (t := 39) (aJ_of (by decide +kernel)) (fun h7 => ?_) (fun h7 => ?_)
      · refine gl (i' := 38) (fun _ _ => aw_iconst K (n := -1) (i32 _ rfl) (dOf ck_mX1_layAny rfl rfl)) ?_
        refine g_goto K (dOf ck_mX1_layAny rfl rfl).1 (t := 40) (aJ_of (by decide +kernel)) ?_
        refine g_sub [0, 1, 2] rfl ?_
        exact lk_Cutter_layAny_40 K _ _ ht _ hk9 _ ih _ _ _
      · refine gl (i' := 40) (fun _ _ => aw_iconst K (n := 0) (i32 _ rfl) (dOf ck_mX1_layAny rfl rfl)) ?_
        refine g_sub [0, 1, 2] rfl ?_
        exact lk_Cutter_layAny_40 K _ _ ht _ hk9 _ ih _ _ _
    · refine gl (i' := 45) (fun _ _ => aw_iinc K (dOf ck_mX1_layAny rfl rfl) (Nat.le_of_ble_eq_true rfl) rfl) ?_
      refine g_lv (lv' := [(2, .inl _), (0, .inr (.inr (.inl (some _)))), (3, .inl _)]) rfl ?_
      refine g_goto K (dOf ck_mX1_layAny rfl rfl).1 (t := 9) (aJ_of (by decide +kernel)) ?_
      refine g_sub [1, 0] rfl ?_
      exact hk9 _ _
def Cutter_layAny_9 (t : Nat) : Nat → Int → aM → Option aM
  | 0, _, _ => none
  | n + 1, x2, mm => if x2 < (mm t 1) then (Cutter_layAny_15 (Cutter_layAny_9 t n) t x2 FU 0 mm) else (some mm)
set_option maxHeartbeats 4000000 in
theorem lk_Cutter_layAny_9 {p : Program} {l : Launch} {e : Env} {s : State} {m : MethodId} {args : Array Value} {below : List Frame} {meth : Method} {c : Code} {D : va_G} {cA : FieldType → ClassId} {ad adV : Nat → Nat} {z0 : Nat} {al0 : List Nat} (K : aK p s m args meth c mX1_layAny D cA ad adV z0) {t : Nat} (ht : okC t)  : ∀ (n : Nat) (x2 : Int) (mm : aM), aG p l e { frames := 1, cells := 0, slots := 0, locals := 21 } s m args below meth c D cA ad z0 mX1_layAny al0 rM (Cutter_layAny_9 t n x2 mm) 9 [(0, .inr (.inr (.inl (some t)))), (2, .inl x2)] [] mm := by
  intro n
  induction n with
  | zero => intro x2 mm; exact g_none
  | succ n ih =>
    intro x2 mm
    rw [Cutter_layAny_9]
    refine gl (i' := 10) (fun _ _ => aw_iload_n K (dOf ck_mX1_layAny rfl rfl) rfl) ?_
    refine gl (i' := 11) (fun _ _ => aw_aload_n K (dOf ck_mX1_layAny rfl rfl) rfl) ?_
    refine gl (i' := 12) (fun _ _ => aw_getf K (dOf ck_mX1_layAny rfl rfl) (shC_0 ht) rfl (Nat.le_of_ble_eq_true rfl) wd_343 (k := 1) rfl) ?_
    refine g_icmp_ge K (dOf ck_mX1_layAny rfl rfl) (t := 46) (aJ_of (by decide +kernel)) (fun h4 => ?_) (fun h4 => ?_)
    · refine gl (i' := 14) (fun _ _ => aw_iconst K (n := 0) (i32 _ rfl) (dOf ck_mX1_layAny rfl rfl)) ?_
      refine gl (i' := 15) (fun _ _ => aw_istore_n K (dOf ck_mX1_layAny rfl rfl) (Nat.le_of_ble_eq_true rfl)) ?_
      refine g_lv (lv' := [(3, .inl _), (0, .inr (.inr (.inl (some _)))), (2, .inl _)]) rfl ?_
      refine g_sub [1, 2, 0] rfl ?_
      exact lk_Cutter_layAny_15 K _ ht _ ih FU _ _
    · exact g_vret K (by decide +kernel) rfl rfl
def Cutter_layAny (t : Nat) (x1 : Int) (mm : aM) : Option aM := (Cutter_forget t mm).bind fun r1 => ((Jmath_min x1 60 r1).bind fun r2 => (st1 (aup r1 t 1 r2) fun mm3 => (Cutter_layAny_9 t FU 0 mm3)))
set_option maxHeartbeats 4000000 in
theorem met_Cutter_layAny {l : Launch} {D : va_G} {cA : FieldType → ClassId} {ad adV : Nat → Nat} {z0 : Nat} {t : Nat} {x1 : Int} {mm : aM} (ht : okC t) {r : aM} (h : Cutter_layAny t x1 mm = some r) : aMet l D cA ad adV z0 mX1_layAny 1 21 0 0 [.inr (.inr (.inl (some t))), .inl x1] SH mm (rM r).1 SH (rM r).2 := by
  refine aMet_ofG (by decide +kernel) rfl (Nat.le_of_ble_eq_true rfl) h (fun p e s m args below meth c al0 K => ?_)
  unfold Cutter_layAny
  refine gl (i' := 1) (fun _ _ => aw_aload_n K (dOf ck_mX1_layAny rfl rfl) rfl) ?_
  refine g_callVM K [] rfl (dOf ck_mX1_layAny rfl rfl) al_OneBreath_Cutter_37 (shC_0 ht) rfl ⟨wd_616, wd_617⟩ rfl (Nat.le_of_ble_eq_true rfl) ⟨Nat.le_of_ble_eq_true rfl, Nat.le_of_ble_eq_true rfl⟩ (fun b hb => met_Cutter_forget ht hb) (fun r1 hr1 => ?_)
  refine gl (i' := 3) (fun _ _ => aw_aload_n K (dOf ck_mX1_layAny rfl rfl) rfl) ?_
  refine gl (i' := 4) (fun _ _ => aw_iload_n K (dOf ck_mX1_layAny rfl rfl) rfl) ?_
  refine gl (i' := 5) (fun _ _ => aw_bip K (dOf ck_mX1_layAny rfl rfl) (v := 60) rfl) ?_
  refine g_callSI K [.inl _, .inl _] rfl (dOf ck_mX1_layAny rfl rfl) al_OneBreath_Cutter_68 wd_496 rfl (Nat.le_of_ble_eq_true rfl) ⟨Nat.le_of_ble_eq_true rfl, Nat.le_of_ble_eq_true rfl⟩ (fun b hb => met_Jmath_min  hb) (fun r2 hr2 => ?_)
  refine g_st1 ?_
  refine gl (i' := 7) (fun _ _ => aw_putf K (dOf ck_mX1_layAny rfl rfl) (shC_0 ht) rfl (Nat.le_of_ble_eq_true rfl) wd_343 (k := 1) rfl rfl (Or.inl rfl)) ?_
  refine gl (i' := 8) (fun _ _ => aw_iconst K (n := 0) (i32 _ rfl) (dOf ck_mX1_layAny rfl rfl)) ?_
  refine gl (i' := 9) (fun _ _ => aw_istore_n K (dOf ck_mX1_layAny rfl rfl) (Nat.le_of_ble_eq_true rfl)) ?_
  refine g_lv (lv' := [(2, .inl _), (0, .inr (.inr (.inl (some _)))), (1, .inl _)]) rfl ?_
  refine g_sub [1, 0] rfl ?_
  exact lk_Cutter_layAny_9 K ht FU _ _
def B_said (x1 : Int) (mm : aM) : Option (Int × aM) := if x1 < 0 then (some ((-3), mm)) else (if 60 < x1 then (some ((-3), mm)) else ((Cutter_layAny 67 x1 mm).bind fun r3 => ((Cutter_countWays 67 0 r3).bind fun r4 => (some (r4.1, r4.2)))))
set_option maxHeartbeats 4000000 in
theorem met_B_said {l : Launch} {D : va_G} {cA : FieldType → ClassId} {ad adV : Nat → Nat} {z0 : Nat} {x1 : Int} {mm : aM}  {r : Int × aM} (h : B_said x1 mm = some r) : aMet l D cA ad adV z0 mX11_said 3 73 0 0 [.inr (.inr (.inl (some 0))), .inl x1] SH mm (rIM r).1 SH (rIM r).2 := by
  refine aMet_ofG (by decide +kernel) rfl (Nat.le_of_ble_eq_true rfl) h (fun p e s m args below meth c al0 K => ?_)
  unfold B_said
  refine gl (i' := 1) (fun _ _ => aw_iload_n K (dOf ck_mX11_said rfl rfl) rfl) ?_
  refine g_if_lt K (dOf ck_mX11_said rfl rfl) (t := 5) (aJ_of (by decide +kernel)) (fun h1 => ?_) (fun h1 => ?_)
  · refine gl (i' := 6) (fun _ _ => aw_bip K (dOf ck_mX11_said rfl rfl) (v := -3) rfl) ?_
    exact g_iret K (dOf ck_mX11_said rfl rfl).1 rfl (Or.inl rfl) rfl
  · refine gl (i' := 3) (fun _ _ => aw_iload_n K (dOf ck_mX11_said rfl rfl) rfl) ?_
    refine gl (i' := 4) (fun _ _ => aw_bip K (dOf ck_mX11_said rfl rfl) (v := 60) rfl) ?_
    refine g_icmp_le K (dOf ck_mX11_said rfl rfl) (t := 7) (aJ_of (by decide +kernel)) (fun h2 => ?_) (fun h2 => ?_)
    · refine gl (i' := 6) (fun _ _ => aw_bip K (dOf ck_mX11_said rfl rfl) (v := -3) rfl) ?_
      exact g_iret K (dOf ck_mX11_said rfl rfl).1 rfl (Or.inl rfl) rfl
    · refine gl (i' := 8) (fun _ _ => aw_aload_n K (dOf ck_mX11_said rfl rfl) rfl) ?_
      refine gl (i' := 9) (fun _ _ => aw_getf K (dOf ck_mX11_said rfl rfl) rfl rfl (Nat.le_of_ble_eq_true rfl) wd_467 (k := 7) rfl) ?_
      refine gl (i' := 10) (fun _ _ => aw_iload_n K (dOf ck_mX11_said rfl rfl) rfl) ?_
      refine g_callVM K [.inl _] rfl (dOf ck_mX11_said rfl rfl) al_OneBreath_313 rfl rfl ⟨wd_1068, wd_1069⟩ rfl (Nat.le_of_ble_eq_true rfl) ⟨Nat.le_of_ble_eq_true rfl, Nat.le_of_ble_eq_true rfl⟩ (fun b hb => met_Cutter_layAny (by unfold okC; omega) hb) (fun r3 hr3 => ?_)
      refine gl (i' := 12) (fun _ _ => aw_aload_n K (dOf ck_mX11_said rfl rfl) rfl) ?_
      refine gl (i' := 13) (fun _ _ => aw_getf K (dOf ck_mX11_said rfl rfl) rfl rfl (Nat.le_of_ble_eq_true rfl) wd_467 (k := 7) rfl) ?_
      refine gl (i' := 14) (fun _ _ => aw_iconst K (n := 0) (i32 _ rfl) (dOf ck_mX11_said rfl rfl)) ?_
      refine g_callVIM K [.inl _] rfl (dOf ck_mX11_said rfl rfl) al_OneBreath_239 rfl rfl ⟨wd_743, wd_744⟩ rfl (Nat.le_of_ble_eq_true rfl) ⟨Nat.le_of_ble_eq_true rfl, Nat.le_of_ble_eq_true rfl⟩ (fun b hb => met_Cutter_countWays (by unfold okC; omega) hb) (fun r4 hr4 => ?_)
      exact g_iret K (by decide +kernel) rfl (Or.inl rfl) rfl
def Cutter_chosenUses_4 (mm : aM) (t : Nat) : Nat → Int → Int → Option Int
  | 0, _, _ => none
  | n + 1, x1, x2 => if x2 < (mm t 8) then (if 0 ≤ x2 ∧ x2 < 60 then (if 0 ≤ (mm (t + 4) x2.toNat) ∧ (mm (t + 4) x2.toNat) < 12 then (Cutter_chosenUses_4 mm t n (w32 (x1 + (mm 42 (mm (t + 4) x2.toNat).toNat))) (w32 (x2 + 1))) else none) else none) else (some x1)
set_option maxHeartbeats 4000000 in
theorem lk_Cutter_chosenUses_4 {p : Program} {l : Launch} {e : Env} {s : State} {m : MethodId} {args : Array Value} {below : List Frame} {meth : Method} {c : Code} {D : va_G} {cA : FieldType → ClassId} {ad adV : Nat → Nat} {z0 : Nat} {al0 : List Nat} {mm : aM} (K : aK p s m args meth c mX1_chosenUses D cA ad adV z0) {t : Nat} (ht : okC t)  : ∀ (n : Nat) (x1 : Int) (x2 : Int), aG p l e { frames := 0, cells := 0, slots := 0, locals := 0 } s m args below meth c D cA ad z0 mX1_chosenUses al0 (rI mm) (Cutter_chosenUses_4 mm t n x1 x2) 4 [(0, .inr (.inr (.inl (some t)))), (1, .inl x1), (2, .inl x2)] [] mm := by
  intro n
  induction n with
  | zero => intro x1 x2; exact g_none
  | succ n ih =>
    intro x1 x2
    rw [Cutter_chosenUses_4]
    refine gl (i' := 5) (fun _ _ => aw_iload_n K (dOf ck_mX1_chosenUses rfl rfl) rfl) ?_
    refine gl (i' := 6) (fun _ _ => aw_aload_n K (dOf ck_mX1_chosenUses rfl rfl) rfl) ?_
    refine gl (i' := 7) (fun _ _ => aw_getf K (dOf ck_mX1_chosenUses rfl rfl) (shC_0 ht) rfl (Nat.le_of_ble_eq_true rfl) wd_353 (k := 8) rfl) ?_
    refine g_icmp_ge K (dOf ck_mX1_chosenUses rfl rfl) (t := 21) (aJ_of (by decide +kernel)) (fun h1 => ?_) (fun h1 => ?_)
    · refine gl (i' := 9) (fun _ _ => aw_iload_n K (dOf ck_mX1_chosenUses rfl rfl) rfl) ?_
      refine gl (i' := 10) (fun _ _ => aw_aload_n K (dOf ck_mX1_chosenUses rfl rfl) rfl) ?_
      refine gl (i' := 11) (fun _ _ => aw_getf K (dOf ck_mX1_chosenUses rfl rfl) (shC_0 ht) rfl (Nat.le_of_ble_eq_true rfl) wd_342 (k := 0) rfl) ?_
      refine gl (i' := 12) (fun _ _ => aw_getf K (dOf ck_mX1_chosenUses rfl rfl) rfl rfl (Nat.le_of_ble_eq_true rfl) wd_249 (k := 10) rfl) ?_
      refine gl (i' := 13) (fun _ _ => aw_aload_n K (dOf ck_mX1_chosenUses rfl rfl) rfl) ?_
      refine gl (i' := 14) (fun _ _ => aw_getf K (dOf ck_mX1_chosenUses rfl rfl) (shC_0 ht) rfl (Nat.le_of_ble_eq_true rfl) wd_348 (k := 6) rfl) ?_
      refine gl (i' := 15) (fun _ _ => aw_iload_n K (dOf ck_mX1_chosenUses rfl rfl) rfl) ?_
      refine g_gd (fun hb2 => ?_)
      refine gl (i' := 16) (fun _ _ => aw_iald K (dOf ck_mX1_chosenUses rfl rfl) (shC_4 ht) hb2) ?_
      refine g_gd (fun hb3 => ?_)
      refine gl (i' := 17) (fun _ _ => aw_iald K (dOf ck_mX1_chosenUses rfl rfl) rfl hb3) ?_
      refine gl (i' := 18) (fun _ _ => aw_iadd K (dOf ck_mX1_chosenUses rfl rfl)) ?_
      refine gl (i' := 19) (fun _ _ => aw_istore_n K (dOf ck_mX1_chosenUses rfl rfl) (Nat.le_of_ble_eq_true rfl)) ?_
      refine g_lv (lv' := [(1, .inl _), (0, .inr (.inr (.inl (some _)))), (2, .inl _)]) rfl ?_
      refine gl (i' := 20) (fun _ _ => aw_iinc K (dOf ck_mX1_chosenUses rfl rfl) (Nat.le_of_ble_eq_true rfl) rfl) ?_
      refine g_lv (lv' := [(2, .inl _), (1, .inl _), (0, .inr (.inr (.inl (some _))))]) rfl ?_
      refine g_goto K (dOf ck_mX1_chosenUses rfl rfl).1 (t := 4) (aJ_of (by decide +kernel)) ?_
      refine g_sub [2, 1, 0] rfl ?_
      exact ih _ _
    · refine gl (i' := 22) (fun _ _ => aw_iload_n K (dOf ck_mX1_chosenUses rfl rfl) rfl) ?_
      exact g_iret K (by decide +kernel) rfl (Or.inl rfl) rfl
def Cutter_chosenUses (t : Nat) (mm : aM) : Option Int := Cutter_chosenUses_4 mm t FU 0 0
set_option maxHeartbeats 4000000 in
theorem met_Cutter_chosenUses {l : Launch} {D : va_G} {cA : FieldType → ClassId} {ad adV : Nat → Nat} {z0 : Nat} {t : Nat} {mm : aM} (ht : okC t) {r : Int} (h : Cutter_chosenUses t mm = some r) : aMet l D cA ad adV z0 mX1_chosenUses 0 0 0 0 [.inr (.inr (.inl (some t)))] SH mm ((rI mm) r).1 SH ((rI mm) r).2 := by
  refine aMet_ofG (by decide +kernel) rfl (Nat.le_of_ble_eq_true rfl) h (fun p e s m args below meth c al0 K => ?_)
  unfold Cutter_chosenUses
  refine gl (i' := 1) (fun _ _ => aw_iconst K (n := 0) (i32 _ rfl) (dOf ck_mX1_chosenUses rfl rfl)) ?_
  refine gl (i' := 2) (fun _ _ => aw_istore_n K (dOf ck_mX1_chosenUses rfl rfl) (Nat.le_of_ble_eq_true rfl)) ?_
  refine g_lv (lv' := [(1, .inl _), (0, .inr (.inr (.inl (some _))))]) rfl ?_
  refine gl (i' := 3) (fun _ _ => aw_iconst K (n := 0) (i32 _ rfl) (dOf ck_mX1_chosenUses rfl rfl)) ?_
  refine gl (i' := 4) (fun _ _ => aw_istore_n K (dOf ck_mX1_chosenUses rfl rfl) (Nat.le_of_ble_eq_true rfl)) ?_
  refine g_lv (lv' := [(2, .inl _), (1, .inl _), (0, .inr (.inr (.inl (some _))))]) rfl ?_
  refine g_sub [2, 1, 0] rfl ?_
  exact lk_Cutter_chosenUses_4 K ht FU _ _
def B_richest (x1 : Int) (x2 : Int) (mm : aM) : Option (Int × aM) := if x1 < 1 then (some ((-3), mm)) else (if 60 < x1 then (some ((-3), mm)) else (if x2 < (-1) then (some ((-3), mm)) else ((Cutter_layAny 67 x1 mm).bind fun r4 => ((Cutter_choose 67 2 r4).bind fun r5 => (if (r5 67 8) = 0 then (some ((-1), r5)) else (if x2 = (-1) then ((Cutter_chosenUses 67 r5).bind fun r9 => (some (r9, r5))) else ((Cutter_chosenAt 67 x2 r5).bind fun r8 => (some (r8, r5)))))))))
set_option maxHeartbeats 4000000 in
theorem met_B_richest {l : Launch} {D : va_G} {cA : FieldType → ClassId} {ad adV : Nat → Nat} {z0 : Nat} {x1 : Int} {x2 : Int} {mm : aM}  {r : Int × aM} (h : B_richest x1 x2 mm = some r) : aMet l D cA ad adV z0 mX11_richest 5 122 0 0 [.inr (.inr (.inl (some 0))), .inl x1, .inl x2] SH mm (rIM r).1 SH (rIM r).2 := by
  refine aMet_ofG (by decide +kernel) rfl (Nat.le_of_ble_eq_true rfl) h (fun p e s m args below meth c al0 K => ?_)
  unfold B_richest
  refine gl (i' := 1) (fun _ _ => aw_iload_n K (dOf ck_mX11_richest rfl rfl) rfl) ?_
  refine gl (i' := 2) (fun _ _ => aw_iconst K (n := 1) (i32 _ rfl) (dOf ck_mX11_richest rfl rfl)) ?_
  refine g_icmp_lt K (dOf ck_mX11_richest rfl rfl) (t := 9) (aJ_of (by decide +kernel)) (fun h1 => ?_) (fun h1 => ?_)
  · refine gl (i' := 10) (fun _ _ => aw_bip K (dOf ck_mX11_richest rfl rfl) (v := -3) rfl) ?_
    exact g_iret K (dOf ck_mX11_richest rfl rfl).1 rfl (Or.inl rfl) rfl
  · refine gl (i' := 4) (fun _ _ => aw_iload_n K (dOf ck_mX11_richest rfl rfl) rfl) ?_
    refine gl (i' := 5) (fun _ _ => aw_bip K (dOf ck_mX11_richest rfl rfl) (v := 60) rfl) ?_
    refine g_icmp_gt K (dOf ck_mX11_richest rfl rfl) (t := 9) (aJ_of (by decide +kernel)) (fun h2 => ?_) (fun h2 => ?_)
    · refine gl (i' := 10) (fun _ _ => aw_bip K (dOf ck_mX11_richest rfl rfl) (v := -3) rfl) ?_
      exact g_iret K (dOf ck_mX11_richest rfl rfl).1 rfl (Or.inl rfl) rfl
    · refine gl (i' := 7) (fun _ _ => aw_iload_n K (dOf ck_mX11_richest rfl rfl) rfl) ?_
      refine gl (i' := 8) (fun _ _ => aw_iconst K (n := -1) (i32 _ rfl) (dOf ck_mX11_richest rfl rfl)) ?_
      refine g_icmp_ge K (dOf ck_mX11_richest rfl rfl) (t := 11) (aJ_of (by decide +kernel)) (fun h3 => ?_) (fun h3 => ?_)
      · refine gl (i' := 10) (fun _ _ => aw_bip K (dOf ck_mX11_richest rfl rfl) (v := -3) rfl) ?_
        exact g_iret K (dOf ck_mX11_richest rfl rfl).1 rfl (Or.inl rfl) rfl
      · refine gl (i' := 12) (fun _ _ => aw_aload_n K (dOf ck_mX11_richest rfl rfl) rfl) ?_
        refine gl (i' := 13) (fun _ _ => aw_getf K (dOf ck_mX11_richest rfl rfl) rfl rfl (Nat.le_of_ble_eq_true rfl) wd_467 (k := 7) rfl) ?_
        refine gl (i' := 14) (fun _ _ => aw_iload_n K (dOf ck_mX11_richest rfl rfl) rfl) ?_
        refine g_callVM K [.inl _] rfl (dOf ck_mX11_richest rfl rfl) al_OneBreath_313 rfl rfl ⟨wd_1068, wd_1069⟩ rfl (Nat.le_of_ble_eq_true rfl) ⟨Nat.le_of_ble_eq_true rfl, Nat.le_of_ble_eq_true rfl⟩ (fun b hb => met_Cutter_layAny (by unfold okC; omega) hb) (fun r4 hr4 => ?_)
        refine gl (i' := 16) (fun _ _ => aw_aload_n K (dOf ck_mX11_richest rfl rfl) rfl) ?_
        refine gl (i' := 17) (fun _ _ => aw_getf K (dOf ck_mX11_richest rfl rfl) rfl rfl (Nat.le_of_ble_eq_true rfl) wd_467 (k := 7) rfl) ?_
        refine gl (i' := 18) (fun _ _ => aw_iconst K (n := 2) (i32 _ rfl) (dOf ck_mX11_richest rfl rfl)) ?_
        refine g_callVM K [.inl _] rfl (dOf ck_mX11_richest rfl rfl) al_OneBreath_316 rfl rfl ⟨wd_766, wd_767⟩ rfl (Nat.le_of_ble_eq_true rfl) ⟨Nat.le_of_ble_eq_true rfl, Nat.le_of_ble_eq_true rfl⟩ (fun b hb => met_Cutter_choose (by unfold okC; omega) hb) (fun r5 hr5 => ?_)
        refine gl (i' := 20) (fun _ _ => aw_aload_n K (dOf ck_mX11_richest rfl rfl) rfl) ?_
        refine gl (i' := 21) (fun _ _ => aw_getf K (dOf ck_mX11_richest rfl rfl) rfl rfl (Nat.le_of_ble_eq_true rfl) wd_467 (k := 7) rfl) ?_
        refine gl (i' := 22) (fun _ _ => aw_getf K (dOf ck_mX11_richest rfl rfl) rfl rfl (Nat.le_of_ble_eq_true rfl) wd_354 (k := 8) rfl) ?_
        refine g_if_ne K (dOf ck_mX11_richest rfl rfl) (t := 25) (aJ_of (by decide +kernel)) (fun h6 => ?_) (fun h6 => ?_)
        · refine gl (i' := 24) (fun _ _ => aw_iconst K (n := -1) (i32 _ rfl) (dOf ck_mX11_richest rfl rfl)) ?_
          exact g_iret K (dOf ck_mX11_richest rfl rfl).1 rfl (Or.inl rfl) rfl
        · refine gl (i' := 26) (fun _ _ => aw_iload_n K (dOf ck_mX11_richest rfl rfl) rfl) ?_
          refine gl (i' := 27) (fun _ _ => aw_iconst K (n := -1) (i32 _ rfl) (dOf ck_mX11_richest rfl rfl)) ?_
          refine g_icmp_ne K (dOf ck_mX11_richest rfl rfl) (t := 32) (aJ_of (by decide +kernel)) (fun h7 => ?_) (fun h7 => ?_)
          · refine gl (i' := 29) (fun _ _ => aw_aload_n K (dOf ck_mX11_richest rfl rfl) rfl) ?_
            refine gl (i' := 30) (fun _ _ => aw_getf K (dOf ck_mX11_richest rfl rfl) rfl rfl (Nat.le_of_ble_eq_true rfl) wd_467 (k := 7) rfl) ?_
            refine g_callVI K [] rfl (dOf ck_mX11_richest rfl rfl) al_OneBreath_319 rfl rfl ⟨wd_1076, wd_1077⟩ rfl (Nat.le_of_ble_eq_true rfl) ⟨Nat.le_of_ble_eq_true rfl, Nat.le_of_ble_eq_true rfl⟩ (fun b hb => met_Cutter_chosenUses (by unfold okC; omega) hb) (fun r9 hr9 => ?_)
            refine g_goto K (dOf ck_mX11_richest rfl rfl).1 (t := 36) (aJ_of (by decide +kernel)) ?_
            exact g_iret K (by decide +kernel) rfl (Or.inl rfl) rfl
          · refine gl (i' := 33) (fun _ _ => aw_aload_n K (dOf ck_mX11_richest rfl rfl) rfl) ?_
            refine gl (i' := 34) (fun _ _ => aw_getf K (dOf ck_mX11_richest rfl rfl) rfl rfl (Nat.le_of_ble_eq_true rfl) wd_467 (k := 7) rfl) ?_
            refine gl (i' := 35) (fun _ _ => aw_iload_n K (dOf ck_mX11_richest rfl rfl) rfl) ?_
            refine g_callVI K [.inl _] rfl (dOf ck_mX11_richest rfl rfl) al_OneBreath_252 rfl rfl ⟨wd_787, wd_788⟩ rfl (Nat.le_of_ble_eq_true rfl) ⟨Nat.le_of_ble_eq_true rfl, Nat.le_of_ble_eq_true rfl⟩ (fun b hb => met_Cutter_chosenAt (by unfold okC; omega) hb) (fun r8 hr8 => ?_)
            exact g_iret K (by decide +kernel) rfl (Or.inl rfl) rfl
def Census_mostEnding_19 (mm : aM) (k4 : Int → Int → Option Int) (x1 : Int) (x2 : Int) : Option Int := k4 x1 (w32 (x2 + 1))
set_option maxHeartbeats 4000000 in
theorem lk_Census_mostEnding_19 {p : Program} {l : Launch} {e : Env} {s : State} {m : MethodId} {args : Array Value} {below : List Frame} {meth : Method} {c : Code} {D : va_G} {cA : FieldType → ClassId} {ad adV : Nat → Nat} {z0 : Nat} {al0 : List Nat} {mm : aM} (K : aK p s m args meth c mX0_mostEnding D cA ad adV z0) (x1 : Int) (x2 : Int) (k4 : Int → Int → Option Int) (hk4 : ∀ (x1 : Int) (x2 : Int), aG p l e { frames := 1, cells := 0, slots := 0, locals := 21 } s m args below meth c D cA ad z0 mX0_mostEnding al0 (rI mm) (k4 x1 x2) 4 [(0, .inr (.inr (.inl (some 120)))), (1, .inl x1), (2, .inl x2)] [] mm)  : aG p l e { frames := 1, cells := 0, slots := 0, locals := 21 } s m args below meth c D cA ad z0 mX0_mostEnding al0 (rI mm) (Census_mostEnding_19 mm k4 x1 x2) 19 [(0, .inr (.inr (.inl (some 120)))), (1, .inl x1), (2, .inl x2)] [] mm := by
  unfold Census_mostEnding_19
  refine gl (i' := 20) (fun _ _ => aw_iinc K (dOf ck_mX0_mostEnding rfl rfl) (Nat.le_of_ble_eq_true rfl) rfl) ?_
  refine g_lv (lv' := [(2, .inl _), (0, .inr (.inr (.inl (some _)))), (1, .inl _)]) rfl ?_
  refine g_goto K (dOf ck_mX0_mostEnding rfl rfl).1 (t := 4) (aJ_of (by decide +kernel)) ?_
  refine g_sub [1, 2, 0] rfl ?_
  exact hk4 _ _
def Census_mostEnding_4 (mm : aM) : Nat → Int → Int → Option Int
  | 0, _, _ => none
  | n + 1, x1, x2 => if x2 < 4 then ((Tongue_mayEnd 25 x2 mm).bind fun r2 => (if r2 = 0 then (Census_mostEnding_19 mm (Census_mostEnding_4 mm n) x1 x2) else (if 0 ≤ x2 ∧ x2 < 4 then ((Jmath_max x1 (mm 123 x2.toNat) mm).bind fun r5 => (Census_mostEnding_19 mm (Census_mostEnding_4 mm n) r5 x2)) else none))) else (some x1)
set_option maxHeartbeats 4000000 in
theorem lk_Census_mostEnding_4 {p : Program} {l : Launch} {e : Env} {s : State} {m : MethodId} {args : Array Value} {below : List Frame} {meth : Method} {c : Code} {D : va_G} {cA : FieldType → ClassId} {ad adV : Nat → Nat} {z0 : Nat} {al0 : List Nat} {mm : aM} (K : aK p s m args meth c mX0_mostEnding D cA ad adV z0)   : ∀ (n : Nat) (x1 : Int) (x2 : Int), aG p l e { frames := 1, cells := 0, slots := 0, locals := 21 } s m args below meth c D cA ad z0 mX0_mostEnding al0 (rI mm) (Census_mostEnding_4 mm n x1 x2) 4 [(0, .inr (.inr (.inl (some 120)))), (1, .inl x1), (2, .inl x2)] [] mm := by
  intro n
  induction n with
  | zero => intro x1 x2; exact g_none
  | succ n ih =>
    intro x1 x2
    rw [Census_mostEnding_4]
    refine gl (i' := 5) (fun _ _ => aw_iload_n K (dOf ck_mX0_mostEnding rfl rfl) rfl) ?_
    refine gl (i' := 6) (fun _ _ => aw_iconst K (n := 4) (i32 _ rfl) (dOf ck_mX0_mostEnding rfl rfl)) ?_
    refine g_icmp_ge K (dOf ck_mX0_mostEnding rfl rfl) (t := 21) (aJ_of (by decide +kernel)) (fun h1 => ?_) (fun h1 => ?_)
    · refine gl (i' := 8) (fun _ _ => aw_aload_n K (dOf ck_mX0_mostEnding rfl rfl) rfl) ?_
      refine gl (i' := 9) (fun _ _ => aw_getf K (dOf ck_mX0_mostEnding rfl rfl) rfl rfl (Nat.le_of_ble_eq_true rfl) wd_446 (k := 0) rfl) ?_
      refine gl (i' := 10) (fun _ _ => aw_iload_n K (dOf ck_mX0_mostEnding rfl rfl) rfl) ?_
      refine g_callVI K [.inl _] rfl (dOf ck_mX0_mostEnding rfl rfl) al_OneBreath_Census_93 rfl rfl ⟨wd_705, wd_706⟩ rfl (Nat.le_of_ble_eq_true rfl) ⟨Nat.le_of_ble_eq_true rfl, Nat.le_of_ble_eq_true rfl⟩ (fun b hb => met_Tongue_mayEnd (by unfold okT; omega) hb) (fun r2 hr2 => ?_)
      refine g_if_eq K (dOf ck_mX0_mostEnding rfl rfl) (t := 19) (aJ_of (by decide +kernel)) (fun h3 => ?_) (fun h3 => ?_)
      · refine g_sub [0, 1, 2] rfl ?_
        exact lk_Census_mostEnding_19 K _ _ _ ih
      · refine gl (i' := 13) (fun _ _ => aw_iload_n K (dOf ck_mX0_mostEnding rfl rfl) rfl) ?_
        refine gl (i' := 14) (fun _ _ => aw_aload_n K (dOf ck_mX0_mostEnding rfl rfl) rfl) ?_
        refine gl (i' := 15) (fun _ _ => aw_getf K (dOf ck_mX0_mostEnding rfl rfl) rfl rfl (Nat.le_of_ble_eq_true rfl) wd_450 (k := 4) rfl) ?_
        refine gl (i' := 16) (fun _ _ => aw_iload_n K (dOf ck_mX0_mostEnding rfl rfl) rfl) ?_
        refine g_gd (fun hb4 => ?_)
        refine gl (i' := 17) (fun _ _ => aw_iald K (dOf ck_mX0_mostEnding rfl rfl) rfl hb4) ?_
        refine g_callSI K [.inl _, .inl _] rfl (dOf ck_mX0_mostEnding rfl rfl) al_OneBreath_Census_55 wd_807 rfl (Nat.le_of_ble_eq_true rfl) ⟨Nat.le_of_ble_eq_true rfl, Nat.le_of_ble_eq_true rfl⟩ (fun b hb => met_Jmath_max  hb) (fun r5 hr5 => ?_)
        refine gl (i' := 19) (fun _ _ => aw_istore_n K (dOf ck_mX0_mostEnding rfl rfl) (Nat.le_of_ble_eq_true rfl)) ?_
        refine g_lv (lv' := [(1, .inl _), (0, .inr (.inr (.inl (some _)))), (2, .inl _)]) rfl ?_
        refine g_sub [1, 0, 2] rfl ?_
        exact lk_Census_mostEnding_19 K _ _ _ ih
    · refine gl (i' := 22) (fun _ _ => aw_iload_n K (dOf ck_mX0_mostEnding rfl rfl) rfl) ?_
      exact g_iret K (by decide +kernel) rfl (Or.inl rfl) rfl
def Census_mostEnding  (mm : aM) : Option Int := Census_mostEnding_4 mm FU 0 0
set_option maxHeartbeats 4000000 in
theorem met_Census_mostEnding {l : Launch} {D : va_G} {cA : FieldType → ClassId} {ad adV : Nat → Nat} {z0 : Nat}  {mm : aM}  {r : Int} (h : Census_mostEnding  mm = some r) : aMet l D cA ad adV z0 mX0_mostEnding 1 21 0 0 [.inr (.inr (.inl (some 120)))] SH mm ((rI mm) r).1 SH ((rI mm) r).2 := by
  refine aMet_ofG (by decide +kernel) rfl (Nat.le_of_ble_eq_true rfl) h (fun p e s m args below meth c al0 K => ?_)
  unfold Census_mostEnding
  refine gl (i' := 1) (fun _ _ => aw_iconst K (n := 0) (i32 _ rfl) (dOf ck_mX0_mostEnding rfl rfl)) ?_
  refine gl (i' := 2) (fun _ _ => aw_istore_n K (dOf ck_mX0_mostEnding rfl rfl) (Nat.le_of_ble_eq_true rfl)) ?_
  refine g_lv (lv' := [(1, .inl _), (0, .inr (.inr (.inl (some _))))]) rfl ?_
  refine gl (i' := 3) (fun _ _ => aw_iconst K (n := 0) (i32 _ rfl) (dOf ck_mX0_mostEnding rfl rfl)) ?_
  refine gl (i' := 4) (fun _ _ => aw_istore_n K (dOf ck_mX0_mostEnding rfl rfl) (Nat.le_of_ble_eq_true rfl)) ?_
  refine g_lv (lv' := [(2, .inl _), (1, .inl _), (0, .inr (.inr (.inl (some _))))]) rfl ?_
  refine g_sub [2, 1, 0] rfl ?_
  exact lk_Census_mostEnding_4 K FU _ _
def Census_goOn_58 (k6 : Int → aM → Option aM) (k11 : Int → aM → Option aM) (x1 : Int) (x2 : Int) (mm : aM) : Option aM := k11 (w32 (x2 + 1)) mm
set_option maxHeartbeats 4000000 in
theorem lk_Census_goOn_58 {p : Program} {l : Launch} {e : Env} {s : State} {m : MethodId} {args : Array Value} {below : List Frame} {meth : Method} {c : Code} {D : va_G} {cA : FieldType → ClassId} {ad adV : Nat → Nat} {z0 : Nat} {al0 : List Nat} (K : aK p s m args meth c mX0_goOn D cA ad adV z0) (x1 : Int) (x2 : Int) (k6 : Int → aM → Option aM) (hk6 : ∀ (x1 : Int) (mm : aM), aG p l e { frames := 1, cells := 0, slots := 0, locals := 26 } s m args below meth c D cA ad z0 mX0_goOn al0 rM (k6 x1 mm) 6 [(0, .inr (.inr (.inl (some 120)))), (1, .inl x1)] [] mm) (k11 : Int → aM → Option aM) (hk11 : ∀ (x2 : Int) (mm : aM), aG p l e { frames := 1, cells := 0, slots := 0, locals := 26 } s m args below meth c D cA ad z0 mX0_goOn al0 rM (k11 x2 mm) 11 [(0, .inr (.inr (.inl (some 120)))), (1, .inl x1), (2, .inl x2)] [] mm)  (mm : aM) : aG p l e { frames := 1, cells := 0, slots := 0, locals := 26 } s m args below meth c D cA ad z0 mX0_goOn al0 rM (Census_goOn_58 k6 k11 x1 x2 mm) 58 [(0, .inr (.inr (.inl (some 120)))), (1, .inl x1), (2, .inl x2)] [] mm := by
  unfold Census_goOn_58
  refine gl (i' := 59) (fun _ _ => aw_iinc K (dOf ck_mX0_goOn rfl rfl) (Nat.le_of_ble_eq_true rfl) rfl) ?_
  refine g_lv (lv' := [(2, .inl _), (0, .inr (.inr (.inl (some _)))), (1, .inl _)]) rfl ?_
  refine g_goto K (dOf ck_mX0_goOn rfl rfl).1 (t := 11) (aJ_of (by decide +kernel)) ?_
  refine g_sub [1, 2, 0] rfl ?_
  exact hk11 _ _
def Census_goOn_27 (k6 : Int → aM → Option aM) (k11 : Int → aM → Option aM) (x1 : Int) (x2 : Int) (s0 : Int) (mm : aM) : Option aM := if s0 = 0 then (Census_goOn_58 k6 k11 x1 x2 mm) else (if 0 ≤ x1 ∧ x1 < 4 then (if 0 < (mm 123 x1.toNat) then (if 0 ≤ x2 ∧ x2 < 4 then (if 0 < (mm 122 x2.toNat) then ((Jmath_max (mm 124 x2.toNat) (w32 ((mm 123 x1.toNat) + (mm 122 x2.toNat))) mm).bind fun r12 => (st1 (aup mm 124 x2.toNat r12) fun mm13 => (Census_goOn_58 k6 k11 x1 x2 mm13))) else (Census_goOn_58 k6 k11 x1 x2 mm)) else none) else (Census_goOn_58 k6 k11 x1 x2 mm)) else none)
set_option maxHeartbeats 4000000 in
theorem lk_Census_goOn_27 {p : Program} {l : Launch} {e : Env} {s : State} {m : MethodId} {args : Array Value} {below : List Frame} {meth : Method} {c : Code} {D : va_G} {cA : FieldType → ClassId} {ad adV : Nat → Nat} {z0 : Nat} {al0 : List Nat} (K : aK p s m args meth c mX0_goOn D cA ad adV z0) (x1 : Int) (x2 : Int) (k6 : Int → aM → Option aM) (hk6 : ∀ (x1 : Int) (mm : aM), aG p l e { frames := 1, cells := 0, slots := 0, locals := 26 } s m args below meth c D cA ad z0 mX0_goOn al0 rM (k6 x1 mm) 6 [(0, .inr (.inr (.inl (some 120)))), (1, .inl x1)] [] mm) (k11 : Int → aM → Option aM) (hk11 : ∀ (x2 : Int) (mm : aM), aG p l e { frames := 1, cells := 0, slots := 0, locals := 26 } s m args below meth c D cA ad z0 mX0_goOn al0 rM (k11 x2 mm) 11 [(0, .inr (.inr (.inl (some 120)))), (1, .inl x1), (2, .inl x2)] [] mm)  (s0 : Int) (mm : aM) : aG p l e { frames := 1, cells := 0, slots := 0, locals := 26 } s m args below meth c D cA ad z0 mX0_goOn al0 rM (Census_goOn_27 k6 k11 x1 x2 s0 mm) 27 [(0, .inr (.inr (.inl (some 120)))), (1, .inl x1), (2, .inl x2)] [.inl s0] mm := by
  unfold Census_goOn_27
  refine gl (i' := 28) (fun _ _ => aw_istore_n K (dOf ck_mX0_goOn rfl rfl) (Nat.le_of_ble_eq_true rfl)) ?_
  refine g_lv (lv' := [(3, .inl _), (0, .inr (.inr (.inl (some _)))), (1, .inl _), (2, .inl _)]) rfl ?_
  refine gl (i' := 29) (fun _ _ => aw_iload_n K (dOf ck_mX0_goOn rfl rfl) rfl) ?_
  refine g_if_eq K (dOf ck_mX0_goOn rfl rfl) (t := 58) (aJ_of (by decide +kernel)) (fun h7 => ?_) (fun h7 => ?_)
  · refine g_sub [1, 2, 3] rfl ?_
    exact lk_Census_goOn_58 K _ _ _ hk6 _ hk11 _
  · refine gl (i' := 31) (fun _ _ => aw_aload_n K (dOf ck_mX0_goOn rfl rfl) rfl) ?_
    refine gl (i' := 32) (fun _ _ => aw_getf K (dOf ck_mX0_goOn rfl rfl) rfl rfl (Nat.le_of_ble_eq_true rfl) wd_450 (k := 4) rfl) ?_
    refine gl (i' := 33) (fun _ _ => aw_iload_n K (dOf ck_mX0_goOn rfl rfl) rfl) ?_
    refine g_gd (fun hb8 => ?_)
    refine gl (i' := 34) (fun _ _ => aw_iald K (dOf ck_mX0_goOn rfl rfl) rfl hb8) ?_
    refine g_if_le K (dOf ck_mX0_goOn rfl rfl) (t := 58) (aJ_of (by decide +kernel)) (fun h9 => ?_) (fun h9 => ?_)
    · refine gl (i' := 36) (fun _ _ => aw_aload_n K (dOf ck_mX0_goOn rfl rfl) rfl) ?_
      refine gl (i' := 37) (fun _ _ => aw_getf K (dOf ck_mX0_goOn rfl rfl) rfl rfl (Nat.le_of_ble_eq_true rfl) wd_449 (k := 3) rfl) ?_
      refine gl (i' := 38) (fun _ _ => aw_iload_n K (dOf ck_mX0_goOn rfl rfl) rfl) ?_
      refine g_gd (fun hb10 => ?_)
      refine gl (i' := 39) (fun _ _ => aw_iald K (dOf ck_mX0_goOn rfl rfl) rfl hb10) ?_
      refine g_if_le K (dOf ck_mX0_goOn rfl rfl) (t := 58) (aJ_of (by decide +kernel)) (fun h11 => ?_) (fun h11 => ?_)
      · refine gl (i' := 41) (fun _ _ => aw_aload_n K (dOf ck_mX0_goOn rfl rfl) rfl) ?_
        refine gl (i' := 42) (fun _ _ => aw_getf K (dOf ck_mX0_goOn rfl rfl) rfl rfl (Nat.le_of_ble_eq_true rfl) wd_451 (k := 5) rfl) ?_
        refine gl (i' := 43) (fun _ _ => aw_iload_n K (dOf ck_mX0_goOn rfl rfl) rfl) ?_
        refine gl (i' := 44) (fun _ _ => aw_aload_n K (dOf ck_mX0_goOn rfl rfl) rfl) ?_
        refine gl (i' := 45) (fun _ _ => aw_getf K (dOf ck_mX0_goOn rfl rfl) rfl rfl (Nat.le_of_ble_eq_true rfl) wd_451 (k := 5) rfl) ?_
        refine gl (i' := 46) (fun _ _ => aw_iload_n K (dOf ck_mX0_goOn rfl rfl) rfl) ?_
        refine gl (i' := 47) (fun _ _ => aw_iald K (dOf ck_mX0_goOn rfl rfl) rfl hb10) ?_
        refine gl (i' := 48) (fun _ _ => aw_aload_n K (dOf ck_mX0_goOn rfl rfl) rfl) ?_
        refine gl (i' := 49) (fun _ _ => aw_getf K (dOf ck_mX0_goOn rfl rfl) rfl rfl (Nat.le_of_ble_eq_true rfl) wd_450 (k := 4) rfl) ?_
        refine gl (i' := 50) (fun _ _ => aw_iload_n K (dOf ck_mX0_goOn rfl rfl) rfl) ?_
        refine gl (i' := 51) (fun _ _ => aw_iald K (dOf ck_mX0_goOn rfl rfl) rfl hb8) ?_
        refine gl (i' := 52) (fun _ _ => aw_aload_n K (dOf ck_mX0_goOn rfl rfl) rfl) ?_
        refine gl (i' := 53) (fun _ _ => aw_getf K (dOf ck_mX0_goOn rfl rfl) rfl rfl (Nat.le_of_ble_eq_true rfl) wd_449 (k := 3) rfl) ?_
        refine gl (i' := 54) (fun _ _ => aw_iload_n K (dOf ck_mX0_goOn rfl rfl) rfl) ?_
        refine gl (i' := 55) (fun _ _ => aw_iald K (dOf ck_mX0_goOn rfl rfl) rfl hb10) ?_
        refine gl (i' := 56) (fun _ _ => aw_iadd K (dOf ck_mX0_goOn rfl rfl)) ?_
        refine g_callSI K [.inl _, .inl _] rfl (dOf ck_mX0_goOn rfl rfl) al_OneBreath_Census_55 wd_807 rfl (Nat.le_of_ble_eq_true rfl) ⟨Nat.le_of_ble_eq_true rfl, Nat.le_of_ble_eq_true rfl⟩ (fun b hb => met_Jmath_max  hb) (fun r12 hr12 => ?_)
        refine g_st1 ?_
        refine gl (i' := 58) (fun _ _ => aw_iast K (dOf ck_mX0_goOn rfl rfl) rfl hb10) ?_
        refine g_sub [1, 2, 3] rfl ?_
        exact lk_Census_goOn_58 K _ _ _ hk6 _ hk11 _
      · refine g_sub [1, 2, 3] rfl ?_
        exact lk_Census_goOn_58 K _ _ _ hk6 _ hk11 _
    · refine g_sub [1, 2, 3] rfl ?_
      exact lk_Census_goOn_58 K _ _ _ hk6 _ hk11 _
def Census_goOn_11 (k6 : Int → aM → Option aM) (x1 : Int) : Nat → Int → aM → Option aM
  | 0, _, _ => none
  | n + 1, x2, mm => if x2 < 4 then (if 0 ≤ x1 ∧ x1 < 4 then (if (iand (ishr (mm 44 x1.toNat) x2) 1) = 0 then (Census_goOn_27 k6 (Census_goOn_11 k6 x1 n) x1 x2 0 mm) else (Census_goOn_27 k6 (Census_goOn_11 k6 x1 n) x1 x2 1 mm)) else none) else (k6 (w32 (x1 + 1)) mm)
set_option maxHeartbeats 4000000 in
theorem lk_Census_goOn_11 {p : Program} {l : Launch} {e : Env} {s : State} {m : MethodId} {args : Array Value} {below : List Frame} {meth : Method} {c : Code} {D : va_G} {cA : FieldType → ClassId} {ad adV : Nat → Nat} {z0 : Nat} {al0 : List Nat} (K : aK p s m args meth c mX0_goOn D cA ad adV z0) (x1 : Int) (k6 : Int → aM → Option aM) (hk6 : ∀ (x1 : Int) (mm : aM), aG p l e { frames := 1, cells := 0, slots := 0, locals := 26 } s m args below meth c D cA ad z0 mX0_goOn al0 rM (k6 x1 mm) 6 [(0, .inr (.inr (.inl (some 120)))), (1, .inl x1)] [] mm)  : ∀ (n : Nat) (x2 : Int) (mm : aM), aG p l e { frames := 1, cells := 0, slots := 0, locals := 26 } s m args below meth c D cA ad z0 mX0_goOn al0 rM (Census_goOn_11 k6 x1 n x2 mm) 11 [(0, .inr (.inr (.inl (some 120)))), (1, .inl x1), (2, .inl x2)] [] mm := by
  intro n
  induction n with
  | zero => intro x2 mm; exact g_none
  | succ n ih =>
    intro x2 mm
    rw [Census_goOn_11]
    refine gl (i' := 12) (fun _ _ => aw_iload_n K (dOf ck_mX0_goOn rfl rfl) rfl) ?_
    refine gl (i' := 13) (fun _ _ => aw_iconst K (n := 4) (i32 _ rfl) (dOf ck_mX0_goOn rfl rfl)) ?_
    refine g_icmp_ge K (dOf ck_mX0_goOn rfl rfl) (t := 60) (aJ_of (by decide +kernel)) (fun h4 => ?_) (fun h4 => ?_)
    · refine gl (i' := 15) (fun _ _ => aw_aload_n K (dOf ck_mX0_goOn rfl rfl) rfl) ?_
      refine gl (i' := 16) (fun _ _ => aw_getf K (dOf ck_mX0_goOn rfl rfl) rfl rfl (Nat.le_of_ble_eq_true rfl) wd_446 (k := 0) rfl) ?_
      refine gl (i' := 17) (fun _ _ => aw_getf K (dOf ck_mX0_goOn rfl rfl) rfl rfl (Nat.le_of_ble_eq_true rfl) wd_260 (k := 12) rfl) ?_
      refine gl (i' := 18) (fun _ _ => aw_iload_n K (dOf ck_mX0_goOn rfl rfl) rfl) ?_
      refine g_gd (fun hb5 => ?_)
      refine gl (i' := 19) (fun _ _ => aw_iald K (dOf ck_mX0_goOn rfl rfl) rfl hb5) ?_
      refine gl (i' := 20) (fun _ _ => aw_iload_n K (dOf ck_mX0_goOn rfl rfl) rfl) ?_
      refine gl (i' := 21) (fun _ _ => aw_ishr K (dOf ck_mX0_goOn rfl rfl)) ?_
      refine gl (i' := 22) (fun _ _ => aw_iconst K (n := 1) (i32 _ rfl) (dOf ck_mX0_goOn rfl rfl)) ?_
      refine gl (i' := 23) (fun _ _ => aw_iand K (dOf ck_mX0_goOn rfl rfl)) ?_
      refine g_if_eq K (dOf ck_mX0_goOn rfl rfl) (t := 26) (aJ_of (by decide +kernel)) (fun h6 => ?_) (fun h6 => ?_)
      · refine gl (i' := 27) (fun _ _ => aw_iconst K (n := 0) (i32 _ rfl) (dOf ck_mX0_goOn rfl rfl)) ?_
        refine g_sub [0, 1, 2] rfl ?_
        exact lk_Census_goOn_27 K _ _ _ hk6 _ ih _ _
      · refine gl (i' := 25) (fun _ _ => aw_iconst K (n := 1) (i32 _ rfl) (dOf ck_mX0_goOn rfl rfl)) ?_
        refine g_goto K (dOf ck_mX0_goOn rfl rfl).1 (t := 27) (aJ_of (by decide +kernel)) ?_
        refine g_sub [0, 1, 2] rfl ?_
        exact lk_Census_goOn_27 K _ _ _ hk6 _ ih _ _
    · refine gl (i' := 61) (fun _ _ => aw_iinc K (dOf ck_mX0_goOn rfl rfl) (Nat.le_of_ble_eq_true rfl) rfl) ?_
      refine g_lv (lv' := [(1, .inl _), (0, .inr (.inr (.inl (some _)))), (2, .inl _)]) rfl ?_
      refine g_goto K (dOf ck_mX0_goOn rfl rfl).1 (t := 6) (aJ_of (by decide +kernel)) ?_
      refine g_sub [1, 0] rfl ?_
      exact hk6 _ _
def Census_goOn_6  : Nat → Int → aM → Option aM
  | 0, _, _ => none
  | n + 1, x1, mm => if x1 < 4 then (Census_goOn_11 (Census_goOn_6 n) x1 FU 0 mm) else (st1 (aupr mm 123 (aCpy (mm 124) (mm 123) 0 0 4)) fun mm3 => (some mm3))
set_option maxHeartbeats 4000000 in
theorem lk_Census_goOn_6 {p : Program} {l : Launch} {e : Env} {s : State} {m : MethodId} {args : Array Value} {below : List Frame} {meth : Method} {c : Code} {D : va_G} {cA : FieldType → ClassId} {ad adV : Nat → Nat} {z0 : Nat} {al0 : List Nat} (K : aK p s m args meth c mX0_goOn D cA ad adV z0)   : ∀ (n : Nat) (x1 : Int) (mm : aM), aG p l e { frames := 1, cells := 0, slots := 0, locals := 26 } s m args below meth c D cA ad z0 mX0_goOn al0 rM (Census_goOn_6 n x1 mm) 6 [(0, .inr (.inr (.inl (some 120)))), (1, .inl x1)] [] mm := by
  intro n
  induction n with
  | zero => intro x1 mm; exact g_none
  | succ n ih =>
    intro x1 mm
    rw [Census_goOn_6]
    refine gl (i' := 7) (fun _ _ => aw_iload_n K (dOf ck_mX0_goOn rfl rfl) rfl) ?_
    refine gl (i' := 8) (fun _ _ => aw_iconst K (n := 4) (i32 _ rfl) (dOf ck_mX0_goOn rfl rfl)) ?_
    refine g_icmp_ge K (dOf ck_mX0_goOn rfl rfl) (t := 62) (aJ_of (by decide +kernel)) (fun h2 => ?_) (fun h2 => ?_)
    · refine gl (i' := 10) (fun _ _ => aw_iconst K (n := 0) (i32 _ rfl) (dOf ck_mX0_goOn rfl rfl)) ?_
      refine gl (i' := 11) (fun _ _ => aw_istore_n K (dOf ck_mX0_goOn rfl rfl) (Nat.le_of_ble_eq_true rfl)) ?_
      refine g_lv (lv' := [(2, .inl _), (0, .inr (.inr (.inl (some _)))), (1, .inl _)]) rfl ?_
      refine g_sub [1, 2, 0] rfl ?_
      exact lk_Census_goOn_11 K _ _ ih FU _ _
    · refine gl (i' := 63) (fun _ _ => aw_aload_n K (dOf ck_mX0_goOn rfl rfl) rfl) ?_
      refine gl (i' := 64) (fun _ _ => aw_getf K (dOf ck_mX0_goOn rfl rfl) rfl rfl (Nat.le_of_ble_eq_true rfl) wd_451 (k := 5) rfl) ?_
      refine gl (i' := 65) (fun _ _ => aw_iconst K (n := 0) (i32 _ rfl) (dOf ck_mX0_goOn rfl rfl)) ?_
      refine gl (i' := 66) (fun _ _ => aw_aload_n K (dOf ck_mX0_goOn rfl rfl) rfl) ?_
      refine gl (i' := 67) (fun _ _ => aw_getf K (dOf ck_mX0_goOn rfl rfl) rfl rfl (Nat.le_of_ble_eq_true rfl) wd_450 (k := 4) rfl) ?_
      refine gl (i' := 68) (fun _ _ => aw_iconst K (n := 0) (i32 _ rfl) (dOf ck_mX0_goOn rfl rfl)) ?_
      refine gl (i' := 69) (fun _ _ => aw_iconst K (n := 4) (i32 _ rfl) (dOf ck_mX0_goOn rfl rfl)) ?_
      refine g_st1 ?_
      refine gl (i' := 70) (fun _ _ => aw_copy K (dOf ck_mX0_goOn rfl rfl) ⟨wd_1088, wd_611, wd_610, wd_157⟩ rfl rfl (by decide) (by decide) (by decide) (by decide) (by decide) (Nat.le_of_ble_eq_true rfl) ⟨Nat.le_of_ble_eq_true rfl, Nat.le_of_ble_eq_true rfl⟩) ?_
      exact g_vret K (by decide +kernel) rfl rfl
def Census_goOn  (mm : aM) : Option aM := (Jarr_fillI 124 0 mm).bind fun r1 => (Census_goOn_6 FU 0 r1)
set_option maxHeartbeats 4000000 in
theorem met_Census_goOn {l : Launch} {D : va_G} {cA : FieldType → ClassId} {ad adV : Nat → Nat} {z0 : Nat}  {mm : aM}  {r : aM} (h : Census_goOn  mm = some r) : aMet l D cA ad adV z0 mX0_goOn 1 26 0 0 [.inr (.inr (.inl (some 120)))] SH mm (rM r).1 SH (rM r).2 := by
  refine aMet_ofG (by decide +kernel) rfl (Nat.le_of_ble_eq_true rfl) h (fun p e s m args below meth c al0 K => ?_)
  unfold Census_goOn
  refine gl (i' := 1) (fun _ _ => aw_aload_n K (dOf ck_mX0_goOn rfl rfl) rfl) ?_
  refine gl (i' := 2) (fun _ _ => aw_getf K (dOf ck_mX0_goOn rfl rfl) rfl rfl (Nat.le_of_ble_eq_true rfl) wd_451 (k := 5) rfl) ?_
  refine gl (i' := 3) (fun _ _ => aw_iconst K (n := 0) (i32 _ rfl) (dOf ck_mX0_goOn rfl rfl)) ?_
  refine g_callSM K [.inr (.inr (.inl (some _))), .inl _] rfl (dOf ck_mX0_goOn rfl rfl) al_OneBreath_Census_72 wd_186 rfl (Nat.le_of_ble_eq_true rfl) ⟨Nat.le_of_ble_eq_true rfl, Nat.le_of_ble_eq_true rfl⟩ (fun b hb => met_Jarr_fillI ⟨_, rfl⟩ hb) (fun r1 hr1 => ?_)
  refine gl (i' := 5) (fun _ _ => aw_iconst K (n := 0) (i32 _ rfl) (dOf ck_mX0_goOn rfl rfl)) ?_
  refine gl (i' := 6) (fun _ _ => aw_istore_n K (dOf ck_mX0_goOn rfl rfl) (Nat.le_of_ble_eq_true rfl)) ?_
  refine g_lv (lv' := [(1, .inl _), (0, .inr (.inr (.inl (some _))))]) rfl ?_
  refine g_sub [1, 0] rfl ?_
  exact lk_Census_goOn_6 K FU _ _
def Census_measureSentences_71 (k49 : Int → aM → Option aM) (x1 : Int) (mm : aM) : Option aM := (Census_goOn mm).bind fun r12 => (k49 (w32 (x1 + 1)) r12)
set_option maxHeartbeats 4000000 in
theorem lk_Census_measureSentences_71 {p : Program} {l : Launch} {e : Env} {s : State} {m : MethodId} {args : Array Value} {below : List Frame} {meth : Method} {c : Code} {D : va_G} {cA : FieldType → ClassId} {ad adV : Nat → Nat} {z0 : Nat} {al0 : List Nat} (K : aK p s m args meth c mX0_measureSentences D cA ad adV z0) (x1 : Int) (k49 : Int → aM → Option aM) (hk49 : ∀ (x1 : Int) (mm : aM), aG p l e { frames := 2, cells := 0, slots := 0, locals := 49 } s m args below meth c D cA ad z0 mX0_measureSentences al0 rM (k49 x1 mm) 49 [(0, .inr (.inr (.inl (some 120)))), (1, .inl x1)] [] mm)  (mm : aM) : aG p l e { frames := 2, cells := 0, slots := 0, locals := 49 } s m args below meth c D cA ad z0 mX0_measureSentences al0 rM (Census_measureSentences_71 k49 x1 mm) 71 [(0, .inr (.inr (.inl (some 120)))), (1, .inl x1)] [] mm := by
  unfold Census_measureSentences_71
  refine gl (i' := 72) (fun _ _ => aw_aload_n K (dOf ck_mX0_measureSentences rfl rfl) rfl) ?_
  refine g_callVM K [] rfl (dOf ck_mX0_measureSentences rfl rfl) al_OneBreath_Census_90 rfl rfl ⟨wd_1094, wd_58⟩ rfl (Nat.le_of_ble_eq_true rfl) ⟨Nat.le_of_ble_eq_true rfl, Nat.le_of_ble_eq_true rfl⟩ (fun b hb => met_Census_goOn  hb) (fun r12 hr12 => ?_)
  refine gl (i' := 74) (fun _ _ => aw_iinc K (dOf ck_mX0_measureSentences rfl rfl) (Nat.le_of_ble_eq_true rfl) rfl) ?_
  refine g_lv (lv' := [(1, .inl _), (0, .inr (.inr (.inl (some _))))]) rfl ?_
  refine g_goto K (dOf ck_mX0_measureSentences rfl rfl).1 (t := 49) (aJ_of (by decide +kernel)) ?_
  refine g_sub [1, 0] rfl ?_
  exact hk49 _ _
def Census_measureSentences_64 (k49 : Int → aM → Option aM) (x1 : Int) (x2 : Int) (mm : aM) : Option aM := if (mm 120 7) < x2 then (st1 (aup mm 120 7 x2) fun mm13 => (Census_measureSentences_71 k49 x1 mm13)) else (Census_measureSentences_71 k49 x1 mm)
set_option maxHeartbeats 4000000 in
theorem lk_Census_measureSentences_64 {p : Program} {l : Launch} {e : Env} {s : State} {m : MethodId} {args : Array Value} {below : List Frame} {meth : Method} {c : Code} {D : va_G} {cA : FieldType → ClassId} {ad adV : Nat → Nat} {z0 : Nat} {al0 : List Nat} (K : aK p s m args meth c mX0_measureSentences D cA ad adV z0) (x1 : Int) (x2 : Int) (k49 : Int → aM → Option aM) (hk49 : ∀ (x1 : Int) (mm : aM), aG p l e { frames := 2, cells := 0, slots := 0, locals := 49 } s m args below meth c D cA ad z0 mX0_measureSentences al0 rM (k49 x1 mm) 49 [(0, .inr (.inr (.inl (some 120)))), (1, .inl x1)] [] mm)  (mm : aM) : aG p l e { frames := 2, cells := 0, slots := 0, locals := 49 } s m args below meth c D cA ad z0 mX0_measureSentences al0 rM (Census_measureSentences_64 k49 x1 x2 mm) 64 [(0, .inr (.inr (.inl (some 120)))), (1, .inl x1), (2, .inl x2)] [] mm := by
  unfold Census_measureSentences_64
  refine gl (i' := 65) (fun _ _ => aw_iload_n K (dOf ck_mX0_measureSentences rfl rfl) rfl) ?_
  refine gl (i' := 66) (fun _ _ => aw_aload_n K (dOf ck_mX0_measureSentences rfl rfl) rfl) ?_
  refine gl (i' := 67) (fun _ _ => aw_getf K (dOf ck_mX0_measureSentences rfl rfl) rfl rfl (Nat.le_of_ble_eq_true rfl) wd_454 (k := 7) rfl) ?_
  refine g_icmp_le K (dOf ck_mX0_measureSentences rfl rfl) (t := 71) (aJ_of (by decide +kernel)) (fun h11 => ?_) (fun h11 => ?_)
  · refine gl (i' := 69) (fun _ _ => aw_aload_n K (dOf ck_mX0_measureSentences rfl rfl) rfl) ?_
    refine gl (i' := 70) (fun _ _ => aw_iload_n K (dOf ck_mX0_measureSentences rfl rfl) rfl) ?_
    refine g_st1 ?_
    refine gl (i' := 71) (fun _ _ => aw_putf K (dOf ck_mX0_measureSentences rfl rfl) rfl rfl (Nat.le_of_ble_eq_true rfl) wd_454 (k := 7) rfl rfl (Or.inl rfl)) ?_
    refine g_sub [0, 1] rfl ?_
    exact lk_Census_measureSentences_71 K _ _ hk49 _
  · refine g_sub [0, 1] rfl ?_
    exact lk_Census_measureSentences_71 K _ _ hk49 _
def Census_measureSentences_49  : Nat → Int → aM → Option aM
  | 0, _, _ => none
  | n + 1, x1, mm => if 5 < x1 then (if (mm 120 7) = 0 then (st1 (aup mm 120 7 (-1)) fun mm8 => (some mm8)) else (some mm)) else ((Census_mostEnding mm).bind fun r9 => (if 0 < r9 then (if 4 < x1 then (st1 (aup mm 120 6 1) fun mm15 => (Census_measureSentences_71 (Census_measureSentences_49 n) x1 mm15)) else (Census_measureSentences_64 (Census_measureSentences_49 n) x1 r9 mm)) else (Census_measureSentences_64 (Census_measureSentences_49 n) x1 r9 mm)))
set_option maxHeartbeats 4000000 in
theorem lk_Census_measureSentences_49 {p : Program} {l : Launch} {e : Env} {s : State} {m : MethodId} {args : Array Value} {below : List Frame} {meth : Method} {c : Code} {D : va_G} {cA : FieldType → ClassId} {ad adV : Nat → Nat} {z0 : Nat} {al0 : List Nat} (K : aK p s m args meth c mX0_measureSentences D cA ad adV z0)   : ∀ (n : Nat) (x1 : Int) (mm : aM), aG p l e { frames := 2, cells := 0, slots := 0, locals := 49 } s m args below meth c D cA ad z0 mX0_measureSentences al0 rM (Census_measureSentences_49 n x1 mm) 49 [(0, .inr (.inr (.inl (some 120)))), (1, .inl x1)] [] mm := by
  intro n
  induction n with
  | zero => intro x1 mm; exact g_none
  | succ n ih =>
    intro x1 mm
    rw [Census_measureSentences_49]
    refine gl (i' := 50) (fun _ _ => aw_iload_n K (dOf ck_mX0_measureSentences rfl rfl) rfl) ?_
    refine gl (i' := 51) (fun _ _ => aw_iconst K (n := 5) (i32 _ rfl) (dOf ck_mX0_measureSentences rfl rfl)) ?_
    refine g_icmp_gt K (dOf ck_mX0_measureSentences rfl rfl) (t := 75) (aJ_of (by decide +kernel)) (fun h6 => ?_) (fun h6 => ?_)
    · refine gl (i' := 76) (fun _ _ => aw_aload_n K (dOf ck_mX0_measureSentences rfl rfl) rfl) ?_
      refine gl (i' := 77) (fun _ _ => aw_getf K (dOf ck_mX0_measureSentences rfl rfl) rfl rfl (Nat.le_of_ble_eq_true rfl) wd_454 (k := 7) rfl) ?_
      refine g_if_ne K (dOf ck_mX0_measureSentences rfl rfl) (t := 81) (aJ_of (by decide +kernel)) (fun h7 => ?_) (fun h7 => ?_)
      · refine gl (i' := 79) (fun _ _ => aw_aload_n K (dOf ck_mX0_measureSentences rfl rfl) rfl) ?_
        refine gl (i' := 80) (fun _ _ => aw_iconst K (n := -1) (i32 _ rfl) (dOf ck_mX0_measureSentences rfl rfl)) ?_
        refine g_st1 ?_
        refine gl (i' := 81) (fun _ _ => aw_putf K (dOf ck_mX0_measureSentences rfl rfl) rfl rfl (Nat.le_of_ble_eq_true rfl) wd_454 (k := 7) rfl rfl (Or.inl rfl)) ?_
        exact g_vret K (by decide +kernel) rfl rfl
      · exact g_vret K (by decide +kernel) rfl rfl
    · refine gl (i' := 53) (fun _ _ => aw_aload_n K (dOf ck_mX0_measureSentences rfl rfl) rfl) ?_
      refine g_callVI K [] rfl (dOf ck_mX0_measureSentences rfl rfl) al_OneBreath_Census_87 rfl rfl ⟨wd_1090, wd_57⟩ rfl (Nat.le_of_ble_eq_true rfl) ⟨Nat.le_of_ble_eq_true rfl, Nat.le_of_ble_eq_true rfl⟩ (fun b hb => met_Census_mostEnding  hb) (fun r9 hr9 => ?_)
      refine gl (i' := 55) (fun _ _ => aw_istore_n K (dOf ck_mX0_measureSentences rfl rfl) (Nat.le_of_ble_eq_true rfl)) ?_
      refine g_lv (lv' := [(2, .inl _), (0, .inr (.inr (.inl (some _)))), (1, .inl _)]) rfl ?_
      refine gl (i' := 56) (fun _ _ => aw_iload_n K (dOf ck_mX0_measureSentences rfl rfl) rfl) ?_
      refine g_if_le K (dOf ck_mX0_measureSentences rfl rfl) (t := 64) (aJ_of (by decide +kernel)) (fun h10 => ?_) (fun h10 => ?_)
      · refine gl (i' := 58) (fun _ _ => aw_iload_n K (dOf ck_mX0_measureSentences rfl rfl) rfl) ?_
        refine gl (i' := 59) (fun _ _ => aw_iconst K (n := 4) (i32 _ rfl) (dOf ck_mX0_measureSentences rfl rfl)) ?_
        refine g_icmp_le K (dOf ck_mX0_measureSentences rfl rfl) (t := 64) (aJ_of (by decide +kernel)) (fun h14 => ?_) (fun h14 => ?_)
        · refine gl (i' := 61) (fun _ _ => aw_aload_n K (dOf ck_mX0_measureSentences rfl rfl) rfl) ?_
          refine gl (i' := 62) (fun _ _ => aw_iconst K (n := 1) (i32 _ rfl) (dOf ck_mX0_measureSentences rfl rfl)) ?_
          refine g_st1 ?_
          refine gl (i' := 63) (fun _ _ => aw_putf K (dOf ck_mX0_measureSentences rfl rfl) rfl rfl (Nat.le_of_ble_eq_true rfl) wd_452 (k := 6) rfl rfl (Or.inr ⟨rfl, Or.inr rfl⟩)) ?_
          refine g_goto K (dOf ck_mX0_measureSentences rfl rfl).1 (t := 71) (aJ_of (by decide +kernel)) ?_
          refine g_sub [1, 2] rfl ?_
          exact lk_Census_measureSentences_71 K _ _ ih _
        · refine g_sub [1, 2, 0] rfl ?_
          exact lk_Census_measureSentences_64 K _ _ _ ih _
      · refine g_sub [1, 2, 0] rfl ?_
        exact lk_Census_measureSentences_64 K _ _ _ ih _
def Census_measureSentences_12  : Nat → Int → aM → Option aM
  | 0, _, _ => none
  | n + 1, x1, mm => if x1 < (mm 25 2) then (if 0 ≤ x1 ∧ x1 < 12 then (if 0 ≤ (mm 43 x1.toNat) ∧ (mm 43 x1.toNat) < 4 then ((Jmath_max (mm 122 (mm 43 x1.toNat).toNat) (mm 41 x1.toNat) mm).bind fun r18 => (st1 (aup mm 122 (mm 43 x1.toNat).toNat r18) fun mm19 => (Census_measureSentences_12 n (w32 (x1 + 1)) mm19))) else none) else none) else (st1 (aupr mm 123 (aCpy (mm 122) (mm 123) 0 0 4)) fun mm5 => (Census_measureSentences_49 FU 1 mm5))
set_option maxHeartbeats 4000000 in
theorem lk_Census_measureSentences_12 {p : Program} {l : Launch} {e : Env} {s : State} {m : MethodId} {args : Array Value} {below : List Frame} {meth : Method} {c : Code} {D : va_G} {cA : FieldType → ClassId} {ad adV : Nat → Nat} {z0 : Nat} {al0 : List Nat} (K : aK p s m args meth c mX0_measureSentences D cA ad adV z0)   : ∀ (n : Nat) (x1 : Int) (mm : aM), aG p l e { frames := 2, cells := 0, slots := 0, locals := 49 } s m args below meth c D cA ad z0 mX0_measureSentences al0 rM (Census_measureSentences_12 n x1 mm) 12 [(0, .inr (.inr (.inl (some 120)))), (1, .inl x1)] [] mm := by
  intro n
  induction n with
  | zero => intro x1 mm; exact g_none
  | succ n ih =>
    intro x1 mm
    rw [Census_measureSentences_12]
    refine gl (i' := 13) (fun _ _ => aw_iload_n K (dOf ck_mX0_measureSentences rfl rfl) rfl) ?_
    refine gl (i' := 14) (fun _ _ => aw_aload_n K (dOf ck_mX0_measureSentences rfl rfl) rfl) ?_
    refine gl (i' := 15) (fun _ _ => aw_getf K (dOf ck_mX0_measureSentences rfl rfl) rfl rfl (Nat.le_of_ble_eq_true rfl) wd_446 (k := 0) rfl) ?_
    refine gl (i' := 16) (fun _ _ => aw_getf K (dOf ck_mX0_measureSentences rfl rfl) rfl rfl (Nat.le_of_ble_eq_true rfl) wd_197 (k := 2) rfl) ?_
    refine g_icmp_ge K (dOf ck_mX0_measureSentences rfl rfl) (t := 39) (aJ_of (by decide +kernel)) (fun h4 => ?_) (fun h4 => ?_)
    · refine gl (i' := 18) (fun _ _ => aw_aload_n K (dOf ck_mX0_measureSentences rfl rfl) rfl) ?_
      refine gl (i' := 19) (fun _ _ => aw_getf K (dOf ck_mX0_measureSentences rfl rfl) rfl rfl (Nat.le_of_ble_eq_true rfl) wd_446 (k := 0) rfl) ?_
      refine gl (i' := 20) (fun _ _ => aw_getf K (dOf ck_mX0_measureSentences rfl rfl) rfl rfl (Nat.le_of_ble_eq_true rfl) wd_253 (k := 11) rfl) ?_
      refine gl (i' := 21) (fun _ _ => aw_iload_n K (dOf ck_mX0_measureSentences rfl rfl) rfl) ?_
      refine g_gd (fun hb16 => ?_)
      refine gl (i' := 22) (fun _ _ => aw_iald K (dOf ck_mX0_measureSentences rfl rfl) rfl hb16) ?_
      refine gl (i' := 23) (fun _ _ => aw_istore_n K (dOf ck_mX0_measureSentences rfl rfl) (Nat.le_of_ble_eq_true rfl)) ?_
      refine g_lv (lv' := [(2, .inl _), (0, .inr (.inr (.inl (some _)))), (1, .inl _)]) rfl ?_
      refine gl (i' := 24) (fun _ _ => aw_aload_n K (dOf ck_mX0_measureSentences rfl rfl) rfl) ?_
      refine gl (i' := 25) (fun _ _ => aw_getf K (dOf ck_mX0_measureSentences rfl rfl) rfl rfl (Nat.le_of_ble_eq_true rfl) wd_449 (k := 3) rfl) ?_
      refine gl (i' := 26) (fun _ _ => aw_iload_n K (dOf ck_mX0_measureSentences rfl rfl) rfl) ?_
      refine gl (i' := 27) (fun _ _ => aw_aload_n K (dOf ck_mX0_measureSentences rfl rfl) rfl) ?_
      refine gl (i' := 28) (fun _ _ => aw_getf K (dOf ck_mX0_measureSentences rfl rfl) rfl rfl (Nat.le_of_ble_eq_true rfl) wd_449 (k := 3) rfl) ?_
      refine gl (i' := 29) (fun _ _ => aw_iload_n K (dOf ck_mX0_measureSentences rfl rfl) rfl) ?_
      refine g_gd (fun hb17 => ?_)
      refine gl (i' := 30) (fun _ _ => aw_iald K (dOf ck_mX0_measureSentences rfl rfl) rfl hb17) ?_
      refine gl (i' := 31) (fun _ _ => aw_aload_n K (dOf ck_mX0_measureSentences rfl rfl) rfl) ?_
      refine gl (i' := 32) (fun _ _ => aw_getf K (dOf ck_mX0_measureSentences rfl rfl) rfl rfl (Nat.le_of_ble_eq_true rfl) wd_446 (k := 0) rfl) ?_
      refine gl (i' := 33) (fun _ _ => aw_getf K (dOf ck_mX0_measureSentences rfl rfl) rfl rfl (Nat.le_of_ble_eq_true rfl) wd_237 (k := 9) rfl) ?_
      refine gl (i' := 34) (fun _ _ => aw_iload_n K (dOf ck_mX0_measureSentences rfl rfl) rfl) ?_
      refine gl (i' := 35) (fun _ _ => aw_iald K (dOf ck_mX0_measureSentences rfl rfl) rfl hb16) ?_
      refine g_callSI K [.inl _, .inl _] rfl (dOf ck_mX0_measureSentences rfl rfl) al_OneBreath_Census_55 wd_807 rfl (Nat.le_of_ble_eq_true rfl) ⟨Nat.le_of_ble_eq_true rfl, Nat.le_of_ble_eq_true rfl⟩ (fun b hb => met_Jmath_max  hb) (fun r18 hr18 => ?_)
      refine g_st1 ?_
      refine gl (i' := 37) (fun _ _ => aw_iast K (dOf ck_mX0_measureSentences rfl rfl) rfl hb17) ?_
      refine gl (i' := 38) (fun _ _ => aw_iinc K (dOf ck_mX0_measureSentences rfl rfl) (Nat.le_of_ble_eq_true rfl) rfl) ?_
      refine g_lv (lv' := [(1, .inl _), (2, .inl _), (0, .inr (.inr (.inl (some _))))]) rfl ?_
      refine g_goto K (dOf ck_mX0_measureSentences rfl rfl).1 (t := 12) (aJ_of (by decide +kernel)) ?_
      refine g_sub [2, 0] rfl ?_
      exact ih _ _
    · refine gl (i' := 40) (fun _ _ => aw_aload_n K (dOf ck_mX0_measureSentences rfl rfl) rfl) ?_
      refine gl (i' := 41) (fun _ _ => aw_getf K (dOf ck_mX0_measureSentences rfl rfl) rfl rfl (Nat.le_of_ble_eq_true rfl) wd_449 (k := 3) rfl) ?_
      refine gl (i' := 42) (fun _ _ => aw_iconst K (n := 0) (i32 _ rfl) (dOf ck_mX0_measureSentences rfl rfl)) ?_
      refine gl (i' := 43) (fun _ _ => aw_aload_n K (dOf ck_mX0_measureSentences rfl rfl) rfl) ?_
      refine gl (i' := 44) (fun _ _ => aw_getf K (dOf ck_mX0_measureSentences rfl rfl) rfl rfl (Nat.le_of_ble_eq_true rfl) wd_450 (k := 4) rfl) ?_
      refine gl (i' := 45) (fun _ _ => aw_iconst K (n := 0) (i32 _ rfl) (dOf ck_mX0_measureSentences rfl rfl)) ?_
      refine gl (i' := 46) (fun _ _ => aw_iconst K (n := 4) (i32 _ rfl) (dOf ck_mX0_measureSentences rfl rfl)) ?_
      refine g_st1 ?_
      refine gl (i' := 47) (fun _ _ => aw_copy K (dOf ck_mX0_measureSentences rfl rfl) ⟨wd_1088, wd_611, wd_610, wd_157⟩ rfl rfl (by decide) (by decide) (by decide) (by decide) (by decide) (Nat.le_of_ble_eq_true rfl) ⟨Nat.le_of_ble_eq_true rfl, Nat.le_of_ble_eq_true rfl⟩) ?_
      refine gl (i' := 48) (fun _ _ => aw_iconst K (n := 1) (i32 _ rfl) (dOf ck_mX0_measureSentences rfl rfl)) ?_
      refine gl (i' := 49) (fun _ _ => aw_istore_n K (dOf ck_mX0_measureSentences rfl rfl) (Nat.le_of_ble_eq_true rfl)) ?_
      refine g_lv (lv' := [(1, .inl _), (0, .inr (.inr (.inl (some _))))]) rfl ?_
      refine g_sub [1, 0] rfl ?_
      exact lk_Census_measureSentences_49 K FU _ _
def Census_measureSentences  (mm : aM) : Option aM := st1 (aup mm 120 6 0) fun mm1 => (st1 (aup mm1 120 7 (-1)) fun mm2 => ((Jarr_fillI 122 0 mm2).bind fun r3 => (Census_measureSentences_12 FU 0 r3)))
set_option maxHeartbeats 4000000 in
theorem met_Census_measureSentences {l : Launch} {D : va_G} {cA : FieldType → ClassId} {ad adV : Nat → Nat} {z0 : Nat}  {mm : aM}  {r : aM} (h : Census_measureSentences  mm = some r) : aMet l D cA ad adV z0 mX0_measureSentences 2 49 0 0 [.inr (.inr (.inl (some 120)))] SH mm (rM r).1 SH (rM r).2 := by
  refine aMet_ofG (by decide +kernel) rfl (Nat.le_of_ble_eq_true rfl) h (fun p e s m args below meth c al0 K => ?_)
  unfold Census_measureSentences
  refine gl (i' := 1) (fun _ _ => aw_aload_n K (dOf ck_mX0_measureSentences rfl rfl) rfl) ?_
  refine gl (i' := 2) (fun _ _ => aw_iconst K (n := 0) (i32 _ rfl) (dOf ck_mX0_measureSentences rfl rfl)) ?_
  refine g_st1 ?_
  refine gl (i' := 3) (fun _ _ => aw_putf K (dOf ck_mX0_measureSentences rfl rfl) rfl rfl (Nat.le_of_ble_eq_true rfl) wd_452 (k := 6) rfl rfl (Or.inr ⟨rfl, Or.inl rfl⟩)) ?_
  refine gl (i' := 4) (fun _ _ => aw_aload_n K (dOf ck_mX0_measureSentences rfl rfl) rfl) ?_
  refine gl (i' := 5) (fun _ _ => aw_iconst K (n := -1) (i32 _ rfl) (dOf ck_mX0_measureSentences rfl rfl)) ?_
  refine g_st1 ?_
  refine gl (i' := 6) (fun _ _ => aw_putf K (dOf ck_mX0_measureSentences rfl rfl) rfl rfl (Nat.le_of_ble_eq_true rfl) wd_454 (k := 7) rfl rfl (Or.inl rfl)) ?_
  refine gl (i' := 7) (fun _ _ => aw_aload_n K (dOf ck_mX0_measureSentences rfl rfl) rfl) ?_
  refine gl (i' := 8) (fun _ _ => aw_getf K (dOf ck_mX0_measureSentences rfl rfl) rfl rfl (Nat.le_of_ble_eq_true rfl) wd_449 (k := 3) rfl) ?_
  refine gl (i' := 9) (fun _ _ => aw_iconst K (n := 0) (i32 _ rfl) (dOf ck_mX0_measureSentences rfl rfl)) ?_
  refine g_callSM K [.inr (.inr (.inl (some _))), .inl _] rfl (dOf ck_mX0_measureSentences rfl rfl) al_OneBreath_Census_72 wd_186 rfl (Nat.le_of_ble_eq_true rfl) ⟨Nat.le_of_ble_eq_true rfl, Nat.le_of_ble_eq_true rfl⟩ (fun b hb => met_Jarr_fillI ⟨_, rfl⟩ hb) (fun r3 hr3 => ?_)
  refine gl (i' := 11) (fun _ _ => aw_iconst K (n := 0) (i32 _ rfl) (dOf ck_mX0_measureSentences rfl rfl)) ?_
  refine gl (i' := 12) (fun _ _ => aw_istore_n K (dOf ck_mX0_measureSentences rfl rfl) (Nat.le_of_ble_eq_true rfl)) ?_
  refine g_lv (lv' := [(1, .inl _), (0, .inr (.inr (.inl (some _))))]) rfl ?_
  refine g_sub [1, 0] rfl ?_
  exact lk_Census_measureSentences_12 K FU _ _
def B_endless  (mm : aM) : Option (Int × aM) := (Census_measureSentences mm).bind fun r1 => (if (r1 120 6) = 0 then (some (0, r1)) else (some (1, r1)))
set_option maxHeartbeats 4000000 in
theorem met_B_endless {l : Launch} {D : va_G} {cA : FieldType → ClassId} {ad adV : Nat → Nat} {z0 : Nat}  {mm : aM}  {r : Int × aM} (h : B_endless  mm = some r) : aMet l D cA ad adV z0 mX11_endless 3 71 0 0 [.inr (.inr (.inl (some 0)))] SH mm (rIM r).1 SH (rIM r).2 := by
  refine aMet_ofG (by decide +kernel) rfl (Nat.le_of_ble_eq_true rfl) h (fun p e s m args below meth c al0 K => ?_)
  unfold B_endless
  refine gl (i' := 1) (fun _ _ => aw_aload_n K (dOf ck_mX11_endless rfl rfl) rfl) ?_
  refine gl (i' := 2) (fun _ _ => aw_getf K (dOf ck_mX11_endless rfl rfl) rfl rfl (Nat.le_of_ble_eq_true rfl) wd_471 (k := 11) rfl) ?_
  refine g_callVM K [] rfl (dOf ck_mX11_endless rfl rfl) al_OneBreath_322 rfl rfl ⟨wd_1084, wd_1085⟩ rfl (Nat.le_of_ble_eq_true rfl) ⟨Nat.le_of_ble_eq_true rfl, Nat.le_of_ble_eq_true rfl⟩ (fun b hb => met_Census_measureSentences  hb) (fun r1 hr1 => ?_)
  refine gl (i' := 4) (fun _ _ => aw_aload_n K (dOf ck_mX11_endless rfl rfl) rfl) ?_
  refine gl (i' := 5) (fun _ _ => aw_getf K (dOf ck_mX11_endless rfl rfl) rfl rfl (Nat.le_of_ble_eq_true rfl) wd_471 (k := 11) rfl) ?_
  refine gl (i' := 6) (fun _ _ => aw_getf K (dOf ck_mX11_endless rfl rfl) rfl rfl (Nat.le_of_ble_eq_true rfl) wd_453 (k := 6) rfl) ?_
  refine g_if_eq K (dOf ck_mX11_endless rfl rfl) (t := 9) (aJ_of (by decide +kernel)) (fun h2 => ?_) (fun h2 => ?_)
  · refine gl (i' := 10) (fun _ _ => aw_iconst K (n := 0) (i32 _ rfl) (dOf ck_mX11_endless rfl rfl)) ?_
    exact g_iret K (by decide +kernel) rfl (Or.inl rfl) rfl
  · refine gl (i' := 8) (fun _ _ => aw_iconst K (n := 1) (i32 _ rfl) (dOf ck_mX11_endless rfl rfl)) ?_
    refine g_goto K (dOf ck_mX11_endless rfl rfl).1 (t := 10) (aJ_of (by decide +kernel)) ?_
    exact g_iret K (by decide +kernel) rfl (Or.inl rfl) rfl
def B_longest  (mm : aM) : Option (Int × aM) := (Census_measureSentences mm).bind fun r1 => (if (r1 120 6) = 0 then (some (r1 120 7, r1)) else (some ((-1), r1)))
set_option maxHeartbeats 4000000 in
theorem met_B_longest {l : Launch} {D : va_G} {cA : FieldType → ClassId} {ad adV : Nat → Nat} {z0 : Nat}  {mm : aM}  {r : Int × aM} (h : B_longest  mm = some r) : aMet l D cA ad adV z0 mX11_longest 3 71 0 0 [.inr (.inr (.inl (some 0)))] SH mm (rIM r).1 SH (rIM r).2 := by
  refine aMet_ofG (by decide +kernel) rfl (Nat.le_of_ble_eq_true rfl) h (fun p e s m args below meth c al0 K => ?_)
  unfold B_longest
  refine gl (i' := 1) (fun _ _ => aw_aload_n K (dOf ck_mX11_longest rfl rfl) rfl) ?_
  refine gl (i' := 2) (fun _ _ => aw_getf K (dOf ck_mX11_longest rfl rfl) rfl rfl (Nat.le_of_ble_eq_true rfl) wd_471 (k := 11) rfl) ?_
  refine g_callVM K [] rfl (dOf ck_mX11_longest rfl rfl) al_OneBreath_322 rfl rfl ⟨wd_1084, wd_1085⟩ rfl (Nat.le_of_ble_eq_true rfl) ⟨Nat.le_of_ble_eq_true rfl, Nat.le_of_ble_eq_true rfl⟩ (fun b hb => met_Census_measureSentences  hb) (fun r1 hr1 => ?_)
  refine gl (i' := 4) (fun _ _ => aw_aload_n K (dOf ck_mX11_longest rfl rfl) rfl) ?_
  refine gl (i' := 5) (fun _ _ => aw_getf K (dOf ck_mX11_longest rfl rfl) rfl rfl (Nat.le_of_ble_eq_true rfl) wd_471 (k := 11) rfl) ?_
  refine gl (i' := 6) (fun _ _ => aw_getf K (dOf ck_mX11_longest rfl rfl) rfl rfl (Nat.le_of_ble_eq_true rfl) wd_453 (k := 6) rfl) ?_
  refine g_if_eq K (dOf ck_mX11_longest rfl rfl) (t := 9) (aJ_of (by decide +kernel)) (fun h2 => ?_) (fun h2 => ?_)
  · refine gl (i' := 10) (fun _ _ => aw_aload_n K (dOf ck_mX11_longest rfl rfl) rfl) ?_
    refine gl (i' := 11) (fun _ _ => aw_getf K (dOf ck_mX11_longest rfl rfl) rfl rfl (Nat.le_of_ble_eq_true rfl) wd_471 (k := 11) rfl) ?_
    refine gl (i' := 12) (fun _ _ => aw_getf K (dOf ck_mX11_longest rfl rfl) rfl rfl (Nat.le_of_ble_eq_true rfl) wd_455 (k := 7) rfl) ?_
    exact g_iret K (by decide +kernel) rfl (Or.inl rfl) rfl
  · refine gl (i' := 8) (fun _ _ => aw_iconst K (n := -1) (i32 _ rfl) (dOf ck_mX11_longest rfl rfl)) ?_
    refine g_goto K (dOf ck_mX11_longest rfl rfl).1 (t := 12) (aJ_of (by decide +kernel)) ?_
    exact g_iret K (by decide +kernel) rfl (Or.inl rfl) rfl
def B_hearForNoise (x1 : Int) (x2 : Int) (mm : aM) : Option (Int × aM) := (Rows_isMissing x1 mm).bind fun r1 => (if r1 = 0 then ((Verdict_hear x1 mm).bind fun r3 => (if (r3 59 5) = 0 then (some ((-3), r3)) else (if 40 < (r3 59 3) then (some ((-3), r3)) else (if x2 < 0 then (some ((-3), r3)) else (if 100 < x2 then (some ((-3), r3)) else ((Verdict_sayInto 49 r3).bind fun r8 => (some (0, r8)))))))) else (some ((-6), mm)))
set_option maxHeartbeats 4000000 in
theorem met_B_hearForNoise {l : Launch} {D : va_G} {cA : FieldType → ClassId} {ad adV : Nat → Nat} {z0 : Nat} {x1 : Int} {x2 : Int} {mm : aM}  {r : Int × aM} (h : B_hearForNoise x1 x2 mm = some r) : aMet l D cA ad adV z0 mX11_hearForNoise 2 50 0 0 [.inr (.inr (.inl (some 0))), .inl x1, .inl x2] SH mm (rIM r).1 SH (rIM r).2 := by
  refine aMet_ofG (by decide +kernel) rfl (Nat.le_of_ble_eq_true rfl) h (fun p e s m args below meth c al0 K => ?_)
  unfold B_hearForNoise
  refine gl (i' := 1) (fun _ _ => aw_aload_n K (dOf ck_mX11_hearForNoise rfl rfl) rfl) ?_
  refine gl (i' := 2) (fun _ _ => aw_getf K (dOf ck_mX11_hearForNoise rfl rfl) rfl rfl (Nat.le_of_ble_eq_true rfl) wd_464 (k := 4) rfl) ?_
  refine gl (i' := 3) (fun _ _ => aw_iload_n K (dOf ck_mX11_hearForNoise rfl rfl) rfl) ?_
  refine g_callVI K [.inl _] rfl (dOf ck_mX11_hearForNoise rfl rfl) al_OneBreath_209 rfl rfl ⟨wd_692, wd_693⟩ rfl (Nat.le_of_ble_eq_true rfl) ⟨Nat.le_of_ble_eq_true rfl, Nat.le_of_ble_eq_true rfl⟩ (fun b hb => met_Rows_isMissing  hb) (fun r1 hr1 => ?_)
  refine g_if_eq K (dOf ck_mX11_hearForNoise rfl rfl) (t := 7) (aJ_of (by decide +kernel)) (fun h2 => ?_) (fun h2 => ?_)
  · refine gl (i' := 8) (fun _ _ => aw_aload_n K (dOf ck_mX11_hearForNoise rfl rfl) rfl) ?_
    refine gl (i' := 9) (fun _ _ => aw_getf K (dOf ck_mX11_hearForNoise rfl rfl) rfl rfl (Nat.le_of_ble_eq_true rfl) wd_465 (k := 5) rfl) ?_
    refine gl (i' := 10) (fun _ _ => aw_aload_n K (dOf ck_mX11_hearForNoise rfl rfl) rfl) ?_
    refine gl (i' := 11) (fun _ _ => aw_getf K (dOf ck_mX11_hearForNoise rfl rfl) rfl rfl (Nat.le_of_ble_eq_true rfl) wd_461 (k := 1) rfl) ?_
    refine gl (i' := 12) (fun _ _ => aw_aload_n K (dOf ck_mX11_hearForNoise rfl rfl) rfl) ?_
    refine gl (i' := 13) (fun _ _ => aw_getf K (dOf ck_mX11_hearForNoise rfl rfl) rfl rfl (Nat.le_of_ble_eq_true rfl) wd_464 (k := 4) rfl) ?_
    refine gl (i' := 14) (fun _ _ => aw_iload_n K (dOf ck_mX11_hearForNoise rfl rfl) rfl) ?_
    refine g_callVM K [.inr (.inr (.inl (some _))), .inr (.inr (.inl (some _))), .inl _] rfl (dOf ck_mX11_hearForNoise rfl rfl) al_OneBreath_212 rfl rfl ⟨wd_696, wd_697⟩ rfl (Nat.le_of_ble_eq_true rfl) ⟨Nat.le_of_ble_eq_true rfl, Nat.le_of_ble_eq_true rfl⟩ (fun b hb => met_Verdict_hear  hb) (fun r3 hr3 => ?_)
    refine gl (i' := 16) (fun _ _ => aw_aload_n K (dOf ck_mX11_hearForNoise rfl rfl) rfl) ?_
    refine gl (i' := 17) (fun _ _ => aw_getf K (dOf ck_mX11_hearForNoise rfl rfl) rfl rfl (Nat.le_of_ble_eq_true rfl) wd_465 (k := 5) rfl) ?_
    refine gl (i' := 18) (fun _ _ => aw_getf K (dOf ck_mX11_hearForNoise rfl rfl) rfl rfl (Nat.le_of_ble_eq_true rfl) wd_335 (k := 5) rfl) ?_
    refine g_if_eq K (dOf ck_mX11_hearForNoise rfl rfl) (t := 24) (aJ_of (by decide +kernel)) (fun h4 => ?_) (fun h4 => ?_)
    · refine gl (i' := 25) (fun _ _ => aw_bip K (dOf ck_mX11_hearForNoise rfl rfl) (v := -3) rfl) ?_
      exact g_iret K (dOf ck_mX11_hearForNoise rfl rfl).1 rfl (Or.inl rfl) rfl
    · refine gl (i' := 20) (fun _ _ => aw_aload_n K (dOf ck_mX11_hearForNoise rfl rfl) rfl) ?_
      refine gl (i' := 21) (fun _ _ => aw_getf K (dOf ck_mX11_hearForNoise rfl rfl) rfl rfl (Nat.le_of_ble_eq_true rfl) wd_465 (k := 5) rfl) ?_
      refine gl (i' := 22) (fun _ _ => aw_getf K (dOf ck_mX11_hearForNoise rfl rfl) rfl rfl (Nat.le_of_ble_eq_true rfl) wd_331 (k := 3) rfl) ?_
      refine gl (i' := 23) (fun _ _ => aw_bip K (dOf ck_mX11_hearForNoise rfl rfl) (v := 40) rfl) ?_
      refine g_icmp_le K (dOf ck_mX11_hearForNoise rfl rfl) (t := 26) (aJ_of (by decide +kernel)) (fun h5 => ?_) (fun h5 => ?_)
      · refine gl (i' := 25) (fun _ _ => aw_bip K (dOf ck_mX11_hearForNoise rfl rfl) (v := -3) rfl) ?_
        exact g_iret K (dOf ck_mX11_hearForNoise rfl rfl).1 rfl (Or.inl rfl) rfl
      · refine gl (i' := 27) (fun _ _ => aw_iload_n K (dOf ck_mX11_hearForNoise rfl rfl) rfl) ?_
        refine g_if_lt K (dOf ck_mX11_hearForNoise rfl rfl) (t := 31) (aJ_of (by decide +kernel)) (fun h6 => ?_) (fun h6 => ?_)
        · refine gl (i' := 32) (fun _ _ => aw_bip K (dOf ck_mX11_hearForNoise rfl rfl) (v := -3) rfl) ?_
          exact g_iret K (dOf ck_mX11_hearForNoise rfl rfl).1 rfl (Or.inl rfl) rfl
        · refine gl (i' := 29) (fun _ _ => aw_iload_n K (dOf ck_mX11_hearForNoise rfl rfl) rfl) ?_
          refine gl (i' := 30) (fun _ _ => aw_bip K (dOf ck_mX11_hearForNoise rfl rfl) (v := 100) rfl) ?_
          refine g_icmp_le K (dOf ck_mX11_hearForNoise rfl rfl) (t := 33) (aJ_of (by decide +kernel)) (fun h7 => ?_) (fun h7 => ?_)
          · refine gl (i' := 32) (fun _ _ => aw_bip K (dOf ck_mX11_hearForNoise rfl rfl) (v := -3) rfl) ?_
            exact g_iret K (dOf ck_mX11_hearForNoise rfl rfl).1 rfl (Or.inl rfl) rfl
          · refine gl (i' := 34) (fun _ _ => aw_aload_n K (dOf ck_mX11_hearForNoise rfl rfl) rfl) ?_
            refine gl (i' := 35) (fun _ _ => aw_getf K (dOf ck_mX11_hearForNoise rfl rfl) rfl rfl (Nat.le_of_ble_eq_true rfl) wd_465 (k := 5) rfl) ?_
            refine gl (i' := 36) (fun _ _ => aw_aload_n K (dOf ck_mX11_hearForNoise rfl rfl) rfl) ?_
            refine gl (i' := 37) (fun _ _ => aw_getf K (dOf ck_mX11_hearForNoise rfl rfl) rfl rfl (Nat.le_of_ble_eq_true rfl) wd_461 (k := 1) rfl) ?_
            refine gl (i' := 38) (fun _ _ => aw_aload_n K (dOf ck_mX11_hearForNoise rfl rfl) rfl) ?_
            refine gl (i' := 39) (fun _ _ => aw_getf K (dOf ck_mX11_hearForNoise rfl rfl) rfl rfl (Nat.le_of_ble_eq_true rfl) wd_463 (k := 3) rfl) ?_
            refine g_callVM K [.inr (.inr (.inl (some _))), .inr (.inr (.inl (some _)))] rfl (dOf ck_mX11_hearForNoise rfl rfl) al_OneBreath_226 rfl rfl ⟨wd_713, wd_714⟩ rfl (Nat.le_of_ble_eq_true rfl) ⟨Nat.le_of_ble_eq_true rfl, Nat.le_of_ble_eq_true rfl⟩ (fun b hb => met_Verdict_sayInto (by unfold okS; omega) hb) (fun r8 hr8 => ?_)
            refine gl (i' := 41) (fun _ _ => aw_iconst K (n := 0) (i32 _ rfl) (dOf ck_mX11_hearForNoise rfl rfl)) ?_
            exact g_iret K (by decide +kernel) rfl (Or.inl rfl) rfl
  · refine gl (i' := 6) (fun _ _ => aw_bip K (dOf ck_mX11_hearForNoise rfl rfl) (v := -6) rfl) ?_
    exact g_iret K (dOf ck_mX11_hearForNoise rfl rfl).1 rfl (Or.inl rfl) rfl
def Noise_draw  (mm : aM) : Option (Int × aM) := st1 (aup mm 73 3 (w32 ((w32 (1103515245 * (mm 73 3))) + 12345))) fun mm1 => (some (iushr (mm1 73 3) 16, mm1))
set_option maxHeartbeats 4000000 in
theorem met_Noise_draw {l : Launch} {D : va_G} {cA : FieldType → ClassId} {ad adV : Nat → Nat} {z0 : Nat}  {mm : aM}  {r : Int × aM} (h : Noise_draw  mm = some r) : aMet l D cA ad adV z0 mX4_draw 0 0 0 0 [.inr (.inr (.inl (some 73)))] SH mm (rIM r).1 SH (rIM r).2 := by
  refine aMet_ofG (by decide +kernel) rfl (Nat.le_of_ble_eq_true rfl) h (fun p e s m args below meth c al0 K => ?_)
  unfold Noise_draw
  refine gl (i' := 1) (fun _ _ => aw_aload_n K (dOf ck_mX4_draw rfl rfl) rfl) ?_
  refine gl (i' := 2) (fun _ _ => aw_ldc K (dOf ck_mX4_draw rfl rfl) (n := 1103515245) wd_1114 (i32 _ rfl)) ?_
  refine gl (i' := 3) (fun _ _ => aw_aload_n K (dOf ck_mX4_draw rfl rfl) rfl) ?_
  refine gl (i' := 4) (fun _ _ => aw_getf K (dOf ck_mX4_draw rfl rfl) rfl rfl (Nat.le_of_ble_eq_true rfl) wd_368 (k := 3) rfl) ?_
  refine gl (i' := 5) (fun _ _ => aw_imul K (dOf ck_mX4_draw rfl rfl)) ?_
  refine gl (i' := 6) (fun _ _ => aw_sip K (dOf ck_mX4_draw rfl rfl) (v := 12345) rfl) ?_
  refine gl (i' := 7) (fun _ _ => aw_iadd K (dOf ck_mX4_draw rfl rfl)) ?_
  refine g_st1 ?_
  refine gl (i' := 8) (fun _ _ => aw_putf K (dOf ck_mX4_draw rfl rfl) rfl rfl (Nat.le_of_ble_eq_true rfl) wd_368 (k := 3) rfl rfl (Or.inl rfl)) ?_
  refine gl (i' := 9) (fun _ _ => aw_aload_n K (dOf ck_mX4_draw rfl rfl) rfl) ?_
  refine gl (i' := 10) (fun _ _ => aw_getf K (dOf ck_mX4_draw rfl rfl) rfl rfl (Nat.le_of_ble_eq_true rfl) wd_368 (k := 3) rfl) ?_
  refine gl (i' := 11) (fun _ _ => aw_bip K (dOf ck_mX4_draw rfl rfl) (v := 16) rfl) ?_
  refine gl (i' := 12) (fun _ _ => aw_iushr K (dOf ck_mX4_draw rfl rfl)) ?_
  exact g_iret K (by decide +kernel) rfl (Or.inl rfl) rfl
def Noise_pick_18 (mm : aM) (k4 : Int → Int → Option Int) (x0 : Int) (x2 : Int) (x3 : Int) : Option Int := k4 x2 (w32 (x3 + 1))
set_option maxHeartbeats 4000000 in
theorem lk_Noise_pick_18 {p : Program} {l : Launch} {e : Env} {s : State} {m : MethodId} {args : Array Value} {below : List Frame} {meth : Method} {c : Code} {D : va_G} {cA : FieldType → ClassId} {ad adV : Nat → Nat} {z0 : Nat} {al0 : List Nat} {mm : aM} (K : aK p s m args meth c mX4_pick D cA ad adV z0) (x0 : Int) (x2 : Int) (x3 : Int) (k4 : Int → Int → Option Int) (hk4 : ∀ (x2 : Int) (x3 : Int), aG p l e { frames := 0, cells := 0, slots := 0, locals := 0 } s m args below meth c D cA ad z0 mX4_pick al0 (rI mm) (k4 x2 x3) 4 [(0, .inl x0), (2, .inl x2), (3, .inl x3)] [] mm)  : aG p l e { frames := 0, cells := 0, slots := 0, locals := 0 } s m args below meth c D cA ad z0 mX4_pick al0 (rI mm) (Noise_pick_18 mm k4 x0 x2 x3) 18 [(0, .inl x0), (2, .inl x2), (3, .inl x3)] [] mm := by
  unfold Noise_pick_18
  refine gl (i' := 19) (fun _ _ => aw_iinc K (dOf ck_mX4_pick rfl rfl) (Nat.le_of_ble_eq_true rfl) rfl) ?_
  refine g_lv (lv' := [(3, .inl _), (0, .inl _), (2, .inl _)]) rfl ?_
  refine g_goto K (dOf ck_mX4_pick rfl rfl).1 (t := 4) (aJ_of (by decide +kernel)) ?_
  refine g_sub [1, 2, 0] rfl ?_
  exact hk4 _ _
def Noise_pick_4 (mm : aM) (x0 : Int) : Nat → Int → Int → Option Int
  | 0, _, _ => none
  | n + 1, x2, x3 => if x3 < 8 then (if (iand (ishr x0 x3) 1) = 0 then (Noise_pick_18 mm (Noise_pick_4 mm x0 n) x0 x2 x3) else (if x2 = 0 then (some x3) else (Noise_pick_18 mm (Noise_pick_4 mm x0 n) x0 (w32 (x2 + (-1))) x3))) else (some 0)
set_option maxHeartbeats 4000000 in
theorem lk_Noise_pick_4 {p : Program} {l : Launch} {e : Env} {s : State} {m : MethodId} {args : Array Value} {below : List Frame} {meth : Method} {c : Code} {D : va_G} {cA : FieldType → ClassId} {ad adV : Nat → Nat} {z0 : Nat} {al0 : List Nat} {mm : aM} (K : aK p s m args meth c mX4_pick D cA ad adV z0) (x0 : Int)  : ∀ (n : Nat) (x2 : Int) (x3 : Int), aG p l e { frames := 0, cells := 0, slots := 0, locals := 0 } s m args below meth c D cA ad z0 mX4_pick al0 (rI mm) (Noise_pick_4 mm x0 n x2 x3) 4 [(0, .inl x0), (2, .inl x2), (3, .inl x3)] [] mm := by
  intro n
  induction n with
  | zero => intro x2 x3; exact g_none
  | succ n ih =>
    intro x2 x3
    rw [Noise_pick_4]
    refine gl (i' := 5) (fun _ _ => aw_iload_n K (dOf ck_mX4_pick rfl rfl) rfl) ?_
    refine gl (i' := 6) (fun _ _ => aw_bip K (dOf ck_mX4_pick rfl rfl) (v := 8) rfl) ?_
    refine g_icmp_ge K (dOf ck_mX4_pick rfl rfl) (t := 20) (aJ_of (by decide +kernel)) (fun h1 => ?_) (fun h1 => ?_)
    · refine gl (i' := 8) (fun _ _ => aw_iload_n K (dOf ck_mX4_pick rfl rfl) rfl) ?_
      refine gl (i' := 9) (fun _ _ => aw_iload_n K (dOf ck_mX4_pick rfl rfl) rfl) ?_
      refine gl (i' := 10) (fun _ _ => aw_ishr K (dOf ck_mX4_pick rfl rfl)) ?_
      refine gl (i' := 11) (fun _ _ => aw_iconst K (n := 1) (i32 _ rfl) (dOf ck_mX4_pick rfl rfl)) ?_
      refine gl (i' := 12) (fun _ _ => aw_iand K (dOf ck_mX4_pick rfl rfl)) ?_
      refine g_if_eq K (dOf ck_mX4_pick rfl rfl) (t := 18) (aJ_of (by decide +kernel)) (fun h2 => ?_) (fun h2 => ?_)
      · refine g_sub [0, 1, 2] rfl ?_
        exact lk_Noise_pick_18 K _ _ _ _ ih
      · refine gl (i' := 14) (fun _ _ => aw_iload_n K (dOf ck_mX4_pick rfl rfl) rfl) ?_
        refine g_if_ne K (dOf ck_mX4_pick rfl rfl) (t := 17) (aJ_of (by decide +kernel)) (fun h3 => ?_) (fun h3 => ?_)
        · refine gl (i' := 16) (fun _ _ => aw_iload_n K (dOf ck_mX4_pick rfl rfl) rfl) ?_
          exact g_iret K (dOf ck_mX4_pick rfl rfl).1 rfl (Or.inl rfl) rfl
        · refine gl (i' := 18) (fun _ _ => aw_iinc K (dOf ck_mX4_pick rfl rfl) (Nat.le_of_ble_eq_true rfl) rfl) ?_
          refine g_lv (lv' := [(2, .inl _), (0, .inl _), (3, .inl _)]) rfl ?_
          refine g_sub [1, 0, 2] rfl ?_
          exact lk_Noise_pick_18 K _ _ _ _ ih
    · refine gl (i' := 21) (fun _ _ => aw_iconst K (n := 0) (i32 _ rfl) (dOf ck_mX4_pick rfl rfl)) ?_
      exact g_iret K (by decide +kernel) rfl (Or.inl rfl) rfl
def Noise_pick (x0 : Int) (x1 : Int) (mm : aM) : Option Int := Noise_pick_4 mm x0 FU x1 0
set_option maxHeartbeats 4000000 in
theorem met_Noise_pick {l : Launch} {D : va_G} {cA : FieldType → ClassId} {ad adV : Nat → Nat} {z0 : Nat} {x0 : Int} {x1 : Int} {mm : aM}  {r : Int} (h : Noise_pick x0 x1 mm = some r) : aMet l D cA ad adV z0 mX4_pick 0 0 0 0 [.inl x0, .inl x1] SH mm ((rI mm) r).1 SH ((rI mm) r).2 := by
  refine aMet_ofG (by decide +kernel) rfl (Nat.le_of_ble_eq_true rfl) h (fun p e s m args below meth c al0 K => ?_)
  unfold Noise_pick
  refine gl (i' := 1) (fun _ _ => aw_iload_n K (dOf ck_mX4_pick rfl rfl) rfl) ?_
  refine gl (i' := 2) (fun _ _ => aw_istore_n K (dOf ck_mX4_pick rfl rfl) (Nat.le_of_ble_eq_true rfl)) ?_
  refine g_lv (lv' := [(2, .inl _), (0, .inl _), (1, .inl _)]) rfl ?_
  refine gl (i' := 3) (fun _ _ => aw_iconst K (n := 0) (i32 _ rfl) (dOf ck_mX4_pick rfl rfl)) ?_
  refine gl (i' := 4) (fun _ _ => aw_istore_n K (dOf ck_mX4_pick rfl rfl) (Nat.le_of_ble_eq_true rfl)) ?_
  refine g_lv (lv' := [(3, .inl _), (2, .inl _), (0, .inl _), (1, .inl _)]) rfl ?_
  refine g_sub [2, 1, 0] rfl ?_
  exact lk_Noise_pick_4 K _ FU _ _
def Noise_carry_46 (k9 : Int → aM → Option aM) (x2 : Int) (x3 : Int) (x4 : Int) (mm : aM) : Option aM := (Sounds_add 74 (w8 x4) mm).bind fun r7 => (k9 (w32 (x3 + 1)) r7)
set_option maxHeartbeats 4000000 in
theorem lk_Noise_carry_46 {p : Program} {l : Launch} {e : Env} {s : State} {m : MethodId} {args : Array Value} {below : List Frame} {meth : Method} {c : Code} {D : va_G} {cA : FieldType → ClassId} {ad adV : Nat → Nat} {z0 : Nat} {al0 : List Nat} (K : aK p s m args meth c mX4_carry D cA ad adV z0) (x2 : Int) (x3 : Int) (x4 : Int) (k9 : Int → aM → Option aM) (hk9 : ∀ (x3 : Int) (mm : aM), aG p l e { frames := 1, cells := 0, slots := 0, locals := 23 } s m args below meth c D cA ad z0 mX4_carry al0 rM (k9 x3 mm) 9 [(0, .inr (.inr (.inl (some 73)))), (1, .inr (.inr (.inl (some 49)))), (2, .inl x2), (3, .inl x3)] [] mm)  (mm : aM) : aG p l e { frames := 1, cells := 0, slots := 0, locals := 23 } s m args below meth c D cA ad z0 mX4_carry al0 rM (Noise_carry_46 k9 x2 x3 x4 mm) 46 [(0, .inr (.inr (.inl (some 73)))), (1, .inr (.inr (.inl (some 49)))), (2, .inl x2), (3, .inl x3), (4, .inl x4)] [] mm := by
  unfold Noise_carry_46
  refine gl (i' := 47) (fun _ _ => aw_aload_n K (dOf ck_mX4_carry rfl rfl) rfl) ?_
  refine gl (i' := 48) (fun _ _ => aw_getf K (dOf ck_mX4_carry rfl rfl) rfl rfl (Nat.le_of_ble_eq_true rfl) wd_366 (k := 2) rfl) ?_
  refine gl (i' := 49) (fun _ _ => aw_iload K (dOf ck_mX4_carry rfl rfl) rfl) ?_
  refine gl (i' := 50) (fun _ _ => aw_i2b K (dOf ck_mX4_carry rfl rfl)) ?_
  refine g_callVM K [.inl _] rfl (dOf ck_mX4_carry rfl rfl) al_OneBreath_Noise_61 rfl rfl ⟨wd_660, wd_661⟩ rfl (Nat.le_of_ble_eq_true rfl) ⟨Nat.le_of_ble_eq_true rfl, Nat.le_of_ble_eq_true rfl⟩ (fun b hb => met_Sounds_add (by unfold okS; omega) hb) (fun r7 hr7 => ?_)
  refine gl (i' := 52) (fun _ _ => aw_iinc K (dOf ck_mX4_carry rfl rfl) (Nat.le_of_ble_eq_true rfl) rfl) ?_
  refine g_lv (lv' := [(3, .inl _), (0, .inr (.inr (.inl (some _)))), (1, .inr (.inr (.inl (some _)))), (2, .inl _), (4, .inl _)]) rfl ?_
  refine g_goto K (dOf ck_mX4_carry rfl rfl).1 (t := 9) (aJ_of (by decide +kernel)) ?_
  refine g_sub [1, 2, 3, 0] rfl ?_
  exact hk9 _ _
def Noise_carry_9 (x2 : Int) : Nat → Int → aM → Option aM
  | 0, _, _ => none
  | n + 1, x3, mm => if x3 < (mm 49 1) then (if 0 ≤ x3 ∧ x3 < 40 then (if 0 ≤ (mm 50 x3.toNat) ∧ (mm 50 x3.toNat) < 8 then (if (mm 27 (mm 50 x3.toNat).toNat) = 0 then (Noise_carry_46 (Noise_carry_9 x2 n) x2 x3 (mm 50 x3.toNat) mm) else ((Noise_draw mm).bind fun r8 => (if (Int.tmod r8.1 100) < x2 then ((Noise_draw r8.2).bind fun r10 => ((Jint_bitCount (mm 27 (mm 50 x3.toNat).toNat) r10.2).bind fun r11 => (if r11 ≠ 0 then ((Noise_pick (mm 27 (mm 50 x3.toNat).toNat) (Int.tmod r10.1 r11) r10.2).bind fun r13 => (st1 (aup r10.2 73 4 (w32 ((r10.2 73 4) + 1))) fun mm14 => (Noise_carry_46 (Noise_carry_9 x2 n) x2 x3 r13 mm14))) else none))) else (Noise_carry_46 (Noise_carry_9 x2 n) x2 x3 (mm 50 x3.toNat) r8.2)))) else none) else none) else (some mm)
set_option maxHeartbeats 4000000 in
theorem lk_Noise_carry_9 {p : Program} {l : Launch} {e : Env} {s : State} {m : MethodId} {args : Array Value} {below : List Frame} {meth : Method} {c : Code} {D : va_G} {cA : FieldType → ClassId} {ad adV : Nat → Nat} {z0 : Nat} {al0 : List Nat} (K : aK p s m args meth c mX4_carry D cA ad adV z0) (x2 : Int)  : ∀ (n : Nat) (x3 : Int) (mm : aM), aG p l e { frames := 1, cells := 0, slots := 0, locals := 23 } s m args below meth c D cA ad z0 mX4_carry al0 rM (Noise_carry_9 x2 n x3 mm) 9 [(0, .inr (.inr (.inl (some 73)))), (1, .inr (.inr (.inl (some 49)))), (2, .inl x2), (3, .inl x3)] [] mm := by
  intro n
  induction n with
  | zero => intro x3 mm; exact g_none
  | succ n ih =>
    intro x3 mm
    rw [Noise_carry_9]
    refine gl (i' := 10) (fun _ _ => aw_iload_n K (dOf ck_mX4_carry rfl rfl) rfl) ?_
    refine gl (i' := 11) (fun _ _ => aw_aload_n K (dOf ck_mX4_carry rfl rfl) rfl) ?_
    refine gl (i' := 12) (fun _ _ => aw_getf K (dOf ck_mX4_carry rfl rfl) rfl rfl (Nat.le_of_ble_eq_true rfl) wd_302 (k := 1) rfl) ?_
    refine g_icmp_ge K (dOf ck_mX4_carry rfl rfl) (t := 53) (aJ_of (by decide +kernel)) (fun h3 => ?_) (fun h3 => ?_)
    · refine gl (i' := 14) (fun _ _ => aw_aload_n K (dOf ck_mX4_carry rfl rfl) rfl) ?_
      refine gl (i' := 15) (fun _ _ => aw_getf K (dOf ck_mX4_carry rfl rfl) rfl rfl (Nat.le_of_ble_eq_true rfl) wd_295 (k := 0) rfl) ?_
      refine gl (i' := 16) (fun _ _ => aw_iload_n K (dOf ck_mX4_carry rfl rfl) rfl) ?_
      refine g_gd (fun hb4 => ?_)
      refine gl (i' := 17) (fun _ _ => aw_bald K (dOf ck_mX4_carry rfl rfl) rfl hb4) ?_
      refine gl (i' := 18) (fun _ _ => aw_istore K (dOf ck_mX4_carry rfl rfl) (Nat.le_of_ble_eq_true rfl)) ?_
      refine g_lv (lv' := [(4, .inl _), (0, .inr (.inr (.inl (some _)))), (1, .inr (.inr (.inl (some _)))), (2, .inl _), (3, .inl _)]) rfl ?_
      refine gl (i' := 19) (fun _ _ => aw_aload_n K (dOf ck_mX4_carry rfl rfl) rfl) ?_
      refine gl (i' := 20) (fun _ _ => aw_getf K (dOf ck_mX4_carry rfl rfl) rfl rfl (Nat.le_of_ble_eq_true rfl) wd_364 (k := 0) rfl) ?_
      refine gl (i' := 21) (fun _ _ => aw_getf K (dOf ck_mX4_carry rfl rfl) rfl rfl (Nat.le_of_ble_eq_true rfl) wd_221 (k := 7) rfl) ?_
      refine gl (i' := 22) (fun _ _ => aw_iload K (dOf ck_mX4_carry rfl rfl) rfl) ?_
      refine g_gd (fun hb5 => ?_)
      refine gl (i' := 23) (fun _ _ => aw_iald K (dOf ck_mX4_carry rfl rfl) rfl hb5) ?_
      refine gl (i' := 24) (fun _ _ => aw_istore K (dOf ck_mX4_carry rfl rfl) (Nat.le_of_ble_eq_true rfl)) ?_
      refine g_lv (lv' := [(5, .inl _), (4, .inl _), (0, .inr (.inr (.inl (some _)))), (1, .inr (.inr (.inl (some _)))), (2, .inl _), (3, .inl _)]) rfl ?_
      refine gl (i' := 25) (fun _ _ => aw_iload K (dOf ck_mX4_carry rfl rfl) rfl) ?_
      refine g_if_eq K (dOf ck_mX4_carry rfl rfl) (t := 46) (aJ_of (by decide +kernel)) (fun h6 => ?_) (fun h6 => ?_)
      · refine g_sub [2, 3, 4, 5, 1] rfl ?_
        exact lk_Noise_carry_46 K _ _ _ _ ih _
      · refine gl (i' := 27) (fun _ _ => aw_aload_n K (dOf ck_mX4_carry rfl rfl) rfl) ?_
        refine g_callVIM K [] rfl (dOf ck_mX4_carry rfl rfl) al_OneBreath_Noise_47 rfl rfl ⟨wd_1112, wd_60⟩ rfl (Nat.le_of_ble_eq_true rfl) ⟨Nat.le_of_ble_eq_true rfl, Nat.le_of_ble_eq_true rfl⟩ (fun b hb => met_Noise_draw  hb) (fun r8 hr8 => ?_)
        refine gl (i' := 29) (fun _ _ => aw_bip K (dOf ck_mX4_carry rfl rfl) (v := 100) rfl) ?_
        refine gl (i' := 30) (fun _ _ => aw_irem K (by decide) (dOf ck_mX4_carry rfl rfl)) ?_
        refine gl (i' := 31) (fun _ _ => aw_iload_n K (dOf ck_mX4_carry rfl rfl) rfl) ?_
        refine g_icmp_ge K (dOf ck_mX4_carry rfl rfl) (t := 46) (aJ_of (by decide +kernel)) (fun h9 => ?_) (fun h9 => ?_)
        · refine gl (i' := 33) (fun _ _ => aw_iload K (dOf ck_mX4_carry rfl rfl) rfl) ?_
          refine gl (i' := 34) (fun _ _ => aw_aload_n K (dOf ck_mX4_carry rfl rfl) rfl) ?_
          refine g_callVIM K [] rfl (dOf ck_mX4_carry rfl rfl) al_OneBreath_Noise_47 rfl rfl ⟨wd_1112, wd_60⟩ rfl (Nat.le_of_ble_eq_true rfl) ⟨Nat.le_of_ble_eq_true rfl, Nat.le_of_ble_eq_true rfl⟩ (fun b hb => met_Noise_draw  hb) (fun r10 hr10 => ?_)
          refine gl (i' := 36) (fun _ _ => aw_iload K (dOf ck_mX4_carry rfl rfl) rfl) ?_
          refine g_callSI K [.inl _] rfl (dOf ck_mX4_carry rfl rfl) al_OneBreath_Noise_51 wd_993 rfl (Nat.le_of_ble_eq_true rfl) ⟨Nat.le_of_ble_eq_true rfl, Nat.le_of_ble_eq_true rfl⟩ (fun b hb => met_Jint_bitCount  hb) (fun r11 hr11 => ?_)
          refine g_gd (fun hb12 => ?_)
          refine gl (i' := 38) (fun _ _ => aw_irem K hb12 (dOf ck_mX4_carry rfl rfl)) ?_
          refine g_callSI K [.inl _, .inl _] rfl (dOf ck_mX4_carry rfl rfl) al_OneBreath_Noise_57 wd_1117 rfl (Nat.le_of_ble_eq_true rfl) ⟨Nat.le_of_ble_eq_true rfl, Nat.le_of_ble_eq_true rfl⟩ (fun b hb => met_Noise_pick  hb) (fun r13 hr13 => ?_)
          refine gl (i' := 40) (fun _ _ => aw_istore K (dOf ck_mX4_carry rfl rfl) (Nat.le_of_ble_eq_true rfl)) ?_
          refine g_lv (lv' := [(4, .inl _), (5, .inl _), (0, .inr (.inr (.inl (some _)))), (1, .inr (.inr (.inl (some _)))), (2, .inl _), (3, .inl _)]) rfl ?_
          refine gl (i' := 41) (fun _ _ => aw_aload_n K (dOf ck_mX4_carry rfl rfl) rfl) ?_
          refine gl (i' := 42) (fun _ _ => aw_dup K rfl (dOf ck_mX4_carry rfl rfl)) ?_
          refine gl (i' := 43) (fun _ _ => aw_getf K (dOf ck_mX4_carry rfl rfl) rfl rfl (Nat.le_of_ble_eq_true rfl) wd_370 (k := 4) rfl) ?_
          refine gl (i' := 44) (fun _ _ => aw_iconst K (n := 1) (i32 _ rfl) (dOf ck_mX4_carry rfl rfl)) ?_
          refine gl (i' := 45) (fun _ _ => aw_iadd K (dOf ck_mX4_carry rfl rfl)) ?_
          refine g_st1 ?_
          refine gl (i' := 46) (fun _ _ => aw_putf K (dOf ck_mX4_carry rfl rfl) rfl rfl (Nat.le_of_ble_eq_true rfl) wd_370 (k := 4) rfl rfl (Or.inl rfl)) ?_
          refine g_sub [2, 3, 4, 5, 0] rfl ?_
          exact lk_Noise_carry_46 K _ _ _ _ ih _
        · refine g_sub [2, 3, 4, 5, 1] rfl ?_
          exact lk_Noise_carry_46 K _ _ _ _ ih _
    · exact g_vret K (by decide +kernel) rfl rfl
def Noise_carry (x2 : Int) (mm : aM) : Option aM := st1 (aup mm 73 4 0) fun mm1 => (st1 (aup mm1 74 1 0) fun mm2 => (Noise_carry_9 x2 FU 0 mm2))
set_option maxHeartbeats 4000000 in
theorem met_Noise_carry {l : Launch} {D : va_G} {cA : FieldType → ClassId} {ad adV : Nat → Nat} {z0 : Nat} {x2 : Int} {mm : aM}  {r : aM} (h : Noise_carry x2 mm = some r) : aMet l D cA ad adV z0 mX4_carry 1 23 0 0 [.inr (.inr (.inl (some 73))), .inr (.inr (.inl (some 49))), .inl x2] SH mm (rM r).1 SH (rM r).2 := by
  refine aMet_ofG (by decide +kernel) rfl (Nat.le_of_ble_eq_true rfl) h (fun p e s m args below meth c al0 K => ?_)
  unfold Noise_carry
  refine gl (i' := 1) (fun _ _ => aw_aload_n K (dOf ck_mX4_carry rfl rfl) rfl) ?_
  refine gl (i' := 2) (fun _ _ => aw_iconst K (n := 0) (i32 _ rfl) (dOf ck_mX4_carry rfl rfl)) ?_
  refine g_st1 ?_
  refine gl (i' := 3) (fun _ _ => aw_putf K (dOf ck_mX4_carry rfl rfl) rfl rfl (Nat.le_of_ble_eq_true rfl) wd_370 (k := 4) rfl rfl (Or.inl rfl)) ?_
  refine gl (i' := 4) (fun _ _ => aw_aload_n K (dOf ck_mX4_carry rfl rfl) rfl) ?_
  refine gl (i' := 5) (fun _ _ => aw_getf K (dOf ck_mX4_carry rfl rfl) rfl rfl (Nat.le_of_ble_eq_true rfl) wd_366 (k := 2) rfl) ?_
  refine gl (i' := 6) (fun _ _ => aw_iconst K (n := 0) (i32 _ rfl) (dOf ck_mX4_carry rfl rfl)) ?_
  refine g_st1 ?_
  refine gl (i' := 7) (fun _ _ => aw_putf K (dOf ck_mX4_carry rfl rfl) rfl rfl (Nat.le_of_ble_eq_true rfl) wd_302 (k := 1) rfl rfl (Or.inl rfl)) ?_
  refine gl (i' := 8) (fun _ _ => aw_iconst K (n := 0) (i32 _ rfl) (dOf ck_mX4_carry rfl rfl)) ?_
  refine gl (i' := 9) (fun _ _ => aw_istore_n K (dOf ck_mX4_carry rfl rfl) (Nat.le_of_ble_eq_true rfl)) ?_
  refine g_lv (lv' := [(3, .inl _), (0, .inr (.inr (.inl (some _)))), (1, .inr (.inr (.inl (some _)))), (2, .inl _)]) rfl ?_
  refine g_sub [1, 2, 3, 0] rfl ?_
  exact lk_Noise_carry_9 K _ FU _ _
def Noise_isUnderstood_19  : Nat → Int → aM → Option (Int × aM)
  | 0, _, _ => none
  | n + 1, x2, mm => if x2 < (mm 59 1) then (if 0 ≤ x2 ∧ x2 < 60 then (if 0 ≤ x2 ∧ x2 < 40 then (if (mm 71 x2.toNat) = (mm 60 x2.toNat) then (Noise_isUnderstood_19 n (w32 (x2 + 1)) mm) else (some (0, mm))) else none) else none) else (some (1, mm))
set_option maxHeartbeats 4000000 in
theorem lk_Noise_isUnderstood_19 {p : Program} {l : Launch} {e : Env} {s : State} {m : MethodId} {args : Array Value} {below : List Frame} {meth : Method} {c : Code} {D : va_G} {cA : FieldType → ClassId} {ad adV : Nat → Nat} {z0 : Nat} {al0 : List Nat} (K : aK p s m args meth c mX4_isUnderstood D cA ad adV z0)   : ∀ (n : Nat) (x2 : Int) (mm : aM), aG p l e { frames := 5, cells := 0, slots := 0, locals := 122 } s m args below meth c D cA ad z0 mX4_isUnderstood al0 rIM (Noise_isUnderstood_19 n x2 mm) 19 [(0, .inr (.inr (.inl (some 73)))), (1, .inr (.inr (.inl (some 59)))), (2, .inl x2)] [] mm := by
  intro n
  induction n with
  | zero => intro x2 mm; exact g_none
  | succ n ih =>
    intro x2 mm
    rw [Noise_isUnderstood_19]
    refine gl (i' := 20) (fun _ _ => aw_iload_n K (dOf ck_mX4_isUnderstood rfl rfl) rfl) ?_
    refine gl (i' := 21) (fun _ _ => aw_aload_n K (dOf ck_mX4_isUnderstood rfl rfl) rfl) ?_
    refine gl (i' := 22) (fun _ _ => aw_getf K (dOf ck_mX4_isUnderstood rfl rfl) rfl rfl (Nat.le_of_ble_eq_true rfl) wd_327 (k := 1) rfl) ?_
    refine g_icmp_ge K (dOf ck_mX4_isUnderstood rfl rfl) (t := 37) (aJ_of (by decide +kernel)) (fun h4 => ?_) (fun h4 => ?_)
    · refine gl (i' := 24) (fun _ _ => aw_aload_n K (dOf ck_mX4_isUnderstood rfl rfl) rfl) ?_
      refine gl (i' := 25) (fun _ _ => aw_getf K (dOf ck_mX4_isUnderstood rfl rfl) rfl rfl (Nat.le_of_ble_eq_true rfl) wd_365 (k := 1) rfl) ?_
      refine gl (i' := 26) (fun _ _ => aw_getf K (dOf ck_mX4_isUnderstood rfl rfl) rfl rfl (Nat.le_of_ble_eq_true rfl) wd_349 (k := 6) rfl) ?_
      refine gl (i' := 27) (fun _ _ => aw_iload_n K (dOf ck_mX4_isUnderstood rfl rfl) rfl) ?_
      refine g_gd (fun hb5 => ?_)
      refine gl (i' := 28) (fun _ _ => aw_iald K (dOf ck_mX4_isUnderstood rfl rfl) rfl hb5) ?_
      refine gl (i' := 29) (fun _ _ => aw_aload_n K (dOf ck_mX4_isUnderstood rfl rfl) rfl) ?_
      refine gl (i' := 30) (fun _ _ => aw_getf K (dOf ck_mX4_isUnderstood rfl rfl) rfl rfl (Nat.le_of_ble_eq_true rfl) wd_325 (k := 0) rfl) ?_
      refine gl (i' := 31) (fun _ _ => aw_iload_n K (dOf ck_mX4_isUnderstood rfl rfl) rfl) ?_
      refine g_gd (fun hb6 => ?_)
      refine gl (i' := 32) (fun _ _ => aw_iald K (dOf ck_mX4_isUnderstood rfl rfl) rfl hb6) ?_
      refine g_icmp_eq K (dOf ck_mX4_isUnderstood rfl rfl) (t := 35) (aJ_of (by decide +kernel)) (fun h7 => ?_) (fun h7 => ?_)
      · refine gl (i' := 36) (fun _ _ => aw_iinc K (dOf ck_mX4_isUnderstood rfl rfl) (Nat.le_of_ble_eq_true rfl) rfl) ?_
        refine g_lv (lv' := [(2, .inl _), (0, .inr (.inr (.inl (some _)))), (1, .inr (.inr (.inl (some _))))]) rfl ?_
        refine g_goto K (dOf ck_mX4_isUnderstood rfl rfl).1 (t := 19) (aJ_of (by decide +kernel)) ?_
        refine g_sub [1, 2, 0] rfl ?_
        exact ih _ _
      · refine gl (i' := 34) (fun _ _ => aw_iconst K (n := 0) (i32 _ rfl) (dOf ck_mX4_isUnderstood rfl rfl)) ?_
        exact g_iret K (dOf ck_mX4_isUnderstood rfl rfl).1 rfl (Or.inr (Or.inl ⟨rfl, Or.inl rfl⟩)) rfl
    · refine gl (i' := 38) (fun _ _ => aw_iconst K (n := 1) (i32 _ rfl) (dOf ck_mX4_isUnderstood rfl rfl)) ?_
      exact g_iret K (by decide +kernel) rfl (Or.inr (Or.inl ⟨rfl, Or.inr rfl⟩)) rfl
def Noise_isUnderstood  (mm : aM) : Option (Int × aM) := (Cutter_lay 67 74 mm).bind fun r1 => ((Cutter_choose 67 3 r1).bind fun r2 => (if (r2 67 8) = (r2 59 1) then (Noise_isUnderstood_19 FU 0 r2) else (some (0, r2))))
set_option maxHeartbeats 4000000 in
theorem met_Noise_isUnderstood {l : Launch} {D : va_G} {cA : FieldType → ClassId} {ad adV : Nat → Nat} {z0 : Nat}  {mm : aM}  {r : Int × aM} (h : Noise_isUnderstood  mm = some r) : aMet l D cA ad adV z0 mX4_isUnderstood 5 122 0 0 [.inr (.inr (.inl (some 73))), .inr (.inr (.inl (some 59)))] SH mm (rIM r).1 SH (rIM r).2 := by
  refine aMet_ofG (by decide +kernel) rfl (Nat.le_of_ble_eq_true rfl) h (fun p e s m args below meth c al0 K => ?_)
  unfold Noise_isUnderstood
  refine gl (i' := 1) (fun _ _ => aw_aload_n K (dOf ck_mX4_isUnderstood rfl rfl) rfl) ?_
  refine gl (i' := 2) (fun _ _ => aw_getf K (dOf ck_mX4_isUnderstood rfl rfl) rfl rfl (Nat.le_of_ble_eq_true rfl) wd_365 (k := 1) rfl) ?_
  refine gl (i' := 3) (fun _ _ => aw_aload_n K (dOf ck_mX4_isUnderstood rfl rfl) rfl) ?_
  refine gl (i' := 4) (fun _ _ => aw_getf K (dOf ck_mX4_isUnderstood rfl rfl) rfl rfl (Nat.le_of_ble_eq_true rfl) wd_366 (k := 2) rfl) ?_
  refine g_callVM K [.inr (.inr (.inl (some _)))] rfl (dOf ck_mX4_isUnderstood rfl rfl) al_OneBreath_Noise_65 rfl rfl ⟨wd_735, wd_736⟩ rfl (Nat.le_of_ble_eq_true rfl) ⟨Nat.le_of_ble_eq_true rfl, Nat.le_of_ble_eq_true rfl⟩ (fun b hb => met_Cutter_lay (by unfold okC; omega) (by unfold okS; omega) hb) (fun r1 hr1 => ?_)
  refine gl (i' := 6) (fun _ _ => aw_aload_n K (dOf ck_mX4_isUnderstood rfl rfl) rfl) ?_
  refine gl (i' := 7) (fun _ _ => aw_getf K (dOf ck_mX4_isUnderstood rfl rfl) rfl rfl (Nat.le_of_ble_eq_true rfl) wd_365 (k := 1) rfl) ?_
  refine gl (i' := 8) (fun _ _ => aw_iconst K (n := 3) (i32 _ rfl) (dOf ck_mX4_isUnderstood rfl rfl)) ?_
  refine g_callVM K [.inl _] rfl (dOf ck_mX4_isUnderstood rfl rfl) al_OneBreath_Noise_71 rfl rfl ⟨wd_766, wd_767⟩ rfl (Nat.le_of_ble_eq_true rfl) ⟨Nat.le_of_ble_eq_true rfl, Nat.le_of_ble_eq_true rfl⟩ (fun b hb => met_Cutter_choose (by unfold okC; omega) hb) (fun r2 hr2 => ?_)
  refine gl (i' := 10) (fun _ _ => aw_aload_n K (dOf ck_mX4_isUnderstood rfl rfl) rfl) ?_
  refine gl (i' := 11) (fun _ _ => aw_getf K (dOf ck_mX4_isUnderstood rfl rfl) rfl rfl (Nat.le_of_ble_eq_true rfl) wd_365 (k := 1) rfl) ?_
  refine gl (i' := 12) (fun _ _ => aw_getf K (dOf ck_mX4_isUnderstood rfl rfl) rfl rfl (Nat.le_of_ble_eq_true rfl) wd_352 (k := 8) rfl) ?_
  refine gl (i' := 13) (fun _ _ => aw_aload_n K (dOf ck_mX4_isUnderstood rfl rfl) rfl) ?_
  refine gl (i' := 14) (fun _ _ => aw_getf K (dOf ck_mX4_isUnderstood rfl rfl) rfl rfl (Nat.le_of_ble_eq_true rfl) wd_327 (k := 1) rfl) ?_
  refine g_icmp_eq K (dOf ck_mX4_isUnderstood rfl rfl) (t := 17) (aJ_of (by decide +kernel)) (fun h3 => ?_) (fun h3 => ?_)
  · refine gl (i' := 18) (fun _ _ => aw_iconst K (n := 0) (i32 _ rfl) (dOf ck_mX4_isUnderstood rfl rfl)) ?_
    refine gl (i' := 19) (fun _ _ => aw_istore_n K (dOf ck_mX4_isUnderstood rfl rfl) (Nat.le_of_ble_eq_true rfl)) ?_
    refine g_lv (lv' := [(2, .inl _), (0, .inr (.inr (.inl (some _)))), (1, .inr (.inr (.inl (some _))))]) rfl ?_
    refine g_sub [1, 2, 0] rfl ?_
    exact lk_Noise_isUnderstood_19 K FU _ _
  · refine gl (i' := 16) (fun _ _ => aw_iconst K (n := 0) (i32 _ rfl) (dOf ck_mX4_isUnderstood rfl rfl)) ?_
    exact g_iret K (dOf ck_mX4_isUnderstood rfl rfl).1 rfl (Or.inr (Or.inl ⟨rfl, Or.inl rfl⟩)) rfl
