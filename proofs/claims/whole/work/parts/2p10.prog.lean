def R_feed_37 (k13 : Int → aM → Option (Int × aM)) (x1 : Int) (x2 : Int) (x3 : Int) (x4 : Int) (x5 : Int) (x6 : Int) (s0 : Int) (mm : aM) : Option (Int × aM) := if 0 ≤ (mm 176 5) ∧ (mm 176 5) < 500 then (st1 (aup mm 179 (mm 176 5).toNat (iand (ishr s0 (w32 (24 - (w32 (8 * (Int.tmod x6 4)))))) 255)) fun mm9 => (st1 (aup mm9 176 5 (w32 ((mm9 176 5) + 1))) fun mm10 => (k13 (w32 (x6 + 1)) mm10))) else none
set_option maxHeartbeats 4000000 in
theorem lk_R_feed_37 {p : Program} {l : Launch} {e : Env} {s : State} {m : MethodId} {args : Array Value} {below : List Frame} {meth : Method} {c : Code} {D : va_G} {cA : FieldType → ClassId} {ad adV : Nat → Nat} {z0 : Nat} {al0 : List Nat} (K : aK p s m args meth c mX12_feed D cA ad adV z0) (x1 : Int) (x2 : Int) (x3 : Int) (x4 : Int) (x5 : Int) (x6 : Int) (k13 : Int → aM → Option (Int × aM)) (hk13 : ∀ (x6 : Int) (mm : aM), aG p l e { frames := 0, cells := 0, slots := 0, locals := 0 } s m args below meth c D cA ad z0 mX12_feed al0 rIM (k13 x6 mm) 13 [(0, .inr (.inr (.inl (some 176)))), (1, .inl x1), (2, .inl x2), (3, .inl x3), (4, .inl x4), (5, .inl x5), (6, .inl x6)] [] mm)  (s0 : Int) (mm : aM) : aG p l e { frames := 0, cells := 0, slots := 0, locals := 0 } s m args below meth c D cA ad z0 mX12_feed al0 rIM (R_feed_37 k13 x1 x2 x3 x4 x5 x6 s0 mm) 37 [(0, .inr (.inr (.inl (some 176)))), (1, .inl x1), (2, .inl x2), (3, .inl x3), (4, .inl x4), (5, .inl x5), (6, .inl x6)] [.inl s0] mm := by
  unfold R_feed_37
  refine gl (i' := 38) (fun _ _ => aw_istore K (dOf ck_mX12_feed rfl rfl) (Nat.le_of_ble_eq_true rfl)) ?_
  refine g_lv (lv' := [(7, .inl _), (0, .inr (.inr (.inl (some _)))), (1, .inl _), (2, .inl _), (3, .inl _), (4, .inl _), (5, .inl _), (6, .inl _)]) rfl ?_
  refine gl (i' := 39) (fun _ _ => aw_aload_n K (dOf ck_mX12_feed rfl rfl) rfl) ?_
  refine gl (i' := 40) (fun _ _ => aw_getf K (dOf ck_mX12_feed rfl rfl) rfl rfl (Nat.le_of_ble_eq_true rfl) wd_1208 (k := 3) rfl) ?_
  refine gl (i' := 41) (fun _ _ => aw_aload_n K (dOf ck_mX12_feed rfl rfl) rfl) ?_
  refine gl (i' := 42) (fun _ _ => aw_getf K (dOf ck_mX12_feed rfl rfl) rfl rfl (Nat.le_of_ble_eq_true rfl) wd_1210 (k := 5) rfl) ?_
  refine gl (i' := 43) (fun _ _ => aw_iload K (dOf ck_mX12_feed rfl rfl) rfl) ?_
  refine gl (i' := 44) (fun _ _ => aw_bip K (dOf ck_mX12_feed rfl rfl) (v := 24) rfl) ?_
  refine gl (i' := 45) (fun _ _ => aw_bip K (dOf ck_mX12_feed rfl rfl) (v := 8) rfl) ?_
  refine gl (i' := 46) (fun _ _ => aw_iload K (dOf ck_mX12_feed rfl rfl) rfl) ?_
  refine gl (i' := 47) (fun _ _ => aw_iconst K (n := 4) (i32 _ rfl) (dOf ck_mX12_feed rfl rfl)) ?_
  refine gl (i' := 48) (fun _ _ => aw_irem K (by decide) (dOf ck_mX12_feed rfl rfl)) ?_
  refine gl (i' := 49) (fun _ _ => aw_imul K (dOf ck_mX12_feed rfl rfl)) ?_
  refine gl (i' := 50) (fun _ _ => aw_isub K (dOf ck_mX12_feed rfl rfl)) ?_
  refine gl (i' := 51) (fun _ _ => aw_ishr K (dOf ck_mX12_feed rfl rfl)) ?_
  refine gl (i' := 52) (fun _ _ => aw_sip K (dOf ck_mX12_feed rfl rfl) (v := 255) rfl) ?_
  refine gl (i' := 53) (fun _ _ => aw_iand K (dOf ck_mX12_feed rfl rfl)) ?_
  refine g_gd (fun hb8 => ?_)
  refine g_st1 ?_
  refine gl (i' := 54) (fun _ _ => aw_iast K (dOf ck_mX12_feed rfl rfl) rfl hb8) ?_
  refine gl (i' := 55) (fun _ _ => aw_aload_n K (dOf ck_mX12_feed rfl rfl) rfl) ?_
  refine gl (i' := 56) (fun _ _ => aw_dup K rfl (dOf ck_mX12_feed rfl rfl)) ?_
  refine gl (i' := 57) (fun _ _ => aw_getf K (dOf ck_mX12_feed rfl rfl) rfl rfl (Nat.le_of_ble_eq_true rfl) wd_1210 (k := 5) rfl) ?_
  refine gl (i' := 58) (fun _ _ => aw_iconst K (n := 1) (i32 _ rfl) (dOf ck_mX12_feed rfl rfl)) ?_
  refine gl (i' := 59) (fun _ _ => aw_iadd K (dOf ck_mX12_feed rfl rfl)) ?_
  refine g_st1 ?_
  refine gl (i' := 60) (fun _ _ => aw_putf K (dOf ck_mX12_feed rfl rfl) rfl rfl (Nat.le_of_ble_eq_true rfl) wd_1210 (k := 5) rfl rfl (Or.inl rfl)) ?_
  refine gl (i' := 61) (fun _ _ => aw_iinc K (dOf ck_mX12_feed rfl rfl) (Nat.le_of_ble_eq_true rfl) rfl) ?_
  refine g_lv (lv' := [(6, .inl _), (7, .inl _), (0, .inr (.inr (.inl (some _)))), (1, .inl _), (2, .inl _), (3, .inl _), (4, .inl _), (5, .inl _)]) rfl ?_
  refine g_goto K (dOf ck_mX12_feed rfl rfl).1 (t := 13) (aJ_of (by decide +kernel)) ?_
  refine g_sub [2, 3, 4, 5, 6, 7, 0] rfl ?_
  exact hk13 _ _
def R_feed_13 (x1 : Int) (x2 : Int) (x3 : Int) (x4 : Int) (x5 : Int) : Nat → Int → aM → Option (Int × aM)
  | 0, _, _ => none
  | n + 1, x6, mm => if x6 < 20 then (if x6 < 4 then (R_feed_37 (R_feed_13 x1 x2 x3 x4 x5 n) x1 x2 x3 x4 x5 x6 x1 mm) else (if x6 < 8 then (R_feed_37 (R_feed_13 x1 x2 x3 x4 x5 n) x1 x2 x3 x4 x5 x6 x2 mm) else (if x6 < 12 then (R_feed_37 (R_feed_13 x1 x2 x3 x4 x5 n) x1 x2 x3 x4 x5 x6 x3 mm) else (if x6 < 16 then (R_feed_37 (R_feed_13 x1 x2 x3 x4 x5 n) x1 x2 x3 x4 x5 x6 x4 mm) else (R_feed_37 (R_feed_13 x1 x2 x3 x4 x5 n) x1 x2 x3 x4 x5 x6 x5 mm))))) else (some (mm 176 5, mm))
set_option maxHeartbeats 4000000 in
theorem lk_R_feed_13 {p : Program} {l : Launch} {e : Env} {s : State} {m : MethodId} {args : Array Value} {below : List Frame} {meth : Method} {c : Code} {D : va_G} {cA : FieldType → ClassId} {ad adV : Nat → Nat} {z0 : Nat} {al0 : List Nat} (K : aK p s m args meth c mX12_feed D cA ad adV z0) (x1 : Int) (x2 : Int) (x3 : Int) (x4 : Int) (x5 : Int)  : ∀ (n : Nat) (x6 : Int) (mm : aM), aG p l e { frames := 0, cells := 0, slots := 0, locals := 0 } s m args below meth c D cA ad z0 mX12_feed al0 rIM (R_feed_13 x1 x2 x3 x4 x5 n x6 mm) 13 [(0, .inr (.inr (.inl (some 176)))), (1, .inl x1), (2, .inl x2), (3, .inl x3), (4, .inl x4), (5, .inl x5), (6, .inl x6)] [] mm := by
  intro n
  induction n with
  | zero => intro x6 mm; exact g_none
  | succ n ih =>
    intro x6 mm
    rw [R_feed_13]
    refine gl (i' := 14) (fun _ _ => aw_iload K (dOf ck_mX12_feed rfl rfl) rfl) ?_
    refine gl (i' := 15) (fun _ _ => aw_bip K (dOf ck_mX12_feed rfl rfl) (v := 20) rfl) ?_
    refine g_icmp_ge K (dOf ck_mX12_feed rfl rfl) (t := 62) (aJ_of (by decide +kernel)) (fun h3 => ?_) (fun h3 => ?_)
    · refine gl (i' := 17) (fun _ _ => aw_iload K (dOf ck_mX12_feed rfl rfl) rfl) ?_
      refine gl (i' := 18) (fun _ _ => aw_iconst K (n := 4) (i32 _ rfl) (dOf ck_mX12_feed rfl rfl)) ?_
      refine g_icmp_ge K (dOf ck_mX12_feed rfl rfl) (t := 21) (aJ_of (by decide +kernel)) (fun h4 => ?_) (fun h4 => ?_)
      · refine gl (i' := 20) (fun _ _ => aw_iload_n K (dOf ck_mX12_feed rfl rfl) rfl) ?_
        refine g_goto K (dOf ck_mX12_feed rfl rfl).1 (t := 37) (aJ_of (by decide +kernel)) ?_
        refine g_sub [0, 1, 2, 3, 4, 5, 6] rfl ?_
        exact lk_R_feed_37 K _ _ _ _ _ _ _ ih _ _
      · refine gl (i' := 22) (fun _ _ => aw_iload K (dOf ck_mX12_feed rfl rfl) rfl) ?_
        refine gl (i' := 23) (fun _ _ => aw_bip K (dOf ck_mX12_feed rfl rfl) (v := 8) rfl) ?_
        refine g_icmp_ge K (dOf ck_mX12_feed rfl rfl) (t := 26) (aJ_of (by decide +kernel)) (fun h5 => ?_) (fun h5 => ?_)
        · refine gl (i' := 25) (fun _ _ => aw_iload_n K (dOf ck_mX12_feed rfl rfl) rfl) ?_
          refine g_goto K (dOf ck_mX12_feed rfl rfl).1 (t := 37) (aJ_of (by decide +kernel)) ?_
          refine g_sub [0, 1, 2, 3, 4, 5, 6] rfl ?_
          exact lk_R_feed_37 K _ _ _ _ _ _ _ ih _ _
        · refine gl (i' := 27) (fun _ _ => aw_iload K (dOf ck_mX12_feed rfl rfl) rfl) ?_
          refine gl (i' := 28) (fun _ _ => aw_bip K (dOf ck_mX12_feed rfl rfl) (v := 12) rfl) ?_
          refine g_icmp_ge K (dOf ck_mX12_feed rfl rfl) (t := 31) (aJ_of (by decide +kernel)) (fun h6 => ?_) (fun h6 => ?_)
          · refine gl (i' := 30) (fun _ _ => aw_iload_n K (dOf ck_mX12_feed rfl rfl) rfl) ?_
            refine g_goto K (dOf ck_mX12_feed rfl rfl).1 (t := 37) (aJ_of (by decide +kernel)) ?_
            refine g_sub [0, 1, 2, 3, 4, 5, 6] rfl ?_
            exact lk_R_feed_37 K _ _ _ _ _ _ _ ih _ _
          · refine gl (i' := 32) (fun _ _ => aw_iload K (dOf ck_mX12_feed rfl rfl) rfl) ?_
            refine gl (i' := 33) (fun _ _ => aw_bip K (dOf ck_mX12_feed rfl rfl) (v := 16) rfl) ?_
            refine g_icmp_ge K (dOf ck_mX12_feed rfl rfl) (t := 36) (aJ_of (by decide +kernel)) (fun h7 => ?_) (fun h7 => ?_)
            · refine gl (i' := 35) (fun _ _ => aw_iload K (dOf ck_mX12_feed rfl rfl) rfl) ?_
              refine g_goto K (dOf ck_mX12_feed rfl rfl).1 (t := 37) (aJ_of (by decide +kernel)) ?_
              refine g_sub [0, 1, 2, 3, 4, 5, 6] rfl ?_
              exact lk_R_feed_37 K _ _ _ _ _ _ _ ih _ _
            · refine gl (i' := 37) (fun _ _ => aw_iload K (dOf ck_mX12_feed rfl rfl) rfl) ?_
              refine g_sub [0, 1, 2, 3, 4, 5, 6] rfl ?_
              exact lk_R_feed_37 K _ _ _ _ _ _ _ ih _ _
    · refine gl (i' := 63) (fun _ _ => aw_aload_n K (dOf ck_mX12_feed rfl rfl) rfl) ?_
      refine gl (i' := 64) (fun _ _ => aw_getf K (dOf ck_mX12_feed rfl rfl) rfl rfl (Nat.le_of_ble_eq_true rfl) wd_1210 (k := 5) rfl) ?_
      exact g_iret K (by decide +kernel) rfl (Or.inl rfl) rfl
def R_feed (x1 : Int) (x2 : Int) (x3 : Int) (x4 : Int) (x5 : Int) (mm : aM) : Option (Int × aM) := st1 (aup mm 176 0 0) fun mm1 => (if 500 < (w32 ((mm1 176 5) + 20)) then (some ((-5), mm1)) else (R_feed_13 x1 x2 x3 x4 x5 FU 0 mm1))
set_option maxHeartbeats 4000000 in
theorem met_R_feed {l : Launch} {D : va_G} {cA : FieldType → ClassId} {ad adV : Nat → Nat} {z0 : Nat} {x1 : Int} {x2 : Int} {x3 : Int} {x4 : Int} {x5 : Int} {mm : aM}  {r : Int × aM} (h : R_feed x1 x2 x3 x4 x5 mm = some r) : aMet l D cA ad adV z0 mX12_feed 0 0 0 0 [.inr (.inr (.inl (some 176))), .inl x1, .inl x2, .inl x3, .inl x4, .inl x5] SH mm (rIM r).1 SH (rIM r).2 := by
  refine aMet_ofG (by decide +kernel) rfl (Nat.le_of_ble_eq_true rfl) h (fun p e s m args below meth c al0 K => ?_)
  unfold R_feed
  refine gl (i' := 1) (fun _ _ => aw_aload_n K (dOf ck_mX12_feed rfl rfl) rfl) ?_
  refine gl (i' := 2) (fun _ _ => aw_iconst K (n := 0) (i32 _ rfl) (dOf ck_mX12_feed rfl rfl)) ?_
  refine g_st1 ?_
  refine gl (i' := 3) (fun _ _ => aw_putf K (dOf ck_mX12_feed rfl rfl) rfl rfl (Nat.le_of_ble_eq_true rfl) wd_1205 (k := 0) rfl rfl (Or.inl rfl)) ?_
  refine gl (i' := 4) (fun _ _ => aw_aload_n K (dOf ck_mX12_feed rfl rfl) rfl) ?_
  refine gl (i' := 5) (fun _ _ => aw_getf K (dOf ck_mX12_feed rfl rfl) rfl rfl (Nat.le_of_ble_eq_true rfl) wd_1210 (k := 5) rfl) ?_
  refine gl (i' := 6) (fun _ _ => aw_bip K (dOf ck_mX12_feed rfl rfl) (v := 20) rfl) ?_
  refine gl (i' := 7) (fun _ _ => aw_iadd K (dOf ck_mX12_feed rfl rfl)) ?_
  refine gl (i' := 8) (fun _ _ => aw_sip K (dOf ck_mX12_feed rfl rfl) (v := 500) rfl) ?_
  refine g_icmp_le K (dOf ck_mX12_feed rfl rfl) (t := 11) (aJ_of (by decide +kernel)) (fun h2 => ?_) (fun h2 => ?_)
  · refine gl (i' := 10) (fun _ _ => aw_bip K (dOf ck_mX12_feed rfl rfl) (v := -5) rfl) ?_
    exact g_iret K (dOf ck_mX12_feed rfl rfl).1 rfl (Or.inl rfl) rfl
  · refine gl (i' := 12) (fun _ _ => aw_iconst K (n := 0) (i32 _ rfl) (dOf ck_mX12_feed rfl rfl)) ?_
    refine gl (i' := 13) (fun _ _ => aw_istore K (dOf ck_mX12_feed rfl rfl) (Nat.le_of_ble_eq_true rfl)) ?_
    refine g_lv (lv' := [(6, .inl _), (0, .inr (.inr (.inl (some _)))), (1, .inl _), (2, .inl _), (3, .inl _), (4, .inl _), (5, .inl _)]) rfl ?_
    refine g_sub [1, 2, 3, 4, 5, 6, 0] rfl ?_
    exact lk_R_feed_13 K _ _ _ _ _ FU _ _
def R_within (x0 : Int) (x2 : Int) (x4 : Int) (mm : aM) : Option Int := if x0 < x2 then (some 0) else (if x4 < x0 then (some 0) else (some 1))
set_option maxHeartbeats 4000000 in
theorem met_R_within {l : Launch} {D : va_G} {cA : FieldType → ClassId} {ad adV : Nat → Nat} {z0 : Nat} {x0 : Int} {x2 : Int} {x4 : Int} {mm : aM}  {r : Int} (h : R_within x0 x2 x4 mm = some r) : aMet l D cA ad adV z0 mX12_within 0 0 0 0 [.inr (.inl x0), .inr (.inl x2), .inr (.inl x4)] SH mm ((rI mm) r).1 SH ((rI mm) r).2 := by
  refine aMet_ofG (by decide +kernel) rfl (Nat.le_of_ble_eq_true rfl) h (fun p e s m args below meth c al0 K => ?_)
  unfold R_within
  refine gl (i' := 1) (fun _ _ => aw_lload_n K (dOf ck_mX12_within rfl rfl) rfl) ?_
  refine gl (i' := 2) (fun _ _ => aw_lload_n K (dOf ck_mX12_within rfl rfl) rfl) ?_
  refine g_lcmp_lt K (dOf ck_mX12_within rfl rfl) (dOf ck_mX12_within rfl rfl) (t := 10) (aJ_of (by decide +kernel)) (fun h1 => ?_) (fun h1 => ?_)
  · refine gl (i' := 11) (fun _ _ => aw_iconst K (n := 0) (i32 _ rfl) (dOf ck_mX12_within rfl rfl)) ?_
    exact g_iret K (by decide +kernel) rfl (Or.inr (Or.inl ⟨rfl, Or.inl rfl⟩)) rfl
  · refine gl (i' := 5) (fun _ _ => aw_lload_n K (dOf ck_mX12_within rfl rfl) rfl) ?_
    refine gl (i' := 6) (fun _ _ => aw_lload K (dOf ck_mX12_within rfl rfl) rfl) ?_
    refine g_lcmp_gt K (dOf ck_mX12_within rfl rfl) (dOf ck_mX12_within rfl rfl) (t := 10) (aJ_of (by decide +kernel)) (fun h2 => ?_) (fun h2 => ?_)
    · refine gl (i' := 11) (fun _ _ => aw_iconst K (n := 0) (i32 _ rfl) (dOf ck_mX12_within rfl rfl)) ?_
      exact g_iret K (by decide +kernel) rfl (Or.inr (Or.inl ⟨rfl, Or.inl rfl⟩)) rfl
    · refine gl (i' := 9) (fun _ _ => aw_iconst K (n := 1) (i32 _ rfl) (dOf ck_mX12_within rfl rfl)) ?_
      refine g_goto K (dOf ck_mX12_within rfl rfl).1 (t := 11) (aJ_of (by decide +kernel)) ?_
      exact g_iret K (by decide +kernel) rfl (Or.inr (Or.inl ⟨rfl, Or.inr rfl⟩)) rfl
def R_see (x1 : Int) (mm : aM) : Option Int := if x1 < (mm 176 8) then (if 0 ≤ x1 ∧ x1 < 500 then (some (mm 179 x1.toNat)) else none) else (some (-1))
set_option maxHeartbeats 4000000 in
theorem met_R_see {l : Launch} {D : va_G} {cA : FieldType → ClassId} {ad adV : Nat → Nat} {z0 : Nat} {x1 : Int} {mm : aM}  {r : Int} (h : R_see x1 mm = some r) : aMet l D cA ad adV z0 mX12_see 0 0 0 0 [.inr (.inr (.inl (some 176))), .inl x1] SH mm ((rI mm) r).1 SH ((rI mm) r).2 := by
  refine aMet_ofG (by decide +kernel) rfl (Nat.le_of_ble_eq_true rfl) h (fun p e s m args below meth c al0 K => ?_)
  unfold R_see
  refine gl (i' := 1) (fun _ _ => aw_iload_n K (dOf ck_mX12_see rfl rfl) rfl) ?_
  refine gl (i' := 2) (fun _ _ => aw_aload_n K (dOf ck_mX12_see rfl rfl) rfl) ?_
  refine gl (i' := 3) (fun _ _ => aw_getf K (dOf ck_mX12_see rfl rfl) rfl rfl (Nat.le_of_ble_eq_true rfl) wd_1213 (k := 8) rfl) ?_
  refine g_icmp_ge K (dOf ck_mX12_see rfl rfl) (t := 9) (aJ_of (by decide +kernel)) (fun h1 => ?_) (fun h1 => ?_)
  · refine gl (i' := 5) (fun _ _ => aw_aload_n K (dOf ck_mX12_see rfl rfl) rfl) ?_
    refine gl (i' := 6) (fun _ _ => aw_getf K (dOf ck_mX12_see rfl rfl) rfl rfl (Nat.le_of_ble_eq_true rfl) wd_1208 (k := 3) rfl) ?_
    refine gl (i' := 7) (fun _ _ => aw_iload_n K (dOf ck_mX12_see rfl rfl) rfl) ?_
    refine g_gd (fun hb2 => ?_)
    refine gl (i' := 8) (fun _ _ => aw_iald K (dOf ck_mX12_see rfl rfl) rfl hb2) ?_
    refine g_goto K (dOf ck_mX12_see rfl rfl).1 (t := 10) (aJ_of (by decide +kernel)) ?_
    exact g_iret K (by decide +kernel) rfl (Or.inl rfl) rfl
  · refine gl (i' := 10) (fun _ _ => aw_iconst K (n := -1) (i32 _ rfl) (dOf ck_mX12_see rfl rfl)) ?_
    exact g_iret K (by decide +kernel) rfl (Or.inl rfl) rfl
def R_isSmall (x0 : Int) (mm : aM) : Option Int := if x0 < 97 then (some 0) else (if 122 < x0 then (some 0) else (some 1))
set_option maxHeartbeats 4000000 in
theorem met_R_isSmall {l : Launch} {D : va_G} {cA : FieldType → ClassId} {ad adV : Nat → Nat} {z0 : Nat} {x0 : Int} {mm : aM}  {r : Int} (h : R_isSmall x0 mm = some r) : aMet l D cA ad adV z0 mX12_isSmall 0 0 0 0 [.inl x0] SH mm ((rI mm) r).1 SH ((rI mm) r).2 := by
  refine aMet_ofG (by decide +kernel) rfl (Nat.le_of_ble_eq_true rfl) h (fun p e s m args below meth c al0 K => ?_)
  unfold R_isSmall
  refine gl (i' := 1) (fun _ _ => aw_iload_n K (dOf ck_mX12_isSmall rfl rfl) rfl) ?_
  refine gl (i' := 2) (fun _ _ => aw_bip K (dOf ck_mX12_isSmall rfl rfl) (v := 97) rfl) ?_
  refine g_icmp_lt K (dOf ck_mX12_isSmall rfl rfl) (t := 8) (aJ_of (by decide +kernel)) (fun h1 => ?_) (fun h1 => ?_)
  · refine gl (i' := 9) (fun _ _ => aw_iconst K (n := 0) (i32 _ rfl) (dOf ck_mX12_isSmall rfl rfl)) ?_
    exact g_iret K (by decide +kernel) rfl (Or.inr (Or.inl ⟨rfl, Or.inl rfl⟩)) rfl
  · refine gl (i' := 4) (fun _ _ => aw_iload_n K (dOf ck_mX12_isSmall rfl rfl) rfl) ?_
    refine gl (i' := 5) (fun _ _ => aw_bip K (dOf ck_mX12_isSmall rfl rfl) (v := 122) rfl) ?_
    refine g_icmp_gt K (dOf ck_mX12_isSmall rfl rfl) (t := 8) (aJ_of (by decide +kernel)) (fun h2 => ?_) (fun h2 => ?_)
    · refine gl (i' := 9) (fun _ _ => aw_iconst K (n := 0) (i32 _ rfl) (dOf ck_mX12_isSmall rfl rfl)) ?_
      exact g_iret K (by decide +kernel) rfl (Or.inr (Or.inl ⟨rfl, Or.inl rfl⟩)) rfl
    · refine gl (i' := 7) (fun _ _ => aw_iconst K (n := 1) (i32 _ rfl) (dOf ck_mX12_isSmall rfl rfl)) ?_
      refine g_goto K (dOf ck_mX12_isSmall rfl rfl).1 (t := 9) (aJ_of (by decide +kernel)) ?_
      exact g_iret K (by decide +kernel) rfl (Or.inr (Or.inl ⟨rfl, Or.inr rfl⟩)) rfl
def R_keyAt_55 (mm : aM) (k4 : Int → Int → Option Int) (x1 : Int) : Nat → Int → Option Int
  | 0, _ => none
  | n + 1, x2 => (sChr 9 x2).bind fun r7 => (if r7 = 32 then (k4 (w32 (x1 + 1)) (w32 (x2 + 1))) else (R_keyAt_55 mm k4 x1 n (w32 (x2 + 1))))
set_option maxHeartbeats 4000000 in
theorem lk_R_keyAt_55 {p : Program} {l : Launch} {e : Env} {s : State} {m : MethodId} {args : Array Value} {below : List Frame} {meth : Method} {c : Code} {D : va_G} {cA : FieldType → ClassId} {ad adV : Nat → Nat} {z0 : Nat} {al0 : List Nat} {mm : aM} (K : aK p s m args meth c mX12_keyAt D cA ad adV z0) (x1 : Int) (k4 : Int → Int → Option Int) (hk4 : ∀ (x1 : Int) (x2 : Int), aG p l e { frames := 4, cells := 0, slots := 0, locals := 85 } s m args below meth c D cA ad z0 mX12_keyAt al0 (rI mm) (k4 x1 x2) 4 [(0, .inr (.inr (.inl (some 176)))), (1, .inl x1), (2, .inl x2)] [] mm)  : ∀ (n : Nat) (x2 : Int), aG p l e { frames := 4, cells := 0, slots := 0, locals := 85 } s m args below meth c D cA ad z0 mX12_keyAt al0 (rI mm) (R_keyAt_55 mm k4 x1 n x2) 55 [(0, .inr (.inr (.inl (some 176)))), (1, .inl x1), (2, .inl x2)] [] mm := by
  intro n
  induction n with
  | zero => intro x2; exact g_none
  | succ n ih =>
    intro x2
    rw [R_keyAt_55]
    refine gl (i' := 56) (fun _ _ => aw_ldcs K (dOf ck_mX12_keyAt rfl rfl) (n := 9) rfl) ?_
    refine gl (i' := 57) (fun _ _ => aw_iload_n K (dOf ck_mX12_keyAt rfl rfl) rfl) ?_
    refine g_callTI K [.inl _] rfl (dOf ck_mX12_keyAt rfl rfl) al_OneBreathModel_127 (by decide) ⟨wd_521, wd_522⟩ rfl (Nat.le_of_ble_eq_true rfl) ⟨Nat.le_of_ble_eq_true rfl, Nat.le_of_ble_eq_true rfl⟩ (fun b hb => met_charAt (by decide) hb) (fun r7 hr7 => ?_)
    refine gl (i' := 59) (fun _ _ => aw_bip K (dOf ck_mX12_keyAt rfl rfl) (v := 32) rfl) ?_
    refine g_icmp_eq K (dOf ck_mX12_keyAt rfl rfl) (t := 62) (aJ_of (by decide +kernel)) (fun h8 => ?_) (fun h8 => ?_)
    · refine gl (i' := 63) (fun _ _ => aw_iinc K (dOf ck_mX12_keyAt rfl rfl) (Nat.le_of_ble_eq_true rfl) rfl) ?_
      refine g_lv (lv' := [(2, .inl _), (0, .inr (.inr (.inl (some _)))), (1, .inl _)]) rfl ?_
      refine gl (i' := 64) (fun _ _ => aw_iinc K (dOf ck_mX12_keyAt rfl rfl) (Nat.le_of_ble_eq_true rfl) rfl) ?_
      refine g_lv (lv' := [(1, .inl _), (2, .inl _), (0, .inr (.inr (.inl (some _))))]) rfl ?_
      refine g_goto K (dOf ck_mX12_keyAt rfl rfl).1 (t := 4) (aJ_of (by decide +kernel)) ?_
      refine g_sub [2, 0, 1] rfl ?_
      exact hk4 _ _
    · refine gl (i' := 61) (fun _ _ => aw_iinc K (dOf ck_mX12_keyAt rfl rfl) (Nat.le_of_ble_eq_true rfl) rfl) ?_
      refine g_lv (lv' := [(2, .inl _), (0, .inr (.inr (.inl (some _)))), (1, .inl _)]) rfl ?_
      refine g_goto K (dOf ck_mX12_keyAt rfl rfl).1 (t := 55) (aJ_of (by decide +kernel)) ?_
      refine g_sub [1, 2, 0] rfl ?_
      exact ih _
def R_keyAt_39 (mm : aM) (k4 : Int → Int → Option Int) (x1 : Int) (x2 : Int) (x3 : Int) : Option Int := (sChr 9 (w32 (x2 + x3))).bind fun r5 => (if r5 = 32 then (if (w32 ((mm 176 6) + x3)) = (mm 176 7) then (some x1) else (R_keyAt_55 mm k4 x1 FU x2)) else (R_keyAt_55 mm k4 x1 FU x2))
set_option maxHeartbeats 4000000 in
theorem lk_R_keyAt_39 {p : Program} {l : Launch} {e : Env} {s : State} {m : MethodId} {args : Array Value} {below : List Frame} {meth : Method} {c : Code} {D : va_G} {cA : FieldType → ClassId} {ad adV : Nat → Nat} {z0 : Nat} {al0 : List Nat} {mm : aM} (K : aK p s m args meth c mX12_keyAt D cA ad adV z0) (x1 : Int) (x2 : Int) (x3 : Int) (k4 : Int → Int → Option Int) (hk4 : ∀ (x1 : Int) (x2 : Int), aG p l e { frames := 4, cells := 0, slots := 0, locals := 85 } s m args below meth c D cA ad z0 mX12_keyAt al0 (rI mm) (k4 x1 x2) 4 [(0, .inr (.inr (.inl (some 176)))), (1, .inl x1), (2, .inl x2)] [] mm)  : aG p l e { frames := 4, cells := 0, slots := 0, locals := 85 } s m args below meth c D cA ad z0 mX12_keyAt al0 (rI mm) (R_keyAt_39 mm k4 x1 x2 x3) 39 [(0, .inr (.inr (.inl (some 176)))), (1, .inl x1), (2, .inl x2), (3, .inl x3)] [] mm := by
  unfold R_keyAt_39
  refine gl (i' := 40) (fun _ _ => aw_ldcs K (dOf ck_mX12_keyAt rfl rfl) (n := 9) rfl) ?_
  refine gl (i' := 41) (fun _ _ => aw_iload_n K (dOf ck_mX12_keyAt rfl rfl) rfl) ?_
  refine gl (i' := 42) (fun _ _ => aw_iload_n K (dOf ck_mX12_keyAt rfl rfl) rfl) ?_
  refine gl (i' := 43) (fun _ _ => aw_iadd K (dOf ck_mX12_keyAt rfl rfl)) ?_
  refine g_callTI K [.inl _] rfl (dOf ck_mX12_keyAt rfl rfl) al_OneBreathModel_127 (by decide) ⟨wd_521, wd_522⟩ rfl (Nat.le_of_ble_eq_true rfl) ⟨Nat.le_of_ble_eq_true rfl, Nat.le_of_ble_eq_true rfl⟩ (fun b hb => met_charAt (by decide) hb) (fun r5 hr5 => ?_)
  refine gl (i' := 45) (fun _ _ => aw_bip K (dOf ck_mX12_keyAt rfl rfl) (v := 32) rfl) ?_
  refine g_icmp_ne K (dOf ck_mX12_keyAt rfl rfl) (t := 55) (aJ_of (by decide +kernel)) (fun h6 => ?_) (fun h6 => ?_)
  · refine gl (i' := 47) (fun _ _ => aw_aload_n K (dOf ck_mX12_keyAt rfl rfl) rfl) ?_
    refine gl (i' := 48) (fun _ _ => aw_getf K (dOf ck_mX12_keyAt rfl rfl) rfl rfl (Nat.le_of_ble_eq_true rfl) wd_1211 (k := 6) rfl) ?_
    refine gl (i' := 49) (fun _ _ => aw_iload_n K (dOf ck_mX12_keyAt rfl rfl) rfl) ?_
    refine gl (i' := 50) (fun _ _ => aw_iadd K (dOf ck_mX12_keyAt rfl rfl)) ?_
    refine gl (i' := 51) (fun _ _ => aw_aload_n K (dOf ck_mX12_keyAt rfl rfl) rfl) ?_
    refine gl (i' := 52) (fun _ _ => aw_getf K (dOf ck_mX12_keyAt rfl rfl) rfl rfl (Nat.le_of_ble_eq_true rfl) wd_1212 (k := 7) rfl) ?_
    refine g_icmp_ne K (dOf ck_mX12_keyAt rfl rfl) (t := 55) (aJ_of (by decide +kernel)) (fun h9 => ?_) (fun h9 => ?_)
    · refine gl (i' := 54) (fun _ _ => aw_iload_n K (dOf ck_mX12_keyAt rfl rfl) rfl) ?_
      exact g_iret K (dOf ck_mX12_keyAt rfl rfl).1 rfl (Or.inl rfl) rfl
    · refine g_sub [0, 1, 2] rfl ?_
      exact lk_R_keyAt_55 K _ _ hk4 FU _
  · refine g_sub [0, 1, 2] rfl ?_
    exact lk_R_keyAt_55 K _ _ hk4 FU _
def R_keyAt_10 (mm : aM) (k4 : Int → Int → Option Int) (x1 : Int) (x2 : Int) : Nat → Int → Option Int
  | 0, _ => none
  | n + 1, x3 => (sChr 9 (w32 (x2 + x3))).bind fun r3 => (if r3 = 32 then (R_keyAt_39 mm k4 x1 x2 x3) else (if (w32 ((mm 176 6) + x3)) < (mm 176 7) then (if 0 ≤ (w32 ((mm 176 6) + x3)) ∧ (w32 ((mm 176 6) + x3)) < 500 then ((sChr 9 (w32 (x2 + x3))).bind fun r12 => (if (mm 179 (w32 ((mm 176 6) + x3)).toNat) = r12 then (R_keyAt_10 mm k4 x1 x2 n (w32 (x3 + 1))) else (R_keyAt_39 mm k4 x1 x2 x3))) else none) else (R_keyAt_39 mm k4 x1 x2 x3)))
set_option maxHeartbeats 4000000 in
theorem lk_R_keyAt_10 {p : Program} {l : Launch} {e : Env} {s : State} {m : MethodId} {args : Array Value} {below : List Frame} {meth : Method} {c : Code} {D : va_G} {cA : FieldType → ClassId} {ad adV : Nat → Nat} {z0 : Nat} {al0 : List Nat} {mm : aM} (K : aK p s m args meth c mX12_keyAt D cA ad adV z0) (x1 : Int) (x2 : Int) (k4 : Int → Int → Option Int) (hk4 : ∀ (x1 : Int) (x2 : Int), aG p l e { frames := 4, cells := 0, slots := 0, locals := 85 } s m args below meth c D cA ad z0 mX12_keyAt al0 (rI mm) (k4 x1 x2) 4 [(0, .inr (.inr (.inl (some 176)))), (1, .inl x1), (2, .inl x2)] [] mm)  : ∀ (n : Nat) (x3 : Int), aG p l e { frames := 4, cells := 0, slots := 0, locals := 85 } s m args below meth c D cA ad z0 mX12_keyAt al0 (rI mm) (R_keyAt_10 mm k4 x1 x2 n x3) 10 [(0, .inr (.inr (.inl (some 176)))), (1, .inl x1), (2, .inl x2), (3, .inl x3)] [] mm := by
  intro n
  induction n with
  | zero => intro x3; exact g_none
  | succ n ih =>
    intro x3
    rw [R_keyAt_10]
    refine gl (i' := 11) (fun _ _ => aw_ldcs K (dOf ck_mX12_keyAt rfl rfl) (n := 9) rfl) ?_
    refine gl (i' := 12) (fun _ _ => aw_iload_n K (dOf ck_mX12_keyAt rfl rfl) rfl) ?_
    refine gl (i' := 13) (fun _ _ => aw_iload_n K (dOf ck_mX12_keyAt rfl rfl) rfl) ?_
    refine gl (i' := 14) (fun _ _ => aw_iadd K (dOf ck_mX12_keyAt rfl rfl)) ?_
    refine g_callTI K [.inl _] rfl (dOf ck_mX12_keyAt rfl rfl) al_OneBreathModel_127 (by decide) ⟨wd_521, wd_522⟩ rfl (Nat.le_of_ble_eq_true rfl) ⟨Nat.le_of_ble_eq_true rfl, Nat.le_of_ble_eq_true rfl⟩ (fun b hb => met_charAt (by decide) hb) (fun r3 hr3 => ?_)
    refine gl (i' := 16) (fun _ _ => aw_bip K (dOf ck_mX12_keyAt rfl rfl) (v := 32) rfl) ?_
    refine g_icmp_eq K (dOf ck_mX12_keyAt rfl rfl) (t := 39) (aJ_of (by decide +kernel)) (fun h4 => ?_) (fun h4 => ?_)
    · refine g_sub [0, 1, 2, 3] rfl ?_
      exact lk_R_keyAt_39 K _ _ _ _ hk4
    · refine gl (i' := 18) (fun _ _ => aw_aload_n K (dOf ck_mX12_keyAt rfl rfl) rfl) ?_
      refine gl (i' := 19) (fun _ _ => aw_getf K (dOf ck_mX12_keyAt rfl rfl) rfl rfl (Nat.le_of_ble_eq_true rfl) wd_1211 (k := 6) rfl) ?_
      refine gl (i' := 20) (fun _ _ => aw_iload_n K (dOf ck_mX12_keyAt rfl rfl) rfl) ?_
      refine gl (i' := 21) (fun _ _ => aw_iadd K (dOf ck_mX12_keyAt rfl rfl)) ?_
      refine gl (i' := 22) (fun _ _ => aw_aload_n K (dOf ck_mX12_keyAt rfl rfl) rfl) ?_
      refine gl (i' := 23) (fun _ _ => aw_getf K (dOf ck_mX12_keyAt rfl rfl) rfl rfl (Nat.le_of_ble_eq_true rfl) wd_1212 (k := 7) rfl) ?_
      refine g_icmp_ge K (dOf ck_mX12_keyAt rfl rfl) (t := 39) (aJ_of (by decide +kernel)) (fun h10 => ?_) (fun h10 => ?_)
      · refine gl (i' := 25) (fun _ _ => aw_aload_n K (dOf ck_mX12_keyAt rfl rfl) rfl) ?_
        refine gl (i' := 26) (fun _ _ => aw_getf K (dOf ck_mX12_keyAt rfl rfl) rfl rfl (Nat.le_of_ble_eq_true rfl) wd_1208 (k := 3) rfl) ?_
        refine gl (i' := 27) (fun _ _ => aw_aload_n K (dOf ck_mX12_keyAt rfl rfl) rfl) ?_
        refine gl (i' := 28) (fun _ _ => aw_getf K (dOf ck_mX12_keyAt rfl rfl) rfl rfl (Nat.le_of_ble_eq_true rfl) wd_1211 (k := 6) rfl) ?_
        refine gl (i' := 29) (fun _ _ => aw_iload_n K (dOf ck_mX12_keyAt rfl rfl) rfl) ?_
        refine gl (i' := 30) (fun _ _ => aw_iadd K (dOf ck_mX12_keyAt rfl rfl)) ?_
        refine g_gd (fun hb11 => ?_)
        refine gl (i' := 31) (fun _ _ => aw_iald K (dOf ck_mX12_keyAt rfl rfl) rfl hb11) ?_
        refine gl (i' := 32) (fun _ _ => aw_ldcs K (dOf ck_mX12_keyAt rfl rfl) (n := 9) rfl) ?_
        refine gl (i' := 33) (fun _ _ => aw_iload_n K (dOf ck_mX12_keyAt rfl rfl) rfl) ?_
        refine gl (i' := 34) (fun _ _ => aw_iload_n K (dOf ck_mX12_keyAt rfl rfl) rfl) ?_
        refine gl (i' := 35) (fun _ _ => aw_iadd K (dOf ck_mX12_keyAt rfl rfl)) ?_
        refine g_callTI K [.inl _] rfl (dOf ck_mX12_keyAt rfl rfl) al_OneBreathModel_127 (by decide) ⟨wd_521, wd_522⟩ rfl (Nat.le_of_ble_eq_true rfl) ⟨Nat.le_of_ble_eq_true rfl, Nat.le_of_ble_eq_true rfl⟩ (fun b hb => met_charAt (by decide) hb) (fun r12 hr12 => ?_)
        refine g_icmp_ne K (dOf ck_mX12_keyAt rfl rfl) (t := 39) (aJ_of (by decide +kernel)) (fun h13 => ?_) (fun h13 => ?_)
        · refine gl (i' := 38) (fun _ _ => aw_iinc K (dOf ck_mX12_keyAt rfl rfl) (Nat.le_of_ble_eq_true rfl) rfl) ?_
          refine g_lv (lv' := [(3, .inl _), (0, .inr (.inr (.inl (some _)))), (1, .inl _), (2, .inl _)]) rfl ?_
          refine g_goto K (dOf ck_mX12_keyAt rfl rfl).1 (t := 10) (aJ_of (by decide +kernel)) ?_
          refine g_sub [1, 2, 3, 0] rfl ?_
          exact ih _
        · refine g_sub [0, 1, 2, 3] rfl ?_
          exact lk_R_keyAt_39 K _ _ _ _ hk4
      · refine g_sub [0, 1, 2, 3] rfl ?_
        exact lk_R_keyAt_39 K _ _ _ _ hk4
def R_keyAt_4 (mm : aM) : Nat → Int → Int → Option Int
  | 0, _, _ => none
  | n + 1, x1, x2 => (sLen 9).bind fun r1 => (if x2 < r1 then (R_keyAt_10 mm (R_keyAt_4 mm n) x1 x2 FU 0) else (some 9))
set_option maxHeartbeats 4000000 in
theorem lk_R_keyAt_4 {p : Program} {l : Launch} {e : Env} {s : State} {m : MethodId} {args : Array Value} {below : List Frame} {meth : Method} {c : Code} {D : va_G} {cA : FieldType → ClassId} {ad adV : Nat → Nat} {z0 : Nat} {al0 : List Nat} {mm : aM} (K : aK p s m args meth c mX12_keyAt D cA ad adV z0)   : ∀ (n : Nat) (x1 : Int) (x2 : Int), aG p l e { frames := 4, cells := 0, slots := 0, locals := 85 } s m args below meth c D cA ad z0 mX12_keyAt al0 (rI mm) (R_keyAt_4 mm n x1 x2) 4 [(0, .inr (.inr (.inl (some 176)))), (1, .inl x1), (2, .inl x2)] [] mm := by
  intro n
  induction n with
  | zero => intro x1 x2; exact g_none
  | succ n ih =>
    intro x1 x2
    rw [R_keyAt_4]
    refine gl (i' := 5) (fun _ _ => aw_iload_n K (dOf ck_mX12_keyAt rfl rfl) rfl) ?_
    refine gl (i' := 6) (fun _ _ => aw_ldcs K (dOf ck_mX12_keyAt rfl rfl) (n := 9) rfl) ?_
    refine g_callTI K [] rfl (dOf ck_mX12_keyAt rfl rfl) al_OneBreathModel_121 (by decide) ⟨wd_512, wd_513⟩ rfl (Nat.le_of_ble_eq_true rfl) ⟨Nat.le_of_ble_eq_true rfl, Nat.le_of_ble_eq_true rfl⟩ (fun b hb => met_strLen (by decide) hb) (fun r1 hr1 => ?_)
    refine g_icmp_ge K (dOf ck_mX12_keyAt rfl rfl) (t := 65) (aJ_of (by decide +kernel)) (fun h2 => ?_) (fun h2 => ?_)
    · refine gl (i' := 9) (fun _ _ => aw_iconst K (n := 0) (i32 _ rfl) (dOf ck_mX12_keyAt rfl rfl)) ?_
      refine gl (i' := 10) (fun _ _ => aw_istore_n K (dOf ck_mX12_keyAt rfl rfl) (Nat.le_of_ble_eq_true rfl)) ?_
      refine g_lv (lv' := [(3, .inl _), (0, .inr (.inr (.inl (some _)))), (1, .inl _), (2, .inl _)]) rfl ?_
      refine g_sub [1, 2, 3, 0] rfl ?_
      exact lk_R_keyAt_10 K _ _ _ ih FU _
    · refine gl (i' := 66) (fun _ _ => aw_bip K (dOf ck_mX12_keyAt rfl rfl) (v := 9) rfl) ?_
      exact g_iret K (by decide +kernel) rfl (Or.inl rfl) rfl
def R_keyAt  (mm : aM) : Option Int := R_keyAt_4 mm FU 0 1
set_option maxHeartbeats 4000000 in
theorem met_R_keyAt {l : Launch} {D : va_G} {cA : FieldType → ClassId} {ad adV : Nat → Nat} {z0 : Nat}  {mm : aM}  {r : Int} (h : R_keyAt  mm = some r) : aMet l D cA ad adV z0 mX12_keyAt 4 85 0 0 [.inr (.inr (.inl (some 176)))] SH mm ((rI mm) r).1 SH ((rI mm) r).2 := by
  refine aMet_ofG (by decide +kernel) rfl (Nat.le_of_ble_eq_true rfl) h (fun p e s m args below meth c al0 K => ?_)
  unfold R_keyAt
  refine gl (i' := 1) (fun _ _ => aw_iconst K (n := 0) (i32 _ rfl) (dOf ck_mX12_keyAt rfl rfl)) ?_
  refine gl (i' := 2) (fun _ _ => aw_istore_n K (dOf ck_mX12_keyAt rfl rfl) (Nat.le_of_ble_eq_true rfl)) ?_
  refine g_lv (lv' := [(1, .inl _), (0, .inr (.inr (.inl (some _))))]) rfl ?_
  refine gl (i' := 3) (fun _ _ => aw_iconst K (n := 1) (i32 _ rfl) (dOf ck_mX12_keyAt rfl rfl)) ?_
  refine gl (i' := 4) (fun _ _ => aw_istore_n K (dOf ck_mX12_keyAt rfl rfl) (Nat.le_of_ble_eq_true rfl)) ?_
  refine g_lv (lv' := [(2, .inl _), (1, .inl _), (0, .inr (.inr (.inl (some _))))]) rfl ?_
  refine g_sub [2, 1, 0] rfl ?_
  exact lk_R_keyAt_4 K FU _ _
def R_isDigit (x0 : Int) (mm : aM) : Option Int := if x0 < 48 then (some 0) else (if 57 < x0 then (some 0) else (some 1))
set_option maxHeartbeats 4000000 in
theorem met_R_isDigit {l : Launch} {D : va_G} {cA : FieldType → ClassId} {ad adV : Nat → Nat} {z0 : Nat} {x0 : Int} {mm : aM}  {r : Int} (h : R_isDigit x0 mm = some r) : aMet l D cA ad adV z0 mX12_isDigit 0 0 0 0 [.inl x0] SH mm ((rI mm) r).1 SH ((rI mm) r).2 := by
  refine aMet_ofG (by decide +kernel) rfl (Nat.le_of_ble_eq_true rfl) h (fun p e s m args below meth c al0 K => ?_)
  unfold R_isDigit
  refine gl (i' := 1) (fun _ _ => aw_iload_n K (dOf ck_mX12_isDigit rfl rfl) rfl) ?_
  refine gl (i' := 2) (fun _ _ => aw_bip K (dOf ck_mX12_isDigit rfl rfl) (v := 48) rfl) ?_
  refine g_icmp_lt K (dOf ck_mX12_isDigit rfl rfl) (t := 8) (aJ_of (by decide +kernel)) (fun h1 => ?_) (fun h1 => ?_)
  · refine gl (i' := 9) (fun _ _ => aw_iconst K (n := 0) (i32 _ rfl) (dOf ck_mX12_isDigit rfl rfl)) ?_
    exact g_iret K (by decide +kernel) rfl (Or.inr (Or.inl ⟨rfl, Or.inl rfl⟩)) rfl
  · refine gl (i' := 4) (fun _ _ => aw_iload_n K (dOf ck_mX12_isDigit rfl rfl) rfl) ?_
    refine gl (i' := 5) (fun _ _ => aw_bip K (dOf ck_mX12_isDigit rfl rfl) (v := 57) rfl) ?_
    refine g_icmp_gt K (dOf ck_mX12_isDigit rfl rfl) (t := 8) (aJ_of (by decide +kernel)) (fun h2 => ?_) (fun h2 => ?_)
    · refine gl (i' := 9) (fun _ _ => aw_iconst K (n := 0) (i32 _ rfl) (dOf ck_mX12_isDigit rfl rfl)) ?_
      exact g_iret K (by decide +kernel) rfl (Or.inr (Or.inl ⟨rfl, Or.inl rfl⟩)) rfl
    · refine gl (i' := 7) (fun _ _ => aw_iconst K (n := 1) (i32 _ rfl) (dOf ck_mX12_isDigit rfl rfl)) ?_
      refine g_goto K (dOf ck_mX12_isDigit rfl rfl).1 (t := 9) (aJ_of (by decide +kernel)) ?_
      exact g_iret K (by decide +kernel) rfl (Or.inr (Or.inl ⟨rfl, Or.inr rfl⟩)) rfl
def R_next_16 (k4 : aM → Option aM) (mm : aM) : Option aM := st1 (aup mm 176 6 (w32 ((mm 176 6) + 1))) fun mm4 => (k4 mm4)
set_option maxHeartbeats 4000000 in
theorem lk_R_next_16 {p : Program} {l : Launch} {e : Env} {s : State} {m : MethodId} {args : Array Value} {below : List Frame} {meth : Method} {c : Code} {D : va_G} {cA : FieldType → ClassId} {ad adV : Nat → Nat} {z0 : Nat} {al0 : List Nat} (K : aK p s m args meth c mX12_next D cA ad adV z0) (k4 : aM → Option aM) (hk4 : ∀ (mm : aM), aG p l e { frames := 5, cells := 0, slots := 0, locals := 108 } s m args below meth c D cA ad z0 mX12_next al0 rM (k4 mm) 4 [(0, .inr (.inr (.inl (some 176))))] [] mm)  (mm : aM) : aG p l e { frames := 5, cells := 0, slots := 0, locals := 108 } s m args below meth c D cA ad z0 mX12_next al0 rM (R_next_16 k4 mm) 16 [(0, .inr (.inr (.inl (some 176))))] [] mm := by
  unfold R_next_16
  refine gl (i' := 17) (fun _ _ => aw_aload_n K (dOf ck_mX12_next rfl rfl) rfl) ?_
  refine gl (i' := 18) (fun _ _ => aw_dup K rfl (dOf ck_mX12_next rfl rfl)) ?_
  refine gl (i' := 19) (fun _ _ => aw_getf K (dOf ck_mX12_next rfl rfl) rfl rfl (Nat.le_of_ble_eq_true rfl) wd_1211 (k := 6) rfl) ?_
  refine gl (i' := 20) (fun _ _ => aw_iconst K (n := 1) (i32 _ rfl) (dOf ck_mX12_next rfl rfl)) ?_
  refine gl (i' := 21) (fun _ _ => aw_iadd K (dOf ck_mX12_next rfl rfl)) ?_
  refine g_st1 ?_
  refine gl (i' := 22) (fun _ _ => aw_putf K (dOf ck_mX12_next rfl rfl) rfl rfl (Nat.le_of_ble_eq_true rfl) wd_1211 (k := 6) rfl rfl (Or.inl rfl)) ?_
  refine g_goto K (dOf ck_mX12_next rfl rfl).1 (t := 4) (aJ_of (by decide +kernel)) ?_
  refine g_sub [0] rfl ?_
  exact hk4 _
def R_next_131 (s0 : Int) (mm : aM) : Option aM := st1 (aup mm 176 9 s0) fun mm18 => (some mm18)
set_option maxHeartbeats 4000000 in
theorem lk_R_next_131 {p : Program} {l : Launch} {e : Env} {s : State} {m : MethodId} {args : Array Value} {below : List Frame} {meth : Method} {c : Code} {D : va_G} {cA : FieldType → ClassId} {ad adV : Nat → Nat} {z0 : Nat} {al0 : List Nat} (K : aK p s m args meth c mX12_next D cA ad adV z0)   (s0 : Int) (mm : aM) : aG p l e { frames := 5, cells := 0, slots := 0, locals := 108 } s m args below meth c D cA ad z0 mX12_next al0 rM (R_next_131 s0 mm) 131 [] [.inl s0, .inr (.inr (.inl (some 176)))] mm := by
  unfold R_next_131
  refine g_st1 ?_
  refine gl (i' := 132) (fun _ _ => aw_putf K (dOf ck_mX12_next rfl rfl) rfl rfl (Nat.le_of_ble_eq_true rfl) wd_1214 (k := 9) rfl rfl (Or.inl rfl)) ?_
  exact g_vret K (by decide +kernel) rfl rfl
def R_next_113 (s0 : Int) (mm : aM) : Option aM := st1 (aup mm 176 9 s0) fun mm24 => (some mm24)
set_option maxHeartbeats 4000000 in
theorem lk_R_next_113 {p : Program} {l : Launch} {e : Env} {s : State} {m : MethodId} {args : Array Value} {below : List Frame} {meth : Method} {c : Code} {D : va_G} {cA : FieldType → ClassId} {ad adV : Nat → Nat} {z0 : Nat} {al0 : List Nat} (K : aK p s m args meth c mX12_next D cA ad adV z0)   (s0 : Int) (mm : aM) : aG p l e { frames := 5, cells := 0, slots := 0, locals := 108 } s m args below meth c D cA ad z0 mX12_next al0 rM (R_next_113 s0 mm) 113 [] [.inl s0, .inr (.inr (.inl (some 176)))] mm := by
  unfold R_next_113
  refine g_st1 ?_
  refine gl (i' := 114) (fun _ _ => aw_putf K (dOf ck_mX12_next rfl rfl) rfl rfl (Nat.le_of_ble_eq_true rfl) wd_1214 (k := 9) rfl rfl (Or.inl rfl)) ?_
  refine g_goto K (dOf ck_mX12_next rfl rfl).1 (t := 132) (aJ_of (by decide +kernel)) ?_
  exact g_vret K (by decide +kernel) rfl rfl
def R_next_95 (k69 : aM → Option aM) (mm : aM) : Option aM := st1 (aup mm 176 7 (w32 ((mm 176 7) + 1))) fun mm26 => (k69 mm26)
set_option maxHeartbeats 4000000 in
theorem lk_R_next_95 {p : Program} {l : Launch} {e : Env} {s : State} {m : MethodId} {args : Array Value} {below : List Frame} {meth : Method} {c : Code} {D : va_G} {cA : FieldType → ClassId} {ad adV : Nat → Nat} {z0 : Nat} {al0 : List Nat} (K : aK p s m args meth c mX12_next D cA ad adV z0) (k69 : aM → Option aM) (hk69 : ∀ (mm : aM), aG p l e { frames := 5, cells := 0, slots := 0, locals := 108 } s m args below meth c D cA ad z0 mX12_next al0 rM (k69 mm) 69 [(0, .inr (.inr (.inl (some 176))))] [] mm)  (mm : aM) : aG p l e { frames := 5, cells := 0, slots := 0, locals := 108 } s m args below meth c D cA ad z0 mX12_next al0 rM (R_next_95 k69 mm) 95 [(0, .inr (.inr (.inl (some 176))))] [] mm := by
  unfold R_next_95
  refine gl (i' := 96) (fun _ _ => aw_aload_n K (dOf ck_mX12_next rfl rfl) rfl) ?_
  refine gl (i' := 97) (fun _ _ => aw_dup K rfl (dOf ck_mX12_next rfl rfl)) ?_
  refine gl (i' := 98) (fun _ _ => aw_getf K (dOf ck_mX12_next rfl rfl) rfl rfl (Nat.le_of_ble_eq_true rfl) wd_1212 (k := 7) rfl) ?_
  refine gl (i' := 99) (fun _ _ => aw_iconst K (n := 1) (i32 _ rfl) (dOf ck_mX12_next rfl rfl)) ?_
  refine gl (i' := 100) (fun _ _ => aw_iadd K (dOf ck_mX12_next rfl rfl)) ?_
  refine g_st1 ?_
  refine gl (i' := 101) (fun _ _ => aw_putf K (dOf ck_mX12_next rfl rfl) rfl rfl (Nat.le_of_ble_eq_true rfl) wd_1212 (k := 7) rfl rfl (Or.inl rfl)) ?_
  refine g_goto K (dOf ck_mX12_next rfl rfl).1 (t := 69) (aJ_of (by decide +kernel)) ?_
  refine g_sub [0] rfl ?_
  exact hk69 _
def R_next_69  : Nat → aM → Option aM
  | 0, _ => none
  | n + 1, mm => (R_see (mm 176 7) mm).bind fun r20 => ((R_isDigit r20 mm).bind fun r21 => (if r21 = 0 then (if 3 < (w32 ((mm 176 7) - (mm 176 6))) then (R_next_113 13 mm) else (R_next_113 10 mm)) else (if (w32 ((mm 176 7) - (mm 176 6))) < 3 then ((R_see (mm 176 7) mm).bind fun r27 => (st1 (aup mm 176 10 (w32 ((w32 ((w32 (10 * (mm 176 10))) + r27)) - 48))) fun mm28 => (R_next_95 (R_next_69 n) mm28))) else (R_next_95 (R_next_69 n) mm))))
set_option maxHeartbeats 4000000 in
theorem lk_R_next_69 {p : Program} {l : Launch} {e : Env} {s : State} {m : MethodId} {args : Array Value} {below : List Frame} {meth : Method} {c : Code} {D : va_G} {cA : FieldType → ClassId} {ad adV : Nat → Nat} {z0 : Nat} {al0 : List Nat} (K : aK p s m args meth c mX12_next D cA ad adV z0)   : ∀ (n : Nat) (mm : aM), aG p l e { frames := 5, cells := 0, slots := 0, locals := 108 } s m args below meth c D cA ad z0 mX12_next al0 rM (R_next_69 n mm) 69 [(0, .inr (.inr (.inl (some 176))))] [] mm := by
  intro n
  induction n with
  | zero => intro mm; exact g_none
  | succ n ih =>
    intro mm
    rw [R_next_69]
    refine gl (i' := 70) (fun _ _ => aw_aload_n K (dOf ck_mX12_next rfl rfl) rfl) ?_
    refine gl (i' := 71) (fun _ _ => aw_aload_n K (dOf ck_mX12_next rfl rfl) rfl) ?_
    refine gl (i' := 72) (fun _ _ => aw_getf K (dOf ck_mX12_next rfl rfl) rfl rfl (Nat.le_of_ble_eq_true rfl) wd_1212 (k := 7) rfl) ?_
    refine g_callVI K [.inl _] rfl (dOf ck_mX12_next rfl rfl) al_OneBreathModel_137 rfl rfl ⟨wd_1275, wd_64⟩ rfl (Nat.le_of_ble_eq_true rfl) ⟨Nat.le_of_ble_eq_true rfl, Nat.le_of_ble_eq_true rfl⟩ (fun b hb => met_R_see  hb) (fun r20 hr20 => ?_)
    refine g_callSI K [.inl _] rfl (dOf ck_mX12_next rfl rfl) al_OneBreathModel_151 wd_1286 rfl (Nat.le_of_ble_eq_true rfl) ⟨Nat.le_of_ble_eq_true rfl, Nat.le_of_ble_eq_true rfl⟩ (fun b hb => met_R_isDigit  hb) (fun r21 hr21 => ?_)
    refine g_if_eq K (dOf ck_mX12_next rfl rfl) (t := 102) (aJ_of (by decide +kernel)) (fun h22 => ?_) (fun h22 => ?_)
    · refine gl (i' := 103) (fun _ _ => aw_aload_n K (dOf ck_mX12_next rfl rfl) rfl) ?_
      refine gl (i' := 104) (fun _ _ => aw_aload_n K (dOf ck_mX12_next rfl rfl) rfl) ?_
      refine gl (i' := 105) (fun _ _ => aw_getf K (dOf ck_mX12_next rfl rfl) rfl rfl (Nat.le_of_ble_eq_true rfl) wd_1212 (k := 7) rfl) ?_
      refine gl (i' := 106) (fun _ _ => aw_aload_n K (dOf ck_mX12_next rfl rfl) rfl) ?_
      refine gl (i' := 107) (fun _ _ => aw_getf K (dOf ck_mX12_next rfl rfl) rfl rfl (Nat.le_of_ble_eq_true rfl) wd_1211 (k := 6) rfl) ?_
      refine gl (i' := 108) (fun _ _ => aw_isub K (dOf ck_mX12_next rfl rfl)) ?_
      refine gl (i' := 109) (fun _ _ => aw_iconst K (n := 3) (i32 _ rfl) (dOf ck_mX12_next rfl rfl)) ?_
      refine g_icmp_le K (dOf ck_mX12_next rfl rfl) (t := 112) (aJ_of (by decide +kernel)) (fun h23 => ?_) (fun h23 => ?_)
      · refine gl (i' := 111) (fun _ _ => aw_bip K (dOf ck_mX12_next rfl rfl) (v := 13) rfl) ?_
        refine g_goto K (dOf ck_mX12_next rfl rfl).1 (t := 113) (aJ_of (by decide +kernel)) ?_
        refine g_sub [] rfl ?_
        exact lk_R_next_113 K _ _
      · refine gl (i' := 113) (fun _ _ => aw_bip K (dOf ck_mX12_next rfl rfl) (v := 10) rfl) ?_
        refine g_sub [] rfl ?_
        exact lk_R_next_113 K _ _
    · refine gl (i' := 76) (fun _ _ => aw_aload_n K (dOf ck_mX12_next rfl rfl) rfl) ?_
      refine gl (i' := 77) (fun _ _ => aw_getf K (dOf ck_mX12_next rfl rfl) rfl rfl (Nat.le_of_ble_eq_true rfl) wd_1212 (k := 7) rfl) ?_
      refine gl (i' := 78) (fun _ _ => aw_aload_n K (dOf ck_mX12_next rfl rfl) rfl) ?_
      refine gl (i' := 79) (fun _ _ => aw_getf K (dOf ck_mX12_next rfl rfl) rfl rfl (Nat.le_of_ble_eq_true rfl) wd_1211 (k := 6) rfl) ?_
      refine gl (i' := 80) (fun _ _ => aw_isub K (dOf ck_mX12_next rfl rfl)) ?_
      refine gl (i' := 81) (fun _ _ => aw_iconst K (n := 3) (i32 _ rfl) (dOf ck_mX12_next rfl rfl)) ?_
      refine g_icmp_ge K (dOf ck_mX12_next rfl rfl) (t := 95) (aJ_of (by decide +kernel)) (fun h25 => ?_) (fun h25 => ?_)
      · refine gl (i' := 83) (fun _ _ => aw_aload_n K (dOf ck_mX12_next rfl rfl) rfl) ?_
        refine gl (i' := 84) (fun _ _ => aw_bip K (dOf ck_mX12_next rfl rfl) (v := 10) rfl) ?_
        refine gl (i' := 85) (fun _ _ => aw_aload_n K (dOf ck_mX12_next rfl rfl) rfl) ?_
        refine gl (i' := 86) (fun _ _ => aw_getf K (dOf ck_mX12_next rfl rfl) rfl rfl (Nat.le_of_ble_eq_true rfl) wd_1215 (k := 10) rfl) ?_
        refine gl (i' := 87) (fun _ _ => aw_imul K (dOf ck_mX12_next rfl rfl)) ?_
        refine gl (i' := 88) (fun _ _ => aw_aload_n K (dOf ck_mX12_next rfl rfl) rfl) ?_
        refine gl (i' := 89) (fun _ _ => aw_aload_n K (dOf ck_mX12_next rfl rfl) rfl) ?_
        refine gl (i' := 90) (fun _ _ => aw_getf K (dOf ck_mX12_next rfl rfl) rfl rfl (Nat.le_of_ble_eq_true rfl) wd_1212 (k := 7) rfl) ?_
        refine g_callVI K [.inl _] rfl (dOf ck_mX12_next rfl rfl) al_OneBreathModel_137 rfl rfl ⟨wd_1275, wd_64⟩ rfl (Nat.le_of_ble_eq_true rfl) ⟨Nat.le_of_ble_eq_true rfl, Nat.le_of_ble_eq_true rfl⟩ (fun b hb => met_R_see  hb) (fun r27 hr27 => ?_)
        refine gl (i' := 92) (fun _ _ => aw_iadd K (dOf ck_mX12_next rfl rfl)) ?_
        refine gl (i' := 93) (fun _ _ => aw_bip K (dOf ck_mX12_next rfl rfl) (v := 48) rfl) ?_
        refine gl (i' := 94) (fun _ _ => aw_isub K (dOf ck_mX12_next rfl rfl)) ?_
        refine g_st1 ?_
        refine gl (i' := 95) (fun _ _ => aw_putf K (dOf ck_mX12_next rfl rfl) rfl rfl (Nat.le_of_ble_eq_true rfl) wd_1215 (k := 10) rfl rfl (Or.inl rfl)) ?_
        refine g_sub [0] rfl ?_
        exact lk_R_next_95 K _ ih _
      · refine g_sub [0] rfl ?_
        exact lk_R_next_95 K _ ih _
def R_next_42  : Nat → aM → Option aM
  | 0, _ => none
  | n + 1, mm => (R_see (mm 176 7) mm).bind fun r29 => ((R_isSmall r29 mm).bind fun r30 => (if r30 = 0 then ((R_keyAt mm).bind fun r32 => (st1 (aup mm 176 9 r32) fun mm33 => (some mm33))) else (st1 (aup mm 176 7 (w32 ((mm 176 7) + 1))) fun mm34 => (R_next_42 n mm34))))
set_option maxHeartbeats 4000000 in
theorem lk_R_next_42 {p : Program} {l : Launch} {e : Env} {s : State} {m : MethodId} {args : Array Value} {below : List Frame} {meth : Method} {c : Code} {D : va_G} {cA : FieldType → ClassId} {ad adV : Nat → Nat} {z0 : Nat} {al0 : List Nat} (K : aK p s m args meth c mX12_next D cA ad adV z0)   : ∀ (n : Nat) (mm : aM), aG p l e { frames := 5, cells := 0, slots := 0, locals := 108 } s m args below meth c D cA ad z0 mX12_next al0 rM (R_next_42 n mm) 42 [(0, .inr (.inr (.inl (some 176))))] [] mm := by
  intro n
  induction n with
  | zero => intro mm; exact g_none
  | succ n ih =>
    intro mm
    rw [R_next_42]
    refine gl (i' := 43) (fun _ _ => aw_aload_n K (dOf ck_mX12_next rfl rfl) rfl) ?_
    refine gl (i' := 44) (fun _ _ => aw_aload_n K (dOf ck_mX12_next rfl rfl) rfl) ?_
    refine gl (i' := 45) (fun _ _ => aw_getf K (dOf ck_mX12_next rfl rfl) rfl rfl (Nat.le_of_ble_eq_true rfl) wd_1212 (k := 7) rfl) ?_
    refine g_callVI K [.inl _] rfl (dOf ck_mX12_next rfl rfl) al_OneBreathModel_137 rfl rfl ⟨wd_1275, wd_64⟩ rfl (Nat.le_of_ble_eq_true rfl) ⟨Nat.le_of_ble_eq_true rfl, Nat.le_of_ble_eq_true rfl⟩ (fun b hb => met_R_see  hb) (fun r29 hr29 => ?_)
    refine g_callSI K [.inl _] rfl (dOf ck_mX12_next rfl rfl) al_OneBreathModel_144 wd_1278 rfl (Nat.le_of_ble_eq_true rfl) ⟨Nat.le_of_ble_eq_true rfl, Nat.le_of_ble_eq_true rfl⟩ (fun b hb => met_R_isSmall  hb) (fun r30 hr30 => ?_)
    refine g_if_eq K (dOf ck_mX12_next rfl rfl) (t := 55) (aJ_of (by decide +kernel)) (fun h31 => ?_) (fun h31 => ?_)
    · refine gl (i' := 56) (fun _ _ => aw_aload_n K (dOf ck_mX12_next rfl rfl) rfl) ?_
      refine gl (i' := 57) (fun _ _ => aw_aload_n K (dOf ck_mX12_next rfl rfl) rfl) ?_
      refine g_callVI K [] rfl (dOf ck_mX12_next rfl rfl) al_OneBreathModel_148 rfl rfl ⟨wd_1281, wd_65⟩ rfl (Nat.le_of_ble_eq_true rfl) ⟨Nat.le_of_ble_eq_true rfl, Nat.le_of_ble_eq_true rfl⟩ (fun b hb => met_R_keyAt  hb) (fun r32 hr32 => ?_)
      refine g_st1 ?_
      refine gl (i' := 59) (fun _ _ => aw_putf K (dOf ck_mX12_next rfl rfl) rfl rfl (Nat.le_of_ble_eq_true rfl) wd_1214 (k := 9) rfl rfl (Or.inl rfl)) ?_
      refine g_goto K (dOf ck_mX12_next rfl rfl).1 (t := 132) (aJ_of (by decide +kernel)) ?_
      exact g_vret K (by decide +kernel) rfl rfl
    · refine gl (i' := 49) (fun _ _ => aw_aload_n K (dOf ck_mX12_next rfl rfl) rfl) ?_
      refine gl (i' := 50) (fun _ _ => aw_dup K rfl (dOf ck_mX12_next rfl rfl)) ?_
      refine gl (i' := 51) (fun _ _ => aw_getf K (dOf ck_mX12_next rfl rfl) rfl rfl (Nat.le_of_ble_eq_true rfl) wd_1212 (k := 7) rfl) ?_
      refine gl (i' := 52) (fun _ _ => aw_iconst K (n := 1) (i32 _ rfl) (dOf ck_mX12_next rfl rfl)) ?_
      refine gl (i' := 53) (fun _ _ => aw_iadd K (dOf ck_mX12_next rfl rfl)) ?_
      refine g_st1 ?_
      refine gl (i' := 54) (fun _ _ => aw_putf K (dOf ck_mX12_next rfl rfl) rfl rfl (Nat.le_of_ble_eq_true rfl) wd_1212 (k := 7) rfl rfl (Or.inl rfl)) ?_
      refine g_goto K (dOf ck_mX12_next rfl rfl).1 (t := 42) (aJ_of (by decide +kernel)) ?_
      refine g_sub [0] rfl ?_
      exact ih _
def R_next_4  : Nat → aM → Option aM
  | 0, _ => none
  | n + 1, mm => (R_see (mm 176 6) mm).bind fun r2 => (if r2 = 10 then (R_next_16 (R_next_4 n) mm) else ((R_see (mm 176 6) mm).bind fun r5 => (if r5 = 32 then (R_next_16 (R_next_4 n) mm) else (st1 (aup mm 176 7 (mm 176 6)) fun mm7 => (if (mm7 176 6) < (mm7 176 8) then ((R_see (mm7 176 6) mm7).bind fun r9 => ((R_isSmall r9 mm7).bind fun r10 => (if r10 = 0 then ((R_see (mm7 176 6) mm7).bind fun r12 => ((R_isDigit r12 mm7).bind fun r13 => (if r13 = 0 then (st1 (aup mm7 176 7 (w32 ((mm7 176 7) + 1))) fun mm15 => ((R_see (mm15 176 6) mm15).bind fun r16 => (if r16 = 59 then (R_next_131 11 mm15) else (R_next_131 13 mm15)))) else (st1 (aup mm7 176 10 0) fun mm19 => (R_next_69 FU mm19))))) else (R_next_42 FU mm7)))) else (st1 (aup mm7 176 9 12) fun mm35 => (some mm35)))))))
set_option maxHeartbeats 4000000 in
theorem lk_R_next_4 {p : Program} {l : Launch} {e : Env} {s : State} {m : MethodId} {args : Array Value} {below : List Frame} {meth : Method} {c : Code} {D : va_G} {cA : FieldType → ClassId} {ad adV : Nat → Nat} {z0 : Nat} {al0 : List Nat} (K : aK p s m args meth c mX12_next D cA ad adV z0)   : ∀ (n : Nat) (mm : aM), aG p l e { frames := 5, cells := 0, slots := 0, locals := 108 } s m args below meth c D cA ad z0 mX12_next al0 rM (R_next_4 n mm) 4 [(0, .inr (.inr (.inl (some 176))))] [] mm := by
  intro n
  induction n with
  | zero => intro mm; exact g_none
  | succ n ih =>
    intro mm
    rw [R_next_4]
    refine gl (i' := 5) (fun _ _ => aw_aload_n K (dOf ck_mX12_next rfl rfl) rfl) ?_
    refine gl (i' := 6) (fun _ _ => aw_aload_n K (dOf ck_mX12_next rfl rfl) rfl) ?_
    refine gl (i' := 7) (fun _ _ => aw_getf K (dOf ck_mX12_next rfl rfl) rfl rfl (Nat.le_of_ble_eq_true rfl) wd_1211 (k := 6) rfl) ?_
    refine g_callVI K [.inl _] rfl (dOf ck_mX12_next rfl rfl) al_OneBreathModel_137 rfl rfl ⟨wd_1275, wd_64⟩ rfl (Nat.le_of_ble_eq_true rfl) ⟨Nat.le_of_ble_eq_true rfl, Nat.le_of_ble_eq_true rfl⟩ (fun b hb => met_R_see  hb) (fun r2 hr2 => ?_)
    refine gl (i' := 9) (fun _ _ => aw_bip K (dOf ck_mX12_next rfl rfl) (v := 10) rfl) ?_
    refine g_icmp_eq K (dOf ck_mX12_next rfl rfl) (t := 16) (aJ_of (by decide +kernel)) (fun h3 => ?_) (fun h3 => ?_)
    · refine g_sub [0] rfl ?_
      exact lk_R_next_16 K _ ih _
    · refine gl (i' := 11) (fun _ _ => aw_aload_n K (dOf ck_mX12_next rfl rfl) rfl) ?_
      refine gl (i' := 12) (fun _ _ => aw_aload_n K (dOf ck_mX12_next rfl rfl) rfl) ?_
      refine gl (i' := 13) (fun _ _ => aw_getf K (dOf ck_mX12_next rfl rfl) rfl rfl (Nat.le_of_ble_eq_true rfl) wd_1211 (k := 6) rfl) ?_
      refine g_callVI K [.inl _] rfl (dOf ck_mX12_next rfl rfl) al_OneBreathModel_137 rfl rfl ⟨wd_1275, wd_64⟩ rfl (Nat.le_of_ble_eq_true rfl) ⟨Nat.le_of_ble_eq_true rfl, Nat.le_of_ble_eq_true rfl⟩ (fun b hb => met_R_see  hb) (fun r5 hr5 => ?_)
      refine gl (i' := 15) (fun _ _ => aw_bip K (dOf ck_mX12_next rfl rfl) (v := 32) rfl) ?_
      refine g_icmp_ne K (dOf ck_mX12_next rfl rfl) (t := 23) (aJ_of (by decide +kernel)) (fun h6 => ?_) (fun h6 => ?_)
      · refine g_sub [0] rfl ?_
        exact lk_R_next_16 K _ ih _
      · refine gl (i' := 24) (fun _ _ => aw_aload_n K (dOf ck_mX12_next rfl rfl) rfl) ?_
        refine gl (i' := 25) (fun _ _ => aw_aload_n K (dOf ck_mX12_next rfl rfl) rfl) ?_
        refine gl (i' := 26) (fun _ _ => aw_getf K (dOf ck_mX12_next rfl rfl) rfl rfl (Nat.le_of_ble_eq_true rfl) wd_1211 (k := 6) rfl) ?_
        refine g_st1 ?_
        refine gl (i' := 27) (fun _ _ => aw_putf K (dOf ck_mX12_next rfl rfl) rfl rfl (Nat.le_of_ble_eq_true rfl) wd_1212 (k := 7) rfl rfl (Or.inl rfl)) ?_
        refine gl (i' := 28) (fun _ _ => aw_aload_n K (dOf ck_mX12_next rfl rfl) rfl) ?_
        refine gl (i' := 29) (fun _ _ => aw_getf K (dOf ck_mX12_next rfl rfl) rfl rfl (Nat.le_of_ble_eq_true rfl) wd_1211 (k := 6) rfl) ?_
        refine gl (i' := 30) (fun _ _ => aw_aload_n K (dOf ck_mX12_next rfl rfl) rfl) ?_
        refine gl (i' := 31) (fun _ _ => aw_getf K (dOf ck_mX12_next rfl rfl) rfl rfl (Nat.le_of_ble_eq_true rfl) wd_1213 (k := 8) rfl) ?_
        refine g_icmp_lt K (dOf ck_mX12_next rfl rfl) (t := 36) (aJ_of (by decide +kernel)) (fun h8 => ?_) (fun h8 => ?_)
        · refine gl (i' := 37) (fun _ _ => aw_aload_n K (dOf ck_mX12_next rfl rfl) rfl) ?_
          refine gl (i' := 38) (fun _ _ => aw_aload_n K (dOf ck_mX12_next rfl rfl) rfl) ?_
          refine gl (i' := 39) (fun _ _ => aw_getf K (dOf ck_mX12_next rfl rfl) rfl rfl (Nat.le_of_ble_eq_true rfl) wd_1211 (k := 6) rfl) ?_
          refine g_callVI K [.inl _] rfl (dOf ck_mX12_next rfl rfl) al_OneBreathModel_137 rfl rfl ⟨wd_1275, wd_64⟩ rfl (Nat.le_of_ble_eq_true rfl) ⟨Nat.le_of_ble_eq_true rfl, Nat.le_of_ble_eq_true rfl⟩ (fun b hb => met_R_see  hb) (fun r9 hr9 => ?_)
          refine g_callSI K [.inl _] rfl (dOf ck_mX12_next rfl rfl) al_OneBreathModel_144 wd_1278 rfl (Nat.le_of_ble_eq_true rfl) ⟨Nat.le_of_ble_eq_true rfl, Nat.le_of_ble_eq_true rfl⟩ (fun b hb => met_R_isSmall  hb) (fun r10 hr10 => ?_)
          refine g_if_eq K (dOf ck_mX12_next rfl rfl) (t := 60) (aJ_of (by decide +kernel)) (fun h11 => ?_) (fun h11 => ?_)
          · refine gl (i' := 61) (fun _ _ => aw_aload_n K (dOf ck_mX12_next rfl rfl) rfl) ?_
            refine gl (i' := 62) (fun _ _ => aw_aload_n K (dOf ck_mX12_next rfl rfl) rfl) ?_
            refine gl (i' := 63) (fun _ _ => aw_getf K (dOf ck_mX12_next rfl rfl) rfl rfl (Nat.le_of_ble_eq_true rfl) wd_1211 (k := 6) rfl) ?_
            refine g_callVI K [.inl _] rfl (dOf ck_mX12_next rfl rfl) al_OneBreathModel_137 rfl rfl ⟨wd_1275, wd_64⟩ rfl (Nat.le_of_ble_eq_true rfl) ⟨Nat.le_of_ble_eq_true rfl, Nat.le_of_ble_eq_true rfl⟩ (fun b hb => met_R_see  hb) (fun r12 hr12 => ?_)
            refine g_callSI K [.inl _] rfl (dOf ck_mX12_next rfl rfl) al_OneBreathModel_151 wd_1286 rfl (Nat.le_of_ble_eq_true rfl) ⟨Nat.le_of_ble_eq_true rfl, Nat.le_of_ble_eq_true rfl⟩ (fun b hb => met_R_isDigit  hb) (fun r13 hr13 => ?_)
            refine g_if_eq K (dOf ck_mX12_next rfl rfl) (t := 115) (aJ_of (by decide +kernel)) (fun h14 => ?_) (fun h14 => ?_)
            · refine gl (i' := 116) (fun _ _ => aw_aload_n K (dOf ck_mX12_next rfl rfl) rfl) ?_
              refine gl (i' := 117) (fun _ _ => aw_dup K rfl (dOf ck_mX12_next rfl rfl)) ?_
              refine gl (i' := 118) (fun _ _ => aw_getf K (dOf ck_mX12_next rfl rfl) rfl rfl (Nat.le_of_ble_eq_true rfl) wd_1212 (k := 7) rfl) ?_
              refine gl (i' := 119) (fun _ _ => aw_iconst K (n := 1) (i32 _ rfl) (dOf ck_mX12_next rfl rfl)) ?_
              refine gl (i' := 120) (fun _ _ => aw_iadd K (dOf ck_mX12_next rfl rfl)) ?_
              refine g_st1 ?_
              refine gl (i' := 121) (fun _ _ => aw_putf K (dOf ck_mX12_next rfl rfl) rfl rfl (Nat.le_of_ble_eq_true rfl) wd_1212 (k := 7) rfl rfl (Or.inl rfl)) ?_
              refine gl (i' := 122) (fun _ _ => aw_aload_n K (dOf ck_mX12_next rfl rfl) rfl) ?_
              refine gl (i' := 123) (fun _ _ => aw_aload_n K (dOf ck_mX12_next rfl rfl) rfl) ?_
              refine gl (i' := 124) (fun _ _ => aw_aload_n K (dOf ck_mX12_next rfl rfl) rfl) ?_
              refine gl (i' := 125) (fun _ _ => aw_getf K (dOf ck_mX12_next rfl rfl) rfl rfl (Nat.le_of_ble_eq_true rfl) wd_1211 (k := 6) rfl) ?_
              refine g_callVI K [.inl _] rfl (dOf ck_mX12_next rfl rfl) al_OneBreathModel_137 rfl rfl ⟨wd_1275, wd_64⟩ rfl (Nat.le_of_ble_eq_true rfl) ⟨Nat.le_of_ble_eq_true rfl, Nat.le_of_ble_eq_true rfl⟩ (fun b hb => met_R_see  hb) (fun r16 hr16 => ?_)
              refine gl (i' := 127) (fun _ _ => aw_bip K (dOf ck_mX12_next rfl rfl) (v := 59) rfl) ?_
              refine g_icmp_ne K (dOf ck_mX12_next rfl rfl) (t := 130) (aJ_of (by decide +kernel)) (fun h17 => ?_) (fun h17 => ?_)
              · refine gl (i' := 129) (fun _ _ => aw_bip K (dOf ck_mX12_next rfl rfl) (v := 11) rfl) ?_
                refine g_goto K (dOf ck_mX12_next rfl rfl).1 (t := 131) (aJ_of (by decide +kernel)) ?_
                refine g_sub [] rfl ?_
                exact lk_R_next_131 K _ _
              · refine gl (i' := 131) (fun _ _ => aw_bip K (dOf ck_mX12_next rfl rfl) (v := 13) rfl) ?_
                refine g_sub [] rfl ?_
                exact lk_R_next_131 K _ _
            · refine gl (i' := 67) (fun _ _ => aw_aload_n K (dOf ck_mX12_next rfl rfl) rfl) ?_
              refine gl (i' := 68) (fun _ _ => aw_iconst K (n := 0) (i32 _ rfl) (dOf ck_mX12_next rfl rfl)) ?_
              refine g_st1 ?_
              refine gl (i' := 69) (fun _ _ => aw_putf K (dOf ck_mX12_next rfl rfl) rfl rfl (Nat.le_of_ble_eq_true rfl) wd_1215 (k := 10) rfl rfl (Or.inl rfl)) ?_
              refine g_sub [0] rfl ?_
              exact lk_R_next_69 K FU _
          · refine g_sub [0] rfl ?_
            exact lk_R_next_42 K FU _
        · refine gl (i' := 33) (fun _ _ => aw_aload_n K (dOf ck_mX12_next rfl rfl) rfl) ?_
          refine gl (i' := 34) (fun _ _ => aw_bip K (dOf ck_mX12_next rfl rfl) (v := 12) rfl) ?_
          refine g_st1 ?_
          refine gl (i' := 35) (fun _ _ => aw_putf K (dOf ck_mX12_next rfl rfl) rfl rfl (Nat.le_of_ble_eq_true rfl) wd_1214 (k := 9) rfl rfl (Or.inl rfl)) ?_
          refine g_goto K (dOf ck_mX12_next rfl rfl).1 (t := 132) (aJ_of (by decide +kernel)) ?_
          exact g_vret K (by decide +kernel) rfl rfl
def R_next  (mm : aM) : Option aM := st1 (aup mm 176 6 (mm 176 7)) fun mm1 => (R_next_4 FU mm1)
set_option maxHeartbeats 4000000 in
theorem met_R_next {l : Launch} {D : va_G} {cA : FieldType → ClassId} {ad adV : Nat → Nat} {z0 : Nat}  {mm : aM}  {r : aM} (h : R_next  mm = some r) : aMet l D cA ad adV z0 mX12_next 5 108 0 0 [.inr (.inr (.inl (some 176)))] SH mm (rM r).1 SH (rM r).2 := by
  refine aMet_ofG (by decide +kernel) rfl (Nat.le_of_ble_eq_true rfl) h (fun p e s m args below meth c al0 K => ?_)
  unfold R_next
  refine gl (i' := 1) (fun _ _ => aw_aload_n K (dOf ck_mX12_next rfl rfl) rfl) ?_
  refine gl (i' := 2) (fun _ _ => aw_aload_n K (dOf ck_mX12_next rfl rfl) rfl) ?_
  refine gl (i' := 3) (fun _ _ => aw_getf K (dOf ck_mX12_next rfl rfl) rfl rfl (Nat.le_of_ble_eq_true rfl) wd_1212 (k := 7) rfl) ?_
  refine g_st1 ?_
  refine gl (i' := 4) (fun _ _ => aw_putf K (dOf ck_mX12_next rfl rfl) rfl rfl (Nat.le_of_ble_eq_true rfl) wd_1211 (k := 6) rfl rfl (Or.inl rfl)) ?_
  refine g_sub [0] rfl ?_
  exact lk_R_next_4 K FU _
def R_is (x1 : Int) (mm : aM) : Option Int := if (mm 176 11) = 0 then (if (mm 176 9) = x1 then (some 1) else (some 0)) else (some 0)
set_option maxHeartbeats 4000000 in
theorem met_R_is {l : Launch} {D : va_G} {cA : FieldType → ClassId} {ad adV : Nat → Nat} {z0 : Nat} {x1 : Int} {mm : aM}  {r : Int} (h : R_is x1 mm = some r) : aMet l D cA ad adV z0 mX12_is 0 0 0 0 [.inr (.inr (.inl (some 176))), .inl x1] SH mm ((rI mm) r).1 SH ((rI mm) r).2 := by
  refine aMet_ofG (by decide +kernel) rfl (Nat.le_of_ble_eq_true rfl) h (fun p e s m args below meth c al0 K => ?_)
  unfold R_is
  refine gl (i' := 1) (fun _ _ => aw_aload_n K (dOf ck_mX12_is rfl rfl) rfl) ?_
  refine gl (i' := 2) (fun _ _ => aw_getf K (dOf ck_mX12_is rfl rfl) rfl rfl (Nat.le_of_ble_eq_true rfl) wd_1216 (k := 11) rfl) ?_
  refine g_if_ne K (dOf ck_mX12_is rfl rfl) (t := 9) (aJ_of (by decide +kernel)) (fun h1 => ?_) (fun h1 => ?_)
  · refine gl (i' := 4) (fun _ _ => aw_aload_n K (dOf ck_mX12_is rfl rfl) rfl) ?_
    refine gl (i' := 5) (fun _ _ => aw_getf K (dOf ck_mX12_is rfl rfl) rfl rfl (Nat.le_of_ble_eq_true rfl) wd_1214 (k := 9) rfl) ?_
    refine gl (i' := 6) (fun _ _ => aw_iload_n K (dOf ck_mX12_is rfl rfl) rfl) ?_
    refine g_icmp_ne K (dOf ck_mX12_is rfl rfl) (t := 9) (aJ_of (by decide +kernel)) (fun h2 => ?_) (fun h2 => ?_)
    · refine gl (i' := 8) (fun _ _ => aw_iconst K (n := 1) (i32 _ rfl) (dOf ck_mX12_is rfl rfl)) ?_
      refine g_goto K (dOf ck_mX12_is rfl rfl).1 (t := 10) (aJ_of (by decide +kernel)) ?_
      exact g_iret K (by decide +kernel) rfl (Or.inr (Or.inl ⟨rfl, Or.inr rfl⟩)) rfl
    · refine gl (i' := 10) (fun _ _ => aw_iconst K (n := 0) (i32 _ rfl) (dOf ck_mX12_is rfl rfl)) ?_
      exact g_iret K (by decide +kernel) rfl (Or.inr (Or.inl ⟨rfl, Or.inl rfl⟩)) rfl
  · refine gl (i' := 10) (fun _ _ => aw_iconst K (n := 0) (i32 _ rfl) (dOf ck_mX12_is rfl rfl)) ?_
    exact g_iret K (by decide +kernel) rfl (Or.inr (Or.inl ⟨rfl, Or.inl rfl⟩)) rfl
def R_fails_12 (s0 : Int) (mm : aM) : Option aM := st1 (aup mm 176 11 s0) fun mm3 => (st1 (aup mm3 176 12 (mm3 176 6)) fun mm4 => (some mm4))
set_option maxHeartbeats 4000000 in
theorem lk_R_fails_12 {p : Program} {l : Launch} {e : Env} {s : State} {m : MethodId} {args : Array Value} {below : List Frame} {meth : Method} {c : Code} {D : va_G} {cA : FieldType → ClassId} {ad adV : Nat → Nat} {z0 : Nat} {al0 : List Nat} (K : aK p s m args meth c mX12_fails D cA ad adV z0)   (s0 : Int) (mm : aM) : aG p l e { frames := 0, cells := 0, slots := 0, locals := 0 } s m args below meth c D cA ad z0 mX12_fails al0 rM (R_fails_12 s0 mm) 12 [(0, .inr (.inr (.inl (some 176))))] [.inl s0, .inr (.inr (.inl (some 176)))] mm := by
  unfold R_fails_12
  refine g_st1 ?_
  refine gl (i' := 13) (fun _ _ => aw_putf K (dOf ck_mX12_fails rfl rfl) rfl rfl (Nat.le_of_ble_eq_true rfl) wd_1216 (k := 11) rfl rfl (Or.inl rfl)) ?_
  refine gl (i' := 14) (fun _ _ => aw_aload_n K (dOf ck_mX12_fails rfl rfl) rfl) ?_
  refine gl (i' := 15) (fun _ _ => aw_aload_n K (dOf ck_mX12_fails rfl rfl) rfl) ?_
  refine gl (i' := 16) (fun _ _ => aw_getf K (dOf ck_mX12_fails rfl rfl) rfl rfl (Nat.le_of_ble_eq_true rfl) wd_1211 (k := 6) rfl) ?_
  refine g_st1 ?_
  refine gl (i' := 17) (fun _ _ => aw_putf K (dOf ck_mX12_fails rfl rfl) rfl rfl (Nat.le_of_ble_eq_true rfl) wd_1217 (k := 12) rfl rfl (Or.inl rfl)) ?_
  exact g_vret K (by decide +kernel) rfl rfl
def R_fails (x1 : Int) (mm : aM) : Option aM := if (mm 176 11) = 0 then (if (mm 176 9) = 13 then (R_fails_12 1 mm) else (R_fails_12 x1 mm)) else (some mm)
set_option maxHeartbeats 4000000 in
theorem met_R_fails {l : Launch} {D : va_G} {cA : FieldType → ClassId} {ad adV : Nat → Nat} {z0 : Nat} {x1 : Int} {mm : aM}  {r : aM} (h : R_fails x1 mm = some r) : aMet l D cA ad adV z0 mX12_fails 0 0 0 0 [.inr (.inr (.inl (some 176))), .inl x1] SH mm (rM r).1 SH (rM r).2 := by
  refine aMet_ofG (by decide +kernel) rfl (Nat.le_of_ble_eq_true rfl) h (fun p e s m args below meth c al0 K => ?_)
  unfold R_fails
  refine gl (i' := 1) (fun _ _ => aw_aload_n K (dOf ck_mX12_fails rfl rfl) rfl) ?_
  refine gl (i' := 2) (fun _ _ => aw_getf K (dOf ck_mX12_fails rfl rfl) rfl rfl (Nat.le_of_ble_eq_true rfl) wd_1216 (k := 11) rfl) ?_
  refine g_if_eq K (dOf ck_mX12_fails rfl rfl) (t := 4) (aJ_of (by decide +kernel)) (fun h1 => ?_) (fun h1 => ?_)
  · refine gl (i' := 5) (fun _ _ => aw_aload_n K (dOf ck_mX12_fails rfl rfl) rfl) ?_
    refine gl (i' := 6) (fun _ _ => aw_aload_n K (dOf ck_mX12_fails rfl rfl) rfl) ?_
    refine gl (i' := 7) (fun _ _ => aw_getf K (dOf ck_mX12_fails rfl rfl) rfl rfl (Nat.le_of_ble_eq_true rfl) wd_1214 (k := 9) rfl) ?_
    refine gl (i' := 8) (fun _ _ => aw_bip K (dOf ck_mX12_fails rfl rfl) (v := 13) rfl) ?_
    refine g_icmp_ne K (dOf ck_mX12_fails rfl rfl) (t := 11) (aJ_of (by decide +kernel)) (fun h2 => ?_) (fun h2 => ?_)
    · refine gl (i' := 10) (fun _ _ => aw_iconst K (n := 1) (i32 _ rfl) (dOf ck_mX12_fails rfl rfl)) ?_
      refine g_goto K (dOf ck_mX12_fails rfl rfl).1 (t := 12) (aJ_of (by decide +kernel)) ?_
      refine g_sub [0] rfl ?_
      exact lk_R_fails_12 K _ _
    · refine gl (i' := 12) (fun _ _ => aw_iload_n K (dOf ck_mX12_fails rfl rfl) rfl) ?_
      refine g_sub [0] rfl ?_
      exact lk_R_fails_12 K _ _
  · exact g_vret K (dOf ck_mX12_fails rfl rfl).1 rfl rfl
def R_isLetters_29 (mm : aM) : Option (Int × aM) := if (mm 176 11) = 0 then (some (1, mm)) else (some (0, mm))
set_option maxHeartbeats 4000000 in
theorem lk_R_isLetters_29 {p : Program} {l : Launch} {e : Env} {s : State} {m : MethodId} {args : Array Value} {below : List Frame} {meth : Method} {c : Code} {D : va_G} {cA : FieldType → ClassId} {ad adV : Nat → Nat} {z0 : Nat} {al0 : List Nat} (K : aK p s m args meth c mX12_isLetters D cA ad adV z0)   (mm : aM) : aG p l e { frames := 1, cells := 0, slots := 0, locals := 25 } s m args below meth c D cA ad z0 mX12_isLetters al0 rIM (R_isLetters_29 mm) 29 [(0, .inr (.inr (.inl (some 176))))] [] mm := by
  unfold R_isLetters_29
  refine gl (i' := 30) (fun _ _ => aw_aload_n K (dOf ck_mX12_isLetters rfl rfl) rfl) ?_
  refine gl (i' := 31) (fun _ _ => aw_getf K (dOf ck_mX12_isLetters rfl rfl) rfl rfl (Nat.le_of_ble_eq_true rfl) wd_1216 (k := 11) rfl) ?_
  refine g_if_ne K (dOf ck_mX12_isLetters rfl rfl) (t := 34) (aJ_of (by decide +kernel)) (fun h5 => ?_) (fun h5 => ?_)
  · refine gl (i' := 33) (fun _ _ => aw_iconst K (n := 1) (i32 _ rfl) (dOf ck_mX12_isLetters rfl rfl)) ?_
    refine g_goto K (dOf ck_mX12_isLetters rfl rfl).1 (t := 35) (aJ_of (by decide +kernel)) ?_
    exact g_iret K (by decide +kernel) rfl (Or.inr (Or.inl ⟨rfl, Or.inr rfl⟩)) rfl
  · refine gl (i' := 35) (fun _ _ => aw_iconst K (n := 0) (i32 _ rfl) (dOf ck_mX12_isLetters rfl rfl)) ?_
    exact g_iret K (by decide +kernel) rfl (Or.inr (Or.inl ⟨rfl, Or.inl rfl⟩)) rfl
def R_isLetters (x1 : Int) (x2 : Int) (mm : aM) : Option (Int × aM) := if (mm 176 11) = 0 then (if 9 < (mm 176 9) then ((R_fails 2 mm).bind fun r7 => (some (0, r7))) else ((R_within (w32 ((mm 176 7) - (mm 176 6))) x1 x2 mm).bind fun r3 => (if r3 = 0 then ((R_fails 3 mm).bind fun r6 => (R_isLetters_29 r6)) else (R_isLetters_29 mm)))) else (some (0, mm))
set_option maxHeartbeats 4000000 in
theorem met_R_isLetters {l : Launch} {D : va_G} {cA : FieldType → ClassId} {ad adV : Nat → Nat} {z0 : Nat} {x1 : Int} {x2 : Int} {mm : aM}  {r : Int × aM} (h : R_isLetters x1 x2 mm = some r) : aMet l D cA ad adV z0 mX12_isLetters 1 25 0 0 [.inr (.inr (.inl (some 176))), .inl x1, .inl x2] SH mm (rIM r).1 SH (rIM r).2 := by
  refine aMet_ofG (by decide +kernel) rfl (Nat.le_of_ble_eq_true rfl) h (fun p e s m args below meth c al0 K => ?_)
  unfold R_isLetters
  refine gl (i' := 1) (fun _ _ => aw_aload_n K (dOf ck_mX12_isLetters rfl rfl) rfl) ?_
  refine gl (i' := 2) (fun _ _ => aw_getf K (dOf ck_mX12_isLetters rfl rfl) rfl rfl (Nat.le_of_ble_eq_true rfl) wd_1216 (k := 11) rfl) ?_
  refine g_if_eq K (dOf ck_mX12_isLetters rfl rfl) (t := 5) (aJ_of (by decide +kernel)) (fun h1 => ?_) (fun h1 => ?_)
  · refine gl (i' := 6) (fun _ _ => aw_aload_n K (dOf ck_mX12_isLetters rfl rfl) rfl) ?_
    refine gl (i' := 7) (fun _ _ => aw_getf K (dOf ck_mX12_isLetters rfl rfl) rfl rfl (Nat.le_of_ble_eq_true rfl) wd_1214 (k := 9) rfl) ?_
    refine gl (i' := 8) (fun _ _ => aw_bip K (dOf ck_mX12_isLetters rfl rfl) (v := 9) rfl) ?_
    refine g_icmp_le K (dOf ck_mX12_isLetters rfl rfl) (t := 14) (aJ_of (by decide +kernel)) (fun h2 => ?_) (fun h2 => ?_)
    · refine gl (i' := 10) (fun _ _ => aw_aload_n K (dOf ck_mX12_isLetters rfl rfl) rfl) ?_
      refine gl (i' := 11) (fun _ _ => aw_iconst K (n := 2) (i32 _ rfl) (dOf ck_mX12_isLetters rfl rfl)) ?_
      refine g_callVM K [.inl _] rfl (dOf ck_mX12_isLetters rfl rfl) al_OneBreathModel_172 rfl rfl ⟨wd_1298, wd_69⟩ rfl (Nat.le_of_ble_eq_true rfl) ⟨Nat.le_of_ble_eq_true rfl, Nat.le_of_ble_eq_true rfl⟩ (fun b hb => met_R_fails  hb) (fun r7 hr7 => ?_)
      refine gl (i' := 13) (fun _ _ => aw_iconst K (n := 0) (i32 _ rfl) (dOf ck_mX12_isLetters rfl rfl)) ?_
      exact g_iret K (dOf ck_mX12_isLetters rfl rfl).1 rfl (Or.inr (Or.inl ⟨rfl, Or.inl rfl⟩)) rfl
    · refine gl (i' := 15) (fun _ _ => aw_aload_n K (dOf ck_mX12_isLetters rfl rfl) rfl) ?_
      refine gl (i' := 16) (fun _ _ => aw_getf K (dOf ck_mX12_isLetters rfl rfl) rfl rfl (Nat.le_of_ble_eq_true rfl) wd_1212 (k := 7) rfl) ?_
      refine gl (i' := 17) (fun _ _ => aw_aload_n K (dOf ck_mX12_isLetters rfl rfl) rfl) ?_
      refine gl (i' := 18) (fun _ _ => aw_getf K (dOf ck_mX12_isLetters rfl rfl) rfl rfl (Nat.le_of_ble_eq_true rfl) wd_1211 (k := 6) rfl) ?_
      refine gl (i' := 19) (fun _ _ => aw_isub K (dOf ck_mX12_isLetters rfl rfl)) ?_
      refine gl (i' := 20) (fun _ _ => aw_i2l K (dOf ck_mX12_isLetters rfl rfl)) ?_
      refine gl (i' := 21) (fun _ _ => aw_iload_n K (dOf ck_mX12_isLetters rfl rfl) rfl) ?_
      refine gl (i' := 22) (fun _ _ => aw_i2l K (dOf ck_mX12_isLetters rfl rfl)) ?_
      refine gl (i' := 23) (fun _ _ => aw_iload_n K (dOf ck_mX12_isLetters rfl rfl) rfl) ?_
      refine gl (i' := 24) (fun _ _ => aw_i2l K (dOf ck_mX12_isLetters rfl rfl)) ?_
      refine g_callSI K [.inr (.inl _), .inr (.inl _), .inr (.inl _)] rfl (dOf ck_mX12_isLetters rfl rfl) al_OneBreathModel_176 wd_1269 rfl (Nat.le_of_ble_eq_true rfl) ⟨Nat.le_of_ble_eq_true rfl, Nat.le_of_ble_eq_true rfl⟩ (fun b hb => met_R_within  hb) (fun r3 hr3 => ?_)
      refine g_if_ne K (dOf ck_mX12_isLetters rfl rfl) (t := 29) (aJ_of (by decide +kernel)) (fun h4 => ?_) (fun h4 => ?_)
      · refine gl (i' := 27) (fun _ _ => aw_aload_n K (dOf ck_mX12_isLetters rfl rfl) rfl) ?_
        refine gl (i' := 28) (fun _ _ => aw_iconst K (n := 3) (i32 _ rfl) (dOf ck_mX12_isLetters rfl rfl)) ?_
        refine g_callVM K [.inl _] rfl (dOf ck_mX12_isLetters rfl rfl) al_OneBreathModel_172 rfl rfl ⟨wd_1298, wd_69⟩ rfl (Nat.le_of_ble_eq_true rfl) ⟨Nat.le_of_ble_eq_true rfl, Nat.le_of_ble_eq_true rfl⟩ (fun b hb => met_R_fails  hb) (fun r6 hr6 => ?_)
        refine g_sub [0] rfl ?_
        exact lk_R_isLetters_29 K _
      · refine g_sub [0] rfl ?_
        exact lk_R_isLetters_29 K _
  · refine gl (i' := 4) (fun _ _ => aw_iconst K (n := 0) (i32 _ rfl) (dOf ck_mX12_isLetters rfl rfl)) ?_
    exact g_iret K (dOf ck_mX12_isLetters rfl rfl).1 rfl (Or.inr (Or.inl ⟨rfl, Or.inl rfl⟩)) rfl
def R_isTwice_10 (mm : aM) (k3 : Int → Option Int) (x1 : Int) : Nat → Int → Option Int
  | 0, _ => none
  | n + 1, x2 => if x2 < x1 then (if 0 ≤ x2 ∧ x2 < 500 then (if 0 ≤ x1 ∧ x1 < 500 then (if (mm 179 x2.toNat) = (mm 179 x1.toNat) then (some 1) else (R_isTwice_10 mm k3 x1 n (w32 (x2 + 1)))) else none) else none) else (k3 (w32 (x1 + 1)))
set_option maxHeartbeats 4000000 in
theorem lk_R_isTwice_10 {p : Program} {l : Launch} {e : Env} {s : State} {m : MethodId} {args : Array Value} {below : List Frame} {meth : Method} {c : Code} {D : va_G} {cA : FieldType → ClassId} {ad adV : Nat → Nat} {z0 : Nat} {al0 : List Nat} {mm : aM} (K : aK p s m args meth c mX12_isTwice D cA ad adV z0) (x1 : Int) (k3 : Int → Option Int) (hk3 : ∀ (x1 : Int), aG p l e { frames := 0, cells := 0, slots := 0, locals := 0 } s m args below meth c D cA ad z0 mX12_isTwice al0 (rI mm) (k3 x1) 3 [(0, .inr (.inr (.inl (some 176)))), (1, .inl x1)] [] mm)  : ∀ (n : Nat) (x2 : Int), aG p l e { frames := 0, cells := 0, slots := 0, locals := 0 } s m args below meth c D cA ad z0 mX12_isTwice al0 (rI mm) (R_isTwice_10 mm k3 x1 n x2) 10 [(0, .inr (.inr (.inl (some 176)))), (1, .inl x1), (2, .inl x2)] [] mm := by
  intro n
  induction n with
  | zero => intro x2; exact g_none
  | succ n ih =>
    intro x2
    rw [R_isTwice_10]
    refine gl (i' := 11) (fun _ _ => aw_iload_n K (dOf ck_mX12_isTwice rfl rfl) rfl) ?_
    refine gl (i' := 12) (fun _ _ => aw_iload_n K (dOf ck_mX12_isTwice rfl rfl) rfl) ?_
    refine g_icmp_ge K (dOf ck_mX12_isTwice rfl rfl) (t := 26) (aJ_of (by decide +kernel)) (fun h2 => ?_) (fun h2 => ?_)
    · refine gl (i' := 14) (fun _ _ => aw_aload_n K (dOf ck_mX12_isTwice rfl rfl) rfl) ?_
      refine gl (i' := 15) (fun _ _ => aw_getf K (dOf ck_mX12_isTwice rfl rfl) rfl rfl (Nat.le_of_ble_eq_true rfl) wd_1208 (k := 3) rfl) ?_
      refine gl (i' := 16) (fun _ _ => aw_iload_n K (dOf ck_mX12_isTwice rfl rfl) rfl) ?_
      refine g_gd (fun hb3 => ?_)
      refine gl (i' := 17) (fun _ _ => aw_iald K (dOf ck_mX12_isTwice rfl rfl) rfl hb3) ?_
      refine gl (i' := 18) (fun _ _ => aw_aload_n K (dOf ck_mX12_isTwice rfl rfl) rfl) ?_
      refine gl (i' := 19) (fun _ _ => aw_getf K (dOf ck_mX12_isTwice rfl rfl) rfl rfl (Nat.le_of_ble_eq_true rfl) wd_1208 (k := 3) rfl) ?_
      refine gl (i' := 20) (fun _ _ => aw_iload_n K (dOf ck_mX12_isTwice rfl rfl) rfl) ?_
      refine g_gd (fun hb4 => ?_)
      refine gl (i' := 21) (fun _ _ => aw_iald K (dOf ck_mX12_isTwice rfl rfl) rfl hb4) ?_
      refine g_icmp_ne K (dOf ck_mX12_isTwice rfl rfl) (t := 24) (aJ_of (by decide +kernel)) (fun h5 => ?_) (fun h5 => ?_)
      · refine gl (i' := 23) (fun _ _ => aw_iconst K (n := 1) (i32 _ rfl) (dOf ck_mX12_isTwice rfl rfl)) ?_
        exact g_iret K (dOf ck_mX12_isTwice rfl rfl).1 rfl (Or.inr (Or.inl ⟨rfl, Or.inr rfl⟩)) rfl
      · refine gl (i' := 25) (fun _ _ => aw_iinc K (dOf ck_mX12_isTwice rfl rfl) (Nat.le_of_ble_eq_true rfl) rfl) ?_
        refine g_lv (lv' := [(2, .inl _), (0, .inr (.inr (.inl (some _)))), (1, .inl _)]) rfl ?_
        refine g_goto K (dOf ck_mX12_isTwice rfl rfl).1 (t := 10) (aJ_of (by decide +kernel)) ?_
        refine g_sub [1, 2, 0] rfl ?_
        exact ih _
    · refine gl (i' := 27) (fun _ _ => aw_iinc K (dOf ck_mX12_isTwice rfl rfl) (Nat.le_of_ble_eq_true rfl) rfl) ?_
      refine g_lv (lv' := [(1, .inl _), (0, .inr (.inr (.inl (some _)))), (2, .inl _)]) rfl ?_
      refine g_goto K (dOf ck_mX12_isTwice rfl rfl).1 (t := 3) (aJ_of (by decide +kernel)) ?_
      refine g_sub [1, 0] rfl ?_
      exact hk3 _
def R_isTwice_3 (mm : aM) : Nat → Int → Option Int
  | 0, _ => none
  | n + 1, x1 => if x1 < (mm 176 7) then (R_isTwice_10 mm (R_isTwice_3 mm n) x1 FU (mm 176 6)) else (some 0)
set_option maxHeartbeats 4000000 in
theorem lk_R_isTwice_3 {p : Program} {l : Launch} {e : Env} {s : State} {m : MethodId} {args : Array Value} {below : List Frame} {meth : Method} {c : Code} {D : va_G} {cA : FieldType → ClassId} {ad adV : Nat → Nat} {z0 : Nat} {al0 : List Nat} {mm : aM} (K : aK p s m args meth c mX12_isTwice D cA ad adV z0)   : ∀ (n : Nat) (x1 : Int), aG p l e { frames := 0, cells := 0, slots := 0, locals := 0 } s m args below meth c D cA ad z0 mX12_isTwice al0 (rI mm) (R_isTwice_3 mm n x1) 3 [(0, .inr (.inr (.inl (some 176)))), (1, .inl x1)] [] mm := by
  intro n
  induction n with
  | zero => intro x1; exact g_none
  | succ n ih =>
    intro x1
    rw [R_isTwice_3]
    refine gl (i' := 4) (fun _ _ => aw_iload_n K (dOf ck_mX12_isTwice rfl rfl) rfl) ?_
    refine gl (i' := 5) (fun _ _ => aw_aload_n K (dOf ck_mX12_isTwice rfl rfl) rfl) ?_
    refine gl (i' := 6) (fun _ _ => aw_getf K (dOf ck_mX12_isTwice rfl rfl) rfl rfl (Nat.le_of_ble_eq_true rfl) wd_1212 (k := 7) rfl) ?_
    refine g_icmp_ge K (dOf ck_mX12_isTwice rfl rfl) (t := 28) (aJ_of (by decide +kernel)) (fun h1 => ?_) (fun h1 => ?_)
    · refine gl (i' := 8) (fun _ _ => aw_aload_n K (dOf ck_mX12_isTwice rfl rfl) rfl) ?_
      refine gl (i' := 9) (fun _ _ => aw_getf K (dOf ck_mX12_isTwice rfl rfl) rfl rfl (Nat.le_of_ble_eq_true rfl) wd_1211 (k := 6) rfl) ?_
      refine gl (i' := 10) (fun _ _ => aw_istore_n K (dOf ck_mX12_isTwice rfl rfl) (Nat.le_of_ble_eq_true rfl)) ?_
      refine g_lv (lv' := [(2, .inl _), (0, .inr (.inr (.inl (some _)))), (1, .inl _)]) rfl ?_
      refine g_sub [1, 2, 0] rfl ?_
      exact lk_R_isTwice_10 K _ _ ih FU _
    · refine gl (i' := 29) (fun _ _ => aw_iconst K (n := 0) (i32 _ rfl) (dOf ck_mX12_isTwice rfl rfl)) ?_
      exact g_iret K (by decide +kernel) rfl (Or.inr (Or.inl ⟨rfl, Or.inl rfl⟩)) rfl
def R_isTwice  (mm : aM) : Option Int := R_isTwice_3 mm FU (mm 176 6)
set_option maxHeartbeats 4000000 in
theorem met_R_isTwice {l : Launch} {D : va_G} {cA : FieldType → ClassId} {ad adV : Nat → Nat} {z0 : Nat}  {mm : aM}  {r : Int} (h : R_isTwice  mm = some r) : aMet l D cA ad adV z0 mX12_isTwice 0 0 0 0 [.inr (.inr (.inl (some 176)))] SH mm ((rI mm) r).1 SH ((rI mm) r).2 := by
  refine aMet_ofG (by decide +kernel) rfl (Nat.le_of_ble_eq_true rfl) h (fun p e s m args below meth c al0 K => ?_)
  unfold R_isTwice
  refine gl (i' := 1) (fun _ _ => aw_aload_n K (dOf ck_mX12_isTwice rfl rfl) rfl) ?_
  refine gl (i' := 2) (fun _ _ => aw_getf K (dOf ck_mX12_isTwice rfl rfl) rfl rfl (Nat.le_of_ble_eq_true rfl) wd_1211 (k := 6) rfl) ?_
  refine gl (i' := 3) (fun _ _ => aw_istore_n K (dOf ck_mX12_isTwice rfl rfl) (Nat.le_of_ble_eq_true rfl)) ?_
  refine g_lv (lv' := [(1, .inl _), (0, .inr (.inr (.inl (some _))))]) rfl ?_
  refine g_sub [1, 0] rfl ?_
  exact lk_R_isTwice_3 K FU _
def R_readSounds_42  : Nat → Int → aM → Option aM
  | 0, _, _ => none
  | n + 1, x1, mm => if x1 < (mm 176 7) then (if 0 ≤ x1 ∧ x1 < 500 then (if 0 ≤ (w32 ((w32 (1 + x1)) - (mm 176 6))) ∧ (w32 ((w32 (1 + x1)) - (mm 176 6))) < 155 then (st1 (aup mm 180 (w32 ((w32 (1 + x1)) - (mm 176 6))).toNat (mm 179 x1.toNat)) fun mm14 => (R_readSounds_42 n (w32 (x1 + 1)) mm14)) else none) else none) else ((R_next mm).bind fun r11 => (some r11))
set_option maxHeartbeats 4000000 in
theorem lk_R_readSounds_42 {p : Program} {l : Launch} {e : Env} {s : State} {m : MethodId} {args : Array Value} {below : List Frame} {meth : Method} {c : Code} {D : va_G} {cA : FieldType → ClassId} {ad adV : Nat → Nat} {z0 : Nat} {al0 : List Nat} (K : aK p s m args meth c mX12_readSounds D cA ad adV z0)   : ∀ (n : Nat) (x1 : Int) (mm : aM), aG p l e { frames := 6, cells := 0, slots := 0, locals := 128 } s m args below meth c D cA ad z0 mX12_readSounds al0 rM (R_readSounds_42 n x1 mm) 42 [(0, .inr (.inr (.inl (some 176)))), (1, .inl x1)] [] mm := by
  intro n
  induction n with
  | zero => intro x1 mm; exact g_none
  | succ n ih =>
    intro x1 mm
    rw [R_readSounds_42]
    refine gl (i' := 43) (fun _ _ => aw_iload_n K (dOf ck_mX12_readSounds rfl rfl) rfl) ?_
    refine gl (i' := 44) (fun _ _ => aw_aload_n K (dOf ck_mX12_readSounds rfl rfl) rfl) ?_
    refine gl (i' := 45) (fun _ _ => aw_getf K (dOf ck_mX12_readSounds rfl rfl) rfl rfl (Nat.le_of_ble_eq_true rfl) wd_1212 (k := 7) rfl) ?_
    refine g_icmp_ge K (dOf ck_mX12_readSounds rfl rfl) (t := 61) (aJ_of (by decide +kernel)) (fun h10 => ?_) (fun h10 => ?_)
    · refine gl (i' := 47) (fun _ _ => aw_aload_n K (dOf ck_mX12_readSounds rfl rfl) rfl) ?_
      refine gl (i' := 48) (fun _ _ => aw_getf K (dOf ck_mX12_readSounds rfl rfl) rfl rfl (Nat.le_of_ble_eq_true rfl) wd_1209 (k := 4) rfl) ?_
      refine gl (i' := 49) (fun _ _ => aw_iconst K (n := 1) (i32 _ rfl) (dOf ck_mX12_readSounds rfl rfl)) ?_
      refine gl (i' := 50) (fun _ _ => aw_iload_n K (dOf ck_mX12_readSounds rfl rfl) rfl) ?_
      refine gl (i' := 51) (fun _ _ => aw_iadd K (dOf ck_mX12_readSounds rfl rfl)) ?_
      refine gl (i' := 52) (fun _ _ => aw_aload_n K (dOf ck_mX12_readSounds rfl rfl) rfl) ?_
      refine gl (i' := 53) (fun _ _ => aw_getf K (dOf ck_mX12_readSounds rfl rfl) rfl rfl (Nat.le_of_ble_eq_true rfl) wd_1211 (k := 6) rfl) ?_
      refine gl (i' := 54) (fun _ _ => aw_isub K (dOf ck_mX12_readSounds rfl rfl)) ?_
      refine gl (i' := 55) (fun _ _ => aw_aload_n K (dOf ck_mX12_readSounds rfl rfl) rfl) ?_
      refine gl (i' := 56) (fun _ _ => aw_getf K (dOf ck_mX12_readSounds rfl rfl) rfl rfl (Nat.le_of_ble_eq_true rfl) wd_1208 (k := 3) rfl) ?_
      refine gl (i' := 57) (fun _ _ => aw_iload_n K (dOf ck_mX12_readSounds rfl rfl) rfl) ?_
      refine g_gd (fun hb12 => ?_)
      refine gl (i' := 58) (fun _ _ => aw_iald K (dOf ck_mX12_readSounds rfl rfl) rfl hb12) ?_
      refine g_gd (fun hb13 => ?_)
      refine g_st1 ?_
      refine gl (i' := 59) (fun _ _ => aw_iast K (dOf ck_mX12_readSounds rfl rfl) rfl hb13) ?_
      refine gl (i' := 60) (fun _ _ => aw_iinc K (dOf ck_mX12_readSounds rfl rfl) (Nat.le_of_ble_eq_true rfl) rfl) ?_
      refine g_lv (lv' := [(1, .inl _), (0, .inr (.inr (.inl (some _))))]) rfl ?_
      refine g_goto K (dOf ck_mX12_readSounds rfl rfl).1 (t := 42) (aJ_of (by decide +kernel)) ?_
      refine g_sub [1, 0] rfl ?_
      exact ih _ _
    · refine gl (i' := 62) (fun _ _ => aw_aload_n K (dOf ck_mX12_readSounds rfl rfl) rfl) ?_
      refine g_callVM K [] rfl (dOf ck_mX12_readSounds rfl rfl) al_OneBreathModel_166 rfl rfl ⟨wd_1272, wd_63⟩ rfl (Nat.le_of_ble_eq_true rfl) ⟨Nat.le_of_ble_eq_true rfl, Nat.le_of_ble_eq_true rfl⟩ (fun b hb => met_R_next  hb) (fun r11 hr11 => ?_)
      exact g_vret K (by decide +kernel) rfl rfl
def R_readSounds_26 (mm : aM) : Option aM := if (mm 176 11) = 0 then (st1 (aup mm 180 0 (w32 ((mm 176 7) - (mm 176 6)))) fun mm9 => (R_readSounds_42 FU (mm9 176 6) mm9)) else (some mm)
set_option maxHeartbeats 4000000 in
theorem lk_R_readSounds_26 {p : Program} {l : Launch} {e : Env} {s : State} {m : MethodId} {args : Array Value} {below : List Frame} {meth : Method} {c : Code} {D : va_G} {cA : FieldType → ClassId} {ad adV : Nat → Nat} {z0 : Nat} {al0 : List Nat} (K : aK p s m args meth c mX12_readSounds D cA ad adV z0)   (mm : aM) : aG p l e { frames := 6, cells := 0, slots := 0, locals := 128 } s m args below meth c D cA ad z0 mX12_readSounds al0 rM (R_readSounds_26 mm) 26 [(0, .inr (.inr (.inl (some 176))))] [] mm := by
  unfold R_readSounds_26
  refine gl (i' := 27) (fun _ _ => aw_aload_n K (dOf ck_mX12_readSounds rfl rfl) rfl) ?_
  refine gl (i' := 28) (fun _ _ => aw_getf K (dOf ck_mX12_readSounds rfl rfl) rfl rfl (Nat.le_of_ble_eq_true rfl) wd_1216 (k := 11) rfl) ?_
  refine g_if_eq K (dOf ck_mX12_readSounds rfl rfl) (t := 30) (aJ_of (by decide +kernel)) (fun h8 => ?_) (fun h8 => ?_)
  · refine gl (i' := 31) (fun _ _ => aw_aload_n K (dOf ck_mX12_readSounds rfl rfl) rfl) ?_
    refine gl (i' := 32) (fun _ _ => aw_getf K (dOf ck_mX12_readSounds rfl rfl) rfl rfl (Nat.le_of_ble_eq_true rfl) wd_1209 (k := 4) rfl) ?_
    refine gl (i' := 33) (fun _ _ => aw_iconst K (n := 0) (i32 _ rfl) (dOf ck_mX12_readSounds rfl rfl)) ?_
    refine gl (i' := 34) (fun _ _ => aw_aload_n K (dOf ck_mX12_readSounds rfl rfl) rfl) ?_
    refine gl (i' := 35) (fun _ _ => aw_getf K (dOf ck_mX12_readSounds rfl rfl) rfl rfl (Nat.le_of_ble_eq_true rfl) wd_1212 (k := 7) rfl) ?_
    refine gl (i' := 36) (fun _ _ => aw_aload_n K (dOf ck_mX12_readSounds rfl rfl) rfl) ?_
    refine gl (i' := 37) (fun _ _ => aw_getf K (dOf ck_mX12_readSounds rfl rfl) rfl rfl (Nat.le_of_ble_eq_true rfl) wd_1211 (k := 6) rfl) ?_
    refine gl (i' := 38) (fun _ _ => aw_isub K (dOf ck_mX12_readSounds rfl rfl)) ?_
    refine g_st1 ?_
    refine gl (i' := 39) (fun _ _ => aw_iast K (dOf ck_mX12_readSounds rfl rfl) rfl (by decide)) ?_
    refine gl (i' := 40) (fun _ _ => aw_aload_n K (dOf ck_mX12_readSounds rfl rfl) rfl) ?_
    refine gl (i' := 41) (fun _ _ => aw_getf K (dOf ck_mX12_readSounds rfl rfl) rfl rfl (Nat.le_of_ble_eq_true rfl) wd_1211 (k := 6) rfl) ?_
    refine gl (i' := 42) (fun _ _ => aw_istore_n K (dOf ck_mX12_readSounds rfl rfl) (Nat.le_of_ble_eq_true rfl)) ?_
    refine g_lv (lv' := [(1, .inl _), (0, .inr (.inr (.inl (some _))))]) rfl ?_
    refine g_sub [1, 0] rfl ?_
    exact lk_R_readSounds_42 K FU _ _
  · exact g_vret K (dOf ck_mX12_readSounds rfl rfl).1 rfl rfl
def R_readSounds_8 (mm : aM) : Option aM := if (mm 176 11) = 0 then ((R_next mm).bind fun r3 => ((R_isLetters 2 8 r3).bind fun r4 => (if r4.1 = 0 then (some r4.2) else ((R_isTwice r4.2).bind fun r6 => (if r6 = 0 then (R_readSounds_26 r4.2) else ((R_fails 3 r4.2).bind fun r15 => (R_readSounds_26 r15))))))) else (some mm)
set_option maxHeartbeats 4000000 in
theorem lk_R_readSounds_8 {p : Program} {l : Launch} {e : Env} {s : State} {m : MethodId} {args : Array Value} {below : List Frame} {meth : Method} {c : Code} {D : va_G} {cA : FieldType → ClassId} {ad adV : Nat → Nat} {z0 : Nat} {al0 : List Nat} (K : aK p s m args meth c mX12_readSounds D cA ad adV z0)   (mm : aM) : aG p l e { frames := 6, cells := 0, slots := 0, locals := 128 } s m args below meth c D cA ad z0 mX12_readSounds al0 rM (R_readSounds_8 mm) 8 [(0, .inr (.inr (.inl (some 176))))] [] mm := by
  unfold R_readSounds_8
  refine gl (i' := 9) (fun _ _ => aw_aload_n K (dOf ck_mX12_readSounds rfl rfl) rfl) ?_
  refine gl (i' := 10) (fun _ _ => aw_getf K (dOf ck_mX12_readSounds rfl rfl) rfl rfl (Nat.le_of_ble_eq_true rfl) wd_1216 (k := 11) rfl) ?_
  refine g_if_eq K (dOf ck_mX12_readSounds rfl rfl) (t := 12) (aJ_of (by decide +kernel)) (fun h2 => ?_) (fun h2 => ?_)
  · refine gl (i' := 13) (fun _ _ => aw_aload_n K (dOf ck_mX12_readSounds rfl rfl) rfl) ?_
    refine g_callVM K [] rfl (dOf ck_mX12_readSounds rfl rfl) al_OneBreathModel_166 rfl rfl ⟨wd_1272, wd_63⟩ rfl (Nat.le_of_ble_eq_true rfl) ⟨Nat.le_of_ble_eq_true rfl, Nat.le_of_ble_eq_true rfl⟩ (fun b hb => met_R_next  hb) (fun r3 hr3 => ?_)
    refine gl (i' := 15) (fun _ _ => aw_aload_n K (dOf ck_mX12_readSounds rfl rfl) rfl) ?_
    refine gl (i' := 16) (fun _ _ => aw_iconst K (n := 2) (i32 _ rfl) (dOf ck_mX12_readSounds rfl rfl)) ?_
    refine gl (i' := 17) (fun _ _ => aw_bip K (dOf ck_mX12_readSounds rfl rfl) (v := 8) rfl) ?_
    refine g_callVIM K [.inl _, .inl _] rfl (dOf ck_mX12_readSounds rfl rfl) al_OneBreathModel_184 rfl rfl ⟨wd_1301, wd_70⟩ rfl (Nat.le_of_ble_eq_true rfl) ⟨Nat.le_of_ble_eq_true rfl, Nat.le_of_ble_eq_true rfl⟩ (fun b hb => met_R_isLetters  hb) (fun r4 hr4 => ?_)
    refine g_if_ne K (dOf ck_mX12_readSounds rfl rfl) (t := 20) (aJ_of (by decide +kernel)) (fun h5 => ?_) (fun h5 => ?_)
    · exact g_vret K (dOf ck_mX12_readSounds rfl rfl).1 rfl rfl
    · refine gl (i' := 21) (fun _ _ => aw_aload_n K (dOf ck_mX12_readSounds rfl rfl) rfl) ?_
      refine g_callVI K [] rfl (dOf ck_mX12_readSounds rfl rfl) al_OneBreathModel_188 rfl rfl ⟨wd_1304, wd_71⟩ rfl (Nat.le_of_ble_eq_true rfl) ⟨Nat.le_of_ble_eq_true rfl, Nat.le_of_ble_eq_true rfl⟩ (fun b hb => met_R_isTwice  hb) (fun r6 hr6 => ?_)
      refine g_if_eq K (dOf ck_mX12_readSounds rfl rfl) (t := 26) (aJ_of (by decide +kernel)) (fun h7 => ?_) (fun h7 => ?_)
      · refine g_sub [0] rfl ?_
        exact lk_R_readSounds_26 K _
      · refine gl (i' := 24) (fun _ _ => aw_aload_n K (dOf ck_mX12_readSounds rfl rfl) rfl) ?_
        refine gl (i' := 25) (fun _ _ => aw_iconst K (n := 3) (i32 _ rfl) (dOf ck_mX12_readSounds rfl rfl)) ?_
        refine g_callVM K [.inl _] rfl (dOf ck_mX12_readSounds rfl rfl) al_OneBreathModel_172 rfl rfl ⟨wd_1298, wd_69⟩ rfl (Nat.le_of_ble_eq_true rfl) ⟨Nat.le_of_ble_eq_true rfl, Nat.le_of_ble_eq_true rfl⟩ (fun b hb => met_R_fails  hb) (fun r15 hr15 => ?_)
        refine g_sub [0] rfl ?_
        exact lk_R_readSounds_26 K _
  · exact g_vret K (dOf ck_mX12_readSounds rfl rfl).1 rfl rfl
def R_readSounds  (mm : aM) : Option aM := if 0 < (mm 180 0) then ((R_fails 4 mm).bind fun r16 => (R_readSounds_8 r16)) else (R_readSounds_8 mm)
set_option maxHeartbeats 4000000 in
theorem met_R_readSounds {l : Launch} {D : va_G} {cA : FieldType → ClassId} {ad adV : Nat → Nat} {z0 : Nat}  {mm : aM}  {r : aM} (h : R_readSounds  mm = some r) : aMet l D cA ad adV z0 mX12_readSounds 6 128 0 0 [.inr (.inr (.inl (some 176)))] SH mm (rM r).1 SH (rM r).2 := by
  refine aMet_ofG (by decide +kernel) rfl (Nat.le_of_ble_eq_true rfl) h (fun p e s m args below meth c al0 K => ?_)
  unfold R_readSounds
  refine gl (i' := 1) (fun _ _ => aw_aload_n K (dOf ck_mX12_readSounds rfl rfl) rfl) ?_
  refine gl (i' := 2) (fun _ _ => aw_getf K (dOf ck_mX12_readSounds rfl rfl) rfl rfl (Nat.le_of_ble_eq_true rfl) wd_1209 (k := 4) rfl) ?_
  refine gl (i' := 3) (fun _ _ => aw_iconst K (n := 0) (i32 _ rfl) (dOf ck_mX12_readSounds rfl rfl)) ?_
  refine gl (i' := 4) (fun _ _ => aw_iald K (dOf ck_mX12_readSounds rfl rfl) rfl (by decide)) ?_
  refine g_if_le K (dOf ck_mX12_readSounds rfl rfl) (t := 8) (aJ_of (by decide +kernel)) (fun h1 => ?_) (fun h1 => ?_)
  · refine gl (i' := 6) (fun _ _ => aw_aload_n K (dOf ck_mX12_readSounds rfl rfl) rfl) ?_
    refine gl (i' := 7) (fun _ _ => aw_iconst K (n := 4) (i32 _ rfl) (dOf ck_mX12_readSounds rfl rfl)) ?_
    refine g_callVM K [.inl _] rfl (dOf ck_mX12_readSounds rfl rfl) al_OneBreathModel_172 rfl rfl ⟨wd_1298, wd_69⟩ rfl (Nat.le_of_ble_eq_true rfl) ⟨Nat.le_of_ble_eq_true rfl, Nat.le_of_ble_eq_true rfl⟩ (fun b hb => met_R_fails  hb) (fun r16 hr16 => ?_)
    refine g_sub [0] rfl ?_
    exact lk_R_readSounds_8 K _
  · refine g_sub [0] rfl ?_
    exact lk_R_readSounds_8 K _
def R_eats (x1 : Int) (mm : aM) : Option (Int × aM) := (R_is x1 mm).bind fun r1 => (if r1 = 0 then (some (0, mm)) else ((R_next mm).bind fun r3 => (some (1, r3))))
set_option maxHeartbeats 4000000 in
theorem met_R_eats {l : Launch} {D : va_G} {cA : FieldType → ClassId} {ad adV : Nat → Nat} {z0 : Nat} {x1 : Int} {mm : aM}  {r : Int × aM} (h : R_eats x1 mm = some r) : aMet l D cA ad adV z0 mX12_eats 6 128 0 0 [.inr (.inr (.inl (some 176))), .inl x1] SH mm (rIM r).1 SH (rIM r).2 := by
  refine aMet_ofG (by decide +kernel) rfl (Nat.le_of_ble_eq_true rfl) h (fun p e s m args below meth c al0 K => ?_)
  unfold R_eats
  refine gl (i' := 1) (fun _ _ => aw_aload_n K (dOf ck_mX12_eats rfl rfl) rfl) ?_
  refine gl (i' := 2) (fun _ _ => aw_iload_n K (dOf ck_mX12_eats rfl rfl) rfl) ?_
  refine g_callVI K [.inl _] rfl (dOf ck_mX12_eats rfl rfl) al_OneBreathModel_163 rfl rfl ⟨wd_1292, wd_67⟩ rfl (Nat.le_of_ble_eq_true rfl) ⟨Nat.le_of_ble_eq_true rfl, Nat.le_of_ble_eq_true rfl⟩ (fun b hb => met_R_is  hb) (fun r1 hr1 => ?_)
  refine g_if_ne K (dOf ck_mX12_eats rfl rfl) (t := 6) (aJ_of (by decide +kernel)) (fun h2 => ?_) (fun h2 => ?_)
  · refine gl (i' := 5) (fun _ _ => aw_iconst K (n := 0) (i32 _ rfl) (dOf ck_mX12_eats rfl rfl)) ?_
    exact g_iret K (dOf ck_mX12_eats rfl rfl).1 rfl (Or.inr (Or.inl ⟨rfl, Or.inl rfl⟩)) rfl
  · refine gl (i' := 7) (fun _ _ => aw_aload_n K (dOf ck_mX12_eats rfl rfl) rfl) ?_
    refine g_callVM K [] rfl (dOf ck_mX12_eats rfl rfl) al_OneBreathModel_166 rfl rfl ⟨wd_1272, wd_63⟩ rfl (Nat.le_of_ble_eq_true rfl) ⟨Nat.le_of_ble_eq_true rfl, Nat.le_of_ble_eq_true rfl⟩ (fun b hb => met_R_next  hb) (fun r3 hr3 => ?_)
    refine gl (i' := 9) (fun _ _ => aw_iconst K (n := 1) (i32 _ rfl) (dOf ck_mX12_eats rfl rfl)) ?_
    exact g_iret K (by decide +kernel) rfl (Or.inr (Or.inl ⟨rfl, Or.inr rfl⟩)) rfl
def R_takes_20 (mm : aM) : Option (Int × aM) := if (mm 176 11) = 0 then ((R_next mm).bind fun r6 => (some (mm 176 10, r6))) else (some (mm 176 10, mm))
set_option maxHeartbeats 4000000 in
theorem lk_R_takes_20 {p : Program} {l : Launch} {e : Env} {s : State} {m : MethodId} {args : Array Value} {below : List Frame} {meth : Method} {c : Code} {D : va_G} {cA : FieldType → ClassId} {ad adV : Nat → Nat} {z0 : Nat} {al0 : List Nat} (K : aK p s m args meth c mX12_takes D cA ad adV z0)   (mm : aM) : aG p l e { frames := 6, cells := 0, slots := 0, locals := 128 } s m args below meth c D cA ad z0 mX12_takes al0 rIM (R_takes_20 mm) 20 [(0, .inr (.inr (.inl (some 176))))] [] mm := by
  unfold R_takes_20
  refine gl (i' := 21) (fun _ _ => aw_aload_n K (dOf ck_mX12_takes rfl rfl) rfl) ?_
  refine gl (i' := 22) (fun _ _ => aw_getf K (dOf ck_mX12_takes rfl rfl) rfl rfl (Nat.le_of_ble_eq_true rfl) wd_1215 (k := 10) rfl) ?_
  refine gl (i' := 23) (fun _ _ => aw_istore_n K (dOf ck_mX12_takes rfl rfl) (Nat.le_of_ble_eq_true rfl)) ?_
  refine g_lv (lv' := [(3, .inl _), (0, .inr (.inr (.inl (some _))))]) rfl ?_
  refine gl (i' := 24) (fun _ _ => aw_aload_n K (dOf ck_mX12_takes rfl rfl) rfl) ?_
  refine gl (i' := 25) (fun _ _ => aw_getf K (dOf ck_mX12_takes rfl rfl) rfl rfl (Nat.le_of_ble_eq_true rfl) wd_1216 (k := 11) rfl) ?_
  refine g_if_ne K (dOf ck_mX12_takes rfl rfl) (t := 28) (aJ_of (by decide +kernel)) (fun h5 => ?_) (fun h5 => ?_)
  · refine gl (i' := 27) (fun _ _ => aw_aload_n K (dOf ck_mX12_takes rfl rfl) rfl) ?_
    refine g_callVM K [] rfl (dOf ck_mX12_takes rfl rfl) al_OneBreathModel_166 rfl rfl ⟨wd_1272, wd_63⟩ rfl (Nat.le_of_ble_eq_true rfl) ⟨Nat.le_of_ble_eq_true rfl, Nat.le_of_ble_eq_true rfl⟩ (fun b hb => met_R_next  hb) (fun r6 hr6 => ?_)
    refine gl (i' := 29) (fun _ _ => aw_iload_n K (dOf ck_mX12_takes rfl rfl) rfl) ?_
    exact g_iret K (by decide +kernel) rfl (Or.inl rfl) rfl
  · refine gl (i' := 29) (fun _ _ => aw_iload_n K (dOf ck_mX12_takes rfl rfl) rfl) ?_
    exact g_iret K (by decide +kernel) rfl (Or.inl rfl) rfl
def R_takes (x1 : Int) (x2 : Int) (mm : aM) : Option (Int × aM) := (R_is 10 mm).bind fun r1 => (if r1 = 0 then ((R_fails 2 mm).bind fun r8 => (R_takes_20 r8)) else ((R_within (mm 176 10) x1 x2 mm).bind fun r3 => (if r3 = 0 then ((R_fails 3 mm).bind fun r7 => (R_takes_20 r7)) else (R_takes_20 mm))))
set_option maxHeartbeats 4000000 in
theorem met_R_takes {l : Launch} {D : va_G} {cA : FieldType → ClassId} {ad adV : Nat → Nat} {z0 : Nat} {x1 : Int} {x2 : Int} {mm : aM}  {r : Int × aM} (h : R_takes x1 x2 mm = some r) : aMet l D cA ad adV z0 mX12_takes 6 128 0 0 [.inr (.inr (.inl (some 176))), .inl x1, .inl x2] SH mm (rIM r).1 SH (rIM r).2 := by
  refine aMet_ofG (by decide +kernel) rfl (Nat.le_of_ble_eq_true rfl) h (fun p e s m args below meth c al0 K => ?_)
  unfold R_takes
  refine gl (i' := 1) (fun _ _ => aw_aload_n K (dOf ck_mX12_takes rfl rfl) rfl) ?_
  refine gl (i' := 2) (fun _ _ => aw_bip K (dOf ck_mX12_takes rfl rfl) (v := 10) rfl) ?_
  refine g_callVI K [.inl _] rfl (dOf ck_mX12_takes rfl rfl) al_OneBreathModel_163 rfl rfl ⟨wd_1292, wd_67⟩ rfl (Nat.le_of_ble_eq_true rfl) ⟨Nat.le_of_ble_eq_true rfl, Nat.le_of_ble_eq_true rfl⟩ (fun b hb => met_R_is  hb) (fun r1 hr1 => ?_)
  refine g_if_ne K (dOf ck_mX12_takes rfl rfl) (t := 8) (aJ_of (by decide +kernel)) (fun h2 => ?_) (fun h2 => ?_)
  · refine gl (i' := 5) (fun _ _ => aw_aload_n K (dOf ck_mX12_takes rfl rfl) rfl) ?_
    refine gl (i' := 6) (fun _ _ => aw_iconst K (n := 2) (i32 _ rfl) (dOf ck_mX12_takes rfl rfl)) ?_
    refine g_callVM K [.inl _] rfl (dOf ck_mX12_takes rfl rfl) al_OneBreathModel_172 rfl rfl ⟨wd_1298, wd_69⟩ rfl (Nat.le_of_ble_eq_true rfl) ⟨Nat.le_of_ble_eq_true rfl, Nat.le_of_ble_eq_true rfl⟩ (fun b hb => met_R_fails  hb) (fun r8 hr8 => ?_)
    refine g_goto K (dOf ck_mX12_takes rfl rfl).1 (t := 20) (aJ_of (by decide +kernel)) ?_
    refine g_sub [0] rfl ?_
    exact lk_R_takes_20 K _
  · refine gl (i' := 9) (fun _ _ => aw_aload_n K (dOf ck_mX12_takes rfl rfl) rfl) ?_
    refine gl (i' := 10) (fun _ _ => aw_getf K (dOf ck_mX12_takes rfl rfl) rfl rfl (Nat.le_of_ble_eq_true rfl) wd_1215 (k := 10) rfl) ?_
    refine gl (i' := 11) (fun _ _ => aw_i2l K (dOf ck_mX12_takes rfl rfl)) ?_
    refine gl (i' := 12) (fun _ _ => aw_iload_n K (dOf ck_mX12_takes rfl rfl) rfl) ?_
    refine gl (i' := 13) (fun _ _ => aw_i2l K (dOf ck_mX12_takes rfl rfl)) ?_
    refine gl (i' := 14) (fun _ _ => aw_iload_n K (dOf ck_mX12_takes rfl rfl) rfl) ?_
    refine gl (i' := 15) (fun _ _ => aw_i2l K (dOf ck_mX12_takes rfl rfl)) ?_
    refine g_callSI K [.inr (.inl _), .inr (.inl _), .inr (.inl _)] rfl (dOf ck_mX12_takes rfl rfl) al_OneBreathModel_176 wd_1269 rfl (Nat.le_of_ble_eq_true rfl) ⟨Nat.le_of_ble_eq_true rfl, Nat.le_of_ble_eq_true rfl⟩ (fun b hb => met_R_within  hb) (fun r3 hr3 => ?_)
    refine g_if_ne K (dOf ck_mX12_takes rfl rfl) (t := 20) (aJ_of (by decide +kernel)) (fun h4 => ?_) (fun h4 => ?_)
    · refine gl (i' := 18) (fun _ _ => aw_aload_n K (dOf ck_mX12_takes rfl rfl) rfl) ?_
      refine gl (i' := 19) (fun _ _ => aw_iconst K (n := 3) (i32 _ rfl) (dOf ck_mX12_takes rfl rfl)) ?_
      refine g_callVM K [.inl _] rfl (dOf ck_mX12_takes rfl rfl) al_OneBreathModel_172 rfl rfl ⟨wd_1298, wd_69⟩ rfl (Nat.le_of_ble_eq_true rfl) ⟨Nat.le_of_ble_eq_true rfl, Nat.le_of_ble_eq_true rfl⟩ (fun b hb => met_R_fails  hb) (fun r7 hr7 => ?_)
      refine g_sub [0] rfl ?_
      exact lk_R_takes_20 K _
    · refine g_sub [0] rfl ?_
      exact lk_R_takes_20 K _
def R_soundOf_2 (mm : aM) (x1 : Nat) (x2 : Int) : Nat → Int → Option Int
  | 0, _ => none
  | n + 1, x3 => if (0 : Int) ≤ 0 ∧ (0 : Int) < aln x1 then (if x3 < (mm x1 0) then (if 0 ≤ (w32 (1 + x3)) ∧ (w32 (1 + x3)) < aln x1 then (if (mm x1 (w32 (1 + x3)).toNat) = x2 then (some x3) else (R_soundOf_2 mm x1 x2 n (w32 (x3 + 1)))) else none) else (some (-1))) else none
set_option maxHeartbeats 4000000 in
theorem lk_R_soundOf_2 {p : Program} {l : Launch} {e : Env} {s : State} {m : MethodId} {args : Array Value} {below : List Frame} {meth : Method} {c : Code} {D : va_G} {cA : FieldType → ClassId} {ad adV : Nat → Nat} {z0 : Nat} {al0 : List Nat} {mm : aM} (K : aK p s m args meth c mX12_soundOf D cA ad adV z0) {x1 : Nat} (x2 : Int) (hx1 : okI x1)  : ∀ (n : Nat) (x3 : Int), aG p l e { frames := 0, cells := 0, slots := 0, locals := 0 } s m args below meth c D cA ad z0 mX12_soundOf al0 (rI mm) (R_soundOf_2 mm x1 x2 n x3) 2 [(1, .inr (.inr (.inl (some x1)))), (2, .inl x2), (3, .inl x3)] [] mm := by
  intro n
  induction n with
  | zero => intro x3; exact g_none
  | succ n ih =>
    intro x3
    rw [R_soundOf_2]
    refine gl (i' := 3) (fun _ _ => aw_iload_n K (dOf ck_mX12_soundOf rfl rfl) rfl) ?_
    refine gl (i' := 4) (fun _ _ => aw_aload_n K (dOf ck_mX12_soundOf rfl rfl) rfl) ?_
    refine gl (i' := 5) (fun _ _ => aw_iconst K (n := 0) (i32 _ rfl) (dOf ck_mX12_soundOf rfl rfl)) ?_
    refine g_gd (fun hb1 => ?_)
    refine gl (i' := 6) (fun _ _ => aw_iald K (dOf ck_mX12_soundOf rfl rfl) (okI_at hx1) hb1) ?_
    refine g_icmp_ge K (dOf ck_mX12_soundOf rfl rfl) (t := 18) (aJ_of (by decide +kernel)) (fun h2 => ?_) (fun h2 => ?_)
    · refine gl (i' := 8) (fun _ _ => aw_aload_n K (dOf ck_mX12_soundOf rfl rfl) rfl) ?_
      refine gl (i' := 9) (fun _ _ => aw_iconst K (n := 1) (i32 _ rfl) (dOf ck_mX12_soundOf rfl rfl)) ?_
      refine gl (i' := 10) (fun _ _ => aw_iload_n K (dOf ck_mX12_soundOf rfl rfl) rfl) ?_
      refine gl (i' := 11) (fun _ _ => aw_iadd K (dOf ck_mX12_soundOf rfl rfl)) ?_
      refine g_gd (fun hb3 => ?_)
      refine gl (i' := 12) (fun _ _ => aw_iald K (dOf ck_mX12_soundOf rfl rfl) (okI_at hx1) hb3) ?_
      refine gl (i' := 13) (fun _ _ => aw_iload_n K (dOf ck_mX12_soundOf rfl rfl) rfl) ?_
      refine g_icmp_ne K (dOf ck_mX12_soundOf rfl rfl) (t := 16) (aJ_of (by decide +kernel)) (fun h4 => ?_) (fun h4 => ?_)
      · refine gl (i' := 15) (fun _ _ => aw_iload_n K (dOf ck_mX12_soundOf rfl rfl) rfl) ?_
        exact g_iret K (dOf ck_mX12_soundOf rfl rfl).1 rfl (Or.inl rfl) rfl
      · refine gl (i' := 17) (fun _ _ => aw_iinc K (dOf ck_mX12_soundOf rfl rfl) (Nat.le_of_ble_eq_true rfl) rfl) ?_
        refine g_lv (lv' := [(3, .inl _), (1, .inr (.inr (.inl (some _)))), (2, .inl _)]) rfl ?_
        refine g_goto K (dOf ck_mX12_soundOf rfl rfl).1 (t := 2) (aJ_of (by decide +kernel)) ?_
        refine g_sub [1, 2, 0] rfl ?_
        exact ih _
    · refine gl (i' := 19) (fun _ _ => aw_iconst K (n := -1) (i32 _ rfl) (dOf ck_mX12_soundOf rfl rfl)) ?_
      exact g_iret K (by decide +kernel) rfl (Or.inl rfl) rfl
def R_soundOf (x1 : Nat) (x2 : Int) (mm : aM) : Option Int := R_soundOf_2 mm x1 x2 FU 0
set_option maxHeartbeats 4000000 in
theorem met_R_soundOf {l : Launch} {D : va_G} {cA : FieldType → ClassId} {ad adV : Nat → Nat} {z0 : Nat} {x1 : Nat} {x2 : Int} {mm : aM} (hx1 : okI x1) {r : Int} (h : R_soundOf x1 x2 mm = some r) : aMet l D cA ad adV z0 mX12_soundOf 0 0 0 0 [.inr (.inr (.inl (some 176))), .inr (.inr (.inl (some x1))), .inl x2] SH mm ((rI mm) r).1 SH ((rI mm) r).2 := by
  refine aMet_ofG (by decide +kernel) rfl (Nat.le_of_ble_eq_true rfl) h (fun p e s m args below meth c al0 K => ?_)
  unfold R_soundOf
  refine gl (i' := 1) (fun _ _ => aw_iconst K (n := 0) (i32 _ rfl) (dOf ck_mX12_soundOf rfl rfl)) ?_
  refine gl (i' := 2) (fun _ _ => aw_istore_n K (dOf ck_mX12_soundOf rfl rfl) (Nat.le_of_ble_eq_true rfl)) ?_
  refine g_lv (lv' := [(3, .inl _), (0, .inr (.inr (.inl (some _)))), (1, .inr (.inr (.inl (some _)))), (2, .inl _)]) rfl ?_
  refine g_sub [2, 3, 0] rfl ?_
  exact lk_R_soundOf_2 K _ hx1 FU _
def R_areSounds_3 (mm : aM) : Nat → Int → Option Int
  | 0, _ => none
  | n + 1, x1 => if x1 < (mm 176 7) then (if 0 ≤ x1 ∧ x1 < 500 then ((R_soundOf 180 (mm 179 x1.toNat) mm).bind fun r3 => (if r3 = (-1) then (some 0) else (R_areSounds_3 mm n (w32 (x1 + 1))))) else none) else (some 1)
set_option maxHeartbeats 4000000 in
theorem lk_R_areSounds_3 {p : Program} {l : Launch} {e : Env} {s : State} {m : MethodId} {args : Array Value} {below : List Frame} {meth : Method} {c : Code} {D : va_G} {cA : FieldType → ClassId} {ad adV : Nat → Nat} {z0 : Nat} {al0 : List Nat} {mm : aM} (K : aK p s m args meth c mX12_areSounds D cA ad adV z0)   : ∀ (n : Nat) (x1 : Int), aG p l e { frames := 1, cells := 0, slots := 0, locals := 23 } s m args below meth c D cA ad z0 mX12_areSounds al0 (rI mm) (R_areSounds_3 mm n x1) 3 [(0, .inr (.inr (.inl (some 176)))), (1, .inl x1)] [] mm := by
  intro n
  induction n with
  | zero => intro x1; exact g_none
  | succ n ih =>
    intro x1
    rw [R_areSounds_3]
    refine gl (i' := 4) (fun _ _ => aw_iload_n K (dOf ck_mX12_areSounds rfl rfl) rfl) ?_
    refine gl (i' := 5) (fun _ _ => aw_aload_n K (dOf ck_mX12_areSounds rfl rfl) rfl) ?_
    refine gl (i' := 6) (fun _ _ => aw_getf K (dOf ck_mX12_areSounds rfl rfl) rfl rfl (Nat.le_of_ble_eq_true rfl) wd_1212 (k := 7) rfl) ?_
    refine g_icmp_ge K (dOf ck_mX12_areSounds rfl rfl) (t := 21) (aJ_of (by decide +kernel)) (fun h1 => ?_) (fun h1 => ?_)
    · refine gl (i' := 8) (fun _ _ => aw_aload_n K (dOf ck_mX12_areSounds rfl rfl) rfl) ?_
      refine gl (i' := 9) (fun _ _ => aw_aload_n K (dOf ck_mX12_areSounds rfl rfl) rfl) ?_
      refine gl (i' := 10) (fun _ _ => aw_getf K (dOf ck_mX12_areSounds rfl rfl) rfl rfl (Nat.le_of_ble_eq_true rfl) wd_1209 (k := 4) rfl) ?_
      refine gl (i' := 11) (fun _ _ => aw_aload_n K (dOf ck_mX12_areSounds rfl rfl) rfl) ?_
      refine gl (i' := 12) (fun _ _ => aw_getf K (dOf ck_mX12_areSounds rfl rfl) rfl rfl (Nat.le_of_ble_eq_true rfl) wd_1208 (k := 3) rfl) ?_
      refine gl (i' := 13) (fun _ _ => aw_iload_n K (dOf ck_mX12_areSounds rfl rfl) rfl) ?_
      refine g_gd (fun hb2 => ?_)
      refine gl (i' := 14) (fun _ _ => aw_iald K (dOf ck_mX12_areSounds rfl rfl) rfl hb2) ?_
      refine g_callVI K [.inr (.inr (.inl (some _))), .inl _] rfl (dOf ck_mX12_areSounds rfl rfl) al_OneBreathModel_180 rfl rfl ⟨wd_1319, wd_76⟩ rfl (Nat.le_of_ble_eq_true rfl) ⟨Nat.le_of_ble_eq_true rfl, Nat.le_of_ble_eq_true rfl⟩ (fun b hb => met_R_soundOf ⟨_, rfl⟩ hb) (fun r3 hr3 => ?_)
      refine gl (i' := 16) (fun _ _ => aw_iconst K (n := -1) (i32 _ rfl) (dOf ck_mX12_areSounds rfl rfl)) ?_
      refine g_icmp_ne K (dOf ck_mX12_areSounds rfl rfl) (t := 19) (aJ_of (by decide +kernel)) (fun h4 => ?_) (fun h4 => ?_)
      · refine gl (i' := 18) (fun _ _ => aw_iconst K (n := 0) (i32 _ rfl) (dOf ck_mX12_areSounds rfl rfl)) ?_
        exact g_iret K (dOf ck_mX12_areSounds rfl rfl).1 rfl (Or.inr (Or.inl ⟨rfl, Or.inl rfl⟩)) rfl
      · refine gl (i' := 20) (fun _ _ => aw_iinc K (dOf ck_mX12_areSounds rfl rfl) (Nat.le_of_ble_eq_true rfl) rfl) ?_
        refine g_lv (lv' := [(1, .inl _), (0, .inr (.inr (.inl (some _))))]) rfl ?_
        refine g_goto K (dOf ck_mX12_areSounds rfl rfl).1 (t := 3) (aJ_of (by decide +kernel)) ?_
        refine g_sub [1, 0] rfl ?_
        exact ih _
    · refine gl (i' := 22) (fun _ _ => aw_iconst K (n := 1) (i32 _ rfl) (dOf ck_mX12_areSounds rfl rfl)) ?_
      exact g_iret K (by decide +kernel) rfl (Or.inr (Or.inl ⟨rfl, Or.inr rfl⟩)) rfl
def R_areSounds  (mm : aM) : Option Int := R_areSounds_3 mm FU (mm 176 6)
set_option maxHeartbeats 4000000 in
theorem met_R_areSounds {l : Launch} {D : va_G} {cA : FieldType → ClassId} {ad adV : Nat → Nat} {z0 : Nat}  {mm : aM}  {r : Int} (h : R_areSounds  mm = some r) : aMet l D cA ad adV z0 mX12_areSounds 1 23 0 0 [.inr (.inr (.inl (some 176)))] SH mm ((rI mm) r).1 SH ((rI mm) r).2 := by
  refine aMet_ofG (by decide +kernel) rfl (Nat.le_of_ble_eq_true rfl) h (fun p e s m args below meth c al0 K => ?_)
  unfold R_areSounds
  refine gl (i' := 1) (fun _ _ => aw_aload_n K (dOf ck_mX12_areSounds rfl rfl) rfl) ?_
  refine gl (i' := 2) (fun _ _ => aw_getf K (dOf ck_mX12_areSounds rfl rfl) rfl rfl (Nat.le_of_ble_eq_true rfl) wd_1211 (k := 6) rfl) ?_
  refine gl (i' := 3) (fun _ _ => aw_istore_n K (dOf ck_mX12_areSounds rfl rfl) (Nat.le_of_ble_eq_true rfl)) ?_
  refine g_lv (lv' := [(1, .inl _), (0, .inr (.inr (.inl (some _))))]) rfl ?_
  refine g_sub [1, 0] rfl ?_
  exact lk_R_areSounds_3 K FU _
def R_readOpen_29  : Nat → Int → aM → Option aM
  | 0, _, _ => none
  | n + 1, x1, mm => if x1 < (mm 176 7) then (if 0 ≤ x1 ∧ x1 < 500 then ((R_soundOf 180 (mm 179 x1.toNat) mm).bind fun r12 => (st1 (aup mm 180 9 (ior (mm 180 9) (ishl 1 r12))) fun mm13 => (R_readOpen_29 n (w32 (x1 + 1)) mm13))) else none) else ((R_next mm).bind fun r10 => (some r10))
set_option maxHeartbeats 4000000 in
theorem lk_R_readOpen_29 {p : Program} {l : Launch} {e : Env} {s : State} {m : MethodId} {args : Array Value} {below : List Frame} {meth : Method} {c : Code} {D : va_G} {cA : FieldType → ClassId} {ad adV : Nat → Nat} {z0 : Nat} {al0 : List Nat} (K : aK p s m args meth c mX12_readOpen D cA ad adV z0)   : ∀ (n : Nat) (x1 : Int) (mm : aM), aG p l e { frames := 6, cells := 0, slots := 0, locals := 128 } s m args below meth c D cA ad z0 mX12_readOpen al0 rM (R_readOpen_29 n x1 mm) 29 [(0, .inr (.inr (.inl (some 176)))), (1, .inl x1)] [] mm := by
  intro n
  induction n with
  | zero => intro x1 mm; exact g_none
  | succ n ih =>
    intro x1 mm
    rw [R_readOpen_29]
    refine gl (i' := 30) (fun _ _ => aw_iload_n K (dOf ck_mX12_readOpen rfl rfl) rfl) ?_
    refine gl (i' := 31) (fun _ _ => aw_aload_n K (dOf ck_mX12_readOpen rfl rfl) rfl) ?_
    refine gl (i' := 32) (fun _ _ => aw_getf K (dOf ck_mX12_readOpen rfl rfl) rfl rfl (Nat.le_of_ble_eq_true rfl) wd_1212 (k := 7) rfl) ?_
    refine g_icmp_ge K (dOf ck_mX12_readOpen rfl rfl) (t := 52) (aJ_of (by decide +kernel)) (fun h9 => ?_) (fun h9 => ?_)
    · refine gl (i' := 34) (fun _ _ => aw_aload_n K (dOf ck_mX12_readOpen rfl rfl) rfl) ?_
      refine gl (i' := 35) (fun _ _ => aw_getf K (dOf ck_mX12_readOpen rfl rfl) rfl rfl (Nat.le_of_ble_eq_true rfl) wd_1209 (k := 4) rfl) ?_
      refine gl (i' := 36) (fun _ _ => aw_bip K (dOf ck_mX12_readOpen rfl rfl) (v := 9) rfl) ?_
      refine gl (i' := 37) (fun _ _ => aw_dup2_11 K rfl rfl (dOf ck_mX12_readOpen rfl rfl)) ?_
      refine gl (i' := 38) (fun _ _ => aw_iald K (dOf ck_mX12_readOpen rfl rfl) rfl (by decide)) ?_
      refine gl (i' := 39) (fun _ _ => aw_iconst K (n := 1) (i32 _ rfl) (dOf ck_mX12_readOpen rfl rfl)) ?_
      refine gl (i' := 40) (fun _ _ => aw_aload_n K (dOf ck_mX12_readOpen rfl rfl) rfl) ?_
      refine gl (i' := 41) (fun _ _ => aw_aload_n K (dOf ck_mX12_readOpen rfl rfl) rfl) ?_
      refine gl (i' := 42) (fun _ _ => aw_getf K (dOf ck_mX12_readOpen rfl rfl) rfl rfl (Nat.le_of_ble_eq_true rfl) wd_1209 (k := 4) rfl) ?_
      refine gl (i' := 43) (fun _ _ => aw_aload_n K (dOf ck_mX12_readOpen rfl rfl) rfl) ?_
      refine gl (i' := 44) (fun _ _ => aw_getf K (dOf ck_mX12_readOpen rfl rfl) rfl rfl (Nat.le_of_ble_eq_true rfl) wd_1208 (k := 3) rfl) ?_
      refine gl (i' := 45) (fun _ _ => aw_iload_n K (dOf ck_mX12_readOpen rfl rfl) rfl) ?_
      refine g_gd (fun hb11 => ?_)
      refine gl (i' := 46) (fun _ _ => aw_iald K (dOf ck_mX12_readOpen rfl rfl) rfl hb11) ?_
      refine g_callVI K [.inr (.inr (.inl (some _))), .inl _] rfl (dOf ck_mX12_readOpen rfl rfl) al_OneBreathModel_180 rfl rfl ⟨wd_1319, wd_76⟩ rfl (Nat.le_of_ble_eq_true rfl) ⟨Nat.le_of_ble_eq_true rfl, Nat.le_of_ble_eq_true rfl⟩ (fun b hb => met_R_soundOf ⟨_, rfl⟩ hb) (fun r12 hr12 => ?_)
      refine gl (i' := 48) (fun _ _ => aw_ishl K (dOf ck_mX12_readOpen rfl rfl)) ?_
      refine gl (i' := 49) (fun _ _ => aw_ior K (dOf ck_mX12_readOpen rfl rfl)) ?_
      refine g_st1 ?_
      refine gl (i' := 50) (fun _ _ => aw_iast K (dOf ck_mX12_readOpen rfl rfl) rfl (by decide)) ?_
      refine gl (i' := 51) (fun _ _ => aw_iinc K (dOf ck_mX12_readOpen rfl rfl) (Nat.le_of_ble_eq_true rfl) rfl) ?_
      refine g_lv (lv' := [(1, .inl _), (0, .inr (.inr (.inl (some _))))]) rfl ?_
      refine g_goto K (dOf ck_mX12_readOpen rfl rfl).1 (t := 29) (aJ_of (by decide +kernel)) ?_
      refine g_sub [1, 0] rfl ?_
      exact ih _ _
    · refine gl (i' := 53) (fun _ _ => aw_aload_n K (dOf ck_mX12_readOpen rfl rfl) rfl) ?_
      refine g_callVM K [] rfl (dOf ck_mX12_readOpen rfl rfl) al_OneBreathModel_166 rfl rfl ⟨wd_1272, wd_63⟩ rfl (Nat.le_of_ble_eq_true rfl) ⟨Nat.le_of_ble_eq_true rfl, Nat.le_of_ble_eq_true rfl⟩ (fun b hb => met_R_next  hb) (fun r10 hr10 => ?_)
      exact g_vret K (by decide +kernel) rfl rfl
def R_readOpen_17 (mm : aM) : Option aM := if (mm 176 11) = 0 then (st1 (aup mm 180 9 0) fun mm8 => (R_readOpen_29 FU (mm8 176 6) mm8)) else (some mm)
set_option maxHeartbeats 4000000 in
theorem lk_R_readOpen_17 {p : Program} {l : Launch} {e : Env} {s : State} {m : MethodId} {args : Array Value} {below : List Frame} {meth : Method} {c : Code} {D : va_G} {cA : FieldType → ClassId} {ad adV : Nat → Nat} {z0 : Nat} {al0 : List Nat} (K : aK p s m args meth c mX12_readOpen D cA ad adV z0)   (mm : aM) : aG p l e { frames := 6, cells := 0, slots := 0, locals := 128 } s m args below meth c D cA ad z0 mX12_readOpen al0 rM (R_readOpen_17 mm) 17 [(0, .inr (.inr (.inl (some 176))))] [] mm := by
  unfold R_readOpen_17
  refine gl (i' := 18) (fun _ _ => aw_aload_n K (dOf ck_mX12_readOpen rfl rfl) rfl) ?_
  refine gl (i' := 19) (fun _ _ => aw_getf K (dOf ck_mX12_readOpen rfl rfl) rfl rfl (Nat.le_of_ble_eq_true rfl) wd_1216 (k := 11) rfl) ?_
  refine g_if_eq K (dOf ck_mX12_readOpen rfl rfl) (t := 21) (aJ_of (by decide +kernel)) (fun h7 => ?_) (fun h7 => ?_)
  · refine gl (i' := 22) (fun _ _ => aw_aload_n K (dOf ck_mX12_readOpen rfl rfl) rfl) ?_
    refine gl (i' := 23) (fun _ _ => aw_getf K (dOf ck_mX12_readOpen rfl rfl) rfl rfl (Nat.le_of_ble_eq_true rfl) wd_1209 (k := 4) rfl) ?_
    refine gl (i' := 24) (fun _ _ => aw_bip K (dOf ck_mX12_readOpen rfl rfl) (v := 9) rfl) ?_
    refine gl (i' := 25) (fun _ _ => aw_iconst K (n := 0) (i32 _ rfl) (dOf ck_mX12_readOpen rfl rfl)) ?_
    refine g_st1 ?_
    refine gl (i' := 26) (fun _ _ => aw_iast K (dOf ck_mX12_readOpen rfl rfl) rfl (by decide)) ?_
    refine gl (i' := 27) (fun _ _ => aw_aload_n K (dOf ck_mX12_readOpen rfl rfl) rfl) ?_
    refine gl (i' := 28) (fun _ _ => aw_getf K (dOf ck_mX12_readOpen rfl rfl) rfl rfl (Nat.le_of_ble_eq_true rfl) wd_1211 (k := 6) rfl) ?_
    refine gl (i' := 29) (fun _ _ => aw_istore_n K (dOf ck_mX12_readOpen rfl rfl) (Nat.le_of_ble_eq_true rfl)) ?_
    refine g_lv (lv' := [(1, .inl _), (0, .inr (.inr (.inl (some _))))]) rfl ?_
    refine g_sub [1, 0] rfl ?_
    exact lk_R_readOpen_29 K FU _ _
  · exact g_vret K (dOf ck_mX12_readOpen rfl rfl).1 rfl rfl
def R_readOpen_14 (mm : aM) : Option aM := (R_fails 3 mm).bind fun r6 => (R_readOpen_17 r6)
set_option maxHeartbeats 4000000 in
theorem lk_R_readOpen_14 {p : Program} {l : Launch} {e : Env} {s : State} {m : MethodId} {args : Array Value} {below : List Frame} {meth : Method} {c : Code} {D : va_G} {cA : FieldType → ClassId} {ad adV : Nat → Nat} {z0 : Nat} {al0 : List Nat} (K : aK p s m args meth c mX12_readOpen D cA ad adV z0)   (mm : aM) : aG p l e { frames := 6, cells := 0, slots := 0, locals := 128 } s m args below meth c D cA ad z0 mX12_readOpen al0 rM (R_readOpen_14 mm) 14 [(0, .inr (.inr (.inl (some 176))))] [] mm := by
  unfold R_readOpen_14
  refine gl (i' := 15) (fun _ _ => aw_aload_n K (dOf ck_mX12_readOpen rfl rfl) rfl) ?_
  refine gl (i' := 16) (fun _ _ => aw_iconst K (n := 3) (i32 _ rfl) (dOf ck_mX12_readOpen rfl rfl)) ?_
  refine g_callVM K [.inl _] rfl (dOf ck_mX12_readOpen rfl rfl) al_OneBreathModel_172 rfl rfl ⟨wd_1298, wd_69⟩ rfl (Nat.le_of_ble_eq_true rfl) ⟨Nat.le_of_ble_eq_true rfl, Nat.le_of_ble_eq_true rfl⟩ (fun b hb => met_R_fails  hb) (fun r6 hr6 => ?_)
  refine g_sub [0] rfl ?_
  exact lk_R_readOpen_17 K _
def R_readOpen  (mm : aM) : Option aM := (R_next mm).bind fun r1 => ((R_isLetters 1 8 r1).bind fun r2 => (if r2.1 = 0 then (some r2.2) else ((R_areSounds r2.2).bind fun r4 => (if r4 = 0 then (R_readOpen_14 r2.2) else ((R_isTwice r2.2).bind fun r14 => (if r14 = 0 then (R_readOpen_17 r2.2) else (R_readOpen_14 r2.2)))))))
set_option maxHeartbeats 4000000 in
theorem met_R_readOpen {l : Launch} {D : va_G} {cA : FieldType → ClassId} {ad adV : Nat → Nat} {z0 : Nat}  {mm : aM}  {r : aM} (h : R_readOpen  mm = some r) : aMet l D cA ad adV z0 mX12_readOpen 6 128 0 0 [.inr (.inr (.inl (some 176)))] SH mm (rM r).1 SH (rM r).2 := by
  refine aMet_ofG (by decide +kernel) rfl (Nat.le_of_ble_eq_true rfl) h (fun p e s m args below meth c al0 K => ?_)
  unfold R_readOpen
  refine gl (i' := 1) (fun _ _ => aw_aload_n K (dOf ck_mX12_readOpen rfl rfl) rfl) ?_
  refine g_callVM K [] rfl (dOf ck_mX12_readOpen rfl rfl) al_OneBreathModel_166 rfl rfl ⟨wd_1272, wd_63⟩ rfl (Nat.le_of_ble_eq_true rfl) ⟨Nat.le_of_ble_eq_true rfl, Nat.le_of_ble_eq_true rfl⟩ (fun b hb => met_R_next  hb) (fun r1 hr1 => ?_)
  refine gl (i' := 3) (fun _ _ => aw_aload_n K (dOf ck_mX12_readOpen rfl rfl) rfl) ?_
  refine gl (i' := 4) (fun _ _ => aw_iconst K (n := 1) (i32 _ rfl) (dOf ck_mX12_readOpen rfl rfl)) ?_
  refine gl (i' := 5) (fun _ _ => aw_bip K (dOf ck_mX12_readOpen rfl rfl) (v := 8) rfl) ?_
  refine g_callVIM K [.inl _, .inl _] rfl (dOf ck_mX12_readOpen rfl rfl) al_OneBreathModel_184 rfl rfl ⟨wd_1301, wd_70⟩ rfl (Nat.le_of_ble_eq_true rfl) ⟨Nat.le_of_ble_eq_true rfl, Nat.le_of_ble_eq_true rfl⟩ (fun b hb => met_R_isLetters  hb) (fun r2 hr2 => ?_)
  refine g_if_ne K (dOf ck_mX12_readOpen rfl rfl) (t := 8) (aJ_of (by decide +kernel)) (fun h3 => ?_) (fun h3 => ?_)
  · exact g_vret K (dOf ck_mX12_readOpen rfl rfl).1 rfl rfl
  · refine gl (i' := 9) (fun _ _ => aw_aload_n K (dOf ck_mX12_readOpen rfl rfl) rfl) ?_
    refine g_callVI K [] rfl (dOf ck_mX12_readOpen rfl rfl) al_OneBreathModel_192 rfl rfl ⟨wd_1316, wd_75⟩ rfl (Nat.le_of_ble_eq_true rfl) ⟨Nat.le_of_ble_eq_true rfl, Nat.le_of_ble_eq_true rfl⟩ (fun b hb => met_R_areSounds  hb) (fun r4 hr4 => ?_)
    refine g_if_eq K (dOf ck_mX12_readOpen rfl rfl) (t := 14) (aJ_of (by decide +kernel)) (fun h5 => ?_) (fun h5 => ?_)
    · refine g_sub [0] rfl ?_
      exact lk_R_readOpen_14 K _
    · refine gl (i' := 12) (fun _ _ => aw_aload_n K (dOf ck_mX12_readOpen rfl rfl) rfl) ?_
      refine g_callVI K [] rfl (dOf ck_mX12_readOpen rfl rfl) al_OneBreathModel_188 rfl rfl ⟨wd_1304, wd_71⟩ rfl (Nat.le_of_ble_eq_true rfl) ⟨Nat.le_of_ble_eq_true rfl, Nat.le_of_ble_eq_true rfl⟩ (fun b hb => met_R_isTwice  hb) (fun r14 hr14 => ?_)
      refine g_if_eq K (dOf ck_mX12_readOpen rfl rfl) (t := 17) (aJ_of (by decide +kernel)) (fun h15 => ?_) (fun h15 => ?_)
      · refine g_sub [0] rfl ?_
        exact lk_R_readOpen_17 K _
      · refine g_sub [0] rfl ?_
        exact lk_R_readOpen_14 K _
def R_readOne_26 (x2 : Int) (mm : aM) : Option (Int × aM) := if (mm 176 11) = 0 then ((R_next mm).bind fun r8 => (some (x2, r8))) else (some (x2, mm))
set_option maxHeartbeats 4000000 in
theorem lk_R_readOne_26 {p : Program} {l : Launch} {e : Env} {s : State} {m : MethodId} {args : Array Value} {below : List Frame} {meth : Method} {c : Code} {D : va_G} {cA : FieldType → ClassId} {ad adV : Nat → Nat} {z0 : Nat} {al0 : List Nat} (K : aK p s m args meth c mX12_readOne D cA ad adV z0) (x2 : Int)  (mm : aM) : aG p l e { frames := 6, cells := 0, slots := 0, locals := 128 } s m args below meth c D cA ad z0 mX12_readOne al0 rIM (R_readOne_26 x2 mm) 26 [(0, .inr (.inr (.inl (some 176)))), (2, .inl x2)] [] mm := by
  unfold R_readOne_26
  refine gl (i' := 27) (fun _ _ => aw_aload_n K (dOf ck_mX12_readOne rfl rfl) rfl) ?_
  refine gl (i' := 28) (fun _ _ => aw_getf K (dOf ck_mX12_readOne rfl rfl) rfl rfl (Nat.le_of_ble_eq_true rfl) wd_1216 (k := 11) rfl) ?_
  refine g_if_ne K (dOf ck_mX12_readOne rfl rfl) (t := 31) (aJ_of (by decide +kernel)) (fun h7 => ?_) (fun h7 => ?_)
  · refine gl (i' := 30) (fun _ _ => aw_aload_n K (dOf ck_mX12_readOne rfl rfl) rfl) ?_
    refine g_callVM K [] rfl (dOf ck_mX12_readOne rfl rfl) al_OneBreathModel_166 rfl rfl ⟨wd_1272, wd_63⟩ rfl (Nat.le_of_ble_eq_true rfl) ⟨Nat.le_of_ble_eq_true rfl, Nat.le_of_ble_eq_true rfl⟩ (fun b hb => met_R_next  hb) (fun r8 hr8 => ?_)
    refine gl (i' := 32) (fun _ _ => aw_iload_n K (dOf ck_mX12_readOne rfl rfl) rfl) ?_
    exact g_iret K (by decide +kernel) rfl (Or.inl rfl) rfl
  · refine gl (i' := 32) (fun _ _ => aw_iload_n K (dOf ck_mX12_readOne rfl rfl) rfl) ?_
    exact g_iret K (by decide +kernel) rfl (Or.inl rfl) rfl
def R_readOne_23 (x2 : Int) (mm : aM) : Option (Int × aM) := (R_fails 3 mm).bind fun r6 => (R_readOne_26 x2 r6)
set_option maxHeartbeats 4000000 in
theorem lk_R_readOne_23 {p : Program} {l : Launch} {e : Env} {s : State} {m : MethodId} {args : Array Value} {below : List Frame} {meth : Method} {c : Code} {D : va_G} {cA : FieldType → ClassId} {ad adV : Nat → Nat} {z0 : Nat} {al0 : List Nat} (K : aK p s m args meth c mX12_readOne D cA ad adV z0) (x2 : Int)  (mm : aM) : aG p l e { frames := 6, cells := 0, slots := 0, locals := 128 } s m args below meth c D cA ad z0 mX12_readOne al0 rIM (R_readOne_23 x2 mm) 23 [(0, .inr (.inr (.inl (some 176)))), (2, .inl x2)] [] mm := by
  unfold R_readOne_23
  refine gl (i' := 24) (fun _ _ => aw_aload_n K (dOf ck_mX12_readOne rfl rfl) rfl) ?_
  refine gl (i' := 25) (fun _ _ => aw_iconst K (n := 3) (i32 _ rfl) (dOf ck_mX12_readOne rfl rfl)) ?_
  refine g_callVM K [.inl _] rfl (dOf ck_mX12_readOne rfl rfl) al_OneBreathModel_172 rfl rfl ⟨wd_1298, wd_69⟩ rfl (Nat.le_of_ble_eq_true rfl) ⟨Nat.le_of_ble_eq_true rfl, Nat.le_of_ble_eq_true rfl⟩ (fun b hb => met_R_fails  hb) (fun r6 hr6 => ?_)
  refine g_sub [0, 1] rfl ?_
  exact lk_R_readOne_26 K _ _
def R_readOne (x1 : Int) (mm : aM) : Option (Int × aM) := (R_isLetters 1 1 mm).bind fun r1 => (if r1.1 = 0 then (some (0, r1.2)) else (if 0 ≤ (r1.2 176 6) ∧ (r1.2 176 6) < 500 then ((R_soundOf 180 (r1.2 179 (r1.2 176 6).toNat) r1.2).bind fun r4 => (if r4 = (-1) then (R_readOne_23 r4 r1.2) else (if r4 = x1 then (R_readOne_23 r4 r1.2) else (R_readOne_26 r4 r1.2)))) else none))
set_option maxHeartbeats 4000000 in
theorem met_R_readOne {l : Launch} {D : va_G} {cA : FieldType → ClassId} {ad adV : Nat → Nat} {z0 : Nat} {x1 : Int} {mm : aM}  {r : Int × aM} (h : R_readOne x1 mm = some r) : aMet l D cA ad adV z0 mX12_readOne 6 128 0 0 [.inr (.inr (.inl (some 176))), .inl x1] SH mm (rIM r).1 SH (rIM r).2 := by
  refine aMet_ofG (by decide +kernel) rfl (Nat.le_of_ble_eq_true rfl) h (fun p e s m args below meth c al0 K => ?_)
  unfold R_readOne
  refine gl (i' := 1) (fun _ _ => aw_aload_n K (dOf ck_mX12_readOne rfl rfl) rfl) ?_
  refine gl (i' := 2) (fun _ _ => aw_iconst K (n := 1) (i32 _ rfl) (dOf ck_mX12_readOne rfl rfl)) ?_
  refine gl (i' := 3) (fun _ _ => aw_iconst K (n := 1) (i32 _ rfl) (dOf ck_mX12_readOne rfl rfl)) ?_
  refine g_callVIM K [.inl _, .inl _] rfl (dOf ck_mX12_readOne rfl rfl) al_OneBreathModel_184 rfl rfl ⟨wd_1301, wd_70⟩ rfl (Nat.le_of_ble_eq_true rfl) ⟨Nat.le_of_ble_eq_true rfl, Nat.le_of_ble_eq_true rfl⟩ (fun b hb => met_R_isLetters  hb) (fun r1 hr1 => ?_)
  refine g_if_ne K (dOf ck_mX12_readOne rfl rfl) (t := 7) (aJ_of (by decide +kernel)) (fun h2 => ?_) (fun h2 => ?_)
  · refine gl (i' := 6) (fun _ _ => aw_iconst K (n := 0) (i32 _ rfl) (dOf ck_mX12_readOne rfl rfl)) ?_
    exact g_iret K (dOf ck_mX12_readOne rfl rfl).1 rfl (Or.inl rfl) rfl
  · refine gl (i' := 8) (fun _ _ => aw_aload_n K (dOf ck_mX12_readOne rfl rfl) rfl) ?_
    refine gl (i' := 9) (fun _ _ => aw_aload_n K (dOf ck_mX12_readOne rfl rfl) rfl) ?_
    refine gl (i' := 10) (fun _ _ => aw_getf K (dOf ck_mX12_readOne rfl rfl) rfl rfl (Nat.le_of_ble_eq_true rfl) wd_1209 (k := 4) rfl) ?_
    refine gl (i' := 11) (fun _ _ => aw_aload_n K (dOf ck_mX12_readOne rfl rfl) rfl) ?_
    refine gl (i' := 12) (fun _ _ => aw_getf K (dOf ck_mX12_readOne rfl rfl) rfl rfl (Nat.le_of_ble_eq_true rfl) wd_1208 (k := 3) rfl) ?_
    refine gl (i' := 13) (fun _ _ => aw_aload_n K (dOf ck_mX12_readOne rfl rfl) rfl) ?_
    refine gl (i' := 14) (fun _ _ => aw_getf K (dOf ck_mX12_readOne rfl rfl) rfl rfl (Nat.le_of_ble_eq_true rfl) wd_1211 (k := 6) rfl) ?_
    refine g_gd (fun hb3 => ?_)
    refine gl (i' := 15) (fun _ _ => aw_iald K (dOf ck_mX12_readOne rfl rfl) rfl hb3) ?_
    refine g_callVI K [.inr (.inr (.inl (some _))), .inl _] rfl (dOf ck_mX12_readOne rfl rfl) al_OneBreathModel_180 rfl rfl ⟨wd_1319, wd_76⟩ rfl (Nat.le_of_ble_eq_true rfl) ⟨Nat.le_of_ble_eq_true rfl, Nat.le_of_ble_eq_true rfl⟩ (fun b hb => met_R_soundOf ⟨_, rfl⟩ hb) (fun r4 hr4 => ?_)
    refine gl (i' := 17) (fun _ _ => aw_istore_n K (dOf ck_mX12_readOne rfl rfl) (Nat.le_of_ble_eq_true rfl)) ?_
    refine g_lv (lv' := [(2, .inl _), (0, .inr (.inr (.inl (some _)))), (1, .inl _)]) rfl ?_
    refine gl (i' := 18) (fun _ _ => aw_iload_n K (dOf ck_mX12_readOne rfl rfl) rfl) ?_
    refine gl (i' := 19) (fun _ _ => aw_iconst K (n := -1) (i32 _ rfl) (dOf ck_mX12_readOne rfl rfl)) ?_
    refine g_icmp_eq K (dOf ck_mX12_readOne rfl rfl) (t := 23) (aJ_of (by decide +kernel)) (fun h5 => ?_) (fun h5 => ?_)
    · refine g_sub [1, 0] rfl ?_
      exact lk_R_readOne_23 K _ _
    · refine gl (i' := 21) (fun _ _ => aw_iload_n K (dOf ck_mX12_readOne rfl rfl) rfl) ?_
      refine gl (i' := 22) (fun _ _ => aw_iload_n K (dOf ck_mX12_readOne rfl rfl) rfl) ?_
      refine g_icmp_ne K (dOf ck_mX12_readOne rfl rfl) (t := 26) (aJ_of (by decide +kernel)) (fun h9 => ?_) (fun h9 => ?_)
      · refine g_sub [1, 0] rfl ?_
        exact lk_R_readOne_23 K _ _
      · refine g_sub [1, 0] rfl ?_
        exact lk_R_readOne_26 K _ _
def R_readLike  (mm : aM) : Option aM := (R_next mm).bind fun r1 => ((R_readOne (-1) r1).bind fun r2 => (if (r2.2 176 11) = 0 then ((R_readOne r2.1 r2.2).bind fun r4 => (if (r4.2 176 11) = 0 then (if 0 ≤ (w32 (10 + r2.1)) ∧ (w32 (10 + r2.1)) < 155 then (st1 (aup r4.2 180 (w32 (10 + r2.1)).toNat (ior (r4.2 180 (w32 (10 + r2.1)).toNat) (ishl 1 r4.1))) fun mm7 => (if 0 ≤ (w32 (10 + r4.1)) ∧ (w32 (10 + r4.1)) < 155 then (st1 (aup mm7 180 (w32 (10 + r4.1)).toNat (ior (mm7 180 (w32 (10 + r4.1)).toNat) (ishl 1 r2.1))) fun mm9 => (some mm9)) else none)) else none) else (some r4.2))) else (some r2.2)))
set_option maxHeartbeats 4000000 in
theorem met_R_readLike {l : Launch} {D : va_G} {cA : FieldType → ClassId} {ad adV : Nat → Nat} {z0 : Nat}  {mm : aM}  {r : aM} (h : R_readLike  mm = some r) : aMet l D cA ad adV z0 mX12_readLike 7 150 0 0 [.inr (.inr (.inl (some 176)))] SH mm (rM r).1 SH (rM r).2 := by
  refine aMet_ofG (by decide +kernel) rfl (Nat.le_of_ble_eq_true rfl) h (fun p e s m args below meth c al0 K => ?_)
  unfold R_readLike
  refine gl (i' := 1) (fun _ _ => aw_aload_n K (dOf ck_mX12_readLike rfl rfl) rfl) ?_
  refine g_callVM K [] rfl (dOf ck_mX12_readLike rfl rfl) al_OneBreathModel_166 rfl rfl ⟨wd_1272, wd_63⟩ rfl (Nat.le_of_ble_eq_true rfl) ⟨Nat.le_of_ble_eq_true rfl, Nat.le_of_ble_eq_true rfl⟩ (fun b hb => met_R_next  hb) (fun r1 hr1 => ?_)
  refine gl (i' := 3) (fun _ _ => aw_aload_n K (dOf ck_mX12_readLike rfl rfl) rfl) ?_
  refine gl (i' := 4) (fun _ _ => aw_iconst K (n := -1) (i32 _ rfl) (dOf ck_mX12_readLike rfl rfl)) ?_
  refine g_callVIM K [.inl _] rfl (dOf ck_mX12_readLike rfl rfl) al_OneBreathModel_195 rfl rfl ⟨wd_1325, wd_78⟩ rfl (Nat.le_of_ble_eq_true rfl) ⟨Nat.le_of_ble_eq_true rfl, Nat.le_of_ble_eq_true rfl⟩ (fun b hb => met_R_readOne  hb) (fun r2 hr2 => ?_)
  refine gl (i' := 6) (fun _ _ => aw_istore_n K (dOf ck_mX12_readLike rfl rfl) (Nat.le_of_ble_eq_true rfl)) ?_
  refine g_lv (lv' := [(1, .inl _), (0, .inr (.inr (.inl (some _))))]) rfl ?_
  refine gl (i' := 7) (fun _ _ => aw_aload_n K (dOf ck_mX12_readLike rfl rfl) rfl) ?_
  refine gl (i' := 8) (fun _ _ => aw_getf K (dOf ck_mX12_readLike rfl rfl) rfl rfl (Nat.le_of_ble_eq_true rfl) wd_1216 (k := 11) rfl) ?_
  refine g_if_eq K (dOf ck_mX12_readLike rfl rfl) (t := 10) (aJ_of (by decide +kernel)) (fun h3 => ?_) (fun h3 => ?_)
  · refine gl (i' := 11) (fun _ _ => aw_aload_n K (dOf ck_mX12_readLike rfl rfl) rfl) ?_
    refine gl (i' := 12) (fun _ _ => aw_iload_n K (dOf ck_mX12_readLike rfl rfl) rfl) ?_
    refine g_callVIM K [.inl _] rfl (dOf ck_mX12_readLike rfl rfl) al_OneBreathModel_195 rfl rfl ⟨wd_1325, wd_78⟩ rfl (Nat.le_of_ble_eq_true rfl) ⟨Nat.le_of_ble_eq_true rfl, Nat.le_of_ble_eq_true rfl⟩ (fun b hb => met_R_readOne  hb) (fun r4 hr4 => ?_)
    refine gl (i' := 14) (fun _ _ => aw_istore_n K (dOf ck_mX12_readLike rfl rfl) (Nat.le_of_ble_eq_true rfl)) ?_
    refine g_lv (lv' := [(2, .inl _), (1, .inl _), (0, .inr (.inr (.inl (some _))))]) rfl ?_
    refine gl (i' := 15) (fun _ _ => aw_aload_n K (dOf ck_mX12_readLike rfl rfl) rfl) ?_
    refine gl (i' := 16) (fun _ _ => aw_getf K (dOf ck_mX12_readLike rfl rfl) rfl rfl (Nat.le_of_ble_eq_true rfl) wd_1216 (k := 11) rfl) ?_
    refine g_if_eq K (dOf ck_mX12_readLike rfl rfl) (t := 18) (aJ_of (by decide +kernel)) (fun h5 => ?_) (fun h5 => ?_)
    · refine gl (i' := 19) (fun _ _ => aw_aload_n K (dOf ck_mX12_readLike rfl rfl) rfl) ?_
      refine gl (i' := 20) (fun _ _ => aw_getf K (dOf ck_mX12_readLike rfl rfl) rfl rfl (Nat.le_of_ble_eq_true rfl) wd_1209 (k := 4) rfl) ?_
      refine gl (i' := 21) (fun _ _ => aw_bip K (dOf ck_mX12_readLike rfl rfl) (v := 10) rfl) ?_
      refine gl (i' := 22) (fun _ _ => aw_iload_n K (dOf ck_mX12_readLike rfl rfl) rfl) ?_
      refine gl (i' := 23) (fun _ _ => aw_iadd K (dOf ck_mX12_readLike rfl rfl)) ?_
      refine gl (i' := 24) (fun _ _ => aw_dup2_11 K rfl rfl (dOf ck_mX12_readLike rfl rfl)) ?_
      refine g_gd (fun hb6 => ?_)
      refine gl (i' := 25) (fun _ _ => aw_iald K (dOf ck_mX12_readLike rfl rfl) rfl hb6) ?_
      refine gl (i' := 26) (fun _ _ => aw_iconst K (n := 1) (i32 _ rfl) (dOf ck_mX12_readLike rfl rfl)) ?_
      refine gl (i' := 27) (fun _ _ => aw_iload_n K (dOf ck_mX12_readLike rfl rfl) rfl) ?_
      refine gl (i' := 28) (fun _ _ => aw_ishl K (dOf ck_mX12_readLike rfl rfl)) ?_
      refine gl (i' := 29) (fun _ _ => aw_ior K (dOf ck_mX12_readLike rfl rfl)) ?_
      refine g_st1 ?_
      refine gl (i' := 30) (fun _ _ => aw_iast K (dOf ck_mX12_readLike rfl rfl) rfl hb6) ?_
      refine gl (i' := 31) (fun _ _ => aw_aload_n K (dOf ck_mX12_readLike rfl rfl) rfl) ?_
      refine gl (i' := 32) (fun _ _ => aw_getf K (dOf ck_mX12_readLike rfl rfl) rfl rfl (Nat.le_of_ble_eq_true rfl) wd_1209 (k := 4) rfl) ?_
      refine gl (i' := 33) (fun _ _ => aw_bip K (dOf ck_mX12_readLike rfl rfl) (v := 10) rfl) ?_
      refine gl (i' := 34) (fun _ _ => aw_iload_n K (dOf ck_mX12_readLike rfl rfl) rfl) ?_
      refine gl (i' := 35) (fun _ _ => aw_iadd K (dOf ck_mX12_readLike rfl rfl)) ?_
      refine gl (i' := 36) (fun _ _ => aw_dup2_11 K rfl rfl (dOf ck_mX12_readLike rfl rfl)) ?_
      refine g_gd (fun hb8 => ?_)
      refine gl (i' := 37) (fun _ _ => aw_iald K (dOf ck_mX12_readLike rfl rfl) rfl hb8) ?_
      refine gl (i' := 38) (fun _ _ => aw_iconst K (n := 1) (i32 _ rfl) (dOf ck_mX12_readLike rfl rfl)) ?_
      refine gl (i' := 39) (fun _ _ => aw_iload_n K (dOf ck_mX12_readLike rfl rfl) rfl) ?_
      refine gl (i' := 40) (fun _ _ => aw_ishl K (dOf ck_mX12_readLike rfl rfl)) ?_
      refine gl (i' := 41) (fun _ _ => aw_ior K (dOf ck_mX12_readLike rfl rfl)) ?_
      refine g_st1 ?_
      refine gl (i' := 42) (fun _ _ => aw_iast K (dOf ck_mX12_readLike rfl rfl) rfl hb8) ?_
      exact g_vret K (by decide +kernel) rfl rfl
    · exact g_vret K (dOf ck_mX12_readLike rfl rfl).1 rfl rfl
  · exact g_vret K (dOf ck_mX12_readLike rfl rfl).1 rfl rfl
