def R_leastUnlike_21 (k4 : Int → Int → aM → Option (Int × aM)) (x1 : Int) (x3 : Int) (s0 : Int) (mm : aM) : Option (Int × aM) := k4 s0 (w32 (x3 + 1)) mm
set_option maxHeartbeats 4000000 in
theorem lk_R_leastUnlike_21 {p : Program} {l : Launch} {e : Env} {s : State} {m : MethodId} {args : Array Value} {below : List Frame} {meth : Method} {c : Code} {D : va_G} {cA : FieldType → ClassId} {ad adV : Nat → Nat} {z0 : Nat} {al0 : List Nat} (K : aK p s m args meth c mX12_leastUnlike D cA ad adV z0) (x1 : Int) (x3 : Int) (k4 : Int → Int → aM → Option (Int × aM)) (hk4 : ∀ (x2 : Int) (x3 : Int) (mm : aM), aG p l e { frames := 2, cells := 0, slots := 0, locals := 52 } s m args below meth c D cA ad z0 mX12_leastUnlike al0 rIM (k4 x2 x3 mm) 4 [(0, .inr (.inr (.inl (some 176)))), (1, .inl x1), (2, .inl x2), (3, .inl x3)] [] mm)  (s0 : Int) (mm : aM) : aG p l e { frames := 2, cells := 0, slots := 0, locals := 52 } s m args below meth c D cA ad z0 mX12_leastUnlike al0 rIM (R_leastUnlike_21 k4 x1 x3 s0 mm) 21 [(0, .inr (.inr (.inl (some 176)))), (1, .inl x1), (3, .inl x3)] [.inl s0] mm := by
  unfold R_leastUnlike_21
  refine gl (i' := 22) (fun _ _ => aw_istore_n K (dOf ck_mX12_leastUnlike rfl rfl) (Nat.le_of_ble_eq_true rfl)) ?_
  refine g_lv (lv' := [(2, .inl _), (0, .inr (.inr (.inl (some _)))), (1, .inl _), (3, .inl _)]) rfl ?_
  refine gl (i' := 23) (fun _ _ => aw_iinc K (dOf ck_mX12_leastUnlike rfl rfl) (Nat.le_of_ble_eq_true rfl) rfl) ?_
  refine g_lv (lv' := [(3, .inl _), (2, .inl _), (0, .inr (.inr (.inl (some _)))), (1, .inl _)]) rfl ?_
  refine g_goto K (dOf ck_mX12_leastUnlike rfl rfl).1 (t := 4) (aJ_of (by decide +kernel)) ?_
  refine g_sub [2, 3, 1, 0] rfl ?_
  exact hk4 _ _ _
def R_leastUnlike_18 (k4 : Int → Int → aM → Option (Int × aM)) (x1 : Int) (x3 : Int) (x4 : Int) (mm : aM) : Option (Int × aM) := R_leastUnlike_21 k4 x1 x3 x4 mm
set_option maxHeartbeats 4000000 in
theorem lk_R_leastUnlike_18 {p : Program} {l : Launch} {e : Env} {s : State} {m : MethodId} {args : Array Value} {below : List Frame} {meth : Method} {c : Code} {D : va_G} {cA : FieldType → ClassId} {ad adV : Nat → Nat} {z0 : Nat} {al0 : List Nat} (K : aK p s m args meth c mX12_leastUnlike D cA ad adV z0) (x1 : Int) (x3 : Int) (x4 : Int) (k4 : Int → Int → aM → Option (Int × aM)) (hk4 : ∀ (x2 : Int) (x3 : Int) (mm : aM), aG p l e { frames := 2, cells := 0, slots := 0, locals := 52 } s m args below meth c D cA ad z0 mX12_leastUnlike al0 rIM (k4 x2 x3 mm) 4 [(0, .inr (.inr (.inl (some 176)))), (1, .inl x1), (2, .inl x2), (3, .inl x3)] [] mm)  (mm : aM) : aG p l e { frames := 2, cells := 0, slots := 0, locals := 52 } s m args below meth c D cA ad z0 mX12_leastUnlike al0 rIM (R_leastUnlike_18 k4 x1 x3 x4 mm) 18 [(0, .inr (.inr (.inl (some 176)))), (1, .inl x1), (3, .inl x3), (4, .inl x4)] [] mm := by
  unfold R_leastUnlike_18
  refine gl (i' := 19) (fun _ _ => aw_iload K (dOf ck_mX12_leastUnlike rfl rfl) rfl) ?_
  refine g_goto K (dOf ck_mX12_leastUnlike rfl rfl).1 (t := 21) (aJ_of (by decide +kernel)) ?_
  refine g_sub [0, 1, 2] rfl ?_
  exact lk_R_leastUnlike_21 K _ _ _ hk4 _ _
def R_leastUnlike_4 (x1 : Int) : Nat → Int → Int → aM → Option (Int × aM)
  | 0, _, _, _ => none
  | n + 1, x2, x3, mm => if x3 < x1 then ((R_unlikeOf x1 x3 mm).bind fun r2 => (if x2 = (-1) then (R_leastUnlike_18 (R_leastUnlike_4 x1 n) x1 x3 r2.1 r2.2) else (if r2.1 < x2 then (R_leastUnlike_18 (R_leastUnlike_4 x1 n) x1 x3 r2.1 r2.2) else (R_leastUnlike_21 (R_leastUnlike_4 x1 n) x1 x3 x2 r2.2)))) else (some (x2, mm))
set_option maxHeartbeats 4000000 in
theorem lk_R_leastUnlike_4 {p : Program} {l : Launch} {e : Env} {s : State} {m : MethodId} {args : Array Value} {below : List Frame} {meth : Method} {c : Code} {D : va_G} {cA : FieldType → ClassId} {ad adV : Nat → Nat} {z0 : Nat} {al0 : List Nat} (K : aK p s m args meth c mX12_leastUnlike D cA ad adV z0) (x1 : Int)  : ∀ (n : Nat) (x2 : Int) (x3 : Int) (mm : aM), aG p l e { frames := 2, cells := 0, slots := 0, locals := 52 } s m args below meth c D cA ad z0 mX12_leastUnlike al0 rIM (R_leastUnlike_4 x1 n x2 x3 mm) 4 [(0, .inr (.inr (.inl (some 176)))), (1, .inl x1), (2, .inl x2), (3, .inl x3)] [] mm := by
  intro n
  induction n with
  | zero => intro x2 x3 mm; exact g_none
  | succ n ih =>
    intro x2 x3 mm
    rw [R_leastUnlike_4]
    refine gl (i' := 5) (fun _ _ => aw_iload_n K (dOf ck_mX12_leastUnlike rfl rfl) rfl) ?_
    refine gl (i' := 6) (fun _ _ => aw_iload_n K (dOf ck_mX12_leastUnlike rfl rfl) rfl) ?_
    refine g_icmp_ge K (dOf ck_mX12_leastUnlike rfl rfl) (t := 24) (aJ_of (by decide +kernel)) (fun h1 => ?_) (fun h1 => ?_)
    · refine gl (i' := 8) (fun _ _ => aw_aload_n K (dOf ck_mX12_leastUnlike rfl rfl) rfl) ?_
      refine gl (i' := 9) (fun _ _ => aw_iload_n K (dOf ck_mX12_leastUnlike rfl rfl) rfl) ?_
      refine gl (i' := 10) (fun _ _ => aw_iload_n K (dOf ck_mX12_leastUnlike rfl rfl) rfl) ?_
      refine g_callVIM K [.inl _, .inl _] rfl (dOf ck_mX12_leastUnlike rfl rfl) al_OneBreathModel_244 rfl rfl ⟨wd_1379, wd_84⟩ rfl (Nat.le_of_ble_eq_true rfl) ⟨Nat.le_of_ble_eq_true rfl, Nat.le_of_ble_eq_true rfl⟩ (fun b hb => met_R_unlikeOf  hb) (fun r2 hr2 => ?_)
      refine gl (i' := 12) (fun _ _ => aw_istore K (dOf ck_mX12_leastUnlike rfl rfl) (Nat.le_of_ble_eq_true rfl)) ?_
      refine g_lv (lv' := [(4, .inl _), (0, .inr (.inr (.inl (some _)))), (1, .inl _), (2, .inl _), (3, .inl _)]) rfl ?_
      refine gl (i' := 13) (fun _ _ => aw_iload_n K (dOf ck_mX12_leastUnlike rfl rfl) rfl) ?_
      refine gl (i' := 14) (fun _ _ => aw_iconst K (n := -1) (i32 _ rfl) (dOf ck_mX12_leastUnlike rfl rfl)) ?_
      refine g_icmp_eq K (dOf ck_mX12_leastUnlike rfl rfl) (t := 18) (aJ_of (by decide +kernel)) (fun h3 => ?_) (fun h3 => ?_)
      · refine g_sub [1, 2, 4, 0] rfl ?_
        exact lk_R_leastUnlike_18 K _ _ _ _ ih _
      · refine gl (i' := 16) (fun _ _ => aw_iload K (dOf ck_mX12_leastUnlike rfl rfl) rfl) ?_
        refine gl (i' := 17) (fun _ _ => aw_iload_n K (dOf ck_mX12_leastUnlike rfl rfl) rfl) ?_
        refine g_icmp_ge K (dOf ck_mX12_leastUnlike rfl rfl) (t := 20) (aJ_of (by decide +kernel)) (fun h4 => ?_) (fun h4 => ?_)
        · refine g_sub [1, 2, 4, 0] rfl ?_
          exact lk_R_leastUnlike_18 K _ _ _ _ ih _
        · refine gl (i' := 21) (fun _ _ => aw_iload_n K (dOf ck_mX12_leastUnlike rfl rfl) rfl) ?_
          refine g_sub [1, 2, 4] rfl ?_
          exact lk_R_leastUnlike_21 K _ _ _ ih _ _
    · refine gl (i' := 25) (fun _ _ => aw_iload_n K (dOf ck_mX12_leastUnlike rfl rfl) rfl) ?_
      exact g_iret K (by decide +kernel) rfl (Or.inl rfl) rfl
def R_leastUnlike (x1 : Int) (mm : aM) : Option (Int × aM) := R_leastUnlike_4 x1 FU (-1) 0 mm
set_option maxHeartbeats 4000000 in
theorem met_R_leastUnlike {l : Launch} {D : va_G} {cA : FieldType → ClassId} {ad adV : Nat → Nat} {z0 : Nat} {x1 : Int} {mm : aM}  {r : Int × aM} (h : R_leastUnlike x1 mm = some r) : aMet l D cA ad adV z0 mX12_leastUnlike 2 52 0 0 [.inr (.inr (.inl (some 176))), .inl x1] SH mm (rIM r).1 SH (rIM r).2 := by
  refine aMet_ofG (by decide +kernel) rfl (Nat.le_of_ble_eq_true rfl) h (fun p e s m args below meth c al0 K => ?_)
  unfold R_leastUnlike
  refine gl (i' := 1) (fun _ _ => aw_iconst K (n := -1) (i32 _ rfl) (dOf ck_mX12_leastUnlike rfl rfl)) ?_
  refine gl (i' := 2) (fun _ _ => aw_istore_n K (dOf ck_mX12_leastUnlike rfl rfl) (Nat.le_of_ble_eq_true rfl)) ?_
  refine g_lv (lv' := [(2, .inl _), (0, .inr (.inr (.inl (some _)))), (1, .inl _)]) rfl ?_
  refine gl (i' := 3) (fun _ _ => aw_iconst K (n := 0) (i32 _ rfl) (dOf ck_mX12_leastUnlike rfl rfl)) ?_
  refine gl (i' := 4) (fun _ _ => aw_istore_n K (dOf ck_mX12_leastUnlike rfl rfl) (Nat.le_of_ble_eq_true rfl)) ?_
  refine g_lv (lv' := [(3, .inl _), (2, .inl _), (0, .inr (.inr (.inl (some _)))), (1, .inl _)]) rfl ?_
  refine g_sub [2, 3, 1, 0] rfl ?_
  exact lk_R_leastUnlike_4 K _ FU _ _ _
def R_isSureWith (x1 : Int) (mm : aM) : Option (Int × aM) := st1 (aup mm 177 18 (w32 ((mm 177 18) + 1))) fun mm1 => ((R_isSure x1 mm1).bind fun r2 => (st1 (aup r2.2 177 18 (w32 ((r2.2 177 18) - 1))) fun mm3 => (if r2.1 = 0 ∨ r2.1 = 1 then (some (r2.1, mm3)) else none)))
set_option maxHeartbeats 4000000 in
theorem met_R_isSureWith {l : Launch} {D : va_G} {cA : FieldType → ClassId} {ad adV : Nat → Nat} {z0 : Nat} {x1 : Int} {mm : aM}  {r : Int × aM} (h : R_isSureWith x1 mm = some r) : aMet l D cA ad adV z0 mX12_isSureWith 6 146 0 0 [.inr (.inr (.inl (some 176))), .inl x1] SH mm (rIM r).1 SH (rIM r).2 := by
  refine aMet_ofG (by decide +kernel) rfl (Nat.le_of_ble_eq_true rfl) h (fun p e s m args below meth c al0 K => ?_)
  unfold R_isSureWith
  refine gl (i' := 1) (fun _ _ => aw_aload_n K (dOf ck_mX12_isSureWith rfl rfl) rfl) ?_
  refine gl (i' := 2) (fun _ _ => aw_getf K (dOf ck_mX12_isSureWith rfl rfl) rfl rfl (Nat.le_of_ble_eq_true rfl) wd_1206 (k := 1) rfl) ?_
  refine gl (i' := 3) (fun _ _ => aw_bip K (dOf ck_mX12_isSureWith rfl rfl) (v := 18) rfl) ?_
  refine gl (i' := 4) (fun _ _ => aw_dup2_11 K rfl rfl (dOf ck_mX12_isSureWith rfl rfl)) ?_
  refine gl (i' := 5) (fun _ _ => aw_iald K (dOf ck_mX12_isSureWith rfl rfl) rfl (by decide)) ?_
  refine gl (i' := 6) (fun _ _ => aw_iconst K (n := 1) (i32 _ rfl) (dOf ck_mX12_isSureWith rfl rfl)) ?_
  refine gl (i' := 7) (fun _ _ => aw_iadd K (dOf ck_mX12_isSureWith rfl rfl)) ?_
  refine g_st1 ?_
  refine gl (i' := 8) (fun _ _ => aw_iast K (dOf ck_mX12_isSureWith rfl rfl) rfl (by decide)) ?_
  refine gl (i' := 9) (fun _ _ => aw_aload_n K (dOf ck_mX12_isSureWith rfl rfl) rfl) ?_
  refine gl (i' := 10) (fun _ _ => aw_iload_n K (dOf ck_mX12_isSureWith rfl rfl) rfl) ?_
  refine g_callVIM K [.inl _] rfl (dOf ck_mX12_isSureWith rfl rfl) al_OneBreathModel_385 rfl rfl ⟨wd_1533, wd_118⟩ rfl (Nat.le_of_ble_eq_true rfl) ⟨Nat.le_of_ble_eq_true rfl, Nat.le_of_ble_eq_true rfl⟩ (fun b hb => met_R_isSure  hb) (fun r2 hr2 => ?_)
  refine gl (i' := 12) (fun _ _ => aw_istore_n K (dOf ck_mX12_isSureWith rfl rfl) (Nat.le_of_ble_eq_true rfl)) ?_
  refine g_lv (lv' := [(2, .inl _), (0, .inr (.inr (.inl (some _)))), (1, .inl _)]) rfl ?_
  refine gl (i' := 13) (fun _ _ => aw_aload_n K (dOf ck_mX12_isSureWith rfl rfl) rfl) ?_
  refine gl (i' := 14) (fun _ _ => aw_getf K (dOf ck_mX12_isSureWith rfl rfl) rfl rfl (Nat.le_of_ble_eq_true rfl) wd_1206 (k := 1) rfl) ?_
  refine gl (i' := 15) (fun _ _ => aw_bip K (dOf ck_mX12_isSureWith rfl rfl) (v := 18) rfl) ?_
  refine gl (i' := 16) (fun _ _ => aw_dup2_11 K rfl rfl (dOf ck_mX12_isSureWith rfl rfl)) ?_
  refine gl (i' := 17) (fun _ _ => aw_iald K (dOf ck_mX12_isSureWith rfl rfl) rfl (by decide)) ?_
  refine gl (i' := 18) (fun _ _ => aw_iconst K (n := 1) (i32 _ rfl) (dOf ck_mX12_isSureWith rfl rfl)) ?_
  refine gl (i' := 19) (fun _ _ => aw_isub K (dOf ck_mX12_isSureWith rfl rfl)) ?_
  refine g_st1 ?_
  refine gl (i' := 20) (fun _ _ => aw_iast K (dOf ck_mX12_isSureWith rfl rfl) rfl (by decide)) ?_
  refine gl (i' := 21) (fun _ _ => aw_iload_n K (dOf ck_mX12_isSureWith rfl rfl) rfl) ?_
  refine g_gd (fun hb4 => ?_)
  exact g_iret K (by decide +kernel) rfl (Or.inr (Or.inl ⟨rfl, hb4⟩)) rfl
def R_findsAdded_130 (k22 : Int → Int → aM → Option aM) (k41 : Int → aM → Option aM) (x2 : Int) (x3 : Int) (x4 : Int) (x5 : Int) (mm : aM) : Option aM := k41 (w32 (x5 + 1)) mm
set_option maxHeartbeats 4000000 in
theorem lk_R_findsAdded_130 {p : Program} {l : Launch} {e : Env} {s : State} {m : MethodId} {args : Array Value} {below : List Frame} {meth : Method} {c : Code} {D : va_G} {cA : FieldType → ClassId} {ad adV : Nat → Nat} {z0 : Nat} {al0 : List Nat} (K : aK p s m args meth c mX12_findsAdded D cA ad adV z0) (x2 : Int) (x3 : Int) (x4 : Int) (x5 : Int) (k22 : Int → Int → aM → Option aM) (hk22 : ∀ (x3 : Int) (x4 : Int) (mm : aM), aG p l e { frames := 7, cells := 0, slots := 0, locals := 168 } s m args below meth c D cA ad z0 mX12_findsAdded al0 rM (k22 x3 x4 mm) 22 [(0, .inr (.inr (.inl (some 176)))), (2, .inl x2), (3, .inl x3), (4, .inl x4)] [] mm) (k41 : Int → aM → Option aM) (hk41 : ∀ (x5 : Int) (mm : aM), aG p l e { frames := 7, cells := 0, slots := 0, locals := 168 } s m args below meth c D cA ad z0 mX12_findsAdded al0 rM (k41 x5 mm) 41 [(0, .inr (.inr (.inl (some 176)))), (2, .inl x2), (3, .inl x3), (4, .inl x4), (5, .inl x5)] [] mm)  (mm : aM) : aG p l e { frames := 7, cells := 0, slots := 0, locals := 168 } s m args below meth c D cA ad z0 mX12_findsAdded al0 rM (R_findsAdded_130 k22 k41 x2 x3 x4 x5 mm) 130 [(0, .inr (.inr (.inl (some 176)))), (2, .inl x2), (3, .inl x3), (4, .inl x4), (5, .inl x5)] [] mm := by
  unfold R_findsAdded_130
  refine gl (i' := 131) (fun _ _ => aw_iinc K (dOf ck_mX12_findsAdded rfl rfl) (Nat.le_of_ble_eq_true rfl) rfl) ?_
  refine g_lv (lv' := [(5, .inl _), (0, .inr (.inr (.inl (some _)))), (2, .inl _), (3, .inl _), (4, .inl _)]) rfl ?_
  refine g_goto K (dOf ck_mX12_findsAdded rfl rfl).1 (t := 41) (aJ_of (by decide +kernel)) ?_
  refine g_sub [1, 2, 3, 4, 0] rfl ?_
  exact hk41 _ _
def R_findsAdded_111 (k22 : Int → Int → aM → Option aM) (k41 : Int → aM → Option aM) (x2 : Int) (x3 : Int) (x4 : Int) (x5 : Int) : Nat → Int → aM → Option aM
  | 0, _, _ => none
  | n + 1, x8, mm => if x8 < x4 then (if 0 ≤ (w32 ((w32 (58 + (w32 (6 * x2)))) + x8)) ∧ (w32 ((w32 (58 + (w32 (6 * x2)))) + x8)) < 588 then (if 0 ≤ x8 ∧ x8 < 3 then (st1 (aup mm 198 x8.toNat (mm 177 (w32 ((w32 (58 + (w32 (6 * x2)))) + x8)).toNat)) fun mm23 => (R_findsAdded_111 k22 k41 x2 x3 x4 x5 n (w32 (x8 + 1)) mm23)) else none) else none) else (R_findsAdded_130 k22 k41 x2 x3 x4 x5 mm)
set_option maxHeartbeats 4000000 in
theorem lk_R_findsAdded_111 {p : Program} {l : Launch} {e : Env} {s : State} {m : MethodId} {args : Array Value} {below : List Frame} {meth : Method} {c : Code} {D : va_G} {cA : FieldType → ClassId} {ad adV : Nat → Nat} {z0 : Nat} {al0 : List Nat} (K : aK p s m args meth c mX12_findsAdded D cA ad adV z0) (x2 : Int) (x3 : Int) (x4 : Int) (x5 : Int) (k22 : Int → Int → aM → Option aM) (hk22 : ∀ (x3 : Int) (x4 : Int) (mm : aM), aG p l e { frames := 7, cells := 0, slots := 0, locals := 168 } s m args below meth c D cA ad z0 mX12_findsAdded al0 rM (k22 x3 x4 mm) 22 [(0, .inr (.inr (.inl (some 176)))), (2, .inl x2), (3, .inl x3), (4, .inl x4)] [] mm) (k41 : Int → aM → Option aM) (hk41 : ∀ (x5 : Int) (mm : aM), aG p l e { frames := 7, cells := 0, slots := 0, locals := 168 } s m args below meth c D cA ad z0 mX12_findsAdded al0 rM (k41 x5 mm) 41 [(0, .inr (.inr (.inl (some 176)))), (2, .inl x2), (3, .inl x3), (4, .inl x4), (5, .inl x5)] [] mm)  : ∀ (n : Nat) (x8 : Int) (mm : aM), aG p l e { frames := 7, cells := 0, slots := 0, locals := 168 } s m args below meth c D cA ad z0 mX12_findsAdded al0 rM (R_findsAdded_111 k22 k41 x2 x3 x4 x5 n x8 mm) 111 [(0, .inr (.inr (.inl (some 176)))), (2, .inl x2), (3, .inl x3), (4, .inl x4), (5, .inl x5), (8, .inl x8)] [] mm := by
  intro n
  induction n with
  | zero => intro x8 mm; exact g_none
  | succ n ih =>
    intro x8 mm
    rw [R_findsAdded_111]
    refine gl (i' := 112) (fun _ _ => aw_iload K (dOf ck_mX12_findsAdded rfl rfl) rfl) ?_
    refine gl (i' := 113) (fun _ _ => aw_iload K (dOf ck_mX12_findsAdded rfl rfl) rfl) ?_
    refine g_icmp_ge K (dOf ck_mX12_findsAdded rfl rfl) (t := 130) (aJ_of (by decide +kernel)) (fun h20 => ?_) (fun h20 => ?_)
    · refine gl (i' := 115) (fun _ _ => aw_aload_n K (dOf ck_mX12_findsAdded rfl rfl) rfl) ?_
      refine gl (i' := 116) (fun _ _ => aw_getf K (dOf ck_mX12_findsAdded rfl rfl) rfl rfl (Nat.le_of_ble_eq_true rfl) wd_1246 (k := 41) rfl) ?_
      refine gl (i' := 117) (fun _ _ => aw_iload K (dOf ck_mX12_findsAdded rfl rfl) rfl) ?_
      refine gl (i' := 118) (fun _ _ => aw_aload_n K (dOf ck_mX12_findsAdded rfl rfl) rfl) ?_
      refine gl (i' := 119) (fun _ _ => aw_getf K (dOf ck_mX12_findsAdded rfl rfl) rfl rfl (Nat.le_of_ble_eq_true rfl) wd_1206 (k := 1) rfl) ?_
      refine gl (i' := 120) (fun _ _ => aw_bip K (dOf ck_mX12_findsAdded rfl rfl) (v := 58) rfl) ?_
      refine gl (i' := 121) (fun _ _ => aw_bip K (dOf ck_mX12_findsAdded rfl rfl) (v := 6) rfl) ?_
      refine gl (i' := 122) (fun _ _ => aw_iload_n K (dOf ck_mX12_findsAdded rfl rfl) rfl) ?_
      refine gl (i' := 123) (fun _ _ => aw_imul K (dOf ck_mX12_findsAdded rfl rfl)) ?_
      refine gl (i' := 124) (fun _ _ => aw_iadd K (dOf ck_mX12_findsAdded rfl rfl)) ?_
      refine gl (i' := 125) (fun _ _ => aw_iload K (dOf ck_mX12_findsAdded rfl rfl) rfl) ?_
      refine gl (i' := 126) (fun _ _ => aw_iadd K (dOf ck_mX12_findsAdded rfl rfl)) ?_
      refine g_gd (fun hb21 => ?_)
      refine gl (i' := 127) (fun _ _ => aw_iald K (dOf ck_mX12_findsAdded rfl rfl) rfl hb21) ?_
      refine g_gd (fun hb22 => ?_)
      refine g_st1 ?_
      refine gl (i' := 128) (fun _ _ => aw_iast K (dOf ck_mX12_findsAdded rfl rfl) rfl hb22) ?_
      refine gl (i' := 129) (fun _ _ => aw_iinc K (dOf ck_mX12_findsAdded rfl rfl) (Nat.le_of_ble_eq_true rfl) rfl) ?_
      refine g_lv (lv' := [(8, .inl _), (0, .inr (.inr (.inl (some _)))), (2, .inl _), (3, .inl _), (4, .inl _), (5, .inl _)]) rfl ?_
      refine g_goto K (dOf ck_mX12_findsAdded rfl rfl).1 (t := 111) (aJ_of (by decide +kernel)) ?_
      refine g_sub [1, 2, 3, 4, 5, 0] rfl ?_
      exact ih _ _
    · refine g_sub [0, 1, 2, 3, 4] rfl ?_
      exact lk_R_findsAdded_130 K _ _ _ _ _ hk22 _ hk41 _
def R_findsAdded_98 (k22 : Int → Int → aM → Option aM) (k41 : Int → aM → Option aM) (x2 : Int) (x3 : Int) (x4 : Int) (x5 : Int) (x7 : Int) (mm : aM) : Option aM := (R_isSureWith 0 mm).bind fun r16 => (if r16.1 = 0 then (R_findsAdded_130 k22 k41 x2 x3 x4 x5 r16.2) else (st1 (aup r16.2 176 42 x4) fun mm18 => (st1 (aup mm18 176 43 x7) fun mm19 => (R_findsAdded_111 k22 k41 x2 x3 x4 x5 FU 0 mm19))))
set_option maxHeartbeats 4000000 in
theorem lk_R_findsAdded_98 {p : Program} {l : Launch} {e : Env} {s : State} {m : MethodId} {args : Array Value} {below : List Frame} {meth : Method} {c : Code} {D : va_G} {cA : FieldType → ClassId} {ad adV : Nat → Nat} {z0 : Nat} {al0 : List Nat} (K : aK p s m args meth c mX12_findsAdded D cA ad adV z0) (x2 : Int) (x3 : Int) (x4 : Int) (x5 : Int) (x7 : Int) (k22 : Int → Int → aM → Option aM) (hk22 : ∀ (x3 : Int) (x4 : Int) (mm : aM), aG p l e { frames := 7, cells := 0, slots := 0, locals := 168 } s m args below meth c D cA ad z0 mX12_findsAdded al0 rM (k22 x3 x4 mm) 22 [(0, .inr (.inr (.inl (some 176)))), (2, .inl x2), (3, .inl x3), (4, .inl x4)] [] mm) (k41 : Int → aM → Option aM) (hk41 : ∀ (x5 : Int) (mm : aM), aG p l e { frames := 7, cells := 0, slots := 0, locals := 168 } s m args below meth c D cA ad z0 mX12_findsAdded al0 rM (k41 x5 mm) 41 [(0, .inr (.inr (.inl (some 176)))), (2, .inl x2), (3, .inl x3), (4, .inl x4), (5, .inl x5)] [] mm)  (mm : aM) : aG p l e { frames := 7, cells := 0, slots := 0, locals := 168 } s m args below meth c D cA ad z0 mX12_findsAdded al0 rM (R_findsAdded_98 k22 k41 x2 x3 x4 x5 x7 mm) 98 [(0, .inr (.inr (.inl (some 176)))), (2, .inl x2), (3, .inl x3), (4, .inl x4), (5, .inl x5), (7, .inl x7)] [] mm := by
  unfold R_findsAdded_98
  refine gl (i' := 99) (fun _ _ => aw_aload_n K (dOf ck_mX12_findsAdded rfl rfl) rfl) ?_
  refine gl (i' := 100) (fun _ _ => aw_iconst K (n := 0) (i32 _ rfl) (dOf ck_mX12_findsAdded rfl rfl)) ?_
  refine g_callVIM K [.inl _] rfl (dOf ck_mX12_findsAdded rfl rfl) al_OneBreathModel_403 rfl rfl ⟨wd_1553, wd_123⟩ rfl (Nat.le_of_ble_eq_true rfl) ⟨Nat.le_of_ble_eq_true rfl, Nat.le_of_ble_eq_true rfl⟩ (fun b hb => met_R_isSureWith  hb) (fun r16 hr16 => ?_)
  refine g_if_ne K (dOf ck_mX12_findsAdded rfl rfl) (t := 103) (aJ_of (by decide +kernel)) (fun h17 => ?_) (fun h17 => ?_)
  · refine g_goto K (dOf ck_mX12_findsAdded rfl rfl).1 (t := 130) (aJ_of (by decide +kernel)) ?_
    refine g_sub [0, 1, 2, 3, 4] rfl ?_
    exact lk_R_findsAdded_130 K _ _ _ _ _ hk22 _ hk41 _
  · refine gl (i' := 104) (fun _ _ => aw_aload_n K (dOf ck_mX12_findsAdded rfl rfl) rfl) ?_
    refine gl (i' := 105) (fun _ _ => aw_iload K (dOf ck_mX12_findsAdded rfl rfl) rfl) ?_
    refine g_st1 ?_
    refine gl (i' := 106) (fun _ _ => aw_putf K (dOf ck_mX12_findsAdded rfl rfl) rfl rfl (Nat.le_of_ble_eq_true rfl) wd_1247 (k := 42) rfl rfl (Or.inl rfl)) ?_
    refine gl (i' := 107) (fun _ _ => aw_aload_n K (dOf ck_mX12_findsAdded rfl rfl) rfl) ?_
    refine gl (i' := 108) (fun _ _ => aw_iload K (dOf ck_mX12_findsAdded rfl rfl) rfl) ?_
    refine g_st1 ?_
    refine gl (i' := 109) (fun _ _ => aw_putf K (dOf ck_mX12_findsAdded rfl rfl) rfl rfl (Nat.le_of_ble_eq_true rfl) wd_1248 (k := 43) rfl rfl (Or.inl rfl)) ?_
    refine gl (i' := 110) (fun _ _ => aw_iconst K (n := 0) (i32 _ rfl) (dOf ck_mX12_findsAdded rfl rfl)) ?_
    refine gl (i' := 111) (fun _ _ => aw_istore K (dOf ck_mX12_findsAdded rfl rfl) (Nat.le_of_ble_eq_true rfl)) ?_
    refine g_lv (lv' := [(8, .inl _), (0, .inr (.inr (.inl (some _)))), (2, .inl _), (3, .inl _), (4, .inl _), (5, .inl _), (7, .inl _)]) rfl ?_
    refine g_sub [1, 2, 3, 4, 5, 0] rfl ?_
    exact lk_R_findsAdded_111 K _ _ _ _ _ hk22 _ hk41 FU _ _
def R_findsAdded_50 (k22 : Int → Int → aM → Option aM) (k41 : Int → aM → Option aM) (x2 : Int) (x3 : Int) (x4 : Int) (x5 : Int) : Nat → Int → Int → aM → Option aM
  | 0, _, _, _ => none
  | n + 1, x6, x7, mm => if x7 < 0 then ((R_isThere x2 mm).bind fun r10 => (if r10 = 0 then ((R_isShaped x2 mm).bind fun r12 => (if r12 = 0 then (R_findsAdded_130 k22 k41 x2 x3 x4 x5 mm) else ((R_leastUnlike x2 mm).bind fun r14 => (if (r14.2 176 42) = (-1) then (R_findsAdded_98 k22 k41 x2 x3 x4 x5 r14.1 r14.2) else (if (r14.2 176 43) < r14.1 then (R_findsAdded_98 k22 k41 x2 x3 x4 x5 r14.1 r14.2) else (R_findsAdded_130 k22 k41 x2 x3 x4 x5 r14.2)))))) else (R_findsAdded_130 k22 k41 x2 x3 x4 x5 mm))) else (if (mm 177 0) ≠ 0 then (if 0 ≤ (w32 ((w32 (58 + (w32 (6 * x2)))) + x7)) ∧ (w32 ((w32 (58 + (w32 (6 * x2)))) + x7)) < 588 then (st1 (aup mm 177 (w32 ((w32 (58 + (w32 (6 * x2)))) + x7)).toNat (Int.tmod x6 (mm 177 0))) fun mm27 => (if (mm27 177 0) ≠ 0 then (R_findsAdded_50 k22 k41 x2 x3 x4 x5 n (w32 (Int.tdiv x6 (mm27 177 0))) (w32 (x7 + (-1))) mm27) else none)) else none) else none)
set_option maxHeartbeats 4000000 in
theorem lk_R_findsAdded_50 {p : Program} {l : Launch} {e : Env} {s : State} {m : MethodId} {args : Array Value} {below : List Frame} {meth : Method} {c : Code} {D : va_G} {cA : FieldType → ClassId} {ad adV : Nat → Nat} {z0 : Nat} {al0 : List Nat} (K : aK p s m args meth c mX12_findsAdded D cA ad adV z0) (x2 : Int) (x3 : Int) (x4 : Int) (x5 : Int) (k22 : Int → Int → aM → Option aM) (hk22 : ∀ (x3 : Int) (x4 : Int) (mm : aM), aG p l e { frames := 7, cells := 0, slots := 0, locals := 168 } s m args below meth c D cA ad z0 mX12_findsAdded al0 rM (k22 x3 x4 mm) 22 [(0, .inr (.inr (.inl (some 176)))), (2, .inl x2), (3, .inl x3), (4, .inl x4)] [] mm) (k41 : Int → aM → Option aM) (hk41 : ∀ (x5 : Int) (mm : aM), aG p l e { frames := 7, cells := 0, slots := 0, locals := 168 } s m args below meth c D cA ad z0 mX12_findsAdded al0 rM (k41 x5 mm) 41 [(0, .inr (.inr (.inl (some 176)))), (2, .inl x2), (3, .inl x3), (4, .inl x4), (5, .inl x5)] [] mm)  : ∀ (n : Nat) (x6 : Int) (x7 : Int) (mm : aM), aG p l e { frames := 7, cells := 0, slots := 0, locals := 168 } s m args below meth c D cA ad z0 mX12_findsAdded al0 rM (R_findsAdded_50 k22 k41 x2 x3 x4 x5 n x6 x7 mm) 50 [(0, .inr (.inr (.inl (some 176)))), (2, .inl x2), (3, .inl x3), (4, .inl x4), (5, .inl x5), (6, .inl x6), (7, .inl x7)] [] mm := by
  intro n
  induction n with
  | zero => intro x6 x7 mm; exact g_none
  | succ n ih =>
    intro x6 x7 mm
    rw [R_findsAdded_50]
    refine gl (i' := 51) (fun _ _ => aw_iload K (dOf ck_mX12_findsAdded rfl rfl) rfl) ?_
    refine g_if_lt K (dOf ck_mX12_findsAdded rfl rfl) (t := 77) (aJ_of (by decide +kernel)) (fun h9 => ?_) (fun h9 => ?_)
    · refine gl (i' := 78) (fun _ _ => aw_aload_n K (dOf ck_mX12_findsAdded rfl rfl) rfl) ?_
      refine gl (i' := 79) (fun _ _ => aw_iload_n K (dOf ck_mX12_findsAdded rfl rfl) rfl) ?_
      refine g_callVI K [.inl _] rfl (dOf ck_mX12_findsAdded rfl rfl) al_OneBreathModel_394 rfl rfl ⟨wd_1544, wd_120⟩ rfl (Nat.le_of_ble_eq_true rfl) ⟨Nat.le_of_ble_eq_true rfl, Nat.le_of_ble_eq_true rfl⟩ (fun b hb => met_R_isThere  hb) (fun r10 hr10 => ?_)
      refine g_if_ne K (dOf ck_mX12_findsAdded rfl rfl) (t := 130) (aJ_of (by decide +kernel)) (fun h11 => ?_) (fun h11 => ?_)
      · refine gl (i' := 82) (fun _ _ => aw_aload_n K (dOf ck_mX12_findsAdded rfl rfl) rfl) ?_
        refine gl (i' := 83) (fun _ _ => aw_iload_n K (dOf ck_mX12_findsAdded rfl rfl) rfl) ?_
        refine g_callVI K [.inl _] rfl (dOf ck_mX12_findsAdded rfl rfl) al_OneBreathModel_397 rfl rfl ⟨wd_1547, wd_121⟩ rfl (Nat.le_of_ble_eq_true rfl) ⟨Nat.le_of_ble_eq_true rfl, Nat.le_of_ble_eq_true rfl⟩ (fun b hb => met_R_isShaped  hb) (fun r12 hr12 => ?_)
        refine g_if_ne K (dOf ck_mX12_findsAdded rfl rfl) (t := 86) (aJ_of (by decide +kernel)) (fun h13 => ?_) (fun h13 => ?_)
        · refine g_goto K (dOf ck_mX12_findsAdded rfl rfl).1 (t := 130) (aJ_of (by decide +kernel)) ?_
          refine g_sub [0, 1, 2, 3, 4] rfl ?_
          exact lk_R_findsAdded_130 K _ _ _ _ _ hk22 _ hk41 _
        · refine gl (i' := 87) (fun _ _ => aw_aload_n K (dOf ck_mX12_findsAdded rfl rfl) rfl) ?_
          refine gl (i' := 88) (fun _ _ => aw_iload_n K (dOf ck_mX12_findsAdded rfl rfl) rfl) ?_
          refine g_callVIM K [.inl _] rfl (dOf ck_mX12_findsAdded rfl rfl) al_OneBreathModel_400 rfl rfl ⟨wd_1550, wd_122⟩ rfl (Nat.le_of_ble_eq_true rfl) ⟨Nat.le_of_ble_eq_true rfl, Nat.le_of_ble_eq_true rfl⟩ (fun b hb => met_R_leastUnlike  hb) (fun r14 hr14 => ?_)
          refine gl (i' := 90) (fun _ _ => aw_istore K (dOf ck_mX12_findsAdded rfl rfl) (Nat.le_of_ble_eq_true rfl)) ?_
          refine g_lv (lv' := [(7, .inl _), (0, .inr (.inr (.inl (some _)))), (2, .inl _), (3, .inl _), (4, .inl _), (5, .inl _), (6, .inl _)]) rfl ?_
          refine gl (i' := 91) (fun _ _ => aw_aload_n K (dOf ck_mX12_findsAdded rfl rfl) rfl) ?_
          refine gl (i' := 92) (fun _ _ => aw_getf K (dOf ck_mX12_findsAdded rfl rfl) rfl rfl (Nat.le_of_ble_eq_true rfl) wd_1247 (k := 42) rfl) ?_
          refine gl (i' := 93) (fun _ _ => aw_iconst K (n := -1) (i32 _ rfl) (dOf ck_mX12_findsAdded rfl rfl)) ?_
          refine g_icmp_eq K (dOf ck_mX12_findsAdded rfl rfl) (t := 98) (aJ_of (by decide +kernel)) (fun h15 => ?_) (fun h15 => ?_)
          · refine g_sub [1, 2, 3, 4, 5, 0] rfl ?_
            exact lk_R_findsAdded_98 K _ _ _ _ _ _ hk22 _ hk41 _
          · refine gl (i' := 95) (fun _ _ => aw_iload K (dOf ck_mX12_findsAdded rfl rfl) rfl) ?_
            refine gl (i' := 96) (fun _ _ => aw_aload_n K (dOf ck_mX12_findsAdded rfl rfl) rfl) ?_
            refine gl (i' := 97) (fun _ _ => aw_getf K (dOf ck_mX12_findsAdded rfl rfl) rfl rfl (Nat.le_of_ble_eq_true rfl) wd_1248 (k := 43) rfl) ?_
            refine g_icmp_le K (dOf ck_mX12_findsAdded rfl rfl) (t := 130) (aJ_of (by decide +kernel)) (fun h24 => ?_) (fun h24 => ?_)
            · refine g_sub [1, 2, 3, 4, 5, 0] rfl ?_
              exact lk_R_findsAdded_98 K _ _ _ _ _ _ hk22 _ hk41 _
            · refine g_sub [1, 2, 3, 4, 5] rfl ?_
              exact lk_R_findsAdded_130 K _ _ _ _ _ hk22 _ hk41 _
      · refine g_sub [0, 1, 2, 3, 4] rfl ?_
        exact lk_R_findsAdded_130 K _ _ _ _ _ hk22 _ hk41 _
    · refine gl (i' := 53) (fun _ _ => aw_aload_n K (dOf ck_mX12_findsAdded rfl rfl) rfl) ?_
      refine gl (i' := 54) (fun _ _ => aw_getf K (dOf ck_mX12_findsAdded rfl rfl) rfl rfl (Nat.le_of_ble_eq_true rfl) wd_1206 (k := 1) rfl) ?_
      refine gl (i' := 55) (fun _ _ => aw_bip K (dOf ck_mX12_findsAdded rfl rfl) (v := 58) rfl) ?_
      refine gl (i' := 56) (fun _ _ => aw_bip K (dOf ck_mX12_findsAdded rfl rfl) (v := 6) rfl) ?_
      refine gl (i' := 57) (fun _ _ => aw_iload_n K (dOf ck_mX12_findsAdded rfl rfl) rfl) ?_
      refine gl (i' := 58) (fun _ _ => aw_imul K (dOf ck_mX12_findsAdded rfl rfl)) ?_
      refine gl (i' := 59) (fun _ _ => aw_iadd K (dOf ck_mX12_findsAdded rfl rfl)) ?_
      refine gl (i' := 60) (fun _ _ => aw_iload K (dOf ck_mX12_findsAdded rfl rfl) rfl) ?_
      refine gl (i' := 61) (fun _ _ => aw_iadd K (dOf ck_mX12_findsAdded rfl rfl)) ?_
      refine gl (i' := 62) (fun _ _ => aw_iload K (dOf ck_mX12_findsAdded rfl rfl) rfl) ?_
      refine gl (i' := 63) (fun _ _ => aw_aload_n K (dOf ck_mX12_findsAdded rfl rfl) rfl) ?_
      refine gl (i' := 64) (fun _ _ => aw_getf K (dOf ck_mX12_findsAdded rfl rfl) rfl rfl (Nat.le_of_ble_eq_true rfl) wd_1206 (k := 1) rfl) ?_
      refine gl (i' := 65) (fun _ _ => aw_iconst K (n := 0) (i32 _ rfl) (dOf ck_mX12_findsAdded rfl rfl)) ?_
      refine gl (i' := 66) (fun _ _ => aw_iald K (dOf ck_mX12_findsAdded rfl rfl) rfl (by decide)) ?_
      refine g_gd (fun hb25 => ?_)
      refine gl (i' := 67) (fun _ _ => aw_irem K hb25 (dOf ck_mX12_findsAdded rfl rfl)) ?_
      refine g_gd (fun hb26 => ?_)
      refine g_st1 ?_
      refine gl (i' := 68) (fun _ _ => aw_iast K (dOf ck_mX12_findsAdded rfl rfl) rfl hb26) ?_
      refine gl (i' := 69) (fun _ _ => aw_iload K (dOf ck_mX12_findsAdded rfl rfl) rfl) ?_
      refine gl (i' := 70) (fun _ _ => aw_aload_n K (dOf ck_mX12_findsAdded rfl rfl) rfl) ?_
      refine gl (i' := 71) (fun _ _ => aw_getf K (dOf ck_mX12_findsAdded rfl rfl) rfl rfl (Nat.le_of_ble_eq_true rfl) wd_1206 (k := 1) rfl) ?_
      refine gl (i' := 72) (fun _ _ => aw_iconst K (n := 0) (i32 _ rfl) (dOf ck_mX12_findsAdded rfl rfl)) ?_
      refine gl (i' := 73) (fun _ _ => aw_iald K (dOf ck_mX12_findsAdded rfl rfl) rfl (by decide)) ?_
      refine g_gd (fun hb28 => ?_)
      refine gl (i' := 74) (fun _ _ => aw_idiv K hb28 (dOf ck_mX12_findsAdded rfl rfl)) ?_
      refine gl (i' := 75) (fun _ _ => aw_istore K (dOf ck_mX12_findsAdded rfl rfl) (Nat.le_of_ble_eq_true rfl)) ?_
      refine g_lv (lv' := [(6, .inl _), (0, .inr (.inr (.inl (some _)))), (2, .inl _), (3, .inl _), (4, .inl _), (5, .inl _), (7, .inl _)]) rfl ?_
      refine gl (i' := 76) (fun _ _ => aw_iinc K (dOf ck_mX12_findsAdded rfl rfl) (Nat.le_of_ble_eq_true rfl) rfl) ?_
      refine g_lv (lv' := [(7, .inl _), (6, .inl _), (0, .inr (.inr (.inl (some _)))), (2, .inl _), (3, .inl _), (4, .inl _), (5, .inl _)]) rfl ?_
      refine g_goto K (dOf ck_mX12_findsAdded rfl rfl).1 (t := 50) (aJ_of (by decide +kernel)) ?_
      refine g_sub [2, 3, 4, 5, 6, 1, 0] rfl ?_
      exact ih _ _ _
def R_findsAdded_41 (k22 : Int → Int → aM → Option aM) (x2 : Int) (x3 : Int) (x4 : Int) : Nat → Int → aM → Option aM
  | 0, _, _ => none
  | n + 1, x5, mm => if x5 < x3 then (R_findsAdded_50 k22 (R_findsAdded_41 k22 x2 x3 x4 n) x2 x3 x4 x5 FU x5 (w32 (x4 - 1)) mm) else (k22 x3 (w32 (x4 + 1)) mm)
set_option maxHeartbeats 4000000 in
theorem lk_R_findsAdded_41 {p : Program} {l : Launch} {e : Env} {s : State} {m : MethodId} {args : Array Value} {below : List Frame} {meth : Method} {c : Code} {D : va_G} {cA : FieldType → ClassId} {ad adV : Nat → Nat} {z0 : Nat} {al0 : List Nat} (K : aK p s m args meth c mX12_findsAdded D cA ad adV z0) (x2 : Int) (x3 : Int) (x4 : Int) (k22 : Int → Int → aM → Option aM) (hk22 : ∀ (x3 : Int) (x4 : Int) (mm : aM), aG p l e { frames := 7, cells := 0, slots := 0, locals := 168 } s m args below meth c D cA ad z0 mX12_findsAdded al0 rM (k22 x3 x4 mm) 22 [(0, .inr (.inr (.inl (some 176)))), (2, .inl x2), (3, .inl x3), (4, .inl x4)] [] mm)  : ∀ (n : Nat) (x5 : Int) (mm : aM), aG p l e { frames := 7, cells := 0, slots := 0, locals := 168 } s m args below meth c D cA ad z0 mX12_findsAdded al0 rM (R_findsAdded_41 k22 x2 x3 x4 n x5 mm) 41 [(0, .inr (.inr (.inl (some 176)))), (2, .inl x2), (3, .inl x3), (4, .inl x4), (5, .inl x5)] [] mm := by
  intro n
  induction n with
  | zero => intro x5 mm; exact g_none
  | succ n ih =>
    intro x5 mm
    rw [R_findsAdded_41]
    refine gl (i' := 42) (fun _ _ => aw_iload K (dOf ck_mX12_findsAdded rfl rfl) rfl) ?_
    refine gl (i' := 43) (fun _ _ => aw_iload_n K (dOf ck_mX12_findsAdded rfl rfl) rfl) ?_
    refine g_icmp_ge K (dOf ck_mX12_findsAdded rfl rfl) (t := 132) (aJ_of (by decide +kernel)) (fun h8 => ?_) (fun h8 => ?_)
    · refine gl (i' := 45) (fun _ _ => aw_iload K (dOf ck_mX12_findsAdded rfl rfl) rfl) ?_
      refine gl (i' := 46) (fun _ _ => aw_istore K (dOf ck_mX12_findsAdded rfl rfl) (Nat.le_of_ble_eq_true rfl)) ?_
      refine g_lv (lv' := [(6, .inl _), (0, .inr (.inr (.inl (some _)))), (2, .inl _), (3, .inl _), (4, .inl _), (5, .inl _)]) rfl ?_
      refine gl (i' := 47) (fun _ _ => aw_iload K (dOf ck_mX12_findsAdded rfl rfl) rfl) ?_
      refine gl (i' := 48) (fun _ _ => aw_iconst K (n := 1) (i32 _ rfl) (dOf ck_mX12_findsAdded rfl rfl)) ?_
      refine gl (i' := 49) (fun _ _ => aw_isub K (dOf ck_mX12_findsAdded rfl rfl)) ?_
      refine gl (i' := 50) (fun _ _ => aw_istore K (dOf ck_mX12_findsAdded rfl rfl) (Nat.le_of_ble_eq_true rfl)) ?_
      refine g_lv (lv' := [(7, .inl _), (6, .inl _), (0, .inr (.inr (.inl (some _)))), (2, .inl _), (3, .inl _), (4, .inl _), (5, .inl _)]) rfl ?_
      refine g_sub [2, 3, 4, 5, 6, 1, 0] rfl ?_
      exact lk_R_findsAdded_50 K _ _ _ _ _ hk22 _ ih FU _ _ _
    · refine gl (i' := 133) (fun _ _ => aw_iinc K (dOf ck_mX12_findsAdded rfl rfl) (Nat.le_of_ble_eq_true rfl) rfl) ?_
      refine g_lv (lv' := [(4, .inl _), (0, .inr (.inr (.inl (some _)))), (2, .inl _), (3, .inl _), (5, .inl _)]) rfl ?_
      refine g_goto K (dOf ck_mX12_findsAdded rfl rfl).1 (t := 22) (aJ_of (by decide +kernel)) ?_
      refine g_sub [1, 2, 3, 0] rfl ?_
      exact hk22 _ _ _
def R_findsAdded_22 (x2 : Int) : Nat → Int → Int → aM → Option aM
  | 0, _, _, _ => none
  | n + 1, x3, x4, mm => if 3 < x4 then (some mm) else (if 0 ≤ (w32 (19 + x2)) ∧ (w32 (19 + x2)) < 588 then (st1 (aup mm 177 (w32 (19 + x2)).toNat x4) fun mm7 => (R_findsAdded_41 (R_findsAdded_22 x2 n) x2 (w32 (x3 * (mm 177 0))) x4 FU 0 mm7)) else none)
set_option maxHeartbeats 4000000 in
theorem lk_R_findsAdded_22 {p : Program} {l : Launch} {e : Env} {s : State} {m : MethodId} {args : Array Value} {below : List Frame} {meth : Method} {c : Code} {D : va_G} {cA : FieldType → ClassId} {ad adV : Nat → Nat} {z0 : Nat} {al0 : List Nat} (K : aK p s m args meth c mX12_findsAdded D cA ad adV z0) (x2 : Int)  : ∀ (n : Nat) (x3 : Int) (x4 : Int) (mm : aM), aG p l e { frames := 7, cells := 0, slots := 0, locals := 168 } s m args below meth c D cA ad z0 mX12_findsAdded al0 rM (R_findsAdded_22 x2 n x3 x4 mm) 22 [(0, .inr (.inr (.inl (some 176)))), (2, .inl x2), (3, .inl x3), (4, .inl x4)] [] mm := by
  intro n
  induction n with
  | zero => intro x3 x4 mm; exact g_none
  | succ n ih =>
    intro x3 x4 mm
    rw [R_findsAdded_22]
    refine gl (i' := 23) (fun _ _ => aw_iload K (dOf ck_mX12_findsAdded rfl rfl) rfl) ?_
    refine gl (i' := 24) (fun _ _ => aw_iconst K (n := 3) (i32 _ rfl) (dOf ck_mX12_findsAdded rfl rfl)) ?_
    refine g_icmp_gt K (dOf ck_mX12_findsAdded rfl rfl) (t := 134) (aJ_of (by decide +kernel)) (fun h5 => ?_) (fun h5 => ?_)
    · exact g_vret K (by decide +kernel) rfl rfl
    · refine gl (i' := 26) (fun _ _ => aw_iload_n K (dOf ck_mX12_findsAdded rfl rfl) rfl) ?_
      refine gl (i' := 27) (fun _ _ => aw_aload_n K (dOf ck_mX12_findsAdded rfl rfl) rfl) ?_
      refine gl (i' := 28) (fun _ _ => aw_getf K (dOf ck_mX12_findsAdded rfl rfl) rfl rfl (Nat.le_of_ble_eq_true rfl) wd_1206 (k := 1) rfl) ?_
      refine gl (i' := 29) (fun _ _ => aw_iconst K (n := 0) (i32 _ rfl) (dOf ck_mX12_findsAdded rfl rfl)) ?_
      refine gl (i' := 30) (fun _ _ => aw_iald K (dOf ck_mX12_findsAdded rfl rfl) rfl (by decide)) ?_
      refine gl (i' := 31) (fun _ _ => aw_imul K (dOf ck_mX12_findsAdded rfl rfl)) ?_
      refine gl (i' := 32) (fun _ _ => aw_istore_n K (dOf ck_mX12_findsAdded rfl rfl) (Nat.le_of_ble_eq_true rfl)) ?_
      refine g_lv (lv' := [(3, .inl _), (0, .inr (.inr (.inl (some _)))), (2, .inl _), (4, .inl _)]) rfl ?_
      refine gl (i' := 33) (fun _ _ => aw_aload_n K (dOf ck_mX12_findsAdded rfl rfl) rfl) ?_
      refine gl (i' := 34) (fun _ _ => aw_getf K (dOf ck_mX12_findsAdded rfl rfl) rfl rfl (Nat.le_of_ble_eq_true rfl) wd_1206 (k := 1) rfl) ?_
      refine gl (i' := 35) (fun _ _ => aw_bip K (dOf ck_mX12_findsAdded rfl rfl) (v := 19) rfl) ?_
      refine gl (i' := 36) (fun _ _ => aw_iload_n K (dOf ck_mX12_findsAdded rfl rfl) rfl) ?_
      refine gl (i' := 37) (fun _ _ => aw_iadd K (dOf ck_mX12_findsAdded rfl rfl)) ?_
      refine gl (i' := 38) (fun _ _ => aw_iload K (dOf ck_mX12_findsAdded rfl rfl) rfl) ?_
      refine g_gd (fun hb6 => ?_)
      refine g_st1 ?_
      refine gl (i' := 39) (fun _ _ => aw_iast K (dOf ck_mX12_findsAdded rfl rfl) rfl hb6) ?_
      refine gl (i' := 40) (fun _ _ => aw_iconst K (n := 0) (i32 _ rfl) (dOf ck_mX12_findsAdded rfl rfl)) ?_
      refine gl (i' := 41) (fun _ _ => aw_istore K (dOf ck_mX12_findsAdded rfl rfl) (Nat.le_of_ble_eq_true rfl)) ?_
      refine g_lv (lv' := [(5, .inl _), (3, .inl _), (0, .inr (.inr (.inl (some _)))), (2, .inl _), (4, .inl _)]) rfl ?_
      refine g_sub [2, 3, 1, 4, 0] rfl ?_
      exact lk_R_findsAdded_41 K _ _ _ _ ih FU _ _
def R_findsAdded (x1 : Int) (mm : aM) : Option aM := st1 (aup mm 176 42 (-1)) fun mm1 => (st1 (aup mm1 176 43 (-1)) fun mm2 => (if 0 ≤ (w32 (45 + (mm2 177 18))) ∧ (w32 (45 + (mm2 177 18))) < 588 then (st1 (aup mm2 177 (w32 (45 + (mm2 177 18))).toNat x1) fun mm4 => (R_findsAdded_22 (mm2 177 18) FU 1 1 mm4)) else none))
set_option maxHeartbeats 4000000 in
theorem met_R_findsAdded {l : Launch} {D : va_G} {cA : FieldType → ClassId} {ad adV : Nat → Nat} {z0 : Nat} {x1 : Int} {mm : aM}  {r : aM} (h : R_findsAdded x1 mm = some r) : aMet l D cA ad adV z0 mX12_findsAdded 7 168 0 0 [.inr (.inr (.inl (some 176))), .inl x1] SH mm (rM r).1 SH (rM r).2 := by
  refine aMet_ofG (by decide +kernel) rfl (Nat.le_of_ble_eq_true rfl) h (fun p e s m args below meth c al0 K => ?_)
  unfold R_findsAdded
  refine gl (i' := 1) (fun _ _ => aw_aload_n K (dOf ck_mX12_findsAdded rfl rfl) rfl) ?_
  refine gl (i' := 2) (fun _ _ => aw_iconst K (n := -1) (i32 _ rfl) (dOf ck_mX12_findsAdded rfl rfl)) ?_
  refine g_st1 ?_
  refine gl (i' := 3) (fun _ _ => aw_putf K (dOf ck_mX12_findsAdded rfl rfl) rfl rfl (Nat.le_of_ble_eq_true rfl) wd_1247 (k := 42) rfl rfl (Or.inl rfl)) ?_
  refine gl (i' := 4) (fun _ _ => aw_aload_n K (dOf ck_mX12_findsAdded rfl rfl) rfl) ?_
  refine gl (i' := 5) (fun _ _ => aw_iconst K (n := -1) (i32 _ rfl) (dOf ck_mX12_findsAdded rfl rfl)) ?_
  refine g_st1 ?_
  refine gl (i' := 6) (fun _ _ => aw_putf K (dOf ck_mX12_findsAdded rfl rfl) rfl rfl (Nat.le_of_ble_eq_true rfl) wd_1248 (k := 43) rfl rfl (Or.inl rfl)) ?_
  refine gl (i' := 7) (fun _ _ => aw_aload_n K (dOf ck_mX12_findsAdded rfl rfl) rfl) ?_
  refine gl (i' := 8) (fun _ _ => aw_getf K (dOf ck_mX12_findsAdded rfl rfl) rfl rfl (Nat.le_of_ble_eq_true rfl) wd_1206 (k := 1) rfl) ?_
  refine gl (i' := 9) (fun _ _ => aw_bip K (dOf ck_mX12_findsAdded rfl rfl) (v := 18) rfl) ?_
  refine gl (i' := 10) (fun _ _ => aw_iald K (dOf ck_mX12_findsAdded rfl rfl) rfl (by decide)) ?_
  refine gl (i' := 11) (fun _ _ => aw_istore_n K (dOf ck_mX12_findsAdded rfl rfl) (Nat.le_of_ble_eq_true rfl)) ?_
  refine g_lv (lv' := [(2, .inl _), (0, .inr (.inr (.inl (some _)))), (1, .inl _)]) rfl ?_
  refine gl (i' := 12) (fun _ _ => aw_aload_n K (dOf ck_mX12_findsAdded rfl rfl) rfl) ?_
  refine gl (i' := 13) (fun _ _ => aw_getf K (dOf ck_mX12_findsAdded rfl rfl) rfl rfl (Nat.le_of_ble_eq_true rfl) wd_1206 (k := 1) rfl) ?_
  refine gl (i' := 14) (fun _ _ => aw_bip K (dOf ck_mX12_findsAdded rfl rfl) (v := 45) rfl) ?_
  refine gl (i' := 15) (fun _ _ => aw_iload_n K (dOf ck_mX12_findsAdded rfl rfl) rfl) ?_
  refine gl (i' := 16) (fun _ _ => aw_iadd K (dOf ck_mX12_findsAdded rfl rfl)) ?_
  refine gl (i' := 17) (fun _ _ => aw_iload_n K (dOf ck_mX12_findsAdded rfl rfl) rfl) ?_
  refine g_gd (fun hb3 => ?_)
  refine g_st1 ?_
  refine gl (i' := 18) (fun _ _ => aw_iast K (dOf ck_mX12_findsAdded rfl rfl) rfl hb3) ?_
  refine gl (i' := 19) (fun _ _ => aw_iconst K (n := 1) (i32 _ rfl) (dOf ck_mX12_findsAdded rfl rfl)) ?_
  refine gl (i' := 20) (fun _ _ => aw_istore_n K (dOf ck_mX12_findsAdded rfl rfl) (Nat.le_of_ble_eq_true rfl)) ?_
  refine g_lv (lv' := [(3, .inl _), (2, .inl _), (0, .inr (.inr (.inl (some _)))), (1, .inl _)]) rfl ?_
  refine gl (i' := 21) (fun _ _ => aw_iconst K (n := 1) (i32 _ rfl) (dOf ck_mX12_findsAdded rfl rfl)) ?_
  refine gl (i' := 22) (fun _ _ => aw_istore K (dOf ck_mX12_findsAdded rfl rfl) (Nat.le_of_ble_eq_true rfl)) ?_
  refine g_lv (lv' := [(4, .inl _), (3, .inl _), (2, .inl _), (0, .inr (.inr (.inl (some _)))), (1, .inl _)]) rfl ?_
  refine g_sub [3, 2, 1, 0] rfl ?_
  exact lk_R_findsAdded_22 K _ FU _ _ _
def R_added_23 (x1 : Int) (x2 : Int) (mm : aM) : Option (Int × aM) := (R_findsAdded x1 mm).bind fun r6 => (if (r6 176 42) = (-1) then (some ((-1), r6)) else (if x2 = 0 then (some (r6 176 42, r6)) else (if x2 = 1 then (some (r6 176 43, r6)) else (if (w32 (x2 - 10)) < (r6 176 42) then (if 0 ≤ (w32 (x2 - 10)) ∧ (w32 (x2 - 10)) < 3 then (some (r6 198 (w32 (x2 - 10)).toNat, r6)) else none) else (some ((-1), r6))))))
set_option maxHeartbeats 4000000 in
theorem lk_R_added_23 {p : Program} {l : Launch} {e : Env} {s : State} {m : MethodId} {args : Array Value} {below : List Frame} {meth : Method} {c : Code} {D : va_G} {cA : FieldType → ClassId} {ad adV : Nat → Nat} {z0 : Nat} {al0 : List Nat} (K : aK p s m args meth c mX12_added D cA ad adV z0) (x1 : Int) (x2 : Int)  (mm : aM) : aG p l e { frames := 8, cells := 0, slots := 0, locals := 196 } s m args below meth c D cA ad z0 mX12_added al0 rIM (R_added_23 x1 x2 mm) 23 [(0, .inr (.inr (.inl (some 176)))), (1, .inl x1), (2, .inl x2)] [] mm := by
  unfold R_added_23
  refine gl (i' := 24) (fun _ _ => aw_aload_n K (dOf ck_mX12_added rfl rfl) rfl) ?_
  refine gl (i' := 25) (fun _ _ => aw_iload_n K (dOf ck_mX12_added rfl rfl) rfl) ?_
  refine g_callVM K [.inl _] rfl (dOf ck_mX12_added rfl rfl) al_OneBreathModel_408 rfl rfl ⟨wd_1541, wd_119⟩ rfl (Nat.le_of_ble_eq_true rfl) ⟨Nat.le_of_ble_eq_true rfl, Nat.le_of_ble_eq_true rfl⟩ (fun b hb => met_R_findsAdded  hb) (fun r6 hr6 => ?_)
  refine gl (i' := 27) (fun _ _ => aw_aload_n K (dOf ck_mX12_added rfl rfl) rfl) ?_
  refine gl (i' := 28) (fun _ _ => aw_getf K (dOf ck_mX12_added rfl rfl) rfl rfl (Nat.le_of_ble_eq_true rfl) wd_1247 (k := 42) rfl) ?_
  refine gl (i' := 29) (fun _ _ => aw_iconst K (n := -1) (i32 _ rfl) (dOf ck_mX12_added rfl rfl)) ?_
  refine g_icmp_ne K (dOf ck_mX12_added rfl rfl) (t := 32) (aJ_of (by decide +kernel)) (fun h7 => ?_) (fun h7 => ?_)
  · refine gl (i' := 31) (fun _ _ => aw_iconst K (n := -1) (i32 _ rfl) (dOf ck_mX12_added rfl rfl)) ?_
    exact g_iret K (dOf ck_mX12_added rfl rfl).1 rfl (Or.inl rfl) rfl
  · refine gl (i' := 33) (fun _ _ => aw_iload_n K (dOf ck_mX12_added rfl rfl) rfl) ?_
    refine g_if_ne K (dOf ck_mX12_added rfl rfl) (t := 37) (aJ_of (by decide +kernel)) (fun h8 => ?_) (fun h8 => ?_)
    · refine gl (i' := 35) (fun _ _ => aw_aload_n K (dOf ck_mX12_added rfl rfl) rfl) ?_
      refine gl (i' := 36) (fun _ _ => aw_getf K (dOf ck_mX12_added rfl rfl) rfl rfl (Nat.le_of_ble_eq_true rfl) wd_1247 (k := 42) rfl) ?_
      refine g_goto K (dOf ck_mX12_added rfl rfl).1 (t := 57) (aJ_of (by decide +kernel)) ?_
      exact g_iret K (by decide +kernel) rfl (Or.inl rfl) rfl
    · refine gl (i' := 38) (fun _ _ => aw_iload_n K (dOf ck_mX12_added rfl rfl) rfl) ?_
      refine gl (i' := 39) (fun _ _ => aw_iconst K (n := 1) (i32 _ rfl) (dOf ck_mX12_added rfl rfl)) ?_
      refine g_icmp_ne K (dOf ck_mX12_added rfl rfl) (t := 43) (aJ_of (by decide +kernel)) (fun h9 => ?_) (fun h9 => ?_)
      · refine gl (i' := 41) (fun _ _ => aw_aload_n K (dOf ck_mX12_added rfl rfl) rfl) ?_
        refine gl (i' := 42) (fun _ _ => aw_getf K (dOf ck_mX12_added rfl rfl) rfl rfl (Nat.le_of_ble_eq_true rfl) wd_1248 (k := 43) rfl) ?_
        refine g_goto K (dOf ck_mX12_added rfl rfl).1 (t := 57) (aJ_of (by decide +kernel)) ?_
        exact g_iret K (by decide +kernel) rfl (Or.inl rfl) rfl
      · refine gl (i' := 44) (fun _ _ => aw_iload_n K (dOf ck_mX12_added rfl rfl) rfl) ?_
        refine gl (i' := 45) (fun _ _ => aw_bip K (dOf ck_mX12_added rfl rfl) (v := 10) rfl) ?_
        refine gl (i' := 46) (fun _ _ => aw_isub K (dOf ck_mX12_added rfl rfl)) ?_
        refine gl (i' := 47) (fun _ _ => aw_aload_n K (dOf ck_mX12_added rfl rfl) rfl) ?_
        refine gl (i' := 48) (fun _ _ => aw_getf K (dOf ck_mX12_added rfl rfl) rfl rfl (Nat.le_of_ble_eq_true rfl) wd_1247 (k := 42) rfl) ?_
        refine g_icmp_ge K (dOf ck_mX12_added rfl rfl) (t := 56) (aJ_of (by decide +kernel)) (fun h10 => ?_) (fun h10 => ?_)
        · refine gl (i' := 50) (fun _ _ => aw_aload_n K (dOf ck_mX12_added rfl rfl) rfl) ?_
          refine gl (i' := 51) (fun _ _ => aw_getf K (dOf ck_mX12_added rfl rfl) rfl rfl (Nat.le_of_ble_eq_true rfl) wd_1246 (k := 41) rfl) ?_
          refine gl (i' := 52) (fun _ _ => aw_iload_n K (dOf ck_mX12_added rfl rfl) rfl) ?_
          refine gl (i' := 53) (fun _ _ => aw_bip K (dOf ck_mX12_added rfl rfl) (v := 10) rfl) ?_
          refine gl (i' := 54) (fun _ _ => aw_isub K (dOf ck_mX12_added rfl rfl)) ?_
          refine g_gd (fun hb11 => ?_)
          refine gl (i' := 55) (fun _ _ => aw_iald K (dOf ck_mX12_added rfl rfl) rfl hb11) ?_
          refine g_goto K (dOf ck_mX12_added rfl rfl).1 (t := 57) (aJ_of (by decide +kernel)) ?_
          exact g_iret K (by decide +kernel) rfl (Or.inl rfl) rfl
        · refine gl (i' := 57) (fun _ _ => aw_iconst K (n := -1) (i32 _ rfl) (dOf ck_mX12_added rfl rfl)) ?_
          exact g_iret K (by decide +kernel) rfl (Or.inl rfl) rfl
def R_added (x1 : Int) (x2 : Int) (mm : aM) : Option (Int × aM) := st1 (aup mm 176 0 0) fun mm1 => ((R_within x1 0 3 mm1).bind fun r2 => (if r2 = 0 then (some ((-2), mm1)) else ((R_within x2 0 1 mm1).bind fun r4 => (if r4 = 0 then ((R_within x2 10 12 mm1).bind fun r12 => (if r12 = 0 then (some ((-2), mm1)) else (R_added_23 x1 x2 mm1))) else (R_added_23 x1 x2 mm1)))))
set_option maxHeartbeats 4000000 in
theorem met_R_added {l : Launch} {D : va_G} {cA : FieldType → ClassId} {ad adV : Nat → Nat} {z0 : Nat} {x1 : Int} {x2 : Int} {mm : aM}  {r : Int × aM} (h : R_added x1 x2 mm = some r) : aMet l D cA ad adV z0 mX12_added 8 196 0 0 [.inr (.inr (.inl (some 176))), .inl x1, .inl x2] SH mm (rIM r).1 SH (rIM r).2 := by
  refine aMet_ofG (by decide +kernel) rfl (Nat.le_of_ble_eq_true rfl) h (fun p e s m args below meth c al0 K => ?_)
  unfold R_added
  refine gl (i' := 1) (fun _ _ => aw_aload_n K (dOf ck_mX12_added rfl rfl) rfl) ?_
  refine gl (i' := 2) (fun _ _ => aw_iconst K (n := 0) (i32 _ rfl) (dOf ck_mX12_added rfl rfl)) ?_
  refine g_st1 ?_
  refine gl (i' := 3) (fun _ _ => aw_putf K (dOf ck_mX12_added rfl rfl) rfl rfl (Nat.le_of_ble_eq_true rfl) wd_1205 (k := 0) rfl rfl (Or.inl rfl)) ?_
  refine gl (i' := 4) (fun _ _ => aw_iload_n K (dOf ck_mX12_added rfl rfl) rfl) ?_
  refine gl (i' := 5) (fun _ _ => aw_i2l K (dOf ck_mX12_added rfl rfl)) ?_
  refine gl (i' := 6) (fun _ _ => aw_lcn K (dOf ck_mX12_added rfl rfl) (v := 0) rfl) ?_
  refine gl (i' := 7) (fun _ _ => aw_ldc2 K (dOf ck_mX12_added rfl rfl) (n := 3) wd_1365 (i64 _ rfl)) ?_
  refine g_callSI K [.inr (.inl _), .inr (.inl _), .inr (.inl _)] rfl (dOf ck_mX12_added rfl rfl) al_OneBreathModel_176 wd_1269 rfl (Nat.le_of_ble_eq_true rfl) ⟨Nat.le_of_ble_eq_true rfl, Nat.le_of_ble_eq_true rfl⟩ (fun b hb => met_R_within  hb) (fun r2 hr2 => ?_)
  refine g_if_eq K (dOf ck_mX12_added rfl rfl) (t := 21) (aJ_of (by decide +kernel)) (fun h3 => ?_) (fun h3 => ?_)
  · refine gl (i' := 22) (fun _ _ => aw_bip K (dOf ck_mX12_added rfl rfl) (v := -2) rfl) ?_
    exact g_iret K (dOf ck_mX12_added rfl rfl).1 rfl (Or.inl rfl) rfl
  · refine gl (i' := 10) (fun _ _ => aw_iload_n K (dOf ck_mX12_added rfl rfl) rfl) ?_
    refine gl (i' := 11) (fun _ _ => aw_i2l K (dOf ck_mX12_added rfl rfl)) ?_
    refine gl (i' := 12) (fun _ _ => aw_lcn K (dOf ck_mX12_added rfl rfl) (v := 0) rfl) ?_
    refine gl (i' := 13) (fun _ _ => aw_lcn K (dOf ck_mX12_added rfl rfl) (v := 1) rfl) ?_
    refine g_callSI K [.inr (.inl _), .inr (.inl _), .inr (.inl _)] rfl (dOf ck_mX12_added rfl rfl) al_OneBreathModel_176 wd_1269 rfl (Nat.le_of_ble_eq_true rfl) ⟨Nat.le_of_ble_eq_true rfl, Nat.le_of_ble_eq_true rfl⟩ (fun b hb => met_R_within  hb) (fun r4 hr4 => ?_)
    refine g_if_ne K (dOf ck_mX12_added rfl rfl) (t := 23) (aJ_of (by decide +kernel)) (fun h5 => ?_) (fun h5 => ?_)
    · refine gl (i' := 16) (fun _ _ => aw_iload_n K (dOf ck_mX12_added rfl rfl) rfl) ?_
      refine gl (i' := 17) (fun _ _ => aw_i2l K (dOf ck_mX12_added rfl rfl)) ?_
      refine gl (i' := 18) (fun _ _ => aw_ldc2 K (dOf ck_mX12_added rfl rfl) (n := 10) wd_1355 (i64 _ rfl)) ?_
      refine gl (i' := 19) (fun _ _ => aw_ldc2 K (dOf ck_mX12_added rfl rfl) (n := 12) wd_1539 (i64 _ rfl)) ?_
      refine g_callSI K [.inr (.inl _), .inr (.inl _), .inr (.inl _)] rfl (dOf ck_mX12_added rfl rfl) al_OneBreathModel_176 wd_1269 rfl (Nat.le_of_ble_eq_true rfl) ⟨Nat.le_of_ble_eq_true rfl, Nat.le_of_ble_eq_true rfl⟩ (fun b hb => met_R_within  hb) (fun r12 hr12 => ?_)
      refine g_if_ne K (dOf ck_mX12_added rfl rfl) (t := 23) (aJ_of (by decide +kernel)) (fun h13 => ?_) (fun h13 => ?_)
      · refine gl (i' := 22) (fun _ _ => aw_bip K (dOf ck_mX12_added rfl rfl) (v := -2) rfl) ?_
        exact g_iret K (dOf ck_mX12_added rfl rfl).1 rfl (Or.inl rfl) rfl
      · refine g_sub [0, 1, 2] rfl ?_
        exact lk_R_added_23 K _ _ _
    · refine g_sub [0, 1, 2] rfl ?_
      exact lk_R_added_23 K _ _ _
def R_adds_71 (x2 : Int) (x3 : Int) (x4 : Int) : Nat → Int → aM → Option (Int × aM)
  | 0, _, _ => none
  | n + 1, x5, mm => if x5 < x2 then (if 0 ≤ x5 ∧ x5 < 500 then ((R_soundOf 177 (mm 179 x5.toNat) mm).bind fun r23 => (if 0 ≤ (w32 ((w32 (58 + (w32 (6 * x4)))) + x5)) ∧ (w32 ((w32 (58 + (w32 (6 * x4)))) + x5)) < 588 then (st1 (aup mm 177 (w32 ((w32 (58 + (w32 (6 * x4)))) + x5)).toNat r23) fun mm25 => (R_adds_71 x2 x3 x4 n (w32 (x5 + 1)) mm25)) else none)) else none) else ((R_isSureWith x3 mm).bind fun r20 => (if r20.1 = 0 then (some (0, r20.2)) else (some (1, r20.2))))
set_option maxHeartbeats 4000000 in
theorem lk_R_adds_71 {p : Program} {l : Launch} {e : Env} {s : State} {m : MethodId} {args : Array Value} {below : List Frame} {meth : Method} {c : Code} {D : va_G} {cA : FieldType → ClassId} {ad adV : Nat → Nat} {z0 : Nat} {al0 : List Nat} (K : aK p s m args meth c mX12_adds D cA ad adV z0) (x2 : Int) (x3 : Int) (x4 : Int)  : ∀ (n : Nat) (x5 : Int) (mm : aM), aG p l e { frames := 7, cells := 0, slots := 0, locals := 168 } s m args below meth c D cA ad z0 mX12_adds al0 rIM (R_adds_71 x2 x3 x4 n x5 mm) 71 [(0, .inr (.inr (.inl (some 176)))), (2, .inl x2), (3, .inl x3), (4, .inl x4), (5, .inl x5)] [] mm := by
  intro n
  induction n with
  | zero => intro x5 mm; exact g_none
  | succ n ih =>
    intro x5 mm
    rw [R_adds_71]
    refine gl (i' := 72) (fun _ _ => aw_iload K (dOf ck_mX12_adds rfl rfl) rfl) ?_
    refine gl (i' := 73) (fun _ _ => aw_iload_n K (dOf ck_mX12_adds rfl rfl) rfl) ?_
    refine g_icmp_ge K (dOf ck_mX12_adds rfl rfl) (t := 94) (aJ_of (by decide +kernel)) (fun h19 => ?_) (fun h19 => ?_)
    · refine gl (i' := 75) (fun _ _ => aw_aload_n K (dOf ck_mX12_adds rfl rfl) rfl) ?_
      refine gl (i' := 76) (fun _ _ => aw_getf K (dOf ck_mX12_adds rfl rfl) rfl rfl (Nat.le_of_ble_eq_true rfl) wd_1206 (k := 1) rfl) ?_
      refine gl (i' := 77) (fun _ _ => aw_bip K (dOf ck_mX12_adds rfl rfl) (v := 58) rfl) ?_
      refine gl (i' := 78) (fun _ _ => aw_bip K (dOf ck_mX12_adds rfl rfl) (v := 6) rfl) ?_
      refine gl (i' := 79) (fun _ _ => aw_iload K (dOf ck_mX12_adds rfl rfl) rfl) ?_
      refine gl (i' := 80) (fun _ _ => aw_imul K (dOf ck_mX12_adds rfl rfl)) ?_
      refine gl (i' := 81) (fun _ _ => aw_iadd K (dOf ck_mX12_adds rfl rfl)) ?_
      refine gl (i' := 82) (fun _ _ => aw_iload K (dOf ck_mX12_adds rfl rfl) rfl) ?_
      refine gl (i' := 83) (fun _ _ => aw_iadd K (dOf ck_mX12_adds rfl rfl)) ?_
      refine gl (i' := 84) (fun _ _ => aw_aload_n K (dOf ck_mX12_adds rfl rfl) rfl) ?_
      refine gl (i' := 85) (fun _ _ => aw_aload_n K (dOf ck_mX12_adds rfl rfl) rfl) ?_
      refine gl (i' := 86) (fun _ _ => aw_getf K (dOf ck_mX12_adds rfl rfl) rfl rfl (Nat.le_of_ble_eq_true rfl) wd_1206 (k := 1) rfl) ?_
      refine gl (i' := 87) (fun _ _ => aw_aload_n K (dOf ck_mX12_adds rfl rfl) rfl) ?_
      refine gl (i' := 88) (fun _ _ => aw_getf K (dOf ck_mX12_adds rfl rfl) rfl rfl (Nat.le_of_ble_eq_true rfl) wd_1208 (k := 3) rfl) ?_
      refine gl (i' := 89) (fun _ _ => aw_iload K (dOf ck_mX12_adds rfl rfl) rfl) ?_
      refine g_gd (fun hb22 => ?_)
      refine gl (i' := 90) (fun _ _ => aw_iald K (dOf ck_mX12_adds rfl rfl) rfl hb22) ?_
      refine g_callVI K [.inr (.inr (.inl (some _))), .inl _] rfl (dOf ck_mX12_adds rfl rfl) al_OneBreathModel_180 rfl rfl ⟨wd_1319, wd_76⟩ rfl (Nat.le_of_ble_eq_true rfl) ⟨Nat.le_of_ble_eq_true rfl, Nat.le_of_ble_eq_true rfl⟩ (fun b hb => met_R_soundOf ⟨_, rfl⟩ hb) (fun r23 hr23 => ?_)
      refine g_gd (fun hb24 => ?_)
      refine g_st1 ?_
      refine gl (i' := 92) (fun _ _ => aw_iast K (dOf ck_mX12_adds rfl rfl) rfl hb24) ?_
      refine gl (i' := 93) (fun _ _ => aw_iinc K (dOf ck_mX12_adds rfl rfl) (Nat.le_of_ble_eq_true rfl) rfl) ?_
      refine g_lv (lv' := [(5, .inl _), (0, .inr (.inr (.inl (some _)))), (2, .inl _), (3, .inl _), (4, .inl _)]) rfl ?_
      refine g_goto K (dOf ck_mX12_adds rfl rfl).1 (t := 71) (aJ_of (by decide +kernel)) ?_
      refine g_sub [1, 2, 3, 4, 0] rfl ?_
      exact ih _ _
    · refine gl (i' := 95) (fun _ _ => aw_aload_n K (dOf ck_mX12_adds rfl rfl) rfl) ?_
      refine gl (i' := 96) (fun _ _ => aw_iload_n K (dOf ck_mX12_adds rfl rfl) rfl) ?_
      refine g_callVIM K [.inl _] rfl (dOf ck_mX12_adds rfl rfl) al_OneBreathModel_403 rfl rfl ⟨wd_1553, wd_123⟩ rfl (Nat.le_of_ble_eq_true rfl) ⟨Nat.le_of_ble_eq_true rfl, Nat.le_of_ble_eq_true rfl⟩ (fun b hb => met_R_isSureWith  hb) (fun r20 hr20 => ?_)
      refine g_if_eq K (dOf ck_mX12_adds rfl rfl) (t := 100) (aJ_of (by decide +kernel)) (fun h21 => ?_) (fun h21 => ?_)
      · refine gl (i' := 101) (fun _ _ => aw_iconst K (n := 0) (i32 _ rfl) (dOf ck_mX12_adds rfl rfl)) ?_
        exact g_iret K (by decide +kernel) rfl (Or.inl rfl) rfl
      · refine gl (i' := 99) (fun _ _ => aw_iconst K (n := 1) (i32 _ rfl) (dOf ck_mX12_adds rfl rfl)) ?_
        refine g_goto K (dOf ck_mX12_adds rfl rfl).1 (t := 101) (aJ_of (by decide +kernel)) ?_
        exact g_iret K (by decide +kernel) rfl (Or.inl rfl) rfl
def R_adds (x1 : Int) (x2 : Int) (x3 : Int) (mm : aM) : Option (Int × aM) := st1 (aup mm 176 0 0) fun mm1 => ((R_within x1 0 3 mm1).bind fun r2 => (if r2 = 0 then (some ((-2), mm1)) else ((R_within x2 0 (mm1 176 5) mm1).bind fun r4 => (if r4 = 0 then (some ((-3), mm1)) else ((R_within x3 0 2 mm1).bind fun r6 => (if r6 = 0 then (some ((-3), mm1)) else (st1 (aup mm1 176 5 0) fun mm8 => ((R_within x2 1 6 mm8).bind fun r9 => (if r9 = 0 then (some ((-9), mm8)) else ((R_areSoundsOnTape x2 mm8).bind fun r11 => (if r11 = 0 then (some ((-9), mm8)) else ((R_wordOf 177 0 x2 mm8).bind fun r13 => (if r13 = (-1) then (if 0 ≤ (w32 (45 + (mm8 177 18))) ∧ (w32 (45 + (mm8 177 18))) < 588 then (st1 (aup mm8 177 (w32 (45 + (mm8 177 18))).toNat x1) fun mm16 => (if 0 ≤ (w32 (19 + (mm8 177 18))) ∧ (w32 (19 + (mm8 177 18))) < 588 then (st1 (aup mm16 177 (w32 (19 + (mm8 177 18))).toNat x2) fun mm18 => (R_adds_71 x2 x3 (mm8 177 18) FU 0 mm18)) else none)) else none) else (some ((-9), mm8)))))))))))))))
set_option maxHeartbeats 4000000 in
theorem met_R_adds {l : Launch} {D : va_G} {cA : FieldType → ClassId} {ad adV : Nat → Nat} {z0 : Nat} {x1 : Int} {x2 : Int} {x3 : Int} {mm : aM}  {r : Int × aM} (h : R_adds x1 x2 x3 mm = some r) : aMet l D cA ad adV z0 mX12_adds 7 168 0 0 [.inr (.inr (.inl (some 176))), .inl x1, .inl x2, .inl x3] SH mm (rIM r).1 SH (rIM r).2 := by
  refine aMet_ofG (by decide +kernel) rfl (Nat.le_of_ble_eq_true rfl) h (fun p e s m args below meth c al0 K => ?_)
  unfold R_adds
  refine gl (i' := 1) (fun _ _ => aw_aload_n K (dOf ck_mX12_adds rfl rfl) rfl) ?_
  refine gl (i' := 2) (fun _ _ => aw_iconst K (n := 0) (i32 _ rfl) (dOf ck_mX12_adds rfl rfl)) ?_
  refine g_st1 ?_
  refine gl (i' := 3) (fun _ _ => aw_putf K (dOf ck_mX12_adds rfl rfl) rfl rfl (Nat.le_of_ble_eq_true rfl) wd_1205 (k := 0) rfl rfl (Or.inl rfl)) ?_
  refine gl (i' := 4) (fun _ _ => aw_iload_n K (dOf ck_mX12_adds rfl rfl) rfl) ?_
  refine gl (i' := 5) (fun _ _ => aw_i2l K (dOf ck_mX12_adds rfl rfl)) ?_
  refine gl (i' := 6) (fun _ _ => aw_lcn K (dOf ck_mX12_adds rfl rfl) (v := 0) rfl) ?_
  refine gl (i' := 7) (fun _ _ => aw_ldc2 K (dOf ck_mX12_adds rfl rfl) (n := 3) wd_1365 (i64 _ rfl)) ?_
  refine g_callSI K [.inr (.inl _), .inr (.inl _), .inr (.inl _)] rfl (dOf ck_mX12_adds rfl rfl) al_OneBreathModel_176 wd_1269 rfl (Nat.le_of_ble_eq_true rfl) ⟨Nat.le_of_ble_eq_true rfl, Nat.le_of_ble_eq_true rfl⟩ (fun b hb => met_R_within  hb) (fun r2 hr2 => ?_)
  refine g_if_ne K (dOf ck_mX12_adds rfl rfl) (t := 11) (aJ_of (by decide +kernel)) (fun h3 => ?_) (fun h3 => ?_)
  · refine gl (i' := 10) (fun _ _ => aw_bip K (dOf ck_mX12_adds rfl rfl) (v := -2) rfl) ?_
    exact g_iret K (dOf ck_mX12_adds rfl rfl).1 rfl (Or.inl rfl) rfl
  · refine gl (i' := 12) (fun _ _ => aw_iload_n K (dOf ck_mX12_adds rfl rfl) rfl) ?_
    refine gl (i' := 13) (fun _ _ => aw_i2l K (dOf ck_mX12_adds rfl rfl)) ?_
    refine gl (i' := 14) (fun _ _ => aw_lcn K (dOf ck_mX12_adds rfl rfl) (v := 0) rfl) ?_
    refine gl (i' := 15) (fun _ _ => aw_aload_n K (dOf ck_mX12_adds rfl rfl) rfl) ?_
    refine gl (i' := 16) (fun _ _ => aw_getf K (dOf ck_mX12_adds rfl rfl) rfl rfl (Nat.le_of_ble_eq_true rfl) wd_1210 (k := 5) rfl) ?_
    refine gl (i' := 17) (fun _ _ => aw_i2l K (dOf ck_mX12_adds rfl rfl)) ?_
    refine g_callSI K [.inr (.inl _), .inr (.inl _), .inr (.inl _)] rfl (dOf ck_mX12_adds rfl rfl) al_OneBreathModel_176 wd_1269 rfl (Nat.le_of_ble_eq_true rfl) ⟨Nat.le_of_ble_eq_true rfl, Nat.le_of_ble_eq_true rfl⟩ (fun b hb => met_R_within  hb) (fun r4 hr4 => ?_)
    refine g_if_eq K (dOf ck_mX12_adds rfl rfl) (t := 25) (aJ_of (by decide +kernel)) (fun h5 => ?_) (fun h5 => ?_)
    · refine gl (i' := 26) (fun _ _ => aw_bip K (dOf ck_mX12_adds rfl rfl) (v := -3) rfl) ?_
      exact g_iret K (dOf ck_mX12_adds rfl rfl).1 rfl (Or.inl rfl) rfl
    · refine gl (i' := 20) (fun _ _ => aw_iload_n K (dOf ck_mX12_adds rfl rfl) rfl) ?_
      refine gl (i' := 21) (fun _ _ => aw_i2l K (dOf ck_mX12_adds rfl rfl)) ?_
      refine gl (i' := 22) (fun _ _ => aw_lcn K (dOf ck_mX12_adds rfl rfl) (v := 0) rfl) ?_
      refine gl (i' := 23) (fun _ _ => aw_ldc2 K (dOf ck_mX12_adds rfl rfl) (n := 2) wd_1347 (i64 _ rfl)) ?_
      refine g_callSI K [.inr (.inl _), .inr (.inl _), .inr (.inl _)] rfl (dOf ck_mX12_adds rfl rfl) al_OneBreathModel_176 wd_1269 rfl (Nat.le_of_ble_eq_true rfl) ⟨Nat.le_of_ble_eq_true rfl, Nat.le_of_ble_eq_true rfl⟩ (fun b hb => met_R_within  hb) (fun r6 hr6 => ?_)
      refine g_if_ne K (dOf ck_mX12_adds rfl rfl) (t := 27) (aJ_of (by decide +kernel)) (fun h7 => ?_) (fun h7 => ?_)
      · refine gl (i' := 26) (fun _ _ => aw_bip K (dOf ck_mX12_adds rfl rfl) (v := -3) rfl) ?_
        exact g_iret K (dOf ck_mX12_adds rfl rfl).1 rfl (Or.inl rfl) rfl
      · refine gl (i' := 28) (fun _ _ => aw_aload_n K (dOf ck_mX12_adds rfl rfl) rfl) ?_
        refine gl (i' := 29) (fun _ _ => aw_iconst K (n := 0) (i32 _ rfl) (dOf ck_mX12_adds rfl rfl)) ?_
        refine g_st1 ?_
        refine gl (i' := 30) (fun _ _ => aw_putf K (dOf ck_mX12_adds rfl rfl) rfl rfl (Nat.le_of_ble_eq_true rfl) wd_1210 (k := 5) rfl rfl (Or.inl rfl)) ?_
        refine gl (i' := 31) (fun _ _ => aw_iload_n K (dOf ck_mX12_adds rfl rfl) rfl) ?_
        refine gl (i' := 32) (fun _ _ => aw_i2l K (dOf ck_mX12_adds rfl rfl)) ?_
        refine gl (i' := 33) (fun _ _ => aw_lcn K (dOf ck_mX12_adds rfl rfl) (v := 1) rfl) ?_
        refine gl (i' := 34) (fun _ _ => aw_ldc2 K (dOf ck_mX12_adds rfl rfl) (n := 6) wd_1559 (i64 _ rfl)) ?_
        refine g_callSI K [.inr (.inl _), .inr (.inl _), .inr (.inl _)] rfl (dOf ck_mX12_adds rfl rfl) al_OneBreathModel_176 wd_1269 rfl (Nat.le_of_ble_eq_true rfl) ⟨Nat.le_of_ble_eq_true rfl, Nat.le_of_ble_eq_true rfl⟩ (fun b hb => met_R_within  hb) (fun r9 hr9 => ?_)
        refine g_if_eq K (dOf ck_mX12_adds rfl rfl) (t := 48) (aJ_of (by decide +kernel)) (fun h10 => ?_) (fun h10 => ?_)
        · refine gl (i' := 49) (fun _ _ => aw_bip K (dOf ck_mX12_adds rfl rfl) (v := -9) rfl) ?_
          exact g_iret K (dOf ck_mX12_adds rfl rfl).1 rfl (Or.inl rfl) rfl
        · refine gl (i' := 37) (fun _ _ => aw_aload_n K (dOf ck_mX12_adds rfl rfl) rfl) ?_
          refine gl (i' := 38) (fun _ _ => aw_iload_n K (dOf ck_mX12_adds rfl rfl) rfl) ?_
          refine g_callVI K [.inl _] rfl (dOf ck_mX12_adds rfl rfl) al_OneBreathModel_268 rfl rfl ⟨wd_1419, wd_92⟩ rfl (Nat.le_of_ble_eq_true rfl) ⟨Nat.le_of_ble_eq_true rfl, Nat.le_of_ble_eq_true rfl⟩ (fun b hb => met_R_areSoundsOnTape  hb) (fun r11 hr11 => ?_)
          refine g_if_eq K (dOf ck_mX12_adds rfl rfl) (t := 48) (aJ_of (by decide +kernel)) (fun h12 => ?_) (fun h12 => ?_)
          · refine gl (i' := 49) (fun _ _ => aw_bip K (dOf ck_mX12_adds rfl rfl) (v := -9) rfl) ?_
            exact g_iret K (dOf ck_mX12_adds rfl rfl).1 rfl (Or.inl rfl) rfl
          · refine gl (i' := 41) (fun _ _ => aw_aload_n K (dOf ck_mX12_adds rfl rfl) rfl) ?_
            refine gl (i' := 42) (fun _ _ => aw_aload_n K (dOf ck_mX12_adds rfl rfl) rfl) ?_
            refine gl (i' := 43) (fun _ _ => aw_getf K (dOf ck_mX12_adds rfl rfl) rfl rfl (Nat.le_of_ble_eq_true rfl) wd_1206 (k := 1) rfl) ?_
            refine gl (i' := 44) (fun _ _ => aw_iconst K (n := 0) (i32 _ rfl) (dOf ck_mX12_adds rfl rfl)) ?_
            refine gl (i' := 45) (fun _ _ => aw_iload_n K (dOf ck_mX12_adds rfl rfl) rfl) ?_
            refine g_callVI K [.inr (.inr (.inl (some _))), .inl _, .inl _] rfl (dOf ck_mX12_adds rfl rfl) al_OneBreathModel_198 rfl rfl ⟨wd_1331, wd_80⟩ rfl (Nat.le_of_ble_eq_true rfl) ⟨Nat.le_of_ble_eq_true rfl, Nat.le_of_ble_eq_true rfl⟩ (fun b hb => met_R_wordOf ⟨_, rfl⟩ hb) (fun r13 hr13 => ?_)
            refine gl (i' := 47) (fun _ _ => aw_iconst K (n := -1) (i32 _ rfl) (dOf ck_mX12_adds rfl rfl)) ?_
            refine g_icmp_eq K (dOf ck_mX12_adds rfl rfl) (t := 50) (aJ_of (by decide +kernel)) (fun h14 => ?_) (fun h14 => ?_)
            · refine gl (i' := 51) (fun _ _ => aw_aload_n K (dOf ck_mX12_adds rfl rfl) rfl) ?_
              refine gl (i' := 52) (fun _ _ => aw_getf K (dOf ck_mX12_adds rfl rfl) rfl rfl (Nat.le_of_ble_eq_true rfl) wd_1206 (k := 1) rfl) ?_
              refine gl (i' := 53) (fun _ _ => aw_bip K (dOf ck_mX12_adds rfl rfl) (v := 18) rfl) ?_
              refine gl (i' := 54) (fun _ _ => aw_iald K (dOf ck_mX12_adds rfl rfl) rfl (by decide)) ?_
              refine gl (i' := 55) (fun _ _ => aw_istore K (dOf ck_mX12_adds rfl rfl) (Nat.le_of_ble_eq_true rfl)) ?_
              refine g_lv (lv' := [(4, .inl _), (0, .inr (.inr (.inl (some _)))), (1, .inl _), (2, .inl _), (3, .inl _)]) rfl ?_
              refine gl (i' := 56) (fun _ _ => aw_aload_n K (dOf ck_mX12_adds rfl rfl) rfl) ?_
              refine gl (i' := 57) (fun _ _ => aw_getf K (dOf ck_mX12_adds rfl rfl) rfl rfl (Nat.le_of_ble_eq_true rfl) wd_1206 (k := 1) rfl) ?_
              refine gl (i' := 58) (fun _ _ => aw_bip K (dOf ck_mX12_adds rfl rfl) (v := 45) rfl) ?_
              refine gl (i' := 59) (fun _ _ => aw_iload K (dOf ck_mX12_adds rfl rfl) rfl) ?_
              refine gl (i' := 60) (fun _ _ => aw_iadd K (dOf ck_mX12_adds rfl rfl)) ?_
              refine gl (i' := 61) (fun _ _ => aw_iload_n K (dOf ck_mX12_adds rfl rfl) rfl) ?_
              refine g_gd (fun hb15 => ?_)
              refine g_st1 ?_
              refine gl (i' := 62) (fun _ _ => aw_iast K (dOf ck_mX12_adds rfl rfl) rfl hb15) ?_
              refine gl (i' := 63) (fun _ _ => aw_aload_n K (dOf ck_mX12_adds rfl rfl) rfl) ?_
              refine gl (i' := 64) (fun _ _ => aw_getf K (dOf ck_mX12_adds rfl rfl) rfl rfl (Nat.le_of_ble_eq_true rfl) wd_1206 (k := 1) rfl) ?_
              refine gl (i' := 65) (fun _ _ => aw_bip K (dOf ck_mX12_adds rfl rfl) (v := 19) rfl) ?_
              refine gl (i' := 66) (fun _ _ => aw_iload K (dOf ck_mX12_adds rfl rfl) rfl) ?_
              refine gl (i' := 67) (fun _ _ => aw_iadd K (dOf ck_mX12_adds rfl rfl)) ?_
              refine gl (i' := 68) (fun _ _ => aw_iload_n K (dOf ck_mX12_adds rfl rfl) rfl) ?_
              refine g_gd (fun hb17 => ?_)
              refine g_st1 ?_
              refine gl (i' := 69) (fun _ _ => aw_iast K (dOf ck_mX12_adds rfl rfl) rfl hb17) ?_
              refine gl (i' := 70) (fun _ _ => aw_iconst K (n := 0) (i32 _ rfl) (dOf ck_mX12_adds rfl rfl)) ?_
              refine gl (i' := 71) (fun _ _ => aw_istore K (dOf ck_mX12_adds rfl rfl) (Nat.le_of_ble_eq_true rfl)) ?_
              refine g_lv (lv' := [(5, .inl _), (4, .inl _), (0, .inr (.inr (.inl (some _)))), (1, .inl _), (2, .inl _), (3, .inl _)]) rfl ?_
              refine g_sub [2, 4, 5, 1, 0] rfl ?_
              exact lk_R_adds_71 K _ _ _ FU _ _
            · refine gl (i' := 49) (fun _ _ => aw_bip K (dOf ck_mX12_adds rfl rfl) (v := -9) rfl) ?_
              exact g_iret K (dOf ck_mX12_adds rfl rfl).1 rfl (Or.inl rfl) rfl
def R_bitsOf_4 (mm : aM) (x0 : Int) : Nat → Int → Int → Option Int
  | 0, _, _ => none
  | n + 1, x1, x2 => if x2 < 13 then (R_bitsOf_4 mm x0 n (w32 (x1 + (iand (ishr x0 x2) 1))) (w32 (x2 + 1))) else (some x1)
set_option maxHeartbeats 4000000 in
theorem lk_R_bitsOf_4 {p : Program} {l : Launch} {e : Env} {s : State} {m : MethodId} {args : Array Value} {below : List Frame} {meth : Method} {c : Code} {D : va_G} {cA : FieldType → ClassId} {ad adV : Nat → Nat} {z0 : Nat} {al0 : List Nat} {mm : aM} (K : aK p s m args meth c mX12_bitsOf D cA ad adV z0) (x0 : Int)  : ∀ (n : Nat) (x1 : Int) (x2 : Int), aG p l e { frames := 0, cells := 0, slots := 0, locals := 0 } s m args below meth c D cA ad z0 mX12_bitsOf al0 (rI mm) (R_bitsOf_4 mm x0 n x1 x2) 4 [(0, .inl x0), (1, .inl x1), (2, .inl x2)] [] mm := by
  intro n
  induction n with
  | zero => intro x1 x2; exact g_none
  | succ n ih =>
    intro x1 x2
    rw [R_bitsOf_4]
    refine gl (i' := 5) (fun _ _ => aw_iload_n K (dOf ck_mX12_bitsOf rfl rfl) rfl) ?_
    refine gl (i' := 6) (fun _ _ => aw_bip K (dOf ck_mX12_bitsOf rfl rfl) (v := 13) rfl) ?_
    refine g_icmp_ge K (dOf ck_mX12_bitsOf rfl rfl) (t := 17) (aJ_of (by decide +kernel)) (fun h1 => ?_) (fun h1 => ?_)
    · refine gl (i' := 8) (fun _ _ => aw_iload_n K (dOf ck_mX12_bitsOf rfl rfl) rfl) ?_
      refine gl (i' := 9) (fun _ _ => aw_iload_n K (dOf ck_mX12_bitsOf rfl rfl) rfl) ?_
      refine gl (i' := 10) (fun _ _ => aw_iload_n K (dOf ck_mX12_bitsOf rfl rfl) rfl) ?_
      refine gl (i' := 11) (fun _ _ => aw_ishr K (dOf ck_mX12_bitsOf rfl rfl)) ?_
      refine gl (i' := 12) (fun _ _ => aw_iconst K (n := 1) (i32 _ rfl) (dOf ck_mX12_bitsOf rfl rfl)) ?_
      refine gl (i' := 13) (fun _ _ => aw_iand K (dOf ck_mX12_bitsOf rfl rfl)) ?_
      refine gl (i' := 14) (fun _ _ => aw_iadd K (dOf ck_mX12_bitsOf rfl rfl)) ?_
      refine gl (i' := 15) (fun _ _ => aw_istore_n K (dOf ck_mX12_bitsOf rfl rfl) (Nat.le_of_ble_eq_true rfl)) ?_
      refine g_lv (lv' := [(1, .inl _), (0, .inl _), (2, .inl _)]) rfl ?_
      refine gl (i' := 16) (fun _ _ => aw_iinc K (dOf ck_mX12_bitsOf rfl rfl) (Nat.le_of_ble_eq_true rfl) rfl) ?_
      refine g_lv (lv' := [(2, .inl _), (1, .inl _), (0, .inl _)]) rfl ?_
      refine g_goto K (dOf ck_mX12_bitsOf rfl rfl).1 (t := 4) (aJ_of (by decide +kernel)) ?_
      refine g_sub [2, 1, 0] rfl ?_
      exact ih _ _
    · refine gl (i' := 18) (fun _ _ => aw_iload_n K (dOf ck_mX12_bitsOf rfl rfl) rfl) ?_
      exact g_iret K (by decide +kernel) rfl (Or.inl rfl) rfl
def R_bitsOf (x0 : Int) (mm : aM) : Option Int := R_bitsOf_4 mm x0 FU 0 0
set_option maxHeartbeats 4000000 in
theorem met_R_bitsOf {l : Launch} {D : va_G} {cA : FieldType → ClassId} {ad adV : Nat → Nat} {z0 : Nat} {x0 : Int} {mm : aM}  {r : Int} (h : R_bitsOf x0 mm = some r) : aMet l D cA ad adV z0 mX12_bitsOf 0 0 0 0 [.inl x0] SH mm ((rI mm) r).1 SH ((rI mm) r).2 := by
  refine aMet_ofG (by decide +kernel) rfl (Nat.le_of_ble_eq_true rfl) h (fun p e s m args below meth c al0 K => ?_)
  unfold R_bitsOf
  refine gl (i' := 1) (fun _ _ => aw_iconst K (n := 0) (i32 _ rfl) (dOf ck_mX12_bitsOf rfl rfl)) ?_
  refine gl (i' := 2) (fun _ _ => aw_istore_n K (dOf ck_mX12_bitsOf rfl rfl) (Nat.le_of_ble_eq_true rfl)) ?_
  refine g_lv (lv' := [(1, .inl _), (0, .inl _)]) rfl ?_
  refine gl (i' := 3) (fun _ _ => aw_iconst K (n := 0) (i32 _ rfl) (dOf ck_mX12_bitsOf rfl rfl)) ?_
  refine gl (i' := 4) (fun _ _ => aw_istore_n K (dOf ck_mX12_bitsOf rfl rfl) (Nat.le_of_ble_eq_true rfl)) ?_
  refine g_lv (lv' := [(2, .inl _), (1, .inl _), (0, .inl _)]) rfl ?_
  refine g_sub [2, 1, 0] rfl ?_
  exact lk_R_bitsOf_4 K _ FU _ _
def R_mended_54 (x1 : Int) (x2 : Int) (mm : aM) : Option (Int × aM) := st1 (aup mm 176 32 0) fun mm5 => (if x2 = (-1) then (some ((-1), mm5)) else (if x1 = 0 then ((R_bitsOf x2 mm5).bind fun r8 => (some (r8, mm5))) else (some (x2, mm5))))
set_option maxHeartbeats 4000000 in
theorem lk_R_mended_54 {p : Program} {l : Launch} {e : Env} {s : State} {m : MethodId} {args : Array Value} {below : List Frame} {meth : Method} {c : Code} {D : va_G} {cA : FieldType → ClassId} {ad adV : Nat → Nat} {z0 : Nat} {al0 : List Nat} (K : aK p s m args meth c mX12_mended D cA ad adV z0) (x1 : Int) (x2 : Int)  (mm : aM) : aG p l e { frames := 6, cells := 0, slots := 0, locals := 146 } s m args below meth c D cA ad z0 mX12_mended al0 rIM (R_mended_54 x1 x2 mm) 54 [(0, .inr (.inr (.inl (some 176)))), (1, .inl x1), (2, .inl x2)] [] mm := by
  unfold R_mended_54
  refine gl (i' := 55) (fun _ _ => aw_aload_n K (dOf ck_mX12_mended rfl rfl) rfl) ?_
  refine gl (i' := 56) (fun _ _ => aw_iconst K (n := 0) (i32 _ rfl) (dOf ck_mX12_mended rfl rfl)) ?_
  refine g_st1 ?_
  refine gl (i' := 57) (fun _ _ => aw_putf K (dOf ck_mX12_mended rfl rfl) rfl rfl (Nat.le_of_ble_eq_true rfl) wd_1237 (k := 32) rfl rfl (Or.inl rfl)) ?_
  refine gl (i' := 58) (fun _ _ => aw_iload_n K (dOf ck_mX12_mended rfl rfl) rfl) ?_
  refine gl (i' := 59) (fun _ _ => aw_iconst K (n := -1) (i32 _ rfl) (dOf ck_mX12_mended rfl rfl)) ?_
  refine g_icmp_ne K (dOf ck_mX12_mended rfl rfl) (t := 62) (aJ_of (by decide +kernel)) (fun h6 => ?_) (fun h6 => ?_)
  · refine gl (i' := 61) (fun _ _ => aw_iconst K (n := -1) (i32 _ rfl) (dOf ck_mX12_mended rfl rfl)) ?_
    refine g_goto K (dOf ck_mX12_mended rfl rfl).1 (t := 68) (aJ_of (by decide +kernel)) ?_
    exact g_iret K (by decide +kernel) rfl (Or.inl rfl) rfl
  · refine gl (i' := 63) (fun _ _ => aw_iload_n K (dOf ck_mX12_mended rfl rfl) rfl) ?_
    refine g_if_ne K (dOf ck_mX12_mended rfl rfl) (t := 67) (aJ_of (by decide +kernel)) (fun h7 => ?_) (fun h7 => ?_)
    · refine gl (i' := 65) (fun _ _ => aw_iload_n K (dOf ck_mX12_mended rfl rfl) rfl) ?_
      refine g_callSI K [.inl _] rfl (dOf ck_mX12_mended rfl rfl) al_OneBreathModel_413 wd_1565 rfl (Nat.le_of_ble_eq_true rfl) ⟨Nat.le_of_ble_eq_true rfl, Nat.le_of_ble_eq_true rfl⟩ (fun b hb => met_R_bitsOf  hb) (fun r8 hr8 => ?_)
      refine g_goto K (dOf ck_mX12_mended rfl rfl).1 (t := 68) (aJ_of (by decide +kernel)) ?_
      exact g_iret K (by decide +kernel) rfl (Or.inl rfl) rfl
    · refine gl (i' := 68) (fun _ _ => aw_iload_n K (dOf ck_mX12_mended rfl rfl) rfl) ?_
      exact g_iret K (by decide +kernel) rfl (Or.inl rfl) rfl
def R_mended_52 (k15 : Int → Int → aM → Option (Int × aM)) (x1 : Int) (x2 : Int) (x3 : Int) (mm : aM) : Option (Int × aM) := k15 x2 (w32 (x3 + 1)) mm
set_option maxHeartbeats 4000000 in
theorem lk_R_mended_52 {p : Program} {l : Launch} {e : Env} {s : State} {m : MethodId} {args : Array Value} {below : List Frame} {meth : Method} {c : Code} {D : va_G} {cA : FieldType → ClassId} {ad adV : Nat → Nat} {z0 : Nat} {al0 : List Nat} (K : aK p s m args meth c mX12_mended D cA ad adV z0) (x1 : Int) (x2 : Int) (x3 : Int) (k15 : Int → Int → aM → Option (Int × aM)) (hk15 : ∀ (x2 : Int) (x3 : Int) (mm : aM), aG p l e { frames := 6, cells := 0, slots := 0, locals := 146 } s m args below meth c D cA ad z0 mX12_mended al0 rIM (k15 x2 x3 mm) 15 [(0, .inr (.inr (.inl (some 176)))), (1, .inl x1), (2, .inl x2), (3, .inl x3)] [] mm)  (mm : aM) : aG p l e { frames := 6, cells := 0, slots := 0, locals := 146 } s m args below meth c D cA ad z0 mX12_mended al0 rIM (R_mended_52 k15 x1 x2 x3 mm) 52 [(0, .inr (.inr (.inl (some 176)))), (1, .inl x1), (2, .inl x2), (3, .inl x3)] [] mm := by
  unfold R_mended_52
  refine gl (i' := 53) (fun _ _ => aw_iinc K (dOf ck_mX12_mended rfl rfl) (Nat.le_of_ble_eq_true rfl) rfl) ?_
  refine g_lv (lv' := [(3, .inl _), (0, .inr (.inr (.inl (some _)))), (1, .inl _), (2, .inl _)]) rfl ?_
  refine g_goto K (dOf ck_mX12_mended rfl rfl).1 (t := 15) (aJ_of (by decide +kernel)) ?_
  refine g_sub [1, 2, 3, 0] rfl ?_
  exact hk15 _ _ _
def R_mended_50 (k15 : Int → Int → aM → Option (Int × aM)) (k23 : Int → Int → aM → Option (Int × aM)) (x1 : Int) (x2 : Int) (x3 : Int) (x4 : Int) (mm : aM) : Option (Int × aM) := k23 x2 (w32 (x4 + 1)) mm
set_option maxHeartbeats 4000000 in
theorem lk_R_mended_50 {p : Program} {l : Launch} {e : Env} {s : State} {m : MethodId} {args : Array Value} {below : List Frame} {meth : Method} {c : Code} {D : va_G} {cA : FieldType → ClassId} {ad adV : Nat → Nat} {z0 : Nat} {al0 : List Nat} (K : aK p s m args meth c mX12_mended D cA ad adV z0) (x1 : Int) (x2 : Int) (x3 : Int) (x4 : Int) (k15 : Int → Int → aM → Option (Int × aM)) (hk15 : ∀ (x2 : Int) (x3 : Int) (mm : aM), aG p l e { frames := 6, cells := 0, slots := 0, locals := 146 } s m args below meth c D cA ad z0 mX12_mended al0 rIM (k15 x2 x3 mm) 15 [(0, .inr (.inr (.inl (some 176)))), (1, .inl x1), (2, .inl x2), (3, .inl x3)] [] mm) (k23 : Int → Int → aM → Option (Int × aM)) (hk23 : ∀ (x2 : Int) (x4 : Int) (mm : aM), aG p l e { frames := 6, cells := 0, slots := 0, locals := 146 } s m args below meth c D cA ad z0 mX12_mended al0 rIM (k23 x2 x4 mm) 23 [(0, .inr (.inr (.inl (some 176)))), (1, .inl x1), (2, .inl x2), (3, .inl x3), (4, .inl x4)] [] mm)  (mm : aM) : aG p l e { frames := 6, cells := 0, slots := 0, locals := 146 } s m args below meth c D cA ad z0 mX12_mended al0 rIM (R_mended_50 k15 k23 x1 x2 x3 x4 mm) 50 [(0, .inr (.inr (.inl (some 176)))), (1, .inl x1), (2, .inl x2), (3, .inl x3), (4, .inl x4)] [] mm := by
  unfold R_mended_50
  refine gl (i' := 51) (fun _ _ => aw_iinc K (dOf ck_mX12_mended rfl rfl) (Nat.le_of_ble_eq_true rfl) rfl) ?_
  refine g_lv (lv' := [(4, .inl _), (0, .inr (.inr (.inl (some _)))), (1, .inl _), (2, .inl _), (3, .inl _)]) rfl ?_
  refine g_goto K (dOf ck_mX12_mended rfl rfl).1 (t := 23) (aJ_of (by decide +kernel)) ?_
  refine g_sub [1, 2, 3, 4, 0] rfl ?_
  exact hk23 _ _ _
def R_mended_49 (k15 : Int → Int → aM → Option (Int × aM)) (k23 : Int → Int → aM → Option (Int × aM)) (x1 : Int) (x3 : Int) (x4 : Int) (s0 : Int) (mm : aM) : Option (Int × aM) := R_mended_50 k15 k23 x1 s0 x3 x4 mm
set_option maxHeartbeats 4000000 in
theorem lk_R_mended_49 {p : Program} {l : Launch} {e : Env} {s : State} {m : MethodId} {args : Array Value} {below : List Frame} {meth : Method} {c : Code} {D : va_G} {cA : FieldType → ClassId} {ad adV : Nat → Nat} {z0 : Nat} {al0 : List Nat} (K : aK p s m args meth c mX12_mended D cA ad adV z0) (x1 : Int) (x3 : Int) (x4 : Int) (k15 : Int → Int → aM → Option (Int × aM)) (hk15 : ∀ (x2 : Int) (x3 : Int) (mm : aM), aG p l e { frames := 6, cells := 0, slots := 0, locals := 146 } s m args below meth c D cA ad z0 mX12_mended al0 rIM (k15 x2 x3 mm) 15 [(0, .inr (.inr (.inl (some 176)))), (1, .inl x1), (2, .inl x2), (3, .inl x3)] [] mm) (k23 : Int → Int → aM → Option (Int × aM)) (hk23 : ∀ (x2 : Int) (x4 : Int) (mm : aM), aG p l e { frames := 6, cells := 0, slots := 0, locals := 146 } s m args below meth c D cA ad z0 mX12_mended al0 rIM (k23 x2 x4 mm) 23 [(0, .inr (.inr (.inl (some 176)))), (1, .inl x1), (2, .inl x2), (3, .inl x3), (4, .inl x4)] [] mm)  (s0 : Int) (mm : aM) : aG p l e { frames := 6, cells := 0, slots := 0, locals := 146 } s m args below meth c D cA ad z0 mX12_mended al0 rIM (R_mended_49 k15 k23 x1 x3 x4 s0 mm) 49 [(0, .inr (.inr (.inl (some 176)))), (1, .inl x1), (3, .inl x3), (4, .inl x4)] [.inl s0] mm := by
  unfold R_mended_49
  refine gl (i' := 50) (fun _ _ => aw_istore_n K (dOf ck_mX12_mended rfl rfl) (Nat.le_of_ble_eq_true rfl)) ?_
  refine g_lv (lv' := [(2, .inl _), (0, .inr (.inr (.inl (some _)))), (1, .inl _), (3, .inl _), (4, .inl _)]) rfl ?_
  refine g_sub [1, 2, 0, 3, 4] rfl ?_
  exact lk_R_mended_50 K _ _ _ _ _ hk15 _ hk23 _
def R_mended_23 (k15 : Int → Int → aM → Option (Int × aM)) (x1 : Int) (x3 : Int) : Nat → Int → Int → aM → Option (Int × aM)
  | 0, _, _, _ => none
  | n + 1, x2, x4, mm => if x4 < (ishl 1 (mm 177 18)) then (if x2 = (-1) then ((R_bitsOf x4 mm).bind fun r12 => (if r12 = x3 then (st1 (aup mm 176 32 x4) fun mm14 => ((R_isSure 0 mm14).bind fun r15 => (if r15.1 = 0 then (R_mended_49 k15 (R_mended_23 k15 x1 x3 n) x1 x3 x4 (-1) r15.2) else (R_mended_49 k15 (R_mended_23 k15 x1 x3 n) x1 x3 x4 x4 r15.2)))) else (R_mended_50 k15 (R_mended_23 k15 x1 x3 n) x1 x2 x3 x4 mm))) else (R_mended_52 k15 x1 x2 x3 mm)) else (R_mended_52 k15 x1 x2 x3 mm)
set_option maxHeartbeats 4000000 in
theorem lk_R_mended_23 {p : Program} {l : Launch} {e : Env} {s : State} {m : MethodId} {args : Array Value} {below : List Frame} {meth : Method} {c : Code} {D : va_G} {cA : FieldType → ClassId} {ad adV : Nat → Nat} {z0 : Nat} {al0 : List Nat} (K : aK p s m args meth c mX12_mended D cA ad adV z0) (x1 : Int) (x3 : Int) (k15 : Int → Int → aM → Option (Int × aM)) (hk15 : ∀ (x2 : Int) (x3 : Int) (mm : aM), aG p l e { frames := 6, cells := 0, slots := 0, locals := 146 } s m args below meth c D cA ad z0 mX12_mended al0 rIM (k15 x2 x3 mm) 15 [(0, .inr (.inr (.inl (some 176)))), (1, .inl x1), (2, .inl x2), (3, .inl x3)] [] mm)  : ∀ (n : Nat) (x2 : Int) (x4 : Int) (mm : aM), aG p l e { frames := 6, cells := 0, slots := 0, locals := 146 } s m args below meth c D cA ad z0 mX12_mended al0 rIM (R_mended_23 k15 x1 x3 n x2 x4 mm) 23 [(0, .inr (.inr (.inl (some 176)))), (1, .inl x1), (2, .inl x2), (3, .inl x3), (4, .inl x4)] [] mm := by
  intro n
  induction n with
  | zero => intro x2 x4 mm; exact g_none
  | succ n ih =>
    intro x2 x4 mm
    rw [R_mended_23]
    refine gl (i' := 24) (fun _ _ => aw_iload K (dOf ck_mX12_mended rfl rfl) rfl) ?_
    refine gl (i' := 25) (fun _ _ => aw_iconst K (n := 1) (i32 _ rfl) (dOf ck_mX12_mended rfl rfl)) ?_
    refine gl (i' := 26) (fun _ _ => aw_aload_n K (dOf ck_mX12_mended rfl rfl) rfl) ?_
    refine gl (i' := 27) (fun _ _ => aw_getf K (dOf ck_mX12_mended rfl rfl) rfl rfl (Nat.le_of_ble_eq_true rfl) wd_1206 (k := 1) rfl) ?_
    refine gl (i' := 28) (fun _ _ => aw_bip K (dOf ck_mX12_mended rfl rfl) (v := 18) rfl) ?_
    refine gl (i' := 29) (fun _ _ => aw_iald K (dOf ck_mX12_mended rfl rfl) rfl (by decide)) ?_
    refine gl (i' := 30) (fun _ _ => aw_ishl K (dOf ck_mX12_mended rfl rfl)) ?_
    refine g_icmp_ge K (dOf ck_mX12_mended rfl rfl) (t := 52) (aJ_of (by decide +kernel)) (fun h10 => ?_) (fun h10 => ?_)
    · refine gl (i' := 32) (fun _ _ => aw_iload_n K (dOf ck_mX12_mended rfl rfl) rfl) ?_
      refine gl (i' := 33) (fun _ _ => aw_iconst K (n := -1) (i32 _ rfl) (dOf ck_mX12_mended rfl rfl)) ?_
      refine g_icmp_ne K (dOf ck_mX12_mended rfl rfl) (t := 52) (aJ_of (by decide +kernel)) (fun h11 => ?_) (fun h11 => ?_)
      · refine gl (i' := 35) (fun _ _ => aw_iload K (dOf ck_mX12_mended rfl rfl) rfl) ?_
        refine g_callSI K [.inl _] rfl (dOf ck_mX12_mended rfl rfl) al_OneBreathModel_413 wd_1565 rfl (Nat.le_of_ble_eq_true rfl) ⟨Nat.le_of_ble_eq_true rfl, Nat.le_of_ble_eq_true rfl⟩ (fun b hb => met_R_bitsOf  hb) (fun r12 hr12 => ?_)
        refine gl (i' := 37) (fun _ _ => aw_iload_n K (dOf ck_mX12_mended rfl rfl) rfl) ?_
        refine g_icmp_eq K (dOf ck_mX12_mended rfl rfl) (t := 39) (aJ_of (by decide +kernel)) (fun h13 => ?_) (fun h13 => ?_)
        · refine gl (i' := 40) (fun _ _ => aw_aload_n K (dOf ck_mX12_mended rfl rfl) rfl) ?_
          refine gl (i' := 41) (fun _ _ => aw_iload K (dOf ck_mX12_mended rfl rfl) rfl) ?_
          refine g_st1 ?_
          refine gl (i' := 42) (fun _ _ => aw_putf K (dOf ck_mX12_mended rfl rfl) rfl rfl (Nat.le_of_ble_eq_true rfl) wd_1237 (k := 32) rfl rfl (Or.inl rfl)) ?_
          refine gl (i' := 43) (fun _ _ => aw_aload_n K (dOf ck_mX12_mended rfl rfl) rfl) ?_
          refine gl (i' := 44) (fun _ _ => aw_iconst K (n := 0) (i32 _ rfl) (dOf ck_mX12_mended rfl rfl)) ?_
          refine g_callVIM K [.inl _] rfl (dOf ck_mX12_mended rfl rfl) al_OneBreathModel_385 rfl rfl ⟨wd_1533, wd_118⟩ rfl (Nat.le_of_ble_eq_true rfl) ⟨Nat.le_of_ble_eq_true rfl, Nat.le_of_ble_eq_true rfl⟩ (fun b hb => met_R_isSure  hb) (fun r15 hr15 => ?_)
          refine g_if_eq K (dOf ck_mX12_mended rfl rfl) (t := 48) (aJ_of (by decide +kernel)) (fun h16 => ?_) (fun h16 => ?_)
          · refine gl (i' := 49) (fun _ _ => aw_iconst K (n := -1) (i32 _ rfl) (dOf ck_mX12_mended rfl rfl)) ?_
            refine g_sub [0, 1, 3, 4] rfl ?_
            exact lk_R_mended_49 K _ _ _ _ hk15 _ ih _ _
          · refine gl (i' := 47) (fun _ _ => aw_iload K (dOf ck_mX12_mended rfl rfl) rfl) ?_
            refine g_goto K (dOf ck_mX12_mended rfl rfl).1 (t := 49) (aJ_of (by decide +kernel)) ?_
            refine g_sub [0, 1, 3, 4] rfl ?_
            exact lk_R_mended_49 K _ _ _ _ hk15 _ ih _ _
        · refine g_goto K (dOf ck_mX12_mended rfl rfl).1 (t := 50) (aJ_of (by decide +kernel)) ?_
          refine g_sub [0, 1, 2, 3, 4] rfl ?_
          exact lk_R_mended_50 K _ _ _ _ _ hk15 _ ih _
      · refine g_sub [0, 1, 2, 3] rfl ?_
        exact lk_R_mended_52 K _ _ _ _ hk15 _
    · refine g_sub [0, 1, 2, 3] rfl ?_
      exact lk_R_mended_52 K _ _ _ _ hk15 _
def R_mended_15 (x1 : Int) : Nat → Int → Int → aM → Option (Int × aM)
  | 0, _, _, _ => none
  | n + 1, x2, x3, mm => if 3 < x3 then (R_mended_54 x1 x2 mm) else (if x2 = (-1) then (R_mended_23 (R_mended_15 x1 n) x1 x3 FU x2 0 mm) else (R_mended_54 x1 x2 mm))
set_option maxHeartbeats 4000000 in
theorem lk_R_mended_15 {p : Program} {l : Launch} {e : Env} {s : State} {m : MethodId} {args : Array Value} {below : List Frame} {meth : Method} {c : Code} {D : va_G} {cA : FieldType → ClassId} {ad adV : Nat → Nat} {z0 : Nat} {al0 : List Nat} (K : aK p s m args meth c mX12_mended D cA ad adV z0) (x1 : Int)  : ∀ (n : Nat) (x2 : Int) (x3 : Int) (mm : aM), aG p l e { frames := 6, cells := 0, slots := 0, locals := 146 } s m args below meth c D cA ad z0 mX12_mended al0 rIM (R_mended_15 x1 n x2 x3 mm) 15 [(0, .inr (.inr (.inl (some 176)))), (1, .inl x1), (2, .inl x2), (3, .inl x3)] [] mm := by
  intro n
  induction n with
  | zero => intro x2 x3 mm; exact g_none
  | succ n ih =>
    intro x2 x3 mm
    rw [R_mended_15]
    refine gl (i' := 16) (fun _ _ => aw_iload_n K (dOf ck_mX12_mended rfl rfl) rfl) ?_
    refine gl (i' := 17) (fun _ _ => aw_iconst K (n := 3) (i32 _ rfl) (dOf ck_mX12_mended rfl rfl)) ?_
    refine g_icmp_gt K (dOf ck_mX12_mended rfl rfl) (t := 54) (aJ_of (by decide +kernel)) (fun h4 => ?_) (fun h4 => ?_)
    · refine g_sub [0, 1, 2] rfl ?_
      exact lk_R_mended_54 K _ _ _
    · refine gl (i' := 19) (fun _ _ => aw_iload_n K (dOf ck_mX12_mended rfl rfl) rfl) ?_
      refine gl (i' := 20) (fun _ _ => aw_iconst K (n := -1) (i32 _ rfl) (dOf ck_mX12_mended rfl rfl)) ?_
      refine g_icmp_ne K (dOf ck_mX12_mended rfl rfl) (t := 54) (aJ_of (by decide +kernel)) (fun h9 => ?_) (fun h9 => ?_)
      · refine gl (i' := 22) (fun _ _ => aw_iconst K (n := 0) (i32 _ rfl) (dOf ck_mX12_mended rfl rfl)) ?_
        refine gl (i' := 23) (fun _ _ => aw_istore K (dOf ck_mX12_mended rfl rfl) (Nat.le_of_ble_eq_true rfl)) ?_
        refine g_lv (lv' := [(4, .inl _), (0, .inr (.inr (.inl (some _)))), (1, .inl _), (2, .inl _), (3, .inl _)]) rfl ?_
        refine g_sub [1, 2, 3, 4, 0] rfl ?_
        exact lk_R_mended_23 K _ _ _ ih FU _ _ _
      · refine g_sub [0, 1, 2] rfl ?_
        exact lk_R_mended_54 K _ _ _
def R_mended (x1 : Int) (mm : aM) : Option (Int × aM) := st1 (aup mm 176 0 0) fun mm1 => ((R_within x1 0 1 mm1).bind fun r2 => (if r2 = 0 then (some ((-2), mm1)) else (R_mended_15 x1 FU (-1) 0 mm1)))
set_option maxHeartbeats 4000000 in
theorem met_R_mended {l : Launch} {D : va_G} {cA : FieldType → ClassId} {ad adV : Nat → Nat} {z0 : Nat} {x1 : Int} {mm : aM}  {r : Int × aM} (h : R_mended x1 mm = some r) : aMet l D cA ad adV z0 mX12_mended 6 146 0 0 [.inr (.inr (.inl (some 176))), .inl x1] SH mm (rIM r).1 SH (rIM r).2 := by
  refine aMet_ofG (by decide +kernel) rfl (Nat.le_of_ble_eq_true rfl) h (fun p e s m args below meth c al0 K => ?_)
  unfold R_mended
  refine gl (i' := 1) (fun _ _ => aw_aload_n K (dOf ck_mX12_mended rfl rfl) rfl) ?_
  refine gl (i' := 2) (fun _ _ => aw_iconst K (n := 0) (i32 _ rfl) (dOf ck_mX12_mended rfl rfl)) ?_
  refine g_st1 ?_
  refine gl (i' := 3) (fun _ _ => aw_putf K (dOf ck_mX12_mended rfl rfl) rfl rfl (Nat.le_of_ble_eq_true rfl) wd_1205 (k := 0) rfl rfl (Or.inl rfl)) ?_
  refine gl (i' := 4) (fun _ _ => aw_iload_n K (dOf ck_mX12_mended rfl rfl) rfl) ?_
  refine gl (i' := 5) (fun _ _ => aw_i2l K (dOf ck_mX12_mended rfl rfl)) ?_
  refine gl (i' := 6) (fun _ _ => aw_lcn K (dOf ck_mX12_mended rfl rfl) (v := 0) rfl) ?_
  refine gl (i' := 7) (fun _ _ => aw_lcn K (dOf ck_mX12_mended rfl rfl) (v := 1) rfl) ?_
  refine g_callSI K [.inr (.inl _), .inr (.inl _), .inr (.inl _)] rfl (dOf ck_mX12_mended rfl rfl) al_OneBreathModel_176 wd_1269 rfl (Nat.le_of_ble_eq_true rfl) ⟨Nat.le_of_ble_eq_true rfl, Nat.le_of_ble_eq_true rfl⟩ (fun b hb => met_R_within  hb) (fun r2 hr2 => ?_)
  refine g_if_ne K (dOf ck_mX12_mended rfl rfl) (t := 11) (aJ_of (by decide +kernel)) (fun h3 => ?_) (fun h3 => ?_)
  · refine gl (i' := 10) (fun _ _ => aw_bip K (dOf ck_mX12_mended rfl rfl) (v := -2) rfl) ?_
    exact g_iret K (dOf ck_mX12_mended rfl rfl).1 rfl (Or.inl rfl) rfl
  · refine gl (i' := 12) (fun _ _ => aw_iconst K (n := -1) (i32 _ rfl) (dOf ck_mX12_mended rfl rfl)) ?_
    refine gl (i' := 13) (fun _ _ => aw_istore_n K (dOf ck_mX12_mended rfl rfl) (Nat.le_of_ble_eq_true rfl)) ?_
    refine g_lv (lv' := [(2, .inl _), (0, .inr (.inr (.inl (some _)))), (1, .inl _)]) rfl ?_
    refine gl (i' := 14) (fun _ _ => aw_iconst K (n := 0) (i32 _ rfl) (dOf ck_mX12_mended rfl rfl)) ?_
    refine gl (i' := 15) (fun _ _ => aw_istore_n K (dOf ck_mX12_mended rfl rfl) (Nat.le_of_ble_eq_true rfl)) ?_
    refine g_lv (lv' := [(3, .inl _), (2, .inl _), (0, .inr (.inr (.inl (some _)))), (1, .inl _)]) rfl ?_
    refine g_sub [2, 3, 1, 0] rfl ?_
    exact lk_R_mended_15 K _ FU _ _ _
def R_changed_99 (k13 : Int → aM → Option (Int × aM)) (k21 : Int → aM → Option (Int × aM)) (k42 : Int → aM → Option (Int × aM)) (x1 : Int) (x2 : Int) (x3 : Int) (x4 : Int) (x5 : Int) (mm : aM) : Option (Int × aM) := k42 (w32 (x5 + 1)) mm
set_option maxHeartbeats 4000000 in
theorem lk_R_changed_99 {p : Program} {l : Launch} {e : Env} {s : State} {m : MethodId} {args : Array Value} {below : List Frame} {meth : Method} {c : Code} {D : va_G} {cA : FieldType → ClassId} {ad adV : Nat → Nat} {z0 : Nat} {al0 : List Nat} (K : aK p s m args meth c mX12_changed D cA ad adV z0) (x1 : Int) (x2 : Int) (x3 : Int) (x4 : Int) (x5 : Int) (k13 : Int → aM → Option (Int × aM)) (hk13 : ∀ (x2 : Int) (mm : aM), aG p l e { frames := 6, cells := 0, slots := 0, locals := 146 } s m args below meth c D cA ad z0 mX12_changed al0 rIM (k13 x2 mm) 13 [(0, .inr (.inr (.inl (some 176)))), (1, .inl x1), (2, .inl x2)] [] mm) (k21 : Int → aM → Option (Int × aM)) (hk21 : ∀ (x3 : Int) (mm : aM), aG p l e { frames := 6, cells := 0, slots := 0, locals := 146 } s m args below meth c D cA ad z0 mX12_changed al0 rIM (k21 x3 mm) 21 [(0, .inr (.inr (.inl (some 176)))), (1, .inl x1), (2, .inl x2), (3, .inl x3)] [] mm) (k42 : Int → aM → Option (Int × aM)) (hk42 : ∀ (x5 : Int) (mm : aM), aG p l e { frames := 6, cells := 0, slots := 0, locals := 146 } s m args below meth c D cA ad z0 mX12_changed al0 rIM (k42 x5 mm) 42 [(0, .inr (.inr (.inl (some 176)))), (1, .inl x1), (2, .inl x2), (3, .inl x3), (4, .inl x4), (5, .inl x5)] [] mm)  (mm : aM) : aG p l e { frames := 6, cells := 0, slots := 0, locals := 146 } s m args below meth c D cA ad z0 mX12_changed al0 rIM (R_changed_99 k13 k21 k42 x1 x2 x3 x4 x5 mm) 99 [(0, .inr (.inr (.inl (some 176)))), (1, .inl x1), (2, .inl x2), (3, .inl x3), (4, .inl x4), (5, .inl x5)] [] mm := by
  unfold R_changed_99
  refine gl (i' := 100) (fun _ _ => aw_iinc K (dOf ck_mX12_changed rfl rfl) (Nat.le_of_ble_eq_true rfl) rfl) ?_
  refine g_lv (lv' := [(5, .inl _), (0, .inr (.inr (.inl (some _)))), (1, .inl _), (2, .inl _), (3, .inl _), (4, .inl _)]) rfl ?_
  refine g_goto K (dOf ck_mX12_changed rfl rfl).1 (t := 42) (aJ_of (by decide +kernel)) ?_
  refine g_sub [1, 2, 3, 4, 5, 0] rfl ?_
  exact hk42 _ _
def R_changed_74 (k13 : Int → aM → Option (Int × aM)) (k21 : Int → aM → Option (Int × aM)) (k42 : Int → aM → Option (Int × aM)) (x1 : Int) (x2 : Int) (x3 : Int) (x4 : Int) (x5 : Int) (s0 : Int) (mm : aM) : Option (Int × aM) := if 0 ≤ (w32 ((w32 (58 + (w32 (6 * x2)))) + x3)) ∧ (w32 ((w32 (58 + (w32 (6 * x2)))) + x3)) < 588 then (st1 (aup mm 177 (w32 ((w32 (58 + (w32 (6 * x2)))) + x3)).toNat x4) fun mm15 => (if s0 = 0 then (R_changed_99 k13 k21 k42 x1 x2 x3 x4 x5 mm15) else (if x1 = 0 then (some (x2, mm15)) else (if x1 = 1 then (some (x3, mm15)) else (some (x5, mm15)))))) else none
set_option maxHeartbeats 4000000 in
theorem lk_R_changed_74 {p : Program} {l : Launch} {e : Env} {s : State} {m : MethodId} {args : Array Value} {below : List Frame} {meth : Method} {c : Code} {D : va_G} {cA : FieldType → ClassId} {ad adV : Nat → Nat} {z0 : Nat} {al0 : List Nat} (K : aK p s m args meth c mX12_changed D cA ad adV z0) (x1 : Int) (x2 : Int) (x3 : Int) (x4 : Int) (x5 : Int) (k13 : Int → aM → Option (Int × aM)) (hk13 : ∀ (x2 : Int) (mm : aM), aG p l e { frames := 6, cells := 0, slots := 0, locals := 146 } s m args below meth c D cA ad z0 mX12_changed al0 rIM (k13 x2 mm) 13 [(0, .inr (.inr (.inl (some 176)))), (1, .inl x1), (2, .inl x2)] [] mm) (k21 : Int → aM → Option (Int × aM)) (hk21 : ∀ (x3 : Int) (mm : aM), aG p l e { frames := 6, cells := 0, slots := 0, locals := 146 } s m args below meth c D cA ad z0 mX12_changed al0 rIM (k21 x3 mm) 21 [(0, .inr (.inr (.inl (some 176)))), (1, .inl x1), (2, .inl x2), (3, .inl x3)] [] mm) (k42 : Int → aM → Option (Int × aM)) (hk42 : ∀ (x5 : Int) (mm : aM), aG p l e { frames := 6, cells := 0, slots := 0, locals := 146 } s m args below meth c D cA ad z0 mX12_changed al0 rIM (k42 x5 mm) 42 [(0, .inr (.inr (.inl (some 176)))), (1, .inl x1), (2, .inl x2), (3, .inl x3), (4, .inl x4), (5, .inl x5)] [] mm)  (s0 : Int) (mm : aM) : aG p l e { frames := 6, cells := 0, slots := 0, locals := 146 } s m args below meth c D cA ad z0 mX12_changed al0 rIM (R_changed_74 k13 k21 k42 x1 x2 x3 x4 x5 s0 mm) 74 [(0, .inr (.inr (.inl (some 176)))), (1, .inl x1), (2, .inl x2), (3, .inl x3), (4, .inl x4), (5, .inl x5)] [.inl s0] mm := by
  unfold R_changed_74
  refine gl (i' := 75) (fun _ _ => aw_istore K (dOf ck_mX12_changed rfl rfl) (Nat.le_of_ble_eq_true rfl)) ?_
  refine g_lv (lv' := [(6, .inl _), (0, .inr (.inr (.inl (some _)))), (1, .inl _), (2, .inl _), (3, .inl _), (4, .inl _), (5, .inl _)]) rfl ?_
  refine gl (i' := 76) (fun _ _ => aw_aload_n K (dOf ck_mX12_changed rfl rfl) rfl) ?_
  refine gl (i' := 77) (fun _ _ => aw_getf K (dOf ck_mX12_changed rfl rfl) rfl rfl (Nat.le_of_ble_eq_true rfl) wd_1206 (k := 1) rfl) ?_
  refine gl (i' := 78) (fun _ _ => aw_bip K (dOf ck_mX12_changed rfl rfl) (v := 58) rfl) ?_
  refine gl (i' := 79) (fun _ _ => aw_bip K (dOf ck_mX12_changed rfl rfl) (v := 6) rfl) ?_
  refine gl (i' := 80) (fun _ _ => aw_iload_n K (dOf ck_mX12_changed rfl rfl) rfl) ?_
  refine gl (i' := 81) (fun _ _ => aw_imul K (dOf ck_mX12_changed rfl rfl)) ?_
  refine gl (i' := 82) (fun _ _ => aw_iadd K (dOf ck_mX12_changed rfl rfl)) ?_
  refine gl (i' := 83) (fun _ _ => aw_iload_n K (dOf ck_mX12_changed rfl rfl) rfl) ?_
  refine gl (i' := 84) (fun _ _ => aw_iadd K (dOf ck_mX12_changed rfl rfl)) ?_
  refine gl (i' := 85) (fun _ _ => aw_iload K (dOf ck_mX12_changed rfl rfl) rfl) ?_
  refine g_gd (fun hb14 => ?_)
  refine g_st1 ?_
  refine gl (i' := 86) (fun _ _ => aw_iast K (dOf ck_mX12_changed rfl rfl) rfl hb14) ?_
  refine gl (i' := 87) (fun _ _ => aw_iload K (dOf ck_mX12_changed rfl rfl) rfl) ?_
  refine g_if_eq K (dOf ck_mX12_changed rfl rfl) (t := 99) (aJ_of (by decide +kernel)) (fun h16 => ?_) (fun h16 => ?_)
  · refine g_sub [1, 2, 3, 4, 5, 6] rfl ?_
    exact lk_R_changed_99 K _ _ _ _ _ _ hk13 _ hk21 _ hk42 _
  · refine gl (i' := 89) (fun _ _ => aw_iload_n K (dOf ck_mX12_changed rfl rfl) rfl) ?_
    refine g_if_ne K (dOf ck_mX12_changed rfl rfl) (t := 92) (aJ_of (by decide +kernel)) (fun h17 => ?_) (fun h17 => ?_)
    · refine gl (i' := 91) (fun _ _ => aw_iload_n K (dOf ck_mX12_changed rfl rfl) rfl) ?_
      refine g_goto K (dOf ck_mX12_changed rfl rfl).1 (t := 98) (aJ_of (by decide +kernel)) ?_
      exact g_iret K (dOf ck_mX12_changed rfl rfl).1 rfl (Or.inl rfl) rfl
    · refine gl (i' := 93) (fun _ _ => aw_iload_n K (dOf ck_mX12_changed rfl rfl) rfl) ?_
      refine gl (i' := 94) (fun _ _ => aw_iconst K (n := 1) (i32 _ rfl) (dOf ck_mX12_changed rfl rfl)) ?_
      refine g_icmp_ne K (dOf ck_mX12_changed rfl rfl) (t := 97) (aJ_of (by decide +kernel)) (fun h18 => ?_) (fun h18 => ?_)
      · refine gl (i' := 96) (fun _ _ => aw_iload_n K (dOf ck_mX12_changed rfl rfl) rfl) ?_
        refine g_goto K (dOf ck_mX12_changed rfl rfl).1 (t := 98) (aJ_of (by decide +kernel)) ?_
        exact g_iret K (dOf ck_mX12_changed rfl rfl).1 rfl (Or.inl rfl) rfl
      · refine gl (i' := 98) (fun _ _ => aw_iload K (dOf ck_mX12_changed rfl rfl) rfl) ?_
        exact g_iret K (dOf ck_mX12_changed rfl rfl).1 rfl (Or.inl rfl) rfl
def R_changed_73 (k13 : Int → aM → Option (Int × aM)) (k21 : Int → aM → Option (Int × aM)) (k42 : Int → aM → Option (Int × aM)) (x1 : Int) (x2 : Int) (x3 : Int) (x4 : Int) (x5 : Int) (mm : aM) : Option (Int × aM) := R_changed_74 k13 k21 k42 x1 x2 x3 x4 x5 0 mm
set_option maxHeartbeats 4000000 in
theorem lk_R_changed_73 {p : Program} {l : Launch} {e : Env} {s : State} {m : MethodId} {args : Array Value} {below : List Frame} {meth : Method} {c : Code} {D : va_G} {cA : FieldType → ClassId} {ad adV : Nat → Nat} {z0 : Nat} {al0 : List Nat} (K : aK p s m args meth c mX12_changed D cA ad adV z0) (x1 : Int) (x2 : Int) (x3 : Int) (x4 : Int) (x5 : Int) (k13 : Int → aM → Option (Int × aM)) (hk13 : ∀ (x2 : Int) (mm : aM), aG p l e { frames := 6, cells := 0, slots := 0, locals := 146 } s m args below meth c D cA ad z0 mX12_changed al0 rIM (k13 x2 mm) 13 [(0, .inr (.inr (.inl (some 176)))), (1, .inl x1), (2, .inl x2)] [] mm) (k21 : Int → aM → Option (Int × aM)) (hk21 : ∀ (x3 : Int) (mm : aM), aG p l e { frames := 6, cells := 0, slots := 0, locals := 146 } s m args below meth c D cA ad z0 mX12_changed al0 rIM (k21 x3 mm) 21 [(0, .inr (.inr (.inl (some 176)))), (1, .inl x1), (2, .inl x2), (3, .inl x3)] [] mm) (k42 : Int → aM → Option (Int × aM)) (hk42 : ∀ (x5 : Int) (mm : aM), aG p l e { frames := 6, cells := 0, slots := 0, locals := 146 } s m args below meth c D cA ad z0 mX12_changed al0 rIM (k42 x5 mm) 42 [(0, .inr (.inr (.inl (some 176)))), (1, .inl x1), (2, .inl x2), (3, .inl x3), (4, .inl x4), (5, .inl x5)] [] mm)  (mm : aM) : aG p l e { frames := 6, cells := 0, slots := 0, locals := 146 } s m args below meth c D cA ad z0 mX12_changed al0 rIM (R_changed_73 k13 k21 k42 x1 x2 x3 x4 x5 mm) 73 [(0, .inr (.inr (.inl (some 176)))), (1, .inl x1), (2, .inl x2), (3, .inl x3), (4, .inl x4), (5, .inl x5)] [] mm := by
  unfold R_changed_73
  refine gl (i' := 74) (fun _ _ => aw_iconst K (n := 0) (i32 _ rfl) (dOf ck_mX12_changed rfl rfl)) ?_
  refine g_sub [0, 1, 2, 3, 4, 5] rfl ?_
  exact lk_R_changed_74 K _ _ _ _ _ _ hk13 _ hk21 _ hk42 _ _
def R_changed_42 (k13 : Int → aM → Option (Int × aM)) (k21 : Int → aM → Option (Int × aM)) (x1 : Int) (x2 : Int) (x3 : Int) (x4 : Int) : Nat → Int → aM → Option (Int × aM)
  | 0, _, _ => none
  | n + 1, x5, mm => if x5 < (mm 177 0) then (if x5 = x4 then (R_changed_99 k13 k21 (R_changed_42 k13 k21 x1 x2 x3 x4 n) x1 x2 x3 x4 x5 mm) else (if 0 ≤ (w32 ((w32 (58 + (w32 (6 * x2)))) + x3)) ∧ (w32 ((w32 (58 + (w32 (6 * x2)))) + x3)) < 588 then (st1 (aup mm 177 (w32 ((w32 (58 + (w32 (6 * x2)))) + x3)).toNat x5) fun mm11 => ((R_isThere x2 mm11).bind fun r12 => (if r12 = 0 then ((R_isSure 0 mm11).bind fun r19 => (if r19.1 = 0 then (R_changed_73 k13 k21 (R_changed_42 k13 k21 x1 x2 x3 x4 n) x1 x2 x3 x4 x5 r19.2) else (R_changed_74 k13 k21 (R_changed_42 k13 k21 x1 x2 x3 x4 n) x1 x2 x3 x4 x5 1 r19.2))) else (R_changed_73 k13 k21 (R_changed_42 k13 k21 x1 x2 x3 x4 n) x1 x2 x3 x4 x5 mm11)))) else none)) else (k21 (w32 (x3 + 1)) mm)
set_option maxHeartbeats 4000000 in
theorem lk_R_changed_42 {p : Program} {l : Launch} {e : Env} {s : State} {m : MethodId} {args : Array Value} {below : List Frame} {meth : Method} {c : Code} {D : va_G} {cA : FieldType → ClassId} {ad adV : Nat → Nat} {z0 : Nat} {al0 : List Nat} (K : aK p s m args meth c mX12_changed D cA ad adV z0) (x1 : Int) (x2 : Int) (x3 : Int) (x4 : Int) (k13 : Int → aM → Option (Int × aM)) (hk13 : ∀ (x2 : Int) (mm : aM), aG p l e { frames := 6, cells := 0, slots := 0, locals := 146 } s m args below meth c D cA ad z0 mX12_changed al0 rIM (k13 x2 mm) 13 [(0, .inr (.inr (.inl (some 176)))), (1, .inl x1), (2, .inl x2)] [] mm) (k21 : Int → aM → Option (Int × aM)) (hk21 : ∀ (x3 : Int) (mm : aM), aG p l e { frames := 6, cells := 0, slots := 0, locals := 146 } s m args below meth c D cA ad z0 mX12_changed al0 rIM (k21 x3 mm) 21 [(0, .inr (.inr (.inl (some 176)))), (1, .inl x1), (2, .inl x2), (3, .inl x3)] [] mm)  : ∀ (n : Nat) (x5 : Int) (mm : aM), aG p l e { frames := 6, cells := 0, slots := 0, locals := 146 } s m args below meth c D cA ad z0 mX12_changed al0 rIM (R_changed_42 k13 k21 x1 x2 x3 x4 n x5 mm) 42 [(0, .inr (.inr (.inl (some 176)))), (1, .inl x1), (2, .inl x2), (3, .inl x3), (4, .inl x4), (5, .inl x5)] [] mm := by
  intro n
  induction n with
  | zero => intro x5 mm; exact g_none
  | succ n ih =>
    intro x5 mm
    rw [R_changed_42]
    refine gl (i' := 43) (fun _ _ => aw_iload K (dOf ck_mX12_changed rfl rfl) rfl) ?_
    refine gl (i' := 44) (fun _ _ => aw_aload_n K (dOf ck_mX12_changed rfl rfl) rfl) ?_
    refine gl (i' := 45) (fun _ _ => aw_getf K (dOf ck_mX12_changed rfl rfl) rfl rfl (Nat.le_of_ble_eq_true rfl) wd_1206 (k := 1) rfl) ?_
    refine gl (i' := 46) (fun _ _ => aw_iconst K (n := 0) (i32 _ rfl) (dOf ck_mX12_changed rfl rfl)) ?_
    refine gl (i' := 47) (fun _ _ => aw_iald K (dOf ck_mX12_changed rfl rfl) rfl (by decide)) ?_
    refine g_icmp_ge K (dOf ck_mX12_changed rfl rfl) (t := 101) (aJ_of (by decide +kernel)) (fun h8 => ?_) (fun h8 => ?_)
    · refine gl (i' := 49) (fun _ _ => aw_iload K (dOf ck_mX12_changed rfl rfl) rfl) ?_
      refine gl (i' := 50) (fun _ _ => aw_iload K (dOf ck_mX12_changed rfl rfl) rfl) ?_
      refine g_icmp_ne K (dOf ck_mX12_changed rfl rfl) (t := 52) (aJ_of (by decide +kernel)) (fun h9 => ?_) (fun h9 => ?_)
      · refine g_goto K (dOf ck_mX12_changed rfl rfl).1 (t := 99) (aJ_of (by decide +kernel)) ?_
        refine g_sub [0, 1, 2, 3, 4, 5] rfl ?_
        exact lk_R_changed_99 K _ _ _ _ _ _ hk13 _ hk21 _ ih _
      · refine gl (i' := 53) (fun _ _ => aw_aload_n K (dOf ck_mX12_changed rfl rfl) rfl) ?_
        refine gl (i' := 54) (fun _ _ => aw_getf K (dOf ck_mX12_changed rfl rfl) rfl rfl (Nat.le_of_ble_eq_true rfl) wd_1206 (k := 1) rfl) ?_
        refine gl (i' := 55) (fun _ _ => aw_bip K (dOf ck_mX12_changed rfl rfl) (v := 58) rfl) ?_
        refine gl (i' := 56) (fun _ _ => aw_bip K (dOf ck_mX12_changed rfl rfl) (v := 6) rfl) ?_
        refine gl (i' := 57) (fun _ _ => aw_iload_n K (dOf ck_mX12_changed rfl rfl) rfl) ?_
        refine gl (i' := 58) (fun _ _ => aw_imul K (dOf ck_mX12_changed rfl rfl)) ?_
        refine gl (i' := 59) (fun _ _ => aw_iadd K (dOf ck_mX12_changed rfl rfl)) ?_
        refine gl (i' := 60) (fun _ _ => aw_iload_n K (dOf ck_mX12_changed rfl rfl) rfl) ?_
        refine gl (i' := 61) (fun _ _ => aw_iadd K (dOf ck_mX12_changed rfl rfl)) ?_
        refine gl (i' := 62) (fun _ _ => aw_iload K (dOf ck_mX12_changed rfl rfl) rfl) ?_
        refine g_gd (fun hb10 => ?_)
        refine g_st1 ?_
        refine gl (i' := 63) (fun _ _ => aw_iast K (dOf ck_mX12_changed rfl rfl) rfl hb10) ?_
        refine gl (i' := 64) (fun _ _ => aw_aload_n K (dOf ck_mX12_changed rfl rfl) rfl) ?_
        refine gl (i' := 65) (fun _ _ => aw_iload_n K (dOf ck_mX12_changed rfl rfl) rfl) ?_
        refine g_callVI K [.inl _] rfl (dOf ck_mX12_changed rfl rfl) al_OneBreathModel_394 rfl rfl ⟨wd_1544, wd_120⟩ rfl (Nat.le_of_ble_eq_true rfl) ⟨Nat.le_of_ble_eq_true rfl, Nat.le_of_ble_eq_true rfl⟩ (fun b hb => met_R_isThere  hb) (fun r12 hr12 => ?_)
        refine g_if_ne K (dOf ck_mX12_changed rfl rfl) (t := 73) (aJ_of (by decide +kernel)) (fun h13 => ?_) (fun h13 => ?_)
        · refine gl (i' := 68) (fun _ _ => aw_aload_n K (dOf ck_mX12_changed rfl rfl) rfl) ?_
          refine gl (i' := 69) (fun _ _ => aw_iconst K (n := 0) (i32 _ rfl) (dOf ck_mX12_changed rfl rfl)) ?_
          refine g_callVIM K [.inl _] rfl (dOf ck_mX12_changed rfl rfl) al_OneBreathModel_385 rfl rfl ⟨wd_1533, wd_118⟩ rfl (Nat.le_of_ble_eq_true rfl) ⟨Nat.le_of_ble_eq_true rfl, Nat.le_of_ble_eq_true rfl⟩ (fun b hb => met_R_isSure  hb) (fun r19 hr19 => ?_)
          refine g_if_eq K (dOf ck_mX12_changed rfl rfl) (t := 73) (aJ_of (by decide +kernel)) (fun h20 => ?_) (fun h20 => ?_)
          · refine g_sub [0, 1, 2, 3, 4, 5] rfl ?_
            exact lk_R_changed_73 K _ _ _ _ _ _ hk13 _ hk21 _ ih _
          · refine gl (i' := 72) (fun _ _ => aw_iconst K (n := 1) (i32 _ rfl) (dOf ck_mX12_changed rfl rfl)) ?_
            refine g_goto K (dOf ck_mX12_changed rfl rfl).1 (t := 74) (aJ_of (by decide +kernel)) ?_
            refine g_sub [0, 1, 2, 3, 4, 5] rfl ?_
            exact lk_R_changed_74 K _ _ _ _ _ _ hk13 _ hk21 _ ih _ _
        · refine g_sub [0, 1, 2, 3, 4, 5] rfl ?_
          exact lk_R_changed_73 K _ _ _ _ _ _ hk13 _ hk21 _ ih _
    · refine gl (i' := 102) (fun _ _ => aw_iinc K (dOf ck_mX12_changed rfl rfl) (Nat.le_of_ble_eq_true rfl) rfl) ?_
      refine g_lv (lv' := [(3, .inl _), (0, .inr (.inr (.inl (some _)))), (1, .inl _), (2, .inl _), (4, .inl _), (5, .inl _)]) rfl ?_
      refine g_goto K (dOf ck_mX12_changed rfl rfl).1 (t := 21) (aJ_of (by decide +kernel)) ?_
      refine g_sub [1, 2, 3, 0] rfl ?_
      exact hk21 _ _
def R_changed_21 (k13 : Int → aM → Option (Int × aM)) (x1 : Int) (x2 : Int) : Nat → Int → aM → Option (Int × aM)
  | 0, _, _ => none
  | n + 1, x3, mm => if 0 ≤ (w32 (19 + x2)) ∧ (w32 (19 + x2)) < 588 then (if x3 < (mm 177 (w32 (19 + x2)).toNat) then (if 0 ≤ (w32 ((w32 (58 + (w32 (6 * x2)))) + x3)) ∧ (w32 ((w32 (58 + (w32 (6 * x2)))) + x3)) < 588 then (R_changed_42 k13 (R_changed_21 k13 x1 x2 n) x1 x2 x3 (mm 177 (w32 ((w32 (58 + (w32 (6 * x2)))) + x3)).toNat) FU 0 mm) else none) else (k13 (w32 (x2 + 1)) mm)) else none
set_option maxHeartbeats 4000000 in
theorem lk_R_changed_21 {p : Program} {l : Launch} {e : Env} {s : State} {m : MethodId} {args : Array Value} {below : List Frame} {meth : Method} {c : Code} {D : va_G} {cA : FieldType → ClassId} {ad adV : Nat → Nat} {z0 : Nat} {al0 : List Nat} (K : aK p s m args meth c mX12_changed D cA ad adV z0) (x1 : Int) (x2 : Int) (k13 : Int → aM → Option (Int × aM)) (hk13 : ∀ (x2 : Int) (mm : aM), aG p l e { frames := 6, cells := 0, slots := 0, locals := 146 } s m args below meth c D cA ad z0 mX12_changed al0 rIM (k13 x2 mm) 13 [(0, .inr (.inr (.inl (some 176)))), (1, .inl x1), (2, .inl x2)] [] mm)  : ∀ (n : Nat) (x3 : Int) (mm : aM), aG p l e { frames := 6, cells := 0, slots := 0, locals := 146 } s m args below meth c D cA ad z0 mX12_changed al0 rIM (R_changed_21 k13 x1 x2 n x3 mm) 21 [(0, .inr (.inr (.inl (some 176)))), (1, .inl x1), (2, .inl x2), (3, .inl x3)] [] mm := by
  intro n
  induction n with
  | zero => intro x3 mm; exact g_none
  | succ n ih =>
    intro x3 mm
    rw [R_changed_21]
    refine gl (i' := 22) (fun _ _ => aw_iload_n K (dOf ck_mX12_changed rfl rfl) rfl) ?_
    refine gl (i' := 23) (fun _ _ => aw_aload_n K (dOf ck_mX12_changed rfl rfl) rfl) ?_
    refine gl (i' := 24) (fun _ _ => aw_getf K (dOf ck_mX12_changed rfl rfl) rfl rfl (Nat.le_of_ble_eq_true rfl) wd_1206 (k := 1) rfl) ?_
    refine gl (i' := 25) (fun _ _ => aw_bip K (dOf ck_mX12_changed rfl rfl) (v := 19) rfl) ?_
    refine gl (i' := 26) (fun _ _ => aw_iload_n K (dOf ck_mX12_changed rfl rfl) rfl) ?_
    refine gl (i' := 27) (fun _ _ => aw_iadd K (dOf ck_mX12_changed rfl rfl)) ?_
    refine g_gd (fun hb5 => ?_)
    refine gl (i' := 28) (fun _ _ => aw_iald K (dOf ck_mX12_changed rfl rfl) rfl hb5) ?_
    refine g_icmp_ge K (dOf ck_mX12_changed rfl rfl) (t := 103) (aJ_of (by decide +kernel)) (fun h6 => ?_) (fun h6 => ?_)
    · refine gl (i' := 30) (fun _ _ => aw_aload_n K (dOf ck_mX12_changed rfl rfl) rfl) ?_
      refine gl (i' := 31) (fun _ _ => aw_getf K (dOf ck_mX12_changed rfl rfl) rfl rfl (Nat.le_of_ble_eq_true rfl) wd_1206 (k := 1) rfl) ?_
      refine gl (i' := 32) (fun _ _ => aw_bip K (dOf ck_mX12_changed rfl rfl) (v := 58) rfl) ?_
      refine gl (i' := 33) (fun _ _ => aw_bip K (dOf ck_mX12_changed rfl rfl) (v := 6) rfl) ?_
      refine gl (i' := 34) (fun _ _ => aw_iload_n K (dOf ck_mX12_changed rfl rfl) rfl) ?_
      refine gl (i' := 35) (fun _ _ => aw_imul K (dOf ck_mX12_changed rfl rfl)) ?_
      refine gl (i' := 36) (fun _ _ => aw_iadd K (dOf ck_mX12_changed rfl rfl)) ?_
      refine gl (i' := 37) (fun _ _ => aw_iload_n K (dOf ck_mX12_changed rfl rfl) rfl) ?_
      refine gl (i' := 38) (fun _ _ => aw_iadd K (dOf ck_mX12_changed rfl rfl)) ?_
      refine g_gd (fun hb7 => ?_)
      refine gl (i' := 39) (fun _ _ => aw_iald K (dOf ck_mX12_changed rfl rfl) rfl hb7) ?_
      refine gl (i' := 40) (fun _ _ => aw_istore K (dOf ck_mX12_changed rfl rfl) (Nat.le_of_ble_eq_true rfl)) ?_
      refine g_lv (lv' := [(4, .inl _), (0, .inr (.inr (.inl (some _)))), (1, .inl _), (2, .inl _), (3, .inl _)]) rfl ?_
      refine gl (i' := 41) (fun _ _ => aw_iconst K (n := 0) (i32 _ rfl) (dOf ck_mX12_changed rfl rfl)) ?_
      refine gl (i' := 42) (fun _ _ => aw_istore K (dOf ck_mX12_changed rfl rfl) (Nat.le_of_ble_eq_true rfl)) ?_
      refine g_lv (lv' := [(5, .inl _), (4, .inl _), (0, .inr (.inr (.inl (some _)))), (1, .inl _), (2, .inl _), (3, .inl _)]) rfl ?_
      refine g_sub [2, 3, 4, 5, 1, 0] rfl ?_
      exact lk_R_changed_42 K _ _ _ _ _ hk13 _ ih FU _ _
    · refine gl (i' := 104) (fun _ _ => aw_iinc K (dOf ck_mX12_changed rfl rfl) (Nat.le_of_ble_eq_true rfl) rfl) ?_
      refine g_lv (lv' := [(2, .inl _), (0, .inr (.inr (.inl (some _)))), (1, .inl _), (3, .inl _)]) rfl ?_
      refine g_goto K (dOf ck_mX12_changed rfl rfl).1 (t := 13) (aJ_of (by decide +kernel)) ?_
      refine g_sub [1, 2, 0] rfl ?_
      exact hk13 _ _
def R_changed_13 (x1 : Int) : Nat → Int → aM → Option (Int × aM)
  | 0, _, _ => none
  | n + 1, x2, mm => if x2 < (mm 177 18) then (R_changed_21 (R_changed_13 x1 n) x1 x2 FU 0 mm) else (some ((-1), mm))
set_option maxHeartbeats 4000000 in
theorem lk_R_changed_13 {p : Program} {l : Launch} {e : Env} {s : State} {m : MethodId} {args : Array Value} {below : List Frame} {meth : Method} {c : Code} {D : va_G} {cA : FieldType → ClassId} {ad adV : Nat → Nat} {z0 : Nat} {al0 : List Nat} (K : aK p s m args meth c mX12_changed D cA ad adV z0) (x1 : Int)  : ∀ (n : Nat) (x2 : Int) (mm : aM), aG p l e { frames := 6, cells := 0, slots := 0, locals := 146 } s m args below meth c D cA ad z0 mX12_changed al0 rIM (R_changed_13 x1 n x2 mm) 13 [(0, .inr (.inr (.inl (some 176)))), (1, .inl x1), (2, .inl x2)] [] mm := by
  intro n
  induction n with
  | zero => intro x2 mm; exact g_none
  | succ n ih =>
    intro x2 mm
    rw [R_changed_13]
    refine gl (i' := 14) (fun _ _ => aw_iload_n K (dOf ck_mX12_changed rfl rfl) rfl) ?_
    refine gl (i' := 15) (fun _ _ => aw_aload_n K (dOf ck_mX12_changed rfl rfl) rfl) ?_
    refine gl (i' := 16) (fun _ _ => aw_getf K (dOf ck_mX12_changed rfl rfl) rfl rfl (Nat.le_of_ble_eq_true rfl) wd_1206 (k := 1) rfl) ?_
    refine gl (i' := 17) (fun _ _ => aw_bip K (dOf ck_mX12_changed rfl rfl) (v := 18) rfl) ?_
    refine gl (i' := 18) (fun _ _ => aw_iald K (dOf ck_mX12_changed rfl rfl) rfl (by decide)) ?_
    refine g_icmp_ge K (dOf ck_mX12_changed rfl rfl) (t := 105) (aJ_of (by decide +kernel)) (fun h4 => ?_) (fun h4 => ?_)
    · refine gl (i' := 20) (fun _ _ => aw_iconst K (n := 0) (i32 _ rfl) (dOf ck_mX12_changed rfl rfl)) ?_
      refine gl (i' := 21) (fun _ _ => aw_istore_n K (dOf ck_mX12_changed rfl rfl) (Nat.le_of_ble_eq_true rfl)) ?_
      refine g_lv (lv' := [(3, .inl _), (0, .inr (.inr (.inl (some _)))), (1, .inl _), (2, .inl _)]) rfl ?_
      refine g_sub [1, 2, 3, 0] rfl ?_
      exact lk_R_changed_21 K _ _ _ ih FU _ _
    · refine gl (i' := 106) (fun _ _ => aw_iconst K (n := -1) (i32 _ rfl) (dOf ck_mX12_changed rfl rfl)) ?_
      exact g_iret K (by decide +kernel) rfl (Or.inl rfl) rfl
def R_changed (x1 : Int) (mm : aM) : Option (Int × aM) := st1 (aup mm 176 0 0) fun mm1 => ((R_within x1 0 2 mm1).bind fun r2 => (if r2 = 0 then (some ((-2), mm1)) else (R_changed_13 x1 FU 0 mm1)))
set_option maxHeartbeats 4000000 in
theorem met_R_changed {l : Launch} {D : va_G} {cA : FieldType → ClassId} {ad adV : Nat → Nat} {z0 : Nat} {x1 : Int} {mm : aM}  {r : Int × aM} (h : R_changed x1 mm = some r) : aMet l D cA ad adV z0 mX12_changed 6 146 0 0 [.inr (.inr (.inl (some 176))), .inl x1] SH mm (rIM r).1 SH (rIM r).2 := by
  refine aMet_ofG (by decide +kernel) rfl (Nat.le_of_ble_eq_true rfl) h (fun p e s m args below meth c al0 K => ?_)
  unfold R_changed
  refine gl (i' := 1) (fun _ _ => aw_aload_n K (dOf ck_mX12_changed rfl rfl) rfl) ?_
  refine gl (i' := 2) (fun _ _ => aw_iconst K (n := 0) (i32 _ rfl) (dOf ck_mX12_changed rfl rfl)) ?_
  refine g_st1 ?_
  refine gl (i' := 3) (fun _ _ => aw_putf K (dOf ck_mX12_changed rfl rfl) rfl rfl (Nat.le_of_ble_eq_true rfl) wd_1205 (k := 0) rfl rfl (Or.inl rfl)) ?_
  refine gl (i' := 4) (fun _ _ => aw_iload_n K (dOf ck_mX12_changed rfl rfl) rfl) ?_
  refine gl (i' := 5) (fun _ _ => aw_i2l K (dOf ck_mX12_changed rfl rfl)) ?_
  refine gl (i' := 6) (fun _ _ => aw_lcn K (dOf ck_mX12_changed rfl rfl) (v := 0) rfl) ?_
  refine gl (i' := 7) (fun _ _ => aw_ldc2 K (dOf ck_mX12_changed rfl rfl) (n := 2) wd_1347 (i64 _ rfl)) ?_
  refine g_callSI K [.inr (.inl _), .inr (.inl _), .inr (.inl _)] rfl (dOf ck_mX12_changed rfl rfl) al_OneBreathModel_176 wd_1269 rfl (Nat.le_of_ble_eq_true rfl) ⟨Nat.le_of_ble_eq_true rfl, Nat.le_of_ble_eq_true rfl⟩ (fun b hb => met_R_within  hb) (fun r2 hr2 => ?_)
  refine g_if_ne K (dOf ck_mX12_changed rfl rfl) (t := 11) (aJ_of (by decide +kernel)) (fun h3 => ?_) (fun h3 => ?_)
  · refine gl (i' := 10) (fun _ _ => aw_bip K (dOf ck_mX12_changed rfl rfl) (v := -2) rfl) ?_
    exact g_iret K (dOf ck_mX12_changed rfl rfl).1 rfl (Or.inl rfl) rfl
  · refine gl (i' := 12) (fun _ _ => aw_iconst K (n := 0) (i32 _ rfl) (dOf ck_mX12_changed rfl rfl)) ?_
    refine gl (i' := 13) (fun _ _ => aw_istore_n K (dOf ck_mX12_changed rfl rfl) (Nat.le_of_ble_eq_true rfl)) ?_
    refine g_lv (lv' := [(2, .inl _), (0, .inr (.inr (.inl (some _)))), (1, .inl _)]) rfl ?_
    refine g_sub [1, 2, 0] rfl ?_
    exact lk_R_changed_13 K _ FU _ _
def R_paused_38 (k15 : Int → Int → aM → Option (Int × aM)) (x1 : Int) (x2 : Int) (x3 : Int) (mm : aM) : Option (Int × aM) := k15 x2 (w32 (x3 + 1)) mm
set_option maxHeartbeats 4000000 in
theorem lk_R_paused_38 {p : Program} {l : Launch} {e : Env} {s : State} {m : MethodId} {args : Array Value} {below : List Frame} {meth : Method} {c : Code} {D : va_G} {cA : FieldType → ClassId} {ad adV : Nat → Nat} {z0 : Nat} {al0 : List Nat} (K : aK p s m args meth c mX12_paused D cA ad adV z0) (x1 : Int) (x2 : Int) (x3 : Int) (k15 : Int → Int → aM → Option (Int × aM)) (hk15 : ∀ (x2 : Int) (x3 : Int) (mm : aM), aG p l e { frames := 6, cells := 0, slots := 0, locals := 146 } s m args below meth c D cA ad z0 mX12_paused al0 rIM (k15 x2 x3 mm) 15 [(0, .inr (.inr (.inl (some 176)))), (1, .inl x1), (2, .inl x2), (3, .inl x3)] [] mm)  (mm : aM) : aG p l e { frames := 6, cells := 0, slots := 0, locals := 146 } s m args below meth c D cA ad z0 mX12_paused al0 rIM (R_paused_38 k15 x1 x2 x3 mm) 38 [(0, .inr (.inr (.inl (some 176)))), (1, .inl x1), (2, .inl x2), (3, .inl x3)] [] mm := by
  unfold R_paused_38
  refine gl (i' := 39) (fun _ _ => aw_iinc K (dOf ck_mX12_paused rfl rfl) (Nat.le_of_ble_eq_true rfl) rfl) ?_
  refine g_lv (lv' := [(3, .inl _), (0, .inr (.inr (.inl (some _)))), (1, .inl _), (2, .inl _)]) rfl ?_
  refine g_goto K (dOf ck_mX12_paused rfl rfl).1 (t := 15) (aJ_of (by decide +kernel)) ?_
  refine g_sub [1, 2, 3, 0] rfl ?_
  exact hk15 _ _ _
def R_paused_37 (k15 : Int → Int → aM → Option (Int × aM)) (x1 : Int) (x3 : Int) (s0 : Int) (mm : aM) : Option (Int × aM) := R_paused_38 k15 x1 s0 x3 mm
set_option maxHeartbeats 4000000 in
theorem lk_R_paused_37 {p : Program} {l : Launch} {e : Env} {s : State} {m : MethodId} {args : Array Value} {below : List Frame} {meth : Method} {c : Code} {D : va_G} {cA : FieldType → ClassId} {ad adV : Nat → Nat} {z0 : Nat} {al0 : List Nat} (K : aK p s m args meth c mX12_paused D cA ad adV z0) (x1 : Int) (x3 : Int) (k15 : Int → Int → aM → Option (Int × aM)) (hk15 : ∀ (x2 : Int) (x3 : Int) (mm : aM), aG p l e { frames := 6, cells := 0, slots := 0, locals := 146 } s m args below meth c D cA ad z0 mX12_paused al0 rIM (k15 x2 x3 mm) 15 [(0, .inr (.inr (.inl (some 176)))), (1, .inl x1), (2, .inl x2), (3, .inl x3)] [] mm)  (s0 : Int) (mm : aM) : aG p l e { frames := 6, cells := 0, slots := 0, locals := 146 } s m args below meth c D cA ad z0 mX12_paused al0 rIM (R_paused_37 k15 x1 x3 s0 mm) 37 [(0, .inr (.inr (.inl (some 176)))), (1, .inl x1), (3, .inl x3)] [.inl s0] mm := by
  unfold R_paused_37
  refine gl (i' := 38) (fun _ _ => aw_istore_n K (dOf ck_mX12_paused rfl rfl) (Nat.le_of_ble_eq_true rfl)) ?_
  refine g_lv (lv' := [(2, .inl _), (0, .inr (.inr (.inl (some _)))), (1, .inl _), (3, .inl _)]) rfl ?_
  refine g_sub [1, 2, 0, 3] rfl ?_
  exact lk_R_paused_38 K _ _ _ _ hk15 _
def R_paused_27 (k15 : Int → Int → aM → Option (Int × aM)) (x1 : Int) (x2 : Int) (x3 : Int) (mm : aM) : Option (Int × aM) := st1 (aup mm 176 33 x3) fun mm9 => ((R_isSure 0 mm9).bind fun r10 => (if r10.1 = 0 then (R_paused_37 k15 x1 x3 x2 r10.2) else (R_paused_37 k15 x1 x3 x3 r10.2)))
set_option maxHeartbeats 4000000 in
theorem lk_R_paused_27 {p : Program} {l : Launch} {e : Env} {s : State} {m : MethodId} {args : Array Value} {below : List Frame} {meth : Method} {c : Code} {D : va_G} {cA : FieldType → ClassId} {ad adV : Nat → Nat} {z0 : Nat} {al0 : List Nat} (K : aK p s m args meth c mX12_paused D cA ad adV z0) (x1 : Int) (x2 : Int) (x3 : Int) (k15 : Int → Int → aM → Option (Int × aM)) (hk15 : ∀ (x2 : Int) (x3 : Int) (mm : aM), aG p l e { frames := 6, cells := 0, slots := 0, locals := 146 } s m args below meth c D cA ad z0 mX12_paused al0 rIM (k15 x2 x3 mm) 15 [(0, .inr (.inr (.inl (some 176)))), (1, .inl x1), (2, .inl x2), (3, .inl x3)] [] mm)  (mm : aM) : aG p l e { frames := 6, cells := 0, slots := 0, locals := 146 } s m args below meth c D cA ad z0 mX12_paused al0 rIM (R_paused_27 k15 x1 x2 x3 mm) 27 [(0, .inr (.inr (.inl (some 176)))), (1, .inl x1), (2, .inl x2), (3, .inl x3)] [] mm := by
  unfold R_paused_27
  refine gl (i' := 28) (fun _ _ => aw_aload_n K (dOf ck_mX12_paused rfl rfl) rfl) ?_
  refine gl (i' := 29) (fun _ _ => aw_iload_n K (dOf ck_mX12_paused rfl rfl) rfl) ?_
  refine g_st1 ?_
  refine gl (i' := 30) (fun _ _ => aw_putf K (dOf ck_mX12_paused rfl rfl) rfl rfl (Nat.le_of_ble_eq_true rfl) wd_1238 (k := 33) rfl rfl (Or.inl rfl)) ?_
  refine gl (i' := 31) (fun _ _ => aw_aload_n K (dOf ck_mX12_paused rfl rfl) rfl) ?_
  refine gl (i' := 32) (fun _ _ => aw_iconst K (n := 0) (i32 _ rfl) (dOf ck_mX12_paused rfl rfl)) ?_
  refine g_callVIM K [.inl _] rfl (dOf ck_mX12_paused rfl rfl) al_OneBreathModel_385 rfl rfl ⟨wd_1533, wd_118⟩ rfl (Nat.le_of_ble_eq_true rfl) ⟨Nat.le_of_ble_eq_true rfl, Nat.le_of_ble_eq_true rfl⟩ (fun b hb => met_R_isSure  hb) (fun r10 hr10 => ?_)
  refine g_if_eq K (dOf ck_mX12_paused rfl rfl) (t := 36) (aJ_of (by decide +kernel)) (fun h11 => ?_) (fun h11 => ?_)
  · refine gl (i' := 37) (fun _ _ => aw_iload_n K (dOf ck_mX12_paused rfl rfl) rfl) ?_
    refine g_sub [0, 1, 3] rfl ?_
    exact lk_R_paused_37 K _ _ _ hk15 _ _
  · refine gl (i' := 35) (fun _ _ => aw_iload_n K (dOf ck_mX12_paused rfl rfl) rfl) ?_
    refine g_goto K (dOf ck_mX12_paused rfl rfl).1 (t := 37) (aJ_of (by decide +kernel)) ?_
    refine g_sub [0, 1, 3] rfl ?_
    exact lk_R_paused_37 K _ _ _ hk15 _ _
def R_paused_15 (x1 : Int) : Nat → Int → Int → aM → Option (Int × aM)
  | 0, _, _, _ => none
  | n + 1, x2, x3, mm => if x3 < 16 then (if x2 = (-1) then (R_paused_27 (R_paused_15 x1 n) x1 x2 x3 mm) else ((R_bitsOf x3 mm).bind fun r12 => ((R_bitsOf x2 mm).bind fun r13 => (if r12 < r13 then (R_paused_27 (R_paused_15 x1 n) x1 x2 x3 mm) else (R_paused_38 (R_paused_15 x1 n) x1 x2 x3 mm))))) else (st1 (aup mm 176 33 0) fun mm5 => (if x1 = 0 then ((R_bitsOf x2 mm5).bind fun r7 => (some (r7, mm5))) else (some (x2, mm5))))
set_option maxHeartbeats 4000000 in
theorem lk_R_paused_15 {p : Program} {l : Launch} {e : Env} {s : State} {m : MethodId} {args : Array Value} {below : List Frame} {meth : Method} {c : Code} {D : va_G} {cA : FieldType → ClassId} {ad adV : Nat → Nat} {z0 : Nat} {al0 : List Nat} (K : aK p s m args meth c mX12_paused D cA ad adV z0) (x1 : Int)  : ∀ (n : Nat) (x2 : Int) (x3 : Int) (mm : aM), aG p l e { frames := 6, cells := 0, slots := 0, locals := 146 } s m args below meth c D cA ad z0 mX12_paused al0 rIM (R_paused_15 x1 n x2 x3 mm) 15 [(0, .inr (.inr (.inl (some 176)))), (1, .inl x1), (2, .inl x2), (3, .inl x3)] [] mm := by
  intro n
  induction n with
  | zero => intro x2 x3 mm; exact g_none
  | succ n ih =>
    intro x2 x3 mm
    rw [R_paused_15]
    refine gl (i' := 16) (fun _ _ => aw_iload_n K (dOf ck_mX12_paused rfl rfl) rfl) ?_
    refine gl (i' := 17) (fun _ _ => aw_bip K (dOf ck_mX12_paused rfl rfl) (v := 16) rfl) ?_
    refine g_icmp_ge K (dOf ck_mX12_paused rfl rfl) (t := 40) (aJ_of (by decide +kernel)) (fun h4 => ?_) (fun h4 => ?_)
    · refine gl (i' := 19) (fun _ _ => aw_iload_n K (dOf ck_mX12_paused rfl rfl) rfl) ?_
      refine gl (i' := 20) (fun _ _ => aw_iconst K (n := -1) (i32 _ rfl) (dOf ck_mX12_paused rfl rfl)) ?_
      refine g_icmp_eq K (dOf ck_mX12_paused rfl rfl) (t := 27) (aJ_of (by decide +kernel)) (fun h8 => ?_) (fun h8 => ?_)
      · refine g_sub [0, 1, 2, 3] rfl ?_
        exact lk_R_paused_27 K _ _ _ _ ih _
      · refine gl (i' := 22) (fun _ _ => aw_iload_n K (dOf ck_mX12_paused rfl rfl) rfl) ?_
        refine g_callSI K [.inl _] rfl (dOf ck_mX12_paused rfl rfl) al_OneBreathModel_413 wd_1565 rfl (Nat.le_of_ble_eq_true rfl) ⟨Nat.le_of_ble_eq_true rfl, Nat.le_of_ble_eq_true rfl⟩ (fun b hb => met_R_bitsOf  hb) (fun r12 hr12 => ?_)
        refine gl (i' := 24) (fun _ _ => aw_iload_n K (dOf ck_mX12_paused rfl rfl) rfl) ?_
        refine g_callSI K [.inl _] rfl (dOf ck_mX12_paused rfl rfl) al_OneBreathModel_413 wd_1565 rfl (Nat.le_of_ble_eq_true rfl) ⟨Nat.le_of_ble_eq_true rfl, Nat.le_of_ble_eq_true rfl⟩ (fun b hb => met_R_bitsOf  hb) (fun r13 hr13 => ?_)
        refine g_icmp_lt K (dOf ck_mX12_paused rfl rfl) (t := 27) (aJ_of (by decide +kernel)) (fun h14 => ?_) (fun h14 => ?_)
        · refine g_sub [0, 1, 2, 3] rfl ?_
          exact lk_R_paused_27 K _ _ _ _ ih _
        · refine g_goto K (dOf ck_mX12_paused rfl rfl).1 (t := 38) (aJ_of (by decide +kernel)) ?_
          refine g_sub [0, 1, 2, 3] rfl ?_
          exact lk_R_paused_38 K _ _ _ _ ih _
    · refine gl (i' := 41) (fun _ _ => aw_aload_n K (dOf ck_mX12_paused rfl rfl) rfl) ?_
      refine gl (i' := 42) (fun _ _ => aw_iconst K (n := 0) (i32 _ rfl) (dOf ck_mX12_paused rfl rfl)) ?_
      refine g_st1 ?_
      refine gl (i' := 43) (fun _ _ => aw_putf K (dOf ck_mX12_paused rfl rfl) rfl rfl (Nat.le_of_ble_eq_true rfl) wd_1238 (k := 33) rfl rfl (Or.inl rfl)) ?_
      refine gl (i' := 44) (fun _ _ => aw_iload_n K (dOf ck_mX12_paused rfl rfl) rfl) ?_
      refine g_if_ne K (dOf ck_mX12_paused rfl rfl) (t := 48) (aJ_of (by decide +kernel)) (fun h6 => ?_) (fun h6 => ?_)
      · refine gl (i' := 46) (fun _ _ => aw_iload_n K (dOf ck_mX12_paused rfl rfl) rfl) ?_
        refine g_callSI K [.inl _] rfl (dOf ck_mX12_paused rfl rfl) al_OneBreathModel_413 wd_1565 rfl (Nat.le_of_ble_eq_true rfl) ⟨Nat.le_of_ble_eq_true rfl, Nat.le_of_ble_eq_true rfl⟩ (fun b hb => met_R_bitsOf  hb) (fun r7 hr7 => ?_)
        refine g_goto K (dOf ck_mX12_paused rfl rfl).1 (t := 49) (aJ_of (by decide +kernel)) ?_
        exact g_iret K (by decide +kernel) rfl (Or.inl rfl) rfl
      · refine gl (i' := 49) (fun _ _ => aw_iload_n K (dOf ck_mX12_paused rfl rfl) rfl) ?_
        exact g_iret K (by decide +kernel) rfl (Or.inl rfl) rfl
def R_paused (x1 : Int) (mm : aM) : Option (Int × aM) := st1 (aup mm 176 0 0) fun mm1 => ((R_within x1 0 1 mm1).bind fun r2 => (if r2 = 0 then (some ((-2), mm1)) else (R_paused_15 x1 FU (-1) 0 mm1)))
set_option maxHeartbeats 4000000 in
theorem met_R_paused {l : Launch} {D : va_G} {cA : FieldType → ClassId} {ad adV : Nat → Nat} {z0 : Nat} {x1 : Int} {mm : aM}  {r : Int × aM} (h : R_paused x1 mm = some r) : aMet l D cA ad adV z0 mX12_paused 6 146 0 0 [.inr (.inr (.inl (some 176))), .inl x1] SH mm (rIM r).1 SH (rIM r).2 := by
  refine aMet_ofG (by decide +kernel) rfl (Nat.le_of_ble_eq_true rfl) h (fun p e s m args below meth c al0 K => ?_)
  unfold R_paused
  refine gl (i' := 1) (fun _ _ => aw_aload_n K (dOf ck_mX12_paused rfl rfl) rfl) ?_
  refine gl (i' := 2) (fun _ _ => aw_iconst K (n := 0) (i32 _ rfl) (dOf ck_mX12_paused rfl rfl)) ?_
  refine g_st1 ?_
  refine gl (i' := 3) (fun _ _ => aw_putf K (dOf ck_mX12_paused rfl rfl) rfl rfl (Nat.le_of_ble_eq_true rfl) wd_1205 (k := 0) rfl rfl (Or.inl rfl)) ?_
  refine gl (i' := 4) (fun _ _ => aw_iload_n K (dOf ck_mX12_paused rfl rfl) rfl) ?_
  refine gl (i' := 5) (fun _ _ => aw_i2l K (dOf ck_mX12_paused rfl rfl)) ?_
  refine gl (i' := 6) (fun _ _ => aw_lcn K (dOf ck_mX12_paused rfl rfl) (v := 0) rfl) ?_
  refine gl (i' := 7) (fun _ _ => aw_lcn K (dOf ck_mX12_paused rfl rfl) (v := 1) rfl) ?_
  refine g_callSI K [.inr (.inl _), .inr (.inl _), .inr (.inl _)] rfl (dOf ck_mX12_paused rfl rfl) al_OneBreathModel_176 wd_1269 rfl (Nat.le_of_ble_eq_true rfl) ⟨Nat.le_of_ble_eq_true rfl, Nat.le_of_ble_eq_true rfl⟩ (fun b hb => met_R_within  hb) (fun r2 hr2 => ?_)
  refine g_if_ne K (dOf ck_mX12_paused rfl rfl) (t := 11) (aJ_of (by decide +kernel)) (fun h3 => ?_) (fun h3 => ?_)
  · refine gl (i' := 10) (fun _ _ => aw_bip K (dOf ck_mX12_paused rfl rfl) (v := -2) rfl) ?_
    exact g_iret K (dOf ck_mX12_paused rfl rfl).1 rfl (Or.inl rfl) rfl
  · refine gl (i' := 12) (fun _ _ => aw_iconst K (n := -1) (i32 _ rfl) (dOf ck_mX12_paused rfl rfl)) ?_
    refine gl (i' := 13) (fun _ _ => aw_istore_n K (dOf ck_mX12_paused rfl rfl) (Nat.le_of_ble_eq_true rfl)) ?_
    refine g_lv (lv' := [(2, .inl _), (0, .inr (.inr (.inl (some _)))), (1, .inl _)]) rfl ?_
    refine gl (i' := 14) (fun _ _ => aw_iconst K (n := 0) (i32 _ rfl) (dOf ck_mX12_paused rfl rfl)) ?_
    refine gl (i' := 15) (fun _ _ => aw_istore_n K (dOf ck_mX12_paused rfl rfl) (Nat.le_of_ble_eq_true rfl)) ?_
    refine g_lv (lv' := [(3, .inl _), (2, .inl _), (0, .inr (.inr (.inl (some _)))), (1, .inl _)]) rfl ?_
    refine g_sub [2, 3, 1, 0] rfl ?_
    exact lk_R_paused_15 K _ FU _ _ _
def R_beginAlike_20 (mm : aM) (x1 : Int) (x2 : Int) (x3 : Int) : Nat → Int → Option Int
  | 0, _ => none
  | n + 1, x4 => if x4 < x3 then (if 0 ≤ (w32 ((w32 (58 + (w32 (6 * x1)))) + x4)) ∧ (w32 ((w32 (58 + (w32 (6 * x1)))) + x4)) < 588 then (if 0 ≤ (w32 ((w32 (58 + (w32 (6 * x2)))) + x4)) ∧ (w32 ((w32 (58 + (w32 (6 * x2)))) + x4)) < 588 then (if (mm 177 (w32 ((w32 (58 + (w32 (6 * x1)))) + x4)).toNat) = (mm 177 (w32 ((w32 (58 + (w32 (6 * x2)))) + x4)).toNat) then (R_beginAlike_20 mm x1 x2 x3 n (w32 (x4 + 1))) else (some 0)) else none) else none) else (some 1)
set_option maxHeartbeats 4000000 in
theorem lk_R_beginAlike_20 {p : Program} {l : Launch} {e : Env} {s : State} {m : MethodId} {args : Array Value} {below : List Frame} {meth : Method} {c : Code} {D : va_G} {cA : FieldType → ClassId} {ad adV : Nat → Nat} {z0 : Nat} {al0 : List Nat} {mm : aM} (K : aK p s m args meth c mX12_beginAlike D cA ad adV z0) (x1 : Int) (x2 : Int) (x3 : Int)  : ∀ (n : Nat) (x4 : Int), aG p l e { frames := 0, cells := 0, slots := 0, locals := 0 } s m args below meth c D cA ad z0 mX12_beginAlike al0 (rI mm) (R_beginAlike_20 mm x1 x2 x3 n x4) 20 [(0, .inr (.inr (.inl (some 176)))), (1, .inl x1), (2, .inl x2), (3, .inl x3), (4, .inl x4)] [] mm := by
  intro n
  induction n with
  | zero => intro x4; exact g_none
  | succ n ih =>
    intro x4
    rw [R_beginAlike_20]
    refine gl (i' := 21) (fun _ _ => aw_iload K (dOf ck_mX12_beginAlike rfl rfl) rfl) ?_
    refine gl (i' := 22) (fun _ _ => aw_iload_n K (dOf ck_mX12_beginAlike rfl rfl) rfl) ?_
    refine g_icmp_ge K (dOf ck_mX12_beginAlike rfl rfl) (t := 48) (aJ_of (by decide +kernel)) (fun h5 => ?_) (fun h5 => ?_)
    · refine gl (i' := 24) (fun _ _ => aw_aload_n K (dOf ck_mX12_beginAlike rfl rfl) rfl) ?_
      refine gl (i' := 25) (fun _ _ => aw_getf K (dOf ck_mX12_beginAlike rfl rfl) rfl rfl (Nat.le_of_ble_eq_true rfl) wd_1206 (k := 1) rfl) ?_
      refine gl (i' := 26) (fun _ _ => aw_bip K (dOf ck_mX12_beginAlike rfl rfl) (v := 58) rfl) ?_
      refine gl (i' := 27) (fun _ _ => aw_bip K (dOf ck_mX12_beginAlike rfl rfl) (v := 6) rfl) ?_
      refine gl (i' := 28) (fun _ _ => aw_iload_n K (dOf ck_mX12_beginAlike rfl rfl) rfl) ?_
      refine gl (i' := 29) (fun _ _ => aw_imul K (dOf ck_mX12_beginAlike rfl rfl)) ?_
      refine gl (i' := 30) (fun _ _ => aw_iadd K (dOf ck_mX12_beginAlike rfl rfl)) ?_
      refine gl (i' := 31) (fun _ _ => aw_iload K (dOf ck_mX12_beginAlike rfl rfl) rfl) ?_
      refine gl (i' := 32) (fun _ _ => aw_iadd K (dOf ck_mX12_beginAlike rfl rfl)) ?_
      refine g_gd (fun hb6 => ?_)
      refine gl (i' := 33) (fun _ _ => aw_iald K (dOf ck_mX12_beginAlike rfl rfl) rfl hb6) ?_
      refine gl (i' := 34) (fun _ _ => aw_aload_n K (dOf ck_mX12_beginAlike rfl rfl) rfl) ?_
      refine gl (i' := 35) (fun _ _ => aw_getf K (dOf ck_mX12_beginAlike rfl rfl) rfl rfl (Nat.le_of_ble_eq_true rfl) wd_1206 (k := 1) rfl) ?_
      refine gl (i' := 36) (fun _ _ => aw_bip K (dOf ck_mX12_beginAlike rfl rfl) (v := 58) rfl) ?_
      refine gl (i' := 37) (fun _ _ => aw_bip K (dOf ck_mX12_beginAlike rfl rfl) (v := 6) rfl) ?_
      refine gl (i' := 38) (fun _ _ => aw_iload_n K (dOf ck_mX12_beginAlike rfl rfl) rfl) ?_
      refine gl (i' := 39) (fun _ _ => aw_imul K (dOf ck_mX12_beginAlike rfl rfl)) ?_
      refine gl (i' := 40) (fun _ _ => aw_iadd K (dOf ck_mX12_beginAlike rfl rfl)) ?_
      refine gl (i' := 41) (fun _ _ => aw_iload K (dOf ck_mX12_beginAlike rfl rfl) rfl) ?_
      refine gl (i' := 42) (fun _ _ => aw_iadd K (dOf ck_mX12_beginAlike rfl rfl)) ?_
      refine g_gd (fun hb7 => ?_)
      refine gl (i' := 43) (fun _ _ => aw_iald K (dOf ck_mX12_beginAlike rfl rfl) rfl hb7) ?_
      refine g_icmp_eq K (dOf ck_mX12_beginAlike rfl rfl) (t := 46) (aJ_of (by decide +kernel)) (fun h8 => ?_) (fun h8 => ?_)
      · refine gl (i' := 47) (fun _ _ => aw_iinc K (dOf ck_mX12_beginAlike rfl rfl) (Nat.le_of_ble_eq_true rfl) rfl) ?_
        refine g_lv (lv' := [(4, .inl _), (0, .inr (.inr (.inl (some _)))), (1, .inl _), (2, .inl _), (3, .inl _)]) rfl ?_
        refine g_goto K (dOf ck_mX12_beginAlike rfl rfl).1 (t := 20) (aJ_of (by decide +kernel)) ?_
        refine g_sub [1, 2, 3, 4, 0] rfl ?_
        exact ih _
      · refine gl (i' := 45) (fun _ _ => aw_iconst K (n := 0) (i32 _ rfl) (dOf ck_mX12_beginAlike rfl rfl)) ?_
        exact g_iret K (dOf ck_mX12_beginAlike rfl rfl).1 rfl (Or.inr (Or.inl ⟨rfl, Or.inl rfl⟩)) rfl
    · refine gl (i' := 49) (fun _ _ => aw_iconst K (n := 1) (i32 _ rfl) (dOf ck_mX12_beginAlike rfl rfl)) ?_
      exact g_iret K (by decide +kernel) rfl (Or.inr (Or.inl ⟨rfl, Or.inr rfl⟩)) rfl
def R_beginAlike (x1 : Int) (x2 : Int) (x3 : Int) (mm : aM) : Option Int := if 0 ≤ (w32 (19 + x1)) ∧ (w32 (19 + x1)) < 588 then (if (mm 177 (w32 (19 + x1)).toNat) < x3 then (some 0) else (if 0 ≤ (w32 (19 + x2)) ∧ (w32 (19 + x2)) < 588 then (if (mm 177 (w32 (19 + x2)).toNat) < x3 then (some 0) else (R_beginAlike_20 mm x1 x2 x3 FU 0)) else none)) else none
set_option maxHeartbeats 4000000 in
theorem met_R_beginAlike {l : Launch} {D : va_G} {cA : FieldType → ClassId} {ad adV : Nat → Nat} {z0 : Nat} {x1 : Int} {x2 : Int} {x3 : Int} {mm : aM}  {r : Int} (h : R_beginAlike x1 x2 x3 mm = some r) : aMet l D cA ad adV z0 mX12_beginAlike 0 0 0 0 [.inr (.inr (.inl (some 176))), .inl x1, .inl x2, .inl x3] SH mm ((rI mm) r).1 SH ((rI mm) r).2 := by
  refine aMet_ofG (by decide +kernel) rfl (Nat.le_of_ble_eq_true rfl) h (fun p e s m args below meth c al0 K => ?_)
  unfold R_beginAlike
  refine gl (i' := 1) (fun _ _ => aw_aload_n K (dOf ck_mX12_beginAlike rfl rfl) rfl) ?_
  refine gl (i' := 2) (fun _ _ => aw_getf K (dOf ck_mX12_beginAlike rfl rfl) rfl rfl (Nat.le_of_ble_eq_true rfl) wd_1206 (k := 1) rfl) ?_
  refine gl (i' := 3) (fun _ _ => aw_bip K (dOf ck_mX12_beginAlike rfl rfl) (v := 19) rfl) ?_
  refine gl (i' := 4) (fun _ _ => aw_iload_n K (dOf ck_mX12_beginAlike rfl rfl) rfl) ?_
  refine gl (i' := 5) (fun _ _ => aw_iadd K (dOf ck_mX12_beginAlike rfl rfl)) ?_
  refine g_gd (fun hb1 => ?_)
  refine gl (i' := 6) (fun _ _ => aw_iald K (dOf ck_mX12_beginAlike rfl rfl) rfl hb1) ?_
  refine gl (i' := 7) (fun _ _ => aw_iload_n K (dOf ck_mX12_beginAlike rfl rfl) rfl) ?_
  refine g_icmp_lt K (dOf ck_mX12_beginAlike rfl rfl) (t := 16) (aJ_of (by decide +kernel)) (fun h2 => ?_) (fun h2 => ?_)
  · refine gl (i' := 17) (fun _ _ => aw_iconst K (n := 0) (i32 _ rfl) (dOf ck_mX12_beginAlike rfl rfl)) ?_
    exact g_iret K (dOf ck_mX12_beginAlike rfl rfl).1 rfl (Or.inr (Or.inl ⟨rfl, Or.inl rfl⟩)) rfl
  · refine gl (i' := 9) (fun _ _ => aw_aload_n K (dOf ck_mX12_beginAlike rfl rfl) rfl) ?_
    refine gl (i' := 10) (fun _ _ => aw_getf K (dOf ck_mX12_beginAlike rfl rfl) rfl rfl (Nat.le_of_ble_eq_true rfl) wd_1206 (k := 1) rfl) ?_
    refine gl (i' := 11) (fun _ _ => aw_bip K (dOf ck_mX12_beginAlike rfl rfl) (v := 19) rfl) ?_
    refine gl (i' := 12) (fun _ _ => aw_iload_n K (dOf ck_mX12_beginAlike rfl rfl) rfl) ?_
    refine gl (i' := 13) (fun _ _ => aw_iadd K (dOf ck_mX12_beginAlike rfl rfl)) ?_
    refine g_gd (fun hb3 => ?_)
    refine gl (i' := 14) (fun _ _ => aw_iald K (dOf ck_mX12_beginAlike rfl rfl) rfl hb3) ?_
    refine gl (i' := 15) (fun _ _ => aw_iload_n K (dOf ck_mX12_beginAlike rfl rfl) rfl) ?_
    refine g_icmp_ge K (dOf ck_mX12_beginAlike rfl rfl) (t := 18) (aJ_of (by decide +kernel)) (fun h4 => ?_) (fun h4 => ?_)
    · refine gl (i' := 17) (fun _ _ => aw_iconst K (n := 0) (i32 _ rfl) (dOf ck_mX12_beginAlike rfl rfl)) ?_
      exact g_iret K (dOf ck_mX12_beginAlike rfl rfl).1 rfl (Or.inr (Or.inl ⟨rfl, Or.inl rfl⟩)) rfl
    · refine gl (i' := 19) (fun _ _ => aw_iconst K (n := 0) (i32 _ rfl) (dOf ck_mX12_beginAlike rfl rfl)) ?_
      refine gl (i' := 20) (fun _ _ => aw_istore K (dOf ck_mX12_beginAlike rfl rfl) (Nat.le_of_ble_eq_true rfl)) ?_
      refine g_lv (lv' := [(4, .inl _), (0, .inr (.inr (.inl (some _)))), (1, .inl _), (2, .inl _), (3, .inl _)]) rfl ?_
      refine g_sub [1, 2, 3, 4, 0] rfl ?_
      exact lk_R_beginAlike_20 K _ _ _ FU _
def R_begun_47 (k13 : Int → aM → Option (Int × aM)) (k21 : Int → aM → Option (Int × aM)) (x1 : Int) (x2 : Int) (x3 : Int) (mm : aM) : Option (Int × aM) := k21 (w32 (x3 + 1)) mm
set_option maxHeartbeats 4000000 in
theorem lk_R_begun_47 {p : Program} {l : Launch} {e : Env} {s : State} {m : MethodId} {args : Array Value} {below : List Frame} {meth : Method} {c : Code} {D : va_G} {cA : FieldType → ClassId} {ad adV : Nat → Nat} {z0 : Nat} {al0 : List Nat} (K : aK p s m args meth c mX12_begun D cA ad adV z0) (x1 : Int) (x2 : Int) (x3 : Int) (k13 : Int → aM → Option (Int × aM)) (hk13 : ∀ (x2 : Int) (mm : aM), aG p l e { frames := 1, cells := 0, slots := 0, locals := 25 } s m args below meth c D cA ad z0 mX12_begun al0 rIM (k13 x2 mm) 13 [(0, .inr (.inr (.inl (some 176)))), (1, .inl x1), (2, .inl x2)] [] mm) (k21 : Int → aM → Option (Int × aM)) (hk21 : ∀ (x3 : Int) (mm : aM), aG p l e { frames := 1, cells := 0, slots := 0, locals := 25 } s m args below meth c D cA ad z0 mX12_begun al0 rIM (k21 x3 mm) 21 [(0, .inr (.inr (.inl (some 176)))), (1, .inl x1), (2, .inl x2), (3, .inl x3)] [] mm)  (mm : aM) : aG p l e { frames := 1, cells := 0, slots := 0, locals := 25 } s m args below meth c D cA ad z0 mX12_begun al0 rIM (R_begun_47 k13 k21 x1 x2 x3 mm) 47 [(0, .inr (.inr (.inl (some 176)))), (1, .inl x1), (2, .inl x2), (3, .inl x3)] [] mm := by
  unfold R_begun_47
  refine gl (i' := 48) (fun _ _ => aw_iinc K (dOf ck_mX12_begun rfl rfl) (Nat.le_of_ble_eq_true rfl) rfl) ?_
  refine g_lv (lv' := [(3, .inl _), (0, .inr (.inr (.inl (some _)))), (1, .inl _), (2, .inl _)]) rfl ?_
  refine g_goto K (dOf ck_mX12_begun rfl rfl).1 (t := 21) (aJ_of (by decide +kernel)) ?_
  refine g_sub [1, 2, 3, 0] rfl ?_
  exact hk21 _ _
def R_begun_21 (k13 : Int → aM → Option (Int × aM)) (x1 : Int) (x2 : Int) : Nat → Int → aM → Option (Int × aM)
  | 0, _, _ => none
  | n + 1, x3, mm => if x3 < (mm 177 18) then (if x3 = x2 then (R_begun_47 k13 (R_begun_21 k13 x1 x2 n) x1 x2 x3 mm) else (if 0 ≤ (w32 (19 + x2)) ∧ (w32 (19 + x2)) < 588 then ((R_beginAlike x2 x3 (mm 177 (w32 (19 + x2)).toNat) mm).bind fun r8 => (if r8 = 0 then (R_begun_47 k13 (R_begun_21 k13 x1 x2 n) x1 x2 x3 mm) else (if x1 = 0 then (some (x2, mm)) else (some (x3, mm))))) else none)) else (k13 (w32 (x2 + 1)) mm)
set_option maxHeartbeats 4000000 in
theorem lk_R_begun_21 {p : Program} {l : Launch} {e : Env} {s : State} {m : MethodId} {args : Array Value} {below : List Frame} {meth : Method} {c : Code} {D : va_G} {cA : FieldType → ClassId} {ad adV : Nat → Nat} {z0 : Nat} {al0 : List Nat} (K : aK p s m args meth c mX12_begun D cA ad adV z0) (x1 : Int) (x2 : Int) (k13 : Int → aM → Option (Int × aM)) (hk13 : ∀ (x2 : Int) (mm : aM), aG p l e { frames := 1, cells := 0, slots := 0, locals := 25 } s m args below meth c D cA ad z0 mX12_begun al0 rIM (k13 x2 mm) 13 [(0, .inr (.inr (.inl (some 176)))), (1, .inl x1), (2, .inl x2)] [] mm)  : ∀ (n : Nat) (x3 : Int) (mm : aM), aG p l e { frames := 1, cells := 0, slots := 0, locals := 25 } s m args below meth c D cA ad z0 mX12_begun al0 rIM (R_begun_21 k13 x1 x2 n x3 mm) 21 [(0, .inr (.inr (.inl (some 176)))), (1, .inl x1), (2, .inl x2), (3, .inl x3)] [] mm := by
  intro n
  induction n with
  | zero => intro x3 mm; exact g_none
  | succ n ih =>
    intro x3 mm
    rw [R_begun_21]
    refine gl (i' := 22) (fun _ _ => aw_iload_n K (dOf ck_mX12_begun rfl rfl) rfl) ?_
    refine gl (i' := 23) (fun _ _ => aw_aload_n K (dOf ck_mX12_begun rfl rfl) rfl) ?_
    refine gl (i' := 24) (fun _ _ => aw_getf K (dOf ck_mX12_begun rfl rfl) rfl rfl (Nat.le_of_ble_eq_true rfl) wd_1206 (k := 1) rfl) ?_
    refine gl (i' := 25) (fun _ _ => aw_bip K (dOf ck_mX12_begun rfl rfl) (v := 18) rfl) ?_
    refine gl (i' := 26) (fun _ _ => aw_iald K (dOf ck_mX12_begun rfl rfl) rfl (by decide)) ?_
    refine g_icmp_ge K (dOf ck_mX12_begun rfl rfl) (t := 49) (aJ_of (by decide +kernel)) (fun h5 => ?_) (fun h5 => ?_)
    · refine gl (i' := 28) (fun _ _ => aw_iload_n K (dOf ck_mX12_begun rfl rfl) rfl) ?_
      refine gl (i' := 29) (fun _ _ => aw_iload_n K (dOf ck_mX12_begun rfl rfl) rfl) ?_
      refine g_icmp_eq K (dOf ck_mX12_begun rfl rfl) (t := 47) (aJ_of (by decide +kernel)) (fun h6 => ?_) (fun h6 => ?_)
      · refine g_sub [0, 1, 2, 3] rfl ?_
        exact lk_R_begun_47 K _ _ _ _ hk13 _ ih _
      · refine gl (i' := 31) (fun _ _ => aw_aload_n K (dOf ck_mX12_begun rfl rfl) rfl) ?_
        refine gl (i' := 32) (fun _ _ => aw_iload_n K (dOf ck_mX12_begun rfl rfl) rfl) ?_
        refine gl (i' := 33) (fun _ _ => aw_iload_n K (dOf ck_mX12_begun rfl rfl) rfl) ?_
        refine gl (i' := 34) (fun _ _ => aw_aload_n K (dOf ck_mX12_begun rfl rfl) rfl) ?_
        refine gl (i' := 35) (fun _ _ => aw_getf K (dOf ck_mX12_begun rfl rfl) rfl rfl (Nat.le_of_ble_eq_true rfl) wd_1206 (k := 1) rfl) ?_
        refine gl (i' := 36) (fun _ _ => aw_bip K (dOf ck_mX12_begun rfl rfl) (v := 19) rfl) ?_
        refine gl (i' := 37) (fun _ _ => aw_iload_n K (dOf ck_mX12_begun rfl rfl) rfl) ?_
        refine gl (i' := 38) (fun _ _ => aw_iadd K (dOf ck_mX12_begun rfl rfl)) ?_
        refine g_gd (fun hb7 => ?_)
        refine gl (i' := 39) (fun _ _ => aw_iald K (dOf ck_mX12_begun rfl rfl) rfl hb7) ?_
        refine g_callVI K [.inl _, .inl _, .inl _] rfl (dOf ck_mX12_begun rfl rfl) al_OneBreathModel_416 rfl rfl ⟨wd_1580, wd_124⟩ rfl (Nat.le_of_ble_eq_true rfl) ⟨Nat.le_of_ble_eq_true rfl, Nat.le_of_ble_eq_true rfl⟩ (fun b hb => met_R_beginAlike  hb) (fun r8 hr8 => ?_)
        refine g_if_eq K (dOf ck_mX12_begun rfl rfl) (t := 47) (aJ_of (by decide +kernel)) (fun h9 => ?_) (fun h9 => ?_)
        · refine g_sub [0, 1, 2, 3] rfl ?_
          exact lk_R_begun_47 K _ _ _ _ hk13 _ ih _
        · refine gl (i' := 42) (fun _ _ => aw_iload_n K (dOf ck_mX12_begun rfl rfl) rfl) ?_
          refine g_if_ne K (dOf ck_mX12_begun rfl rfl) (t := 45) (aJ_of (by decide +kernel)) (fun h10 => ?_) (fun h10 => ?_)
          · refine gl (i' := 44) (fun _ _ => aw_iload_n K (dOf ck_mX12_begun rfl rfl) rfl) ?_
            refine g_goto K (dOf ck_mX12_begun rfl rfl).1 (t := 46) (aJ_of (by decide +kernel)) ?_
            exact g_iret K (dOf ck_mX12_begun rfl rfl).1 rfl (Or.inl rfl) rfl
          · refine gl (i' := 46) (fun _ _ => aw_iload_n K (dOf ck_mX12_begun rfl rfl) rfl) ?_
            exact g_iret K (dOf ck_mX12_begun rfl rfl).1 rfl (Or.inl rfl) rfl
    · refine gl (i' := 50) (fun _ _ => aw_iinc K (dOf ck_mX12_begun rfl rfl) (Nat.le_of_ble_eq_true rfl) rfl) ?_
      refine g_lv (lv' := [(2, .inl _), (0, .inr (.inr (.inl (some _)))), (1, .inl _), (3, .inl _)]) rfl ?_
      refine g_goto K (dOf ck_mX12_begun rfl rfl).1 (t := 13) (aJ_of (by decide +kernel)) ?_
      refine g_sub [1, 2, 0] rfl ?_
      exact hk13 _ _
def R_begun_13 (x1 : Int) : Nat → Int → aM → Option (Int × aM)
  | 0, _, _ => none
  | n + 1, x2, mm => if x2 < (mm 177 18) then (R_begun_21 (R_begun_13 x1 n) x1 x2 FU 0 mm) else (some ((-1), mm))
set_option maxHeartbeats 4000000 in
theorem lk_R_begun_13 {p : Program} {l : Launch} {e : Env} {s : State} {m : MethodId} {args : Array Value} {below : List Frame} {meth : Method} {c : Code} {D : va_G} {cA : FieldType → ClassId} {ad adV : Nat → Nat} {z0 : Nat} {al0 : List Nat} (K : aK p s m args meth c mX12_begun D cA ad adV z0) (x1 : Int)  : ∀ (n : Nat) (x2 : Int) (mm : aM), aG p l e { frames := 1, cells := 0, slots := 0, locals := 25 } s m args below meth c D cA ad z0 mX12_begun al0 rIM (R_begun_13 x1 n x2 mm) 13 [(0, .inr (.inr (.inl (some 176)))), (1, .inl x1), (2, .inl x2)] [] mm := by
  intro n
  induction n with
  | zero => intro x2 mm; exact g_none
  | succ n ih =>
    intro x2 mm
    rw [R_begun_13]
    refine gl (i' := 14) (fun _ _ => aw_iload_n K (dOf ck_mX12_begun rfl rfl) rfl) ?_
    refine gl (i' := 15) (fun _ _ => aw_aload_n K (dOf ck_mX12_begun rfl rfl) rfl) ?_
    refine gl (i' := 16) (fun _ _ => aw_getf K (dOf ck_mX12_begun rfl rfl) rfl rfl (Nat.le_of_ble_eq_true rfl) wd_1206 (k := 1) rfl) ?_
    refine gl (i' := 17) (fun _ _ => aw_bip K (dOf ck_mX12_begun rfl rfl) (v := 18) rfl) ?_
    refine gl (i' := 18) (fun _ _ => aw_iald K (dOf ck_mX12_begun rfl rfl) rfl (by decide)) ?_
    refine g_icmp_ge K (dOf ck_mX12_begun rfl rfl) (t := 51) (aJ_of (by decide +kernel)) (fun h4 => ?_) (fun h4 => ?_)
    · refine gl (i' := 20) (fun _ _ => aw_iconst K (n := 0) (i32 _ rfl) (dOf ck_mX12_begun rfl rfl)) ?_
      refine gl (i' := 21) (fun _ _ => aw_istore_n K (dOf ck_mX12_begun rfl rfl) (Nat.le_of_ble_eq_true rfl)) ?_
      refine g_lv (lv' := [(3, .inl _), (0, .inr (.inr (.inl (some _)))), (1, .inl _), (2, .inl _)]) rfl ?_
      refine g_sub [1, 2, 3, 0] rfl ?_
      exact lk_R_begun_21 K _ _ _ ih FU _ _
    · refine gl (i' := 52) (fun _ _ => aw_iconst K (n := -1) (i32 _ rfl) (dOf ck_mX12_begun rfl rfl)) ?_
      exact g_iret K (by decide +kernel) rfl (Or.inl rfl) rfl
def R_begun (x1 : Int) (mm : aM) : Option (Int × aM) := st1 (aup mm 176 0 0) fun mm1 => ((R_within x1 0 1 mm1).bind fun r2 => (if r2 = 0 then (some ((-2), mm1)) else (R_begun_13 x1 FU 0 mm1)))
set_option maxHeartbeats 4000000 in
theorem met_R_begun {l : Launch} {D : va_G} {cA : FieldType → ClassId} {ad adV : Nat → Nat} {z0 : Nat} {x1 : Int} {mm : aM}  {r : Int × aM} (h : R_begun x1 mm = some r) : aMet l D cA ad adV z0 mX12_begun 1 25 0 0 [.inr (.inr (.inl (some 176))), .inl x1] SH mm (rIM r).1 SH (rIM r).2 := by
  refine aMet_ofG (by decide +kernel) rfl (Nat.le_of_ble_eq_true rfl) h (fun p e s m args below meth c al0 K => ?_)
  unfold R_begun
  refine gl (i' := 1) (fun _ _ => aw_aload_n K (dOf ck_mX12_begun rfl rfl) rfl) ?_
  refine gl (i' := 2) (fun _ _ => aw_iconst K (n := 0) (i32 _ rfl) (dOf ck_mX12_begun rfl rfl)) ?_
  refine g_st1 ?_
  refine gl (i' := 3) (fun _ _ => aw_putf K (dOf ck_mX12_begun rfl rfl) rfl rfl (Nat.le_of_ble_eq_true rfl) wd_1205 (k := 0) rfl rfl (Or.inl rfl)) ?_
  refine gl (i' := 4) (fun _ _ => aw_iload_n K (dOf ck_mX12_begun rfl rfl) rfl) ?_
  refine gl (i' := 5) (fun _ _ => aw_i2l K (dOf ck_mX12_begun rfl rfl)) ?_
  refine gl (i' := 6) (fun _ _ => aw_lcn K (dOf ck_mX12_begun rfl rfl) (v := 0) rfl) ?_
  refine gl (i' := 7) (fun _ _ => aw_lcn K (dOf ck_mX12_begun rfl rfl) (v := 1) rfl) ?_
  refine g_callSI K [.inr (.inl _), .inr (.inl _), .inr (.inl _)] rfl (dOf ck_mX12_begun rfl rfl) al_OneBreathModel_176 wd_1269 rfl (Nat.le_of_ble_eq_true rfl) ⟨Nat.le_of_ble_eq_true rfl, Nat.le_of_ble_eq_true rfl⟩ (fun b hb => met_R_within  hb) (fun r2 hr2 => ?_)
  refine g_if_ne K (dOf ck_mX12_begun rfl rfl) (t := 11) (aJ_of (by decide +kernel)) (fun h3 => ?_) (fun h3 => ?_)
  · refine gl (i' := 10) (fun _ _ => aw_bip K (dOf ck_mX12_begun rfl rfl) (v := -2) rfl) ?_
    exact g_iret K (dOf ck_mX12_begun rfl rfl).1 rfl (Or.inl rfl) rfl
  · refine gl (i' := 12) (fun _ _ => aw_iconst K (n := 0) (i32 _ rfl) (dOf ck_mX12_begun rfl rfl)) ?_
    refine gl (i' := 13) (fun _ _ => aw_istore_n K (dOf ck_mX12_begun rfl rfl) (Nat.le_of_ble_eq_true rfl)) ?_
    refine g_lv (lv' := [(2, .inl _), (0, .inr (.inr (.inl (some _)))), (1, .inl _)]) rfl ?_
    refine g_sub [1, 2, 0] rfl ?_
    exact lk_R_begun_13 K _ FU _ _
