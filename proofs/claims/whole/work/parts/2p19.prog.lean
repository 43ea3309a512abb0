def R_limb_73 (k37 : Int → Int → aM → Option (Int × aM)) (k42 : Int → Int → aM → Option (Int × aM)) (x1 : Int) (x2 : Int) (x3 : Int) (x4 : Int) (x5 : Int) (mm : aM) : Option (Int × aM) := k42 x4 (w32 (x5 + 1)) mm
set_option maxHeartbeats 4000000 in
theorem lk_R_limb_73 {p : Program} {l : Launch} {e : Env} {s : State} {m : MethodId} {args : Array Value} {below : List Frame} {meth : Method} {c : Code} {D : va_G} {cA : FieldType → ClassId} {ad adV : Nat → Nat} {z0 : Nat} {al0 : List Nat} (K : aK p s m args meth c mX12_limb D cA ad adV z0) (x1 : Int) (x2 : Int) (x3 : Int) (x4 : Int) (x5 : Int) (k37 : Int → Int → aM → Option (Int × aM)) (hk37 : ∀ (x3 : Int) (x4 : Int) (mm : aM), aG p l e { frames := 2, cells := 0, slots := 0, locals := 48 } s m args below meth c D cA ad z0 mX12_limb al0 rIM (k37 x3 x4 mm) 37 [(0, .inr (.inr (.inl (some 176)))), (1, .inl x1), (2, .inl x2), (3, .inl x3), (4, .inl x4)] [] mm) (k42 : Int → Int → aM → Option (Int × aM)) (hk42 : ∀ (x4 : Int) (x5 : Int) (mm : aM), aG p l e { frames := 2, cells := 0, slots := 0, locals := 48 } s m args below meth c D cA ad z0 mX12_limb al0 rIM (k42 x4 x5 mm) 42 [(0, .inr (.inr (.inl (some 176)))), (1, .inl x1), (2, .inl x2), (3, .inl x3), (4, .inl x4), (5, .inl x5)] [] mm)  (mm : aM) : aG p l e { frames := 2, cells := 0, slots := 0, locals := 48 } s m args below meth c D cA ad z0 mX12_limb al0 rIM (R_limb_73 k37 k42 x1 x2 x3 x4 x5 mm) 73 [(0, .inr (.inr (.inl (some 176)))), (1, .inl x1), (2, .inl x2), (3, .inl x3), (4, .inl x4), (5, .inl x5)] [] mm := by
  unfold R_limb_73
  refine gl (i' := 74) (fun _ _ => aw_iinc K (dOf ck_mX12_limb rfl rfl) (Nat.le_of_ble_eq_true rfl) rfl) ?_
  refine g_lv (lv' := [(5, .inl _), (0, .inr (.inr (.inl (some _)))), (1, .inl _), (2, .inl _), (3, .inl _), (4, .inl _)]) rfl ?_
  refine g_goto K (dOf ck_mX12_limb rfl rfl).1 (t := 42) (aJ_of (by decide +kernel)) ?_
  refine g_sub [1, 2, 3, 4, 5, 0] rfl ?_
  exact hk42 _ _ _
def R_limb_71 (k37 : Int → Int → aM → Option (Int × aM)) (k42 : Int → Int → aM → Option (Int × aM)) (x1 : Int) (x2 : Int) (x3 : Int) (x5 : Int) (mm : aM) : Option (Int × aM) := R_limb_73 k37 k42 x1 x2 x3 x5 x5 mm
set_option maxHeartbeats 4000000 in
theorem lk_R_limb_71 {p : Program} {l : Launch} {e : Env} {s : State} {m : MethodId} {args : Array Value} {below : List Frame} {meth : Method} {c : Code} {D : va_G} {cA : FieldType → ClassId} {ad adV : Nat → Nat} {z0 : Nat} {al0 : List Nat} (K : aK p s m args meth c mX12_limb D cA ad adV z0) (x1 : Int) (x2 : Int) (x3 : Int) (x5 : Int) (k37 : Int → Int → aM → Option (Int × aM)) (hk37 : ∀ (x3 : Int) (x4 : Int) (mm : aM), aG p l e { frames := 2, cells := 0, slots := 0, locals := 48 } s m args below meth c D cA ad z0 mX12_limb al0 rIM (k37 x3 x4 mm) 37 [(0, .inr (.inr (.inl (some 176)))), (1, .inl x1), (2, .inl x2), (3, .inl x3), (4, .inl x4)] [] mm) (k42 : Int → Int → aM → Option (Int × aM)) (hk42 : ∀ (x4 : Int) (x5 : Int) (mm : aM), aG p l e { frames := 2, cells := 0, slots := 0, locals := 48 } s m args below meth c D cA ad z0 mX12_limb al0 rIM (k42 x4 x5 mm) 42 [(0, .inr (.inr (.inl (some 176)))), (1, .inl x1), (2, .inl x2), (3, .inl x3), (4, .inl x4), (5, .inl x5)] [] mm)  (mm : aM) : aG p l e { frames := 2, cells := 0, slots := 0, locals := 48 } s m args below meth c D cA ad z0 mX12_limb al0 rIM (R_limb_71 k37 k42 x1 x2 x3 x5 mm) 71 [(0, .inr (.inr (.inl (some 176)))), (1, .inl x1), (2, .inl x2), (3, .inl x3), (5, .inl x5)] [] mm := by
  unfold R_limb_71
  refine gl (i' := 72) (fun _ _ => aw_iload K (dOf ck_mX12_limb rfl rfl) rfl) ?_
  refine gl (i' := 73) (fun _ _ => aw_istore K (dOf ck_mX12_limb rfl rfl) (Nat.le_of_ble_eq_true rfl)) ?_
  refine g_lv (lv' := [(4, .inl _), (0, .inr (.inr (.inl (some _)))), (1, .inl _), (2, .inl _), (3, .inl _), (5, .inl _)]) rfl ?_
  refine g_sub [1, 2, 3, 4, 0, 5] rfl ?_
  exact lk_R_limb_73 K _ _ _ _ _ _ hk37 _ hk42 _
def R_limb_42 (k37 : Int → Int → aM → Option (Int × aM)) (x1 : Int) (x2 : Int) (x3 : Int) : Nat → Int → Int → aM → Option (Int × aM)
  | 0, _, _, _ => none
  | n + 1, x4, x5, mm => if x5 < (mm 177 18) then (if 0 ≤ (w32 (19 + x5)) ∧ (w32 (19 + x5)) < 588 then (if (mm 177 (w32 (19 + x5)).toNat) < x3 then (R_limb_73 k37 (R_limb_42 k37 x1 x2 x3 n) x1 x2 x3 x4 x5 mm) else ((R_haveAlike x5 x3 mm).bind fun r17 => (if r17 < x1 then (R_limb_73 k37 (R_limb_42 k37 x1 x2 x3 n) x1 x2 x3 x4 x5 mm) else (if x4 = (-1) then (R_limb_71 k37 (R_limb_42 k37 x1 x2 x3 n) x1 x2 x3 x5 mm) else ((R_isAhead x5 x4 x3 mm).bind fun r20 => (if r20 = 0 then (R_limb_73 k37 (R_limb_42 k37 x1 x2 x3 n) x1 x2 x3 x4 x5 mm) else (R_limb_71 k37 (R_limb_42 k37 x1 x2 x3 n) x1 x2 x3 x5 mm))))))) else none) else (if x4 = (-1) then (k37 (w32 (x3 + (-1))) x4 mm) else (k37 x3 x4 mm))
set_option maxHeartbeats 4000000 in
theorem lk_R_limb_42 {p : Program} {l : Launch} {e : Env} {s : State} {m : MethodId} {args : Array Value} {below : List Frame} {meth : Method} {c : Code} {D : va_G} {cA : FieldType → ClassId} {ad adV : Nat → Nat} {z0 : Nat} {al0 : List Nat} (K : aK p s m args meth c mX12_limb D cA ad adV z0) (x1 : Int) (x2 : Int) (x3 : Int) (k37 : Int → Int → aM → Option (Int × aM)) (hk37 : ∀ (x3 : Int) (x4 : Int) (mm : aM), aG p l e { frames := 2, cells := 0, slots := 0, locals := 48 } s m args below meth c D cA ad z0 mX12_limb al0 rIM (k37 x3 x4 mm) 37 [(0, .inr (.inr (.inl (some 176)))), (1, .inl x1), (2, .inl x2), (3, .inl x3), (4, .inl x4)] [] mm)  : ∀ (n : Nat) (x4 : Int) (x5 : Int) (mm : aM), aG p l e { frames := 2, cells := 0, slots := 0, locals := 48 } s m args below meth c D cA ad z0 mX12_limb al0 rIM (R_limb_42 k37 x1 x2 x3 n x4 x5 mm) 42 [(0, .inr (.inr (.inl (some 176)))), (1, .inl x1), (2, .inl x2), (3, .inl x3), (4, .inl x4), (5, .inl x5)] [] mm := by
  intro n
  induction n with
  | zero => intro x4 x5 mm; exact g_none
  | succ n ih =>
    intro x4 x5 mm
    rw [R_limb_42]
    refine gl (i' := 43) (fun _ _ => aw_iload K (dOf ck_mX12_limb rfl rfl) rfl) ?_
    refine gl (i' := 44) (fun _ _ => aw_aload_n K (dOf ck_mX12_limb rfl rfl) rfl) ?_
    refine gl (i' := 45) (fun _ _ => aw_getf K (dOf ck_mX12_limb rfl rfl) rfl rfl (Nat.le_of_ble_eq_true rfl) wd_1206 (k := 1) rfl) ?_
    refine gl (i' := 46) (fun _ _ => aw_bip K (dOf ck_mX12_limb rfl rfl) (v := 18) rfl) ?_
    refine gl (i' := 47) (fun _ _ => aw_iald K (dOf ck_mX12_limb rfl rfl) rfl (by decide)) ?_
    refine g_icmp_ge K (dOf ck_mX12_limb rfl rfl) (t := 75) (aJ_of (by decide +kernel)) (fun h13 => ?_) (fun h13 => ?_)
    · refine gl (i' := 49) (fun _ _ => aw_aload_n K (dOf ck_mX12_limb rfl rfl) rfl) ?_
      refine gl (i' := 50) (fun _ _ => aw_getf K (dOf ck_mX12_limb rfl rfl) rfl rfl (Nat.le_of_ble_eq_true rfl) wd_1206 (k := 1) rfl) ?_
      refine gl (i' := 51) (fun _ _ => aw_bip K (dOf ck_mX12_limb rfl rfl) (v := 19) rfl) ?_
      refine gl (i' := 52) (fun _ _ => aw_iload K (dOf ck_mX12_limb rfl rfl) rfl) ?_
      refine gl (i' := 53) (fun _ _ => aw_iadd K (dOf ck_mX12_limb rfl rfl)) ?_
      refine g_gd (fun hb15 => ?_)
      refine gl (i' := 54) (fun _ _ => aw_iald K (dOf ck_mX12_limb rfl rfl) rfl hb15) ?_
      refine gl (i' := 55) (fun _ _ => aw_iload_n K (dOf ck_mX12_limb rfl rfl) rfl) ?_
      refine g_icmp_lt K (dOf ck_mX12_limb rfl rfl) (t := 73) (aJ_of (by decide +kernel)) (fun h16 => ?_) (fun h16 => ?_)
      · refine g_sub [0, 1, 2, 3, 4, 5] rfl ?_
        exact lk_R_limb_73 K _ _ _ _ _ _ hk37 _ ih _
      · refine gl (i' := 57) (fun _ _ => aw_aload_n K (dOf ck_mX12_limb rfl rfl) rfl) ?_
        refine gl (i' := 58) (fun _ _ => aw_iload K (dOf ck_mX12_limb rfl rfl) rfl) ?_
        refine gl (i' := 59) (fun _ _ => aw_iload_n K (dOf ck_mX12_limb rfl rfl) rfl) ?_
        refine g_callVI K [.inl _, .inl _] rfl (dOf ck_mX12_limb rfl rfl) al_OneBreathModel_467 rfl rfl ⟨wd_1663, wd_135⟩ rfl (Nat.le_of_ble_eq_true rfl) ⟨Nat.le_of_ble_eq_true rfl, Nat.le_of_ble_eq_true rfl⟩ (fun b hb => met_R_haveAlike  hb) (fun r17 hr17 => ?_)
        refine gl (i' := 61) (fun _ _ => aw_iload_n K (dOf ck_mX12_limb rfl rfl) rfl) ?_
        refine g_icmp_lt K (dOf ck_mX12_limb rfl rfl) (t := 73) (aJ_of (by decide +kernel)) (fun h18 => ?_) (fun h18 => ?_)
        · refine g_sub [0, 1, 2, 3, 4, 5] rfl ?_
          exact lk_R_limb_73 K _ _ _ _ _ _ hk37 _ ih _
        · refine gl (i' := 63) (fun _ _ => aw_iload K (dOf ck_mX12_limb rfl rfl) rfl) ?_
          refine gl (i' := 64) (fun _ _ => aw_iconst K (n := -1) (i32 _ rfl) (dOf ck_mX12_limb rfl rfl)) ?_
          refine g_icmp_eq K (dOf ck_mX12_limb rfl rfl) (t := 71) (aJ_of (by decide +kernel)) (fun h19 => ?_) (fun h19 => ?_)
          · refine g_sub [0, 1, 2, 3, 5] rfl ?_
            exact lk_R_limb_71 K _ _ _ _ _ hk37 _ ih _
          · refine gl (i' := 66) (fun _ _ => aw_aload_n K (dOf ck_mX12_limb rfl rfl) rfl) ?_
            refine gl (i' := 67) (fun _ _ => aw_iload K (dOf ck_mX12_limb rfl rfl) rfl) ?_
            refine gl (i' := 68) (fun _ _ => aw_iload K (dOf ck_mX12_limb rfl rfl) rfl) ?_
            refine gl (i' := 69) (fun _ _ => aw_iload_n K (dOf ck_mX12_limb rfl rfl) rfl) ?_
            refine g_callVI K [.inl _, .inl _, .inl _] rfl (dOf ck_mX12_limb rfl rfl) al_OneBreathModel_470 rfl rfl ⟨wd_1666, wd_136⟩ rfl (Nat.le_of_ble_eq_true rfl) ⟨Nat.le_of_ble_eq_true rfl, Nat.le_of_ble_eq_true rfl⟩ (fun b hb => met_R_isAhead  hb) (fun r20 hr20 => ?_)
            refine g_if_eq K (dOf ck_mX12_limb rfl rfl) (t := 73) (aJ_of (by decide +kernel)) (fun h21 => ?_) (fun h21 => ?_)
            · refine g_sub [0, 1, 2, 3, 4, 5] rfl ?_
              exact lk_R_limb_73 K _ _ _ _ _ _ hk37 _ ih _
            · refine g_sub [0, 1, 2, 3, 5] rfl ?_
              exact lk_R_limb_71 K _ _ _ _ _ hk37 _ ih _
    · refine gl (i' := 76) (fun _ _ => aw_iload K (dOf ck_mX12_limb rfl rfl) rfl) ?_
      refine gl (i' := 77) (fun _ _ => aw_iconst K (n := -1) (i32 _ rfl) (dOf ck_mX12_limb rfl rfl)) ?_
      refine g_icmp_ne K (dOf ck_mX12_limb rfl rfl) (t := 37) (aJ_of (by decide +kernel)) (fun h14 => ?_) (fun h14 => ?_)
      · refine gl (i' := 79) (fun _ _ => aw_iinc K (dOf ck_mX12_limb rfl rfl) (Nat.le_of_ble_eq_true rfl) rfl) ?_
        refine g_lv (lv' := [(3, .inl _), (0, .inr (.inr (.inl (some _)))), (1, .inl _), (2, .inl _), (4, .inl _), (5, .inl _)]) rfl ?_
        refine g_goto K (dOf ck_mX12_limb rfl rfl).1 (t := 37) (aJ_of (by decide +kernel)) ?_
        refine g_sub [1, 2, 3, 0, 4] rfl ?_
        exact hk37 _ _ _
      · refine g_sub [0, 1, 2, 3, 4] rfl ?_
        exact hk37 _ _ _
def R_limb_37 (x1 : Int) (x2 : Int) : Nat → Int → Int → aM → Option (Int × aM)
  | 0, _, _, _ => none
  | n + 1, x3, x4, mm => if x4 = (-1) then (R_limb_42 (R_limb_37 x1 x2 n) x1 x2 x3 FU x4 0 mm) else (if x2 = 0 then (some (x3, mm)) else (if x2 = 1 then ((R_haveAlike x4 x3 mm).bind fun r12 => (some (r12, mm))) else (if (w32 (x2 - 10)) < x3 then (if 0 ≤ (w32 ((w32 ((w32 (58 + (w32 (6 * x4)))) + x2)) - 10)) ∧ (w32 ((w32 ((w32 (58 + (w32 (6 * x4)))) + x2)) - 10)) < 588 then (some (mm 177 (w32 ((w32 ((w32 (58 + (w32 (6 * x4)))) + x2)) - 10)).toNat, mm)) else none) else (some ((-1), mm)))))
set_option maxHeartbeats 4000000 in
theorem lk_R_limb_37 {p : Program} {l : Launch} {e : Env} {s : State} {m : MethodId} {args : Array Value} {below : List Frame} {meth : Method} {c : Code} {D : va_G} {cA : FieldType → ClassId} {ad adV : Nat → Nat} {z0 : Nat} {al0 : List Nat} (K : aK p s m args meth c mX12_limb D cA ad adV z0) (x1 : Int) (x2 : Int)  : ∀ (n : Nat) (x3 : Int) (x4 : Int) (mm : aM), aG p l e { frames := 2, cells := 0, slots := 0, locals := 48 } s m args below meth c D cA ad z0 mX12_limb al0 rIM (R_limb_37 x1 x2 n x3 x4 mm) 37 [(0, .inr (.inr (.inl (some 176)))), (1, .inl x1), (2, .inl x2), (3, .inl x3), (4, .inl x4)] [] mm := by
  intro n
  induction n with
  | zero => intro x3 x4 mm; exact g_none
  | succ n ih =>
    intro x3 x4 mm
    rw [R_limb_37]
    refine gl (i' := 38) (fun _ _ => aw_iload K (dOf ck_mX12_limb rfl rfl) rfl) ?_
    refine gl (i' := 39) (fun _ _ => aw_iconst K (n := -1) (i32 _ rfl) (dOf ck_mX12_limb rfl rfl)) ?_
    refine g_icmp_ne K (dOf ck_mX12_limb rfl rfl) (t := 80) (aJ_of (by decide +kernel)) (fun h7 => ?_) (fun h7 => ?_)
    · refine gl (i' := 41) (fun _ _ => aw_iconst K (n := 0) (i32 _ rfl) (dOf ck_mX12_limb rfl rfl)) ?_
      refine gl (i' := 42) (fun _ _ => aw_istore K (dOf ck_mX12_limb rfl rfl) (Nat.le_of_ble_eq_true rfl)) ?_
      refine g_lv (lv' := [(5, .inl _), (0, .inr (.inr (.inl (some _)))), (1, .inl _), (2, .inl _), (3, .inl _), (4, .inl _)]) rfl ?_
      refine g_sub [1, 2, 3, 4, 5, 0] rfl ?_
      exact lk_R_limb_42 K _ _ _ _ ih FU _ _ _
    · refine gl (i' := 81) (fun _ _ => aw_iload_n K (dOf ck_mX12_limb rfl rfl) rfl) ?_
      refine g_if_ne K (dOf ck_mX12_limb rfl rfl) (t := 84) (aJ_of (by decide +kernel)) (fun h8 => ?_) (fun h8 => ?_)
      · refine gl (i' := 83) (fun _ _ => aw_iload_n K (dOf ck_mX12_limb rfl rfl) rfl) ?_
        refine g_goto K (dOf ck_mX12_limb rfl rfl).1 (t := 111) (aJ_of (by decide +kernel)) ?_
        exact g_iret K (by decide +kernel) rfl (Or.inl rfl) rfl
      · refine gl (i' := 85) (fun _ _ => aw_iload_n K (dOf ck_mX12_limb rfl rfl) rfl) ?_
        refine gl (i' := 86) (fun _ _ => aw_iconst K (n := 1) (i32 _ rfl) (dOf ck_mX12_limb rfl rfl)) ?_
        refine g_icmp_ne K (dOf ck_mX12_limb rfl rfl) (t := 92) (aJ_of (by decide +kernel)) (fun h9 => ?_) (fun h9 => ?_)
        · refine gl (i' := 88) (fun _ _ => aw_aload_n K (dOf ck_mX12_limb rfl rfl) rfl) ?_
          refine gl (i' := 89) (fun _ _ => aw_iload K (dOf ck_mX12_limb rfl rfl) rfl) ?_
          refine gl (i' := 90) (fun _ _ => aw_iload_n K (dOf ck_mX12_limb rfl rfl) rfl) ?_
          refine g_callVI K [.inl _, .inl _] rfl (dOf ck_mX12_limb rfl rfl) al_OneBreathModel_467 rfl rfl ⟨wd_1663, wd_135⟩ rfl (Nat.le_of_ble_eq_true rfl) ⟨Nat.le_of_ble_eq_true rfl, Nat.le_of_ble_eq_true rfl⟩ (fun b hb => met_R_haveAlike  hb) (fun r12 hr12 => ?_)
          refine g_goto K (dOf ck_mX12_limb rfl rfl).1 (t := 111) (aJ_of (by decide +kernel)) ?_
          exact g_iret K (by decide +kernel) rfl (Or.inl rfl) rfl
        · refine gl (i' := 93) (fun _ _ => aw_iload_n K (dOf ck_mX12_limb rfl rfl) rfl) ?_
          refine gl (i' := 94) (fun _ _ => aw_bip K (dOf ck_mX12_limb rfl rfl) (v := 10) rfl) ?_
          refine gl (i' := 95) (fun _ _ => aw_isub K (dOf ck_mX12_limb rfl rfl)) ?_
          refine gl (i' := 96) (fun _ _ => aw_iload_n K (dOf ck_mX12_limb rfl rfl) rfl) ?_
          refine g_icmp_ge K (dOf ck_mX12_limb rfl rfl) (t := 110) (aJ_of (by decide +kernel)) (fun h10 => ?_) (fun h10 => ?_)
          · refine gl (i' := 98) (fun _ _ => aw_aload_n K (dOf ck_mX12_limb rfl rfl) rfl) ?_
            refine gl (i' := 99) (fun _ _ => aw_getf K (dOf ck_mX12_limb rfl rfl) rfl rfl (Nat.le_of_ble_eq_true rfl) wd_1206 (k := 1) rfl) ?_
            refine gl (i' := 100) (fun _ _ => aw_bip K (dOf ck_mX12_limb rfl rfl) (v := 58) rfl) ?_
            refine gl (i' := 101) (fun _ _ => aw_bip K (dOf ck_mX12_limb rfl rfl) (v := 6) rfl) ?_
            refine gl (i' := 102) (fun _ _ => aw_iload K (dOf ck_mX12_limb rfl rfl) rfl) ?_
            refine gl (i' := 103) (fun _ _ => aw_imul K (dOf ck_mX12_limb rfl rfl)) ?_
            refine gl (i' := 104) (fun _ _ => aw_iadd K (dOf ck_mX12_limb rfl rfl)) ?_
            refine gl (i' := 105) (fun _ _ => aw_iload_n K (dOf ck_mX12_limb rfl rfl) rfl) ?_
            refine gl (i' := 106) (fun _ _ => aw_iadd K (dOf ck_mX12_limb rfl rfl)) ?_
            refine gl (i' := 107) (fun _ _ => aw_bip K (dOf ck_mX12_limb rfl rfl) (v := 10) rfl) ?_
            refine gl (i' := 108) (fun _ _ => aw_isub K (dOf ck_mX12_limb rfl rfl)) ?_
            refine g_gd (fun hb11 => ?_)
            refine gl (i' := 109) (fun _ _ => aw_iald K (dOf ck_mX12_limb rfl rfl) rfl hb11) ?_
            refine g_goto K (dOf ck_mX12_limb rfl rfl).1 (t := 111) (aJ_of (by decide +kernel)) ?_
            exact g_iret K (by decide +kernel) rfl (Or.inl rfl) rfl
          · refine gl (i' := 111) (fun _ _ => aw_iconst K (n := -1) (i32 _ rfl) (dOf ck_mX12_limb rfl rfl)) ?_
            exact g_iret K (by decide +kernel) rfl (Or.inl rfl) rfl
def R_limb_25 (x1 : Int) (x2 : Int) (mm : aM) : Option (Int × aM) := if (mm 177 18) < x1 then (some ((-1), mm)) else (R_limb_37 x1 x2 FU 6 (-1) mm)
set_option maxHeartbeats 4000000 in
theorem lk_R_limb_25 {p : Program} {l : Launch} {e : Env} {s : State} {m : MethodId} {args : Array Value} {below : List Frame} {meth : Method} {c : Code} {D : va_G} {cA : FieldType → ClassId} {ad adV : Nat → Nat} {z0 : Nat} {al0 : List Nat} (K : aK p s m args meth c mX12_limb D cA ad adV z0) (x1 : Int) (x2 : Int)  (mm : aM) : aG p l e { frames := 2, cells := 0, slots := 0, locals := 48 } s m args below meth c D cA ad z0 mX12_limb al0 rIM (R_limb_25 x1 x2 mm) 25 [(0, .inr (.inr (.inl (some 176)))), (1, .inl x1), (2, .inl x2)] [] mm := by
  unfold R_limb_25
  refine gl (i' := 26) (fun _ _ => aw_aload_n K (dOf ck_mX12_limb rfl rfl) rfl) ?_
  refine gl (i' := 27) (fun _ _ => aw_getf K (dOf ck_mX12_limb rfl rfl) rfl rfl (Nat.le_of_ble_eq_true rfl) wd_1206 (k := 1) rfl) ?_
  refine gl (i' := 28) (fun _ _ => aw_bip K (dOf ck_mX12_limb rfl rfl) (v := 18) rfl) ?_
  refine gl (i' := 29) (fun _ _ => aw_iald K (dOf ck_mX12_limb rfl rfl) rfl (by decide)) ?_
  refine gl (i' := 30) (fun _ _ => aw_iload_n K (dOf ck_mX12_limb rfl rfl) rfl) ?_
  refine g_icmp_ge K (dOf ck_mX12_limb rfl rfl) (t := 33) (aJ_of (by decide +kernel)) (fun h6 => ?_) (fun h6 => ?_)
  · refine gl (i' := 32) (fun _ _ => aw_iconst K (n := -1) (i32 _ rfl) (dOf ck_mX12_limb rfl rfl)) ?_
    exact g_iret K (dOf ck_mX12_limb rfl rfl).1 rfl (Or.inl rfl) rfl
  · refine gl (i' := 34) (fun _ _ => aw_bip K (dOf ck_mX12_limb rfl rfl) (v := 6) rfl) ?_
    refine gl (i' := 35) (fun _ _ => aw_istore_n K (dOf ck_mX12_limb rfl rfl) (Nat.le_of_ble_eq_true rfl)) ?_
    refine g_lv (lv' := [(3, .inl _), (0, .inr (.inr (.inl (some _)))), (1, .inl _), (2, .inl _)]) rfl ?_
    refine gl (i' := 36) (fun _ _ => aw_iconst K (n := -1) (i32 _ rfl) (dOf ck_mX12_limb rfl rfl)) ?_
    refine gl (i' := 37) (fun _ _ => aw_istore K (dOf ck_mX12_limb rfl rfl) (Nat.le_of_ble_eq_true rfl)) ?_
    refine g_lv (lv' := [(4, .inl _), (3, .inl _), (0, .inr (.inr (.inl (some _)))), (1, .inl _), (2, .inl _)]) rfl ?_
    refine g_sub [2, 3, 4, 1, 0] rfl ?_
    exact lk_R_limb_37 K _ _ FU _ _ _
def R_limb (x1 : Int) (x2 : Int) (mm : aM) : Option (Int × aM) := st1 (aup mm 176 0 0) fun mm1 => ((R_within x1 1 12 mm1).bind fun r2 => (if r2 = 0 then (some ((-3), mm1)) else ((R_within x2 0 1 mm1).bind fun r4 => (if r4 = 0 then ((R_within x2 10 15 mm1).bind fun r22 => (if r22 = 0 then (some ((-2), mm1)) else (R_limb_25 x1 x2 mm1))) else (R_limb_25 x1 x2 mm1)))))
set_option maxHeartbeats 4000000 in
theorem met_R_limb {l : Launch} {D : va_G} {cA : FieldType → ClassId} {ad adV : Nat → Nat} {z0 : Nat} {x1 : Int} {x2 : Int} {mm : aM}  {r : Int × aM} (h : R_limb x1 x2 mm = some r) : aMet l D cA ad adV z0 mX12_limb 2 48 0 0 [.inr (.inr (.inl (some 176))), .inl x1, .inl x2] SH mm (rIM r).1 SH (rIM r).2 := by
  refine aMet_ofG (by decide +kernel) rfl (Nat.le_of_ble_eq_true rfl) h (fun p e s m args below meth c al0 K => ?_)
  unfold R_limb
  refine gl (i' := 1) (fun _ _ => aw_aload_n K (dOf ck_mX12_limb rfl rfl) rfl) ?_
  refine gl (i' := 2) (fun _ _ => aw_iconst K (n := 0) (i32 _ rfl) (dOf ck_mX12_limb rfl rfl)) ?_
  refine g_st1 ?_
  refine gl (i' := 3) (fun _ _ => aw_putf K (dOf ck_mX12_limb rfl rfl) rfl rfl (Nat.le_of_ble_eq_true rfl) wd_1205 (k := 0) rfl rfl (Or.inl rfl)) ?_
  refine gl (i' := 4) (fun _ _ => aw_iload_n K (dOf ck_mX12_limb rfl rfl) rfl) ?_
  refine gl (i' := 5) (fun _ _ => aw_i2l K (dOf ck_mX12_limb rfl rfl)) ?_
  refine gl (i' := 6) (fun _ _ => aw_lcn K (dOf ck_mX12_limb rfl rfl) (v := 1) rfl) ?_
  refine gl (i' := 7) (fun _ _ => aw_ldc2 K (dOf ck_mX12_limb rfl rfl) (n := 12) wd_1539 (i64 _ rfl)) ?_
  refine g_callSI K [.inr (.inl _), .inr (.inl _), .inr (.inl _)] rfl (dOf ck_mX12_limb rfl rfl) al_OneBreathModel_176 wd_1269 rfl (Nat.le_of_ble_eq_true rfl) ⟨Nat.le_of_ble_eq_true rfl, Nat.le_of_ble_eq_true rfl⟩ (fun b hb => met_R_within  hb) (fun r2 hr2 => ?_)
  refine g_if_ne K (dOf ck_mX12_limb rfl rfl) (t := 11) (aJ_of (by decide +kernel)) (fun h3 => ?_) (fun h3 => ?_)
  · refine gl (i' := 10) (fun _ _ => aw_bip K (dOf ck_mX12_limb rfl rfl) (v := -3) rfl) ?_
    exact g_iret K (dOf ck_mX12_limb rfl rfl).1 rfl (Or.inl rfl) rfl
  · refine gl (i' := 12) (fun _ _ => aw_iload_n K (dOf ck_mX12_limb rfl rfl) rfl) ?_
    refine gl (i' := 13) (fun _ _ => aw_i2l K (dOf ck_mX12_limb rfl rfl)) ?_
    refine gl (i' := 14) (fun _ _ => aw_lcn K (dOf ck_mX12_limb rfl rfl) (v := 0) rfl) ?_
    refine gl (i' := 15) (fun _ _ => aw_lcn K (dOf ck_mX12_limb rfl rfl) (v := 1) rfl) ?_
    refine g_callSI K [.inr (.inl _), .inr (.inl _), .inr (.inl _)] rfl (dOf ck_mX12_limb rfl rfl) al_OneBreathModel_176 wd_1269 rfl (Nat.le_of_ble_eq_true rfl) ⟨Nat.le_of_ble_eq_true rfl, Nat.le_of_ble_eq_true rfl⟩ (fun b hb => met_R_within  hb) (fun r4 hr4 => ?_)
    refine g_if_ne K (dOf ck_mX12_limb rfl rfl) (t := 25) (aJ_of (by decide +kernel)) (fun h5 => ?_) (fun h5 => ?_)
    · refine gl (i' := 18) (fun _ _ => aw_iload_n K (dOf ck_mX12_limb rfl rfl) rfl) ?_
      refine gl (i' := 19) (fun _ _ => aw_i2l K (dOf ck_mX12_limb rfl rfl)) ?_
      refine gl (i' := 20) (fun _ _ => aw_ldc2 K (dOf ck_mX12_limb rfl rfl) (n := 10) wd_1355 (i64 _ rfl)) ?_
      refine gl (i' := 21) (fun _ _ => aw_ldc2 K (dOf ck_mX12_limb rfl rfl) (n := 15) wd_1661 (i64 _ rfl)) ?_
      refine g_callSI K [.inr (.inl _), .inr (.inl _), .inr (.inl _)] rfl (dOf ck_mX12_limb rfl rfl) al_OneBreathModel_176 wd_1269 rfl (Nat.le_of_ble_eq_true rfl) ⟨Nat.le_of_ble_eq_true rfl, Nat.le_of_ble_eq_true rfl⟩ (fun b hb => met_R_within  hb) (fun r22 hr22 => ?_)
      refine g_if_ne K (dOf ck_mX12_limb rfl rfl) (t := 25) (aJ_of (by decide +kernel)) (fun h23 => ?_) (fun h23 => ?_)
      · refine gl (i' := 24) (fun _ _ => aw_bip K (dOf ck_mX12_limb rfl rfl) (v := -2) rfl) ?_
        exact g_iret K (dOf ck_mX12_limb rfl rfl).1 rfl (Or.inl rfl) rfl
      · refine g_sub [0, 1, 2] rfl ?_
        exact lk_R_limb_25 K _ _ _
    · refine g_sub [0, 1, 2] rfl ?_
      exact lk_R_limb_25 K _ _ _
def R_numbers_37 (x1 : Int) (x3 : Int) : Nat → Int → aM → Option (Int × aM)
  | 0, _, _ => none
  | n + 1, x4, mm => if x4 < x3 then (if 0 ≤ (w32 ((w32 (40 * x1)) + x4)) ∧ (w32 ((w32 (40 * x1)) + x4)) < 160 then (st1 (aup mm 207 (w32 ((w32 (40 * x1)) + x4)).toNat 0) fun mm13 => (R_numbers_37 x1 x3 n (w32 (x4 + 1)) mm13)) else none) else (some (0, mm))
set_option maxHeartbeats 4000000 in
theorem lk_R_numbers_37 {p : Program} {l : Launch} {e : Env} {s : State} {m : MethodId} {args : Array Value} {below : List Frame} {meth : Method} {c : Code} {D : va_G} {cA : FieldType → ClassId} {ad adV : Nat → Nat} {z0 : Nat} {al0 : List Nat} (K : aK p s m args meth c mX12_numbers D cA ad adV z0) (x1 : Int) (x3 : Int)  : ∀ (n : Nat) (x4 : Int) (mm : aM), aG p l e { frames := 1, cells := 0, slots := 0, locals := 25 } s m args below meth c D cA ad z0 mX12_numbers al0 rIM (R_numbers_37 x1 x3 n x4 mm) 37 [(0, .inr (.inr (.inl (some 176)))), (1, .inl x1), (3, .inl x3), (4, .inl x4)] [] mm := by
  intro n
  induction n with
  | zero => intro x4 mm; exact g_none
  | succ n ih =>
    intro x4 mm
    rw [R_numbers_37]
    refine gl (i' := 38) (fun _ _ => aw_iload K (dOf ck_mX12_numbers rfl rfl) rfl) ?_
    refine gl (i' := 39) (fun _ _ => aw_iload_n K (dOf ck_mX12_numbers rfl rfl) rfl) ?_
    refine g_icmp_ge K (dOf ck_mX12_numbers rfl rfl) (t := 51) (aJ_of (by decide +kernel)) (fun h11 => ?_) (fun h11 => ?_)
    · refine gl (i' := 41) (fun _ _ => aw_aload_n K (dOf ck_mX12_numbers rfl rfl) rfl) ?_
      refine gl (i' := 42) (fun _ _ => aw_getf K (dOf ck_mX12_numbers rfl rfl) rfl rfl (Nat.le_of_ble_eq_true rfl) wd_1259 (k := 54) rfl) ?_
      refine gl (i' := 43) (fun _ _ => aw_bip K (dOf ck_mX12_numbers rfl rfl) (v := 40) rfl) ?_
      refine gl (i' := 44) (fun _ _ => aw_iload_n K (dOf ck_mX12_numbers rfl rfl) rfl) ?_
      refine gl (i' := 45) (fun _ _ => aw_imul K (dOf ck_mX12_numbers rfl rfl)) ?_
      refine gl (i' := 46) (fun _ _ => aw_iload K (dOf ck_mX12_numbers rfl rfl) rfl) ?_
      refine gl (i' := 47) (fun _ _ => aw_iadd K (dOf ck_mX12_numbers rfl rfl)) ?_
      refine gl (i' := 48) (fun _ _ => aw_lcn K (dOf ck_mX12_numbers rfl rfl) (v := 0) rfl) ?_
      refine g_gd (fun hb12 => ?_)
      refine g_st1 ?_
      refine gl (i' := 49) (fun _ _ => aw_last K (dOf ck_mX12_numbers rfl rfl) rfl hb12) ?_
      refine gl (i' := 50) (fun _ _ => aw_iinc K (dOf ck_mX12_numbers rfl rfl) (Nat.le_of_ble_eq_true rfl) rfl) ?_
      refine g_lv (lv' := [(4, .inl _), (0, .inr (.inr (.inl (some _)))), (1, .inl _), (3, .inl _)]) rfl ?_
      refine g_goto K (dOf ck_mX12_numbers rfl rfl).1 (t := 37) (aJ_of (by decide +kernel)) ?_
      refine g_sub [1, 2, 3, 0] rfl ?_
      exact ih _ _
    · refine gl (i' := 52) (fun _ _ => aw_iconst K (n := 0) (i32 _ rfl) (dOf ck_mX12_numbers rfl rfl)) ?_
      exact g_iret K (by decide +kernel) rfl (Or.inl rfl) rfl
def R_numbers (x1 : Int) (x2 : Int) (x3 : Int) (mm : aM) : Option (Int × aM) := st1 (aup mm 176 0 0) fun mm1 => ((R_within x1 0 3 mm1).bind fun r2 => (if r2 = 0 then (some ((-2), mm1)) else ((R_within x2 0 3 mm1).bind fun r4 => (if r4 = 0 then (some ((-2), mm1)) else ((R_within x3 0 40 mm1).bind fun r6 => (if r6 = 0 then (some ((-3), mm1)) else (if 0 ≤ x1 ∧ x1 < 4 then (st1 (aup mm1 205 x1.toNat x2) fun mm9 => (st1 (aup mm9 206 x1.toNat x3) fun mm10 => (R_numbers_37 x1 x3 FU 0 mm10))) else none)))))))
set_option maxHeartbeats 4000000 in
theorem met_R_numbers {l : Launch} {D : va_G} {cA : FieldType → ClassId} {ad adV : Nat → Nat} {z0 : Nat} {x1 : Int} {x2 : Int} {x3 : Int} {mm : aM}  {r : Int × aM} (h : R_numbers x1 x2 x3 mm = some r) : aMet l D cA ad adV z0 mX12_numbers 1 25 0 0 [.inr (.inr (.inl (some 176))), .inl x1, .inl x2, .inl x3] SH mm (rIM r).1 SH (rIM r).2 := by
  refine aMet_ofG (by decide +kernel) rfl (Nat.le_of_ble_eq_true rfl) h (fun p e s m args below meth c al0 K => ?_)
  unfold R_numbers
  refine gl (i' := 1) (fun _ _ => aw_aload_n K (dOf ck_mX12_numbers rfl rfl) rfl) ?_
  refine gl (i' := 2) (fun _ _ => aw_iconst K (n := 0) (i32 _ rfl) (dOf ck_mX12_numbers rfl rfl)) ?_
  refine g_st1 ?_
  refine gl (i' := 3) (fun _ _ => aw_putf K (dOf ck_mX12_numbers rfl rfl) rfl rfl (Nat.le_of_ble_eq_true rfl) wd_1205 (k := 0) rfl rfl (Or.inl rfl)) ?_
  refine gl (i' := 4) (fun _ _ => aw_iload_n K (dOf ck_mX12_numbers rfl rfl) rfl) ?_
  refine gl (i' := 5) (fun _ _ => aw_i2l K (dOf ck_mX12_numbers rfl rfl)) ?_
  refine gl (i' := 6) (fun _ _ => aw_lcn K (dOf ck_mX12_numbers rfl rfl) (v := 0) rfl) ?_
  refine gl (i' := 7) (fun _ _ => aw_ldc2 K (dOf ck_mX12_numbers rfl rfl) (n := 3) wd_1365 (i64 _ rfl)) ?_
  refine g_callSI K [.inr (.inl _), .inr (.inl _), .inr (.inl _)] rfl (dOf ck_mX12_numbers rfl rfl) al_OneBreathModel_176 wd_1269 rfl (Nat.le_of_ble_eq_true rfl) ⟨Nat.le_of_ble_eq_true rfl, Nat.le_of_ble_eq_true rfl⟩ (fun b hb => met_R_within  hb) (fun r2 hr2 => ?_)
  refine g_if_eq K (dOf ck_mX12_numbers rfl rfl) (t := 15) (aJ_of (by decide +kernel)) (fun h3 => ?_) (fun h3 => ?_)
  · refine gl (i' := 16) (fun _ _ => aw_bip K (dOf ck_mX12_numbers rfl rfl) (v := -2) rfl) ?_
    exact g_iret K (dOf ck_mX12_numbers rfl rfl).1 rfl (Or.inl rfl) rfl
  · refine gl (i' := 10) (fun _ _ => aw_iload_n K (dOf ck_mX12_numbers rfl rfl) rfl) ?_
    refine gl (i' := 11) (fun _ _ => aw_i2l K (dOf ck_mX12_numbers rfl rfl)) ?_
    refine gl (i' := 12) (fun _ _ => aw_lcn K (dOf ck_mX12_numbers rfl rfl) (v := 0) rfl) ?_
    refine gl (i' := 13) (fun _ _ => aw_ldc2 K (dOf ck_mX12_numbers rfl rfl) (n := 3) wd_1365 (i64 _ rfl)) ?_
    refine g_callSI K [.inr (.inl _), .inr (.inl _), .inr (.inl _)] rfl (dOf ck_mX12_numbers rfl rfl) al_OneBreathModel_176 wd_1269 rfl (Nat.le_of_ble_eq_true rfl) ⟨Nat.le_of_ble_eq_true rfl, Nat.le_of_ble_eq_true rfl⟩ (fun b hb => met_R_within  hb) (fun r4 hr4 => ?_)
    refine g_if_ne K (dOf ck_mX12_numbers rfl rfl) (t := 17) (aJ_of (by decide +kernel)) (fun h5 => ?_) (fun h5 => ?_)
    · refine gl (i' := 16) (fun _ _ => aw_bip K (dOf ck_mX12_numbers rfl rfl) (v := -2) rfl) ?_
      exact g_iret K (dOf ck_mX12_numbers rfl rfl).1 rfl (Or.inl rfl) rfl
    · refine gl (i' := 18) (fun _ _ => aw_iload_n K (dOf ck_mX12_numbers rfl rfl) rfl) ?_
      refine gl (i' := 19) (fun _ _ => aw_i2l K (dOf ck_mX12_numbers rfl rfl)) ?_
      refine gl (i' := 20) (fun _ _ => aw_lcn K (dOf ck_mX12_numbers rfl rfl) (v := 0) rfl) ?_
      refine gl (i' := 21) (fun _ _ => aw_ldc2 K (dOf ck_mX12_numbers rfl rfl) (n := 40) wd_1672 (i64 _ rfl)) ?_
      refine g_callSI K [.inr (.inl _), .inr (.inl _), .inr (.inl _)] rfl (dOf ck_mX12_numbers rfl rfl) al_OneBreathModel_176 wd_1269 rfl (Nat.le_of_ble_eq_true rfl) ⟨Nat.le_of_ble_eq_true rfl, Nat.le_of_ble_eq_true rfl⟩ (fun b hb => met_R_within  hb) (fun r6 hr6 => ?_)
      refine g_if_ne K (dOf ck_mX12_numbers rfl rfl) (t := 25) (aJ_of (by decide +kernel)) (fun h7 => ?_) (fun h7 => ?_)
      · refine gl (i' := 24) (fun _ _ => aw_bip K (dOf ck_mX12_numbers rfl rfl) (v := -3) rfl) ?_
        exact g_iret K (dOf ck_mX12_numbers rfl rfl).1 rfl (Or.inl rfl) rfl
      · refine gl (i' := 26) (fun _ _ => aw_aload_n K (dOf ck_mX12_numbers rfl rfl) rfl) ?_
        refine gl (i' := 27) (fun _ _ => aw_getf K (dOf ck_mX12_numbers rfl rfl) rfl rfl (Nat.le_of_ble_eq_true rfl) wd_1257 (k := 52) rfl) ?_
        refine gl (i' := 28) (fun _ _ => aw_iload_n K (dOf ck_mX12_numbers rfl rfl) rfl) ?_
        refine gl (i' := 29) (fun _ _ => aw_iload_n K (dOf ck_mX12_numbers rfl rfl) rfl) ?_
        refine g_gd (fun hb8 => ?_)
        refine g_st1 ?_
        refine gl (i' := 30) (fun _ _ => aw_iast K (dOf ck_mX12_numbers rfl rfl) rfl hb8) ?_
        refine gl (i' := 31) (fun _ _ => aw_aload_n K (dOf ck_mX12_numbers rfl rfl) rfl) ?_
        refine gl (i' := 32) (fun _ _ => aw_getf K (dOf ck_mX12_numbers rfl rfl) rfl rfl (Nat.le_of_ble_eq_true rfl) wd_1258 (k := 53) rfl) ?_
        refine gl (i' := 33) (fun _ _ => aw_iload_n K (dOf ck_mX12_numbers rfl rfl) rfl) ?_
        refine gl (i' := 34) (fun _ _ => aw_iload_n K (dOf ck_mX12_numbers rfl rfl) rfl) ?_
        refine g_st1 ?_
        refine gl (i' := 35) (fun _ _ => aw_iast K (dOf ck_mX12_numbers rfl rfl) rfl hb8) ?_
        refine gl (i' := 36) (fun _ _ => aw_iconst K (n := 0) (i32 _ rfl) (dOf ck_mX12_numbers rfl rfl)) ?_
        refine gl (i' := 37) (fun _ _ => aw_istore K (dOf ck_mX12_numbers rfl rfl) (Nat.le_of_ble_eq_true rfl)) ?_
        refine g_lv (lv' := [(4, .inl _), (0, .inr (.inr (.inl (some _)))), (1, .inl _), (2, .inl _), (3, .inl _)]) rfl ?_
        refine g_sub [1, 2, 4, 0] rfl ?_
        exact lk_R_numbers_37 K _ _ FU _ _
def R_cutTo (x0 : Int) (x2 : Int) (mm : aM) : Option Int := if x2 = 0 then (some (w8 (w32 x0))) else (if x2 = 1 then (some (w16 (w32 x0))) else (if x2 = 2 then (some (w32 x0)) else (some x0)))
set_option maxHeartbeats 4000000 in
theorem met_R_cutTo {l : Launch} {D : va_G} {cA : FieldType → ClassId} {ad adV : Nat → Nat} {z0 : Nat} {x0 : Int} {x2 : Int} {mm : aM}  {r : Int} (h : R_cutTo x0 x2 mm = some r) : aMet l D cA ad adV z0 mX12_cutTo 0 0 0 0 [.inr (.inl x0), .inl x2] SH mm ((rL mm) r).1 SH ((rL mm) r).2 := by
  refine aMet_ofG (by decide +kernel) rfl (Nat.le_of_ble_eq_true rfl) h (fun p e s m args below meth c al0 K => ?_)
  unfold R_cutTo
  refine gl (i' := 1) (fun _ _ => aw_iload_n K (dOf ck_mX12_cutTo rfl rfl) rfl) ?_
  refine g_if_ne K (dOf ck_mX12_cutTo rfl rfl) (t := 7) (aJ_of (by decide +kernel)) (fun h1 => ?_) (fun h1 => ?_)
  · refine gl (i' := 3) (fun _ _ => aw_lload_n K (dOf ck_mX12_cutTo rfl rfl) rfl) ?_
    refine gl (i' := 4) (fun _ _ => aw_l2i K (dOf ck_mX12_cutTo rfl rfl)) ?_
    refine gl (i' := 5) (fun _ _ => aw_i2b K (dOf ck_mX12_cutTo rfl rfl)) ?_
    refine gl (i' := 6) (fun _ _ => aw_i2l K (dOf ck_mX12_cutTo rfl rfl)) ?_
    refine g_goto K (dOf ck_mX12_cutTo rfl rfl).1 (t := 23) (aJ_of (by decide +kernel)) ?_
    exact g_lret K (by decide +kernel) rfl rfl
  · refine gl (i' := 8) (fun _ _ => aw_iload_n K (dOf ck_mX12_cutTo rfl rfl) rfl) ?_
    refine gl (i' := 9) (fun _ _ => aw_iconst K (n := 1) (i32 _ rfl) (dOf ck_mX12_cutTo rfl rfl)) ?_
    refine g_icmp_ne K (dOf ck_mX12_cutTo rfl rfl) (t := 15) (aJ_of (by decide +kernel)) (fun h2 => ?_) (fun h2 => ?_)
    · refine gl (i' := 11) (fun _ _ => aw_lload_n K (dOf ck_mX12_cutTo rfl rfl) rfl) ?_
      refine gl (i' := 12) (fun _ _ => aw_l2i K (dOf ck_mX12_cutTo rfl rfl)) ?_
      refine gl (i' := 13) (fun _ _ => aw_i2s K (dOf ck_mX12_cutTo rfl rfl)) ?_
      refine gl (i' := 14) (fun _ _ => aw_i2l K (dOf ck_mX12_cutTo rfl rfl)) ?_
      refine g_goto K (dOf ck_mX12_cutTo rfl rfl).1 (t := 23) (aJ_of (by decide +kernel)) ?_
      exact g_lret K (by decide +kernel) rfl rfl
    · refine gl (i' := 16) (fun _ _ => aw_iload_n K (dOf ck_mX12_cutTo rfl rfl) rfl) ?_
      refine gl (i' := 17) (fun _ _ => aw_iconst K (n := 2) (i32 _ rfl) (dOf ck_mX12_cutTo rfl rfl)) ?_
      refine g_icmp_ne K (dOf ck_mX12_cutTo rfl rfl) (t := 22) (aJ_of (by decide +kernel)) (fun h3 => ?_) (fun h3 => ?_)
      · refine gl (i' := 19) (fun _ _ => aw_lload_n K (dOf ck_mX12_cutTo rfl rfl) rfl) ?_
        refine gl (i' := 20) (fun _ _ => aw_l2i K (dOf ck_mX12_cutTo rfl rfl)) ?_
        refine gl (i' := 21) (fun _ _ => aw_i2l K (dOf ck_mX12_cutTo rfl rfl)) ?_
        refine g_goto K (dOf ck_mX12_cutTo rfl rfl).1 (t := 23) (aJ_of (by decide +kernel)) ?_
        exact g_lret K (by decide +kernel) rfl rfl
      · refine gl (i' := 23) (fun _ _ => aw_lload_n K (dOf ck_mX12_cutTo rfl rfl) rfl) ?_
        exact g_lret K (by decide +kernel) rfl rfl
def R_write (x1 : Int) (x2 : Int) (x3 : Int) (mm : aM) : Option (Int × aM) := st1 (aup mm 176 0 0) fun mm1 => ((R_within x1 0 3 mm1).bind fun r2 => (if r2 = 0 then (some ((-2), mm1)) else (if 0 ≤ x1 ∧ x1 < 4 then (if (mm1 205 x1.toNat) = (-1) then (some ((-6), mm1)) else ((R_within x2 0 (w32 ((mm1 206 x1.toNat) - 1)) mm1).bind fun r6 => (if r6 = 0 then (some ((-7), mm1)) else ((R_cutTo x3 (mm1 205 x1.toNat) mm1).bind fun r8 => (if 0 ≤ (w32 ((w32 (40 * x1)) + x2)) ∧ (w32 ((w32 (40 * x1)) + x2)) < 160 then (st1 (aup mm1 207 (w32 ((w32 (40 * x1)) + x2)).toNat r8) fun mm10 => (some (mm10 207 (w32 ((w32 (40 * x1)) + x2)).toNat, mm10))) else none))))) else none)))
set_option maxHeartbeats 4000000 in
theorem met_R_write {l : Launch} {D : va_G} {cA : FieldType → ClassId} {ad adV : Nat → Nat} {z0 : Nat} {x1 : Int} {x2 : Int} {x3 : Int} {mm : aM}  {r : Int × aM} (h : R_write x1 x2 x3 mm = some r) : aMet l D cA ad adV z0 mX12_write 1 25 0 0 [.inr (.inr (.inl (some 176))), .inl x1, .inl x2, .inr (.inl x3)] SH mm (rLM r).1 SH (rLM r).2 := by
  refine aMet_ofG (by decide +kernel) rfl (Nat.le_of_ble_eq_true rfl) h (fun p e s m args below meth c al0 K => ?_)
  unfold R_write
  refine gl (i' := 1) (fun _ _ => aw_aload_n K (dOf ck_mX12_write rfl rfl) rfl) ?_
  refine gl (i' := 2) (fun _ _ => aw_iconst K (n := 0) (i32 _ rfl) (dOf ck_mX12_write rfl rfl)) ?_
  refine g_st1 ?_
  refine gl (i' := 3) (fun _ _ => aw_putf K (dOf ck_mX12_write rfl rfl) rfl rfl (Nat.le_of_ble_eq_true rfl) wd_1205 (k := 0) rfl rfl (Or.inl rfl)) ?_
  refine gl (i' := 4) (fun _ _ => aw_iload_n K (dOf ck_mX12_write rfl rfl) rfl) ?_
  refine gl (i' := 5) (fun _ _ => aw_i2l K (dOf ck_mX12_write rfl rfl)) ?_
  refine gl (i' := 6) (fun _ _ => aw_lcn K (dOf ck_mX12_write rfl rfl) (v := 0) rfl) ?_
  refine gl (i' := 7) (fun _ _ => aw_ldc2 K (dOf ck_mX12_write rfl rfl) (n := 3) wd_1365 (i64 _ rfl)) ?_
  refine g_callSI K [.inr (.inl _), .inr (.inl _), .inr (.inl _)] rfl (dOf ck_mX12_write rfl rfl) al_OneBreathModel_176 wd_1269 rfl (Nat.le_of_ble_eq_true rfl) ⟨Nat.le_of_ble_eq_true rfl, Nat.le_of_ble_eq_true rfl⟩ (fun b hb => met_R_within  hb) (fun r2 hr2 => ?_)
  refine g_if_ne K (dOf ck_mX12_write rfl rfl) (t := 11) (aJ_of (by decide +kernel)) (fun h3 => ?_) (fun h3 => ?_)
  · refine gl (i' := 10) (fun _ _ => aw_ldc2 K (dOf ck_mX12_write rfl rfl) (n := -2) (by rw [show Int64.ofInt (-2) = (-2 : Int64) by decide]; exact wd_1677) (i64 _ rfl)) ?_
    exact g_lret K (dOf ck_mX12_write rfl rfl).1 rfl rfl
  · refine gl (i' := 12) (fun _ _ => aw_aload_n K (dOf ck_mX12_write rfl rfl) rfl) ?_
    refine gl (i' := 13) (fun _ _ => aw_getf K (dOf ck_mX12_write rfl rfl) rfl rfl (Nat.le_of_ble_eq_true rfl) wd_1257 (k := 52) rfl) ?_
    refine gl (i' := 14) (fun _ _ => aw_iload_n K (dOf ck_mX12_write rfl rfl) rfl) ?_
    refine g_gd (fun hb4 => ?_)
    refine gl (i' := 15) (fun _ _ => aw_iald K (dOf ck_mX12_write rfl rfl) rfl hb4) ?_
    refine gl (i' := 16) (fun _ _ => aw_iconst K (n := -1) (i32 _ rfl) (dOf ck_mX12_write rfl rfl)) ?_
    refine g_icmp_ne K (dOf ck_mX12_write rfl rfl) (t := 19) (aJ_of (by decide +kernel)) (fun h5 => ?_) (fun h5 => ?_)
    · refine gl (i' := 18) (fun _ _ => aw_ldc2 K (dOf ck_mX12_write rfl rfl) (n := -6) (by rw [show Int64.ofInt (-6) = (-6 : Int64) by decide]; exact wd_1678) (i64 _ rfl)) ?_
      exact g_lret K (dOf ck_mX12_write rfl rfl).1 rfl rfl
    · refine gl (i' := 20) (fun _ _ => aw_iload_n K (dOf ck_mX12_write rfl rfl) rfl) ?_
      refine gl (i' := 21) (fun _ _ => aw_i2l K (dOf ck_mX12_write rfl rfl)) ?_
      refine gl (i' := 22) (fun _ _ => aw_lcn K (dOf ck_mX12_write rfl rfl) (v := 0) rfl) ?_
      refine gl (i' := 23) (fun _ _ => aw_aload_n K (dOf ck_mX12_write rfl rfl) rfl) ?_
      refine gl (i' := 24) (fun _ _ => aw_getf K (dOf ck_mX12_write rfl rfl) rfl rfl (Nat.le_of_ble_eq_true rfl) wd_1258 (k := 53) rfl) ?_
      refine gl (i' := 25) (fun _ _ => aw_iload_n K (dOf ck_mX12_write rfl rfl) rfl) ?_
      refine gl (i' := 26) (fun _ _ => aw_iald K (dOf ck_mX12_write rfl rfl) rfl hb4) ?_
      refine gl (i' := 27) (fun _ _ => aw_iconst K (n := 1) (i32 _ rfl) (dOf ck_mX12_write rfl rfl)) ?_
      refine gl (i' := 28) (fun _ _ => aw_isub K (dOf ck_mX12_write rfl rfl)) ?_
      refine gl (i' := 29) (fun _ _ => aw_i2l K (dOf ck_mX12_write rfl rfl)) ?_
      refine g_callSI K [.inr (.inl _), .inr (.inl _), .inr (.inl _)] rfl (dOf ck_mX12_write rfl rfl) al_OneBreathModel_176 wd_1269 rfl (Nat.le_of_ble_eq_true rfl) ⟨Nat.le_of_ble_eq_true rfl, Nat.le_of_ble_eq_true rfl⟩ (fun b hb => met_R_within  hb) (fun r6 hr6 => ?_)
      refine g_if_ne K (dOf ck_mX12_write rfl rfl) (t := 33) (aJ_of (by decide +kernel)) (fun h7 => ?_) (fun h7 => ?_)
      · refine gl (i' := 32) (fun _ _ => aw_ldc2 K (dOf ck_mX12_write rfl rfl) (n := -7) (by rw [show Int64.ofInt (-7) = (-7 : Int64) by decide]; exact wd_1679) (i64 _ rfl)) ?_
        exact g_lret K (dOf ck_mX12_write rfl rfl).1 rfl rfl
      · refine gl (i' := 34) (fun _ _ => aw_aload_n K (dOf ck_mX12_write rfl rfl) rfl) ?_
        refine gl (i' := 35) (fun _ _ => aw_getf K (dOf ck_mX12_write rfl rfl) rfl rfl (Nat.le_of_ble_eq_true rfl) wd_1259 (k := 54) rfl) ?_
        refine gl (i' := 36) (fun _ _ => aw_bip K (dOf ck_mX12_write rfl rfl) (v := 40) rfl) ?_
        refine gl (i' := 37) (fun _ _ => aw_iload_n K (dOf ck_mX12_write rfl rfl) rfl) ?_
        refine gl (i' := 38) (fun _ _ => aw_imul K (dOf ck_mX12_write rfl rfl)) ?_
        refine gl (i' := 39) (fun _ _ => aw_iload_n K (dOf ck_mX12_write rfl rfl) rfl) ?_
        refine gl (i' := 40) (fun _ _ => aw_iadd K (dOf ck_mX12_write rfl rfl)) ?_
        refine gl (i' := 41) (fun _ _ => aw_lload_n K (dOf ck_mX12_write rfl rfl) rfl) ?_
        refine gl (i' := 42) (fun _ _ => aw_aload_n K (dOf ck_mX12_write rfl rfl) rfl) ?_
        refine gl (i' := 43) (fun _ _ => aw_getf K (dOf ck_mX12_write rfl rfl) rfl rfl (Nat.le_of_ble_eq_true rfl) wd_1257 (k := 52) rfl) ?_
        refine gl (i' := 44) (fun _ _ => aw_iload_n K (dOf ck_mX12_write rfl rfl) rfl) ?_
        refine gl (i' := 45) (fun _ _ => aw_iald K (dOf ck_mX12_write rfl rfl) rfl hb4) ?_
        refine g_callSL K [.inr (.inl _), .inl _] rfl (dOf ck_mX12_write rfl rfl) al_OneBreathModel_481 wd_1681 rfl (Nat.le_of_ble_eq_true rfl) ⟨Nat.le_of_ble_eq_true rfl, Nat.le_of_ble_eq_true rfl⟩ (fun b hb => met_R_cutTo  hb) (fun r8 hr8 => ?_)
        refine g_gd (fun hb9 => ?_)
        refine g_st1 ?_
        refine gl (i' := 47) (fun _ _ => aw_last K (dOf ck_mX12_write rfl rfl) rfl hb9) ?_
        refine gl (i' := 48) (fun _ _ => aw_aload_n K (dOf ck_mX12_write rfl rfl) rfl) ?_
        refine gl (i' := 49) (fun _ _ => aw_getf K (dOf ck_mX12_write rfl rfl) rfl rfl (Nat.le_of_ble_eq_true rfl) wd_1259 (k := 54) rfl) ?_
        refine gl (i' := 50) (fun _ _ => aw_bip K (dOf ck_mX12_write rfl rfl) (v := 40) rfl) ?_
        refine gl (i' := 51) (fun _ _ => aw_iload_n K (dOf ck_mX12_write rfl rfl) rfl) ?_
        refine gl (i' := 52) (fun _ _ => aw_imul K (dOf ck_mX12_write rfl rfl)) ?_
        refine gl (i' := 53) (fun _ _ => aw_iload_n K (dOf ck_mX12_write rfl rfl) rfl) ?_
        refine gl (i' := 54) (fun _ _ => aw_iadd K (dOf ck_mX12_write rfl rfl)) ?_
        refine gl (i' := 55) (fun _ _ => aw_lald K (dOf ck_mX12_write rfl rfl) rfl hb9) ?_
        exact g_lret K (by decide +kernel) rfl rfl
def R_copy_44 (x2 : Int) : Nat → Int → aM → Option (Int × aM)
  | 0, _, _ => none
  | n + 1, x3, mm => if x3 < (mm 176 22) then (if 0 ≤ x3 ∧ x3 < 40 then (if 0 ≤ (w32 ((w32 (40 * x2)) + x3)) ∧ (w32 ((w32 (40 * x2)) + x3)) < 160 then (st1 (aup mm 207 (w32 ((w32 (40 * x2)) + x3)).toNat (mm 186 x3.toNat)) fun mm15 => (R_copy_44 x2 n (w32 (x3 + 1)) mm15)) else none) else none) else (some (mm 176 22, mm))
set_option maxHeartbeats 4000000 in
theorem lk_R_copy_44 {p : Program} {l : Launch} {e : Env} {s : State} {m : MethodId} {args : Array Value} {below : List Frame} {meth : Method} {c : Code} {D : va_G} {cA : FieldType → ClassId} {ad adV : Nat → Nat} {z0 : Nat} {al0 : List Nat} (K : aK p s m args meth c mX12_copy D cA ad adV z0) (x2 : Int)  : ∀ (n : Nat) (x3 : Int) (mm : aM), aG p l e { frames := 6, cells := 0, slots := 0, locals := 146 } s m args below meth c D cA ad z0 mX12_copy al0 rIM (R_copy_44 x2 n x3 mm) 44 [(0, .inr (.inr (.inl (some 176)))), (2, .inl x2), (3, .inl x3)] [] mm := by
  intro n
  induction n with
  | zero => intro x3 mm; exact g_none
  | succ n ih =>
    intro x3 mm
    rw [R_copy_44]
    refine gl (i' := 45) (fun _ _ => aw_iload_n K (dOf ck_mX12_copy rfl rfl) rfl) ?_
    refine gl (i' := 46) (fun _ _ => aw_aload_n K (dOf ck_mX12_copy rfl rfl) rfl) ?_
    refine gl (i' := 47) (fun _ _ => aw_getf K (dOf ck_mX12_copy rfl rfl) rfl rfl (Nat.le_of_ble_eq_true rfl) wd_1227 (k := 22) rfl) ?_
    refine g_icmp_ge K (dOf ck_mX12_copy rfl rfl) (t := 63) (aJ_of (by decide +kernel)) (fun h12 => ?_) (fun h12 => ?_)
    · refine gl (i' := 49) (fun _ _ => aw_aload_n K (dOf ck_mX12_copy rfl rfl) rfl) ?_
      refine gl (i' := 50) (fun _ _ => aw_getf K (dOf ck_mX12_copy rfl rfl) rfl rfl (Nat.le_of_ble_eq_true rfl) wd_1259 (k := 54) rfl) ?_
      refine gl (i' := 51) (fun _ _ => aw_bip K (dOf ck_mX12_copy rfl rfl) (v := 40) rfl) ?_
      refine gl (i' := 52) (fun _ _ => aw_iload_n K (dOf ck_mX12_copy rfl rfl) rfl) ?_
      refine gl (i' := 53) (fun _ _ => aw_imul K (dOf ck_mX12_copy rfl rfl)) ?_
      refine gl (i' := 54) (fun _ _ => aw_iload_n K (dOf ck_mX12_copy rfl rfl) rfl) ?_
      refine gl (i' := 55) (fun _ _ => aw_iadd K (dOf ck_mX12_copy rfl rfl)) ?_
      refine gl (i' := 56) (fun _ _ => aw_aload_n K (dOf ck_mX12_copy rfl rfl) rfl) ?_
      refine gl (i' := 57) (fun _ _ => aw_getf K (dOf ck_mX12_copy rfl rfl) rfl rfl (Nat.le_of_ble_eq_true rfl) wd_1226 (k := 21) rfl) ?_
      refine gl (i' := 58) (fun _ _ => aw_iload_n K (dOf ck_mX12_copy rfl rfl) rfl) ?_
      refine g_gd (fun hb13 => ?_)
      refine gl (i' := 59) (fun _ _ => aw_iald K (dOf ck_mX12_copy rfl rfl) rfl hb13) ?_
      refine gl (i' := 60) (fun _ _ => aw_i2l K (dOf ck_mX12_copy rfl rfl)) ?_
      refine g_gd (fun hb14 => ?_)
      refine g_st1 ?_
      refine gl (i' := 61) (fun _ _ => aw_last K (dOf ck_mX12_copy rfl rfl) rfl hb14) ?_
      refine gl (i' := 62) (fun _ _ => aw_iinc K (dOf ck_mX12_copy rfl rfl) (Nat.le_of_ble_eq_true rfl) rfl) ?_
      refine g_lv (lv' := [(3, .inl _), (0, .inr (.inr (.inl (some _)))), (2, .inl _)]) rfl ?_
      refine g_goto K (dOf ck_mX12_copy rfl rfl).1 (t := 44) (aJ_of (by decide +kernel)) ?_
      refine g_sub [1, 2, 0] rfl ?_
      exact ih _ _
    · refine gl (i' := 64) (fun _ _ => aw_aload_n K (dOf ck_mX12_copy rfl rfl) rfl) ?_
      refine gl (i' := 65) (fun _ _ => aw_getf K (dOf ck_mX12_copy rfl rfl) rfl rfl (Nat.le_of_ble_eq_true rfl) wd_1227 (k := 22) rfl) ?_
      exact g_iret K (by decide +kernel) rfl (Or.inl rfl) rfl
def R_copy (x1 : Int) (x2 : Int) (mm : aM) : Option (Int × aM) := st1 (aup mm 176 0 0) fun mm1 => ((R_within x1 0 3 mm1).bind fun r2 => (if r2 = 0 then (some ((-2), mm1)) else ((R_within x2 0 3 mm1).bind fun r4 => (if r4 = 0 then (some ((-2), mm1)) else ((R_looksAtLine mm1).bind fun r6 => ((R_finds x1 r6).bind fun r7 => (if r7.1 = 0 then (some ((-5), r7.2)) else (if 0 ≤ x2 ∧ x2 < 4 then (if (r7.2 205 x2.toNat) = (-1) then (some ((-6), r7.2)) else (if (r7.2 206 x2.toNat) < (r7.2 176 22) then (some ((-7), r7.2)) else (R_copy_44 x2 FU 0 r7.2))) else none))))))))
set_option maxHeartbeats 4000000 in
theorem met_R_copy {l : Launch} {D : va_G} {cA : FieldType → ClassId} {ad adV : Nat → Nat} {z0 : Nat} {x1 : Int} {x2 : Int} {mm : aM}  {r : Int × aM} (h : R_copy x1 x2 mm = some r) : aMet l D cA ad adV z0 mX12_copy 6 146 0 0 [.inr (.inr (.inl (some 176))), .inl x1, .inl x2] SH mm (rIM r).1 SH (rIM r).2 := by
  refine aMet_ofG (by decide +kernel) rfl (Nat.le_of_ble_eq_true rfl) h (fun p e s m args below meth c al0 K => ?_)
  unfold R_copy
  refine gl (i' := 1) (fun _ _ => aw_aload_n K (dOf ck_mX12_copy rfl rfl) rfl) ?_
  refine gl (i' := 2) (fun _ _ => aw_iconst K (n := 0) (i32 _ rfl) (dOf ck_mX12_copy rfl rfl)) ?_
  refine g_st1 ?_
  refine gl (i' := 3) (fun _ _ => aw_putf K (dOf ck_mX12_copy rfl rfl) rfl rfl (Nat.le_of_ble_eq_true rfl) wd_1205 (k := 0) rfl rfl (Or.inl rfl)) ?_
  refine gl (i' := 4) (fun _ _ => aw_iload_n K (dOf ck_mX12_copy rfl rfl) rfl) ?_
  refine gl (i' := 5) (fun _ _ => aw_i2l K (dOf ck_mX12_copy rfl rfl)) ?_
  refine gl (i' := 6) (fun _ _ => aw_lcn K (dOf ck_mX12_copy rfl rfl) (v := 0) rfl) ?_
  refine gl (i' := 7) (fun _ _ => aw_ldc2 K (dOf ck_mX12_copy rfl rfl) (n := 3) wd_1365 (i64 _ rfl)) ?_
  refine g_callSI K [.inr (.inl _), .inr (.inl _), .inr (.inl _)] rfl (dOf ck_mX12_copy rfl rfl) al_OneBreathModel_176 wd_1269 rfl (Nat.le_of_ble_eq_true rfl) ⟨Nat.le_of_ble_eq_true rfl, Nat.le_of_ble_eq_true rfl⟩ (fun b hb => met_R_within  hb) (fun r2 hr2 => ?_)
  refine g_if_eq K (dOf ck_mX12_copy rfl rfl) (t := 15) (aJ_of (by decide +kernel)) (fun h3 => ?_) (fun h3 => ?_)
  · refine gl (i' := 16) (fun _ _ => aw_bip K (dOf ck_mX12_copy rfl rfl) (v := -2) rfl) ?_
    exact g_iret K (dOf ck_mX12_copy rfl rfl).1 rfl (Or.inl rfl) rfl
  · refine gl (i' := 10) (fun _ _ => aw_iload_n K (dOf ck_mX12_copy rfl rfl) rfl) ?_
    refine gl (i' := 11) (fun _ _ => aw_i2l K (dOf ck_mX12_copy rfl rfl)) ?_
    refine gl (i' := 12) (fun _ _ => aw_lcn K (dOf ck_mX12_copy rfl rfl) (v := 0) rfl) ?_
    refine gl (i' := 13) (fun _ _ => aw_ldc2 K (dOf ck_mX12_copy rfl rfl) (n := 3) wd_1365 (i64 _ rfl)) ?_
    refine g_callSI K [.inr (.inl _), .inr (.inl _), .inr (.inl _)] rfl (dOf ck_mX12_copy rfl rfl) al_OneBreathModel_176 wd_1269 rfl (Nat.le_of_ble_eq_true rfl) ⟨Nat.le_of_ble_eq_true rfl, Nat.le_of_ble_eq_true rfl⟩ (fun b hb => met_R_within  hb) (fun r4 hr4 => ?_)
    refine g_if_ne K (dOf ck_mX12_copy rfl rfl) (t := 17) (aJ_of (by decide +kernel)) (fun h5 => ?_) (fun h5 => ?_)
    · refine gl (i' := 16) (fun _ _ => aw_bip K (dOf ck_mX12_copy rfl rfl) (v := -2) rfl) ?_
      exact g_iret K (dOf ck_mX12_copy rfl rfl).1 rfl (Or.inl rfl) rfl
    · refine gl (i' := 18) (fun _ _ => aw_aload_n K (dOf ck_mX12_copy rfl rfl) rfl) ?_
      refine g_callVM K [] rfl (dOf ck_mX12_copy rfl rfl) al_OneBreathModel_279 rfl rfl ⟨wd_1430, wd_93⟩ rfl (Nat.le_of_ble_eq_true rfl) ⟨Nat.le_of_ble_eq_true rfl, Nat.le_of_ble_eq_true rfl⟩ (fun b hb => met_R_looksAtLine  hb) (fun r6 hr6 => ?_)
      refine gl (i' := 20) (fun _ _ => aw_aload_n K (dOf ck_mX12_copy rfl rfl) rfl) ?_
      refine gl (i' := 21) (fun _ _ => aw_iload_n K (dOf ck_mX12_copy rfl rfl) rfl) ?_
      refine g_callVIM K [.inl _] rfl (dOf ck_mX12_copy rfl rfl) al_OneBreathModel_310 rfl rfl ⟨wd_1447, wd_97⟩ rfl (Nat.le_of_ble_eq_true rfl) ⟨Nat.le_of_ble_eq_true rfl, Nat.le_of_ble_eq_true rfl⟩ (fun b hb => met_R_finds  hb) (fun r7 hr7 => ?_)
      refine g_if_ne K (dOf ck_mX12_copy rfl rfl) (t := 25) (aJ_of (by decide +kernel)) (fun h8 => ?_) (fun h8 => ?_)
      · refine gl (i' := 24) (fun _ _ => aw_bip K (dOf ck_mX12_copy rfl rfl) (v := -5) rfl) ?_
        exact g_iret K (dOf ck_mX12_copy rfl rfl).1 rfl (Or.inl rfl) rfl
      · refine gl (i' := 26) (fun _ _ => aw_aload_n K (dOf ck_mX12_copy rfl rfl) rfl) ?_
        refine gl (i' := 27) (fun _ _ => aw_getf K (dOf ck_mX12_copy rfl rfl) rfl rfl (Nat.le_of_ble_eq_true rfl) wd_1257 (k := 52) rfl) ?_
        refine gl (i' := 28) (fun _ _ => aw_iload_n K (dOf ck_mX12_copy rfl rfl) rfl) ?_
        refine g_gd (fun hb9 => ?_)
        refine gl (i' := 29) (fun _ _ => aw_iald K (dOf ck_mX12_copy rfl rfl) rfl hb9) ?_
        refine gl (i' := 30) (fun _ _ => aw_iconst K (n := -1) (i32 _ rfl) (dOf ck_mX12_copy rfl rfl)) ?_
        refine g_icmp_ne K (dOf ck_mX12_copy rfl rfl) (t := 33) (aJ_of (by decide +kernel)) (fun h10 => ?_) (fun h10 => ?_)
        · refine gl (i' := 32) (fun _ _ => aw_bip K (dOf ck_mX12_copy rfl rfl) (v := -6) rfl) ?_
          exact g_iret K (dOf ck_mX12_copy rfl rfl).1 rfl (Or.inl rfl) rfl
        · refine gl (i' := 34) (fun _ _ => aw_aload_n K (dOf ck_mX12_copy rfl rfl) rfl) ?_
          refine gl (i' := 35) (fun _ _ => aw_getf K (dOf ck_mX12_copy rfl rfl) rfl rfl (Nat.le_of_ble_eq_true rfl) wd_1258 (k := 53) rfl) ?_
          refine gl (i' := 36) (fun _ _ => aw_iload_n K (dOf ck_mX12_copy rfl rfl) rfl) ?_
          refine gl (i' := 37) (fun _ _ => aw_iald K (dOf ck_mX12_copy rfl rfl) rfl hb9) ?_
          refine gl (i' := 38) (fun _ _ => aw_aload_n K (dOf ck_mX12_copy rfl rfl) rfl) ?_
          refine gl (i' := 39) (fun _ _ => aw_getf K (dOf ck_mX12_copy rfl rfl) rfl rfl (Nat.le_of_ble_eq_true rfl) wd_1227 (k := 22) rfl) ?_
          refine g_icmp_ge K (dOf ck_mX12_copy rfl rfl) (t := 42) (aJ_of (by decide +kernel)) (fun h11 => ?_) (fun h11 => ?_)
          · refine gl (i' := 41) (fun _ _ => aw_bip K (dOf ck_mX12_copy rfl rfl) (v := -7) rfl) ?_
            exact g_iret K (dOf ck_mX12_copy rfl rfl).1 rfl (Or.inl rfl) rfl
          · refine gl (i' := 43) (fun _ _ => aw_iconst K (n := 0) (i32 _ rfl) (dOf ck_mX12_copy rfl rfl)) ?_
            refine gl (i' := 44) (fun _ _ => aw_istore_n K (dOf ck_mX12_copy rfl rfl) (Nat.le_of_ble_eq_true rfl)) ?_
            refine g_lv (lv' := [(3, .inl _), (0, .inr (.inr (.inl (some _)))), (1, .inl _), (2, .inl _)]) rfl ?_
            refine g_sub [1, 3, 0] rfl ?_
            exact lk_R_copy_44 K _ FU _ _
def R_image_13 (x1 : Int) : Nat → Int → aM → Option (Int × aM)
  | 0, _, _ => none
  | n + 1, x2, mm => if x2 < 196 then (if 0 ≤ x2 ∧ x2 < 588 then (if 0 ≤ (w32 ((w32 (196 * (w32 (x1 + 1)))) + x2)) ∧ (w32 ((w32 (196 * (w32 (x1 + 1)))) + x2)) < 588 then (st1 (aup mm 177 (w32 ((w32 (196 * (w32 (x1 + 1)))) + x2)).toNat (mm 177 x2.toNat)) fun mm9 => (R_image_13 x1 n (w32 (x2 + 1)) mm9)) else none) else none) else (if 0 ≤ x1 ∧ x1 < 2 then (st1 (aup mm 178 x1.toNat 1) fun mm6 => (some (0, mm6))) else none)
set_option maxHeartbeats 4000000 in
theorem lk_R_image_13 {p : Program} {l : Launch} {e : Env} {s : State} {m : MethodId} {args : Array Value} {below : List Frame} {meth : Method} {c : Code} {D : va_G} {cA : FieldType → ClassId} {ad adV : Nat → Nat} {z0 : Nat} {al0 : List Nat} (K : aK p s m args meth c mX12_image D cA ad adV z0) (x1 : Int)  : ∀ (n : Nat) (x2 : Int) (mm : aM), aG p l e { frames := 1, cells := 0, slots := 0, locals := 25 } s m args below meth c D cA ad z0 mX12_image al0 rIM (R_image_13 x1 n x2 mm) 13 [(0, .inr (.inr (.inl (some 176)))), (1, .inl x1), (2, .inl x2)] [] mm := by
  intro n
  induction n with
  | zero => intro x2 mm; exact g_none
  | succ n ih =>
    intro x2 mm
    rw [R_image_13]
    refine gl (i' := 14) (fun _ _ => aw_iload_n K (dOf ck_mX12_image rfl rfl) rfl) ?_
    refine gl (i' := 15) (fun _ _ => aw_sip K (dOf ck_mX12_image rfl rfl) (v := 196) rfl) ?_
    refine g_icmp_ge K (dOf ck_mX12_image rfl rfl) (t := 32) (aJ_of (by decide +kernel)) (fun h4 => ?_) (fun h4 => ?_)
    · refine gl (i' := 17) (fun _ _ => aw_aload_n K (dOf ck_mX12_image rfl rfl) rfl) ?_
      refine gl (i' := 18) (fun _ _ => aw_getf K (dOf ck_mX12_image rfl rfl) rfl rfl (Nat.le_of_ble_eq_true rfl) wd_1206 (k := 1) rfl) ?_
      refine gl (i' := 19) (fun _ _ => aw_sip K (dOf ck_mX12_image rfl rfl) (v := 196) rfl) ?_
      refine gl (i' := 20) (fun _ _ => aw_iload_n K (dOf ck_mX12_image rfl rfl) rfl) ?_
      refine gl (i' := 21) (fun _ _ => aw_iconst K (n := 1) (i32 _ rfl) (dOf ck_mX12_image rfl rfl)) ?_
      refine gl (i' := 22) (fun _ _ => aw_iadd K (dOf ck_mX12_image rfl rfl)) ?_
      refine gl (i' := 23) (fun _ _ => aw_imul K (dOf ck_mX12_image rfl rfl)) ?_
      refine gl (i' := 24) (fun _ _ => aw_iload_n K (dOf ck_mX12_image rfl rfl) rfl) ?_
      refine gl (i' := 25) (fun _ _ => aw_iadd K (dOf ck_mX12_image rfl rfl)) ?_
      refine gl (i' := 26) (fun _ _ => aw_aload_n K (dOf ck_mX12_image rfl rfl) rfl) ?_
      refine gl (i' := 27) (fun _ _ => aw_getf K (dOf ck_mX12_image rfl rfl) rfl rfl (Nat.le_of_ble_eq_true rfl) wd_1206 (k := 1) rfl) ?_
      refine gl (i' := 28) (fun _ _ => aw_iload_n K (dOf ck_mX12_image rfl rfl) rfl) ?_
      refine g_gd (fun hb7 => ?_)
      refine gl (i' := 29) (fun _ _ => aw_iald K (dOf ck_mX12_image rfl rfl) rfl hb7) ?_
      refine g_gd (fun hb8 => ?_)
      refine g_st1 ?_
      refine gl (i' := 30) (fun _ _ => aw_iast K (dOf ck_mX12_image rfl rfl) rfl hb8) ?_
      refine gl (i' := 31) (fun _ _ => aw_iinc K (dOf ck_mX12_image rfl rfl) (Nat.le_of_ble_eq_true rfl) rfl) ?_
      refine g_lv (lv' := [(2, .inl _), (0, .inr (.inr (.inl (some _)))), (1, .inl _)]) rfl ?_
      refine g_goto K (dOf ck_mX12_image rfl rfl).1 (t := 13) (aJ_of (by decide +kernel)) ?_
      refine g_sub [1, 2, 0] rfl ?_
      exact ih _ _
    · refine gl (i' := 33) (fun _ _ => aw_aload_n K (dOf ck_mX12_image rfl rfl) rfl) ?_
      refine gl (i' := 34) (fun _ _ => aw_getf K (dOf ck_mX12_image rfl rfl) rfl rfl (Nat.le_of_ble_eq_true rfl) wd_1207 (k := 2) rfl) ?_
      refine gl (i' := 35) (fun _ _ => aw_iload_n K (dOf ck_mX12_image rfl rfl) rfl) ?_
      refine gl (i' := 36) (fun _ _ => aw_iconst K (n := 1) (i32 _ rfl) (dOf ck_mX12_image rfl rfl)) ?_
      refine g_gd (fun hb5 => ?_)
      refine g_st1 ?_
      refine gl (i' := 37) (fun _ _ => aw_zast K (dOf ck_mX12_image rfl rfl) rfl hb5 (Or.inr rfl)) ?_
      refine gl (i' := 38) (fun _ _ => aw_iconst K (n := 0) (i32 _ rfl) (dOf ck_mX12_image rfl rfl)) ?_
      exact g_iret K (by decide +kernel) rfl (Or.inl rfl) rfl
def R_image (x1 : Int) (mm : aM) : Option (Int × aM) := st1 (aup mm 176 0 0) fun mm1 => ((R_within x1 0 1 mm1).bind fun r2 => (if r2 = 0 then (some ((-2), mm1)) else (R_image_13 x1 FU 0 mm1)))
set_option maxHeartbeats 4000000 in
theorem met_R_image {l : Launch} {D : va_G} {cA : FieldType → ClassId} {ad adV : Nat → Nat} {z0 : Nat} {x1 : Int} {mm : aM}  {r : Int × aM} (h : R_image x1 mm = some r) : aMet l D cA ad adV z0 mX12_image 1 25 0 0 [.inr (.inr (.inl (some 176))), .inl x1] SH mm (rIM r).1 SH (rIM r).2 := by
  refine aMet_ofG (by decide +kernel) rfl (Nat.le_of_ble_eq_true rfl) h (fun p e s m args below meth c al0 K => ?_)
  unfold R_image
  refine gl (i' := 1) (fun _ _ => aw_aload_n K (dOf ck_mX12_image rfl rfl) rfl) ?_
  refine gl (i' := 2) (fun _ _ => aw_iconst K (n := 0) (i32 _ rfl) (dOf ck_mX12_image rfl rfl)) ?_
  refine g_st1 ?_
  refine gl (i' := 3) (fun _ _ => aw_putf K (dOf ck_mX12_image rfl rfl) rfl rfl (Nat.le_of_ble_eq_true rfl) wd_1205 (k := 0) rfl rfl (Or.inl rfl)) ?_
  refine gl (i' := 4) (fun _ _ => aw_iload_n K (dOf ck_mX12_image rfl rfl) rfl) ?_
  refine gl (i' := 5) (fun _ _ => aw_i2l K (dOf ck_mX12_image rfl rfl)) ?_
  refine gl (i' := 6) (fun _ _ => aw_lcn K (dOf ck_mX12_image rfl rfl) (v := 0) rfl) ?_
  refine gl (i' := 7) (fun _ _ => aw_lcn K (dOf ck_mX12_image rfl rfl) (v := 1) rfl) ?_
  refine g_callSI K [.inr (.inl _), .inr (.inl _), .inr (.inl _)] rfl (dOf ck_mX12_image rfl rfl) al_OneBreathModel_176 wd_1269 rfl (Nat.le_of_ble_eq_true rfl) ⟨Nat.le_of_ble_eq_true rfl, Nat.le_of_ble_eq_true rfl⟩ (fun b hb => met_R_within  hb) (fun r2 hr2 => ?_)
  refine g_if_ne K (dOf ck_mX12_image rfl rfl) (t := 11) (aJ_of (by decide +kernel)) (fun h3 => ?_) (fun h3 => ?_)
  · refine gl (i' := 10) (fun _ _ => aw_bip K (dOf ck_mX12_image rfl rfl) (v := -2) rfl) ?_
    exact g_iret K (dOf ck_mX12_image rfl rfl).1 rfl (Or.inl rfl) rfl
  · refine gl (i' := 12) (fun _ _ => aw_iconst K (n := 0) (i32 _ rfl) (dOf ck_mX12_image rfl rfl)) ?_
    refine gl (i' := 13) (fun _ _ => aw_istore_n K (dOf ck_mX12_image rfl rfl) (Nat.le_of_ble_eq_true rfl)) ?_
    refine g_lv (lv' := [(2, .inl _), (0, .inr (.inr (.inl (some _)))), (1, .inl _)]) rfl ?_
    refine g_sub [1, 2, 0] rfl ?_
    exact lk_R_image_13 K _ FU _ _
def R_restore_20 (x1 : Int) : Nat → Int → aM → Option (Int × aM)
  | 0, _, _ => none
  | n + 1, x2, mm => if x2 < 196 then (if 0 ≤ (w32 ((w32 (196 * (w32 (x1 + 1)))) + x2)) ∧ (w32 ((w32 (196 * (w32 (x1 + 1)))) + x2)) < 588 then (if 0 ≤ x2 ∧ x2 < 588 then (st1 (aup mm 177 x2.toNat (mm 177 (w32 ((w32 (196 * (w32 (x1 + 1)))) + x2)).toNat)) fun mm9 => (R_restore_20 x1 n (w32 (x2 + 1)) mm9)) else none) else none) else (some (0, mm))
set_option maxHeartbeats 4000000 in
theorem lk_R_restore_20 {p : Program} {l : Launch} {e : Env} {s : State} {m : MethodId} {args : Array Value} {below : List Frame} {meth : Method} {c : Code} {D : va_G} {cA : FieldType → ClassId} {ad adV : Nat → Nat} {z0 : Nat} {al0 : List Nat} (K : aK p s m args meth c mX12_restore D cA ad adV z0) (x1 : Int)  : ∀ (n : Nat) (x2 : Int) (mm : aM), aG p l e { frames := 1, cells := 0, slots := 0, locals := 25 } s m args below meth c D cA ad z0 mX12_restore al0 rIM (R_restore_20 x1 n x2 mm) 20 [(0, .inr (.inr (.inl (some 176)))), (1, .inl x1), (2, .inl x2)] [] mm := by
  intro n
  induction n with
  | zero => intro x2 mm; exact g_none
  | succ n ih =>
    intro x2 mm
    rw [R_restore_20]
    refine gl (i' := 21) (fun _ _ => aw_iload_n K (dOf ck_mX12_restore rfl rfl) rfl) ?_
    refine gl (i' := 22) (fun _ _ => aw_sip K (dOf ck_mX12_restore rfl rfl) (v := 196) rfl) ?_
    refine g_icmp_ge K (dOf ck_mX12_restore rfl rfl) (t := 39) (aJ_of (by decide +kernel)) (fun h6 => ?_) (fun h6 => ?_)
    · refine gl (i' := 24) (fun _ _ => aw_aload_n K (dOf ck_mX12_restore rfl rfl) rfl) ?_
      refine gl (i' := 25) (fun _ _ => aw_getf K (dOf ck_mX12_restore rfl rfl) rfl rfl (Nat.le_of_ble_eq_true rfl) wd_1206 (k := 1) rfl) ?_
      refine gl (i' := 26) (fun _ _ => aw_iload_n K (dOf ck_mX12_restore rfl rfl) rfl) ?_
      refine gl (i' := 27) (fun _ _ => aw_aload_n K (dOf ck_mX12_restore rfl rfl) rfl) ?_
      refine gl (i' := 28) (fun _ _ => aw_getf K (dOf ck_mX12_restore rfl rfl) rfl rfl (Nat.le_of_ble_eq_true rfl) wd_1206 (k := 1) rfl) ?_
      refine gl (i' := 29) (fun _ _ => aw_sip K (dOf ck_mX12_restore rfl rfl) (v := 196) rfl) ?_
      refine gl (i' := 30) (fun _ _ => aw_iload_n K (dOf ck_mX12_restore rfl rfl) rfl) ?_
      refine gl (i' := 31) (fun _ _ => aw_iconst K (n := 1) (i32 _ rfl) (dOf ck_mX12_restore rfl rfl)) ?_
      refine gl (i' := 32) (fun _ _ => aw_iadd K (dOf ck_mX12_restore rfl rfl)) ?_
      refine gl (i' := 33) (fun _ _ => aw_imul K (dOf ck_mX12_restore rfl rfl)) ?_
      refine gl (i' := 34) (fun _ _ => aw_iload_n K (dOf ck_mX12_restore rfl rfl) rfl) ?_
      refine gl (i' := 35) (fun _ _ => aw_iadd K (dOf ck_mX12_restore rfl rfl)) ?_
      refine g_gd (fun hb7 => ?_)
      refine gl (i' := 36) (fun _ _ => aw_iald K (dOf ck_mX12_restore rfl rfl) rfl hb7) ?_
      refine g_gd (fun hb8 => ?_)
      refine g_st1 ?_
      refine gl (i' := 37) (fun _ _ => aw_iast K (dOf ck_mX12_restore rfl rfl) rfl hb8) ?_
      refine gl (i' := 38) (fun _ _ => aw_iinc K (dOf ck_mX12_restore rfl rfl) (Nat.le_of_ble_eq_true rfl) rfl) ?_
      refine g_lv (lv' := [(2, .inl _), (0, .inr (.inr (.inl (some _)))), (1, .inl _)]) rfl ?_
      refine g_goto K (dOf ck_mX12_restore rfl rfl).1 (t := 20) (aJ_of (by decide +kernel)) ?_
      refine g_sub [1, 2, 0] rfl ?_
      exact ih _ _
    · refine gl (i' := 40) (fun _ _ => aw_iconst K (n := 0) (i32 _ rfl) (dOf ck_mX12_restore rfl rfl)) ?_
      exact g_iret K (by decide +kernel) rfl (Or.inl rfl) rfl
def R_restore (x1 : Int) (mm : aM) : Option (Int × aM) := st1 (aup mm 176 0 0) fun mm1 => ((R_within x1 0 1 mm1).bind fun r2 => (if r2 = 0 then (some ((-2), mm1)) else (if 0 ≤ x1 ∧ x1 < 2 then (if (mm1 178 x1.toNat) = 0 then (some ((-5), mm1)) else (R_restore_20 x1 FU 0 mm1)) else none)))
set_option maxHeartbeats 4000000 in
theorem met_R_restore {l : Launch} {D : va_G} {cA : FieldType → ClassId} {ad adV : Nat → Nat} {z0 : Nat} {x1 : Int} {mm : aM}  {r : Int × aM} (h : R_restore x1 mm = some r) : aMet l D cA ad adV z0 mX12_restore 1 25 0 0 [.inr (.inr (.inl (some 176))), .inl x1] SH mm (rIM r).1 SH (rIM r).2 := by
  refine aMet_ofG (by decide +kernel) rfl (Nat.le_of_ble_eq_true rfl) h (fun p e s m args below meth c al0 K => ?_)
  unfold R_restore
  refine gl (i' := 1) (fun _ _ => aw_aload_n K (dOf ck_mX12_restore rfl rfl) rfl) ?_
  refine gl (i' := 2) (fun _ _ => aw_iconst K (n := 0) (i32 _ rfl) (dOf ck_mX12_restore rfl rfl)) ?_
  refine g_st1 ?_
  refine gl (i' := 3) (fun _ _ => aw_putf K (dOf ck_mX12_restore rfl rfl) rfl rfl (Nat.le_of_ble_eq_true rfl) wd_1205 (k := 0) rfl rfl (Or.inl rfl)) ?_
  refine gl (i' := 4) (fun _ _ => aw_iload_n K (dOf ck_mX12_restore rfl rfl) rfl) ?_
  refine gl (i' := 5) (fun _ _ => aw_i2l K (dOf ck_mX12_restore rfl rfl)) ?_
  refine gl (i' := 6) (fun _ _ => aw_lcn K (dOf ck_mX12_restore rfl rfl) (v := 0) rfl) ?_
  refine gl (i' := 7) (fun _ _ => aw_lcn K (dOf ck_mX12_restore rfl rfl) (v := 1) rfl) ?_
  refine g_callSI K [.inr (.inl _), .inr (.inl _), .inr (.inl _)] rfl (dOf ck_mX12_restore rfl rfl) al_OneBreathModel_176 wd_1269 rfl (Nat.le_of_ble_eq_true rfl) ⟨Nat.le_of_ble_eq_true rfl, Nat.le_of_ble_eq_true rfl⟩ (fun b hb => met_R_within  hb) (fun r2 hr2 => ?_)
  refine g_if_ne K (dOf ck_mX12_restore rfl rfl) (t := 11) (aJ_of (by decide +kernel)) (fun h3 => ?_) (fun h3 => ?_)
  · refine gl (i' := 10) (fun _ _ => aw_bip K (dOf ck_mX12_restore rfl rfl) (v := -2) rfl) ?_
    exact g_iret K (dOf ck_mX12_restore rfl rfl).1 rfl (Or.inl rfl) rfl
  · refine gl (i' := 12) (fun _ _ => aw_aload_n K (dOf ck_mX12_restore rfl rfl) rfl) ?_
    refine gl (i' := 13) (fun _ _ => aw_getf K (dOf ck_mX12_restore rfl rfl) rfl rfl (Nat.le_of_ble_eq_true rfl) wd_1207 (k := 2) rfl) ?_
    refine gl (i' := 14) (fun _ _ => aw_iload_n K (dOf ck_mX12_restore rfl rfl) rfl) ?_
    refine g_gd (fun hb4 => ?_)
    refine gl (i' := 15) (fun _ _ => aw_zald K (dOf ck_mX12_restore rfl rfl) rfl hb4) ?_
    refine g_if_ne K (dOf ck_mX12_restore rfl rfl) (t := 18) (aJ_of (by decide +kernel)) (fun h5 => ?_) (fun h5 => ?_)
    · refine gl (i' := 17) (fun _ _ => aw_bip K (dOf ck_mX12_restore rfl rfl) (v := -5) rfl) ?_
      exact g_iret K (dOf ck_mX12_restore rfl rfl).1 rfl (Or.inl rfl) rfl
    · refine gl (i' := 19) (fun _ _ => aw_iconst K (n := 0) (i32 _ rfl) (dOf ck_mX12_restore rfl rfl)) ?_
      refine gl (i' := 20) (fun _ _ => aw_istore_n K (dOf ck_mX12_restore rfl rfl) (Nat.le_of_ble_eq_true rfl)) ?_
      refine g_lv (lv' := [(2, .inl _), (0, .inr (.inr (.inl (some _)))), (1, .inl _)]) rfl ?_
      refine g_sub [1, 2, 0] rfl ?_
      exact lk_R_restore_20 K _ FU _ _
def R_count (x1 : Int) (mm : aM) : Option (Int × aM) := st1 (aup mm 176 0 0) fun mm1 => (if x1 = 0 then (some (mm1 177 154, mm1)) else (if x1 = 1 then (some (mm1 177 0, mm1)) else (if x1 = 2 then (some (mm1 177 18, mm1)) else (if x1 = 3 then (some (mm1 177 141, mm1)) else (if x1 = 4 then (some (mm1 177 155, mm1)) else (if x1 = 5 then (some (mm1 176 5, mm1)) else (some ((-1), mm1))))))))
set_option maxHeartbeats 4000000 in
theorem met_R_count {l : Launch} {D : va_G} {cA : FieldType → ClassId} {ad adV : Nat → Nat} {z0 : Nat} {x1 : Int} {mm : aM}  {r : Int × aM} (h : R_count x1 mm = some r) : aMet l D cA ad adV z0 mX12_count 0 0 0 0 [.inr (.inr (.inl (some 176))), .inl x1] SH mm (rIM r).1 SH (rIM r).2 := by
  refine aMet_ofG (by decide +kernel) rfl (Nat.le_of_ble_eq_true rfl) h (fun p e s m args below meth c al0 K => ?_)
  unfold R_count
  refine gl (i' := 1) (fun _ _ => aw_aload_n K (dOf ck_mX12_count rfl rfl) rfl) ?_
  refine gl (i' := 2) (fun _ _ => aw_iconst K (n := 0) (i32 _ rfl) (dOf ck_mX12_count rfl rfl)) ?_
  refine g_st1 ?_
  refine gl (i' := 3) (fun _ _ => aw_putf K (dOf ck_mX12_count rfl rfl) rfl rfl (Nat.le_of_ble_eq_true rfl) wd_1205 (k := 0) rfl rfl (Or.inl rfl)) ?_
  refine gl (i' := 4) (fun _ _ => aw_iload_n K (dOf ck_mX12_count rfl rfl) rfl) ?_
  refine g_if (fun h2 => ?_) (fun h2 => ?_)
  · refine gl (fun _ _ => aw_tableIn K (dOf (n := 38) ck_mX12_count rfl rfl).1 (by omega) (by omega) (off := 38) (by rw [h2]; rfl) (t := 5) (aJ_of (by decide +kernel))) ?_
    refine gl (i' := 6) (fun _ _ => aw_aload_n K (dOf ck_mX12_count rfl rfl) rfl) ?_
    refine gl (i' := 7) (fun _ _ => aw_getf K (dOf ck_mX12_count rfl rfl) rfl rfl (Nat.le_of_ble_eq_true rfl) wd_1206 (k := 1) rfl) ?_
    refine gl (i' := 8) (fun _ _ => aw_sip K (dOf ck_mX12_count rfl rfl) (v := 154) rfl) ?_
    refine gl (i' := 9) (fun _ _ => aw_iald K (dOf ck_mX12_count rfl rfl) rfl (by decide)) ?_
    exact g_iret K (dOf ck_mX12_count rfl rfl).1 rfl (Or.inl rfl) rfl
  · refine g_if (fun h3 => ?_) (fun h3 => ?_)
    · refine gl (fun _ _ => aw_tableIn K (dOf (n := 38) ck_mX12_count rfl rfl).1 (by omega) (by omega) (off := 47) (by rw [h3]; rfl) (t := 10) (aJ_of (by decide +kernel))) ?_
      refine gl (i' := 11) (fun _ _ => aw_aload_n K (dOf ck_mX12_count rfl rfl) rfl) ?_
      refine gl (i' := 12) (fun _ _ => aw_getf K (dOf ck_mX12_count rfl rfl) rfl rfl (Nat.le_of_ble_eq_true rfl) wd_1206 (k := 1) rfl) ?_
      refine gl (i' := 13) (fun _ _ => aw_iconst K (n := 0) (i32 _ rfl) (dOf ck_mX12_count rfl rfl)) ?_
      refine gl (i' := 14) (fun _ _ => aw_iald K (dOf ck_mX12_count rfl rfl) rfl (by decide)) ?_
      exact g_iret K (dOf ck_mX12_count rfl rfl).1 rfl (Or.inl rfl) rfl
    · refine g_if (fun h4 => ?_) (fun h4 => ?_)
      · refine gl (fun _ _ => aw_tableIn K (dOf (n := 38) ck_mX12_count rfl rfl).1 (by omega) (by omega) (off := 54) (by rw [h4]; rfl) (t := 15) (aJ_of (by decide +kernel))) ?_
        refine gl (i' := 16) (fun _ _ => aw_aload_n K (dOf ck_mX12_count rfl rfl) rfl) ?_
        refine gl (i' := 17) (fun _ _ => aw_getf K (dOf ck_mX12_count rfl rfl) rfl rfl (Nat.le_of_ble_eq_true rfl) wd_1206 (k := 1) rfl) ?_
        refine gl (i' := 18) (fun _ _ => aw_bip K (dOf ck_mX12_count rfl rfl) (v := 18) rfl) ?_
        refine gl (i' := 19) (fun _ _ => aw_iald K (dOf ck_mX12_count rfl rfl) rfl (by decide)) ?_
        exact g_iret K (dOf ck_mX12_count rfl rfl).1 rfl (Or.inl rfl) rfl
      · refine g_if (fun h5 => ?_) (fun h5 => ?_)
        · refine gl (fun _ _ => aw_tableIn K (dOf (n := 38) ck_mX12_count rfl rfl).1 (by omega) (by omega) (off := 62) (by rw [h5]; rfl) (t := 20) (aJ_of (by decide +kernel))) ?_
          refine gl (i' := 21) (fun _ _ => aw_aload_n K (dOf ck_mX12_count rfl rfl) rfl) ?_
          refine gl (i' := 22) (fun _ _ => aw_getf K (dOf ck_mX12_count rfl rfl) rfl rfl (Nat.le_of_ble_eq_true rfl) wd_1206 (k := 1) rfl) ?_
          refine gl (i' := 23) (fun _ _ => aw_sip K (dOf ck_mX12_count rfl rfl) (v := 141) rfl) ?_
          refine gl (i' := 24) (fun _ _ => aw_iald K (dOf ck_mX12_count rfl rfl) rfl (by decide)) ?_
          exact g_iret K (dOf ck_mX12_count rfl rfl).1 rfl (Or.inl rfl) rfl
        · refine g_if (fun h6 => ?_) (fun h6 => ?_)
          · refine gl (fun _ _ => aw_tableIn K (dOf (n := 38) ck_mX12_count rfl rfl).1 (by omega) (by omega) (off := 71) (by rw [h6]; rfl) (t := 25) (aJ_of (by decide +kernel))) ?_
            refine gl (i' := 26) (fun _ _ => aw_aload_n K (dOf ck_mX12_count rfl rfl) rfl) ?_
            refine gl (i' := 27) (fun _ _ => aw_getf K (dOf ck_mX12_count rfl rfl) rfl rfl (Nat.le_of_ble_eq_true rfl) wd_1206 (k := 1) rfl) ?_
            refine gl (i' := 28) (fun _ _ => aw_sip K (dOf ck_mX12_count rfl rfl) (v := 155) rfl) ?_
            refine gl (i' := 29) (fun _ _ => aw_iald K (dOf ck_mX12_count rfl rfl) rfl (by decide)) ?_
            exact g_iret K (dOf ck_mX12_count rfl rfl).1 rfl (Or.inl rfl) rfl
          · refine g_if (fun h7 => ?_) (fun h7 => ?_)
            · refine gl (fun _ _ => aw_tableIn K (dOf (n := 38) ck_mX12_count rfl rfl).1 (by omega) (by omega) (off := 80) (by rw [h7]; rfl) (t := 30) (aJ_of (by decide +kernel))) ?_
              refine gl (i' := 31) (fun _ _ => aw_aload_n K (dOf ck_mX12_count rfl rfl) rfl) ?_
              refine gl (i' := 32) (fun _ _ => aw_getf K (dOf ck_mX12_count rfl rfl) rfl rfl (Nat.le_of_ble_eq_true rfl) wd_1210 (k := 5) rfl) ?_
              exact g_iret K (dOf ck_mX12_count rfl rfl).1 rfl (Or.inl rfl) rfl
            · refine gl (fun _ _ => aw_tableOut K (dOf (n := 38) ck_mX12_count rfl rfl).1 (by omega) (t := 33) (aJ_of (by decide +kernel))) ?_
              refine gl (i' := 34) (fun _ _ => aw_iconst K (n := -1) (i32 _ rfl) (dOf ck_mX12_count rfl rfl)) ?_
              exact g_iret K (by decide +kernel) rfl (Or.inl rfl) rfl
