def R_wordOf_50 (mm : aM) (k2 : Int → Option Int) (x1 : Nat) (x2 : Int) (x3 : Int) (x4 : Int) (x5 : Int) : Option Int := if x5 = 0 then (k2 (w32 (x4 + 1))) else (some x4)
set_option maxHeartbeats 4000000 in
theorem lk_R_wordOf_50 {p : Program} {l : Launch} {e : Env} {s : State} {m : MethodId} {args : Array Value} {below : List Frame} {meth : Method} {c : Code} {D : va_G} {cA : FieldType → ClassId} {ad adV : Nat → Nat} {z0 : Nat} {al0 : List Nat} {mm : aM} (K : aK p s m args meth c mX12_wordOf D cA ad adV z0) {x1 : Nat} (x2 : Int) (x3 : Int) (x4 : Int) (x5 : Int) (hx1 : okI x1) (k2 : Int → Option Int) (hk2 : ∀ (x4 : Int), aG p l e { frames := 1, cells := 0, slots := 0, locals := 23 } s m args below meth c D cA ad z0 mX12_wordOf al0 (rI mm) (k2 x4) 2 [(0, .inr (.inr (.inl (some 176)))), (1, .inr (.inr (.inl (some x1)))), (2, .inl x2), (3, .inl x3), (4, .inl x4)] [] mm)  : aG p l e { frames := 1, cells := 0, slots := 0, locals := 23 } s m args below meth c D cA ad z0 mX12_wordOf al0 (rI mm) (R_wordOf_50 mm k2 x1 x2 x3 x4 x5) 50 [(0, .inr (.inr (.inl (some 176)))), (1, .inr (.inr (.inl (some x1)))), (2, .inl x2), (3, .inl x3), (4, .inl x4), (5, .inl x5)] [] mm := by
  unfold R_wordOf_50
  refine gl (i' := 51) (fun _ _ => aw_iload K (dOf ck_mX12_wordOf rfl rfl) rfl) ?_
  refine g_if_eq K (dOf ck_mX12_wordOf rfl rfl) (t := 54) (aJ_of (by decide +kernel)) (fun h6 => ?_) (fun h6 => ?_)
  · refine gl (i' := 55) (fun _ _ => aw_iinc K (dOf ck_mX12_wordOf rfl rfl) (Nat.le_of_ble_eq_true rfl) rfl) ?_
    refine g_lv (lv' := [(4, .inl _), (0, .inr (.inr (.inl (some _)))), (1, .inr (.inr (.inl (some _)))), (2, .inl _), (3, .inl _), (5, .inl _)]) rfl ?_
    refine g_goto K (dOf ck_mX12_wordOf rfl rfl).1 (t := 2) (aJ_of (by decide +kernel)) ?_
    refine g_sub [1, 2, 3, 4, 0] rfl ?_
    exact hk2 _
  · refine gl (i' := 53) (fun _ _ => aw_iload K (dOf ck_mX12_wordOf rfl rfl) rfl) ?_
    exact g_iret K (dOf ck_mX12_wordOf rfl rfl).1 rfl (Or.inl rfl) rfl
def R_wordOf_47 (mm : aM) (k2 : Int → Option Int) (k20 : Int → Int → Option Int) (x1 : Nat) (x2 : Int) (x3 : Int) (x4 : Int) (x6 : Int) (s0 : Int) : Option Int := k20 s0 (w32 (x6 + 1))
set_option maxHeartbeats 4000000 in
theorem lk_R_wordOf_47 {p : Program} {l : Launch} {e : Env} {s : State} {m : MethodId} {args : Array Value} {below : List Frame} {meth : Method} {c : Code} {D : va_G} {cA : FieldType → ClassId} {ad adV : Nat → Nat} {z0 : Nat} {al0 : List Nat} {mm : aM} (K : aK p s m args meth c mX12_wordOf D cA ad adV z0) {x1 : Nat} (x2 : Int) (x3 : Int) (x4 : Int) (x6 : Int) (hx1 : okI x1) (k2 : Int → Option Int) (hk2 : ∀ (x4 : Int), aG p l e { frames := 1, cells := 0, slots := 0, locals := 23 } s m args below meth c D cA ad z0 mX12_wordOf al0 (rI mm) (k2 x4) 2 [(0, .inr (.inr (.inl (some 176)))), (1, .inr (.inr (.inl (some x1)))), (2, .inl x2), (3, .inl x3), (4, .inl x4)] [] mm) (k20 : Int → Int → Option Int) (hk20 : ∀ (x5 : Int) (x6 : Int), aG p l e { frames := 1, cells := 0, slots := 0, locals := 23 } s m args below meth c D cA ad z0 mX12_wordOf al0 (rI mm) (k20 x5 x6) 20 [(0, .inr (.inr (.inl (some 176)))), (1, .inr (.inr (.inl (some x1)))), (2, .inl x2), (3, .inl x3), (4, .inl x4), (5, .inl x5), (6, .inl x6)] [] mm)  (s0 : Int) : aG p l e { frames := 1, cells := 0, slots := 0, locals := 23 } s m args below meth c D cA ad z0 mX12_wordOf al0 (rI mm) (R_wordOf_47 mm k2 k20 x1 x2 x3 x4 x6 s0) 47 [(0, .inr (.inr (.inl (some 176)))), (1, .inr (.inr (.inl (some x1)))), (2, .inl x2), (3, .inl x3), (4, .inl x4), (6, .inl x6)] [.inl s0] mm := by
  unfold R_wordOf_47
  refine gl (i' := 48) (fun _ _ => aw_istore K (dOf ck_mX12_wordOf rfl rfl) (Nat.le_of_ble_eq_true rfl)) ?_
  refine g_lv (lv' := [(5, .inl _), (0, .inr (.inr (.inl (some _)))), (1, .inr (.inr (.inl (some _)))), (2, .inl _), (3, .inl _), (4, .inl _), (6, .inl _)]) rfl ?_
  refine gl (i' := 49) (fun _ _ => aw_iinc K (dOf ck_mX12_wordOf rfl rfl) (Nat.le_of_ble_eq_true rfl) rfl) ?_
  refine g_lv (lv' := [(6, .inl _), (5, .inl _), (0, .inr (.inr (.inl (some _)))), (1, .inr (.inr (.inl (some _)))), (2, .inl _), (3, .inl _), (4, .inl _)]) rfl ?_
  refine g_goto K (dOf ck_mX12_wordOf rfl rfl).1 (t := 20) (aJ_of (by decide +kernel)) ?_
  refine g_sub [2, 3, 4, 5, 6, 1, 0] rfl ?_
  exact hk20 _ _
def R_wordOf_20 (mm : aM) (k2 : Int → Option Int) (x1 : Nat) (x2 : Int) (x3 : Int) (x4 : Int) : Nat → Int → Int → Option Int
  | 0, _, _ => none
  | n + 1, x5, x6 => if x6 < x3 then (if x5 = 0 then (R_wordOf_50 mm k2 x1 x2 x3 x4 x5) else (if 0 ≤ (w32 ((w32 (58 + (w32 (6 * x4)))) + x6)) ∧ (w32 ((w32 (58 + (w32 (6 * x4)))) + x6)) < aln x1 then (if 0 ≤ (w32 (x2 + x6)) ∧ (w32 (x2 + x6)) < 500 then ((R_soundOf x1 (mm 179 (w32 (x2 + x6)).toNat) mm).bind fun r10 => (if (mm x1 (w32 ((w32 (58 + (w32 (6 * x4)))) + x6)).toNat) = r10 then (R_wordOf_47 mm k2 (R_wordOf_20 mm k2 x1 x2 x3 x4 n) x1 x2 x3 x4 x6 1) else (R_wordOf_47 mm k2 (R_wordOf_20 mm k2 x1 x2 x3 x4 n) x1 x2 x3 x4 x6 0))) else none) else none)) else (R_wordOf_50 mm k2 x1 x2 x3 x4 x5)
set_option maxHeartbeats 4000000 in
theorem lk_R_wordOf_20 {p : Program} {l : Launch} {e : Env} {s : State} {m : MethodId} {args : Array Value} {below : List Frame} {meth : Method} {c : Code} {D : va_G} {cA : FieldType → ClassId} {ad adV : Nat → Nat} {z0 : Nat} {al0 : List Nat} {mm : aM} (K : aK p s m args meth c mX12_wordOf D cA ad adV z0) {x1 : Nat} (x2 : Int) (x3 : Int) (x4 : Int) (hx1 : okI x1) (k2 : Int → Option Int) (hk2 : ∀ (x4 : Int), aG p l e { frames := 1, cells := 0, slots := 0, locals := 23 } s m args below meth c D cA ad z0 mX12_wordOf al0 (rI mm) (k2 x4) 2 [(0, .inr (.inr (.inl (some 176)))), (1, .inr (.inr (.inl (some x1)))), (2, .inl x2), (3, .inl x3), (4, .inl x4)] [] mm)  : ∀ (n : Nat) (x5 : Int) (x6 : Int), aG p l e { frames := 1, cells := 0, slots := 0, locals := 23 } s m args below meth c D cA ad z0 mX12_wordOf al0 (rI mm) (R_wordOf_20 mm k2 x1 x2 x3 x4 n x5 x6) 20 [(0, .inr (.inr (.inl (some 176)))), (1, .inr (.inr (.inl (some x1)))), (2, .inl x2), (3, .inl x3), (4, .inl x4), (5, .inl x5), (6, .inl x6)] [] mm := by
  intro n
  induction n with
  | zero => intro x5 x6; exact g_none
  | succ n ih =>
    intro x5 x6
    rw [R_wordOf_20]
    refine gl (i' := 21) (fun _ _ => aw_iload K (dOf ck_mX12_wordOf rfl rfl) rfl) ?_
    refine gl (i' := 22) (fun _ _ => aw_iload_n K (dOf ck_mX12_wordOf rfl rfl) rfl) ?_
    refine g_icmp_ge K (dOf ck_mX12_wordOf rfl rfl) (t := 50) (aJ_of (by decide +kernel)) (fun h5 => ?_) (fun h5 => ?_)
    · refine gl (i' := 24) (fun _ _ => aw_iload K (dOf ck_mX12_wordOf rfl rfl) rfl) ?_
      refine g_if_eq K (dOf ck_mX12_wordOf rfl rfl) (t := 50) (aJ_of (by decide +kernel)) (fun h7 => ?_) (fun h7 => ?_)
      · refine g_sub [0, 1, 2, 3, 4, 5] rfl ?_
        exact lk_R_wordOf_50 K _ _ _ _ hx1 _ hk2
      · refine gl (i' := 26) (fun _ _ => aw_aload_n K (dOf ck_mX12_wordOf rfl rfl) rfl) ?_
        refine gl (i' := 27) (fun _ _ => aw_bip K (dOf ck_mX12_wordOf rfl rfl) (v := 58) rfl) ?_
        refine gl (i' := 28) (fun _ _ => aw_bip K (dOf ck_mX12_wordOf rfl rfl) (v := 6) rfl) ?_
        refine gl (i' := 29) (fun _ _ => aw_iload K (dOf ck_mX12_wordOf rfl rfl) rfl) ?_
        refine gl (i' := 30) (fun _ _ => aw_imul K (dOf ck_mX12_wordOf rfl rfl)) ?_
        refine gl (i' := 31) (fun _ _ => aw_iadd K (dOf ck_mX12_wordOf rfl rfl)) ?_
        refine gl (i' := 32) (fun _ _ => aw_iload K (dOf ck_mX12_wordOf rfl rfl) rfl) ?_
        refine gl (i' := 33) (fun _ _ => aw_iadd K (dOf ck_mX12_wordOf rfl rfl)) ?_
        refine g_gd (fun hb8 => ?_)
        refine gl (i' := 34) (fun _ _ => aw_iald K (dOf ck_mX12_wordOf rfl rfl) (okI_at hx1) hb8) ?_
        refine gl (i' := 35) (fun _ _ => aw_aload_n K (dOf ck_mX12_wordOf rfl rfl) rfl) ?_
        refine gl (i' := 36) (fun _ _ => aw_aload_n K (dOf ck_mX12_wordOf rfl rfl) rfl) ?_
        refine gl (i' := 37) (fun _ _ => aw_aload_n K (dOf ck_mX12_wordOf rfl rfl) rfl) ?_
        refine gl (i' := 38) (fun _ _ => aw_getf K (dOf ck_mX12_wordOf rfl rfl) rfl rfl (Nat.le_of_ble_eq_true rfl) wd_1208 (k := 3) rfl) ?_
        refine gl (i' := 39) (fun _ _ => aw_iload_n K (dOf ck_mX12_wordOf rfl rfl) rfl) ?_
        refine gl (i' := 40) (fun _ _ => aw_iload K (dOf ck_mX12_wordOf rfl rfl) rfl) ?_
        refine gl (i' := 41) (fun _ _ => aw_iadd K (dOf ck_mX12_wordOf rfl rfl)) ?_
        refine g_gd (fun hb9 => ?_)
        refine gl (i' := 42) (fun _ _ => aw_iald K (dOf ck_mX12_wordOf rfl rfl) rfl hb9) ?_
        refine g_callVI K [.inr (.inr (.inl (some _))), .inl _] rfl (dOf ck_mX12_wordOf rfl rfl) al_OneBreathModel_180 rfl rfl ⟨wd_1319, wd_76⟩ rfl (Nat.le_of_ble_eq_true rfl) ⟨Nat.le_of_ble_eq_true rfl, Nat.le_of_ble_eq_true rfl⟩ (fun b hb => met_R_soundOf ⟨_, (okI_at hx1)⟩ hb) (fun r10 hr10 => ?_)
        refine g_icmp_ne K (dOf ck_mX12_wordOf rfl rfl) (t := 46) (aJ_of (by decide +kernel)) (fun h11 => ?_) (fun h11 => ?_)
        · refine gl (i' := 45) (fun _ _ => aw_iconst K (n := 1) (i32 _ rfl) (dOf ck_mX12_wordOf rfl rfl)) ?_
          refine g_goto K (dOf ck_mX12_wordOf rfl rfl).1 (t := 47) (aJ_of (by decide +kernel)) ?_
          refine g_sub [0, 1, 2, 3, 4, 6] rfl ?_
          exact lk_R_wordOf_47 K _ _ _ _ hx1 _ hk2 _ ih _
        · refine gl (i' := 47) (fun _ _ => aw_iconst K (n := 0) (i32 _ rfl) (dOf ck_mX12_wordOf rfl rfl)) ?_
          refine g_sub [0, 1, 2, 3, 4, 6] rfl ?_
          exact lk_R_wordOf_47 K _ _ _ _ hx1 _ hk2 _ ih _
    · refine g_sub [0, 1, 2, 3, 4, 5] rfl ?_
      exact lk_R_wordOf_50 K _ _ _ _ hx1 _ hk2
def R_wordOf_17 (mm : aM) (k2 : Int → Option Int) (x1 : Nat) (x2 : Int) (x3 : Int) (x4 : Int) (s0 : Int) : Option Int := R_wordOf_20 mm k2 x1 x2 x3 x4 FU s0 0
set_option maxHeartbeats 4000000 in
theorem lk_R_wordOf_17 {p : Program} {l : Launch} {e : Env} {s : State} {m : MethodId} {args : Array Value} {below : List Frame} {meth : Method} {c : Code} {D : va_G} {cA : FieldType → ClassId} {ad adV : Nat → Nat} {z0 : Nat} {al0 : List Nat} {mm : aM} (K : aK p s m args meth c mX12_wordOf D cA ad adV z0) {x1 : Nat} (x2 : Int) (x3 : Int) (x4 : Int) (hx1 : okI x1) (k2 : Int → Option Int) (hk2 : ∀ (x4 : Int), aG p l e { frames := 1, cells := 0, slots := 0, locals := 23 } s m args below meth c D cA ad z0 mX12_wordOf al0 (rI mm) (k2 x4) 2 [(0, .inr (.inr (.inl (some 176)))), (1, .inr (.inr (.inl (some x1)))), (2, .inl x2), (3, .inl x3), (4, .inl x4)] [] mm)  (s0 : Int) : aG p l e { frames := 1, cells := 0, slots := 0, locals := 23 } s m args below meth c D cA ad z0 mX12_wordOf al0 (rI mm) (R_wordOf_17 mm k2 x1 x2 x3 x4 s0) 17 [(0, .inr (.inr (.inl (some 176)))), (1, .inr (.inr (.inl (some x1)))), (2, .inl x2), (3, .inl x3), (4, .inl x4)] [.inl s0] mm := by
  unfold R_wordOf_17
  refine gl (i' := 18) (fun _ _ => aw_istore K (dOf ck_mX12_wordOf rfl rfl) (Nat.le_of_ble_eq_true rfl)) ?_
  refine g_lv (lv' := [(5, .inl _), (0, .inr (.inr (.inl (some _)))), (1, .inr (.inr (.inl (some _)))), (2, .inl _), (3, .inl _), (4, .inl _)]) rfl ?_
  refine gl (i' := 19) (fun _ _ => aw_iconst K (n := 0) (i32 _ rfl) (dOf ck_mX12_wordOf rfl rfl)) ?_
  refine gl (i' := 20) (fun _ _ => aw_istore K (dOf ck_mX12_wordOf rfl rfl) (Nat.le_of_ble_eq_true rfl)) ?_
  refine g_lv (lv' := [(6, .inl _), (5, .inl _), (0, .inr (.inr (.inl (some _)))), (1, .inr (.inr (.inl (some _)))), (2, .inl _), (3, .inl _), (4, .inl _)]) rfl ?_
  refine g_sub [2, 3, 4, 5, 6, 1, 0] rfl ?_
  exact lk_R_wordOf_20 K _ _ _ hx1 _ hk2 FU _ _
def R_wordOf_2 (mm : aM) (x1 : Nat) (x2 : Int) (x3 : Int) : Nat → Int → Option Int
  | 0, _ => none
  | n + 1, x4 => if (0 : Int) ≤ 18 ∧ (18 : Int) < aln x1 then (if x4 < (mm x1 18) then (if 0 ≤ (w32 (19 + x4)) ∧ (w32 (19 + x4)) < aln x1 then (if (mm x1 (w32 (19 + x4)).toNat) = x3 then (R_wordOf_17 mm (R_wordOf_2 mm x1 x2 x3 n) x1 x2 x3 x4 1) else (R_wordOf_17 mm (R_wordOf_2 mm x1 x2 x3 n) x1 x2 x3 x4 0)) else none) else (some (-1))) else none
set_option maxHeartbeats 4000000 in
theorem lk_R_wordOf_2 {p : Program} {l : Launch} {e : Env} {s : State} {m : MethodId} {args : Array Value} {below : List Frame} {meth : Method} {c : Code} {D : va_G} {cA : FieldType → ClassId} {ad adV : Nat → Nat} {z0 : Nat} {al0 : List Nat} {mm : aM} (K : aK p s m args meth c mX12_wordOf D cA ad adV z0) {x1 : Nat} (x2 : Int) (x3 : Int) (hx1 : okI x1)  : ∀ (n : Nat) (x4 : Int), aG p l e { frames := 1, cells := 0, slots := 0, locals := 23 } s m args below meth c D cA ad z0 mX12_wordOf al0 (rI mm) (R_wordOf_2 mm x1 x2 x3 n x4) 2 [(0, .inr (.inr (.inl (some 176)))), (1, .inr (.inr (.inl (some x1)))), (2, .inl x2), (3, .inl x3), (4, .inl x4)] [] mm := by
  intro n
  induction n with
  | zero => intro x4; exact g_none
  | succ n ih =>
    intro x4
    rw [R_wordOf_2]
    refine gl (i' := 3) (fun _ _ => aw_iload K (dOf ck_mX12_wordOf rfl rfl) rfl) ?_
    refine gl (i' := 4) (fun _ _ => aw_aload_n K (dOf ck_mX12_wordOf rfl rfl) rfl) ?_
    refine gl (i' := 5) (fun _ _ => aw_bip K (dOf ck_mX12_wordOf rfl rfl) (v := 18) rfl) ?_
    refine g_gd (fun hb1 => ?_)
    refine gl (i' := 6) (fun _ _ => aw_iald K (dOf ck_mX12_wordOf rfl rfl) (okI_at hx1) hb1) ?_
    refine g_icmp_ge K (dOf ck_mX12_wordOf rfl rfl) (t := 56) (aJ_of (by decide +kernel)) (fun h2 => ?_) (fun h2 => ?_)
    · refine gl (i' := 8) (fun _ _ => aw_aload_n K (dOf ck_mX12_wordOf rfl rfl) rfl) ?_
      refine gl (i' := 9) (fun _ _ => aw_bip K (dOf ck_mX12_wordOf rfl rfl) (v := 19) rfl) ?_
      refine gl (i' := 10) (fun _ _ => aw_iload K (dOf ck_mX12_wordOf rfl rfl) rfl) ?_
      refine gl (i' := 11) (fun _ _ => aw_iadd K (dOf ck_mX12_wordOf rfl rfl)) ?_
      refine g_gd (fun hb3 => ?_)
      refine gl (i' := 12) (fun _ _ => aw_iald K (dOf ck_mX12_wordOf rfl rfl) (okI_at hx1) hb3) ?_
      refine gl (i' := 13) (fun _ _ => aw_iload_n K (dOf ck_mX12_wordOf rfl rfl) rfl) ?_
      refine g_icmp_ne K (dOf ck_mX12_wordOf rfl rfl) (t := 16) (aJ_of (by decide +kernel)) (fun h4 => ?_) (fun h4 => ?_)
      · refine gl (i' := 15) (fun _ _ => aw_iconst K (n := 1) (i32 _ rfl) (dOf ck_mX12_wordOf rfl rfl)) ?_
        refine g_goto K (dOf ck_mX12_wordOf rfl rfl).1 (t := 17) (aJ_of (by decide +kernel)) ?_
        refine g_sub [0, 1, 2, 3, 4] rfl ?_
        exact lk_R_wordOf_17 K _ _ _ hx1 _ ih _
      · refine gl (i' := 17) (fun _ _ => aw_iconst K (n := 0) (i32 _ rfl) (dOf ck_mX12_wordOf rfl rfl)) ?_
        refine g_sub [0, 1, 2, 3, 4] rfl ?_
        exact lk_R_wordOf_17 K _ _ _ hx1 _ ih _
    · refine gl (i' := 57) (fun _ _ => aw_iconst K (n := -1) (i32 _ rfl) (dOf ck_mX12_wordOf rfl rfl)) ?_
      exact g_iret K (by decide +kernel) rfl (Or.inl rfl) rfl
def R_wordOf (x1 : Nat) (x2 : Int) (x3 : Int) (mm : aM) : Option Int := R_wordOf_2 mm x1 x2 x3 FU 0
set_option maxHeartbeats 4000000 in
theorem met_R_wordOf {l : Launch} {D : va_G} {cA : FieldType → ClassId} {ad adV : Nat → Nat} {z0 : Nat} {x1 : Nat} {x2 : Int} {x3 : Int} {mm : aM} (hx1 : okI x1) {r : Int} (h : R_wordOf x1 x2 x3 mm = some r) : aMet l D cA ad adV z0 mX12_wordOf 1 23 0 0 [.inr (.inr (.inl (some 176))), .inr (.inr (.inl (some x1))), .inl x2, .inl x3] SH mm ((rI mm) r).1 SH ((rI mm) r).2 := by
  refine aMet_ofG (by decide +kernel) rfl (Nat.le_of_ble_eq_true rfl) h (fun p e s m args below meth c al0 K => ?_)
  unfold R_wordOf
  refine gl (i' := 1) (fun _ _ => aw_iconst K (n := 0) (i32 _ rfl) (dOf ck_mX12_wordOf rfl rfl)) ?_
  refine gl (i' := 2) (fun _ _ => aw_istore K (dOf ck_mX12_wordOf rfl rfl) (Nat.le_of_ble_eq_true rfl)) ?_
  refine g_lv (lv' := [(4, .inl _), (0, .inr (.inr (.inl (some _)))), (1, .inr (.inr (.inl (some _)))), (2, .inl _), (3, .inl _)]) rfl ?_
  refine g_sub [1, 2, 3, 4, 0] rfl ?_
  exact lk_R_wordOf_2 K _ _ hx1 FU _
def R_needs (x1 : Int) (mm : aM) : Option aM := (R_eats x1 mm).bind fun r1 => (if r1.1 = 0 then ((R_fails 2 r1.2).bind fun r3 => (some r3)) else (some r1.2))
set_option maxHeartbeats 4000000 in
theorem met_R_needs {l : Launch} {D : va_G} {cA : FieldType → ClassId} {ad adV : Nat → Nat} {z0 : Nat} {x1 : Int} {mm : aM}  {r : aM} (h : R_needs x1 mm = some r) : aMet l D cA ad adV z0 mX12_needs 7 149 0 0 [.inr (.inr (.inl (some 176))), .inl x1] SH mm (rM r).1 SH (rM r).2 := by
  refine aMet_ofG (by decide +kernel) rfl (Nat.le_of_ble_eq_true rfl) h (fun p e s m args below meth c al0 K => ?_)
  unfold R_needs
  refine gl (i' := 1) (fun _ _ => aw_aload_n K (dOf ck_mX12_needs rfl rfl) rfl) ?_
  refine gl (i' := 2) (fun _ _ => aw_iload_n K (dOf ck_mX12_needs rfl rfl) rfl) ?_
  refine g_callVIM K [.inl _] rfl (dOf ck_mX12_needs rfl rfl) al_OneBreathModel_169 rfl rfl ⟨wd_1307, wd_72⟩ rfl (Nat.le_of_ble_eq_true rfl) ⟨Nat.le_of_ble_eq_true rfl, Nat.le_of_ble_eq_true rfl⟩ (fun b hb => met_R_eats  hb) (fun r1 hr1 => ?_)
  refine g_if_ne K (dOf ck_mX12_needs rfl rfl) (t := 7) (aJ_of (by decide +kernel)) (fun h2 => ?_) (fun h2 => ?_)
  · refine gl (i' := 5) (fun _ _ => aw_aload_n K (dOf ck_mX12_needs rfl rfl) rfl) ?_
    refine gl (i' := 6) (fun _ _ => aw_iconst K (n := 2) (i32 _ rfl) (dOf ck_mX12_needs rfl rfl)) ?_
    refine g_callVM K [.inl _] rfl (dOf ck_mX12_needs rfl rfl) al_OneBreathModel_172 rfl rfl ⟨wd_1298, wd_69⟩ rfl (Nat.le_of_ble_eq_true rfl) ⟨Nat.le_of_ble_eq_true rfl, Nat.le_of_ble_eq_true rfl⟩ (fun b hb => met_R_fails  hb) (fun r3 hr3 => ?_)
    exact g_vret K (by decide +kernel) rfl rfl
  · exact g_vret K (by decide +kernel) rfl rfl
def R_readWord_60 (x1 : Int) : Nat → Int → aM → Option aM
  | 0, _, _ => none
  | n + 1, x2, mm => if x2 < (mm 176 7) then (if 0 ≤ x2 ∧ x2 < 500 then ((R_soundOf 180 (mm 179 x2.toNat) mm).bind fun r24 => (if 0 ≤ (w32 ((w32 ((w32 (58 + (w32 (6 * x1)))) + x2)) - (mm 176 6))) ∧ (w32 ((w32 ((w32 (58 + (w32 (6 * x1)))) + x2)) - (mm 176 6))) < 155 then (st1 (aup mm 180 (w32 ((w32 ((w32 (58 + (w32 (6 * x1)))) + x2)) - (mm 176 6))).toNat r24) fun mm26 => (R_readWord_60 x1 n (w32 (x2 + 1)) mm26)) else none)) else none) else ((R_next mm).bind fun r13 => ((R_needs 4 r13).bind fun r14 => ((R_takes 0 99 r14).bind fun r15 => (if 0 ≤ (w32 (32 + x1)) ∧ (w32 (32 + x1)) < 155 then (st1 (aup r15.2 180 (w32 (32 + x1)).toNat r15.1) fun mm17 => ((R_needs 5 mm17).bind fun r18 => ((R_takes 0 3 r18).bind fun r19 => (if 0 ≤ (w32 (45 + x1)) ∧ (w32 (45 + x1)) < 155 then (st1 (aup r19.2 180 (w32 (45 + x1)).toNat r19.1) fun mm21 => (st1 (aup mm21 180 18 (w32 ((mm21 180 18) + 1))) fun mm22 => (some mm22))) else none)))) else none))))
set_option maxHeartbeats 4000000 in
theorem lk_R_readWord_60 {p : Program} {l : Launch} {e : Env} {s : State} {m : MethodId} {args : Array Value} {below : List Frame} {meth : Method} {c : Code} {D : va_G} {cA : FieldType → ClassId} {ad adV : Nat → Nat} {z0 : Nat} {al0 : List Nat} (K : aK p s m args meth c mX12_readWord D cA ad adV z0) (x1 : Int)  : ∀ (n : Nat) (x2 : Int) (mm : aM), aG p l e { frames := 8, cells := 0, slots := 0, locals := 170 } s m args below meth c D cA ad z0 mX12_readWord al0 rM (R_readWord_60 x1 n x2 mm) 60 [(0, .inr (.inr (.inl (some 176)))), (1, .inl x1), (2, .inl x2)] [] mm := by
  intro n
  induction n with
  | zero => intro x2 mm; exact g_none
  | succ n ih =>
    intro x2 mm
    rw [R_readWord_60]
    refine gl (i' := 61) (fun _ _ => aw_iload_n K (dOf ck_mX12_readWord rfl rfl) rfl) ?_
    refine gl (i' := 62) (fun _ _ => aw_aload_n K (dOf ck_mX12_readWord rfl rfl) rfl) ?_
    refine gl (i' := 63) (fun _ _ => aw_getf K (dOf ck_mX12_readWord rfl rfl) rfl rfl (Nat.le_of_ble_eq_true rfl) wd_1212 (k := 7) rfl) ?_
    refine g_icmp_ge K (dOf ck_mX12_readWord rfl rfl) (t := 87) (aJ_of (by decide +kernel)) (fun h12 => ?_) (fun h12 => ?_)
    · refine gl (i' := 65) (fun _ _ => aw_aload_n K (dOf ck_mX12_readWord rfl rfl) rfl) ?_
      refine gl (i' := 66) (fun _ _ => aw_getf K (dOf ck_mX12_readWord rfl rfl) rfl rfl (Nat.le_of_ble_eq_true rfl) wd_1209 (k := 4) rfl) ?_
      refine gl (i' := 67) (fun _ _ => aw_bip K (dOf ck_mX12_readWord rfl rfl) (v := 58) rfl) ?_
      refine gl (i' := 68) (fun _ _ => aw_bip K (dOf ck_mX12_readWord rfl rfl) (v := 6) rfl) ?_
      refine gl (i' := 69) (fun _ _ => aw_iload_n K (dOf ck_mX12_readWord rfl rfl) rfl) ?_
      refine gl (i' := 70) (fun _ _ => aw_imul K (dOf ck_mX12_readWord rfl rfl)) ?_
      refine gl (i' := 71) (fun _ _ => aw_iadd K (dOf ck_mX12_readWord rfl rfl)) ?_
      refine gl (i' := 72) (fun _ _ => aw_iload_n K (dOf ck_mX12_readWord rfl rfl) rfl) ?_
      refine gl (i' := 73) (fun _ _ => aw_iadd K (dOf ck_mX12_readWord rfl rfl)) ?_
      refine gl (i' := 74) (fun _ _ => aw_aload_n K (dOf ck_mX12_readWord rfl rfl) rfl) ?_
      refine gl (i' := 75) (fun _ _ => aw_getf K (dOf ck_mX12_readWord rfl rfl) rfl rfl (Nat.le_of_ble_eq_true rfl) wd_1211 (k := 6) rfl) ?_
      refine gl (i' := 76) (fun _ _ => aw_isub K (dOf ck_mX12_readWord rfl rfl)) ?_
      refine gl (i' := 77) (fun _ _ => aw_aload_n K (dOf ck_mX12_readWord rfl rfl) rfl) ?_
      refine gl (i' := 78) (fun _ _ => aw_aload_n K (dOf ck_mX12_readWord rfl rfl) rfl) ?_
      refine gl (i' := 79) (fun _ _ => aw_getf K (dOf ck_mX12_readWord rfl rfl) rfl rfl (Nat.le_of_ble_eq_true rfl) wd_1209 (k := 4) rfl) ?_
      refine gl (i' := 80) (fun _ _ => aw_aload_n K (dOf ck_mX12_readWord rfl rfl) rfl) ?_
      refine gl (i' := 81) (fun _ _ => aw_getf K (dOf ck_mX12_readWord rfl rfl) rfl rfl (Nat.le_of_ble_eq_true rfl) wd_1208 (k := 3) rfl) ?_
      refine gl (i' := 82) (fun _ _ => aw_iload_n K (dOf ck_mX12_readWord rfl rfl) rfl) ?_
      refine g_gd (fun hb23 => ?_)
      refine gl (i' := 83) (fun _ _ => aw_iald K (dOf ck_mX12_readWord rfl rfl) rfl hb23) ?_
      refine g_callVI K [.inr (.inr (.inl (some _))), .inl _] rfl (dOf ck_mX12_readWord rfl rfl) al_OneBreathModel_180 rfl rfl ⟨wd_1319, wd_76⟩ rfl (Nat.le_of_ble_eq_true rfl) ⟨Nat.le_of_ble_eq_true rfl, Nat.le_of_ble_eq_true rfl⟩ (fun b hb => met_R_soundOf ⟨_, rfl⟩ hb) (fun r24 hr24 => ?_)
      refine g_gd (fun hb25 => ?_)
      refine g_st1 ?_
      refine gl (i' := 85) (fun _ _ => aw_iast K (dOf ck_mX12_readWord rfl rfl) rfl hb25) ?_
      refine gl (i' := 86) (fun _ _ => aw_iinc K (dOf ck_mX12_readWord rfl rfl) (Nat.le_of_ble_eq_true rfl) rfl) ?_
      refine g_lv (lv' := [(2, .inl _), (0, .inr (.inr (.inl (some _)))), (1, .inl _)]) rfl ?_
      refine g_goto K (dOf ck_mX12_readWord rfl rfl).1 (t := 60) (aJ_of (by decide +kernel)) ?_
      refine g_sub [1, 2, 0] rfl ?_
      exact ih _ _
    · refine gl (i' := 88) (fun _ _ => aw_aload_n K (dOf ck_mX12_readWord rfl rfl) rfl) ?_
      refine g_callVM K [] rfl (dOf ck_mX12_readWord rfl rfl) al_OneBreathModel_166 rfl rfl ⟨wd_1272, wd_63⟩ rfl (Nat.le_of_ble_eq_true rfl) ⟨Nat.le_of_ble_eq_true rfl, Nat.le_of_ble_eq_true rfl⟩ (fun b hb => met_R_next  hb) (fun r13 hr13 => ?_)
      refine gl (i' := 90) (fun _ _ => aw_aload_n K (dOf ck_mX12_readWord rfl rfl) rfl) ?_
      refine gl (i' := 91) (fun _ _ => aw_iconst K (n := 4) (i32 _ rfl) (dOf ck_mX12_readWord rfl rfl)) ?_
      refine g_callVM K [.inl _] rfl (dOf ck_mX12_readWord rfl rfl) al_OneBreathModel_202 rfl rfl ⟨wd_1334, wd_81⟩ rfl (Nat.le_of_ble_eq_true rfl) ⟨Nat.le_of_ble_eq_true rfl, Nat.le_of_ble_eq_true rfl⟩ (fun b hb => met_R_needs  hb) (fun r14 hr14 => ?_)
      refine gl (i' := 93) (fun _ _ => aw_aload_n K (dOf ck_mX12_readWord rfl rfl) rfl) ?_
      refine gl (i' := 94) (fun _ _ => aw_getf K (dOf ck_mX12_readWord rfl rfl) rfl rfl (Nat.le_of_ble_eq_true rfl) wd_1209 (k := 4) rfl) ?_
      refine gl (i' := 95) (fun _ _ => aw_bip K (dOf ck_mX12_readWord rfl rfl) (v := 32) rfl) ?_
      refine gl (i' := 96) (fun _ _ => aw_iload_n K (dOf ck_mX12_readWord rfl rfl) rfl) ?_
      refine gl (i' := 97) (fun _ _ => aw_iadd K (dOf ck_mX12_readWord rfl rfl)) ?_
      refine gl (i' := 98) (fun _ _ => aw_aload_n K (dOf ck_mX12_readWord rfl rfl) rfl) ?_
      refine gl (i' := 99) (fun _ _ => aw_iconst K (n := 0) (i32 _ rfl) (dOf ck_mX12_readWord rfl rfl)) ?_
      refine gl (i' := 100) (fun _ _ => aw_bip K (dOf ck_mX12_readWord rfl rfl) (v := 99) rfl) ?_
      refine g_callVIM K [.inl _, .inl _] rfl (dOf ck_mX12_readWord rfl rfl) al_OneBreathModel_205 rfl rfl ⟨wd_1310, wd_73⟩ rfl (Nat.le_of_ble_eq_true rfl) ⟨Nat.le_of_ble_eq_true rfl, Nat.le_of_ble_eq_true rfl⟩ (fun b hb => met_R_takes  hb) (fun r15 hr15 => ?_)
      refine g_gd (fun hb16 => ?_)
      refine g_st1 ?_
      refine gl (i' := 102) (fun _ _ => aw_iast K (dOf ck_mX12_readWord rfl rfl) rfl hb16) ?_
      refine gl (i' := 103) (fun _ _ => aw_aload_n K (dOf ck_mX12_readWord rfl rfl) rfl) ?_
      refine gl (i' := 104) (fun _ _ => aw_iconst K (n := 5) (i32 _ rfl) (dOf ck_mX12_readWord rfl rfl)) ?_
      refine g_callVM K [.inl _] rfl (dOf ck_mX12_readWord rfl rfl) al_OneBreathModel_202 rfl rfl ⟨wd_1334, wd_81⟩ rfl (Nat.le_of_ble_eq_true rfl) ⟨Nat.le_of_ble_eq_true rfl, Nat.le_of_ble_eq_true rfl⟩ (fun b hb => met_R_needs  hb) (fun r18 hr18 => ?_)
      refine gl (i' := 106) (fun _ _ => aw_aload_n K (dOf ck_mX12_readWord rfl rfl) rfl) ?_
      refine gl (i' := 107) (fun _ _ => aw_getf K (dOf ck_mX12_readWord rfl rfl) rfl rfl (Nat.le_of_ble_eq_true rfl) wd_1209 (k := 4) rfl) ?_
      refine gl (i' := 108) (fun _ _ => aw_bip K (dOf ck_mX12_readWord rfl rfl) (v := 45) rfl) ?_
      refine gl (i' := 109) (fun _ _ => aw_iload_n K (dOf ck_mX12_readWord rfl rfl) rfl) ?_
      refine gl (i' := 110) (fun _ _ => aw_iadd K (dOf ck_mX12_readWord rfl rfl)) ?_
      refine gl (i' := 111) (fun _ _ => aw_aload_n K (dOf ck_mX12_readWord rfl rfl) rfl) ?_
      refine gl (i' := 112) (fun _ _ => aw_iconst K (n := 0) (i32 _ rfl) (dOf ck_mX12_readWord rfl rfl)) ?_
      refine gl (i' := 113) (fun _ _ => aw_iconst K (n := 3) (i32 _ rfl) (dOf ck_mX12_readWord rfl rfl)) ?_
      refine g_callVIM K [.inl _, .inl _] rfl (dOf ck_mX12_readWord rfl rfl) al_OneBreathModel_205 rfl rfl ⟨wd_1310, wd_73⟩ rfl (Nat.le_of_ble_eq_true rfl) ⟨Nat.le_of_ble_eq_true rfl, Nat.le_of_ble_eq_true rfl⟩ (fun b hb => met_R_takes  hb) (fun r19 hr19 => ?_)
      refine g_gd (fun hb20 => ?_)
      refine g_st1 ?_
      refine gl (i' := 115) (fun _ _ => aw_iast K (dOf ck_mX12_readWord rfl rfl) rfl hb20) ?_
      refine gl (i' := 116) (fun _ _ => aw_aload_n K (dOf ck_mX12_readWord rfl rfl) rfl) ?_
      refine gl (i' := 117) (fun _ _ => aw_getf K (dOf ck_mX12_readWord rfl rfl) rfl rfl (Nat.le_of_ble_eq_true rfl) wd_1209 (k := 4) rfl) ?_
      refine gl (i' := 118) (fun _ _ => aw_bip K (dOf ck_mX12_readWord rfl rfl) (v := 18) rfl) ?_
      refine gl (i' := 119) (fun _ _ => aw_dup2_11 K rfl rfl (dOf ck_mX12_readWord rfl rfl)) ?_
      refine gl (i' := 120) (fun _ _ => aw_iald K (dOf ck_mX12_readWord rfl rfl) rfl (by decide)) ?_
      refine gl (i' := 121) (fun _ _ => aw_iconst K (n := 1) (i32 _ rfl) (dOf ck_mX12_readWord rfl rfl)) ?_
      refine gl (i' := 122) (fun _ _ => aw_iadd K (dOf ck_mX12_readWord rfl rfl)) ?_
      refine g_st1 ?_
      refine gl (i' := 123) (fun _ _ => aw_iast K (dOf ck_mX12_readWord rfl rfl) rfl (by decide)) ?_
      exact g_vret K (by decide +kernel) rfl rfl
def R_readWord_42 (x1 : Int) (mm : aM) : Option aM := if (mm 176 11) = 0 then (if 0 ≤ (w32 (19 + x1)) ∧ (w32 (19 + x1)) < 155 then (st1 (aup mm 180 (w32 (19 + x1)).toNat (w32 ((mm 176 7) - (mm 176 6)))) fun mm11 => (R_readWord_60 x1 FU (mm11 176 6) mm11)) else none) else (some mm)
set_option maxHeartbeats 4000000 in
theorem lk_R_readWord_42 {p : Program} {l : Launch} {e : Env} {s : State} {m : MethodId} {args : Array Value} {below : List Frame} {meth : Method} {c : Code} {D : va_G} {cA : FieldType → ClassId} {ad adV : Nat → Nat} {z0 : Nat} {al0 : List Nat} (K : aK p s m args meth c mX12_readWord D cA ad adV z0) (x1 : Int)  (mm : aM) : aG p l e { frames := 8, cells := 0, slots := 0, locals := 170 } s m args below meth c D cA ad z0 mX12_readWord al0 rM (R_readWord_42 x1 mm) 42 [(0, .inr (.inr (.inl (some 176)))), (1, .inl x1)] [] mm := by
  unfold R_readWord_42
  refine gl (i' := 43) (fun _ _ => aw_aload_n K (dOf ck_mX12_readWord rfl rfl) rfl) ?_
  refine gl (i' := 44) (fun _ _ => aw_getf K (dOf ck_mX12_readWord rfl rfl) rfl rfl (Nat.le_of_ble_eq_true rfl) wd_1216 (k := 11) rfl) ?_
  refine g_if_eq K (dOf ck_mX12_readWord rfl rfl) (t := 46) (aJ_of (by decide +kernel)) (fun h9 => ?_) (fun h9 => ?_)
  · refine gl (i' := 47) (fun _ _ => aw_aload_n K (dOf ck_mX12_readWord rfl rfl) rfl) ?_
    refine gl (i' := 48) (fun _ _ => aw_getf K (dOf ck_mX12_readWord rfl rfl) rfl rfl (Nat.le_of_ble_eq_true rfl) wd_1209 (k := 4) rfl) ?_
    refine gl (i' := 49) (fun _ _ => aw_bip K (dOf ck_mX12_readWord rfl rfl) (v := 19) rfl) ?_
    refine gl (i' := 50) (fun _ _ => aw_iload_n K (dOf ck_mX12_readWord rfl rfl) rfl) ?_
    refine gl (i' := 51) (fun _ _ => aw_iadd K (dOf ck_mX12_readWord rfl rfl)) ?_
    refine gl (i' := 52) (fun _ _ => aw_aload_n K (dOf ck_mX12_readWord rfl rfl) rfl) ?_
    refine gl (i' := 53) (fun _ _ => aw_getf K (dOf ck_mX12_readWord rfl rfl) rfl rfl (Nat.le_of_ble_eq_true rfl) wd_1212 (k := 7) rfl) ?_
    refine gl (i' := 54) (fun _ _ => aw_aload_n K (dOf ck_mX12_readWord rfl rfl) rfl) ?_
    refine gl (i' := 55) (fun _ _ => aw_getf K (dOf ck_mX12_readWord rfl rfl) rfl rfl (Nat.le_of_ble_eq_true rfl) wd_1211 (k := 6) rfl) ?_
    refine gl (i' := 56) (fun _ _ => aw_isub K (dOf ck_mX12_readWord rfl rfl)) ?_
    refine g_gd (fun hb10 => ?_)
    refine g_st1 ?_
    refine gl (i' := 57) (fun _ _ => aw_iast K (dOf ck_mX12_readWord rfl rfl) rfl hb10) ?_
    refine gl (i' := 58) (fun _ _ => aw_aload_n K (dOf ck_mX12_readWord rfl rfl) rfl) ?_
    refine gl (i' := 59) (fun _ _ => aw_getf K (dOf ck_mX12_readWord rfl rfl) rfl rfl (Nat.le_of_ble_eq_true rfl) wd_1211 (k := 6) rfl) ?_
    refine gl (i' := 60) (fun _ _ => aw_istore_n K (dOf ck_mX12_readWord rfl rfl) (Nat.le_of_ble_eq_true rfl)) ?_
    refine g_lv (lv' := [(2, .inl _), (0, .inr (.inr (.inl (some _)))), (1, .inl _)]) rfl ?_
    refine g_sub [1, 2, 0] rfl ?_
    exact lk_R_readWord_60 K _ FU _ _
  · exact g_vret K (dOf ck_mX12_readWord rfl rfl).1 rfl rfl
def R_readWord_39 (x1 : Int) (mm : aM) : Option aM := (R_fails 3 mm).bind fun r8 => (R_readWord_42 x1 r8)
set_option maxHeartbeats 4000000 in
theorem lk_R_readWord_39 {p : Program} {l : Launch} {e : Env} {s : State} {m : MethodId} {args : Array Value} {below : List Frame} {meth : Method} {c : Code} {D : va_G} {cA : FieldType → ClassId} {ad adV : Nat → Nat} {z0 : Nat} {al0 : List Nat} (K : aK p s m args meth c mX12_readWord D cA ad adV z0) (x1 : Int)  (mm : aM) : aG p l e { frames := 8, cells := 0, slots := 0, locals := 170 } s m args below meth c D cA ad z0 mX12_readWord al0 rM (R_readWord_39 x1 mm) 39 [(0, .inr (.inr (.inl (some 176)))), (1, .inl x1)] [] mm := by
  unfold R_readWord_39
  refine gl (i' := 40) (fun _ _ => aw_aload_n K (dOf ck_mX12_readWord rfl rfl) rfl) ?_
  refine gl (i' := 41) (fun _ _ => aw_iconst K (n := 3) (i32 _ rfl) (dOf ck_mX12_readWord rfl rfl)) ?_
  refine g_callVM K [.inl _] rfl (dOf ck_mX12_readWord rfl rfl) al_OneBreathModel_172 rfl rfl ⟨wd_1298, wd_69⟩ rfl (Nat.le_of_ble_eq_true rfl) ⟨Nat.le_of_ble_eq_true rfl, Nat.le_of_ble_eq_true rfl⟩ (fun b hb => met_R_fails  hb) (fun r8 hr8 => ?_)
  refine g_sub [0, 1] rfl ?_
  exact lk_R_readWord_42 K _ _
def R_readWord_11 (x1 : Int) (mm : aM) : Option aM := if (mm 176 11) = 0 then ((R_next mm).bind fun r3 => ((R_isLetters 1 6 r3).bind fun r4 => (if r4.1 = 0 then (some r4.2) else ((R_areSounds r4.2).bind fun r6 => (if r6 = 0 then (R_readWord_39 x1 r4.2) else ((R_wordOf 180 (r4.2 176 6) (w32 ((r4.2 176 7) - (r4.2 176 6))) r4.2).bind fun r27 => (if r27 = (-1) then (R_readWord_42 x1 r4.2) else (R_readWord_39 x1 r4.2)))))))) else (some mm)
set_option maxHeartbeats 4000000 in
theorem lk_R_readWord_11 {p : Program} {l : Launch} {e : Env} {s : State} {m : MethodId} {args : Array Value} {below : List Frame} {meth : Method} {c : Code} {D : va_G} {cA : FieldType → ClassId} {ad adV : Nat → Nat} {z0 : Nat} {al0 : List Nat} (K : aK p s m args meth c mX12_readWord D cA ad adV z0) (x1 : Int)  (mm : aM) : aG p l e { frames := 8, cells := 0, slots := 0, locals := 170 } s m args below meth c D cA ad z0 mX12_readWord al0 rM (R_readWord_11 x1 mm) 11 [(0, .inr (.inr (.inl (some 176)))), (1, .inl x1)] [] mm := by
  unfold R_readWord_11
  refine gl (i' := 12) (fun _ _ => aw_aload_n K (dOf ck_mX12_readWord rfl rfl) rfl) ?_
  refine gl (i' := 13) (fun _ _ => aw_getf K (dOf ck_mX12_readWord rfl rfl) rfl rfl (Nat.le_of_ble_eq_true rfl) wd_1216 (k := 11) rfl) ?_
  refine g_if_eq K (dOf ck_mX12_readWord rfl rfl) (t := 15) (aJ_of (by decide +kernel)) (fun h2 => ?_) (fun h2 => ?_)
  · refine gl (i' := 16) (fun _ _ => aw_aload_n K (dOf ck_mX12_readWord rfl rfl) rfl) ?_
    refine g_callVM K [] rfl (dOf ck_mX12_readWord rfl rfl) al_OneBreathModel_166 rfl rfl ⟨wd_1272, wd_63⟩ rfl (Nat.le_of_ble_eq_true rfl) ⟨Nat.le_of_ble_eq_true rfl, Nat.le_of_ble_eq_true rfl⟩ (fun b hb => met_R_next  hb) (fun r3 hr3 => ?_)
    refine gl (i' := 18) (fun _ _ => aw_aload_n K (dOf ck_mX12_readWord rfl rfl) rfl) ?_
    refine gl (i' := 19) (fun _ _ => aw_iconst K (n := 1) (i32 _ rfl) (dOf ck_mX12_readWord rfl rfl)) ?_
    refine gl (i' := 20) (fun _ _ => aw_bip K (dOf ck_mX12_readWord rfl rfl) (v := 6) rfl) ?_
    refine g_callVIM K [.inl _, .inl _] rfl (dOf ck_mX12_readWord rfl rfl) al_OneBreathModel_184 rfl rfl ⟨wd_1301, wd_70⟩ rfl (Nat.le_of_ble_eq_true rfl) ⟨Nat.le_of_ble_eq_true rfl, Nat.le_of_ble_eq_true rfl⟩ (fun b hb => met_R_isLetters  hb) (fun r4 hr4 => ?_)
    refine g_if_ne K (dOf ck_mX12_readWord rfl rfl) (t := 23) (aJ_of (by decide +kernel)) (fun h5 => ?_) (fun h5 => ?_)
    · exact g_vret K (dOf ck_mX12_readWord rfl rfl).1 rfl rfl
    · refine gl (i' := 24) (fun _ _ => aw_aload_n K (dOf ck_mX12_readWord rfl rfl) rfl) ?_
      refine g_callVI K [] rfl (dOf ck_mX12_readWord rfl rfl) al_OneBreathModel_192 rfl rfl ⟨wd_1316, wd_75⟩ rfl (Nat.le_of_ble_eq_true rfl) ⟨Nat.le_of_ble_eq_true rfl, Nat.le_of_ble_eq_true rfl⟩ (fun b hb => met_R_areSounds  hb) (fun r6 hr6 => ?_)
      refine g_if_eq K (dOf ck_mX12_readWord rfl rfl) (t := 39) (aJ_of (by decide +kernel)) (fun h7 => ?_) (fun h7 => ?_)
      · refine g_sub [0, 1] rfl ?_
        exact lk_R_readWord_39 K _ _
      · refine gl (i' := 27) (fun _ _ => aw_aload_n K (dOf ck_mX12_readWord rfl rfl) rfl) ?_
        refine gl (i' := 28) (fun _ _ => aw_aload_n K (dOf ck_mX12_readWord rfl rfl) rfl) ?_
        refine gl (i' := 29) (fun _ _ => aw_getf K (dOf ck_mX12_readWord rfl rfl) rfl rfl (Nat.le_of_ble_eq_true rfl) wd_1209 (k := 4) rfl) ?_
        refine gl (i' := 30) (fun _ _ => aw_aload_n K (dOf ck_mX12_readWord rfl rfl) rfl) ?_
        refine gl (i' := 31) (fun _ _ => aw_getf K (dOf ck_mX12_readWord rfl rfl) rfl rfl (Nat.le_of_ble_eq_true rfl) wd_1211 (k := 6) rfl) ?_
        refine gl (i' := 32) (fun _ _ => aw_aload_n K (dOf ck_mX12_readWord rfl rfl) rfl) ?_
        refine gl (i' := 33) (fun _ _ => aw_getf K (dOf ck_mX12_readWord rfl rfl) rfl rfl (Nat.le_of_ble_eq_true rfl) wd_1212 (k := 7) rfl) ?_
        refine gl (i' := 34) (fun _ _ => aw_aload_n K (dOf ck_mX12_readWord rfl rfl) rfl) ?_
        refine gl (i' := 35) (fun _ _ => aw_getf K (dOf ck_mX12_readWord rfl rfl) rfl rfl (Nat.le_of_ble_eq_true rfl) wd_1211 (k := 6) rfl) ?_
        refine gl (i' := 36) (fun _ _ => aw_isub K (dOf ck_mX12_readWord rfl rfl)) ?_
        refine g_callVI K [.inr (.inr (.inl (some _))), .inl _, .inl _] rfl (dOf ck_mX12_readWord rfl rfl) al_OneBreathModel_198 rfl rfl ⟨wd_1331, wd_80⟩ rfl (Nat.le_of_ble_eq_true rfl) ⟨Nat.le_of_ble_eq_true rfl, Nat.le_of_ble_eq_true rfl⟩ (fun b hb => met_R_wordOf ⟨_, rfl⟩ hb) (fun r27 hr27 => ?_)
        refine gl (i' := 38) (fun _ _ => aw_iconst K (n := -1) (i32 _ rfl) (dOf ck_mX12_readWord rfl rfl)) ?_
        refine g_icmp_eq K (dOf ck_mX12_readWord rfl rfl) (t := 42) (aJ_of (by decide +kernel)) (fun h28 => ?_) (fun h28 => ?_)
        · refine g_sub [0, 1] rfl ?_
          exact lk_R_readWord_42 K _ _
        · refine g_sub [0, 1] rfl ?_
          exact lk_R_readWord_39 K _ _
  · exact g_vret K (dOf ck_mX12_readWord rfl rfl).1 rfl rfl
def R_readWord  (mm : aM) : Option aM := if (mm 180 18) = 12 then ((R_fails 4 mm).bind fun r29 => (R_readWord_11 (mm 180 18) r29)) else (R_readWord_11 (mm 180 18) mm)
set_option maxHeartbeats 4000000 in
theorem met_R_readWord {l : Launch} {D : va_G} {cA : FieldType → ClassId} {ad adV : Nat → Nat} {z0 : Nat}  {mm : aM}  {r : aM} (h : R_readWord  mm = some r) : aMet l D cA ad adV z0 mX12_readWord 8 170 0 0 [.inr (.inr (.inl (some 176)))] SH mm (rM r).1 SH (rM r).2 := by
  refine aMet_ofG (by decide +kernel) rfl (Nat.le_of_ble_eq_true rfl) h (fun p e s m args below meth c al0 K => ?_)
  unfold R_readWord
  refine gl (i' := 1) (fun _ _ => aw_aload_n K (dOf ck_mX12_readWord rfl rfl) rfl) ?_
  refine gl (i' := 2) (fun _ _ => aw_getf K (dOf ck_mX12_readWord rfl rfl) rfl rfl (Nat.le_of_ble_eq_true rfl) wd_1209 (k := 4) rfl) ?_
  refine gl (i' := 3) (fun _ _ => aw_bip K (dOf ck_mX12_readWord rfl rfl) (v := 18) rfl) ?_
  refine gl (i' := 4) (fun _ _ => aw_iald K (dOf ck_mX12_readWord rfl rfl) rfl (by decide)) ?_
  refine gl (i' := 5) (fun _ _ => aw_istore_n K (dOf ck_mX12_readWord rfl rfl) (Nat.le_of_ble_eq_true rfl)) ?_
  refine g_lv (lv' := [(1, .inl _), (0, .inr (.inr (.inl (some _))))]) rfl ?_
  refine gl (i' := 6) (fun _ _ => aw_iload_n K (dOf ck_mX12_readWord rfl rfl) rfl) ?_
  refine gl (i' := 7) (fun _ _ => aw_bip K (dOf ck_mX12_readWord rfl rfl) (v := 12) rfl) ?_
  refine g_icmp_ne K (dOf ck_mX12_readWord rfl rfl) (t := 11) (aJ_of (by decide +kernel)) (fun h1 => ?_) (fun h1 => ?_)
  · refine gl (i' := 9) (fun _ _ => aw_aload_n K (dOf ck_mX12_readWord rfl rfl) rfl) ?_
    refine gl (i' := 10) (fun _ _ => aw_iconst K (n := 4) (i32 _ rfl) (dOf ck_mX12_readWord rfl rfl)) ?_
    refine g_callVM K [.inl _] rfl (dOf ck_mX12_readWord rfl rfl) al_OneBreathModel_172 rfl rfl ⟨wd_1298, wd_69⟩ rfl (Nat.le_of_ble_eq_true rfl) ⟨Nat.le_of_ble_eq_true rfl, Nat.le_of_ble_eq_true rfl⟩ (fun b hb => met_R_fails  hb) (fun r29 hr29 => ?_)
    refine g_sub [1, 0] rfl ?_
    exact lk_R_readWord_11 K _ _
  · refine g_sub [1, 0] rfl ?_
    exact lk_R_readWord_11 K _ _
def R_readShape_62 (k28 : Int → Int → aM → Option aM) (x1 : Int) (x3 : Int) (s0 : Int) (s1 : Int) (mm : aM) : Option aM := k28 (ior s1 s0) (w32 (x3 + 1)) mm
set_option maxHeartbeats 4000000 in
theorem lk_R_readShape_62 {p : Program} {l : Launch} {e : Env} {s : State} {m : MethodId} {args : Array Value} {below : List Frame} {meth : Method} {c : Code} {D : va_G} {cA : FieldType → ClassId} {ad adV : Nat → Nat} {z0 : Nat} {al0 : List Nat} (K : aK p s m args meth c mX12_readShape D cA ad adV z0) (x1 : Int) (x3 : Int) (k28 : Int → Int → aM → Option aM) (hk28 : ∀ (x2 : Int) (x3 : Int) (mm : aM), aG p l e { frames := 6, cells := 0, slots := 0, locals := 128 } s m args below meth c D cA ad z0 mX12_readShape al0 rM (k28 x2 x3 mm) 28 [(0, .inr (.inr (.inl (some 176)))), (1, .inl x1), (2, .inl x2), (3, .inl x3)] [] mm)  (s0 : Int) (s1 : Int) (mm : aM) : aG p l e { frames := 6, cells := 0, slots := 0, locals := 128 } s m args below meth c D cA ad z0 mX12_readShape al0 rM (R_readShape_62 k28 x1 x3 s0 s1 mm) 62 [(0, .inr (.inr (.inl (some 176)))), (1, .inl x1), (3, .inl x3)] [.inl s0, .inl s1] mm := by
  unfold R_readShape_62
  refine gl (i' := 63) (fun _ _ => aw_ior K (dOf ck_mX12_readShape rfl rfl)) ?_
  refine gl (i' := 64) (fun _ _ => aw_istore_n K (dOf ck_mX12_readShape rfl rfl) (Nat.le_of_ble_eq_true rfl)) ?_
  refine g_lv (lv' := [(2, .inl _), (0, .inr (.inr (.inl (some _)))), (1, .inl _), (3, .inl _)]) rfl ?_
  refine gl (i' := 65) (fun _ _ => aw_iinc K (dOf ck_mX12_readShape rfl rfl) (Nat.le_of_ble_eq_true rfl) rfl) ?_
  refine g_lv (lv' := [(3, .inl _), (2, .inl _), (0, .inr (.inr (.inl (some _)))), (1, .inl _)]) rfl ?_
  refine g_goto K (dOf ck_mX12_readShape rfl rfl).1 (t := 28) (aJ_of (by decide +kernel)) ?_
  refine g_sub [2, 3, 1, 0] rfl ?_
  exact hk28 _ _ _
def R_readShape_47 (k28 : Int → Int → aM → Option aM) (x1 : Int) (x2 : Int) (x3 : Int) (mm : aM) : Option aM := if 0 ≤ x3 ∧ x3 < 500 then (if (mm 179 x3.toNat) = 111 then (R_readShape_62 k28 x1 x3 (ishl 1 (w32 (x3 - (mm 176 6)))) x2 mm) else (R_readShape_62 k28 x1 x3 0 x2 mm)) else none
set_option maxHeartbeats 4000000 in
theorem lk_R_readShape_47 {p : Program} {l : Launch} {e : Env} {s : State} {m : MethodId} {args : Array Value} {below : List Frame} {meth : Method} {c : Code} {D : va_G} {cA : FieldType → ClassId} {ad adV : Nat → Nat} {z0 : Nat} {al0 : List Nat} (K : aK p s m args meth c mX12_readShape D cA ad adV z0) (x1 : Int) (x2 : Int) (x3 : Int) (k28 : Int → Int → aM → Option aM) (hk28 : ∀ (x2 : Int) (x3 : Int) (mm : aM), aG p l e { frames := 6, cells := 0, slots := 0, locals := 128 } s m args below meth c D cA ad z0 mX12_readShape al0 rM (k28 x2 x3 mm) 28 [(0, .inr (.inr (.inl (some 176)))), (1, .inl x1), (2, .inl x2), (3, .inl x3)] [] mm)  (mm : aM) : aG p l e { frames := 6, cells := 0, slots := 0, locals := 128 } s m args below meth c D cA ad z0 mX12_readShape al0 rM (R_readShape_47 k28 x1 x2 x3 mm) 47 [(0, .inr (.inr (.inl (some 176)))), (1, .inl x1), (2, .inl x2), (3, .inl x3)] [] mm := by
  unfold R_readShape_47
  refine gl (i' := 48) (fun _ _ => aw_iload_n K (dOf ck_mX12_readShape rfl rfl) rfl) ?_
  refine gl (i' := 49) (fun _ _ => aw_aload_n K (dOf ck_mX12_readShape rfl rfl) rfl) ?_
  refine gl (i' := 50) (fun _ _ => aw_getf K (dOf ck_mX12_readShape rfl rfl) rfl rfl (Nat.le_of_ble_eq_true rfl) wd_1208 (k := 3) rfl) ?_
  refine gl (i' := 51) (fun _ _ => aw_iload_n K (dOf ck_mX12_readShape rfl rfl) rfl) ?_
  refine g_gd (fun hb16 => ?_)
  refine gl (i' := 52) (fun _ _ => aw_iald K (dOf ck_mX12_readShape rfl rfl) rfl hb16) ?_
  refine gl (i' := 53) (fun _ _ => aw_bip K (dOf ck_mX12_readShape rfl rfl) (v := 111) rfl) ?_
  refine g_icmp_ne K (dOf ck_mX12_readShape rfl rfl) (t := 61) (aJ_of (by decide +kernel)) (fun h17 => ?_) (fun h17 => ?_)
  · refine gl (i' := 55) (fun _ _ => aw_iconst K (n := 1) (i32 _ rfl) (dOf ck_mX12_readShape rfl rfl)) ?_
    refine gl (i' := 56) (fun _ _ => aw_iload_n K (dOf ck_mX12_readShape rfl rfl) rfl) ?_
    refine gl (i' := 57) (fun _ _ => aw_aload_n K (dOf ck_mX12_readShape rfl rfl) rfl) ?_
    refine gl (i' := 58) (fun _ _ => aw_getf K (dOf ck_mX12_readShape rfl rfl) rfl rfl (Nat.le_of_ble_eq_true rfl) wd_1211 (k := 6) rfl) ?_
    refine gl (i' := 59) (fun _ _ => aw_isub K (dOf ck_mX12_readShape rfl rfl)) ?_
    refine gl (i' := 60) (fun _ _ => aw_ishl K (dOf ck_mX12_readShape rfl rfl)) ?_
    refine g_goto K (dOf ck_mX12_readShape rfl rfl).1 (t := 62) (aJ_of (by decide +kernel)) ?_
    refine g_sub [0, 1, 3] rfl ?_
    exact lk_R_readShape_62 K _ _ _ hk28 _ _ _
  · refine gl (i' := 62) (fun _ _ => aw_iconst K (n := 0) (i32 _ rfl) (dOf ck_mX12_readShape rfl rfl)) ?_
    refine g_sub [0, 1, 3] rfl ?_
    exact lk_R_readShape_62 K _ _ _ hk28 _ _ _
def R_readShape_28 (x1 : Int) : Nat → Int → Int → aM → Option aM
  | 0, _, _, _ => none
  | n + 1, x2, x3, mm => if x3 < (mm 176 7) then (if 0 ≤ x3 ∧ x3 < 500 then (if (mm 179 x3.toNat) = 111 then (R_readShape_47 (R_readShape_28 x1 n) x1 x2 x3 mm) else (if (mm 179 x3.toNat) = 115 then (R_readShape_47 (R_readShape_28 x1 n) x1 x2 x3 mm) else ((R_fails 3 mm).bind fun r19 => (R_readShape_47 (R_readShape_28 x1 n) x1 x2 x3 r19)))) else none) else (if (mm 176 11) = 0 then (if 0 ≤ (w32 (142 + x1)) ∧ (w32 (142 + x1)) < 155 then (st1 (aup mm 180 (w32 (142 + x1)).toNat (w32 ((mm 176 7) - (mm 176 6)))) fun mm9 => (if 0 ≤ (w32 (148 + x1)) ∧ (w32 (148 + x1)) < 155 then (st1 (aup mm9 180 (w32 (148 + x1)).toNat x2) fun mm11 => (st1 (aup mm11 180 141 (w32 ((mm11 180 141) + 1))) fun mm12 => ((R_next mm12).bind fun r13 => (some r13)))) else none)) else none) else (some mm))
set_option maxHeartbeats 4000000 in
theorem lk_R_readShape_28 {p : Program} {l : Launch} {e : Env} {s : State} {m : MethodId} {args : Array Value} {below : List Frame} {meth : Method} {c : Code} {D : va_G} {cA : FieldType → ClassId} {ad adV : Nat → Nat} {z0 : Nat} {al0 : List Nat} (K : aK p s m args meth c mX12_readShape D cA ad adV z0) (x1 : Int)  : ∀ (n : Nat) (x2 : Int) (x3 : Int) (mm : aM), aG p l e { frames := 6, cells := 0, slots := 0, locals := 128 } s m args below meth c D cA ad z0 mX12_readShape al0 rM (R_readShape_28 x1 n x2 x3 mm) 28 [(0, .inr (.inr (.inl (some 176)))), (1, .inl x1), (2, .inl x2), (3, .inl x3)] [] mm := by
  intro n
  induction n with
  | zero => intro x2 x3 mm; exact g_none
  | succ n ih =>
    intro x2 x3 mm
    rw [R_readShape_28]
    refine gl (i' := 29) (fun _ _ => aw_iload_n K (dOf ck_mX12_readShape rfl rfl) rfl) ?_
    refine gl (i' := 30) (fun _ _ => aw_aload_n K (dOf ck_mX12_readShape rfl rfl) rfl) ?_
    refine gl (i' := 31) (fun _ _ => aw_getf K (dOf ck_mX12_readShape rfl rfl) rfl rfl (Nat.le_of_ble_eq_true rfl) wd_1212 (k := 7) rfl) ?_
    refine g_icmp_ge K (dOf ck_mX12_readShape rfl rfl) (t := 66) (aJ_of (by decide +kernel)) (fun h6 => ?_) (fun h6 => ?_)
    · refine gl (i' := 33) (fun _ _ => aw_aload_n K (dOf ck_mX12_readShape rfl rfl) rfl) ?_
      refine gl (i' := 34) (fun _ _ => aw_getf K (dOf ck_mX12_readShape rfl rfl) rfl rfl (Nat.le_of_ble_eq_true rfl) wd_1208 (k := 3) rfl) ?_
      refine gl (i' := 35) (fun _ _ => aw_iload_n K (dOf ck_mX12_readShape rfl rfl) rfl) ?_
      refine g_gd (fun hb14 => ?_)
      refine gl (i' := 36) (fun _ _ => aw_iald K (dOf ck_mX12_readShape rfl rfl) rfl hb14) ?_
      refine gl (i' := 37) (fun _ _ => aw_bip K (dOf ck_mX12_readShape rfl rfl) (v := 111) rfl) ?_
      refine g_icmp_eq K (dOf ck_mX12_readShape rfl rfl) (t := 47) (aJ_of (by decide +kernel)) (fun h15 => ?_) (fun h15 => ?_)
      · refine g_sub [0, 1, 2, 3] rfl ?_
        exact lk_R_readShape_47 K _ _ _ _ ih _
      · refine gl (i' := 39) (fun _ _ => aw_aload_n K (dOf ck_mX12_readShape rfl rfl) rfl) ?_
        refine gl (i' := 40) (fun _ _ => aw_getf K (dOf ck_mX12_readShape rfl rfl) rfl rfl (Nat.le_of_ble_eq_true rfl) wd_1208 (k := 3) rfl) ?_
        refine gl (i' := 41) (fun _ _ => aw_iload_n K (dOf ck_mX12_readShape rfl rfl) rfl) ?_
        refine gl (i' := 42) (fun _ _ => aw_iald K (dOf ck_mX12_readShape rfl rfl) rfl hb14) ?_
        refine gl (i' := 43) (fun _ _ => aw_bip K (dOf ck_mX12_readShape rfl rfl) (v := 115) rfl) ?_
        refine g_icmp_eq K (dOf ck_mX12_readShape rfl rfl) (t := 47) (aJ_of (by decide +kernel)) (fun h18 => ?_) (fun h18 => ?_)
        · refine g_sub [0, 1, 2, 3] rfl ?_
          exact lk_R_readShape_47 K _ _ _ _ ih _
        · refine gl (i' := 45) (fun _ _ => aw_aload_n K (dOf ck_mX12_readShape rfl rfl) rfl) ?_
          refine gl (i' := 46) (fun _ _ => aw_iconst K (n := 3) (i32 _ rfl) (dOf ck_mX12_readShape rfl rfl)) ?_
          refine g_callVM K [.inl _] rfl (dOf ck_mX12_readShape rfl rfl) al_OneBreathModel_172 rfl rfl ⟨wd_1298, wd_69⟩ rfl (Nat.le_of_ble_eq_true rfl) ⟨Nat.le_of_ble_eq_true rfl, Nat.le_of_ble_eq_true rfl⟩ (fun b hb => met_R_fails  hb) (fun r19 hr19 => ?_)
          refine g_sub [0, 1, 2, 3] rfl ?_
          exact lk_R_readShape_47 K _ _ _ _ ih _
    · refine gl (i' := 67) (fun _ _ => aw_aload_n K (dOf ck_mX12_readShape rfl rfl) rfl) ?_
      refine gl (i' := 68) (fun _ _ => aw_getf K (dOf ck_mX12_readShape rfl rfl) rfl rfl (Nat.le_of_ble_eq_true rfl) wd_1216 (k := 11) rfl) ?_
      refine g_if_eq K (dOf ck_mX12_readShape rfl rfl) (t := 70) (aJ_of (by decide +kernel)) (fun h7 => ?_) (fun h7 => ?_)
      · refine gl (i' := 71) (fun _ _ => aw_aload_n K (dOf ck_mX12_readShape rfl rfl) rfl) ?_
        refine gl (i' := 72) (fun _ _ => aw_getf K (dOf ck_mX12_readShape rfl rfl) rfl rfl (Nat.le_of_ble_eq_true rfl) wd_1209 (k := 4) rfl) ?_
        refine gl (i' := 73) (fun _ _ => aw_sip K (dOf ck_mX12_readShape rfl rfl) (v := 142) rfl) ?_
        refine gl (i' := 74) (fun _ _ => aw_iload_n K (dOf ck_mX12_readShape rfl rfl) rfl) ?_
        refine gl (i' := 75) (fun _ _ => aw_iadd K (dOf ck_mX12_readShape rfl rfl)) ?_
        refine gl (i' := 76) (fun _ _ => aw_aload_n K (dOf ck_mX12_readShape rfl rfl) rfl) ?_
        refine gl (i' := 77) (fun _ _ => aw_getf K (dOf ck_mX12_readShape rfl rfl) rfl rfl (Nat.le_of_ble_eq_true rfl) wd_1212 (k := 7) rfl) ?_
        refine gl (i' := 78) (fun _ _ => aw_aload_n K (dOf ck_mX12_readShape rfl rfl) rfl) ?_
        refine gl (i' := 79) (fun _ _ => aw_getf K (dOf ck_mX12_readShape rfl rfl) rfl rfl (Nat.le_of_ble_eq_true rfl) wd_1211 (k := 6) rfl) ?_
        refine gl (i' := 80) (fun _ _ => aw_isub K (dOf ck_mX12_readShape rfl rfl)) ?_
        refine g_gd (fun hb8 => ?_)
        refine g_st1 ?_
        refine gl (i' := 81) (fun _ _ => aw_iast K (dOf ck_mX12_readShape rfl rfl) rfl hb8) ?_
        refine gl (i' := 82) (fun _ _ => aw_aload_n K (dOf ck_mX12_readShape rfl rfl) rfl) ?_
        refine gl (i' := 83) (fun _ _ => aw_getf K (dOf ck_mX12_readShape rfl rfl) rfl rfl (Nat.le_of_ble_eq_true rfl) wd_1209 (k := 4) rfl) ?_
        refine gl (i' := 84) (fun _ _ => aw_sip K (dOf ck_mX12_readShape rfl rfl) (v := 148) rfl) ?_
        refine gl (i' := 85) (fun _ _ => aw_iload_n K (dOf ck_mX12_readShape rfl rfl) rfl) ?_
        refine gl (i' := 86) (fun _ _ => aw_iadd K (dOf ck_mX12_readShape rfl rfl)) ?_
        refine gl (i' := 87) (fun _ _ => aw_iload_n K (dOf ck_mX12_readShape rfl rfl) rfl) ?_
        refine g_gd (fun hb10 => ?_)
        refine g_st1 ?_
        refine gl (i' := 88) (fun _ _ => aw_iast K (dOf ck_mX12_readShape rfl rfl) rfl hb10) ?_
        refine gl (i' := 89) (fun _ _ => aw_aload_n K (dOf ck_mX12_readShape rfl rfl) rfl) ?_
        refine gl (i' := 90) (fun _ _ => aw_getf K (dOf ck_mX12_readShape rfl rfl) rfl rfl (Nat.le_of_ble_eq_true rfl) wd_1209 (k := 4) rfl) ?_
        refine gl (i' := 91) (fun _ _ => aw_sip K (dOf ck_mX12_readShape rfl rfl) (v := 141) rfl) ?_
        refine gl (i' := 92) (fun _ _ => aw_dup2_11 K rfl rfl (dOf ck_mX12_readShape rfl rfl)) ?_
        refine gl (i' := 93) (fun _ _ => aw_iald K (dOf ck_mX12_readShape rfl rfl) rfl (by decide)) ?_
        refine gl (i' := 94) (fun _ _ => aw_iconst K (n := 1) (i32 _ rfl) (dOf ck_mX12_readShape rfl rfl)) ?_
        refine gl (i' := 95) (fun _ _ => aw_iadd K (dOf ck_mX12_readShape rfl rfl)) ?_
        refine g_st1 ?_
        refine gl (i' := 96) (fun _ _ => aw_iast K (dOf ck_mX12_readShape rfl rfl) rfl (by decide)) ?_
        refine gl (i' := 97) (fun _ _ => aw_aload_n K (dOf ck_mX12_readShape rfl rfl) rfl) ?_
        refine g_callVM K [] rfl (dOf ck_mX12_readShape rfl rfl) al_OneBreathModel_166 rfl rfl ⟨wd_1272, wd_63⟩ rfl (Nat.le_of_ble_eq_true rfl) ⟨Nat.le_of_ble_eq_true rfl, Nat.le_of_ble_eq_true rfl⟩ (fun b hb => met_R_next  hb) (fun r13 hr13 => ?_)
        exact g_vret K (by decide +kernel) rfl rfl
      · exact g_vret K (dOf ck_mX12_readShape rfl rfl).1 rfl rfl
def R_readShape_11 (x1 : Int) (mm : aM) : Option aM := if (mm 176 11) = 0 then ((R_next mm).bind fun r3 => ((R_isLetters 1 6 r3).bind fun r4 => (if r4.1 = 0 then (some r4.2) else (R_readShape_28 x1 FU 0 (r4.2 176 6) r4.2)))) else (some mm)
set_option maxHeartbeats 4000000 in
theorem lk_R_readShape_11 {p : Program} {l : Launch} {e : Env} {s : State} {m : MethodId} {args : Array Value} {below : List Frame} {meth : Method} {c : Code} {D : va_G} {cA : FieldType → ClassId} {ad adV : Nat → Nat} {z0 : Nat} {al0 : List Nat} (K : aK p s m args meth c mX12_readShape D cA ad adV z0) (x1 : Int)  (mm : aM) : aG p l e { frames := 6, cells := 0, slots := 0, locals := 128 } s m args below meth c D cA ad z0 mX12_readShape al0 rM (R_readShape_11 x1 mm) 11 [(0, .inr (.inr (.inl (some 176)))), (1, .inl x1)] [] mm := by
  unfold R_readShape_11
  refine gl (i' := 12) (fun _ _ => aw_aload_n K (dOf ck_mX12_readShape rfl rfl) rfl) ?_
  refine gl (i' := 13) (fun _ _ => aw_getf K (dOf ck_mX12_readShape rfl rfl) rfl rfl (Nat.le_of_ble_eq_true rfl) wd_1216 (k := 11) rfl) ?_
  refine g_if_eq K (dOf ck_mX12_readShape rfl rfl) (t := 15) (aJ_of (by decide +kernel)) (fun h2 => ?_) (fun h2 => ?_)
  · refine gl (i' := 16) (fun _ _ => aw_aload_n K (dOf ck_mX12_readShape rfl rfl) rfl) ?_
    refine g_callVM K [] rfl (dOf ck_mX12_readShape rfl rfl) al_OneBreathModel_166 rfl rfl ⟨wd_1272, wd_63⟩ rfl (Nat.le_of_ble_eq_true rfl) ⟨Nat.le_of_ble_eq_true rfl, Nat.le_of_ble_eq_true rfl⟩ (fun b hb => met_R_next  hb) (fun r3 hr3 => ?_)
    refine gl (i' := 18) (fun _ _ => aw_aload_n K (dOf ck_mX12_readShape rfl rfl) rfl) ?_
    refine gl (i' := 19) (fun _ _ => aw_iconst K (n := 1) (i32 _ rfl) (dOf ck_mX12_readShape rfl rfl)) ?_
    refine gl (i' := 20) (fun _ _ => aw_bip K (dOf ck_mX12_readShape rfl rfl) (v := 6) rfl) ?_
    refine g_callVIM K [.inl _, .inl _] rfl (dOf ck_mX12_readShape rfl rfl) al_OneBreathModel_184 rfl rfl ⟨wd_1301, wd_70⟩ rfl (Nat.le_of_ble_eq_true rfl) ⟨Nat.le_of_ble_eq_true rfl, Nat.le_of_ble_eq_true rfl⟩ (fun b hb => met_R_isLetters  hb) (fun r4 hr4 => ?_)
    refine g_if_ne K (dOf ck_mX12_readShape rfl rfl) (t := 23) (aJ_of (by decide +kernel)) (fun h5 => ?_) (fun h5 => ?_)
    · exact g_vret K (dOf ck_mX12_readShape rfl rfl).1 rfl rfl
    · refine gl (i' := 24) (fun _ _ => aw_iconst K (n := 0) (i32 _ rfl) (dOf ck_mX12_readShape rfl rfl)) ?_
      refine gl (i' := 25) (fun _ _ => aw_istore_n K (dOf ck_mX12_readShape rfl rfl) (Nat.le_of_ble_eq_true rfl)) ?_
      refine g_lv (lv' := [(2, .inl _), (0, .inr (.inr (.inl (some _)))), (1, .inl _)]) rfl ?_
      refine gl (i' := 26) (fun _ _ => aw_aload_n K (dOf ck_mX12_readShape rfl rfl) rfl) ?_
      refine gl (i' := 27) (fun _ _ => aw_getf K (dOf ck_mX12_readShape rfl rfl) rfl rfl (Nat.le_of_ble_eq_true rfl) wd_1211 (k := 6) rfl) ?_
      refine gl (i' := 28) (fun _ _ => aw_istore_n K (dOf ck_mX12_readShape rfl rfl) (Nat.le_of_ble_eq_true rfl)) ?_
      refine g_lv (lv' := [(3, .inl _), (2, .inl _), (0, .inr (.inr (.inl (some _)))), (1, .inl _)]) rfl ?_
      refine g_sub [2, 3, 1, 0] rfl ?_
      exact lk_R_readShape_28 K _ FU _ _ _
  · exact g_vret K (dOf ck_mX12_readShape rfl rfl).1 rfl rfl
def R_readShape  (mm : aM) : Option aM := if (mm 180 141) = 6 then ((R_fails 4 mm).bind fun r20 => (R_readShape_11 (mm 180 141) r20)) else (R_readShape_11 (mm 180 141) mm)
set_option maxHeartbeats 4000000 in
theorem met_R_readShape {l : Launch} {D : va_G} {cA : FieldType → ClassId} {ad adV : Nat → Nat} {z0 : Nat}  {mm : aM}  {r : aM} (h : R_readShape  mm = some r) : aMet l D cA ad adV z0 mX12_readShape 6 128 0 0 [.inr (.inr (.inl (some 176)))] SH mm (rM r).1 SH (rM r).2 := by
  refine aMet_ofG (by decide +kernel) rfl (Nat.le_of_ble_eq_true rfl) h (fun p e s m args below meth c al0 K => ?_)
  unfold R_readShape
  refine gl (i' := 1) (fun _ _ => aw_aload_n K (dOf ck_mX12_readShape rfl rfl) rfl) ?_
  refine gl (i' := 2) (fun _ _ => aw_getf K (dOf ck_mX12_readShape rfl rfl) rfl rfl (Nat.le_of_ble_eq_true rfl) wd_1209 (k := 4) rfl) ?_
  refine gl (i' := 3) (fun _ _ => aw_sip K (dOf ck_mX12_readShape rfl rfl) (v := 141) rfl) ?_
  refine gl (i' := 4) (fun _ _ => aw_iald K (dOf ck_mX12_readShape rfl rfl) rfl (by decide)) ?_
  refine gl (i' := 5) (fun _ _ => aw_istore_n K (dOf ck_mX12_readShape rfl rfl) (Nat.le_of_ble_eq_true rfl)) ?_
  refine g_lv (lv' := [(1, .inl _), (0, .inr (.inr (.inl (some _))))]) rfl ?_
  refine gl (i' := 6) (fun _ _ => aw_iload_n K (dOf ck_mX12_readShape rfl rfl) rfl) ?_
  refine gl (i' := 7) (fun _ _ => aw_bip K (dOf ck_mX12_readShape rfl rfl) (v := 6) rfl) ?_
  refine g_icmp_ne K (dOf ck_mX12_readShape rfl rfl) (t := 11) (aJ_of (by decide +kernel)) (fun h1 => ?_) (fun h1 => ?_)
  · refine gl (i' := 9) (fun _ _ => aw_aload_n K (dOf ck_mX12_readShape rfl rfl) rfl) ?_
    refine gl (i' := 10) (fun _ _ => aw_iconst K (n := 4) (i32 _ rfl) (dOf ck_mX12_readShape rfl rfl)) ?_
    refine g_callVM K [.inl _] rfl (dOf ck_mX12_readShape rfl rfl) al_OneBreathModel_172 rfl rfl ⟨wd_1298, wd_69⟩ rfl (Nat.le_of_ble_eq_true rfl) ⟨Nat.le_of_ble_eq_true rfl, Nat.le_of_ble_eq_true rfl⟩ (fun b hb => met_R_fails  hb) (fun r20 hr20 => ?_)
    refine g_sub [1, 0] rfl ?_
    exact lk_R_readShape_11 K _ _
  · refine g_sub [1, 0] rfl ?_
    exact lk_R_readShape_11 K _ _
def R_readLine_106 (mm : aM) : Option aM := (R_needs 11 mm).bind fun r18 => (st1 (aup r18 180 154 (w32 ((r18 180 154) + 1))) fun mm19 => (some mm19))
set_option maxHeartbeats 4000000 in
theorem lk_R_readLine_106 {p : Program} {l : Launch} {e : Env} {s : State} {m : MethodId} {args : Array Value} {below : List Frame} {meth : Method} {c : Code} {D : va_G} {cA : FieldType → ClassId} {ad adV : Nat → Nat} {z0 : Nat} {al0 : List Nat} (K : aK p s m args meth c mX12_readLine D cA ad adV z0)   (mm : aM) : aG p l e { frames := 9, cells := 0, slots := 0, locals := 192 } s m args below meth c D cA ad z0 mX12_readLine al0 rM (R_readLine_106 mm) 106 [(0, .inr (.inr (.inl (some 176))))] [] mm := by
  unfold R_readLine_106
  refine gl (i' := 107) (fun _ _ => aw_aload_n K (dOf ck_mX12_readLine rfl rfl) rfl) ?_
  refine gl (i' := 108) (fun _ _ => aw_bip K (dOf ck_mX12_readLine rfl rfl) (v := 11) rfl) ?_
  refine g_callVM K [.inl _] rfl (dOf ck_mX12_readLine rfl rfl) al_OneBreathModel_202 rfl rfl ⟨wd_1334, wd_81⟩ rfl (Nat.le_of_ble_eq_true rfl) ⟨Nat.le_of_ble_eq_true rfl, Nat.le_of_ble_eq_true rfl⟩ (fun b hb => met_R_needs  hb) (fun r18 hr18 => ?_)
  refine gl (i' := 110) (fun _ _ => aw_aload_n K (dOf ck_mX12_readLine rfl rfl) rfl) ?_
  refine gl (i' := 111) (fun _ _ => aw_getf K (dOf ck_mX12_readLine rfl rfl) rfl rfl (Nat.le_of_ble_eq_true rfl) wd_1209 (k := 4) rfl) ?_
  refine gl (i' := 112) (fun _ _ => aw_sip K (dOf ck_mX12_readLine rfl rfl) (v := 154) rfl) ?_
  refine gl (i' := 113) (fun _ _ => aw_dup2_11 K rfl rfl (dOf ck_mX12_readLine rfl rfl)) ?_
  refine gl (i' := 114) (fun _ _ => aw_iald K (dOf ck_mX12_readLine rfl rfl) rfl (by decide)) ?_
  refine gl (i' := 115) (fun _ _ => aw_iconst K (n := 1) (i32 _ rfl) (dOf ck_mX12_readLine rfl rfl)) ?_
  refine gl (i' := 116) (fun _ _ => aw_iadd K (dOf ck_mX12_readLine rfl rfl)) ?_
  refine g_st1 ?_
  refine gl (i' := 117) (fun _ _ => aw_iast K (dOf ck_mX12_readLine rfl rfl) rfl (by decide)) ?_
  exact g_vret K (by decide +kernel) rfl rfl
def R_readLine_68 (mm : aM) : Option aM := R_readLine_106 mm
set_option maxHeartbeats 4000000 in
theorem lk_R_readLine_68 {p : Program} {l : Launch} {e : Env} {s : State} {m : MethodId} {args : Array Value} {below : List Frame} {meth : Method} {c : Code} {D : va_G} {cA : FieldType → ClassId} {ad adV : Nat → Nat} {z0 : Nat} {al0 : List Nat} (K : aK p s m args meth c mX12_readLine D cA ad adV z0)   (mm : aM) : aG p l e { frames := 9, cells := 0, slots := 0, locals := 192 } s m args below meth c D cA ad z0 mX12_readLine al0 rM (R_readLine_68 mm) 68 [(0, .inr (.inr (.inl (some 176))))] [] mm := by
  unfold R_readLine_68
  refine g_goto K (dOf ck_mX12_readLine rfl rfl).1 (t := 106) (aJ_of (by decide +kernel)) ?_
  refine g_sub [0] rfl ?_
  exact lk_R_readLine_106 K _
def R_readLine_45 (mm : aM) : Option aM := R_readLine_106 mm
set_option maxHeartbeats 4000000 in
theorem lk_R_readLine_45 {p : Program} {l : Launch} {e : Env} {s : State} {m : MethodId} {args : Array Value} {below : List Frame} {meth : Method} {c : Code} {D : va_G} {cA : FieldType → ClassId} {ad adV : Nat → Nat} {z0 : Nat} {al0 : List Nat} (K : aK p s m args meth c mX12_readLine D cA ad adV z0)   (mm : aM) : aG p l e { frames := 9, cells := 0, slots := 0, locals := 192 } s m args below meth c D cA ad z0 mX12_readLine al0 rM (R_readLine_45 mm) 45 [(0, .inr (.inr (.inl (some 176))))] [] mm := by
  unfold R_readLine_45
  refine g_goto K (dOf ck_mX12_readLine rfl rfl).1 (t := 106) (aJ_of (by decide +kernel)) ?_
  refine g_sub [0] rfl ?_
  exact lk_R_readLine_106 K _
def R_readLine_8 (s0 : Int) (mm : aM) : Option aM := (R_is 0 mm).bind fun r2 => (if r2 = 0 then ((R_eats 6 mm).bind fun r4 => (if r4.1 = 0 then ((R_eats 7 r4.2).bind fun r6 => (if r6.1 = 0 then (if s0 = 0 then ((R_is 1 r6.2).bind fun r9 => (if r9 = 0 then ((R_is 2 r6.2).bind fun r11 => (if r11 = 0 then ((R_is 3 r6.2).bind fun r13 => (if r13 = 0 then ((R_is 8 r6.2).bind fun r15 => (if r15 = 0 then ((R_fails 2 r6.2).bind fun r17 => (R_readLine_106 r17)) else ((R_readShape r6.2).bind fun r20 => (R_readLine_106 r20)))) else ((R_readWord r6.2).bind fun r21 => (R_readLine_106 r21)))) else ((R_readLike r6.2).bind fun r22 => (R_readLine_106 r22)))) else ((R_readOpen r6.2).bind fun r23 => (R_readLine_106 r23)))) else ((R_fails 2 r6.2).bind fun r24 => (R_readLine_106 r24))) else ((R_takes 0 3 r6.2).bind fun r25 => (if (r25.2 176 11) = 0 then (st1 (aup r25.2 180 140 (ior (r25.2 180 140) (ishl 1 r25.1))) fun mm27 => (R_readLine_68 mm27)) else (R_readLine_68 r25.2))))) else ((R_takes 0 3 r4.2).bind fun r28 => ((R_takes 0 3 r28.2).bind fun r29 => (if (r29.2 176 11) = 0 then (if 0 ≤ (w32 (136 + r28.1)) ∧ (w32 (136 + r28.1)) < 155 then (st1 (aup r29.2 180 (w32 (136 + r28.1)).toNat (ior (r29.2 180 (w32 (136 + r28.1)).toNat) (ishl 1 r29.1))) fun mm32 => (R_readLine_45 mm32)) else none) else (R_readLine_45 r29.2)))))) else ((R_readSounds mm).bind fun r33 => (R_readLine_106 r33)))
set_option maxHeartbeats 4000000 in
theorem lk_R_readLine_8 {p : Program} {l : Launch} {e : Env} {s : State} {m : MethodId} {args : Array Value} {below : List Frame} {meth : Method} {c : Code} {D : va_G} {cA : FieldType → ClassId} {ad adV : Nat → Nat} {z0 : Nat} {al0 : List Nat} (K : aK p s m args meth c mX12_readLine D cA ad adV z0)   (s0 : Int) (mm : aM) : aG p l e { frames := 9, cells := 0, slots := 0, locals := 192 } s m args below meth c D cA ad z0 mX12_readLine al0 rM (R_readLine_8 s0 mm) 8 [(0, .inr (.inr (.inl (some 176))))] [.inl s0] mm := by
  unfold R_readLine_8
  refine gl (i' := 9) (fun _ _ => aw_istore_n K (dOf ck_mX12_readLine rfl rfl) (Nat.le_of_ble_eq_true rfl)) ?_
  refine g_lv (lv' := [(1, .inl _), (0, .inr (.inr (.inl (some _))))]) rfl ?_
  refine gl (i' := 10) (fun _ _ => aw_aload_n K (dOf ck_mX12_readLine rfl rfl) rfl) ?_
  refine gl (i' := 11) (fun _ _ => aw_iconst K (n := 0) (i32 _ rfl) (dOf ck_mX12_readLine rfl rfl)) ?_
  refine g_callVI K [.inl _] rfl (dOf ck_mX12_readLine rfl rfl) al_OneBreathModel_163 rfl rfl ⟨wd_1292, wd_67⟩ rfl (Nat.le_of_ble_eq_true rfl) ⟨Nat.le_of_ble_eq_true rfl, Nat.le_of_ble_eq_true rfl⟩ (fun b hb => met_R_is  hb) (fun r2 hr2 => ?_)
  refine g_if_eq K (dOf ck_mX12_readLine rfl rfl) (t := 16) (aJ_of (by decide +kernel)) (fun h3 => ?_) (fun h3 => ?_)
  · refine gl (i' := 17) (fun _ _ => aw_aload_n K (dOf ck_mX12_readLine rfl rfl) rfl) ?_
    refine gl (i' := 18) (fun _ _ => aw_bip K (dOf ck_mX12_readLine rfl rfl) (v := 6) rfl) ?_
    refine g_callVIM K [.inl _] rfl (dOf ck_mX12_readLine rfl rfl) al_OneBreathModel_169 rfl rfl ⟨wd_1307, wd_72⟩ rfl (Nat.le_of_ble_eq_true rfl) ⟨Nat.le_of_ble_eq_true rfl, Nat.le_of_ble_eq_true rfl⟩ (fun b hb => met_R_eats  hb) (fun r4 hr4 => ?_)
    refine g_if_eq K (dOf ck_mX12_readLine rfl rfl) (t := 46) (aJ_of (by decide +kernel)) (fun h5 => ?_) (fun h5 => ?_)
    · refine gl (i' := 47) (fun _ _ => aw_aload_n K (dOf ck_mX12_readLine rfl rfl) rfl) ?_
      refine gl (i' := 48) (fun _ _ => aw_bip K (dOf ck_mX12_readLine rfl rfl) (v := 7) rfl) ?_
      refine g_callVIM K [.inl _] rfl (dOf ck_mX12_readLine rfl rfl) al_OneBreathModel_169 rfl rfl ⟨wd_1307, wd_72⟩ rfl (Nat.le_of_ble_eq_true rfl) ⟨Nat.le_of_ble_eq_true rfl, Nat.le_of_ble_eq_true rfl⟩ (fun b hb => met_R_eats  hb) (fun r6 hr6 => ?_)
      refine g_if_eq K (dOf ck_mX12_readLine rfl rfl) (t := 69) (aJ_of (by decide +kernel)) (fun h7 => ?_) (fun h7 => ?_)
      · refine gl (i' := 70) (fun _ _ => aw_iload_n K (dOf ck_mX12_readLine rfl rfl) rfl) ?_
        refine g_if_eq K (dOf ck_mX12_readLine rfl rfl) (t := 75) (aJ_of (by decide +kernel)) (fun h8 => ?_) (fun h8 => ?_)
        · refine gl (i' := 76) (fun _ _ => aw_aload_n K (dOf ck_mX12_readLine rfl rfl) rfl) ?_
          refine gl (i' := 77) (fun _ _ => aw_iconst K (n := 1) (i32 _ rfl) (dOf ck_mX12_readLine rfl rfl)) ?_
          refine g_callVI K [.inl _] rfl (dOf ck_mX12_readLine rfl rfl) al_OneBreathModel_163 rfl rfl ⟨wd_1292, wd_67⟩ rfl (Nat.le_of_ble_eq_true rfl) ⟨Nat.le_of_ble_eq_true rfl, Nat.le_of_ble_eq_true rfl⟩ (fun b hb => met_R_is  hb) (fun r9 hr9 => ?_)
          refine g_if_eq K (dOf ck_mX12_readLine rfl rfl) (t := 82) (aJ_of (by decide +kernel)) (fun h10 => ?_) (fun h10 => ?_)
          · refine gl (i' := 83) (fun _ _ => aw_aload_n K (dOf ck_mX12_readLine rfl rfl) rfl) ?_
            refine gl (i' := 84) (fun _ _ => aw_iconst K (n := 2) (i32 _ rfl) (dOf ck_mX12_readLine rfl rfl)) ?_
            refine g_callVI K [.inl _] rfl (dOf ck_mX12_readLine rfl rfl) al_OneBreathModel_163 rfl rfl ⟨wd_1292, wd_67⟩ rfl (Nat.le_of_ble_eq_true rfl) ⟨Nat.le_of_ble_eq_true rfl, Nat.le_of_ble_eq_true rfl⟩ (fun b hb => met_R_is  hb) (fun r11 hr11 => ?_)
            refine g_if_eq K (dOf ck_mX12_readLine rfl rfl) (t := 89) (aJ_of (by decide +kernel)) (fun h12 => ?_) (fun h12 => ?_)
            · refine gl (i' := 90) (fun _ _ => aw_aload_n K (dOf ck_mX12_readLine rfl rfl) rfl) ?_
              refine gl (i' := 91) (fun _ _ => aw_iconst K (n := 3) (i32 _ rfl) (dOf ck_mX12_readLine rfl rfl)) ?_
              refine g_callVI K [.inl _] rfl (dOf ck_mX12_readLine rfl rfl) al_OneBreathModel_163 rfl rfl ⟨wd_1292, wd_67⟩ rfl (Nat.le_of_ble_eq_true rfl) ⟨Nat.le_of_ble_eq_true rfl, Nat.le_of_ble_eq_true rfl⟩ (fun b hb => met_R_is  hb) (fun r13 hr13 => ?_)
              refine g_if_eq K (dOf ck_mX12_readLine rfl rfl) (t := 96) (aJ_of (by decide +kernel)) (fun h14 => ?_) (fun h14 => ?_)
              · refine gl (i' := 97) (fun _ _ => aw_aload_n K (dOf ck_mX12_readLine rfl rfl) rfl) ?_
                refine gl (i' := 98) (fun _ _ => aw_bip K (dOf ck_mX12_readLine rfl rfl) (v := 8) rfl) ?_
                refine g_callVI K [.inl _] rfl (dOf ck_mX12_readLine rfl rfl) al_OneBreathModel_163 rfl rfl ⟨wd_1292, wd_67⟩ rfl (Nat.le_of_ble_eq_true rfl) ⟨Nat.le_of_ble_eq_true rfl, Nat.le_of_ble_eq_true rfl⟩ (fun b hb => met_R_is  hb) (fun r15 hr15 => ?_)
                refine g_if_eq K (dOf ck_mX12_readLine rfl rfl) (t := 103) (aJ_of (by decide +kernel)) (fun h16 => ?_) (fun h16 => ?_)
                · refine gl (i' := 104) (fun _ _ => aw_aload_n K (dOf ck_mX12_readLine rfl rfl) rfl) ?_
                  refine gl (i' := 105) (fun _ _ => aw_iconst K (n := 2) (i32 _ rfl) (dOf ck_mX12_readLine rfl rfl)) ?_
                  refine g_callVM K [.inl _] rfl (dOf ck_mX12_readLine rfl rfl) al_OneBreathModel_172 rfl rfl ⟨wd_1298, wd_69⟩ rfl (Nat.le_of_ble_eq_true rfl) ⟨Nat.le_of_ble_eq_true rfl, Nat.le_of_ble_eq_true rfl⟩ (fun b hb => met_R_fails  hb) (fun r17 hr17 => ?_)
                  refine g_sub [1] rfl ?_
                  exact lk_R_readLine_106 K _
                · refine gl (i' := 101) (fun _ _ => aw_aload_n K (dOf ck_mX12_readLine rfl rfl) rfl) ?_
                  refine g_callVM K [] rfl (dOf ck_mX12_readLine rfl rfl) al_OneBreathModel_221 rfl rfl ⟨wd_1337, wd_82⟩ rfl (Nat.le_of_ble_eq_true rfl) ⟨Nat.le_of_ble_eq_true rfl, Nat.le_of_ble_eq_true rfl⟩ (fun b hb => met_R_readShape  hb) (fun r20 hr20 => ?_)
                  refine g_goto K (dOf ck_mX12_readLine rfl rfl).1 (t := 106) (aJ_of (by decide +kernel)) ?_
                  refine g_sub [1] rfl ?_
                  exact lk_R_readLine_106 K _
              · refine gl (i' := 94) (fun _ _ => aw_aload_n K (dOf ck_mX12_readLine rfl rfl) rfl) ?_
                refine g_callVM K [] rfl (dOf ck_mX12_readLine rfl rfl) al_OneBreathModel_218 rfl rfl ⟨wd_1328, wd_79⟩ rfl (Nat.le_of_ble_eq_true rfl) ⟨Nat.le_of_ble_eq_true rfl, Nat.le_of_ble_eq_true rfl⟩ (fun b hb => met_R_readWord  hb) (fun r21 hr21 => ?_)
                refine g_goto K (dOf ck_mX12_readLine rfl rfl).1 (t := 106) (aJ_of (by decide +kernel)) ?_
                refine g_sub [1] rfl ?_
                exact lk_R_readLine_106 K _
            · refine gl (i' := 87) (fun _ _ => aw_aload_n K (dOf ck_mX12_readLine rfl rfl) rfl) ?_
              refine g_callVM K [] rfl (dOf ck_mX12_readLine rfl rfl) al_OneBreathModel_215 rfl rfl ⟨wd_1322, wd_77⟩ rfl (Nat.le_of_ble_eq_true rfl) ⟨Nat.le_of_ble_eq_true rfl, Nat.le_of_ble_eq_true rfl⟩ (fun b hb => met_R_readLike  hb) (fun r22 hr22 => ?_)
              refine g_goto K (dOf ck_mX12_readLine rfl rfl).1 (t := 106) (aJ_of (by decide +kernel)) ?_
              refine g_sub [1] rfl ?_
              exact lk_R_readLine_106 K _
          · refine gl (i' := 80) (fun _ _ => aw_aload_n K (dOf ck_mX12_readLine rfl rfl) rfl) ?_
            refine g_callVM K [] rfl (dOf ck_mX12_readLine rfl rfl) al_OneBreathModel_212 rfl rfl ⟨wd_1313, wd_74⟩ rfl (Nat.le_of_ble_eq_true rfl) ⟨Nat.le_of_ble_eq_true rfl, Nat.le_of_ble_eq_true rfl⟩ (fun b hb => met_R_readOpen  hb) (fun r23 hr23 => ?_)
            refine g_goto K (dOf ck_mX12_readLine rfl rfl).1 (t := 106) (aJ_of (by decide +kernel)) ?_
            refine g_sub [1] rfl ?_
            exact lk_R_readLine_106 K _
        · refine gl (i' := 72) (fun _ _ => aw_aload_n K (dOf ck_mX12_readLine rfl rfl) rfl) ?_
          refine gl (i' := 73) (fun _ _ => aw_iconst K (n := 2) (i32 _ rfl) (dOf ck_mX12_readLine rfl rfl)) ?_
          refine g_callVM K [.inl _] rfl (dOf ck_mX12_readLine rfl rfl) al_OneBreathModel_172 rfl rfl ⟨wd_1298, wd_69⟩ rfl (Nat.le_of_ble_eq_true rfl) ⟨Nat.le_of_ble_eq_true rfl, Nat.le_of_ble_eq_true rfl⟩ (fun b hb => met_R_fails  hb) (fun r24 hr24 => ?_)
          refine g_goto K (dOf ck_mX12_readLine rfl rfl).1 (t := 106) (aJ_of (by decide +kernel)) ?_
          refine g_sub [1] rfl ?_
          exact lk_R_readLine_106 K _
      · refine gl (i' := 51) (fun _ _ => aw_aload_n K (dOf ck_mX12_readLine rfl rfl) rfl) ?_
        refine gl (i' := 52) (fun _ _ => aw_iconst K (n := 0) (i32 _ rfl) (dOf ck_mX12_readLine rfl rfl)) ?_
        refine gl (i' := 53) (fun _ _ => aw_iconst K (n := 3) (i32 _ rfl) (dOf ck_mX12_readLine rfl rfl)) ?_
        refine g_callVIM K [.inl _, .inl _] rfl (dOf ck_mX12_readLine rfl rfl) al_OneBreathModel_205 rfl rfl ⟨wd_1310, wd_73⟩ rfl (Nat.le_of_ble_eq_true rfl) ⟨Nat.le_of_ble_eq_true rfl, Nat.le_of_ble_eq_true rfl⟩ (fun b hb => met_R_takes  hb) (fun r25 hr25 => ?_)
        refine gl (i' := 55) (fun _ _ => aw_istore_n K (dOf ck_mX12_readLine rfl rfl) (Nat.le_of_ble_eq_true rfl)) ?_
        refine g_lv (lv' := [(2, .inl _), (1, .inl _), (0, .inr (.inr (.inl (some _))))]) rfl ?_
        refine gl (i' := 56) (fun _ _ => aw_aload_n K (dOf ck_mX12_readLine rfl rfl) rfl) ?_
        refine gl (i' := 57) (fun _ _ => aw_getf K (dOf ck_mX12_readLine rfl rfl) rfl rfl (Nat.le_of_ble_eq_true rfl) wd_1216 (k := 11) rfl) ?_
        refine g_if_ne K (dOf ck_mX12_readLine rfl rfl) (t := 68) (aJ_of (by decide +kernel)) (fun h26 => ?_) (fun h26 => ?_)
        · refine gl (i' := 59) (fun _ _ => aw_aload_n K (dOf ck_mX12_readLine rfl rfl) rfl) ?_
          refine gl (i' := 60) (fun _ _ => aw_getf K (dOf ck_mX12_readLine rfl rfl) rfl rfl (Nat.le_of_ble_eq_true rfl) wd_1209 (k := 4) rfl) ?_
          refine gl (i' := 61) (fun _ _ => aw_sip K (dOf ck_mX12_readLine rfl rfl) (v := 140) rfl) ?_
          refine gl (i' := 62) (fun _ _ => aw_dup2_11 K rfl rfl (dOf ck_mX12_readLine rfl rfl)) ?_
          refine gl (i' := 63) (fun _ _ => aw_iald K (dOf ck_mX12_readLine rfl rfl) rfl (by decide)) ?_
          refine gl (i' := 64) (fun _ _ => aw_iconst K (n := 1) (i32 _ rfl) (dOf ck_mX12_readLine rfl rfl)) ?_
          refine gl (i' := 65) (fun _ _ => aw_iload_n K (dOf ck_mX12_readLine rfl rfl) rfl) ?_
          refine gl (i' := 66) (fun _ _ => aw_ishl K (dOf ck_mX12_readLine rfl rfl)) ?_
          refine gl (i' := 67) (fun _ _ => aw_ior K (dOf ck_mX12_readLine rfl rfl)) ?_
          refine g_st1 ?_
          refine gl (i' := 68) (fun _ _ => aw_iast K (dOf ck_mX12_readLine rfl rfl) rfl (by decide)) ?_
          refine g_sub [2] rfl ?_
          exact lk_R_readLine_68 K _
        · refine g_sub [2] rfl ?_
          exact lk_R_readLine_68 K _
    · refine gl (i' := 21) (fun _ _ => aw_aload_n K (dOf ck_mX12_readLine rfl rfl) rfl) ?_
      refine gl (i' := 22) (fun _ _ => aw_iconst K (n := 0) (i32 _ rfl) (dOf ck_mX12_readLine rfl rfl)) ?_
      refine gl (i' := 23) (fun _ _ => aw_iconst K (n := 3) (i32 _ rfl) (dOf ck_mX12_readLine rfl rfl)) ?_
      refine g_callVIM K [.inl _, .inl _] rfl (dOf ck_mX12_readLine rfl rfl) al_OneBreathModel_205 rfl rfl ⟨wd_1310, wd_73⟩ rfl (Nat.le_of_ble_eq_true rfl) ⟨Nat.le_of_ble_eq_true rfl, Nat.le_of_ble_eq_true rfl⟩ (fun b hb => met_R_takes  hb) (fun r28 hr28 => ?_)
      refine gl (i' := 25) (fun _ _ => aw_istore_n K (dOf ck_mX12_readLine rfl rfl) (Nat.le_of_ble_eq_true rfl)) ?_
      refine g_lv (lv' := [(2, .inl _), (1, .inl _), (0, .inr (.inr (.inl (some _))))]) rfl ?_
      refine gl (i' := 26) (fun _ _ => aw_aload_n K (dOf ck_mX12_readLine rfl rfl) rfl) ?_
      refine gl (i' := 27) (fun _ _ => aw_iconst K (n := 0) (i32 _ rfl) (dOf ck_mX12_readLine rfl rfl)) ?_
      refine gl (i' := 28) (fun _ _ => aw_iconst K (n := 3) (i32 _ rfl) (dOf ck_mX12_readLine rfl rfl)) ?_
      refine g_callVIM K [.inl _, .inl _] rfl (dOf ck_mX12_readLine rfl rfl) al_OneBreathModel_205 rfl rfl ⟨wd_1310, wd_73⟩ rfl (Nat.le_of_ble_eq_true rfl) ⟨Nat.le_of_ble_eq_true rfl, Nat.le_of_ble_eq_true rfl⟩ (fun b hb => met_R_takes  hb) (fun r29 hr29 => ?_)
      refine gl (i' := 30) (fun _ _ => aw_istore_n K (dOf ck_mX12_readLine rfl rfl) (Nat.le_of_ble_eq_true rfl)) ?_
      refine g_lv (lv' := [(3, .inl _), (2, .inl _), (1, .inl _), (0, .inr (.inr (.inl (some _))))]) rfl ?_
      refine gl (i' := 31) (fun _ _ => aw_aload_n K (dOf ck_mX12_readLine rfl rfl) rfl) ?_
      refine gl (i' := 32) (fun _ _ => aw_getf K (dOf ck_mX12_readLine rfl rfl) rfl rfl (Nat.le_of_ble_eq_true rfl) wd_1216 (k := 11) rfl) ?_
      refine g_if_ne K (dOf ck_mX12_readLine rfl rfl) (t := 45) (aJ_of (by decide +kernel)) (fun h30 => ?_) (fun h30 => ?_)
      · refine gl (i' := 34) (fun _ _ => aw_aload_n K (dOf ck_mX12_readLine rfl rfl) rfl) ?_
        refine gl (i' := 35) (fun _ _ => aw_getf K (dOf ck_mX12_readLine rfl rfl) rfl rfl (Nat.le_of_ble_eq_true rfl) wd_1209 (k := 4) rfl) ?_
        refine gl (i' := 36) (fun _ _ => aw_sip K (dOf ck_mX12_readLine rfl rfl) (v := 136) rfl) ?_
        refine gl (i' := 37) (fun _ _ => aw_iload_n K (dOf ck_mX12_readLine rfl rfl) rfl) ?_
        refine gl (i' := 38) (fun _ _ => aw_iadd K (dOf ck_mX12_readLine rfl rfl)) ?_
        refine gl (i' := 39) (fun _ _ => aw_dup2_11 K rfl rfl (dOf ck_mX12_readLine rfl rfl)) ?_
        refine g_gd (fun hb31 => ?_)
        refine gl (i' := 40) (fun _ _ => aw_iald K (dOf ck_mX12_readLine rfl rfl) rfl hb31) ?_
        refine gl (i' := 41) (fun _ _ => aw_iconst K (n := 1) (i32 _ rfl) (dOf ck_mX12_readLine rfl rfl)) ?_
        refine gl (i' := 42) (fun _ _ => aw_iload_n K (dOf ck_mX12_readLine rfl rfl) rfl) ?_
        refine gl (i' := 43) (fun _ _ => aw_ishl K (dOf ck_mX12_readLine rfl rfl)) ?_
        refine gl (i' := 44) (fun _ _ => aw_ior K (dOf ck_mX12_readLine rfl rfl)) ?_
        refine g_st1 ?_
        refine gl (i' := 45) (fun _ _ => aw_iast K (dOf ck_mX12_readLine rfl rfl) rfl hb31) ?_
        refine g_sub [3] rfl ?_
        exact lk_R_readLine_45 K _
      · refine g_sub [3] rfl ?_
        exact lk_R_readLine_45 K _
  · refine gl (i' := 14) (fun _ _ => aw_aload_n K (dOf ck_mX12_readLine rfl rfl) rfl) ?_
    refine g_callVM K [] rfl (dOf ck_mX12_readLine rfl rfl) al_OneBreathModel_209 rfl rfl ⟨wd_1295, wd_68⟩ rfl (Nat.le_of_ble_eq_true rfl) ⟨Nat.le_of_ble_eq_true rfl, Nat.le_of_ble_eq_true rfl⟩ (fun b hb => met_R_readSounds  hb) (fun r33 hr33 => ?_)
    refine g_goto K (dOf ck_mX12_readLine rfl rfl).1 (t := 106) (aJ_of (by decide +kernel)) ?_
    refine g_sub [1] rfl ?_
    exact lk_R_readLine_106 K _
def R_readLine  (mm : aM) : Option aM := if (mm 180 0) = 0 then (R_readLine_8 1 mm) else (R_readLine_8 0 mm)
set_option maxHeartbeats 4000000 in
theorem met_R_readLine {l : Launch} {D : va_G} {cA : FieldType → ClassId} {ad adV : Nat → Nat} {z0 : Nat}  {mm : aM}  {r : aM} (h : R_readLine  mm = some r) : aMet l D cA ad adV z0 mX12_readLine 9 192 0 0 [.inr (.inr (.inl (some 176)))] SH mm (rM r).1 SH (rM r).2 := by
  refine aMet_ofG (by decide +kernel) rfl (Nat.le_of_ble_eq_true rfl) h (fun p e s m args below meth c al0 K => ?_)
  unfold R_readLine
  refine gl (i' := 1) (fun _ _ => aw_aload_n K (dOf ck_mX12_readLine rfl rfl) rfl) ?_
  refine gl (i' := 2) (fun _ _ => aw_getf K (dOf ck_mX12_readLine rfl rfl) rfl rfl (Nat.le_of_ble_eq_true rfl) wd_1209 (k := 4) rfl) ?_
  refine gl (i' := 3) (fun _ _ => aw_iconst K (n := 0) (i32 _ rfl) (dOf ck_mX12_readLine rfl rfl)) ?_
  refine gl (i' := 4) (fun _ _ => aw_iald K (dOf ck_mX12_readLine rfl rfl) rfl (by decide)) ?_
  refine g_if_ne K (dOf ck_mX12_readLine rfl rfl) (t := 7) (aJ_of (by decide +kernel)) (fun h1 => ?_) (fun h1 => ?_)
  · refine gl (i' := 6) (fun _ _ => aw_iconst K (n := 1) (i32 _ rfl) (dOf ck_mX12_readLine rfl rfl)) ?_
    refine g_goto K (dOf ck_mX12_readLine rfl rfl).1 (t := 8) (aJ_of (by decide +kernel)) ?_
    refine g_sub [0] rfl ?_
    exact lk_R_readLine_8 K _ _
  · refine gl (i' := 8) (fun _ _ => aw_iconst K (n := 0) (i32 _ rfl) (dOf ck_mX12_readLine rfl rfl)) ?_
    refine g_sub [0] rfl ?_
    exact lk_R_readLine_8 K _ _
def R_tongue_72  : Nat → Int → aM → Option (Int × aM)
  | 0, _, _ => none
  | n + 1, x2, mm => if x2 < 155 then (if 0 ≤ x2 ∧ x2 < 155 then (if 0 ≤ x2 ∧ x2 < 588 then (st1 (aup mm 177 x2.toNat (mm 180 x2.toNat)) fun mm19 => (R_tongue_72 n (w32 (x2 + 1)) mm19)) else none) else none) else (st1 (aup mm 177 155 0) fun mm16 => (some (mm16 177 154, mm16)))
set_option maxHeartbeats 4000000 in
theorem lk_R_tongue_72 {p : Program} {l : Launch} {e : Env} {s : State} {m : MethodId} {args : Array Value} {below : List Frame} {meth : Method} {c : Code} {D : va_G} {cA : FieldType → ClassId} {ad adV : Nat → Nat} {z0 : Nat} {al0 : List Nat} (K : aK p s m args meth c mX12_tongue D cA ad adV z0)   : ∀ (n : Nat) (x2 : Int) (mm : aM), aG p l e { frames := 10, cells := 0, slots := 0, locals := 215 } s m args below meth c D cA ad z0 mX12_tongue al0 rIM (R_tongue_72 n x2 mm) 72 [(0, .inr (.inr (.inl (some 176)))), (2, .inl x2)] [] mm := by
  intro n
  induction n with
  | zero => intro x2 mm; exact g_none
  | succ n ih =>
    intro x2 mm
    rw [R_tongue_72]
    refine gl (i' := 73) (fun _ _ => aw_iload_n K (dOf ck_mX12_tongue rfl rfl) rfl) ?_
    refine gl (i' := 74) (fun _ _ => aw_sip K (dOf ck_mX12_tongue rfl rfl) (v := 155) rfl) ?_
    refine g_icmp_ge K (dOf ck_mX12_tongue rfl rfl) (t := 85) (aJ_of (by decide +kernel)) (fun h15 => ?_) (fun h15 => ?_)
    · refine gl (i' := 76) (fun _ _ => aw_aload_n K (dOf ck_mX12_tongue rfl rfl) rfl) ?_
      refine gl (i' := 77) (fun _ _ => aw_getf K (dOf ck_mX12_tongue rfl rfl) rfl rfl (Nat.le_of_ble_eq_true rfl) wd_1206 (k := 1) rfl) ?_
      refine gl (i' := 78) (fun _ _ => aw_iload_n K (dOf ck_mX12_tongue rfl rfl) rfl) ?_
      refine gl (i' := 79) (fun _ _ => aw_aload_n K (dOf ck_mX12_tongue rfl rfl) rfl) ?_
      refine gl (i' := 80) (fun _ _ => aw_getf K (dOf ck_mX12_tongue rfl rfl) rfl rfl (Nat.le_of_ble_eq_true rfl) wd_1209 (k := 4) rfl) ?_
      refine gl (i' := 81) (fun _ _ => aw_iload_n K (dOf ck_mX12_tongue rfl rfl) rfl) ?_
      refine g_gd (fun hb17 => ?_)
      refine gl (i' := 82) (fun _ _ => aw_iald K (dOf ck_mX12_tongue rfl rfl) rfl hb17) ?_
      refine g_gd (fun hb18 => ?_)
      refine g_st1 ?_
      refine gl (i' := 83) (fun _ _ => aw_iast K (dOf ck_mX12_tongue rfl rfl) rfl hb18) ?_
      refine gl (i' := 84) (fun _ _ => aw_iinc K (dOf ck_mX12_tongue rfl rfl) (Nat.le_of_ble_eq_true rfl) rfl) ?_
      refine g_lv (lv' := [(2, .inl _), (0, .inr (.inr (.inl (some _))))]) rfl ?_
      refine g_goto K (dOf ck_mX12_tongue rfl rfl).1 (t := 72) (aJ_of (by decide +kernel)) ?_
      refine g_sub [1, 0] rfl ?_
      exact ih _ _
    · refine gl (i' := 86) (fun _ _ => aw_aload_n K (dOf ck_mX12_tongue rfl rfl) rfl) ?_
      refine gl (i' := 87) (fun _ _ => aw_getf K (dOf ck_mX12_tongue rfl rfl) rfl rfl (Nat.le_of_ble_eq_true rfl) wd_1206 (k := 1) rfl) ?_
      refine gl (i' := 88) (fun _ _ => aw_sip K (dOf ck_mX12_tongue rfl rfl) (v := 155) rfl) ?_
      refine gl (i' := 89) (fun _ _ => aw_iconst K (n := 0) (i32 _ rfl) (dOf ck_mX12_tongue rfl rfl)) ?_
      refine g_st1 ?_
      refine gl (i' := 90) (fun _ _ => aw_iast K (dOf ck_mX12_tongue rfl rfl) rfl (by decide)) ?_
      refine gl (i' := 91) (fun _ _ => aw_aload_n K (dOf ck_mX12_tongue rfl rfl) rfl) ?_
      refine gl (i' := 92) (fun _ _ => aw_getf K (dOf ck_mX12_tongue rfl rfl) rfl rfl (Nat.le_of_ble_eq_true rfl) wd_1206 (k := 1) rfl) ?_
      refine gl (i' := 93) (fun _ _ => aw_sip K (dOf ck_mX12_tongue rfl rfl) (v := 154) rfl) ?_
      refine gl (i' := 94) (fun _ _ => aw_iald K (dOf ck_mX12_tongue rfl rfl) rfl (by decide)) ?_
      exact g_iret K (by decide +kernel) rfl (Or.inl rfl) rfl
def R_tongue_61 (s0 : Int) (mm : aM) : Option (Int × aM) := st1 (aup mm 176 14 s0) fun mm13 => (if (mm13 176 11) = 0 then (R_tongue_72 FU 0 mm13) else (some (w32 ((-30) - (mm13 176 11)), mm13)))
set_option maxHeartbeats 4000000 in
theorem lk_R_tongue_61 {p : Program} {l : Launch} {e : Env} {s : State} {m : MethodId} {args : Array Value} {below : List Frame} {meth : Method} {c : Code} {D : va_G} {cA : FieldType → ClassId} {ad adV : Nat → Nat} {z0 : Nat} {al0 : List Nat} (K : aK p s m args meth c mX12_tongue D cA ad adV z0)   (s0 : Int) (mm : aM) : aG p l e { frames := 10, cells := 0, slots := 0, locals := 215 } s m args below meth c D cA ad z0 mX12_tongue al0 rIM (R_tongue_61 s0 mm) 61 [(0, .inr (.inr (.inl (some 176))))] [.inl s0, .inr (.inr (.inl (some 176)))] mm := by
  unfold R_tongue_61
  refine g_st1 ?_
  refine gl (i' := 62) (fun _ _ => aw_putf K (dOf ck_mX12_tongue rfl rfl) rfl rfl (Nat.le_of_ble_eq_true rfl) wd_1219 (k := 14) rfl rfl (Or.inl rfl)) ?_
  refine gl (i' := 63) (fun _ _ => aw_aload_n K (dOf ck_mX12_tongue rfl rfl) rfl) ?_
  refine gl (i' := 64) (fun _ _ => aw_getf K (dOf ck_mX12_tongue rfl rfl) rfl rfl (Nat.le_of_ble_eq_true rfl) wd_1216 (k := 11) rfl) ?_
  refine g_if_eq K (dOf ck_mX12_tongue rfl rfl) (t := 70) (aJ_of (by decide +kernel)) (fun h14 => ?_) (fun h14 => ?_)
  · refine gl (i' := 71) (fun _ _ => aw_iconst K (n := 0) (i32 _ rfl) (dOf ck_mX12_tongue rfl rfl)) ?_
    refine gl (i' := 72) (fun _ _ => aw_istore_n K (dOf ck_mX12_tongue rfl rfl) (Nat.le_of_ble_eq_true rfl)) ?_
    refine g_lv (lv' := [(2, .inl _), (0, .inr (.inr (.inl (some _))))]) rfl ?_
    refine g_sub [1, 0] rfl ?_
    exact lk_R_tongue_72 K FU _ _
  · refine gl (i' := 66) (fun _ _ => aw_bip K (dOf ck_mX12_tongue rfl rfl) (v := -30) rfl) ?_
    refine gl (i' := 67) (fun _ _ => aw_aload_n K (dOf ck_mX12_tongue rfl rfl) rfl) ?_
    refine gl (i' := 68) (fun _ _ => aw_getf K (dOf ck_mX12_tongue rfl rfl) rfl rfl (Nat.le_of_ble_eq_true rfl) wd_1216 (k := 11) rfl) ?_
    refine gl (i' := 69) (fun _ _ => aw_isub K (dOf ck_mX12_tongue rfl rfl)) ?_
    exact g_iret K (dOf ck_mX12_tongue rfl rfl).1 rfl (Or.inl rfl) rfl
def R_tongue_49 (mm : aM) : Option (Int × aM) := st1 (aup mm 176 13 (mm 176 11)) fun mm11 => (if (mm11 176 11) = 0 then (R_tongue_61 (-1) mm11) else (R_tongue_61 (mm11 176 12) mm11))
set_option maxHeartbeats 4000000 in
theorem lk_R_tongue_49 {p : Program} {l : Launch} {e : Env} {s : State} {m : MethodId} {args : Array Value} {below : List Frame} {meth : Method} {c : Code} {D : va_G} {cA : FieldType → ClassId} {ad adV : Nat → Nat} {z0 : Nat} {al0 : List Nat} (K : aK p s m args meth c mX12_tongue D cA ad adV z0)   (mm : aM) : aG p l e { frames := 10, cells := 0, slots := 0, locals := 215 } s m args below meth c D cA ad z0 mX12_tongue al0 rIM (R_tongue_49 mm) 49 [(0, .inr (.inr (.inl (some 176))))] [] mm := by
  unfold R_tongue_49
  refine gl (i' := 50) (fun _ _ => aw_aload_n K (dOf ck_mX12_tongue rfl rfl) rfl) ?_
  refine gl (i' := 51) (fun _ _ => aw_aload_n K (dOf ck_mX12_tongue rfl rfl) rfl) ?_
  refine gl (i' := 52) (fun _ _ => aw_getf K (dOf ck_mX12_tongue rfl rfl) rfl rfl (Nat.le_of_ble_eq_true rfl) wd_1216 (k := 11) rfl) ?_
  refine g_st1 ?_
  refine gl (i' := 53) (fun _ _ => aw_putf K (dOf ck_mX12_tongue rfl rfl) rfl rfl (Nat.le_of_ble_eq_true rfl) wd_1218 (k := 13) rfl rfl (Or.inl rfl)) ?_
  refine gl (i' := 54) (fun _ _ => aw_aload_n K (dOf ck_mX12_tongue rfl rfl) rfl) ?_
  refine gl (i' := 55) (fun _ _ => aw_aload_n K (dOf ck_mX12_tongue rfl rfl) rfl) ?_
  refine gl (i' := 56) (fun _ _ => aw_getf K (dOf ck_mX12_tongue rfl rfl) rfl rfl (Nat.le_of_ble_eq_true rfl) wd_1216 (k := 11) rfl) ?_
  refine g_if_ne K (dOf ck_mX12_tongue rfl rfl) (t := 59) (aJ_of (by decide +kernel)) (fun h12 => ?_) (fun h12 => ?_)
  · refine gl (i' := 58) (fun _ _ => aw_iconst K (n := -1) (i32 _ rfl) (dOf ck_mX12_tongue rfl rfl)) ?_
    refine g_goto K (dOf ck_mX12_tongue rfl rfl).1 (t := 61) (aJ_of (by decide +kernel)) ?_
    refine g_sub [0] rfl ?_
    exact lk_R_tongue_61 K _ _
  · refine gl (i' := 60) (fun _ _ => aw_aload_n K (dOf ck_mX12_tongue rfl rfl) rfl) ?_
    refine gl (i' := 61) (fun _ _ => aw_getf K (dOf ck_mX12_tongue rfl rfl) rfl rfl (Nat.le_of_ble_eq_true rfl) wd_1217 (k := 12) rfl) ?_
    refine g_sub [0] rfl ?_
    exact lk_R_tongue_61 K _ _
def R_tongue_39  : Nat → aM → Option (Int × aM)
  | 0, _ => none
  | n + 1, mm => if (mm 176 11) = 0 then (if (mm 176 9) = 12 then (R_tongue_49 mm) else ((R_readLine mm).bind fun r21 => (R_tongue_39 n r21))) else (R_tongue_49 mm)
set_option maxHeartbeats 4000000 in
theorem lk_R_tongue_39 {p : Program} {l : Launch} {e : Env} {s : State} {m : MethodId} {args : Array Value} {below : List Frame} {meth : Method} {c : Code} {D : va_G} {cA : FieldType → ClassId} {ad adV : Nat → Nat} {z0 : Nat} {al0 : List Nat} (K : aK p s m args meth c mX12_tongue D cA ad adV z0)   : ∀ (n : Nat) (mm : aM), aG p l e { frames := 10, cells := 0, slots := 0, locals := 215 } s m args below meth c D cA ad z0 mX12_tongue al0 rIM (R_tongue_39 n mm) 39 [(0, .inr (.inr (.inl (some 176))))] [] mm := by
  intro n
  induction n with
  | zero => intro mm; exact g_none
  | succ n ih =>
    intro mm
    rw [R_tongue_39]
    refine gl (i' := 40) (fun _ _ => aw_aload_n K (dOf ck_mX12_tongue rfl rfl) rfl) ?_
    refine gl (i' := 41) (fun _ _ => aw_getf K (dOf ck_mX12_tongue rfl rfl) rfl rfl (Nat.le_of_ble_eq_true rfl) wd_1216 (k := 11) rfl) ?_
    refine g_if_ne K (dOf ck_mX12_tongue rfl rfl) (t := 49) (aJ_of (by decide +kernel)) (fun h10 => ?_) (fun h10 => ?_)
    · refine gl (i' := 43) (fun _ _ => aw_aload_n K (dOf ck_mX12_tongue rfl rfl) rfl) ?_
      refine gl (i' := 44) (fun _ _ => aw_getf K (dOf ck_mX12_tongue rfl rfl) rfl rfl (Nat.le_of_ble_eq_true rfl) wd_1214 (k := 9) rfl) ?_
      refine gl (i' := 45) (fun _ _ => aw_bip K (dOf ck_mX12_tongue rfl rfl) (v := 12) rfl) ?_
      refine g_icmp_eq K (dOf ck_mX12_tongue rfl rfl) (t := 49) (aJ_of (by decide +kernel)) (fun h20 => ?_) (fun h20 => ?_)
      · refine g_sub [0] rfl ?_
        exact lk_R_tongue_49 K _
      · refine gl (i' := 47) (fun _ _ => aw_aload_n K (dOf ck_mX12_tongue rfl rfl) rfl) ?_
        refine g_callVM K [] rfl (dOf ck_mX12_tongue rfl rfl) al_OneBreathModel_224 rfl rfl ⟨wd_1289, wd_66⟩ rfl (Nat.le_of_ble_eq_true rfl) ⟨Nat.le_of_ble_eq_true rfl, Nat.le_of_ble_eq_true rfl⟩ (fun b hb => met_R_readLine  hb) (fun r21 hr21 => ?_)
        refine g_goto K (dOf ck_mX12_tongue rfl rfl).1 (t := 39) (aJ_of (by decide +kernel)) ?_
        refine g_sub [0] rfl ?_
        exact ih _
    · refine g_sub [0] rfl ?_
      exact lk_R_tongue_49 K _
def R_tongue_27  : Nat → Int → aM → Option (Int × aM)
  | 0, _, _ => none
  | n + 1, x2, mm => if x2 < 155 then (if 0 ≤ x2 ∧ x2 < 155 then (st1 (aup mm 180 x2.toNat 0) fun mm23 => (R_tongue_27 n (w32 (x2 + 1)) mm23)) else none) else ((R_next mm).bind fun r9 => (R_tongue_39 FU r9))
set_option maxHeartbeats 4000000 in
theorem lk_R_tongue_27 {p : Program} {l : Launch} {e : Env} {s : State} {m : MethodId} {args : Array Value} {below : List Frame} {meth : Method} {c : Code} {D : va_G} {cA : FieldType → ClassId} {ad adV : Nat → Nat} {z0 : Nat} {al0 : List Nat} (K : aK p s m args meth c mX12_tongue D cA ad adV z0)   : ∀ (n : Nat) (x2 : Int) (mm : aM), aG p l e { frames := 10, cells := 0, slots := 0, locals := 215 } s m args below meth c D cA ad z0 mX12_tongue al0 rIM (R_tongue_27 n x2 mm) 27 [(0, .inr (.inr (.inl (some 176)))), (2, .inl x2)] [] mm := by
  intro n
  induction n with
  | zero => intro x2 mm; exact g_none
  | succ n ih =>
    intro x2 mm
    rw [R_tongue_27]
    refine gl (i' := 28) (fun _ _ => aw_iload_n K (dOf ck_mX12_tongue rfl rfl) rfl) ?_
    refine gl (i' := 29) (fun _ _ => aw_sip K (dOf ck_mX12_tongue rfl rfl) (v := 155) rfl) ?_
    refine g_icmp_ge K (dOf ck_mX12_tongue rfl rfl) (t := 37) (aJ_of (by decide +kernel)) (fun h8 => ?_) (fun h8 => ?_)
    · refine gl (i' := 31) (fun _ _ => aw_aload_n K (dOf ck_mX12_tongue rfl rfl) rfl) ?_
      refine gl (i' := 32) (fun _ _ => aw_getf K (dOf ck_mX12_tongue rfl rfl) rfl rfl (Nat.le_of_ble_eq_true rfl) wd_1209 (k := 4) rfl) ?_
      refine gl (i' := 33) (fun _ _ => aw_iload_n K (dOf ck_mX12_tongue rfl rfl) rfl) ?_
      refine gl (i' := 34) (fun _ _ => aw_iconst K (n := 0) (i32 _ rfl) (dOf ck_mX12_tongue rfl rfl)) ?_
      refine g_gd (fun hb22 => ?_)
      refine g_st1 ?_
      refine gl (i' := 35) (fun _ _ => aw_iast K (dOf ck_mX12_tongue rfl rfl) rfl hb22) ?_
      refine gl (i' := 36) (fun _ _ => aw_iinc K (dOf ck_mX12_tongue rfl rfl) (Nat.le_of_ble_eq_true rfl) rfl) ?_
      refine g_lv (lv' := [(2, .inl _), (0, .inr (.inr (.inl (some _))))]) rfl ?_
      refine g_goto K (dOf ck_mX12_tongue rfl rfl).1 (t := 27) (aJ_of (by decide +kernel)) ?_
      refine g_sub [1, 0] rfl ?_
      exact ih _ _
    · refine gl (i' := 38) (fun _ _ => aw_aload_n K (dOf ck_mX12_tongue rfl rfl) rfl) ?_
      refine g_callVM K [] rfl (dOf ck_mX12_tongue rfl rfl) al_OneBreathModel_166 rfl rfl ⟨wd_1272, wd_63⟩ rfl (Nat.le_of_ble_eq_true rfl) ⟨Nat.le_of_ble_eq_true rfl, Nat.le_of_ble_eq_true rfl⟩ (fun b hb => met_R_next  hb) (fun r9 hr9 => ?_)
      refine g_sub [0] rfl ?_
      exact lk_R_tongue_39 K FU _
def R_tongue (x1 : Int) (mm : aM) : Option (Int × aM) := st1 (aup mm 176 0 0) fun mm1 => ((R_within x1 0 (mm1 176 5) mm1).bind fun r2 => (if r2 = 0 then (some ((-3), mm1)) else (st1 (aup mm1 176 8 x1) fun mm4 => (st1 (aup mm4 176 5 0) fun mm5 => (st1 (aup mm5 176 7 0) fun mm6 => (st1 (aup mm6 176 11 0) fun mm7 => (R_tongue_27 FU 0 mm7)))))))
set_option maxHeartbeats 4000000 in
theorem met_R_tongue {l : Launch} {D : va_G} {cA : FieldType → ClassId} {ad adV : Nat → Nat} {z0 : Nat} {x1 : Int} {mm : aM}  {r : Int × aM} (h : R_tongue x1 mm = some r) : aMet l D cA ad adV z0 mX12_tongue 10 215 0 0 [.inr (.inr (.inl (some 176))), .inl x1] SH mm (rIM r).1 SH (rIM r).2 := by
  refine aMet_ofG (by decide +kernel) rfl (Nat.le_of_ble_eq_true rfl) h (fun p e s m args below meth c al0 K => ?_)
  unfold R_tongue
  refine gl (i' := 1) (fun _ _ => aw_aload_n K (dOf ck_mX12_tongue rfl rfl) rfl) ?_
  refine gl (i' := 2) (fun _ _ => aw_iconst K (n := 0) (i32 _ rfl) (dOf ck_mX12_tongue rfl rfl)) ?_
  refine g_st1 ?_
  refine gl (i' := 3) (fun _ _ => aw_putf K (dOf ck_mX12_tongue rfl rfl) rfl rfl (Nat.le_of_ble_eq_true rfl) wd_1205 (k := 0) rfl rfl (Or.inl rfl)) ?_
  refine gl (i' := 4) (fun _ _ => aw_iload_n K (dOf ck_mX12_tongue rfl rfl) rfl) ?_
  refine gl (i' := 5) (fun _ _ => aw_i2l K (dOf ck_mX12_tongue rfl rfl)) ?_
  refine gl (i' := 6) (fun _ _ => aw_lcn K (dOf ck_mX12_tongue rfl rfl) (v := 0) rfl) ?_
  refine gl (i' := 7) (fun _ _ => aw_aload_n K (dOf ck_mX12_tongue rfl rfl) rfl) ?_
  refine gl (i' := 8) (fun _ _ => aw_getf K (dOf ck_mX12_tongue rfl rfl) rfl rfl (Nat.le_of_ble_eq_true rfl) wd_1210 (k := 5) rfl) ?_
  refine gl (i' := 9) (fun _ _ => aw_i2l K (dOf ck_mX12_tongue rfl rfl)) ?_
  refine g_callSI K [.inr (.inl _), .inr (.inl _), .inr (.inl _)] rfl (dOf ck_mX12_tongue rfl rfl) al_OneBreathModel_176 wd_1269 rfl (Nat.le_of_ble_eq_true rfl) ⟨Nat.le_of_ble_eq_true rfl, Nat.le_of_ble_eq_true rfl⟩ (fun b hb => met_R_within  hb) (fun r2 hr2 => ?_)
  refine g_if_ne K (dOf ck_mX12_tongue rfl rfl) (t := 13) (aJ_of (by decide +kernel)) (fun h3 => ?_) (fun h3 => ?_)
  · refine gl (i' := 12) (fun _ _ => aw_bip K (dOf ck_mX12_tongue rfl rfl) (v := -3) rfl) ?_
    exact g_iret K (dOf ck_mX12_tongue rfl rfl).1 rfl (Or.inl rfl) rfl
  · refine gl (i' := 14) (fun _ _ => aw_aload_n K (dOf ck_mX12_tongue rfl rfl) rfl) ?_
    refine gl (i' := 15) (fun _ _ => aw_iload_n K (dOf ck_mX12_tongue rfl rfl) rfl) ?_
    refine g_st1 ?_
    refine gl (i' := 16) (fun _ _ => aw_putf K (dOf ck_mX12_tongue rfl rfl) rfl rfl (Nat.le_of_ble_eq_true rfl) wd_1213 (k := 8) rfl rfl (Or.inl rfl)) ?_
    refine gl (i' := 17) (fun _ _ => aw_aload_n K (dOf ck_mX12_tongue rfl rfl) rfl) ?_
    refine gl (i' := 18) (fun _ _ => aw_iconst K (n := 0) (i32 _ rfl) (dOf ck_mX12_tongue rfl rfl)) ?_
    refine g_st1 ?_
    refine gl (i' := 19) (fun _ _ => aw_putf K (dOf ck_mX12_tongue rfl rfl) rfl rfl (Nat.le_of_ble_eq_true rfl) wd_1210 (k := 5) rfl rfl (Or.inl rfl)) ?_
    refine gl (i' := 20) (fun _ _ => aw_aload_n K (dOf ck_mX12_tongue rfl rfl) rfl) ?_
    refine gl (i' := 21) (fun _ _ => aw_iconst K (n := 0) (i32 _ rfl) (dOf ck_mX12_tongue rfl rfl)) ?_
    refine g_st1 ?_
    refine gl (i' := 22) (fun _ _ => aw_putf K (dOf ck_mX12_tongue rfl rfl) rfl rfl (Nat.le_of_ble_eq_true rfl) wd_1212 (k := 7) rfl rfl (Or.inl rfl)) ?_
    refine gl (i' := 23) (fun _ _ => aw_aload_n K (dOf ck_mX12_tongue rfl rfl) rfl) ?_
    refine gl (i' := 24) (fun _ _ => aw_iconst K (n := 0) (i32 _ rfl) (dOf ck_mX12_tongue rfl rfl)) ?_
    refine g_st1 ?_
    refine gl (i' := 25) (fun _ _ => aw_putf K (dOf ck_mX12_tongue rfl rfl) rfl rfl (Nat.le_of_ble_eq_true rfl) wd_1216 (k := 11) rfl rfl (Or.inl rfl)) ?_
    refine gl (i' := 26) (fun _ _ => aw_iconst K (n := 0) (i32 _ rfl) (dOf ck_mX12_tongue rfl rfl)) ?_
    refine gl (i' := 27) (fun _ _ => aw_istore_n K (dOf ck_mX12_tongue rfl rfl) (Nat.le_of_ble_eq_true rfl)) ?_
    refine g_lv (lv' := [(2, .inl _), (0, .inr (.inr (.inl (some _)))), (1, .inl _)]) rfl ?_
    refine g_sub [1, 0] rfl ?_
    exact lk_R_tongue_27 K FU _ _
def R_fault (x1 : Int) (mm : aM) : Option (Int × aM) := st1 (aup mm 176 0 0) fun mm1 => (if x1 = 0 then (some (mm1 176 13, mm1)) else (if x1 = 1 then (some (mm1 176 14, mm1)) else (some ((-1), mm1))))
set_option maxHeartbeats 4000000 in
theorem met_R_fault {l : Launch} {D : va_G} {cA : FieldType → ClassId} {ad adV : Nat → Nat} {z0 : Nat} {x1 : Int} {mm : aM}  {r : Int × aM} (h : R_fault x1 mm = some r) : aMet l D cA ad adV z0 mX12_fault 0 0 0 0 [.inr (.inr (.inl (some 176))), .inl x1] SH mm (rIM r).1 SH (rIM r).2 := by
  refine aMet_ofG (by decide +kernel) rfl (Nat.le_of_ble_eq_true rfl) h (fun p e s m args below meth c al0 K => ?_)
  unfold R_fault
  refine gl (i' := 1) (fun _ _ => aw_aload_n K (dOf ck_mX12_fault rfl rfl) rfl) ?_
  refine gl (i' := 2) (fun _ _ => aw_iconst K (n := 0) (i32 _ rfl) (dOf ck_mX12_fault rfl rfl)) ?_
  refine g_st1 ?_
  refine gl (i' := 3) (fun _ _ => aw_putf K (dOf ck_mX12_fault rfl rfl) rfl rfl (Nat.le_of_ble_eq_true rfl) wd_1205 (k := 0) rfl rfl (Or.inl rfl)) ?_
  refine gl (i' := 4) (fun _ _ => aw_iload_n K (dOf ck_mX12_fault rfl rfl) rfl) ?_
  refine g_if_ne K (dOf ck_mX12_fault rfl rfl) (t := 8) (aJ_of (by decide +kernel)) (fun h2 => ?_) (fun h2 => ?_)
  · refine gl (i' := 6) (fun _ _ => aw_aload_n K (dOf ck_mX12_fault rfl rfl) rfl) ?_
    refine gl (i' := 7) (fun _ _ => aw_getf K (dOf ck_mX12_fault rfl rfl) rfl rfl (Nat.le_of_ble_eq_true rfl) wd_1218 (k := 13) rfl) ?_
    refine g_goto K (dOf ck_mX12_fault rfl rfl).1 (t := 15) (aJ_of (by decide +kernel)) ?_
    exact g_iret K (by decide +kernel) rfl (Or.inl rfl) rfl
  · refine gl (i' := 9) (fun _ _ => aw_iload_n K (dOf ck_mX12_fault rfl rfl) rfl) ?_
    refine gl (i' := 10) (fun _ _ => aw_iconst K (n := 1) (i32 _ rfl) (dOf ck_mX12_fault rfl rfl)) ?_
    refine g_icmp_ne K (dOf ck_mX12_fault rfl rfl) (t := 14) (aJ_of (by decide +kernel)) (fun h3 => ?_) (fun h3 => ?_)
    · refine gl (i' := 12) (fun _ _ => aw_aload_n K (dOf ck_mX12_fault rfl rfl) rfl) ?_
      refine gl (i' := 13) (fun _ _ => aw_getf K (dOf ck_mX12_fault rfl rfl) rfl rfl (Nat.le_of_ble_eq_true rfl) wd_1219 (k := 14) rfl) ?_
      refine g_goto K (dOf ck_mX12_fault rfl rfl).1 (t := 15) (aJ_of (by decide +kernel)) ?_
      exact g_iret K (by decide +kernel) rfl (Or.inl rfl) rfl
    · refine gl (i' := 15) (fun _ _ => aw_iconst K (n := -1) (i32 _ rfl) (dOf ck_mX12_fault rfl rfl)) ?_
      exact g_iret K (by decide +kernel) rfl (Or.inl rfl) rfl
def R_sound (x1 : Int) (x2 : Int) (mm : aM) : Option (Int × aM) := st1 (aup mm 176 0 0) fun mm1 => ((R_within x1 0 (w32 ((mm1 177 0) - 1)) mm1).bind fun r2 => (if r2 = 0 then (some ((-2), mm1)) else ((R_within x2 0 2 mm1).bind fun r4 => (if r4 = 0 then (some ((-2), mm1)) else (if x2 = 0 then (if 0 ≤ (w32 (1 + x1)) ∧ (w32 (1 + x1)) < 588 then (some (mm1 177 (w32 (1 + x1)).toNat, mm1)) else none) else (if x2 = 1 then (some (iand (ishr (mm1 177 9) x1) 1, mm1)) else (if 0 ≤ (w32 (10 + x1)) ∧ (w32 (10 + x1)) < 588 then (some (mm1 177 (w32 (10 + x1)).toNat, mm1)) else none)))))))
set_option maxHeartbeats 4000000 in
theorem met_R_sound {l : Launch} {D : va_G} {cA : FieldType → ClassId} {ad adV : Nat → Nat} {z0 : Nat} {x1 : Int} {x2 : Int} {mm : aM}  {r : Int × aM} (h : R_sound x1 x2 mm = some r) : aMet l D cA ad adV z0 mX12_sound 1 25 0 0 [.inr (.inr (.inl (some 176))), .inl x1, .inl x2] SH mm (rIM r).1 SH (rIM r).2 := by
  refine aMet_ofG (by decide +kernel) rfl (Nat.le_of_ble_eq_true rfl) h (fun p e s m args below meth c al0 K => ?_)
  unfold R_sound
  refine gl (i' := 1) (fun _ _ => aw_aload_n K (dOf ck_mX12_sound rfl rfl) rfl) ?_
  refine gl (i' := 2) (fun _ _ => aw_iconst K (n := 0) (i32 _ rfl) (dOf ck_mX12_sound rfl rfl)) ?_
  refine g_st1 ?_
  refine gl (i' := 3) (fun _ _ => aw_putf K (dOf ck_mX12_sound rfl rfl) rfl rfl (Nat.le_of_ble_eq_true rfl) wd_1205 (k := 0) rfl rfl (Or.inl rfl)) ?_
  refine gl (i' := 4) (fun _ _ => aw_iload_n K (dOf ck_mX12_sound rfl rfl) rfl) ?_
  refine gl (i' := 5) (fun _ _ => aw_i2l K (dOf ck_mX12_sound rfl rfl)) ?_
  refine gl (i' := 6) (fun _ _ => aw_lcn K (dOf ck_mX12_sound rfl rfl) (v := 0) rfl) ?_
  refine gl (i' := 7) (fun _ _ => aw_aload_n K (dOf ck_mX12_sound rfl rfl) rfl) ?_
  refine gl (i' := 8) (fun _ _ => aw_getf K (dOf ck_mX12_sound rfl rfl) rfl rfl (Nat.le_of_ble_eq_true rfl) wd_1206 (k := 1) rfl) ?_
  refine gl (i' := 9) (fun _ _ => aw_iconst K (n := 0) (i32 _ rfl) (dOf ck_mX12_sound rfl rfl)) ?_
  refine gl (i' := 10) (fun _ _ => aw_iald K (dOf ck_mX12_sound rfl rfl) rfl (by decide)) ?_
  refine gl (i' := 11) (fun _ _ => aw_iconst K (n := 1) (i32 _ rfl) (dOf ck_mX12_sound rfl rfl)) ?_
  refine gl (i' := 12) (fun _ _ => aw_isub K (dOf ck_mX12_sound rfl rfl)) ?_
  refine gl (i' := 13) (fun _ _ => aw_i2l K (dOf ck_mX12_sound rfl rfl)) ?_
  refine g_callSI K [.inr (.inl _), .inr (.inl _), .inr (.inl _)] rfl (dOf ck_mX12_sound rfl rfl) al_OneBreathModel_176 wd_1269 rfl (Nat.le_of_ble_eq_true rfl) ⟨Nat.le_of_ble_eq_true rfl, Nat.le_of_ble_eq_true rfl⟩ (fun b hb => met_R_within  hb) (fun r2 hr2 => ?_)
  refine g_if_eq K (dOf ck_mX12_sound rfl rfl) (t := 21) (aJ_of (by decide +kernel)) (fun h3 => ?_) (fun h3 => ?_)
  · refine gl (i' := 22) (fun _ _ => aw_bip K (dOf ck_mX12_sound rfl rfl) (v := -2) rfl) ?_
    exact g_iret K (dOf ck_mX12_sound rfl rfl).1 rfl (Or.inl rfl) rfl
  · refine gl (i' := 16) (fun _ _ => aw_iload_n K (dOf ck_mX12_sound rfl rfl) rfl) ?_
    refine gl (i' := 17) (fun _ _ => aw_i2l K (dOf ck_mX12_sound rfl rfl)) ?_
    refine gl (i' := 18) (fun _ _ => aw_lcn K (dOf ck_mX12_sound rfl rfl) (v := 0) rfl) ?_
    refine gl (i' := 19) (fun _ _ => aw_ldc2 K (dOf ck_mX12_sound rfl rfl) (n := 2) wd_1347 (i64 _ rfl)) ?_
    refine g_callSI K [.inr (.inl _), .inr (.inl _), .inr (.inl _)] rfl (dOf ck_mX12_sound rfl rfl) al_OneBreathModel_176 wd_1269 rfl (Nat.le_of_ble_eq_true rfl) ⟨Nat.le_of_ble_eq_true rfl, Nat.le_of_ble_eq_true rfl⟩ (fun b hb => met_R_within  hb) (fun r4 hr4 => ?_)
    refine g_if_ne K (dOf ck_mX12_sound rfl rfl) (t := 23) (aJ_of (by decide +kernel)) (fun h5 => ?_) (fun h5 => ?_)
    · refine gl (i' := 22) (fun _ _ => aw_bip K (dOf ck_mX12_sound rfl rfl) (v := -2) rfl) ?_
      exact g_iret K (dOf ck_mX12_sound rfl rfl).1 rfl (Or.inl rfl) rfl
    · refine gl (i' := 24) (fun _ _ => aw_iload_n K (dOf ck_mX12_sound rfl rfl) rfl) ?_
      refine g_if_ne K (dOf ck_mX12_sound rfl rfl) (t := 32) (aJ_of (by decide +kernel)) (fun h6 => ?_) (fun h6 => ?_)
      · refine gl (i' := 26) (fun _ _ => aw_aload_n K (dOf ck_mX12_sound rfl rfl) rfl) ?_
        refine gl (i' := 27) (fun _ _ => aw_getf K (dOf ck_mX12_sound rfl rfl) rfl rfl (Nat.le_of_ble_eq_true rfl) wd_1206 (k := 1) rfl) ?_
        refine gl (i' := 28) (fun _ _ => aw_iconst K (n := 1) (i32 _ rfl) (dOf ck_mX12_sound rfl rfl)) ?_
        refine gl (i' := 29) (fun _ _ => aw_iload_n K (dOf ck_mX12_sound rfl rfl) rfl) ?_
        refine gl (i' := 30) (fun _ _ => aw_iadd K (dOf ck_mX12_sound rfl rfl)) ?_
        refine g_gd (fun hb9 => ?_)
        refine gl (i' := 31) (fun _ _ => aw_iald K (dOf ck_mX12_sound rfl rfl) rfl hb9) ?_
        refine g_goto K (dOf ck_mX12_sound rfl rfl).1 (t := 50) (aJ_of (by decide +kernel)) ?_
        exact g_iret K (by decide +kernel) rfl (Or.inl rfl) rfl
      · refine gl (i' := 33) (fun _ _ => aw_iload_n K (dOf ck_mX12_sound rfl rfl) rfl) ?_
        refine gl (i' := 34) (fun _ _ => aw_iconst K (n := 1) (i32 _ rfl) (dOf ck_mX12_sound rfl rfl)) ?_
        refine g_icmp_ne K (dOf ck_mX12_sound rfl rfl) (t := 44) (aJ_of (by decide +kernel)) (fun h7 => ?_) (fun h7 => ?_)
        · refine gl (i' := 36) (fun _ _ => aw_aload_n K (dOf ck_mX12_sound rfl rfl) rfl) ?_
          refine gl (i' := 37) (fun _ _ => aw_getf K (dOf ck_mX12_sound rfl rfl) rfl rfl (Nat.le_of_ble_eq_true rfl) wd_1206 (k := 1) rfl) ?_
          refine gl (i' := 38) (fun _ _ => aw_bip K (dOf ck_mX12_sound rfl rfl) (v := 9) rfl) ?_
          refine gl (i' := 39) (fun _ _ => aw_iald K (dOf ck_mX12_sound rfl rfl) rfl (by decide)) ?_
          refine gl (i' := 40) (fun _ _ => aw_iload_n K (dOf ck_mX12_sound rfl rfl) rfl) ?_
          refine gl (i' := 41) (fun _ _ => aw_ishr K (dOf ck_mX12_sound rfl rfl)) ?_
          refine gl (i' := 42) (fun _ _ => aw_iconst K (n := 1) (i32 _ rfl) (dOf ck_mX12_sound rfl rfl)) ?_
          refine gl (i' := 43) (fun _ _ => aw_iand K (dOf ck_mX12_sound rfl rfl)) ?_
          refine g_goto K (dOf ck_mX12_sound rfl rfl).1 (t := 50) (aJ_of (by decide +kernel)) ?_
          exact g_iret K (by decide +kernel) rfl (Or.inl rfl) rfl
        · refine gl (i' := 45) (fun _ _ => aw_aload_n K (dOf ck_mX12_sound rfl rfl) rfl) ?_
          refine gl (i' := 46) (fun _ _ => aw_getf K (dOf ck_mX12_sound rfl rfl) rfl rfl (Nat.le_of_ble_eq_true rfl) wd_1206 (k := 1) rfl) ?_
          refine gl (i' := 47) (fun _ _ => aw_bip K (dOf ck_mX12_sound rfl rfl) (v := 10) rfl) ?_
          refine gl (i' := 48) (fun _ _ => aw_iload_n K (dOf ck_mX12_sound rfl rfl) rfl) ?_
          refine gl (i' := 49) (fun _ _ => aw_iadd K (dOf ck_mX12_sound rfl rfl)) ?_
          refine g_gd (fun hb8 => ?_)
          refine gl (i' := 50) (fun _ _ => aw_iald K (dOf ck_mX12_sound rfl rfl) rfl hb8) ?_
          exact g_iret K (by decide +kernel) rfl (Or.inl rfl) rfl
def R_isWord (x1 : Int) (mm : aM) : Option Int := (R_within x1 0 (w32 ((mm 177 18) - 1)) mm).bind fun r1 => (if r1 = 0 ∨ r1 = 1 then (some r1) else none)
set_option maxHeartbeats 4000000 in
theorem met_R_isWord {l : Launch} {D : va_G} {cA : FieldType → ClassId} {ad adV : Nat → Nat} {z0 : Nat} {x1 : Int} {mm : aM}  {r : Int} (h : R_isWord x1 mm = some r) : aMet l D cA ad adV z0 mX12_isWord 1 25 0 0 [.inr (.inr (.inl (some 176))), .inl x1] SH mm ((rI mm) r).1 SH ((rI mm) r).2 := by
  refine aMet_ofG (by decide +kernel) rfl (Nat.le_of_ble_eq_true rfl) h (fun p e s m args below meth c al0 K => ?_)
  unfold R_isWord
  refine gl (i' := 1) (fun _ _ => aw_iload_n K (dOf ck_mX12_isWord rfl rfl) rfl) ?_
  refine gl (i' := 2) (fun _ _ => aw_i2l K (dOf ck_mX12_isWord rfl rfl)) ?_
  refine gl (i' := 3) (fun _ _ => aw_lcn K (dOf ck_mX12_isWord rfl rfl) (v := 0) rfl) ?_
  refine gl (i' := 4) (fun _ _ => aw_aload_n K (dOf ck_mX12_isWord rfl rfl) rfl) ?_
  refine gl (i' := 5) (fun _ _ => aw_getf K (dOf ck_mX12_isWord rfl rfl) rfl rfl (Nat.le_of_ble_eq_true rfl) wd_1206 (k := 1) rfl) ?_
  refine gl (i' := 6) (fun _ _ => aw_bip K (dOf ck_mX12_isWord rfl rfl) (v := 18) rfl) ?_
  refine gl (i' := 7) (fun _ _ => aw_iald K (dOf ck_mX12_isWord rfl rfl) rfl (by decide)) ?_
  refine gl (i' := 8) (fun _ _ => aw_iconst K (n := 1) (i32 _ rfl) (dOf ck_mX12_isWord rfl rfl)) ?_
  refine gl (i' := 9) (fun _ _ => aw_isub K (dOf ck_mX12_isWord rfl rfl)) ?_
  refine gl (i' := 10) (fun _ _ => aw_i2l K (dOf ck_mX12_isWord rfl rfl)) ?_
  refine g_callSI K [.inr (.inl _), .inr (.inl _), .inr (.inl _)] rfl (dOf ck_mX12_isWord rfl rfl) al_OneBreathModel_176 wd_1269 rfl (Nat.le_of_ble_eq_true rfl) ⟨Nat.le_of_ble_eq_true rfl, Nat.le_of_ble_eq_true rfl⟩ (fun b hb => met_R_within  hb) (fun r1 hr1 => ?_)
  refine g_gd (fun hb2 => ?_)
  exact g_iret K (by decide +kernel) rfl (Or.inr (Or.inl ⟨rfl, hb2⟩)) rfl
def R_word (x1 : Int) (x2 : Int) (mm : aM) : Option (Int × aM) := st1 (aup mm 176 0 0) fun mm1 => ((R_isWord x1 mm1).bind fun r2 => (if r2 = 0 then (some ((-2), mm1)) else (if 0 ≤ (w32 (19 + x1)) ∧ (w32 (19 + x1)) < 588 then ((R_within x2 10 (w32 (9 + (mm1 177 (w32 (19 + x1)).toNat))) mm1).bind fun r5 => (if r5 = 0 then ((R_within x2 0 2 mm1).bind fun r7 => (if r7 = 0 then (some ((-2), mm1)) else (if 0 ≤ (w32 ((w32 (19 + (w32 (13 * x2)))) + x1)) ∧ (w32 ((w32 (19 + (w32 (13 * x2)))) + x1)) < 588 then (some (mm1 177 (w32 ((w32 (19 + (w32 (13 * x2)))) + x1)).toNat, mm1)) else none))) else (if 0 ≤ (w32 ((w32 ((w32 (58 + (w32 (6 * x1)))) + x2)) - 10)) ∧ (w32 ((w32 ((w32 (58 + (w32 (6 * x1)))) + x2)) - 10)) < 588 then (some (mm1 177 (w32 ((w32 ((w32 (58 + (w32 (6 * x1)))) + x2)) - 10)).toNat, mm1)) else none))) else none)))
set_option maxHeartbeats 4000000 in
theorem met_R_word {l : Launch} {D : va_G} {cA : FieldType → ClassId} {ad adV : Nat → Nat} {z0 : Nat} {x1 : Int} {x2 : Int} {mm : aM}  {r : Int × aM} (h : R_word x1 x2 mm = some r) : aMet l D cA ad adV z0 mX12_word 2 46 0 0 [.inr (.inr (.inl (some 176))), .inl x1, .inl x2] SH mm (rIM r).1 SH (rIM r).2 := by
  refine aMet_ofG (by decide +kernel) rfl (Nat.le_of_ble_eq_true rfl) h (fun p e s m args below meth c al0 K => ?_)
  unfold R_word
  refine gl (i' := 1) (fun _ _ => aw_aload_n K (dOf ck_mX12_word rfl rfl) rfl) ?_
  refine gl (i' := 2) (fun _ _ => aw_iconst K (n := 0) (i32 _ rfl) (dOf ck_mX12_word rfl rfl)) ?_
  refine g_st1 ?_
  refine gl (i' := 3) (fun _ _ => aw_putf K (dOf ck_mX12_word rfl rfl) rfl rfl (Nat.le_of_ble_eq_true rfl) wd_1205 (k := 0) rfl rfl (Or.inl rfl)) ?_
  refine gl (i' := 4) (fun _ _ => aw_aload_n K (dOf ck_mX12_word rfl rfl) rfl) ?_
  refine gl (i' := 5) (fun _ _ => aw_iload_n K (dOf ck_mX12_word rfl rfl) rfl) ?_
  refine g_callVI K [.inl _] rfl (dOf ck_mX12_word rfl rfl) al_OneBreathModel_232 rfl rfl ⟨wd_1353, wd_83⟩ rfl (Nat.le_of_ble_eq_true rfl) ⟨Nat.le_of_ble_eq_true rfl, Nat.le_of_ble_eq_true rfl⟩ (fun b hb => met_R_isWord  hb) (fun r2 hr2 => ?_)
  refine g_if_ne K (dOf ck_mX12_word rfl rfl) (t := 9) (aJ_of (by decide +kernel)) (fun h3 => ?_) (fun h3 => ?_)
  · refine gl (i' := 8) (fun _ _ => aw_bip K (dOf ck_mX12_word rfl rfl) (v := -2) rfl) ?_
    exact g_iret K (dOf ck_mX12_word rfl rfl).1 rfl (Or.inl rfl) rfl
  · refine gl (i' := 10) (fun _ _ => aw_iload_n K (dOf ck_mX12_word rfl rfl) rfl) ?_
    refine gl (i' := 11) (fun _ _ => aw_i2l K (dOf ck_mX12_word rfl rfl)) ?_
    refine gl (i' := 12) (fun _ _ => aw_ldc2 K (dOf ck_mX12_word rfl rfl) (n := 10) wd_1355 (i64 _ rfl)) ?_
    refine gl (i' := 13) (fun _ _ => aw_bip K (dOf ck_mX12_word rfl rfl) (v := 9) rfl) ?_
    refine gl (i' := 14) (fun _ _ => aw_aload_n K (dOf ck_mX12_word rfl rfl) rfl) ?_
    refine gl (i' := 15) (fun _ _ => aw_getf K (dOf ck_mX12_word rfl rfl) rfl rfl (Nat.le_of_ble_eq_true rfl) wd_1206 (k := 1) rfl) ?_
    refine gl (i' := 16) (fun _ _ => aw_bip K (dOf ck_mX12_word rfl rfl) (v := 19) rfl) ?_
    refine gl (i' := 17) (fun _ _ => aw_iload_n K (dOf ck_mX12_word rfl rfl) rfl) ?_
    refine gl (i' := 18) (fun _ _ => aw_iadd K (dOf ck_mX12_word rfl rfl)) ?_
    refine g_gd (fun hb4 => ?_)
    refine gl (i' := 19) (fun _ _ => aw_iald K (dOf ck_mX12_word rfl rfl) rfl hb4) ?_
    refine gl (i' := 20) (fun _ _ => aw_iadd K (dOf ck_mX12_word rfl rfl)) ?_
    refine gl (i' := 21) (fun _ _ => aw_i2l K (dOf ck_mX12_word rfl rfl)) ?_
    refine g_callSI K [.inr (.inl _), .inr (.inl _), .inr (.inl _)] rfl (dOf ck_mX12_word rfl rfl) al_OneBreathModel_176 wd_1269 rfl (Nat.le_of_ble_eq_true rfl) ⟨Nat.le_of_ble_eq_true rfl, Nat.le_of_ble_eq_true rfl⟩ (fun b hb => met_R_within  hb) (fun r5 hr5 => ?_)
    refine g_if_eq K (dOf ck_mX12_word rfl rfl) (t := 36) (aJ_of (by decide +kernel)) (fun h6 => ?_) (fun h6 => ?_)
    · refine gl (i' := 37) (fun _ _ => aw_iload_n K (dOf ck_mX12_word rfl rfl) rfl) ?_
      refine gl (i' := 38) (fun _ _ => aw_i2l K (dOf ck_mX12_word rfl rfl)) ?_
      refine gl (i' := 39) (fun _ _ => aw_lcn K (dOf ck_mX12_word rfl rfl) (v := 0) rfl) ?_
      refine gl (i' := 40) (fun _ _ => aw_ldc2 K (dOf ck_mX12_word rfl rfl) (n := 2) wd_1347 (i64 _ rfl)) ?_
      refine g_callSI K [.inr (.inl _), .inr (.inl _), .inr (.inl _)] rfl (dOf ck_mX12_word rfl rfl) al_OneBreathModel_176 wd_1269 rfl (Nat.le_of_ble_eq_true rfl) ⟨Nat.le_of_ble_eq_true rfl, Nat.le_of_ble_eq_true rfl⟩ (fun b hb => met_R_within  hb) (fun r7 hr7 => ?_)
      refine g_if_ne K (dOf ck_mX12_word rfl rfl) (t := 44) (aJ_of (by decide +kernel)) (fun h8 => ?_) (fun h8 => ?_)
      · refine gl (i' := 43) (fun _ _ => aw_bip K (dOf ck_mX12_word rfl rfl) (v := -2) rfl) ?_
        exact g_iret K (dOf ck_mX12_word rfl rfl).1 rfl (Or.inl rfl) rfl
      · refine gl (i' := 45) (fun _ _ => aw_aload_n K (dOf ck_mX12_word rfl rfl) rfl) ?_
        refine gl (i' := 46) (fun _ _ => aw_getf K (dOf ck_mX12_word rfl rfl) rfl rfl (Nat.le_of_ble_eq_true rfl) wd_1206 (k := 1) rfl) ?_
        refine gl (i' := 47) (fun _ _ => aw_bip K (dOf ck_mX12_word rfl rfl) (v := 19) rfl) ?_
        refine gl (i' := 48) (fun _ _ => aw_bip K (dOf ck_mX12_word rfl rfl) (v := 13) rfl) ?_
        refine gl (i' := 49) (fun _ _ => aw_iload_n K (dOf ck_mX12_word rfl rfl) rfl) ?_
        refine gl (i' := 50) (fun _ _ => aw_imul K (dOf ck_mX12_word rfl rfl)) ?_
        refine gl (i' := 51) (fun _ _ => aw_iadd K (dOf ck_mX12_word rfl rfl)) ?_
        refine gl (i' := 52) (fun _ _ => aw_iload_n K (dOf ck_mX12_word rfl rfl) rfl) ?_
        refine gl (i' := 53) (fun _ _ => aw_iadd K (dOf ck_mX12_word rfl rfl)) ?_
        refine g_gd (fun hb9 => ?_)
        refine gl (i' := 54) (fun _ _ => aw_iald K (dOf ck_mX12_word rfl rfl) rfl hb9) ?_
        exact g_iret K (by decide +kernel) rfl (Or.inl rfl) rfl
    · refine gl (i' := 24) (fun _ _ => aw_aload_n K (dOf ck_mX12_word rfl rfl) rfl) ?_
      refine gl (i' := 25) (fun _ _ => aw_getf K (dOf ck_mX12_word rfl rfl) rfl rfl (Nat.le_of_ble_eq_true rfl) wd_1206 (k := 1) rfl) ?_
      refine gl (i' := 26) (fun _ _ => aw_bip K (dOf ck_mX12_word rfl rfl) (v := 58) rfl) ?_
      refine gl (i' := 27) (fun _ _ => aw_bip K (dOf ck_mX12_word rfl rfl) (v := 6) rfl) ?_
      refine gl (i' := 28) (fun _ _ => aw_iload_n K (dOf ck_mX12_word rfl rfl) rfl) ?_
      refine gl (i' := 29) (fun _ _ => aw_imul K (dOf ck_mX12_word rfl rfl)) ?_
      refine gl (i' := 30) (fun _ _ => aw_iadd K (dOf ck_mX12_word rfl rfl)) ?_
      refine gl (i' := 31) (fun _ _ => aw_iload_n K (dOf ck_mX12_word rfl rfl) rfl) ?_
      refine gl (i' := 32) (fun _ _ => aw_iadd K (dOf ck_mX12_word rfl rfl)) ?_
      refine gl (i' := 33) (fun _ _ => aw_bip K (dOf ck_mX12_word rfl rfl) (v := 10) rfl) ?_
      refine gl (i' := 34) (fun _ _ => aw_isub K (dOf ck_mX12_word rfl rfl)) ?_
      refine g_gd (fun hb10 => ?_)
      refine gl (i' := 35) (fun _ _ => aw_iald K (dOf ck_mX12_word rfl rfl) rfl hb10) ?_
      exact g_iret K (dOf ck_mX12_word rfl rfl).1 rfl (Or.inl rfl) rfl
def R_shape (x1 : Int) (x2 : Int) (mm : aM) : Option (Int × aM) := st1 (aup mm 176 0 0) fun mm1 => ((R_within x1 0 (w32 ((mm1 177 141) - 1)) mm1).bind fun r2 => (if r2 = 0 then (some ((-2), mm1)) else (if 0 ≤ (w32 (142 + x1)) ∧ (w32 (142 + x1)) < 588 then ((R_within x2 (-1) (w32 ((mm1 177 (w32 (142 + x1)).toNat) - 1)) mm1).bind fun r5 => (if r5 = 0 then (some ((-2), mm1)) else (if x2 = (-1) then (some (mm1 177 (w32 (142 + x1)).toNat, mm1)) else (if 0 ≤ (w32 (148 + x1)) ∧ (w32 (148 + x1)) < 588 then (some (iand (ishr (mm1 177 (w32 (148 + x1)).toNat) x2) 1, mm1)) else none)))) else none)))
set_option maxHeartbeats 4000000 in
theorem met_R_shape {l : Launch} {D : va_G} {cA : FieldType → ClassId} {ad adV : Nat → Nat} {z0 : Nat} {x1 : Int} {x2 : Int} {mm : aM}  {r : Int × aM} (h : R_shape x1 x2 mm = some r) : aMet l D cA ad adV z0 mX12_shape 1 25 0 0 [.inr (.inr (.inl (some 176))), .inl x1, .inl x2] SH mm (rIM r).1 SH (rIM r).2 := by
  refine aMet_ofG (by decide +kernel) rfl (Nat.le_of_ble_eq_true rfl) h (fun p e s m args below meth c al0 K => ?_)
  unfold R_shape
  refine gl (i' := 1) (fun _ _ => aw_aload_n K (dOf ck_mX12_shape rfl rfl) rfl) ?_
  refine gl (i' := 2) (fun _ _ => aw_iconst K (n := 0) (i32 _ rfl) (dOf ck_mX12_shape rfl rfl)) ?_
  refine g_st1 ?_
  refine gl (i' := 3) (fun _ _ => aw_putf K (dOf ck_mX12_shape rfl rfl) rfl rfl (Nat.le_of_ble_eq_true rfl) wd_1205 (k := 0) rfl rfl (Or.inl rfl)) ?_
  refine gl (i' := 4) (fun _ _ => aw_iload_n K (dOf ck_mX12_shape rfl rfl) rfl) ?_
  refine gl (i' := 5) (fun _ _ => aw_i2l K (dOf ck_mX12_shape rfl rfl)) ?_
  refine gl (i' := 6) (fun _ _ => aw_lcn K (dOf ck_mX12_shape rfl rfl) (v := 0) rfl) ?_
  refine gl (i' := 7) (fun _ _ => aw_aload_n K (dOf ck_mX12_shape rfl rfl) rfl) ?_
  refine gl (i' := 8) (fun _ _ => aw_getf K (dOf ck_mX12_shape rfl rfl) rfl rfl (Nat.le_of_ble_eq_true rfl) wd_1206 (k := 1) rfl) ?_
  refine gl (i' := 9) (fun _ _ => aw_sip K (dOf ck_mX12_shape rfl rfl) (v := 141) rfl) ?_
  refine gl (i' := 10) (fun _ _ => aw_iald K (dOf ck_mX12_shape rfl rfl) rfl (by decide)) ?_
  refine gl (i' := 11) (fun _ _ => aw_iconst K (n := 1) (i32 _ rfl) (dOf ck_mX12_shape rfl rfl)) ?_
  refine gl (i' := 12) (fun _ _ => aw_isub K (dOf ck_mX12_shape rfl rfl)) ?_
  refine gl (i' := 13) (fun _ _ => aw_i2l K (dOf ck_mX12_shape rfl rfl)) ?_
  refine g_callSI K [.inr (.inl _), .inr (.inl _), .inr (.inl _)] rfl (dOf ck_mX12_shape rfl rfl) al_OneBreathModel_176 wd_1269 rfl (Nat.le_of_ble_eq_true rfl) ⟨Nat.le_of_ble_eq_true rfl, Nat.le_of_ble_eq_true rfl⟩ (fun b hb => met_R_within  hb) (fun r2 hr2 => ?_)
  refine g_if_eq K (dOf ck_mX12_shape rfl rfl) (t := 29) (aJ_of (by decide +kernel)) (fun h3 => ?_) (fun h3 => ?_)
  · refine gl (i' := 30) (fun _ _ => aw_bip K (dOf ck_mX12_shape rfl rfl) (v := -2) rfl) ?_
    exact g_iret K (dOf ck_mX12_shape rfl rfl).1 rfl (Or.inl rfl) rfl
  · refine gl (i' := 16) (fun _ _ => aw_iload_n K (dOf ck_mX12_shape rfl rfl) rfl) ?_
    refine gl (i' := 17) (fun _ _ => aw_i2l K (dOf ck_mX12_shape rfl rfl)) ?_
    refine gl (i' := 18) (fun _ _ => aw_ldc2 K (dOf ck_mX12_shape rfl rfl) (n := -1) (by rw [show Int64.ofInt (-1) = (-1 : Int64) by decide]; exact wd_1360) (i64 _ rfl)) ?_
    refine gl (i' := 19) (fun _ _ => aw_aload_n K (dOf ck_mX12_shape rfl rfl) rfl) ?_
    refine gl (i' := 20) (fun _ _ => aw_getf K (dOf ck_mX12_shape rfl rfl) rfl rfl (Nat.le_of_ble_eq_true rfl) wd_1206 (k := 1) rfl) ?_
    refine gl (i' := 21) (fun _ _ => aw_sip K (dOf ck_mX12_shape rfl rfl) (v := 142) rfl) ?_
    refine gl (i' := 22) (fun _ _ => aw_iload_n K (dOf ck_mX12_shape rfl rfl) rfl) ?_
    refine gl (i' := 23) (fun _ _ => aw_iadd K (dOf ck_mX12_shape rfl rfl)) ?_
    refine g_gd (fun hb4 => ?_)
    refine gl (i' := 24) (fun _ _ => aw_iald K (dOf ck_mX12_shape rfl rfl) rfl hb4) ?_
    refine gl (i' := 25) (fun _ _ => aw_iconst K (n := 1) (i32 _ rfl) (dOf ck_mX12_shape rfl rfl)) ?_
    refine gl (i' := 26) (fun _ _ => aw_isub K (dOf ck_mX12_shape rfl rfl)) ?_
    refine gl (i' := 27) (fun _ _ => aw_i2l K (dOf ck_mX12_shape rfl rfl)) ?_
    refine g_callSI K [.inr (.inl _), .inr (.inl _), .inr (.inl _)] rfl (dOf ck_mX12_shape rfl rfl) al_OneBreathModel_176 wd_1269 rfl (Nat.le_of_ble_eq_true rfl) ⟨Nat.le_of_ble_eq_true rfl, Nat.le_of_ble_eq_true rfl⟩ (fun b hb => met_R_within  hb) (fun r5 hr5 => ?_)
    refine g_if_ne K (dOf ck_mX12_shape rfl rfl) (t := 31) (aJ_of (by decide +kernel)) (fun h6 => ?_) (fun h6 => ?_)
    · refine gl (i' := 30) (fun _ _ => aw_bip K (dOf ck_mX12_shape rfl rfl) (v := -2) rfl) ?_
      exact g_iret K (dOf ck_mX12_shape rfl rfl).1 rfl (Or.inl rfl) rfl
    · refine gl (i' := 32) (fun _ _ => aw_iload_n K (dOf ck_mX12_shape rfl rfl) rfl) ?_
      refine gl (i' := 33) (fun _ _ => aw_iconst K (n := -1) (i32 _ rfl) (dOf ck_mX12_shape rfl rfl)) ?_
      refine g_icmp_ne K (dOf ck_mX12_shape rfl rfl) (t := 41) (aJ_of (by decide +kernel)) (fun h7 => ?_) (fun h7 => ?_)
      · refine gl (i' := 35) (fun _ _ => aw_aload_n K (dOf ck_mX12_shape rfl rfl) rfl) ?_
        refine gl (i' := 36) (fun _ _ => aw_getf K (dOf ck_mX12_shape rfl rfl) rfl rfl (Nat.le_of_ble_eq_true rfl) wd_1206 (k := 1) rfl) ?_
        refine gl (i' := 37) (fun _ _ => aw_sip K (dOf ck_mX12_shape rfl rfl) (v := 142) rfl) ?_
        refine gl (i' := 38) (fun _ _ => aw_iload_n K (dOf ck_mX12_shape rfl rfl) rfl) ?_
        refine gl (i' := 39) (fun _ _ => aw_iadd K (dOf ck_mX12_shape rfl rfl)) ?_
        refine gl (i' := 40) (fun _ _ => aw_iald K (dOf ck_mX12_shape rfl rfl) rfl hb4) ?_
        refine g_goto K (dOf ck_mX12_shape rfl rfl).1 (t := 51) (aJ_of (by decide +kernel)) ?_
        exact g_iret K (by decide +kernel) rfl (Or.inl rfl) rfl
      · refine gl (i' := 42) (fun _ _ => aw_aload_n K (dOf ck_mX12_shape rfl rfl) rfl) ?_
        refine gl (i' := 43) (fun _ _ => aw_getf K (dOf ck_mX12_shape rfl rfl) rfl rfl (Nat.le_of_ble_eq_true rfl) wd_1206 (k := 1) rfl) ?_
        refine gl (i' := 44) (fun _ _ => aw_sip K (dOf ck_mX12_shape rfl rfl) (v := 148) rfl) ?_
        refine gl (i' := 45) (fun _ _ => aw_iload_n K (dOf ck_mX12_shape rfl rfl) rfl) ?_
        refine gl (i' := 46) (fun _ _ => aw_iadd K (dOf ck_mX12_shape rfl rfl)) ?_
        refine g_gd (fun hb8 => ?_)
        refine gl (i' := 47) (fun _ _ => aw_iald K (dOf ck_mX12_shape rfl rfl) rfl hb8) ?_
        refine gl (i' := 48) (fun _ _ => aw_iload_n K (dOf ck_mX12_shape rfl rfl) rfl) ?_
        refine gl (i' := 49) (fun _ _ => aw_ishr K (dOf ck_mX12_shape rfl rfl)) ?_
        refine gl (i' := 50) (fun _ _ => aw_iconst K (n := 1) (i32 _ rfl) (dOf ck_mX12_shape rfl rfl)) ?_
        refine gl (i' := 51) (fun _ _ => aw_iand K (dOf ck_mX12_shape rfl rfl)) ?_
        exact g_iret K (by decide +kernel) rfl (Or.inl rfl) rfl
