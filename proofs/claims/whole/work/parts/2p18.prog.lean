def R_isEndless  (mm : aM) : Option (Int × aM) := (R_mostSounds (w32 ((mm 177 18) + 1)) mm).bind fun r1 => (if 0 < r1.1 then (some (1, r1.2)) else (some (0, r1.2)))
set_option maxHeartbeats 4000000 in
theorem met_R_isEndless {l : Launch} {D : va_G} {cA : FieldType → ClassId} {ad adV : Nat → Nat} {z0 : Nat}  {mm : aM}  {r : Int × aM} (h : R_isEndless  mm = some r) : aMet l D cA ad adV z0 mX12_isEndless 2 46 0 0 [.inr (.inr (.inl (some 176)))] SH mm (rIM r).1 SH (rIM r).2 := by
  refine aMet_ofG (by decide +kernel) rfl (Nat.le_of_ble_eq_true rfl) h (fun p e s m args below meth c al0 K => ?_)
  unfold R_isEndless
  refine gl (i' := 1) (fun _ _ => aw_aload_n K (dOf ck_mX12_isEndless rfl rfl) rfl) ?_
  refine gl (i' := 2) (fun _ _ => aw_aload_n K (dOf ck_mX12_isEndless rfl rfl) rfl) ?_
  refine gl (i' := 3) (fun _ _ => aw_getf K (dOf ck_mX12_isEndless rfl rfl) rfl rfl (Nat.le_of_ble_eq_true rfl) wd_1206 (k := 1) rfl) ?_
  refine gl (i' := 4) (fun _ _ => aw_bip K (dOf ck_mX12_isEndless rfl rfl) (v := 18) rfl) ?_
  refine gl (i' := 5) (fun _ _ => aw_iald K (dOf ck_mX12_isEndless rfl rfl) rfl (by decide)) ?_
  refine gl (i' := 6) (fun _ _ => aw_iconst K (n := 1) (i32 _ rfl) (dOf ck_mX12_isEndless rfl rfl)) ?_
  refine gl (i' := 7) (fun _ _ => aw_iadd K (dOf ck_mX12_isEndless rfl rfl)) ?_
  refine g_callVIM K [.inl _] rfl (dOf ck_mX12_isEndless rfl rfl) al_OneBreathModel_429 rfl rfl ⟨wd_1614, wd_128⟩ rfl (Nat.le_of_ble_eq_true rfl) ⟨Nat.le_of_ble_eq_true rfl, Nat.le_of_ble_eq_true rfl⟩ (fun b hb => met_R_mostSounds  hb) (fun r1 hr1 => ?_)
  refine g_if_le K (dOf ck_mX12_isEndless rfl rfl) (t := 11) (aJ_of (by decide +kernel)) (fun h2 => ?_) (fun h2 => ?_)
  · refine gl (i' := 10) (fun _ _ => aw_iconst K (n := 1) (i32 _ rfl) (dOf ck_mX12_isEndless rfl rfl)) ?_
    refine g_goto K (dOf ck_mX12_isEndless rfl rfl).1 (t := 12) (aJ_of (by decide +kernel)) ?_
    exact g_iret K (by decide +kernel) rfl (Or.inr (Or.inl ⟨rfl, Or.inr rfl⟩)) rfl
  · refine gl (i' := 12) (fun _ _ => aw_iconst K (n := 0) (i32 _ rfl) (dOf ck_mX12_isEndless rfl rfl)) ?_
    exact g_iret K (by decide +kernel) rfl (Or.inr (Or.inl ⟨rfl, Or.inl rfl⟩)) rfl
def R_endless  (mm : aM) : Option (Int × aM) := st1 (aup mm 176 0 0) fun mm1 => ((R_isEndless mm1).bind fun r2 => (if r2.1 = 0 then (some (0, r2.2)) else (some (1, r2.2))))
set_option maxHeartbeats 4000000 in
theorem met_R_endless {l : Launch} {D : va_G} {cA : FieldType → ClassId} {ad adV : Nat → Nat} {z0 : Nat}  {mm : aM}  {r : Int × aM} (h : R_endless  mm = some r) : aMet l D cA ad adV z0 mX12_endless 3 66 0 0 [.inr (.inr (.inl (some 176)))] SH mm (rIM r).1 SH (rIM r).2 := by
  refine aMet_ofG (by decide +kernel) rfl (Nat.le_of_ble_eq_true rfl) h (fun p e s m args below meth c al0 K => ?_)
  unfold R_endless
  refine gl (i' := 1) (fun _ _ => aw_aload_n K (dOf ck_mX12_endless rfl rfl) rfl) ?_
  refine gl (i' := 2) (fun _ _ => aw_iconst K (n := 0) (i32 _ rfl) (dOf ck_mX12_endless rfl rfl)) ?_
  refine g_st1 ?_
  refine gl (i' := 3) (fun _ _ => aw_putf K (dOf ck_mX12_endless rfl rfl) rfl rfl (Nat.le_of_ble_eq_true rfl) wd_1205 (k := 0) rfl rfl (Or.inl rfl)) ?_
  refine gl (i' := 4) (fun _ _ => aw_aload_n K (dOf ck_mX12_endless rfl rfl) rfl) ?_
  refine g_callVIM K [] rfl (dOf ck_mX12_endless rfl rfl) al_OneBreathModel_432 rfl rfl ⟨wd_1611, wd_127⟩ rfl (Nat.le_of_ble_eq_true rfl) ⟨Nat.le_of_ble_eq_true rfl, Nat.le_of_ble_eq_true rfl⟩ (fun b hb => met_R_isEndless  hb) (fun r2 hr2 => ?_)
  refine g_if_eq K (dOf ck_mX12_endless rfl rfl) (t := 8) (aJ_of (by decide +kernel)) (fun h3 => ?_) (fun h3 => ?_)
  · refine gl (i' := 9) (fun _ _ => aw_iconst K (n := 0) (i32 _ rfl) (dOf ck_mX12_endless rfl rfl)) ?_
    exact g_iret K (by decide +kernel) rfl (Or.inl rfl) rfl
  · refine gl (i' := 7) (fun _ _ => aw_iconst K (n := 1) (i32 _ rfl) (dOf ck_mX12_endless rfl rfl)) ?_
    refine g_goto K (dOf ck_mX12_endless rfl rfl).1 (t := 9) (aJ_of (by decide +kernel)) ?_
    exact g_iret K (by decide +kernel) rfl (Or.inl rfl) rfl
def R_longest_28 (k12 : Int → Int → aM → Option (Int × aM)) (x2 : Int) (s0 : Int) (mm : aM) : Option (Int × aM) := k12 s0 (w32 (x2 + 1)) mm
set_option maxHeartbeats 4000000 in
theorem lk_R_longest_28 {p : Program} {l : Launch} {e : Env} {s : State} {m : MethodId} {args : Array Value} {below : List Frame} {meth : Method} {c : Code} {D : va_G} {cA : FieldType → ClassId} {ad adV : Nat → Nat} {z0 : Nat} {al0 : List Nat} (K : aK p s m args meth c mX12_longest D cA ad adV z0) (x2 : Int) (k12 : Int → Int → aM → Option (Int × aM)) (hk12 : ∀ (x1 : Int) (x2 : Int) (mm : aM), aG p l e { frames := 3, cells := 0, slots := 0, locals := 66 } s m args below meth c D cA ad z0 mX12_longest al0 rIM (k12 x1 x2 mm) 12 [(0, .inr (.inr (.inl (some 176)))), (1, .inl x1), (2, .inl x2)] [] mm)  (s0 : Int) (mm : aM) : aG p l e { frames := 3, cells := 0, slots := 0, locals := 66 } s m args below meth c D cA ad z0 mX12_longest al0 rIM (R_longest_28 k12 x2 s0 mm) 28 [(0, .inr (.inr (.inl (some 176)))), (2, .inl x2)] [.inl s0] mm := by
  unfold R_longest_28
  refine gl (i' := 29) (fun _ _ => aw_istore_n K (dOf ck_mX12_longest rfl rfl) (Nat.le_of_ble_eq_true rfl)) ?_
  refine g_lv (lv' := [(1, .inl _), (0, .inr (.inr (.inl (some _)))), (2, .inl _)]) rfl ?_
  refine gl (i' := 30) (fun _ _ => aw_iinc K (dOf ck_mX12_longest rfl rfl) (Nat.le_of_ble_eq_true rfl) rfl) ?_
  refine g_lv (lv' := [(2, .inl _), (1, .inl _), (0, .inr (.inr (.inl (some _))))]) rfl ?_
  refine g_goto K (dOf ck_mX12_longest rfl rfl).1 (t := 12) (aJ_of (by decide +kernel)) ?_
  refine g_sub [2, 1, 0] rfl ?_
  exact hk12 _ _ _
def R_longest_12  : Nat → Int → Int → aM → Option (Int × aM)
  | 0, _, _, _ => none
  | n + 1, x1, x2, mm => if (mm 177 18) < x2 then (if x1 = 0 then (some ((-1), mm)) else (some (x1, mm))) else ((R_mostSounds x2 mm).bind fun r6 => (if x1 < r6.1 then (R_longest_28 (R_longest_12 n) x2 r6.1 r6.2) else (R_longest_28 (R_longest_12 n) x2 x1 r6.2)))
set_option maxHeartbeats 4000000 in
theorem lk_R_longest_12 {p : Program} {l : Launch} {e : Env} {s : State} {m : MethodId} {args : Array Value} {below : List Frame} {meth : Method} {c : Code} {D : va_G} {cA : FieldType → ClassId} {ad adV : Nat → Nat} {z0 : Nat} {al0 : List Nat} (K : aK p s m args meth c mX12_longest D cA ad adV z0)   : ∀ (n : Nat) (x1 : Int) (x2 : Int) (mm : aM), aG p l e { frames := 3, cells := 0, slots := 0, locals := 66 } s m args below meth c D cA ad z0 mX12_longest al0 rIM (R_longest_12 n x1 x2 mm) 12 [(0, .inr (.inr (.inl (some 176)))), (1, .inl x1), (2, .inl x2)] [] mm := by
  intro n
  induction n with
  | zero => intro x1 x2 mm; exact g_none
  | succ n ih =>
    intro x1 x2 mm
    rw [R_longest_12]
    refine gl (i' := 13) (fun _ _ => aw_iload_n K (dOf ck_mX12_longest rfl rfl) rfl) ?_
    refine gl (i' := 14) (fun _ _ => aw_aload_n K (dOf ck_mX12_longest rfl rfl) rfl) ?_
    refine gl (i' := 15) (fun _ _ => aw_getf K (dOf ck_mX12_longest rfl rfl) rfl rfl (Nat.le_of_ble_eq_true rfl) wd_1206 (k := 1) rfl) ?_
    refine gl (i' := 16) (fun _ _ => aw_bip K (dOf ck_mX12_longest rfl rfl) (v := 18) rfl) ?_
    refine gl (i' := 17) (fun _ _ => aw_iald K (dOf ck_mX12_longest rfl rfl) rfl (by decide)) ?_
    refine g_icmp_gt K (dOf ck_mX12_longest rfl rfl) (t := 31) (aJ_of (by decide +kernel)) (fun h4 => ?_) (fun h4 => ?_)
    · refine gl (i' := 32) (fun _ _ => aw_iload_n K (dOf ck_mX12_longest rfl rfl) rfl) ?_
      refine g_if_ne K (dOf ck_mX12_longest rfl rfl) (t := 35) (aJ_of (by decide +kernel)) (fun h5 => ?_) (fun h5 => ?_)
      · refine gl (i' := 34) (fun _ _ => aw_iconst K (n := -1) (i32 _ rfl) (dOf ck_mX12_longest rfl rfl)) ?_
        refine g_goto K (dOf ck_mX12_longest rfl rfl).1 (t := 36) (aJ_of (by decide +kernel)) ?_
        exact g_iret K (by decide +kernel) rfl (Or.inl rfl) rfl
      · refine gl (i' := 36) (fun _ _ => aw_iload_n K (dOf ck_mX12_longest rfl rfl) rfl) ?_
        exact g_iret K (by decide +kernel) rfl (Or.inl rfl) rfl
    · refine gl (i' := 19) (fun _ _ => aw_aload_n K (dOf ck_mX12_longest rfl rfl) rfl) ?_
      refine gl (i' := 20) (fun _ _ => aw_iload_n K (dOf ck_mX12_longest rfl rfl) rfl) ?_
      refine g_callVIM K [.inl _] rfl (dOf ck_mX12_longest rfl rfl) al_OneBreathModel_429 rfl rfl ⟨wd_1614, wd_128⟩ rfl (Nat.le_of_ble_eq_true rfl) ⟨Nat.le_of_ble_eq_true rfl, Nat.le_of_ble_eq_true rfl⟩ (fun b hb => met_R_mostSounds  hb) (fun r6 hr6 => ?_)
      refine gl (i' := 22) (fun _ _ => aw_istore_n K (dOf ck_mX12_longest rfl rfl) (Nat.le_of_ble_eq_true rfl)) ?_
      refine g_lv (lv' := [(3, .inl _), (0, .inr (.inr (.inl (some _)))), (1, .inl _), (2, .inl _)]) rfl ?_
      refine gl (i' := 23) (fun _ _ => aw_iload_n K (dOf ck_mX12_longest rfl rfl) rfl) ?_
      refine gl (i' := 24) (fun _ _ => aw_iload_n K (dOf ck_mX12_longest rfl rfl) rfl) ?_
      refine g_icmp_le K (dOf ck_mX12_longest rfl rfl) (t := 27) (aJ_of (by decide +kernel)) (fun h7 => ?_) (fun h7 => ?_)
      · refine gl (i' := 26) (fun _ _ => aw_iload_n K (dOf ck_mX12_longest rfl rfl) rfl) ?_
        refine g_goto K (dOf ck_mX12_longest rfl rfl).1 (t := 28) (aJ_of (by decide +kernel)) ?_
        refine g_sub [1, 3] rfl ?_
        exact lk_R_longest_28 K _ _ ih _ _
      · refine gl (i' := 28) (fun _ _ => aw_iload_n K (dOf ck_mX12_longest rfl rfl) rfl) ?_
        refine g_sub [1, 3] rfl ?_
        exact lk_R_longest_28 K _ _ ih _ _
def R_longest  (mm : aM) : Option (Int × aM) := st1 (aup mm 176 0 0) fun mm1 => ((R_isEndless mm1).bind fun r2 => (if r2.1 = 0 then (R_longest_12 FU 0 1 r2.2) else (some ((-1), r2.2))))
set_option maxHeartbeats 4000000 in
theorem met_R_longest {l : Launch} {D : va_G} {cA : FieldType → ClassId} {ad adV : Nat → Nat} {z0 : Nat}  {mm : aM}  {r : Int × aM} (h : R_longest  mm = some r) : aMet l D cA ad adV z0 mX12_longest 3 66 0 0 [.inr (.inr (.inl (some 176)))] SH mm (rIM r).1 SH (rIM r).2 := by
  refine aMet_ofG (by decide +kernel) rfl (Nat.le_of_ble_eq_true rfl) h (fun p e s m args below meth c al0 K => ?_)
  unfold R_longest
  refine gl (i' := 1) (fun _ _ => aw_aload_n K (dOf ck_mX12_longest rfl rfl) rfl) ?_
  refine gl (i' := 2) (fun _ _ => aw_iconst K (n := 0) (i32 _ rfl) (dOf ck_mX12_longest rfl rfl)) ?_
  refine g_st1 ?_
  refine gl (i' := 3) (fun _ _ => aw_putf K (dOf ck_mX12_longest rfl rfl) rfl rfl (Nat.le_of_ble_eq_true rfl) wd_1205 (k := 0) rfl rfl (Or.inl rfl)) ?_
  refine gl (i' := 4) (fun _ _ => aw_aload_n K (dOf ck_mX12_longest rfl rfl) rfl) ?_
  refine g_callVIM K [] rfl (dOf ck_mX12_longest rfl rfl) al_OneBreathModel_432 rfl rfl ⟨wd_1611, wd_127⟩ rfl (Nat.le_of_ble_eq_true rfl) ⟨Nat.le_of_ble_eq_true rfl, Nat.le_of_ble_eq_true rfl⟩ (fun b hb => met_R_isEndless  hb) (fun r2 hr2 => ?_)
  refine g_if_eq K (dOf ck_mX12_longest rfl rfl) (t := 8) (aJ_of (by decide +kernel)) (fun h3 => ?_) (fun h3 => ?_)
  · refine gl (i' := 9) (fun _ _ => aw_iconst K (n := 0) (i32 _ rfl) (dOf ck_mX12_longest rfl rfl)) ?_
    refine gl (i' := 10) (fun _ _ => aw_istore_n K (dOf ck_mX12_longest rfl rfl) (Nat.le_of_ble_eq_true rfl)) ?_
    refine g_lv (lv' := [(1, .inl _), (0, .inr (.inr (.inl (some _))))]) rfl ?_
    refine gl (i' := 11) (fun _ _ => aw_iconst K (n := 1) (i32 _ rfl) (dOf ck_mX12_longest rfl rfl)) ?_
    refine gl (i' := 12) (fun _ _ => aw_istore_n K (dOf ck_mX12_longest rfl rfl) (Nat.le_of_ble_eq_true rfl)) ?_
    refine g_lv (lv' := [(2, .inl _), (1, .inl _), (0, .inr (.inr (.inl (some _))))]) rfl ?_
    refine g_sub [2, 1, 0] rfl ?_
    exact lk_R_longest_12 K FU _ _ _
  · refine gl (i' := 7) (fun _ _ => aw_iconst K (n := -1) (i32 _ rfl) (dOf ck_mX12_longest rfl rfl)) ?_
    exact g_iret K (dOf ck_mX12_longest rfl rfl).1 rfl (Or.inl rfl) rfl
def R_richBy (x1 : Int) (x2 : Int) (x3 : Int) (mm : aM) : Option Int := if 0 ≤ (w32 (19 + x2)) ∧ (w32 (19 + x2)) < 588 then (if x3 < (mm 177 (w32 (19 + x2)).toNat) then (some (-1)) else ((R_mayBe x1 x2 mm).bind fun r3 => (if r3 = 0 then (some (-1)) else (if 0 ≤ (w32 ((w32 ((w32 (x3 - (mm 177 (w32 (19 + x2)).toNat))) * 14)) + x2)) ∧ (w32 ((w32 ((w32 (x3 - (mm 177 (w32 (19 + x2)).toNat))) * 14)) + x2)) < 854 then (if (mm 204 (w32 ((w32 ((w32 (x3 - (mm 177 (w32 (19 + x2)).toNat))) * 14)) + x2)).toNat) < 0 then (some (-1)) else (if 0 ≤ (w32 (32 + x2)) ∧ (w32 (32 + x2)) < 588 then (some (w32 ((mm 204 (w32 ((w32 ((w32 (x3 - (mm 177 (w32 (19 + x2)).toNat))) * 14)) + x2)).toNat) + (mm 177 (w32 (32 + x2)).toNat)))) else none)) else none)))) else none
set_option maxHeartbeats 4000000 in
theorem met_R_richBy {l : Launch} {D : va_G} {cA : FieldType → ClassId} {ad adV : Nat → Nat} {z0 : Nat} {x1 : Int} {x2 : Int} {x3 : Int} {mm : aM}  {r : Int} (h : R_richBy x1 x2 x3 mm = some r) : aMet l D cA ad adV z0 mX12_richBy 2 44 0 0 [.inr (.inr (.inl (some 176))), .inl x1, .inl x2, .inl x3] SH mm ((rI mm) r).1 SH ((rI mm) r).2 := by
  refine aMet_ofG (by decide +kernel) rfl (Nat.le_of_ble_eq_true rfl) h (fun p e s m args below meth c al0 K => ?_)
  unfold R_richBy
  refine gl (i' := 1) (fun _ _ => aw_aload_n K (dOf ck_mX12_richBy rfl rfl) rfl) ?_
  refine gl (i' := 2) (fun _ _ => aw_getf K (dOf ck_mX12_richBy rfl rfl) rfl rfl (Nat.le_of_ble_eq_true rfl) wd_1206 (k := 1) rfl) ?_
  refine gl (i' := 3) (fun _ _ => aw_bip K (dOf ck_mX12_richBy rfl rfl) (v := 19) rfl) ?_
  refine gl (i' := 4) (fun _ _ => aw_iload_n K (dOf ck_mX12_richBy rfl rfl) rfl) ?_
  refine gl (i' := 5) (fun _ _ => aw_iadd K (dOf ck_mX12_richBy rfl rfl)) ?_
  refine g_gd (fun hb1 => ?_)
  refine gl (i' := 6) (fun _ _ => aw_iald K (dOf ck_mX12_richBy rfl rfl) rfl hb1) ?_
  refine gl (i' := 7) (fun _ _ => aw_iload_n K (dOf ck_mX12_richBy rfl rfl) rfl) ?_
  refine g_icmp_gt K (dOf ck_mX12_richBy rfl rfl) (t := 13) (aJ_of (by decide +kernel)) (fun h2 => ?_) (fun h2 => ?_)
  · refine gl (i' := 14) (fun _ _ => aw_iconst K (n := -1) (i32 _ rfl) (dOf ck_mX12_richBy rfl rfl)) ?_
    exact g_iret K (dOf ck_mX12_richBy rfl rfl).1 rfl (Or.inl rfl) rfl
  · refine gl (i' := 9) (fun _ _ => aw_aload_n K (dOf ck_mX12_richBy rfl rfl) rfl) ?_
    refine gl (i' := 10) (fun _ _ => aw_iload_n K (dOf ck_mX12_richBy rfl rfl) rfl) ?_
    refine gl (i' := 11) (fun _ _ => aw_iload_n K (dOf ck_mX12_richBy rfl rfl) rfl) ?_
    refine g_callVI K [.inl _, .inl _] rfl (dOf ck_mX12_richBy rfl rfl) al_OneBreathModel_271 rfl rfl ⟨wd_1436, wd_95⟩ rfl (Nat.le_of_ble_eq_true rfl) ⟨Nat.le_of_ble_eq_true rfl, Nat.le_of_ble_eq_true rfl⟩ (fun b hb => met_R_mayBe  hb) (fun r3 hr3 => ?_)
    refine g_if_ne K (dOf ck_mX12_richBy rfl rfl) (t := 15) (aJ_of (by decide +kernel)) (fun h4 => ?_) (fun h4 => ?_)
    · refine gl (i' := 14) (fun _ _ => aw_iconst K (n := -1) (i32 _ rfl) (dOf ck_mX12_richBy rfl rfl)) ?_
      exact g_iret K (dOf ck_mX12_richBy rfl rfl).1 rfl (Or.inl rfl) rfl
    · refine gl (i' := 16) (fun _ _ => aw_aload_n K (dOf ck_mX12_richBy rfl rfl) rfl) ?_
      refine gl (i' := 17) (fun _ _ => aw_getf K (dOf ck_mX12_richBy rfl rfl) rfl rfl (Nat.le_of_ble_eq_true rfl) wd_1254 (k := 49) rfl) ?_
      refine gl (i' := 18) (fun _ _ => aw_iload_n K (dOf ck_mX12_richBy rfl rfl) rfl) ?_
      refine gl (i' := 19) (fun _ _ => aw_aload_n K (dOf ck_mX12_richBy rfl rfl) rfl) ?_
      refine gl (i' := 20) (fun _ _ => aw_getf K (dOf ck_mX12_richBy rfl rfl) rfl rfl (Nat.le_of_ble_eq_true rfl) wd_1206 (k := 1) rfl) ?_
      refine gl (i' := 21) (fun _ _ => aw_bip K (dOf ck_mX12_richBy rfl rfl) (v := 19) rfl) ?_
      refine gl (i' := 22) (fun _ _ => aw_iload_n K (dOf ck_mX12_richBy rfl rfl) rfl) ?_
      refine gl (i' := 23) (fun _ _ => aw_iadd K (dOf ck_mX12_richBy rfl rfl)) ?_
      refine gl (i' := 24) (fun _ _ => aw_iald K (dOf ck_mX12_richBy rfl rfl) rfl hb1) ?_
      refine gl (i' := 25) (fun _ _ => aw_isub K (dOf ck_mX12_richBy rfl rfl)) ?_
      refine gl (i' := 26) (fun _ _ => aw_bip K (dOf ck_mX12_richBy rfl rfl) (v := 14) rfl) ?_
      refine gl (i' := 27) (fun _ _ => aw_imul K (dOf ck_mX12_richBy rfl rfl)) ?_
      refine gl (i' := 28) (fun _ _ => aw_iload_n K (dOf ck_mX12_richBy rfl rfl) rfl) ?_
      refine gl (i' := 29) (fun _ _ => aw_iadd K (dOf ck_mX12_richBy rfl rfl)) ?_
      refine g_gd (fun hb5 => ?_)
      refine gl (i' := 30) (fun _ _ => aw_iald K (dOf ck_mX12_richBy rfl rfl) rfl hb5) ?_
      refine gl (i' := 31) (fun _ _ => aw_istore K (dOf ck_mX12_richBy rfl rfl) (Nat.le_of_ble_eq_true rfl)) ?_
      refine g_lv (lv' := [(4, .inl _), (0, .inr (.inr (.inl (some _)))), (1, .inl _), (2, .inl _), (3, .inl _)]) rfl ?_
      refine gl (i' := 32) (fun _ _ => aw_iload K (dOf ck_mX12_richBy rfl rfl) rfl) ?_
      refine g_if_ge K (dOf ck_mX12_richBy rfl rfl) (t := 35) (aJ_of (by decide +kernel)) (fun h6 => ?_) (fun h6 => ?_)
      · refine gl (i' := 34) (fun _ _ => aw_iconst K (n := -1) (i32 _ rfl) (dOf ck_mX12_richBy rfl rfl)) ?_
        refine g_goto K (dOf ck_mX12_richBy rfl rfl).1 (t := 43) (aJ_of (by decide +kernel)) ?_
        exact g_iret K (by decide +kernel) rfl (Or.inl rfl) rfl
      · refine gl (i' := 36) (fun _ _ => aw_iload K (dOf ck_mX12_richBy rfl rfl) rfl) ?_
        refine gl (i' := 37) (fun _ _ => aw_aload_n K (dOf ck_mX12_richBy rfl rfl) rfl) ?_
        refine gl (i' := 38) (fun _ _ => aw_getf K (dOf ck_mX12_richBy rfl rfl) rfl rfl (Nat.le_of_ble_eq_true rfl) wd_1206 (k := 1) rfl) ?_
        refine gl (i' := 39) (fun _ _ => aw_bip K (dOf ck_mX12_richBy rfl rfl) (v := 32) rfl) ?_
        refine gl (i' := 40) (fun _ _ => aw_iload_n K (dOf ck_mX12_richBy rfl rfl) rfl) ?_
        refine gl (i' := 41) (fun _ _ => aw_iadd K (dOf ck_mX12_richBy rfl rfl)) ?_
        refine g_gd (fun hb7 => ?_)
        refine gl (i' := 42) (fun _ _ => aw_iald K (dOf ck_mX12_richBy rfl rfl) rfl hb7) ?_
        refine gl (i' := 43) (fun _ _ => aw_iadd K (dOf ck_mX12_richBy rfl rfl)) ?_
        exact g_iret K (by decide +kernel) rfl (Or.inl rfl) rfl
def R_laysRichest_67 (k2 : Int → aM → Option aM) (k7 : Int → aM → Option aM) (x1 : Int) (x2 : Int) (x3 : Int) (mm : aM) : Option aM := k7 (w32 (x3 + 1)) mm
set_option maxHeartbeats 4000000 in
theorem lk_R_laysRichest_67 {p : Program} {l : Launch} {e : Env} {s : State} {m : MethodId} {args : Array Value} {below : List Frame} {meth : Method} {c : Code} {D : va_G} {cA : FieldType → ClassId} {ad adV : Nat → Nat} {z0 : Nat} {al0 : List Nat} (K : aK p s m args meth c mX12_laysRichest D cA ad adV z0) (x1 : Int) (x2 : Int) (x3 : Int) (k2 : Int → aM → Option aM) (hk2 : ∀ (x2 : Int) (mm : aM), aG p l e { frames := 3, cells := 0, slots := 0, locals := 68 } s m args below meth c D cA ad z0 mX12_laysRichest al0 rM (k2 x2 mm) 2 [(0, .inr (.inr (.inl (some 176)))), (1, .inl x1), (2, .inl x2)] [] mm) (k7 : Int → aM → Option aM) (hk7 : ∀ (x3 : Int) (mm : aM), aG p l e { frames := 3, cells := 0, slots := 0, locals := 68 } s m args below meth c D cA ad z0 mX12_laysRichest al0 rM (k7 x3 mm) 7 [(0, .inr (.inr (.inl (some 176)))), (1, .inl x1), (2, .inl x2), (3, .inl x3)] [] mm)  (mm : aM) : aG p l e { frames := 3, cells := 0, slots := 0, locals := 68 } s m args below meth c D cA ad z0 mX12_laysRichest al0 rM (R_laysRichest_67 k2 k7 x1 x2 x3 mm) 67 [(0, .inr (.inr (.inl (some 176)))), (1, .inl x1), (2, .inl x2), (3, .inl x3)] [] mm := by
  unfold R_laysRichest_67
  refine gl (i' := 68) (fun _ _ => aw_iinc K (dOf ck_mX12_laysRichest rfl rfl) (Nat.le_of_ble_eq_true rfl) rfl) ?_
  refine g_lv (lv' := [(3, .inl _), (0, .inr (.inr (.inl (some _)))), (1, .inl _), (2, .inl _)]) rfl ?_
  refine g_goto K (dOf ck_mX12_laysRichest rfl rfl).1 (t := 7) (aJ_of (by decide +kernel)) ?_
  refine g_sub [1, 2, 3, 0] rfl ?_
  exact hk7 _ _
def R_laysRichest_58 (k2 : Int → aM → Option aM) (k7 : Int → aM → Option aM) (x1 : Int) (x2 : Int) (x3 : Int) (x4 : Int) (mm : aM) : Option aM := if 0 ≤ (w32 ((w32 (x2 * 14)) + x3)) ∧ (w32 ((w32 (x2 * 14)) + x3)) < 854 then (st1 (aup mm 204 (w32 ((w32 (x2 * 14)) + x3)).toNat x4) fun mm7 => (R_laysRichest_67 k2 k7 x1 x2 x3 mm7)) else none
set_option maxHeartbeats 4000000 in
theorem lk_R_laysRichest_58 {p : Program} {l : Launch} {e : Env} {s : State} {m : MethodId} {args : Array Value} {below : List Frame} {meth : Method} {c : Code} {D : va_G} {cA : FieldType → ClassId} {ad adV : Nat → Nat} {z0 : Nat} {al0 : List Nat} (K : aK p s m args meth c mX12_laysRichest D cA ad adV z0) (x1 : Int) (x2 : Int) (x3 : Int) (x4 : Int) (k2 : Int → aM → Option aM) (hk2 : ∀ (x2 : Int) (mm : aM), aG p l e { frames := 3, cells := 0, slots := 0, locals := 68 } s m args below meth c D cA ad z0 mX12_laysRichest al0 rM (k2 x2 mm) 2 [(0, .inr (.inr (.inl (some 176)))), (1, .inl x1), (2, .inl x2)] [] mm) (k7 : Int → aM → Option aM) (hk7 : ∀ (x3 : Int) (mm : aM), aG p l e { frames := 3, cells := 0, slots := 0, locals := 68 } s m args below meth c D cA ad z0 mX12_laysRichest al0 rM (k7 x3 mm) 7 [(0, .inr (.inr (.inl (some 176)))), (1, .inl x1), (2, .inl x2), (3, .inl x3)] [] mm)  (mm : aM) : aG p l e { frames := 3, cells := 0, slots := 0, locals := 68 } s m args below meth c D cA ad z0 mX12_laysRichest al0 rM (R_laysRichest_58 k2 k7 x1 x2 x3 x4 mm) 58 [(0, .inr (.inr (.inl (some 176)))), (1, .inl x1), (2, .inl x2), (3, .inl x3), (4, .inl x4)] [] mm := by
  unfold R_laysRichest_58
  refine gl (i' := 59) (fun _ _ => aw_aload_n K (dOf ck_mX12_laysRichest rfl rfl) rfl) ?_
  refine gl (i' := 60) (fun _ _ => aw_getf K (dOf ck_mX12_laysRichest rfl rfl) rfl rfl (Nat.le_of_ble_eq_true rfl) wd_1254 (k := 49) rfl) ?_
  refine gl (i' := 61) (fun _ _ => aw_iload_n K (dOf ck_mX12_laysRichest rfl rfl) rfl) ?_
  refine gl (i' := 62) (fun _ _ => aw_bip K (dOf ck_mX12_laysRichest rfl rfl) (v := 14) rfl) ?_
  refine gl (i' := 63) (fun _ _ => aw_imul K (dOf ck_mX12_laysRichest rfl rfl)) ?_
  refine gl (i' := 64) (fun _ _ => aw_iload_n K (dOf ck_mX12_laysRichest rfl rfl) rfl) ?_
  refine gl (i' := 65) (fun _ _ => aw_iadd K (dOf ck_mX12_laysRichest rfl rfl)) ?_
  refine gl (i' := 66) (fun _ _ => aw_iload K (dOf ck_mX12_laysRichest rfl rfl) rfl) ?_
  refine g_gd (fun hb6 => ?_)
  refine g_st1 ?_
  refine gl (i' := 67) (fun _ _ => aw_iast K (dOf ck_mX12_laysRichest rfl rfl) rfl hb6) ?_
  refine g_sub [0, 1, 2, 3] rfl ?_
  exact lk_R_laysRichest_67 K _ _ _ _ hk2 _ hk7 _
def R_laysRichest_55 (k2 : Int → aM → Option aM) (k7 : Int → aM → Option aM) (k35 : Int → Int → aM → Option aM) (x1 : Int) (x2 : Int) (x3 : Int) (x5 : Int) (s0 : Int) (mm : aM) : Option aM := k35 s0 (w32 (x5 + 1)) mm
set_option maxHeartbeats 4000000 in
theorem lk_R_laysRichest_55 {p : Program} {l : Launch} {e : Env} {s : State} {m : MethodId} {args : Array Value} {below : List Frame} {meth : Method} {c : Code} {D : va_G} {cA : FieldType → ClassId} {ad adV : Nat → Nat} {z0 : Nat} {al0 : List Nat} (K : aK p s m args meth c mX12_laysRichest D cA ad adV z0) (x1 : Int) (x2 : Int) (x3 : Int) (x5 : Int) (k2 : Int → aM → Option aM) (hk2 : ∀ (x2 : Int) (mm : aM), aG p l e { frames := 3, cells := 0, slots := 0, locals := 68 } s m args below meth c D cA ad z0 mX12_laysRichest al0 rM (k2 x2 mm) 2 [(0, .inr (.inr (.inl (some 176)))), (1, .inl x1), (2, .inl x2)] [] mm) (k7 : Int → aM → Option aM) (hk7 : ∀ (x3 : Int) (mm : aM), aG p l e { frames := 3, cells := 0, slots := 0, locals := 68 } s m args below meth c D cA ad z0 mX12_laysRichest al0 rM (k7 x3 mm) 7 [(0, .inr (.inr (.inl (some 176)))), (1, .inl x1), (2, .inl x2), (3, .inl x3)] [] mm) (k35 : Int → Int → aM → Option aM) (hk35 : ∀ (x4 : Int) (x5 : Int) (mm : aM), aG p l e { frames := 3, cells := 0, slots := 0, locals := 68 } s m args below meth c D cA ad z0 mX12_laysRichest al0 rM (k35 x4 x5 mm) 35 [(0, .inr (.inr (.inl (some 176)))), (1, .inl x1), (2, .inl x2), (3, .inl x3), (4, .inl x4), (5, .inl x5)] [] mm)  (s0 : Int) (mm : aM) : aG p l e { frames := 3, cells := 0, slots := 0, locals := 68 } s m args below meth c D cA ad z0 mX12_laysRichest al0 rM (R_laysRichest_55 k2 k7 k35 x1 x2 x3 x5 s0 mm) 55 [(0, .inr (.inr (.inl (some 176)))), (1, .inl x1), (2, .inl x2), (3, .inl x3), (5, .inl x5)] [.inl s0] mm := by
  unfold R_laysRichest_55
  refine gl (i' := 56) (fun _ _ => aw_istore K (dOf ck_mX12_laysRichest rfl rfl) (Nat.le_of_ble_eq_true rfl)) ?_
  refine g_lv (lv' := [(4, .inl _), (0, .inr (.inr (.inl (some _)))), (1, .inl _), (2, .inl _), (3, .inl _), (5, .inl _)]) rfl ?_
  refine gl (i' := 57) (fun _ _ => aw_iinc K (dOf ck_mX12_laysRichest rfl rfl) (Nat.le_of_ble_eq_true rfl) rfl) ?_
  refine g_lv (lv' := [(5, .inl _), (4, .inl _), (0, .inr (.inr (.inl (some _)))), (1, .inl _), (2, .inl _), (3, .inl _)]) rfl ?_
  refine g_goto K (dOf ck_mX12_laysRichest rfl rfl).1 (t := 35) (aJ_of (by decide +kernel)) ?_
  refine g_sub [2, 3, 4, 5, 1, 0] rfl ?_
  exact hk35 _ _ _
def R_laysRichest_35 (k2 : Int → aM → Option aM) (k7 : Int → aM → Option aM) (x1 : Int) (x2 : Int) (x3 : Int) : Nat → Int → Int → aM → Option aM
  | 0, _, _, _ => none
  | n + 1, x4, x5, mm => if x5 < (mm 177 18) then (if 0 < x2 then ((R_richBy x3 x5 x2 mm).bind fun r9 => (if x4 < r9 then (R_laysRichest_55 k2 k7 (R_laysRichest_35 k2 k7 x1 x2 x3 n) x1 x2 x3 x5 r9 mm) else (R_laysRichest_55 k2 k7 (R_laysRichest_35 k2 k7 x1 x2 x3 n) x1 x2 x3 x5 x4 mm))) else (R_laysRichest_58 k2 k7 x1 x2 x3 x4 mm)) else (R_laysRichest_58 k2 k7 x1 x2 x3 x4 mm)
set_option maxHeartbeats 4000000 in
theorem lk_R_laysRichest_35 {p : Program} {l : Launch} {e : Env} {s : State} {m : MethodId} {args : Array Value} {below : List Frame} {meth : Method} {c : Code} {D : va_G} {cA : FieldType → ClassId} {ad adV : Nat → Nat} {z0 : Nat} {al0 : List Nat} (K : aK p s m args meth c mX12_laysRichest D cA ad adV z0) (x1 : Int) (x2 : Int) (x3 : Int) (k2 : Int → aM → Option aM) (hk2 : ∀ (x2 : Int) (mm : aM), aG p l e { frames := 3, cells := 0, slots := 0, locals := 68 } s m args below meth c D cA ad z0 mX12_laysRichest al0 rM (k2 x2 mm) 2 [(0, .inr (.inr (.inl (some 176)))), (1, .inl x1), (2, .inl x2)] [] mm) (k7 : Int → aM → Option aM) (hk7 : ∀ (x3 : Int) (mm : aM), aG p l e { frames := 3, cells := 0, slots := 0, locals := 68 } s m args below meth c D cA ad z0 mX12_laysRichest al0 rM (k7 x3 mm) 7 [(0, .inr (.inr (.inl (some 176)))), (1, .inl x1), (2, .inl x2), (3, .inl x3)] [] mm)  : ∀ (n : Nat) (x4 : Int) (x5 : Int) (mm : aM), aG p l e { frames := 3, cells := 0, slots := 0, locals := 68 } s m args below meth c D cA ad z0 mX12_laysRichest al0 rM (R_laysRichest_35 k2 k7 x1 x2 x3 n x4 x5 mm) 35 [(0, .inr (.inr (.inl (some 176)))), (1, .inl x1), (2, .inl x2), (3, .inl x3), (4, .inl x4), (5, .inl x5)] [] mm := by
  intro n
  induction n with
  | zero => intro x4 x5 mm; exact g_none
  | succ n ih =>
    intro x4 x5 mm
    rw [R_laysRichest_35]
    refine gl (i' := 36) (fun _ _ => aw_iload K (dOf ck_mX12_laysRichest rfl rfl) rfl) ?_
    refine gl (i' := 37) (fun _ _ => aw_aload_n K (dOf ck_mX12_laysRichest rfl rfl) rfl) ?_
    refine gl (i' := 38) (fun _ _ => aw_getf K (dOf ck_mX12_laysRichest rfl rfl) rfl rfl (Nat.le_of_ble_eq_true rfl) wd_1206 (k := 1) rfl) ?_
    refine gl (i' := 39) (fun _ _ => aw_bip K (dOf ck_mX12_laysRichest rfl rfl) (v := 18) rfl) ?_
    refine gl (i' := 40) (fun _ _ => aw_iald K (dOf ck_mX12_laysRichest rfl rfl) rfl (by decide)) ?_
    refine g_icmp_ge K (dOf ck_mX12_laysRichest rfl rfl) (t := 58) (aJ_of (by decide +kernel)) (fun h5 => ?_) (fun h5 => ?_)
    · refine gl (i' := 42) (fun _ _ => aw_iload_n K (dOf ck_mX12_laysRichest rfl rfl) rfl) ?_
      refine g_if_le K (dOf ck_mX12_laysRichest rfl rfl) (t := 58) (aJ_of (by decide +kernel)) (fun h8 => ?_) (fun h8 => ?_)
      · refine gl (i' := 44) (fun _ _ => aw_aload_n K (dOf ck_mX12_laysRichest rfl rfl) rfl) ?_
        refine gl (i' := 45) (fun _ _ => aw_iload_n K (dOf ck_mX12_laysRichest rfl rfl) rfl) ?_
        refine gl (i' := 46) (fun _ _ => aw_iload K (dOf ck_mX12_laysRichest rfl rfl) rfl) ?_
        refine gl (i' := 47) (fun _ _ => aw_iload_n K (dOf ck_mX12_laysRichest rfl rfl) rfl) ?_
        refine g_callVI K [.inl _, .inl _, .inl _] rfl (dOf ck_mX12_laysRichest rfl rfl) al_OneBreathModel_435 rfl rfl ⟨wd_1628, wd_130⟩ rfl (Nat.le_of_ble_eq_true rfl) ⟨Nat.le_of_ble_eq_true rfl, Nat.le_of_ble_eq_true rfl⟩ (fun b hb => met_R_richBy  hb) (fun r9 hr9 => ?_)
        refine gl (i' := 49) (fun _ _ => aw_istore K (dOf ck_mX12_laysRichest rfl rfl) (Nat.le_of_ble_eq_true rfl)) ?_
        refine g_lv (lv' := [(6, .inl _), (0, .inr (.inr (.inl (some _)))), (1, .inl _), (2, .inl _), (3, .inl _), (4, .inl _), (5, .inl _)]) rfl ?_
        refine gl (i' := 50) (fun _ _ => aw_iload K (dOf ck_mX12_laysRichest rfl rfl) rfl) ?_
        refine gl (i' := 51) (fun _ _ => aw_iload K (dOf ck_mX12_laysRichest rfl rfl) rfl) ?_
        refine g_icmp_le K (dOf ck_mX12_laysRichest rfl rfl) (t := 54) (aJ_of (by decide +kernel)) (fun h10 => ?_) (fun h10 => ?_)
        · refine gl (i' := 53) (fun _ _ => aw_iload K (dOf ck_mX12_laysRichest rfl rfl) rfl) ?_
          refine g_goto K (dOf ck_mX12_laysRichest rfl rfl).1 (t := 55) (aJ_of (by decide +kernel)) ?_
          refine g_sub [1, 2, 3, 4, 6] rfl ?_
          exact lk_R_laysRichest_55 K _ _ _ _ _ hk2 _ hk7 _ ih _ _
        · refine gl (i' := 55) (fun _ _ => aw_iload K (dOf ck_mX12_laysRichest rfl rfl) rfl) ?_
          refine g_sub [1, 2, 3, 4, 6] rfl ?_
          exact lk_R_laysRichest_55 K _ _ _ _ _ hk2 _ hk7 _ ih _ _
      · refine g_sub [0, 1, 2, 3, 4] rfl ?_
        exact lk_R_laysRichest_58 K _ _ _ _ _ hk2 _ hk7 _
    · refine g_sub [0, 1, 2, 3, 4] rfl ?_
      exact lk_R_laysRichest_58 K _ _ _ _ _ hk2 _ hk7 _
def R_laysRichest_32 (k2 : Int → aM → Option aM) (k7 : Int → aM → Option aM) (x1 : Int) (x2 : Int) (x3 : Int) (s0 : Int) (mm : aM) : Option aM := R_laysRichest_35 k2 k7 x1 x2 x3 FU s0 0 mm
set_option maxHeartbeats 4000000 in
theorem lk_R_laysRichest_32 {p : Program} {l : Launch} {e : Env} {s : State} {m : MethodId} {args : Array Value} {below : List Frame} {meth : Method} {c : Code} {D : va_G} {cA : FieldType → ClassId} {ad adV : Nat → Nat} {z0 : Nat} {al0 : List Nat} (K : aK p s m args meth c mX12_laysRichest D cA ad adV z0) (x1 : Int) (x2 : Int) (x3 : Int) (k2 : Int → aM → Option aM) (hk2 : ∀ (x2 : Int) (mm : aM), aG p l e { frames := 3, cells := 0, slots := 0, locals := 68 } s m args below meth c D cA ad z0 mX12_laysRichest al0 rM (k2 x2 mm) 2 [(0, .inr (.inr (.inl (some 176)))), (1, .inl x1), (2, .inl x2)] [] mm) (k7 : Int → aM → Option aM) (hk7 : ∀ (x3 : Int) (mm : aM), aG p l e { frames := 3, cells := 0, slots := 0, locals := 68 } s m args below meth c D cA ad z0 mX12_laysRichest al0 rM (k7 x3 mm) 7 [(0, .inr (.inr (.inl (some 176)))), (1, .inl x1), (2, .inl x2), (3, .inl x3)] [] mm)  (s0 : Int) (mm : aM) : aG p l e { frames := 3, cells := 0, slots := 0, locals := 68 } s m args below meth c D cA ad z0 mX12_laysRichest al0 rM (R_laysRichest_32 k2 k7 x1 x2 x3 s0 mm) 32 [(0, .inr (.inr (.inl (some 176)))), (1, .inl x1), (2, .inl x2), (3, .inl x3)] [.inl s0] mm := by
  unfold R_laysRichest_32
  refine gl (i' := 33) (fun _ _ => aw_istore K (dOf ck_mX12_laysRichest rfl rfl) (Nat.le_of_ble_eq_true rfl)) ?_
  refine g_lv (lv' := [(4, .inl _), (0, .inr (.inr (.inl (some _)))), (1, .inl _), (2, .inl _), (3, .inl _)]) rfl ?_
  refine gl (i' := 34) (fun _ _ => aw_iconst K (n := 0) (i32 _ rfl) (dOf ck_mX12_laysRichest rfl rfl)) ?_
  refine gl (i' := 35) (fun _ _ => aw_istore K (dOf ck_mX12_laysRichest rfl rfl) (Nat.le_of_ble_eq_true rfl)) ?_
  refine g_lv (lv' := [(5, .inl _), (4, .inl _), (0, .inr (.inr (.inl (some _)))), (1, .inl _), (2, .inl _), (3, .inl _)]) rfl ?_
  refine g_sub [2, 3, 4, 5, 1, 0] rfl ?_
  exact lk_R_laysRichest_35 K _ _ _ _ hk2 _ hk7 FU _ _ _
def R_laysRichest_31 (k2 : Int → aM → Option aM) (k7 : Int → aM → Option aM) (x1 : Int) (x2 : Int) (x3 : Int) (mm : aM) : Option aM := R_laysRichest_32 k2 k7 x1 x2 x3 (-1) mm
set_option maxHeartbeats 4000000 in
theorem lk_R_laysRichest_31 {p : Program} {l : Launch} {e : Env} {s : State} {m : MethodId} {args : Array Value} {below : List Frame} {meth : Method} {c : Code} {D : va_G} {cA : FieldType → ClassId} {ad adV : Nat → Nat} {z0 : Nat} {al0 : List Nat} (K : aK p s m args meth c mX12_laysRichest D cA ad adV z0) (x1 : Int) (x2 : Int) (x3 : Int) (k2 : Int → aM → Option aM) (hk2 : ∀ (x2 : Int) (mm : aM), aG p l e { frames := 3, cells := 0, slots := 0, locals := 68 } s m args below meth c D cA ad z0 mX12_laysRichest al0 rM (k2 x2 mm) 2 [(0, .inr (.inr (.inl (some 176)))), (1, .inl x1), (2, .inl x2)] [] mm) (k7 : Int → aM → Option aM) (hk7 : ∀ (x3 : Int) (mm : aM), aG p l e { frames := 3, cells := 0, slots := 0, locals := 68 } s m args below meth c D cA ad z0 mX12_laysRichest al0 rM (k7 x3 mm) 7 [(0, .inr (.inr (.inl (some 176)))), (1, .inl x1), (2, .inl x2), (3, .inl x3)] [] mm)  (mm : aM) : aG p l e { frames := 3, cells := 0, slots := 0, locals := 68 } s m args below meth c D cA ad z0 mX12_laysRichest al0 rM (R_laysRichest_31 k2 k7 x1 x2 x3 mm) 31 [(0, .inr (.inr (.inl (some 176)))), (1, .inl x1), (2, .inl x2), (3, .inl x3)] [] mm := by
  unfold R_laysRichest_31
  refine gl (i' := 32) (fun _ _ => aw_iconst K (n := -1) (i32 _ rfl) (dOf ck_mX12_laysRichest rfl rfl)) ?_
  refine g_sub [0, 1, 2, 3] rfl ?_
  exact lk_R_laysRichest_32 K _ _ _ _ hk2 _ hk7 _ _
def R_laysRichest_20 (k2 : Int → aM → Option aM) (k7 : Int → aM → Option aM) (x1 : Int) (x2 : Int) (x3 : Int) (mm : aM) : Option aM := if x2 = 0 then (if x3 < 13 then ((R_mayEnd x3 mm).bind fun r12 => (if r12 = 0 then (R_laysRichest_31 k2 k7 x1 x2 x3 mm) else (R_laysRichest_32 k2 k7 x1 x2 x3 0 mm))) else (R_laysRichest_31 k2 k7 x1 x2 x3 mm)) else (R_laysRichest_31 k2 k7 x1 x2 x3 mm)
set_option maxHeartbeats 4000000 in
theorem lk_R_laysRichest_20 {p : Program} {l : Launch} {e : Env} {s : State} {m : MethodId} {args : Array Value} {below : List Frame} {meth : Method} {c : Code} {D : va_G} {cA : FieldType → ClassId} {ad adV : Nat → Nat} {z0 : Nat} {al0 : List Nat} (K : aK p s m args meth c mX12_laysRichest D cA ad adV z0) (x1 : Int) (x2 : Int) (x3 : Int) (k2 : Int → aM → Option aM) (hk2 : ∀ (x2 : Int) (mm : aM), aG p l e { frames := 3, cells := 0, slots := 0, locals := 68 } s m args below meth c D cA ad z0 mX12_laysRichest al0 rM (k2 x2 mm) 2 [(0, .inr (.inr (.inl (some 176)))), (1, .inl x1), (2, .inl x2)] [] mm) (k7 : Int → aM → Option aM) (hk7 : ∀ (x3 : Int) (mm : aM), aG p l e { frames := 3, cells := 0, slots := 0, locals := 68 } s m args below meth c D cA ad z0 mX12_laysRichest al0 rM (k7 x3 mm) 7 [(0, .inr (.inr (.inl (some 176)))), (1, .inl x1), (2, .inl x2), (3, .inl x3)] [] mm)  (mm : aM) : aG p l e { frames := 3, cells := 0, slots := 0, locals := 68 } s m args below meth c D cA ad z0 mX12_laysRichest al0 rM (R_laysRichest_20 k2 k7 x1 x2 x3 mm) 20 [(0, .inr (.inr (.inl (some 176)))), (1, .inl x1), (2, .inl x2), (3, .inl x3)] [] mm := by
  unfold R_laysRichest_20
  refine gl (i' := 21) (fun _ _ => aw_iload_n K (dOf ck_mX12_laysRichest rfl rfl) rfl) ?_
  refine g_if_ne K (dOf ck_mX12_laysRichest rfl rfl) (t := 31) (aJ_of (by decide +kernel)) (fun h4 => ?_) (fun h4 => ?_)
  · refine gl (i' := 23) (fun _ _ => aw_iload_n K (dOf ck_mX12_laysRichest rfl rfl) rfl) ?_
    refine gl (i' := 24) (fun _ _ => aw_bip K (dOf ck_mX12_laysRichest rfl rfl) (v := 13) rfl) ?_
    refine g_icmp_ge K (dOf ck_mX12_laysRichest rfl rfl) (t := 31) (aJ_of (by decide +kernel)) (fun h11 => ?_) (fun h11 => ?_)
    · refine gl (i' := 26) (fun _ _ => aw_aload_n K (dOf ck_mX12_laysRichest rfl rfl) rfl) ?_
      refine gl (i' := 27) (fun _ _ => aw_iload_n K (dOf ck_mX12_laysRichest rfl rfl) rfl) ?_
      refine g_callVI K [.inl _] rfl (dOf ck_mX12_laysRichest rfl rfl) al_OneBreathModel_253 rfl rfl ⟨wd_1402, wd_89⟩ rfl (Nat.le_of_ble_eq_true rfl) ⟨Nat.le_of_ble_eq_true rfl, Nat.le_of_ble_eq_true rfl⟩ (fun b hb => met_R_mayEnd  hb) (fun r12 hr12 => ?_)
      refine g_if_eq K (dOf ck_mX12_laysRichest rfl rfl) (t := 31) (aJ_of (by decide +kernel)) (fun h13 => ?_) (fun h13 => ?_)
      · refine g_sub [0, 1, 2, 3] rfl ?_
        exact lk_R_laysRichest_31 K _ _ _ _ hk2 _ hk7 _
      · refine gl (i' := 30) (fun _ _ => aw_iconst K (n := 0) (i32 _ rfl) (dOf ck_mX12_laysRichest rfl rfl)) ?_
        refine g_goto K (dOf ck_mX12_laysRichest rfl rfl).1 (t := 32) (aJ_of (by decide +kernel)) ?_
        refine g_sub [0, 1, 2, 3] rfl ?_
        exact lk_R_laysRichest_32 K _ _ _ _ hk2 _ hk7 _ _
    · refine g_sub [0, 1, 2, 3] rfl ?_
      exact lk_R_laysRichest_31 K _ _ _ _ hk2 _ hk7 _
  · refine g_sub [0, 1, 2, 3] rfl ?_
    exact lk_R_laysRichest_31 K _ _ _ _ hk2 _ hk7 _
def R_laysRichest_7 (k2 : Int → aM → Option aM) (x1 : Int) (x2 : Int) : Nat → Int → aM → Option aM
  | 0, _, _ => none
  | n + 1, x3, mm => if x3 < 14 then (if x3 < 13 then (if x3 < (mm 177 18) then (R_laysRichest_20 k2 (R_laysRichest_7 k2 x1 x2 n) x1 x2 x3 mm) else (R_laysRichest_67 k2 (R_laysRichest_7 k2 x1 x2 n) x1 x2 x3 mm)) else (R_laysRichest_20 k2 (R_laysRichest_7 k2 x1 x2 n) x1 x2 x3 mm)) else (k2 (w32 (x2 + 1)) mm)
set_option maxHeartbeats 4000000 in
theorem lk_R_laysRichest_7 {p : Program} {l : Launch} {e : Env} {s : State} {m : MethodId} {args : Array Value} {below : List Frame} {meth : Method} {c : Code} {D : va_G} {cA : FieldType → ClassId} {ad adV : Nat → Nat} {z0 : Nat} {al0 : List Nat} (K : aK p s m args meth c mX12_laysRichest D cA ad adV z0) (x1 : Int) (x2 : Int) (k2 : Int → aM → Option aM) (hk2 : ∀ (x2 : Int) (mm : aM), aG p l e { frames := 3, cells := 0, slots := 0, locals := 68 } s m args below meth c D cA ad z0 mX12_laysRichest al0 rM (k2 x2 mm) 2 [(0, .inr (.inr (.inl (some 176)))), (1, .inl x1), (2, .inl x2)] [] mm)  : ∀ (n : Nat) (x3 : Int) (mm : aM), aG p l e { frames := 3, cells := 0, slots := 0, locals := 68 } s m args below meth c D cA ad z0 mX12_laysRichest al0 rM (R_laysRichest_7 k2 x1 x2 n x3 mm) 7 [(0, .inr (.inr (.inl (some 176)))), (1, .inl x1), (2, .inl x2), (3, .inl x3)] [] mm := by
  intro n
  induction n with
  | zero => intro x3 mm; exact g_none
  | succ n ih =>
    intro x3 mm
    rw [R_laysRichest_7]
    refine gl (i' := 8) (fun _ _ => aw_iload_n K (dOf ck_mX12_laysRichest rfl rfl) rfl) ?_
    refine gl (i' := 9) (fun _ _ => aw_bip K (dOf ck_mX12_laysRichest rfl rfl) (v := 14) rfl) ?_
    refine g_icmp_ge K (dOf ck_mX12_laysRichest rfl rfl) (t := 69) (aJ_of (by decide +kernel)) (fun h2 => ?_) (fun h2 => ?_)
    · refine gl (i' := 11) (fun _ _ => aw_iload_n K (dOf ck_mX12_laysRichest rfl rfl) rfl) ?_
      refine gl (i' := 12) (fun _ _ => aw_bip K (dOf ck_mX12_laysRichest rfl rfl) (v := 13) rfl) ?_
      refine g_icmp_ge K (dOf ck_mX12_laysRichest rfl rfl) (t := 20) (aJ_of (by decide +kernel)) (fun h3 => ?_) (fun h3 => ?_)
      · refine gl (i' := 14) (fun _ _ => aw_iload_n K (dOf ck_mX12_laysRichest rfl rfl) rfl) ?_
        refine gl (i' := 15) (fun _ _ => aw_aload_n K (dOf ck_mX12_laysRichest rfl rfl) rfl) ?_
        refine gl (i' := 16) (fun _ _ => aw_getf K (dOf ck_mX12_laysRichest rfl rfl) rfl rfl (Nat.le_of_ble_eq_true rfl) wd_1206 (k := 1) rfl) ?_
        refine gl (i' := 17) (fun _ _ => aw_bip K (dOf ck_mX12_laysRichest rfl rfl) (v := 18) rfl) ?_
        refine gl (i' := 18) (fun _ _ => aw_iald K (dOf ck_mX12_laysRichest rfl rfl) rfl (by decide)) ?_
        refine g_icmp_lt K (dOf ck_mX12_laysRichest rfl rfl) (t := 20) (aJ_of (by decide +kernel)) (fun h14 => ?_) (fun h14 => ?_)
        · refine g_sub [0, 1, 2, 3] rfl ?_
          exact lk_R_laysRichest_20 K _ _ _ _ hk2 _ ih _
        · refine g_goto K (dOf ck_mX12_laysRichest rfl rfl).1 (t := 67) (aJ_of (by decide +kernel)) ?_
          refine g_sub [0, 1, 2, 3] rfl ?_
          exact lk_R_laysRichest_67 K _ _ _ _ hk2 _ ih _
      · refine g_sub [0, 1, 2, 3] rfl ?_
        exact lk_R_laysRichest_20 K _ _ _ _ hk2 _ ih _
    · refine gl (i' := 70) (fun _ _ => aw_iinc K (dOf ck_mX12_laysRichest rfl rfl) (Nat.le_of_ble_eq_true rfl) rfl) ?_
      refine g_lv (lv' := [(2, .inl _), (0, .inr (.inr (.inl (some _)))), (1, .inl _), (3, .inl _)]) rfl ?_
      refine g_goto K (dOf ck_mX12_laysRichest rfl rfl).1 (t := 2) (aJ_of (by decide +kernel)) ?_
      refine g_sub [1, 2, 0] rfl ?_
      exact hk2 _ _
def R_laysRichest_2 (x1 : Int) : Nat → Int → aM → Option aM
  | 0, _, _ => none
  | n + 1, x2, mm => if x1 < x2 then (some mm) else (R_laysRichest_7 (R_laysRichest_2 x1 n) x1 x2 FU 0 mm)
set_option maxHeartbeats 4000000 in
theorem lk_R_laysRichest_2 {p : Program} {l : Launch} {e : Env} {s : State} {m : MethodId} {args : Array Value} {below : List Frame} {meth : Method} {c : Code} {D : va_G} {cA : FieldType → ClassId} {ad adV : Nat → Nat} {z0 : Nat} {al0 : List Nat} (K : aK p s m args meth c mX12_laysRichest D cA ad adV z0) (x1 : Int)  : ∀ (n : Nat) (x2 : Int) (mm : aM), aG p l e { frames := 3, cells := 0, slots := 0, locals := 68 } s m args below meth c D cA ad z0 mX12_laysRichest al0 rM (R_laysRichest_2 x1 n x2 mm) 2 [(0, .inr (.inr (.inl (some 176)))), (1, .inl x1), (2, .inl x2)] [] mm := by
  intro n
  induction n with
  | zero => intro x2 mm; exact g_none
  | succ n ih =>
    intro x2 mm
    rw [R_laysRichest_2]
    refine gl (i' := 3) (fun _ _ => aw_iload_n K (dOf ck_mX12_laysRichest rfl rfl) rfl) ?_
    refine gl (i' := 4) (fun _ _ => aw_iload_n K (dOf ck_mX12_laysRichest rfl rfl) rfl) ?_
    refine g_icmp_gt K (dOf ck_mX12_laysRichest rfl rfl) (t := 71) (aJ_of (by decide +kernel)) (fun h1 => ?_) (fun h1 => ?_)
    · exact g_vret K (by decide +kernel) rfl rfl
    · refine gl (i' := 6) (fun _ _ => aw_iconst K (n := 0) (i32 _ rfl) (dOf ck_mX12_laysRichest rfl rfl)) ?_
      refine gl (i' := 7) (fun _ _ => aw_istore_n K (dOf ck_mX12_laysRichest rfl rfl) (Nat.le_of_ble_eq_true rfl)) ?_
      refine g_lv (lv' := [(3, .inl _), (0, .inr (.inr (.inl (some _)))), (1, .inl _), (2, .inl _)]) rfl ?_
      refine g_sub [1, 2, 3, 0] rfl ?_
      exact lk_R_laysRichest_7 K _ _ _ ih FU _ _
def R_laysRichest (x1 : Int) (mm : aM) : Option aM := R_laysRichest_2 x1 FU 0 mm
set_option maxHeartbeats 4000000 in
theorem met_R_laysRichest {l : Launch} {D : va_G} {cA : FieldType → ClassId} {ad adV : Nat → Nat} {z0 : Nat} {x1 : Int} {mm : aM}  {r : aM} (h : R_laysRichest x1 mm = some r) : aMet l D cA ad adV z0 mX12_laysRichest 3 68 0 0 [.inr (.inr (.inl (some 176))), .inl x1] SH mm (rM r).1 SH (rM r).2 := by
  refine aMet_ofG (by decide +kernel) rfl (Nat.le_of_ble_eq_true rfl) h (fun p e s m args below meth c al0 K => ?_)
  unfold R_laysRichest
  refine gl (i' := 1) (fun _ _ => aw_iconst K (n := 0) (i32 _ rfl) (dOf ck_mX12_laysRichest rfl rfl)) ?_
  refine gl (i' := 2) (fun _ _ => aw_istore_n K (dOf ck_mX12_laysRichest rfl rfl) (Nat.le_of_ble_eq_true rfl)) ?_
  refine g_lv (lv' := [(2, .inl _), (0, .inr (.inr (.inl (some _)))), (1, .inl _)]) rfl ?_
  refine g_sub [1, 2, 0] rfl ?_
  exact lk_R_laysRichest_2 K _ FU _ _
def R_richest_29 (x1 : Int) (mm : aM) : Option (Int × aM) := if 0 ≤ (w32 ((w32 (x1 * 14)) + 13)) ∧ (w32 ((w32 (x1 * 14)) + 13)) < 854 then (some (mm 204 (w32 ((w32 (x1 * 14)) + 13)).toNat, mm)) else none
set_option maxHeartbeats 4000000 in
theorem lk_R_richest_29 {p : Program} {l : Launch} {e : Env} {s : State} {m : MethodId} {args : Array Value} {below : List Frame} {meth : Method} {c : Code} {D : va_G} {cA : FieldType → ClassId} {ad adV : Nat → Nat} {z0 : Nat} {al0 : List Nat} (K : aK p s m args meth c mX12_richest D cA ad adV z0) (x1 : Int)  (mm : aM) : aG p l e { frames := 4, cells := 0, slots := 0, locals := 94 } s m args below meth c D cA ad z0 mX12_richest al0 rIM (R_richest_29 x1 mm) 29 [(0, .inr (.inr (.inl (some 176)))), (1, .inl x1)] [] mm := by
  unfold R_richest_29
  refine gl (i' := 30) (fun _ _ => aw_aload_n K (dOf ck_mX12_richest rfl rfl) rfl) ?_
  refine gl (i' := 31) (fun _ _ => aw_getf K (dOf ck_mX12_richest rfl rfl) rfl rfl (Nat.le_of_ble_eq_true rfl) wd_1254 (k := 49) rfl) ?_
  refine gl (i' := 32) (fun _ _ => aw_iload_n K (dOf ck_mX12_richest rfl rfl) rfl) ?_
  refine gl (i' := 33) (fun _ _ => aw_bip K (dOf ck_mX12_richest rfl rfl) (v := 14) rfl) ?_
  refine gl (i' := 34) (fun _ _ => aw_imul K (dOf ck_mX12_richest rfl rfl)) ?_
  refine gl (i' := 35) (fun _ _ => aw_bip K (dOf ck_mX12_richest rfl rfl) (v := 13) rfl) ?_
  refine gl (i' := 36) (fun _ _ => aw_iadd K (dOf ck_mX12_richest rfl rfl)) ?_
  refine g_gd (fun hb8 => ?_)
  refine gl (i' := 37) (fun _ _ => aw_iald K (dOf ck_mX12_richest rfl rfl) rfl hb8) ?_
  exact g_iret K (dOf ck_mX12_richest rfl rfl).1 rfl (Or.inl rfl) rfl
def R_richest_48 (k44 : Int → Int → Int → aM → Option (Int × aM)) (x2 : Int) (x3 : Int) (x4 : Int) (x5 : Int) : Nat → Int → aM → Option (Int × aM)
  | 0, _, _ => none
  | n + 1, x6, mm => (R_richBy x4 x6 x3 mm).bind fun r11 => (if 0 ≤ (w32 ((w32 (x3 * 14)) + x4)) ∧ (w32 ((w32 (x3 * 14)) + x4)) < 854 then (if r11 = (mm 204 (w32 ((w32 (x3 * 14)) + x4)).toNat) then (if x5 = x2 then (some (x6, mm)) else (if 0 ≤ (w32 (19 + x6)) ∧ (w32 (19 + x6)) < 588 then (k44 (w32 (x3 - (mm 177 (w32 (19 + x6)).toNat))) x6 (w32 (x5 + 1)) mm) else none)) else (R_richest_48 k44 x2 x3 x4 x5 n (w32 (x6 + 1)) mm)) else none)
set_option maxHeartbeats 4000000 in
theorem lk_R_richest_48 {p : Program} {l : Launch} {e : Env} {s : State} {m : MethodId} {args : Array Value} {below : List Frame} {meth : Method} {c : Code} {D : va_G} {cA : FieldType → ClassId} {ad adV : Nat → Nat} {z0 : Nat} {al0 : List Nat} (K : aK p s m args meth c mX12_richest D cA ad adV z0) (x2 : Int) (x3 : Int) (x4 : Int) (x5 : Int) (k44 : Int → Int → Int → aM → Option (Int × aM)) (hk44 : ∀ (x3 : Int) (x4 : Int) (x5 : Int) (mm : aM), aG p l e { frames := 4, cells := 0, slots := 0, locals := 94 } s m args below meth c D cA ad z0 mX12_richest al0 rIM (k44 x3 x4 x5 mm) 44 [(0, .inr (.inr (.inl (some 176)))), (2, .inl x2), (3, .inl x3), (4, .inl x4), (5, .inl x5)] [] mm)  : ∀ (n : Nat) (x6 : Int) (mm : aM), aG p l e { frames := 4, cells := 0, slots := 0, locals := 94 } s m args below meth c D cA ad z0 mX12_richest al0 rIM (R_richest_48 k44 x2 x3 x4 x5 n x6 mm) 48 [(0, .inr (.inr (.inl (some 176)))), (2, .inl x2), (3, .inl x3), (4, .inl x4), (5, .inl x5), (6, .inl x6)] [] mm := by
  intro n
  induction n with
  | zero => intro x6 mm; exact g_none
  | succ n ih =>
    intro x6 mm
    rw [R_richest_48]
    refine gl (i' := 49) (fun _ _ => aw_aload_n K (dOf ck_mX12_richest rfl rfl) rfl) ?_
    refine gl (i' := 50) (fun _ _ => aw_iload K (dOf ck_mX12_richest rfl rfl) rfl) ?_
    refine gl (i' := 51) (fun _ _ => aw_iload K (dOf ck_mX12_richest rfl rfl) rfl) ?_
    refine gl (i' := 52) (fun _ _ => aw_iload_n K (dOf ck_mX12_richest rfl rfl) rfl) ?_
    refine g_callVI K [.inl _, .inl _, .inl _] rfl (dOf ck_mX12_richest rfl rfl) al_OneBreathModel_435 rfl rfl ⟨wd_1628, wd_130⟩ rfl (Nat.le_of_ble_eq_true rfl) ⟨Nat.le_of_ble_eq_true rfl, Nat.le_of_ble_eq_true rfl⟩ (fun b hb => met_R_richBy  hb) (fun r11 hr11 => ?_)
    refine gl (i' := 54) (fun _ _ => aw_aload_n K (dOf ck_mX12_richest rfl rfl) rfl) ?_
    refine gl (i' := 55) (fun _ _ => aw_getf K (dOf ck_mX12_richest rfl rfl) rfl rfl (Nat.le_of_ble_eq_true rfl) wd_1254 (k := 49) rfl) ?_
    refine gl (i' := 56) (fun _ _ => aw_iload_n K (dOf ck_mX12_richest rfl rfl) rfl) ?_
    refine gl (i' := 57) (fun _ _ => aw_bip K (dOf ck_mX12_richest rfl rfl) (v := 14) rfl) ?_
    refine gl (i' := 58) (fun _ _ => aw_imul K (dOf ck_mX12_richest rfl rfl)) ?_
    refine gl (i' := 59) (fun _ _ => aw_iload K (dOf ck_mX12_richest rfl rfl) rfl) ?_
    refine gl (i' := 60) (fun _ _ => aw_iadd K (dOf ck_mX12_richest rfl rfl)) ?_
    refine g_gd (fun hb12 => ?_)
    refine gl (i' := 61) (fun _ _ => aw_iald K (dOf ck_mX12_richest rfl rfl) rfl hb12) ?_
    refine g_icmp_eq K (dOf ck_mX12_richest rfl rfl) (t := 64) (aJ_of (by decide +kernel)) (fun h13 => ?_) (fun h13 => ?_)
    · refine gl (i' := 65) (fun _ _ => aw_iload K (dOf ck_mX12_richest rfl rfl) rfl) ?_
      refine gl (i' := 66) (fun _ _ => aw_iload_n K (dOf ck_mX12_richest rfl rfl) rfl) ?_
      refine g_icmp_ne K (dOf ck_mX12_richest rfl rfl) (t := 69) (aJ_of (by decide +kernel)) (fun h14 => ?_) (fun h14 => ?_)
      · refine gl (i' := 68) (fun _ _ => aw_iload K (dOf ck_mX12_richest rfl rfl) rfl) ?_
        exact g_iret K (dOf ck_mX12_richest rfl rfl).1 rfl (Or.inl rfl) rfl
      · refine gl (i' := 70) (fun _ _ => aw_iload_n K (dOf ck_mX12_richest rfl rfl) rfl) ?_
        refine gl (i' := 71) (fun _ _ => aw_aload_n K (dOf ck_mX12_richest rfl rfl) rfl) ?_
        refine gl (i' := 72) (fun _ _ => aw_getf K (dOf ck_mX12_richest rfl rfl) rfl rfl (Nat.le_of_ble_eq_true rfl) wd_1206 (k := 1) rfl) ?_
        refine gl (i' := 73) (fun _ _ => aw_bip K (dOf ck_mX12_richest rfl rfl) (v := 19) rfl) ?_
        refine gl (i' := 74) (fun _ _ => aw_iload K (dOf ck_mX12_richest rfl rfl) rfl) ?_
        refine gl (i' := 75) (fun _ _ => aw_iadd K (dOf ck_mX12_richest rfl rfl)) ?_
        refine g_gd (fun hb15 => ?_)
        refine gl (i' := 76) (fun _ _ => aw_iald K (dOf ck_mX12_richest rfl rfl) rfl hb15) ?_
        refine gl (i' := 77) (fun _ _ => aw_isub K (dOf ck_mX12_richest rfl rfl)) ?_
        refine gl (i' := 78) (fun _ _ => aw_istore_n K (dOf ck_mX12_richest rfl rfl) (Nat.le_of_ble_eq_true rfl)) ?_
        refine g_lv (lv' := [(3, .inl _), (0, .inr (.inr (.inl (some _)))), (2, .inl _), (4, .inl _), (5, .inl _), (6, .inl _)]) rfl ?_
        refine gl (i' := 79) (fun _ _ => aw_iload K (dOf ck_mX12_richest rfl rfl) rfl) ?_
        refine gl (i' := 80) (fun _ _ => aw_istore K (dOf ck_mX12_richest rfl rfl) (Nat.le_of_ble_eq_true rfl)) ?_
        refine g_lv (lv' := [(4, .inl _), (3, .inl _), (0, .inr (.inr (.inl (some _)))), (2, .inl _), (5, .inl _), (6, .inl _)]) rfl ?_
        refine gl (i' := 81) (fun _ _ => aw_iinc K (dOf ck_mX12_richest rfl rfl) (Nat.le_of_ble_eq_true rfl) rfl) ?_
        refine g_lv (lv' := [(5, .inl _), (4, .inl _), (3, .inl _), (0, .inr (.inr (.inl (some _)))), (2, .inl _), (6, .inl _)]) rfl ?_
        refine g_goto K (dOf ck_mX12_richest rfl rfl).1 (t := 44) (aJ_of (by decide +kernel)) ?_
        refine g_sub [3, 4, 2, 1, 0] rfl ?_
        exact hk44 _ _ _ _
    · refine gl (i' := 63) (fun _ _ => aw_iinc K (dOf ck_mX12_richest rfl rfl) (Nat.le_of_ble_eq_true rfl) rfl) ?_
      refine g_lv (lv' := [(6, .inl _), (0, .inr (.inr (.inl (some _)))), (2, .inl _), (3, .inl _), (4, .inl _), (5, .inl _)]) rfl ?_
      refine g_goto K (dOf ck_mX12_richest rfl rfl).1 (t := 48) (aJ_of (by decide +kernel)) ?_
      refine g_sub [1, 2, 3, 4, 5, 0] rfl ?_
      exact ih _ _
def R_richest_44 (x2 : Int) : Nat → Int → Int → Int → aM → Option (Int × aM)
  | 0, _, _, _, _ => none
  | n + 1, x3, x4, x5, mm => if 0 < x3 then (R_richest_48 (R_richest_44 x2 n) x2 x3 x4 x5 FU 0 mm) else (some ((-1), mm))
set_option maxHeartbeats 4000000 in
theorem lk_R_richest_44 {p : Program} {l : Launch} {e : Env} {s : State} {m : MethodId} {args : Array Value} {below : List Frame} {meth : Method} {c : Code} {D : va_G} {cA : FieldType → ClassId} {ad adV : Nat → Nat} {z0 : Nat} {al0 : List Nat} (K : aK p s m args meth c mX12_richest D cA ad adV z0) (x2 : Int)  : ∀ (n : Nat) (x3 : Int) (x4 : Int) (x5 : Int) (mm : aM), aG p l e { frames := 4, cells := 0, slots := 0, locals := 94 } s m args below meth c D cA ad z0 mX12_richest al0 rIM (R_richest_44 x2 n x3 x4 x5 mm) 44 [(0, .inr (.inr (.inl (some 176)))), (2, .inl x2), (3, .inl x3), (4, .inl x4), (5, .inl x5)] [] mm := by
  intro n
  induction n with
  | zero => intro x3 x4 x5 mm; exact g_none
  | succ n ih =>
    intro x3 x4 x5 mm
    rw [R_richest_44]
    refine gl (i' := 45) (fun _ _ => aw_iload_n K (dOf ck_mX12_richest rfl rfl) rfl) ?_
    refine g_if_le K (dOf ck_mX12_richest rfl rfl) (t := 82) (aJ_of (by decide +kernel)) (fun h10 => ?_) (fun h10 => ?_)
    · refine gl (i' := 47) (fun _ _ => aw_iconst K (n := 0) (i32 _ rfl) (dOf ck_mX12_richest rfl rfl)) ?_
      refine gl (i' := 48) (fun _ _ => aw_istore K (dOf ck_mX12_richest rfl rfl) (Nat.le_of_ble_eq_true rfl)) ?_
      refine g_lv (lv' := [(6, .inl _), (0, .inr (.inr (.inl (some _)))), (2, .inl _), (3, .inl _), (4, .inl _), (5, .inl _)]) rfl ?_
      refine g_sub [1, 2, 3, 4, 5, 0] rfl ?_
      exact lk_R_richest_48 K _ _ _ _ _ ih FU _ _
    · refine gl (i' := 83) (fun _ _ => aw_iconst K (n := -1) (i32 _ rfl) (dOf ck_mX12_richest rfl rfl)) ?_
      exact g_iret K (by decide +kernel) rfl (Or.inl rfl) rfl
def R_richest (x1 : Int) (x2 : Int) (mm : aM) : Option (Int × aM) := st1 (aup mm 176 0 0) fun mm1 => ((R_within x1 1 60 mm1).bind fun r2 => (if r2 = 0 then (some ((-3), mm1)) else (if x2 < (-1) then (some ((-3), mm1)) else ((R_laysRichest x1 mm1).bind fun r5 => (if 0 ≤ (w32 ((w32 (x1 * 14)) + 13)) ∧ (w32 ((w32 (x1 * 14)) + 13)) < 854 then (if (r5 204 (w32 ((w32 (x1 * 14)) + 13)).toNat) < 0 then (R_richest_29 x1 r5) else (if x2 = (-1) then (R_richest_29 x1 r5) else (R_richest_44 x2 FU x1 13 0 r5))) else none)))))
set_option maxHeartbeats 4000000 in
theorem met_R_richest {l : Launch} {D : va_G} {cA : FieldType → ClassId} {ad adV : Nat → Nat} {z0 : Nat} {x1 : Int} {x2 : Int} {mm : aM}  {r : Int × aM} (h : R_richest x1 x2 mm = some r) : aMet l D cA ad adV z0 mX12_richest 4 94 0 0 [.inr (.inr (.inl (some 176))), .inl x1, .inl x2] SH mm (rIM r).1 SH (rIM r).2 := by
  refine aMet_ofG (by decide +kernel) rfl (Nat.le_of_ble_eq_true rfl) h (fun p e s m args below meth c al0 K => ?_)
  unfold R_richest
  refine gl (i' := 1) (fun _ _ => aw_aload_n K (dOf ck_mX12_richest rfl rfl) rfl) ?_
  refine gl (i' := 2) (fun _ _ => aw_iconst K (n := 0) (i32 _ rfl) (dOf ck_mX12_richest rfl rfl)) ?_
  refine g_st1 ?_
  refine gl (i' := 3) (fun _ _ => aw_putf K (dOf ck_mX12_richest rfl rfl) rfl rfl (Nat.le_of_ble_eq_true rfl) wd_1205 (k := 0) rfl rfl (Or.inl rfl)) ?_
  refine gl (i' := 4) (fun _ _ => aw_iload_n K (dOf ck_mX12_richest rfl rfl) rfl) ?_
  refine gl (i' := 5) (fun _ _ => aw_i2l K (dOf ck_mX12_richest rfl rfl)) ?_
  refine gl (i' := 6) (fun _ _ => aw_lcn K (dOf ck_mX12_richest rfl rfl) (v := 1) rfl) ?_
  refine gl (i' := 7) (fun _ _ => aw_ldc2 K (dOf ck_mX12_richest rfl rfl) (n := 60) wd_1605 (i64 _ rfl)) ?_
  refine g_callSI K [.inr (.inl _), .inr (.inl _), .inr (.inl _)] rfl (dOf ck_mX12_richest rfl rfl) al_OneBreathModel_176 wd_1269 rfl (Nat.le_of_ble_eq_true rfl) ⟨Nat.le_of_ble_eq_true rfl, Nat.le_of_ble_eq_true rfl⟩ (fun b hb => met_R_within  hb) (fun r2 hr2 => ?_)
  refine g_if_eq K (dOf ck_mX12_richest rfl rfl) (t := 12) (aJ_of (by decide +kernel)) (fun h3 => ?_) (fun h3 => ?_)
  · refine gl (i' := 13) (fun _ _ => aw_bip K (dOf ck_mX12_richest rfl rfl) (v := -3) rfl) ?_
    exact g_iret K (dOf ck_mX12_richest rfl rfl).1 rfl (Or.inl rfl) rfl
  · refine gl (i' := 10) (fun _ _ => aw_iload_n K (dOf ck_mX12_richest rfl rfl) rfl) ?_
    refine gl (i' := 11) (fun _ _ => aw_iconst K (n := -1) (i32 _ rfl) (dOf ck_mX12_richest rfl rfl)) ?_
    refine g_icmp_ge K (dOf ck_mX12_richest rfl rfl) (t := 14) (aJ_of (by decide +kernel)) (fun h4 => ?_) (fun h4 => ?_)
    · refine gl (i' := 13) (fun _ _ => aw_bip K (dOf ck_mX12_richest rfl rfl) (v := -3) rfl) ?_
      exact g_iret K (dOf ck_mX12_richest rfl rfl).1 rfl (Or.inl rfl) rfl
    · refine gl (i' := 15) (fun _ _ => aw_aload_n K (dOf ck_mX12_richest rfl rfl) rfl) ?_
      refine gl (i' := 16) (fun _ _ => aw_iload_n K (dOf ck_mX12_richest rfl rfl) rfl) ?_
      refine g_callVM K [.inl _] rfl (dOf ck_mX12_richest rfl rfl) al_OneBreathModel_439 rfl rfl ⟨wd_1625, wd_129⟩ rfl (Nat.le_of_ble_eq_true rfl) ⟨Nat.le_of_ble_eq_true rfl, Nat.le_of_ble_eq_true rfl⟩ (fun b hb => met_R_laysRichest  hb) (fun r5 hr5 => ?_)
      refine gl (i' := 18) (fun _ _ => aw_aload_n K (dOf ck_mX12_richest rfl rfl) rfl) ?_
      refine gl (i' := 19) (fun _ _ => aw_getf K (dOf ck_mX12_richest rfl rfl) rfl rfl (Nat.le_of_ble_eq_true rfl) wd_1254 (k := 49) rfl) ?_
      refine gl (i' := 20) (fun _ _ => aw_iload_n K (dOf ck_mX12_richest rfl rfl) rfl) ?_
      refine gl (i' := 21) (fun _ _ => aw_bip K (dOf ck_mX12_richest rfl rfl) (v := 14) rfl) ?_
      refine gl (i' := 22) (fun _ _ => aw_imul K (dOf ck_mX12_richest rfl rfl)) ?_
      refine gl (i' := 23) (fun _ _ => aw_bip K (dOf ck_mX12_richest rfl rfl) (v := 13) rfl) ?_
      refine gl (i' := 24) (fun _ _ => aw_iadd K (dOf ck_mX12_richest rfl rfl)) ?_
      refine g_gd (fun hb6 => ?_)
      refine gl (i' := 25) (fun _ _ => aw_iald K (dOf ck_mX12_richest rfl rfl) rfl hb6) ?_
      refine g_if_lt K (dOf ck_mX12_richest rfl rfl) (t := 29) (aJ_of (by decide +kernel)) (fun h7 => ?_) (fun h7 => ?_)
      · refine g_sub [0, 1] rfl ?_
        exact lk_R_richest_29 K _ _
      · refine gl (i' := 27) (fun _ _ => aw_iload_n K (dOf ck_mX12_richest rfl rfl) rfl) ?_
        refine gl (i' := 28) (fun _ _ => aw_iconst K (n := -1) (i32 _ rfl) (dOf ck_mX12_richest rfl rfl)) ?_
        refine g_icmp_ne K (dOf ck_mX12_richest rfl rfl) (t := 38) (aJ_of (by decide +kernel)) (fun h9 => ?_) (fun h9 => ?_)
        · refine g_sub [0, 1] rfl ?_
          exact lk_R_richest_29 K _ _
        · refine gl (i' := 39) (fun _ _ => aw_iload_n K (dOf ck_mX12_richest rfl rfl) rfl) ?_
          refine gl (i' := 40) (fun _ _ => aw_istore_n K (dOf ck_mX12_richest rfl rfl) (Nat.le_of_ble_eq_true rfl)) ?_
          refine g_lv (lv' := [(3, .inl _), (0, .inr (.inr (.inl (some _)))), (1, .inl _), (2, .inl _)]) rfl ?_
          refine gl (i' := 41) (fun _ _ => aw_bip K (dOf ck_mX12_richest rfl rfl) (v := 13) rfl) ?_
          refine gl (i' := 42) (fun _ _ => aw_istore K (dOf ck_mX12_richest rfl rfl) (Nat.le_of_ble_eq_true rfl)) ?_
          refine g_lv (lv' := [(4, .inl _), (3, .inl _), (0, .inr (.inr (.inl (some _)))), (1, .inl _), (2, .inl _)]) rfl ?_
          refine gl (i' := 43) (fun _ _ => aw_iconst K (n := 0) (i32 _ rfl) (dOf ck_mX12_richest rfl rfl)) ?_
          refine gl (i' := 44) (fun _ _ => aw_istore K (dOf ck_mX12_richest rfl rfl) (Nat.le_of_ble_eq_true rfl)) ?_
          refine g_lv (lv' := [(5, .inl _), (4, .inl _), (3, .inl _), (0, .inr (.inr (.inl (some _)))), (1, .inl _), (2, .inl _)]) rfl ?_
          refine g_sub [3, 5, 2, 1, 0] rfl ?_
          exact lk_R_richest_44 K _ FU _ _ _ _
def R_refusesNoise_27 (mm : aM) : Option Int := some (-3)
set_option maxHeartbeats 4000000 in
theorem lk_R_refusesNoise_27 {p : Program} {l : Launch} {e : Env} {s : State} {m : MethodId} {args : Array Value} {below : List Frame} {meth : Method} {c : Code} {D : va_G} {cA : FieldType → ClassId} {ad adV : Nat → Nat} {z0 : Nat} {al0 : List Nat} {mm : aM} (K : aK p s m args meth c mX12_refusesNoise D cA ad adV z0)   : aG p l e { frames := 3, cells := 0, slots := 0, locals := 71 } s m args below meth c D cA ad z0 mX12_refusesNoise al0 (rI mm) (R_refusesNoise_27 mm) 27 [] [] mm := by
  unfold R_refusesNoise_27
  refine gl (i' := 28) (fun _ _ => aw_bip K (dOf ck_mX12_refusesNoise rfl rfl) (v := -3) rfl) ?_
  refine g_goto K (dOf ck_mX12_refusesNoise rfl rfl).1 (t := 30) (aJ_of (by decide +kernel)) ?_
  exact g_iret K (by decide +kernel) rfl (Or.inl rfl) rfl
def R_refusesNoise (x1 : Int) (x2 : Int) (mm : aM) : Option Int := if 0 ≤ x1 ∧ x1 < 4 then (if (mm 205 x1.toNat) = (-1) then (some (-6)) else ((R_isSentence x1 mm).bind fun r3 => (if r3 = 0 then (R_refusesNoise_27 mm) else ((R_soundsOf x1 (mm 206 x1.toNat) mm).bind fun r5 => (if 40 < r5 then (R_refusesNoise_27 mm) else ((R_within x2 0 100 mm).bind fun r7 => (if r7 = 0 then (R_refusesNoise_27 mm) else (some 0)))))))) else none
set_option maxHeartbeats 4000000 in
theorem met_R_refusesNoise {l : Launch} {D : va_G} {cA : FieldType → ClassId} {ad adV : Nat → Nat} {z0 : Nat} {x1 : Int} {x2 : Int} {mm : aM}  {r : Int} (h : R_refusesNoise x1 x2 mm = some r) : aMet l D cA ad adV z0 mX12_refusesNoise 3 71 0 0 [.inr (.inr (.inl (some 176))), .inl x1, .inl x2] SH mm ((rI mm) r).1 SH ((rI mm) r).2 := by
  refine aMet_ofG (by decide +kernel) rfl (Nat.le_of_ble_eq_true rfl) h (fun p e s m args below meth c al0 K => ?_)
  unfold R_refusesNoise
  refine gl (i' := 1) (fun _ _ => aw_aload_n K (dOf ck_mX12_refusesNoise rfl rfl) rfl) ?_
  refine gl (i' := 2) (fun _ _ => aw_getf K (dOf ck_mX12_refusesNoise rfl rfl) rfl rfl (Nat.le_of_ble_eq_true rfl) wd_1257 (k := 52) rfl) ?_
  refine gl (i' := 3) (fun _ _ => aw_iload_n K (dOf ck_mX12_refusesNoise rfl rfl) rfl) ?_
  refine g_gd (fun hb1 => ?_)
  refine gl (i' := 4) (fun _ _ => aw_iald K (dOf ck_mX12_refusesNoise rfl rfl) rfl hb1) ?_
  refine gl (i' := 5) (fun _ _ => aw_iconst K (n := -1) (i32 _ rfl) (dOf ck_mX12_refusesNoise rfl rfl)) ?_
  refine g_icmp_ne K (dOf ck_mX12_refusesNoise rfl rfl) (t := 8) (aJ_of (by decide +kernel)) (fun h2 => ?_) (fun h2 => ?_)
  · refine gl (i' := 7) (fun _ _ => aw_bip K (dOf ck_mX12_refusesNoise rfl rfl) (v := -6) rfl) ?_
    exact g_iret K (dOf ck_mX12_refusesNoise rfl rfl).1 rfl (Or.inl rfl) rfl
  · refine gl (i' := 9) (fun _ _ => aw_aload_n K (dOf ck_mX12_refusesNoise rfl rfl) rfl) ?_
    refine gl (i' := 10) (fun _ _ => aw_iload_n K (dOf ck_mX12_refusesNoise rfl rfl) rfl) ?_
    refine g_callVI K [.inl _] rfl (dOf ck_mX12_refusesNoise rfl rfl) al_OneBreathModel_256 rfl rfl ⟨wd_1399, wd_88⟩ rfl (Nat.le_of_ble_eq_true rfl) ⟨Nat.le_of_ble_eq_true rfl, Nat.le_of_ble_eq_true rfl⟩ (fun b hb => met_R_isSentence  hb) (fun r3 hr3 => ?_)
    refine g_if_eq K (dOf ck_mX12_refusesNoise rfl rfl) (t := 27) (aJ_of (by decide +kernel)) (fun h4 => ?_) (fun h4 => ?_)
    · refine g_sub [] rfl ?_
      exact lk_R_refusesNoise_27 K
    · refine gl (i' := 13) (fun _ _ => aw_aload_n K (dOf ck_mX12_refusesNoise rfl rfl) rfl) ?_
      refine gl (i' := 14) (fun _ _ => aw_iload_n K (dOf ck_mX12_refusesNoise rfl rfl) rfl) ?_
      refine gl (i' := 15) (fun _ _ => aw_aload_n K (dOf ck_mX12_refusesNoise rfl rfl) rfl) ?_
      refine gl (i' := 16) (fun _ _ => aw_getf K (dOf ck_mX12_refusesNoise rfl rfl) rfl rfl (Nat.le_of_ble_eq_true rfl) wd_1258 (k := 53) rfl) ?_
      refine gl (i' := 17) (fun _ _ => aw_iload_n K (dOf ck_mX12_refusesNoise rfl rfl) rfl) ?_
      refine gl (i' := 18) (fun _ _ => aw_iald K (dOf ck_mX12_refusesNoise rfl rfl) rfl hb1) ?_
      refine g_callVI K [.inl _, .inl _] rfl (dOf ck_mX12_refusesNoise rfl rfl) al_OneBreathModel_259 rfl rfl ⟨wd_1405, wd_90⟩ rfl (Nat.le_of_ble_eq_true rfl) ⟨Nat.le_of_ble_eq_true rfl, Nat.le_of_ble_eq_true rfl⟩ (fun b hb => met_R_soundsOf  hb) (fun r5 hr5 => ?_)
      refine gl (i' := 20) (fun _ _ => aw_bip K (dOf ck_mX12_refusesNoise rfl rfl) (v := 40) rfl) ?_
      refine g_icmp_gt K (dOf ck_mX12_refusesNoise rfl rfl) (t := 27) (aJ_of (by decide +kernel)) (fun h6 => ?_) (fun h6 => ?_)
      · refine g_sub [] rfl ?_
        exact lk_R_refusesNoise_27 K
      · refine gl (i' := 22) (fun _ _ => aw_iload_n K (dOf ck_mX12_refusesNoise rfl rfl) rfl) ?_
        refine gl (i' := 23) (fun _ _ => aw_i2l K (dOf ck_mX12_refusesNoise rfl rfl)) ?_
        refine gl (i' := 24) (fun _ _ => aw_lcn K (dOf ck_mX12_refusesNoise rfl rfl) (v := 0) rfl) ?_
        refine gl (i' := 25) (fun _ _ => aw_ldc2 K (dOf ck_mX12_refusesNoise rfl rfl) (n := 100) wd_1638 (i64 _ rfl)) ?_
        refine g_callSI K [.inr (.inl _), .inr (.inl _), .inr (.inl _)] rfl (dOf ck_mX12_refusesNoise rfl rfl) al_OneBreathModel_176 wd_1269 rfl (Nat.le_of_ble_eq_true rfl) ⟨Nat.le_of_ble_eq_true rfl, Nat.le_of_ble_eq_true rfl⟩ (fun b hb => met_R_within  hb) (fun r7 hr7 => ?_)
        refine g_if_ne K (dOf ck_mX12_refusesNoise rfl rfl) (t := 29) (aJ_of (by decide +kernel)) (fun h8 => ?_) (fun h8 => ?_)
        · refine g_sub [] rfl ?_
          exact lk_R_refusesNoise_27 K
        · refine gl (i' := 30) (fun _ _ => aw_iconst K (n := 0) (i32 _ rfl) (dOf ck_mX12_refusesNoise rfl rfl)) ?_
          exact g_iret K (by decide +kernel) rfl (Or.inl rfl) rfl
def R_draw (x1 : Int) (mm : aM) : Option (Int × aM) := st1 (aup mm 176 50 (w32 ((w32 (1103515245 * (mm 176 50))) + 12345))) fun mm1 => (if x1 ≠ 0 then (some (Int.tmod (iushr (mm1 176 50) 16) x1, mm1)) else none)
set_option maxHeartbeats 4000000 in
theorem met_R_draw {l : Launch} {D : va_G} {cA : FieldType → ClassId} {ad adV : Nat → Nat} {z0 : Nat} {x1 : Int} {mm : aM}  {r : Int × aM} (h : R_draw x1 mm = some r) : aMet l D cA ad adV z0 mX12_draw 0 0 0 0 [.inr (.inr (.inl (some 176))), .inl x1] SH mm (rIM r).1 SH (rIM r).2 := by
  refine aMet_ofG (by decide +kernel) rfl (Nat.le_of_ble_eq_true rfl) h (fun p e s m args below meth c al0 K => ?_)
  unfold R_draw
  refine gl (i' := 1) (fun _ _ => aw_aload_n K (dOf ck_mX12_draw rfl rfl) rfl) ?_
  refine gl (i' := 2) (fun _ _ => aw_ldcw K (dOf ck_mX12_draw rfl rfl) (n := 1103515245) wd_1645 (i32 _ rfl)) ?_
  refine gl (i' := 3) (fun _ _ => aw_aload_n K (dOf ck_mX12_draw rfl rfl) rfl) ?_
  refine gl (i' := 4) (fun _ _ => aw_getf K (dOf ck_mX12_draw rfl rfl) rfl rfl (Nat.le_of_ble_eq_true rfl) wd_1255 (k := 50) rfl) ?_
  refine gl (i' := 5) (fun _ _ => aw_imul K (dOf ck_mX12_draw rfl rfl)) ?_
  refine gl (i' := 6) (fun _ _ => aw_sip K (dOf ck_mX12_draw rfl rfl) (v := 12345) rfl) ?_
  refine gl (i' := 7) (fun _ _ => aw_iadd K (dOf ck_mX12_draw rfl rfl)) ?_
  refine g_st1 ?_
  refine gl (i' := 8) (fun _ _ => aw_putf K (dOf ck_mX12_draw rfl rfl) rfl rfl (Nat.le_of_ble_eq_true rfl) wd_1255 (k := 50) rfl rfl (Or.inl rfl)) ?_
  refine gl (i' := 9) (fun _ _ => aw_aload_n K (dOf ck_mX12_draw rfl rfl) rfl) ?_
  refine gl (i' := 10) (fun _ _ => aw_getf K (dOf ck_mX12_draw rfl rfl) rfl rfl (Nat.le_of_ble_eq_true rfl) wd_1255 (k := 50) rfl) ?_
  refine gl (i' := 11) (fun _ _ => aw_bip K (dOf ck_mX12_draw rfl rfl) (v := 16) rfl) ?_
  refine gl (i' := 12) (fun _ _ => aw_iushr K (dOf ck_mX12_draw rfl rfl)) ?_
  refine gl (i' := 13) (fun _ _ => aw_iload_n K (dOf ck_mX12_draw rfl rfl) rfl) ?_
  refine g_gd (fun hb2 => ?_)
  refine gl (i' := 14) (fun _ _ => aw_irem K hb2 (dOf ck_mX12_draw rfl rfl)) ?_
  exact g_iret K (by decide +kernel) rfl (Or.inl rfl) rfl
def R_noises_63 (k5 : Int → aM → Option aM) (x1 : Int) (x2 : Int) (mm : aM) : Option aM := k5 (w32 (x2 + 1)) mm
set_option maxHeartbeats 4000000 in
theorem lk_R_noises_63 {p : Program} {l : Launch} {e : Env} {s : State} {m : MethodId} {args : Array Value} {below : List Frame} {meth : Method} {c : Code} {D : va_G} {cA : FieldType → ClassId} {ad adV : Nat → Nat} {z0 : Nat} {al0 : List Nat} (K : aK p s m args meth c mX12_noises D cA ad adV z0) (x1 : Int) (x2 : Int) (k5 : Int → aM → Option aM) (hk5 : ∀ (x2 : Int) (mm : aM), aG p l e { frames := 1, cells := 0, slots := 0, locals := 22 } s m args below meth c D cA ad z0 mX12_noises al0 rM (k5 x2 mm) 5 [(0, .inr (.inr (.inl (some 176)))), (1, .inl x1), (2, .inl x2)] [] mm)  (mm : aM) : aG p l e { frames := 1, cells := 0, slots := 0, locals := 22 } s m args below meth c D cA ad z0 mX12_noises al0 rM (R_noises_63 k5 x1 x2 mm) 63 [(0, .inr (.inr (.inl (some 176)))), (1, .inl x1), (2, .inl x2)] [] mm := by
  unfold R_noises_63
  refine gl (i' := 64) (fun _ _ => aw_iinc K (dOf ck_mX12_noises rfl rfl) (Nat.le_of_ble_eq_true rfl) rfl) ?_
  refine g_lv (lv' := [(2, .inl _), (0, .inr (.inr (.inl (some _)))), (1, .inl _)]) rfl ?_
  refine g_goto K (dOf ck_mX12_noises rfl rfl).1 (t := 5) (aJ_of (by decide +kernel)) ?_
  refine g_sub [1, 2, 0] rfl ?_
  exact hk5 _ _
def R_noises_42 (k5 : Int → aM → Option aM) (k34 : Int → Int → aM → Option aM) (x1 : Int) (x2 : Int) (x3 : Int) (x4 : Int) (x5 : Int) (mm : aM) : Option aM := k34 (w32 (x4 - (iand (ishr x3 x5) 1))) (w32 (x5 + 1)) mm
set_option maxHeartbeats 4000000 in
theorem lk_R_noises_42 {p : Program} {l : Launch} {e : Env} {s : State} {m : MethodId} {args : Array Value} {below : List Frame} {meth : Method} {c : Code} {D : va_G} {cA : FieldType → ClassId} {ad adV : Nat → Nat} {z0 : Nat} {al0 : List Nat} (K : aK p s m args meth c mX12_noises D cA ad adV z0) (x1 : Int) (x2 : Int) (x3 : Int) (x4 : Int) (x5 : Int) (k5 : Int → aM → Option aM) (hk5 : ∀ (x2 : Int) (mm : aM), aG p l e { frames := 1, cells := 0, slots := 0, locals := 22 } s m args below meth c D cA ad z0 mX12_noises al0 rM (k5 x2 mm) 5 [(0, .inr (.inr (.inl (some 176)))), (1, .inl x1), (2, .inl x2)] [] mm) (k34 : Int → Int → aM → Option aM) (hk34 : ∀ (x4 : Int) (x5 : Int) (mm : aM), aG p l e { frames := 1, cells := 0, slots := 0, locals := 22 } s m args below meth c D cA ad z0 mX12_noises al0 rM (k34 x4 x5 mm) 34 [(0, .inr (.inr (.inl (some 176)))), (1, .inl x1), (2, .inl x2), (3, .inl x3), (4, .inl x4), (5, .inl x5)] [] mm)  (mm : aM) : aG p l e { frames := 1, cells := 0, slots := 0, locals := 22 } s m args below meth c D cA ad z0 mX12_noises al0 rM (R_noises_42 k5 k34 x1 x2 x3 x4 x5 mm) 42 [(0, .inr (.inr (.inl (some 176)))), (1, .inl x1), (2, .inl x2), (3, .inl x3), (4, .inl x4), (5, .inl x5)] [] mm := by
  unfold R_noises_42
  refine gl (i' := 43) (fun _ _ => aw_iload K (dOf ck_mX12_noises rfl rfl) rfl) ?_
  refine gl (i' := 44) (fun _ _ => aw_iload_n K (dOf ck_mX12_noises rfl rfl) rfl) ?_
  refine gl (i' := 45) (fun _ _ => aw_iload K (dOf ck_mX12_noises rfl rfl) rfl) ?_
  refine gl (i' := 46) (fun _ _ => aw_ishr K (dOf ck_mX12_noises rfl rfl)) ?_
  refine gl (i' := 47) (fun _ _ => aw_iconst K (n := 1) (i32 _ rfl) (dOf ck_mX12_noises rfl rfl)) ?_
  refine gl (i' := 48) (fun _ _ => aw_iand K (dOf ck_mX12_noises rfl rfl)) ?_
  refine gl (i' := 49) (fun _ _ => aw_isub K (dOf ck_mX12_noises rfl rfl)) ?_
  refine gl (i' := 50) (fun _ _ => aw_istore K (dOf ck_mX12_noises rfl rfl) (Nat.le_of_ble_eq_true rfl)) ?_
  refine g_lv (lv' := [(4, .inl _), (0, .inr (.inr (.inl (some _)))), (1, .inl _), (2, .inl _), (3, .inl _), (5, .inl _)]) rfl ?_
  refine gl (i' := 51) (fun _ _ => aw_iinc K (dOf ck_mX12_noises rfl rfl) (Nat.le_of_ble_eq_true rfl) rfl) ?_
  refine g_lv (lv' := [(5, .inl _), (4, .inl _), (0, .inr (.inr (.inl (some _)))), (1, .inl _), (2, .inl _), (3, .inl _)]) rfl ?_
  refine g_goto K (dOf ck_mX12_noises rfl rfl).1 (t := 34) (aJ_of (by decide +kernel)) ?_
  refine g_sub [2, 3, 4, 5, 1, 0] rfl ?_
  exact hk34 _ _ _
def R_noises_34 (k5 : Int → aM → Option aM) (x1 : Int) (x2 : Int) (x3 : Int) : Nat → Int → Int → aM → Option aM
  | 0, _, _, _ => none
  | n + 1, x4, x5, mm => if (iand (ishr x3 x5) 1) = 0 then (R_noises_42 k5 (R_noises_34 k5 x1 x2 x3 n) x1 x2 x3 x4 x5 mm) else (if 0 < x4 then (R_noises_42 k5 (R_noises_34 k5 x1 x2 x3 n) x1 x2 x3 x4 x5 mm) else (if 0 ≤ x2 ∧ x2 < 40 then (st1 (aup mm 182 x2.toNat x5) fun mm13 => (st1 (aup mm13 176 51 (w32 ((mm13 176 51) + 1))) fun mm14 => (R_noises_63 k5 x1 x2 mm14))) else none))
set_option maxHeartbeats 4000000 in
theorem lk_R_noises_34 {p : Program} {l : Launch} {e : Env} {s : State} {m : MethodId} {args : Array Value} {below : List Frame} {meth : Method} {c : Code} {D : va_G} {cA : FieldType → ClassId} {ad adV : Nat → Nat} {z0 : Nat} {al0 : List Nat} (K : aK p s m args meth c mX12_noises D cA ad adV z0) (x1 : Int) (x2 : Int) (x3 : Int) (k5 : Int → aM → Option aM) (hk5 : ∀ (x2 : Int) (mm : aM), aG p l e { frames := 1, cells := 0, slots := 0, locals := 22 } s m args below meth c D cA ad z0 mX12_noises al0 rM (k5 x2 mm) 5 [(0, .inr (.inr (.inl (some 176)))), (1, .inl x1), (2, .inl x2)] [] mm)  : ∀ (n : Nat) (x4 : Int) (x5 : Int) (mm : aM), aG p l e { frames := 1, cells := 0, slots := 0, locals := 22 } s m args below meth c D cA ad z0 mX12_noises al0 rM (R_noises_34 k5 x1 x2 x3 n x4 x5 mm) 34 [(0, .inr (.inr (.inl (some 176)))), (1, .inl x1), (2, .inl x2), (3, .inl x3), (4, .inl x4), (5, .inl x5)] [] mm := by
  intro n
  induction n with
  | zero => intro x4 x5 mm; exact g_none
  | succ n ih =>
    intro x4 x5 mm
    rw [R_noises_34]
    refine gl (i' := 35) (fun _ _ => aw_iload_n K (dOf ck_mX12_noises rfl rfl) rfl) ?_
    refine gl (i' := 36) (fun _ _ => aw_iload K (dOf ck_mX12_noises rfl rfl) rfl) ?_
    refine gl (i' := 37) (fun _ _ => aw_ishr K (dOf ck_mX12_noises rfl rfl)) ?_
    refine gl (i' := 38) (fun _ _ => aw_iconst K (n := 1) (i32 _ rfl) (dOf ck_mX12_noises rfl rfl)) ?_
    refine gl (i' := 39) (fun _ _ => aw_iand K (dOf ck_mX12_noises rfl rfl)) ?_
    refine g_if_eq K (dOf ck_mX12_noises rfl rfl) (t := 42) (aJ_of (by decide +kernel)) (fun h10 => ?_) (fun h10 => ?_)
    · refine g_sub [0, 1, 2, 3, 4, 5] rfl ?_
      exact lk_R_noises_42 K _ _ _ _ _ _ hk5 _ ih _
    · refine gl (i' := 41) (fun _ _ => aw_iload K (dOf ck_mX12_noises rfl rfl) rfl) ?_
      refine g_if_le K (dOf ck_mX12_noises rfl rfl) (t := 52) (aJ_of (by decide +kernel)) (fun h11 => ?_) (fun h11 => ?_)
      · refine g_sub [0, 1, 2, 3, 4, 5] rfl ?_
        exact lk_R_noises_42 K _ _ _ _ _ _ hk5 _ ih _
      · refine gl (i' := 53) (fun _ _ => aw_aload_n K (dOf ck_mX12_noises rfl rfl) rfl) ?_
        refine gl (i' := 54) (fun _ _ => aw_getf K (dOf ck_mX12_noises rfl rfl) rfl rfl (Nat.le_of_ble_eq_true rfl) wd_1221 (k := 16) rfl) ?_
        refine gl (i' := 55) (fun _ _ => aw_iload_n K (dOf ck_mX12_noises rfl rfl) rfl) ?_
        refine gl (i' := 56) (fun _ _ => aw_iload K (dOf ck_mX12_noises rfl rfl) rfl) ?_
        refine g_gd (fun hb12 => ?_)
        refine g_st1 ?_
        refine gl (i' := 57) (fun _ _ => aw_iast K (dOf ck_mX12_noises rfl rfl) rfl hb12) ?_
        refine gl (i' := 58) (fun _ _ => aw_aload_n K (dOf ck_mX12_noises rfl rfl) rfl) ?_
        refine gl (i' := 59) (fun _ _ => aw_dup K rfl (dOf ck_mX12_noises rfl rfl)) ?_
        refine gl (i' := 60) (fun _ _ => aw_getf K (dOf ck_mX12_noises rfl rfl) rfl rfl (Nat.le_of_ble_eq_true rfl) wd_1256 (k := 51) rfl) ?_
        refine gl (i' := 61) (fun _ _ => aw_iconst K (n := 1) (i32 _ rfl) (dOf ck_mX12_noises rfl rfl)) ?_
        refine gl (i' := 62) (fun _ _ => aw_iadd K (dOf ck_mX12_noises rfl rfl)) ?_
        refine g_st1 ?_
        refine gl (i' := 63) (fun _ _ => aw_putf K (dOf ck_mX12_noises rfl rfl) rfl rfl (Nat.le_of_ble_eq_true rfl) wd_1256 (k := 51) rfl rfl (Or.inl rfl)) ?_
        refine g_sub [0, 1, 2] rfl ?_
        exact lk_R_noises_63 K _ _ _ hk5 _
def R_noises_5 (x1 : Int) : Nat → Int → aM → Option aM
  | 0, _, _ => none
  | n + 1, x2, mm => if x2 < (mm 176 17) then (if 0 ≤ x2 ∧ x2 < 40 then (if 0 ≤ (w32 (10 + (mm 182 x2.toNat))) ∧ (w32 (10 + (mm 182 x2.toNat))) < 588 then (if (mm 177 (w32 (10 + (mm 182 x2.toNat))).toNat) = 0 then (R_noises_63 (R_noises_5 x1 n) x1 x2 mm) else ((R_draw 100 mm).bind fun r6 => (if r6.1 < x1 then ((R_bitsOf (mm 177 (w32 (10 + (mm 182 x2.toNat))).toNat) r6.2).bind fun r8 => ((R_draw r8 r6.2).bind fun r9 => (R_noises_34 (R_noises_5 x1 n) x1 x2 (mm 177 (w32 (10 + (mm 182 x2.toNat))).toNat) FU r9.1 0 r9.2))) else (R_noises_63 (R_noises_5 x1 n) x1 x2 r6.2)))) else none) else none) else (some mm)
set_option maxHeartbeats 4000000 in
theorem lk_R_noises_5 {p : Program} {l : Launch} {e : Env} {s : State} {m : MethodId} {args : Array Value} {below : List Frame} {meth : Method} {c : Code} {D : va_G} {cA : FieldType → ClassId} {ad adV : Nat → Nat} {z0 : Nat} {al0 : List Nat} (K : aK p s m args meth c mX12_noises D cA ad adV z0) (x1 : Int)  : ∀ (n : Nat) (x2 : Int) (mm : aM), aG p l e { frames := 1, cells := 0, slots := 0, locals := 22 } s m args below meth c D cA ad z0 mX12_noises al0 rM (R_noises_5 x1 n x2 mm) 5 [(0, .inr (.inr (.inl (some 176)))), (1, .inl x1), (2, .inl x2)] [] mm := by
  intro n
  induction n with
  | zero => intro x2 mm; exact g_none
  | succ n ih =>
    intro x2 mm
    rw [R_noises_5]
    refine gl (i' := 6) (fun _ _ => aw_iload_n K (dOf ck_mX12_noises rfl rfl) rfl) ?_
    refine gl (i' := 7) (fun _ _ => aw_aload_n K (dOf ck_mX12_noises rfl rfl) rfl) ?_
    refine gl (i' := 8) (fun _ _ => aw_getf K (dOf ck_mX12_noises rfl rfl) rfl rfl (Nat.le_of_ble_eq_true rfl) wd_1222 (k := 17) rfl) ?_
    refine g_icmp_ge K (dOf ck_mX12_noises rfl rfl) (t := 65) (aJ_of (by decide +kernel)) (fun h2 => ?_) (fun h2 => ?_)
    · refine gl (i' := 10) (fun _ _ => aw_aload_n K (dOf ck_mX12_noises rfl rfl) rfl) ?_
      refine gl (i' := 11) (fun _ _ => aw_getf K (dOf ck_mX12_noises rfl rfl) rfl rfl (Nat.le_of_ble_eq_true rfl) wd_1206 (k := 1) rfl) ?_
      refine gl (i' := 12) (fun _ _ => aw_bip K (dOf ck_mX12_noises rfl rfl) (v := 10) rfl) ?_
      refine gl (i' := 13) (fun _ _ => aw_aload_n K (dOf ck_mX12_noises rfl rfl) rfl) ?_
      refine gl (i' := 14) (fun _ _ => aw_getf K (dOf ck_mX12_noises rfl rfl) rfl rfl (Nat.le_of_ble_eq_true rfl) wd_1221 (k := 16) rfl) ?_
      refine gl (i' := 15) (fun _ _ => aw_iload_n K (dOf ck_mX12_noises rfl rfl) rfl) ?_
      refine g_gd (fun hb3 => ?_)
      refine gl (i' := 16) (fun _ _ => aw_iald K (dOf ck_mX12_noises rfl rfl) rfl hb3) ?_
      refine gl (i' := 17) (fun _ _ => aw_iadd K (dOf ck_mX12_noises rfl rfl)) ?_
      refine g_gd (fun hb4 => ?_)
      refine gl (i' := 18) (fun _ _ => aw_iald K (dOf ck_mX12_noises rfl rfl) rfl hb4) ?_
      refine gl (i' := 19) (fun _ _ => aw_istore_n K (dOf ck_mX12_noises rfl rfl) (Nat.le_of_ble_eq_true rfl)) ?_
      refine g_lv (lv' := [(3, .inl _), (0, .inr (.inr (.inl (some _)))), (1, .inl _), (2, .inl _)]) rfl ?_
      refine gl (i' := 20) (fun _ _ => aw_iload_n K (dOf ck_mX12_noises rfl rfl) rfl) ?_
      refine g_if_eq K (dOf ck_mX12_noises rfl rfl) (t := 63) (aJ_of (by decide +kernel)) (fun h5 => ?_) (fun h5 => ?_)
      · refine g_sub [1, 2, 3] rfl ?_
        exact lk_R_noises_63 K _ _ _ ih _
      · refine gl (i' := 22) (fun _ _ => aw_aload_n K (dOf ck_mX12_noises rfl rfl) rfl) ?_
        refine gl (i' := 23) (fun _ _ => aw_bip K (dOf ck_mX12_noises rfl rfl) (v := 100) rfl) ?_
        refine g_callVIM K [.inl _] rfl (dOf ck_mX12_noises rfl rfl) al_OneBreathModel_449 rfl rfl ⟨wd_1643, wd_133⟩ rfl (Nat.le_of_ble_eq_true rfl) ⟨Nat.le_of_ble_eq_true rfl, Nat.le_of_ble_eq_true rfl⟩ (fun b hb => met_R_draw  hb) (fun r6 hr6 => ?_)
        refine gl (i' := 25) (fun _ _ => aw_iload_n K (dOf ck_mX12_noises rfl rfl) rfl) ?_
        refine g_icmp_lt K (dOf ck_mX12_noises rfl rfl) (t := 27) (aJ_of (by decide +kernel)) (fun h7 => ?_) (fun h7 => ?_)
        · refine gl (i' := 28) (fun _ _ => aw_aload_n K (dOf ck_mX12_noises rfl rfl) rfl) ?_
          refine gl (i' := 29) (fun _ _ => aw_iload_n K (dOf ck_mX12_noises rfl rfl) rfl) ?_
          refine g_callSI K [.inl _] rfl (dOf ck_mX12_noises rfl rfl) al_OneBreathModel_413 wd_1565 rfl (Nat.le_of_ble_eq_true rfl) ⟨Nat.le_of_ble_eq_true rfl, Nat.le_of_ble_eq_true rfl⟩ (fun b hb => met_R_bitsOf  hb) (fun r8 hr8 => ?_)
          refine g_callVIM K [.inl _] rfl (dOf ck_mX12_noises rfl rfl) al_OneBreathModel_449 rfl rfl ⟨wd_1643, wd_133⟩ rfl (Nat.le_of_ble_eq_true rfl) ⟨Nat.le_of_ble_eq_true rfl, Nat.le_of_ble_eq_true rfl⟩ (fun b hb => met_R_draw  hb) (fun r9 hr9 => ?_)
          refine gl (i' := 32) (fun _ _ => aw_istore K (dOf ck_mX12_noises rfl rfl) (Nat.le_of_ble_eq_true rfl)) ?_
          refine g_lv (lv' := [(4, .inl _), (3, .inl _), (0, .inr (.inr (.inl (some _)))), (1, .inl _), (2, .inl _)]) rfl ?_
          refine gl (i' := 33) (fun _ _ => aw_iconst K (n := 0) (i32 _ rfl) (dOf ck_mX12_noises rfl rfl)) ?_
          refine gl (i' := 34) (fun _ _ => aw_istore K (dOf ck_mX12_noises rfl rfl) (Nat.le_of_ble_eq_true rfl)) ?_
          refine g_lv (lv' := [(5, .inl _), (4, .inl _), (3, .inl _), (0, .inr (.inr (.inl (some _)))), (1, .inl _), (2, .inl _)]) rfl ?_
          refine g_sub [3, 4, 5, 2, 1, 0] rfl ?_
          exact lk_R_noises_34 K _ _ _ _ ih FU _ _ _
        · refine g_goto K (dOf ck_mX12_noises rfl rfl).1 (t := 63) (aJ_of (by decide +kernel)) ?_
          refine g_sub [1, 2, 3] rfl ?_
          exact lk_R_noises_63 K _ _ _ ih _
    · exact g_vret K (by decide +kernel) rfl rfl
def R_noises (x1 : Int) (mm : aM) : Option aM := st1 (aup mm 176 51 0) fun mm1 => (R_noises_5 x1 FU 0 mm1)
set_option maxHeartbeats 4000000 in
theorem met_R_noises {l : Launch} {D : va_G} {cA : FieldType → ClassId} {ad adV : Nat → Nat} {z0 : Nat} {x1 : Int} {mm : aM}  {r : aM} (h : R_noises x1 mm = some r) : aMet l D cA ad adV z0 mX12_noises 1 22 0 0 [.inr (.inr (.inl (some 176))), .inl x1] SH mm (rM r).1 SH (rM r).2 := by
  refine aMet_ofG (by decide +kernel) rfl (Nat.le_of_ble_eq_true rfl) h (fun p e s m args below meth c al0 K => ?_)
  unfold R_noises
  refine gl (i' := 1) (fun _ _ => aw_aload_n K (dOf ck_mX12_noises rfl rfl) rfl) ?_
  refine gl (i' := 2) (fun _ _ => aw_iconst K (n := 0) (i32 _ rfl) (dOf ck_mX12_noises rfl rfl)) ?_
  refine g_st1 ?_
  refine gl (i' := 3) (fun _ _ => aw_putf K (dOf ck_mX12_noises rfl rfl) rfl rfl (Nat.le_of_ble_eq_true rfl) wd_1256 (k := 51) rfl rfl (Or.inl rfl)) ?_
  refine gl (i' := 4) (fun _ _ => aw_iconst K (n := 0) (i32 _ rfl) (dOf ck_mX12_noises rfl rfl)) ?_
  refine gl (i' := 5) (fun _ _ => aw_istore_n K (dOf ck_mX12_noises rfl rfl) (Nat.le_of_ble_eq_true rfl)) ?_
  refine g_lv (lv' := [(2, .inl _), (0, .inr (.inr (.inl (some _)))), (1, .inl _)]) rfl ?_
  refine g_sub [1, 2, 0] rfl ?_
  exact lk_R_noises_5 K _ FU _ _
def R_isHeard_15 (x1 : Int) : Nat → Int → aM → Option (Int × aM)
  | 0, _, _ => none
  | n + 1, x2, mm => if x2 < (mm 176 22) then (if 0 ≤ x2 ∧ x2 < 40 then (if 0 ≤ (w32 ((w32 (40 * x1)) + x2)) ∧ (w32 ((w32 (40 * x1)) + x2)) < 160 then (if (mm 186 x2.toNat) = (mm 207 (w32 ((w32 (40 * x1)) + x2)).toNat) then (R_isHeard_15 x1 n (w32 (x2 + 1)) mm) else (some (0, mm))) else none) else none) else (some (1, mm))
set_option maxHeartbeats 4000000 in
theorem lk_R_isHeard_15 {p : Program} {l : Launch} {e : Env} {s : State} {m : MethodId} {args : Array Value} {below : List Frame} {meth : Method} {c : Code} {D : va_G} {cA : FieldType → ClassId} {ad adV : Nat → Nat} {z0 : Nat} {al0 : List Nat} (K : aK p s m args meth c mX12_isHeard D cA ad adV z0) (x1 : Int)  : ∀ (n : Nat) (x2 : Int) (mm : aM), aG p l e { frames := 5, cells := 0, slots := 0, locals := 125 } s m args below meth c D cA ad z0 mX12_isHeard al0 rIM (R_isHeard_15 x1 n x2 mm) 15 [(0, .inr (.inr (.inl (some 176)))), (1, .inl x1), (2, .inl x2)] [] mm := by
  intro n
  induction n with
  | zero => intro x2 mm; exact g_none
  | succ n ih =>
    intro x2 mm
    rw [R_isHeard_15]
    refine gl (i' := 16) (fun _ _ => aw_iload_n K (dOf ck_mX12_isHeard rfl rfl) rfl) ?_
    refine gl (i' := 17) (fun _ _ => aw_aload_n K (dOf ck_mX12_isHeard rfl rfl) rfl) ?_
    refine gl (i' := 18) (fun _ _ => aw_getf K (dOf ck_mX12_isHeard rfl rfl) rfl rfl (Nat.le_of_ble_eq_true rfl) wd_1227 (k := 22) rfl) ?_
    refine g_icmp_ge K (dOf ck_mX12_isHeard rfl rfl) (t := 38) (aJ_of (by decide +kernel)) (fun h5 => ?_) (fun h5 => ?_)
    · refine gl (i' := 20) (fun _ _ => aw_aload_n K (dOf ck_mX12_isHeard rfl rfl) rfl) ?_
      refine gl (i' := 21) (fun _ _ => aw_getf K (dOf ck_mX12_isHeard rfl rfl) rfl rfl (Nat.le_of_ble_eq_true rfl) wd_1226 (k := 21) rfl) ?_
      refine gl (i' := 22) (fun _ _ => aw_iload_n K (dOf ck_mX12_isHeard rfl rfl) rfl) ?_
      refine g_gd (fun hb6 => ?_)
      refine gl (i' := 23) (fun _ _ => aw_iald K (dOf ck_mX12_isHeard rfl rfl) rfl hb6) ?_
      refine gl (i' := 24) (fun _ _ => aw_i2l K (dOf ck_mX12_isHeard rfl rfl)) ?_
      refine gl (i' := 25) (fun _ _ => aw_aload_n K (dOf ck_mX12_isHeard rfl rfl) rfl) ?_
      refine gl (i' := 26) (fun _ _ => aw_getf K (dOf ck_mX12_isHeard rfl rfl) rfl rfl (Nat.le_of_ble_eq_true rfl) wd_1259 (k := 54) rfl) ?_
      refine gl (i' := 27) (fun _ _ => aw_bip K (dOf ck_mX12_isHeard rfl rfl) (v := 40) rfl) ?_
      refine gl (i' := 28) (fun _ _ => aw_iload_n K (dOf ck_mX12_isHeard rfl rfl) rfl) ?_
      refine gl (i' := 29) (fun _ _ => aw_imul K (dOf ck_mX12_isHeard rfl rfl)) ?_
      refine gl (i' := 30) (fun _ _ => aw_iload_n K (dOf ck_mX12_isHeard rfl rfl) rfl) ?_
      refine gl (i' := 31) (fun _ _ => aw_iadd K (dOf ck_mX12_isHeard rfl rfl)) ?_
      refine g_gd (fun hb7 => ?_)
      refine gl (i' := 32) (fun _ _ => aw_lald K (dOf ck_mX12_isHeard rfl rfl) rfl hb7) ?_
      refine g_lcmp_eq K (dOf ck_mX12_isHeard rfl rfl) (dOf ck_mX12_isHeard rfl rfl) (t := 36) (aJ_of (by decide +kernel)) (fun h8 => ?_) (fun h8 => ?_)
      · refine gl (i' := 37) (fun _ _ => aw_iinc K (dOf ck_mX12_isHeard rfl rfl) (Nat.le_of_ble_eq_true rfl) rfl) ?_
        refine g_lv (lv' := [(2, .inl _), (0, .inr (.inr (.inl (some _)))), (1, .inl _)]) rfl ?_
        refine g_goto K (dOf ck_mX12_isHeard rfl rfl).1 (t := 15) (aJ_of (by decide +kernel)) ?_
        refine g_sub [1, 2, 0] rfl ?_
        exact ih _ _
      · refine gl (i' := 35) (fun _ _ => aw_iconst K (n := 0) (i32 _ rfl) (dOf ck_mX12_isHeard rfl rfl)) ?_
        exact g_iret K (dOf ck_mX12_isHeard rfl rfl).1 rfl (Or.inr (Or.inl ⟨rfl, Or.inl rfl⟩)) rfl
    · refine gl (i' := 39) (fun _ _ => aw_iconst K (n := 1) (i32 _ rfl) (dOf ck_mX12_isHeard rfl rfl)) ?_
      exact g_iret K (by decide +kernel) rfl (Or.inr (Or.inl ⟨rfl, Or.inr rfl⟩)) rfl
def R_isHeard (x1 : Int) (mm : aM) : Option (Int × aM) := (R_findsBest 1 mm).bind fun r1 => (if r1.1 = 0 then (some (0, r1.2)) else (if 0 ≤ x1 ∧ x1 < 4 then (if (r1.2 176 22) = (r1.2 206 x1.toNat) then (R_isHeard_15 x1 FU 0 r1.2) else (some (0, r1.2))) else none))
set_option maxHeartbeats 4000000 in
theorem met_R_isHeard {l : Launch} {D : va_G} {cA : FieldType → ClassId} {ad adV : Nat → Nat} {z0 : Nat} {x1 : Int} {mm : aM}  {r : Int × aM} (h : R_isHeard x1 mm = some r) : aMet l D cA ad adV z0 mX12_isHeard 5 125 0 0 [.inr (.inr (.inl (some 176))), .inl x1] SH mm (rIM r).1 SH (rIM r).2 := by
  refine aMet_ofG (by decide +kernel) rfl (Nat.le_of_ble_eq_true rfl) h (fun p e s m args below meth c al0 K => ?_)
  unfold R_isHeard
  refine gl (i' := 1) (fun _ _ => aw_aload_n K (dOf ck_mX12_isHeard rfl rfl) rfl) ?_
  refine gl (i' := 2) (fun _ _ => aw_iconst K (n := 1) (i32 _ rfl) (dOf ck_mX12_isHeard rfl rfl)) ?_
  refine g_callVIM K [.inl _] rfl (dOf ck_mX12_isHeard rfl rfl) al_OneBreathModel_306 rfl rfl ⟨wd_1456, wd_100⟩ rfl (Nat.le_of_ble_eq_true rfl) ⟨Nat.le_of_ble_eq_true rfl, Nat.le_of_ble_eq_true rfl⟩ (fun b hb => met_R_findsBest  hb) (fun r1 hr1 => ?_)
  refine g_if_eq K (dOf ck_mX12_isHeard rfl rfl) (t := 11) (aJ_of (by decide +kernel)) (fun h2 => ?_) (fun h2 => ?_)
  · refine gl (i' := 12) (fun _ _ => aw_iconst K (n := 0) (i32 _ rfl) (dOf ck_mX12_isHeard rfl rfl)) ?_
    exact g_iret K (dOf ck_mX12_isHeard rfl rfl).1 rfl (Or.inr (Or.inl ⟨rfl, Or.inl rfl⟩)) rfl
  · refine gl (i' := 5) (fun _ _ => aw_aload_n K (dOf ck_mX12_isHeard rfl rfl) rfl) ?_
    refine gl (i' := 6) (fun _ _ => aw_getf K (dOf ck_mX12_isHeard rfl rfl) rfl rfl (Nat.le_of_ble_eq_true rfl) wd_1227 (k := 22) rfl) ?_
    refine gl (i' := 7) (fun _ _ => aw_aload_n K (dOf ck_mX12_isHeard rfl rfl) rfl) ?_
    refine gl (i' := 8) (fun _ _ => aw_getf K (dOf ck_mX12_isHeard rfl rfl) rfl rfl (Nat.le_of_ble_eq_true rfl) wd_1258 (k := 53) rfl) ?_
    refine gl (i' := 9) (fun _ _ => aw_iload_n K (dOf ck_mX12_isHeard rfl rfl) rfl) ?_
    refine g_gd (fun hb3 => ?_)
    refine gl (i' := 10) (fun _ _ => aw_iald K (dOf ck_mX12_isHeard rfl rfl) rfl hb3) ?_
    refine g_icmp_eq K (dOf ck_mX12_isHeard rfl rfl) (t := 13) (aJ_of (by decide +kernel)) (fun h4 => ?_) (fun h4 => ?_)
    · refine gl (i' := 14) (fun _ _ => aw_iconst K (n := 0) (i32 _ rfl) (dOf ck_mX12_isHeard rfl rfl)) ?_
      refine gl (i' := 15) (fun _ _ => aw_istore_n K (dOf ck_mX12_isHeard rfl rfl) (Nat.le_of_ble_eq_true rfl)) ?_
      refine g_lv (lv' := [(2, .inl _), (0, .inr (.inr (.inl (some _)))), (1, .inl _)]) rfl ?_
      refine g_sub [1, 2, 0] rfl ?_
      exact lk_R_isHeard_15 K _ FU _ _
    · refine gl (i' := 12) (fun _ _ => aw_iconst K (n := 0) (i32 _ rfl) (dOf ck_mX12_isHeard rfl rfl)) ?_
      exact g_iret K (dOf ck_mX12_isHeard rfl rfl).1 rfl (Or.inr (Or.inl ⟨rfl, Or.inl rfl⟩)) rfl
def R_noise_23 (x1 : Int) (x2 : Int) (x3 : Int) (x4 : Int) (mm : aM) : Option (Int × aM) := (R_refusesNoise x1 x3 mm).bind fun r6 => (if r6 = 0 then (st1 (aup mm 176 50 x2) fun mm8 => ((R_says x1 mm8).bind fun r9 => ((R_noises x3 r9).bind fun r10 => (if x4 = 0 then (some (r10 176 51, r10)) else (if x4 = 1 then ((R_isHeard x1 r10).bind fun r15 => (if r15.1 = 0 then (some (0, r15.2)) else (some (1, r15.2)))) else (if (w32 (x4 - 10)) < (r10 176 17) then (if 0 ≤ (w32 (x4 - 10)) ∧ (w32 (x4 - 10)) < 40 then (some (r10 182 (w32 (x4 - 10)).toNat, r10)) else none) else (some ((-1), r10)))))))) else (some (r6, mm)))
set_option maxHeartbeats 4000000 in
theorem lk_R_noise_23 {p : Program} {l : Launch} {e : Env} {s : State} {m : MethodId} {args : Array Value} {below : List Frame} {meth : Method} {c : Code} {D : va_G} {cA : FieldType → ClassId} {ad adV : Nat → Nat} {z0 : Nat} {al0 : List Nat} (K : aK p s m args meth c mX12_noise D cA ad adV z0) (x1 : Int) (x2 : Int) (x3 : Int) (x4 : Int)  (mm : aM) : aG p l e { frames := 6, cells := 0, slots := 0, locals := 147 } s m args below meth c D cA ad z0 mX12_noise al0 rIM (R_noise_23 x1 x2 x3 x4 mm) 23 [(0, .inr (.inr (.inl (some 176)))), (1, .inl x1), (2, .inl x2), (3, .inl x3), (4, .inl x4)] [] mm := by
  unfold R_noise_23
  refine gl (i' := 24) (fun _ _ => aw_aload_n K (dOf ck_mX12_noise rfl rfl) rfl) ?_
  refine gl (i' := 25) (fun _ _ => aw_iload_n K (dOf ck_mX12_noise rfl rfl) rfl) ?_
  refine gl (i' := 26) (fun _ _ => aw_iload_n K (dOf ck_mX12_noise rfl rfl) rfl) ?_
  refine g_callVI K [.inl _, .inl _] rfl (dOf ck_mX12_noise rfl rfl) al_OneBreathModel_456 rfl rfl ⟨wd_1636, wd_131⟩ rfl (Nat.le_of_ble_eq_true rfl) ⟨Nat.le_of_ble_eq_true rfl, Nat.le_of_ble_eq_true rfl⟩ (fun b hb => met_R_refusesNoise  hb) (fun r6 hr6 => ?_)
  refine gl (i' := 28) (fun _ _ => aw_istore K (dOf ck_mX12_noise rfl rfl) (Nat.le_of_ble_eq_true rfl)) ?_
  refine g_lv (lv' := [(5, .inl _), (0, .inr (.inr (.inl (some _)))), (1, .inl _), (2, .inl _), (3, .inl _), (4, .inl _)]) rfl ?_
  refine gl (i' := 29) (fun _ _ => aw_iload K (dOf ck_mX12_noise rfl rfl) rfl) ?_
  refine g_if_eq K (dOf ck_mX12_noise rfl rfl) (t := 32) (aJ_of (by decide +kernel)) (fun h7 => ?_) (fun h7 => ?_)
  · refine gl (i' := 33) (fun _ _ => aw_aload_n K (dOf ck_mX12_noise rfl rfl) rfl) ?_
    refine gl (i' := 34) (fun _ _ => aw_iload_n K (dOf ck_mX12_noise rfl rfl) rfl) ?_
    refine g_st1 ?_
    refine gl (i' := 35) (fun _ _ => aw_putf K (dOf ck_mX12_noise rfl rfl) rfl rfl (Nat.le_of_ble_eq_true rfl) wd_1255 (k := 50) rfl rfl (Or.inl rfl)) ?_
    refine gl (i' := 36) (fun _ _ => aw_aload_n K (dOf ck_mX12_noise rfl rfl) rfl) ?_
    refine gl (i' := 37) (fun _ _ => aw_iload_n K (dOf ck_mX12_noise rfl rfl) rfl) ?_
    refine g_callVM K [.inl _] rfl (dOf ck_mX12_noise rfl rfl) al_OneBreathModel_265 rfl rfl ⟨wd_1412, wd_91⟩ rfl (Nat.le_of_ble_eq_true rfl) ⟨Nat.le_of_ble_eq_true rfl, Nat.le_of_ble_eq_true rfl⟩ (fun b hb => met_R_says  hb) (fun r9 hr9 => ?_)
    refine gl (i' := 39) (fun _ _ => aw_aload_n K (dOf ck_mX12_noise rfl rfl) rfl) ?_
    refine gl (i' := 40) (fun _ _ => aw_iload_n K (dOf ck_mX12_noise rfl rfl) rfl) ?_
    refine g_callVM K [.inl _] rfl (dOf ck_mX12_noise rfl rfl) al_OneBreathModel_459 rfl rfl ⟨wd_1640, wd_132⟩ rfl (Nat.le_of_ble_eq_true rfl) ⟨Nat.le_of_ble_eq_true rfl, Nat.le_of_ble_eq_true rfl⟩ (fun b hb => met_R_noises  hb) (fun r10 hr10 => ?_)
    refine gl (i' := 42) (fun _ _ => aw_iload K (dOf ck_mX12_noise rfl rfl) rfl) ?_
    refine g_if_ne K (dOf ck_mX12_noise rfl rfl) (t := 46) (aJ_of (by decide +kernel)) (fun h11 => ?_) (fun h11 => ?_)
    · refine gl (i' := 44) (fun _ _ => aw_aload_n K (dOf ck_mX12_noise rfl rfl) rfl) ?_
      refine gl (i' := 45) (fun _ _ => aw_getf K (dOf ck_mX12_noise rfl rfl) rfl rfl (Nat.le_of_ble_eq_true rfl) wd_1256 (k := 51) rfl) ?_
      exact g_iret K (dOf ck_mX12_noise rfl rfl).1 rfl (Or.inl rfl) rfl
    · refine gl (i' := 47) (fun _ _ => aw_iload K (dOf ck_mX12_noise rfl rfl) rfl) ?_
      refine gl (i' := 48) (fun _ _ => aw_iconst K (n := 1) (i32 _ rfl) (dOf ck_mX12_noise rfl rfl)) ?_
      refine g_icmp_ne K (dOf ck_mX12_noise rfl rfl) (t := 57) (aJ_of (by decide +kernel)) (fun h12 => ?_) (fun h12 => ?_)
      · refine gl (i' := 50) (fun _ _ => aw_aload_n K (dOf ck_mX12_noise rfl rfl) rfl) ?_
        refine gl (i' := 51) (fun _ _ => aw_iload_n K (dOf ck_mX12_noise rfl rfl) rfl) ?_
        refine g_callVIM K [.inl _] rfl (dOf ck_mX12_noise rfl rfl) al_OneBreathModel_462 rfl rfl ⟨wd_1647, wd_134⟩ rfl (Nat.le_of_ble_eq_true rfl) ⟨Nat.le_of_ble_eq_true rfl, Nat.le_of_ble_eq_true rfl⟩ (fun b hb => met_R_isHeard  hb) (fun r15 hr15 => ?_)
        refine g_if_eq K (dOf ck_mX12_noise rfl rfl) (t := 55) (aJ_of (by decide +kernel)) (fun h16 => ?_) (fun h16 => ?_)
        · refine gl (i' := 56) (fun _ _ => aw_iconst K (n := 0) (i32 _ rfl) (dOf ck_mX12_noise rfl rfl)) ?_
          exact g_iret K (dOf ck_mX12_noise rfl rfl).1 rfl (Or.inl rfl) rfl
        · refine gl (i' := 54) (fun _ _ => aw_iconst K (n := 1) (i32 _ rfl) (dOf ck_mX12_noise rfl rfl)) ?_
          refine g_goto K (dOf ck_mX12_noise rfl rfl).1 (t := 56) (aJ_of (by decide +kernel)) ?_
          exact g_iret K (dOf ck_mX12_noise rfl rfl).1 rfl (Or.inl rfl) rfl
      · refine gl (i' := 58) (fun _ _ => aw_iload K (dOf ck_mX12_noise rfl rfl) rfl) ?_
        refine gl (i' := 59) (fun _ _ => aw_bip K (dOf ck_mX12_noise rfl rfl) (v := 10) rfl) ?_
        refine gl (i' := 60) (fun _ _ => aw_isub K (dOf ck_mX12_noise rfl rfl)) ?_
        refine gl (i' := 61) (fun _ _ => aw_aload_n K (dOf ck_mX12_noise rfl rfl) rfl) ?_
        refine gl (i' := 62) (fun _ _ => aw_getf K (dOf ck_mX12_noise rfl rfl) rfl rfl (Nat.le_of_ble_eq_true rfl) wd_1222 (k := 17) rfl) ?_
        refine g_icmp_ge K (dOf ck_mX12_noise rfl rfl) (t := 70) (aJ_of (by decide +kernel)) (fun h13 => ?_) (fun h13 => ?_)
        · refine gl (i' := 64) (fun _ _ => aw_aload_n K (dOf ck_mX12_noise rfl rfl) rfl) ?_
          refine gl (i' := 65) (fun _ _ => aw_getf K (dOf ck_mX12_noise rfl rfl) rfl rfl (Nat.le_of_ble_eq_true rfl) wd_1221 (k := 16) rfl) ?_
          refine gl (i' := 66) (fun _ _ => aw_iload K (dOf ck_mX12_noise rfl rfl) rfl) ?_
          refine gl (i' := 67) (fun _ _ => aw_bip K (dOf ck_mX12_noise rfl rfl) (v := 10) rfl) ?_
          refine gl (i' := 68) (fun _ _ => aw_isub K (dOf ck_mX12_noise rfl rfl)) ?_
          refine g_gd (fun hb14 => ?_)
          refine gl (i' := 69) (fun _ _ => aw_iald K (dOf ck_mX12_noise rfl rfl) rfl hb14) ?_
          refine g_goto K (dOf ck_mX12_noise rfl rfl).1 (t := 71) (aJ_of (by decide +kernel)) ?_
          exact g_iret K (by decide +kernel) rfl (Or.inl rfl) rfl
        · refine gl (i' := 71) (fun _ _ => aw_iconst K (n := -1) (i32 _ rfl) (dOf ck_mX12_noise rfl rfl)) ?_
          exact g_iret K (by decide +kernel) rfl (Or.inl rfl) rfl
  · refine gl (i' := 31) (fun _ _ => aw_iload K (dOf ck_mX12_noise rfl rfl) rfl) ?_
    exact g_iret K (dOf ck_mX12_noise rfl rfl).1 rfl (Or.inl rfl) rfl
def R_noise (x1 : Int) (x2 : Int) (x3 : Int) (x4 : Int) (mm : aM) : Option (Int × aM) := st1 (aup mm 176 0 0) fun mm1 => ((R_within x1 0 3 mm1).bind fun r2 => (if r2 = 0 then (some ((-2), mm1)) else ((R_within x4 0 1 mm1).bind fun r4 => (if r4 = 0 then ((R_within x4 10 49 mm1).bind fun r17 => (if r17 = 0 then (some ((-2), mm1)) else (R_noise_23 x1 x2 x3 x4 mm1))) else (R_noise_23 x1 x2 x3 x4 mm1)))))
set_option maxHeartbeats 4000000 in
theorem met_R_noise {l : Launch} {D : va_G} {cA : FieldType → ClassId} {ad adV : Nat → Nat} {z0 : Nat} {x1 : Int} {x2 : Int} {x3 : Int} {x4 : Int} {mm : aM}  {r : Int × aM} (h : R_noise x1 x2 x3 x4 mm = some r) : aMet l D cA ad adV z0 mX12_noise 6 147 0 0 [.inr (.inr (.inl (some 176))), .inl x1, .inl x2, .inl x3, .inl x4] SH mm (rIM r).1 SH (rIM r).2 := by
  refine aMet_ofG (by decide +kernel) rfl (Nat.le_of_ble_eq_true rfl) h (fun p e s m args below meth c al0 K => ?_)
  unfold R_noise
  refine gl (i' := 1) (fun _ _ => aw_aload_n K (dOf ck_mX12_noise rfl rfl) rfl) ?_
  refine gl (i' := 2) (fun _ _ => aw_iconst K (n := 0) (i32 _ rfl) (dOf ck_mX12_noise rfl rfl)) ?_
  refine g_st1 ?_
  refine gl (i' := 3) (fun _ _ => aw_putf K (dOf ck_mX12_noise rfl rfl) rfl rfl (Nat.le_of_ble_eq_true rfl) wd_1205 (k := 0) rfl rfl (Or.inl rfl)) ?_
  refine gl (i' := 4) (fun _ _ => aw_iload_n K (dOf ck_mX12_noise rfl rfl) rfl) ?_
  refine gl (i' := 5) (fun _ _ => aw_i2l K (dOf ck_mX12_noise rfl rfl)) ?_
  refine gl (i' := 6) (fun _ _ => aw_lcn K (dOf ck_mX12_noise rfl rfl) (v := 0) rfl) ?_
  refine gl (i' := 7) (fun _ _ => aw_ldc2 K (dOf ck_mX12_noise rfl rfl) (n := 3) wd_1365 (i64 _ rfl)) ?_
  refine g_callSI K [.inr (.inl _), .inr (.inl _), .inr (.inl _)] rfl (dOf ck_mX12_noise rfl rfl) al_OneBreathModel_176 wd_1269 rfl (Nat.le_of_ble_eq_true rfl) ⟨Nat.le_of_ble_eq_true rfl, Nat.le_of_ble_eq_true rfl⟩ (fun b hb => met_R_within  hb) (fun r2 hr2 => ?_)
  refine g_if_eq K (dOf ck_mX12_noise rfl rfl) (t := 21) (aJ_of (by decide +kernel)) (fun h3 => ?_) (fun h3 => ?_)
  · refine gl (i' := 22) (fun _ _ => aw_bip K (dOf ck_mX12_noise rfl rfl) (v := -2) rfl) ?_
    exact g_iret K (dOf ck_mX12_noise rfl rfl).1 rfl (Or.inl rfl) rfl
  · refine gl (i' := 10) (fun _ _ => aw_iload K (dOf ck_mX12_noise rfl rfl) rfl) ?_
    refine gl (i' := 11) (fun _ _ => aw_i2l K (dOf ck_mX12_noise rfl rfl)) ?_
    refine gl (i' := 12) (fun _ _ => aw_lcn K (dOf ck_mX12_noise rfl rfl) (v := 0) rfl) ?_
    refine gl (i' := 13) (fun _ _ => aw_lcn K (dOf ck_mX12_noise rfl rfl) (v := 1) rfl) ?_
    refine g_callSI K [.inr (.inl _), .inr (.inl _), .inr (.inl _)] rfl (dOf ck_mX12_noise rfl rfl) al_OneBreathModel_176 wd_1269 rfl (Nat.le_of_ble_eq_true rfl) ⟨Nat.le_of_ble_eq_true rfl, Nat.le_of_ble_eq_true rfl⟩ (fun b hb => met_R_within  hb) (fun r4 hr4 => ?_)
    refine g_if_ne K (dOf ck_mX12_noise rfl rfl) (t := 23) (aJ_of (by decide +kernel)) (fun h5 => ?_) (fun h5 => ?_)
    · refine gl (i' := 16) (fun _ _ => aw_iload K (dOf ck_mX12_noise rfl rfl) rfl) ?_
      refine gl (i' := 17) (fun _ _ => aw_i2l K (dOf ck_mX12_noise rfl rfl)) ?_
      refine gl (i' := 18) (fun _ _ => aw_ldc2 K (dOf ck_mX12_noise rfl rfl) (n := 10) wd_1355 (i64 _ rfl)) ?_
      refine gl (i' := 19) (fun _ _ => aw_ldc2 K (dOf ck_mX12_noise rfl rfl) (n := 49) wd_1634 (i64 _ rfl)) ?_
      refine g_callSI K [.inr (.inl _), .inr (.inl _), .inr (.inl _)] rfl (dOf ck_mX12_noise rfl rfl) al_OneBreathModel_176 wd_1269 rfl (Nat.le_of_ble_eq_true rfl) ⟨Nat.le_of_ble_eq_true rfl, Nat.le_of_ble_eq_true rfl⟩ (fun b hb => met_R_within  hb) (fun r17 hr17 => ?_)
      refine g_if_ne K (dOf ck_mX12_noise rfl rfl) (t := 23) (aJ_of (by decide +kernel)) (fun h18 => ?_) (fun h18 => ?_)
      · refine gl (i' := 22) (fun _ _ => aw_bip K (dOf ck_mX12_noise rfl rfl) (v := -2) rfl) ?_
        exact g_iret K (dOf ck_mX12_noise rfl rfl).1 rfl (Or.inl rfl) rfl
      · refine g_sub [0, 1, 2, 3, 4] rfl ?_
        exact lk_R_noise_23 K _ _ _ _ _
    · refine g_sub [0, 1, 2, 3, 4] rfl ?_
      exact lk_R_noise_23 K _ _ _ _ _
def R_asked_25 (x1 : Int) (x3 : Int) : Nat → Int → aM → Option (Int × aM)
  | 0, _, _ => none
  | n + 1, x5, mm => if x5 < 10 then ((R_says x1 mm).bind fun r8 => ((R_noises x3 r8).bind fun r9 => ((R_isHeard x1 r9).bind fun r10 => (if r10.1 = 0 then (R_asked_25 x1 x3 n (w32 (x5 + 1)) r10.2) else (some (x5, r10.2)))))) else (some ((-1), mm))
set_option maxHeartbeats 4000000 in
theorem lk_R_asked_25 {p : Program} {l : Launch} {e : Env} {s : State} {m : MethodId} {args : Array Value} {below : List Frame} {meth : Method} {c : Code} {D : va_G} {cA : FieldType → ClassId} {ad adV : Nat → Nat} {z0 : Nat} {al0 : List Nat} (K : aK p s m args meth c mX12_asked D cA ad adV z0) (x1 : Int) (x3 : Int)  : ∀ (n : Nat) (x5 : Int) (mm : aM), aG p l e { frames := 6, cells := 0, slots := 0, locals := 147 } s m args below meth c D cA ad z0 mX12_asked al0 rIM (R_asked_25 x1 x3 n x5 mm) 25 [(0, .inr (.inr (.inl (some 176)))), (1, .inl x1), (3, .inl x3), (5, .inl x5)] [] mm := by
  intro n
  induction n with
  | zero => intro x5 mm; exact g_none
  | succ n ih =>
    intro x5 mm
    rw [R_asked_25]
    refine gl (i' := 26) (fun _ _ => aw_iload K (dOf ck_mX12_asked rfl rfl) rfl) ?_
    refine gl (i' := 27) (fun _ _ => aw_bip K (dOf ck_mX12_asked rfl rfl) (v := 10) rfl) ?_
    refine g_icmp_ge K (dOf ck_mX12_asked rfl rfl) (t := 42) (aJ_of (by decide +kernel)) (fun h7 => ?_) (fun h7 => ?_)
    · refine gl (i' := 29) (fun _ _ => aw_aload_n K (dOf ck_mX12_asked rfl rfl) rfl) ?_
      refine gl (i' := 30) (fun _ _ => aw_iload_n K (dOf ck_mX12_asked rfl rfl) rfl) ?_
      refine g_callVM K [.inl _] rfl (dOf ck_mX12_asked rfl rfl) al_OneBreathModel_265 rfl rfl ⟨wd_1412, wd_91⟩ rfl (Nat.le_of_ble_eq_true rfl) ⟨Nat.le_of_ble_eq_true rfl, Nat.le_of_ble_eq_true rfl⟩ (fun b hb => met_R_says  hb) (fun r8 hr8 => ?_)
      refine gl (i' := 32) (fun _ _ => aw_aload_n K (dOf ck_mX12_asked rfl rfl) rfl) ?_
      refine gl (i' := 33) (fun _ _ => aw_iload_n K (dOf ck_mX12_asked rfl rfl) rfl) ?_
      refine g_callVM K [.inl _] rfl (dOf ck_mX12_asked rfl rfl) al_OneBreathModel_459 rfl rfl ⟨wd_1640, wd_132⟩ rfl (Nat.le_of_ble_eq_true rfl) ⟨Nat.le_of_ble_eq_true rfl, Nat.le_of_ble_eq_true rfl⟩ (fun b hb => met_R_noises  hb) (fun r9 hr9 => ?_)
      refine gl (i' := 35) (fun _ _ => aw_aload_n K (dOf ck_mX12_asked rfl rfl) rfl) ?_
      refine gl (i' := 36) (fun _ _ => aw_iload_n K (dOf ck_mX12_asked rfl rfl) rfl) ?_
      refine g_callVIM K [.inl _] rfl (dOf ck_mX12_asked rfl rfl) al_OneBreathModel_462 rfl rfl ⟨wd_1647, wd_134⟩ rfl (Nat.le_of_ble_eq_true rfl) ⟨Nat.le_of_ble_eq_true rfl, Nat.le_of_ble_eq_true rfl⟩ (fun b hb => met_R_isHeard  hb) (fun r10 hr10 => ?_)
      refine g_if_eq K (dOf ck_mX12_asked rfl rfl) (t := 40) (aJ_of (by decide +kernel)) (fun h11 => ?_) (fun h11 => ?_)
      · refine gl (i' := 41) (fun _ _ => aw_iinc K (dOf ck_mX12_asked rfl rfl) (Nat.le_of_ble_eq_true rfl) rfl) ?_
        refine g_lv (lv' := [(5, .inl _), (0, .inr (.inr (.inl (some _)))), (1, .inl _), (3, .inl _)]) rfl ?_
        refine g_goto K (dOf ck_mX12_asked rfl rfl).1 (t := 25) (aJ_of (by decide +kernel)) ?_
        refine g_sub [1, 2, 3, 0] rfl ?_
        exact ih _ _
      · refine gl (i' := 39) (fun _ _ => aw_iload K (dOf ck_mX12_asked rfl rfl) rfl) ?_
        exact g_iret K (dOf ck_mX12_asked rfl rfl).1 rfl (Or.inl rfl) rfl
    · refine gl (i' := 43) (fun _ _ => aw_iconst K (n := -1) (i32 _ rfl) (dOf ck_mX12_asked rfl rfl)) ?_
      exact g_iret K (by decide +kernel) rfl (Or.inl rfl) rfl
def R_asked (x1 : Int) (x2 : Int) (x3 : Int) (mm : aM) : Option (Int × aM) := st1 (aup mm 176 0 0) fun mm1 => ((R_within x1 0 3 mm1).bind fun r2 => (if r2 = 0 then (some ((-2), mm1)) else ((R_refusesNoise x1 x3 mm1).bind fun r4 => (if r4 = 0 then (st1 (aup mm1 176 50 x2) fun mm6 => (R_asked_25 x1 x3 FU 1 mm6)) else (some (r4, mm1))))))
set_option maxHeartbeats 4000000 in
theorem met_R_asked {l : Launch} {D : va_G} {cA : FieldType → ClassId} {ad adV : Nat → Nat} {z0 : Nat} {x1 : Int} {x2 : Int} {x3 : Int} {mm : aM}  {r : Int × aM} (h : R_asked x1 x2 x3 mm = some r) : aMet l D cA ad adV z0 mX12_asked 6 147 0 0 [.inr (.inr (.inl (some 176))), .inl x1, .inl x2, .inl x3] SH mm (rIM r).1 SH (rIM r).2 := by
  refine aMet_ofG (by decide +kernel) rfl (Nat.le_of_ble_eq_true rfl) h (fun p e s m args below meth c al0 K => ?_)
  unfold R_asked
  refine gl (i' := 1) (fun _ _ => aw_aload_n K (dOf ck_mX12_asked rfl rfl) rfl) ?_
  refine gl (i' := 2) (fun _ _ => aw_iconst K (n := 0) (i32 _ rfl) (dOf ck_mX12_asked rfl rfl)) ?_
  refine g_st1 ?_
  refine gl (i' := 3) (fun _ _ => aw_putf K (dOf ck_mX12_asked rfl rfl) rfl rfl (Nat.le_of_ble_eq_true rfl) wd_1205 (k := 0) rfl rfl (Or.inl rfl)) ?_
  refine gl (i' := 4) (fun _ _ => aw_iload_n K (dOf ck_mX12_asked rfl rfl) rfl) ?_
  refine gl (i' := 5) (fun _ _ => aw_i2l K (dOf ck_mX12_asked rfl rfl)) ?_
  refine gl (i' := 6) (fun _ _ => aw_lcn K (dOf ck_mX12_asked rfl rfl) (v := 0) rfl) ?_
  refine gl (i' := 7) (fun _ _ => aw_ldc2 K (dOf ck_mX12_asked rfl rfl) (n := 3) wd_1365 (i64 _ rfl)) ?_
  refine g_callSI K [.inr (.inl _), .inr (.inl _), .inr (.inl _)] rfl (dOf ck_mX12_asked rfl rfl) al_OneBreathModel_176 wd_1269 rfl (Nat.le_of_ble_eq_true rfl) ⟨Nat.le_of_ble_eq_true rfl, Nat.le_of_ble_eq_true rfl⟩ (fun b hb => met_R_within  hb) (fun r2 hr2 => ?_)
  refine g_if_ne K (dOf ck_mX12_asked rfl rfl) (t := 11) (aJ_of (by decide +kernel)) (fun h3 => ?_) (fun h3 => ?_)
  · refine gl (i' := 10) (fun _ _ => aw_bip K (dOf ck_mX12_asked rfl rfl) (v := -2) rfl) ?_
    exact g_iret K (dOf ck_mX12_asked rfl rfl).1 rfl (Or.inl rfl) rfl
  · refine gl (i' := 12) (fun _ _ => aw_aload_n K (dOf ck_mX12_asked rfl rfl) rfl) ?_
    refine gl (i' := 13) (fun _ _ => aw_iload_n K (dOf ck_mX12_asked rfl rfl) rfl) ?_
    refine gl (i' := 14) (fun _ _ => aw_iload_n K (dOf ck_mX12_asked rfl rfl) rfl) ?_
    refine g_callVI K [.inl _, .inl _] rfl (dOf ck_mX12_asked rfl rfl) al_OneBreathModel_456 rfl rfl ⟨wd_1636, wd_131⟩ rfl (Nat.le_of_ble_eq_true rfl) ⟨Nat.le_of_ble_eq_true rfl, Nat.le_of_ble_eq_true rfl⟩ (fun b hb => met_R_refusesNoise  hb) (fun r4 hr4 => ?_)
    refine gl (i' := 16) (fun _ _ => aw_istore K (dOf ck_mX12_asked rfl rfl) (Nat.le_of_ble_eq_true rfl)) ?_
    refine g_lv (lv' := [(4, .inl _), (0, .inr (.inr (.inl (some _)))), (1, .inl _), (2, .inl _), (3, .inl _)]) rfl ?_
    refine gl (i' := 17) (fun _ _ => aw_iload K (dOf ck_mX12_asked rfl rfl) rfl) ?_
    refine g_if_eq K (dOf ck_mX12_asked rfl rfl) (t := 20) (aJ_of (by decide +kernel)) (fun h5 => ?_) (fun h5 => ?_)
    · refine gl (i' := 21) (fun _ _ => aw_aload_n K (dOf ck_mX12_asked rfl rfl) rfl) ?_
      refine gl (i' := 22) (fun _ _ => aw_iload_n K (dOf ck_mX12_asked rfl rfl) rfl) ?_
      refine g_st1 ?_
      refine gl (i' := 23) (fun _ _ => aw_putf K (dOf ck_mX12_asked rfl rfl) rfl rfl (Nat.le_of_ble_eq_true rfl) wd_1255 (k := 50) rfl rfl (Or.inl rfl)) ?_
      refine gl (i' := 24) (fun _ _ => aw_iconst K (n := 1) (i32 _ rfl) (dOf ck_mX12_asked rfl rfl)) ?_
      refine gl (i' := 25) (fun _ _ => aw_istore K (dOf ck_mX12_asked rfl rfl) (Nat.le_of_ble_eq_true rfl)) ?_
      refine g_lv (lv' := [(5, .inl _), (4, .inl _), (0, .inr (.inr (.inl (some _)))), (1, .inl _), (2, .inl _), (3, .inl _)]) rfl ?_
      refine g_sub [2, 3, 5, 0] rfl ?_
      exact lk_R_asked_25 K _ _ FU _ _
    · refine gl (i' := 19) (fun _ _ => aw_iload K (dOf ck_mX12_asked rfl rfl) rfl) ?_
      exact g_iret K (dOf ck_mX12_asked rfl rfl).1 rfl (Or.inl rfl) rfl
def R_tree_50 (k7 : Int → Int → aM → Option (Int × aM)) (k15 : Int → Int → aM → Option (Int × aM)) (x2 : Int) (x3 : Int) (s0 : Int) (s1 : Int) (mm : aM) : Option (Int × aM) := k15 (w32 (s1 + s0)) (w32 (x3 + 1)) mm
set_option maxHeartbeats 4000000 in
theorem lk_R_tree_50 {p : Program} {l : Launch} {e : Env} {s : State} {m : MethodId} {args : Array Value} {below : List Frame} {meth : Method} {c : Code} {D : va_G} {cA : FieldType → ClassId} {ad adV : Nat → Nat} {z0 : Nat} {al0 : List Nat} (K : aK p s m args meth c mX12_tree D cA ad adV z0) (x2 : Int) (x3 : Int) (k7 : Int → Int → aM → Option (Int × aM)) (hk7 : ∀ (x1 : Int) (x2 : Int) (mm : aM), aG p l e { frames := 1, cells := 0, slots := 0, locals := 24 } s m args below meth c D cA ad z0 mX12_tree al0 rIM (k7 x1 x2 mm) 7 [(0, .inr (.inr (.inl (some 176)))), (1, .inl x1), (2, .inl x2)] [] mm) (k15 : Int → Int → aM → Option (Int × aM)) (hk15 : ∀ (x1 : Int) (x3 : Int) (mm : aM), aG p l e { frames := 1, cells := 0, slots := 0, locals := 24 } s m args below meth c D cA ad z0 mX12_tree al0 rIM (k15 x1 x3 mm) 15 [(0, .inr (.inr (.inl (some 176)))), (1, .inl x1), (2, .inl x2), (3, .inl x3)] [] mm)  (s0 : Int) (s1 : Int) (mm : aM) : aG p l e { frames := 1, cells := 0, slots := 0, locals := 24 } s m args below meth c D cA ad z0 mX12_tree al0 rIM (R_tree_50 k7 k15 x2 x3 s0 s1 mm) 50 [(0, .inr (.inr (.inl (some 176)))), (2, .inl x2), (3, .inl x3)] [.inl s0, .inl s1] mm := by
  unfold R_tree_50
  refine gl (i' := 51) (fun _ _ => aw_iadd K (dOf ck_mX12_tree rfl rfl)) ?_
  refine gl (i' := 52) (fun _ _ => aw_istore_n K (dOf ck_mX12_tree rfl rfl) (Nat.le_of_ble_eq_true rfl)) ?_
  refine g_lv (lv' := [(1, .inl _), (0, .inr (.inr (.inl (some _)))), (2, .inl _), (3, .inl _)]) rfl ?_
  refine gl (i' := 53) (fun _ _ => aw_iinc K (dOf ck_mX12_tree rfl rfl) (Nat.le_of_ble_eq_true rfl) rfl) ?_
  refine g_lv (lv' := [(3, .inl _), (1, .inl _), (0, .inr (.inr (.inl (some _)))), (2, .inl _)]) rfl ?_
  refine g_goto K (dOf ck_mX12_tree rfl rfl).1 (t := 15) (aJ_of (by decide +kernel)) ?_
  refine g_sub [2, 1, 3, 0] rfl ?_
  exact hk15 _ _ _
def R_tree_41 (k7 : Int → Int → aM → Option (Int × aM)) (k15 : Int → Int → aM → Option (Int × aM)) (k27 : Int → Int → aM → Option (Int × aM)) (x1 : Int) (x2 : Int) (x3 : Int) (x5 : Int) (s0 : Int) (mm : aM) : Option (Int × aM) := k27 s0 (w32 (x5 + 1)) mm
set_option maxHeartbeats 4000000 in
theorem lk_R_tree_41 {p : Program} {l : Launch} {e : Env} {s : State} {m : MethodId} {args : Array Value} {below : List Frame} {meth : Method} {c : Code} {D : va_G} {cA : FieldType → ClassId} {ad adV : Nat → Nat} {z0 : Nat} {al0 : List Nat} (K : aK p s m args meth c mX12_tree D cA ad adV z0) (x1 : Int) (x2 : Int) (x3 : Int) (x5 : Int) (k7 : Int → Int → aM → Option (Int × aM)) (hk7 : ∀ (x1 : Int) (x2 : Int) (mm : aM), aG p l e { frames := 1, cells := 0, slots := 0, locals := 24 } s m args below meth c D cA ad z0 mX12_tree al0 rIM (k7 x1 x2 mm) 7 [(0, .inr (.inr (.inl (some 176)))), (1, .inl x1), (2, .inl x2)] [] mm) (k15 : Int → Int → aM → Option (Int × aM)) (hk15 : ∀ (x1 : Int) (x3 : Int) (mm : aM), aG p l e { frames := 1, cells := 0, slots := 0, locals := 24 } s m args below meth c D cA ad z0 mX12_tree al0 rIM (k15 x1 x3 mm) 15 [(0, .inr (.inr (.inl (some 176)))), (1, .inl x1), (2, .inl x2), (3, .inl x3)] [] mm) (k27 : Int → Int → aM → Option (Int × aM)) (hk27 : ∀ (x4 : Int) (x5 : Int) (mm : aM), aG p l e { frames := 1, cells := 0, slots := 0, locals := 24 } s m args below meth c D cA ad z0 mX12_tree al0 rIM (k27 x4 x5 mm) 27 [(0, .inr (.inr (.inl (some 176)))), (1, .inl x1), (2, .inl x2), (3, .inl x3), (4, .inl x4), (5, .inl x5)] [] mm)  (s0 : Int) (mm : aM) : aG p l e { frames := 1, cells := 0, slots := 0, locals := 24 } s m args below meth c D cA ad z0 mX12_tree al0 rIM (R_tree_41 k7 k15 k27 x1 x2 x3 x5 s0 mm) 41 [(0, .inr (.inr (.inl (some 176)))), (1, .inl x1), (2, .inl x2), (3, .inl x3), (5, .inl x5)] [.inl s0] mm := by
  unfold R_tree_41
  refine gl (i' := 42) (fun _ _ => aw_istore K (dOf ck_mX12_tree rfl rfl) (Nat.le_of_ble_eq_true rfl)) ?_
  refine g_lv (lv' := [(4, .inl _), (0, .inr (.inr (.inl (some _)))), (1, .inl _), (2, .inl _), (3, .inl _), (5, .inl _)]) rfl ?_
  refine gl (i' := 43) (fun _ _ => aw_iinc K (dOf ck_mX12_tree rfl rfl) (Nat.le_of_ble_eq_true rfl) rfl) ?_
  refine g_lv (lv' := [(5, .inl _), (4, .inl _), (0, .inr (.inr (.inl (some _)))), (1, .inl _), (2, .inl _), (3, .inl _)]) rfl ?_
  refine g_goto K (dOf ck_mX12_tree rfl rfl).1 (t := 27) (aJ_of (by decide +kernel)) ?_
  refine g_sub [2, 3, 4, 5, 1, 0] rfl ?_
  exact hk27 _ _ _
def R_tree_38 (k7 : Int → Int → aM → Option (Int × aM)) (k15 : Int → Int → aM → Option (Int × aM)) (k27 : Int → Int → aM → Option (Int × aM)) (x1 : Int) (x2 : Int) (x3 : Int) (x5 : Int) (mm : aM) : Option (Int × aM) := R_tree_41 k7 k15 k27 x1 x2 x3 x5 1 mm
set_option maxHeartbeats 4000000 in
theorem lk_R_tree_38 {p : Program} {l : Launch} {e : Env} {s : State} {m : MethodId} {args : Array Value} {below : List Frame} {meth : Method} {c : Code} {D : va_G} {cA : FieldType → ClassId} {ad adV : Nat → Nat} {z0 : Nat} {al0 : List Nat} (K : aK p s m args meth c mX12_tree D cA ad adV z0) (x1 : Int) (x2 : Int) (x3 : Int) (x5 : Int) (k7 : Int → Int → aM → Option (Int × aM)) (hk7 : ∀ (x1 : Int) (x2 : Int) (mm : aM), aG p l e { frames := 1, cells := 0, slots := 0, locals := 24 } s m args below meth c D cA ad z0 mX12_tree al0 rIM (k7 x1 x2 mm) 7 [(0, .inr (.inr (.inl (some 176)))), (1, .inl x1), (2, .inl x2)] [] mm) (k15 : Int → Int → aM → Option (Int × aM)) (hk15 : ∀ (x1 : Int) (x3 : Int) (mm : aM), aG p l e { frames := 1, cells := 0, slots := 0, locals := 24 } s m args below meth c D cA ad z0 mX12_tree al0 rIM (k15 x1 x3 mm) 15 [(0, .inr (.inr (.inl (some 176)))), (1, .inl x1), (2, .inl x2), (3, .inl x3)] [] mm) (k27 : Int → Int → aM → Option (Int × aM)) (hk27 : ∀ (x4 : Int) (x5 : Int) (mm : aM), aG p l e { frames := 1, cells := 0, slots := 0, locals := 24 } s m args below meth c D cA ad z0 mX12_tree al0 rIM (k27 x4 x5 mm) 27 [(0, .inr (.inr (.inl (some 176)))), (1, .inl x1), (2, .inl x2), (3, .inl x3), (4, .inl x4), (5, .inl x5)] [] mm)  (mm : aM) : aG p l e { frames := 1, cells := 0, slots := 0, locals := 24 } s m args below meth c D cA ad z0 mX12_tree al0 rIM (R_tree_38 k7 k15 k27 x1 x2 x3 x5 mm) 38 [(0, .inr (.inr (.inl (some 176)))), (1, .inl x1), (2, .inl x2), (3, .inl x3), (5, .inl x5)] [] mm := by
  unfold R_tree_38
  refine gl (i' := 39) (fun _ _ => aw_iconst K (n := 1) (i32 _ rfl) (dOf ck_mX12_tree rfl rfl)) ?_
  refine g_goto K (dOf ck_mX12_tree rfl rfl).1 (t := 41) (aJ_of (by decide +kernel)) ?_
  refine g_sub [0, 1, 2, 3, 4] rfl ?_
  exact lk_R_tree_41 K _ _ _ _ _ hk7 _ hk15 _ hk27 _ _
def R_tree_27 (k7 : Int → Int → aM → Option (Int × aM)) (k15 : Int → Int → aM → Option (Int × aM)) (x1 : Int) (x2 : Int) (x3 : Int) : Nat → Int → Int → aM → Option (Int × aM)
  | 0, _, _, _ => none
  | n + 1, x4, x5, mm => if x5 < x2 then (if x4 = 0 then ((R_beginAlike x2 x5 x3 mm).bind fun r8 => (if r8 = 0 then (R_tree_41 k7 k15 (R_tree_27 k7 k15 x1 x2 x3 n) x1 x2 x3 x5 0 mm) else (R_tree_38 k7 k15 (R_tree_27 k7 k15 x1 x2 x3 n) x1 x2 x3 x5 mm))) else (R_tree_38 k7 k15 (R_tree_27 k7 k15 x1 x2 x3 n) x1 x2 x3 x5 mm)) else (if x4 = 0 then (R_tree_50 k7 k15 x2 x3 1 x1 mm) else (R_tree_50 k7 k15 x2 x3 0 x1 mm))
set_option maxHeartbeats 4000000 in
theorem lk_R_tree_27 {p : Program} {l : Launch} {e : Env} {s : State} {m : MethodId} {args : Array Value} {below : List Frame} {meth : Method} {c : Code} {D : va_G} {cA : FieldType → ClassId} {ad adV : Nat → Nat} {z0 : Nat} {al0 : List Nat} (K : aK p s m args meth c mX12_tree D cA ad adV z0) (x1 : Int) (x2 : Int) (x3 : Int) (k7 : Int → Int → aM → Option (Int × aM)) (hk7 : ∀ (x1 : Int) (x2 : Int) (mm : aM), aG p l e { frames := 1, cells := 0, slots := 0, locals := 24 } s m args below meth c D cA ad z0 mX12_tree al0 rIM (k7 x1 x2 mm) 7 [(0, .inr (.inr (.inl (some 176)))), (1, .inl x1), (2, .inl x2)] [] mm) (k15 : Int → Int → aM → Option (Int × aM)) (hk15 : ∀ (x1 : Int) (x3 : Int) (mm : aM), aG p l e { frames := 1, cells := 0, slots := 0, locals := 24 } s m args below meth c D cA ad z0 mX12_tree al0 rIM (k15 x1 x3 mm) 15 [(0, .inr (.inr (.inl (some 176)))), (1, .inl x1), (2, .inl x2), (3, .inl x3)] [] mm)  : ∀ (n : Nat) (x4 : Int) (x5 : Int) (mm : aM), aG p l e { frames := 1, cells := 0, slots := 0, locals := 24 } s m args below meth c D cA ad z0 mX12_tree al0 rIM (R_tree_27 k7 k15 x1 x2 x3 n x4 x5 mm) 27 [(0, .inr (.inr (.inl (some 176)))), (1, .inl x1), (2, .inl x2), (3, .inl x3), (4, .inl x4), (5, .inl x5)] [] mm := by
  intro n
  induction n with
  | zero => intro x4 x5 mm; exact g_none
  | succ n ih =>
    intro x4 x5 mm
    rw [R_tree_27]
    refine gl (i' := 28) (fun _ _ => aw_iload K (dOf ck_mX12_tree rfl rfl) rfl) ?_
    refine gl (i' := 29) (fun _ _ => aw_iload_n K (dOf ck_mX12_tree rfl rfl) rfl) ?_
    refine g_icmp_ge K (dOf ck_mX12_tree rfl rfl) (t := 44) (aJ_of (by decide +kernel)) (fun h5 => ?_) (fun h5 => ?_)
    · refine gl (i' := 31) (fun _ _ => aw_iload K (dOf ck_mX12_tree rfl rfl) rfl) ?_
      refine g_if_ne K (dOf ck_mX12_tree rfl rfl) (t := 38) (aJ_of (by decide +kernel)) (fun h7 => ?_) (fun h7 => ?_)
      · refine gl (i' := 33) (fun _ _ => aw_aload_n K (dOf ck_mX12_tree rfl rfl) rfl) ?_
        refine gl (i' := 34) (fun _ _ => aw_iload_n K (dOf ck_mX12_tree rfl rfl) rfl) ?_
        refine gl (i' := 35) (fun _ _ => aw_iload K (dOf ck_mX12_tree rfl rfl) rfl) ?_
        refine gl (i' := 36) (fun _ _ => aw_iload_n K (dOf ck_mX12_tree rfl rfl) rfl) ?_
        refine g_callVI K [.inl _, .inl _, .inl _] rfl (dOf ck_mX12_tree rfl rfl) al_OneBreathModel_416 rfl rfl ⟨wd_1580, wd_124⟩ rfl (Nat.le_of_ble_eq_true rfl) ⟨Nat.le_of_ble_eq_true rfl, Nat.le_of_ble_eq_true rfl⟩ (fun b hb => met_R_beginAlike  hb) (fun r8 hr8 => ?_)
        refine g_if_eq K (dOf ck_mX12_tree rfl rfl) (t := 40) (aJ_of (by decide +kernel)) (fun h9 => ?_) (fun h9 => ?_)
        · refine gl (i' := 41) (fun _ _ => aw_iconst K (n := 0) (i32 _ rfl) (dOf ck_mX12_tree rfl rfl)) ?_
          refine g_sub [0, 1, 2, 3, 5] rfl ?_
          exact lk_R_tree_41 K _ _ _ _ _ hk7 _ hk15 _ ih _ _
        · refine g_sub [0, 1, 2, 3, 5] rfl ?_
          exact lk_R_tree_38 K _ _ _ _ _ hk7 _ hk15 _ ih _
      · refine g_sub [0, 1, 2, 3, 5] rfl ?_
        exact lk_R_tree_38 K _ _ _ _ _ hk7 _ hk15 _ ih _
    · refine gl (i' := 45) (fun _ _ => aw_iload_n K (dOf ck_mX12_tree rfl rfl) rfl) ?_
      refine gl (i' := 46) (fun _ _ => aw_iload K (dOf ck_mX12_tree rfl rfl) rfl) ?_
      refine g_if_eq K (dOf ck_mX12_tree rfl rfl) (t := 49) (aJ_of (by decide +kernel)) (fun h6 => ?_) (fun h6 => ?_)
      · refine gl (i' := 50) (fun _ _ => aw_iconst K (n := 1) (i32 _ rfl) (dOf ck_mX12_tree rfl rfl)) ?_
        refine g_sub [0, 2, 3] rfl ?_
        exact lk_R_tree_50 K _ _ _ hk7 _ hk15 _ _ _
      · refine gl (i' := 48) (fun _ _ => aw_iconst K (n := 0) (i32 _ rfl) (dOf ck_mX12_tree rfl rfl)) ?_
        refine g_goto K (dOf ck_mX12_tree rfl rfl).1 (t := 50) (aJ_of (by decide +kernel)) ?_
        refine g_sub [0, 2, 3] rfl ?_
        exact lk_R_tree_50 K _ _ _ hk7 _ hk15 _ _ _
def R_tree_15 (k7 : Int → Int → aM → Option (Int × aM)) (x2 : Int) : Nat → Int → Int → aM → Option (Int × aM)
  | 0, _, _, _ => none
  | n + 1, x1, x3, mm => if 0 ≤ (w32 (19 + x2)) ∧ (w32 (19 + x2)) < 588 then (if (mm 177 (w32 (19 + x2)).toNat) < x3 then (k7 x1 (w32 (x2 + 1)) mm) else (R_tree_27 k7 (R_tree_15 k7 x2 n) x1 x2 x3 FU 0 0 mm)) else none
set_option maxHeartbeats 4000000 in
theorem lk_R_tree_15 {p : Program} {l : Launch} {e : Env} {s : State} {m : MethodId} {args : Array Value} {below : List Frame} {meth : Method} {c : Code} {D : va_G} {cA : FieldType → ClassId} {ad adV : Nat → Nat} {z0 : Nat} {al0 : List Nat} (K : aK p s m args meth c mX12_tree D cA ad adV z0) (x2 : Int) (k7 : Int → Int → aM → Option (Int × aM)) (hk7 : ∀ (x1 : Int) (x2 : Int) (mm : aM), aG p l e { frames := 1, cells := 0, slots := 0, locals := 24 } s m args below meth c D cA ad z0 mX12_tree al0 rIM (k7 x1 x2 mm) 7 [(0, .inr (.inr (.inl (some 176)))), (1, .inl x1), (2, .inl x2)] [] mm)  : ∀ (n : Nat) (x1 : Int) (x3 : Int) (mm : aM), aG p l e { frames := 1, cells := 0, slots := 0, locals := 24 } s m args below meth c D cA ad z0 mX12_tree al0 rIM (R_tree_15 k7 x2 n x1 x3 mm) 15 [(0, .inr (.inr (.inl (some 176)))), (1, .inl x1), (2, .inl x2), (3, .inl x3)] [] mm := by
  intro n
  induction n with
  | zero => intro x1 x3 mm; exact g_none
  | succ n ih =>
    intro x1 x3 mm
    rw [R_tree_15]
    refine gl (i' := 16) (fun _ _ => aw_iload_n K (dOf ck_mX12_tree rfl rfl) rfl) ?_
    refine gl (i' := 17) (fun _ _ => aw_aload_n K (dOf ck_mX12_tree rfl rfl) rfl) ?_
    refine gl (i' := 18) (fun _ _ => aw_getf K (dOf ck_mX12_tree rfl rfl) rfl rfl (Nat.le_of_ble_eq_true rfl) wd_1206 (k := 1) rfl) ?_
    refine gl (i' := 19) (fun _ _ => aw_bip K (dOf ck_mX12_tree rfl rfl) (v := 19) rfl) ?_
    refine gl (i' := 20) (fun _ _ => aw_iload_n K (dOf ck_mX12_tree rfl rfl) rfl) ?_
    refine gl (i' := 21) (fun _ _ => aw_iadd K (dOf ck_mX12_tree rfl rfl)) ?_
    refine g_gd (fun hb3 => ?_)
    refine gl (i' := 22) (fun _ _ => aw_iald K (dOf ck_mX12_tree rfl rfl) rfl hb3) ?_
    refine g_icmp_gt K (dOf ck_mX12_tree rfl rfl) (t := 54) (aJ_of (by decide +kernel)) (fun h4 => ?_) (fun h4 => ?_)
    · refine gl (i' := 55) (fun _ _ => aw_iinc K (dOf ck_mX12_tree rfl rfl) (Nat.le_of_ble_eq_true rfl) rfl) ?_
      refine g_lv (lv' := [(2, .inl _), (0, .inr (.inr (.inl (some _)))), (1, .inl _), (3, .inl _)]) rfl ?_
      refine g_goto K (dOf ck_mX12_tree rfl rfl).1 (t := 7) (aJ_of (by decide +kernel)) ?_
      refine g_sub [1, 2, 0] rfl ?_
      exact hk7 _ _ _
    · refine gl (i' := 24) (fun _ _ => aw_iconst K (n := 0) (i32 _ rfl) (dOf ck_mX12_tree rfl rfl)) ?_
      refine gl (i' := 25) (fun _ _ => aw_istore K (dOf ck_mX12_tree rfl rfl) (Nat.le_of_ble_eq_true rfl)) ?_
      refine g_lv (lv' := [(4, .inl _), (0, .inr (.inr (.inl (some _)))), (1, .inl _), (2, .inl _), (3, .inl _)]) rfl ?_
      refine gl (i' := 26) (fun _ _ => aw_iconst K (n := 0) (i32 _ rfl) (dOf ck_mX12_tree rfl rfl)) ?_
      refine gl (i' := 27) (fun _ _ => aw_istore K (dOf ck_mX12_tree rfl rfl) (Nat.le_of_ble_eq_true rfl)) ?_
      refine g_lv (lv' := [(5, .inl _), (4, .inl _), (0, .inr (.inr (.inl (some _)))), (1, .inl _), (2, .inl _), (3, .inl _)]) rfl ?_
      refine g_sub [2, 3, 4, 5, 1, 0] rfl ?_
      exact lk_R_tree_27 K _ _ _ _ hk7 _ ih FU _ _ _
def R_tree_7  : Nat → Int → Int → aM → Option (Int × aM)
  | 0, _, _, _ => none
  | n + 1, x1, x2, mm => if x2 < (mm 177 18) then (R_tree_15 (R_tree_7 n) x2 FU x1 1 mm) else (some (x1, mm))
set_option maxHeartbeats 4000000 in
theorem lk_R_tree_7 {p : Program} {l : Launch} {e : Env} {s : State} {m : MethodId} {args : Array Value} {below : List Frame} {meth : Method} {c : Code} {D : va_G} {cA : FieldType → ClassId} {ad adV : Nat → Nat} {z0 : Nat} {al0 : List Nat} (K : aK p s m args meth c mX12_tree D cA ad adV z0)   : ∀ (n : Nat) (x1 : Int) (x2 : Int) (mm : aM), aG p l e { frames := 1, cells := 0, slots := 0, locals := 24 } s m args below meth c D cA ad z0 mX12_tree al0 rIM (R_tree_7 n x1 x2 mm) 7 [(0, .inr (.inr (.inl (some 176)))), (1, .inl x1), (2, .inl x2)] [] mm := by
  intro n
  induction n with
  | zero => intro x1 x2 mm; exact g_none
  | succ n ih =>
    intro x1 x2 mm
    rw [R_tree_7]
    refine gl (i' := 8) (fun _ _ => aw_iload_n K (dOf ck_mX12_tree rfl rfl) rfl) ?_
    refine gl (i' := 9) (fun _ _ => aw_aload_n K (dOf ck_mX12_tree rfl rfl) rfl) ?_
    refine gl (i' := 10) (fun _ _ => aw_getf K (dOf ck_mX12_tree rfl rfl) rfl rfl (Nat.le_of_ble_eq_true rfl) wd_1206 (k := 1) rfl) ?_
    refine gl (i' := 11) (fun _ _ => aw_bip K (dOf ck_mX12_tree rfl rfl) (v := 18) rfl) ?_
    refine gl (i' := 12) (fun _ _ => aw_iald K (dOf ck_mX12_tree rfl rfl) rfl (by decide)) ?_
    refine g_icmp_ge K (dOf ck_mX12_tree rfl rfl) (t := 56) (aJ_of (by decide +kernel)) (fun h2 => ?_) (fun h2 => ?_)
    · refine gl (i' := 14) (fun _ _ => aw_iconst K (n := 1) (i32 _ rfl) (dOf ck_mX12_tree rfl rfl)) ?_
      refine gl (i' := 15) (fun _ _ => aw_istore_n K (dOf ck_mX12_tree rfl rfl) (Nat.le_of_ble_eq_true rfl)) ?_
      refine g_lv (lv' := [(3, .inl _), (0, .inr (.inr (.inl (some _)))), (1, .inl _), (2, .inl _)]) rfl ?_
      refine g_sub [1, 2, 3, 0] rfl ?_
      exact lk_R_tree_15 K _ _ ih FU _ _ _
    · refine gl (i' := 57) (fun _ _ => aw_iload_n K (dOf ck_mX12_tree rfl rfl) rfl) ?_
      exact g_iret K (by decide +kernel) rfl (Or.inl rfl) rfl
def R_tree  (mm : aM) : Option (Int × aM) := st1 (aup mm 176 0 0) fun mm1 => (R_tree_7 FU 1 0 mm1)
set_option maxHeartbeats 4000000 in
theorem met_R_tree {l : Launch} {D : va_G} {cA : FieldType → ClassId} {ad adV : Nat → Nat} {z0 : Nat}  {mm : aM}  {r : Int × aM} (h : R_tree  mm = some r) : aMet l D cA ad adV z0 mX12_tree 1 24 0 0 [.inr (.inr (.inl (some 176)))] SH mm (rIM r).1 SH (rIM r).2 := by
  refine aMet_ofG (by decide +kernel) rfl (Nat.le_of_ble_eq_true rfl) h (fun p e s m args below meth c al0 K => ?_)
  unfold R_tree
  refine gl (i' := 1) (fun _ _ => aw_aload_n K (dOf ck_mX12_tree rfl rfl) rfl) ?_
  refine gl (i' := 2) (fun _ _ => aw_iconst K (n := 0) (i32 _ rfl) (dOf ck_mX12_tree rfl rfl)) ?_
  refine g_st1 ?_
  refine gl (i' := 3) (fun _ _ => aw_putf K (dOf ck_mX12_tree rfl rfl) rfl rfl (Nat.le_of_ble_eq_true rfl) wd_1205 (k := 0) rfl rfl (Or.inl rfl)) ?_
  refine gl (i' := 4) (fun _ _ => aw_iconst K (n := 1) (i32 _ rfl) (dOf ck_mX12_tree rfl rfl)) ?_
  refine gl (i' := 5) (fun _ _ => aw_istore_n K (dOf ck_mX12_tree rfl rfl) (Nat.le_of_ble_eq_true rfl)) ?_
  refine g_lv (lv' := [(1, .inl _), (0, .inr (.inr (.inl (some _))))]) rfl ?_
  refine gl (i' := 6) (fun _ _ => aw_iconst K (n := 0) (i32 _ rfl) (dOf ck_mX12_tree rfl rfl)) ?_
  refine gl (i' := 7) (fun _ _ => aw_istore_n K (dOf ck_mX12_tree rfl rfl) (Nat.le_of_ble_eq_true rfl)) ?_
  refine g_lv (lv' := [(2, .inl _), (1, .inl _), (0, .inr (.inr (.inl (some _))))]) rfl ?_
  refine g_sub [2, 1, 0] rfl ?_
  exact lk_R_tree_7 K FU _ _ _
def R_haveAlike_20 (mm : aM) (k4 : Int → Int → Option Int) (x1 : Int) (x2 : Int) (x4 : Int) (s0 : Int) (s1 : Int) : Option Int := k4 (w32 (s1 + s0)) (w32 (x4 + 1))
set_option maxHeartbeats 4000000 in
theorem lk_R_haveAlike_20 {p : Program} {l : Launch} {e : Env} {s : State} {m : MethodId} {args : Array Value} {below : List Frame} {meth : Method} {c : Code} {D : va_G} {cA : FieldType → ClassId} {ad adV : Nat → Nat} {z0 : Nat} {al0 : List Nat} {mm : aM} (K : aK p s m args meth c mX12_haveAlike D cA ad adV z0) (x1 : Int) (x2 : Int) (x4 : Int) (k4 : Int → Int → Option Int) (hk4 : ∀ (x3 : Int) (x4 : Int), aG p l e { frames := 1, cells := 0, slots := 0, locals := 24 } s m args below meth c D cA ad z0 mX12_haveAlike al0 (rI mm) (k4 x3 x4) 4 [(0, .inr (.inr (.inl (some 176)))), (1, .inl x1), (2, .inl x2), (3, .inl x3), (4, .inl x4)] [] mm)  (s0 : Int) (s1 : Int) : aG p l e { frames := 1, cells := 0, slots := 0, locals := 24 } s m args below meth c D cA ad z0 mX12_haveAlike al0 (rI mm) (R_haveAlike_20 mm k4 x1 x2 x4 s0 s1) 20 [(0, .inr (.inr (.inl (some 176)))), (1, .inl x1), (2, .inl x2), (4, .inl x4)] [.inl s0, .inl s1] mm := by
  unfold R_haveAlike_20
  refine gl (i' := 21) (fun _ _ => aw_iadd K (dOf ck_mX12_haveAlike rfl rfl)) ?_
  refine gl (i' := 22) (fun _ _ => aw_istore_n K (dOf ck_mX12_haveAlike rfl rfl) (Nat.le_of_ble_eq_true rfl)) ?_
  refine g_lv (lv' := [(3, .inl _), (0, .inr (.inr (.inl (some _)))), (1, .inl _), (2, .inl _), (4, .inl _)]) rfl ?_
  refine gl (i' := 23) (fun _ _ => aw_iinc K (dOf ck_mX12_haveAlike rfl rfl) (Nat.le_of_ble_eq_true rfl) rfl) ?_
  refine g_lv (lv' := [(4, .inl _), (3, .inl _), (0, .inr (.inr (.inl (some _)))), (1, .inl _), (2, .inl _)]) rfl ?_
  refine g_goto K (dOf ck_mX12_haveAlike rfl rfl).1 (t := 4) (aJ_of (by decide +kernel)) ?_
  refine g_sub [2, 3, 4, 1, 0] rfl ?_
  exact hk4 _ _
def R_haveAlike_4 (mm : aM) (x1 : Int) (x2 : Int) : Nat → Int → Int → Option Int
  | 0, _, _ => none
  | n + 1, x3, x4 => if x4 < (mm 177 18) then ((R_beginAlike x1 x4 x2 mm).bind fun r2 => (if r2 = 0 then (R_haveAlike_20 mm (R_haveAlike_4 mm x1 x2 n) x1 x2 x4 0 x3) else (R_haveAlike_20 mm (R_haveAlike_4 mm x1 x2 n) x1 x2 x4 1 x3))) else (some x3)
set_option maxHeartbeats 4000000 in
theorem lk_R_haveAlike_4 {p : Program} {l : Launch} {e : Env} {s : State} {m : MethodId} {args : Array Value} {below : List Frame} {meth : Method} {c : Code} {D : va_G} {cA : FieldType → ClassId} {ad adV : Nat → Nat} {z0 : Nat} {al0 : List Nat} {mm : aM} (K : aK p s m args meth c mX12_haveAlike D cA ad adV z0) (x1 : Int) (x2 : Int)  : ∀ (n : Nat) (x3 : Int) (x4 : Int), aG p l e { frames := 1, cells := 0, slots := 0, locals := 24 } s m args below meth c D cA ad z0 mX12_haveAlike al0 (rI mm) (R_haveAlike_4 mm x1 x2 n x3 x4) 4 [(0, .inr (.inr (.inl (some 176)))), (1, .inl x1), (2, .inl x2), (3, .inl x3), (4, .inl x4)] [] mm := by
  intro n
  induction n with
  | zero => intro x3 x4; exact g_none
  | succ n ih =>
    intro x3 x4
    rw [R_haveAlike_4]
    refine gl (i' := 5) (fun _ _ => aw_iload K (dOf ck_mX12_haveAlike rfl rfl) rfl) ?_
    refine gl (i' := 6) (fun _ _ => aw_aload_n K (dOf ck_mX12_haveAlike rfl rfl) rfl) ?_
    refine gl (i' := 7) (fun _ _ => aw_getf K (dOf ck_mX12_haveAlike rfl rfl) rfl rfl (Nat.le_of_ble_eq_true rfl) wd_1206 (k := 1) rfl) ?_
    refine gl (i' := 8) (fun _ _ => aw_bip K (dOf ck_mX12_haveAlike rfl rfl) (v := 18) rfl) ?_
    refine gl (i' := 9) (fun _ _ => aw_iald K (dOf ck_mX12_haveAlike rfl rfl) rfl (by decide)) ?_
    refine g_icmp_ge K (dOf ck_mX12_haveAlike rfl rfl) (t := 24) (aJ_of (by decide +kernel)) (fun h1 => ?_) (fun h1 => ?_)
    · refine gl (i' := 11) (fun _ _ => aw_iload_n K (dOf ck_mX12_haveAlike rfl rfl) rfl) ?_
      refine gl (i' := 12) (fun _ _ => aw_aload_n K (dOf ck_mX12_haveAlike rfl rfl) rfl) ?_
      refine gl (i' := 13) (fun _ _ => aw_iload_n K (dOf ck_mX12_haveAlike rfl rfl) rfl) ?_
      refine gl (i' := 14) (fun _ _ => aw_iload K (dOf ck_mX12_haveAlike rfl rfl) rfl) ?_
      refine gl (i' := 15) (fun _ _ => aw_iload_n K (dOf ck_mX12_haveAlike rfl rfl) rfl) ?_
      refine g_callVI K [.inl _, .inl _, .inl _] rfl (dOf ck_mX12_haveAlike rfl rfl) al_OneBreathModel_416 rfl rfl ⟨wd_1580, wd_124⟩ rfl (Nat.le_of_ble_eq_true rfl) ⟨Nat.le_of_ble_eq_true rfl, Nat.le_of_ble_eq_true rfl⟩ (fun b hb => met_R_beginAlike  hb) (fun r2 hr2 => ?_)
      refine g_if_eq K (dOf ck_mX12_haveAlike rfl rfl) (t := 19) (aJ_of (by decide +kernel)) (fun h3 => ?_) (fun h3 => ?_)
      · refine gl (i' := 20) (fun _ _ => aw_iconst K (n := 0) (i32 _ rfl) (dOf ck_mX12_haveAlike rfl rfl)) ?_
        refine g_sub [0, 1, 2, 4] rfl ?_
        exact lk_R_haveAlike_20 K _ _ _ _ ih _ _
      · refine gl (i' := 18) (fun _ _ => aw_iconst K (n := 1) (i32 _ rfl) (dOf ck_mX12_haveAlike rfl rfl)) ?_
        refine g_goto K (dOf ck_mX12_haveAlike rfl rfl).1 (t := 20) (aJ_of (by decide +kernel)) ?_
        refine g_sub [0, 1, 2, 4] rfl ?_
        exact lk_R_haveAlike_20 K _ _ _ _ ih _ _
    · refine gl (i' := 25) (fun _ _ => aw_iload_n K (dOf ck_mX12_haveAlike rfl rfl) rfl) ?_
      exact g_iret K (by decide +kernel) rfl (Or.inl rfl) rfl
def R_haveAlike (x1 : Int) (x2 : Int) (mm : aM) : Option Int := R_haveAlike_4 mm x1 x2 FU 0 0
set_option maxHeartbeats 4000000 in
theorem met_R_haveAlike {l : Launch} {D : va_G} {cA : FieldType → ClassId} {ad adV : Nat → Nat} {z0 : Nat} {x1 : Int} {x2 : Int} {mm : aM}  {r : Int} (h : R_haveAlike x1 x2 mm = some r) : aMet l D cA ad adV z0 mX12_haveAlike 1 24 0 0 [.inr (.inr (.inl (some 176))), .inl x1, .inl x2] SH mm ((rI mm) r).1 SH ((rI mm) r).2 := by
  refine aMet_ofG (by decide +kernel) rfl (Nat.le_of_ble_eq_true rfl) h (fun p e s m args below meth c al0 K => ?_)
  unfold R_haveAlike
  refine gl (i' := 1) (fun _ _ => aw_iconst K (n := 0) (i32 _ rfl) (dOf ck_mX12_haveAlike rfl rfl)) ?_
  refine gl (i' := 2) (fun _ _ => aw_istore_n K (dOf ck_mX12_haveAlike rfl rfl) (Nat.le_of_ble_eq_true rfl)) ?_
  refine g_lv (lv' := [(3, .inl _), (0, .inr (.inr (.inl (some _)))), (1, .inl _), (2, .inl _)]) rfl ?_
  refine gl (i' := 3) (fun _ _ => aw_iconst K (n := 0) (i32 _ rfl) (dOf ck_mX12_haveAlike rfl rfl)) ?_
  refine gl (i' := 4) (fun _ _ => aw_istore K (dOf ck_mX12_haveAlike rfl rfl) (Nat.le_of_ble_eq_true rfl)) ?_
  refine g_lv (lv' := [(4, .inl _), (3, .inl _), (0, .inr (.inr (.inl (some _)))), (1, .inl _), (2, .inl _)]) rfl ?_
  refine g_sub [2, 3, 4, 1, 0] rfl ?_
  exact lk_R_haveAlike_4 K _ _ FU _ _
def R_isAhead_2 (mm : aM) (x1 : Int) (x2 : Int) (x3 : Int) : Nat → Int → Option Int
  | 0, _ => none
  | n + 1, x4 => if x4 < x3 then (if 0 ≤ (w32 ((w32 (58 + (w32 (6 * x1)))) + x4)) ∧ (w32 ((w32 (58 + (w32 (6 * x1)))) + x4)) < 588 then (if 0 ≤ (w32 ((w32 (58 + (w32 (6 * x2)))) + x4)) ∧ (w32 ((w32 (58 + (w32 (6 * x2)))) + x4)) < 588 then (if (mm 177 (w32 ((w32 (58 + (w32 (6 * x1)))) + x4)).toNat) = (mm 177 (w32 ((w32 (58 + (w32 (6 * x2)))) + x4)).toNat) then (R_isAhead_2 mm x1 x2 x3 n (w32 (x4 + 1))) else (if (mm 177 (w32 ((w32 (58 + (w32 (6 * x1)))) + x4)).toNat) < (mm 177 (w32 ((w32 (58 + (w32 (6 * x2)))) + x4)).toNat) then (some 1) else (some 0))) else none) else none) else (some 0)
set_option maxHeartbeats 4000000 in
theorem lk_R_isAhead_2 {p : Program} {l : Launch} {e : Env} {s : State} {m : MethodId} {args : Array Value} {below : List Frame} {meth : Method} {c : Code} {D : va_G} {cA : FieldType → ClassId} {ad adV : Nat → Nat} {z0 : Nat} {al0 : List Nat} {mm : aM} (K : aK p s m args meth c mX12_isAhead D cA ad adV z0) (x1 : Int) (x2 : Int) (x3 : Int)  : ∀ (n : Nat) (x4 : Int), aG p l e { frames := 0, cells := 0, slots := 0, locals := 0 } s m args below meth c D cA ad z0 mX12_isAhead al0 (rI mm) (R_isAhead_2 mm x1 x2 x3 n x4) 2 [(0, .inr (.inr (.inl (some 176)))), (1, .inl x1), (2, .inl x2), (3, .inl x3), (4, .inl x4)] [] mm := by
  intro n
  induction n with
  | zero => intro x4; exact g_none
  | succ n ih =>
    intro x4
    rw [R_isAhead_2]
    refine gl (i' := 3) (fun _ _ => aw_iload K (dOf ck_mX12_isAhead rfl rfl) rfl) ?_
    refine gl (i' := 4) (fun _ _ => aw_iload_n K (dOf ck_mX12_isAhead rfl rfl) rfl) ?_
    refine g_icmp_ge K (dOf ck_mX12_isAhead rfl rfl) (t := 53) (aJ_of (by decide +kernel)) (fun h1 => ?_) (fun h1 => ?_)
    · refine gl (i' := 6) (fun _ _ => aw_aload_n K (dOf ck_mX12_isAhead rfl rfl) rfl) ?_
      refine gl (i' := 7) (fun _ _ => aw_getf K (dOf ck_mX12_isAhead rfl rfl) rfl rfl (Nat.le_of_ble_eq_true rfl) wd_1206 (k := 1) rfl) ?_
      refine gl (i' := 8) (fun _ _ => aw_bip K (dOf ck_mX12_isAhead rfl rfl) (v := 58) rfl) ?_
      refine gl (i' := 9) (fun _ _ => aw_bip K (dOf ck_mX12_isAhead rfl rfl) (v := 6) rfl) ?_
      refine gl (i' := 10) (fun _ _ => aw_iload_n K (dOf ck_mX12_isAhead rfl rfl) rfl) ?_
      refine gl (i' := 11) (fun _ _ => aw_imul K (dOf ck_mX12_isAhead rfl rfl)) ?_
      refine gl (i' := 12) (fun _ _ => aw_iadd K (dOf ck_mX12_isAhead rfl rfl)) ?_
      refine gl (i' := 13) (fun _ _ => aw_iload K (dOf ck_mX12_isAhead rfl rfl) rfl) ?_
      refine gl (i' := 14) (fun _ _ => aw_iadd K (dOf ck_mX12_isAhead rfl rfl)) ?_
      refine g_gd (fun hb2 => ?_)
      refine gl (i' := 15) (fun _ _ => aw_iald K (dOf ck_mX12_isAhead rfl rfl) rfl hb2) ?_
      refine gl (i' := 16) (fun _ _ => aw_aload_n K (dOf ck_mX12_isAhead rfl rfl) rfl) ?_
      refine gl (i' := 17) (fun _ _ => aw_getf K (dOf ck_mX12_isAhead rfl rfl) rfl rfl (Nat.le_of_ble_eq_true rfl) wd_1206 (k := 1) rfl) ?_
      refine gl (i' := 18) (fun _ _ => aw_bip K (dOf ck_mX12_isAhead rfl rfl) (v := 58) rfl) ?_
      refine gl (i' := 19) (fun _ _ => aw_bip K (dOf ck_mX12_isAhead rfl rfl) (v := 6) rfl) ?_
      refine gl (i' := 20) (fun _ _ => aw_iload_n K (dOf ck_mX12_isAhead rfl rfl) rfl) ?_
      refine gl (i' := 21) (fun _ _ => aw_imul K (dOf ck_mX12_isAhead rfl rfl)) ?_
      refine gl (i' := 22) (fun _ _ => aw_iadd K (dOf ck_mX12_isAhead rfl rfl)) ?_
      refine gl (i' := 23) (fun _ _ => aw_iload K (dOf ck_mX12_isAhead rfl rfl) rfl) ?_
      refine gl (i' := 24) (fun _ _ => aw_iadd K (dOf ck_mX12_isAhead rfl rfl)) ?_
      refine g_gd (fun hb3 => ?_)
      refine gl (i' := 25) (fun _ _ => aw_iald K (dOf ck_mX12_isAhead rfl rfl) rfl hb3) ?_
      refine g_icmp_eq K (dOf ck_mX12_isAhead rfl rfl) (t := 51) (aJ_of (by decide +kernel)) (fun h4 => ?_) (fun h4 => ?_)
      · refine gl (i' := 52) (fun _ _ => aw_iinc K (dOf ck_mX12_isAhead rfl rfl) (Nat.le_of_ble_eq_true rfl) rfl) ?_
        refine g_lv (lv' := [(4, .inl _), (0, .inr (.inr (.inl (some _)))), (1, .inl _), (2, .inl _), (3, .inl _)]) rfl ?_
        refine g_goto K (dOf ck_mX12_isAhead rfl rfl).1 (t := 2) (aJ_of (by decide +kernel)) ?_
        refine g_sub [1, 2, 3, 4, 0] rfl ?_
        exact ih _
      · refine gl (i' := 27) (fun _ _ => aw_aload_n K (dOf ck_mX12_isAhead rfl rfl) rfl) ?_
        refine gl (i' := 28) (fun _ _ => aw_getf K (dOf ck_mX12_isAhead rfl rfl) rfl rfl (Nat.le_of_ble_eq_true rfl) wd_1206 (k := 1) rfl) ?_
        refine gl (i' := 29) (fun _ _ => aw_bip K (dOf ck_mX12_isAhead rfl rfl) (v := 58) rfl) ?_
        refine gl (i' := 30) (fun _ _ => aw_bip K (dOf ck_mX12_isAhead rfl rfl) (v := 6) rfl) ?_
        refine gl (i' := 31) (fun _ _ => aw_iload_n K (dOf ck_mX12_isAhead rfl rfl) rfl) ?_
        refine gl (i' := 32) (fun _ _ => aw_imul K (dOf ck_mX12_isAhead rfl rfl)) ?_
        refine gl (i' := 33) (fun _ _ => aw_iadd K (dOf ck_mX12_isAhead rfl rfl)) ?_
        refine gl (i' := 34) (fun _ _ => aw_iload K (dOf ck_mX12_isAhead rfl rfl) rfl) ?_
        refine gl (i' := 35) (fun _ _ => aw_iadd K (dOf ck_mX12_isAhead rfl rfl)) ?_
        refine gl (i' := 36) (fun _ _ => aw_iald K (dOf ck_mX12_isAhead rfl rfl) rfl hb2) ?_
        refine gl (i' := 37) (fun _ _ => aw_aload_n K (dOf ck_mX12_isAhead rfl rfl) rfl) ?_
        refine gl (i' := 38) (fun _ _ => aw_getf K (dOf ck_mX12_isAhead rfl rfl) rfl rfl (Nat.le_of_ble_eq_true rfl) wd_1206 (k := 1) rfl) ?_
        refine gl (i' := 39) (fun _ _ => aw_bip K (dOf ck_mX12_isAhead rfl rfl) (v := 58) rfl) ?_
        refine gl (i' := 40) (fun _ _ => aw_bip K (dOf ck_mX12_isAhead rfl rfl) (v := 6) rfl) ?_
        refine gl (i' := 41) (fun _ _ => aw_iload_n K (dOf ck_mX12_isAhead rfl rfl) rfl) ?_
        refine gl (i' := 42) (fun _ _ => aw_imul K (dOf ck_mX12_isAhead rfl rfl)) ?_
        refine gl (i' := 43) (fun _ _ => aw_iadd K (dOf ck_mX12_isAhead rfl rfl)) ?_
        refine gl (i' := 44) (fun _ _ => aw_iload K (dOf ck_mX12_isAhead rfl rfl) rfl) ?_
        refine gl (i' := 45) (fun _ _ => aw_iadd K (dOf ck_mX12_isAhead rfl rfl)) ?_
        refine gl (i' := 46) (fun _ _ => aw_iald K (dOf ck_mX12_isAhead rfl rfl) rfl hb3) ?_
        refine g_icmp_ge K (dOf ck_mX12_isAhead rfl rfl) (t := 49) (aJ_of (by decide +kernel)) (fun h5 => ?_) (fun h5 => ?_)
        · refine gl (i' := 48) (fun _ _ => aw_iconst K (n := 1) (i32 _ rfl) (dOf ck_mX12_isAhead rfl rfl)) ?_
          refine g_goto K (dOf ck_mX12_isAhead rfl rfl).1 (t := 50) (aJ_of (by decide +kernel)) ?_
          exact g_iret K (dOf ck_mX12_isAhead rfl rfl).1 rfl (Or.inr (Or.inl ⟨rfl, Or.inr rfl⟩)) rfl
        · refine gl (i' := 50) (fun _ _ => aw_iconst K (n := 0) (i32 _ rfl) (dOf ck_mX12_isAhead rfl rfl)) ?_
          exact g_iret K (dOf ck_mX12_isAhead rfl rfl).1 rfl (Or.inr (Or.inl ⟨rfl, Or.inl rfl⟩)) rfl
    · refine gl (i' := 54) (fun _ _ => aw_iconst K (n := 0) (i32 _ rfl) (dOf ck_mX12_isAhead rfl rfl)) ?_
      exact g_iret K (by decide +kernel) rfl (Or.inr (Or.inl ⟨rfl, Or.inl rfl⟩)) rfl
def R_isAhead (x1 : Int) (x2 : Int) (x3 : Int) (mm : aM) : Option Int := R_isAhead_2 mm x1 x2 x3 FU 0
set_option maxHeartbeats 4000000 in
theorem met_R_isAhead {l : Launch} {D : va_G} {cA : FieldType → ClassId} {ad adV : Nat → Nat} {z0 : Nat} {x1 : Int} {x2 : Int} {x3 : Int} {mm : aM}  {r : Int} (h : R_isAhead x1 x2 x3 mm = some r) : aMet l D cA ad adV z0 mX12_isAhead 0 0 0 0 [.inr (.inr (.inl (some 176))), .inl x1, .inl x2, .inl x3] SH mm ((rI mm) r).1 SH ((rI mm) r).2 := by
  refine aMet_ofG (by decide +kernel) rfl (Nat.le_of_ble_eq_true rfl) h (fun p e s m args below meth c al0 K => ?_)
  unfold R_isAhead
  refine gl (i' := 1) (fun _ _ => aw_iconst K (n := 0) (i32 _ rfl) (dOf ck_mX12_isAhead rfl rfl)) ?_
  refine gl (i' := 2) (fun _ _ => aw_istore K (dOf ck_mX12_isAhead rfl rfl) (Nat.le_of_ble_eq_true rfl)) ?_
  refine g_lv (lv' := [(4, .inl _), (0, .inr (.inr (.inl (some _)))), (1, .inl _), (2, .inl _), (3, .inl _)]) rfl ?_
  refine g_sub [1, 2, 3, 4, 0] rfl ?_
  exact lk_R_isAhead_2 K _ _ _ FU _
