def Jarr_fillI_5 (x0 : Nat) (x1 : Int) (x3 : Int) : Nat → Int → aM → Option aM
  | 0, _, _ => none
  | n + 1, x2, mm => if x2 < x3 then (if 0 ≤ x2 ∧ x2 < aln x0 then (st1 (aup mm x0 x2.toNat x1) fun mm3 => (Jarr_fillI_5 x0 x1 x3 n (w32 (x2 + 1)) mm3)) else none) else (some mm)
set_option maxHeartbeats 4000000 in
theorem lk_Jarr_fillI_5 {p : Program} {l : Launch} {e : Env} {s : State} {m : MethodId} {args : Array Value} {below : List Frame} {meth : Method} {c : Code} {D : va_G} {cA : FieldType → ClassId} {ad adV : Nat → Nat} {z0 : Nat} {al0 : List Nat} (K : aK p s m args meth c mJ7_fill_53178 D cA ad adV z0) {x0 : Nat} (hx0 : okI x0)  (x1 : Int) (x3 : Int) : ∀ (n : Nat) (x2 : Int) (mm : aM), aG p l e { frames := 0, cells := 0, slots := 0, locals := 0 } s m args below meth c D cA ad z0 mJ7_fill_53178 al0 rM (Jarr_fillI_5 x0 x1 x3 n x2 mm) 5 [(0, .inr (.inr (.inl (some x0)))), (1, .inl x1), (2, .inl x2), (3, .inl x3)] [] mm := by
  intro n
  induction n with
  | zero => intro x2 mm; exact g_none
  | succ n ih =>
    intro x2 mm
    rw [Jarr_fillI_5]
    refine gl (i' := 6) (fun _ _ => aw_iload_n K (dOf ck_mJ7_fill_53178 rfl rfl) rfl) ?_
    refine gl (i' := 7) (fun _ _ => aw_iload_n K (dOf ck_mJ7_fill_53178 rfl rfl) rfl) ?_
    refine g_icmp_ge K (dOf ck_mJ7_fill_53178 rfl rfl) (t := 14) (aJ_of (by decide +kernel)) (fun h1 => ?_) (fun h1 => ?_)
    · refine gl (i' := 9) (fun _ _ => aw_aload_n K (dOf ck_mJ7_fill_53178 rfl rfl) rfl) ?_
      refine gl (i' := 10) (fun _ _ => aw_iload_n K (dOf ck_mJ7_fill_53178 rfl rfl) rfl) ?_
      refine gl (i' := 11) (fun _ _ => aw_iload_n K (dOf ck_mJ7_fill_53178 rfl rfl) rfl) ?_
      refine g_gd (fun hb2 => ?_)
      refine g_st1 ?_
      refine gl (i' := 12) (fun _ _ => aw_iast K (dOf ck_mJ7_fill_53178 rfl rfl) (okI_at hx0) hb2) ?_
      refine gl (i' := 13) (fun _ _ => aw_iinc K (dOf ck_mJ7_fill_53178 rfl rfl) (Nat.le_of_ble_eq_true rfl) rfl) ?_
      refine g_lv (lv' := [(2, .inl _), (0, .inr (.inr (.inl (some _)))), (1, .inl _), (3, .inl _)]) rfl ?_
      refine g_goto K (dOf ck_mJ7_fill_53178 rfl rfl).1 (t := 5) (aJ_of (by decide +kernel)) ?_
      refine g_sub [1, 2, 0, 3] rfl ?_
      exact ih _ _
    · exact g_vret K (by decide +kernel) rfl rfl
def Jarr_fillI (x0 : Nat) (x1 : Int) (mm : aM) : Option aM := Jarr_fillI_5 x0 x1 ((aln x0 : Nat) : Int) FU 0 mm
set_option maxHeartbeats 4000000 in
theorem met_Jarr_fillI {l : Launch} {D : va_G} {cA : FieldType → ClassId} {ad adV : Nat → Nat} {z0 : Nat} {x0 : Nat} {x1 : Int} {mm : aM} (hx0 : okI x0) {r : aM} (h : Jarr_fillI x0 x1 mm = some r) : aMet l D cA ad adV z0 mJ7_fill_53178 0 0 0 0 [.inr (.inr (.inl (some x0))), .inl x1] SH mm (rM r).1 SH (rM r).2 := by
  refine aMet_ofG (by decide +kernel) rfl (Nat.le_of_ble_eq_true rfl) h (fun p e s m args below meth c al0 K => ?_)
  unfold Jarr_fillI
  refine gl (i' := 1) (fun _ _ => aw_iconst K (n := 0) (i32 _ rfl) (dOf ck_mJ7_fill_53178 rfl rfl)) ?_
  refine gl (i' := 2) (fun _ _ => aw_istore_n K (dOf ck_mJ7_fill_53178 rfl rfl) (Nat.le_of_ble_eq_true rfl)) ?_
  refine g_lv (lv' := [(2, .inl _), (0, .inr (.inr (.inl (some _)))), (1, .inl _)]) rfl ?_
  refine gl (i' := 3) (fun _ _ => aw_aload_n K (dOf ck_mJ7_fill_53178 rfl rfl) rfl) ?_
  refine gl (i' := 4) (fun _ _ => aw_alen K (dOf ck_mJ7_fill_53178 rfl rfl) (okI_at hx0) rfl (aln_lt _)) ?_
  refine gl (i' := 5) (fun _ _ => aw_istore_n K (dOf ck_mJ7_fill_53178 rfl rfl) (Nat.le_of_ble_eq_true rfl)) ?_
  refine g_lv (lv' := [(3, .inl _), (2, .inl _), (0, .inr (.inr (.inl (some _)))), (1, .inl _)]) rfl ?_
  refine g_sub [2, 3, 1, 0] rfl ?_
  exact lk_Jarr_fillI_5 K hx0 _ _ FU _ _

def Tongue_empty (t : Nat) (mm : aM) : Option aM := st1 (aup mm t 0 0) fun mm1 => (st1 (aup mm1 t 1 0) fun mm2 => (st1 (aup mm2 t 2 0) fun mm3 => (st1 (aup mm3 t 3 0) fun mm4 => (st1 (aup mm4 t 4 0) fun mm5 => (st1 (aup mm5 t 5 15) fun mm6 => ((Jarr_fillI (t + 2) 0 mm6).bind fun r7 => ((Jarr_fillI (t + 19) 15 r7).bind fun r8 => (some r8))))))))
set_option maxHeartbeats 4000000 in
theorem met_Tongue_empty {l : Launch} {D : va_G} {cA : FieldType → ClassId} {ad adV : Nat → Nat} {z0 : Nat} {t : Nat} {mm : aM} (ht : okT t) {r : aM} (h : Tongue_empty t mm = some r) : aMet l D cA ad adV z0 mX8_empty 1 23 0 0 [.inr (.inr (.inl (some t)))] SH mm (rM r).1 SH (rM r).2 := by
  refine aMet_ofG (by decide +kernel) rfl (Nat.le_of_ble_eq_true rfl) h (fun p e s m args below meth c al0 K => ?_)
  unfold Tongue_empty
  refine gl (i' := 1) (fun _ _ => aw_aload_n K (dOf ck_mX8_empty rfl rfl) rfl) ?_
  refine gl (i' := 2) (fun _ _ => aw_iconst K (n := 0) (i32 _ rfl) (dOf ck_mX8_empty rfl rfl)) ?_
  refine g_st1 ?_
  refine gl (i' := 3) (fun _ _ => aw_putf K (dOf ck_mX8_empty rfl rfl) (shT_0 ht) rfl (Nat.le_of_ble_eq_true rfl) wd_188 (k := 0) rfl rfl (Or.inl rfl)) ?_
  refine gl (i' := 4) (fun _ _ => aw_aload_n K (dOf ck_mX8_empty rfl rfl) rfl) ?_
  refine gl (i' := 5) (fun _ _ => aw_iconst K (n := 0) (i32 _ rfl) (dOf ck_mX8_empty rfl rfl)) ?_
  refine g_st1 ?_
  refine gl (i' := 6) (fun _ _ => aw_putf K (dOf ck_mX8_empty rfl rfl) (shT_0 ht) rfl (Nat.le_of_ble_eq_true rfl) wd_191 (k := 1) rfl rfl (Or.inl rfl)) ?_
  refine gl (i' := 7) (fun _ _ => aw_aload_n K (dOf ck_mX8_empty rfl rfl) rfl) ?_
  refine gl (i' := 8) (fun _ _ => aw_iconst K (n := 0) (i32 _ rfl) (dOf ck_mX8_empty rfl rfl)) ?_
  refine g_st1 ?_
  refine gl (i' := 9) (fun _ _ => aw_putf K (dOf ck_mX8_empty rfl rfl) (shT_0 ht) rfl (Nat.le_of_ble_eq_true rfl) wd_198 (k := 2) rfl rfl (Or.inl rfl)) ?_
  refine gl (i' := 10) (fun _ _ => aw_aload_n K (dOf ck_mX8_empty rfl rfl) rfl) ?_
  refine gl (i' := 11) (fun _ _ => aw_iconst K (n := 0) (i32 _ rfl) (dOf ck_mX8_empty rfl rfl)) ?_
  refine g_st1 ?_
  refine gl (i' := 12) (fun _ _ => aw_putf K (dOf ck_mX8_empty rfl rfl) (shT_0 ht) rfl (Nat.le_of_ble_eq_true rfl) wd_203 (k := 3) rfl rfl (Or.inl rfl)) ?_
  refine gl (i' := 13) (fun _ _ => aw_aload_n K (dOf ck_mX8_empty rfl rfl) rfl) ?_
  refine gl (i' := 14) (fun _ _ => aw_iconst K (n := 0) (i32 _ rfl) (dOf ck_mX8_empty rfl rfl)) ?_
  refine g_st1 ?_
  refine gl (i' := 15) (fun _ _ => aw_putf K (dOf ck_mX8_empty rfl rfl) (shT_0 ht) rfl (Nat.le_of_ble_eq_true rfl) wd_207 (k := 4) rfl rfl (Or.inl rfl)) ?_
  refine gl (i' := 16) (fun _ _ => aw_aload_n K (dOf ck_mX8_empty rfl rfl) rfl) ?_
  refine gl (i' := 17) (fun _ _ => aw_bip K (dOf ck_mX8_empty rfl rfl) (v := 15) rfl) ?_
  refine g_st1 ?_
  refine gl (i' := 18) (fun _ _ => aw_putf K (dOf ck_mX8_empty rfl rfl) (shT_0 ht) rfl (Nat.le_of_ble_eq_true rfl) wd_213 (k := 5) rfl rfl (Or.inl rfl)) ?_
  refine gl (i' := 19) (fun _ _ => aw_aload_n K (dOf ck_mX8_empty rfl rfl) rfl) ?_
  refine gl (i' := 20) (fun _ _ => aw_getf K (dOf ck_mX8_empty rfl rfl) (shT_0 ht) rfl (Nat.le_of_ble_eq_true rfl) wd_219 (k := 7) rfl) ?_
  refine gl (i' := 21) (fun _ _ => aw_iconst K (n := 0) (i32 _ rfl) (dOf ck_mX8_empty rfl rfl)) ?_
  refine g_callSM K [.inr (.inr (.inl (some _))), .inl _] rfl (dOf ck_mX8_empty rfl rfl) al_OneBreath_Tongue_64 wd_186 rfl (Nat.le_of_ble_eq_true rfl) ⟨Nat.le_of_ble_eq_true rfl, Nat.le_of_ble_eq_true rfl⟩ (fun b hb => met_Jarr_fillI ⟨_, (shT_2 ht)⟩ hb) (fun r7 hr7 => ?_)
  refine gl (i' := 23) (fun _ _ => aw_aload_n K (dOf ck_mX8_empty rfl rfl) rfl) ?_
  refine gl (i' := 24) (fun _ _ => aw_getf K (dOf ck_mX8_empty rfl rfl) (shT_0 ht) rfl (Nat.le_of_ble_eq_true rfl) wd_257 (k := 12) rfl) ?_
  refine gl (i' := 25) (fun _ _ => aw_bip K (dOf ck_mX8_empty rfl rfl) (v := 15) rfl) ?_
  refine g_callSM K [.inr (.inr (.inl (some _))), .inl _] rfl (dOf ck_mX8_empty rfl rfl) al_OneBreath_Tongue_64 wd_186 rfl (Nat.le_of_ble_eq_true rfl) ⟨Nat.le_of_ble_eq_true rfl, Nat.le_of_ble_eq_true rfl⟩ (fun b hb => met_Jarr_fillI ⟨_, (shT_19 ht)⟩ hb) (fun r8 hr8 => ?_)
  exact g_vret K (by decide +kernel) rfl rfl

def Tongue_findSound_2 (mm : aM) (t : Nat) (x1 : Int) : Nat → Int → Option Int
  | 0, _ => none
  | n + 1, x2 => if x2 < (mm t 1) then (if 0 ≤ x2 ∧ x2 < 8 then (if (mm (t + 1) x2.toNat) = x1 then (some x2) else (Tongue_findSound_2 mm t x1 n (w32 (x2 + 1)))) else none) else (some (-1))
set_option maxHeartbeats 4000000 in
theorem lk_Tongue_findSound_2 {p : Program} {l : Launch} {e : Env} {s : State} {m : MethodId} {args : Array Value} {below : List Frame} {meth : Method} {c : Code} {D : va_G} {cA : FieldType → ClassId} {ad adV : Nat → Nat} {z0 : Nat} {al0 : List Nat} {mm : aM} (K : aK p s m args meth c mX8_findSound D cA ad adV z0) {t : Nat} (ht : okT t)  (x1 : Int) : ∀ (n : Nat) (x2 : Int), aG p l e { frames := 0, cells := 0, slots := 0, locals := 0 } s m args below meth c D cA ad z0 mX8_findSound al0 (rI mm) (Tongue_findSound_2 mm t x1 n x2) 2 [(0, .inr (.inr (.inl (some t)))), (1, .inl x1), (2, .inl x2)] [] mm := by
  intro n
  induction n with
  | zero => intro x2; exact g_none
  | succ n ih =>
    intro x2
    rw [Tongue_findSound_2]
    refine gl (i' := 3) (fun _ _ => aw_iload_n K (dOf ck_mX8_findSound rfl rfl) rfl) ?_
    refine gl (i' := 4) (fun _ _ => aw_aload_n K (dOf ck_mX8_findSound rfl rfl) rfl) ?_
    refine gl (i' := 5) (fun _ _ => aw_getf K (dOf ck_mX8_findSound rfl rfl) (shT_0 ht) rfl (Nat.le_of_ble_eq_true rfl) wd_191 (k := 1) rfl) ?_
    refine g_icmp_ge K (dOf ck_mX8_findSound rfl rfl) (t := 16) (aJ_of (by decide +kernel)) (fun h1 => ?_) (fun h1 => ?_)
    · refine gl (i' := 7) (fun _ _ => aw_aload_n K (dOf ck_mX8_findSound rfl rfl) rfl) ?_
      refine gl (i' := 8) (fun _ _ => aw_getf K (dOf ck_mX8_findSound rfl rfl) (shT_0 ht) rfl (Nat.le_of_ble_eq_true rfl) wd_216 (k := 6) rfl) ?_
      refine gl (i' := 9) (fun _ _ => aw_iload_n K (dOf ck_mX8_findSound rfl rfl) rfl) ?_
      refine g_gd (fun hb2 => ?_)
      refine gl (i' := 10) (fun _ _ => aw_bald K (dOf ck_mX8_findSound rfl rfl) (shT_1 ht) hb2) ?_
      refine gl (i' := 11) (fun _ _ => aw_iload_n K (dOf ck_mX8_findSound rfl rfl) rfl) ?_
      refine g_icmp_ne K (dOf ck_mX8_findSound rfl rfl) (t := 14) (aJ_of (by decide +kernel)) (fun h3 => ?_) (fun h3 => ?_)
      · refine gl (i' := 13) (fun _ _ => aw_iload_n K (dOf ck_mX8_findSound rfl rfl) rfl) ?_
        exact g_iret K (dOf ck_mX8_findSound rfl rfl).1 rfl (Or.inl rfl) rfl
      · refine gl (i' := 15) (fun _ _ => aw_iinc K (dOf ck_mX8_findSound rfl rfl) (Nat.le_of_ble_eq_true rfl) rfl) ?_
        refine g_lv (lv' := [(2, .inl _), (0, .inr (.inr (.inl (some _)))), (1, .inl _)]) rfl ?_
        refine g_goto K (dOf ck_mX8_findSound rfl rfl).1 (t := 2) (aJ_of (by decide +kernel)) ?_
        refine g_sub [1, 2, 0] rfl ?_
        exact ih _
    · refine gl (i' := 17) (fun _ _ => aw_iconst K (n := -1) (i32 _ rfl) (dOf ck_mX8_findSound rfl rfl)) ?_
      exact g_iret K (by decide +kernel) rfl (Or.inl rfl) rfl
def Tongue_findSound (t : Nat) (x1 : Int) (mm : aM) : Option Int := Tongue_findSound_2 mm t x1 FU 0
set_option maxHeartbeats 4000000 in
theorem met_Tongue_findSound {l : Launch} {D : va_G} {cA : FieldType → ClassId} {ad adV : Nat → Nat} {z0 : Nat} {t : Nat} {x1 : Int} {mm : aM} (ht : okT t) {r : Int} (h : Tongue_findSound t x1 mm = some r) : aMet l D cA ad adV z0 mX8_findSound 0 0 0 0 [.inr (.inr (.inl (some t))), .inl x1] SH mm ((rI mm) r).1 SH ((rI mm) r).2 := by
  refine aMet_ofG (by decide +kernel) rfl (Nat.le_of_ble_eq_true rfl) h (fun p e s m args below meth c al0 K => ?_)
  unfold Tongue_findSound
  refine gl (i' := 1) (fun _ _ => aw_iconst K (n := 0) (i32 _ rfl) (dOf ck_mX8_findSound rfl rfl)) ?_
  refine gl (i' := 2) (fun _ _ => aw_istore_n K (dOf ck_mX8_findSound rfl rfl) (Nat.le_of_ble_eq_true rfl)) ?_
  refine g_lv (lv' := [(2, .inl _), (0, .inr (.inr (.inl (some _)))), (1, .inl _)]) rfl ?_
  refine g_sub [1, 2, 0] rfl ?_
  exact lk_Tongue_findSound_2 K ht _ FU _

def Tongue_begins_10 (mm : aM) (t : Nat) (x1 : Nat) (x2 : Int) (x3 : Int) : Nat → Int → Option Int
  | 0, _ => none
  | n + 1, x4 => if x4 < x2 then (if 0 ≤ x4 ∧ x4 < aln x1 then (if 0 ≤ x3 ∧ x3 < 12 then (if 0 ≤ x4 ∧ x4 < 6 then (if (mm x1 x4.toNat) = (mm (t + 4 + x3.toNat) x4.toNat) then (Tongue_begins_10 mm t x1 x2 x3 n (w32 (x4 + 1))) else (some 0)) else none) else none) else none) else (some 1)
set_option maxHeartbeats 4000000 in
theorem lk_Tongue_begins_10 {p : Program} {l : Launch} {e : Env} {s : State} {m : MethodId} {args : Array Value} {below : List Frame} {meth : Method} {c : Code} {D : va_G} {cA : FieldType → ClassId} {ad adV : Nat → Nat} {z0 : Nat} {al0 : List Nat} {mm : aM} (K : aK p s m args meth c mX8_begins D cA ad adV z0) {t : Nat} {x1 : Nat} (ht : okT t) (hx1 : okB x1)  (x2 : Int) (x3 : Int) : ∀ (n : Nat) (x4 : Int), aG p l e { frames := 0, cells := 0, slots := 0, locals := 0 } s m args below meth c D cA ad z0 mX8_begins al0 (rI mm) (Tongue_begins_10 mm t x1 x2 x3 n x4) 10 [(0, .inr (.inr (.inl (some t)))), (1, .inr (.inr (.inl (some x1)))), (2, .inl x2), (3, .inl x3), (4, .inl x4)] [] mm := by
  intro n
  induction n with
  | zero => intro x4; exact g_none
  | succ n ih =>
    intro x4
    rw [Tongue_begins_10]
    refine gl (i' := 11) (fun _ _ => aw_iload K (dOf ck_mX8_begins rfl rfl) rfl) ?_
    refine gl (i' := 12) (fun _ _ => aw_iload_n K (dOf ck_mX8_begins rfl rfl) rfl) ?_
    refine g_icmp_ge K (dOf ck_mX8_begins rfl rfl) (t := 27) (aJ_of (by decide +kernel)) (fun h3 => ?_) (fun h3 => ?_)
    · refine gl (i' := 14) (fun _ _ => aw_aload_n K (dOf ck_mX8_begins rfl rfl) rfl) ?_
      refine gl (i' := 15) (fun _ _ => aw_iload K (dOf ck_mX8_begins rfl rfl) rfl) ?_
      refine g_gd (fun hb4 => ?_)
      refine gl (i' := 16) (fun _ _ => aw_bald K (dOf ck_mX8_begins rfl rfl) (okB_at hx1) hb4) ?_
      refine gl (i' := 17) (fun _ _ => aw_aload_n K (dOf ck_mX8_begins rfl rfl) rfl) ?_
      refine gl (i' := 18) (fun _ _ => aw_getf K (dOf ck_mX8_begins rfl rfl) (shT_0 ht) rfl (Nat.le_of_ble_eq_true rfl) wd_226 (k := 8) rfl) ?_
      refine gl (i' := 19) (fun _ _ => aw_iload_n K (dOf ck_mX8_begins rfl rfl) rfl) ?_
      refine g_gd (fun hb5 => ?_)
      refine gl (i' := 20) (fun _ _ => aw_aald K (dOf ck_mX8_begins rfl rfl) (shTa ht) hb5 (rsT_at hb5)) ?_
      refine gl (i' := 21) (fun _ _ => aw_iload K (dOf ck_mX8_begins rfl rfl) rfl) ?_
      refine g_gd (fun hb6 => ?_)
      refine gl (i' := 22) (fun _ _ => aw_bald K (dOf ck_mX8_begins rfl rfl) (shTr ht hb5) hb6) ?_
      refine g_icmp_eq K (dOf ck_mX8_begins rfl rfl) (t := 25) (aJ_of (by decide +kernel)) (fun h7 => ?_) (fun h7 => ?_)
      · refine gl (i' := 26) (fun _ _ => aw_iinc K (dOf ck_mX8_begins rfl rfl) (Nat.le_of_ble_eq_true rfl) rfl) ?_
        refine g_lv (lv' := [(4, .inl _), (0, .inr (.inr (.inl (some _)))), (1, .inr (.inr (.inl (some _)))), (2, .inl _), (3, .inl _)]) rfl ?_
        refine g_goto K (dOf ck_mX8_begins rfl rfl).1 (t := 10) (aJ_of (by decide +kernel)) ?_
        refine g_sub [1, 2, 3, 4, 0] rfl ?_
        exact ih _
      · refine gl (i' := 24) (fun _ _ => aw_iconst K (n := 0) (i32 _ rfl) (dOf ck_mX8_begins rfl rfl)) ?_
        exact g_iret K (dOf ck_mX8_begins rfl rfl).1 rfl (Or.inr (Or.inl ⟨rfl, Or.inl rfl⟩)) rfl
    · refine gl (i' := 28) (fun _ _ => aw_iconst K (n := 1) (i32 _ rfl) (dOf ck_mX8_begins rfl rfl)) ?_
      exact g_iret K (by decide +kernel) rfl (Or.inr (Or.inl ⟨rfl, Or.inr rfl⟩)) rfl
def Tongue_begins (t : Nat) (x1 : Nat) (x2 : Int) (x3 : Int) (mm : aM) : Option Int := if 0 ≤ x3 ∧ x3 < 12 then (if (mm (t + 16) x3.toNat) < x2 then (some 0) else (Tongue_begins_10 mm t x1 x2 x3 FU 0)) else none
set_option maxHeartbeats 4000000 in
theorem met_Tongue_begins {l : Launch} {D : va_G} {cA : FieldType → ClassId} {ad adV : Nat → Nat} {z0 : Nat} {t : Nat} {x1 : Nat} {x2 : Int} {x3 : Int} {mm : aM} (ht : okT t) (hx1 : okB x1) {r : Int} (h : Tongue_begins t x1 x2 x3 mm = some r) : aMet l D cA ad adV z0 mX8_begins 0 0 0 0 [.inr (.inr (.inl (some t))), .inr (.inr (.inl (some x1))), .inl x2, .inl x3] SH mm ((rI mm) r).1 SH ((rI mm) r).2 := by
  refine aMet_ofG (by decide +kernel) rfl (Nat.le_of_ble_eq_true rfl) h (fun p e s m args below meth c al0 K => ?_)
  unfold Tongue_begins
  refine gl (i' := 1) (fun _ _ => aw_iload_n K (dOf ck_mX8_begins rfl rfl) rfl) ?_
  refine gl (i' := 2) (fun _ _ => aw_aload_n K (dOf ck_mX8_begins rfl rfl) rfl) ?_
  refine gl (i' := 3) (fun _ _ => aw_getf K (dOf ck_mX8_begins rfl rfl) (shT_0 ht) rfl (Nat.le_of_ble_eq_true rfl) wd_235 (k := 9) rfl) ?_
  refine gl (i' := 4) (fun _ _ => aw_iload_n K (dOf ck_mX8_begins rfl rfl) rfl) ?_
  refine g_gd (fun hb1 => ?_)
  refine gl (i' := 5) (fun _ _ => aw_iald K (dOf ck_mX8_begins rfl rfl) (shT_16 ht) hb1) ?_
  refine g_icmp_le K (dOf ck_mX8_begins rfl rfl) (t := 8) (aJ_of (by decide +kernel)) (fun h2 => ?_) (fun h2 => ?_)
  · refine gl (i' := 7) (fun _ _ => aw_iconst K (n := 0) (i32 _ rfl) (dOf ck_mX8_begins rfl rfl)) ?_
    exact g_iret K (dOf ck_mX8_begins rfl rfl).1 rfl (Or.inr (Or.inl ⟨rfl, Or.inl rfl⟩)) rfl
  · refine gl (i' := 9) (fun _ _ => aw_iconst K (n := 0) (i32 _ rfl) (dOf ck_mX8_begins rfl rfl)) ?_
    refine gl (i' := 10) (fun _ _ => aw_istore K (dOf ck_mX8_begins rfl rfl) (Nat.le_of_ble_eq_true rfl)) ?_
    refine g_lv (lv' := [(4, .inl _), (0, .inr (.inr (.inl (some _)))), (1, .inr (.inr (.inl (some _)))), (2, .inl _), (3, .inl _)]) rfl ?_
    refine g_sub [1, 2, 3, 4, 0] rfl ?_
    exact lk_Tongue_begins_10 K ht hx1 _ _ FU _

def Tongue_findWord_20 (mm : aM) (k2 : Int → Option Int) (t : Nat) (x1 : Nat) (x2 : Int) (x3 : Int) : Option Int := k2 (w32 (x3 + 1))
set_option maxHeartbeats 4000000 in
theorem lk_Tongue_findWord_20 {p : Program} {l : Launch} {e : Env} {s : State} {m : MethodId} {args : Array Value} {below : List Frame} {meth : Method} {c : Code} {D : va_G} {cA : FieldType → ClassId} {ad adV : Nat → Nat} {z0 : Nat} {al0 : List Nat} {mm : aM} (K : aK p s m args meth c mX8_findWord D cA ad adV z0) {t : Nat} {x1 : Nat} (ht : okT t) (hx1 : okB x1) (k2 : Int → Option Int) (hk2 : ∀ (x3 : Int), aG p l e { frames := 1, cells := 0, slots := 0, locals := 24 } s m args below meth c D cA ad z0 mX8_findWord al0 (rI mm) (k2 x3) 2 [(0, .inr (.inr (.inl (some t)))), (1, .inr (.inr (.inl (some x1)))), (2, .inl x2), (3, .inl x3)] [] mm)  (x2 : Int) (x3 : Int) : aG p l e { frames := 1, cells := 0, slots := 0, locals := 24 } s m args below meth c D cA ad z0 mX8_findWord al0 (rI mm) (Tongue_findWord_20 mm k2 t x1 x2 x3) 20 [(0, .inr (.inr (.inl (some t)))), (1, .inr (.inr (.inl (some x1)))), (2, .inl x2), (3, .inl x3)] [] mm := by
  unfold Tongue_findWord_20
  refine gl (i' := 21) (fun _ _ => aw_iinc K (dOf ck_mX8_findWord rfl rfl) (Nat.le_of_ble_eq_true rfl) rfl) ?_
  refine g_lv (lv' := [(3, .inl _), (0, .inr (.inr (.inl (some _)))), (1, .inr (.inr (.inl (some _)))), (2, .inl _)]) rfl ?_
  refine g_goto K (dOf ck_mX8_findWord rfl rfl).1 (t := 2) (aJ_of (by decide +kernel)) ?_
  refine g_sub [1, 2, 3, 0] rfl ?_
  exact hk2 _
def Tongue_findWord_2 (mm : aM) (t : Nat) (x1 : Nat) (x2 : Int) : Nat → Int → Option Int
  | 0, _ => none
  | n + 1, x3 => if x3 < (mm t 2) then (if 0 ≤ x3 ∧ x3 < 12 then (if (mm (t + 16) x3.toNat) = x2 then ((Tongue_begins t x1 x2 x3 mm).bind fun r4 => (if r4 = 0 then (Tongue_findWord_20 mm (Tongue_findWord_2 mm t x1 x2 n) t x1 x2 x3) else (some x3))) else (Tongue_findWord_20 mm (Tongue_findWord_2 mm t x1 x2 n) t x1 x2 x3)) else none) else (some (-1))
set_option maxHeartbeats 4000000 in
theorem lk_Tongue_findWord_2 {p : Program} {l : Launch} {e : Env} {s : State} {m : MethodId} {args : Array Value} {below : List Frame} {meth : Method} {c : Code} {D : va_G} {cA : FieldType → ClassId} {ad adV : Nat → Nat} {z0 : Nat} {al0 : List Nat} {mm : aM} (K : aK p s m args meth c mX8_findWord D cA ad adV z0) {t : Nat} {x1 : Nat} (ht : okT t) (hx1 : okB x1)  (x2 : Int) : ∀ (n : Nat) (x3 : Int), aG p l e { frames := 1, cells := 0, slots := 0, locals := 24 } s m args below meth c D cA ad z0 mX8_findWord al0 (rI mm) (Tongue_findWord_2 mm t x1 x2 n x3) 2 [(0, .inr (.inr (.inl (some t)))), (1, .inr (.inr (.inl (some x1)))), (2, .inl x2), (3, .inl x3)] [] mm := by
  intro n
  induction n with
  | zero => intro x3; exact g_none
  | succ n ih =>
    intro x3
    rw [Tongue_findWord_2]
    refine gl (i' := 3) (fun _ _ => aw_iload_n K (dOf ck_mX8_findWord rfl rfl) rfl) ?_
    refine gl (i' := 4) (fun _ _ => aw_aload_n K (dOf ck_mX8_findWord rfl rfl) rfl) ?_
    refine gl (i' := 5) (fun _ _ => aw_getf K (dOf ck_mX8_findWord rfl rfl) (shT_0 ht) rfl (Nat.le_of_ble_eq_true rfl) wd_198 (k := 2) rfl) ?_
    refine g_icmp_ge K (dOf ck_mX8_findWord rfl rfl) (t := 22) (aJ_of (by decide +kernel)) (fun h1 => ?_) (fun h1 => ?_)
    · refine gl (i' := 7) (fun _ _ => aw_aload_n K (dOf ck_mX8_findWord rfl rfl) rfl) ?_
      refine gl (i' := 8) (fun _ _ => aw_getf K (dOf ck_mX8_findWord rfl rfl) (shT_0 ht) rfl (Nat.le_of_ble_eq_true rfl) wd_235 (k := 9) rfl) ?_
      refine gl (i' := 9) (fun _ _ => aw_iload_n K (dOf ck_mX8_findWord rfl rfl) rfl) ?_
      refine g_gd (fun hb2 => ?_)
      refine gl (i' := 10) (fun _ _ => aw_iald K (dOf ck_mX8_findWord rfl rfl) (shT_16 ht) hb2) ?_
      refine gl (i' := 11) (fun _ _ => aw_iload_n K (dOf ck_mX8_findWord rfl rfl) rfl) ?_
      refine g_icmp_ne K (dOf ck_mX8_findWord rfl rfl) (t := 20) (aJ_of (by decide +kernel)) (fun h3 => ?_) (fun h3 => ?_)
      · refine gl (i' := 13) (fun _ _ => aw_aload_n K (dOf ck_mX8_findWord rfl rfl) rfl) ?_
        refine gl (i' := 14) (fun _ _ => aw_aload_n K (dOf ck_mX8_findWord rfl rfl) rfl) ?_
        refine gl (i' := 15) (fun _ _ => aw_iload_n K (dOf ck_mX8_findWord rfl rfl) rfl) ?_
        refine gl (i' := 16) (fun _ _ => aw_iload_n K (dOf ck_mX8_findWord rfl rfl) rfl) ?_
        refine g_callVI K [.inr (.inr (.inl (some _))), .inl _, .inl _] rfl (dOf ck_mX8_findWord rfl rfl) al_OneBreath_Tongue_76 (shT_0 ht) rfl ⟨wd_596, wd_597⟩ rfl (Nat.le_of_ble_eq_true rfl) ⟨Nat.le_of_ble_eq_true rfl, Nat.le_of_ble_eq_true rfl⟩ (fun b hb => met_Tongue_begins ht ⟨_, (okB_at hx1)⟩ hb) (fun r4 hr4 => ?_)
        refine g_if_eq K (dOf ck_mX8_findWord rfl rfl) (t := 20) (aJ_of (by decide +kernel)) (fun h5 => ?_) (fun h5 => ?_)
        · refine g_sub [0, 1, 2, 3] rfl ?_
          exact lk_Tongue_findWord_20 K ht hx1 _ ih _ _
        · refine gl (i' := 19) (fun _ _ => aw_iload_n K (dOf ck_mX8_findWord rfl rfl) rfl) ?_
          exact g_iret K (dOf ck_mX8_findWord rfl rfl).1 rfl (Or.inl rfl) rfl
      · refine g_sub [0, 1, 2, 3] rfl ?_
        exact lk_Tongue_findWord_20 K ht hx1 _ ih _ _
    · refine gl (i' := 23) (fun _ _ => aw_iconst K (n := -1) (i32 _ rfl) (dOf ck_mX8_findWord rfl rfl)) ?_
      exact g_iret K (by decide +kernel) rfl (Or.inl rfl) rfl
def Tongue_findWord (t : Nat) (x1 : Nat) (x2 : Int) (mm : aM) : Option Int := Tongue_findWord_2 mm t x1 x2 FU 0
set_option maxHeartbeats 4000000 in
theorem met_Tongue_findWord {l : Launch} {D : va_G} {cA : FieldType → ClassId} {ad adV : Nat → Nat} {z0 : Nat} {t : Nat} {x1 : Nat} {x2 : Int} {mm : aM} (ht : okT t) (hx1 : okB x1) {r : Int} (h : Tongue_findWord t x1 x2 mm = some r) : aMet l D cA ad adV z0 mX8_findWord 1 24 0 0 [.inr (.inr (.inl (some t))), .inr (.inr (.inl (some x1))), .inl x2] SH mm ((rI mm) r).1 SH ((rI mm) r).2 := by
  refine aMet_ofG (by decide +kernel) rfl (Nat.le_of_ble_eq_true rfl) h (fun p e s m args below meth c al0 K => ?_)
  unfold Tongue_findWord
  refine gl (i' := 1) (fun _ _ => aw_iconst K (n := 0) (i32 _ rfl) (dOf ck_mX8_findWord rfl rfl)) ?_
  refine gl (i' := 2) (fun _ _ => aw_istore_n K (dOf ck_mX8_findWord rfl rfl) (Nat.le_of_ble_eq_true rfl)) ?_
  refine g_lv (lv' := [(3, .inl _), (0, .inr (.inr (.inl (some _)))), (1, .inr (.inr (.inl (some _)))), (2, .inl _)]) rfl ?_
  refine g_sub [1, 2, 3, 0] rfl ?_
  exact lk_Tongue_findWord_2 K ht hx1 _ FU _

def Tongue_become_42 (t : Nat) (x1 : Nat) : Nat → Int → aM → Option aM
  | 0, _, _ => none
  | n + 1, x2, mm => if x2 < 12 then (if 0 ≤ x2 ∧ x2 < 12 then (st1 (aupr mm (t + 4 + x2.toNat) (aCpy (mm (x1 + 4 + x2.toNat)) (mm (t + 4 + x2.toNat)) 0 0 6)) fun mm17 => (Tongue_become_42 t x1 n (w32 (x2 + 1)) mm17)) else none) else (st1 (aupr mm (t + 16) (aCpy (mm (x1 + 16)) (mm (t + 16)) 0 0 12)) fun mm10 => (st1 (aupr mm10 (t + 17) (aCpy (mm10 (x1 + 17)) (mm10 (t + 17)) 0 0 12)) fun mm11 => (st1 (aupr mm11 (t + 18) (aCpy (mm11 (x1 + 18)) (mm11 (t + 18)) 0 0 12)) fun mm12 => (st1 (aupr mm12 (t + 19) (aCpy (mm12 (x1 + 19)) (mm12 (t + 19)) 0 0 4)) fun mm13 => (st1 (aupr mm13 (t + 20) (aCpy (mm13 (x1 + 20)) (mm13 (t + 20)) 0 0 6)) fun mm14 => (st1 (aupr mm14 (t + 21) (aCpy (mm14 (x1 + 21)) (mm14 (t + 21)) 0 0 6)) fun mm15 => (some mm15)))))))
set_option maxHeartbeats 4000000 in
theorem lk_Tongue_become_42 {p : Program} {l : Launch} {e : Env} {s : State} {m : MethodId} {args : Array Value} {below : List Frame} {meth : Method} {c : Code} {D : va_G} {cA : FieldType → ClassId} {ad adV : Nat → Nat} {z0 : Nat} {al0 : List Nat} (K : aK p s m args meth c mX8_become D cA ad adV z0) {t : Nat} {x1 : Nat} (ht : okT t) (hx1 : okT x1)  : ∀ (n : Nat) (x2 : Int) (mm : aM), aG p l e { frames := 1, cells := 0, slots := 0, locals := 26 } s m args below meth c D cA ad z0 mX8_become al0 rM (Tongue_become_42 t x1 n x2 mm) 42 [(0, .inr (.inr (.inl (some t)))), (1, .inr (.inr (.inl (some x1)))), (2, .inl x2)] [] mm := by
  intro n
  induction n with
  | zero => intro x2 mm; exact g_none
  | succ n ih =>
    intro x2 mm
    rw [Tongue_become_42]
    refine gl (i' := 43) (fun _ _ => aw_iload_n K (dOf ck_mX8_become rfl rfl) rfl) ?_
    refine gl (i' := 44) (fun _ _ => aw_bip K (dOf ck_mX8_become rfl rfl) (v := 12) rfl) ?_
    refine g_icmp_ge K (dOf ck_mX8_become rfl rfl) (t := 59) (aJ_of (by decide +kernel)) (fun h9 => ?_) (fun h9 => ?_)
    · refine gl (i' := 46) (fun _ _ => aw_aload_n K (dOf ck_mX8_become rfl rfl) rfl) ?_
      refine gl (i' := 47) (fun _ _ => aw_getf K (dOf ck_mX8_become rfl rfl) (shT_0 hx1) rfl (Nat.le_of_ble_eq_true rfl) wd_226 (k := 8) rfl) ?_
      refine gl (i' := 48) (fun _ _ => aw_iload_n K (dOf ck_mX8_become rfl rfl) rfl) ?_
      refine g_gd (fun hb16 => ?_)
      refine gl (i' := 49) (fun _ _ => aw_aald K (dOf ck_mX8_become rfl rfl) (shTa hx1) hb16 (rsT_at hb16)) ?_
      refine gl (i' := 50) (fun _ _ => aw_iconst K (n := 0) (i32 _ rfl) (dOf ck_mX8_become rfl rfl)) ?_
      refine gl (i' := 51) (fun _ _ => aw_aload_n K (dOf ck_mX8_become rfl rfl) rfl) ?_
      refine gl (i' := 52) (fun _ _ => aw_getf K (dOf ck_mX8_become rfl rfl) (shT_0 ht) rfl (Nat.le_of_ble_eq_true rfl) wd_226 (k := 8) rfl) ?_
      refine gl (i' := 53) (fun _ _ => aw_iload_n K (dOf ck_mX8_become rfl rfl) rfl) ?_
      refine gl (i' := 54) (fun _ _ => aw_aald K (dOf ck_mX8_become rfl rfl) (shTa ht) hb16 (rsT_at hb16)) ?_
      refine gl (i' := 55) (fun _ _ => aw_iconst K (n := 0) (i32 _ rfl) (dOf ck_mX8_become rfl rfl)) ?_
      refine gl (i' := 56) (fun _ _ => aw_bip K (dOf ck_mX8_become rfl rfl) (v := 6) rfl) ?_
      refine g_st1 ?_
      refine gl (i' := 57) (fun _ _ => aw_copy K (dOf ck_mX8_become rfl rfl) ⟨wd_609, wd_611, wd_610, wd_157⟩ (shTr hx1 hb16) (shTr ht hb16) (by decide) (by decide) (by decide) (by decide) (by decide) (Nat.le_of_ble_eq_true rfl) ⟨Nat.le_of_ble_eq_true rfl, Nat.le_of_ble_eq_true rfl⟩) ?_
      refine gl (i' := 58) (fun _ _ => aw_iinc K (dOf ck_mX8_become rfl rfl) (Nat.le_of_ble_eq_true rfl) rfl) ?_
      refine g_lv (lv' := [(2, .inl _), (0, .inr (.inr (.inl (some _)))), (1, .inr (.inr (.inl (some _))))]) rfl ?_
      refine g_goto K (dOf ck_mX8_become rfl rfl).1 (t := 42) (aJ_of (by decide +kernel)) ?_
      refine g_sub [1, 2, 0] rfl ?_
      exact ih _ _
    · refine gl (i' := 60) (fun _ _ => aw_aload_n K (dOf ck_mX8_become rfl rfl) rfl) ?_
      refine gl (i' := 61) (fun _ _ => aw_getf K (dOf ck_mX8_become rfl rfl) (shT_0 hx1) rfl (Nat.le_of_ble_eq_true rfl) wd_235 (k := 9) rfl) ?_
      refine gl (i' := 62) (fun _ _ => aw_iconst K (n := 0) (i32 _ rfl) (dOf ck_mX8_become rfl rfl)) ?_
      refine gl (i' := 63) (fun _ _ => aw_aload_n K (dOf ck_mX8_become rfl rfl) rfl) ?_
      refine gl (i' := 64) (fun _ _ => aw_getf K (dOf ck_mX8_become rfl rfl) (shT_0 ht) rfl (Nat.le_of_ble_eq_true rfl) wd_235 (k := 9) rfl) ?_
      refine gl (i' := 65) (fun _ _ => aw_iconst K (n := 0) (i32 _ rfl) (dOf ck_mX8_become rfl rfl)) ?_
      refine gl (i' := 66) (fun _ _ => aw_bip K (dOf ck_mX8_become rfl rfl) (v := 12) rfl) ?_
      refine g_st1 ?_
      refine gl (i' := 67) (fun _ _ => aw_copy K (dOf ck_mX8_become rfl rfl) ⟨wd_609, wd_611, wd_610, wd_157⟩ (shT_16 hx1) (shT_16 ht) (by decide) (by decide) (by decide) (by decide) (by decide) (Nat.le_of_ble_eq_true rfl) ⟨Nat.le_of_ble_eq_true rfl, Nat.le_of_ble_eq_true rfl⟩) ?_
      refine gl (i' := 68) (fun _ _ => aw_aload_n K (dOf ck_mX8_become rfl rfl) rfl) ?_
      refine gl (i' := 69) (fun _ _ => aw_getf K (dOf ck_mX8_become rfl rfl) (shT_0 hx1) rfl (Nat.le_of_ble_eq_true rfl) wd_244 (k := 10) rfl) ?_
      refine gl (i' := 70) (fun _ _ => aw_iconst K (n := 0) (i32 _ rfl) (dOf ck_mX8_become rfl rfl)) ?_
      refine gl (i' := 71) (fun _ _ => aw_aload_n K (dOf ck_mX8_become rfl rfl) rfl) ?_
      refine gl (i' := 72) (fun _ _ => aw_getf K (dOf ck_mX8_become rfl rfl) (shT_0 ht) rfl (Nat.le_of_ble_eq_true rfl) wd_244 (k := 10) rfl) ?_
      refine gl (i' := 73) (fun _ _ => aw_iconst K (n := 0) (i32 _ rfl) (dOf ck_mX8_become rfl rfl)) ?_
      refine gl (i' := 74) (fun _ _ => aw_bip K (dOf ck_mX8_become rfl rfl) (v := 12) rfl) ?_
      refine g_st1 ?_
      refine gl (i' := 75) (fun _ _ => aw_copy K (dOf ck_mX8_become rfl rfl) ⟨wd_609, wd_611, wd_610, wd_157⟩ (shT_17 hx1) (shT_17 ht) (by decide) (by decide) (by decide) (by decide) (by decide) (Nat.le_of_ble_eq_true rfl) ⟨Nat.le_of_ble_eq_true rfl, Nat.le_of_ble_eq_true rfl⟩) ?_
      refine gl (i' := 76) (fun _ _ => aw_aload_n K (dOf ck_mX8_become rfl rfl) rfl) ?_
      refine gl (i' := 77) (fun _ _ => aw_getf K (dOf ck_mX8_become rfl rfl) (shT_0 hx1) rfl (Nat.le_of_ble_eq_true rfl) wd_250 (k := 11) rfl) ?_
      refine gl (i' := 78) (fun _ _ => aw_iconst K (n := 0) (i32 _ rfl) (dOf ck_mX8_become rfl rfl)) ?_
      refine gl (i' := 79) (fun _ _ => aw_aload_n K (dOf ck_mX8_become rfl rfl) rfl) ?_
      refine gl (i' := 80) (fun _ _ => aw_getf K (dOf ck_mX8_become rfl rfl) (shT_0 ht) rfl (Nat.le_of_ble_eq_true rfl) wd_250 (k := 11) rfl) ?_
      refine gl (i' := 81) (fun _ _ => aw_iconst K (n := 0) (i32 _ rfl) (dOf ck_mX8_become rfl rfl)) ?_
      refine gl (i' := 82) (fun _ _ => aw_bip K (dOf ck_mX8_become rfl rfl) (v := 12) rfl) ?_
      refine g_st1 ?_
      refine gl (i' := 83) (fun _ _ => aw_copy K (dOf ck_mX8_become rfl rfl) ⟨wd_609, wd_611, wd_610, wd_157⟩ (shT_18 hx1) (shT_18 ht) (by decide) (by decide) (by decide) (by decide) (by decide) (Nat.le_of_ble_eq_true rfl) ⟨Nat.le_of_ble_eq_true rfl, Nat.le_of_ble_eq_true rfl⟩) ?_
      refine gl (i' := 84) (fun _ _ => aw_aload_n K (dOf ck_mX8_become rfl rfl) rfl) ?_
      refine gl (i' := 85) (fun _ _ => aw_getf K (dOf ck_mX8_become rfl rfl) (shT_0 hx1) rfl (Nat.le_of_ble_eq_true rfl) wd_257 (k := 12) rfl) ?_
      refine gl (i' := 86) (fun _ _ => aw_iconst K (n := 0) (i32 _ rfl) (dOf ck_mX8_become rfl rfl)) ?_
      refine gl (i' := 87) (fun _ _ => aw_aload_n K (dOf ck_mX8_become rfl rfl) rfl) ?_
      refine gl (i' := 88) (fun _ _ => aw_getf K (dOf ck_mX8_become rfl rfl) (shT_0 ht) rfl (Nat.le_of_ble_eq_true rfl) wd_257 (k := 12) rfl) ?_
      refine gl (i' := 89) (fun _ _ => aw_iconst K (n := 0) (i32 _ rfl) (dOf ck_mX8_become rfl rfl)) ?_
      refine gl (i' := 90) (fun _ _ => aw_iconst K (n := 4) (i32 _ rfl) (dOf ck_mX8_become rfl rfl)) ?_
      refine g_st1 ?_
      refine gl (i' := 91) (fun _ _ => aw_copy K (dOf ck_mX8_become rfl rfl) ⟨wd_609, wd_611, wd_610, wd_157⟩ (shT_19 hx1) (shT_19 ht) (by decide) (by decide) (by decide) (by decide) (by decide) (Nat.le_of_ble_eq_true rfl) ⟨Nat.le_of_ble_eq_true rfl, Nat.le_of_ble_eq_true rfl⟩) ?_
      refine gl (i' := 92) (fun _ _ => aw_aload_n K (dOf ck_mX8_become rfl rfl) rfl) ?_
      refine gl (i' := 93) (fun _ _ => aw_getf K (dOf ck_mX8_become rfl rfl) (shT_0 hx1) rfl (Nat.le_of_ble_eq_true rfl) wd_262 (k := 13) rfl) ?_
      refine gl (i' := 94) (fun _ _ => aw_iconst K (n := 0) (i32 _ rfl) (dOf ck_mX8_become rfl rfl)) ?_
      refine gl (i' := 95) (fun _ _ => aw_aload_n K (dOf ck_mX8_become rfl rfl) rfl) ?_
      refine gl (i' := 96) (fun _ _ => aw_getf K (dOf ck_mX8_become rfl rfl) (shT_0 ht) rfl (Nat.le_of_ble_eq_true rfl) wd_262 (k := 13) rfl) ?_
      refine gl (i' := 97) (fun _ _ => aw_iconst K (n := 0) (i32 _ rfl) (dOf ck_mX8_become rfl rfl)) ?_
      refine gl (i' := 98) (fun _ _ => aw_bip K (dOf ck_mX8_become rfl rfl) (v := 6) rfl) ?_
      refine g_st1 ?_
      refine gl (i' := 99) (fun _ _ => aw_copy K (dOf ck_mX8_become rfl rfl) ⟨wd_609, wd_611, wd_610, wd_157⟩ (shT_20 hx1) (shT_20 ht) (by decide) (by decide) (by decide) (by decide) (by decide) (Nat.le_of_ble_eq_true rfl) ⟨Nat.le_of_ble_eq_true rfl, Nat.le_of_ble_eq_true rfl⟩) ?_
      refine gl (i' := 100) (fun _ _ => aw_aload_n K (dOf ck_mX8_become rfl rfl) rfl) ?_
      refine gl (i' := 101) (fun _ _ => aw_getf K (dOf ck_mX8_become rfl rfl) (shT_0 hx1) rfl (Nat.le_of_ble_eq_true rfl) wd_267 (k := 14) rfl) ?_
      refine gl (i' := 102) (fun _ _ => aw_iconst K (n := 0) (i32 _ rfl) (dOf ck_mX8_become rfl rfl)) ?_
      refine gl (i' := 103) (fun _ _ => aw_aload_n K (dOf ck_mX8_become rfl rfl) rfl) ?_
      refine gl (i' := 104) (fun _ _ => aw_getf K (dOf ck_mX8_become rfl rfl) (shT_0 ht) rfl (Nat.le_of_ble_eq_true rfl) wd_267 (k := 14) rfl) ?_
      refine gl (i' := 105) (fun _ _ => aw_iconst K (n := 0) (i32 _ rfl) (dOf ck_mX8_become rfl rfl)) ?_
      refine gl (i' := 106) (fun _ _ => aw_bip K (dOf ck_mX8_become rfl rfl) (v := 6) rfl) ?_
      refine g_st1 ?_
      refine gl (i' := 107) (fun _ _ => aw_copy K (dOf ck_mX8_become rfl rfl) ⟨wd_609, wd_611, wd_610, wd_157⟩ (shT_21 hx1) (shT_21 ht) (by decide) (by decide) (by decide) (by decide) (by decide) (Nat.le_of_ble_eq_true rfl) ⟨Nat.le_of_ble_eq_true rfl, Nat.le_of_ble_eq_true rfl⟩) ?_
      exact g_vret K (by decide +kernel) rfl rfl
def Tongue_become (t : Nat) (x1 : Nat) (mm : aM) : Option aM := st1 (aup mm t 0 (mm x1 0)) fun mm1 => (st1 (aup mm1 t 1 (mm1 x1 1)) fun mm2 => (st1 (aup mm2 t 2 (mm2 x1 2)) fun mm3 => (st1 (aup mm3 t 3 (mm3 x1 3)) fun mm4 => (st1 (aup mm4 t 4 (mm4 x1 4)) fun mm5 => (st1 (aup mm5 t 5 (mm5 x1 5)) fun mm6 => (st1 (aupr mm6 (t + 1) (aCpy (mm6 (x1 + 1)) (mm6 (t + 1)) 0 0 8)) fun mm7 => (st1 (aupr mm7 (t + 2) (aCpy (mm7 (x1 + 2)) (mm7 (t + 2)) 0 0 8)) fun mm8 => (Tongue_become_42 t x1 FU 0 mm8))))))))
set_option maxHeartbeats 4000000 in
theorem met_Tongue_become {l : Launch} {D : va_G} {cA : FieldType → ClassId} {ad adV : Nat → Nat} {z0 : Nat} {t : Nat} {x1 : Nat} {mm : aM} (ht : okT t) (hx1 : okT x1) {r : aM} (h : Tongue_become t x1 mm = some r) : aMet l D cA ad adV z0 mX8_become 1 26 0 0 [.inr (.inr (.inl (some t))), .inr (.inr (.inl (some x1)))] SH mm (rM r).1 SH (rM r).2 := by
  refine aMet_ofG (by decide +kernel) rfl (Nat.le_of_ble_eq_true rfl) h (fun p e s m args below meth c al0 K => ?_)
  unfold Tongue_become
  refine gl (i' := 1) (fun _ _ => aw_aload_n K (dOf ck_mX8_become rfl rfl) rfl) ?_
  refine gl (i' := 2) (fun _ _ => aw_aload_n K (dOf ck_mX8_become rfl rfl) rfl) ?_
  refine gl (i' := 3) (fun _ _ => aw_getf K (dOf ck_mX8_become rfl rfl) (shT_0 hx1) rfl (Nat.le_of_ble_eq_true rfl) wd_188 (k := 0) rfl) ?_
  refine g_st1 ?_
  refine gl (i' := 4) (fun _ _ => aw_putf K (dOf ck_mX8_become rfl rfl) (shT_0 ht) rfl (Nat.le_of_ble_eq_true rfl) wd_188 (k := 0) rfl rfl (Or.inl rfl)) ?_
  refine gl (i' := 5) (fun _ _ => aw_aload_n K (dOf ck_mX8_become rfl rfl) rfl) ?_
  refine gl (i' := 6) (fun _ _ => aw_aload_n K (dOf ck_mX8_become rfl rfl) rfl) ?_
  refine gl (i' := 7) (fun _ _ => aw_getf K (dOf ck_mX8_become rfl rfl) (shT_0 hx1) rfl (Nat.le_of_ble_eq_true rfl) wd_191 (k := 1) rfl) ?_
  refine g_st1 ?_
  refine gl (i' := 8) (fun _ _ => aw_putf K (dOf ck_mX8_become rfl rfl) (shT_0 ht) rfl (Nat.le_of_ble_eq_true rfl) wd_191 (k := 1) rfl rfl (Or.inl rfl)) ?_
  refine gl (i' := 9) (fun _ _ => aw_aload_n K (dOf ck_mX8_become rfl rfl) rfl) ?_
  refine gl (i' := 10) (fun _ _ => aw_aload_n K (dOf ck_mX8_become rfl rfl) rfl) ?_
  refine gl (i' := 11) (fun _ _ => aw_getf K (dOf ck_mX8_become rfl rfl) (shT_0 hx1) rfl (Nat.le_of_ble_eq_true rfl) wd_198 (k := 2) rfl) ?_
  refine g_st1 ?_
  refine gl (i' := 12) (fun _ _ => aw_putf K (dOf ck_mX8_become rfl rfl) (shT_0 ht) rfl (Nat.le_of_ble_eq_true rfl) wd_198 (k := 2) rfl rfl (Or.inl rfl)) ?_
  refine gl (i' := 13) (fun _ _ => aw_aload_n K (dOf ck_mX8_become rfl rfl) rfl) ?_
  refine gl (i' := 14) (fun _ _ => aw_aload_n K (dOf ck_mX8_become rfl rfl) rfl) ?_
  refine gl (i' := 15) (fun _ _ => aw_getf K (dOf ck_mX8_become rfl rfl) (shT_0 hx1) rfl (Nat.le_of_ble_eq_true rfl) wd_203 (k := 3) rfl) ?_
  refine g_st1 ?_
  refine gl (i' := 16) (fun _ _ => aw_putf K (dOf ck_mX8_become rfl rfl) (shT_0 ht) rfl (Nat.le_of_ble_eq_true rfl) wd_203 (k := 3) rfl rfl (Or.inl rfl)) ?_
  refine gl (i' := 17) (fun _ _ => aw_aload_n K (dOf ck_mX8_become rfl rfl) rfl) ?_
  refine gl (i' := 18) (fun _ _ => aw_aload_n K (dOf ck_mX8_become rfl rfl) rfl) ?_
  refine gl (i' := 19) (fun _ _ => aw_getf K (dOf ck_mX8_become rfl rfl) (shT_0 hx1) rfl (Nat.le_of_ble_eq_true rfl) wd_207 (k := 4) rfl) ?_
  refine g_st1 ?_
  refine gl (i' := 20) (fun _ _ => aw_putf K (dOf ck_mX8_become rfl rfl) (shT_0 ht) rfl (Nat.le_of_ble_eq_true rfl) wd_207 (k := 4) rfl rfl (Or.inl rfl)) ?_
  refine gl (i' := 21) (fun _ _ => aw_aload_n K (dOf ck_mX8_become rfl rfl) rfl) ?_
  refine gl (i' := 22) (fun _ _ => aw_aload_n K (dOf ck_mX8_become rfl rfl) rfl) ?_
  refine gl (i' := 23) (fun _ _ => aw_getf K (dOf ck_mX8_become rfl rfl) (shT_0 hx1) rfl (Nat.le_of_ble_eq_true rfl) wd_213 (k := 5) rfl) ?_
  refine g_st1 ?_
  refine gl (i' := 24) (fun _ _ => aw_putf K (dOf ck_mX8_become rfl rfl) (shT_0 ht) rfl (Nat.le_of_ble_eq_true rfl) wd_213 (k := 5) rfl rfl (Or.inl rfl)) ?_
  refine gl (i' := 25) (fun _ _ => aw_aload_n K (dOf ck_mX8_become rfl rfl) rfl) ?_
  refine gl (i' := 26) (fun _ _ => aw_getf K (dOf ck_mX8_become rfl rfl) (shT_0 hx1) rfl (Nat.le_of_ble_eq_true rfl) wd_216 (k := 6) rfl) ?_
  refine gl (i' := 27) (fun _ _ => aw_iconst K (n := 0) (i32 _ rfl) (dOf ck_mX8_become rfl rfl)) ?_
  refine gl (i' := 28) (fun _ _ => aw_aload_n K (dOf ck_mX8_become rfl rfl) rfl) ?_
  refine gl (i' := 29) (fun _ _ => aw_getf K (dOf ck_mX8_become rfl rfl) (shT_0 ht) rfl (Nat.le_of_ble_eq_true rfl) wd_216 (k := 6) rfl) ?_
  refine gl (i' := 30) (fun _ _ => aw_iconst K (n := 0) (i32 _ rfl) (dOf ck_mX8_become rfl rfl)) ?_
  refine gl (i' := 31) (fun _ _ => aw_bip K (dOf ck_mX8_become rfl rfl) (v := 8) rfl) ?_
  refine g_st1 ?_
  refine gl (i' := 32) (fun _ _ => aw_copy K (dOf ck_mX8_become rfl rfl) ⟨wd_609, wd_611, wd_610, wd_157⟩ (shT_1 hx1) (shT_1 ht) (by decide) (by decide) (by decide) (by decide) (by decide) (Nat.le_of_ble_eq_true rfl) ⟨Nat.le_of_ble_eq_true rfl, Nat.le_of_ble_eq_true rfl⟩) ?_
  refine gl (i' := 33) (fun _ _ => aw_aload_n K (dOf ck_mX8_become rfl rfl) rfl) ?_
  refine gl (i' := 34) (fun _ _ => aw_getf K (dOf ck_mX8_become rfl rfl) (shT_0 hx1) rfl (Nat.le_of_ble_eq_true rfl) wd_219 (k := 7) rfl) ?_
  refine gl (i' := 35) (fun _ _ => aw_iconst K (n := 0) (i32 _ rfl) (dOf ck_mX8_become rfl rfl)) ?_
  refine gl (i' := 36) (fun _ _ => aw_aload_n K (dOf ck_mX8_become rfl rfl) rfl) ?_
  refine gl (i' := 37) (fun _ _ => aw_getf K (dOf ck_mX8_become rfl rfl) (shT_0 ht) rfl (Nat.le_of_ble_eq_true rfl) wd_219 (k := 7) rfl) ?_
  refine gl (i' := 38) (fun _ _ => aw_iconst K (n := 0) (i32 _ rfl) (dOf ck_mX8_become rfl rfl)) ?_
  refine gl (i' := 39) (fun _ _ => aw_bip K (dOf ck_mX8_become rfl rfl) (v := 8) rfl) ?_
  refine g_st1 ?_
  refine gl (i' := 40) (fun _ _ => aw_copy K (dOf ck_mX8_become rfl rfl) ⟨wd_609, wd_611, wd_610, wd_157⟩ (shT_2 hx1) (shT_2 ht) (by decide) (by decide) (by decide) (by decide) (by decide) (Nat.le_of_ble_eq_true rfl) ⟨Nat.le_of_ble_eq_true rfl, Nat.le_of_ble_eq_true rfl⟩) ?_
  refine gl (i' := 41) (fun _ _ => aw_iconst K (n := 0) (i32 _ rfl) (dOf ck_mX8_become rfl rfl)) ?_
  refine gl (i' := 42) (fun _ _ => aw_istore_n K (dOf ck_mX8_become rfl rfl) (Nat.le_of_ble_eq_true rfl)) ?_
  refine g_lv (lv' := [(2, .inl _), (0, .inr (.inr (.inl (some _)))), (1, .inr (.inr (.inl (some _))))]) rfl ?_
  refine g_sub [1, 2, 0] rfl ?_
  exact lk_Tongue_become_42 K ht hx1 FU _ _

def Tongue_hasWord (t : Nat) (x1 : Int) (mm : aM) : Option Int := if x1 < 0 then (some 0) else (if x1 < (mm t 2) then (some 1) else (some 0))
set_option maxHeartbeats 4000000 in
theorem met_Tongue_hasWord {l : Launch} {D : va_G} {cA : FieldType → ClassId} {ad adV : Nat → Nat} {z0 : Nat} {t : Nat} {x1 : Int} {mm : aM} (ht : okT t) {r : Int} (h : Tongue_hasWord t x1 mm = some r) : aMet l D cA ad adV z0 mX8_hasWord 0 0 0 0 [.inr (.inr (.inl (some t))), .inr (.inl x1)] SH mm ((rI mm) r).1 SH ((rI mm) r).2 := by
  refine aMet_ofG (by decide +kernel) rfl (Nat.le_of_ble_eq_true rfl) h (fun p e s m args below meth c al0 K => ?_)
  unfold Tongue_hasWord
  refine gl (i' := 1) (fun _ _ => aw_lload_n K (dOf ck_mX8_hasWord rfl rfl) rfl) ?_
  refine gl (i' := 2) (fun _ _ => aw_lcn K (dOf ck_mX8_hasWord rfl rfl) (v := 0) rfl) ?_
  refine g_lcmp_lt K (dOf ck_mX8_hasWord rfl rfl) (dOf ck_mX8_hasWord rfl rfl) (t := 12) (aJ_of (by decide +kernel)) (fun h1 => ?_) (fun h1 => ?_)
  · refine gl (i' := 13) (fun _ _ => aw_iconst K (n := 0) (i32 _ rfl) (dOf ck_mX8_hasWord rfl rfl)) ?_
    exact g_iret K (by decide +kernel) rfl (Or.inr (Or.inl ⟨rfl, Or.inl rfl⟩)) rfl
  · refine gl (i' := 5) (fun _ _ => aw_lload_n K (dOf ck_mX8_hasWord rfl rfl) rfl) ?_
    refine gl (i' := 6) (fun _ _ => aw_aload_n K (dOf ck_mX8_hasWord rfl rfl) rfl) ?_
    refine gl (i' := 7) (fun _ _ => aw_getf K (dOf ck_mX8_hasWord rfl rfl) (shT_0 ht) rfl (Nat.le_of_ble_eq_true rfl) wd_198 (k := 2) rfl) ?_
    refine gl (i' := 8) (fun _ _ => aw_i2l K (dOf ck_mX8_hasWord rfl rfl)) ?_
    refine g_lcmp_ge K (dOf ck_mX8_hasWord rfl rfl) (dOf ck_mX8_hasWord rfl rfl) (t := 12) (aJ_of (by decide +kernel)) (fun h2 => ?_) (fun h2 => ?_)
    · refine gl (i' := 11) (fun _ _ => aw_iconst K (n := 1) (i32 _ rfl) (dOf ck_mX8_hasWord rfl rfl)) ?_
      refine g_goto K (dOf ck_mX8_hasWord rfl rfl).1 (t := 13) (aJ_of (by decide +kernel)) ?_
      exact g_iret K (by decide +kernel) rfl (Or.inr (Or.inl ⟨rfl, Or.inr rfl⟩)) rfl
    · refine gl (i' := 13) (fun _ _ => aw_iconst K (n := 0) (i32 _ rfl) (dOf ck_mX8_hasWord rfl rfl)) ?_
      exact g_iret K (by decide +kernel) rfl (Or.inr (Or.inl ⟨rfl, Or.inl rfl⟩)) rfl

def Sounds_add (t : Nat) (x1 : Int) (mm : aM) : Option aM := if (mm t 1) < 40 then (if 0 ≤ (mm t 1) ∧ (mm t 1) < 40 then (st1 (aup mm (t + 1) (mm t 1).toNat (w8 x1)) fun mm3 => (st1 (aup mm3 t 1 (w32 ((mm3 t 1) + 1))) fun mm4 => (some mm4))) else none) else (some mm)
set_option maxHeartbeats 4000000 in
theorem met_Sounds_add {l : Launch} {D : va_G} {cA : FieldType → ClassId} {ad adV : Nat → Nat} {z0 : Nat} {t : Nat} {x1 : Int} {mm : aM} (ht : okS t) {r : aM} (h : Sounds_add t x1 mm = some r) : aMet l D cA ad adV z0 mX6_add 0 0 0 0 [.inr (.inr (.inl (some t))), .inl x1] SH mm (rM r).1 SH (rM r).2 := by
  refine aMet_ofG (by decide +kernel) rfl (Nat.le_of_ble_eq_true rfl) h (fun p e s m args below meth c al0 K => ?_)
  unfold Sounds_add
  refine gl (i' := 1) (fun _ _ => aw_aload_n K (dOf ck_mX6_add rfl rfl) rfl) ?_
  refine gl (i' := 2) (fun _ _ => aw_getf K (dOf ck_mX6_add rfl rfl) (shS_0 ht) rfl (Nat.le_of_ble_eq_true rfl) wd_299 (k := 1) rfl) ?_
  refine gl (i' := 3) (fun _ _ => aw_bip K (dOf ck_mX6_add rfl rfl) (v := 40) rfl) ?_
  refine g_icmp_ge K (dOf ck_mX6_add rfl rfl) (t := 16) (aJ_of (by decide +kernel)) (fun h1 => ?_) (fun h1 => ?_)
  · refine gl (i' := 5) (fun _ _ => aw_aload_n K (dOf ck_mX6_add rfl rfl) rfl) ?_
    refine gl (i' := 6) (fun _ _ => aw_getf K (dOf ck_mX6_add rfl rfl) (shS_0 ht) rfl (Nat.le_of_ble_eq_true rfl) wd_294 (k := 0) rfl) ?_
    refine gl (i' := 7) (fun _ _ => aw_aload_n K (dOf ck_mX6_add rfl rfl) rfl) ?_
    refine gl (i' := 8) (fun _ _ => aw_getf K (dOf ck_mX6_add rfl rfl) (shS_0 ht) rfl (Nat.le_of_ble_eq_true rfl) wd_299 (k := 1) rfl) ?_
    refine gl (i' := 9) (fun _ _ => aw_iload_n K (dOf ck_mX6_add rfl rfl) rfl) ?_
    refine g_gd (fun hb2 => ?_)
    refine g_st1 ?_
    refine gl (i' := 10) (fun _ _ => aw_bast K (dOf ck_mX6_add rfl rfl) (shS_1 ht) hb2) ?_
    refine gl (i' := 11) (fun _ _ => aw_aload_n K (dOf ck_mX6_add rfl rfl) rfl) ?_
    refine gl (i' := 12) (fun _ _ => aw_dup K rfl (dOf ck_mX6_add rfl rfl)) ?_
    refine gl (i' := 13) (fun _ _ => aw_getf K (dOf ck_mX6_add rfl rfl) (shS_0 ht) rfl (Nat.le_of_ble_eq_true rfl) wd_299 (k := 1) rfl) ?_
    refine gl (i' := 14) (fun _ _ => aw_iconst K (n := 1) (i32 _ rfl) (dOf ck_mX6_add rfl rfl)) ?_
    refine gl (i' := 15) (fun _ _ => aw_iadd K (dOf ck_mX6_add rfl rfl)) ?_
    refine g_st1 ?_
    refine gl (i' := 16) (fun _ _ => aw_putf K (dOf ck_mX6_add rfl rfl) (shS_0 ht) rfl (Nat.le_of_ble_eq_true rfl) wd_299 (k := 1) rfl rfl (Or.inl rfl)) ?_
    exact g_vret K (by decide +kernel) rfl rfl
  · exact g_vret K (by decide +kernel) rfl rfl

def Tongue_mayFollow_15 (mm : aM) (t : Nat) : Option Int := some 1
set_option maxHeartbeats 4000000 in
theorem lk_Tongue_mayFollow_15 {p : Program} {l : Launch} {e : Env} {s : State} {m : MethodId} {args : Array Value} {below : List Frame} {meth : Method} {c : Code} {D : va_G} {cA : FieldType → ClassId} {ad adV : Nat → Nat} {z0 : Nat} {al0 : List Nat} {mm : aM} (K : aK p s m args meth c mX8_mayFollow D cA ad adV z0) {t : Nat} (ht : okT t)  : aG p l e { frames := 0, cells := 0, slots := 0, locals := 0 } s m args below meth c D cA ad z0 mX8_mayFollow al0 (rI mm) (Tongue_mayFollow_15 mm t) 15 [] [] mm := by
  unfold Tongue_mayFollow_15
  refine gl (i' := 16) (fun _ _ => aw_iconst K (n := 1) (i32 _ rfl) (dOf ck_mX8_mayFollow rfl rfl)) ?_
  refine g_goto K (dOf ck_mX8_mayFollow rfl rfl).1 (t := 18) (aJ_of (by decide +kernel)) ?_
  exact g_iret K (by decide +kernel) rfl (Or.inr (Or.inl ⟨rfl, Or.inr rfl⟩)) rfl
def Tongue_mayFollow (t : Nat) (x1 : Int) (x2 : Int) (mm : aM) : Option Int := if x1 = 4 then (Tongue_mayFollow_15 mm t) else (if 0 ≤ x1 ∧ x1 < 4 then (if 0 ≤ x2 ∧ x2 < 12 then (if (iand (ishr (mm (t + 19) x1.toNat) (mm (t + 18) x2.toNat)) 1) = 0 then (some 0) else (Tongue_mayFollow_15 mm t)) else none) else none)
set_option maxHeartbeats 4000000 in
theorem met_Tongue_mayFollow {l : Launch} {D : va_G} {cA : FieldType → ClassId} {ad adV : Nat → Nat} {z0 : Nat} {t : Nat} {x1 : Int} {x2 : Int} {mm : aM} (ht : okT t) {r : Int} (h : Tongue_mayFollow t x1 x2 mm = some r) : aMet l D cA ad adV z0 mX8_mayFollow 0 0 0 0 [.inr (.inr (.inl (some t))), .inl x1, .inl x2] SH mm ((rI mm) r).1 SH ((rI mm) r).2 := by
  refine aMet_ofG (by decide +kernel) rfl (Nat.le_of_ble_eq_true rfl) h (fun p e s m args below meth c al0 K => ?_)
  unfold Tongue_mayFollow
  refine gl (i' := 1) (fun _ _ => aw_iload_n K (dOf ck_mX8_mayFollow rfl rfl) rfl) ?_
  refine gl (i' := 2) (fun _ _ => aw_iconst K (n := 4) (i32 _ rfl) (dOf ck_mX8_mayFollow rfl rfl)) ?_
  refine g_icmp_eq K (dOf ck_mX8_mayFollow rfl rfl) (t := 15) (aJ_of (by decide +kernel)) (fun h1 => ?_) (fun h1 => ?_)
  · refine g_sub [] rfl ?_
    exact lk_Tongue_mayFollow_15 K ht
  · refine gl (i' := 4) (fun _ _ => aw_aload_n K (dOf ck_mX8_mayFollow rfl rfl) rfl) ?_
    refine gl (i' := 5) (fun _ _ => aw_getf K (dOf ck_mX8_mayFollow rfl rfl) (shT_0 ht) rfl (Nat.le_of_ble_eq_true rfl) wd_257 (k := 12) rfl) ?_
    refine gl (i' := 6) (fun _ _ => aw_iload_n K (dOf ck_mX8_mayFollow rfl rfl) rfl) ?_
    refine g_gd (fun hb2 => ?_)
    refine gl (i' := 7) (fun _ _ => aw_iald K (dOf ck_mX8_mayFollow rfl rfl) (shT_19 ht) hb2) ?_
    refine gl (i' := 8) (fun _ _ => aw_aload_n K (dOf ck_mX8_mayFollow rfl rfl) rfl) ?_
    refine gl (i' := 9) (fun _ _ => aw_getf K (dOf ck_mX8_mayFollow rfl rfl) (shT_0 ht) rfl (Nat.le_of_ble_eq_true rfl) wd_250 (k := 11) rfl) ?_
    refine gl (i' := 10) (fun _ _ => aw_iload_n K (dOf ck_mX8_mayFollow rfl rfl) rfl) ?_
    refine g_gd (fun hb3 => ?_)
    refine gl (i' := 11) (fun _ _ => aw_iald K (dOf ck_mX8_mayFollow rfl rfl) (shT_18 ht) hb3) ?_
    refine gl (i' := 12) (fun _ _ => aw_ishr K (dOf ck_mX8_mayFollow rfl rfl)) ?_
    refine gl (i' := 13) (fun _ _ => aw_iconst K (n := 1) (i32 _ rfl) (dOf ck_mX8_mayFollow rfl rfl)) ?_
    refine gl (i' := 14) (fun _ _ => aw_iand K (dOf ck_mX8_mayFollow rfl rfl)) ?_
    refine g_if_eq K (dOf ck_mX8_mayFollow rfl rfl) (t := 17) (aJ_of (by decide +kernel)) (fun h4 => ?_) (fun h4 => ?_)
    · refine gl (i' := 18) (fun _ _ => aw_iconst K (n := 0) (i32 _ rfl) (dOf ck_mX8_mayFollow rfl rfl)) ?_
      exact g_iret K (by decide +kernel) rfl (Or.inr (Or.inl ⟨rfl, Or.inl rfl⟩)) rfl
    · refine g_sub [] rfl ?_
      exact lk_Tongue_mayFollow_15 K ht

def Tongue_mayEnd (t : Nat) (x1 : Int) (mm : aM) : Option Int := if x1 = 4 then (some 0) else (if (iand (ishr (mm t 5) x1) 1) = 0 then (some 0) else (some 1))
set_option maxHeartbeats 4000000 in
theorem met_Tongue_mayEnd {l : Launch} {D : va_G} {cA : FieldType → ClassId} {ad adV : Nat → Nat} {z0 : Nat} {t : Nat} {x1 : Int} {mm : aM} (ht : okT t) {r : Int} (h : Tongue_mayEnd t x1 mm = some r) : aMet l D cA ad adV z0 mX8_mayEnd 0 0 0 0 [.inr (.inr (.inl (some t))), .inl x1] SH mm ((rI mm) r).1 SH ((rI mm) r).2 := by
  refine aMet_ofG (by decide +kernel) rfl (Nat.le_of_ble_eq_true rfl) h (fun p e s m args below meth c al0 K => ?_)
  unfold Tongue_mayEnd
  refine gl (i' := 1) (fun _ _ => aw_iload_n K (dOf ck_mX8_mayEnd rfl rfl) rfl) ?_
  refine gl (i' := 2) (fun _ _ => aw_iconst K (n := 4) (i32 _ rfl) (dOf ck_mX8_mayEnd rfl rfl)) ?_
  refine g_icmp_eq K (dOf ck_mX8_mayEnd rfl rfl) (t := 12) (aJ_of (by decide +kernel)) (fun h1 => ?_) (fun h1 => ?_)
  · refine gl (i' := 13) (fun _ _ => aw_iconst K (n := 0) (i32 _ rfl) (dOf ck_mX8_mayEnd rfl rfl)) ?_
    exact g_iret K (by decide +kernel) rfl (Or.inr (Or.inl ⟨rfl, Or.inl rfl⟩)) rfl
  · refine gl (i' := 4) (fun _ _ => aw_aload_n K (dOf ck_mX8_mayEnd rfl rfl) rfl) ?_
    refine gl (i' := 5) (fun _ _ => aw_getf K (dOf ck_mX8_mayEnd rfl rfl) (shT_0 ht) rfl (Nat.le_of_ble_eq_true rfl) wd_213 (k := 5) rfl) ?_
    refine gl (i' := 6) (fun _ _ => aw_iload_n K (dOf ck_mX8_mayEnd rfl rfl) rfl) ?_
    refine gl (i' := 7) (fun _ _ => aw_ishr K (dOf ck_mX8_mayEnd rfl rfl)) ?_
    refine gl (i' := 8) (fun _ _ => aw_iconst K (n := 1) (i32 _ rfl) (dOf ck_mX8_mayEnd rfl rfl)) ?_
    refine gl (i' := 9) (fun _ _ => aw_iand K (dOf ck_mX8_mayEnd rfl rfl)) ?_
    refine g_if_eq K (dOf ck_mX8_mayEnd rfl rfl) (t := 12) (aJ_of (by decide +kernel)) (fun h2 => ?_) (fun h2 => ?_)
    · refine gl (i' := 13) (fun _ _ => aw_iconst K (n := 0) (i32 _ rfl) (dOf ck_mX8_mayEnd rfl rfl)) ?_
      exact g_iret K (by decide +kernel) rfl (Or.inr (Or.inl ⟨rfl, Or.inl rfl⟩)) rfl
    · refine gl (i' := 11) (fun _ _ => aw_iconst K (n := 1) (i32 _ rfl) (dOf ck_mX8_mayEnd rfl rfl)) ?_
      refine g_goto K (dOf ck_mX8_mayEnd rfl rfl).1 (t := 13) (aJ_of (by decide +kernel)) ?_
      exact g_iret K (by decide +kernel) rfl (Or.inr (Or.inl ⟨rfl, Or.inr rfl⟩)) rfl

def Sounds_become (t : Nat) (x1 : Nat) (mm : aM) : Option aM := st1 (aupr mm (t + 1) (aCpy (mm (x1 + 1)) (mm (t + 1)) 0 0 40)) fun mm1 => (st1 (aup mm1 t 1 (mm1 x1 1)) fun mm2 => (some mm2))
set_option maxHeartbeats 4000000 in
theorem met_Sounds_become {l : Launch} {D : va_G} {cA : FieldType → ClassId} {ad adV : Nat → Nat} {z0 : Nat} {t : Nat} {x1 : Nat} {mm : aM} (ht : okS t) (hx1 : okS x1) {r : aM} (h : Sounds_become t x1 mm = some r) : aMet l D cA ad adV z0 mX6_become 1 26 0 0 [.inr (.inr (.inl (some t))), .inr (.inr (.inl (some x1)))] SH mm (rM r).1 SH (rM r).2 := by
  refine aMet_ofG (by decide +kernel) rfl (Nat.le_of_ble_eq_true rfl) h (fun p e s m args below meth c al0 K => ?_)
  unfold Sounds_become
  refine gl (i' := 1) (fun _ _ => aw_aload_n K (dOf ck_mX6_become rfl rfl) rfl) ?_
  refine gl (i' := 2) (fun _ _ => aw_getf K (dOf ck_mX6_become rfl rfl) (shS_0 hx1) rfl (Nat.le_of_ble_eq_true rfl) wd_294 (k := 0) rfl) ?_
  refine gl (i' := 3) (fun _ _ => aw_iconst K (n := 0) (i32 _ rfl) (dOf ck_mX6_become rfl rfl)) ?_
  refine gl (i' := 4) (fun _ _ => aw_aload_n K (dOf ck_mX6_become rfl rfl) rfl) ?_
  refine gl (i' := 5) (fun _ _ => aw_getf K (dOf ck_mX6_become rfl rfl) (shS_0 ht) rfl (Nat.le_of_ble_eq_true rfl) wd_294 (k := 0) rfl) ?_
  refine gl (i' := 6) (fun _ _ => aw_iconst K (n := 0) (i32 _ rfl) (dOf ck_mX6_become rfl rfl)) ?_
  refine gl (i' := 7) (fun _ _ => aw_bip K (dOf ck_mX6_become rfl rfl) (v := 40) rfl) ?_
  refine g_st1 ?_
  refine gl (i' := 8) (fun _ _ => aw_copy K (dOf ck_mX6_become rfl rfl) ⟨wd_725, wd_611, wd_610, wd_157⟩ (shS_1 hx1) (shS_1 ht) (by decide) (by decide) (by decide) (by decide) (by decide) (Nat.le_of_ble_eq_true rfl) ⟨Nat.le_of_ble_eq_true rfl, Nat.le_of_ble_eq_true rfl⟩) ?_
  refine gl (i' := 9) (fun _ _ => aw_aload_n K (dOf ck_mX6_become rfl rfl) rfl) ?_
  refine gl (i' := 10) (fun _ _ => aw_aload_n K (dOf ck_mX6_become rfl rfl) rfl) ?_
  refine gl (i' := 11) (fun _ _ => aw_getf K (dOf ck_mX6_become rfl rfl) (shS_0 hx1) rfl (Nat.le_of_ble_eq_true rfl) wd_299 (k := 1) rfl) ?_
  refine g_st1 ?_
  refine gl (i' := 12) (fun _ _ => aw_putf K (dOf ck_mX6_become rfl rfl) (shS_0 ht) rfl (Nat.le_of_ble_eq_true rfl) wd_299 (k := 1) rfl rfl (Or.inl rfl)) ?_
  exact g_vret K (by decide +kernel) rfl rfl

