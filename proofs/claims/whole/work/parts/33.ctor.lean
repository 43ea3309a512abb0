/-! THE CONSTRUCTORS, along their one run -/
theorem fitR {ty : FieldType} (h : ty.isReference = true) : narrow ty (.ref 0) = .ref 0 ∧ (∀ x : Nat, narrow ty (.ref x) = .ref x) ∧ ∀ x : Nat, fits ty (.ref x) = true := by
  cases ty <;> first | exact ⟨rfl, fun _ => rfl, fun _ => rfl⟩ | cases h
theorem pre_app {al a x : List Nat} (h : ∃ bl, a = al ++ bl) : ∃ bl, a ++ x = al ++ bl := by
  obtain ⟨bl, rfl⟩ := h
  exact ⟨bl ++ x, List.append_assoc _ _ _⟩
theorem aw_vretA {p : Program} {l : Launch} {e : Env} {R : Room} {s : State} {m : MethodId} {args : Array Value} {below : List Frame} {meth : Method} {c : Code} {D : va_G} {cA : FieldType → ClassId} {ad adV : Nat → Nat} {z0 : Nat} {M : aMI} {al al' : List Nat} {i : Nat} {lv : List (Nat × aV)} {sh : List aE} {mm : aM} {nc ns mc ms : Nat} (K : aK p s m args meth c M D cA ad adV z0) (hd : decode M.2.1 (aPc M i) = .ok (.return_, 1)) (hr : M.2.2.2.1 = none) (hc : nc ≤ mc) (hs : ns ≤ ms) (ha : ∃ bl, al' = al ++ bl) : AW p l e R s m args below meth c (MQ below (aQc D cA ad z0 al none sh mm) args s mc ms (aA z0)) D cA ad z0 M al' i lv [] sh mm nc ns := by
  obtain ⟨bl, rfl⟩ := ha
  exact aw_vret K hd hr hc hs
theorem zt_0 : ∀ k, k < 10 → defaultValue (clTy 0 k) = if (clTy 0 k).isReference = true then .null else .int 0 := by decide +kernel
theorem zt_1 : ∀ k, k < 10 → defaultValue (clTy 1 k) = if (clTy 1 k).isReference = true then .null else .int 0 := by decide +kernel
theorem zt_2 : ∀ k, k < 2 → defaultValue (clTy 2 k) = if (clTy 2 k).isReference = true then .null else .int 0 := by decide +kernel
theorem zt_3 : ∀ k, k < 16 → defaultValue (clTy 3 k) = if (clTy 3 k).isReference = true then .null else .int 0 := by decide +kernel
theorem zt_4 : ∀ k, k < 5 → defaultValue (clTy 4 k) = if (clTy 4 k).isReference = true then .null else .int 0 := by decide +kernel
theorem zt_5 : ∀ k, k < 3 → defaultValue (clTy 5 k) = if (clTy 5 k).isReference = true then .null else .int 0 := by decide +kernel
theorem zt_6 : ∀ k, k < 2 → defaultValue (clTy 6 k) = if (clTy 6 k).isReference = true then .null else .int 0 := by decide +kernel
theorem zt_7 : ∀ k, k < 9 → defaultValue (clTy 7 k) = if (clTy 7 k).isReference = true then .null else .int 0 := by decide +kernel
theorem zt_8 : ∀ k, k < 15 → defaultValue (clTy 8 k) = if (clTy 8 k).isReference = true then .null else .int 0 := by decide +kernel
theorem zt_9 : ∀ k, k < 20 → defaultValue (clTy 9 k) = if (clTy 9 k).isReference = true then .null else .int 0 := by decide +kernel
theorem zt_10 : ∀ k, k < 6 → defaultValue (clTy 10 k) = if (clTy 10 k).isReference = true then .null else .int 0 := by decide +kernel
theorem zt_11 : ∀ k, k < 15 → defaultValue (clTy 11 k) = if (clTy 11 k).isReference = true then .null else .int 0 := by decide +kernel
theorem zt_12 : ∀ k, k < 55 → defaultValue (clTy 12 k) = if (clTy 12 k).isReference = true then .null else .int 0 := by decide +kernel
def mg_start : aM := fun _ _ => 0
def sg_0 : List aE := [.inr (.inr (.inr (11, [some none, some none, some none, some none, some none, some none, some none, some none, some none, some none, some none, some none, some none, some none, some none])))]
def mg_0 : aM := (aNew mg_start 0)
def sg_1 : List aE := [.inr (.inr (.inr (11, [some none, some none, some none, some none, some none, some none, some none, some none, some none, some none, some none, some none, some none, some none, some none]))), .inr (.inr (.inr (7, [some none, none, none, some none, none, none, none, none, none])))]
def mg_1 : aM := (aNew mg_0 1)
def sg_2 : List aE := [.inr (.inr (.inr (11, [some none, some none, some none, some none, some none, some none, some none, some none, some none, some none, some none, some none, some none, some none, some none]))), .inr (.inr (.inr (7, [some (some 2), none, none, some none, none, none, none, none, none]))), .inl (.byte, 500), .inr (.inr (.inr (8, [none, none, none, none, none, none, some none, some none, some none, some none, some none, some none, some none, some none, some none])))]
def mg_2 : aM := (aNew (aNew mg_1 2) 3)
def sg_3 : List aE := [.inr (.inr (.inr (11, [some none, some none, some none, some none, some none, some none, some none, some none, some none, some none, some none, some none, some none, some none, some none]))), .inr (.inr (.inr (7, [some (some 2), none, none, some none, none, none, none, none, none]))), .inl (.byte, 500), .inr (.inr (.inr (8, [none, none, none, none, none, none, some (some 4), some (some 5), some (some 6), some (some 19), some (some 20), some (some 21), some (some 22), some (some 23), some (some 24)]))), .inl (.byte, 8), .inl (.int, 8), .inr (.inr (.inl (.array .byte, [some 7, some 8, some 9, some 10, some 11, some 12, some 13, some 14, some 15, some 16, some 17, some 18]))), .inl (.byte, 6), .inl (.byte, 6), .inl (.byte, 6), .inl (.byte, 6), .inl (.byte, 6), .inl (.byte, 6), .inl (.byte, 6), .inl (.byte, 6), .inl (.byte, 6), .inl (.byte, 6), .inl (.byte, 6), .inl (.byte, 6), .inl (.int, 12), .inl (.int, 12), .inl (.int, 12), .inl (.int, 4), .inl (.int, 6), .inl (.int, 6)]
def mg_3 : aM := (aNew (aNew (aNew (aNew (aNew (aNew (aNewR (aNew (aNew mg_2 4) 5) 6 13) 19) 20) 21) 22) 23) 24)
def mg_4 : aM := (aup (aup (aup (aup (aup (aup mg_3 3 0 0) 3 1 0) 3 2 0) 3 3 0) 3 4 0) 3 5 15)
def mg_5 : aM := (aup (aup (aup (aup (aup (aup (aup (aup mg_4 5 0 0) 5 1 0) 5 2 0) 5 3 0) 5 4 0) 5 5 0) 5 6 0) 5 7 0)
set_option maxHeartbeats 8000000 in
set_option maxRecDepth 20000 in
/-- java/util/Arrays.fill -/
theorem ct_0 {l : Launch} {D : va_G} {cA : FieldType → ClassId} {ad adV : Nat → Nat} {z0 : Nat} : aMet l D cA ad adV z0 mJ7_fill_53178 0 0 0 0 [.inr (.inr (.inl (some 5))), .inl 0] sg_3 mg_4 none sg_3 mg_5 := by
  refine aMet_of (by decide +kernel) rfl (Nat.le_of_ble_eq_true rfl) (fun p e s m args below meth c al K => ?_)
  refine aw_iconst (i := 0) K (n := 0) (i32 _ rfl) (dOf ck_mJ7_fill_53178 rfl rfl) ?_
  refine aw_istore_n (i := 1) K (dOf ck_mJ7_fill_53178 rfl rfl) (Nat.le_of_ble_eq_true rfl) ?_
  refine aw_lvn (lv' := [(2, .inl 0), (0, .inr (.inr (.inl (some 5)))), (1, .inl 0)]) rfl ?_
  refine aw_aload_n (i := 2) K (dOf ck_mJ7_fill_53178 rfl rfl) rfl ?_
  refine aw_alen (i := 3) (n := 8) K (dOf ck_mJ7_fill_53178 rfl rfl) rfl rfl (by decide) ?_
  refine aw_istore_n (i := 4) K (dOf ck_mJ7_fill_53178 rfl rfl) (Nat.le_of_ble_eq_true rfl) ?_
  refine aw_lvn (lv' := [(3, .inl 8), (2, .inl 0), (0, .inr (.inr (.inl (some 5)))), (1, .inl 0)]) rfl ?_
  refine aw_iload_n (i := 5) K (dOf ck_mJ7_fill_53178 rfl rfl) rfl ?_
  refine aw_iload_n (i := 6) K (dOf ck_mJ7_fill_53178 rfl rfl) rfl ?_
  refine aw_icmp_ge (i := 7) K (dOf ck_mJ7_fill_53178 rfl rfl) (t := 14) (aJ_of (by decide +kernel)) (fun z => absurd z (by decide)) (fun _ => ?_)
  refine aw_aload_n (i := 8) K (dOf ck_mJ7_fill_53178 rfl rfl) rfl ?_
  refine aw_iload_n (i := 9) K (dOf ck_mJ7_fill_53178 rfl rfl) rfl ?_
  refine aw_iload_n (i := 10) K (dOf ck_mJ7_fill_53178 rfl rfl) rfl ?_
  refine aw_iast (i := 11) K (dOf ck_mJ7_fill_53178 rfl rfl) rfl (by decide) ?_
  refine aw_iinc (i := 12) K (dOf ck_mJ7_fill_53178 rfl rfl) (Nat.le_of_ble_eq_true rfl) rfl ?_
  refine aw_lvn (lv' := [(2, .inl 1), (3, .inl 8), (0, .inr (.inr (.inl (some 5)))), (1, .inl 0)]) rfl ?_
  refine aw_goto (i := 13) K (dOf ck_mJ7_fill_53178 rfl rfl).1 (t := 5) (aJ_of (by decide +kernel)) ?_
  refine aw_iload_n (i := 5) K (dOf ck_mJ7_fill_53178 rfl rfl) rfl ?_
  refine aw_iload_n (i := 6) K (dOf ck_mJ7_fill_53178 rfl rfl) rfl ?_
  refine aw_icmp_ge (i := 7) K (dOf ck_mJ7_fill_53178 rfl rfl) (t := 14) (aJ_of (by decide +kernel)) (fun z => absurd z (by decide)) (fun _ => ?_)
  refine aw_aload_n (i := 8) K (dOf ck_mJ7_fill_53178 rfl rfl) rfl ?_
  refine aw_iload_n (i := 9) K (dOf ck_mJ7_fill_53178 rfl rfl) rfl ?_
  refine aw_iload_n (i := 10) K (dOf ck_mJ7_fill_53178 rfl rfl) rfl ?_
  refine aw_iast (i := 11) K (dOf ck_mJ7_fill_53178 rfl rfl) rfl (by decide) ?_
  refine aw_iinc (i := 12) K (dOf ck_mJ7_fill_53178 rfl rfl) (Nat.le_of_ble_eq_true rfl) rfl ?_
  refine aw_lvn (lv' := [(2, .inl 2), (3, .inl 8), (0, .inr (.inr (.inl (some 5)))), (1, .inl 0)]) rfl ?_
  refine aw_goto (i := 13) K (dOf ck_mJ7_fill_53178 rfl rfl).1 (t := 5) (aJ_of (by decide +kernel)) ?_
  refine aw_iload_n (i := 5) K (dOf ck_mJ7_fill_53178 rfl rfl) rfl ?_
  refine aw_iload_n (i := 6) K (dOf ck_mJ7_fill_53178 rfl rfl) rfl ?_
  refine aw_icmp_ge (i := 7) K (dOf ck_mJ7_fill_53178 rfl rfl) (t := 14) (aJ_of (by decide +kernel)) (fun z => absurd z (by decide)) (fun _ => ?_)
  refine aw_aload_n (i := 8) K (dOf ck_mJ7_fill_53178 rfl rfl) rfl ?_
  refine aw_iload_n (i := 9) K (dOf ck_mJ7_fill_53178 rfl rfl) rfl ?_
  refine aw_iload_n (i := 10) K (dOf ck_mJ7_fill_53178 rfl rfl) rfl ?_
  refine aw_iast (i := 11) K (dOf ck_mJ7_fill_53178 rfl rfl) rfl (by decide) ?_
  refine aw_iinc (i := 12) K (dOf ck_mJ7_fill_53178 rfl rfl) (Nat.le_of_ble_eq_true rfl) rfl ?_
  refine aw_lvn (lv' := [(2, .inl 3), (3, .inl 8), (0, .inr (.inr (.inl (some 5)))), (1, .inl 0)]) rfl ?_
  refine aw_goto (i := 13) K (dOf ck_mJ7_fill_53178 rfl rfl).1 (t := 5) (aJ_of (by decide +kernel)) ?_
  refine aw_iload_n (i := 5) K (dOf ck_mJ7_fill_53178 rfl rfl) rfl ?_
  refine aw_iload_n (i := 6) K (dOf ck_mJ7_fill_53178 rfl rfl) rfl ?_
  refine aw_icmp_ge (i := 7) K (dOf ck_mJ7_fill_53178 rfl rfl) (t := 14) (aJ_of (by decide +kernel)) (fun z => absurd z (by decide)) (fun _ => ?_)
  refine aw_aload_n (i := 8) K (dOf ck_mJ7_fill_53178 rfl rfl) rfl ?_
  refine aw_iload_n (i := 9) K (dOf ck_mJ7_fill_53178 rfl rfl) rfl ?_
  refine aw_iload_n (i := 10) K (dOf ck_mJ7_fill_53178 rfl rfl) rfl ?_
  refine aw_iast (i := 11) K (dOf ck_mJ7_fill_53178 rfl rfl) rfl (by decide) ?_
  refine aw_iinc (i := 12) K (dOf ck_mJ7_fill_53178 rfl rfl) (Nat.le_of_ble_eq_true rfl) rfl ?_
  refine aw_lvn (lv' := [(2, .inl 4), (3, .inl 8), (0, .inr (.inr (.inl (some 5)))), (1, .inl 0)]) rfl ?_
  refine aw_goto (i := 13) K (dOf ck_mJ7_fill_53178 rfl rfl).1 (t := 5) (aJ_of (by decide +kernel)) ?_
  refine aw_iload_n (i := 5) K (dOf ck_mJ7_fill_53178 rfl rfl) rfl ?_
  refine aw_iload_n (i := 6) K (dOf ck_mJ7_fill_53178 rfl rfl) rfl ?_
  refine aw_icmp_ge (i := 7) K (dOf ck_mJ7_fill_53178 rfl rfl) (t := 14) (aJ_of (by decide +kernel)) (fun z => absurd z (by decide)) (fun _ => ?_)
  refine aw_aload_n (i := 8) K (dOf ck_mJ7_fill_53178 rfl rfl) rfl ?_
  refine aw_iload_n (i := 9) K (dOf ck_mJ7_fill_53178 rfl rfl) rfl ?_
  refine aw_iload_n (i := 10) K (dOf ck_mJ7_fill_53178 rfl rfl) rfl ?_
  refine aw_iast (i := 11) K (dOf ck_mJ7_fill_53178 rfl rfl) rfl (by decide) ?_
  refine aw_iinc (i := 12) K (dOf ck_mJ7_fill_53178 rfl rfl) (Nat.le_of_ble_eq_true rfl) rfl ?_
  refine aw_lvn (lv' := [(2, .inl 5), (3, .inl 8), (0, .inr (.inr (.inl (some 5)))), (1, .inl 0)]) rfl ?_
  refine aw_goto (i := 13) K (dOf ck_mJ7_fill_53178 rfl rfl).1 (t := 5) (aJ_of (by decide +kernel)) ?_
  refine aw_iload_n (i := 5) K (dOf ck_mJ7_fill_53178 rfl rfl) rfl ?_
  refine aw_iload_n (i := 6) K (dOf ck_mJ7_fill_53178 rfl rfl) rfl ?_
  refine aw_icmp_ge (i := 7) K (dOf ck_mJ7_fill_53178 rfl rfl) (t := 14) (aJ_of (by decide +kernel)) (fun z => absurd z (by decide)) (fun _ => ?_)
  refine aw_aload_n (i := 8) K (dOf ck_mJ7_fill_53178 rfl rfl) rfl ?_
  refine aw_iload_n (i := 9) K (dOf ck_mJ7_fill_53178 rfl rfl) rfl ?_
  refine aw_iload_n (i := 10) K (dOf ck_mJ7_fill_53178 rfl rfl) rfl ?_
  refine aw_iast (i := 11) K (dOf ck_mJ7_fill_53178 rfl rfl) rfl (by decide) ?_
  refine aw_iinc (i := 12) K (dOf ck_mJ7_fill_53178 rfl rfl) (Nat.le_of_ble_eq_true rfl) rfl ?_
  refine aw_lvn (lv' := [(2, .inl 6), (3, .inl 8), (0, .inr (.inr (.inl (some 5)))), (1, .inl 0)]) rfl ?_
  refine aw_goto (i := 13) K (dOf ck_mJ7_fill_53178 rfl rfl).1 (t := 5) (aJ_of (by decide +kernel)) ?_
  refine aw_iload_n (i := 5) K (dOf ck_mJ7_fill_53178 rfl rfl) rfl ?_
  refine aw_iload_n (i := 6) K (dOf ck_mJ7_fill_53178 rfl rfl) rfl ?_
  refine aw_icmp_ge (i := 7) K (dOf ck_mJ7_fill_53178 rfl rfl) (t := 14) (aJ_of (by decide +kernel)) (fun z => absurd z (by decide)) (fun _ => ?_)
  refine aw_aload_n (i := 8) K (dOf ck_mJ7_fill_53178 rfl rfl) rfl ?_
  refine aw_iload_n (i := 9) K (dOf ck_mJ7_fill_53178 rfl rfl) rfl ?_
  refine aw_iload_n (i := 10) K (dOf ck_mJ7_fill_53178 rfl rfl) rfl ?_
  refine aw_iast (i := 11) K (dOf ck_mJ7_fill_53178 rfl rfl) rfl (by decide) ?_
  refine aw_iinc (i := 12) K (dOf ck_mJ7_fill_53178 rfl rfl) (Nat.le_of_ble_eq_true rfl) rfl ?_
  refine aw_lvn (lv' := [(2, .inl 7), (3, .inl 8), (0, .inr (.inr (.inl (some 5)))), (1, .inl 0)]) rfl ?_
  refine aw_goto (i := 13) K (dOf ck_mJ7_fill_53178 rfl rfl).1 (t := 5) (aJ_of (by decide +kernel)) ?_
  refine aw_iload_n (i := 5) K (dOf ck_mJ7_fill_53178 rfl rfl) rfl ?_
  refine aw_iload_n (i := 6) K (dOf ck_mJ7_fill_53178 rfl rfl) rfl ?_
  refine aw_icmp_ge (i := 7) K (dOf ck_mJ7_fill_53178 rfl rfl) (t := 14) (aJ_of (by decide +kernel)) (fun z => absurd z (by decide)) (fun _ => ?_)
  refine aw_aload_n (i := 8) K (dOf ck_mJ7_fill_53178 rfl rfl) rfl ?_
  refine aw_iload_n (i := 9) K (dOf ck_mJ7_fill_53178 rfl rfl) rfl ?_
  refine aw_iload_n (i := 10) K (dOf ck_mJ7_fill_53178 rfl rfl) rfl ?_
  refine aw_iast (i := 11) K (dOf ck_mJ7_fill_53178 rfl rfl) rfl (by decide) ?_
  refine aw_iinc (i := 12) K (dOf ck_mJ7_fill_53178 rfl rfl) (Nat.le_of_ble_eq_true rfl) rfl ?_
  refine aw_lvn (lv' := [(2, .inl 8), (3, .inl 8), (0, .inr (.inr (.inl (some 5)))), (1, .inl 0)]) rfl ?_
  refine aw_goto (i := 13) K (dOf ck_mJ7_fill_53178 rfl rfl).1 (t := 5) (aJ_of (by decide +kernel)) ?_
  refine aw_iload_n (i := 5) K (dOf ck_mJ7_fill_53178 rfl rfl) rfl ?_
  refine aw_iload_n (i := 6) K (dOf ck_mJ7_fill_53178 rfl rfl) rfl ?_
  refine aw_icmp_ge (i := 7) K (dOf ck_mJ7_fill_53178 rfl rfl) (t := 14) (aJ_of (by decide +kernel)) (fun _ => ?_) (fun z => absurd (by decide) z)
  refine aw_nm (sh' := sg_3) (mm' := mg_5) rfl rfl ?_
  exact aw_vretA K (by decide +kernel) rfl (Nat.le_of_ble_eq_true rfl) (Nat.le_of_ble_eq_true rfl) ⟨[], (List.append_nil _).symm⟩
def mg_6 : aM := (aup (aup (aup (aup mg_5 22 0 15) 22 1 15) 22 2 15) 22 3 15)
set_option maxHeartbeats 8000000 in
set_option maxRecDepth 20000 in
/-- java/util/Arrays.fill -/
theorem ct_1 {l : Launch} {D : va_G} {cA : FieldType → ClassId} {ad adV : Nat → Nat} {z0 : Nat} : aMet l D cA ad adV z0 mJ7_fill_53178 0 0 0 0 [.inr (.inr (.inl (some 22))), .inl 15] sg_3 mg_5 none sg_3 mg_6 := by
  refine aMet_of (by decide +kernel) rfl (Nat.le_of_ble_eq_true rfl) (fun p e s m args below meth c al K => ?_)
  refine aw_iconst (i := 0) K (n := 0) (i32 _ rfl) (dOf ck_mJ7_fill_53178 rfl rfl) ?_
  refine aw_istore_n (i := 1) K (dOf ck_mJ7_fill_53178 rfl rfl) (Nat.le_of_ble_eq_true rfl) ?_
  refine aw_lvn (lv' := [(2, .inl 0), (0, .inr (.inr (.inl (some 22)))), (1, .inl 15)]) rfl ?_
  refine aw_aload_n (i := 2) K (dOf ck_mJ7_fill_53178 rfl rfl) rfl ?_
  refine aw_alen (i := 3) (n := 4) K (dOf ck_mJ7_fill_53178 rfl rfl) rfl rfl (by decide) ?_
  refine aw_istore_n (i := 4) K (dOf ck_mJ7_fill_53178 rfl rfl) (Nat.le_of_ble_eq_true rfl) ?_
  refine aw_lvn (lv' := [(3, .inl 4), (2, .inl 0), (0, .inr (.inr (.inl (some 22)))), (1, .inl 15)]) rfl ?_
  refine aw_iload_n (i := 5) K (dOf ck_mJ7_fill_53178 rfl rfl) rfl ?_
  refine aw_iload_n (i := 6) K (dOf ck_mJ7_fill_53178 rfl rfl) rfl ?_
  refine aw_icmp_ge (i := 7) K (dOf ck_mJ7_fill_53178 rfl rfl) (t := 14) (aJ_of (by decide +kernel)) (fun z => absurd z (by decide)) (fun _ => ?_)
  refine aw_aload_n (i := 8) K (dOf ck_mJ7_fill_53178 rfl rfl) rfl ?_
  refine aw_iload_n (i := 9) K (dOf ck_mJ7_fill_53178 rfl rfl) rfl ?_
  refine aw_iload_n (i := 10) K (dOf ck_mJ7_fill_53178 rfl rfl) rfl ?_
  refine aw_iast (i := 11) K (dOf ck_mJ7_fill_53178 rfl rfl) rfl (by decide) ?_
  refine aw_iinc (i := 12) K (dOf ck_mJ7_fill_53178 rfl rfl) (Nat.le_of_ble_eq_true rfl) rfl ?_
  refine aw_lvn (lv' := [(2, .inl 1), (3, .inl 4), (0, .inr (.inr (.inl (some 22)))), (1, .inl 15)]) rfl ?_
  refine aw_goto (i := 13) K (dOf ck_mJ7_fill_53178 rfl rfl).1 (t := 5) (aJ_of (by decide +kernel)) ?_
  refine aw_iload_n (i := 5) K (dOf ck_mJ7_fill_53178 rfl rfl) rfl ?_
  refine aw_iload_n (i := 6) K (dOf ck_mJ7_fill_53178 rfl rfl) rfl ?_
  refine aw_icmp_ge (i := 7) K (dOf ck_mJ7_fill_53178 rfl rfl) (t := 14) (aJ_of (by decide +kernel)) (fun z => absurd z (by decide)) (fun _ => ?_)
  refine aw_aload_n (i := 8) K (dOf ck_mJ7_fill_53178 rfl rfl) rfl ?_
  refine aw_iload_n (i := 9) K (dOf ck_mJ7_fill_53178 rfl rfl) rfl ?_
  refine aw_iload_n (i := 10) K (dOf ck_mJ7_fill_53178 rfl rfl) rfl ?_
  refine aw_iast (i := 11) K (dOf ck_mJ7_fill_53178 rfl rfl) rfl (by decide) ?_
  refine aw_iinc (i := 12) K (dOf ck_mJ7_fill_53178 rfl rfl) (Nat.le_of_ble_eq_true rfl) rfl ?_
  refine aw_lvn (lv' := [(2, .inl 2), (3, .inl 4), (0, .inr (.inr (.inl (some 22)))), (1, .inl 15)]) rfl ?_
  refine aw_goto (i := 13) K (dOf ck_mJ7_fill_53178 rfl rfl).1 (t := 5) (aJ_of (by decide +kernel)) ?_
  refine aw_iload_n (i := 5) K (dOf ck_mJ7_fill_53178 rfl rfl) rfl ?_
  refine aw_iload_n (i := 6) K (dOf ck_mJ7_fill_53178 rfl rfl) rfl ?_
  refine aw_icmp_ge (i := 7) K (dOf ck_mJ7_fill_53178 rfl rfl) (t := 14) (aJ_of (by decide +kernel)) (fun z => absurd z (by decide)) (fun _ => ?_)
  refine aw_aload_n (i := 8) K (dOf ck_mJ7_fill_53178 rfl rfl) rfl ?_
  refine aw_iload_n (i := 9) K (dOf ck_mJ7_fill_53178 rfl rfl) rfl ?_
  refine aw_iload_n (i := 10) K (dOf ck_mJ7_fill_53178 rfl rfl) rfl ?_
  refine aw_iast (i := 11) K (dOf ck_mJ7_fill_53178 rfl rfl) rfl (by decide) ?_
  refine aw_iinc (i := 12) K (dOf ck_mJ7_fill_53178 rfl rfl) (Nat.le_of_ble_eq_true rfl) rfl ?_
  refine aw_lvn (lv' := [(2, .inl 3), (3, .inl 4), (0, .inr (.inr (.inl (some 22)))), (1, .inl 15)]) rfl ?_
  refine aw_goto (i := 13) K (dOf ck_mJ7_fill_53178 rfl rfl).1 (t := 5) (aJ_of (by decide +kernel)) ?_
  refine aw_iload_n (i := 5) K (dOf ck_mJ7_fill_53178 rfl rfl) rfl ?_
  refine aw_iload_n (i := 6) K (dOf ck_mJ7_fill_53178 rfl rfl) rfl ?_
  refine aw_icmp_ge (i := 7) K (dOf ck_mJ7_fill_53178 rfl rfl) (t := 14) (aJ_of (by decide +kernel)) (fun z => absurd z (by decide)) (fun _ => ?_)
  refine aw_aload_n (i := 8) K (dOf ck_mJ7_fill_53178 rfl rfl) rfl ?_
  refine aw_iload_n (i := 9) K (dOf ck_mJ7_fill_53178 rfl rfl) rfl ?_
  refine aw_iload_n (i := 10) K (dOf ck_mJ7_fill_53178 rfl rfl) rfl ?_
  refine aw_iast (i := 11) K (dOf ck_mJ7_fill_53178 rfl rfl) rfl (by decide) ?_
  refine aw_iinc (i := 12) K (dOf ck_mJ7_fill_53178 rfl rfl) (Nat.le_of_ble_eq_true rfl) rfl ?_
  refine aw_lvn (lv' := [(2, .inl 4), (3, .inl 4), (0, .inr (.inr (.inl (some 22)))), (1, .inl 15)]) rfl ?_
  refine aw_goto (i := 13) K (dOf ck_mJ7_fill_53178 rfl rfl).1 (t := 5) (aJ_of (by decide +kernel)) ?_
  refine aw_iload_n (i := 5) K (dOf ck_mJ7_fill_53178 rfl rfl) rfl ?_
  refine aw_iload_n (i := 6) K (dOf ck_mJ7_fill_53178 rfl rfl) rfl ?_
  refine aw_icmp_ge (i := 7) K (dOf ck_mJ7_fill_53178 rfl rfl) (t := 14) (aJ_of (by decide +kernel)) (fun _ => ?_) (fun z => absurd (by decide) z)
  refine aw_nm (sh' := sg_3) (mm' := mg_6) rfl rfl ?_
  exact aw_vretA K (by decide +kernel) rfl (Nat.le_of_ble_eq_true rfl) (Nat.le_of_ble_eq_true rfl) ⟨[], (List.append_nil _).symm⟩
set_option maxHeartbeats 8000000 in
set_option maxRecDepth 20000 in
/-- Tongue.empty -/
theorem ct_2 {l : Launch} {D : va_G} {cA : FieldType → ClassId} {ad adV : Nat → Nat} {z0 : Nat} : aMet l D cA ad adV z0 mX8_empty 1 23 0 0 [.inr (.inr (.inl (some 3)))] sg_3 mg_3 none sg_3 mg_6 := by
  refine aMet_of (by decide +kernel) rfl (Nat.le_of_ble_eq_true rfl) (fun p e s m args below meth c al K => ?_)
  refine aw_aload_n (i := 0) K (dOf ck_mX8_empty rfl rfl) rfl ?_
  refine aw_iconst (i := 1) K (n := 0) (i32 _ rfl) (dOf ck_mX8_empty rfl rfl) ?_
  refine aw_putf (i := 2) (k := 0) K (dOf ck_mX8_empty rfl rfl) rfl rfl (Nat.le_of_ble_eq_true rfl) wd_188 rfl rfl (Or.inl rfl) ?_
  refine aw_aload_n (i := 3) K (dOf ck_mX8_empty rfl rfl) rfl ?_
  refine aw_iconst (i := 4) K (n := 0) (i32 _ rfl) (dOf ck_mX8_empty rfl rfl) ?_
  refine aw_putf (i := 5) (k := 1) K (dOf ck_mX8_empty rfl rfl) rfl rfl (Nat.le_of_ble_eq_true rfl) wd_191 rfl rfl (Or.inl rfl) ?_
  refine aw_aload_n (i := 6) K (dOf ck_mX8_empty rfl rfl) rfl ?_
  refine aw_iconst (i := 7) K (n := 0) (i32 _ rfl) (dOf ck_mX8_empty rfl rfl) ?_
  refine aw_putf (i := 8) (k := 2) K (dOf ck_mX8_empty rfl rfl) rfl rfl (Nat.le_of_ble_eq_true rfl) wd_198 rfl rfl (Or.inl rfl) ?_
  refine aw_aload_n (i := 9) K (dOf ck_mX8_empty rfl rfl) rfl ?_
  refine aw_iconst (i := 10) K (n := 0) (i32 _ rfl) (dOf ck_mX8_empty rfl rfl) ?_
  refine aw_putf (i := 11) (k := 3) K (dOf ck_mX8_empty rfl rfl) rfl rfl (Nat.le_of_ble_eq_true rfl) wd_203 rfl rfl (Or.inl rfl) ?_
  refine aw_aload_n (i := 12) K (dOf ck_mX8_empty rfl rfl) rfl ?_
  refine aw_iconst (i := 13) K (n := 0) (i32 _ rfl) (dOf ck_mX8_empty rfl rfl) ?_
  refine aw_putf (i := 14) (k := 4) K (dOf ck_mX8_empty rfl rfl) rfl rfl (Nat.le_of_ble_eq_true rfl) wd_207 rfl rfl (Or.inl rfl) ?_
  refine aw_aload_n (i := 15) K (dOf ck_mX8_empty rfl rfl) rfl ?_
  refine aw_bip (i := 16) K (dOf ck_mX8_empty rfl rfl) (v := 15) rfl ?_
  refine aw_putf (i := 17) (k := 5) K (dOf ck_mX8_empty rfl rfl) rfl rfl (Nat.le_of_ble_eq_true rfl) wd_213 rfl rfl (Or.inl rfl) ?_
  refine aw_aload_n (i := 18) K (dOf ck_mX8_empty rfl rfl) rfl ?_
  refine aw_getf (i := 19) (k := 7) K (dOf ck_mX8_empty rfl rfl) rfl rfl (Nat.le_of_ble_eq_true rfl) wd_219 rfl ?_
  refine aw_iconst (i := 20) K (n := 0) (i32 _ rfl) (dOf ck_mX8_empty rfl rfl) ?_
  refine aw_nm (sh' := sg_3) (mm' := mg_4) rfl rfl ?_
  refine aw_callS (i := 21) (as := [.inr (.inr (.inl (some 5))), .inl 0]) K (dOf ck_mX8_empty rfl rfl) al_OneBreath_Tongue_64 wd_186 rfl (Nat.le_of_ble_eq_true rfl) ⟨Nat.le_of_ble_eq_true rfl, Nat.le_of_ble_eq_true rfl⟩ ⟨Nat.le_of_ble_eq_true rfl, Nat.le_of_ble_eq_true rfl⟩ (Nat.le_of_ble_eq_true rfl) ct_0 (fun bl1 => ?_)
  refine aw_aload_n (i := 22) K (dOf ck_mX8_empty rfl rfl) rfl ?_
  refine aw_getf (i := 23) (k := 12) K (dOf ck_mX8_empty rfl rfl) rfl rfl (Nat.le_of_ble_eq_true rfl) wd_257 rfl ?_
  refine aw_bip (i := 24) K (dOf ck_mX8_empty rfl rfl) (v := 15) rfl ?_
  refine aw_nm (sh' := sg_3) (mm' := mg_5) rfl rfl ?_
  refine aw_callS (i := 25) (as := [.inr (.inr (.inl (some 22))), .inl 15]) K (dOf ck_mX8_empty rfl rfl) al_OneBreath_Tongue_64 wd_186 rfl (Nat.le_of_ble_eq_true rfl) ⟨Nat.le_of_ble_eq_true rfl, Nat.le_of_ble_eq_true rfl⟩ ⟨Nat.le_of_ble_eq_true rfl, Nat.le_of_ble_eq_true rfl⟩ (Nat.le_of_ble_eq_true rfl) ct_1 (fun bl2 => ?_)
  refine aw_nm (sh' := sg_3) (mm' := mg_6) rfl rfl ?_
  exact aw_vretA K (by decide +kernel) rfl (Nat.le_of_ble_eq_true rfl) (Nat.le_of_ble_eq_true rfl) (pre_app (pre_app ⟨[], (List.append_nil _).symm⟩))
set_option maxHeartbeats 8000000 in
set_option maxRecDepth 20000 in
/-- Tongue.<init> -/
theorem ct_3 {l : Launch} {D : va_G} {cA : FieldType → ClassId} {ad adV : Nat → Nat} {z0 : Nat} : aMet l D cA ad adV z0 mX8_init 2 43 21 152 [.inr (.inr (.inl (some 3)))] sg_2 mg_2 none sg_3 mg_6 := by
  refine aMet_of (by decide +kernel) rfl (Nat.le_of_ble_eq_true rfl) (fun p e s m args below meth c al K => ?_)
  refine aw_aload_n (i := 0) K (dOf ck_mX8_init rfl rfl) rfl ?_
  refine aw_objInit (i := 1) K (dOf ck_mX8_init rfl rfl) ⟨wd_179, wd_167, wd_168⟩ (Nat.le_of_ble_eq_true rfl) ⟨Nat.le_of_ble_eq_true rfl, Nat.le_of_ble_eq_true rfl⟩ ?_
  refine aw_aload_n (i := 2) K (dOf ck_mX8_init rfl rfl) rfl ?_
  refine aw_bip (i := 3) K (dOf ck_mX8_init rfl rfl) (v := 8) rfl ?_
  refine aw_newaN (i := 4) (n := 8) (ty := .byte) K (dOf ck_mX8_init rfl rfl) rfl (by decide) wd_272 (Nat.le_of_ble_eq_true rfl) (Nat.le_of_ble_eq_true rfl) (Nat.le_of_ble_eq_true rfl) 4 rfl (fun q4 => ?_)
  refine aw_putr (i := 5) (k := 6) K (dOf ck_mX8_init rfl rfl) rfl rfl (Nat.le_of_ble_eq_true rfl) wd_216 rfl rfl rfl rfl (fitR (by decide +kernel)) ?_
  refine aw_aload_n (i := 6) K (dOf ck_mX8_init rfl rfl) rfl ?_
  refine aw_bip (i := 7) K (dOf ck_mX8_init rfl rfl) (v := 8) rfl ?_
  refine aw_newaN (i := 8) (n := 8) (ty := .int) K (dOf ck_mX8_init rfl rfl) rfl (by decide) wd_273 (Nat.le_of_ble_eq_true rfl) (Nat.le_of_ble_eq_true rfl) (Nat.le_of_ble_eq_true rfl) 5 rfl (fun q5 => ?_)
  refine aw_putr (i := 9) (k := 7) K (dOf ck_mX8_init rfl rfl) rfl rfl (Nat.le_of_ble_eq_true rfl) wd_219 rfl rfl rfl rfl (fitR (by decide +kernel)) ?_
  refine aw_aload_n (i := 10) K (dOf ck_mX8_init rfl rfl) rfl ?_
  refine aw_bip (i := 11) K (dOf ck_mX8_init rfl rfl) (v := 12) rfl ?_
  refine aw_bip (i := 12) K (dOf ck_mX8_init rfl rfl) (v := 6) rfl ?_
  refine aw_mnaN (i := 13) (n := 12) (k := 6) (ty := .byte) K (dOf ck_mX8_init rfl rfl) wd_180 (Or.inl ⟨rfl, rfl⟩) wd_272 (Nat.le_of_ble_eq_true rfl) (Nat.le_of_ble_eq_true rfl) (Nat.le_of_ble_eq_true rfl) (Nat.le_of_ble_eq_true rfl) 6 rfl (fun bl6 => ?_)
  refine aw_putr (i := 14) (k := 8) K (dOf ck_mX8_init rfl rfl) rfl rfl (Nat.le_of_ble_eq_true rfl) wd_226 rfl rfl rfl rfl (fitR (by decide +kernel)) ?_
  refine aw_aload_n (i := 15) K (dOf ck_mX8_init rfl rfl) rfl ?_
  refine aw_bip (i := 16) K (dOf ck_mX8_init rfl rfl) (v := 12) rfl ?_
  refine aw_newaN (i := 17) (n := 12) (ty := .int) K (dOf ck_mX8_init rfl rfl) rfl (by decide) wd_273 (Nat.le_of_ble_eq_true rfl) (Nat.le_of_ble_eq_true rfl) (Nat.le_of_ble_eq_true rfl) 19 rfl (fun q19 => ?_)
  refine aw_putr (i := 18) (k := 9) K (dOf ck_mX8_init rfl rfl) rfl rfl (Nat.le_of_ble_eq_true rfl) wd_235 rfl rfl rfl rfl (fitR (by decide +kernel)) ?_
  refine aw_aload_n (i := 19) K (dOf ck_mX8_init rfl rfl) rfl ?_
  refine aw_bip (i := 20) K (dOf ck_mX8_init rfl rfl) (v := 12) rfl ?_
  refine aw_newaN (i := 21) (n := 12) (ty := .int) K (dOf ck_mX8_init rfl rfl) rfl (by decide) wd_273 (Nat.le_of_ble_eq_true rfl) (Nat.le_of_ble_eq_true rfl) (Nat.le_of_ble_eq_true rfl) 20 rfl (fun q20 => ?_)
  refine aw_putr (i := 22) (k := 10) K (dOf ck_mX8_init rfl rfl) rfl rfl (Nat.le_of_ble_eq_true rfl) wd_244 rfl rfl rfl rfl (fitR (by decide +kernel)) ?_
  refine aw_aload_n (i := 23) K (dOf ck_mX8_init rfl rfl) rfl ?_
  refine aw_bip (i := 24) K (dOf ck_mX8_init rfl rfl) (v := 12) rfl ?_
  refine aw_newaN (i := 25) (n := 12) (ty := .int) K (dOf ck_mX8_init rfl rfl) rfl (by decide) wd_273 (Nat.le_of_ble_eq_true rfl) (Nat.le_of_ble_eq_true rfl) (Nat.le_of_ble_eq_true rfl) 21 rfl (fun q21 => ?_)
  refine aw_putr (i := 26) (k := 11) K (dOf ck_mX8_init rfl rfl) rfl rfl (Nat.le_of_ble_eq_true rfl) wd_250 rfl rfl rfl rfl (fitR (by decide +kernel)) ?_
  refine aw_aload_n (i := 27) K (dOf ck_mX8_init rfl rfl) rfl ?_
  refine aw_iconst (i := 28) K (n := 4) (i32 _ rfl) (dOf ck_mX8_init rfl rfl) ?_
  refine aw_newaN (i := 29) (n := 4) (ty := .int) K (dOf ck_mX8_init rfl rfl) rfl (by decide) wd_273 (Nat.le_of_ble_eq_true rfl) (Nat.le_of_ble_eq_true rfl) (Nat.le_of_ble_eq_true rfl) 22 rfl (fun q22 => ?_)
  refine aw_putr (i := 30) (k := 12) K (dOf ck_mX8_init rfl rfl) rfl rfl (Nat.le_of_ble_eq_true rfl) wd_257 rfl rfl rfl rfl (fitR (by decide +kernel)) ?_
  refine aw_aload_n (i := 31) K (dOf ck_mX8_init rfl rfl) rfl ?_
  refine aw_bip (i := 32) K (dOf ck_mX8_init rfl rfl) (v := 6) rfl ?_
  refine aw_newaN (i := 33) (n := 6) (ty := .int) K (dOf ck_mX8_init rfl rfl) rfl (by decide) wd_273 (Nat.le_of_ble_eq_true rfl) (Nat.le_of_ble_eq_true rfl) (Nat.le_of_ble_eq_true rfl) 23 rfl (fun q23 => ?_)
  refine aw_putr (i := 34) (k := 13) K (dOf ck_mX8_init rfl rfl) rfl rfl (Nat.le_of_ble_eq_true rfl) wd_262 rfl rfl rfl rfl (fitR (by decide +kernel)) ?_
  refine aw_aload_n (i := 35) K (dOf ck_mX8_init rfl rfl) rfl ?_
  refine aw_bip (i := 36) K (dOf ck_mX8_init rfl rfl) (v := 6) rfl ?_
  refine aw_newaN (i := 37) (n := 6) (ty := .int) K (dOf ck_mX8_init rfl rfl) rfl (by decide) wd_273 (Nat.le_of_ble_eq_true rfl) (Nat.le_of_ble_eq_true rfl) (Nat.le_of_ble_eq_true rfl) 24 rfl (fun q24 => ?_)
  refine aw_putr (i := 38) (k := 14) K (dOf ck_mX8_init rfl rfl) rfl rfl (Nat.le_of_ble_eq_true rfl) wd_267 rfl rfl rfl rfl (fitR (by decide +kernel)) ?_
  refine aw_aload_n (i := 39) K (dOf ck_mX8_init rfl rfl) rfl ?_
  refine aw_nm (sh' := sg_3) (mm' := mg_3) rfl rfl ?_
  refine aw_callV (i := 40) (as := []) (q := 3) K (dOf ck_mX8_init rfl rfl) al_OneBreath_Tongue_42 rfl rfl ⟨wd_182, wd_183⟩ rfl (Nat.le_of_ble_eq_true rfl) ⟨Nat.le_of_ble_eq_true rfl, Nat.le_of_ble_eq_true rfl⟩ ⟨Nat.le_of_ble_eq_true rfl, Nat.le_of_ble_eq_true rfl⟩ (Nat.le_of_ble_eq_true rfl) ct_2 (fun bl3 => ?_)
  refine aw_nm (sh' := sg_3) (mm' := mg_6) rfl rfl ?_
  exact aw_vretA K (by decide +kernel) rfl (Nat.le_of_ble_eq_true rfl) (Nat.le_of_ble_eq_true rfl) (pre_app (pre_app (pre_app (pre_app (pre_app (pre_app (pre_app (pre_app (pre_app (pre_app ⟨[], (List.append_nil _).symm⟩))))))))))
def sg_4 : List aE := [.inr (.inr (.inr (11, [some none, some none, some none, some none, some none, some none, some none, some none, some none, some none, some none, some none, some none, some none, some none]))), .inr (.inr (.inr (7, [some (some 2), none, none, some (some 3), none, none, none, none, none]))), .inl (.byte, 500), .inr (.inr (.inr (8, [none, none, none, none, none, none, some (some 4), some (some 5), some (some 6), some (some 19), some (some 20), some (some 21), some (some 22), some (some 23), some (some 24)]))), .inl (.byte, 8), .inl (.int, 8), .inr (.inr (.inl (.array .byte, [some 7, some 8, some 9, some 10, some 11, some 12, some 13, some 14, some 15, some 16, some 17, some 18]))), .inl (.byte, 6), .inl (.byte, 6), .inl (.byte, 6), .inl (.byte, 6), .inl (.byte, 6), .inl (.byte, 6), .inl (.byte, 6), .inl (.byte, 6), .inl (.byte, 6), .inl (.byte, 6), .inl (.byte, 6), .inl (.byte, 6), .inl (.int, 12), .inl (.int, 12), .inl (.int, 12), .inl (.int, 4), .inl (.int, 6), .inl (.int, 6)]
def mg_7 : aM := (aup mg_6 1 8 (-1))
set_option maxHeartbeats 8000000 in
set_option maxRecDepth 20000 in
/-- Tape.<init> -/
theorem ct_4 {l : Launch} {D : va_G} {cA : FieldType → ClassId} {ad adV : Nat → Nat} {z0 : Nat} : aMet l D cA ad adV z0 mX7_init 3 63 23 667 [.inr (.inr (.inl (some 1)))] sg_1 mg_1 none sg_4 mg_7 := by
  refine aMet_of (by decide +kernel) rfl (Nat.le_of_ble_eq_true rfl) (fun p e s m args below meth c al K => ?_)
  refine aw_aload_n (i := 0) K (dOf ck_mX7_init rfl rfl) rfl ?_
  refine aw_objInit (i := 1) K (dOf ck_mX7_init rfl rfl) ⟨wd_173, wd_167, wd_168⟩ (Nat.le_of_ble_eq_true rfl) ⟨Nat.le_of_ble_eq_true rfl, Nat.le_of_ble_eq_true rfl⟩ ?_
  refine aw_aload_n (i := 2) K (dOf ck_mX7_init rfl rfl) rfl ?_
  refine aw_sip (i := 3) K (dOf ck_mX7_init rfl rfl) (v := 500) rfl ?_
  refine aw_newaN (i := 4) (n := 500) (ty := .byte) K (dOf ck_mX7_init rfl rfl) rfl (by decide) wd_272 (Nat.le_of_ble_eq_true rfl) (Nat.le_of_ble_eq_true rfl) (Nat.le_of_ble_eq_true rfl) 2 rfl (fun q2 => ?_)
  refine aw_putr (i := 5) (k := 0) K (dOf ck_mX7_init rfl rfl) rfl rfl (Nat.le_of_ble_eq_true rfl) wd_274 rfl rfl rfl rfl (fitR (by decide +kernel)) ?_
  refine aw_aload_n (i := 6) K (dOf ck_mX7_init rfl rfl) rfl ?_
  refine aw_newN (i := 7) (ci := 8) K (dOf ck_mX7_init rfl rfl) rfl wd_174 wd_175 wd_140 zt_8 (Nat.le_of_ble_eq_true rfl) (Nat.le_of_ble_eq_true rfl) 3 rfl (fun q3 => ?_)
  refine aw_dup (i := 8) K rfl (dOf ck_mX7_init rfl rfl) ?_
  refine aw_nm (sh' := sg_2) (mm' := mg_2) rfl rfl ?_
  refine aw_callI (i := 9) (as := []) (q := 3) K (dOf ck_mX7_init rfl rfl) al_OneBreath_Tape_17 rfl rfl wd_177 rfl (Nat.le_of_ble_eq_true rfl) ⟨Nat.le_of_ble_eq_true rfl, Nat.le_of_ble_eq_true rfl⟩ ⟨Nat.le_of_ble_eq_true rfl, Nat.le_of_ble_eq_true rfl⟩ (Nat.le_of_ble_eq_true rfl) ct_3 (fun bl4 => ?_)
  refine aw_putr (i := 10) (k := 3) K (dOf ck_mX7_init rfl rfl) rfl rfl (Nat.le_of_ble_eq_true rfl) wd_278 rfl rfl rfl rfl (fitR (by decide +kernel)) ?_
  refine aw_aload_n (i := 11) K (dOf ck_mX7_init rfl rfl) rfl ?_
  refine aw_iconst (i := 12) K (n := -1) (i32 _ rfl) (dOf ck_mX7_init rfl rfl) ?_
  refine aw_putf (i := 13) (k := 8) K (dOf ck_mX7_init rfl rfl) rfl rfl (Nat.le_of_ble_eq_true rfl) wd_285 rfl rfl (Or.inl rfl) ?_
  refine aw_nm (sh' := sg_4) (mm' := mg_7) rfl rfl ?_
  exact aw_vretA K (by decide +kernel) rfl (Nat.le_of_ble_eq_true rfl) (Nat.le_of_ble_eq_true rfl) (pre_app (pre_app (pre_app ⟨[], (List.append_nil _).symm⟩)))
def sg_5 : List aE := [.inr (.inr (.inr (11, [some (some 1), some none, some none, some none, some none, some none, some none, some none, some none, some none, some none, some none, some none, some none, some none]))), .inr (.inr (.inr (7, [some (some 2), none, none, some (some 3), none, none, none, none, none]))), .inl (.byte, 500), .inr (.inr (.inr (8, [none, none, none, none, none, none, some (some 4), some (some 5), some (some 6), some (some 19), some (some 20), some (some 21), some (some 22), some (some 23), some (some 24)]))), .inl (.byte, 8), .inl (.int, 8), .inr (.inr (.inl (.array .byte, [some 7, some 8, some 9, some 10, some 11, some 12, some 13, some 14, some 15, some 16, some 17, some 18]))), .inl (.byte, 6), .inl (.byte, 6), .inl (.byte, 6), .inl (.byte, 6), .inl (.byte, 6), .inl (.byte, 6), .inl (.byte, 6), .inl (.byte, 6), .inl (.byte, 6), .inl (.byte, 6), .inl (.byte, 6), .inl (.byte, 6), .inl (.int, 12), .inl (.int, 12), .inl (.int, 12), .inl (.int, 4), .inl (.int, 6), .inl (.int, 6), .inr (.inr (.inr (8, [none, none, none, none, none, none, some none, some none, some none, some none, some none, some none, some none, some none, some none])))]
def mg_8 : aM := (aNew mg_7 25)
def sg_6 : List aE := [.inr (.inr (.inr (11, [some (some 1), some none, some none, some none, some none, some none, some none, some none, some none, some none, some none, some none, some none, some none, some none]))), .inr (.inr (.inr (7, [some (some 2), none, none, some (some 3), none, none, none, none, none]))), .inl (.byte, 500), .inr (.inr (.inr (8, [none, none, none, none, none, none, some (some 4), some (some 5), some (some 6), some (some 19), some (some 20), some (some 21), some (some 22), some (some 23), some (some 24)]))), .inl (.byte, 8), .inl (.int, 8), .inr (.inr (.inl (.array .byte, [some 7, some 8, some 9, some 10, some 11, some 12, some 13, some 14, some 15, some 16, some 17, some 18]))), .inl (.byte, 6), .inl (.byte, 6), .inl (.byte, 6), .inl (.byte, 6), .inl (.byte, 6), .inl (.byte, 6), .inl (.byte, 6), .inl (.byte, 6), .inl (.byte, 6), .inl (.byte, 6), .inl (.byte, 6), .inl (.byte, 6), .inl (.int, 12), .inl (.int, 12), .inl (.int, 12), .inl (.int, 4), .inl (.int, 6), .inl (.int, 6), .inr (.inr (.inr (8, [none, none, none, none, none, none, some (some 26), some (some 27), some (some 28), some (some 41), some (some 42), some (some 43), some (some 44), some (some 45), some (some 46)]))), .inl (.byte, 8), .inl (.int, 8), .inr (.inr (.inl (.array .byte, [some 29, some 30, some 31, some 32, some 33, some 34, some 35, some 36, some 37, some 38, some 39, some 40]))), .inl (.byte, 6), .inl (.byte, 6), .inl (.byte, 6), .inl (.byte, 6), .inl (.byte, 6), .inl (.byte, 6), .inl (.byte, 6), .inl (.byte, 6), .inl (.byte, 6), .inl (.byte, 6), .inl (.byte, 6), .inl (.byte, 6), .inl (.int, 12), .inl (.int, 12), .inl (.int, 12), .inl (.int, 4), .inl (.int, 6), .inl (.int, 6)]
def mg_9 : aM := (aNew (aNew (aNew (aNew (aNew (aNew (aNewR (aNew (aNew mg_8 26) 27) 28 13) 41) 42) 43) 44) 45) 46)
def mg_10 : aM := (aup (aup (aup (aup (aup (aup mg_9 25 0 0) 25 1 0) 25 2 0) 25 3 0) 25 4 0) 25 5 15)
def mg_11 : aM := (aup (aup (aup (aup (aup (aup (aup (aup mg_10 27 0 0) 27 1 0) 27 2 0) 27 3 0) 27 4 0) 27 5 0) 27 6 0) 27 7 0)
set_option maxHeartbeats 8000000 in
set_option maxRecDepth 20000 in
/-- java/util/Arrays.fill -/
theorem ct_5 {l : Launch} {D : va_G} {cA : FieldType → ClassId} {ad adV : Nat → Nat} {z0 : Nat} : aMet l D cA ad adV z0 mJ7_fill_53178 0 0 0 0 [.inr (.inr (.inl (some 27))), .inl 0] sg_6 mg_10 none sg_6 mg_11 := by
  refine aMet_of (by decide +kernel) rfl (Nat.le_of_ble_eq_true rfl) (fun p e s m args below meth c al K => ?_)
  refine aw_iconst (i := 0) K (n := 0) (i32 _ rfl) (dOf ck_mJ7_fill_53178 rfl rfl) ?_
  refine aw_istore_n (i := 1) K (dOf ck_mJ7_fill_53178 rfl rfl) (Nat.le_of_ble_eq_true rfl) ?_
  refine aw_lvn (lv' := [(2, .inl 0), (0, .inr (.inr (.inl (some 27)))), (1, .inl 0)]) rfl ?_
  refine aw_aload_n (i := 2) K (dOf ck_mJ7_fill_53178 rfl rfl) rfl ?_
  refine aw_alen (i := 3) (n := 8) K (dOf ck_mJ7_fill_53178 rfl rfl) rfl rfl (by decide) ?_
  refine aw_istore_n (i := 4) K (dOf ck_mJ7_fill_53178 rfl rfl) (Nat.le_of_ble_eq_true rfl) ?_
  refine aw_lvn (lv' := [(3, .inl 8), (2, .inl 0), (0, .inr (.inr (.inl (some 27)))), (1, .inl 0)]) rfl ?_
  refine aw_iload_n (i := 5) K (dOf ck_mJ7_fill_53178 rfl rfl) rfl ?_
  refine aw_iload_n (i := 6) K (dOf ck_mJ7_fill_53178 rfl rfl) rfl ?_
  refine aw_icmp_ge (i := 7) K (dOf ck_mJ7_fill_53178 rfl rfl) (t := 14) (aJ_of (by decide +kernel)) (fun z => absurd z (by decide)) (fun _ => ?_)
  refine aw_aload_n (i := 8) K (dOf ck_mJ7_fill_53178 rfl rfl) rfl ?_
  refine aw_iload_n (i := 9) K (dOf ck_mJ7_fill_53178 rfl rfl) rfl ?_
  refine aw_iload_n (i := 10) K (dOf ck_mJ7_fill_53178 rfl rfl) rfl ?_
  refine aw_iast (i := 11) K (dOf ck_mJ7_fill_53178 rfl rfl) rfl (by decide) ?_
  refine aw_iinc (i := 12) K (dOf ck_mJ7_fill_53178 rfl rfl) (Nat.le_of_ble_eq_true rfl) rfl ?_
  refine aw_lvn (lv' := [(2, .inl 1), (3, .inl 8), (0, .inr (.inr (.inl (some 27)))), (1, .inl 0)]) rfl ?_
  refine aw_goto (i := 13) K (dOf ck_mJ7_fill_53178 rfl rfl).1 (t := 5) (aJ_of (by decide +kernel)) ?_
  refine aw_iload_n (i := 5) K (dOf ck_mJ7_fill_53178 rfl rfl) rfl ?_
  refine aw_iload_n (i := 6) K (dOf ck_mJ7_fill_53178 rfl rfl) rfl ?_
  refine aw_icmp_ge (i := 7) K (dOf ck_mJ7_fill_53178 rfl rfl) (t := 14) (aJ_of (by decide +kernel)) (fun z => absurd z (by decide)) (fun _ => ?_)
  refine aw_aload_n (i := 8) K (dOf ck_mJ7_fill_53178 rfl rfl) rfl ?_
  refine aw_iload_n (i := 9) K (dOf ck_mJ7_fill_53178 rfl rfl) rfl ?_
  refine aw_iload_n (i := 10) K (dOf ck_mJ7_fill_53178 rfl rfl) rfl ?_
  refine aw_iast (i := 11) K (dOf ck_mJ7_fill_53178 rfl rfl) rfl (by decide) ?_
  refine aw_iinc (i := 12) K (dOf ck_mJ7_fill_53178 rfl rfl) (Nat.le_of_ble_eq_true rfl) rfl ?_
  refine aw_lvn (lv' := [(2, .inl 2), (3, .inl 8), (0, .inr (.inr (.inl (some 27)))), (1, .inl 0)]) rfl ?_
  refine aw_goto (i := 13) K (dOf ck_mJ7_fill_53178 rfl rfl).1 (t := 5) (aJ_of (by decide +kernel)) ?_
  refine aw_iload_n (i := 5) K (dOf ck_mJ7_fill_53178 rfl rfl) rfl ?_
  refine aw_iload_n (i := 6) K (dOf ck_mJ7_fill_53178 rfl rfl) rfl ?_
  refine aw_icmp_ge (i := 7) K (dOf ck_mJ7_fill_53178 rfl rfl) (t := 14) (aJ_of (by decide +kernel)) (fun z => absurd z (by decide)) (fun _ => ?_)
  refine aw_aload_n (i := 8) K (dOf ck_mJ7_fill_53178 rfl rfl) rfl ?_
  refine aw_iload_n (i := 9) K (dOf ck_mJ7_fill_53178 rfl rfl) rfl ?_
  refine aw_iload_n (i := 10) K (dOf ck_mJ7_fill_53178 rfl rfl) rfl ?_
  refine aw_iast (i := 11) K (dOf ck_mJ7_fill_53178 rfl rfl) rfl (by decide) ?_
  refine aw_iinc (i := 12) K (dOf ck_mJ7_fill_53178 rfl rfl) (Nat.le_of_ble_eq_true rfl) rfl ?_
  refine aw_lvn (lv' := [(2, .inl 3), (3, .inl 8), (0, .inr (.inr (.inl (some 27)))), (1, .inl 0)]) rfl ?_
  refine aw_goto (i := 13) K (dOf ck_mJ7_fill_53178 rfl rfl).1 (t := 5) (aJ_of (by decide +kernel)) ?_
  refine aw_iload_n (i := 5) K (dOf ck_mJ7_fill_53178 rfl rfl) rfl ?_
  refine aw_iload_n (i := 6) K (dOf ck_mJ7_fill_53178 rfl rfl) rfl ?_
  refine aw_icmp_ge (i := 7) K (dOf ck_mJ7_fill_53178 rfl rfl) (t := 14) (aJ_of (by decide +kernel)) (fun z => absurd z (by decide)) (fun _ => ?_)
  refine aw_aload_n (i := 8) K (dOf ck_mJ7_fill_53178 rfl rfl) rfl ?_
  refine aw_iload_n (i := 9) K (dOf ck_mJ7_fill_53178 rfl rfl) rfl ?_
  refine aw_iload_n (i := 10) K (dOf ck_mJ7_fill_53178 rfl rfl) rfl ?_
  refine aw_iast (i := 11) K (dOf ck_mJ7_fill_53178 rfl rfl) rfl (by decide) ?_
  refine aw_iinc (i := 12) K (dOf ck_mJ7_fill_53178 rfl rfl) (Nat.le_of_ble_eq_true rfl) rfl ?_
  refine aw_lvn (lv' := [(2, .inl 4), (3, .inl 8), (0, .inr (.inr (.inl (some 27)))), (1, .inl 0)]) rfl ?_
  refine aw_goto (i := 13) K (dOf ck_mJ7_fill_53178 rfl rfl).1 (t := 5) (aJ_of (by decide +kernel)) ?_
  refine aw_iload_n (i := 5) K (dOf ck_mJ7_fill_53178 rfl rfl) rfl ?_
  refine aw_iload_n (i := 6) K (dOf ck_mJ7_fill_53178 rfl rfl) rfl ?_
  refine aw_icmp_ge (i := 7) K (dOf ck_mJ7_fill_53178 rfl rfl) (t := 14) (aJ_of (by decide +kernel)) (fun z => absurd z (by decide)) (fun _ => ?_)
  refine aw_aload_n (i := 8) K (dOf ck_mJ7_fill_53178 rfl rfl) rfl ?_
  refine aw_iload_n (i := 9) K (dOf ck_mJ7_fill_53178 rfl rfl) rfl ?_
  refine aw_iload_n (i := 10) K (dOf ck_mJ7_fill_53178 rfl rfl) rfl ?_
  refine aw_iast (i := 11) K (dOf ck_mJ7_fill_53178 rfl rfl) rfl (by decide) ?_
  refine aw_iinc (i := 12) K (dOf ck_mJ7_fill_53178 rfl rfl) (Nat.le_of_ble_eq_true rfl) rfl ?_
  refine aw_lvn (lv' := [(2, .inl 5), (3, .inl 8), (0, .inr (.inr (.inl (some 27)))), (1, .inl 0)]) rfl ?_
  refine aw_goto (i := 13) K (dOf ck_mJ7_fill_53178 rfl rfl).1 (t := 5) (aJ_of (by decide +kernel)) ?_
  refine aw_iload_n (i := 5) K (dOf ck_mJ7_fill_53178 rfl rfl) rfl ?_
  refine aw_iload_n (i := 6) K (dOf ck_mJ7_fill_53178 rfl rfl) rfl ?_
  refine aw_icmp_ge (i := 7) K (dOf ck_mJ7_fill_53178 rfl rfl) (t := 14) (aJ_of (by decide +kernel)) (fun z => absurd z (by decide)) (fun _ => ?_)
  refine aw_aload_n (i := 8) K (dOf ck_mJ7_fill_53178 rfl rfl) rfl ?_
  refine aw_iload_n (i := 9) K (dOf ck_mJ7_fill_53178 rfl rfl) rfl ?_
  refine aw_iload_n (i := 10) K (dOf ck_mJ7_fill_53178 rfl rfl) rfl ?_
  refine aw_iast (i := 11) K (dOf ck_mJ7_fill_53178 rfl rfl) rfl (by decide) ?_
  refine aw_iinc (i := 12) K (dOf ck_mJ7_fill_53178 rfl rfl) (Nat.le_of_ble_eq_true rfl) rfl ?_
  refine aw_lvn (lv' := [(2, .inl 6), (3, .inl 8), (0, .inr (.inr (.inl (some 27)))), (1, .inl 0)]) rfl ?_
  refine aw_goto (i := 13) K (dOf ck_mJ7_fill_53178 rfl rfl).1 (t := 5) (aJ_of (by decide +kernel)) ?_
  refine aw_iload_n (i := 5) K (dOf ck_mJ7_fill_53178 rfl rfl) rfl ?_
  refine aw_iload_n (i := 6) K (dOf ck_mJ7_fill_53178 rfl rfl) rfl ?_
  refine aw_icmp_ge (i := 7) K (dOf ck_mJ7_fill_53178 rfl rfl) (t := 14) (aJ_of (by decide +kernel)) (fun z => absurd z (by decide)) (fun _ => ?_)
  refine aw_aload_n (i := 8) K (dOf ck_mJ7_fill_53178 rfl rfl) rfl ?_
  refine aw_iload_n (i := 9) K (dOf ck_mJ7_fill_53178 rfl rfl) rfl ?_
  refine aw_iload_n (i := 10) K (dOf ck_mJ7_fill_53178 rfl rfl) rfl ?_
  refine aw_iast (i := 11) K (dOf ck_mJ7_fill_53178 rfl rfl) rfl (by decide) ?_
  refine aw_iinc (i := 12) K (dOf ck_mJ7_fill_53178 rfl rfl) (Nat.le_of_ble_eq_true rfl) rfl ?_
  refine aw_lvn (lv' := [(2, .inl 7), (3, .inl 8), (0, .inr (.inr (.inl (some 27)))), (1, .inl 0)]) rfl ?_
  refine aw_goto (i := 13) K (dOf ck_mJ7_fill_53178 rfl rfl).1 (t := 5) (aJ_of (by decide +kernel)) ?_
  refine aw_iload_n (i := 5) K (dOf ck_mJ7_fill_53178 rfl rfl) rfl ?_
  refine aw_iload_n (i := 6) K (dOf ck_mJ7_fill_53178 rfl rfl) rfl ?_
  refine aw_icmp_ge (i := 7) K (dOf ck_mJ7_fill_53178 rfl rfl) (t := 14) (aJ_of (by decide +kernel)) (fun z => absurd z (by decide)) (fun _ => ?_)
  refine aw_aload_n (i := 8) K (dOf ck_mJ7_fill_53178 rfl rfl) rfl ?_
  refine aw_iload_n (i := 9) K (dOf ck_mJ7_fill_53178 rfl rfl) rfl ?_
  refine aw_iload_n (i := 10) K (dOf ck_mJ7_fill_53178 rfl rfl) rfl ?_
  refine aw_iast (i := 11) K (dOf ck_mJ7_fill_53178 rfl rfl) rfl (by decide) ?_
  refine aw_iinc (i := 12) K (dOf ck_mJ7_fill_53178 rfl rfl) (Nat.le_of_ble_eq_true rfl) rfl ?_
  refine aw_lvn (lv' := [(2, .inl 8), (3, .inl 8), (0, .inr (.inr (.inl (some 27)))), (1, .inl 0)]) rfl ?_
  refine aw_goto (i := 13) K (dOf ck_mJ7_fill_53178 rfl rfl).1 (t := 5) (aJ_of (by decide +kernel)) ?_
  refine aw_iload_n (i := 5) K (dOf ck_mJ7_fill_53178 rfl rfl) rfl ?_
  refine aw_iload_n (i := 6) K (dOf ck_mJ7_fill_53178 rfl rfl) rfl ?_
  refine aw_icmp_ge (i := 7) K (dOf ck_mJ7_fill_53178 rfl rfl) (t := 14) (aJ_of (by decide +kernel)) (fun _ => ?_) (fun z => absurd (by decide) z)
  refine aw_nm (sh' := sg_6) (mm' := mg_11) rfl rfl ?_
  exact aw_vretA K (by decide +kernel) rfl (Nat.le_of_ble_eq_true rfl) (Nat.le_of_ble_eq_true rfl) ⟨[], (List.append_nil _).symm⟩
def mg_12 : aM := (aup (aup (aup (aup mg_11 44 0 15) 44 1 15) 44 2 15) 44 3 15)
set_option maxHeartbeats 8000000 in
set_option maxRecDepth 20000 in
/-- java/util/Arrays.fill -/
theorem ct_6 {l : Launch} {D : va_G} {cA : FieldType → ClassId} {ad adV : Nat → Nat} {z0 : Nat} : aMet l D cA ad adV z0 mJ7_fill_53178 0 0 0 0 [.inr (.inr (.inl (some 44))), .inl 15] sg_6 mg_11 none sg_6 mg_12 := by
  refine aMet_of (by decide +kernel) rfl (Nat.le_of_ble_eq_true rfl) (fun p e s m args below meth c al K => ?_)
  refine aw_iconst (i := 0) K (n := 0) (i32 _ rfl) (dOf ck_mJ7_fill_53178 rfl rfl) ?_
  refine aw_istore_n (i := 1) K (dOf ck_mJ7_fill_53178 rfl rfl) (Nat.le_of_ble_eq_true rfl) ?_
  refine aw_lvn (lv' := [(2, .inl 0), (0, .inr (.inr (.inl (some 44)))), (1, .inl 15)]) rfl ?_
  refine aw_aload_n (i := 2) K (dOf ck_mJ7_fill_53178 rfl rfl) rfl ?_
  refine aw_alen (i := 3) (n := 4) K (dOf ck_mJ7_fill_53178 rfl rfl) rfl rfl (by decide) ?_
  refine aw_istore_n (i := 4) K (dOf ck_mJ7_fill_53178 rfl rfl) (Nat.le_of_ble_eq_true rfl) ?_
  refine aw_lvn (lv' := [(3, .inl 4), (2, .inl 0), (0, .inr (.inr (.inl (some 44)))), (1, .inl 15)]) rfl ?_
  refine aw_iload_n (i := 5) K (dOf ck_mJ7_fill_53178 rfl rfl) rfl ?_
  refine aw_iload_n (i := 6) K (dOf ck_mJ7_fill_53178 rfl rfl) rfl ?_
  refine aw_icmp_ge (i := 7) K (dOf ck_mJ7_fill_53178 rfl rfl) (t := 14) (aJ_of (by decide +kernel)) (fun z => absurd z (by decide)) (fun _ => ?_)
  refine aw_aload_n (i := 8) K (dOf ck_mJ7_fill_53178 rfl rfl) rfl ?_
  refine aw_iload_n (i := 9) K (dOf ck_mJ7_fill_53178 rfl rfl) rfl ?_
  refine aw_iload_n (i := 10) K (dOf ck_mJ7_fill_53178 rfl rfl) rfl ?_
  refine aw_iast (i := 11) K (dOf ck_mJ7_fill_53178 rfl rfl) rfl (by decide) ?_
  refine aw_iinc (i := 12) K (dOf ck_mJ7_fill_53178 rfl rfl) (Nat.le_of_ble_eq_true rfl) rfl ?_
  refine aw_lvn (lv' := [(2, .inl 1), (3, .inl 4), (0, .inr (.inr (.inl (some 44)))), (1, .inl 15)]) rfl ?_
  refine aw_goto (i := 13) K (dOf ck_mJ7_fill_53178 rfl rfl).1 (t := 5) (aJ_of (by decide +kernel)) ?_
  refine aw_iload_n (i := 5) K (dOf ck_mJ7_fill_53178 rfl rfl) rfl ?_
  refine aw_iload_n (i := 6) K (dOf ck_mJ7_fill_53178 rfl rfl) rfl ?_
  refine aw_icmp_ge (i := 7) K (dOf ck_mJ7_fill_53178 rfl rfl) (t := 14) (aJ_of (by decide +kernel)) (fun z => absurd z (by decide)) (fun _ => ?_)
  refine aw_aload_n (i := 8) K (dOf ck_mJ7_fill_53178 rfl rfl) rfl ?_
  refine aw_iload_n (i := 9) K (dOf ck_mJ7_fill_53178 rfl rfl) rfl ?_
  refine aw_iload_n (i := 10) K (dOf ck_mJ7_fill_53178 rfl rfl) rfl ?_
  refine aw_iast (i := 11) K (dOf ck_mJ7_fill_53178 rfl rfl) rfl (by decide) ?_
  refine aw_iinc (i := 12) K (dOf ck_mJ7_fill_53178 rfl rfl) (Nat.le_of_ble_eq_true rfl) rfl ?_
  refine aw_lvn (lv' := [(2, .inl 2), (3, .inl 4), (0, .inr (.inr (.inl (some 44)))), (1, .inl 15)]) rfl ?_
  refine aw_goto (i := 13) K (dOf ck_mJ7_fill_53178 rfl rfl).1 (t := 5) (aJ_of (by decide +kernel)) ?_
  refine aw_iload_n (i := 5) K (dOf ck_mJ7_fill_53178 rfl rfl) rfl ?_
  refine aw_iload_n (i := 6) K (dOf ck_mJ7_fill_53178 rfl rfl) rfl ?_
  refine aw_icmp_ge (i := 7) K (dOf ck_mJ7_fill_53178 rfl rfl) (t := 14) (aJ_of (by decide +kernel)) (fun z => absurd z (by decide)) (fun _ => ?_)
  refine aw_aload_n (i := 8) K (dOf ck_mJ7_fill_53178 rfl rfl) rfl ?_
  refine aw_iload_n (i := 9) K (dOf ck_mJ7_fill_53178 rfl rfl) rfl ?_
  refine aw_iload_n (i := 10) K (dOf ck_mJ7_fill_53178 rfl rfl) rfl ?_
  refine aw_iast (i := 11) K (dOf ck_mJ7_fill_53178 rfl rfl) rfl (by decide) ?_
  refine aw_iinc (i := 12) K (dOf ck_mJ7_fill_53178 rfl rfl) (Nat.le_of_ble_eq_true rfl) rfl ?_
  refine aw_lvn (lv' := [(2, .inl 3), (3, .inl 4), (0, .inr (.inr (.inl (some 44)))), (1, .inl 15)]) rfl ?_
  refine aw_goto (i := 13) K (dOf ck_mJ7_fill_53178 rfl rfl).1 (t := 5) (aJ_of (by decide +kernel)) ?_
  refine aw_iload_n (i := 5) K (dOf ck_mJ7_fill_53178 rfl rfl) rfl ?_
  refine aw_iload_n (i := 6) K (dOf ck_mJ7_fill_53178 rfl rfl) rfl ?_
  refine aw_icmp_ge (i := 7) K (dOf ck_mJ7_fill_53178 rfl rfl) (t := 14) (aJ_of (by decide +kernel)) (fun z => absurd z (by decide)) (fun _ => ?_)
  refine aw_aload_n (i := 8) K (dOf ck_mJ7_fill_53178 rfl rfl) rfl ?_
  refine aw_iload_n (i := 9) K (dOf ck_mJ7_fill_53178 rfl rfl) rfl ?_
  refine aw_iload_n (i := 10) K (dOf ck_mJ7_fill_53178 rfl rfl) rfl ?_
  refine aw_iast (i := 11) K (dOf ck_mJ7_fill_53178 rfl rfl) rfl (by decide) ?_
  refine aw_iinc (i := 12) K (dOf ck_mJ7_fill_53178 rfl rfl) (Nat.le_of_ble_eq_true rfl) rfl ?_
  refine aw_lvn (lv' := [(2, .inl 4), (3, .inl 4), (0, .inr (.inr (.inl (some 44)))), (1, .inl 15)]) rfl ?_
  refine aw_goto (i := 13) K (dOf ck_mJ7_fill_53178 rfl rfl).1 (t := 5) (aJ_of (by decide +kernel)) ?_
  refine aw_iload_n (i := 5) K (dOf ck_mJ7_fill_53178 rfl rfl) rfl ?_
  refine aw_iload_n (i := 6) K (dOf ck_mJ7_fill_53178 rfl rfl) rfl ?_
  refine aw_icmp_ge (i := 7) K (dOf ck_mJ7_fill_53178 rfl rfl) (t := 14) (aJ_of (by decide +kernel)) (fun _ => ?_) (fun z => absurd (by decide) z)
  refine aw_nm (sh' := sg_6) (mm' := mg_12) rfl rfl ?_
  exact aw_vretA K (by decide +kernel) rfl (Nat.le_of_ble_eq_true rfl) (Nat.le_of_ble_eq_true rfl) ⟨[], (List.append_nil _).symm⟩
set_option maxHeartbeats 8000000 in
set_option maxRecDepth 20000 in
/-- Tongue.empty -/
theorem ct_7 {l : Launch} {D : va_G} {cA : FieldType → ClassId} {ad adV : Nat → Nat} {z0 : Nat} : aMet l D cA ad adV z0 mX8_empty 1 23 0 0 [.inr (.inr (.inl (some 25)))] sg_6 mg_9 none sg_6 mg_12 := by
  refine aMet_of (by decide +kernel) rfl (Nat.le_of_ble_eq_true rfl) (fun p e s m args below meth c al K => ?_)
  refine aw_aload_n (i := 0) K (dOf ck_mX8_empty rfl rfl) rfl ?_
  refine aw_iconst (i := 1) K (n := 0) (i32 _ rfl) (dOf ck_mX8_empty rfl rfl) ?_
  refine aw_putf (i := 2) (k := 0) K (dOf ck_mX8_empty rfl rfl) rfl rfl (Nat.le_of_ble_eq_true rfl) wd_188 rfl rfl (Or.inl rfl) ?_
  refine aw_aload_n (i := 3) K (dOf ck_mX8_empty rfl rfl) rfl ?_
  refine aw_iconst (i := 4) K (n := 0) (i32 _ rfl) (dOf ck_mX8_empty rfl rfl) ?_
  refine aw_putf (i := 5) (k := 1) K (dOf ck_mX8_empty rfl rfl) rfl rfl (Nat.le_of_ble_eq_true rfl) wd_191 rfl rfl (Or.inl rfl) ?_
  refine aw_aload_n (i := 6) K (dOf ck_mX8_empty rfl rfl) rfl ?_
  refine aw_iconst (i := 7) K (n := 0) (i32 _ rfl) (dOf ck_mX8_empty rfl rfl) ?_
  refine aw_putf (i := 8) (k := 2) K (dOf ck_mX8_empty rfl rfl) rfl rfl (Nat.le_of_ble_eq_true rfl) wd_198 rfl rfl (Or.inl rfl) ?_
  refine aw_aload_n (i := 9) K (dOf ck_mX8_empty rfl rfl) rfl ?_
  refine aw_iconst (i := 10) K (n := 0) (i32 _ rfl) (dOf ck_mX8_empty rfl rfl) ?_
  refine aw_putf (i := 11) (k := 3) K (dOf ck_mX8_empty rfl rfl) rfl rfl (Nat.le_of_ble_eq_true rfl) wd_203 rfl rfl (Or.inl rfl) ?_
  refine aw_aload_n (i := 12) K (dOf ck_mX8_empty rfl rfl) rfl ?_
  refine aw_iconst (i := 13) K (n := 0) (i32 _ rfl) (dOf ck_mX8_empty rfl rfl) ?_
  refine aw_putf (i := 14) (k := 4) K (dOf ck_mX8_empty rfl rfl) rfl rfl (Nat.le_of_ble_eq_true rfl) wd_207 rfl rfl (Or.inl rfl) ?_
  refine aw_aload_n (i := 15) K (dOf ck_mX8_empty rfl rfl) rfl ?_
  refine aw_bip (i := 16) K (dOf ck_mX8_empty rfl rfl) (v := 15) rfl ?_
  refine aw_putf (i := 17) (k := 5) K (dOf ck_mX8_empty rfl rfl) rfl rfl (Nat.le_of_ble_eq_true rfl) wd_213 rfl rfl (Or.inl rfl) ?_
  refine aw_aload_n (i := 18) K (dOf ck_mX8_empty rfl rfl) rfl ?_
  refine aw_getf (i := 19) (k := 7) K (dOf ck_mX8_empty rfl rfl) rfl rfl (Nat.le_of_ble_eq_true rfl) wd_219 rfl ?_
  refine aw_iconst (i := 20) K (n := 0) (i32 _ rfl) (dOf ck_mX8_empty rfl rfl) ?_
  refine aw_nm (sh' := sg_6) (mm' := mg_10) rfl rfl ?_
  refine aw_callS (i := 21) (as := [.inr (.inr (.inl (some 27))), .inl 0]) K (dOf ck_mX8_empty rfl rfl) al_OneBreath_Tongue_64 wd_186 rfl (Nat.le_of_ble_eq_true rfl) ⟨Nat.le_of_ble_eq_true rfl, Nat.le_of_ble_eq_true rfl⟩ ⟨Nat.le_of_ble_eq_true rfl, Nat.le_of_ble_eq_true rfl⟩ (Nat.le_of_ble_eq_true rfl) ct_5 (fun bl6 => ?_)
  refine aw_aload_n (i := 22) K (dOf ck_mX8_empty rfl rfl) rfl ?_
  refine aw_getf (i := 23) (k := 12) K (dOf ck_mX8_empty rfl rfl) rfl rfl (Nat.le_of_ble_eq_true rfl) wd_257 rfl ?_
  refine aw_bip (i := 24) K (dOf ck_mX8_empty rfl rfl) (v := 15) rfl ?_
  refine aw_nm (sh' := sg_6) (mm' := mg_11) rfl rfl ?_
  refine aw_callS (i := 25) (as := [.inr (.inr (.inl (some 44))), .inl 15]) K (dOf ck_mX8_empty rfl rfl) al_OneBreath_Tongue_64 wd_186 rfl (Nat.le_of_ble_eq_true rfl) ⟨Nat.le_of_ble_eq_true rfl, Nat.le_of_ble_eq_true rfl⟩ ⟨Nat.le_of_ble_eq_true rfl, Nat.le_of_ble_eq_true rfl⟩ (Nat.le_of_ble_eq_true rfl) ct_6 (fun bl7 => ?_)
  refine aw_nm (sh' := sg_6) (mm' := mg_12) rfl rfl ?_
  exact aw_vretA K (by decide +kernel) rfl (Nat.le_of_ble_eq_true rfl) (Nat.le_of_ble_eq_true rfl) (pre_app (pre_app ⟨[], (List.append_nil _).symm⟩))
set_option maxHeartbeats 8000000 in
set_option maxRecDepth 20000 in
/-- Tongue.<init> -/
theorem ct_8 {l : Launch} {D : va_G} {cA : FieldType → ClassId} {ad adV : Nat → Nat} {z0 : Nat} : aMet l D cA ad adV z0 mX8_init 2 43 21 152 [.inr (.inr (.inl (some 25)))] sg_5 mg_8 none sg_6 mg_12 := by
  refine aMet_of (by decide +kernel) rfl (Nat.le_of_ble_eq_true rfl) (fun p e s m args below meth c al K => ?_)
  refine aw_aload_n (i := 0) K (dOf ck_mX8_init rfl rfl) rfl ?_
  refine aw_objInit (i := 1) K (dOf ck_mX8_init rfl rfl) ⟨wd_179, wd_167, wd_168⟩ (Nat.le_of_ble_eq_true rfl) ⟨Nat.le_of_ble_eq_true rfl, Nat.le_of_ble_eq_true rfl⟩ ?_
  refine aw_aload_n (i := 2) K (dOf ck_mX8_init rfl rfl) rfl ?_
  refine aw_bip (i := 3) K (dOf ck_mX8_init rfl rfl) (v := 8) rfl ?_
  refine aw_newaN (i := 4) (n := 8) (ty := .byte) K (dOf ck_mX8_init rfl rfl) rfl (by decide) wd_272 (Nat.le_of_ble_eq_true rfl) (Nat.le_of_ble_eq_true rfl) (Nat.le_of_ble_eq_true rfl) 26 rfl (fun q26 => ?_)
  refine aw_putr (i := 5) (k := 6) K (dOf ck_mX8_init rfl rfl) rfl rfl (Nat.le_of_ble_eq_true rfl) wd_216 rfl rfl rfl rfl (fitR (by decide +kernel)) ?_
  refine aw_aload_n (i := 6) K (dOf ck_mX8_init rfl rfl) rfl ?_
  refine aw_bip (i := 7) K (dOf ck_mX8_init rfl rfl) (v := 8) rfl ?_
  refine aw_newaN (i := 8) (n := 8) (ty := .int) K (dOf ck_mX8_init rfl rfl) rfl (by decide) wd_273 (Nat.le_of_ble_eq_true rfl) (Nat.le_of_ble_eq_true rfl) (Nat.le_of_ble_eq_true rfl) 27 rfl (fun q27 => ?_)
  refine aw_putr (i := 9) (k := 7) K (dOf ck_mX8_init rfl rfl) rfl rfl (Nat.le_of_ble_eq_true rfl) wd_219 rfl rfl rfl rfl (fitR (by decide +kernel)) ?_
  refine aw_aload_n (i := 10) K (dOf ck_mX8_init rfl rfl) rfl ?_
  refine aw_bip (i := 11) K (dOf ck_mX8_init rfl rfl) (v := 12) rfl ?_
  refine aw_bip (i := 12) K (dOf ck_mX8_init rfl rfl) (v := 6) rfl ?_
  refine aw_mnaN (i := 13) (n := 12) (k := 6) (ty := .byte) K (dOf ck_mX8_init rfl rfl) wd_180 (Or.inl ⟨rfl, rfl⟩) wd_272 (Nat.le_of_ble_eq_true rfl) (Nat.le_of_ble_eq_true rfl) (Nat.le_of_ble_eq_true rfl) (Nat.le_of_ble_eq_true rfl) 28 rfl (fun bl28 => ?_)
  refine aw_putr (i := 14) (k := 8) K (dOf ck_mX8_init rfl rfl) rfl rfl (Nat.le_of_ble_eq_true rfl) wd_226 rfl rfl rfl rfl (fitR (by decide +kernel)) ?_
  refine aw_aload_n (i := 15) K (dOf ck_mX8_init rfl rfl) rfl ?_
  refine aw_bip (i := 16) K (dOf ck_mX8_init rfl rfl) (v := 12) rfl ?_
  refine aw_newaN (i := 17) (n := 12) (ty := .int) K (dOf ck_mX8_init rfl rfl) rfl (by decide) wd_273 (Nat.le_of_ble_eq_true rfl) (Nat.le_of_ble_eq_true rfl) (Nat.le_of_ble_eq_true rfl) 41 rfl (fun q41 => ?_)
  refine aw_putr (i := 18) (k := 9) K (dOf ck_mX8_init rfl rfl) rfl rfl (Nat.le_of_ble_eq_true rfl) wd_235 rfl rfl rfl rfl (fitR (by decide +kernel)) ?_
  refine aw_aload_n (i := 19) K (dOf ck_mX8_init rfl rfl) rfl ?_
  refine aw_bip (i := 20) K (dOf ck_mX8_init rfl rfl) (v := 12) rfl ?_
  refine aw_newaN (i := 21) (n := 12) (ty := .int) K (dOf ck_mX8_init rfl rfl) rfl (by decide) wd_273 (Nat.le_of_ble_eq_true rfl) (Nat.le_of_ble_eq_true rfl) (Nat.le_of_ble_eq_true rfl) 42 rfl (fun q42 => ?_)
  refine aw_putr (i := 22) (k := 10) K (dOf ck_mX8_init rfl rfl) rfl rfl (Nat.le_of_ble_eq_true rfl) wd_244 rfl rfl rfl rfl (fitR (by decide +kernel)) ?_
  refine aw_aload_n (i := 23) K (dOf ck_mX8_init rfl rfl) rfl ?_
  refine aw_bip (i := 24) K (dOf ck_mX8_init rfl rfl) (v := 12) rfl ?_
  refine aw_newaN (i := 25) (n := 12) (ty := .int) K (dOf ck_mX8_init rfl rfl) rfl (by decide) wd_273 (Nat.le_of_ble_eq_true rfl) (Nat.le_of_ble_eq_true rfl) (Nat.le_of_ble_eq_true rfl) 43 rfl (fun q43 => ?_)
  refine aw_putr (i := 26) (k := 11) K (dOf ck_mX8_init rfl rfl) rfl rfl (Nat.le_of_ble_eq_true rfl) wd_250 rfl rfl rfl rfl (fitR (by decide +kernel)) ?_
  refine aw_aload_n (i := 27) K (dOf ck_mX8_init rfl rfl) rfl ?_
  refine aw_iconst (i := 28) K (n := 4) (i32 _ rfl) (dOf ck_mX8_init rfl rfl) ?_
  refine aw_newaN (i := 29) (n := 4) (ty := .int) K (dOf ck_mX8_init rfl rfl) rfl (by decide) wd_273 (Nat.le_of_ble_eq_true rfl) (Nat.le_of_ble_eq_true rfl) (Nat.le_of_ble_eq_true rfl) 44 rfl (fun q44 => ?_)
  refine aw_putr (i := 30) (k := 12) K (dOf ck_mX8_init rfl rfl) rfl rfl (Nat.le_of_ble_eq_true rfl) wd_257 rfl rfl rfl rfl (fitR (by decide +kernel)) ?_
  refine aw_aload_n (i := 31) K (dOf ck_mX8_init rfl rfl) rfl ?_
  refine aw_bip (i := 32) K (dOf ck_mX8_init rfl rfl) (v := 6) rfl ?_
  refine aw_newaN (i := 33) (n := 6) (ty := .int) K (dOf ck_mX8_init rfl rfl) rfl (by decide) wd_273 (Nat.le_of_ble_eq_true rfl) (Nat.le_of_ble_eq_true rfl) (Nat.le_of_ble_eq_true rfl) 45 rfl (fun q45 => ?_)
  refine aw_putr (i := 34) (k := 13) K (dOf ck_mX8_init rfl rfl) rfl rfl (Nat.le_of_ble_eq_true rfl) wd_262 rfl rfl rfl rfl (fitR (by decide +kernel)) ?_
  refine aw_aload_n (i := 35) K (dOf ck_mX8_init rfl rfl) rfl ?_
  refine aw_bip (i := 36) K (dOf ck_mX8_init rfl rfl) (v := 6) rfl ?_
  refine aw_newaN (i := 37) (n := 6) (ty := .int) K (dOf ck_mX8_init rfl rfl) rfl (by decide) wd_273 (Nat.le_of_ble_eq_true rfl) (Nat.le_of_ble_eq_true rfl) (Nat.le_of_ble_eq_true rfl) 46 rfl (fun q46 => ?_)
  refine aw_putr (i := 38) (k := 14) K (dOf ck_mX8_init rfl rfl) rfl rfl (Nat.le_of_ble_eq_true rfl) wd_267 rfl rfl rfl rfl (fitR (by decide +kernel)) ?_
  refine aw_aload_n (i := 39) K (dOf ck_mX8_init rfl rfl) rfl ?_
  refine aw_nm (sh' := sg_6) (mm' := mg_9) rfl rfl ?_
  refine aw_callV (i := 40) (as := []) (q := 25) K (dOf ck_mX8_init rfl rfl) al_OneBreath_Tongue_42 rfl rfl ⟨wd_182, wd_183⟩ rfl (Nat.le_of_ble_eq_true rfl) ⟨Nat.le_of_ble_eq_true rfl, Nat.le_of_ble_eq_true rfl⟩ ⟨Nat.le_of_ble_eq_true rfl, Nat.le_of_ble_eq_true rfl⟩ (Nat.le_of_ble_eq_true rfl) ct_7 (fun bl8 => ?_)
  refine aw_nm (sh' := sg_6) (mm' := mg_12) rfl rfl ?_
  exact aw_vretA K (by decide +kernel) rfl (Nat.le_of_ble_eq_true rfl) (Nat.le_of_ble_eq_true rfl) (pre_app (pre_app (pre_app (pre_app (pre_app (pre_app (pre_app (pre_app (pre_app (pre_app ⟨[], (List.append_nil _).symm⟩))))))))))
def sg_7 : List aE := [.inr (.inr (.inr (11, [some (some 1), some (some 25), some none, some none, some none, some none, some none, some none, some none, some none, some none, some none, some none, some none, some none]))), .inr (.inr (.inr (7, [some (some 2), none, none, some (some 3), none, none, none, none, none]))), .inl (.byte, 500), .inr (.inr (.inr (8, [none, none, none, none, none, none, some (some 4), some (some 5), some (some 6), some (some 19), some (some 20), some (some 21), some (some 22), some (some 23), some (some 24)]))), .inl (.byte, 8), .inl (.int, 8), .inr (.inr (.inl (.array .byte, [some 7, some 8, some 9, some 10, some 11, some 12, some 13, some 14, some 15, some 16, some 17, some 18]))), .inl (.byte, 6), .inl (.byte, 6), .inl (.byte, 6), .inl (.byte, 6), .inl (.byte, 6), .inl (.byte, 6), .inl (.byte, 6), .inl (.byte, 6), .inl (.byte, 6), .inl (.byte, 6), .inl (.byte, 6), .inl (.byte, 6), .inl (.int, 12), .inl (.int, 12), .inl (.int, 12), .inl (.int, 4), .inl (.int, 6), .inl (.int, 6), .inr (.inr (.inr (8, [none, none, none, none, none, none, some (some 26), some (some 27), some (some 28), some (some 41), some (some 42), some (some 43), some (some 44), some (some 45), some (some 46)]))), .inl (.byte, 8), .inl (.int, 8), .inr (.inr (.inl (.array .byte, [some 29, some 30, some 31, some 32, some 33, some 34, some 35, some 36, some 37, some 38, some 39, some 40]))), .inl (.byte, 6), .inl (.byte, 6), .inl (.byte, 6), .inl (.byte, 6), .inl (.byte, 6), .inl (.byte, 6), .inl (.byte, 6), .inl (.byte, 6), .inl (.byte, 6), .inl (.byte, 6), .inl (.byte, 6), .inl (.byte, 6), .inl (.int, 12), .inl (.int, 12), .inl (.int, 12), .inl (.int, 4), .inl (.int, 6), .inl (.int, 6), .inr (.inr (.inr (6, [some none, none])))]
def mg_13 : aM := (aNew mg_12 47)
def sg_8 : List aE := [.inr (.inr (.inr (11, [some (some 1), some (some 25), some none, some none, some none, some none, some none, some none, some none, some none, some none, some none, some none, some none, some none]))), .inr (.inr (.inr (7, [some (some 2), none, none, some (some 3), none, none, none, none, none]))), .inl (.byte, 500), .inr (.inr (.inr (8, [none, none, none, none, none, none, some (some 4), some (some 5), some (some 6), some (some 19), some (some 20), some (some 21), some (some 22), some (some 23), some (some 24)]))), .inl (.byte, 8), .inl (.int, 8), .inr (.inr (.inl (.array .byte, [some 7, some 8, some 9, some 10, some 11, some 12, some 13, some 14, some 15, some 16, some 17, some 18]))), .inl (.byte, 6), .inl (.byte, 6), .inl (.byte, 6), .inl (.byte, 6), .inl (.byte, 6), .inl (.byte, 6), .inl (.byte, 6), .inl (.byte, 6), .inl (.byte, 6), .inl (.byte, 6), .inl (.byte, 6), .inl (.byte, 6), .inl (.int, 12), .inl (.int, 12), .inl (.int, 12), .inl (.int, 4), .inl (.int, 6), .inl (.int, 6), .inr (.inr (.inr (8, [none, none, none, none, none, none, some (some 26), some (some 27), some (some 28), some (some 41), some (some 42), some (some 43), some (some 44), some (some 45), some (some 46)]))), .inl (.byte, 8), .inl (.int, 8), .inr (.inr (.inl (.array .byte, [some 29, some 30, some 31, some 32, some 33, some 34, some 35, some 36, some 37, some 38, some 39, some 40]))), .inl (.byte, 6), .inl (.byte, 6), .inl (.byte, 6), .inl (.byte, 6), .inl (.byte, 6), .inl (.byte, 6), .inl (.byte, 6), .inl (.byte, 6), .inl (.byte, 6), .inl (.byte, 6), .inl (.byte, 6), .inl (.byte, 6), .inl (.int, 12), .inl (.int, 12), .inl (.int, 12), .inl (.int, 4), .inl (.int, 6), .inl (.int, 6), .inr (.inr (.inr (6, [some (some 48), none]))), .inl (.byte, 40)]
def mg_14 : aM := (aNew mg_13 48)
set_option maxHeartbeats 8000000 in
set_option maxRecDepth 20000 in
/-- Sounds.<init> -/
theorem ct_9 {l : Launch} {D : va_G} {cA : FieldType → ClassId} {ad adV : Nat → Nat} {z0 : Nat} : aMet l D cA ad adV z0 mX6_init 1 20 1 40 [.inr (.inr (.inl (some 47)))] sg_7 mg_13 none sg_8 mg_14 := by
  refine aMet_of (by decide +kernel) rfl (Nat.le_of_ble_eq_true rfl) (fun p e s m args below meth c al K => ?_)
  refine aw_aload_n (i := 0) K (dOf ck_mX6_init rfl rfl) rfl ?_
  refine aw_objInit (i := 1) K (dOf ck_mX6_init rfl rfl) ⟨wd_293, wd_167, wd_168⟩ (Nat.le_of_ble_eq_true rfl) ⟨Nat.le_of_ble_eq_true rfl, Nat.le_of_ble_eq_true rfl⟩ ?_
  refine aw_aload_n (i := 2) K (dOf ck_mX6_init rfl rfl) rfl ?_
  refine aw_bip (i := 3) K (dOf ck_mX6_init rfl rfl) (v := 40) rfl ?_
  refine aw_newaN (i := 4) (n := 40) (ty := .byte) K (dOf ck_mX6_init rfl rfl) rfl (by decide) wd_272 (Nat.le_of_ble_eq_true rfl) (Nat.le_of_ble_eq_true rfl) (Nat.le_of_ble_eq_true rfl) 48 rfl (fun q48 => ?_)
  refine aw_putr (i := 5) (k := 0) K (dOf ck_mX6_init rfl rfl) rfl rfl (Nat.le_of_ble_eq_true rfl) wd_294 rfl rfl rfl rfl (fitR (by decide +kernel)) ?_
  refine aw_nm (sh' := sg_8) (mm' := mg_14) rfl rfl ?_
  exact aw_vretA K (by decide +kernel) rfl (Nat.le_of_ble_eq_true rfl) (Nat.le_of_ble_eq_true rfl) (pre_app ⟨[], (List.append_nil _).symm⟩)
def sg_9 : List aE := [.inr (.inr (.inr (11, [some (some 1), some (some 25), some (some 47), some none, some none, some none, some none, some none, some none, some none, some none, some none, some none, some none, some none]))), .inr (.inr (.inr (7, [some (some 2), none, none, some (some 3), none, none, none, none, none]))), .inl (.byte, 500), .inr (.inr (.inr (8, [none, none, none, none, none, none, some (some 4), some (some 5), some (some 6), some (some 19), some (some 20), some (some 21), some (some 22), some (some 23), some (some 24)]))), .inl (.byte, 8), .inl (.int, 8), .inr (.inr (.inl (.array .byte, [some 7, some 8, some 9, some 10, some 11, some 12, some 13, some 14, some 15, some 16, some 17, some 18]))), .inl (.byte, 6), .inl (.byte, 6), .inl (.byte, 6), .inl (.byte, 6), .inl (.byte, 6), .inl (.byte, 6), .inl (.byte, 6), .inl (.byte, 6), .inl (.byte, 6), .inl (.byte, 6), .inl (.byte, 6), .inl (.byte, 6), .inl (.int, 12), .inl (.int, 12), .inl (.int, 12), .inl (.int, 4), .inl (.int, 6), .inl (.int, 6), .inr (.inr (.inr (8, [none, none, none, none, none, none, some (some 26), some (some 27), some (some 28), some (some 41), some (some 42), some (some 43), some (some 44), some (some 45), some (some 46)]))), .inl (.byte, 8), .inl (.int, 8), .inr (.inr (.inl (.array .byte, [some 29, some 30, some 31, some 32, some 33, some 34, some 35, some 36, some 37, some 38, some 39, some 40]))), .inl (.byte, 6), .inl (.byte, 6), .inl (.byte, 6), .inl (.byte, 6), .inl (.byte, 6), .inl (.byte, 6), .inl (.byte, 6), .inl (.byte, 6), .inl (.byte, 6), .inl (.byte, 6), .inl (.byte, 6), .inl (.byte, 6), .inl (.int, 12), .inl (.int, 12), .inl (.int, 12), .inl (.int, 4), .inl (.int, 6), .inl (.int, 6), .inr (.inr (.inr (6, [some (some 48), none]))), .inl (.byte, 40), .inr (.inr (.inr (6, [some none, none])))]
def mg_15 : aM := (aNew mg_14 49)
def sg_10 : List aE := [.inr (.inr (.inr (11, [some (some 1), some (some 25), some (some 47), some none, some none, some none, some none, some none, some none, some none, some none, some none, some none, some none, some none]))), .inr (.inr (.inr (7, [some (some 2), none, none, some (some 3), none, none, none, none, none]))), .inl (.byte, 500), .inr (.inr (.inr (8, [none, none, none, none, none, none, some (some 4), some (some 5), some (some 6), some (some 19), some (some 20), some (some 21), some (some 22), some (some 23), some (some 24)]))), .inl (.byte, 8), .inl (.int, 8), .inr (.inr (.inl (.array .byte, [some 7, some 8, some 9, some 10, some 11, some 12, some 13, some 14, some 15, some 16, some 17, some 18]))), .inl (.byte, 6), .inl (.byte, 6), .inl (.byte, 6), .inl (.byte, 6), .inl (.byte, 6), .inl (.byte, 6), .inl (.byte, 6), .inl (.byte, 6), .inl (.byte, 6), .inl (.byte, 6), .inl (.byte, 6), .inl (.byte, 6), .inl (.int, 12), .inl (.int, 12), .inl (.int, 12), .inl (.int, 4), .inl (.int, 6), .inl (.int, 6), .inr (.inr (.inr (8, [none, none, none, none, none, none, some (some 26), some (some 27), some (some 28), some (some 41), some (some 42), some (some 43), some (some 44), some (some 45), some (some 46)]))), .inl (.byte, 8), .inl (.int, 8), .inr (.inr (.inl (.array .byte, [some 29, some 30, some 31, some 32, some 33, some 34, some 35, some 36, some 37, some 38, some 39, some 40]))), .inl (.byte, 6), .inl (.byte, 6), .inl (.byte, 6), .inl (.byte, 6), .inl (.byte, 6), .inl (.byte, 6), .inl (.byte, 6), .inl (.byte, 6), .inl (.byte, 6), .inl (.byte, 6), .inl (.byte, 6), .inl (.byte, 6), .inl (.int, 12), .inl (.int, 12), .inl (.int, 12), .inl (.int, 4), .inl (.int, 6), .inl (.int, 6), .inr (.inr (.inr (6, [some (some 48), none]))), .inl (.byte, 40), .inr (.inr (.inr (6, [some (some 50), none]))), .inl (.byte, 40)]
def mg_16 : aM := (aNew mg_15 50)
set_option maxHeartbeats 8000000 in
set_option maxRecDepth 20000 in
/-- Sounds.<init> -/
theorem ct_10 {l : Launch} {D : va_G} {cA : FieldType → ClassId} {ad adV : Nat → Nat} {z0 : Nat} : aMet l D cA ad adV z0 mX6_init 1 20 1 40 [.inr (.inr (.inl (some 49)))] sg_9 mg_15 none sg_10 mg_16 := by
  refine aMet_of (by decide +kernel) rfl (Nat.le_of_ble_eq_true rfl) (fun p e s m args below meth c al K => ?_)
  refine aw_aload_n (i := 0) K (dOf ck_mX6_init rfl rfl) rfl ?_
  refine aw_objInit (i := 1) K (dOf ck_mX6_init rfl rfl) ⟨wd_293, wd_167, wd_168⟩ (Nat.le_of_ble_eq_true rfl) ⟨Nat.le_of_ble_eq_true rfl, Nat.le_of_ble_eq_true rfl⟩ ?_
  refine aw_aload_n (i := 2) K (dOf ck_mX6_init rfl rfl) rfl ?_
  refine aw_bip (i := 3) K (dOf ck_mX6_init rfl rfl) (v := 40) rfl ?_
  refine aw_newaN (i := 4) (n := 40) (ty := .byte) K (dOf ck_mX6_init rfl rfl) rfl (by decide) wd_272 (Nat.le_of_ble_eq_true rfl) (Nat.le_of_ble_eq_true rfl) (Nat.le_of_ble_eq_true rfl) 50 rfl (fun q50 => ?_)
  refine aw_putr (i := 5) (k := 0) K (dOf ck_mX6_init rfl rfl) rfl rfl (Nat.le_of_ble_eq_true rfl) wd_294 rfl rfl rfl rfl (fitR (by decide +kernel)) ?_
  refine aw_nm (sh' := sg_10) (mm' := mg_16) rfl rfl ?_
  exact aw_vretA K (by decide +kernel) rfl (Nat.le_of_ble_eq_true rfl) (Nat.le_of_ble_eq_true rfl) (pre_app ⟨[], (List.append_nil _).symm⟩)
def sg_11 : List aE := [.inr (.inr (.inr (11, [some (some 1), some (some 25), some (some 47), some (some 49), some none, some none, some none, some none, some none, some none, some none, some none, some none, some none, some none]))), .inr (.inr (.inr (7, [some (some 2), none, none, some (some 3), none, none, none, none, none]))), .inl (.byte, 500), .inr (.inr (.inr (8, [none, none, none, none, none, none, some (some 4), some (some 5), some (some 6), some (some 19), some (some 20), some (some 21), some (some 22), some (some 23), some (some 24)]))), .inl (.byte, 8), .inl (.int, 8), .inr (.inr (.inl (.array .byte, [some 7, some 8, some 9, some 10, some 11, some 12, some 13, some 14, some 15, some 16, some 17, some 18]))), .inl (.byte, 6), .inl (.byte, 6), .inl (.byte, 6), .inl (.byte, 6), .inl (.byte, 6), .inl (.byte, 6), .inl (.byte, 6), .inl (.byte, 6), .inl (.byte, 6), .inl (.byte, 6), .inl (.byte, 6), .inl (.byte, 6), .inl (.int, 12), .inl (.int, 12), .inl (.int, 12), .inl (.int, 4), .inl (.int, 6), .inl (.int, 6), .inr (.inr (.inr (8, [none, none, none, none, none, none, some (some 26), some (some 27), some (some 28), some (some 41), some (some 42), some (some 43), some (some 44), some (some 45), some (some 46)]))), .inl (.byte, 8), .inl (.int, 8), .inr (.inr (.inl (.array .byte, [some 29, some 30, some 31, some 32, some 33, some 34, some 35, some 36, some 37, some 38, some 39, some 40]))), .inl (.byte, 6), .inl (.byte, 6), .inl (.byte, 6), .inl (.byte, 6), .inl (.byte, 6), .inl (.byte, 6), .inl (.byte, 6), .inl (.byte, 6), .inl (.byte, 6), .inl (.byte, 6), .inl (.byte, 6), .inl (.byte, 6), .inl (.int, 12), .inl (.int, 12), .inl (.int, 12), .inl (.int, 4), .inl (.int, 6), .inl (.int, 6), .inr (.inr (.inr (6, [some (some 48), none]))), .inl (.byte, 40), .inr (.inr (.inr (6, [some (some 50), none]))), .inl (.byte, 40), .inr (.inr (.inr (5, [some none, some none, some none])))]
def mg_17 : aM := (aNew mg_16 51)
def sg_12 : List aE := [.inr (.inr (.inr (11, [some (some 1), some (some 25), some (some 47), some (some 49), some none, some none, some none, some none, some none, some none, some none, some none, some none, some none, some none]))), .inr (.inr (.inr (7, [some (some 2), none, none, some (some 3), none, none, none, none, none]))), .inl (.byte, 500), .inr (.inr (.inr (8, [none, none, none, none, none, none, some (some 4), some (some 5), some (some 6), some (some 19), some (some 20), some (some 21), some (some 22), some (some 23), some (some 24)]))), .inl (.byte, 8), .inl (.int, 8), .inr (.inr (.inl (.array .byte, [some 7, some 8, some 9, some 10, some 11, some 12, some 13, some 14, some 15, some 16, some 17, some 18]))), .inl (.byte, 6), .inl (.byte, 6), .inl (.byte, 6), .inl (.byte, 6), .inl (.byte, 6), .inl (.byte, 6), .inl (.byte, 6), .inl (.byte, 6), .inl (.byte, 6), .inl (.byte, 6), .inl (.byte, 6), .inl (.byte, 6), .inl (.int, 12), .inl (.int, 12), .inl (.int, 12), .inl (.int, 4), .inl (.int, 6), .inl (.int, 6), .inr (.inr (.inr (8, [none, none, none, none, none, none, some (some 26), some (some 27), some (some 28), some (some 41), some (some 42), some (some 43), some (some 44), some (some 45), some (some 46)]))), .inl (.byte, 8), .inl (.int, 8), .inr (.inr (.inl (.array .byte, [some 29, some 30, some 31, some 32, some 33, some 34, some 35, some 36, some 37, some 38, some 39, some 40]))), .inl (.byte, 6), .inl (.byte, 6), .inl (.byte, 6), .inl (.byte, 6), .inl (.byte, 6), .inl (.byte, 6), .inl (.byte, 6), .inl (.byte, 6), .inl (.byte, 6), .inl (.byte, 6), .inl (.byte, 6), .inl (.byte, 6), .inl (.int, 12), .inl (.int, 12), .inl (.int, 12), .inl (.int, 4), .inl (.int, 6), .inl (.int, 6), .inr (.inr (.inr (6, [some (some 48), none]))), .inl (.byte, 40), .inr (.inr (.inr (6, [some (some 50), none]))), .inl (.byte, 40), .inr (.inr (.inr (5, [some (some 52), some (some 57), some (some 58)]))), .inr (.inr (.inl (.array .long, [some 53, some 54, some 55, some 56]))), .inr (.inl 40), .inr (.inl 40), .inr (.inl 40), .inr (.inl 40), .inl (.int, 4), .inl (.int, 4)]
def mg_18 : aM := (aNew (aup (aup (aup (aup (aNew (aNewR mg_17 52 5) 57) 57 0 (-1)) 57 1 (-1)) 57 2 (-1)) 57 3 (-1)) 58)
set_option maxHeartbeats 8000000 in
set_option maxRecDepth 20000 in
/-- Rows.<init> -/
theorem ct_11 {l : Launch} {D : va_G} {cA : FieldType → ClassId} {ad adV : Nat → Nat} {z0 : Nat} : aMet l D cA ad adV z0 mX5_init 1 20 7 172 [.inr (.inr (.inl (some 51)))] sg_11 mg_17 none sg_12 mg_18 := by
  refine aMet_of (by decide +kernel) rfl (Nat.le_of_ble_eq_true rfl) (fun p e s m args below meth c al K => ?_)
  refine aw_aload_n (i := 0) K (dOf ck_mX5_init rfl rfl) rfl ?_
  refine aw_objInit (i := 1) K (dOf ck_mX5_init rfl rfl) ⟨wd_310, wd_167, wd_168⟩ (Nat.le_of_ble_eq_true rfl) ⟨Nat.le_of_ble_eq_true rfl, Nat.le_of_ble_eq_true rfl⟩ ?_
  refine aw_aload_n (i := 2) K (dOf ck_mX5_init rfl rfl) rfl ?_
  refine aw_iconst (i := 3) K (n := 4) (i32 _ rfl) (dOf ck_mX5_init rfl rfl) ?_
  refine aw_bip (i := 4) K (dOf ck_mX5_init rfl rfl) (v := 40) rfl ?_
  refine aw_mnaN (i := 5) (n := 4) (k := 40) (ty := .long) K (dOf ck_mX5_init rfl rfl) wd_311 (Or.inr ⟨rfl, rfl⟩) wd_318 (Nat.le_of_ble_eq_true rfl) (Nat.le_of_ble_eq_true rfl) (Nat.le_of_ble_eq_true rfl) (Nat.le_of_ble_eq_true rfl) 52 rfl (fun bl52 => ?_)
  refine aw_putr (i := 6) (k := 0) K (dOf ck_mX5_init rfl rfl) rfl rfl (Nat.le_of_ble_eq_true rfl) wd_312 rfl rfl rfl rfl (fitR (by decide +kernel)) ?_
  refine aw_aload_n (i := 7) K (dOf ck_mX5_init rfl rfl) rfl ?_
  refine aw_iconst (i := 8) K (n := 4) (i32 _ rfl) (dOf ck_mX5_init rfl rfl) ?_
  refine aw_newaN (i := 9) (n := 4) (ty := .int) K (dOf ck_mX5_init rfl rfl) rfl (by decide) wd_273 (Nat.le_of_ble_eq_true rfl) (Nat.le_of_ble_eq_true rfl) (Nat.le_of_ble_eq_true rfl) 57 rfl (fun q57 => ?_)
  refine aw_dup (i := 10) K rfl (dOf ck_mX5_init rfl rfl) ?_
  refine aw_iconst (i := 11) K (n := 0) (i32 _ rfl) (dOf ck_mX5_init rfl rfl) ?_
  refine aw_iconst (i := 12) K (n := -1) (i32 _ rfl) (dOf ck_mX5_init rfl rfl) ?_
  refine aw_iast (i := 13) K (dOf ck_mX5_init rfl rfl) rfl (by decide) ?_
  refine aw_dup (i := 14) K rfl (dOf ck_mX5_init rfl rfl) ?_
  refine aw_iconst (i := 15) K (n := 1) (i32 _ rfl) (dOf ck_mX5_init rfl rfl) ?_
  refine aw_iconst (i := 16) K (n := -1) (i32 _ rfl) (dOf ck_mX5_init rfl rfl) ?_
  refine aw_iast (i := 17) K (dOf ck_mX5_init rfl rfl) rfl (by decide) ?_
  refine aw_dup (i := 18) K rfl (dOf ck_mX5_init rfl rfl) ?_
  refine aw_iconst (i := 19) K (n := 2) (i32 _ rfl) (dOf ck_mX5_init rfl rfl) ?_
  refine aw_iconst (i := 20) K (n := -1) (i32 _ rfl) (dOf ck_mX5_init rfl rfl) ?_
  refine aw_iast (i := 21) K (dOf ck_mX5_init rfl rfl) rfl (by decide) ?_
  refine aw_dup (i := 22) K rfl (dOf ck_mX5_init rfl rfl) ?_
  refine aw_iconst (i := 23) K (n := 3) (i32 _ rfl) (dOf ck_mX5_init rfl rfl) ?_
  refine aw_iconst (i := 24) K (n := -1) (i32 _ rfl) (dOf ck_mX5_init rfl rfl) ?_
  refine aw_iast (i := 25) K (dOf ck_mX5_init rfl rfl) rfl (by decide) ?_
  refine aw_putr (i := 26) (k := 1) K (dOf ck_mX5_init rfl rfl) rfl rfl (Nat.le_of_ble_eq_true rfl) wd_314 rfl rfl rfl rfl (fitR (by decide +kernel)) ?_
  refine aw_aload_n (i := 27) K (dOf ck_mX5_init rfl rfl) rfl ?_
  refine aw_iconst (i := 28) K (n := 4) (i32 _ rfl) (dOf ck_mX5_init rfl rfl) ?_
  refine aw_newaN (i := 29) (n := 4) (ty := .int) K (dOf ck_mX5_init rfl rfl) rfl (by decide) wd_273 (Nat.le_of_ble_eq_true rfl) (Nat.le_of_ble_eq_true rfl) (Nat.le_of_ble_eq_true rfl) 58 rfl (fun q58 => ?_)
  refine aw_putr (i := 30) (k := 2) K (dOf ck_mX5_init rfl rfl) rfl rfl (Nat.le_of_ble_eq_true rfl) wd_317 rfl rfl rfl rfl (fitR (by decide +kernel)) ?_
  refine aw_nm (sh' := sg_12) (mm' := mg_18) rfl rfl ?_
  exact aw_vretA K (by decide +kernel) rfl (Nat.le_of_ble_eq_true rfl) (Nat.le_of_ble_eq_true rfl) (pre_app (pre_app (pre_app ⟨[], (List.append_nil _).symm⟩)))
def sg_13 : List aE := [.inr (.inr (.inr (11, [some (some 1), some (some 25), some (some 47), some (some 49), some (some 51), some none, some none, some none, some none, some none, some none, some none, some none, some none, some none]))), .inr (.inr (.inr (7, [some (some 2), none, none, some (some 3), none, none, none, none, none]))), .inl (.byte, 500), .inr (.inr (.inr (8, [none, none, none, none, none, none, some (some 4), some (some 5), some (some 6), some (some 19), some (some 20), some (some 21), some (some 22), some (some 23), some (some 24)]))), .inl (.byte, 8), .inl (.int, 8), .inr (.inr (.inl (.array .byte, [some 7, some 8, some 9, some 10, some 11, some 12, some 13, some 14, some 15, some 16, some 17, some 18]))), .inl (.byte, 6), .inl (.byte, 6), .inl (.byte, 6), .inl (.byte, 6), .inl (.byte, 6), .inl (.byte, 6), .inl (.byte, 6), .inl (.byte, 6), .inl (.byte, 6), .inl (.byte, 6), .inl (.byte, 6), .inl (.byte, 6), .inl (.int, 12), .inl (.int, 12), .inl (.int, 12), .inl (.int, 4), .inl (.int, 6), .inl (.int, 6), .inr (.inr (.inr (8, [none, none, none, none, none, none, some (some 26), some (some 27), some (some 28), some (some 41), some (some 42), some (some 43), some (some 44), some (some 45), some (some 46)]))), .inl (.byte, 8), .inl (.int, 8), .inr (.inr (.inl (.array .byte, [some 29, some 30, some 31, some 32, some 33, some 34, some 35, some 36, some 37, some 38, some 39, some 40]))), .inl (.byte, 6), .inl (.byte, 6), .inl (.byte, 6), .inl (.byte, 6), .inl (.byte, 6), .inl (.byte, 6), .inl (.byte, 6), .inl (.byte, 6), .inl (.byte, 6), .inl (.byte, 6), .inl (.byte, 6), .inl (.byte, 6), .inl (.int, 12), .inl (.int, 12), .inl (.int, 12), .inl (.int, 4), .inl (.int, 6), .inl (.int, 6), .inr (.inr (.inr (6, [some (some 48), none]))), .inl (.byte, 40), .inr (.inr (.inr (6, [some (some 50), none]))), .inl (.byte, 40), .inr (.inr (.inr (5, [some (some 52), some (some 57), some (some 58)]))), .inr (.inr (.inl (.array .long, [some 53, some 54, some 55, some 56]))), .inr (.inl 40), .inr (.inl 40), .inr (.inl 40), .inr (.inl 40), .inl (.int, 4), .inl (.int, 4), .inr (.inr (.inr (10, [some none, none, none, none, none, none])))]
def mg_19 : aM := (aNew mg_18 59)
def sg_14 : List aE := [.inr (.inr (.inr (11, [some (some 1), some (some 25), some (some 47), some (some 49), some (some 51), some none, some none, some none, some none, some none, some none, some none, some none, some none, some none]))), .inr (.inr (.inr (7, [some (some 2), none, none, some (some 3), none, none, none, none, none]))), .inl (.byte, 500), .inr (.inr (.inr (8, [none, none, none, none, none, none, some (some 4), some (some 5), some (some 6), some (some 19), some (some 20), some (some 21), some (some 22), some (some 23), some (some 24)]))), .inl (.byte, 8), .inl (.int, 8), .inr (.inr (.inl (.array .byte, [some 7, some 8, some 9, some 10, some 11, some 12, some 13, some 14, some 15, some 16, some 17, some 18]))), .inl (.byte, 6), .inl (.byte, 6), .inl (.byte, 6), .inl (.byte, 6), .inl (.byte, 6), .inl (.byte, 6), .inl (.byte, 6), .inl (.byte, 6), .inl (.byte, 6), .inl (.byte, 6), .inl (.byte, 6), .inl (.byte, 6), .inl (.int, 12), .inl (.int, 12), .inl (.int, 12), .inl (.int, 4), .inl (.int, 6), .inl (.int, 6), .inr (.inr (.inr (8, [none, none, none, none, none, none, some (some 26), some (some 27), some (some 28), some (some 41), some (some 42), some (some 43), some (some 44), some (some 45), some (some 46)]))), .inl (.byte, 8), .inl (.int, 8), .inr (.inr (.inl (.array .byte, [some 29, some 30, some 31, some 32, some 33, some 34, some 35, some 36, some 37, some 38, some 39, some 40]))), .inl (.byte, 6), .inl (.byte, 6), .inl (.byte, 6), .inl (.byte, 6), .inl (.byte, 6), .inl (.byte, 6), .inl (.byte, 6), .inl (.byte, 6), .inl (.byte, 6), .inl (.byte, 6), .inl (.byte, 6), .inl (.byte, 6), .inl (.int, 12), .inl (.int, 12), .inl (.int, 12), .inl (.int, 4), .inl (.int, 6), .inl (.int, 6), .inr (.inr (.inr (6, [some (some 48), none]))), .inl (.byte, 40), .inr (.inr (.inr (6, [some (some 50), none]))), .inl (.byte, 40), .inr (.inr (.inr (5, [some (some 52), some (some 57), some (some 58)]))), .inr (.inr (.inl (.array .long, [some 53, some 54, some 55, some 56]))), .inr (.inl 40), .inr (.inl 40), .inr (.inl 40), .inr (.inl 40), .inl (.int, 4), .inl (.int, 4), .inr (.inr (.inr (10, [some (some 60), none, none, none, none, none]))), .inl (.int, 40)]
def mg_20 : aM := (aNew mg_19 60)
set_option maxHeartbeats 8000000 in
set_option maxRecDepth 20000 in
/-- Verdict.<init> -/
theorem ct_12 {l : Launch} {D : va_G} {cA : FieldType → ClassId} {ad adV : Nat → Nat} {z0 : Nat} : aMet l D cA ad adV z0 mX10_init 1 20 1 40 [.inr (.inr (.inl (some 59)))] sg_13 mg_19 none sg_14 mg_20 := by
  refine aMet_of (by decide +kernel) rfl (Nat.le_of_ble_eq_true rfl) (fun p e s m args below meth c al K => ?_)
  refine aw_aload_n (i := 0) K (dOf ck_mX10_init rfl rfl) rfl ?_
  refine aw_objInit (i := 1) K (dOf ck_mX10_init rfl rfl) ⟨wd_323, wd_167, wd_168⟩ (Nat.le_of_ble_eq_true rfl) ⟨Nat.le_of_ble_eq_true rfl, Nat.le_of_ble_eq_true rfl⟩ ?_
  refine aw_aload_n (i := 2) K (dOf ck_mX10_init rfl rfl) rfl ?_
  refine aw_bip (i := 3) K (dOf ck_mX10_init rfl rfl) (v := 40) rfl ?_
  refine aw_newaN (i := 4) (n := 40) (ty := .int) K (dOf ck_mX10_init rfl rfl) rfl (by decide) wd_273 (Nat.le_of_ble_eq_true rfl) (Nat.le_of_ble_eq_true rfl) (Nat.le_of_ble_eq_true rfl) 60 rfl (fun q60 => ?_)
  refine aw_putr (i := 5) (k := 0) K (dOf ck_mX10_init rfl rfl) rfl rfl (Nat.le_of_ble_eq_true rfl) wd_324 rfl rfl rfl rfl (fitR (by decide +kernel)) ?_
  refine aw_nm (sh' := sg_14) (mm' := mg_20) rfl rfl ?_
  exact aw_vretA K (by decide +kernel) rfl (Nat.le_of_ble_eq_true rfl) (Nat.le_of_ble_eq_true rfl) (pre_app ⟨[], (List.append_nil _).symm⟩)
def sg_15 : List aE := [.inr (.inr (.inr (11, [some (some 1), some (some 25), some (some 47), some (some 49), some (some 51), some (some 59), some none, some none, some none, some none, some none, some none, some none, some none, some none]))), .inr (.inr (.inr (7, [some (some 2), none, none, some (some 3), none, none, none, none, none]))), .inl (.byte, 500), .inr (.inr (.inr (8, [none, none, none, none, none, none, some (some 4), some (some 5), some (some 6), some (some 19), some (some 20), some (some 21), some (some 22), some (some 23), some (some 24)]))), .inl (.byte, 8), .inl (.int, 8), .inr (.inr (.inl (.array .byte, [some 7, some 8, some 9, some 10, some 11, some 12, some 13, some 14, some 15, some 16, some 17, some 18]))), .inl (.byte, 6), .inl (.byte, 6), .inl (.byte, 6), .inl (.byte, 6), .inl (.byte, 6), .inl (.byte, 6), .inl (.byte, 6), .inl (.byte, 6), .inl (.byte, 6), .inl (.byte, 6), .inl (.byte, 6), .inl (.byte, 6), .inl (.int, 12), .inl (.int, 12), .inl (.int, 12), .inl (.int, 4), .inl (.int, 6), .inl (.int, 6), .inr (.inr (.inr (8, [none, none, none, none, none, none, some (some 26), some (some 27), some (some 28), some (some 41), some (some 42), some (some 43), some (some 44), some (some 45), some (some 46)]))), .inl (.byte, 8), .inl (.int, 8), .inr (.inr (.inl (.array .byte, [some 29, some 30, some 31, some 32, some 33, some 34, some 35, some 36, some 37, some 38, some 39, some 40]))), .inl (.byte, 6), .inl (.byte, 6), .inl (.byte, 6), .inl (.byte, 6), .inl (.byte, 6), .inl (.byte, 6), .inl (.byte, 6), .inl (.byte, 6), .inl (.byte, 6), .inl (.byte, 6), .inl (.byte, 6), .inl (.byte, 6), .inl (.int, 12), .inl (.int, 12), .inl (.int, 12), .inl (.int, 4), .inl (.int, 6), .inl (.int, 6), .inr (.inr (.inr (6, [some (some 48), none]))), .inl (.byte, 40), .inr (.inr (.inr (6, [some (some 50), none]))), .inl (.byte, 40), .inr (.inr (.inr (5, [some (some 52), some (some 57), some (some 58)]))), .inr (.inr (.inl (.array .long, [some 53, some 54, some 55, some 56]))), .inr (.inl 40), .inr (.inl 40), .inr (.inl 40), .inr (.inl 40), .inl (.int, 4), .inl (.int, 4), .inr (.inr (.inr (10, [some (some 60), none, none, none, none, none]))), .inl (.int, 40), .inr (.inr (.inr (1, [some none, none, some none, some none, some none, none, some none, some none, none, none])))]
def mg_21 : aM := (aNew mg_20 61)
def sg_16 : List aE := [.inr (.inr (.inr (11, [some (some 1), some (some 25), some (some 47), some (some 49), some (some 51), some (some 59), some none, some none, some none, some none, some none, some none, some none, some none, some none]))), .inr (.inr (.inr (7, [some (some 2), none, none, some (some 3), none, none, none, none, none]))), .inl (.byte, 500), .inr (.inr (.inr (8, [none, none, none, none, none, none, some (some 4), some (some 5), some (some 6), some (some 19), some (some 20), some (some 21), some (some 22), some (some 23), some (some 24)]))), .inl (.byte, 8), .inl (.int, 8), .inr (.inr (.inl (.array .byte, [some 7, some 8, some 9, some 10, some 11, some 12, some 13, some 14, some 15, some 16, some 17, some 18]))), .inl (.byte, 6), .inl (.byte, 6), .inl (.byte, 6), .inl (.byte, 6), .inl (.byte, 6), .inl (.byte, 6), .inl (.byte, 6), .inl (.byte, 6), .inl (.byte, 6), .inl (.byte, 6), .inl (.byte, 6), .inl (.byte, 6), .inl (.int, 12), .inl (.int, 12), .inl (.int, 12), .inl (.int, 4), .inl (.int, 6), .inl (.int, 6), .inr (.inr (.inr (8, [none, none, none, none, none, none, some (some 26), some (some 27), some (some 28), some (some 41), some (some 42), some (some 43), some (some 44), some (some 45), some (some 46)]))), .inl (.byte, 8), .inl (.int, 8), .inr (.inr (.inl (.array .byte, [some 29, some 30, some 31, some 32, some 33, some 34, some 35, some 36, some 37, some 38, some 39, some 40]))), .inl (.byte, 6), .inl (.byte, 6), .inl (.byte, 6), .inl (.byte, 6), .inl (.byte, 6), .inl (.byte, 6), .inl (.byte, 6), .inl (.byte, 6), .inl (.byte, 6), .inl (.byte, 6), .inl (.byte, 6), .inl (.byte, 6), .inl (.int, 12), .inl (.int, 12), .inl (.int, 12), .inl (.int, 4), .inl (.int, 6), .inl (.int, 6), .inr (.inr (.inr (6, [some (some 48), none]))), .inl (.byte, 40), .inr (.inr (.inr (6, [some (some 50), none]))), .inl (.byte, 40), .inr (.inr (.inr (5, [some (some 52), some (some 57), some (some 58)]))), .inr (.inr (.inl (.array .long, [some 53, some 54, some 55, some 56]))), .inr (.inl 40), .inr (.inl 40), .inr (.inl 40), .inr (.inl 40), .inl (.int, 4), .inl (.int, 4), .inr (.inr (.inr (10, [some (some 60), none, none, none, none, none]))), .inl (.int, 40), .inr (.inr (.inr (1, [some (some 25), none, some (some 62), some (some 63), some (some 64), none, some (some 65), some (some 66), none, none]))), .inl (.byte, 720), .inl (.int, 305), .inr (.inl 915), .inl (.int, 60), .inl (.int, 60)]
def mg_22 : aM := (aup (aNew (aNew (aNew (aNew (aNew mg_21 62) 63) 64) 65) 66) 61 9 (-1))
set_option maxHeartbeats 8000000 in
set_option maxRecDepth 20000 in
/-- Cutter.<init> -/
theorem ct_13 {l : Launch} {D : va_G} {cA : FieldType → ClassId} {ad adV : Nat → Nat} {z0 : Nat} : aMet l D cA ad adV z0 mX1_init 1 20 5 2060 [.inr (.inr (.inl (some 61))), .inr (.inr (.inl (some 25)))] sg_15 mg_21 none sg_16 mg_22 := by
  refine aMet_of (by decide +kernel) rfl (Nat.le_of_ble_eq_true rfl) (fun p e s m args below meth c al K => ?_)
  refine aw_aload_n (i := 0) K (dOf ck_mX1_init rfl rfl) rfl ?_
  refine aw_objInit (i := 1) K (dOf ck_mX1_init rfl rfl) ⟨wd_341, wd_167, wd_168⟩ (Nat.le_of_ble_eq_true rfl) ⟨Nat.le_of_ble_eq_true rfl, Nat.le_of_ble_eq_true rfl⟩ ?_
  refine aw_aload_n (i := 2) K (dOf ck_mX1_init rfl rfl) rfl ?_
  refine aw_sip (i := 3) K (dOf ck_mX1_init rfl rfl) (v := 720) rfl ?_
  refine aw_newaN (i := 4) (n := 720) (ty := .byte) K (dOf ck_mX1_init rfl rfl) rfl (by decide) wd_272 (Nat.le_of_ble_eq_true rfl) (Nat.le_of_ble_eq_true rfl) (Nat.le_of_ble_eq_true rfl) 62 rfl (fun q62 => ?_)
  refine aw_putr (i := 5) (k := 2) K (dOf ck_mX1_init rfl rfl) rfl rfl (Nat.le_of_ble_eq_true rfl) wd_344 rfl rfl rfl rfl (fitR (by decide +kernel)) ?_
  refine aw_aload_n (i := 6) K (dOf ck_mX1_init rfl rfl) rfl ?_
  refine aw_sip (i := 7) K (dOf ck_mX1_init rfl rfl) (v := 305) rfl ?_
  refine aw_newaN (i := 8) (n := 305) (ty := .int) K (dOf ck_mX1_init rfl rfl) rfl (by decide) wd_273 (Nat.le_of_ble_eq_true rfl) (Nat.le_of_ble_eq_true rfl) (Nat.le_of_ble_eq_true rfl) 63 rfl (fun q63 => ?_)
  refine aw_putr (i := 9) (k := 3) K (dOf ck_mX1_init rfl rfl) rfl rfl (Nat.le_of_ble_eq_true rfl) wd_345 rfl rfl rfl rfl (fitR (by decide +kernel)) ?_
  refine aw_aload_n (i := 10) K (dOf ck_mX1_init rfl rfl) rfl ?_
  refine aw_sip (i := 11) K (dOf ck_mX1_init rfl rfl) (v := 915) rfl ?_
  refine aw_newlN (i := 12) (n := 915) K (dOf ck_mX1_init rfl rfl) wd_318 (Nat.le_of_ble_eq_true rfl) (Nat.le_of_ble_eq_true rfl) (Nat.le_of_ble_eq_true rfl) 64 rfl (fun q64 => ?_)
  refine aw_putr (i := 13) (k := 4) K (dOf ck_mX1_init rfl rfl) rfl rfl (Nat.le_of_ble_eq_true rfl) wd_346 rfl rfl rfl rfl (fitR (by decide +kernel)) ?_
  refine aw_aload_n (i := 14) K (dOf ck_mX1_init rfl rfl) rfl ?_
  refine aw_bip (i := 15) K (dOf ck_mX1_init rfl rfl) (v := 60) rfl ?_
  refine aw_newaN (i := 16) (n := 60) (ty := .int) K (dOf ck_mX1_init rfl rfl) rfl (by decide) wd_273 (Nat.le_of_ble_eq_true rfl) (Nat.le_of_ble_eq_true rfl) (Nat.le_of_ble_eq_true rfl) 65 rfl (fun q65 => ?_)
  refine aw_putr (i := 17) (k := 6) K (dOf ck_mX1_init rfl rfl) rfl rfl (Nat.le_of_ble_eq_true rfl) wd_348 rfl rfl rfl rfl (fitR (by decide +kernel)) ?_
  refine aw_aload_n (i := 18) K (dOf ck_mX1_init rfl rfl) rfl ?_
  refine aw_bip (i := 19) K (dOf ck_mX1_init rfl rfl) (v := 60) rfl ?_
  refine aw_newaN (i := 20) (n := 60) (ty := .int) K (dOf ck_mX1_init rfl rfl) rfl (by decide) wd_273 (Nat.le_of_ble_eq_true rfl) (Nat.le_of_ble_eq_true rfl) (Nat.le_of_ble_eq_true rfl) 66 rfl (fun q66 => ?_)
  refine aw_putr (i := 21) (k := 7) K (dOf ck_mX1_init rfl rfl) rfl rfl (Nat.le_of_ble_eq_true rfl) wd_351 rfl rfl rfl rfl (fitR (by decide +kernel)) ?_
  refine aw_aload_n (i := 22) K (dOf ck_mX1_init rfl rfl) rfl ?_
  refine aw_iconst (i := 23) K (n := -1) (i32 _ rfl) (dOf ck_mX1_init rfl rfl) ?_
  refine aw_putf (i := 24) (k := 9) K (dOf ck_mX1_init rfl rfl) rfl rfl (Nat.le_of_ble_eq_true rfl) wd_355 rfl rfl (Or.inl rfl) ?_
  refine aw_aload_n (i := 25) K (dOf ck_mX1_init rfl rfl) rfl ?_
  refine aw_aload_n (i := 26) K (dOf ck_mX1_init rfl rfl) rfl ?_
  refine aw_putr (i := 27) (k := 0) K (dOf ck_mX1_init rfl rfl) rfl rfl (Nat.le_of_ble_eq_true rfl) wd_342 rfl rfl rfl rfl (fitR (by decide +kernel)) ?_
  refine aw_nm (sh' := sg_16) (mm' := mg_22) rfl rfl ?_
  exact aw_vretA K (by decide +kernel) rfl (Nat.le_of_ble_eq_true rfl) (Nat.le_of_ble_eq_true rfl) (pre_app (pre_app (pre_app (pre_app (pre_app ⟨[], (List.append_nil _).symm⟩)))))
def sg_17 : List aE := [.inr (.inr (.inr (11, [some (some 1), some (some 25), some (some 47), some (some 49), some (some 51), some (some 59), some (some 61), some none, some none, some none, some none, some none, some none, some none, some none]))), .inr (.inr (.inr (7, [some (some 2), none, none, some (some 3), none, none, none, none, none]))), .inl (.byte, 500), .inr (.inr (.inr (8, [none, none, none, none, none, none, some (some 4), some (some 5), some (some 6), some (some 19), some (some 20), some (some 21), some (some 22), some (some 23), some (some 24)]))), .inl (.byte, 8), .inl (.int, 8), .inr (.inr (.inl (.array .byte, [some 7, some 8, some 9, some 10, some 11, some 12, some 13, some 14, some 15, some 16, some 17, some 18]))), .inl (.byte, 6), .inl (.byte, 6), .inl (.byte, 6), .inl (.byte, 6), .inl (.byte, 6), .inl (.byte, 6), .inl (.byte, 6), .inl (.byte, 6), .inl (.byte, 6), .inl (.byte, 6), .inl (.byte, 6), .inl (.byte, 6), .inl (.int, 12), .inl (.int, 12), .inl (.int, 12), .inl (.int, 4), .inl (.int, 6), .inl (.int, 6), .inr (.inr (.inr (8, [none, none, none, none, none, none, some (some 26), some (some 27), some (some 28), some (some 41), some (some 42), some (some 43), some (some 44), some (some 45), some (some 46)]))), .inl (.byte, 8), .inl (.int, 8), .inr (.inr (.inl (.array .byte, [some 29, some 30, some 31, some 32, some 33, some 34, some 35, some 36, some 37, some 38, some 39, some 40]))), .inl (.byte, 6), .inl (.byte, 6), .inl (.byte, 6), .inl (.byte, 6), .inl (.byte, 6), .inl (.byte, 6), .inl (.byte, 6), .inl (.byte, 6), .inl (.byte, 6), .inl (.byte, 6), .inl (.byte, 6), .inl (.byte, 6), .inl (.int, 12), .inl (.int, 12), .inl (.int, 12), .inl (.int, 4), .inl (.int, 6), .inl (.int, 6), .inr (.inr (.inr (6, [some (some 48), none]))), .inl (.byte, 40), .inr (.inr (.inr (6, [some (some 50), none]))), .inl (.byte, 40), .inr (.inr (.inr (5, [some (some 52), some (some 57), some (some 58)]))), .inr (.inr (.inl (.array .long, [some 53, some 54, some 55, some 56]))), .inr (.inl 40), .inr (.inl 40), .inr (.inl 40), .inr (.inl 40), .inl (.int, 4), .inl (.int, 4), .inr (.inr (.inr (10, [some (some 60), none, none, none, none, none]))), .inl (.int, 40), .inr (.inr (.inr (1, [some (some 25), none, some (some 62), some (some 63), some (some 64), none, some (some 65), some (some 66), none, none]))), .inl (.byte, 720), .inl (.int, 305), .inr (.inl 915), .inl (.int, 60), .inl (.int, 60), .inr (.inr (.inr (1, [some none, none, some none, some none, some none, none, some none, some none, none, none])))]
def mg_23 : aM := (aNew mg_22 67)
def sg_18 : List aE := [.inr (.inr (.inr (11, [some (some 1), some (some 25), some (some 47), some (some 49), some (some 51), some (some 59), some (some 61), some none, some none, some none, some none, some none, some none, some none, some none]))), .inr (.inr (.inr (7, [some (some 2), none, none, some (some 3), none, none, none, none, none]))), .inl (.byte, 500), .inr (.inr (.inr (8, [none, none, none, none, none, none, some (some 4), some (some 5), some (some 6), some (some 19), some (some 20), some (some 21), some (some 22), some (some 23), some (some 24)]))), .inl (.byte, 8), .inl (.int, 8), .inr (.inr (.inl (.array .byte, [some 7, some 8, some 9, some 10, some 11, some 12, some 13, some 14, some 15, some 16, some 17, some 18]))), .inl (.byte, 6), .inl (.byte, 6), .inl (.byte, 6), .inl (.byte, 6), .inl (.byte, 6), .inl (.byte, 6), .inl (.byte, 6), .inl (.byte, 6), .inl (.byte, 6), .inl (.byte, 6), .inl (.byte, 6), .inl (.byte, 6), .inl (.int, 12), .inl (.int, 12), .inl (.int, 12), .inl (.int, 4), .inl (.int, 6), .inl (.int, 6), .inr (.inr (.inr (8, [none, none, none, none, none, none, some (some 26), some (some 27), some (some 28), some (some 41), some (some 42), some (some 43), some (some 44), some (some 45), some (some 46)]))), .inl (.byte, 8), .inl (.int, 8), .inr (.inr (.inl (.array .byte, [some 29, some 30, some 31, some 32, some 33, some 34, some 35, some 36, some 37, some 38, some 39, some 40]))), .inl (.byte, 6), .inl (.byte, 6), .inl (.byte, 6), .inl (.byte, 6), .inl (.byte, 6), .inl (.byte, 6), .inl (.byte, 6), .inl (.byte, 6), .inl (.byte, 6), .inl (.byte, 6), .inl (.byte, 6), .inl (.byte, 6), .inl (.int, 12), .inl (.int, 12), .inl (.int, 12), .inl (.int, 4), .inl (.int, 6), .inl (.int, 6), .inr (.inr (.inr (6, [some (some 48), none]))), .inl (.byte, 40), .inr (.inr (.inr (6, [some (some 50), none]))), .inl (.byte, 40), .inr (.inr (.inr (5, [some (some 52), some (some 57), some (some 58)]))), .inr (.inr (.inl (.array .long, [some 53, some 54, some 55, some 56]))), .inr (.inl 40), .inr (.inl 40), .inr (.inl 40), .inr (.inl 40), .inl (.int, 4), .inl (.int, 4), .inr (.inr (.inr (10, [some (some 60), none, none, none, none, none]))), .inl (.int, 40), .inr (.inr (.inr (1, [some (some 25), none, some (some 62), some (some 63), some (some 64), none, some (some 65), some (some 66), none, none]))), .inl (.byte, 720), .inl (.int, 305), .inr (.inl 915), .inl (.int, 60), .inl (.int, 60), .inr (.inr (.inr (1, [some (some 25), none, some (some 68), some (some 69), some (some 70), none, some (some 71), some (some 72), none, none]))), .inl (.byte, 720), .inl (.int, 305), .inr (.inl 915), .inl (.int, 60), .inl (.int, 60)]
def mg_24 : aM := (aup (aNew (aNew (aNew (aNew (aNew mg_23 68) 69) 70) 71) 72) 67 9 (-1))
set_option maxHeartbeats 8000000 in
set_option maxRecDepth 20000 in
/-- Cutter.<init> -/
theorem ct_14 {l : Launch} {D : va_G} {cA : FieldType → ClassId} {ad adV : Nat → Nat} {z0 : Nat} : aMet l D cA ad adV z0 mX1_init 1 20 5 2060 [.inr (.inr (.inl (some 67))), .inr (.inr (.inl (some 25)))] sg_17 mg_23 none sg_18 mg_24 := by
  refine aMet_of (by decide +kernel) rfl (Nat.le_of_ble_eq_true rfl) (fun p e s m args below meth c al K => ?_)
  refine aw_aload_n (i := 0) K (dOf ck_mX1_init rfl rfl) rfl ?_
  refine aw_objInit (i := 1) K (dOf ck_mX1_init rfl rfl) ⟨wd_341, wd_167, wd_168⟩ (Nat.le_of_ble_eq_true rfl) ⟨Nat.le_of_ble_eq_true rfl, Nat.le_of_ble_eq_true rfl⟩ ?_
  refine aw_aload_n (i := 2) K (dOf ck_mX1_init rfl rfl) rfl ?_
  refine aw_sip (i := 3) K (dOf ck_mX1_init rfl rfl) (v := 720) rfl ?_
  refine aw_newaN (i := 4) (n := 720) (ty := .byte) K (dOf ck_mX1_init rfl rfl) rfl (by decide) wd_272 (Nat.le_of_ble_eq_true rfl) (Nat.le_of_ble_eq_true rfl) (Nat.le_of_ble_eq_true rfl) 68 rfl (fun q68 => ?_)
  refine aw_putr (i := 5) (k := 2) K (dOf ck_mX1_init rfl rfl) rfl rfl (Nat.le_of_ble_eq_true rfl) wd_344 rfl rfl rfl rfl (fitR (by decide +kernel)) ?_
  refine aw_aload_n (i := 6) K (dOf ck_mX1_init rfl rfl) rfl ?_
  refine aw_sip (i := 7) K (dOf ck_mX1_init rfl rfl) (v := 305) rfl ?_
  refine aw_newaN (i := 8) (n := 305) (ty := .int) K (dOf ck_mX1_init rfl rfl) rfl (by decide) wd_273 (Nat.le_of_ble_eq_true rfl) (Nat.le_of_ble_eq_true rfl) (Nat.le_of_ble_eq_true rfl) 69 rfl (fun q69 => ?_)
  refine aw_putr (i := 9) (k := 3) K (dOf ck_mX1_init rfl rfl) rfl rfl (Nat.le_of_ble_eq_true rfl) wd_345 rfl rfl rfl rfl (fitR (by decide +kernel)) ?_
  refine aw_aload_n (i := 10) K (dOf ck_mX1_init rfl rfl) rfl ?_
  refine aw_sip (i := 11) K (dOf ck_mX1_init rfl rfl) (v := 915) rfl ?_
  refine aw_newlN (i := 12) (n := 915) K (dOf ck_mX1_init rfl rfl) wd_318 (Nat.le_of_ble_eq_true rfl) (Nat.le_of_ble_eq_true rfl) (Nat.le_of_ble_eq_true rfl) 70 rfl (fun q70 => ?_)
  refine aw_putr (i := 13) (k := 4) K (dOf ck_mX1_init rfl rfl) rfl rfl (Nat.le_of_ble_eq_true rfl) wd_346 rfl rfl rfl rfl (fitR (by decide +kernel)) ?_
  refine aw_aload_n (i := 14) K (dOf ck_mX1_init rfl rfl) rfl ?_
  refine aw_bip (i := 15) K (dOf ck_mX1_init rfl rfl) (v := 60) rfl ?_
  refine aw_newaN (i := 16) (n := 60) (ty := .int) K (dOf ck_mX1_init rfl rfl) rfl (by decide) wd_273 (Nat.le_of_ble_eq_true rfl) (Nat.le_of_ble_eq_true rfl) (Nat.le_of_ble_eq_true rfl) 71 rfl (fun q71 => ?_)
  refine aw_putr (i := 17) (k := 6) K (dOf ck_mX1_init rfl rfl) rfl rfl (Nat.le_of_ble_eq_true rfl) wd_348 rfl rfl rfl rfl (fitR (by decide +kernel)) ?_
  refine aw_aload_n (i := 18) K (dOf ck_mX1_init rfl rfl) rfl ?_
  refine aw_bip (i := 19) K (dOf ck_mX1_init rfl rfl) (v := 60) rfl ?_
  refine aw_newaN (i := 20) (n := 60) (ty := .int) K (dOf ck_mX1_init rfl rfl) rfl (by decide) wd_273 (Nat.le_of_ble_eq_true rfl) (Nat.le_of_ble_eq_true rfl) (Nat.le_of_ble_eq_true rfl) 72 rfl (fun q72 => ?_)
  refine aw_putr (i := 21) (k := 7) K (dOf ck_mX1_init rfl rfl) rfl rfl (Nat.le_of_ble_eq_true rfl) wd_351 rfl rfl rfl rfl (fitR (by decide +kernel)) ?_
  refine aw_aload_n (i := 22) K (dOf ck_mX1_init rfl rfl) rfl ?_
  refine aw_iconst (i := 23) K (n := -1) (i32 _ rfl) (dOf ck_mX1_init rfl rfl) ?_
  refine aw_putf (i := 24) (k := 9) K (dOf ck_mX1_init rfl rfl) rfl rfl (Nat.le_of_ble_eq_true rfl) wd_355 rfl rfl (Or.inl rfl) ?_
  refine aw_aload_n (i := 25) K (dOf ck_mX1_init rfl rfl) rfl ?_
  refine aw_aload_n (i := 26) K (dOf ck_mX1_init rfl rfl) rfl ?_
  refine aw_putr (i := 27) (k := 0) K (dOf ck_mX1_init rfl rfl) rfl rfl (Nat.le_of_ble_eq_true rfl) wd_342 rfl rfl rfl rfl (fitR (by decide +kernel)) ?_
  refine aw_nm (sh' := sg_18) (mm' := mg_24) rfl rfl ?_
  exact aw_vretA K (by decide +kernel) rfl (Nat.le_of_ble_eq_true rfl) (Nat.le_of_ble_eq_true rfl) (pre_app (pre_app (pre_app (pre_app (pre_app ⟨[], (List.append_nil _).symm⟩)))))
def sg_19 : List aE := [.inr (.inr (.inr (11, [some (some 1), some (some 25), some (some 47), some (some 49), some (some 51), some (some 59), some (some 61), some (some 67), some none, some none, some none, some none, some none, some none, some none]))), .inr (.inr (.inr (7, [some (some 2), none, none, some (some 3), none, none, none, none, none]))), .inl (.byte, 500), .inr (.inr (.inr (8, [none, none, none, none, none, none, some (some 4), some (some 5), some (some 6), some (some 19), some (some 20), some (some 21), some (some 22), some (some 23), some (some 24)]))), .inl (.byte, 8), .inl (.int, 8), .inr (.inr (.inl (.array .byte, [some 7, some 8, some 9, some 10, some 11, some 12, some 13, some 14, some 15, some 16, some 17, some 18]))), .inl (.byte, 6), .inl (.byte, 6), .inl (.byte, 6), .inl (.byte, 6), .inl (.byte, 6), .inl (.byte, 6), .inl (.byte, 6), .inl (.byte, 6), .inl (.byte, 6), .inl (.byte, 6), .inl (.byte, 6), .inl (.byte, 6), .inl (.int, 12), .inl (.int, 12), .inl (.int, 12), .inl (.int, 4), .inl (.int, 6), .inl (.int, 6), .inr (.inr (.inr (8, [none, none, none, none, none, none, some (some 26), some (some 27), some (some 28), some (some 41), some (some 42), some (some 43), some (some 44), some (some 45), some (some 46)]))), .inl (.byte, 8), .inl (.int, 8), .inr (.inr (.inl (.array .byte, [some 29, some 30, some 31, some 32, some 33, some 34, some 35, some 36, some 37, some 38, some 39, some 40]))), .inl (.byte, 6), .inl (.byte, 6), .inl (.byte, 6), .inl (.byte, 6), .inl (.byte, 6), .inl (.byte, 6), .inl (.byte, 6), .inl (.byte, 6), .inl (.byte, 6), .inl (.byte, 6), .inl (.byte, 6), .inl (.byte, 6), .inl (.int, 12), .inl (.int, 12), .inl (.int, 12), .inl (.int, 4), .inl (.int, 6), .inl (.int, 6), .inr (.inr (.inr (6, [some (some 48), none]))), .inl (.byte, 40), .inr (.inr (.inr (6, [some (some 50), none]))), .inl (.byte, 40), .inr (.inr (.inr (5, [some (some 52), some (some 57), some (some 58)]))), .inr (.inr (.inl (.array .long, [some 53, some 54, some 55, some 56]))), .inr (.inl 40), .inr (.inl 40), .inr (.inl 40), .inr (.inl 40), .inl (.int, 4), .inl (.int, 4), .inr (.inr (.inr (10, [some (some 60), none, none, none, none, none]))), .inl (.int, 40), .inr (.inr (.inr (1, [some (some 25), none, some (some 62), some (some 63), some (some 64), none, some (some 65), some (some 66), none, none]))), .inl (.byte, 720), .inl (.int, 305), .inr (.inl 915), .inl (.int, 60), .inl (.int, 60), .inr (.inr (.inr (1, [some (some 25), none, some (some 68), some (some 69), some (some 70), none, some (some 71), some (some 72), none, none]))), .inl (.byte, 720), .inl (.int, 305), .inr (.inl 915), .inl (.int, 60), .inl (.int, 60), .inr (.inr (.inr (4, [some none, some none, some none, none, none])))]
def mg_25 : aM := (aNew mg_24 73)
def sg_20 : List aE := [.inr (.inr (.inr (11, [some (some 1), some (some 25), some (some 47), some (some 49), some (some 51), some (some 59), some (some 61), some (some 67), some none, some none, some none, some none, some none, some none, some none]))), .inr (.inr (.inr (7, [some (some 2), none, none, some (some 3), none, none, none, none, none]))), .inl (.byte, 500), .inr (.inr (.inr (8, [none, none, none, none, none, none, some (some 4), some (some 5), some (some 6), some (some 19), some (some 20), some (some 21), some (some 22), some (some 23), some (some 24)]))), .inl (.byte, 8), .inl (.int, 8), .inr (.inr (.inl (.array .byte, [some 7, some 8, some 9, some 10, some 11, some 12, some 13, some 14, some 15, some 16, some 17, some 18]))), .inl (.byte, 6), .inl (.byte, 6), .inl (.byte, 6), .inl (.byte, 6), .inl (.byte, 6), .inl (.byte, 6), .inl (.byte, 6), .inl (.byte, 6), .inl (.byte, 6), .inl (.byte, 6), .inl (.byte, 6), .inl (.byte, 6), .inl (.int, 12), .inl (.int, 12), .inl (.int, 12), .inl (.int, 4), .inl (.int, 6), .inl (.int, 6), .inr (.inr (.inr (8, [none, none, none, none, none, none, some (some 26), some (some 27), some (some 28), some (some 41), some (some 42), some (some 43), some (some 44), some (some 45), some (some 46)]))), .inl (.byte, 8), .inl (.int, 8), .inr (.inr (.inl (.array .byte, [some 29, some 30, some 31, some 32, some 33, some 34, some 35, some 36, some 37, some 38, some 39, some 40]))), .inl (.byte, 6), .inl (.byte, 6), .inl (.byte, 6), .inl (.byte, 6), .inl (.byte, 6), .inl (.byte, 6), .inl (.byte, 6), .inl (.byte, 6), .inl (.byte, 6), .inl (.byte, 6), .inl (.byte, 6), .inl (.byte, 6), .inl (.int, 12), .inl (.int, 12), .inl (.int, 12), .inl (.int, 4), .inl (.int, 6), .inl (.int, 6), .inr (.inr (.inr (6, [some (some 48), none]))), .inl (.byte, 40), .inr (.inr (.inr (6, [some (some 50), none]))), .inl (.byte, 40), .inr (.inr (.inr (5, [some (some 52), some (some 57), some (some 58)]))), .inr (.inr (.inl (.array .long, [some 53, some 54, some 55, some 56]))), .inr (.inl 40), .inr (.inl 40), .inr (.inl 40), .inr (.inl 40), .inl (.int, 4), .inl (.int, 4), .inr (.inr (.inr (10, [some (some 60), none, none, none, none, none]))), .inl (.int, 40), .inr (.inr (.inr (1, [some (some 25), none, some (some 62), some (some 63), some (some 64), none, some (some 65), some (some 66), none, none]))), .inl (.byte, 720), .inl (.int, 305), .inr (.inl 915), .inl (.int, 60), .inl (.int, 60), .inr (.inr (.inr (1, [some (some 25), none, some (some 68), some (some 69), some (some 70), none, some (some 71), some (some 72), none, none]))), .inl (.byte, 720), .inl (.int, 305), .inr (.inl 915), .inl (.int, 60), .inl (.int, 60), .inr (.inr (.inr (4, [some none, some none, some none, none, none]))), .inr (.inr (.inr (6, [some none, none])))]
def mg_26 : aM := (aNew mg_25 74)
def sg_21 : List aE := [.inr (.inr (.inr (11, [some (some 1), some (some 25), some (some 47), some (some 49), some (some 51), some (some 59), some (some 61), some (some 67), some none, some none, some none, some none, some none, some none, some none]))), .inr (.inr (.inr (7, [some (some 2), none, none, some (some 3), none, none, none, none, none]))), .inl (.byte, 500), .inr (.inr (.inr (8, [none, none, none, none, none, none, some (some 4), some (some 5), some (some 6), some (some 19), some (some 20), some (some 21), some (some 22), some (some 23), some (some 24)]))), .inl (.byte, 8), .inl (.int, 8), .inr (.inr (.inl (.array .byte, [some 7, some 8, some 9, some 10, some 11, some 12, some 13, some 14, some 15, some 16, some 17, some 18]))), .inl (.byte, 6), .inl (.byte, 6), .inl (.byte, 6), .inl (.byte, 6), .inl (.byte, 6), .inl (.byte, 6), .inl (.byte, 6), .inl (.byte, 6), .inl (.byte, 6), .inl (.byte, 6), .inl (.byte, 6), .inl (.byte, 6), .inl (.int, 12), .inl (.int, 12), .inl (.int, 12), .inl (.int, 4), .inl (.int, 6), .inl (.int, 6), .inr (.inr (.inr (8, [none, none, none, none, none, none, some (some 26), some (some 27), some (some 28), some (some 41), some (some 42), some (some 43), some (some 44), some (some 45), some (some 46)]))), .inl (.byte, 8), .inl (.int, 8), .inr (.inr (.inl (.array .byte, [some 29, some 30, some 31, some 32, some 33, some 34, some 35, some 36, some 37, some 38, some 39, some 40]))), .inl (.byte, 6), .inl (.byte, 6), .inl (.byte, 6), .inl (.byte, 6), .inl (.byte, 6), .inl (.byte, 6), .inl (.byte, 6), .inl (.byte, 6), .inl (.byte, 6), .inl (.byte, 6), .inl (.byte, 6), .inl (.byte, 6), .inl (.int, 12), .inl (.int, 12), .inl (.int, 12), .inl (.int, 4), .inl (.int, 6), .inl (.int, 6), .inr (.inr (.inr (6, [some (some 48), none]))), .inl (.byte, 40), .inr (.inr (.inr (6, [some (some 50), none]))), .inl (.byte, 40), .inr (.inr (.inr (5, [some (some 52), some (some 57), some (some 58)]))), .inr (.inr (.inl (.array .long, [some 53, some 54, some 55, some 56]))), .inr (.inl 40), .inr (.inl 40), .inr (.inl 40), .inr (.inl 40), .inl (.int, 4), .inl (.int, 4), .inr (.inr (.inr (10, [some (some 60), none, none, none, none, none]))), .inl (.int, 40), .inr (.inr (.inr (1, [some (some 25), none, some (some 62), some (some 63), some (some 64), none, some (some 65), some (some 66), none, none]))), .inl (.byte, 720), .inl (.int, 305), .inr (.inl 915), .inl (.int, 60), .inl (.int, 60), .inr (.inr (.inr (1, [some (some 25), none, some (some 68), some (some 69), some (some 70), none, some (some 71), some (some 72), none, none]))), .inl (.byte, 720), .inl (.int, 305), .inr (.inl 915), .inl (.int, 60), .inl (.int, 60), .inr (.inr (.inr (4, [some none, some none, some none, none, none]))), .inr (.inr (.inr (6, [some (some 75), none]))), .inl (.byte, 40)]
def mg_27 : aM := (aNew mg_26 75)
set_option maxHeartbeats 8000000 in
set_option maxRecDepth 20000 in
/-- Sounds.<init> -/
theorem ct_15 {l : Launch} {D : va_G} {cA : FieldType → ClassId} {ad adV : Nat → Nat} {z0 : Nat} : aMet l D cA ad adV z0 mX6_init 1 20 1 40 [.inr (.inr (.inl (some 74)))] sg_20 mg_26 none sg_21 mg_27 := by
  refine aMet_of (by decide +kernel) rfl (Nat.le_of_ble_eq_true rfl) (fun p e s m args below meth c al K => ?_)
  refine aw_aload_n (i := 0) K (dOf ck_mX6_init rfl rfl) rfl ?_
  refine aw_objInit (i := 1) K (dOf ck_mX6_init rfl rfl) ⟨wd_293, wd_167, wd_168⟩ (Nat.le_of_ble_eq_true rfl) ⟨Nat.le_of_ble_eq_true rfl, Nat.le_of_ble_eq_true rfl⟩ ?_
  refine aw_aload_n (i := 2) K (dOf ck_mX6_init rfl rfl) rfl ?_
  refine aw_bip (i := 3) K (dOf ck_mX6_init rfl rfl) (v := 40) rfl ?_
  refine aw_newaN (i := 4) (n := 40) (ty := .byte) K (dOf ck_mX6_init rfl rfl) rfl (by decide) wd_272 (Nat.le_of_ble_eq_true rfl) (Nat.le_of_ble_eq_true rfl) (Nat.le_of_ble_eq_true rfl) 75 rfl (fun q75 => ?_)
  refine aw_putr (i := 5) (k := 0) K (dOf ck_mX6_init rfl rfl) rfl rfl (Nat.le_of_ble_eq_true rfl) wd_294 rfl rfl rfl rfl (fitR (by decide +kernel)) ?_
  refine aw_nm (sh' := sg_21) (mm' := mg_27) rfl rfl ?_
  exact aw_vretA K (by decide +kernel) rfl (Nat.le_of_ble_eq_true rfl) (Nat.le_of_ble_eq_true rfl) (pre_app ⟨[], (List.append_nil _).symm⟩)
def sg_22 : List aE := [.inr (.inr (.inr (11, [some (some 1), some (some 25), some (some 47), some (some 49), some (some 51), some (some 59), some (some 61), some (some 67), some none, some none, some none, some none, some none, some none, some none]))), .inr (.inr (.inr (7, [some (some 2), none, none, some (some 3), none, none, none, none, none]))), .inl (.byte, 500), .inr (.inr (.inr (8, [none, none, none, none, none, none, some (some 4), some (some 5), some (some 6), some (some 19), some (some 20), some (some 21), some (some 22), some (some 23), some (some 24)]))), .inl (.byte, 8), .inl (.int, 8), .inr (.inr (.inl (.array .byte, [some 7, some 8, some 9, some 10, some 11, some 12, some 13, some 14, some 15, some 16, some 17, some 18]))), .inl (.byte, 6), .inl (.byte, 6), .inl (.byte, 6), .inl (.byte, 6), .inl (.byte, 6), .inl (.byte, 6), .inl (.byte, 6), .inl (.byte, 6), .inl (.byte, 6), .inl (.byte, 6), .inl (.byte, 6), .inl (.byte, 6), .inl (.int, 12), .inl (.int, 12), .inl (.int, 12), .inl (.int, 4), .inl (.int, 6), .inl (.int, 6), .inr (.inr (.inr (8, [none, none, none, none, none, none, some (some 26), some (some 27), some (some 28), some (some 41), some (some 42), some (some 43), some (some 44), some (some 45), some (some 46)]))), .inl (.byte, 8), .inl (.int, 8), .inr (.inr (.inl (.array .byte, [some 29, some 30, some 31, some 32, some 33, some 34, some 35, some 36, some 37, some 38, some 39, some 40]))), .inl (.byte, 6), .inl (.byte, 6), .inl (.byte, 6), .inl (.byte, 6), .inl (.byte, 6), .inl (.byte, 6), .inl (.byte, 6), .inl (.byte, 6), .inl (.byte, 6), .inl (.byte, 6), .inl (.byte, 6), .inl (.byte, 6), .inl (.int, 12), .inl (.int, 12), .inl (.int, 12), .inl (.int, 4), .inl (.int, 6), .inl (.int, 6), .inr (.inr (.inr (6, [some (some 48), none]))), .inl (.byte, 40), .inr (.inr (.inr (6, [some (some 50), none]))), .inl (.byte, 40), .inr (.inr (.inr (5, [some (some 52), some (some 57), some (some 58)]))), .inr (.inr (.inl (.array .long, [some 53, some 54, some 55, some 56]))), .inr (.inl 40), .inr (.inl 40), .inr (.inl 40), .inr (.inl 40), .inl (.int, 4), .inl (.int, 4), .inr (.inr (.inr (10, [some (some 60), none, none, none, none, none]))), .inl (.int, 40), .inr (.inr (.inr (1, [some (some 25), none, some (some 62), some (some 63), some (some 64), none, some (some 65), some (some 66), none, none]))), .inl (.byte, 720), .inl (.int, 305), .inr (.inl 915), .inl (.int, 60), .inl (.int, 60), .inr (.inr (.inr (1, [some (some 25), none, some (some 68), some (some 69), some (some 70), none, some (some 71), some (some 72), none, none]))), .inl (.byte, 720), .inl (.int, 305), .inr (.inl 915), .inl (.int, 60), .inl (.int, 60), .inr (.inr (.inr (4, [some (some 25), some (some 67), some (some 74), none, none]))), .inr (.inr (.inr (6, [some (some 75), none]))), .inl (.byte, 40)]
set_option maxHeartbeats 8000000 in
set_option maxRecDepth 20000 in
/-- Noise.<init> -/
theorem ct_16 {l : Launch} {D : va_G} {cA : FieldType → ClassId} {ad adV : Nat → Nat} {z0 : Nat} : aMet l D cA ad adV z0 mX4_init 2 40 2 42 [.inr (.inr (.inl (some 73))), .inr (.inr (.inl (some 25))), .inr (.inr (.inl (some 67)))] sg_19 mg_25 none sg_22 mg_27 := by
  refine aMet_of (by decide +kernel) rfl (Nat.le_of_ble_eq_true rfl) (fun p e s m args below meth c al K => ?_)
  refine aw_aload_n (i := 0) K (dOf ck_mX4_init rfl rfl) rfl ?_
  refine aw_objInit (i := 1) K (dOf ck_mX4_init rfl rfl) ⟨wd_362, wd_167, wd_168⟩ (Nat.le_of_ble_eq_true rfl) ⟨Nat.le_of_ble_eq_true rfl, Nat.le_of_ble_eq_true rfl⟩ ?_
  refine aw_aload_n (i := 2) K (dOf ck_mX4_init rfl rfl) rfl ?_
  refine aw_newN (i := 3) (ci := 6) K (dOf ck_mX4_init rfl rfl) rfl wd_363 wd_290 wd_142 zt_6 (Nat.le_of_ble_eq_true rfl) (Nat.le_of_ble_eq_true rfl) 74 rfl (fun q74 => ?_)
  refine aw_dup (i := 4) K rfl (dOf ck_mX4_init rfl rfl) ?_
  refine aw_nm (sh' := sg_20) (mm' := mg_26) rfl rfl ?_
  refine aw_callIN (i := 5) (as := []) (q := 74) K (dOf ck_mX4_init rfl rfl) wd_292 (List.mem_append_right _ (List.mem_append_right _ (List.mem_append_left _ (List.mem_of_getElem? (i := 89) rfl)))) wd_142 (by decide +kernel) rfl rfl wd_291 rfl (Nat.le_of_ble_eq_true rfl) ⟨Nat.le_of_ble_eq_true rfl, Nat.le_of_ble_eq_true rfl⟩ ⟨Nat.le_of_ble_eq_true rfl, Nat.le_of_ble_eq_true rfl⟩ (Nat.le_of_ble_eq_true rfl) ct_15 (fun bl16 => ?_)
  refine aw_putr (i := 6) (k := 2) K (dOf ck_mX4_init rfl rfl) rfl rfl (Nat.le_of_ble_eq_true rfl) wd_366 rfl rfl rfl rfl (fitR (by decide +kernel)) ?_
  refine aw_aload_n (i := 7) K (dOf ck_mX4_init rfl rfl) rfl ?_
  refine aw_aload_n (i := 8) K (dOf ck_mX4_init rfl rfl) rfl ?_
  refine aw_putr (i := 9) (k := 0) K (dOf ck_mX4_init rfl rfl) rfl rfl (Nat.le_of_ble_eq_true rfl) wd_364 rfl rfl rfl rfl (fitR (by decide +kernel)) ?_
  refine aw_aload_n (i := 10) K (dOf ck_mX4_init rfl rfl) rfl ?_
  refine aw_aload_n (i := 11) K (dOf ck_mX4_init rfl rfl) rfl ?_
  refine aw_putr (i := 12) (k := 1) K (dOf ck_mX4_init rfl rfl) rfl rfl (Nat.le_of_ble_eq_true rfl) wd_365 rfl rfl rfl rfl (fitR (by decide +kernel)) ?_
  refine aw_nm (sh' := sg_22) (mm' := mg_27) rfl rfl ?_
  exact aw_vretA K (by decide +kernel) rfl (Nat.le_of_ble_eq_true rfl) (Nat.le_of_ble_eq_true rfl) (pre_app (pre_app ⟨[], (List.append_nil _).symm⟩))
def sg_23 : List aE := [.inr (.inr (.inr (11, [some (some 1), some (some 25), some (some 47), some (some 49), some (some 51), some (some 59), some (some 61), some (some 67), some (some 73), some none, some none, some none, some none, some none, some none]))), .inr (.inr (.inr (7, [some (some 2), none, none, some (some 3), none, none, none, none, none]))), .inl (.byte, 500), .inr (.inr (.inr (8, [none, none, none, none, none, none, some (some 4), some (some 5), some (some 6), some (some 19), some (some 20), some (some 21), some (some 22), some (some 23), some (some 24)]))), .inl (.byte, 8), .inl (.int, 8), .inr (.inr (.inl (.array .byte, [some 7, some 8, some 9, some 10, some 11, some 12, some 13, some 14, some 15, some 16, some 17, some 18]))), .inl (.byte, 6), .inl (.byte, 6), .inl (.byte, 6), .inl (.byte, 6), .inl (.byte, 6), .inl (.byte, 6), .inl (.byte, 6), .inl (.byte, 6), .inl (.byte, 6), .inl (.byte, 6), .inl (.byte, 6), .inl (.byte, 6), .inl (.int, 12), .inl (.int, 12), .inl (.int, 12), .inl (.int, 4), .inl (.int, 6), .inl (.int, 6), .inr (.inr (.inr (8, [none, none, none, none, none, none, some (some 26), some (some 27), some (some 28), some (some 41), some (some 42), some (some 43), some (some 44), some (some 45), some (some 46)]))), .inl (.byte, 8), .inl (.int, 8), .inr (.inr (.inl (.array .byte, [some 29, some 30, some 31, some 32, some 33, some 34, some 35, some 36, some 37, some 38, some 39, some 40]))), .inl (.byte, 6), .inl (.byte, 6), .inl (.byte, 6), .inl (.byte, 6), .inl (.byte, 6), .inl (.byte, 6), .inl (.byte, 6), .inl (.byte, 6), .inl (.byte, 6), .inl (.byte, 6), .inl (.byte, 6), .inl (.byte, 6), .inl (.int, 12), .inl (.int, 12), .inl (.int, 12), .inl (.int, 4), .inl (.int, 6), .inl (.int, 6), .inr (.inr (.inr (6, [some (some 48), none]))), .inl (.byte, 40), .inr (.inr (.inr (6, [some (some 50), none]))), .inl (.byte, 40), .inr (.inr (.inr (5, [some (some 52), some (some 57), some (some 58)]))), .inr (.inr (.inl (.array .long, [some 53, some 54, some 55, some 56]))), .inr (.inl 40), .inr (.inl 40), .inr (.inl 40), .inr (.inl 40), .inl (.int, 4), .inl (.int, 4), .inr (.inr (.inr (10, [some (some 60), none, none, none, none, none]))), .inl (.int, 40), .inr (.inr (.inr (1, [some (some 25), none, some (some 62), some (some 63), some (some 64), none, some (some 65), some (some 66), none, none]))), .inl (.byte, 720), .inl (.int, 305), .inr (.inl 915), .inl (.int, 60), .inl (.int, 60), .inr (.inr (.inr (1, [some (some 25), none, some (some 68), some (some 69), some (some 70), none, some (some 71), some (some 72), none, none]))), .inl (.byte, 720), .inl (.int, 305), .inr (.inl 915), .inl (.int, 60), .inl (.int, 60), .inr (.inr (.inr (4, [some (some 25), some (some 67), some (some 74), none, none]))), .inr (.inr (.inr (6, [some (some 75), none]))), .inl (.byte, 40), .inr (.inr (.inr (2, [some none, some none])))]
def mg_28 : aM := (aNew mg_27 76)
def sg_24 : List aE := [.inr (.inr (.inr (11, [some (some 1), some (some 25), some (some 47), some (some 49), some (some 51), some (some 59), some (some 61), some (some 67), some (some 73), some none, some none, some none, some none, some none, some none]))), .inr (.inr (.inr (7, [some (some 2), none, none, some (some 3), none, none, none, none, none]))), .inl (.byte, 500), .inr (.inr (.inr (8, [none, none, none, none, none, none, some (some 4), some (some 5), some (some 6), some (some 19), some (some 20), some (some 21), some (some 22), some (some 23), some (some 24)]))), .inl (.byte, 8), .inl (.int, 8), .inr (.inr (.inl (.array .byte, [some 7, some 8, some 9, some 10, some 11, some 12, some 13, some 14, some 15, some 16, some 17, some 18]))), .inl (.byte, 6), .inl (.byte, 6), .inl (.byte, 6), .inl (.byte, 6), .inl (.byte, 6), .inl (.byte, 6), .inl (.byte, 6), .inl (.byte, 6), .inl (.byte, 6), .inl (.byte, 6), .inl (.byte, 6), .inl (.byte, 6), .inl (.int, 12), .inl (.int, 12), .inl (.int, 12), .inl (.int, 4), .inl (.int, 6), .inl (.int, 6), .inr (.inr (.inr (8, [none, none, none, none, none, none, some (some 26), some (some 27), some (some 28), some (some 41), some (some 42), some (some 43), some (some 44), some (some 45), some (some 46)]))), .inl (.byte, 8), .inl (.int, 8), .inr (.inr (.inl (.array .byte, [some 29, some 30, some 31, some 32, some 33, some 34, some 35, some 36, some 37, some 38, some 39, some 40]))), .inl (.byte, 6), .inl (.byte, 6), .inl (.byte, 6), .inl (.byte, 6), .inl (.byte, 6), .inl (.byte, 6), .inl (.byte, 6), .inl (.byte, 6), .inl (.byte, 6), .inl (.byte, 6), .inl (.byte, 6), .inl (.byte, 6), .inl (.int, 12), .inl (.int, 12), .inl (.int, 12), .inl (.int, 4), .inl (.int, 6), .inl (.int, 6), .inr (.inr (.inr (6, [some (some 48), none]))), .inl (.byte, 40), .inr (.inr (.inr (6, [some (some 50), none]))), .inl (.byte, 40), .inr (.inr (.inr (5, [some (some 52), some (some 57), some (some 58)]))), .inr (.inr (.inl (.array .long, [some 53, some 54, some 55, some 56]))), .inr (.inl 40), .inr (.inl 40), .inr (.inl 40), .inr (.inl 40), .inl (.int, 4), .inl (.int, 4), .inr (.inr (.inr (10, [some (some 60), none, none, none, none, none]))), .inl (.int, 40), .inr (.inr (.inr (1, [some (some 25), none, some (some 62), some (some 63), some (some 64), none, some (some 65), some (some 66), none, none]))), .inl (.byte, 720), .inl (.int, 305), .inr (.inl 915), .inl (.int, 60), .inl (.int, 60), .inr (.inr (.inr (1, [some (some 25), none, some (some 68), some (some 69), some (some 70), none, some (some 71), some (some 72), none, none]))), .inl (.byte, 720), .inl (.int, 305), .inr (.inl 915), .inl (.int, 60), .inl (.int, 60), .inr (.inr (.inr (4, [some (some 25), some (some 67), some (some 74), none, none]))), .inr (.inr (.inr (6, [some (some 75), none]))), .inl (.byte, 40), .inr (.inr (.inr (2, [some (some 77), some (some 78)]))), .inl (.int, 6), .inl (.int, 7)]
def mg_29 : aM := (aNew (aNew mg_28 77) 78)
set_option maxHeartbeats 8000000 in
set_option maxRecDepth 20000 in
/-- Measure.<init> -/
theorem ct_17 {l : Launch} {D : va_G} {cA : FieldType → ClassId} {ad adV : Nat → Nat} {z0 : Nat} : aMet l D cA ad adV z0 mX2_init 1 20 2 13 [.inr (.inr (.inl (some 76)))] sg_23 mg_28 none sg_24 mg_29 := by
  refine aMet_of (by decide +kernel) rfl (Nat.le_of_ble_eq_true rfl) (fun p e s m args below meth c al K => ?_)
  refine aw_aload_n (i := 0) K (dOf ck_mX2_init rfl rfl) rfl ?_
  refine aw_objInit (i := 1) K (dOf ck_mX2_init rfl rfl) ⟨wd_376, wd_167, wd_168⟩ (Nat.le_of_ble_eq_true rfl) ⟨Nat.le_of_ble_eq_true rfl, Nat.le_of_ble_eq_true rfl⟩ ?_
  refine aw_aload_n (i := 2) K (dOf ck_mX2_init rfl rfl) rfl ?_
  refine aw_bip (i := 3) K (dOf ck_mX2_init rfl rfl) (v := 6) rfl ?_
  refine aw_newaN (i := 4) (n := 6) (ty := .int) K (dOf ck_mX2_init rfl rfl) rfl (by decide) wd_273 (Nat.le_of_ble_eq_true rfl) (Nat.le_of_ble_eq_true rfl) (Nat.le_of_ble_eq_true rfl) 77 rfl (fun q77 => ?_)
  refine aw_putr (i := 5) (k := 0) K (dOf ck_mX2_init rfl rfl) rfl rfl (Nat.le_of_ble_eq_true rfl) wd_377 rfl rfl rfl rfl (fitR (by decide +kernel)) ?_
  refine aw_aload_n (i := 6) K (dOf ck_mX2_init rfl rfl) rfl ?_
  refine aw_bip (i := 7) K (dOf ck_mX2_init rfl rfl) (v := 7) rfl ?_
  refine aw_newaN (i := 8) (n := 7) (ty := .int) K (dOf ck_mX2_init rfl rfl) rfl (by decide) wd_273 (Nat.le_of_ble_eq_true rfl) (Nat.le_of_ble_eq_true rfl) (Nat.le_of_ble_eq_true rfl) 78 rfl (fun q78 => ?_)
  refine aw_putr (i := 9) (k := 1) K (dOf ck_mX2_init rfl rfl) rfl rfl (Nat.le_of_ble_eq_true rfl) wd_378 rfl rfl rfl rfl (fitR (by decide +kernel)) ?_
  refine aw_nm (sh' := sg_24) (mm' := mg_29) rfl rfl ?_
  exact aw_vretA K (by decide +kernel) rfl (Nat.le_of_ble_eq_true rfl) (Nat.le_of_ble_eq_true rfl) (pre_app (pre_app ⟨[], (List.append_nil _).symm⟩))
def sg_25 : List aE := [.inr (.inr (.inr (11, [some (some 1), some (some 25), some (some 47), some (some 49), some (some 51), some (some 59), some (some 61), some (some 67), some (some 73), some (some 76), some none, some none, some none, some none, some none]))), .inr (.inr (.inr (7, [some (some 2), none, none, some (some 3), none, none, none, none, none]))), .inl (.byte, 500), .inr (.inr (.inr (8, [none, none, none, none, none, none, some (some 4), some (some 5), some (some 6), some (some 19), some (some 20), some (some 21), some (some 22), some (some 23), some (some 24)]))), .inl (.byte, 8), .inl (.int, 8), .inr (.inr (.inl (.array .byte, [some 7, some 8, some 9, some 10, some 11, some 12, some 13, some 14, some 15, some 16, some 17, some 18]))), .inl (.byte, 6), .inl (.byte, 6), .inl (.byte, 6), .inl (.byte, 6), .inl (.byte, 6), .inl (.byte, 6), .inl (.byte, 6), .inl (.byte, 6), .inl (.byte, 6), .inl (.byte, 6), .inl (.byte, 6), .inl (.byte, 6), .inl (.int, 12), .inl (.int, 12), .inl (.int, 12), .inl (.int, 4), .inl (.int, 6), .inl (.int, 6), .inr (.inr (.inr (8, [none, none, none, none, none, none, some (some 26), some (some 27), some (some 28), some (some 41), some (some 42), some (some 43), some (some 44), some (some 45), some (some 46)]))), .inl (.byte, 8), .inl (.int, 8), .inr (.inr (.inl (.array .byte, [some 29, some 30, some 31, some 32, some 33, some 34, some 35, some 36, some 37, some 38, some 39, some 40]))), .inl (.byte, 6), .inl (.byte, 6), .inl (.byte, 6), .inl (.byte, 6), .inl (.byte, 6), .inl (.byte, 6), .inl (.byte, 6), .inl (.byte, 6), .inl (.byte, 6), .inl (.byte, 6), .inl (.byte, 6), .inl (.byte, 6), .inl (.int, 12), .inl (.int, 12), .inl (.int, 12), .inl (.int, 4), .inl (.int, 6), .inl (.int, 6), .inr (.inr (.inr (6, [some (some 48), none]))), .inl (.byte, 40), .inr (.inr (.inr (6, [some (some 50), none]))), .inl (.byte, 40), .inr (.inr (.inr (5, [some (some 52), some (some 57), some (some 58)]))), .inr (.inr (.inl (.array .long, [some 53, some 54, some 55, some 56]))), .inr (.inl 40), .inr (.inl 40), .inr (.inl 40), .inr (.inl 40), .inl (.int, 4), .inl (.int, 4), .inr (.inr (.inr (10, [some (some 60), none, none, none, none, none]))), .inl (.int, 40), .inr (.inr (.inr (1, [some (some 25), none, some (some 62), some (some 63), some (some 64), none, some (some 65), some (some 66), none, none]))), .inl (.byte, 720), .inl (.int, 305), .inr (.inl 915), .inl (.int, 60), .inl (.int, 60), .inr (.inr (.inr (1, [some (some 25), none, some (some 68), some (some 69), some (some 70), none, some (some 71), some (some 72), none, none]))), .inl (.byte, 720), .inl (.int, 305), .inr (.inl 915), .inl (.int, 60), .inl (.int, 60), .inr (.inr (.inr (4, [some (some 25), some (some 67), some (some 74), none, none]))), .inr (.inr (.inr (6, [some (some 75), none]))), .inl (.byte, 40), .inr (.inr (.inr (2, [some (some 77), some (some 78)]))), .inl (.int, 6), .inl (.int, 7), .inr (.inr (.inr (3, [some none, some none, some none, some none, some none, some none, none, some none, some none, some none, none, none, none, none, none, none])))]
def mg_30 : aM := (aNew mg_29 79)
def sg_26 : List aE := [.inr (.inr (.inr (11, [some (some 1), some (some 25), some (some 47), some (some 49), some (some 51), some (some 59), some (some 61), some (some 67), some (some 73), some (some 76), some none, some none, some none, some none, some none]))), .inr (.inr (.inr (7, [some (some 2), none, none, some (some 3), none, none, none, none, none]))), .inl (.byte, 500), .inr (.inr (.inr (8, [none, none, none, none, none, none, some (some 4), some (some 5), some (some 6), some (some 19), some (some 20), some (some 21), some (some 22), some (some 23), some (some 24)]))), .inl (.byte, 8), .inl (.int, 8), .inr (.inr (.inl (.array .byte, [some 7, some 8, some 9, some 10, some 11, some 12, some 13, some 14, some 15, some 16, some 17, some 18]))), .inl (.byte, 6), .inl (.byte, 6), .inl (.byte, 6), .inl (.byte, 6), .inl (.byte, 6), .inl (.byte, 6), .inl (.byte, 6), .inl (.byte, 6), .inl (.byte, 6), .inl (.byte, 6), .inl (.byte, 6), .inl (.byte, 6), .inl (.int, 12), .inl (.int, 12), .inl (.int, 12), .inl (.int, 4), .inl (.int, 6), .inl (.int, 6), .inr (.inr (.inr (8, [none, none, none, none, none, none, some (some 26), some (some 27), some (some 28), some (some 41), some (some 42), some (some 43), some (some 44), some (some 45), some (some 46)]))), .inl (.byte, 8), .inl (.int, 8), .inr (.inr (.inl (.array .byte, [some 29, some 30, some 31, some 32, some 33, some 34, some 35, some 36, some 37, some 38, some 39, some 40]))), .inl (.byte, 6), .inl (.byte, 6), .inl (.byte, 6), .inl (.byte, 6), .inl (.byte, 6), .inl (.byte, 6), .inl (.byte, 6), .inl (.byte, 6), .inl (.byte, 6), .inl (.byte, 6), .inl (.byte, 6), .inl (.byte, 6), .inl (.int, 12), .inl (.int, 12), .inl (.int, 12), .inl (.int, 4), .inl (.int, 6), .inl (.int, 6), .inr (.inr (.inr (6, [some (some 48), none]))), .inl (.byte, 40), .inr (.inr (.inr (6, [some (some 50), none]))), .inl (.byte, 40), .inr (.inr (.inr (5, [some (some 52), some (some 57), some (some 58)]))), .inr (.inr (.inl (.array .long, [some 53, some 54, some 55, some 56]))), .inr (.inl 40), .inr (.inl 40), .inr (.inl 40), .inr (.inl 40), .inl (.int, 4), .inl (.int, 4), .inr (.inr (.inr (10, [some (some 60), none, none, none, none, none]))), .inl (.int, 40), .inr (.inr (.inr (1, [some (some 25), none, some (some 62), some (some 63), some (some 64), none, some (some 65), some (some 66), none, none]))), .inl (.byte, 720), .inl (.int, 305), .inr (.inl 915), .inl (.int, 60), .inl (.int, 60), .inr (.inr (.inr (1, [some (some 25), none, some (some 68), some (some 69), some (some 70), none, some (some 71), some (some 72), none, none]))), .inl (.byte, 720), .inl (.int, 305), .inr (.inl 915), .inl (.int, 60), .inl (.int, 60), .inr (.inr (.inr (4, [some (some 25), some (some 67), some (some 74), none, none]))), .inr (.inr (.inr (6, [some (some 75), none]))), .inl (.byte, 40), .inr (.inr (.inr (2, [some (some 77), some (some 78)]))), .inl (.int, 6), .inl (.int, 7), .inr (.inr (.inr (3, [some none, some none, some none, some none, some none, some none, none, some none, some none, some none, none, none, none, none, none, none]))), .inr (.inr (.inr (9, [none, none, none, some none, some none, some none, some none, some none, some none, none, none, none, none, none, some none, some none, none, some none, some none, some none])))]
def mg_31 : aM := (aNew mg_30 80)
def sg_27 : List aE := [.inr (.inr (.inr (11, [some (some 1), some (some 25), some (some 47), some (some 49), some (some 51), some (some 59), some (some 61), some (some 67), some (some 73), some (some 76), some none, some none, some none, some none, some none]))), .inr (.inr (.inr (7, [some (some 2), none, none, some (some 3), none, none, none, none, none]))), .inl (.byte, 500), .inr (.inr (.inr (8, [none, none, none, none, none, none, some (some 4), some (some 5), some (some 6), some (some 19), some (some 20), some (some 21), some (some 22), some (some 23), some (some 24)]))), .inl (.byte, 8), .inl (.int, 8), .inr (.inr (.inl (.array .byte, [some 7, some 8, some 9, some 10, some 11, some 12, some 13, some 14, some 15, some 16, some 17, some 18]))), .inl (.byte, 6), .inl (.byte, 6), .inl (.byte, 6), .inl (.byte, 6), .inl (.byte, 6), .inl (.byte, 6), .inl (.byte, 6), .inl (.byte, 6), .inl (.byte, 6), .inl (.byte, 6), .inl (.byte, 6), .inl (.byte, 6), .inl (.int, 12), .inl (.int, 12), .inl (.int, 12), .inl (.int, 4), .inl (.int, 6), .inl (.int, 6), .inr (.inr (.inr (8, [none, none, none, none, none, none, some (some 26), some (some 27), some (some 28), some (some 41), some (some 42), some (some 43), some (some 44), some (some 45), some (some 46)]))), .inl (.byte, 8), .inl (.int, 8), .inr (.inr (.inl (.array .byte, [some 29, some 30, some 31, some 32, some 33, some 34, some 35, some 36, some 37, some 38, some 39, some 40]))), .inl (.byte, 6), .inl (.byte, 6), .inl (.byte, 6), .inl (.byte, 6), .inl (.byte, 6), .inl (.byte, 6), .inl (.byte, 6), .inl (.byte, 6), .inl (.byte, 6), .inl (.byte, 6), .inl (.byte, 6), .inl (.byte, 6), .inl (.int, 12), .inl (.int, 12), .inl (.int, 12), .inl (.int, 4), .inl (.int, 6), .inl (.int, 6), .inr (.inr (.inr (6, [some (some 48), none]))), .inl (.byte, 40), .inr (.inr (.inr (6, [some (some 50), none]))), .inl (.byte, 40), .inr (.inr (.inr (5, [some (some 52), some (some 57), some (some 58)]))), .inr (.inr (.inl (.array .long, [some 53, some 54, some 55, some 56]))), .inr (.inl 40), .inr (.inl 40), .inr (.inl 40), .inr (.inl 40), .inl (.int, 4), .inl (.int, 4), .inr (.inr (.inr (10, [some (some 60), none, none, none, none, none]))), .inl (.int, 40), .inr (.inr (.inr (1, [some (some 25), none, some (some 62), some (some 63), some (some 64), none, some (some 65), some (some 66), none, none]))), .inl (.byte, 720), .inl (.int, 305), .inr (.inl 915), .inl (.int, 60), .inl (.int, 60), .inr (.inr (.inr (1, [some (some 25), none, some (some 68), some (some 69), some (some 70), none, some (some 71), some (some 72), none, none]))), .inl (.byte, 720), .inl (.int, 305), .inr (.inl 915), .inl (.int, 60), .inl (.int, 60), .inr (.inr (.inr (4, [some (some 25), some (some 67), some (some 74), none, none]))), .inr (.inr (.inr (6, [some (some 75), none]))), .inl (.byte, 40), .inr (.inr (.inr (2, [some (some 77), some (some 78)]))), .inl (.int, 6), .inl (.int, 7), .inr (.inr (.inr (3, [some none, some none, some none, some none, some none, some none, none, some none, some none, some none, none, none, none, none, none, none]))), .inr (.inr (.inr (9, [none, none, none, some (some 81), some (some 95), some (some 96), some (some 97), some (some 98), some (some 99), none, none, none, none, none, some (some 100), some (some 101), none, some (some 102), some (some 103), some (some 104)]))), .inr (.inr (.inl (.array .byte, [some 82, some 83, some 84, some 85, some 86, some 87, some 88, some 89, some 90, some 91, some 92, some 93, some 94]))), .inl (.byte, 7), .inl (.byte, 7), .inl (.byte, 7), .inl (.byte, 7), .inl (.byte, 7), .inl (.byte, 7), .inl (.byte, 7), .inl (.byte, 7), .inl (.byte, 7), .inl (.byte, 7), .inl (.byte, 7), .inl (.byte, 7), .inl (.byte, 7), .inl (.int, 13), .inl (.int, 13), .inl (.int, 4), .inl (.int, 9), .inl (.int, 4), .inr (.inl 536), .inr (.inl 67), .inl (.short, 471), .inl (.short, 471), .inl (.byte, 471)]
def mg_32 : aM := (aNew (aNew (aNew (aNew (aNew (aup (aNew (aNew (aNew (aNew (aNew (aNewR mg_31 81 14) 95) 96) 97) 98) 99) 80 10 1) 100) 101) 102) 103) 104)
set_option maxHeartbeats 8000000 in
set_option maxRecDepth 20000 in
/-- Twins.<init> -/
theorem ct_18 {l : Launch} {D : va_G} {cA : FieldType → ClassId} {ad adV : Nat → Nat} {z0 : Nat} : aMet l D cA ad adV z0 mX9_init 1 20 24 2163 [.inr (.inr (.inl (some 80)))] sg_26 mg_31 none sg_27 mg_32 := by
  refine aMet_of (by decide +kernel) rfl (Nat.le_of_ble_eq_true rfl) (fun p e s m args below meth c al K => ?_)
  refine aw_aload_n (i := 0) K (dOf ck_mX9_init rfl rfl) rfl ?_
  refine aw_objInit (i := 1) K (dOf ck_mX9_init rfl rfl) ⟨wd_389, wd_167, wd_168⟩ (Nat.le_of_ble_eq_true rfl) ⟨Nat.le_of_ble_eq_true rfl, Nat.le_of_ble_eq_true rfl⟩ ?_
  refine aw_aload_n (i := 2) K (dOf ck_mX9_init rfl rfl) rfl ?_
  refine aw_bip (i := 3) K (dOf ck_mX9_init rfl rfl) (v := 13) rfl ?_
  refine aw_bip (i := 4) K (dOf ck_mX9_init rfl rfl) (v := 7) rfl ?_
  refine aw_mnaN (i := 5) (n := 13) (k := 7) (ty := .byte) K (dOf ck_mX9_init rfl rfl) wd_390 (Or.inl ⟨rfl, rfl⟩) wd_272 (Nat.le_of_ble_eq_true rfl) (Nat.le_of_ble_eq_true rfl) (Nat.le_of_ble_eq_true rfl) (Nat.le_of_ble_eq_true rfl) 81 rfl (fun bl81 => ?_)
  refine aw_putr (i := 6) (k := 3) K (dOf ck_mX9_init rfl rfl) rfl rfl (Nat.le_of_ble_eq_true rfl) wd_394 rfl rfl rfl rfl (fitR (by decide +kernel)) ?_
  refine aw_aload_n (i := 7) K (dOf ck_mX9_init rfl rfl) rfl ?_
  refine aw_bip (i := 8) K (dOf ck_mX9_init rfl rfl) (v := 13) rfl ?_
  refine aw_newaN (i := 9) (n := 13) (ty := .int) K (dOf ck_mX9_init rfl rfl) rfl (by decide) wd_273 (Nat.le_of_ble_eq_true rfl) (Nat.le_of_ble_eq_true rfl) (Nat.le_of_ble_eq_true rfl) 95 rfl (fun q95 => ?_)
  refine aw_putr (i := 10) (k := 4) K (dOf ck_mX9_init rfl rfl) rfl rfl (Nat.le_of_ble_eq_true rfl) wd_395 rfl rfl rfl rfl (fitR (by decide +kernel)) ?_
  refine aw_aload_n (i := 11) K (dOf ck_mX9_init rfl rfl) rfl ?_
  refine aw_bip (i := 12) K (dOf ck_mX9_init rfl rfl) (v := 13) rfl ?_
  refine aw_newaN (i := 13) (n := 13) (ty := .int) K (dOf ck_mX9_init rfl rfl) rfl (by decide) wd_273 (Nat.le_of_ble_eq_true rfl) (Nat.le_of_ble_eq_true rfl) (Nat.le_of_ble_eq_true rfl) 96 rfl (fun q96 => ?_)
  refine aw_putr (i := 14) (k := 5) K (dOf ck_mX9_init rfl rfl) rfl rfl (Nat.le_of_ble_eq_true rfl) wd_396 rfl rfl rfl rfl (fitR (by decide +kernel)) ?_
  refine aw_aload_n (i := 15) K (dOf ck_mX9_init rfl rfl) rfl ?_
  refine aw_iconst (i := 16) K (n := 4) (i32 _ rfl) (dOf ck_mX9_init rfl rfl) ?_
  refine aw_newaN (i := 17) (n := 4) (ty := .int) K (dOf ck_mX9_init rfl rfl) rfl (by decide) wd_273 (Nat.le_of_ble_eq_true rfl) (Nat.le_of_ble_eq_true rfl) (Nat.le_of_ble_eq_true rfl) 97 rfl (fun q97 => ?_)
  refine aw_putr (i := 18) (k := 6) K (dOf ck_mX9_init rfl rfl) rfl rfl (Nat.le_of_ble_eq_true rfl) wd_397 rfl rfl rfl rfl (fitR (by decide +kernel)) ?_
  refine aw_aload_n (i := 19) K (dOf ck_mX9_init rfl rfl) rfl ?_
  refine aw_bip (i := 20) K (dOf ck_mX9_init rfl rfl) (v := 9) rfl ?_
  refine aw_newaN (i := 21) (n := 9) (ty := .int) K (dOf ck_mX9_init rfl rfl) rfl (by decide) wd_273 (Nat.le_of_ble_eq_true rfl) (Nat.le_of_ble_eq_true rfl) (Nat.le_of_ble_eq_true rfl) 98 rfl (fun q98 => ?_)
  refine aw_putr (i := 22) (k := 7) K (dOf ck_mX9_init rfl rfl) rfl rfl (Nat.le_of_ble_eq_true rfl) wd_398 rfl rfl rfl rfl (fitR (by decide +kernel)) ?_
  refine aw_aload_n (i := 23) K (dOf ck_mX9_init rfl rfl) rfl ?_
  refine aw_iconst (i := 24) K (n := 4) (i32 _ rfl) (dOf ck_mX9_init rfl rfl) ?_
  refine aw_newaN (i := 25) (n := 4) (ty := .int) K (dOf ck_mX9_init rfl rfl) rfl (by decide) wd_273 (Nat.le_of_ble_eq_true rfl) (Nat.le_of_ble_eq_true rfl) (Nat.le_of_ble_eq_true rfl) 99 rfl (fun q99 => ?_)
  refine aw_putr (i := 26) (k := 8) K (dOf ck_mX9_init rfl rfl) rfl rfl (Nat.le_of_ble_eq_true rfl) wd_399 rfl rfl rfl rfl (fitR (by decide +kernel)) ?_
  refine aw_aload_n (i := 27) K (dOf ck_mX9_init rfl rfl) rfl ?_
  refine aw_iconst (i := 28) K (n := 1) (i32 _ rfl) (dOf ck_mX9_init rfl rfl) ?_
  refine aw_putf (i := 29) (k := 10) K (dOf ck_mX9_init rfl rfl) rfl rfl (Nat.le_of_ble_eq_true rfl) wd_401 rfl rfl (Or.inl rfl) ?_
  refine aw_aload_n (i := 30) K (dOf ck_mX9_init rfl rfl) rfl ?_
  refine aw_sip (i := 31) K (dOf ck_mX9_init rfl rfl) (v := 536) rfl ?_
  refine aw_newlN (i := 32) (n := 536) K (dOf ck_mX9_init rfl rfl) wd_318 (Nat.le_of_ble_eq_true rfl) (Nat.le_of_ble_eq_true rfl) (Nat.le_of_ble_eq_true rfl) 100 rfl (fun q100 => ?_)
  refine aw_putr (i := 33) (k := 14) K (dOf ck_mX9_init rfl rfl) rfl rfl (Nat.le_of_ble_eq_true rfl) wd_405 rfl rfl rfl rfl (fitR (by decide +kernel)) ?_
  refine aw_aload_n (i := 34) K (dOf ck_mX9_init rfl rfl) rfl ?_
  refine aw_bip (i := 35) K (dOf ck_mX9_init rfl rfl) (v := 67) rfl ?_
  refine aw_newlN (i := 36) (n := 67) K (dOf ck_mX9_init rfl rfl) wd_318 (Nat.le_of_ble_eq_true rfl) (Nat.le_of_ble_eq_true rfl) (Nat.le_of_ble_eq_true rfl) 101 rfl (fun q101 => ?_)
  refine aw_putr (i := 37) (k := 15) K (dOf ck_mX9_init rfl rfl) rfl rfl (Nat.le_of_ble_eq_true rfl) wd_406 rfl rfl rfl rfl (fitR (by decide +kernel)) ?_
  refine aw_aload_n (i := 38) K (dOf ck_mX9_init rfl rfl) rfl ?_
  refine aw_sip (i := 39) K (dOf ck_mX9_init rfl rfl) (v := 471) rfl ?_
  refine aw_newaN (i := 40) (n := 471) (ty := .short) K (dOf ck_mX9_init rfl rfl) rfl (by decide) wd_411 (Nat.le_of_ble_eq_true rfl) (Nat.le_of_ble_eq_true rfl) (Nat.le_of_ble_eq_true rfl) 102 rfl (fun q102 => ?_)
  refine aw_putr (i := 41) (k := 17) K (dOf ck_mX9_init rfl rfl) rfl rfl (Nat.le_of_ble_eq_true rfl) wd_408 rfl rfl rfl rfl (fitR (by decide +kernel)) ?_
  refine aw_aload_n (i := 42) K (dOf ck_mX9_init rfl rfl) rfl ?_
  refine aw_sip (i := 43) K (dOf ck_mX9_init rfl rfl) (v := 471) rfl ?_
  refine aw_newaN (i := 44) (n := 471) (ty := .short) K (dOf ck_mX9_init rfl rfl) rfl (by decide) wd_411 (Nat.le_of_ble_eq_true rfl) (Nat.le_of_ble_eq_true rfl) (Nat.le_of_ble_eq_true rfl) 103 rfl (fun q103 => ?_)
  refine aw_putr (i := 45) (k := 18) K (dOf ck_mX9_init rfl rfl) rfl rfl (Nat.le_of_ble_eq_true rfl) wd_409 rfl rfl rfl rfl (fitR (by decide +kernel)) ?_
  refine aw_aload_n (i := 46) K (dOf ck_mX9_init rfl rfl) rfl ?_
  refine aw_sip (i := 47) K (dOf ck_mX9_init rfl rfl) (v := 471) rfl ?_
  refine aw_newaN (i := 48) (n := 471) (ty := .byte) K (dOf ck_mX9_init rfl rfl) rfl (by decide) wd_272 (Nat.le_of_ble_eq_true rfl) (Nat.le_of_ble_eq_true rfl) (Nat.le_of_ble_eq_true rfl) 104 rfl (fun q104 => ?_)
  refine aw_putr (i := 49) (k := 19) K (dOf ck_mX9_init rfl rfl) rfl rfl (Nat.le_of_ble_eq_true rfl) wd_410 rfl rfl rfl rfl (fitR (by decide +kernel)) ?_
  refine aw_nm (sh' := sg_27) (mm' := mg_32) rfl rfl ?_
  exact aw_vretA K (by decide +kernel) rfl (Nat.le_of_ble_eq_true rfl) (Nat.le_of_ble_eq_true rfl) (pre_app (pre_app (pre_app (pre_app (pre_app (pre_app (pre_app (pre_app (pre_app (pre_app (pre_app ⟨[], (List.append_nil _).symm⟩)))))))))))
def sg_28 : List aE := [.inr (.inr (.inr (11, [some (some 1), some (some 25), some (some 47), some (some 49), some (some 51), some (some 59), some (some 61), some (some 67), some (some 73), some (some 76), some none, some none, some none, some none, some none]))), .inr (.inr (.inr (7, [some (some 2), none, none, some (some 3), none, none, none, none, none]))), .inl (.byte, 500), .inr (.inr (.inr (8, [none, none, none, none, none, none, some (some 4), some (some 5), some (some 6), some (some 19), some (some 20), some (some 21), some (some 22), some (some 23), some (some 24)]))), .inl (.byte, 8), .inl (.int, 8), .inr (.inr (.inl (.array .byte, [some 7, some 8, some 9, some 10, some 11, some 12, some 13, some 14, some 15, some 16, some 17, some 18]))), .inl (.byte, 6), .inl (.byte, 6), .inl (.byte, 6), .inl (.byte, 6), .inl (.byte, 6), .inl (.byte, 6), .inl (.byte, 6), .inl (.byte, 6), .inl (.byte, 6), .inl (.byte, 6), .inl (.byte, 6), .inl (.byte, 6), .inl (.int, 12), .inl (.int, 12), .inl (.int, 12), .inl (.int, 4), .inl (.int, 6), .inl (.int, 6), .inr (.inr (.inr (8, [none, none, none, none, none, none, some (some 26), some (some 27), some (some 28), some (some 41), some (some 42), some (some 43), some (some 44), some (some 45), some (some 46)]))), .inl (.byte, 8), .inl (.int, 8), .inr (.inr (.inl (.array .byte, [some 29, some 30, some 31, some 32, some 33, some 34, some 35, some 36, some 37, some 38, some 39, some 40]))), .inl (.byte, 6), .inl (.byte, 6), .inl (.byte, 6), .inl (.byte, 6), .inl (.byte, 6), .inl (.byte, 6), .inl (.byte, 6), .inl (.byte, 6), .inl (.byte, 6), .inl (.byte, 6), .inl (.byte, 6), .inl (.byte, 6), .inl (.int, 12), .inl (.int, 12), .inl (.int, 12), .inl (.int, 4), .inl (.int, 6), .inl (.int, 6), .inr (.inr (.inr (6, [some (some 48), none]))), .inl (.byte, 40), .inr (.inr (.inr (6, [some (some 50), none]))), .inl (.byte, 40), .inr (.inr (.inr (5, [some (some 52), some (some 57), some (some 58)]))), .inr (.inr (.inl (.array .long, [some 53, some 54, some 55, some 56]))), .inr (.inl 40), .inr (.inl 40), .inr (.inl 40), .inr (.inl 40), .inl (.int, 4), .inl (.int, 4), .inr (.inr (.inr (10, [some (some 60), none, none, none, none, none]))), .inl (.int, 40), .inr (.inr (.inr (1, [some (some 25), none, some (some 62), some (some 63), some (some 64), none, some (some 65), some (some 66), none, none]))), .inl (.byte, 720), .inl (.int, 305), .inr (.inl 915), .inl (.int, 60), .inl (.int, 60), .inr (.inr (.inr (1, [some (some 25), none, some (some 68), some (some 69), some (some 70), none, some (some 71), some (some 72), none, none]))), .inl (.byte, 720), .inl (.int, 305), .inr (.inl 915), .inl (.int, 60), .inl (.int, 60), .inr (.inr (.inr (4, [some (some 25), some (some 67), some (some 74), none, none]))), .inr (.inr (.inr (6, [some (some 75), none]))), .inl (.byte, 40), .inr (.inr (.inr (2, [some (some 77), some (some 78)]))), .inl (.int, 6), .inl (.int, 7), .inr (.inr (.inr (3, [some none, some none, some (some 80), some none, some none, some none, none, some none, some none, some none, none, none, none, none, none, none]))), .inr (.inr (.inr (9, [none, none, none, some (some 81), some (some 95), some (some 96), some (some 97), some (some 98), some (some 99), none, none, none, none, none, some (some 100), some (some 101), none, some (some 102), some (some 103), some (some 104)]))), .inr (.inr (.inl (.array .byte, [some 82, some 83, some 84, some 85, some 86, some 87, some 88, some 89, some 90, some 91, some 92, some 93, some 94]))), .inl (.byte, 7), .inl (.byte, 7), .inl (.byte, 7), .inl (.byte, 7), .inl (.byte, 7), .inl (.byte, 7), .inl (.byte, 7), .inl (.byte, 7), .inl (.byte, 7), .inl (.byte, 7), .inl (.byte, 7), .inl (.byte, 7), .inl (.byte, 7), .inl (.int, 13), .inl (.int, 13), .inl (.int, 4), .inl (.int, 9), .inl (.int, 4), .inr (.inl 536), .inr (.inl 67), .inl (.short, 471), .inl (.short, 471), .inl (.byte, 471), .inr (.inr (.inr (6, [some none, none])))]
def mg_33 : aM := (aNew mg_32 105)
def sg_29 : List aE := [.inr (.inr (.inr (11, [some (some 1), some (some 25), some (some 47), some (some 49), some (some 51), some (some 59), some (some 61), some (some 67), some (some 73), some (some 76), some none, some none, some none, some none, some none]))), .inr (.inr (.inr (7, [some (some 2), none, none, some (some 3), none, none, none, none, none]))), .inl (.byte, 500), .inr (.inr (.inr (8, [none, none, none, none, none, none, some (some 4), some (some 5), some (some 6), some (some 19), some (some 20), some (some 21), some (some 22), some (some 23), some (some 24)]))), .inl (.byte, 8), .inl (.int, 8), .inr (.inr (.inl (.array .byte, [some 7, some 8, some 9, some 10, some 11, some 12, some 13, some 14, some 15, some 16, some 17, some 18]))), .inl (.byte, 6), .inl (.byte, 6), .inl (.byte, 6), .inl (.byte, 6), .inl (.byte, 6), .inl (.byte, 6), .inl (.byte, 6), .inl (.byte, 6), .inl (.byte, 6), .inl (.byte, 6), .inl (.byte, 6), .inl (.byte, 6), .inl (.int, 12), .inl (.int, 12), .inl (.int, 12), .inl (.int, 4), .inl (.int, 6), .inl (.int, 6), .inr (.inr (.inr (8, [none, none, none, none, none, none, some (some 26), some (some 27), some (some 28), some (some 41), some (some 42), some (some 43), some (some 44), some (some 45), some (some 46)]))), .inl (.byte, 8), .inl (.int, 8), .inr (.inr (.inl (.array .byte, [some 29, some 30, some 31, some 32, some 33, some 34, some 35, some 36, some 37, some 38, some 39, some 40]))), .inl (.byte, 6), .inl (.byte, 6), .inl (.byte, 6), .inl (.byte, 6), .inl (.byte, 6), .inl (.byte, 6), .inl (.byte, 6), .inl (.byte, 6), .inl (.byte, 6), .inl (.byte, 6), .inl (.byte, 6), .inl (.byte, 6), .inl (.int, 12), .inl (.int, 12), .inl (.int, 12), .inl (.int, 4), .inl (.int, 6), .inl (.int, 6), .inr (.inr (.inr (6, [some (some 48), none]))), .inl (.byte, 40), .inr (.inr (.inr (6, [some (some 50), none]))), .inl (.byte, 40), .inr (.inr (.inr (5, [some (some 52), some (some 57), some (some 58)]))), .inr (.inr (.inl (.array .long, [some 53, some 54, some 55, some 56]))), .inr (.inl 40), .inr (.inl 40), .inr (.inl 40), .inr (.inl 40), .inl (.int, 4), .inl (.int, 4), .inr (.inr (.inr (10, [some (some 60), none, none, none, none, none]))), .inl (.int, 40), .inr (.inr (.inr (1, [some (some 25), none, some (some 62), some (some 63), some (some 64), none, some (some 65), some (some 66), none, none]))), .inl (.byte, 720), .inl (.int, 305), .inr (.inl 915), .inl (.int, 60), .inl (.int, 60), .inr (.inr (.inr (1, [some (some 25), none, some (some 68), some (some 69), some (some 70), none, some (some 71), some (some 72), none, none]))), .inl (.byte, 720), .inl (.int, 305), .inr (.inl 915), .inl (.int, 60), .inl (.int, 60), .inr (.inr (.inr (4, [some (some 25), some (some 67), some (some 74), none, none]))), .inr (.inr (.inr (6, [some (some 75), none]))), .inl (.byte, 40), .inr (.inr (.inr (2, [some (some 77), some (some 78)]))), .inl (.int, 6), .inl (.int, 7), .inr (.inr (.inr (3, [some none, some none, some (some 80), some none, some none, some none, none, some none, some none, some none, none, none, none, none, none, none]))), .inr (.inr (.inr (9, [none, none, none, some (some 81), some (some 95), some (some 96), some (some 97), some (some 98), some (some 99), none, none, none, none, none, some (some 100), some (some 101), none, some (some 102), some (some 103), some (some 104)]))), .inr (.inr (.inl (.array .byte, [some 82, some 83, some 84, some 85, some 86, some 87, some 88, some 89, some 90, some 91, some 92, some 93, some 94]))), .inl (.byte, 7), .inl (.byte, 7), .inl (.byte, 7), .inl (.byte, 7), .inl (.byte, 7), .inl (.byte, 7), .inl (.byte, 7), .inl (.byte, 7), .inl (.byte, 7), .inl (.byte, 7), .inl (.byte, 7), .inl (.byte, 7), .inl (.byte, 7), .inl (.int, 13), .inl (.int, 13), .inl (.int, 4), .inl (.int, 9), .inl (.int, 4), .inr (.inl 536), .inr (.inl 67), .inl (.short, 471), .inl (.short, 471), .inl (.byte, 471), .inr (.inr (.inr (6, [some (some 106), none]))), .inl (.byte, 40)]
def mg_34 : aM := (aNew mg_33 106)
set_option maxHeartbeats 8000000 in
set_option maxRecDepth 20000 in
/-- Sounds.<init> -/
theorem ct_19 {l : Launch} {D : va_G} {cA : FieldType → ClassId} {ad adV : Nat → Nat} {z0 : Nat} : aMet l D cA ad adV z0 mX6_init 1 20 1 40 [.inr (.inr (.inl (some 105)))] sg_28 mg_33 none sg_29 mg_34 := by
  refine aMet_of (by decide +kernel) rfl (Nat.le_of_ble_eq_true rfl) (fun p e s m args below meth c al K => ?_)
  refine aw_aload_n (i := 0) K (dOf ck_mX6_init rfl rfl) rfl ?_
  refine aw_objInit (i := 1) K (dOf ck_mX6_init rfl rfl) ⟨wd_293, wd_167, wd_168⟩ (Nat.le_of_ble_eq_true rfl) ⟨Nat.le_of_ble_eq_true rfl, Nat.le_of_ble_eq_true rfl⟩ ?_
  refine aw_aload_n (i := 2) K (dOf ck_mX6_init rfl rfl) rfl ?_
  refine aw_bip (i := 3) K (dOf ck_mX6_init rfl rfl) (v := 40) rfl ?_
  refine aw_newaN (i := 4) (n := 40) (ty := .byte) K (dOf ck_mX6_init rfl rfl) rfl (by decide) wd_272 (Nat.le_of_ble_eq_true rfl) (Nat.le_of_ble_eq_true rfl) (Nat.le_of_ble_eq_true rfl) 106 rfl (fun q106 => ?_)
  refine aw_putr (i := 5) (k := 0) K (dOf ck_mX6_init rfl rfl) rfl rfl (Nat.le_of_ble_eq_true rfl) wd_294 rfl rfl rfl rfl (fitR (by decide +kernel)) ?_
  refine aw_nm (sh' := sg_29) (mm' := mg_34) rfl rfl ?_
  exact aw_vretA K (by decide +kernel) rfl (Nat.le_of_ble_eq_true rfl) (Nat.le_of_ble_eq_true rfl) (pre_app ⟨[], (List.append_nil _).symm⟩)
def sg_30 : List aE := [.inr (.inr (.inr (11, [some (some 1), some (some 25), some (some 47), some (some 49), some (some 51), some (some 59), some (some 61), some (some 67), some (some 73), some (some 76), some none, some none, some none, some none, some none]))), .inr (.inr (.inr (7, [some (some 2), none, none, some (some 3), none, none, none, none, none]))), .inl (.byte, 500), .inr (.inr (.inr (8, [none, none, none, none, none, none, some (some 4), some (some 5), some (some 6), some (some 19), some (some 20), some (some 21), some (some 22), some (some 23), some (some 24)]))), .inl (.byte, 8), .inl (.int, 8), .inr (.inr (.inl (.array .byte, [some 7, some 8, some 9, some 10, some 11, some 12, some 13, some 14, some 15, some 16, some 17, some 18]))), .inl (.byte, 6), .inl (.byte, 6), .inl (.byte, 6), .inl (.byte, 6), .inl (.byte, 6), .inl (.byte, 6), .inl (.byte, 6), .inl (.byte, 6), .inl (.byte, 6), .inl (.byte, 6), .inl (.byte, 6), .inl (.byte, 6), .inl (.int, 12), .inl (.int, 12), .inl (.int, 12), .inl (.int, 4), .inl (.int, 6), .inl (.int, 6), .inr (.inr (.inr (8, [none, none, none, none, none, none, some (some 26), some (some 27), some (some 28), some (some 41), some (some 42), some (some 43), some (some 44), some (some 45), some (some 46)]))), .inl (.byte, 8), .inl (.int, 8), .inr (.inr (.inl (.array .byte, [some 29, some 30, some 31, some 32, some 33, some 34, some 35, some 36, some 37, some 38, some 39, some 40]))), .inl (.byte, 6), .inl (.byte, 6), .inl (.byte, 6), .inl (.byte, 6), .inl (.byte, 6), .inl (.byte, 6), .inl (.byte, 6), .inl (.byte, 6), .inl (.byte, 6), .inl (.byte, 6), .inl (.byte, 6), .inl (.byte, 6), .inl (.int, 12), .inl (.int, 12), .inl (.int, 12), .inl (.int, 4), .inl (.int, 6), .inl (.int, 6), .inr (.inr (.inr (6, [some (some 48), none]))), .inl (.byte, 40), .inr (.inr (.inr (6, [some (some 50), none]))), .inl (.byte, 40), .inr (.inr (.inr (5, [some (some 52), some (some 57), some (some 58)]))), .inr (.inr (.inl (.array .long, [some 53, some 54, some 55, some 56]))), .inr (.inl 40), .inr (.inl 40), .inr (.inl 40), .inr (.inl 40), .inl (.int, 4), .inl (.int, 4), .inr (.inr (.inr (10, [some (some 60), none, none, none, none, none]))), .inl (.int, 40), .inr (.inr (.inr (1, [some (some 25), none, some (some 62), some (some 63), some (some 64), none, some (some 65), some (some 66), none, none]))), .inl (.byte, 720), .inl (.int, 305), .inr (.inl 915), .inl (.int, 60), .inl (.int, 60), .inr (.inr (.inr (1, [some (some 25), none, some (some 68), some (some 69), some (some 70), none, some (some 71), some (some 72), none, none]))), .inl (.byte, 720), .inl (.int, 305), .inr (.inl 915), .inl (.int, 60), .inl (.int, 60), .inr (.inr (.inr (4, [some (some 25), some (some 67), some (some 74), none, none]))), .inr (.inr (.inr (6, [some (some 75), none]))), .inl (.byte, 40), .inr (.inr (.inr (2, [some (some 77), some (some 78)]))), .inl (.int, 6), .inl (.int, 7), .inr (.inr (.inr (3, [some (some 25), some (some 76), some (some 80), some (some 105), some (some 107), some (some 108), none, some (some 109), some (some 110), some (some 111), none, none, none, none, none, none]))), .inr (.inr (.inr (9, [none, none, none, some (some 81), some (some 95), some (some 96), some (some 97), some (some 98), some (some 99), none, none, none, none, none, some (some 100), some (some 101), none, some (some 102), some (some 103), some (some 104)]))), .inr (.inr (.inl (.array .byte, [some 82, some 83, some 84, some 85, some 86, some 87, some 88, some 89, some 90, some 91, some 92, some 93, some 94]))), .inl (.byte, 7), .inl (.byte, 7), .inl (.byte, 7), .inl (.byte, 7), .inl (.byte, 7), .inl (.byte, 7), .inl (.byte, 7), .inl (.byte, 7), .inl (.byte, 7), .inl (.byte, 7), .inl (.byte, 7), .inl (.byte, 7), .inl (.byte, 7), .inl (.int, 13), .inl (.int, 13), .inl (.int, 4), .inl (.int, 9), .inl (.int, 4), .inr (.inl 536), .inr (.inl 67), .inl (.short, 471), .inl (.short, 471), .inl (.byte, 471), .inr (.inr (.inr (6, [some (some 106), none]))), .inl (.byte, 40), .inl (.int, 3), .inl (.byte, 2826), .inl (.boolean, 4), .inr (.inr (.inl (.object "OneBreath$Sounds", [none, none, none, none]))), .inl (.int, 4), .inr (.inr (.inr (6, [some none, none])))]
def mg_35 : aM := (aNew (aNew (aNew (aNew (aNew (aNew mg_34 107) 108) 109) 110) 111) 112)
def sg_31 : List aE := [.inr (.inr (.inr (11, [some (some 1), some (some 25), some (some 47), some (some 49), some (some 51), some (some 59), some (some 61), some (some 67), some (some 73), some (some 76), some none, some none, some none, some none, some none]))), .inr (.inr (.inr (7, [some (some 2), none, none, some (some 3), none, none, none, none, none]))), .inl (.byte, 500), .inr (.inr (.inr (8, [none, none, none, none, none, none, some (some 4), some (some 5), some (some 6), some (some 19), some (some 20), some (some 21), some (some 22), some (some 23), some (some 24)]))), .inl (.byte, 8), .inl (.int, 8), .inr (.inr (.inl (.array .byte, [some 7, some 8, some 9, some 10, some 11, some 12, some 13, some 14, some 15, some 16, some 17, some 18]))), .inl (.byte, 6), .inl (.byte, 6), .inl (.byte, 6), .inl (.byte, 6), .inl (.byte, 6), .inl (.byte, 6), .inl (.byte, 6), .inl (.byte, 6), .inl (.byte, 6), .inl (.byte, 6), .inl (.byte, 6), .inl (.byte, 6), .inl (.int, 12), .inl (.int, 12), .inl (.int, 12), .inl (.int, 4), .inl (.int, 6), .inl (.int, 6), .inr (.inr (.inr (8, [none, none, none, none, none, none, some (some 26), some (some 27), some (some 28), some (some 41), some (some 42), some (some 43), some (some 44), some (some 45), some (some 46)]))), .inl (.byte, 8), .inl (.int, 8), .inr (.inr (.inl (.array .byte, [some 29, some 30, some 31, some 32, some 33, some 34, some 35, some 36, some 37, some 38, some 39, some 40]))), .inl (.byte, 6), .inl (.byte, 6), .inl (.byte, 6), .inl (.byte, 6), .inl (.byte, 6), .inl (.byte, 6), .inl (.byte, 6), .inl (.byte, 6), .inl (.byte, 6), .inl (.byte, 6), .inl (.byte, 6), .inl (.byte, 6), .inl (.int, 12), .inl (.int, 12), .inl (.int, 12), .inl (.int, 4), .inl (.int, 6), .inl (.int, 6), .inr (.inr (.inr (6, [some (some 48), none]))), .inl (.byte, 40), .inr (.inr (.inr (6, [some (some 50), none]))), .inl (.byte, 40), .inr (.inr (.inr (5, [some (some 52), some (some 57), some (some 58)]))), .inr (.inr (.inl (.array .long, [some 53, some 54, some 55, some 56]))), .inr (.inl 40), .inr (.inl 40), .inr (.inl 40), .inr (.inl 40), .inl (.int, 4), .inl (.int, 4), .inr (.inr (.inr (10, [some (some 60), none, none, none, none, none]))), .inl (.int, 40), .inr (.inr (.inr (1, [some (some 25), none, some (some 62), some (some 63), some (some 64), none, some (some 65), some (some 66), none, none]))), .inl (.byte, 720), .inl (.int, 305), .inr (.inl 915), .inl (.int, 60), .inl (.int, 60), .inr (.inr (.inr (1, [some (some 25), none, some (some 68), some (some 69), some (some 70), none, some (some 71), some (some 72), none, none]))), .inl (.byte, 720), .inl (.int, 305), .inr (.inl 915), .inl (.int, 60), .inl (.int, 60), .inr (.inr (.inr (4, [some (some 25), some (some 67), some (some 74), none, none]))), .inr (.inr (.inr (6, [some (some 75), none]))), .inl (.byte, 40), .inr (.inr (.inr (2, [some (some 77), some (some 78)]))), .inl (.int, 6), .inl (.int, 7), .inr (.inr (.inr (3, [some (some 25), some (some 76), some (some 80), some (some 105), some (some 107), some (some 108), none, some (some 109), some (some 110), some (some 111), none, none, none, none, none, none]))), .inr (.inr (.inr (9, [none, none, none, some (some 81), some (some 95), some (some 96), some (some 97), some (some 98), some (some 99), none, none, none, none, none, some (some 100), some (some 101), none, some (some 102), some (some 103), some (some 104)]))), .inr (.inr (.inl (.array .byte, [some 82, some 83, some 84, some 85, some 86, some 87, some 88, some 89, some 90, some 91, some 92, some 93, some 94]))), .inl (.byte, 7), .inl (.byte, 7), .inl (.byte, 7), .inl (.byte, 7), .inl (.byte, 7), .inl (.byte, 7), .inl (.byte, 7), .inl (.byte, 7), .inl (.byte, 7), .inl (.byte, 7), .inl (.byte, 7), .inl (.byte, 7), .inl (.byte, 7), .inl (.int, 13), .inl (.int, 13), .inl (.int, 4), .inl (.int, 9), .inl (.int, 4), .inr (.inl 536), .inr (.inl 67), .inl (.short, 471), .inl (.short, 471), .inl (.byte, 471), .inr (.inr (.inr (6, [some (some 106), none]))), .inl (.byte, 40), .inl (.int, 3), .inl (.byte, 2826), .inl (.boolean, 4), .inr (.inr (.inl (.object "OneBreath$Sounds", [none, none, none, none]))), .inl (.int, 4), .inr (.inr (.inr (6, [some (some 113), none]))), .inl (.byte, 40)]
def mg_36 : aM := (aNew mg_35 113)
set_option maxHeartbeats 8000000 in
set_option maxRecDepth 20000 in
/-- Sounds.<init> -/
theorem ct_20 {l : Launch} {D : va_G} {cA : FieldType → ClassId} {ad adV : Nat → Nat} {z0 : Nat} : aMet l D cA ad adV z0 mX6_init 1 20 1 40 [.inr (.inr (.inl (some 112)))] sg_30 mg_35 none sg_31 mg_36 := by
  refine aMet_of (by decide +kernel) rfl (Nat.le_of_ble_eq_true rfl) (fun p e s m args below meth c al K => ?_)
  refine aw_aload_n (i := 0) K (dOf ck_mX6_init rfl rfl) rfl ?_
  refine aw_objInit (i := 1) K (dOf ck_mX6_init rfl rfl) ⟨wd_293, wd_167, wd_168⟩ (Nat.le_of_ble_eq_true rfl) ⟨Nat.le_of_ble_eq_true rfl, Nat.le_of_ble_eq_true rfl⟩ ?_
  refine aw_aload_n (i := 2) K (dOf ck_mX6_init rfl rfl) rfl ?_
  refine aw_bip (i := 3) K (dOf ck_mX6_init rfl rfl) (v := 40) rfl ?_
  refine aw_newaN (i := 4) (n := 40) (ty := .byte) K (dOf ck_mX6_init rfl rfl) rfl (by decide) wd_272 (Nat.le_of_ble_eq_true rfl) (Nat.le_of_ble_eq_true rfl) (Nat.le_of_ble_eq_true rfl) 113 rfl (fun q113 => ?_)
  refine aw_putr (i := 5) (k := 0) K (dOf ck_mX6_init rfl rfl) rfl rfl (Nat.le_of_ble_eq_true rfl) wd_294 rfl rfl rfl rfl (fitR (by decide +kernel)) ?_
  refine aw_nm (sh' := sg_31) (mm' := mg_36) rfl rfl ?_
  exact aw_vretA K (by decide +kernel) rfl (Nat.le_of_ble_eq_true rfl) (Nat.le_of_ble_eq_true rfl) (pre_app ⟨[], (List.append_nil _).symm⟩)
def sg_32 : List aE := [.inr (.inr (.inr (11, [some (some 1), some (some 25), some (some 47), some (some 49), some (some 51), some (some 59), some (some 61), some (some 67), some (some 73), some (some 76), some none, some none, some none, some none, some none]))), .inr (.inr (.inr (7, [some (some 2), none, none, some (some 3), none, none, none, none, none]))), .inl (.byte, 500), .inr (.inr (.inr (8, [none, none, none, none, none, none, some (some 4), some (some 5), some (some 6), some (some 19), some (some 20), some (some 21), some (some 22), some (some 23), some (some 24)]))), .inl (.byte, 8), .inl (.int, 8), .inr (.inr (.inl (.array .byte, [some 7, some 8, some 9, some 10, some 11, some 12, some 13, some 14, some 15, some 16, some 17, some 18]))), .inl (.byte, 6), .inl (.byte, 6), .inl (.byte, 6), .inl (.byte, 6), .inl (.byte, 6), .inl (.byte, 6), .inl (.byte, 6), .inl (.byte, 6), .inl (.byte, 6), .inl (.byte, 6), .inl (.byte, 6), .inl (.byte, 6), .inl (.int, 12), .inl (.int, 12), .inl (.int, 12), .inl (.int, 4), .inl (.int, 6), .inl (.int, 6), .inr (.inr (.inr (8, [none, none, none, none, none, none, some (some 26), some (some 27), some (some 28), some (some 41), some (some 42), some (some 43), some (some 44), some (some 45), some (some 46)]))), .inl (.byte, 8), .inl (.int, 8), .inr (.inr (.inl (.array .byte, [some 29, some 30, some 31, some 32, some 33, some 34, some 35, some 36, some 37, some 38, some 39, some 40]))), .inl (.byte, 6), .inl (.byte, 6), .inl (.byte, 6), .inl (.byte, 6), .inl (.byte, 6), .inl (.byte, 6), .inl (.byte, 6), .inl (.byte, 6), .inl (.byte, 6), .inl (.byte, 6), .inl (.byte, 6), .inl (.byte, 6), .inl (.int, 12), .inl (.int, 12), .inl (.int, 12), .inl (.int, 4), .inl (.int, 6), .inl (.int, 6), .inr (.inr (.inr (6, [some (some 48), none]))), .inl (.byte, 40), .inr (.inr (.inr (6, [some (some 50), none]))), .inl (.byte, 40), .inr (.inr (.inr (5, [some (some 52), some (some 57), some (some 58)]))), .inr (.inr (.inl (.array .long, [some 53, some 54, some 55, some 56]))), .inr (.inl 40), .inr (.inl 40), .inr (.inl 40), .inr (.inl 40), .inl (.int, 4), .inl (.int, 4), .inr (.inr (.inr (10, [some (some 60), none, none, none, none, none]))), .inl (.int, 40), .inr (.inr (.inr (1, [some (some 25), none, some (some 62), some (some 63), some (some 64), none, some (some 65), some (some 66), none, none]))), .inl (.byte, 720), .inl (.int, 305), .inr (.inl 915), .inl (.int, 60), .inl (.int, 60), .inr (.inr (.inr (1, [some (some 25), none, some (some 68), some (some 69), some (some 70), none, some (some 71), some (some 72), none, none]))), .inl (.byte, 720), .inl (.int, 305), .inr (.inl 915), .inl (.int, 60), .inl (.int, 60), .inr (.inr (.inr (4, [some (some 25), some (some 67), some (some 74), none, none]))), .inr (.inr (.inr (6, [some (some 75), none]))), .inl (.byte, 40), .inr (.inr (.inr (2, [some (some 77), some (some 78)]))), .inl (.int, 6), .inl (.int, 7), .inr (.inr (.inr (3, [some (some 25), some (some 76), some (some 80), some (some 105), some (some 107), some (some 108), none, some (some 109), some (some 110), some (some 111), none, none, none, none, none, none]))), .inr (.inr (.inr (9, [none, none, none, some (some 81), some (some 95), some (some 96), some (some 97), some (some 98), some (some 99), none, none, none, none, none, some (some 100), some (some 101), none, some (some 102), some (some 103), some (some 104)]))), .inr (.inr (.inl (.array .byte, [some 82, some 83, some 84, some 85, some 86, some 87, some 88, some 89, some 90, some 91, some 92, some 93, some 94]))), .inl (.byte, 7), .inl (.byte, 7), .inl (.byte, 7), .inl (.byte, 7), .inl (.byte, 7), .inl (.byte, 7), .inl (.byte, 7), .inl (.byte, 7), .inl (.byte, 7), .inl (.byte, 7), .inl (.byte, 7), .inl (.byte, 7), .inl (.byte, 7), .inl (.int, 13), .inl (.int, 13), .inl (.int, 4), .inl (.int, 9), .inl (.int, 4), .inr (.inl 536), .inr (.inl 67), .inl (.short, 471), .inl (.short, 471), .inl (.byte, 471), .inr (.inr (.inr (6, [some (some 106), none]))), .inl (.byte, 40), .inl (.int, 3), .inl (.byte, 2826), .inl (.boolean, 4), .inr (.inr (.inl (.object "OneBreath$Sounds", [some 112, none, none, none]))), .inl (.int, 4), .inr (.inr (.inr (6, [some (some 113), none]))), .inl (.byte, 40), .inr (.inr (.inr (6, [some none, none])))]
def mg_37 : aM := (aNew mg_36 114)
def sg_33 : List aE := [.inr (.inr (.inr (11, [some (some 1), some (some 25), some (some 47), some (some 49), some (some 51), some (some 59), some (some 61), some (some 67), some (some 73), some (some 76), some none, some none, some none, some none, some none]))), .inr (.inr (.inr (7, [some (some 2), none, none, some (some 3), none, none, none, none, none]))), .inl (.byte, 500), .inr (.inr (.inr (8, [none, none, none, none, none, none, some (some 4), some (some 5), some (some 6), some (some 19), some (some 20), some (some 21), some (some 22), some (some 23), some (some 24)]))), .inl (.byte, 8), .inl (.int, 8), .inr (.inr (.inl (.array .byte, [some 7, some 8, some 9, some 10, some 11, some 12, some 13, some 14, some 15, some 16, some 17, some 18]))), .inl (.byte, 6), .inl (.byte, 6), .inl (.byte, 6), .inl (.byte, 6), .inl (.byte, 6), .inl (.byte, 6), .inl (.byte, 6), .inl (.byte, 6), .inl (.byte, 6), .inl (.byte, 6), .inl (.byte, 6), .inl (.byte, 6), .inl (.int, 12), .inl (.int, 12), .inl (.int, 12), .inl (.int, 4), .inl (.int, 6), .inl (.int, 6), .inr (.inr (.inr (8, [none, none, none, none, none, none, some (some 26), some (some 27), some (some 28), some (some 41), some (some 42), some (some 43), some (some 44), some (some 45), some (some 46)]))), .inl (.byte, 8), .inl (.int, 8), .inr (.inr (.inl (.array .byte, [some 29, some 30, some 31, some 32, some 33, some 34, some 35, some 36, some 37, some 38, some 39, some 40]))), .inl (.byte, 6), .inl (.byte, 6), .inl (.byte, 6), .inl (.byte, 6), .inl (.byte, 6), .inl (.byte, 6), .inl (.byte, 6), .inl (.byte, 6), .inl (.byte, 6), .inl (.byte, 6), .inl (.byte, 6), .inl (.byte, 6), .inl (.int, 12), .inl (.int, 12), .inl (.int, 12), .inl (.int, 4), .inl (.int, 6), .inl (.int, 6), .inr (.inr (.inr (6, [some (some 48), none]))), .inl (.byte, 40), .inr (.inr (.inr (6, [some (some 50), none]))), .inl (.byte, 40), .inr (.inr (.inr (5, [some (some 52), some (some 57), some (some 58)]))), .inr (.inr (.inl (.array .long, [some 53, some 54, some 55, some 56]))), .inr (.inl 40), .inr (.inl 40), .inr (.inl 40), .inr (.inl 40), .inl (.int, 4), .inl (.int, 4), .inr (.inr (.inr (10, [some (some 60), none, none, none, none, none]))), .inl (.int, 40), .inr (.inr (.inr (1, [some (some 25), none, some (some 62), some (some 63), some (some 64), none, some (some 65), some (some 66), none, none]))), .inl (.byte, 720), .inl (.int, 305), .inr (.inl 915), .inl (.int, 60), .inl (.int, 60), .inr (.inr (.inr (1, [some (some 25), none, some (some 68), some (some 69), some (some 70), none, some (some 71), some (some 72), none, none]))), .inl (.byte, 720), .inl (.int, 305), .inr (.inl 915), .inl (.int, 60), .inl (.int, 60), .inr (.inr (.inr (4, [some (some 25), some (some 67), some (some 74), none, none]))), .inr (.inr (.inr (6, [some (some 75), none]))), .inl (.byte, 40), .inr (.inr (.inr (2, [some (some 77), some (some 78)]))), .inl (.int, 6), .inl (.int, 7), .inr (.inr (.inr (3, [some (some 25), some (some 76), some (some 80), some (some 105), some (some 107), some (some 108), none, some (some 109), some (some 110), some (some 111), none, none, none, none, none, none]))), .inr (.inr (.inr (9, [none, none, none, some (some 81), some (some 95), some (some 96), some (some 97), some (some 98), some (some 99), none, none, none, none, none, some (some 100), some (some 101), none, some (some 102), some (some 103), some (some 104)]))), .inr (.inr (.inl (.array .byte, [some 82, some 83, some 84, some 85, some 86, some 87, some 88, some 89, some 90, some 91, some 92, some 93, some 94]))), .inl (.byte, 7), .inl (.byte, 7), .inl (.byte, 7), .inl (.byte, 7), .inl (.byte, 7), .inl (.byte, 7), .inl (.byte, 7), .inl (.byte, 7), .inl (.byte, 7), .inl (.byte, 7), .inl (.byte, 7), .inl (.byte, 7), .inl (.byte, 7), .inl (.int, 13), .inl (.int, 13), .inl (.int, 4), .inl (.int, 9), .inl (.int, 4), .inr (.inl 536), .inr (.inl 67), .inl (.short, 471), .inl (.short, 471), .inl (.byte, 471), .inr (.inr (.inr (6, [some (some 106), none]))), .inl (.byte, 40), .inl (.int, 3), .inl (.byte, 2826), .inl (.boolean, 4), .inr (.inr (.inl (.object "OneBreath$Sounds", [some 112, none, none, none]))), .inl (.int, 4), .inr (.inr (.inr (6, [some (some 113), none]))), .inl (.byte, 40), .inr (.inr (.inr (6, [some (some 115), none]))), .inl (.byte, 40)]
def mg_38 : aM := (aNew mg_37 115)
set_option maxHeartbeats 8000000 in
set_option maxRecDepth 20000 in
/-- Sounds.<init> -/
theorem ct_21 {l : Launch} {D : va_G} {cA : FieldType → ClassId} {ad adV : Nat → Nat} {z0 : Nat} : aMet l D cA ad adV z0 mX6_init 1 20 1 40 [.inr (.inr (.inl (some 114)))] sg_32 mg_37 none sg_33 mg_38 := by
  refine aMet_of (by decide +kernel) rfl (Nat.le_of_ble_eq_true rfl) (fun p e s m args below meth c al K => ?_)
  refine aw_aload_n (i := 0) K (dOf ck_mX6_init rfl rfl) rfl ?_
  refine aw_objInit (i := 1) K (dOf ck_mX6_init rfl rfl) ⟨wd_293, wd_167, wd_168⟩ (Nat.le_of_ble_eq_true rfl) ⟨Nat.le_of_ble_eq_true rfl, Nat.le_of_ble_eq_true rfl⟩ ?_
  refine aw_aload_n (i := 2) K (dOf ck_mX6_init rfl rfl) rfl ?_
  refine aw_bip (i := 3) K (dOf ck_mX6_init rfl rfl) (v := 40) rfl ?_
  refine aw_newaN (i := 4) (n := 40) (ty := .byte) K (dOf ck_mX6_init rfl rfl) rfl (by decide) wd_272 (Nat.le_of_ble_eq_true rfl) (Nat.le_of_ble_eq_true rfl) (Nat.le_of_ble_eq_true rfl) 115 rfl (fun q115 => ?_)
  refine aw_putr (i := 5) (k := 0) K (dOf ck_mX6_init rfl rfl) rfl rfl (Nat.le_of_ble_eq_true rfl) wd_294 rfl rfl rfl rfl (fitR (by decide +kernel)) ?_
  refine aw_nm (sh' := sg_33) (mm' := mg_38) rfl rfl ?_
  exact aw_vretA K (by decide +kernel) rfl (Nat.le_of_ble_eq_true rfl) (Nat.le_of_ble_eq_true rfl) (pre_app ⟨[], (List.append_nil _).symm⟩)
def sg_34 : List aE := [.inr (.inr (.inr (11, [some (some 1), some (some 25), some (some 47), some (some 49), some (some 51), some (some 59), some (some 61), some (some 67), some (some 73), some (some 76), some none, some none, some none, some none, some none]))), .inr (.inr (.inr (7, [some (some 2), none, none, some (some 3), none, none, none, none, none]))), .inl (.byte, 500), .inr (.inr (.inr (8, [none, none, none, none, none, none, some (some 4), some (some 5), some (some 6), some (some 19), some (some 20), some (some 21), some (some 22), some (some 23), some (some 24)]))), .inl (.byte, 8), .inl (.int, 8), .inr (.inr (.inl (.array .byte, [some 7, some 8, some 9, some 10, some 11, some 12, some 13, some 14, some 15, some 16, some 17, some 18]))), .inl (.byte, 6), .inl (.byte, 6), .inl (.byte, 6), .inl (.byte, 6), .inl (.byte, 6), .inl (.byte, 6), .inl (.byte, 6), .inl (.byte, 6), .inl (.byte, 6), .inl (.byte, 6), .inl (.byte, 6), .inl (.byte, 6), .inl (.int, 12), .inl (.int, 12), .inl (.int, 12), .inl (.int, 4), .inl (.int, 6), .inl (.int, 6), .inr (.inr (.inr (8, [none, none, none, none, none, none, some (some 26), some (some 27), some (some 28), some (some 41), some (some 42), some (some 43), some (some 44), some (some 45), some (some 46)]))), .inl (.byte, 8), .inl (.int, 8), .inr (.inr (.inl (.array .byte, [some 29, some 30, some 31, some 32, some 33, some 34, some 35, some 36, some 37, some 38, some 39, some 40]))), .inl (.byte, 6), .inl (.byte, 6), .inl (.byte, 6), .inl (.byte, 6), .inl (.byte, 6), .inl (.byte, 6), .inl (.byte, 6), .inl (.byte, 6), .inl (.byte, 6), .inl (.byte, 6), .inl (.byte, 6), .inl (.byte, 6), .inl (.int, 12), .inl (.int, 12), .inl (.int, 12), .inl (.int, 4), .inl (.int, 6), .inl (.int, 6), .inr (.inr (.inr (6, [some (some 48), none]))), .inl (.byte, 40), .inr (.inr (.inr (6, [some (some 50), none]))), .inl (.byte, 40), .inr (.inr (.inr (5, [some (some 52), some (some 57), some (some 58)]))), .inr (.inr (.inl (.array .long, [some 53, some 54, some 55, some 56]))), .inr (.inl 40), .inr (.inl 40), .inr (.inl 40), .inr (.inl 40), .inl (.int, 4), .inl (.int, 4), .inr (.inr (.inr (10, [some (some 60), none, none, none, none, none]))), .inl (.int, 40), .inr (.inr (.inr (1, [some (some 25), none, some (some 62), some (some 63), some (some 64), none, some (some 65), some (some 66), none, none]))), .inl (.byte, 720), .inl (.int, 305), .inr (.inl 915), .inl (.int, 60), .inl (.int, 60), .inr (.inr (.inr (1, [some (some 25), none, some (some 68), some (some 69), some (some 70), none, some (some 71), some (some 72), none, none]))), .inl (.byte, 720), .inl (.int, 305), .inr (.inl 915), .inl (.int, 60), .inl (.int, 60), .inr (.inr (.inr (4, [some (some 25), some (some 67), some (some 74), none, none]))), .inr (.inr (.inr (6, [some (some 75), none]))), .inl (.byte, 40), .inr (.inr (.inr (2, [some (some 77), some (some 78)]))), .inl (.int, 6), .inl (.int, 7), .inr (.inr (.inr (3, [some (some 25), some (some 76), some (some 80), some (some 105), some (some 107), some (some 108), none, some (some 109), some (some 110), some (some 111), none, none, none, none, none, none]))), .inr (.inr (.inr (9, [none, none, none, some (some 81), some (some 95), some (some 96), some (some 97), some (some 98), some (some 99), none, none, none, none, none, some (some 100), some (some 101), none, some (some 102), some (some 103), some (some 104)]))), .inr (.inr (.inl (.array .byte, [some 82, some 83, some 84, some 85, some 86, some 87, some 88, some 89, some 90, some 91, some 92, some 93, some 94]))), .inl (.byte, 7), .inl (.byte, 7), .inl (.byte, 7), .inl (.byte, 7), .inl (.byte, 7), .inl (.byte, 7), .inl (.byte, 7), .inl (.byte, 7), .inl (.byte, 7), .inl (.byte, 7), .inl (.byte, 7), .inl (.byte, 7), .inl (.byte, 7), .inl (.int, 13), .inl (.int, 13), .inl (.int, 4), .inl (.int, 9), .inl (.int, 4), .inr (.inl 536), .inr (.inl 67), .inl (.short, 471), .inl (.short, 471), .inl (.byte, 471), .inr (.inr (.inr (6, [some (some 106), none]))), .inl (.byte, 40), .inl (.int, 3), .inl (.byte, 2826), .inl (.boolean, 4), .inr (.inr (.inl (.object "OneBreath$Sounds", [some 112, some 114, none, none]))), .inl (.int, 4), .inr (.inr (.inr (6, [some (some 113), none]))), .inl (.byte, 40), .inr (.inr (.inr (6, [some (some 115), none]))), .inl (.byte, 40), .inr (.inr (.inr (6, [some none, none])))]
def mg_39 : aM := (aNew mg_38 116)
def sg_35 : List aE := [.inr (.inr (.inr (11, [some (some 1), some (some 25), some (some 47), some (some 49), some (some 51), some (some 59), some (some 61), some (some 67), some (some 73), some (some 76), some none, some none, some none, some none, some none]))), .inr (.inr (.inr (7, [some (some 2), none, none, some (some 3), none, none, none, none, none]))), .inl (.byte, 500), .inr (.inr (.inr (8, [none, none, none, none, none, none, some (some 4), some (some 5), some (some 6), some (some 19), some (some 20), some (some 21), some (some 22), some (some 23), some (some 24)]))), .inl (.byte, 8), .inl (.int, 8), .inr (.inr (.inl (.array .byte, [some 7, some 8, some 9, some 10, some 11, some 12, some 13, some 14, some 15, some 16, some 17, some 18]))), .inl (.byte, 6), .inl (.byte, 6), .inl (.byte, 6), .inl (.byte, 6), .inl (.byte, 6), .inl (.byte, 6), .inl (.byte, 6), .inl (.byte, 6), .inl (.byte, 6), .inl (.byte, 6), .inl (.byte, 6), .inl (.byte, 6), .inl (.int, 12), .inl (.int, 12), .inl (.int, 12), .inl (.int, 4), .inl (.int, 6), .inl (.int, 6), .inr (.inr (.inr (8, [none, none, none, none, none, none, some (some 26), some (some 27), some (some 28), some (some 41), some (some 42), some (some 43), some (some 44), some (some 45), some (some 46)]))), .inl (.byte, 8), .inl (.int, 8), .inr (.inr (.inl (.array .byte, [some 29, some 30, some 31, some 32, some 33, some 34, some 35, some 36, some 37, some 38, some 39, some 40]))), .inl (.byte, 6), .inl (.byte, 6), .inl (.byte, 6), .inl (.byte, 6), .inl (.byte, 6), .inl (.byte, 6), .inl (.byte, 6), .inl (.byte, 6), .inl (.byte, 6), .inl (.byte, 6), .inl (.byte, 6), .inl (.byte, 6), .inl (.int, 12), .inl (.int, 12), .inl (.int, 12), .inl (.int, 4), .inl (.int, 6), .inl (.int, 6), .inr (.inr (.inr (6, [some (some 48), none]))), .inl (.byte, 40), .inr (.inr (.inr (6, [some (some 50), none]))), .inl (.byte, 40), .inr (.inr (.inr (5, [some (some 52), some (some 57), some (some 58)]))), .inr (.inr (.inl (.array .long, [some 53, some 54, some 55, some 56]))), .inr (.inl 40), .inr (.inl 40), .inr (.inl 40), .inr (.inl 40), .inl (.int, 4), .inl (.int, 4), .inr (.inr (.inr (10, [some (some 60), none, none, none, none, none]))), .inl (.int, 40), .inr (.inr (.inr (1, [some (some 25), none, some (some 62), some (some 63), some (some 64), none, some (some 65), some (some 66), none, none]))), .inl (.byte, 720), .inl (.int, 305), .inr (.inl 915), .inl (.int, 60), .inl (.int, 60), .inr (.inr (.inr (1, [some (some 25), none, some (some 68), some (some 69), some (some 70), none, some (some 71), some (some 72), none, none]))), .inl (.byte, 720), .inl (.int, 305), .inr (.inl 915), .inl (.int, 60), .inl (.int, 60), .inr (.inr (.inr (4, [some (some 25), some (some 67), some (some 74), none, none]))), .inr (.inr (.inr (6, [some (some 75), none]))), .inl (.byte, 40), .inr (.inr (.inr (2, [some (some 77), some (some 78)]))), .inl (.int, 6), .inl (.int, 7), .inr (.inr (.inr (3, [some (some 25), some (some 76), some (some 80), some (some 105), some (some 107), some (some 108), none, some (some 109), some (some 110), some (some 111), none, none, none, none, none, none]))), .inr (.inr (.inr (9, [none, none, none, some (some 81), some (some 95), some (some 96), some (some 97), some (some 98), some (some 99), none, none, none, none, none, some (some 100), some (some 101), none, some (some 102), some (some 103), some (some 104)]))), .inr (.inr (.inl (.array .byte, [some 82, some 83, some 84, some 85, some 86, some 87, some 88, some 89, some 90, some 91, some 92, some 93, some 94]))), .inl (.byte, 7), .inl (.byte, 7), .inl (.byte, 7), .inl (.byte, 7), .inl (.byte, 7), .inl (.byte, 7), .inl (.byte, 7), .inl (.byte, 7), .inl (.byte, 7), .inl (.byte, 7), .inl (.byte, 7), .inl (.byte, 7), .inl (.byte, 7), .inl (.int, 13), .inl (.int, 13), .inl (.int, 4), .inl (.int, 9), .inl (.int, 4), .inr (.inl 536), .inr (.inl 67), .inl (.short, 471), .inl (.short, 471), .inl (.byte, 471), .inr (.inr (.inr (6, [some (some 106), none]))), .inl (.byte, 40), .inl (.int, 3), .inl (.byte, 2826), .inl (.boolean, 4), .inr (.inr (.inl (.object "OneBreath$Sounds", [some 112, some 114, none, none]))), .inl (.int, 4), .inr (.inr (.inr (6, [some (some 113), none]))), .inl (.byte, 40), .inr (.inr (.inr (6, [some (some 115), none]))), .inl (.byte, 40), .inr (.inr (.inr (6, [some (some 117), none]))), .inl (.byte, 40)]
def mg_40 : aM := (aNew mg_39 117)
set_option maxHeartbeats 8000000 in
set_option maxRecDepth 20000 in
/-- Sounds.<init> -/
theorem ct_22 {l : Launch} {D : va_G} {cA : FieldType → ClassId} {ad adV : Nat → Nat} {z0 : Nat} : aMet l D cA ad adV z0 mX6_init 1 20 1 40 [.inr (.inr (.inl (some 116)))] sg_34 mg_39 none sg_35 mg_40 := by
  refine aMet_of (by decide +kernel) rfl (Nat.le_of_ble_eq_true rfl) (fun p e s m args below meth c al K => ?_)
  refine aw_aload_n (i := 0) K (dOf ck_mX6_init rfl rfl) rfl ?_
  refine aw_objInit (i := 1) K (dOf ck_mX6_init rfl rfl) ⟨wd_293, wd_167, wd_168⟩ (Nat.le_of_ble_eq_true rfl) ⟨Nat.le_of_ble_eq_true rfl, Nat.le_of_ble_eq_true rfl⟩ ?_
  refine aw_aload_n (i := 2) K (dOf ck_mX6_init rfl rfl) rfl ?_
  refine aw_bip (i := 3) K (dOf ck_mX6_init rfl rfl) (v := 40) rfl ?_
  refine aw_newaN (i := 4) (n := 40) (ty := .byte) K (dOf ck_mX6_init rfl rfl) rfl (by decide) wd_272 (Nat.le_of_ble_eq_true rfl) (Nat.le_of_ble_eq_true rfl) (Nat.le_of_ble_eq_true rfl) 117 rfl (fun q117 => ?_)
  refine aw_putr (i := 5) (k := 0) K (dOf ck_mX6_init rfl rfl) rfl rfl (Nat.le_of_ble_eq_true rfl) wd_294 rfl rfl rfl rfl (fitR (by decide +kernel)) ?_
  refine aw_nm (sh' := sg_35) (mm' := mg_40) rfl rfl ?_
  exact aw_vretA K (by decide +kernel) rfl (Nat.le_of_ble_eq_true rfl) (Nat.le_of_ble_eq_true rfl) (pre_app ⟨[], (List.append_nil _).symm⟩)
def sg_36 : List aE := [.inr (.inr (.inr (11, [some (some 1), some (some 25), some (some 47), some (some 49), some (some 51), some (some 59), some (some 61), some (some 67), some (some 73), some (some 76), some none, some none, some none, some none, some none]))), .inr (.inr (.inr (7, [some (some 2), none, none, some (some 3), none, none, none, none, none]))), .inl (.byte, 500), .inr (.inr (.inr (8, [none, none, none, none, none, none, some (some 4), some (some 5), some (some 6), some (some 19), some (some 20), some (some 21), some (some 22), some (some 23), some (some 24)]))), .inl (.byte, 8), .inl (.int, 8), .inr (.inr (.inl (.array .byte, [some 7, some 8, some 9, some 10, some 11, some 12, some 13, some 14, some 15, some 16, some 17, some 18]))), .inl (.byte, 6), .inl (.byte, 6), .inl (.byte, 6), .inl (.byte, 6), .inl (.byte, 6), .inl (.byte, 6), .inl (.byte, 6), .inl (.byte, 6), .inl (.byte, 6), .inl (.byte, 6), .inl (.byte, 6), .inl (.byte, 6), .inl (.int, 12), .inl (.int, 12), .inl (.int, 12), .inl (.int, 4), .inl (.int, 6), .inl (.int, 6), .inr (.inr (.inr (8, [none, none, none, none, none, none, some (some 26), some (some 27), some (some 28), some (some 41), some (some 42), some (some 43), some (some 44), some (some 45), some (some 46)]))), .inl (.byte, 8), .inl (.int, 8), .inr (.inr (.inl (.array .byte, [some 29, some 30, some 31, some 32, some 33, some 34, some 35, some 36, some 37, some 38, some 39, some 40]))), .inl (.byte, 6), .inl (.byte, 6), .inl (.byte, 6), .inl (.byte, 6), .inl (.byte, 6), .inl (.byte, 6), .inl (.byte, 6), .inl (.byte, 6), .inl (.byte, 6), .inl (.byte, 6), .inl (.byte, 6), .inl (.byte, 6), .inl (.int, 12), .inl (.int, 12), .inl (.int, 12), .inl (.int, 4), .inl (.int, 6), .inl (.int, 6), .inr (.inr (.inr (6, [some (some 48), none]))), .inl (.byte, 40), .inr (.inr (.inr (6, [some (some 50), none]))), .inl (.byte, 40), .inr (.inr (.inr (5, [some (some 52), some (some 57), some (some 58)]))), .inr (.inr (.inl (.array .long, [some 53, some 54, some 55, some 56]))), .inr (.inl 40), .inr (.inl 40), .inr (.inl 40), .inr (.inl 40), .inl (.int, 4), .inl (.int, 4), .inr (.inr (.inr (10, [some (some 60), none, none, none, none, none]))), .inl (.int, 40), .inr (.inr (.inr (1, [some (some 25), none, some (some 62), some (some 63), some (some 64), none, some (some 65), some (some 66), none, none]))), .inl (.byte, 720), .inl (.int, 305), .inr (.inl 915), .inl (.int, 60), .inl (.int, 60), .inr (.inr (.inr (1, [some (some 25), none, some (some 68), some (some 69), some (some 70), none, some (some 71), some (some 72), none, none]))), .inl (.byte, 720), .inl (.int, 305), .inr (.inl 915), .inl (.int, 60), .inl (.int, 60), .inr (.inr (.inr (4, [some (some 25), some (some 67), some (some 74), none, none]))), .inr (.inr (.inr (6, [some (some 75), none]))), .inl (.byte, 40), .inr (.inr (.inr (2, [some (some 77), some (some 78)]))), .inl (.int, 6), .inl (.int, 7), .inr (.inr (.inr (3, [some (some 25), some (some 76), some (some 80), some (some 105), some (some 107), some (some 108), none, some (some 109), some (some 110), some (some 111), none, none, none, none, none, none]))), .inr (.inr (.inr (9, [none, none, none, some (some 81), some (some 95), some (some 96), some (some 97), some (some 98), some (some 99), none, none, none, none, none, some (some 100), some (some 101), none, some (some 102), some (some 103), some (some 104)]))), .inr (.inr (.inl (.array .byte, [some 82, some 83, some 84, some 85, some 86, some 87, some 88, some 89, some 90, some 91, some 92, some 93, some 94]))), .inl (.byte, 7), .inl (.byte, 7), .inl (.byte, 7), .inl (.byte, 7), .inl (.byte, 7), .inl (.byte, 7), .inl (.byte, 7), .inl (.byte, 7), .inl (.byte, 7), .inl (.byte, 7), .inl (.byte, 7), .inl (.byte, 7), .inl (.byte, 7), .inl (.int, 13), .inl (.int, 13), .inl (.int, 4), .inl (.int, 9), .inl (.int, 4), .inr (.inl 536), .inr (.inl 67), .inl (.short, 471), .inl (.short, 471), .inl (.byte, 471), .inr (.inr (.inr (6, [some (some 106), none]))), .inl (.byte, 40), .inl (.int, 3), .inl (.byte, 2826), .inl (.boolean, 4), .inr (.inr (.inl (.object "OneBreath$Sounds", [some 112, some 114, some 116, none]))), .inl (.int, 4), .inr (.inr (.inr (6, [some (some 113), none]))), .inl (.byte, 40), .inr (.inr (.inr (6, [some (some 115), none]))), .inl (.byte, 40), .inr (.inr (.inr (6, [some (some 117), none]))), .inl (.byte, 40), .inr (.inr (.inr (6, [some none, none])))]
def mg_41 : aM := (aNew mg_40 118)
def sg_37 : List aE := [.inr (.inr (.inr (11, [some (some 1), some (some 25), some (some 47), some (some 49), some (some 51), some (some 59), some (some 61), some (some 67), some (some 73), some (some 76), some none, some none, some none, some none, some none]))), .inr (.inr (.inr (7, [some (some 2), none, none, some (some 3), none, none, none, none, none]))), .inl (.byte, 500), .inr (.inr (.inr (8, [none, none, none, none, none, none, some (some 4), some (some 5), some (some 6), some (some 19), some (some 20), some (some 21), some (some 22), some (some 23), some (some 24)]))), .inl (.byte, 8), .inl (.int, 8), .inr (.inr (.inl (.array .byte, [some 7, some 8, some 9, some 10, some 11, some 12, some 13, some 14, some 15, some 16, some 17, some 18]))), .inl (.byte, 6), .inl (.byte, 6), .inl (.byte, 6), .inl (.byte, 6), .inl (.byte, 6), .inl (.byte, 6), .inl (.byte, 6), .inl (.byte, 6), .inl (.byte, 6), .inl (.byte, 6), .inl (.byte, 6), .inl (.byte, 6), .inl (.int, 12), .inl (.int, 12), .inl (.int, 12), .inl (.int, 4), .inl (.int, 6), .inl (.int, 6), .inr (.inr (.inr (8, [none, none, none, none, none, none, some (some 26), some (some 27), some (some 28), some (some 41), some (some 42), some (some 43), some (some 44), some (some 45), some (some 46)]))), .inl (.byte, 8), .inl (.int, 8), .inr (.inr (.inl (.array .byte, [some 29, some 30, some 31, some 32, some 33, some 34, some 35, some 36, some 37, some 38, some 39, some 40]))), .inl (.byte, 6), .inl (.byte, 6), .inl (.byte, 6), .inl (.byte, 6), .inl (.byte, 6), .inl (.byte, 6), .inl (.byte, 6), .inl (.byte, 6), .inl (.byte, 6), .inl (.byte, 6), .inl (.byte, 6), .inl (.byte, 6), .inl (.int, 12), .inl (.int, 12), .inl (.int, 12), .inl (.int, 4), .inl (.int, 6), .inl (.int, 6), .inr (.inr (.inr (6, [some (some 48), none]))), .inl (.byte, 40), .inr (.inr (.inr (6, [some (some 50), none]))), .inl (.byte, 40), .inr (.inr (.inr (5, [some (some 52), some (some 57), some (some 58)]))), .inr (.inr (.inl (.array .long, [some 53, some 54, some 55, some 56]))), .inr (.inl 40), .inr (.inl 40), .inr (.inl 40), .inr (.inl 40), .inl (.int, 4), .inl (.int, 4), .inr (.inr (.inr (10, [some (some 60), none, none, none, none, none]))), .inl (.int, 40), .inr (.inr (.inr (1, [some (some 25), none, some (some 62), some (some 63), some (some 64), none, some (some 65), some (some 66), none, none]))), .inl (.byte, 720), .inl (.int, 305), .inr (.inl 915), .inl (.int, 60), .inl (.int, 60), .inr (.inr (.inr (1, [some (some 25), none, some (some 68), some (some 69), some (some 70), none, some (some 71), some (some 72), none, none]))), .inl (.byte, 720), .inl (.int, 305), .inr (.inl 915), .inl (.int, 60), .inl (.int, 60), .inr (.inr (.inr (4, [some (some 25), some (some 67), some (some 74), none, none]))), .inr (.inr (.inr (6, [some (some 75), none]))), .inl (.byte, 40), .inr (.inr (.inr (2, [some (some 77), some (some 78)]))), .inl (.int, 6), .inl (.int, 7), .inr (.inr (.inr (3, [some (some 25), some (some 76), some (some 80), some (some 105), some (some 107), some (some 108), none, some (some 109), some (some 110), some (some 111), none, none, none, none, none, none]))), .inr (.inr (.inr (9, [none, none, none, some (some 81), some (some 95), some (some 96), some (some 97), some (some 98), some (some 99), none, none, none, none, none, some (some 100), some (some 101), none, some (some 102), some (some 103), some (some 104)]))), .inr (.inr (.inl (.array .byte, [some 82, some 83, some 84, some 85, some 86, some 87, some 88, some 89, some 90, some 91, some 92, some 93, some 94]))), .inl (.byte, 7), .inl (.byte, 7), .inl (.byte, 7), .inl (.byte, 7), .inl (.byte, 7), .inl (.byte, 7), .inl (.byte, 7), .inl (.byte, 7), .inl (.byte, 7), .inl (.byte, 7), .inl (.byte, 7), .inl (.byte, 7), .inl (.byte, 7), .inl (.int, 13), .inl (.int, 13), .inl (.int, 4), .inl (.int, 9), .inl (.int, 4), .inr (.inl 536), .inr (.inl 67), .inl (.short, 471), .inl (.short, 471), .inl (.byte, 471), .inr (.inr (.inr (6, [some (some 106), none]))), .inl (.byte, 40), .inl (.int, 3), .inl (.byte, 2826), .inl (.boolean, 4), .inr (.inr (.inl (.object "OneBreath$Sounds", [some 112, some 114, some 116, none]))), .inl (.int, 4), .inr (.inr (.inr (6, [some (some 113), none]))), .inl (.byte, 40), .inr (.inr (.inr (6, [some (some 115), none]))), .inl (.byte, 40), .inr (.inr (.inr (6, [some (some 117), none]))), .inl (.byte, 40), .inr (.inr (.inr (6, [some (some 119), none]))), .inl (.byte, 40)]
def mg_42 : aM := (aNew mg_41 119)
set_option maxHeartbeats 8000000 in
set_option maxRecDepth 20000 in
/-- Sounds.<init> -/
theorem ct_23 {l : Launch} {D : va_G} {cA : FieldType → ClassId} {ad adV : Nat → Nat} {z0 : Nat} : aMet l D cA ad adV z0 mX6_init 1 20 1 40 [.inr (.inr (.inl (some 118)))] sg_36 mg_41 none sg_37 mg_42 := by
  refine aMet_of (by decide +kernel) rfl (Nat.le_of_ble_eq_true rfl) (fun p e s m args below meth c al K => ?_)
  refine aw_aload_n (i := 0) K (dOf ck_mX6_init rfl rfl) rfl ?_
  refine aw_objInit (i := 1) K (dOf ck_mX6_init rfl rfl) ⟨wd_293, wd_167, wd_168⟩ (Nat.le_of_ble_eq_true rfl) ⟨Nat.le_of_ble_eq_true rfl, Nat.le_of_ble_eq_true rfl⟩ ?_
  refine aw_aload_n (i := 2) K (dOf ck_mX6_init rfl rfl) rfl ?_
  refine aw_bip (i := 3) K (dOf ck_mX6_init rfl rfl) (v := 40) rfl ?_
  refine aw_newaN (i := 4) (n := 40) (ty := .byte) K (dOf ck_mX6_init rfl rfl) rfl (by decide) wd_272 (Nat.le_of_ble_eq_true rfl) (Nat.le_of_ble_eq_true rfl) (Nat.le_of_ble_eq_true rfl) 119 rfl (fun q119 => ?_)
  refine aw_putr (i := 5) (k := 0) K (dOf ck_mX6_init rfl rfl) rfl rfl (Nat.le_of_ble_eq_true rfl) wd_294 rfl rfl rfl rfl (fitR (by decide +kernel)) ?_
  refine aw_nm (sh' := sg_37) (mm' := mg_42) rfl rfl ?_
  exact aw_vretA K (by decide +kernel) rfl (Nat.le_of_ble_eq_true rfl) (Nat.le_of_ble_eq_true rfl) (pre_app ⟨[], (List.append_nil _).symm⟩)
def sg_38 : List aE := [.inr (.inr (.inr (11, [some (some 1), some (some 25), some (some 47), some (some 49), some (some 51), some (some 59), some (some 61), some (some 67), some (some 73), some (some 76), some none, some none, some none, some none, some none]))), .inr (.inr (.inr (7, [some (some 2), none, none, some (some 3), none, none, none, none, none]))), .inl (.byte, 500), .inr (.inr (.inr (8, [none, none, none, none, none, none, some (some 4), some (some 5), some (some 6), some (some 19), some (some 20), some (some 21), some (some 22), some (some 23), some (some 24)]))), .inl (.byte, 8), .inl (.int, 8), .inr (.inr (.inl (.array .byte, [some 7, some 8, some 9, some 10, some 11, some 12, some 13, some 14, some 15, some 16, some 17, some 18]))), .inl (.byte, 6), .inl (.byte, 6), .inl (.byte, 6), .inl (.byte, 6), .inl (.byte, 6), .inl (.byte, 6), .inl (.byte, 6), .inl (.byte, 6), .inl (.byte, 6), .inl (.byte, 6), .inl (.byte, 6), .inl (.byte, 6), .inl (.int, 12), .inl (.int, 12), .inl (.int, 12), .inl (.int, 4), .inl (.int, 6), .inl (.int, 6), .inr (.inr (.inr (8, [none, none, none, none, none, none, some (some 26), some (some 27), some (some 28), some (some 41), some (some 42), some (some 43), some (some 44), some (some 45), some (some 46)]))), .inl (.byte, 8), .inl (.int, 8), .inr (.inr (.inl (.array .byte, [some 29, some 30, some 31, some 32, some 33, some 34, some 35, some 36, some 37, some 38, some 39, some 40]))), .inl (.byte, 6), .inl (.byte, 6), .inl (.byte, 6), .inl (.byte, 6), .inl (.byte, 6), .inl (.byte, 6), .inl (.byte, 6), .inl (.byte, 6), .inl (.byte, 6), .inl (.byte, 6), .inl (.byte, 6), .inl (.byte, 6), .inl (.int, 12), .inl (.int, 12), .inl (.int, 12), .inl (.int, 4), .inl (.int, 6), .inl (.int, 6), .inr (.inr (.inr (6, [some (some 48), none]))), .inl (.byte, 40), .inr (.inr (.inr (6, [some (some 50), none]))), .inl (.byte, 40), .inr (.inr (.inr (5, [some (some 52), some (some 57), some (some 58)]))), .inr (.inr (.inl (.array .long, [some 53, some 54, some 55, some 56]))), .inr (.inl 40), .inr (.inl 40), .inr (.inl 40), .inr (.inl 40), .inl (.int, 4), .inl (.int, 4), .inr (.inr (.inr (10, [some (some 60), none, none, none, none, none]))), .inl (.int, 40), .inr (.inr (.inr (1, [some (some 25), none, some (some 62), some (some 63), some (some 64), none, some (some 65), some (some 66), none, none]))), .inl (.byte, 720), .inl (.int, 305), .inr (.inl 915), .inl (.int, 60), .inl (.int, 60), .inr (.inr (.inr (1, [some (some 25), none, some (some 68), some (some 69), some (some 70), none, some (some 71), some (some 72), none, none]))), .inl (.byte, 720), .inl (.int, 305), .inr (.inl 915), .inl (.int, 60), .inl (.int, 60), .inr (.inr (.inr (4, [some (some 25), some (some 67), some (some 74), none, none]))), .inr (.inr (.inr (6, [some (some 75), none]))), .inl (.byte, 40), .inr (.inr (.inr (2, [some (some 77), some (some 78)]))), .inl (.int, 6), .inl (.int, 7), .inr (.inr (.inr (3, [some (some 25), some (some 76), some (some 80), some (some 105), some (some 107), some (some 108), none, some (some 109), some (some 110), some (some 111), none, none, none, none, none, none]))), .inr (.inr (.inr (9, [none, none, none, some (some 81), some (some 95), some (some 96), some (some 97), some (some 98), some (some 99), none, none, none, none, none, some (some 100), some (some 101), none, some (some 102), some (some 103), some (some 104)]))), .inr (.inr (.inl (.array .byte, [some 82, some 83, some 84, some 85, some 86, some 87, some 88, some 89, some 90, some 91, some 92, some 93, some 94]))), .inl (.byte, 7), .inl (.byte, 7), .inl (.byte, 7), .inl (.byte, 7), .inl (.byte, 7), .inl (.byte, 7), .inl (.byte, 7), .inl (.byte, 7), .inl (.byte, 7), .inl (.byte, 7), .inl (.byte, 7), .inl (.byte, 7), .inl (.byte, 7), .inl (.int, 13), .inl (.int, 13), .inl (.int, 4), .inl (.int, 9), .inl (.int, 4), .inr (.inl 536), .inr (.inl 67), .inl (.short, 471), .inl (.short, 471), .inl (.byte, 471), .inr (.inr (.inr (6, [some (some 106), none]))), .inl (.byte, 40), .inl (.int, 3), .inl (.byte, 2826), .inl (.boolean, 4), .inr (.inr (.inl (.object "OneBreath$Sounds", [some 112, some 114, some 116, some 118]))), .inl (.int, 4), .inr (.inr (.inr (6, [some (some 113), none]))), .inl (.byte, 40), .inr (.inr (.inr (6, [some (some 115), none]))), .inl (.byte, 40), .inr (.inr (.inr (6, [some (some 117), none]))), .inl (.byte, 40), .inr (.inr (.inr (6, [some (some 119), none]))), .inl (.byte, 40)]
def mg_43 : aM := (aup (aup (aup mg_42 107 0 (-2)) 107 1 (-2)) 107 2 (-2))
set_option maxHeartbeats 8000000 in
set_option maxRecDepth 20000 in
/-- java/util/Arrays.fill -/
theorem ct_24 {l : Launch} {D : va_G} {cA : FieldType → ClassId} {ad adV : Nat → Nat} {z0 : Nat} : aMet l D cA ad adV z0 mJ7_fill_53178 0 0 0 0 [.inr (.inr (.inl (some 107))), .inl (-2)] sg_38 mg_42 none sg_38 mg_43 := by
  refine aMet_of (by decide +kernel) rfl (Nat.le_of_ble_eq_true rfl) (fun p e s m args below meth c al K => ?_)
  refine aw_iconst (i := 0) K (n := 0) (i32 _ rfl) (dOf ck_mJ7_fill_53178 rfl rfl) ?_
  refine aw_istore_n (i := 1) K (dOf ck_mJ7_fill_53178 rfl rfl) (Nat.le_of_ble_eq_true rfl) ?_
  refine aw_lvn (lv' := [(2, .inl 0), (0, .inr (.inr (.inl (some 107)))), (1, .inl (-2))]) rfl ?_
  refine aw_aload_n (i := 2) K (dOf ck_mJ7_fill_53178 rfl rfl) rfl ?_
  refine aw_alen (i := 3) (n := 3) K (dOf ck_mJ7_fill_53178 rfl rfl) rfl rfl (by decide) ?_
  refine aw_istore_n (i := 4) K (dOf ck_mJ7_fill_53178 rfl rfl) (Nat.le_of_ble_eq_true rfl) ?_
  refine aw_lvn (lv' := [(3, .inl 3), (2, .inl 0), (0, .inr (.inr (.inl (some 107)))), (1, .inl (-2))]) rfl ?_
  refine aw_iload_n (i := 5) K (dOf ck_mJ7_fill_53178 rfl rfl) rfl ?_
  refine aw_iload_n (i := 6) K (dOf ck_mJ7_fill_53178 rfl rfl) rfl ?_
  refine aw_icmp_ge (i := 7) K (dOf ck_mJ7_fill_53178 rfl rfl) (t := 14) (aJ_of (by decide +kernel)) (fun z => absurd z (by decide)) (fun _ => ?_)
  refine aw_aload_n (i := 8) K (dOf ck_mJ7_fill_53178 rfl rfl) rfl ?_
  refine aw_iload_n (i := 9) K (dOf ck_mJ7_fill_53178 rfl rfl) rfl ?_
  refine aw_iload_n (i := 10) K (dOf ck_mJ7_fill_53178 rfl rfl) rfl ?_
  refine aw_iast (i := 11) K (dOf ck_mJ7_fill_53178 rfl rfl) rfl (by decide) ?_
  refine aw_iinc (i := 12) K (dOf ck_mJ7_fill_53178 rfl rfl) (Nat.le_of_ble_eq_true rfl) rfl ?_
  refine aw_lvn (lv' := [(2, .inl 1), (3, .inl 3), (0, .inr (.inr (.inl (some 107)))), (1, .inl (-2))]) rfl ?_
  refine aw_goto (i := 13) K (dOf ck_mJ7_fill_53178 rfl rfl).1 (t := 5) (aJ_of (by decide +kernel)) ?_
  refine aw_iload_n (i := 5) K (dOf ck_mJ7_fill_53178 rfl rfl) rfl ?_
  refine aw_iload_n (i := 6) K (dOf ck_mJ7_fill_53178 rfl rfl) rfl ?_
  refine aw_icmp_ge (i := 7) K (dOf ck_mJ7_fill_53178 rfl rfl) (t := 14) (aJ_of (by decide +kernel)) (fun z => absurd z (by decide)) (fun _ => ?_)
  refine aw_aload_n (i := 8) K (dOf ck_mJ7_fill_53178 rfl rfl) rfl ?_
  refine aw_iload_n (i := 9) K (dOf ck_mJ7_fill_53178 rfl rfl) rfl ?_
  refine aw_iload_n (i := 10) K (dOf ck_mJ7_fill_53178 rfl rfl) rfl ?_
  refine aw_iast (i := 11) K (dOf ck_mJ7_fill_53178 rfl rfl) rfl (by decide) ?_
  refine aw_iinc (i := 12) K (dOf ck_mJ7_fill_53178 rfl rfl) (Nat.le_of_ble_eq_true rfl) rfl ?_
  refine aw_lvn (lv' := [(2, .inl 2), (3, .inl 3), (0, .inr (.inr (.inl (some 107)))), (1, .inl (-2))]) rfl ?_
  refine aw_goto (i := 13) K (dOf ck_mJ7_fill_53178 rfl rfl).1 (t := 5) (aJ_of (by decide +kernel)) ?_
  refine aw_iload_n (i := 5) K (dOf ck_mJ7_fill_53178 rfl rfl) rfl ?_
  refine aw_iload_n (i := 6) K (dOf ck_mJ7_fill_53178 rfl rfl) rfl ?_
  refine aw_icmp_ge (i := 7) K (dOf ck_mJ7_fill_53178 rfl rfl) (t := 14) (aJ_of (by decide +kernel)) (fun z => absurd z (by decide)) (fun _ => ?_)
  refine aw_aload_n (i := 8) K (dOf ck_mJ7_fill_53178 rfl rfl) rfl ?_
  refine aw_iload_n (i := 9) K (dOf ck_mJ7_fill_53178 rfl rfl) rfl ?_
  refine aw_iload_n (i := 10) K (dOf ck_mJ7_fill_53178 rfl rfl) rfl ?_
  refine aw_iast (i := 11) K (dOf ck_mJ7_fill_53178 rfl rfl) rfl (by decide) ?_
  refine aw_iinc (i := 12) K (dOf ck_mJ7_fill_53178 rfl rfl) (Nat.le_of_ble_eq_true rfl) rfl ?_
  refine aw_lvn (lv' := [(2, .inl 3), (3, .inl 3), (0, .inr (.inr (.inl (some 107)))), (1, .inl (-2))]) rfl ?_
  refine aw_goto (i := 13) K (dOf ck_mJ7_fill_53178 rfl rfl).1 (t := 5) (aJ_of (by decide +kernel)) ?_
  refine aw_iload_n (i := 5) K (dOf ck_mJ7_fill_53178 rfl rfl) rfl ?_
  refine aw_iload_n (i := 6) K (dOf ck_mJ7_fill_53178 rfl rfl) rfl ?_
  refine aw_icmp_ge (i := 7) K (dOf ck_mJ7_fill_53178 rfl rfl) (t := 14) (aJ_of (by decide +kernel)) (fun _ => ?_) (fun z => absurd (by decide) z)
  refine aw_nm (sh' := sg_38) (mm' := mg_43) rfl rfl ?_
  exact aw_vretA K (by decide +kernel) rfl (Nat.le_of_ble_eq_true rfl) (Nat.le_of_ble_eq_true rfl) ⟨[], (List.append_nil _).symm⟩
def mg_44 : aM := (aup (aup (aup (aup (aup (aup (aup (aup mg_43 79 6 0) 109 0 0) 109 1 0) 109 2 0) 109 3 0) 79 10 (-2)) 79 11 0) 79 15 (-2))
set_option maxHeartbeats 8000000 in
set_option maxRecDepth 20000 in
/-- Mender.forget -/
theorem ct_25 {l : Launch} {D : va_G} {cA : FieldType → ClassId} {ad adV : Nat → Nat} {z0 : Nat} : aMet l D cA ad adV z0 mX3_forget 1 23 0 0 [.inr (.inr (.inl (some 79)))] sg_38 mg_42 none sg_38 mg_44 := by
  refine aMet_of (by decide +kernel) rfl (Nat.le_of_ble_eq_true rfl) (fun p e s m args below meth c al K => ?_)
  refine aw_aload_n (i := 0) K (dOf ck_mX3_forget rfl rfl) rfl ?_
  refine aw_getf (i := 1) (k := 4) K (dOf ck_mX3_forget rfl rfl) rfl rfl (Nat.le_of_ble_eq_true rfl) wd_422 rfl ?_
  refine aw_bip (i := 2) K (dOf ck_mX3_forget rfl rfl) (v := -2) rfl ?_
  refine aw_nm (sh' := sg_38) (mm' := mg_42) rfl rfl ?_
  refine aw_callS (i := 3) (as := [.inr (.inr (.inl (some 107))), .inl (-2)]) K (dOf ck_mX3_forget rfl rfl) al_OneBreath_Mender_55 wd_186 rfl (Nat.le_of_ble_eq_true rfl) ⟨Nat.le_of_ble_eq_true rfl, Nat.le_of_ble_eq_true rfl⟩ ⟨Nat.le_of_ble_eq_true rfl, Nat.le_of_ble_eq_true rfl⟩ (Nat.le_of_ble_eq_true rfl) ct_24 (fun bl25 => ?_)
  refine aw_aload_n (i := 4) K (dOf ck_mX3_forget rfl rfl) rfl ?_
  refine aw_iconst (i := 5) K (n := 0) (i32 _ rfl) (dOf ck_mX3_forget rfl rfl) ?_
  refine aw_putf (i := 6) (k := 6) K (dOf ck_mX3_forget rfl rfl) rfl rfl (Nat.le_of_ble_eq_true rfl) wd_424 rfl rfl (Or.inr ⟨rfl, by decide⟩) ?_
  refine aw_iconst (i := 7) K (n := 0) (i32 _ rfl) (dOf ck_mX3_forget rfl rfl) ?_
  refine aw_istore_n (i := 8) K (dOf ck_mX3_forget rfl rfl) (Nat.le_of_ble_eq_true rfl) ?_
  refine aw_lvn (lv' := [(1, .inl 0), (0, .inr (.inr (.inl (some 79))))]) rfl ?_
  refine aw_iload_n (i := 9) K (dOf ck_mX3_forget rfl rfl) rfl ?_
  refine aw_iconst (i := 10) K (n := 4) (i32 _ rfl) (dOf ck_mX3_forget rfl rfl) ?_
  refine aw_icmp_ge (i := 11) K (dOf ck_mX3_forget rfl rfl) (t := 19) (aJ_of (by decide +kernel)) (fun z => absurd z (by decide)) (fun _ => ?_)
  refine aw_aload_n (i := 12) K (dOf ck_mX3_forget rfl rfl) rfl ?_
  refine aw_getf (i := 13) (k := 7) K (dOf ck_mX3_forget rfl rfl) rfl rfl (Nat.le_of_ble_eq_true rfl) wd_425 rfl ?_
  refine aw_iload_n (i := 14) K (dOf ck_mX3_forget rfl rfl) rfl ?_
  refine aw_iconst (i := 15) K (n := 0) (i32 _ rfl) (dOf ck_mX3_forget rfl rfl) ?_
  refine aw_zast (i := 16) K (dOf ck_mX3_forget rfl rfl) rfl (by decide) (by decide) ?_
  refine aw_iinc (i := 17) K (dOf ck_mX3_forget rfl rfl) (Nat.le_of_ble_eq_true rfl) rfl ?_
  refine aw_lvn (lv' := [(1, .inl 1), (0, .inr (.inr (.inl (some 79))))]) rfl ?_
  refine aw_goto (i := 18) K (dOf ck_mX3_forget rfl rfl).1 (t := 9) (aJ_of (by decide +kernel)) ?_
  refine aw_iload_n (i := 9) K (dOf ck_mX3_forget rfl rfl) rfl ?_
  refine aw_iconst (i := 10) K (n := 4) (i32 _ rfl) (dOf ck_mX3_forget rfl rfl) ?_
  refine aw_icmp_ge (i := 11) K (dOf ck_mX3_forget rfl rfl) (t := 19) (aJ_of (by decide +kernel)) (fun z => absurd z (by decide)) (fun _ => ?_)
  refine aw_aload_n (i := 12) K (dOf ck_mX3_forget rfl rfl) rfl ?_
  refine aw_getf (i := 13) (k := 7) K (dOf ck_mX3_forget rfl rfl) rfl rfl (Nat.le_of_ble_eq_true rfl) wd_425 rfl ?_
  refine aw_iload_n (i := 14) K (dOf ck_mX3_forget rfl rfl) rfl ?_
  refine aw_iconst (i := 15) K (n := 0) (i32 _ rfl) (dOf ck_mX3_forget rfl rfl) ?_
  refine aw_zast (i := 16) K (dOf ck_mX3_forget rfl rfl) rfl (by decide) (by decide) ?_
  refine aw_iinc (i := 17) K (dOf ck_mX3_forget rfl rfl) (Nat.le_of_ble_eq_true rfl) rfl ?_
  refine aw_lvn (lv' := [(1, .inl 2), (0, .inr (.inr (.inl (some 79))))]) rfl ?_
  refine aw_goto (i := 18) K (dOf ck_mX3_forget rfl rfl).1 (t := 9) (aJ_of (by decide +kernel)) ?_
  refine aw_iload_n (i := 9) K (dOf ck_mX3_forget rfl rfl) rfl ?_
  refine aw_iconst (i := 10) K (n := 4) (i32 _ rfl) (dOf ck_mX3_forget rfl rfl) ?_
  refine aw_icmp_ge (i := 11) K (dOf ck_mX3_forget rfl rfl) (t := 19) (aJ_of (by decide +kernel)) (fun z => absurd z (by decide)) (fun _ => ?_)
  refine aw_aload_n (i := 12) K (dOf ck_mX3_forget rfl rfl) rfl ?_
  refine aw_getf (i := 13) (k := 7) K (dOf ck_mX3_forget rfl rfl) rfl rfl (Nat.le_of_ble_eq_true rfl) wd_425 rfl ?_
  refine aw_iload_n (i := 14) K (dOf ck_mX3_forget rfl rfl) rfl ?_
  refine aw_iconst (i := 15) K (n := 0) (i32 _ rfl) (dOf ck_mX3_forget rfl rfl) ?_
  refine aw_zast (i := 16) K (dOf ck_mX3_forget rfl rfl) rfl (by decide) (by decide) ?_
  refine aw_iinc (i := 17) K (dOf ck_mX3_forget rfl rfl) (Nat.le_of_ble_eq_true rfl) rfl ?_
  refine aw_lvn (lv' := [(1, .inl 3), (0, .inr (.inr (.inl (some 79))))]) rfl ?_
  refine aw_goto (i := 18) K (dOf ck_mX3_forget rfl rfl).1 (t := 9) (aJ_of (by decide +kernel)) ?_
  refine aw_iload_n (i := 9) K (dOf ck_mX3_forget rfl rfl) rfl ?_
  refine aw_iconst (i := 10) K (n := 4) (i32 _ rfl) (dOf ck_mX3_forget rfl rfl) ?_
  refine aw_icmp_ge (i := 11) K (dOf ck_mX3_forget rfl rfl) (t := 19) (aJ_of (by decide +kernel)) (fun z => absurd z (by decide)) (fun _ => ?_)
  refine aw_aload_n (i := 12) K (dOf ck_mX3_forget rfl rfl) rfl ?_
  refine aw_getf (i := 13) (k := 7) K (dOf ck_mX3_forget rfl rfl) rfl rfl (Nat.le_of_ble_eq_true rfl) wd_425 rfl ?_
  refine aw_iload_n (i := 14) K (dOf ck_mX3_forget rfl rfl) rfl ?_
  refine aw_iconst (i := 15) K (n := 0) (i32 _ rfl) (dOf ck_mX3_forget rfl rfl) ?_
  refine aw_zast (i := 16) K (dOf ck_mX3_forget rfl rfl) rfl (by decide) (by decide) ?_
  refine aw_iinc (i := 17) K (dOf ck_mX3_forget rfl rfl) (Nat.le_of_ble_eq_true rfl) rfl ?_
  refine aw_lvn (lv' := [(1, .inl 4), (0, .inr (.inr (.inl (some 79))))]) rfl ?_
  refine aw_goto (i := 18) K (dOf ck_mX3_forget rfl rfl).1 (t := 9) (aJ_of (by decide +kernel)) ?_
  refine aw_iload_n (i := 9) K (dOf ck_mX3_forget rfl rfl) rfl ?_
  refine aw_iconst (i := 10) K (n := 4) (i32 _ rfl) (dOf ck_mX3_forget rfl rfl) ?_
  refine aw_icmp_ge (i := 11) K (dOf ck_mX3_forget rfl rfl) (t := 19) (aJ_of (by decide +kernel)) (fun _ => ?_) (fun z => absurd (by decide) z)
  refine aw_aload_n (i := 19) K (dOf ck_mX3_forget rfl rfl) rfl ?_
  refine aw_bip (i := 20) K (dOf ck_mX3_forget rfl rfl) (v := -2) rfl ?_
  refine aw_putf (i := 21) (k := 10) K (dOf ck_mX3_forget rfl rfl) rfl rfl (Nat.le_of_ble_eq_true rfl) wd_430 rfl rfl (Or.inl rfl) ?_
  refine aw_aload_n (i := 22) K (dOf ck_mX3_forget rfl rfl) rfl ?_
  refine aw_iconst (i := 23) K (n := 0) (i32 _ rfl) (dOf ck_mX3_forget rfl rfl) ?_
  refine aw_putf (i := 24) (k := 11) K (dOf ck_mX3_forget rfl rfl) rfl rfl (Nat.le_of_ble_eq_true rfl) wd_431 rfl rfl (Or.inr ⟨rfl, by decide⟩) ?_
  refine aw_aload_n (i := 25) K (dOf ck_mX3_forget rfl rfl) rfl ?_
  refine aw_bip (i := 26) K (dOf ck_mX3_forget rfl rfl) (v := -2) rfl ?_
  refine aw_putf (i := 27) (k := 15) K (dOf ck_mX3_forget rfl rfl) rfl rfl (Nat.le_of_ble_eq_true rfl) wd_438 rfl rfl (Or.inl rfl) ?_
  refine aw_nm (sh' := sg_38) (mm' := mg_44) rfl rfl ?_
  exact aw_vretA K (by decide +kernel) rfl (Nat.le_of_ble_eq_true rfl) (Nat.le_of_ble_eq_true rfl) (pre_app ⟨[], (List.append_nil _).symm⟩)
set_option maxHeartbeats 8000000 in
set_option maxRecDepth 20000 in
/-- Mender.<init> -/
theorem ct_26 {l : Launch} {D : va_G} {cA : FieldType → ClassId} {ad adV : Nat → Nat} {z0 : Nat} : aMet l D cA ad adV z0 mX3_init 2 44 40 5234 [.inr (.inr (.inl (some 79))), .inr (.inr (.inl (some 25))), .inr (.inr (.inl (some 76)))] sg_25 mg_30 none sg_38 mg_44 := by
  refine aMet_of (by decide +kernel) rfl (Nat.le_of_ble_eq_true rfl) (fun p e s m args below meth c al K => ?_)
  refine aw_aload_n (i := 0) K (dOf ck_mX3_init rfl rfl) rfl ?_
  refine aw_objInit (i := 1) K (dOf ck_mX3_init rfl rfl) ⟨wd_384, wd_167, wd_168⟩ (Nat.le_of_ble_eq_true rfl) ⟨Nat.le_of_ble_eq_true rfl, Nat.le_of_ble_eq_true rfl⟩ ?_
  refine aw_aload_n (i := 2) K (dOf ck_mX3_init rfl rfl) rfl ?_
  refine aw_newN (i := 3) (ci := 9) K (dOf ck_mX3_init rfl rfl) rfl wd_385 wd_386 wd_149 zt_9 (Nat.le_of_ble_eq_true rfl) (Nat.le_of_ble_eq_true rfl) 80 rfl (fun q80 => ?_)
  refine aw_dup (i := 4) K rfl (dOf ck_mX3_init rfl rfl) ?_
  refine aw_nm (sh' := sg_26) (mm' := mg_31) rfl rfl ?_
  refine aw_callIN (i := 5) (as := []) (q := 80) K (dOf ck_mX3_init rfl rfl) wd_388 (List.mem_append_right _ (List.mem_append_right _ (List.mem_append_left _ (List.mem_of_getElem? (i := 130) rfl)))) wd_149 (by decide +kernel) rfl rfl wd_387 rfl (Nat.le_of_ble_eq_true rfl) ⟨Nat.le_of_ble_eq_true rfl, Nat.le_of_ble_eq_true rfl⟩ ⟨Nat.le_of_ble_eq_true rfl, Nat.le_of_ble_eq_true rfl⟩ (Nat.le_of_ble_eq_true rfl) ct_18 (fun bl19 => ?_)
  refine aw_putr (i := 6) (k := 2) K (dOf ck_mX3_init rfl rfl) rfl rfl (Nat.le_of_ble_eq_true rfl) wd_420 rfl rfl rfl rfl (fitR (by decide +kernel)) ?_
  refine aw_aload_n (i := 7) K (dOf ck_mX3_init rfl rfl) rfl ?_
  refine aw_newN (i := 8) (ci := 6) K (dOf ck_mX3_init rfl rfl) rfl wd_412 wd_290 wd_142 zt_6 (Nat.le_of_ble_eq_true rfl) (Nat.le_of_ble_eq_true rfl) 105 rfl (fun q105 => ?_)
  refine aw_dup (i := 9) K rfl (dOf ck_mX3_init rfl rfl) ?_
  refine aw_nm (sh' := sg_28) (mm' := mg_33) rfl rfl ?_
  refine aw_callIN (i := 10) (as := []) (q := 105) K (dOf ck_mX3_init rfl rfl) wd_292 (List.mem_append_right _ (List.mem_append_right _ (List.mem_append_left _ (List.mem_of_getElem? (i := 198) rfl)))) wd_142 (by decide +kernel) rfl rfl wd_291 rfl (Nat.le_of_ble_eq_true rfl) ⟨Nat.le_of_ble_eq_true rfl, Nat.le_of_ble_eq_true rfl⟩ ⟨Nat.le_of_ble_eq_true rfl, Nat.le_of_ble_eq_true rfl⟩ (Nat.le_of_ble_eq_true rfl) ct_19 (fun bl20 => ?_)
  refine aw_putr (i := 11) (k := 3) K (dOf ck_mX3_init rfl rfl) rfl rfl (Nat.le_of_ble_eq_true rfl) wd_421 rfl rfl rfl rfl (fitR (by decide +kernel)) ?_
  refine aw_aload_n (i := 12) K (dOf ck_mX3_init rfl rfl) rfl ?_
  refine aw_iconst (i := 13) K (n := 3) (i32 _ rfl) (dOf ck_mX3_init rfl rfl) ?_
  refine aw_newaN (i := 14) (n := 3) (ty := .int) K (dOf ck_mX3_init rfl rfl) rfl (by decide) wd_273 (Nat.le_of_ble_eq_true rfl) (Nat.le_of_ble_eq_true rfl) (Nat.le_of_ble_eq_true rfl) 107 rfl (fun q107 => ?_)
  refine aw_putr (i := 15) (k := 4) K (dOf ck_mX3_init rfl rfl) rfl rfl (Nat.le_of_ble_eq_true rfl) wd_422 rfl rfl rfl rfl (fitR (by decide +kernel)) ?_
  refine aw_aload_n (i := 16) K (dOf ck_mX3_init rfl rfl) rfl ?_
  refine aw_sip (i := 17) K (dOf ck_mX3_init rfl rfl) (v := 2826) rfl ?_
  refine aw_newaN (i := 18) (n := 2826) (ty := .byte) K (dOf ck_mX3_init rfl rfl) rfl (by decide) wd_272 (Nat.le_of_ble_eq_true rfl) (Nat.le_of_ble_eq_true rfl) (Nat.le_of_ble_eq_true rfl) 108 rfl (fun q108 => ?_)
  refine aw_putr (i := 19) (k := 5) K (dOf ck_mX3_init rfl rfl) rfl rfl (Nat.le_of_ble_eq_true rfl) wd_423 rfl rfl rfl rfl (fitR (by decide +kernel)) ?_
  refine aw_aload_n (i := 20) K (dOf ck_mX3_init rfl rfl) rfl ?_
  refine aw_iconst (i := 21) K (n := 4) (i32 _ rfl) (dOf ck_mX3_init rfl rfl) ?_
  refine aw_newaN (i := 22) (n := 4) (ty := .boolean) K (dOf ck_mX3_init rfl rfl) rfl (by decide) wd_439 (Nat.le_of_ble_eq_true rfl) (Nat.le_of_ble_eq_true rfl) (Nat.le_of_ble_eq_true rfl) 109 rfl (fun q109 => ?_)
  refine aw_putr (i := 23) (k := 7) K (dOf ck_mX3_init rfl rfl) rfl rfl (Nat.le_of_ble_eq_true rfl) wd_425 rfl rfl rfl rfl (fitR (by decide +kernel)) ?_
  refine aw_aload_n (i := 24) K (dOf ck_mX3_init rfl rfl) rfl ?_
  refine aw_iconst (i := 25) K (n := 4) (i32 _ rfl) (dOf ck_mX3_init rfl rfl) ?_
  refine aw_newqN (i := 26) (n := 4) K (dOf ck_mX3_init rfl rfl) wd_412 (by decide) (Nat.le_of_ble_eq_true rfl) (Nat.le_of_ble_eq_true rfl) (Nat.le_of_ble_eq_true rfl) 110 rfl (fun q110 => ?_)
  refine aw_putr (i := 27) (k := 8) K (dOf ck_mX3_init rfl rfl) rfl rfl (Nat.le_of_ble_eq_true rfl) wd_426 rfl rfl rfl rfl (fitR (by decide +kernel)) ?_
  refine aw_aload_n (i := 28) K (dOf ck_mX3_init rfl rfl) rfl ?_
  refine aw_iconst (i := 29) K (n := 4) (i32 _ rfl) (dOf ck_mX3_init rfl rfl) ?_
  refine aw_newaN (i := 30) (n := 4) (ty := .int) K (dOf ck_mX3_init rfl rfl) rfl (by decide) wd_273 (Nat.le_of_ble_eq_true rfl) (Nat.le_of_ble_eq_true rfl) (Nat.le_of_ble_eq_true rfl) 111 rfl (fun q111 => ?_)
  refine aw_putr (i := 31) (k := 9) K (dOf ck_mX3_init rfl rfl) rfl rfl (Nat.le_of_ble_eq_true rfl) wd_428 rfl rfl rfl rfl (fitR (by decide +kernel)) ?_
  refine aw_aload_n (i := 32) K (dOf ck_mX3_init rfl rfl) rfl ?_
  refine aw_aload_n (i := 33) K (dOf ck_mX3_init rfl rfl) rfl ?_
  refine aw_putr (i := 34) (k := 0) K (dOf ck_mX3_init rfl rfl) rfl rfl (Nat.le_of_ble_eq_true rfl) wd_418 rfl rfl rfl rfl (fitR (by decide +kernel)) ?_
  refine aw_aload_n (i := 35) K (dOf ck_mX3_init rfl rfl) rfl ?_
  refine aw_aload_n (i := 36) K (dOf ck_mX3_init rfl rfl) rfl ?_
  refine aw_putr (i := 37) (k := 1) K (dOf ck_mX3_init rfl rfl) rfl rfl (Nat.le_of_ble_eq_true rfl) wd_419 rfl rfl rfl rfl (fitR (by decide +kernel)) ?_
  refine aw_iconst (i := 38) K (n := 0) (i32 _ rfl) (dOf ck_mX3_init rfl rfl) ?_
  refine aw_istore_n (i := 39) K (dOf ck_mX3_init rfl rfl) (Nat.le_of_ble_eq_true rfl) ?_
  refine aw_lvn (lv' := [(3, .inl 0), (0, .inr (.inr (.inl (some 79)))), (1, .inr (.inr (.inl (some 25)))), (2, .inr (.inr (.inl (some 76))))]) rfl ?_
  refine aw_iload_n (i := 40) K (dOf ck_mX3_init rfl rfl) rfl ?_
  refine aw_iconst (i := 41) K (n := 4) (i32 _ rfl) (dOf ck_mX3_init rfl rfl) ?_
  refine aw_icmp_ge (i := 42) K (dOf ck_mX3_init rfl rfl) (t := 52) (aJ_of (by decide +kernel)) (fun z => absurd z (by decide)) (fun _ => ?_)
  refine aw_aload_n (i := 43) K (dOf ck_mX3_init rfl rfl) rfl ?_
  refine aw_getf (i := 44) (k := 8) K (dOf ck_mX3_init rfl rfl) rfl rfl (Nat.le_of_ble_eq_true rfl) wd_426 rfl ?_
  refine aw_iload_n (i := 45) K (dOf ck_mX3_init rfl rfl) rfl ?_
  refine aw_newN (i := 46) (ci := 6) K (dOf ck_mX3_init rfl rfl) rfl wd_412 wd_290 wd_142 zt_6 (Nat.le_of_ble_eq_true rfl) (Nat.le_of_ble_eq_true rfl) 112 rfl (fun q112 => ?_)
  refine aw_dup (i := 47) K rfl (dOf ck_mX3_init rfl rfl) ?_
  refine aw_nm (sh' := sg_30) (mm' := mg_35) rfl rfl ?_
  refine aw_callIN (i := 48) (as := []) (q := 112) K (dOf ck_mX3_init rfl rfl) wd_292 (List.mem_append_right _ (List.mem_append_right _ (List.mem_append_left _ (List.mem_of_getElem? (i := 198) rfl)))) wd_142 (by decide +kernel) rfl rfl wd_291 rfl (Nat.le_of_ble_eq_true rfl) ⟨Nat.le_of_ble_eq_true rfl, Nat.le_of_ble_eq_true rfl⟩ ⟨Nat.le_of_ble_eq_true rfl, Nat.le_of_ble_eq_true rfl⟩ (Nat.le_of_ble_eq_true rfl) ct_20 (fun bl21 => ?_)
  have hA : sg_31[110]? = some (.inr (.inr (.inl (.object "OneBreath$Sounds", [none, none, none, none])))) := rfl
  have hB : sg_31[112]? = some (.inr (.inr (.inr (6, [some (some 113), none])))) := rfl
  refine aw_aast (i := 49) (rc := (RX6, TX6, 2)) (ci := 6) (q := 110) (x := 112) (rs := [none, none, none, none]) (fs := [some (some 113), none]) (j := 0) K (dOf ck_mX3_init rfl rfl) hA hB rfl ⟨by decide, by decide⟩ ?_
  refine aw_iinc (i := 50) K (dOf ck_mX3_init rfl rfl) (Nat.le_of_ble_eq_true rfl) rfl ?_
  refine aw_lvn (lv' := [(3, .inl 1), (0, .inr (.inr (.inl (some 79)))), (1, .inr (.inr (.inl (some 25)))), (2, .inr (.inr (.inl (some 76))))]) rfl ?_
  refine aw_goto (i := 51) K (dOf ck_mX3_init rfl rfl).1 (t := 40) (aJ_of (by decide +kernel)) ?_
  refine aw_iload_n (i := 40) K (dOf ck_mX3_init rfl rfl) rfl ?_
  refine aw_iconst (i := 41) K (n := 4) (i32 _ rfl) (dOf ck_mX3_init rfl rfl) ?_
  refine aw_icmp_ge (i := 42) K (dOf ck_mX3_init rfl rfl) (t := 52) (aJ_of (by decide +kernel)) (fun z => absurd z (by decide)) (fun _ => ?_)
  refine aw_aload_n (i := 43) K (dOf ck_mX3_init rfl rfl) rfl ?_
  refine aw_getf (i := 44) (k := 8) K (dOf ck_mX3_init rfl rfl) rfl rfl (Nat.le_of_ble_eq_true rfl) wd_426 rfl ?_
  refine aw_iload_n (i := 45) K (dOf ck_mX3_init rfl rfl) rfl ?_
  refine aw_newN (i := 46) (ci := 6) K (dOf ck_mX3_init rfl rfl) rfl wd_412 wd_290 wd_142 zt_6 (Nat.le_of_ble_eq_true rfl) (Nat.le_of_ble_eq_true rfl) 114 rfl (fun q114 => ?_)
  refine aw_dup (i := 47) K rfl (dOf ck_mX3_init rfl rfl) ?_
  refine aw_nm (sh' := sg_32) (mm' := mg_37) rfl rfl ?_
  refine aw_callIN (i := 48) (as := []) (q := 114) K (dOf ck_mX3_init rfl rfl) wd_292 (List.mem_append_right _ (List.mem_append_right _ (List.mem_append_left _ (List.mem_of_getElem? (i := 198) rfl)))) wd_142 (by decide +kernel) rfl rfl wd_291 rfl (Nat.le_of_ble_eq_true rfl) ⟨Nat.le_of_ble_eq_true rfl, Nat.le_of_ble_eq_true rfl⟩ ⟨Nat.le_of_ble_eq_true rfl, Nat.le_of_ble_eq_true rfl⟩ (Nat.le_of_ble_eq_true rfl) ct_21 (fun bl22 => ?_)
  have hA : sg_33[110]? = some (.inr (.inr (.inl (.object "OneBreath$Sounds", [some 112, none, none, none])))) := rfl
  have hB : sg_33[114]? = some (.inr (.inr (.inr (6, [some (some 115), none])))) := rfl
  refine aw_aast (i := 49) (rc := (RX6, TX6, 2)) (ci := 6) (q := 110) (x := 114) (rs := [some 112, none, none, none]) (fs := [some (some 115), none]) (j := 1) K (dOf ck_mX3_init rfl rfl) hA hB rfl ⟨by decide, by decide⟩ ?_
  refine aw_iinc (i := 50) K (dOf ck_mX3_init rfl rfl) (Nat.le_of_ble_eq_true rfl) rfl ?_
  refine aw_lvn (lv' := [(3, .inl 2), (0, .inr (.inr (.inl (some 79)))), (1, .inr (.inr (.inl (some 25)))), (2, .inr (.inr (.inl (some 76))))]) rfl ?_
  refine aw_goto (i := 51) K (dOf ck_mX3_init rfl rfl).1 (t := 40) (aJ_of (by decide +kernel)) ?_
  refine aw_iload_n (i := 40) K (dOf ck_mX3_init rfl rfl) rfl ?_
  refine aw_iconst (i := 41) K (n := 4) (i32 _ rfl) (dOf ck_mX3_init rfl rfl) ?_
  refine aw_icmp_ge (i := 42) K (dOf ck_mX3_init rfl rfl) (t := 52) (aJ_of (by decide +kernel)) (fun z => absurd z (by decide)) (fun _ => ?_)
  refine aw_aload_n (i := 43) K (dOf ck_mX3_init rfl rfl) rfl ?_
  refine aw_getf (i := 44) (k := 8) K (dOf ck_mX3_init rfl rfl) rfl rfl (Nat.le_of_ble_eq_true rfl) wd_426 rfl ?_
  refine aw_iload_n (i := 45) K (dOf ck_mX3_init rfl rfl) rfl ?_
  refine aw_newN (i := 46) (ci := 6) K (dOf ck_mX3_init rfl rfl) rfl wd_412 wd_290 wd_142 zt_6 (Nat.le_of_ble_eq_true rfl) (Nat.le_of_ble_eq_true rfl) 116 rfl (fun q116 => ?_)
  refine aw_dup (i := 47) K rfl (dOf ck_mX3_init rfl rfl) ?_
  refine aw_nm (sh' := sg_34) (mm' := mg_39) rfl rfl ?_
  refine aw_callIN (i := 48) (as := []) (q := 116) K (dOf ck_mX3_init rfl rfl) wd_292 (List.mem_append_right _ (List.mem_append_right _ (List.mem_append_left _ (List.mem_of_getElem? (i := 198) rfl)))) wd_142 (by decide +kernel) rfl rfl wd_291 rfl (Nat.le_of_ble_eq_true rfl) ⟨Nat.le_of_ble_eq_true rfl, Nat.le_of_ble_eq_true rfl⟩ ⟨Nat.le_of_ble_eq_true rfl, Nat.le_of_ble_eq_true rfl⟩ (Nat.le_of_ble_eq_true rfl) ct_22 (fun bl23 => ?_)
  have hA : sg_35[110]? = some (.inr (.inr (.inl (.object "OneBreath$Sounds", [some 112, some 114, none, none])))) := rfl
  have hB : sg_35[116]? = some (.inr (.inr (.inr (6, [some (some 117), none])))) := rfl
  refine aw_aast (i := 49) (rc := (RX6, TX6, 2)) (ci := 6) (q := 110) (x := 116) (rs := [some 112, some 114, none, none]) (fs := [some (some 117), none]) (j := 2) K (dOf ck_mX3_init rfl rfl) hA hB rfl ⟨by decide, by decide⟩ ?_
  refine aw_iinc (i := 50) K (dOf ck_mX3_init rfl rfl) (Nat.le_of_ble_eq_true rfl) rfl ?_
  refine aw_lvn (lv' := [(3, .inl 3), (0, .inr (.inr (.inl (some 79)))), (1, .inr (.inr (.inl (some 25)))), (2, .inr (.inr (.inl (some 76))))]) rfl ?_
  refine aw_goto (i := 51) K (dOf ck_mX3_init rfl rfl).1 (t := 40) (aJ_of (by decide +kernel)) ?_
  refine aw_iload_n (i := 40) K (dOf ck_mX3_init rfl rfl) rfl ?_
  refine aw_iconst (i := 41) K (n := 4) (i32 _ rfl) (dOf ck_mX3_init rfl rfl) ?_
  refine aw_icmp_ge (i := 42) K (dOf ck_mX3_init rfl rfl) (t := 52) (aJ_of (by decide +kernel)) (fun z => absurd z (by decide)) (fun _ => ?_)
  refine aw_aload_n (i := 43) K (dOf ck_mX3_init rfl rfl) rfl ?_
  refine aw_getf (i := 44) (k := 8) K (dOf ck_mX3_init rfl rfl) rfl rfl (Nat.le_of_ble_eq_true rfl) wd_426 rfl ?_
  refine aw_iload_n (i := 45) K (dOf ck_mX3_init rfl rfl) rfl ?_
  refine aw_newN (i := 46) (ci := 6) K (dOf ck_mX3_init rfl rfl) rfl wd_412 wd_290 wd_142 zt_6 (Nat.le_of_ble_eq_true rfl) (Nat.le_of_ble_eq_true rfl) 118 rfl (fun q118 => ?_)
  refine aw_dup (i := 47) K rfl (dOf ck_mX3_init rfl rfl) ?_
  refine aw_nm (sh' := sg_36) (mm' := mg_41) rfl rfl ?_
  refine aw_callIN (i := 48) (as := []) (q := 118) K (dOf ck_mX3_init rfl rfl) wd_292 (List.mem_append_right _ (List.mem_append_right _ (List.mem_append_left _ (List.mem_of_getElem? (i := 198) rfl)))) wd_142 (by decide +kernel) rfl rfl wd_291 rfl (Nat.le_of_ble_eq_true rfl) ⟨Nat.le_of_ble_eq_true rfl, Nat.le_of_ble_eq_true rfl⟩ ⟨Nat.le_of_ble_eq_true rfl, Nat.le_of_ble_eq_true rfl⟩ (Nat.le_of_ble_eq_true rfl) ct_23 (fun bl24 => ?_)
  have hA : sg_37[110]? = some (.inr (.inr (.inl (.object "OneBreath$Sounds", [some 112, some 114, some 116, none])))) := rfl
  have hB : sg_37[118]? = some (.inr (.inr (.inr (6, [some (some 119), none])))) := rfl
  refine aw_aast (i := 49) (rc := (RX6, TX6, 2)) (ci := 6) (q := 110) (x := 118) (rs := [some 112, some 114, some 116, none]) (fs := [some (some 119), none]) (j := 3) K (dOf ck_mX3_init rfl rfl) hA hB rfl ⟨by decide, by decide⟩ ?_
  refine aw_iinc (i := 50) K (dOf ck_mX3_init rfl rfl) (Nat.le_of_ble_eq_true rfl) rfl ?_
  refine aw_lvn (lv' := [(3, .inl 4), (0, .inr (.inr (.inl (some 79)))), (1, .inr (.inr (.inl (some 25)))), (2, .inr (.inr (.inl (some 76))))]) rfl ?_
  refine aw_goto (i := 51) K (dOf ck_mX3_init rfl rfl).1 (t := 40) (aJ_of (by decide +kernel)) ?_
  refine aw_iload_n (i := 40) K (dOf ck_mX3_init rfl rfl) rfl ?_
  refine aw_iconst (i := 41) K (n := 4) (i32 _ rfl) (dOf ck_mX3_init rfl rfl) ?_
  refine aw_icmp_ge (i := 42) K (dOf ck_mX3_init rfl rfl) (t := 52) (aJ_of (by decide +kernel)) (fun _ => ?_) (fun z => absurd (by decide) z)
  refine aw_aload_n (i := 52) K (dOf ck_mX3_init rfl rfl) rfl ?_
  refine aw_nm (sh' := sg_38) (mm' := mg_42) rfl rfl ?_
  refine aw_callV (i := 53) (as := []) (q := 79) K (dOf ck_mX3_init rfl rfl) al_OneBreath_Mender_52 rfl rfl ⟨wd_414, wd_415⟩ rfl (Nat.le_of_ble_eq_true rfl) ⟨Nat.le_of_ble_eq_true rfl, Nat.le_of_ble_eq_true rfl⟩ ⟨Nat.le_of_ble_eq_true rfl, Nat.le_of_ble_eq_true rfl⟩ (Nat.le_of_ble_eq_true rfl) ct_25 (fun bl26 => ?_)
  refine aw_nm (sh' := sg_38) (mm' := mg_44) rfl rfl ?_
  exact aw_vretA K (by decide +kernel) rfl (Nat.le_of_ble_eq_true rfl) (Nat.le_of_ble_eq_true rfl) (pre_app (pre_app (pre_app (pre_app (pre_app (pre_app (pre_app (pre_app (pre_app (pre_app (pre_app (pre_app (pre_app (pre_app (pre_app (pre_app (pre_app (pre_app ⟨[], (List.append_nil _).symm⟩))))))))))))))))))
def sg_39 : List aE := [.inr (.inr (.inr (11, [some (some 1), some (some 25), some (some 47), some (some 49), some (some 51), some (some 59), some (some 61), some (some 67), some (some 73), some (some 76), some (some 79), some none, some none, some none, some none]))), .inr (.inr (.inr (7, [some (some 2), none, none, some (some 3), none, none, none, none, none]))), .inl (.byte, 500), .inr (.inr (.inr (8, [none, none, none, none, none, none, some (some 4), some (some 5), some (some 6), some (some 19), some (some 20), some (some 21), some (some 22), some (some 23), some (some 24)]))), .inl (.byte, 8), .inl (.int, 8), .inr (.inr (.inl (.array .byte, [some 7, some 8, some 9, some 10, some 11, some 12, some 13, some 14, some 15, some 16, some 17, some 18]))), .inl (.byte, 6), .inl (.byte, 6), .inl (.byte, 6), .inl (.byte, 6), .inl (.byte, 6), .inl (.byte, 6), .inl (.byte, 6), .inl (.byte, 6), .inl (.byte, 6), .inl (.byte, 6), .inl (.byte, 6), .inl (.byte, 6), .inl (.int, 12), .inl (.int, 12), .inl (.int, 12), .inl (.int, 4), .inl (.int, 6), .inl (.int, 6), .inr (.inr (.inr (8, [none, none, none, none, none, none, some (some 26), some (some 27), some (some 28), some (some 41), some (some 42), some (some 43), some (some 44), some (some 45), some (some 46)]))), .inl (.byte, 8), .inl (.int, 8), .inr (.inr (.inl (.array .byte, [some 29, some 30, some 31, some 32, some 33, some 34, some 35, some 36, some 37, some 38, some 39, some 40]))), .inl (.byte, 6), .inl (.byte, 6), .inl (.byte, 6), .inl (.byte, 6), .inl (.byte, 6), .inl (.byte, 6), .inl (.byte, 6), .inl (.byte, 6), .inl (.byte, 6), .inl (.byte, 6), .inl (.byte, 6), .inl (.byte, 6), .inl (.int, 12), .inl (.int, 12), .inl (.int, 12), .inl (.int, 4), .inl (.int, 6), .inl (.int, 6), .inr (.inr (.inr (6, [some (some 48), none]))), .inl (.byte, 40), .inr (.inr (.inr (6, [some (some 50), none]))), .inl (.byte, 40), .inr (.inr (.inr (5, [some (some 52), some (some 57), some (some 58)]))), .inr (.inr (.inl (.array .long, [some 53, some 54, some 55, some 56]))), .inr (.inl 40), .inr (.inl 40), .inr (.inl 40), .inr (.inl 40), .inl (.int, 4), .inl (.int, 4), .inr (.inr (.inr (10, [some (some 60), none, none, none, none, none]))), .inl (.int, 40), .inr (.inr (.inr (1, [some (some 25), none, some (some 62), some (some 63), some (some 64), none, some (some 65), some (some 66), none, none]))), .inl (.byte, 720), .inl (.int, 305), .inr (.inl 915), .inl (.int, 60), .inl (.int, 60), .inr (.inr (.inr (1, [some (some 25), none, some (some 68), some (some 69), some (some 70), none, some (some 71), some (some 72), none, none]))), .inl (.byte, 720), .inl (.int, 305), .inr (.inl 915), .inl (.int, 60), .inl (.int, 60), .inr (.inr (.inr (4, [some (some 25), some (some 67), some (some 74), none, none]))), .inr (.inr (.inr (6, [some (some 75), none]))), .inl (.byte, 40), .inr (.inr (.inr (2, [some (some 77), some (some 78)]))), .inl (.int, 6), .inl (.int, 7), .inr (.inr (.inr (3, [some (some 25), some (some 76), some (some 80), some (some 105), some (some 107), some (some 108), none, some (some 109), some (some 110), some (some 111), none, none, none, none, none, none]))), .inr (.inr (.inr (9, [none, none, none, some (some 81), some (some 95), some (some 96), some (some 97), some (some 98), some (some 99), none, none, none, none, none, some (some 100), some (some 101), none, some (some 102), some (some 103), some (some 104)]))), .inr (.inr (.inl (.array .byte, [some 82, some 83, some 84, some 85, some 86, some 87, some 88, some 89, some 90, some 91, some 92, some 93, some 94]))), .inl (.byte, 7), .inl (.byte, 7), .inl (.byte, 7), .inl (.byte, 7), .inl (.byte, 7), .inl (.byte, 7), .inl (.byte, 7), .inl (.byte, 7), .inl (.byte, 7), .inl (.byte, 7), .inl (.byte, 7), .inl (.byte, 7), .inl (.byte, 7), .inl (.int, 13), .inl (.int, 13), .inl (.int, 4), .inl (.int, 9), .inl (.int, 4), .inr (.inl 536), .inr (.inl 67), .inl (.short, 471), .inl (.short, 471), .inl (.byte, 471), .inr (.inr (.inr (6, [some (some 106), none]))), .inl (.byte, 40), .inl (.int, 3), .inl (.byte, 2826), .inl (.boolean, 4), .inr (.inr (.inl (.object "OneBreath$Sounds", [some 112, some 114, some 116, some 118]))), .inl (.int, 4), .inr (.inr (.inr (6, [some (some 113), none]))), .inl (.byte, 40), .inr (.inr (.inr (6, [some (some 115), none]))), .inl (.byte, 40), .inr (.inr (.inr (6, [some (some 117), none]))), .inl (.byte, 40), .inr (.inr (.inr (6, [some (some 119), none]))), .inl (.byte, 40), .inr (.inr (.inr (0, [some none, some none, none, some none, some none, some none, none, none, none, none])))]
def mg_45 : aM := (aNew mg_44 120)
def sg_40 : List aE := [.inr (.inr (.inr (11, [some (some 1), some (some 25), some (some 47), some (some 49), some (some 51), some (some 59), some (some 61), some (some 67), some (some 73), some (some 76), some (some 79), some none, some none, some none, some none]))), .inr (.inr (.inr (7, [some (some 2), none, none, some (some 3), none, none, none, none, none]))), .inl (.byte, 500), .inr (.inr (.inr (8, [none, none, none, none, none, none, some (some 4), some (some 5), some (some 6), some (some 19), some (some 20), some (some 21), some (some 22), some (some 23), some (some 24)]))), .inl (.byte, 8), .inl (.int, 8), .inr (.inr (.inl (.array .byte, [some 7, some 8, some 9, some 10, some 11, some 12, some 13, some 14, some 15, some 16, some 17, some 18]))), .inl (.byte, 6), .inl (.byte, 6), .inl (.byte, 6), .inl (.byte, 6), .inl (.byte, 6), .inl (.byte, 6), .inl (.byte, 6), .inl (.byte, 6), .inl (.byte, 6), .inl (.byte, 6), .inl (.byte, 6), .inl (.byte, 6), .inl (.int, 12), .inl (.int, 12), .inl (.int, 12), .inl (.int, 4), .inl (.int, 6), .inl (.int, 6), .inr (.inr (.inr (8, [none, none, none, none, none, none, some (some 26), some (some 27), some (some 28), some (some 41), some (some 42), some (some 43), some (some 44), some (some 45), some (some 46)]))), .inl (.byte, 8), .inl (.int, 8), .inr (.inr (.inl (.array .byte, [some 29, some 30, some 31, some 32, some 33, some 34, some 35, some 36, some 37, some 38, some 39, some 40]))), .inl (.byte, 6), .inl (.byte, 6), .inl (.byte, 6), .inl (.byte, 6), .inl (.byte, 6), .inl (.byte, 6), .inl (.byte, 6), .inl (.byte, 6), .inl (.byte, 6), .inl (.byte, 6), .inl (.byte, 6), .inl (.byte, 6), .inl (.int, 12), .inl (.int, 12), .inl (.int, 12), .inl (.int, 4), .inl (.int, 6), .inl (.int, 6), .inr (.inr (.inr (6, [some (some 48), none]))), .inl (.byte, 40), .inr (.inr (.inr (6, [some (some 50), none]))), .inl (.byte, 40), .inr (.inr (.inr (5, [some (some 52), some (some 57), some (some 58)]))), .inr (.inr (.inl (.array .long, [some 53, some 54, some 55, some 56]))), .inr (.inl 40), .inr (.inl 40), .inr (.inl 40), .inr (.inl 40), .inl (.int, 4), .inl (.int, 4), .inr (.inr (.inr (10, [some (some 60), none, none, none, none, none]))), .inl (.int, 40), .inr (.inr (.inr (1, [some (some 25), none, some (some 62), some (some 63), some (some 64), none, some (some 65), some (some 66), none, none]))), .inl (.byte, 720), .inl (.int, 305), .inr (.inl 915), .inl (.int, 60), .inl (.int, 60), .inr (.inr (.inr (1, [some (some 25), none, some (some 68), some (some 69), some (some 70), none, some (some 71), some (some 72), none, none]))), .inl (.byte, 720), .inl (.int, 305), .inr (.inl 915), .inl (.int, 60), .inl (.int, 60), .inr (.inr (.inr (4, [some (some 25), some (some 67), some (some 74), none, none]))), .inr (.inr (.inr (6, [some (some 75), none]))), .inl (.byte, 40), .inr (.inr (.inr (2, [some (some 77), some (some 78)]))), .inl (.int, 6), .inl (.int, 7), .inr (.inr (.inr (3, [some (some 25), some (some 76), some (some 80), some (some 105), some (some 107), some (some 108), none, some (some 109), some (some 110), some (some 111), none, none, none, none, none, none]))), .inr (.inr (.inr (9, [none, none, none, some (some 81), some (some 95), some (some 96), some (some 97), some (some 98), some (some 99), none, none, none, none, none, some (some 100), some (some 101), none, some (some 102), some (some 103), some (some 104)]))), .inr (.inr (.inl (.array .byte, [some 82, some 83, some 84, some 85, some 86, some 87, some 88, some 89, some 90, some 91, some 92, some 93, some 94]))), .inl (.byte, 7), .inl (.byte, 7), .inl (.byte, 7), .inl (.byte, 7), .inl (.byte, 7), .inl (.byte, 7), .inl (.byte, 7), .inl (.byte, 7), .inl (.byte, 7), .inl (.byte, 7), .inl (.byte, 7), .inl (.byte, 7), .inl (.byte, 7), .inl (.int, 13), .inl (.int, 13), .inl (.int, 4), .inl (.int, 9), .inl (.int, 4), .inr (.inl 536), .inr (.inl 67), .inl (.short, 471), .inl (.short, 471), .inl (.byte, 471), .inr (.inr (.inr (6, [some (some 106), none]))), .inl (.byte, 40), .inl (.int, 3), .inl (.byte, 2826), .inl (.boolean, 4), .inr (.inr (.inl (.object "OneBreath$Sounds", [some 112, some 114, some 116, some 118]))), .inl (.int, 4), .inr (.inr (.inr (6, [some (some 113), none]))), .inl (.byte, 40), .inr (.inr (.inr (6, [some (some 115), none]))), .inl (.byte, 40), .inr (.inr (.inr (6, [some (some 117), none]))), .inl (.byte, 40), .inr (.inr (.inr (6, [some (some 119), none]))), .inl (.byte, 40), .inr (.inr (.inr (0, [some (some 25), some (some 121), none, some (some 122), some (some 123), some (some 124), none, none, none, none]))), .inl (.int, 20), .inl (.int, 4), .inl (.int, 4), .inl (.int, 4)]
def mg_46 : aM := (aNew (aNew (aNew (aNew mg_45 121) 122) 123) 124)
set_option maxHeartbeats 8000000 in
set_option maxRecDepth 20000 in
/-- Census.<init> -/
theorem ct_27 {l : Launch} {D : va_G} {cA : FieldType → ClassId} {ad adV : Nat → Nat} {z0 : Nat} : aMet l D cA ad adV z0 mX0_init 1 20 4 32 [.inr (.inr (.inl (some 120))), .inr (.inr (.inl (some 25)))] sg_39 mg_45 none sg_40 mg_46 := by
  refine aMet_of (by decide +kernel) rfl (Nat.le_of_ble_eq_true rfl) (fun p e s m args below meth c al K => ?_)
  refine aw_aload_n (i := 0) K (dOf ck_mX0_init rfl rfl) rfl ?_
  refine aw_objInit (i := 1) K (dOf ck_mX0_init rfl rfl) ⟨wd_445, wd_167, wd_168⟩ (Nat.le_of_ble_eq_true rfl) ⟨Nat.le_of_ble_eq_true rfl, Nat.le_of_ble_eq_true rfl⟩ ?_
  refine aw_aload_n (i := 2) K (dOf ck_mX0_init rfl rfl) rfl ?_
  refine aw_bip (i := 3) K (dOf ck_mX0_init rfl rfl) (v := 20) rfl ?_
  refine aw_newaN (i := 4) (n := 20) (ty := .int) K (dOf ck_mX0_init rfl rfl) rfl (by decide) wd_273 (Nat.le_of_ble_eq_true rfl) (Nat.le_of_ble_eq_true rfl) (Nat.le_of_ble_eq_true rfl) 121 rfl (fun q121 => ?_)
  refine aw_putr (i := 5) (k := 1) K (dOf ck_mX0_init rfl rfl) rfl rfl (Nat.le_of_ble_eq_true rfl) wd_447 rfl rfl rfl rfl (fitR (by decide +kernel)) ?_
  refine aw_aload_n (i := 6) K (dOf ck_mX0_init rfl rfl) rfl ?_
  refine aw_iconst (i := 7) K (n := 4) (i32 _ rfl) (dOf ck_mX0_init rfl rfl) ?_
  refine aw_newaN (i := 8) (n := 4) (ty := .int) K (dOf ck_mX0_init rfl rfl) rfl (by decide) wd_273 (Nat.le_of_ble_eq_true rfl) (Nat.le_of_ble_eq_true rfl) (Nat.le_of_ble_eq_true rfl) 122 rfl (fun q122 => ?_)
  refine aw_putr (i := 9) (k := 3) K (dOf ck_mX0_init rfl rfl) rfl rfl (Nat.le_of_ble_eq_true rfl) wd_449 rfl rfl rfl rfl (fitR (by decide +kernel)) ?_
  refine aw_aload_n (i := 10) K (dOf ck_mX0_init rfl rfl) rfl ?_
  refine aw_iconst (i := 11) K (n := 4) (i32 _ rfl) (dOf ck_mX0_init rfl rfl) ?_
  refine aw_newaN (i := 12) (n := 4) (ty := .int) K (dOf ck_mX0_init rfl rfl) rfl (by decide) wd_273 (Nat.le_of_ble_eq_true rfl) (Nat.le_of_ble_eq_true rfl) (Nat.le_of_ble_eq_true rfl) 123 rfl (fun q123 => ?_)
  refine aw_putr (i := 13) (k := 4) K (dOf ck_mX0_init rfl rfl) rfl rfl (Nat.le_of_ble_eq_true rfl) wd_450 rfl rfl rfl rfl (fitR (by decide +kernel)) ?_
  refine aw_aload_n (i := 14) K (dOf ck_mX0_init rfl rfl) rfl ?_
  refine aw_iconst (i := 15) K (n := 4) (i32 _ rfl) (dOf ck_mX0_init rfl rfl) ?_
  refine aw_newaN (i := 16) (n := 4) (ty := .int) K (dOf ck_mX0_init rfl rfl) rfl (by decide) wd_273 (Nat.le_of_ble_eq_true rfl) (Nat.le_of_ble_eq_true rfl) (Nat.le_of_ble_eq_true rfl) 124 rfl (fun q124 => ?_)
  refine aw_putr (i := 17) (k := 5) K (dOf ck_mX0_init rfl rfl) rfl rfl (Nat.le_of_ble_eq_true rfl) wd_451 rfl rfl rfl rfl (fitR (by decide +kernel)) ?_
  refine aw_aload_n (i := 18) K (dOf ck_mX0_init rfl rfl) rfl ?_
  refine aw_aload_n (i := 19) K (dOf ck_mX0_init rfl rfl) rfl ?_
  refine aw_putr (i := 20) (k := 0) K (dOf ck_mX0_init rfl rfl) rfl rfl (Nat.le_of_ble_eq_true rfl) wd_446 rfl rfl rfl rfl (fitR (by decide +kernel)) ?_
  refine aw_nm (sh' := sg_40) (mm' := mg_46) rfl rfl ?_
  exact aw_vretA K (by decide +kernel) rfl (Nat.le_of_ble_eq_true rfl) (Nat.le_of_ble_eq_true rfl) (pre_app (pre_app (pre_app (pre_app ⟨[], (List.append_nil _).symm⟩))))
def sg_41 : List aE := [.inr (.inr (.inr (11, [some (some 1), some (some 25), some (some 47), some (some 49), some (some 51), some (some 59), some (some 61), some (some 67), some (some 73), some (some 76), some (some 79), some (some 120), some (some 125), some (some 126), some (some 127)]))), .inr (.inr (.inr (7, [some (some 2), none, none, some (some 3), none, none, none, none, none]))), .inl (.byte, 500), .inr (.inr (.inr (8, [none, none, none, none, none, none, some (some 4), some (some 5), some (some 6), some (some 19), some (some 20), some (some 21), some (some 22), some (some 23), some (some 24)]))), .inl (.byte, 8), .inl (.int, 8), .inr (.inr (.inl (.array .byte, [some 7, some 8, some 9, some 10, some 11, some 12, some 13, some 14, some 15, some 16, some 17, some 18]))), .inl (.byte, 6), .inl (.byte, 6), .inl (.byte, 6), .inl (.byte, 6), .inl (.byte, 6), .inl (.byte, 6), .inl (.byte, 6), .inl (.byte, 6), .inl (.byte, 6), .inl (.byte, 6), .inl (.byte, 6), .inl (.byte, 6), .inl (.int, 12), .inl (.int, 12), .inl (.int, 12), .inl (.int, 4), .inl (.int, 6), .inl (.int, 6), .inr (.inr (.inr (8, [none, none, none, none, none, none, some (some 26), some (some 27), some (some 28), some (some 41), some (some 42), some (some 43), some (some 44), some (some 45), some (some 46)]))), .inl (.byte, 8), .inl (.int, 8), .inr (.inr (.inl (.array .byte, [some 29, some 30, some 31, some 32, some 33, some 34, some 35, some 36, some 37, some 38, some 39, some 40]))), .inl (.byte, 6), .inl (.byte, 6), .inl (.byte, 6), .inl (.byte, 6), .inl (.byte, 6), .inl (.byte, 6), .inl (.byte, 6), .inl (.byte, 6), .inl (.byte, 6), .inl (.byte, 6), .inl (.byte, 6), .inl (.byte, 6), .inl (.int, 12), .inl (.int, 12), .inl (.int, 12), .inl (.int, 4), .inl (.int, 6), .inl (.int, 6), .inr (.inr (.inr (6, [some (some 48), none]))), .inl (.byte, 40), .inr (.inr (.inr (6, [some (some 50), none]))), .inl (.byte, 40), .inr (.inr (.inr (5, [some (some 52), some (some 57), some (some 58)]))), .inr (.inr (.inl (.array .long, [some 53, some 54, some 55, some 56]))), .inr (.inl 40), .inr (.inl 40), .inr (.inl 40), .inr (.inl 40), .inl (.int, 4), .inl (.int, 4), .inr (.inr (.inr (10, [some (some 60), none, none, none, none, none]))), .inl (.int, 40), .inr (.inr (.inr (1, [some (some 25), none, some (some 62), some (some 63), some (some 64), none, some (some 65), some (some 66), none, none]))), .inl (.byte, 720), .inl (.int, 305), .inr (.inl 915), .inl (.int, 60), .inl (.int, 60), .inr (.inr (.inr (1, [some (some 25), none, some (some 68), some (some 69), some (some 70), none, some (some 71), some (some 72), none, none]))), .inl (.byte, 720), .inl (.int, 305), .inr (.inl 915), .inl (.int, 60), .inl (.int, 60), .inr (.inr (.inr (4, [some (some 25), some (some 67), some (some 74), none, none]))), .inr (.inr (.inr (6, [some (some 75), none]))), .inl (.byte, 40), .inr (.inr (.inr (2, [some (some 77), some (some 78)]))), .inl (.int, 6), .inl (.int, 7), .inr (.inr (.inr (3, [some (some 25), some (some 76), some (some 80), some (some 105), some (some 107), some (some 108), none, some (some 109), some (some 110), some (some 111), none, none, none, none, none, none]))), .inr (.inr (.inr (9, [none, none, none, some (some 81), some (some 95), some (some 96), some (some 97), some (some 98), some (some 99), none, none, none, none, none, some (some 100), some (some 101), none, some (some 102), some (some 103), some (some 104)]))), .inr (.inr (.inl (.array .byte, [some 82, some 83, some 84, some 85, some 86, some 87, some 88, some 89, some 90, some 91, some 92, some 93, some 94]))), .inl (.byte, 7), .inl (.byte, 7), .inl (.byte, 7), .inl (.byte, 7), .inl (.byte, 7), .inl (.byte, 7), .inl (.byte, 7), .inl (.byte, 7), .inl (.byte, 7), .inl (.byte, 7), .inl (.byte, 7), .inl (.byte, 7), .inl (.byte, 7), .inl (.int, 13), .inl (.int, 13), .inl (.int, 4), .inl (.int, 9), .inl (.int, 4), .inr (.inl 536), .inr (.inl 67), .inl (.short, 471), .inl (.short, 471), .inl (.byte, 471), .inr (.inr (.inr (6, [some (some 106), none]))), .inl (.byte, 40), .inl (.int, 3), .inl (.byte, 2826), .inl (.boolean, 4), .inr (.inr (.inl (.object "OneBreath$Sounds", [some 112, some 114, some 116, some 118]))), .inl (.int, 4), .inr (.inr (.inr (6, [some (some 113), none]))), .inl (.byte, 40), .inr (.inr (.inr (6, [some (some 115), none]))), .inl (.byte, 40), .inr (.inr (.inr (6, [some (some 117), none]))), .inl (.byte, 40), .inr (.inr (.inr (6, [some (some 119), none]))), .inl (.byte, 40), .inr (.inr (.inr (0, [some (some 25), some (some 121), none, some (some 122), some (some 123), some (some 124), none, none, none, none]))), .inl (.int, 20), .inl (.int, 4), .inl (.int, 4), .inl (.int, 4), .inr (.inr (.inl (.object "OneBreath$Tongue", [none, none]))), .inr (.inr (.inl (.object "OneBreath$Sounds", [none, none]))), .inl (.boolean, 2), .inr (.inr (.inr (8, [none, none, none, none, none, none, some none, some none, some none, some none, some none, some none, some none, some none, some none])))]
def mg_47 : aM := (aNew (aNew (aNew (aNew mg_46 125) 126) 127) 128)
def sg_42 : List aE := [.inr (.inr (.inr (11, [some (some 1), some (some 25), some (some 47), some (some 49), some (some 51), some (some 59), some (some 61), some (some 67), some (some 73), some (some 76), some (some 79), some (some 120), some (some 125), some (some 126), some (some 127)]))), .inr (.inr (.inr (7, [some (some 2), none, none, some (some 3), none, none, none, none, none]))), .inl (.byte, 500), .inr (.inr (.inr (8, [none, none, none, none, none, none, some (some 4), some (some 5), some (some 6), some (some 19), some (some 20), some (some 21), some (some 22), some (some 23), some (some 24)]))), .inl (.byte, 8), .inl (.int, 8), .inr (.inr (.inl (.array .byte, [some 7, some 8, some 9, some 10, some 11, some 12, some 13, some 14, some 15, some 16, some 17, some 18]))), .inl (.byte, 6), .inl (.byte, 6), .inl (.byte, 6), .inl (.byte, 6), .inl (.byte, 6), .inl (.byte, 6), .inl (.byte, 6), .inl (.byte, 6), .inl (.byte, 6), .inl (.byte, 6), .inl (.byte, 6), .inl (.byte, 6), .inl (.int, 12), .inl (.int, 12), .inl (.int, 12), .inl (.int, 4), .inl (.int, 6), .inl (.int, 6), .inr (.inr (.inr (8, [none, none, none, none, none, none, some (some 26), some (some 27), some (some 28), some (some 41), some (some 42), some (some 43), some (some 44), some (some 45), some (some 46)]))), .inl (.byte, 8), .inl (.int, 8), .inr (.inr (.inl (.array .byte, [some 29, some 30, some 31, some 32, some 33, some 34, some 35, some 36, some 37, some 38, some 39, some 40]))), .inl (.byte, 6), .inl (.byte, 6), .inl (.byte, 6), .inl (.byte, 6), .inl (.byte, 6), .inl (.byte, 6), .inl (.byte, 6), .inl (.byte, 6), .inl (.byte, 6), .inl (.byte, 6), .inl (.byte, 6), .inl (.byte, 6), .inl (.int, 12), .inl (.int, 12), .inl (.int, 12), .inl (.int, 4), .inl (.int, 6), .inl (.int, 6), .inr (.inr (.inr (6, [some (some 48), none]))), .inl (.byte, 40), .inr (.inr (.inr (6, [some (some 50), none]))), .inl (.byte, 40), .inr (.inr (.inr (5, [some (some 52), some (some 57), some (some 58)]))), .inr (.inr (.inl (.array .long, [some 53, some 54, some 55, some 56]))), .inr (.inl 40), .inr (.inl 40), .inr (.inl 40), .inr (.inl 40), .inl (.int, 4), .inl (.int, 4), .inr (.inr (.inr (10, [some (some 60), none, none, none, none, none]))), .inl (.int, 40), .inr (.inr (.inr (1, [some (some 25), none, some (some 62), some (some 63), some (some 64), none, some (some 65), some (some 66), none, none]))), .inl (.byte, 720), .inl (.int, 305), .inr (.inl 915), .inl (.int, 60), .inl (.int, 60), .inr (.inr (.inr (1, [some (some 25), none, some (some 68), some (some 69), some (some 70), none, some (some 71), some (some 72), none, none]))), .inl (.byte, 720), .inl (.int, 305), .inr (.inl 915), .inl (.int, 60), .inl (.int, 60), .inr (.inr (.inr (4, [some (some 25), some (some 67), some (some 74), none, none]))), .inr (.inr (.inr (6, [some (some 75), none]))), .inl (.byte, 40), .inr (.inr (.inr (2, [some (some 77), some (some 78)]))), .inl (.int, 6), .inl (.int, 7), .inr (.inr (.inr (3, [some (some 25), some (some 76), some (some 80), some (some 105), some (some 107), some (some 108), none, some (some 109), some (some 110), some (some 111), none, none, none, none, none, none]))), .inr (.inr (.inr (9, [none, none, none, some (some 81), some (some 95), some (some 96), some (some 97), some (some 98), some (some 99), none, none, none, none, none, some (some 100), some (some 101), none, some (some 102), some (some 103), some (some 104)]))), .inr (.inr (.inl (.array .byte, [some 82, some 83, some 84, some 85, some 86, some 87, some 88, some 89, some 90, some 91, some 92, some 93, some 94]))), .inl (.byte, 7), .inl (.byte, 7), .inl (.byte, 7), .inl (.byte, 7), .inl (.byte, 7), .inl (.byte, 7), .inl (.byte, 7), .inl (.byte, 7), .inl (.byte, 7), .inl (.byte, 7), .inl (.byte, 7), .inl (.byte, 7), .inl (.byte, 7), .inl (.int, 13), .inl (.int, 13), .inl (.int, 4), .inl (.int, 9), .inl (.int, 4), .inr (.inl 536), .inr (.inl 67), .inl (.short, 471), .inl (.short, 471), .inl (.byte, 471), .inr (.inr (.inr (6, [some (some 106), none]))), .inl (.byte, 40), .inl (.int, 3), .inl (.byte, 2826), .inl (.boolean, 4), .inr (.inr (.inl (.object "OneBreath$Sounds", [some 112, some 114, some 116, some 118]))), .inl (.int, 4), .inr (.inr (.inr (6, [some (some 113), none]))), .inl (.byte, 40), .inr (.inr (.inr (6, [some (some 115), none]))), .inl (.byte, 40), .inr (.inr (.inr (6, [some (some 117), none]))), .inl (.byte, 40), .inr (.inr (.inr (6, [some (some 119), none]))), .inl (.byte, 40), .inr (.inr (.inr (0, [some (some 25), some (some 121), none, some (some 122), some (some 123), some (some 124), none, none, none, none]))), .inl (.int, 20), .inl (.int, 4), .inl (.int, 4), .inl (.int, 4), .inr (.inr (.inl (.object "OneBreath$Tongue", [none, none]))), .inr (.inr (.inl (.object "OneBreath$Sounds", [none, none]))), .inl (.boolean, 2), .inr (.inr (.inr (8, [none, none, none, none, none, none, some (some 129), some (some 130), some (some 131), some (some 144), some (some 145), some (some 146), some (some 147), some (some 148), some (some 149)]))), .inl (.byte, 8), .inl (.int, 8), .inr (.inr (.inl (.array .byte, [some 132, some 133, some 134, some 135, some 136, some 137, some 138, some 139, some 140, some 141, some 142, some 143]))), .inl (.byte, 6), .inl (.byte, 6), .inl (.byte, 6), .inl (.byte, 6), .inl (.byte, 6), .inl (.byte, 6), .inl (.byte, 6), .inl (.byte, 6), .inl (.byte, 6), .inl (.byte, 6), .inl (.byte, 6), .inl (.byte, 6), .inl (.int, 12), .inl (.int, 12), .inl (.int, 12), .inl (.int, 4), .inl (.int, 6), .inl (.int, 6)]
def mg_48 : aM := (aNew (aNew (aNew (aNew (aNew (aNew (aNewR (aNew (aNew mg_47 129) 130) 131 13) 144) 145) 146) 147) 148) 149)
def mg_49 : aM := (aup (aup (aup (aup (aup (aup mg_48 128 0 0) 128 1 0) 128 2 0) 128 3 0) 128 4 0) 128 5 15)
def mg_50 : aM := (aup (aup (aup (aup (aup (aup (aup (aup mg_49 130 0 0) 130 1 0) 130 2 0) 130 3 0) 130 4 0) 130 5 0) 130 6 0) 130 7 0)
set_option maxHeartbeats 8000000 in
set_option maxRecDepth 20000 in
/-- java/util/Arrays.fill -/
theorem ct_28 {l : Launch} {D : va_G} {cA : FieldType → ClassId} {ad adV : Nat → Nat} {z0 : Nat} : aMet l D cA ad adV z0 mJ7_fill_53178 0 0 0 0 [.inr (.inr (.inl (some 130))), .inl 0] sg_42 mg_49 none sg_42 mg_50 := by
  refine aMet_of (by decide +kernel) rfl (Nat.le_of_ble_eq_true rfl) (fun p e s m args below meth c al K => ?_)
  refine aw_iconst (i := 0) K (n := 0) (i32 _ rfl) (dOf ck_mJ7_fill_53178 rfl rfl) ?_
  refine aw_istore_n (i := 1) K (dOf ck_mJ7_fill_53178 rfl rfl) (Nat.le_of_ble_eq_true rfl) ?_
  refine aw_lvn (lv' := [(2, .inl 0), (0, .inr (.inr (.inl (some 130)))), (1, .inl 0)]) rfl ?_
  refine aw_aload_n (i := 2) K (dOf ck_mJ7_fill_53178 rfl rfl) rfl ?_
  refine aw_alen (i := 3) (n := 8) K (dOf ck_mJ7_fill_53178 rfl rfl) rfl rfl (by decide) ?_
  refine aw_istore_n (i := 4) K (dOf ck_mJ7_fill_53178 rfl rfl) (Nat.le_of_ble_eq_true rfl) ?_
  refine aw_lvn (lv' := [(3, .inl 8), (2, .inl 0), (0, .inr (.inr (.inl (some 130)))), (1, .inl 0)]) rfl ?_
  refine aw_iload_n (i := 5) K (dOf ck_mJ7_fill_53178 rfl rfl) rfl ?_
  refine aw_iload_n (i := 6) K (dOf ck_mJ7_fill_53178 rfl rfl) rfl ?_
  refine aw_icmp_ge (i := 7) K (dOf ck_mJ7_fill_53178 rfl rfl) (t := 14) (aJ_of (by decide +kernel)) (fun z => absurd z (by decide)) (fun _ => ?_)
  refine aw_aload_n (i := 8) K (dOf ck_mJ7_fill_53178 rfl rfl) rfl ?_
  refine aw_iload_n (i := 9) K (dOf ck_mJ7_fill_53178 rfl rfl) rfl ?_
  refine aw_iload_n (i := 10) K (dOf ck_mJ7_fill_53178 rfl rfl) rfl ?_
  refine aw_iast (i := 11) K (dOf ck_mJ7_fill_53178 rfl rfl) rfl (by decide) ?_
  refine aw_iinc (i := 12) K (dOf ck_mJ7_fill_53178 rfl rfl) (Nat.le_of_ble_eq_true rfl) rfl ?_
  refine aw_lvn (lv' := [(2, .inl 1), (3, .inl 8), (0, .inr (.inr (.inl (some 130)))), (1, .inl 0)]) rfl ?_
  refine aw_goto (i := 13) K (dOf ck_mJ7_fill_53178 rfl rfl).1 (t := 5) (aJ_of (by decide +kernel)) ?_
  refine aw_iload_n (i := 5) K (dOf ck_mJ7_fill_53178 rfl rfl) rfl ?_
  refine aw_iload_n (i := 6) K (dOf ck_mJ7_fill_53178 rfl rfl) rfl ?_
  refine aw_icmp_ge (i := 7) K (dOf ck_mJ7_fill_53178 rfl rfl) (t := 14) (aJ_of (by decide +kernel)) (fun z => absurd z (by decide)) (fun _ => ?_)
  refine aw_aload_n (i := 8) K (dOf ck_mJ7_fill_53178 rfl rfl) rfl ?_
  refine aw_iload_n (i := 9) K (dOf ck_mJ7_fill_53178 rfl rfl) rfl ?_
  refine aw_iload_n (i := 10) K (dOf ck_mJ7_fill_53178 rfl rfl) rfl ?_
  refine aw_iast (i := 11) K (dOf ck_mJ7_fill_53178 rfl rfl) rfl (by decide) ?_
  refine aw_iinc (i := 12) K (dOf ck_mJ7_fill_53178 rfl rfl) (Nat.le_of_ble_eq_true rfl) rfl ?_
  refine aw_lvn (lv' := [(2, .inl 2), (3, .inl 8), (0, .inr (.inr (.inl (some 130)))), (1, .inl 0)]) rfl ?_
  refine aw_goto (i := 13) K (dOf ck_mJ7_fill_53178 rfl rfl).1 (t := 5) (aJ_of (by decide +kernel)) ?_
  refine aw_iload_n (i := 5) K (dOf ck_mJ7_fill_53178 rfl rfl) rfl ?_
  refine aw_iload_n (i := 6) K (dOf ck_mJ7_fill_53178 rfl rfl) rfl ?_
  refine aw_icmp_ge (i := 7) K (dOf ck_mJ7_fill_53178 rfl rfl) (t := 14) (aJ_of (by decide +kernel)) (fun z => absurd z (by decide)) (fun _ => ?_)
  refine aw_aload_n (i := 8) K (dOf ck_mJ7_fill_53178 rfl rfl) rfl ?_
  refine aw_iload_n (i := 9) K (dOf ck_mJ7_fill_53178 rfl rfl) rfl ?_
  refine aw_iload_n (i := 10) K (dOf ck_mJ7_fill_53178 rfl rfl) rfl ?_
  refine aw_iast (i := 11) K (dOf ck_mJ7_fill_53178 rfl rfl) rfl (by decide) ?_
  refine aw_iinc (i := 12) K (dOf ck_mJ7_fill_53178 rfl rfl) (Nat.le_of_ble_eq_true rfl) rfl ?_
  refine aw_lvn (lv' := [(2, .inl 3), (3, .inl 8), (0, .inr (.inr (.inl (some 130)))), (1, .inl 0)]) rfl ?_
  refine aw_goto (i := 13) K (dOf ck_mJ7_fill_53178 rfl rfl).1 (t := 5) (aJ_of (by decide +kernel)) ?_
  refine aw_iload_n (i := 5) K (dOf ck_mJ7_fill_53178 rfl rfl) rfl ?_
  refine aw_iload_n (i := 6) K (dOf ck_mJ7_fill_53178 rfl rfl) rfl ?_
  refine aw_icmp_ge (i := 7) K (dOf ck_mJ7_fill_53178 rfl rfl) (t := 14) (aJ_of (by decide +kernel)) (fun z => absurd z (by decide)) (fun _ => ?_)
  refine aw_aload_n (i := 8) K (dOf ck_mJ7_fill_53178 rfl rfl) rfl ?_
  refine aw_iload_n (i := 9) K (dOf ck_mJ7_fill_53178 rfl rfl) rfl ?_
  refine aw_iload_n (i := 10) K (dOf ck_mJ7_fill_53178 rfl rfl) rfl ?_
  refine aw_iast (i := 11) K (dOf ck_mJ7_fill_53178 rfl rfl) rfl (by decide) ?_
  refine aw_iinc (i := 12) K (dOf ck_mJ7_fill_53178 rfl rfl) (Nat.le_of_ble_eq_true rfl) rfl ?_
  refine aw_lvn (lv' := [(2, .inl 4), (3, .inl 8), (0, .inr (.inr (.inl (some 130)))), (1, .inl 0)]) rfl ?_
  refine aw_goto (i := 13) K (dOf ck_mJ7_fill_53178 rfl rfl).1 (t := 5) (aJ_of (by decide +kernel)) ?_
  refine aw_iload_n (i := 5) K (dOf ck_mJ7_fill_53178 rfl rfl) rfl ?_
  refine aw_iload_n (i := 6) K (dOf ck_mJ7_fill_53178 rfl rfl) rfl ?_
  refine aw_icmp_ge (i := 7) K (dOf ck_mJ7_fill_53178 rfl rfl) (t := 14) (aJ_of (by decide +kernel)) (fun z => absurd z (by decide)) (fun _ => ?_)
  refine aw_aload_n (i := 8) K (dOf ck_mJ7_fill_53178 rfl rfl) rfl ?_
  refine aw_iload_n (i := 9) K (dOf ck_mJ7_fill_53178 rfl rfl) rfl ?_
  refine aw_iload_n (i := 10) K (dOf ck_mJ7_fill_53178 rfl rfl) rfl ?_
  refine aw_iast (i := 11) K (dOf ck_mJ7_fill_53178 rfl rfl) rfl (by decide) ?_
  refine aw_iinc (i := 12) K (dOf ck_mJ7_fill_53178 rfl rfl) (Nat.le_of_ble_eq_true rfl) rfl ?_
  refine aw_lvn (lv' := [(2, .inl 5), (3, .inl 8), (0, .inr (.inr (.inl (some 130)))), (1, .inl 0)]) rfl ?_
  refine aw_goto (i := 13) K (dOf ck_mJ7_fill_53178 rfl rfl).1 (t := 5) (aJ_of (by decide +kernel)) ?_
  refine aw_iload_n (i := 5) K (dOf ck_mJ7_fill_53178 rfl rfl) rfl ?_
  refine aw_iload_n (i := 6) K (dOf ck_mJ7_fill_53178 rfl rfl) rfl ?_
  refine aw_icmp_ge (i := 7) K (dOf ck_mJ7_fill_53178 rfl rfl) (t := 14) (aJ_of (by decide +kernel)) (fun z => absurd z (by decide)) (fun _ => ?_)
  refine aw_aload_n (i := 8) K (dOf ck_mJ7_fill_53178 rfl rfl) rfl ?_
  refine aw_iload_n (i := 9) K (dOf ck_mJ7_fill_53178 rfl rfl) rfl ?_
  refine aw_iload_n (i := 10) K (dOf ck_mJ7_fill_53178 rfl rfl) rfl ?_
  refine aw_iast (i := 11) K (dOf ck_mJ7_fill_53178 rfl rfl) rfl (by decide) ?_
  refine aw_iinc (i := 12) K (dOf ck_mJ7_fill_53178 rfl rfl) (Nat.le_of_ble_eq_true rfl) rfl ?_
  refine aw_lvn (lv' := [(2, .inl 6), (3, .inl 8), (0, .inr (.inr (.inl (some 130)))), (1, .inl 0)]) rfl ?_
  refine aw_goto (i := 13) K (dOf ck_mJ7_fill_53178 rfl rfl).1 (t := 5) (aJ_of (by decide +kernel)) ?_
  refine aw_iload_n (i := 5) K (dOf ck_mJ7_fill_53178 rfl rfl) rfl ?_
  refine aw_iload_n (i := 6) K (dOf ck_mJ7_fill_53178 rfl rfl) rfl ?_
  refine aw_icmp_ge (i := 7) K (dOf ck_mJ7_fill_53178 rfl rfl) (t := 14) (aJ_of (by decide +kernel)) (fun z => absurd z (by decide)) (fun _ => ?_)
  refine aw_aload_n (i := 8) K (dOf ck_mJ7_fill_53178 rfl rfl) rfl ?_
  refine aw_iload_n (i := 9) K (dOf ck_mJ7_fill_53178 rfl rfl) rfl ?_
  refine aw_iload_n (i := 10) K (dOf ck_mJ7_fill_53178 rfl rfl) rfl ?_
  refine aw_iast (i := 11) K (dOf ck_mJ7_fill_53178 rfl rfl) rfl (by decide) ?_
  refine aw_iinc (i := 12) K (dOf ck_mJ7_fill_53178 rfl rfl) (Nat.le_of_ble_eq_true rfl) rfl ?_
  refine aw_lvn (lv' := [(2, .inl 7), (3, .inl 8), (0, .inr (.inr (.inl (some 130)))), (1, .inl 0)]) rfl ?_
  refine aw_goto (i := 13) K (dOf ck_mJ7_fill_53178 rfl rfl).1 (t := 5) (aJ_of (by decide +kernel)) ?_
  refine aw_iload_n (i := 5) K (dOf ck_mJ7_fill_53178 rfl rfl) rfl ?_
  refine aw_iload_n (i := 6) K (dOf ck_mJ7_fill_53178 rfl rfl) rfl ?_
  refine aw_icmp_ge (i := 7) K (dOf ck_mJ7_fill_53178 rfl rfl) (t := 14) (aJ_of (by decide +kernel)) (fun z => absurd z (by decide)) (fun _ => ?_)
  refine aw_aload_n (i := 8) K (dOf ck_mJ7_fill_53178 rfl rfl) rfl ?_
  refine aw_iload_n (i := 9) K (dOf ck_mJ7_fill_53178 rfl rfl) rfl ?_
  refine aw_iload_n (i := 10) K (dOf ck_mJ7_fill_53178 rfl rfl) rfl ?_
  refine aw_iast (i := 11) K (dOf ck_mJ7_fill_53178 rfl rfl) rfl (by decide) ?_
  refine aw_iinc (i := 12) K (dOf ck_mJ7_fill_53178 rfl rfl) (Nat.le_of_ble_eq_true rfl) rfl ?_
  refine aw_lvn (lv' := [(2, .inl 8), (3, .inl 8), (0, .inr (.inr (.inl (some 130)))), (1, .inl 0)]) rfl ?_
  refine aw_goto (i := 13) K (dOf ck_mJ7_fill_53178 rfl rfl).1 (t := 5) (aJ_of (by decide +kernel)) ?_
  refine aw_iload_n (i := 5) K (dOf ck_mJ7_fill_53178 rfl rfl) rfl ?_
  refine aw_iload_n (i := 6) K (dOf ck_mJ7_fill_53178 rfl rfl) rfl ?_
  refine aw_icmp_ge (i := 7) K (dOf ck_mJ7_fill_53178 rfl rfl) (t := 14) (aJ_of (by decide +kernel)) (fun _ => ?_) (fun z => absurd (by decide) z)
  refine aw_nm (sh' := sg_42) (mm' := mg_50) rfl rfl ?_
  exact aw_vretA K (by decide +kernel) rfl (Nat.le_of_ble_eq_true rfl) (Nat.le_of_ble_eq_true rfl) ⟨[], (List.append_nil _).symm⟩
def mg_51 : aM := (aup (aup (aup (aup mg_50 147 0 15) 147 1 15) 147 2 15) 147 3 15)
set_option maxHeartbeats 8000000 in
set_option maxRecDepth 20000 in
/-- java/util/Arrays.fill -/
theorem ct_29 {l : Launch} {D : va_G} {cA : FieldType → ClassId} {ad adV : Nat → Nat} {z0 : Nat} : aMet l D cA ad adV z0 mJ7_fill_53178 0 0 0 0 [.inr (.inr (.inl (some 147))), .inl 15] sg_42 mg_50 none sg_42 mg_51 := by
  refine aMet_of (by decide +kernel) rfl (Nat.le_of_ble_eq_true rfl) (fun p e s m args below meth c al K => ?_)
  refine aw_iconst (i := 0) K (n := 0) (i32 _ rfl) (dOf ck_mJ7_fill_53178 rfl rfl) ?_
  refine aw_istore_n (i := 1) K (dOf ck_mJ7_fill_53178 rfl rfl) (Nat.le_of_ble_eq_true rfl) ?_
  refine aw_lvn (lv' := [(2, .inl 0), (0, .inr (.inr (.inl (some 147)))), (1, .inl 15)]) rfl ?_
  refine aw_aload_n (i := 2) K (dOf ck_mJ7_fill_53178 rfl rfl) rfl ?_
  refine aw_alen (i := 3) (n := 4) K (dOf ck_mJ7_fill_53178 rfl rfl) rfl rfl (by decide) ?_
  refine aw_istore_n (i := 4) K (dOf ck_mJ7_fill_53178 rfl rfl) (Nat.le_of_ble_eq_true rfl) ?_
  refine aw_lvn (lv' := [(3, .inl 4), (2, .inl 0), (0, .inr (.inr (.inl (some 147)))), (1, .inl 15)]) rfl ?_
  refine aw_iload_n (i := 5) K (dOf ck_mJ7_fill_53178 rfl rfl) rfl ?_
  refine aw_iload_n (i := 6) K (dOf ck_mJ7_fill_53178 rfl rfl) rfl ?_
  refine aw_icmp_ge (i := 7) K (dOf ck_mJ7_fill_53178 rfl rfl) (t := 14) (aJ_of (by decide +kernel)) (fun z => absurd z (by decide)) (fun _ => ?_)
  refine aw_aload_n (i := 8) K (dOf ck_mJ7_fill_53178 rfl rfl) rfl ?_
  refine aw_iload_n (i := 9) K (dOf ck_mJ7_fill_53178 rfl rfl) rfl ?_
  refine aw_iload_n (i := 10) K (dOf ck_mJ7_fill_53178 rfl rfl) rfl ?_
  refine aw_iast (i := 11) K (dOf ck_mJ7_fill_53178 rfl rfl) rfl (by decide) ?_
  refine aw_iinc (i := 12) K (dOf ck_mJ7_fill_53178 rfl rfl) (Nat.le_of_ble_eq_true rfl) rfl ?_
  refine aw_lvn (lv' := [(2, .inl 1), (3, .inl 4), (0, .inr (.inr (.inl (some 147)))), (1, .inl 15)]) rfl ?_
  refine aw_goto (i := 13) K (dOf ck_mJ7_fill_53178 rfl rfl).1 (t := 5) (aJ_of (by decide +kernel)) ?_
  refine aw_iload_n (i := 5) K (dOf ck_mJ7_fill_53178 rfl rfl) rfl ?_
  refine aw_iload_n (i := 6) K (dOf ck_mJ7_fill_53178 rfl rfl) rfl ?_
  refine aw_icmp_ge (i := 7) K (dOf ck_mJ7_fill_53178 rfl rfl) (t := 14) (aJ_of (by decide +kernel)) (fun z => absurd z (by decide)) (fun _ => ?_)
  refine aw_aload_n (i := 8) K (dOf ck_mJ7_fill_53178 rfl rfl) rfl ?_
  refine aw_iload_n (i := 9) K (dOf ck_mJ7_fill_53178 rfl rfl) rfl ?_
  refine aw_iload_n (i := 10) K (dOf ck_mJ7_fill_53178 rfl rfl) rfl ?_
  refine aw_iast (i := 11) K (dOf ck_mJ7_fill_53178 rfl rfl) rfl (by decide) ?_
  refine aw_iinc (i := 12) K (dOf ck_mJ7_fill_53178 rfl rfl) (Nat.le_of_ble_eq_true rfl) rfl ?_
  refine aw_lvn (lv' := [(2, .inl 2), (3, .inl 4), (0, .inr (.inr (.inl (some 147)))), (1, .inl 15)]) rfl ?_
  refine aw_goto (i := 13) K (dOf ck_mJ7_fill_53178 rfl rfl).1 (t := 5) (aJ_of (by decide +kernel)) ?_
  refine aw_iload_n (i := 5) K (dOf ck_mJ7_fill_53178 rfl rfl) rfl ?_
  refine aw_iload_n (i := 6) K (dOf ck_mJ7_fill_53178 rfl rfl) rfl ?_
  refine aw_icmp_ge (i := 7) K (dOf ck_mJ7_fill_53178 rfl rfl) (t := 14) (aJ_of (by decide +kernel)) (fun z => absurd z (by decide)) (fun _ => ?_)
  refine aw_aload_n (i := 8) K (dOf ck_mJ7_fill_53178 rfl rfl) rfl ?_
  refine aw_iload_n (i := 9) K (dOf ck_mJ7_fill_53178 rfl rfl) rfl ?_
  refine aw_iload_n (i := 10) K (dOf ck_mJ7_fill_53178 rfl rfl) rfl ?_
  refine aw_iast (i := 11) K (dOf ck_mJ7_fill_53178 rfl rfl) rfl (by decide) ?_
  refine aw_iinc (i := 12) K (dOf ck_mJ7_fill_53178 rfl rfl) (Nat.le_of_ble_eq_true rfl) rfl ?_
  refine aw_lvn (lv' := [(2, .inl 3), (3, .inl 4), (0, .inr (.inr (.inl (some 147)))), (1, .inl 15)]) rfl ?_
  refine aw_goto (i := 13) K (dOf ck_mJ7_fill_53178 rfl rfl).1 (t := 5) (aJ_of (by decide +kernel)) ?_
  refine aw_iload_n (i := 5) K (dOf ck_mJ7_fill_53178 rfl rfl) rfl ?_
  refine aw_iload_n (i := 6) K (dOf ck_mJ7_fill_53178 rfl rfl) rfl ?_
  refine aw_icmp_ge (i := 7) K (dOf ck_mJ7_fill_53178 rfl rfl) (t := 14) (aJ_of (by decide +kernel)) (fun z => absurd z (by decide)) (fun _ => ?_)
  refine aw_aload_n (i := 8) K (dOf ck_mJ7_fill_53178 rfl rfl) rfl ?_
  refine aw_iload_n (i := 9) K (dOf ck_mJ7_fill_53178 rfl rfl) rfl ?_
  refine aw_iload_n (i := 10) K (dOf ck_mJ7_fill_53178 rfl rfl) rfl ?_
  refine aw_iast (i := 11) K (dOf ck_mJ7_fill_53178 rfl rfl) rfl (by decide) ?_
  refine aw_iinc (i := 12) K (dOf ck_mJ7_fill_53178 rfl rfl) (Nat.le_of_ble_eq_true rfl) rfl ?_
  refine aw_lvn (lv' := [(2, .inl 4), (3, .inl 4), (0, .inr (.inr (.inl (some 147)))), (1, .inl 15)]) rfl ?_
  refine aw_goto (i := 13) K (dOf ck_mJ7_fill_53178 rfl rfl).1 (t := 5) (aJ_of (by decide +kernel)) ?_
  refine aw_iload_n (i := 5) K (dOf ck_mJ7_fill_53178 rfl rfl) rfl ?_
  refine aw_iload_n (i := 6) K (dOf ck_mJ7_fill_53178 rfl rfl) rfl ?_
  refine aw_icmp_ge (i := 7) K (dOf ck_mJ7_fill_53178 rfl rfl) (t := 14) (aJ_of (by decide +kernel)) (fun _ => ?_) (fun z => absurd (by decide) z)
  refine aw_nm (sh' := sg_42) (mm' := mg_51) rfl rfl ?_
  exact aw_vretA K (by decide +kernel) rfl (Nat.le_of_ble_eq_true rfl) (Nat.le_of_ble_eq_true rfl) ⟨[], (List.append_nil _).symm⟩
set_option maxHeartbeats 8000000 in
set_option maxRecDepth 20000 in
/-- Tongue.empty -/
theorem ct_30 {l : Launch} {D : va_G} {cA : FieldType → ClassId} {ad adV : Nat → Nat} {z0 : Nat} : aMet l D cA ad adV z0 mX8_empty 1 23 0 0 [.inr (.inr (.inl (some 128)))] sg_42 mg_48 none sg_42 mg_51 := by
  refine aMet_of (by decide +kernel) rfl (Nat.le_of_ble_eq_true rfl) (fun p e s m args below meth c al K => ?_)
  refine aw_aload_n (i := 0) K (dOf ck_mX8_empty rfl rfl) rfl ?_
  refine aw_iconst (i := 1) K (n := 0) (i32 _ rfl) (dOf ck_mX8_empty rfl rfl) ?_
  refine aw_putf (i := 2) (k := 0) K (dOf ck_mX8_empty rfl rfl) rfl rfl (Nat.le_of_ble_eq_true rfl) wd_188 rfl rfl (Or.inl rfl) ?_
  refine aw_aload_n (i := 3) K (dOf ck_mX8_empty rfl rfl) rfl ?_
  refine aw_iconst (i := 4) K (n := 0) (i32 _ rfl) (dOf ck_mX8_empty rfl rfl) ?_
  refine aw_putf (i := 5) (k := 1) K (dOf ck_mX8_empty rfl rfl) rfl rfl (Nat.le_of_ble_eq_true rfl) wd_191 rfl rfl (Or.inl rfl) ?_
  refine aw_aload_n (i := 6) K (dOf ck_mX8_empty rfl rfl) rfl ?_
  refine aw_iconst (i := 7) K (n := 0) (i32 _ rfl) (dOf ck_mX8_empty rfl rfl) ?_
  refine aw_putf (i := 8) (k := 2) K (dOf ck_mX8_empty rfl rfl) rfl rfl (Nat.le_of_ble_eq_true rfl) wd_198 rfl rfl (Or.inl rfl) ?_
  refine aw_aload_n (i := 9) K (dOf ck_mX8_empty rfl rfl) rfl ?_
  refine aw_iconst (i := 10) K (n := 0) (i32 _ rfl) (dOf ck_mX8_empty rfl rfl) ?_
  refine aw_putf (i := 11) (k := 3) K (dOf ck_mX8_empty rfl rfl) rfl rfl (Nat.le_of_ble_eq_true rfl) wd_203 rfl rfl (Or.inl rfl) ?_
  refine aw_aload_n (i := 12) K (dOf ck_mX8_empty rfl rfl) rfl ?_
  refine aw_iconst (i := 13) K (n := 0) (i32 _ rfl) (dOf ck_mX8_empty rfl rfl) ?_
  refine aw_putf (i := 14) (k := 4) K (dOf ck_mX8_empty rfl rfl) rfl rfl (Nat.le_of_ble_eq_true rfl) wd_207 rfl rfl (Or.inl rfl) ?_
  refine aw_aload_n (i := 15) K (dOf ck_mX8_empty rfl rfl) rfl ?_
  refine aw_bip (i := 16) K (dOf ck_mX8_empty rfl rfl) (v := 15) rfl ?_
  refine aw_putf (i := 17) (k := 5) K (dOf ck_mX8_empty rfl rfl) rfl rfl (Nat.le_of_ble_eq_true rfl) wd_213 rfl rfl (Or.inl rfl) ?_
  refine aw_aload_n (i := 18) K (dOf ck_mX8_empty rfl rfl) rfl ?_
  refine aw_getf (i := 19) (k := 7) K (dOf ck_mX8_empty rfl rfl) rfl rfl (Nat.le_of_ble_eq_true rfl) wd_219 rfl ?_
  refine aw_iconst (i := 20) K (n := 0) (i32 _ rfl) (dOf ck_mX8_empty rfl rfl) ?_
  refine aw_nm (sh' := sg_42) (mm' := mg_49) rfl rfl ?_
  refine aw_callS (i := 21) (as := [.inr (.inr (.inl (some 130))), .inl 0]) K (dOf ck_mX8_empty rfl rfl) al_OneBreath_Tongue_64 wd_186 rfl (Nat.le_of_ble_eq_true rfl) ⟨Nat.le_of_ble_eq_true rfl, Nat.le_of_ble_eq_true rfl⟩ ⟨Nat.le_of_ble_eq_true rfl, Nat.le_of_ble_eq_true rfl⟩ (Nat.le_of_ble_eq_true rfl) ct_28 (fun bl29 => ?_)
  refine aw_aload_n (i := 22) K (dOf ck_mX8_empty rfl rfl) rfl ?_
  refine aw_getf (i := 23) (k := 12) K (dOf ck_mX8_empty rfl rfl) rfl rfl (Nat.le_of_ble_eq_true rfl) wd_257 rfl ?_
  refine aw_bip (i := 24) K (dOf ck_mX8_empty rfl rfl) (v := 15) rfl ?_
  refine aw_nm (sh' := sg_42) (mm' := mg_50) rfl rfl ?_
  refine aw_callS (i := 25) (as := [.inr (.inr (.inl (some 147))), .inl 15]) K (dOf ck_mX8_empty rfl rfl) al_OneBreath_Tongue_64 wd_186 rfl (Nat.le_of_ble_eq_true rfl) ⟨Nat.le_of_ble_eq_true rfl, Nat.le_of_ble_eq_true rfl⟩ ⟨Nat.le_of_ble_eq_true rfl, Nat.le_of_ble_eq_true rfl⟩ (Nat.le_of_ble_eq_true rfl) ct_29 (fun bl30 => ?_)
  refine aw_nm (sh' := sg_42) (mm' := mg_51) rfl rfl ?_
  exact aw_vretA K (by decide +kernel) rfl (Nat.le_of_ble_eq_true rfl) (Nat.le_of_ble_eq_true rfl) (pre_app (pre_app ⟨[], (List.append_nil _).symm⟩))
set_option maxHeartbeats 8000000 in
set_option maxRecDepth 20000 in
/-- Tongue.<init> -/
theorem ct_31 {l : Launch} {D : va_G} {cA : FieldType → ClassId} {ad adV : Nat → Nat} {z0 : Nat} : aMet l D cA ad adV z0 mX8_init 2 43 21 152 [.inr (.inr (.inl (some 128)))] sg_41 mg_47 none sg_42 mg_51 := by
  refine aMet_of (by decide +kernel) rfl (Nat.le_of_ble_eq_true rfl) (fun p e s m args below meth c al K => ?_)
  refine aw_aload_n (i := 0) K (dOf ck_mX8_init rfl rfl) rfl ?_
  refine aw_objInit (i := 1) K (dOf ck_mX8_init rfl rfl) ⟨wd_179, wd_167, wd_168⟩ (Nat.le_of_ble_eq_true rfl) ⟨Nat.le_of_ble_eq_true rfl, Nat.le_of_ble_eq_true rfl⟩ ?_
  refine aw_aload_n (i := 2) K (dOf ck_mX8_init rfl rfl) rfl ?_
  refine aw_bip (i := 3) K (dOf ck_mX8_init rfl rfl) (v := 8) rfl ?_
  refine aw_newaN (i := 4) (n := 8) (ty := .byte) K (dOf ck_mX8_init rfl rfl) rfl (by decide) wd_272 (Nat.le_of_ble_eq_true rfl) (Nat.le_of_ble_eq_true rfl) (Nat.le_of_ble_eq_true rfl) 129 rfl (fun q129 => ?_)
  refine aw_putr (i := 5) (k := 6) K (dOf ck_mX8_init rfl rfl) rfl rfl (Nat.le_of_ble_eq_true rfl) wd_216 rfl rfl rfl rfl (fitR (by decide +kernel)) ?_
  refine aw_aload_n (i := 6) K (dOf ck_mX8_init rfl rfl) rfl ?_
  refine aw_bip (i := 7) K (dOf ck_mX8_init rfl rfl) (v := 8) rfl ?_
  refine aw_newaN (i := 8) (n := 8) (ty := .int) K (dOf ck_mX8_init rfl rfl) rfl (by decide) wd_273 (Nat.le_of_ble_eq_true rfl) (Nat.le_of_ble_eq_true rfl) (Nat.le_of_ble_eq_true rfl) 130 rfl (fun q130 => ?_)
  refine aw_putr (i := 9) (k := 7) K (dOf ck_mX8_init rfl rfl) rfl rfl (Nat.le_of_ble_eq_true rfl) wd_219 rfl rfl rfl rfl (fitR (by decide +kernel)) ?_
  refine aw_aload_n (i := 10) K (dOf ck_mX8_init rfl rfl) rfl ?_
  refine aw_bip (i := 11) K (dOf ck_mX8_init rfl rfl) (v := 12) rfl ?_
  refine aw_bip (i := 12) K (dOf ck_mX8_init rfl rfl) (v := 6) rfl ?_
  refine aw_mnaN (i := 13) (n := 12) (k := 6) (ty := .byte) K (dOf ck_mX8_init rfl rfl) wd_180 (Or.inl ⟨rfl, rfl⟩) wd_272 (Nat.le_of_ble_eq_true rfl) (Nat.le_of_ble_eq_true rfl) (Nat.le_of_ble_eq_true rfl) (Nat.le_of_ble_eq_true rfl) 131 rfl (fun bl131 => ?_)
  refine aw_putr (i := 14) (k := 8) K (dOf ck_mX8_init rfl rfl) rfl rfl (Nat.le_of_ble_eq_true rfl) wd_226 rfl rfl rfl rfl (fitR (by decide +kernel)) ?_
  refine aw_aload_n (i := 15) K (dOf ck_mX8_init rfl rfl) rfl ?_
  refine aw_bip (i := 16) K (dOf ck_mX8_init rfl rfl) (v := 12) rfl ?_
  refine aw_newaN (i := 17) (n := 12) (ty := .int) K (dOf ck_mX8_init rfl rfl) rfl (by decide) wd_273 (Nat.le_of_ble_eq_true rfl) (Nat.le_of_ble_eq_true rfl) (Nat.le_of_ble_eq_true rfl) 144 rfl (fun q144 => ?_)
  refine aw_putr (i := 18) (k := 9) K (dOf ck_mX8_init rfl rfl) rfl rfl (Nat.le_of_ble_eq_true rfl) wd_235 rfl rfl rfl rfl (fitR (by decide +kernel)) ?_
  refine aw_aload_n (i := 19) K (dOf ck_mX8_init rfl rfl) rfl ?_
  refine aw_bip (i := 20) K (dOf ck_mX8_init rfl rfl) (v := 12) rfl ?_
  refine aw_newaN (i := 21) (n := 12) (ty := .int) K (dOf ck_mX8_init rfl rfl) rfl (by decide) wd_273 (Nat.le_of_ble_eq_true rfl) (Nat.le_of_ble_eq_true rfl) (Nat.le_of_ble_eq_true rfl) 145 rfl (fun q145 => ?_)
  refine aw_putr (i := 22) (k := 10) K (dOf ck_mX8_init rfl rfl) rfl rfl (Nat.le_of_ble_eq_true rfl) wd_244 rfl rfl rfl rfl (fitR (by decide +kernel)) ?_
  refine aw_aload_n (i := 23) K (dOf ck_mX8_init rfl rfl) rfl ?_
  refine aw_bip (i := 24) K (dOf ck_mX8_init rfl rfl) (v := 12) rfl ?_
  refine aw_newaN (i := 25) (n := 12) (ty := .int) K (dOf ck_mX8_init rfl rfl) rfl (by decide) wd_273 (Nat.le_of_ble_eq_true rfl) (Nat.le_of_ble_eq_true rfl) (Nat.le_of_ble_eq_true rfl) 146 rfl (fun q146 => ?_)
  refine aw_putr (i := 26) (k := 11) K (dOf ck_mX8_init rfl rfl) rfl rfl (Nat.le_of_ble_eq_true rfl) wd_250 rfl rfl rfl rfl (fitR (by decide +kernel)) ?_
  refine aw_aload_n (i := 27) K (dOf ck_mX8_init rfl rfl) rfl ?_
  refine aw_iconst (i := 28) K (n := 4) (i32 _ rfl) (dOf ck_mX8_init rfl rfl) ?_
  refine aw_newaN (i := 29) (n := 4) (ty := .int) K (dOf ck_mX8_init rfl rfl) rfl (by decide) wd_273 (Nat.le_of_ble_eq_true rfl) (Nat.le_of_ble_eq_true rfl) (Nat.le_of_ble_eq_true rfl) 147 rfl (fun q147 => ?_)
  refine aw_putr (i := 30) (k := 12) K (dOf ck_mX8_init rfl rfl) rfl rfl (Nat.le_of_ble_eq_true rfl) wd_257 rfl rfl rfl rfl (fitR (by decide +kernel)) ?_
  refine aw_aload_n (i := 31) K (dOf ck_mX8_init rfl rfl) rfl ?_
  refine aw_bip (i := 32) K (dOf ck_mX8_init rfl rfl) (v := 6) rfl ?_
  refine aw_newaN (i := 33) (n := 6) (ty := .int) K (dOf ck_mX8_init rfl rfl) rfl (by decide) wd_273 (Nat.le_of_ble_eq_true rfl) (Nat.le_of_ble_eq_true rfl) (Nat.le_of_ble_eq_true rfl) 148 rfl (fun q148 => ?_)
  refine aw_putr (i := 34) (k := 13) K (dOf ck_mX8_init rfl rfl) rfl rfl (Nat.le_of_ble_eq_true rfl) wd_262 rfl rfl rfl rfl (fitR (by decide +kernel)) ?_
  refine aw_aload_n (i := 35) K (dOf ck_mX8_init rfl rfl) rfl ?_
  refine aw_bip (i := 36) K (dOf ck_mX8_init rfl rfl) (v := 6) rfl ?_
  refine aw_newaN (i := 37) (n := 6) (ty := .int) K (dOf ck_mX8_init rfl rfl) rfl (by decide) wd_273 (Nat.le_of_ble_eq_true rfl) (Nat.le_of_ble_eq_true rfl) (Nat.le_of_ble_eq_true rfl) 149 rfl (fun q149 => ?_)
  refine aw_putr (i := 38) (k := 14) K (dOf ck_mX8_init rfl rfl) rfl rfl (Nat.le_of_ble_eq_true rfl) wd_267 rfl rfl rfl rfl (fitR (by decide +kernel)) ?_
  refine aw_aload_n (i := 39) K (dOf ck_mX8_init rfl rfl) rfl ?_
  refine aw_nm (sh' := sg_42) (mm' := mg_48) rfl rfl ?_
  refine aw_callV (i := 40) (as := []) (q := 128) K (dOf ck_mX8_init rfl rfl) al_OneBreath_Tongue_42 rfl rfl ⟨wd_182, wd_183⟩ rfl (Nat.le_of_ble_eq_true rfl) ⟨Nat.le_of_ble_eq_true rfl, Nat.le_of_ble_eq_true rfl⟩ ⟨Nat.le_of_ble_eq_true rfl, Nat.le_of_ble_eq_true rfl⟩ (Nat.le_of_ble_eq_true rfl) ct_30 (fun bl31 => ?_)
  refine aw_nm (sh' := sg_42) (mm' := mg_51) rfl rfl ?_
  exact aw_vretA K (by decide +kernel) rfl (Nat.le_of_ble_eq_true rfl) (Nat.le_of_ble_eq_true rfl) (pre_app (pre_app (pre_app (pre_app (pre_app (pre_app (pre_app (pre_app (pre_app (pre_app ⟨[], (List.append_nil _).symm⟩))))))))))
def sg_43 : List aE := [.inr (.inr (.inr (11, [some (some 1), some (some 25), some (some 47), some (some 49), some (some 51), some (some 59), some (some 61), some (some 67), some (some 73), some (some 76), some (some 79), some (some 120), some (some 125), some (some 126), some (some 127)]))), .inr (.inr (.inr (7, [some (some 2), none, none, some (some 3), none, none, none, none, none]))), .inl (.byte, 500), .inr (.inr (.inr (8, [none, none, none, none, none, none, some (some 4), some (some 5), some (some 6), some (some 19), some (some 20), some (some 21), some (some 22), some (some 23), some (some 24)]))), .inl (.byte, 8), .inl (.int, 8), .inr (.inr (.inl (.array .byte, [some 7, some 8, some 9, some 10, some 11, some 12, some 13, some 14, some 15, some 16, some 17, some 18]))), .inl (.byte, 6), .inl (.byte, 6), .inl (.byte, 6), .inl (.byte, 6), .inl (.byte, 6), .inl (.byte, 6), .inl (.byte, 6), .inl (.byte, 6), .inl (.byte, 6), .inl (.byte, 6), .inl (.byte, 6), .inl (.byte, 6), .inl (.int, 12), .inl (.int, 12), .inl (.int, 12), .inl (.int, 4), .inl (.int, 6), .inl (.int, 6), .inr (.inr (.inr (8, [none, none, none, none, none, none, some (some 26), some (some 27), some (some 28), some (some 41), some (some 42), some (some 43), some (some 44), some (some 45), some (some 46)]))), .inl (.byte, 8), .inl (.int, 8), .inr (.inr (.inl (.array .byte, [some 29, some 30, some 31, some 32, some 33, some 34, some 35, some 36, some 37, some 38, some 39, some 40]))), .inl (.byte, 6), .inl (.byte, 6), .inl (.byte, 6), .inl (.byte, 6), .inl (.byte, 6), .inl (.byte, 6), .inl (.byte, 6), .inl (.byte, 6), .inl (.byte, 6), .inl (.byte, 6), .inl (.byte, 6), .inl (.byte, 6), .inl (.int, 12), .inl (.int, 12), .inl (.int, 12), .inl (.int, 4), .inl (.int, 6), .inl (.int, 6), .inr (.inr (.inr (6, [some (some 48), none]))), .inl (.byte, 40), .inr (.inr (.inr (6, [some (some 50), none]))), .inl (.byte, 40), .inr (.inr (.inr (5, [some (some 52), some (some 57), some (some 58)]))), .inr (.inr (.inl (.array .long, [some 53, some 54, some 55, some 56]))), .inr (.inl 40), .inr (.inl 40), .inr (.inl 40), .inr (.inl 40), .inl (.int, 4), .inl (.int, 4), .inr (.inr (.inr (10, [some (some 60), none, none, none, none, none]))), .inl (.int, 40), .inr (.inr (.inr (1, [some (some 25), none, some (some 62), some (some 63), some (some 64), none, some (some 65), some (some 66), none, none]))), .inl (.byte, 720), .inl (.int, 305), .inr (.inl 915), .inl (.int, 60), .inl (.int, 60), .inr (.inr (.inr (1, [some (some 25), none, some (some 68), some (some 69), some (some 70), none, some (some 71), some (some 72), none, none]))), .inl (.byte, 720), .inl (.int, 305), .inr (.inl 915), .inl (.int, 60), .inl (.int, 60), .inr (.inr (.inr (4, [some (some 25), some (some 67), some (some 74), none, none]))), .inr (.inr (.inr (6, [some (some 75), none]))), .inl (.byte, 40), .inr (.inr (.inr (2, [some (some 77), some (some 78)]))), .inl (.int, 6), .inl (.int, 7), .inr (.inr (.inr (3, [some (some 25), some (some 76), some (some 80), some (some 105), some (some 107), some (some 108), none, some (some 109), some (some 110), some (some 111), none, none, none, none, none, none]))), .inr (.inr (.inr (9, [none, none, none, some (some 81), some (some 95), some (some 96), some (some 97), some (some 98), some (some 99), none, none, none, none, none, some (some 100), some (some 101), none, some (some 102), some (some 103), some (some 104)]))), .inr (.inr (.inl (.array .byte, [some 82, some 83, some 84, some 85, some 86, some 87, some 88, some 89, some 90, some 91, some 92, some 93, some 94]))), .inl (.byte, 7), .inl (.byte, 7), .inl (.byte, 7), .inl (.byte, 7), .inl (.byte, 7), .inl (.byte, 7), .inl (.byte, 7), .inl (.byte, 7), .inl (.byte, 7), .inl (.byte, 7), .inl (.byte, 7), .inl (.byte, 7), .inl (.byte, 7), .inl (.int, 13), .inl (.int, 13), .inl (.int, 4), .inl (.int, 9), .inl (.int, 4), .inr (.inl 536), .inr (.inl 67), .inl (.short, 471), .inl (.short, 471), .inl (.byte, 471), .inr (.inr (.inr (6, [some (some 106), none]))), .inl (.byte, 40), .inl (.int, 3), .inl (.byte, 2826), .inl (.boolean, 4), .inr (.inr (.inl (.object "OneBreath$Sounds", [some 112, some 114, some 116, some 118]))), .inl (.int, 4), .inr (.inr (.inr (6, [some (some 113), none]))), .inl (.byte, 40), .inr (.inr (.inr (6, [some (some 115), none]))), .inl (.byte, 40), .inr (.inr (.inr (6, [some (some 117), none]))), .inl (.byte, 40), .inr (.inr (.inr (6, [some (some 119), none]))), .inl (.byte, 40), .inr (.inr (.inr (0, [some (some 25), some (some 121), none, some (some 122), some (some 123), some (some 124), none, none, none, none]))), .inl (.int, 20), .inl (.int, 4), .inl (.int, 4), .inl (.int, 4), .inr (.inr (.inl (.object "OneBreath$Tongue", [some 128, none]))), .inr (.inr (.inl (.object "OneBreath$Sounds", [none, none]))), .inl (.boolean, 2), .inr (.inr (.inr (8, [none, none, none, none, none, none, some (some 129), some (some 130), some (some 131), some (some 144), some (some 145), some (some 146), some (some 147), some (some 148), some (some 149)]))), .inl (.byte, 8), .inl (.int, 8), .inr (.inr (.inl (.array .byte, [some 132, some 133, some 134, some 135, some 136, some 137, some 138, some 139, some 140, some 141, some 142, some 143]))), .inl (.byte, 6), .inl (.byte, 6), .inl (.byte, 6), .inl (.byte, 6), .inl (.byte, 6), .inl (.byte, 6), .inl (.byte, 6), .inl (.byte, 6), .inl (.byte, 6), .inl (.byte, 6), .inl (.byte, 6), .inl (.byte, 6), .inl (.int, 12), .inl (.int, 12), .inl (.int, 12), .inl (.int, 4), .inl (.int, 6), .inl (.int, 6), .inr (.inr (.inr (6, [some none, none])))]
def mg_52 : aM := (aNew mg_51 150)
def sg_44 : List aE := [.inr (.inr (.inr (11, [some (some 1), some (some 25), some (some 47), some (some 49), some (some 51), some (some 59), some (some 61), some (some 67), some (some 73), some (some 76), some (some 79), some (some 120), some (some 125), some (some 126), some (some 127)]))), .inr (.inr (.inr (7, [some (some 2), none, none, some (some 3), none, none, none, none, none]))), .inl (.byte, 500), .inr (.inr (.inr (8, [none, none, none, none, none, none, some (some 4), some (some 5), some (some 6), some (some 19), some (some 20), some (some 21), some (some 22), some (some 23), some (some 24)]))), .inl (.byte, 8), .inl (.int, 8), .inr (.inr (.inl (.array .byte, [some 7, some 8, some 9, some 10, some 11, some 12, some 13, some 14, some 15, some 16, some 17, some 18]))), .inl (.byte, 6), .inl (.byte, 6), .inl (.byte, 6), .inl (.byte, 6), .inl (.byte, 6), .inl (.byte, 6), .inl (.byte, 6), .inl (.byte, 6), .inl (.byte, 6), .inl (.byte, 6), .inl (.byte, 6), .inl (.byte, 6), .inl (.int, 12), .inl (.int, 12), .inl (.int, 12), .inl (.int, 4), .inl (.int, 6), .inl (.int, 6), .inr (.inr (.inr (8, [none, none, none, none, none, none, some (some 26), some (some 27), some (some 28), some (some 41), some (some 42), some (some 43), some (some 44), some (some 45), some (some 46)]))), .inl (.byte, 8), .inl (.int, 8), .inr (.inr (.inl (.array .byte, [some 29, some 30, some 31, some 32, some 33, some 34, some 35, some 36, some 37, some 38, some 39, some 40]))), .inl (.byte, 6), .inl (.byte, 6), .inl (.byte, 6), .inl (.byte, 6), .inl (.byte, 6), .inl (.byte, 6), .inl (.byte, 6), .inl (.byte, 6), .inl (.byte, 6), .inl (.byte, 6), .inl (.byte, 6), .inl (.byte, 6), .inl (.int, 12), .inl (.int, 12), .inl (.int, 12), .inl (.int, 4), .inl (.int, 6), .inl (.int, 6), .inr (.inr (.inr (6, [some (some 48), none]))), .inl (.byte, 40), .inr (.inr (.inr (6, [some (some 50), none]))), .inl (.byte, 40), .inr (.inr (.inr (5, [some (some 52), some (some 57), some (some 58)]))), .inr (.inr (.inl (.array .long, [some 53, some 54, some 55, some 56]))), .inr (.inl 40), .inr (.inl 40), .inr (.inl 40), .inr (.inl 40), .inl (.int, 4), .inl (.int, 4), .inr (.inr (.inr (10, [some (some 60), none, none, none, none, none]))), .inl (.int, 40), .inr (.inr (.inr (1, [some (some 25), none, some (some 62), some (some 63), some (some 64), none, some (some 65), some (some 66), none, none]))), .inl (.byte, 720), .inl (.int, 305), .inr (.inl 915), .inl (.int, 60), .inl (.int, 60), .inr (.inr (.inr (1, [some (some 25), none, some (some 68), some (some 69), some (some 70), none, some (some 71), some (some 72), none, none]))), .inl (.byte, 720), .inl (.int, 305), .inr (.inl 915), .inl (.int, 60), .inl (.int, 60), .inr (.inr (.inr (4, [some (some 25), some (some 67), some (some 74), none, none]))), .inr (.inr (.inr (6, [some (some 75), none]))), .inl (.byte, 40), .inr (.inr (.inr (2, [some (some 77), some (some 78)]))), .inl (.int, 6), .inl (.int, 7), .inr (.inr (.inr (3, [some (some 25), some (some 76), some (some 80), some (some 105), some (some 107), some (some 108), none, some (some 109), some (some 110), some (some 111), none, none, none, none, none, none]))), .inr (.inr (.inr (9, [none, none, none, some (some 81), some (some 95), some (some 96), some (some 97), some (some 98), some (some 99), none, none, none, none, none, some (some 100), some (some 101), none, some (some 102), some (some 103), some (some 104)]))), .inr (.inr (.inl (.array .byte, [some 82, some 83, some 84, some 85, some 86, some 87, some 88, some 89, some 90, some 91, some 92, some 93, some 94]))), .inl (.byte, 7), .inl (.byte, 7), .inl (.byte, 7), .inl (.byte, 7), .inl (.byte, 7), .inl (.byte, 7), .inl (.byte, 7), .inl (.byte, 7), .inl (.byte, 7), .inl (.byte, 7), .inl (.byte, 7), .inl (.byte, 7), .inl (.byte, 7), .inl (.int, 13), .inl (.int, 13), .inl (.int, 4), .inl (.int, 9), .inl (.int, 4), .inr (.inl 536), .inr (.inl 67), .inl (.short, 471), .inl (.short, 471), .inl (.byte, 471), .inr (.inr (.inr (6, [some (some 106), none]))), .inl (.byte, 40), .inl (.int, 3), .inl (.byte, 2826), .inl (.boolean, 4), .inr (.inr (.inl (.object "OneBreath$Sounds", [some 112, some 114, some 116, some 118]))), .inl (.int, 4), .inr (.inr (.inr (6, [some (some 113), none]))), .inl (.byte, 40), .inr (.inr (.inr (6, [some (some 115), none]))), .inl (.byte, 40), .inr (.inr (.inr (6, [some (some 117), none]))), .inl (.byte, 40), .inr (.inr (.inr (6, [some (some 119), none]))), .inl (.byte, 40), .inr (.inr (.inr (0, [some (some 25), some (some 121), none, some (some 122), some (some 123), some (some 124), none, none, none, none]))), .inl (.int, 20), .inl (.int, 4), .inl (.int, 4), .inl (.int, 4), .inr (.inr (.inl (.object "OneBreath$Tongue", [some 128, none]))), .inr (.inr (.inl (.object "OneBreath$Sounds", [none, none]))), .inl (.boolean, 2), .inr (.inr (.inr (8, [none, none, none, none, none, none, some (some 129), some (some 130), some (some 131), some (some 144), some (some 145), some (some 146), some (some 147), some (some 148), some (some 149)]))), .inl (.byte, 8), .inl (.int, 8), .inr (.inr (.inl (.array .byte, [some 132, some 133, some 134, some 135, some 136, some 137, some 138, some 139, some 140, some 141, some 142, some 143]))), .inl (.byte, 6), .inl (.byte, 6), .inl (.byte, 6), .inl (.byte, 6), .inl (.byte, 6), .inl (.byte, 6), .inl (.byte, 6), .inl (.byte, 6), .inl (.byte, 6), .inl (.byte, 6), .inl (.byte, 6), .inl (.byte, 6), .inl (.int, 12), .inl (.int, 12), .inl (.int, 12), .inl (.int, 4), .inl (.int, 6), .inl (.int, 6), .inr (.inr (.inr (6, [some (some 151), none]))), .inl (.byte, 40)]
def mg_53 : aM := (aNew mg_52 151)
set_option maxHeartbeats 8000000 in
set_option maxRecDepth 20000 in
/-- Sounds.<init> -/
theorem ct_32 {l : Launch} {D : va_G} {cA : FieldType → ClassId} {ad adV : Nat → Nat} {z0 : Nat} : aMet l D cA ad adV z0 mX6_init 1 20 1 40 [.inr (.inr (.inl (some 150)))] sg_43 mg_52 none sg_44 mg_53 := by
  refine aMet_of (by decide +kernel) rfl (Nat.le_of_ble_eq_true rfl) (fun p e s m args below meth c al K => ?_)
  refine aw_aload_n (i := 0) K (dOf ck_mX6_init rfl rfl) rfl ?_
  refine aw_objInit (i := 1) K (dOf ck_mX6_init rfl rfl) ⟨wd_293, wd_167, wd_168⟩ (Nat.le_of_ble_eq_true rfl) ⟨Nat.le_of_ble_eq_true rfl, Nat.le_of_ble_eq_true rfl⟩ ?_
  refine aw_aload_n (i := 2) K (dOf ck_mX6_init rfl rfl) rfl ?_
  refine aw_bip (i := 3) K (dOf ck_mX6_init rfl rfl) (v := 40) rfl ?_
  refine aw_newaN (i := 4) (n := 40) (ty := .byte) K (dOf ck_mX6_init rfl rfl) rfl (by decide) wd_272 (Nat.le_of_ble_eq_true rfl) (Nat.le_of_ble_eq_true rfl) (Nat.le_of_ble_eq_true rfl) 151 rfl (fun q151 => ?_)
  refine aw_putr (i := 5) (k := 0) K (dOf ck_mX6_init rfl rfl) rfl rfl (Nat.le_of_ble_eq_true rfl) wd_294 rfl rfl rfl rfl (fitR (by decide +kernel)) ?_
  refine aw_nm (sh' := sg_44) (mm' := mg_53) rfl rfl ?_
  exact aw_vretA K (by decide +kernel) rfl (Nat.le_of_ble_eq_true rfl) (Nat.le_of_ble_eq_true rfl) (pre_app ⟨[], (List.append_nil _).symm⟩)
def sg_45 : List aE := [.inr (.inr (.inr (11, [some (some 1), some (some 25), some (some 47), some (some 49), some (some 51), some (some 59), some (some 61), some (some 67), some (some 73), some (some 76), some (some 79), some (some 120), some (some 125), some (some 126), some (some 127)]))), .inr (.inr (.inr (7, [some (some 2), none, none, some (some 3), none, none, none, none, none]))), .inl (.byte, 500), .inr (.inr (.inr (8, [none, none, none, none, none, none, some (some 4), some (some 5), some (some 6), some (some 19), some (some 20), some (some 21), some (some 22), some (some 23), some (some 24)]))), .inl (.byte, 8), .inl (.int, 8), .inr (.inr (.inl (.array .byte, [some 7, some 8, some 9, some 10, some 11, some 12, some 13, some 14, some 15, some 16, some 17, some 18]))), .inl (.byte, 6), .inl (.byte, 6), .inl (.byte, 6), .inl (.byte, 6), .inl (.byte, 6), .inl (.byte, 6), .inl (.byte, 6), .inl (.byte, 6), .inl (.byte, 6), .inl (.byte, 6), .inl (.byte, 6), .inl (.byte, 6), .inl (.int, 12), .inl (.int, 12), .inl (.int, 12), .inl (.int, 4), .inl (.int, 6), .inl (.int, 6), .inr (.inr (.inr (8, [none, none, none, none, none, none, some (some 26), some (some 27), some (some 28), some (some 41), some (some 42), some (some 43), some (some 44), some (some 45), some (some 46)]))), .inl (.byte, 8), .inl (.int, 8), .inr (.inr (.inl (.array .byte, [some 29, some 30, some 31, some 32, some 33, some 34, some 35, some 36, some 37, some 38, some 39, some 40]))), .inl (.byte, 6), .inl (.byte, 6), .inl (.byte, 6), .inl (.byte, 6), .inl (.byte, 6), .inl (.byte, 6), .inl (.byte, 6), .inl (.byte, 6), .inl (.byte, 6), .inl (.byte, 6), .inl (.byte, 6), .inl (.byte, 6), .inl (.int, 12), .inl (.int, 12), .inl (.int, 12), .inl (.int, 4), .inl (.int, 6), .inl (.int, 6), .inr (.inr (.inr (6, [some (some 48), none]))), .inl (.byte, 40), .inr (.inr (.inr (6, [some (some 50), none]))), .inl (.byte, 40), .inr (.inr (.inr (5, [some (some 52), some (some 57), some (some 58)]))), .inr (.inr (.inl (.array .long, [some 53, some 54, some 55, some 56]))), .inr (.inl 40), .inr (.inl 40), .inr (.inl 40), .inr (.inl 40), .inl (.int, 4), .inl (.int, 4), .inr (.inr (.inr (10, [some (some 60), none, none, none, none, none]))), .inl (.int, 40), .inr (.inr (.inr (1, [some (some 25), none, some (some 62), some (some 63), some (some 64), none, some (some 65), some (some 66), none, none]))), .inl (.byte, 720), .inl (.int, 305), .inr (.inl 915), .inl (.int, 60), .inl (.int, 60), .inr (.inr (.inr (1, [some (some 25), none, some (some 68), some (some 69), some (some 70), none, some (some 71), some (some 72), none, none]))), .inl (.byte, 720), .inl (.int, 305), .inr (.inl 915), .inl (.int, 60), .inl (.int, 60), .inr (.inr (.inr (4, [some (some 25), some (some 67), some (some 74), none, none]))), .inr (.inr (.inr (6, [some (some 75), none]))), .inl (.byte, 40), .inr (.inr (.inr (2, [some (some 77), some (some 78)]))), .inl (.int, 6), .inl (.int, 7), .inr (.inr (.inr (3, [some (some 25), some (some 76), some (some 80), some (some 105), some (some 107), some (some 108), none, some (some 109), some (some 110), some (some 111), none, none, none, none, none, none]))), .inr (.inr (.inr (9, [none, none, none, some (some 81), some (some 95), some (some 96), some (some 97), some (some 98), some (some 99), none, none, none, none, none, some (some 100), some (some 101), none, some (some 102), some (some 103), some (some 104)]))), .inr (.inr (.inl (.array .byte, [some 82, some 83, some 84, some 85, some 86, some 87, some 88, some 89, some 90, some 91, some 92, some 93, some 94]))), .inl (.byte, 7), .inl (.byte, 7), .inl (.byte, 7), .inl (.byte, 7), .inl (.byte, 7), .inl (.byte, 7), .inl (.byte, 7), .inl (.byte, 7), .inl (.byte, 7), .inl (.byte, 7), .inl (.byte, 7), .inl (.byte, 7), .inl (.byte, 7), .inl (.int, 13), .inl (.int, 13), .inl (.int, 4), .inl (.int, 9), .inl (.int, 4), .inr (.inl 536), .inr (.inl 67), .inl (.short, 471), .inl (.short, 471), .inl (.byte, 471), .inr (.inr (.inr (6, [some (some 106), none]))), .inl (.byte, 40), .inl (.int, 3), .inl (.byte, 2826), .inl (.boolean, 4), .inr (.inr (.inl (.object "OneBreath$Sounds", [some 112, some 114, some 116, some 118]))), .inl (.int, 4), .inr (.inr (.inr (6, [some (some 113), none]))), .inl (.byte, 40), .inr (.inr (.inr (6, [some (some 115), none]))), .inl (.byte, 40), .inr (.inr (.inr (6, [some (some 117), none]))), .inl (.byte, 40), .inr (.inr (.inr (6, [some (some 119), none]))), .inl (.byte, 40), .inr (.inr (.inr (0, [some (some 25), some (some 121), none, some (some 122), some (some 123), some (some 124), none, none, none, none]))), .inl (.int, 20), .inl (.int, 4), .inl (.int, 4), .inl (.int, 4), .inr (.inr (.inl (.object "OneBreath$Tongue", [some 128, none]))), .inr (.inr (.inl (.object "OneBreath$Sounds", [some 150, none]))), .inl (.boolean, 2), .inr (.inr (.inr (8, [none, none, none, none, none, none, some (some 129), some (some 130), some (some 131), some (some 144), some (some 145), some (some 146), some (some 147), some (some 148), some (some 149)]))), .inl (.byte, 8), .inl (.int, 8), .inr (.inr (.inl (.array .byte, [some 132, some 133, some 134, some 135, some 136, some 137, some 138, some 139, some 140, some 141, some 142, some 143]))), .inl (.byte, 6), .inl (.byte, 6), .inl (.byte, 6), .inl (.byte, 6), .inl (.byte, 6), .inl (.byte, 6), .inl (.byte, 6), .inl (.byte, 6), .inl (.byte, 6), .inl (.byte, 6), .inl (.byte, 6), .inl (.byte, 6), .inl (.int, 12), .inl (.int, 12), .inl (.int, 12), .inl (.int, 4), .inl (.int, 6), .inl (.int, 6), .inr (.inr (.inr (6, [some (some 151), none]))), .inl (.byte, 40), .inr (.inr (.inr (8, [none, none, none, none, none, none, some none, some none, some none, some none, some none, some none, some none, some none, some none])))]
def mg_54 : aM := (aNew mg_53 152)
def sg_46 : List aE := [.inr (.inr (.inr (11, [some (some 1), some (some 25), some (some 47), some (some 49), some (some 51), some (some 59), some (some 61), some (some 67), some (some 73), some (some 76), some (some 79), some (some 120), some (some 125), some (some 126), some (some 127)]))), .inr (.inr (.inr (7, [some (some 2), none, none, some (some 3), none, none, none, none, none]))), .inl (.byte, 500), .inr (.inr (.inr (8, [none, none, none, none, none, none, some (some 4), some (some 5), some (some 6), some (some 19), some (some 20), some (some 21), some (some 22), some (some 23), some (some 24)]))), .inl (.byte, 8), .inl (.int, 8), .inr (.inr (.inl (.array .byte, [some 7, some 8, some 9, some 10, some 11, some 12, some 13, some 14, some 15, some 16, some 17, some 18]))), .inl (.byte, 6), .inl (.byte, 6), .inl (.byte, 6), .inl (.byte, 6), .inl (.byte, 6), .inl (.byte, 6), .inl (.byte, 6), .inl (.byte, 6), .inl (.byte, 6), .inl (.byte, 6), .inl (.byte, 6), .inl (.byte, 6), .inl (.int, 12), .inl (.int, 12), .inl (.int, 12), .inl (.int, 4), .inl (.int, 6), .inl (.int, 6), .inr (.inr (.inr (8, [none, none, none, none, none, none, some (some 26), some (some 27), some (some 28), some (some 41), some (some 42), some (some 43), some (some 44), some (some 45), some (some 46)]))), .inl (.byte, 8), .inl (.int, 8), .inr (.inr (.inl (.array .byte, [some 29, some 30, some 31, some 32, some 33, some 34, some 35, some 36, some 37, some 38, some 39, some 40]))), .inl (.byte, 6), .inl (.byte, 6), .inl (.byte, 6), .inl (.byte, 6), .inl (.byte, 6), .inl (.byte, 6), .inl (.byte, 6), .inl (.byte, 6), .inl (.byte, 6), .inl (.byte, 6), .inl (.byte, 6), .inl (.byte, 6), .inl (.int, 12), .inl (.int, 12), .inl (.int, 12), .inl (.int, 4), .inl (.int, 6), .inl (.int, 6), .inr (.inr (.inr (6, [some (some 48), none]))), .inl (.byte, 40), .inr (.inr (.inr (6, [some (some 50), none]))), .inl (.byte, 40), .inr (.inr (.inr (5, [some (some 52), some (some 57), some (some 58)]))), .inr (.inr (.inl (.array .long, [some 53, some 54, some 55, some 56]))), .inr (.inl 40), .inr (.inl 40), .inr (.inl 40), .inr (.inl 40), .inl (.int, 4), .inl (.int, 4), .inr (.inr (.inr (10, [some (some 60), none, none, none, none, none]))), .inl (.int, 40), .inr (.inr (.inr (1, [some (some 25), none, some (some 62), some (some 63), some (some 64), none, some (some 65), some (some 66), none, none]))), .inl (.byte, 720), .inl (.int, 305), .inr (.inl 915), .inl (.int, 60), .inl (.int, 60), .inr (.inr (.inr (1, [some (some 25), none, some (some 68), some (some 69), some (some 70), none, some (some 71), some (some 72), none, none]))), .inl (.byte, 720), .inl (.int, 305), .inr (.inl 915), .inl (.int, 60), .inl (.int, 60), .inr (.inr (.inr (4, [some (some 25), some (some 67), some (some 74), none, none]))), .inr (.inr (.inr (6, [some (some 75), none]))), .inl (.byte, 40), .inr (.inr (.inr (2, [some (some 77), some (some 78)]))), .inl (.int, 6), .inl (.int, 7), .inr (.inr (.inr (3, [some (some 25), some (some 76), some (some 80), some (some 105), some (some 107), some (some 108), none, some (some 109), some (some 110), some (some 111), none, none, none, none, none, none]))), .inr (.inr (.inr (9, [none, none, none, some (some 81), some (some 95), some (some 96), some (some 97), some (some 98), some (some 99), none, none, none, none, none, some (some 100), some (some 101), none, some (some 102), some (some 103), some (some 104)]))), .inr (.inr (.inl (.array .byte, [some 82, some 83, some 84, some 85, some 86, some 87, some 88, some 89, some 90, some 91, some 92, some 93, some 94]))), .inl (.byte, 7), .inl (.byte, 7), .inl (.byte, 7), .inl (.byte, 7), .inl (.byte, 7), .inl (.byte, 7), .inl (.byte, 7), .inl (.byte, 7), .inl (.byte, 7), .inl (.byte, 7), .inl (.byte, 7), .inl (.byte, 7), .inl (.byte, 7), .inl (.int, 13), .inl (.int, 13), .inl (.int, 4), .inl (.int, 9), .inl (.int, 4), .inr (.inl 536), .inr (.inl 67), .inl (.short, 471), .inl (.short, 471), .inl (.byte, 471), .inr (.inr (.inr (6, [some (some 106), none]))), .inl (.byte, 40), .inl (.int, 3), .inl (.byte, 2826), .inl (.boolean, 4), .inr (.inr (.inl (.object "OneBreath$Sounds", [some 112, some 114, some 116, some 118]))), .inl (.int, 4), .inr (.inr (.inr (6, [some (some 113), none]))), .inl (.byte, 40), .inr (.inr (.inr (6, [some (some 115), none]))), .inl (.byte, 40), .inr (.inr (.inr (6, [some (some 117), none]))), .inl (.byte, 40), .inr (.inr (.inr (6, [some (some 119), none]))), .inl (.byte, 40), .inr (.inr (.inr (0, [some (some 25), some (some 121), none, some (some 122), some (some 123), some (some 124), none, none, none, none]))), .inl (.int, 20), .inl (.int, 4), .inl (.int, 4), .inl (.int, 4), .inr (.inr (.inl (.object "OneBreath$Tongue", [some 128, none]))), .inr (.inr (.inl (.object "OneBreath$Sounds", [some 150, none]))), .inl (.boolean, 2), .inr (.inr (.inr (8, [none, none, none, none, none, none, some (some 129), some (some 130), some (some 131), some (some 144), some (some 145), some (some 146), some (some 147), some (some 148), some (some 149)]))), .inl (.byte, 8), .inl (.int, 8), .inr (.inr (.inl (.array .byte, [some 132, some 133, some 134, some 135, some 136, some 137, some 138, some 139, some 140, some 141, some 142, some 143]))), .inl (.byte, 6), .inl (.byte, 6), .inl (.byte, 6), .inl (.byte, 6), .inl (.byte, 6), .inl (.byte, 6), .inl (.byte, 6), .inl (.byte, 6), .inl (.byte, 6), .inl (.byte, 6), .inl (.byte, 6), .inl (.byte, 6), .inl (.int, 12), .inl (.int, 12), .inl (.int, 12), .inl (.int, 4), .inl (.int, 6), .inl (.int, 6), .inr (.inr (.inr (6, [some (some 151), none]))), .inl (.byte, 40), .inr (.inr (.inr (8, [none, none, none, none, none, none, some (some 153), some (some 154), some (some 155), some (some 168), some (some 169), some (some 170), some (some 171), some (some 172), some (some 173)]))), .inl (.byte, 8), .inl (.int, 8), .inr (.inr (.inl (.array .byte, [some 156, some 157, some 158, some 159, some 160, some 161, some 162, some 163, some 164, some 165, some 166, some 167]))), .inl (.byte, 6), .inl (.byte, 6), .inl (.byte, 6), .inl (.byte, 6), .inl (.byte, 6), .inl (.byte, 6), .inl (.byte, 6), .inl (.byte, 6), .inl (.byte, 6), .inl (.byte, 6), .inl (.byte, 6), .inl (.byte, 6), .inl (.int, 12), .inl (.int, 12), .inl (.int, 12), .inl (.int, 4), .inl (.int, 6), .inl (.int, 6)]
def mg_55 : aM := (aNew (aNew (aNew (aNew (aNew (aNew (aNewR (aNew (aNew mg_54 153) 154) 155 13) 168) 169) 170) 171) 172) 173)
def mg_56 : aM := (aup (aup (aup (aup (aup (aup mg_55 152 0 0) 152 1 0) 152 2 0) 152 3 0) 152 4 0) 152 5 15)
def mg_57 : aM := (aup (aup (aup (aup (aup (aup (aup (aup mg_56 154 0 0) 154 1 0) 154 2 0) 154 3 0) 154 4 0) 154 5 0) 154 6 0) 154 7 0)
set_option maxHeartbeats 8000000 in
set_option maxRecDepth 20000 in
/-- java/util/Arrays.fill -/
theorem ct_33 {l : Launch} {D : va_G} {cA : FieldType → ClassId} {ad adV : Nat → Nat} {z0 : Nat} : aMet l D cA ad adV z0 mJ7_fill_53178 0 0 0 0 [.inr (.inr (.inl (some 154))), .inl 0] sg_46 mg_56 none sg_46 mg_57 := by
  refine aMet_of (by decide +kernel) rfl (Nat.le_of_ble_eq_true rfl) (fun p e s m args below meth c al K => ?_)
  refine aw_iconst (i := 0) K (n := 0) (i32 _ rfl) (dOf ck_mJ7_fill_53178 rfl rfl) ?_
  refine aw_istore_n (i := 1) K (dOf ck_mJ7_fill_53178 rfl rfl) (Nat.le_of_ble_eq_true rfl) ?_
  refine aw_lvn (lv' := [(2, .inl 0), (0, .inr (.inr (.inl (some 154)))), (1, .inl 0)]) rfl ?_
  refine aw_aload_n (i := 2) K (dOf ck_mJ7_fill_53178 rfl rfl) rfl ?_
  refine aw_alen (i := 3) (n := 8) K (dOf ck_mJ7_fill_53178 rfl rfl) rfl rfl (by decide) ?_
  refine aw_istore_n (i := 4) K (dOf ck_mJ7_fill_53178 rfl rfl) (Nat.le_of_ble_eq_true rfl) ?_
  refine aw_lvn (lv' := [(3, .inl 8), (2, .inl 0), (0, .inr (.inr (.inl (some 154)))), (1, .inl 0)]) rfl ?_
  refine aw_iload_n (i := 5) K (dOf ck_mJ7_fill_53178 rfl rfl) rfl ?_
  refine aw_iload_n (i := 6) K (dOf ck_mJ7_fill_53178 rfl rfl) rfl ?_
  refine aw_icmp_ge (i := 7) K (dOf ck_mJ7_fill_53178 rfl rfl) (t := 14) (aJ_of (by decide +kernel)) (fun z => absurd z (by decide)) (fun _ => ?_)
  refine aw_aload_n (i := 8) K (dOf ck_mJ7_fill_53178 rfl rfl) rfl ?_
  refine aw_iload_n (i := 9) K (dOf ck_mJ7_fill_53178 rfl rfl) rfl ?_
  refine aw_iload_n (i := 10) K (dOf ck_mJ7_fill_53178 rfl rfl) rfl ?_
  refine aw_iast (i := 11) K (dOf ck_mJ7_fill_53178 rfl rfl) rfl (by decide) ?_
  refine aw_iinc (i := 12) K (dOf ck_mJ7_fill_53178 rfl rfl) (Nat.le_of_ble_eq_true rfl) rfl ?_
  refine aw_lvn (lv' := [(2, .inl 1), (3, .inl 8), (0, .inr (.inr (.inl (some 154)))), (1, .inl 0)]) rfl ?_
  refine aw_goto (i := 13) K (dOf ck_mJ7_fill_53178 rfl rfl).1 (t := 5) (aJ_of (by decide +kernel)) ?_
  refine aw_iload_n (i := 5) K (dOf ck_mJ7_fill_53178 rfl rfl) rfl ?_
  refine aw_iload_n (i := 6) K (dOf ck_mJ7_fill_53178 rfl rfl) rfl ?_
  refine aw_icmp_ge (i := 7) K (dOf ck_mJ7_fill_53178 rfl rfl) (t := 14) (aJ_of (by decide +kernel)) (fun z => absurd z (by decide)) (fun _ => ?_)
  refine aw_aload_n (i := 8) K (dOf ck_mJ7_fill_53178 rfl rfl) rfl ?_
  refine aw_iload_n (i := 9) K (dOf ck_mJ7_fill_53178 rfl rfl) rfl ?_
  refine aw_iload_n (i := 10) K (dOf ck_mJ7_fill_53178 rfl rfl) rfl ?_
  refine aw_iast (i := 11) K (dOf ck_mJ7_fill_53178 rfl rfl) rfl (by decide) ?_
  refine aw_iinc (i := 12) K (dOf ck_mJ7_fill_53178 rfl rfl) (Nat.le_of_ble_eq_true rfl) rfl ?_
  refine aw_lvn (lv' := [(2, .inl 2), (3, .inl 8), (0, .inr (.inr (.inl (some 154)))), (1, .inl 0)]) rfl ?_
  refine aw_goto (i := 13) K (dOf ck_mJ7_fill_53178 rfl rfl).1 (t := 5) (aJ_of (by decide +kernel)) ?_
  refine aw_iload_n (i := 5) K (dOf ck_mJ7_fill_53178 rfl rfl) rfl ?_
  refine aw_iload_n (i := 6) K (dOf ck_mJ7_fill_53178 rfl rfl) rfl ?_
  refine aw_icmp_ge (i := 7) K (dOf ck_mJ7_fill_53178 rfl rfl) (t := 14) (aJ_of (by decide +kernel)) (fun z => absurd z (by decide)) (fun _ => ?_)
  refine aw_aload_n (i := 8) K (dOf ck_mJ7_fill_53178 rfl rfl) rfl ?_
  refine aw_iload_n (i := 9) K (dOf ck_mJ7_fill_53178 rfl rfl) rfl ?_
  refine aw_iload_n (i := 10) K (dOf ck_mJ7_fill_53178 rfl rfl) rfl ?_
  refine aw_iast (i := 11) K (dOf ck_mJ7_fill_53178 rfl rfl) rfl (by decide) ?_
  refine aw_iinc (i := 12) K (dOf ck_mJ7_fill_53178 rfl rfl) (Nat.le_of_ble_eq_true rfl) rfl ?_
  refine aw_lvn (lv' := [(2, .inl 3), (3, .inl 8), (0, .inr (.inr (.inl (some 154)))), (1, .inl 0)]) rfl ?_
  refine aw_goto (i := 13) K (dOf ck_mJ7_fill_53178 rfl rfl).1 (t := 5) (aJ_of (by decide +kernel)) ?_
  refine aw_iload_n (i := 5) K (dOf ck_mJ7_fill_53178 rfl rfl) rfl ?_
  refine aw_iload_n (i := 6) K (dOf ck_mJ7_fill_53178 rfl rfl) rfl ?_
  refine aw_icmp_ge (i := 7) K (dOf ck_mJ7_fill_53178 rfl rfl) (t := 14) (aJ_of (by decide +kernel)) (fun z => absurd z (by decide)) (fun _ => ?_)
  refine aw_aload_n (i := 8) K (dOf ck_mJ7_fill_53178 rfl rfl) rfl ?_
  refine aw_iload_n (i := 9) K (dOf ck_mJ7_fill_53178 rfl rfl) rfl ?_
  refine aw_iload_n (i := 10) K (dOf ck_mJ7_fill_53178 rfl rfl) rfl ?_
  refine aw_iast (i := 11) K (dOf ck_mJ7_fill_53178 rfl rfl) rfl (by decide) ?_
  refine aw_iinc (i := 12) K (dOf ck_mJ7_fill_53178 rfl rfl) (Nat.le_of_ble_eq_true rfl) rfl ?_
  refine aw_lvn (lv' := [(2, .inl 4), (3, .inl 8), (0, .inr (.inr (.inl (some 154)))), (1, .inl 0)]) rfl ?_
  refine aw_goto (i := 13) K (dOf ck_mJ7_fill_53178 rfl rfl).1 (t := 5) (aJ_of (by decide +kernel)) ?_
  refine aw_iload_n (i := 5) K (dOf ck_mJ7_fill_53178 rfl rfl) rfl ?_
  refine aw_iload_n (i := 6) K (dOf ck_mJ7_fill_53178 rfl rfl) rfl ?_
  refine aw_icmp_ge (i := 7) K (dOf ck_mJ7_fill_53178 rfl rfl) (t := 14) (aJ_of (by decide +kernel)) (fun z => absurd z (by decide)) (fun _ => ?_)
  refine aw_aload_n (i := 8) K (dOf ck_mJ7_fill_53178 rfl rfl) rfl ?_
  refine aw_iload_n (i := 9) K (dOf ck_mJ7_fill_53178 rfl rfl) rfl ?_
  refine aw_iload_n (i := 10) K (dOf ck_mJ7_fill_53178 rfl rfl) rfl ?_
  refine aw_iast (i := 11) K (dOf ck_mJ7_fill_53178 rfl rfl) rfl (by decide) ?_
  refine aw_iinc (i := 12) K (dOf ck_mJ7_fill_53178 rfl rfl) (Nat.le_of_ble_eq_true rfl) rfl ?_
  refine aw_lvn (lv' := [(2, .inl 5), (3, .inl 8), (0, .inr (.inr (.inl (some 154)))), (1, .inl 0)]) rfl ?_
  refine aw_goto (i := 13) K (dOf ck_mJ7_fill_53178 rfl rfl).1 (t := 5) (aJ_of (by decide +kernel)) ?_
  refine aw_iload_n (i := 5) K (dOf ck_mJ7_fill_53178 rfl rfl) rfl ?_
  refine aw_iload_n (i := 6) K (dOf ck_mJ7_fill_53178 rfl rfl) rfl ?_
  refine aw_icmp_ge (i := 7) K (dOf ck_mJ7_fill_53178 rfl rfl) (t := 14) (aJ_of (by decide +kernel)) (fun z => absurd z (by decide)) (fun _ => ?_)
  refine aw_aload_n (i := 8) K (dOf ck_mJ7_fill_53178 rfl rfl) rfl ?_
  refine aw_iload_n (i := 9) K (dOf ck_mJ7_fill_53178 rfl rfl) rfl ?_
  refine aw_iload_n (i := 10) K (dOf ck_mJ7_fill_53178 rfl rfl) rfl ?_
  refine aw_iast (i := 11) K (dOf ck_mJ7_fill_53178 rfl rfl) rfl (by decide) ?_
  refine aw_iinc (i := 12) K (dOf ck_mJ7_fill_53178 rfl rfl) (Nat.le_of_ble_eq_true rfl) rfl ?_
  refine aw_lvn (lv' := [(2, .inl 6), (3, .inl 8), (0, .inr (.inr (.inl (some 154)))), (1, .inl 0)]) rfl ?_
  refine aw_goto (i := 13) K (dOf ck_mJ7_fill_53178 rfl rfl).1 (t := 5) (aJ_of (by decide +kernel)) ?_
  refine aw_iload_n (i := 5) K (dOf ck_mJ7_fill_53178 rfl rfl) rfl ?_
  refine aw_iload_n (i := 6) K (dOf ck_mJ7_fill_53178 rfl rfl) rfl ?_
  refine aw_icmp_ge (i := 7) K (dOf ck_mJ7_fill_53178 rfl rfl) (t := 14) (aJ_of (by decide +kernel)) (fun z => absurd z (by decide)) (fun _ => ?_)
  refine aw_aload_n (i := 8) K (dOf ck_mJ7_fill_53178 rfl rfl) rfl ?_
  refine aw_iload_n (i := 9) K (dOf ck_mJ7_fill_53178 rfl rfl) rfl ?_
  refine aw_iload_n (i := 10) K (dOf ck_mJ7_fill_53178 rfl rfl) rfl ?_
  refine aw_iast (i := 11) K (dOf ck_mJ7_fill_53178 rfl rfl) rfl (by decide) ?_
  refine aw_iinc (i := 12) K (dOf ck_mJ7_fill_53178 rfl rfl) (Nat.le_of_ble_eq_true rfl) rfl ?_
  refine aw_lvn (lv' := [(2, .inl 7), (3, .inl 8), (0, .inr (.inr (.inl (some 154)))), (1, .inl 0)]) rfl ?_
  refine aw_goto (i := 13) K (dOf ck_mJ7_fill_53178 rfl rfl).1 (t := 5) (aJ_of (by decide +kernel)) ?_
  refine aw_iload_n (i := 5) K (dOf ck_mJ7_fill_53178 rfl rfl) rfl ?_
  refine aw_iload_n (i := 6) K (dOf ck_mJ7_fill_53178 rfl rfl) rfl ?_
  refine aw_icmp_ge (i := 7) K (dOf ck_mJ7_fill_53178 rfl rfl) (t := 14) (aJ_of (by decide +kernel)) (fun z => absurd z (by decide)) (fun _ => ?_)
  refine aw_aload_n (i := 8) K (dOf ck_mJ7_fill_53178 rfl rfl) rfl ?_
  refine aw_iload_n (i := 9) K (dOf ck_mJ7_fill_53178 rfl rfl) rfl ?_
  refine aw_iload_n (i := 10) K (dOf ck_mJ7_fill_53178 rfl rfl) rfl ?_
  refine aw_iast (i := 11) K (dOf ck_mJ7_fill_53178 rfl rfl) rfl (by decide) ?_
  refine aw_iinc (i := 12) K (dOf ck_mJ7_fill_53178 rfl rfl) (Nat.le_of_ble_eq_true rfl) rfl ?_
  refine aw_lvn (lv' := [(2, .inl 8), (3, .inl 8), (0, .inr (.inr (.inl (some 154)))), (1, .inl 0)]) rfl ?_
  refine aw_goto (i := 13) K (dOf ck_mJ7_fill_53178 rfl rfl).1 (t := 5) (aJ_of (by decide +kernel)) ?_
  refine aw_iload_n (i := 5) K (dOf ck_mJ7_fill_53178 rfl rfl) rfl ?_
  refine aw_iload_n (i := 6) K (dOf ck_mJ7_fill_53178 rfl rfl) rfl ?_
  refine aw_icmp_ge (i := 7) K (dOf ck_mJ7_fill_53178 rfl rfl) (t := 14) (aJ_of (by decide +kernel)) (fun _ => ?_) (fun z => absurd (by decide) z)
  refine aw_nm (sh' := sg_46) (mm' := mg_57) rfl rfl ?_
  exact aw_vretA K (by decide +kernel) rfl (Nat.le_of_ble_eq_true rfl) (Nat.le_of_ble_eq_true rfl) ⟨[], (List.append_nil _).symm⟩
def mg_58 : aM := (aup (aup (aup (aup mg_57 171 0 15) 171 1 15) 171 2 15) 171 3 15)
set_option maxHeartbeats 8000000 in
set_option maxRecDepth 20000 in
/-- java/util/Arrays.fill -/
theorem ct_34 {l : Launch} {D : va_G} {cA : FieldType → ClassId} {ad adV : Nat → Nat} {z0 : Nat} : aMet l D cA ad adV z0 mJ7_fill_53178 0 0 0 0 [.inr (.inr (.inl (some 171))), .inl 15] sg_46 mg_57 none sg_46 mg_58 := by
  refine aMet_of (by decide +kernel) rfl (Nat.le_of_ble_eq_true rfl) (fun p e s m args below meth c al K => ?_)
  refine aw_iconst (i := 0) K (n := 0) (i32 _ rfl) (dOf ck_mJ7_fill_53178 rfl rfl) ?_
  refine aw_istore_n (i := 1) K (dOf ck_mJ7_fill_53178 rfl rfl) (Nat.le_of_ble_eq_true rfl) ?_
  refine aw_lvn (lv' := [(2, .inl 0), (0, .inr (.inr (.inl (some 171)))), (1, .inl 15)]) rfl ?_
  refine aw_aload_n (i := 2) K (dOf ck_mJ7_fill_53178 rfl rfl) rfl ?_
  refine aw_alen (i := 3) (n := 4) K (dOf ck_mJ7_fill_53178 rfl rfl) rfl rfl (by decide) ?_
  refine aw_istore_n (i := 4) K (dOf ck_mJ7_fill_53178 rfl rfl) (Nat.le_of_ble_eq_true rfl) ?_
  refine aw_lvn (lv' := [(3, .inl 4), (2, .inl 0), (0, .inr (.inr (.inl (some 171)))), (1, .inl 15)]) rfl ?_
  refine aw_iload_n (i := 5) K (dOf ck_mJ7_fill_53178 rfl rfl) rfl ?_
  refine aw_iload_n (i := 6) K (dOf ck_mJ7_fill_53178 rfl rfl) rfl ?_
  refine aw_icmp_ge (i := 7) K (dOf ck_mJ7_fill_53178 rfl rfl) (t := 14) (aJ_of (by decide +kernel)) (fun z => absurd z (by decide)) (fun _ => ?_)
  refine aw_aload_n (i := 8) K (dOf ck_mJ7_fill_53178 rfl rfl) rfl ?_
  refine aw_iload_n (i := 9) K (dOf ck_mJ7_fill_53178 rfl rfl) rfl ?_
  refine aw_iload_n (i := 10) K (dOf ck_mJ7_fill_53178 rfl rfl) rfl ?_
  refine aw_iast (i := 11) K (dOf ck_mJ7_fill_53178 rfl rfl) rfl (by decide) ?_
  refine aw_iinc (i := 12) K (dOf ck_mJ7_fill_53178 rfl rfl) (Nat.le_of_ble_eq_true rfl) rfl ?_
  refine aw_lvn (lv' := [(2, .inl 1), (3, .inl 4), (0, .inr (.inr (.inl (some 171)))), (1, .inl 15)]) rfl ?_
  refine aw_goto (i := 13) K (dOf ck_mJ7_fill_53178 rfl rfl).1 (t := 5) (aJ_of (by decide +kernel)) ?_
  refine aw_iload_n (i := 5) K (dOf ck_mJ7_fill_53178 rfl rfl) rfl ?_
  refine aw_iload_n (i := 6) K (dOf ck_mJ7_fill_53178 rfl rfl) rfl ?_
  refine aw_icmp_ge (i := 7) K (dOf ck_mJ7_fill_53178 rfl rfl) (t := 14) (aJ_of (by decide +kernel)) (fun z => absurd z (by decide)) (fun _ => ?_)
  refine aw_aload_n (i := 8) K (dOf ck_mJ7_fill_53178 rfl rfl) rfl ?_
  refine aw_iload_n (i := 9) K (dOf ck_mJ7_fill_53178 rfl rfl) rfl ?_
  refine aw_iload_n (i := 10) K (dOf ck_mJ7_fill_53178 rfl rfl) rfl ?_
  refine aw_iast (i := 11) K (dOf ck_mJ7_fill_53178 rfl rfl) rfl (by decide) ?_
  refine aw_iinc (i := 12) K (dOf ck_mJ7_fill_53178 rfl rfl) (Nat.le_of_ble_eq_true rfl) rfl ?_
  refine aw_lvn (lv' := [(2, .inl 2), (3, .inl 4), (0, .inr (.inr (.inl (some 171)))), (1, .inl 15)]) rfl ?_
  refine aw_goto (i := 13) K (dOf ck_mJ7_fill_53178 rfl rfl).1 (t := 5) (aJ_of (by decide +kernel)) ?_
  refine aw_iload_n (i := 5) K (dOf ck_mJ7_fill_53178 rfl rfl) rfl ?_
  refine aw_iload_n (i := 6) K (dOf ck_mJ7_fill_53178 rfl rfl) rfl ?_
  refine aw_icmp_ge (i := 7) K (dOf ck_mJ7_fill_53178 rfl rfl) (t := 14) (aJ_of (by decide +kernel)) (fun z => absurd z (by decide)) (fun _ => ?_)
  refine aw_aload_n (i := 8) K (dOf ck_mJ7_fill_53178 rfl rfl) rfl ?_
  refine aw_iload_n (i := 9) K (dOf ck_mJ7_fill_53178 rfl rfl) rfl ?_
  refine aw_iload_n (i := 10) K (dOf ck_mJ7_fill_53178 rfl rfl) rfl ?_
  refine aw_iast (i := 11) K (dOf ck_mJ7_fill_53178 rfl rfl) rfl (by decide) ?_
  refine aw_iinc (i := 12) K (dOf ck_mJ7_fill_53178 rfl rfl) (Nat.le_of_ble_eq_true rfl) rfl ?_
  refine aw_lvn (lv' := [(2, .inl 3), (3, .inl 4), (0, .inr (.inr (.inl (some 171)))), (1, .inl 15)]) rfl ?_
  refine aw_goto (i := 13) K (dOf ck_mJ7_fill_53178 rfl rfl).1 (t := 5) (aJ_of (by decide +kernel)) ?_
  refine aw_iload_n (i := 5) K (dOf ck_mJ7_fill_53178 rfl rfl) rfl ?_
  refine aw_iload_n (i := 6) K (dOf ck_mJ7_fill_53178 rfl rfl) rfl ?_
  refine aw_icmp_ge (i := 7) K (dOf ck_mJ7_fill_53178 rfl rfl) (t := 14) (aJ_of (by decide +kernel)) (fun z => absurd z (by decide)) (fun _ => ?_)
  refine aw_aload_n (i := 8) K (dOf ck_mJ7_fill_53178 rfl rfl) rfl ?_
  refine aw_iload_n (i := 9) K (dOf ck_mJ7_fill_53178 rfl rfl) rfl ?_
  refine aw_iload_n (i := 10) K (dOf ck_mJ7_fill_53178 rfl rfl) rfl ?_
  refine aw_iast (i := 11) K (dOf ck_mJ7_fill_53178 rfl rfl) rfl (by decide) ?_
  refine aw_iinc (i := 12) K (dOf ck_mJ7_fill_53178 rfl rfl) (Nat.le_of_ble_eq_true rfl) rfl ?_
  refine aw_lvn (lv' := [(2, .inl 4), (3, .inl 4), (0, .inr (.inr (.inl (some 171)))), (1, .inl 15)]) rfl ?_
  refine aw_goto (i := 13) K (dOf ck_mJ7_fill_53178 rfl rfl).1 (t := 5) (aJ_of (by decide +kernel)) ?_
  refine aw_iload_n (i := 5) K (dOf ck_mJ7_fill_53178 rfl rfl) rfl ?_
  refine aw_iload_n (i := 6) K (dOf ck_mJ7_fill_53178 rfl rfl) rfl ?_
  refine aw_icmp_ge (i := 7) K (dOf ck_mJ7_fill_53178 rfl rfl) (t := 14) (aJ_of (by decide +kernel)) (fun _ => ?_) (fun z => absurd (by decide) z)
  refine aw_nm (sh' := sg_46) (mm' := mg_58) rfl rfl ?_
  exact aw_vretA K (by decide +kernel) rfl (Nat.le_of_ble_eq_true rfl) (Nat.le_of_ble_eq_true rfl) ⟨[], (List.append_nil _).symm⟩
set_option maxHeartbeats 8000000 in
set_option maxRecDepth 20000 in
/-- Tongue.empty -/
theorem ct_35 {l : Launch} {D : va_G} {cA : FieldType → ClassId} {ad adV : Nat → Nat} {z0 : Nat} : aMet l D cA ad adV z0 mX8_empty 1 23 0 0 [.inr (.inr (.inl (some 152)))] sg_46 mg_55 none sg_46 mg_58 := by
  refine aMet_of (by decide +kernel) rfl (Nat.le_of_ble_eq_true rfl) (fun p e s m args below meth c al K => ?_)
  refine aw_aload_n (i := 0) K (dOf ck_mX8_empty rfl rfl) rfl ?_
  refine aw_iconst (i := 1) K (n := 0) (i32 _ rfl) (dOf ck_mX8_empty rfl rfl) ?_
  refine aw_putf (i := 2) (k := 0) K (dOf ck_mX8_empty rfl rfl) rfl rfl (Nat.le_of_ble_eq_true rfl) wd_188 rfl rfl (Or.inl rfl) ?_
  refine aw_aload_n (i := 3) K (dOf ck_mX8_empty rfl rfl) rfl ?_
  refine aw_iconst (i := 4) K (n := 0) (i32 _ rfl) (dOf ck_mX8_empty rfl rfl) ?_
  refine aw_putf (i := 5) (k := 1) K (dOf ck_mX8_empty rfl rfl) rfl rfl (Nat.le_of_ble_eq_true rfl) wd_191 rfl rfl (Or.inl rfl) ?_
  refine aw_aload_n (i := 6) K (dOf ck_mX8_empty rfl rfl) rfl ?_
  refine aw_iconst (i := 7) K (n := 0) (i32 _ rfl) (dOf ck_mX8_empty rfl rfl) ?_
  refine aw_putf (i := 8) (k := 2) K (dOf ck_mX8_empty rfl rfl) rfl rfl (Nat.le_of_ble_eq_true rfl) wd_198 rfl rfl (Or.inl rfl) ?_
  refine aw_aload_n (i := 9) K (dOf ck_mX8_empty rfl rfl) rfl ?_
  refine aw_iconst (i := 10) K (n := 0) (i32 _ rfl) (dOf ck_mX8_empty rfl rfl) ?_
  refine aw_putf (i := 11) (k := 3) K (dOf ck_mX8_empty rfl rfl) rfl rfl (Nat.le_of_ble_eq_true rfl) wd_203 rfl rfl (Or.inl rfl) ?_
  refine aw_aload_n (i := 12) K (dOf ck_mX8_empty rfl rfl) rfl ?_
  refine aw_iconst (i := 13) K (n := 0) (i32 _ rfl) (dOf ck_mX8_empty rfl rfl) ?_
  refine aw_putf (i := 14) (k := 4) K (dOf ck_mX8_empty rfl rfl) rfl rfl (Nat.le_of_ble_eq_true rfl) wd_207 rfl rfl (Or.inl rfl) ?_
  refine aw_aload_n (i := 15) K (dOf ck_mX8_empty rfl rfl) rfl ?_
  refine aw_bip (i := 16) K (dOf ck_mX8_empty rfl rfl) (v := 15) rfl ?_
  refine aw_putf (i := 17) (k := 5) K (dOf ck_mX8_empty rfl rfl) rfl rfl (Nat.le_of_ble_eq_true rfl) wd_213 rfl rfl (Or.inl rfl) ?_
  refine aw_aload_n (i := 18) K (dOf ck_mX8_empty rfl rfl) rfl ?_
  refine aw_getf (i := 19) (k := 7) K (dOf ck_mX8_empty rfl rfl) rfl rfl (Nat.le_of_ble_eq_true rfl) wd_219 rfl ?_
  refine aw_iconst (i := 20) K (n := 0) (i32 _ rfl) (dOf ck_mX8_empty rfl rfl) ?_
  refine aw_nm (sh' := sg_46) (mm' := mg_56) rfl rfl ?_
  refine aw_callS (i := 21) (as := [.inr (.inr (.inl (some 154))), .inl 0]) K (dOf ck_mX8_empty rfl rfl) al_OneBreath_Tongue_64 wd_186 rfl (Nat.le_of_ble_eq_true rfl) ⟨Nat.le_of_ble_eq_true rfl, Nat.le_of_ble_eq_true rfl⟩ ⟨Nat.le_of_ble_eq_true rfl, Nat.le_of_ble_eq_true rfl⟩ (Nat.le_of_ble_eq_true rfl) ct_33 (fun bl34 => ?_)
  refine aw_aload_n (i := 22) K (dOf ck_mX8_empty rfl rfl) rfl ?_
  refine aw_getf (i := 23) (k := 12) K (dOf ck_mX8_empty rfl rfl) rfl rfl (Nat.le_of_ble_eq_true rfl) wd_257 rfl ?_
  refine aw_bip (i := 24) K (dOf ck_mX8_empty rfl rfl) (v := 15) rfl ?_
  refine aw_nm (sh' := sg_46) (mm' := mg_57) rfl rfl ?_
  refine aw_callS (i := 25) (as := [.inr (.inr (.inl (some 171))), .inl 15]) K (dOf ck_mX8_empty rfl rfl) al_OneBreath_Tongue_64 wd_186 rfl (Nat.le_of_ble_eq_true rfl) ⟨Nat.le_of_ble_eq_true rfl, Nat.le_of_ble_eq_true rfl⟩ ⟨Nat.le_of_ble_eq_true rfl, Nat.le_of_ble_eq_true rfl⟩ (Nat.le_of_ble_eq_true rfl) ct_34 (fun bl35 => ?_)
  refine aw_nm (sh' := sg_46) (mm' := mg_58) rfl rfl ?_
  exact aw_vretA K (by decide +kernel) rfl (Nat.le_of_ble_eq_true rfl) (Nat.le_of_ble_eq_true rfl) (pre_app (pre_app ⟨[], (List.append_nil _).symm⟩))
set_option maxHeartbeats 8000000 in
set_option maxRecDepth 20000 in
/-- Tongue.<init> -/
theorem ct_36 {l : Launch} {D : va_G} {cA : FieldType → ClassId} {ad adV : Nat → Nat} {z0 : Nat} : aMet l D cA ad adV z0 mX8_init 2 43 21 152 [.inr (.inr (.inl (some 152)))] sg_45 mg_54 none sg_46 mg_58 := by
  refine aMet_of (by decide +kernel) rfl (Nat.le_of_ble_eq_true rfl) (fun p e s m args below meth c al K => ?_)
  refine aw_aload_n (i := 0) K (dOf ck_mX8_init rfl rfl) rfl ?_
  refine aw_objInit (i := 1) K (dOf ck_mX8_init rfl rfl) ⟨wd_179, wd_167, wd_168⟩ (Nat.le_of_ble_eq_true rfl) ⟨Nat.le_of_ble_eq_true rfl, Nat.le_of_ble_eq_true rfl⟩ ?_
  refine aw_aload_n (i := 2) K (dOf ck_mX8_init rfl rfl) rfl ?_
  refine aw_bip (i := 3) K (dOf ck_mX8_init rfl rfl) (v := 8) rfl ?_
  refine aw_newaN (i := 4) (n := 8) (ty := .byte) K (dOf ck_mX8_init rfl rfl) rfl (by decide) wd_272 (Nat.le_of_ble_eq_true rfl) (Nat.le_of_ble_eq_true rfl) (Nat.le_of_ble_eq_true rfl) 153 rfl (fun q153 => ?_)
  refine aw_putr (i := 5) (k := 6) K (dOf ck_mX8_init rfl rfl) rfl rfl (Nat.le_of_ble_eq_true rfl) wd_216 rfl rfl rfl rfl (fitR (by decide +kernel)) ?_
  refine aw_aload_n (i := 6) K (dOf ck_mX8_init rfl rfl) rfl ?_
  refine aw_bip (i := 7) K (dOf ck_mX8_init rfl rfl) (v := 8) rfl ?_
  refine aw_newaN (i := 8) (n := 8) (ty := .int) K (dOf ck_mX8_init rfl rfl) rfl (by decide) wd_273 (Nat.le_of_ble_eq_true rfl) (Nat.le_of_ble_eq_true rfl) (Nat.le_of_ble_eq_true rfl) 154 rfl (fun q154 => ?_)
  refine aw_putr (i := 9) (k := 7) K (dOf ck_mX8_init rfl rfl) rfl rfl (Nat.le_of_ble_eq_true rfl) wd_219 rfl rfl rfl rfl (fitR (by decide +kernel)) ?_
  refine aw_aload_n (i := 10) K (dOf ck_mX8_init rfl rfl) rfl ?_
  refine aw_bip (i := 11) K (dOf ck_mX8_init rfl rfl) (v := 12) rfl ?_
  refine aw_bip (i := 12) K (dOf ck_mX8_init rfl rfl) (v := 6) rfl ?_
  refine aw_mnaN (i := 13) (n := 12) (k := 6) (ty := .byte) K (dOf ck_mX8_init rfl rfl) wd_180 (Or.inl ⟨rfl, rfl⟩) wd_272 (Nat.le_of_ble_eq_true rfl) (Nat.le_of_ble_eq_true rfl) (Nat.le_of_ble_eq_true rfl) (Nat.le_of_ble_eq_true rfl) 155 rfl (fun bl155 => ?_)
  refine aw_putr (i := 14) (k := 8) K (dOf ck_mX8_init rfl rfl) rfl rfl (Nat.le_of_ble_eq_true rfl) wd_226 rfl rfl rfl rfl (fitR (by decide +kernel)) ?_
  refine aw_aload_n (i := 15) K (dOf ck_mX8_init rfl rfl) rfl ?_
  refine aw_bip (i := 16) K (dOf ck_mX8_init rfl rfl) (v := 12) rfl ?_
  refine aw_newaN (i := 17) (n := 12) (ty := .int) K (dOf ck_mX8_init rfl rfl) rfl (by decide) wd_273 (Nat.le_of_ble_eq_true rfl) (Nat.le_of_ble_eq_true rfl) (Nat.le_of_ble_eq_true rfl) 168 rfl (fun q168 => ?_)
  refine aw_putr (i := 18) (k := 9) K (dOf ck_mX8_init rfl rfl) rfl rfl (Nat.le_of_ble_eq_true rfl) wd_235 rfl rfl rfl rfl (fitR (by decide +kernel)) ?_
  refine aw_aload_n (i := 19) K (dOf ck_mX8_init rfl rfl) rfl ?_
  refine aw_bip (i := 20) K (dOf ck_mX8_init rfl rfl) (v := 12) rfl ?_
  refine aw_newaN (i := 21) (n := 12) (ty := .int) K (dOf ck_mX8_init rfl rfl) rfl (by decide) wd_273 (Nat.le_of_ble_eq_true rfl) (Nat.le_of_ble_eq_true rfl) (Nat.le_of_ble_eq_true rfl) 169 rfl (fun q169 => ?_)
  refine aw_putr (i := 22) (k := 10) K (dOf ck_mX8_init rfl rfl) rfl rfl (Nat.le_of_ble_eq_true rfl) wd_244 rfl rfl rfl rfl (fitR (by decide +kernel)) ?_
  refine aw_aload_n (i := 23) K (dOf ck_mX8_init rfl rfl) rfl ?_
  refine aw_bip (i := 24) K (dOf ck_mX8_init rfl rfl) (v := 12) rfl ?_
  refine aw_newaN (i := 25) (n := 12) (ty := .int) K (dOf ck_mX8_init rfl rfl) rfl (by decide) wd_273 (Nat.le_of_ble_eq_true rfl) (Nat.le_of_ble_eq_true rfl) (Nat.le_of_ble_eq_true rfl) 170 rfl (fun q170 => ?_)
  refine aw_putr (i := 26) (k := 11) K (dOf ck_mX8_init rfl rfl) rfl rfl (Nat.le_of_ble_eq_true rfl) wd_250 rfl rfl rfl rfl (fitR (by decide +kernel)) ?_
  refine aw_aload_n (i := 27) K (dOf ck_mX8_init rfl rfl) rfl ?_
  refine aw_iconst (i := 28) K (n := 4) (i32 _ rfl) (dOf ck_mX8_init rfl rfl) ?_
  refine aw_newaN (i := 29) (n := 4) (ty := .int) K (dOf ck_mX8_init rfl rfl) rfl (by decide) wd_273 (Nat.le_of_ble_eq_true rfl) (Nat.le_of_ble_eq_true rfl) (Nat.le_of_ble_eq_true rfl) 171 rfl (fun q171 => ?_)
  refine aw_putr (i := 30) (k := 12) K (dOf ck_mX8_init rfl rfl) rfl rfl (Nat.le_of_ble_eq_true rfl) wd_257 rfl rfl rfl rfl (fitR (by decide +kernel)) ?_
  refine aw_aload_n (i := 31) K (dOf ck_mX8_init rfl rfl) rfl ?_
  refine aw_bip (i := 32) K (dOf ck_mX8_init rfl rfl) (v := 6) rfl ?_
  refine aw_newaN (i := 33) (n := 6) (ty := .int) K (dOf ck_mX8_init rfl rfl) rfl (by decide) wd_273 (Nat.le_of_ble_eq_true rfl) (Nat.le_of_ble_eq_true rfl) (Nat.le_of_ble_eq_true rfl) 172 rfl (fun q172 => ?_)
  refine aw_putr (i := 34) (k := 13) K (dOf ck_mX8_init rfl rfl) rfl rfl (Nat.le_of_ble_eq_true rfl) wd_262 rfl rfl rfl rfl (fitR (by decide +kernel)) ?_
  refine aw_aload_n (i := 35) K (dOf ck_mX8_init rfl rfl) rfl ?_
  refine aw_bip (i := 36) K (dOf ck_mX8_init rfl rfl) (v := 6) rfl ?_
  refine aw_newaN (i := 37) (n := 6) (ty := .int) K (dOf ck_mX8_init rfl rfl) rfl (by decide) wd_273 (Nat.le_of_ble_eq_true rfl) (Nat.le_of_ble_eq_true rfl) (Nat.le_of_ble_eq_true rfl) 173 rfl (fun q173 => ?_)
  refine aw_putr (i := 38) (k := 14) K (dOf ck_mX8_init rfl rfl) rfl rfl (Nat.le_of_ble_eq_true rfl) wd_267 rfl rfl rfl rfl (fitR (by decide +kernel)) ?_
  refine aw_aload_n (i := 39) K (dOf ck_mX8_init rfl rfl) rfl ?_
  refine aw_nm (sh' := sg_46) (mm' := mg_55) rfl rfl ?_
  refine aw_callV (i := 40) (as := []) (q := 152) K (dOf ck_mX8_init rfl rfl) al_OneBreath_Tongue_42 rfl rfl ⟨wd_182, wd_183⟩ rfl (Nat.le_of_ble_eq_true rfl) ⟨Nat.le_of_ble_eq_true rfl, Nat.le_of_ble_eq_true rfl⟩ ⟨Nat.le_of_ble_eq_true rfl, Nat.le_of_ble_eq_true rfl⟩ (Nat.le_of_ble_eq_true rfl) ct_35 (fun bl36 => ?_)
  refine aw_nm (sh' := sg_46) (mm' := mg_58) rfl rfl ?_
  exact aw_vretA K (by decide +kernel) rfl (Nat.le_of_ble_eq_true rfl) (Nat.le_of_ble_eq_true rfl) (pre_app (pre_app (pre_app (pre_app (pre_app (pre_app (pre_app (pre_app (pre_app (pre_app ⟨[], (List.append_nil _).symm⟩))))))))))
def sg_47 : List aE := [.inr (.inr (.inr (11, [some (some 1), some (some 25), some (some 47), some (some 49), some (some 51), some (some 59), some (some 61), some (some 67), some (some 73), some (some 76), some (some 79), some (some 120), some (some 125), some (some 126), some (some 127)]))), .inr (.inr (.inr (7, [some (some 2), none, none, some (some 3), none, none, none, none, none]))), .inl (.byte, 500), .inr (.inr (.inr (8, [none, none, none, none, none, none, some (some 4), some (some 5), some (some 6), some (some 19), some (some 20), some (some 21), some (some 22), some (some 23), some (some 24)]))), .inl (.byte, 8), .inl (.int, 8), .inr (.inr (.inl (.array .byte, [some 7, some 8, some 9, some 10, some 11, some 12, some 13, some 14, some 15, some 16, some 17, some 18]))), .inl (.byte, 6), .inl (.byte, 6), .inl (.byte, 6), .inl (.byte, 6), .inl (.byte, 6), .inl (.byte, 6), .inl (.byte, 6), .inl (.byte, 6), .inl (.byte, 6), .inl (.byte, 6), .inl (.byte, 6), .inl (.byte, 6), .inl (.int, 12), .inl (.int, 12), .inl (.int, 12), .inl (.int, 4), .inl (.int, 6), .inl (.int, 6), .inr (.inr (.inr (8, [none, none, none, none, none, none, some (some 26), some (some 27), some (some 28), some (some 41), some (some 42), some (some 43), some (some 44), some (some 45), some (some 46)]))), .inl (.byte, 8), .inl (.int, 8), .inr (.inr (.inl (.array .byte, [some 29, some 30, some 31, some 32, some 33, some 34, some 35, some 36, some 37, some 38, some 39, some 40]))), .inl (.byte, 6), .inl (.byte, 6), .inl (.byte, 6), .inl (.byte, 6), .inl (.byte, 6), .inl (.byte, 6), .inl (.byte, 6), .inl (.byte, 6), .inl (.byte, 6), .inl (.byte, 6), .inl (.byte, 6), .inl (.byte, 6), .inl (.int, 12), .inl (.int, 12), .inl (.int, 12), .inl (.int, 4), .inl (.int, 6), .inl (.int, 6), .inr (.inr (.inr (6, [some (some 48), none]))), .inl (.byte, 40), .inr (.inr (.inr (6, [some (some 50), none]))), .inl (.byte, 40), .inr (.inr (.inr (5, [some (some 52), some (some 57), some (some 58)]))), .inr (.inr (.inl (.array .long, [some 53, some 54, some 55, some 56]))), .inr (.inl 40), .inr (.inl 40), .inr (.inl 40), .inr (.inl 40), .inl (.int, 4), .inl (.int, 4), .inr (.inr (.inr (10, [some (some 60), none, none, none, none, none]))), .inl (.int, 40), .inr (.inr (.inr (1, [some (some 25), none, some (some 62), some (some 63), some (some 64), none, some (some 65), some (some 66), none, none]))), .inl (.byte, 720), .inl (.int, 305), .inr (.inl 915), .inl (.int, 60), .inl (.int, 60), .inr (.inr (.inr (1, [some (some 25), none, some (some 68), some (some 69), some (some 70), none, some (some 71), some (some 72), none, none]))), .inl (.byte, 720), .inl (.int, 305), .inr (.inl 915), .inl (.int, 60), .inl (.int, 60), .inr (.inr (.inr (4, [some (some 25), some (some 67), some (some 74), none, none]))), .inr (.inr (.inr (6, [some (some 75), none]))), .inl (.byte, 40), .inr (.inr (.inr (2, [some (some 77), some (some 78)]))), .inl (.int, 6), .inl (.int, 7), .inr (.inr (.inr (3, [some (some 25), some (some 76), some (some 80), some (some 105), some (some 107), some (some 108), none, some (some 109), some (some 110), some (some 111), none, none, none, none, none, none]))), .inr (.inr (.inr (9, [none, none, none, some (some 81), some (some 95), some (some 96), some (some 97), some (some 98), some (some 99), none, none, none, none, none, some (some 100), some (some 101), none, some (some 102), some (some 103), some (some 104)]))), .inr (.inr (.inl (.array .byte, [some 82, some 83, some 84, some 85, some 86, some 87, some 88, some 89, some 90, some 91, some 92, some 93, some 94]))), .inl (.byte, 7), .inl (.byte, 7), .inl (.byte, 7), .inl (.byte, 7), .inl (.byte, 7), .inl (.byte, 7), .inl (.byte, 7), .inl (.byte, 7), .inl (.byte, 7), .inl (.byte, 7), .inl (.byte, 7), .inl (.byte, 7), .inl (.byte, 7), .inl (.int, 13), .inl (.int, 13), .inl (.int, 4), .inl (.int, 9), .inl (.int, 4), .inr (.inl 536), .inr (.inl 67), .inl (.short, 471), .inl (.short, 471), .inl (.byte, 471), .inr (.inr (.inr (6, [some (some 106), none]))), .inl (.byte, 40), .inl (.int, 3), .inl (.byte, 2826), .inl (.boolean, 4), .inr (.inr (.inl (.object "OneBreath$Sounds", [some 112, some 114, some 116, some 118]))), .inl (.int, 4), .inr (.inr (.inr (6, [some (some 113), none]))), .inl (.byte, 40), .inr (.inr (.inr (6, [some (some 115), none]))), .inl (.byte, 40), .inr (.inr (.inr (6, [some (some 117), none]))), .inl (.byte, 40), .inr (.inr (.inr (6, [some (some 119), none]))), .inl (.byte, 40), .inr (.inr (.inr (0, [some (some 25), some (some 121), none, some (some 122), some (some 123), some (some 124), none, none, none, none]))), .inl (.int, 20), .inl (.int, 4), .inl (.int, 4), .inl (.int, 4), .inr (.inr (.inl (.object "OneBreath$Tongue", [some 128, some 152]))), .inr (.inr (.inl (.object "OneBreath$Sounds", [some 150, none]))), .inl (.boolean, 2), .inr (.inr (.inr (8, [none, none, none, none, none, none, some (some 129), some (some 130), some (some 131), some (some 144), some (some 145), some (some 146), some (some 147), some (some 148), some (some 149)]))), .inl (.byte, 8), .inl (.int, 8), .inr (.inr (.inl (.array .byte, [some 132, some 133, some 134, some 135, some 136, some 137, some 138, some 139, some 140, some 141, some 142, some 143]))), .inl (.byte, 6), .inl (.byte, 6), .inl (.byte, 6), .inl (.byte, 6), .inl (.byte, 6), .inl (.byte, 6), .inl (.byte, 6), .inl (.byte, 6), .inl (.byte, 6), .inl (.byte, 6), .inl (.byte, 6), .inl (.byte, 6), .inl (.int, 12), .inl (.int, 12), .inl (.int, 12), .inl (.int, 4), .inl (.int, 6), .inl (.int, 6), .inr (.inr (.inr (6, [some (some 151), none]))), .inl (.byte, 40), .inr (.inr (.inr (8, [none, none, none, none, none, none, some (some 153), some (some 154), some (some 155), some (some 168), some (some 169), some (some 170), some (some 171), some (some 172), some (some 173)]))), .inl (.byte, 8), .inl (.int, 8), .inr (.inr (.inl (.array .byte, [some 156, some 157, some 158, some 159, some 160, some 161, some 162, some 163, some 164, some 165, some 166, some 167]))), .inl (.byte, 6), .inl (.byte, 6), .inl (.byte, 6), .inl (.byte, 6), .inl (.byte, 6), .inl (.byte, 6), .inl (.byte, 6), .inl (.byte, 6), .inl (.byte, 6), .inl (.byte, 6), .inl (.byte, 6), .inl (.byte, 6), .inl (.int, 12), .inl (.int, 12), .inl (.int, 12), .inl (.int, 4), .inl (.int, 6), .inl (.int, 6), .inr (.inr (.inr (6, [some none, none])))]
def mg_59 : aM := (aNew mg_58 174)
def sg_48 : List aE := [.inr (.inr (.inr (11, [some (some 1), some (some 25), some (some 47), some (some 49), some (some 51), some (some 59), some (some 61), some (some 67), some (some 73), some (some 76), some (some 79), some (some 120), some (some 125), some (some 126), some (some 127)]))), .inr (.inr (.inr (7, [some (some 2), none, none, some (some 3), none, none, none, none, none]))), .inl (.byte, 500), .inr (.inr (.inr (8, [none, none, none, none, none, none, some (some 4), some (some 5), some (some 6), some (some 19), some (some 20), some (some 21), some (some 22), some (some 23), some (some 24)]))), .inl (.byte, 8), .inl (.int, 8), .inr (.inr (.inl (.array .byte, [some 7, some 8, some 9, some 10, some 11, some 12, some 13, some 14, some 15, some 16, some 17, some 18]))), .inl (.byte, 6), .inl (.byte, 6), .inl (.byte, 6), .inl (.byte, 6), .inl (.byte, 6), .inl (.byte, 6), .inl (.byte, 6), .inl (.byte, 6), .inl (.byte, 6), .inl (.byte, 6), .inl (.byte, 6), .inl (.byte, 6), .inl (.int, 12), .inl (.int, 12), .inl (.int, 12), .inl (.int, 4), .inl (.int, 6), .inl (.int, 6), .inr (.inr (.inr (8, [none, none, none, none, none, none, some (some 26), some (some 27), some (some 28), some (some 41), some (some 42), some (some 43), some (some 44), some (some 45), some (some 46)]))), .inl (.byte, 8), .inl (.int, 8), .inr (.inr (.inl (.array .byte, [some 29, some 30, some 31, some 32, some 33, some 34, some 35, some 36, some 37, some 38, some 39, some 40]))), .inl (.byte, 6), .inl (.byte, 6), .inl (.byte, 6), .inl (.byte, 6), .inl (.byte, 6), .inl (.byte, 6), .inl (.byte, 6), .inl (.byte, 6), .inl (.byte, 6), .inl (.byte, 6), .inl (.byte, 6), .inl (.byte, 6), .inl (.int, 12), .inl (.int, 12), .inl (.int, 12), .inl (.int, 4), .inl (.int, 6), .inl (.int, 6), .inr (.inr (.inr (6, [some (some 48), none]))), .inl (.byte, 40), .inr (.inr (.inr (6, [some (some 50), none]))), .inl (.byte, 40), .inr (.inr (.inr (5, [some (some 52), some (some 57), some (some 58)]))), .inr (.inr (.inl (.array .long, [some 53, some 54, some 55, some 56]))), .inr (.inl 40), .inr (.inl 40), .inr (.inl 40), .inr (.inl 40), .inl (.int, 4), .inl (.int, 4), .inr (.inr (.inr (10, [some (some 60), none, none, none, none, none]))), .inl (.int, 40), .inr (.inr (.inr (1, [some (some 25), none, some (some 62), some (some 63), some (some 64), none, some (some 65), some (some 66), none, none]))), .inl (.byte, 720), .inl (.int, 305), .inr (.inl 915), .inl (.int, 60), .inl (.int, 60), .inr (.inr (.inr (1, [some (some 25), none, some (some 68), some (some 69), some (some 70), none, some (some 71), some (some 72), none, none]))), .inl (.byte, 720), .inl (.int, 305), .inr (.inl 915), .inl (.int, 60), .inl (.int, 60), .inr (.inr (.inr (4, [some (some 25), some (some 67), some (some 74), none, none]))), .inr (.inr (.inr (6, [some (some 75), none]))), .inl (.byte, 40), .inr (.inr (.inr (2, [some (some 77), some (some 78)]))), .inl (.int, 6), .inl (.int, 7), .inr (.inr (.inr (3, [some (some 25), some (some 76), some (some 80), some (some 105), some (some 107), some (some 108), none, some (some 109), some (some 110), some (some 111), none, none, none, none, none, none]))), .inr (.inr (.inr (9, [none, none, none, some (some 81), some (some 95), some (some 96), some (some 97), some (some 98), some (some 99), none, none, none, none, none, some (some 100), some (some 101), none, some (some 102), some (some 103), some (some 104)]))), .inr (.inr (.inl (.array .byte, [some 82, some 83, some 84, some 85, some 86, some 87, some 88, some 89, some 90, some 91, some 92, some 93, some 94]))), .inl (.byte, 7), .inl (.byte, 7), .inl (.byte, 7), .inl (.byte, 7), .inl (.byte, 7), .inl (.byte, 7), .inl (.byte, 7), .inl (.byte, 7), .inl (.byte, 7), .inl (.byte, 7), .inl (.byte, 7), .inl (.byte, 7), .inl (.byte, 7), .inl (.int, 13), .inl (.int, 13), .inl (.int, 4), .inl (.int, 9), .inl (.int, 4), .inr (.inl 536), .inr (.inl 67), .inl (.short, 471), .inl (.short, 471), .inl (.byte, 471), .inr (.inr (.inr (6, [some (some 106), none]))), .inl (.byte, 40), .inl (.int, 3), .inl (.byte, 2826), .inl (.boolean, 4), .inr (.inr (.inl (.object "OneBreath$Sounds", [some 112, some 114, some 116, some 118]))), .inl (.int, 4), .inr (.inr (.inr (6, [some (some 113), none]))), .inl (.byte, 40), .inr (.inr (.inr (6, [some (some 115), none]))), .inl (.byte, 40), .inr (.inr (.inr (6, [some (some 117), none]))), .inl (.byte, 40), .inr (.inr (.inr (6, [some (some 119), none]))), .inl (.byte, 40), .inr (.inr (.inr (0, [some (some 25), some (some 121), none, some (some 122), some (some 123), some (some 124), none, none, none, none]))), .inl (.int, 20), .inl (.int, 4), .inl (.int, 4), .inl (.int, 4), .inr (.inr (.inl (.object "OneBreath$Tongue", [some 128, some 152]))), .inr (.inr (.inl (.object "OneBreath$Sounds", [some 150, none]))), .inl (.boolean, 2), .inr (.inr (.inr (8, [none, none, none, none, none, none, some (some 129), some (some 130), some (some 131), some (some 144), some (some 145), some (some 146), some (some 147), some (some 148), some (some 149)]))), .inl (.byte, 8), .inl (.int, 8), .inr (.inr (.inl (.array .byte, [some 132, some 133, some 134, some 135, some 136, some 137, some 138, some 139, some 140, some 141, some 142, some 143]))), .inl (.byte, 6), .inl (.byte, 6), .inl (.byte, 6), .inl (.byte, 6), .inl (.byte, 6), .inl (.byte, 6), .inl (.byte, 6), .inl (.byte, 6), .inl (.byte, 6), .inl (.byte, 6), .inl (.byte, 6), .inl (.byte, 6), .inl (.int, 12), .inl (.int, 12), .inl (.int, 12), .inl (.int, 4), .inl (.int, 6), .inl (.int, 6), .inr (.inr (.inr (6, [some (some 151), none]))), .inl (.byte, 40), .inr (.inr (.inr (8, [none, none, none, none, none, none, some (some 153), some (some 154), some (some 155), some (some 168), some (some 169), some (some 170), some (some 171), some (some 172), some (some 173)]))), .inl (.byte, 8), .inl (.int, 8), .inr (.inr (.inl (.array .byte, [some 156, some 157, some 158, some 159, some 160, some 161, some 162, some 163, some 164, some 165, some 166, some 167]))), .inl (.byte, 6), .inl (.byte, 6), .inl (.byte, 6), .inl (.byte, 6), .inl (.byte, 6), .inl (.byte, 6), .inl (.byte, 6), .inl (.byte, 6), .inl (.byte, 6), .inl (.byte, 6), .inl (.byte, 6), .inl (.byte, 6), .inl (.int, 12), .inl (.int, 12), .inl (.int, 12), .inl (.int, 4), .inl (.int, 6), .inl (.int, 6), .inr (.inr (.inr (6, [some (some 175), none]))), .inl (.byte, 40)]
def mg_60 : aM := (aNew mg_59 175)
set_option maxHeartbeats 8000000 in
set_option maxRecDepth 20000 in
/-- Sounds.<init> -/
theorem ct_37 {l : Launch} {D : va_G} {cA : FieldType → ClassId} {ad adV : Nat → Nat} {z0 : Nat} : aMet l D cA ad adV z0 mX6_init 1 20 1 40 [.inr (.inr (.inl (some 174)))] sg_47 mg_59 none sg_48 mg_60 := by
  refine aMet_of (by decide +kernel) rfl (Nat.le_of_ble_eq_true rfl) (fun p e s m args below meth c al K => ?_)
  refine aw_aload_n (i := 0) K (dOf ck_mX6_init rfl rfl) rfl ?_
  refine aw_objInit (i := 1) K (dOf ck_mX6_init rfl rfl) ⟨wd_293, wd_167, wd_168⟩ (Nat.le_of_ble_eq_true rfl) ⟨Nat.le_of_ble_eq_true rfl, Nat.le_of_ble_eq_true rfl⟩ ?_
  refine aw_aload_n (i := 2) K (dOf ck_mX6_init rfl rfl) rfl ?_
  refine aw_bip (i := 3) K (dOf ck_mX6_init rfl rfl) (v := 40) rfl ?_
  refine aw_newaN (i := 4) (n := 40) (ty := .byte) K (dOf ck_mX6_init rfl rfl) rfl (by decide) wd_272 (Nat.le_of_ble_eq_true rfl) (Nat.le_of_ble_eq_true rfl) (Nat.le_of_ble_eq_true rfl) 175 rfl (fun q175 => ?_)
  refine aw_putr (i := 5) (k := 0) K (dOf ck_mX6_init rfl rfl) rfl rfl (Nat.le_of_ble_eq_true rfl) wd_294 rfl rfl rfl rfl (fitR (by decide +kernel)) ?_
  refine aw_nm (sh' := sg_48) (mm' := mg_60) rfl rfl ?_
  exact aw_vretA K (by decide +kernel) rfl (Nat.le_of_ble_eq_true rfl) (Nat.le_of_ble_eq_true rfl) (pre_app ⟨[], (List.append_nil _).symm⟩)
def sg_49 : List aE := [.inr (.inr (.inr (11, [some (some 1), some (some 25), some (some 47), some (some 49), some (some 51), some (some 59), some (some 61), some (some 67), some (some 73), some (some 76), some (some 79), some (some 120), some (some 125), some (some 126), some (some 127)]))), .inr (.inr (.inr (7, [some (some 2), none, none, some (some 3), none, none, none, none, none]))), .inl (.byte, 500), .inr (.inr (.inr (8, [none, none, none, none, none, none, some (some 4), some (some 5), some (some 6), some (some 19), some (some 20), some (some 21), some (some 22), some (some 23), some (some 24)]))), .inl (.byte, 8), .inl (.int, 8), .inr (.inr (.inl (.array .byte, [some 7, some 8, some 9, some 10, some 11, some 12, some 13, some 14, some 15, some 16, some 17, some 18]))), .inl (.byte, 6), .inl (.byte, 6), .inl (.byte, 6), .inl (.byte, 6), .inl (.byte, 6), .inl (.byte, 6), .inl (.byte, 6), .inl (.byte, 6), .inl (.byte, 6), .inl (.byte, 6), .inl (.byte, 6), .inl (.byte, 6), .inl (.int, 12), .inl (.int, 12), .inl (.int, 12), .inl (.int, 4), .inl (.int, 6), .inl (.int, 6), .inr (.inr (.inr (8, [none, none, none, none, none, none, some (some 26), some (some 27), some (some 28), some (some 41), some (some 42), some (some 43), some (some 44), some (some 45), some (some 46)]))), .inl (.byte, 8), .inl (.int, 8), .inr (.inr (.inl (.array .byte, [some 29, some 30, some 31, some 32, some 33, some 34, some 35, some 36, some 37, some 38, some 39, some 40]))), .inl (.byte, 6), .inl (.byte, 6), .inl (.byte, 6), .inl (.byte, 6), .inl (.byte, 6), .inl (.byte, 6), .inl (.byte, 6), .inl (.byte, 6), .inl (.byte, 6), .inl (.byte, 6), .inl (.byte, 6), .inl (.byte, 6), .inl (.int, 12), .inl (.int, 12), .inl (.int, 12), .inl (.int, 4), .inl (.int, 6), .inl (.int, 6), .inr (.inr (.inr (6, [some (some 48), none]))), .inl (.byte, 40), .inr (.inr (.inr (6, [some (some 50), none]))), .inl (.byte, 40), .inr (.inr (.inr (5, [some (some 52), some (some 57), some (some 58)]))), .inr (.inr (.inl (.array .long, [some 53, some 54, some 55, some 56]))), .inr (.inl 40), .inr (.inl 40), .inr (.inl 40), .inr (.inl 40), .inl (.int, 4), .inl (.int, 4), .inr (.inr (.inr (10, [some (some 60), none, none, none, none, none]))), .inl (.int, 40), .inr (.inr (.inr (1, [some (some 25), none, some (some 62), some (some 63), some (some 64), none, some (some 65), some (some 66), none, none]))), .inl (.byte, 720), .inl (.int, 305), .inr (.inl 915), .inl (.int, 60), .inl (.int, 60), .inr (.inr (.inr (1, [some (some 25), none, some (some 68), some (some 69), some (some 70), none, some (some 71), some (some 72), none, none]))), .inl (.byte, 720), .inl (.int, 305), .inr (.inl 915), .inl (.int, 60), .inl (.int, 60), .inr (.inr (.inr (4, [some (some 25), some (some 67), some (some 74), none, none]))), .inr (.inr (.inr (6, [some (some 75), none]))), .inl (.byte, 40), .inr (.inr (.inr (2, [some (some 77), some (some 78)]))), .inl (.int, 6), .inl (.int, 7), .inr (.inr (.inr (3, [some (some 25), some (some 76), some (some 80), some (some 105), some (some 107), some (some 108), none, some (some 109), some (some 110), some (some 111), none, none, none, none, none, none]))), .inr (.inr (.inr (9, [none, none, none, some (some 81), some (some 95), some (some 96), some (some 97), some (some 98), some (some 99), none, none, none, none, none, some (some 100), some (some 101), none, some (some 102), some (some 103), some (some 104)]))), .inr (.inr (.inl (.array .byte, [some 82, some 83, some 84, some 85, some 86, some 87, some 88, some 89, some 90, some 91, some 92, some 93, some 94]))), .inl (.byte, 7), .inl (.byte, 7), .inl (.byte, 7), .inl (.byte, 7), .inl (.byte, 7), .inl (.byte, 7), .inl (.byte, 7), .inl (.byte, 7), .inl (.byte, 7), .inl (.byte, 7), .inl (.byte, 7), .inl (.byte, 7), .inl (.byte, 7), .inl (.int, 13), .inl (.int, 13), .inl (.int, 4), .inl (.int, 9), .inl (.int, 4), .inr (.inl 536), .inr (.inl 67), .inl (.short, 471), .inl (.short, 471), .inl (.byte, 471), .inr (.inr (.inr (6, [some (some 106), none]))), .inl (.byte, 40), .inl (.int, 3), .inl (.byte, 2826), .inl (.boolean, 4), .inr (.inr (.inl (.object "OneBreath$Sounds", [some 112, some 114, some 116, some 118]))), .inl (.int, 4), .inr (.inr (.inr (6, [some (some 113), none]))), .inl (.byte, 40), .inr (.inr (.inr (6, [some (some 115), none]))), .inl (.byte, 40), .inr (.inr (.inr (6, [some (some 117), none]))), .inl (.byte, 40), .inr (.inr (.inr (6, [some (some 119), none]))), .inl (.byte, 40), .inr (.inr (.inr (0, [some (some 25), some (some 121), none, some (some 122), some (some 123), some (some 124), none, none, none, none]))), .inl (.int, 20), .inl (.int, 4), .inl (.int, 4), .inl (.int, 4), .inr (.inr (.inl (.object "OneBreath$Tongue", [some 128, some 152]))), .inr (.inr (.inl (.object "OneBreath$Sounds", [some 150, some 174]))), .inl (.boolean, 2), .inr (.inr (.inr (8, [none, none, none, none, none, none, some (some 129), some (some 130), some (some 131), some (some 144), some (some 145), some (some 146), some (some 147), some (some 148), some (some 149)]))), .inl (.byte, 8), .inl (.int, 8), .inr (.inr (.inl (.array .byte, [some 132, some 133, some 134, some 135, some 136, some 137, some 138, some 139, some 140, some 141, some 142, some 143]))), .inl (.byte, 6), .inl (.byte, 6), .inl (.byte, 6), .inl (.byte, 6), .inl (.byte, 6), .inl (.byte, 6), .inl (.byte, 6), .inl (.byte, 6), .inl (.byte, 6), .inl (.byte, 6), .inl (.byte, 6), .inl (.byte, 6), .inl (.int, 12), .inl (.int, 12), .inl (.int, 12), .inl (.int, 4), .inl (.int, 6), .inl (.int, 6), .inr (.inr (.inr (6, [some (some 151), none]))), .inl (.byte, 40), .inr (.inr (.inr (8, [none, none, none, none, none, none, some (some 153), some (some 154), some (some 155), some (some 168), some (some 169), some (some 170), some (some 171), some (some 172), some (some 173)]))), .inl (.byte, 8), .inl (.int, 8), .inr (.inr (.inl (.array .byte, [some 156, some 157, some 158, some 159, some 160, some 161, some 162, some 163, some 164, some 165, some 166, some 167]))), .inl (.byte, 6), .inl (.byte, 6), .inl (.byte, 6), .inl (.byte, 6), .inl (.byte, 6), .inl (.byte, 6), .inl (.byte, 6), .inl (.byte, 6), .inl (.byte, 6), .inl (.byte, 6), .inl (.byte, 6), .inl (.byte, 6), .inl (.int, 12), .inl (.int, 12), .inl (.int, 12), .inl (.int, 4), .inl (.int, 6), .inl (.int, 6), .inr (.inr (.inr (6, [some (some 175), none]))), .inl (.byte, 40)]
set_option maxHeartbeats 8000000 in
set_option maxRecDepth 20000 in
/-- OneBreath.<init> -/
theorem ct_38 {l : Launch} {D : va_G} {cA : FieldType → ClassId} {ad adV : Nat → Nat} {z0 : Nat} : aMet l D cA ad adV z0 mX11_init 4 83 175 11066 [.inr (.inr (.inl (some 0)))] sg_0 mg_0 none sg_49 mg_60 := by
  refine aMet_of (by decide +kernel) rfl (Nat.le_of_ble_eq_true rfl) (fun p e s m args below meth c al K => ?_)
  refine aw_aload_n (i := 0) K (dOf ck_mX11_init rfl rfl) rfl ?_
  refine aw_objInit (i := 1) K (dOf ck_mX11_init rfl rfl) ⟨wd_166, wd_167, wd_168⟩ (Nat.le_of_ble_eq_true rfl) ⟨Nat.le_of_ble_eq_true rfl, Nat.le_of_ble_eq_true rfl⟩ ?_
  refine aw_aload_n (i := 2) K (dOf ck_mX11_init rfl rfl) rfl ?_
  refine aw_newN (i := 3) (ci := 7) K (dOf ck_mX11_init rfl rfl) rfl wd_169 wd_170 wd_139 zt_7 (Nat.le_of_ble_eq_true rfl) (Nat.le_of_ble_eq_true rfl) 1 rfl (fun q1 => ?_)
  refine aw_dup (i := 4) K rfl (dOf ck_mX11_init rfl rfl) ?_
  refine aw_nm (sh' := sg_1) (mm' := mg_1) rfl rfl ?_
  refine aw_callIN (i := 5) (as := []) (q := 1) K (dOf ck_mX11_init rfl rfl) wd_172 (List.mem_append_right _ (List.mem_append_left _ (List.mem_of_getElem? (i := 34) rfl))) wd_139 (by decide +kernel) rfl rfl wd_171 rfl (Nat.le_of_ble_eq_true rfl) ⟨Nat.le_of_ble_eq_true rfl, Nat.le_of_ble_eq_true rfl⟩ ⟨Nat.le_of_ble_eq_true rfl, Nat.le_of_ble_eq_true rfl⟩ (Nat.le_of_ble_eq_true rfl) ct_4 (fun bl5 => ?_)
  refine aw_putr (i := 6) (k := 0) K (dOf ck_mX11_init rfl rfl) rfl rfl (Nat.le_of_ble_eq_true rfl) wd_460 rfl rfl rfl rfl (fitR (by decide +kernel)) ?_
  refine aw_aload_n (i := 7) K (dOf ck_mX11_init rfl rfl) rfl ?_
  refine aw_newN (i := 8) (ci := 8) K (dOf ck_mX11_init rfl rfl) rfl wd_287 wd_175 wd_140 zt_8 (Nat.le_of_ble_eq_true rfl) (Nat.le_of_ble_eq_true rfl) 25 rfl (fun q25 => ?_)
  refine aw_dup (i := 9) K rfl (dOf ck_mX11_init rfl rfl) ?_
  refine aw_nm (sh' := sg_5) (mm' := mg_8) rfl rfl ?_
  refine aw_callI (i := 10) (as := []) (q := 25) K (dOf ck_mX11_init rfl rfl) al_OneBreath_18 rfl rfl wd_177 rfl (Nat.le_of_ble_eq_true rfl) ⟨Nat.le_of_ble_eq_true rfl, Nat.le_of_ble_eq_true rfl⟩ ⟨Nat.le_of_ble_eq_true rfl, Nat.le_of_ble_eq_true rfl⟩ (Nat.le_of_ble_eq_true rfl) ct_8 (fun bl9 => ?_)
  refine aw_putr (i := 11) (k := 1) K (dOf ck_mX11_init rfl rfl) rfl rfl (Nat.le_of_ble_eq_true rfl) wd_461 rfl rfl rfl rfl (fitR (by decide +kernel)) ?_
  refine aw_aload_n (i := 12) K (dOf ck_mX11_init rfl rfl) rfl ?_
  refine aw_newN (i := 13) (ci := 6) K (dOf ck_mX11_init rfl rfl) rfl wd_289 wd_290 wd_142 zt_6 (Nat.le_of_ble_eq_true rfl) (Nat.le_of_ble_eq_true rfl) 47 rfl (fun q47 => ?_)
  refine aw_dup (i := 14) K rfl (dOf ck_mX11_init rfl rfl) ?_
  refine aw_nm (sh' := sg_7) (mm' := mg_13) rfl rfl ?_
  refine aw_callIN (i := 15) (as := []) (q := 47) K (dOf ck_mX11_init rfl rfl) wd_292 (List.mem_append_right _ (List.mem_append_left _ (List.mem_of_getElem? (i := 206) rfl))) wd_142 (by decide +kernel) rfl rfl wd_291 rfl (Nat.le_of_ble_eq_true rfl) ⟨Nat.le_of_ble_eq_true rfl, Nat.le_of_ble_eq_true rfl⟩ ⟨Nat.le_of_ble_eq_true rfl, Nat.le_of_ble_eq_true rfl⟩ (Nat.le_of_ble_eq_true rfl) ct_9 (fun bl10 => ?_)
  refine aw_putr (i := 16) (k := 2) K (dOf ck_mX11_init rfl rfl) rfl rfl (Nat.le_of_ble_eq_true rfl) wd_462 rfl rfl rfl rfl (fitR (by decide +kernel)) ?_
  refine aw_aload_n (i := 17) K (dOf ck_mX11_init rfl rfl) rfl ?_
  refine aw_newN (i := 18) (ci := 6) K (dOf ck_mX11_init rfl rfl) rfl wd_289 wd_290 wd_142 zt_6 (Nat.le_of_ble_eq_true rfl) (Nat.le_of_ble_eq_true rfl) 49 rfl (fun q49 => ?_)
  refine aw_dup (i := 19) K rfl (dOf ck_mX11_init rfl rfl) ?_
  refine aw_nm (sh' := sg_9) (mm' := mg_15) rfl rfl ?_
  refine aw_callIN (i := 20) (as := []) (q := 49) K (dOf ck_mX11_init rfl rfl) wd_292 (List.mem_append_right _ (List.mem_append_left _ (List.mem_of_getElem? (i := 206) rfl))) wd_142 (by decide +kernel) rfl rfl wd_291 rfl (Nat.le_of_ble_eq_true rfl) ⟨Nat.le_of_ble_eq_true rfl, Nat.le_of_ble_eq_true rfl⟩ ⟨Nat.le_of_ble_eq_true rfl, Nat.le_of_ble_eq_true rfl⟩ (Nat.le_of_ble_eq_true rfl) ct_10 (fun bl11 => ?_)
  refine aw_putr (i := 21) (k := 3) K (dOf ck_mX11_init rfl rfl) rfl rfl (Nat.le_of_ble_eq_true rfl) wd_463 rfl rfl rfl rfl (fitR (by decide +kernel)) ?_
  refine aw_aload_n (i := 22) K (dOf ck_mX11_init rfl rfl) rfl ?_
  refine aw_newN (i := 23) (ci := 5) K (dOf ck_mX11_init rfl rfl) rfl wd_306 wd_307 wd_143 zt_5 (Nat.le_of_ble_eq_true rfl) (Nat.le_of_ble_eq_true rfl) 51 rfl (fun q51 => ?_)
  refine aw_dup (i := 24) K rfl (dOf ck_mX11_init rfl rfl) ?_
  refine aw_nm (sh' := sg_11) (mm' := mg_17) rfl rfl ?_
  refine aw_callIN (i := 25) (as := []) (q := 51) K (dOf ck_mX11_init rfl rfl) wd_309 (List.mem_append_right _ (List.mem_append_left _ (List.mem_of_getElem? (i := 229) rfl))) wd_143 (by decide +kernel) rfl rfl wd_308 rfl (Nat.le_of_ble_eq_true rfl) ⟨Nat.le_of_ble_eq_true rfl, Nat.le_of_ble_eq_true rfl⟩ ⟨Nat.le_of_ble_eq_true rfl, Nat.le_of_ble_eq_true rfl⟩ (Nat.le_of_ble_eq_true rfl) ct_11 (fun bl12 => ?_)
  refine aw_putr (i := 26) (k := 4) K (dOf ck_mX11_init rfl rfl) rfl rfl (Nat.le_of_ble_eq_true rfl) wd_464 rfl rfl rfl rfl (fitR (by decide +kernel)) ?_
  refine aw_aload_n (i := 27) K (dOf ck_mX11_init rfl rfl) rfl ?_
  refine aw_newN (i := 28) (ci := 10) K (dOf ck_mX11_init rfl rfl) rfl wd_319 wd_320 wd_144 zt_10 (Nat.le_of_ble_eq_true rfl) (Nat.le_of_ble_eq_true rfl) 59 rfl (fun q59 => ?_)
  refine aw_dup (i := 29) K rfl (dOf ck_mX11_init rfl rfl) ?_
  refine aw_nm (sh' := sg_13) (mm' := mg_19) rfl rfl ?_
  refine aw_callIN (i := 30) (as := []) (q := 59) K (dOf ck_mX11_init rfl rfl) wd_322 (List.mem_append_right _ (List.mem_append_right _ (List.mem_append_left _ (List.mem_of_getElem? (i := 11) rfl)))) wd_144 (by decide +kernel) rfl rfl wd_321 rfl (Nat.le_of_ble_eq_true rfl) ⟨Nat.le_of_ble_eq_true rfl, Nat.le_of_ble_eq_true rfl⟩ ⟨Nat.le_of_ble_eq_true rfl, Nat.le_of_ble_eq_true rfl⟩ (Nat.le_of_ble_eq_true rfl) ct_12 (fun bl13 => ?_)
  refine aw_putr (i := 31) (k := 5) K (dOf ck_mX11_init rfl rfl) rfl rfl (Nat.le_of_ble_eq_true rfl) wd_465 rfl rfl rfl rfl (fitR (by decide +kernel)) ?_
  refine aw_aload_n (i := 32) K (dOf ck_mX11_init rfl rfl) rfl ?_
  refine aw_newN (i := 33) (ci := 1) K (dOf ck_mX11_init rfl rfl) rfl wd_336 wd_337 wd_145 zt_1 (Nat.le_of_ble_eq_true rfl) (Nat.le_of_ble_eq_true rfl) 61 rfl (fun q61 => ?_)
  refine aw_dup (i := 34) K rfl (dOf ck_mX11_init rfl rfl) ?_
  refine aw_aload_n (i := 35) K (dOf ck_mX11_init rfl rfl) rfl ?_
  refine aw_getf (i := 36) (k := 1) K (dOf ck_mX11_init rfl rfl) rfl rfl (Nat.le_of_ble_eq_true rfl) wd_461 rfl ?_
  refine aw_nm (sh' := sg_15) (mm' := mg_21) rfl rfl ?_
  refine aw_callI (i := 37) (as := [.inr (.inr (.inl (some 25)))]) (q := 61) K (dOf ck_mX11_init rfl rfl) al_OneBreath_49 rfl rfl wd_339 rfl (Nat.le_of_ble_eq_true rfl) ⟨Nat.le_of_ble_eq_true rfl, Nat.le_of_ble_eq_true rfl⟩ ⟨Nat.le_of_ble_eq_true rfl, Nat.le_of_ble_eq_true rfl⟩ (Nat.le_of_ble_eq_true rfl) ct_13 (fun bl14 => ?_)
  refine aw_putr (i := 38) (k := 6) K (dOf ck_mX11_init rfl rfl) rfl rfl (Nat.le_of_ble_eq_true rfl) wd_466 rfl rfl rfl rfl (fitR (by decide +kernel)) ?_
  refine aw_aload_n (i := 39) K (dOf ck_mX11_init rfl rfl) rfl ?_
  refine aw_newN (i := 40) (ci := 1) K (dOf ck_mX11_init rfl rfl) rfl wd_336 wd_337 wd_145 zt_1 (Nat.le_of_ble_eq_true rfl) (Nat.le_of_ble_eq_true rfl) 67 rfl (fun q67 => ?_)
  refine aw_dup (i := 41) K rfl (dOf ck_mX11_init rfl rfl) ?_
  refine aw_aload_n (i := 42) K (dOf ck_mX11_init rfl rfl) rfl ?_
  refine aw_getf (i := 43) (k := 1) K (dOf ck_mX11_init rfl rfl) rfl rfl (Nat.le_of_ble_eq_true rfl) wd_461 rfl ?_
  refine aw_nm (sh' := sg_17) (mm' := mg_23) rfl rfl ?_
  refine aw_callI (i := 44) (as := [.inr (.inr (.inl (some 25)))]) (q := 67) K (dOf ck_mX11_init rfl rfl) al_OneBreath_49 rfl rfl wd_339 rfl (Nat.le_of_ble_eq_true rfl) ⟨Nat.le_of_ble_eq_true rfl, Nat.le_of_ble_eq_true rfl⟩ ⟨Nat.le_of_ble_eq_true rfl, Nat.le_of_ble_eq_true rfl⟩ (Nat.le_of_ble_eq_true rfl) ct_14 (fun bl15 => ?_)
  refine aw_putr (i := 45) (k := 7) K (dOf ck_mX11_init rfl rfl) rfl rfl (Nat.le_of_ble_eq_true rfl) wd_467 rfl rfl rfl rfl (fitR (by decide +kernel)) ?_
  refine aw_aload_n (i := 46) K (dOf ck_mX11_init rfl rfl) rfl ?_
  refine aw_newN (i := 47) (ci := 4) K (dOf ck_mX11_init rfl rfl) rfl wd_357 wd_358 wd_146 zt_4 (Nat.le_of_ble_eq_true rfl) (Nat.le_of_ble_eq_true rfl) 73 rfl (fun q73 => ?_)
  refine aw_dup (i := 48) K rfl (dOf ck_mX11_init rfl rfl) ?_
  refine aw_aload_n (i := 49) K (dOf ck_mX11_init rfl rfl) rfl ?_
  refine aw_getf (i := 50) (k := 1) K (dOf ck_mX11_init rfl rfl) rfl rfl (Nat.le_of_ble_eq_true rfl) wd_461 rfl ?_
  refine aw_aload_n (i := 51) K (dOf ck_mX11_init rfl rfl) rfl ?_
  refine aw_getf (i := 52) (k := 7) K (dOf ck_mX11_init rfl rfl) rfl rfl (Nat.le_of_ble_eq_true rfl) wd_467 rfl ?_
  refine aw_nm (sh' := sg_19) (mm' := mg_25) rfl rfl ?_
  refine aw_callI (i := 53) (as := [.inr (.inr (.inl (some 25))), .inr (.inr (.inl (some 67)))]) (q := 73) K (dOf ck_mX11_init rfl rfl) al_OneBreath_61 rfl rfl wd_360 rfl (Nat.le_of_ble_eq_true rfl) ⟨Nat.le_of_ble_eq_true rfl, Nat.le_of_ble_eq_true rfl⟩ ⟨Nat.le_of_ble_eq_true rfl, Nat.le_of_ble_eq_true rfl⟩ (Nat.le_of_ble_eq_true rfl) ct_16 (fun bl17 => ?_)
  refine aw_putr (i := 54) (k := 8) K (dOf ck_mX11_init rfl rfl) rfl rfl (Nat.le_of_ble_eq_true rfl) wd_468 rfl rfl rfl rfl (fitR (by decide +kernel)) ?_
  refine aw_aload_n (i := 55) K (dOf ck_mX11_init rfl rfl) rfl ?_
  refine aw_newN (i := 56) (ci := 2) K (dOf ck_mX11_init rfl rfl) rfl wd_372 wd_373 wd_147 zt_2 (Nat.le_of_ble_eq_true rfl) (Nat.le_of_ble_eq_true rfl) 76 rfl (fun q76 => ?_)
  refine aw_dup (i := 57) K rfl (dOf ck_mX11_init rfl rfl) ?_
  refine aw_nm (sh' := sg_23) (mm' := mg_28) rfl rfl ?_
  refine aw_callIN (i := 58) (as := []) (q := 76) K (dOf ck_mX11_init rfl rfl) wd_375 (List.mem_append_right _ (List.mem_append_right _ (List.mem_append_left _ (List.mem_of_getElem? (i := 111) rfl)))) wd_147 (by decide +kernel) rfl rfl wd_374 rfl (Nat.le_of_ble_eq_true rfl) ⟨Nat.le_of_ble_eq_true rfl, Nat.le_of_ble_eq_true rfl⟩ ⟨Nat.le_of_ble_eq_true rfl, Nat.le_of_ble_eq_true rfl⟩ (Nat.le_of_ble_eq_true rfl) ct_17 (fun bl18 => ?_)
  refine aw_putr (i := 59) (k := 9) K (dOf ck_mX11_init rfl rfl) rfl rfl (Nat.le_of_ble_eq_true rfl) wd_469 rfl rfl rfl rfl (fitR (by decide +kernel)) ?_
  refine aw_aload_n (i := 60) K (dOf ck_mX11_init rfl rfl) rfl ?_
  refine aw_newN (i := 61) (ci := 3) K (dOf ck_mX11_init rfl rfl) rfl wd_379 wd_380 wd_148 zt_3 (Nat.le_of_ble_eq_true rfl) (Nat.le_of_ble_eq_true rfl) 79 rfl (fun q79 => ?_)
  refine aw_dup (i := 62) K rfl (dOf ck_mX11_init rfl rfl) ?_
  refine aw_aload_n (i := 63) K (dOf ck_mX11_init rfl rfl) rfl ?_
  refine aw_getf (i := 64) (k := 1) K (dOf ck_mX11_init rfl rfl) rfl rfl (Nat.le_of_ble_eq_true rfl) wd_461 rfl ?_
  refine aw_aload_n (i := 65) K (dOf ck_mX11_init rfl rfl) rfl ?_
  refine aw_getf (i := 66) (k := 9) K (dOf ck_mX11_init rfl rfl) rfl rfl (Nat.le_of_ble_eq_true rfl) wd_469 rfl ?_
  refine aw_nm (sh' := sg_25) (mm' := mg_30) rfl rfl ?_
  refine aw_callI (i := 67) (as := [.inr (.inr (.inl (some 25))), .inr (.inr (.inl (some 76)))]) (q := 79) K (dOf ck_mX11_init rfl rfl) al_OneBreath_77 rfl rfl wd_382 rfl (Nat.le_of_ble_eq_true rfl) ⟨Nat.le_of_ble_eq_true rfl, Nat.le_of_ble_eq_true rfl⟩ ⟨Nat.le_of_ble_eq_true rfl, Nat.le_of_ble_eq_true rfl⟩ (Nat.le_of_ble_eq_true rfl) ct_26 (fun bl27 => ?_)
  refine aw_putr (i := 68) (k := 10) K (dOf ck_mX11_init rfl rfl) rfl rfl (Nat.le_of_ble_eq_true rfl) wd_470 rfl rfl rfl rfl (fitR (by decide +kernel)) ?_
  refine aw_aload_n (i := 69) K (dOf ck_mX11_init rfl rfl) rfl ?_
  refine aw_newN (i := 70) (ci := 0) K (dOf ck_mX11_init rfl rfl) rfl wd_440 wd_441 wd_150 zt_0 (Nat.le_of_ble_eq_true rfl) (Nat.le_of_ble_eq_true rfl) 120 rfl (fun q120 => ?_)
  refine aw_dup (i := 71) K rfl (dOf ck_mX11_init rfl rfl) ?_
  refine aw_aload_n (i := 72) K (dOf ck_mX11_init rfl rfl) rfl ?_
  refine aw_getf (i := 73) (k := 1) K (dOf ck_mX11_init rfl rfl) rfl rfl (Nat.le_of_ble_eq_true rfl) wd_461 rfl ?_
  refine aw_nm (sh' := sg_39) (mm' := mg_45) rfl rfl ?_
  refine aw_callI (i := 74) (as := [.inr (.inr (.inl (some 25)))]) (q := 120) K (dOf ck_mX11_init rfl rfl) al_OneBreath_86 rfl rfl wd_443 rfl (Nat.le_of_ble_eq_true rfl) ⟨Nat.le_of_ble_eq_true rfl, Nat.le_of_ble_eq_true rfl⟩ ⟨Nat.le_of_ble_eq_true rfl, Nat.le_of_ble_eq_true rfl⟩ (Nat.le_of_ble_eq_true rfl) ct_27 (fun bl28 => ?_)
  refine aw_putr (i := 75) (k := 11) K (dOf ck_mX11_init rfl rfl) rfl rfl (Nat.le_of_ble_eq_true rfl) wd_471 rfl rfl rfl rfl (fitR (by decide +kernel)) ?_
  refine aw_aload_n (i := 76) K (dOf ck_mX11_init rfl rfl) rfl ?_
  refine aw_iconst (i := 77) K (n := 2) (i32 _ rfl) (dOf ck_mX11_init rfl rfl) ?_
  refine aw_newqN (i := 78) (n := 2) K (dOf ck_mX11_init rfl rfl) wd_287 (by decide) (Nat.le_of_ble_eq_true rfl) (Nat.le_of_ble_eq_true rfl) (Nat.le_of_ble_eq_true rfl) 125 rfl (fun q125 => ?_)
  refine aw_putr (i := 79) (k := 12) K (dOf ck_mX11_init rfl rfl) rfl rfl (Nat.le_of_ble_eq_true rfl) wd_472 rfl rfl rfl rfl (fitR (by decide +kernel)) ?_
  refine aw_aload_n (i := 80) K (dOf ck_mX11_init rfl rfl) rfl ?_
  refine aw_iconst (i := 81) K (n := 2) (i32 _ rfl) (dOf ck_mX11_init rfl rfl) ?_
  refine aw_newqN (i := 82) (n := 2) K (dOf ck_mX11_init rfl rfl) wd_289 (by decide) (Nat.le_of_ble_eq_true rfl) (Nat.le_of_ble_eq_true rfl) (Nat.le_of_ble_eq_true rfl) 126 rfl (fun q126 => ?_)
  refine aw_putr (i := 83) (k := 13) K (dOf ck_mX11_init rfl rfl) rfl rfl (Nat.le_of_ble_eq_true rfl) wd_473 rfl rfl rfl rfl (fitR (by decide +kernel)) ?_
  refine aw_aload_n (i := 84) K (dOf ck_mX11_init rfl rfl) rfl ?_
  refine aw_iconst (i := 85) K (n := 2) (i32 _ rfl) (dOf ck_mX11_init rfl rfl) ?_
  refine aw_newaN (i := 86) (n := 2) (ty := .boolean) K (dOf ck_mX11_init rfl rfl) rfl (by decide) wd_439 (Nat.le_of_ble_eq_true rfl) (Nat.le_of_ble_eq_true rfl) (Nat.le_of_ble_eq_true rfl) 127 rfl (fun q127 => ?_)
  refine aw_putr (i := 87) (k := 14) K (dOf ck_mX11_init rfl rfl) rfl rfl (Nat.le_of_ble_eq_true rfl) wd_474 rfl rfl rfl rfl (fitR (by decide +kernel)) ?_
  refine aw_iconst (i := 88) K (n := 0) (i32 _ rfl) (dOf ck_mX11_init rfl rfl) ?_
  refine aw_istore_n (i := 89) K (dOf ck_mX11_init rfl rfl) (Nat.le_of_ble_eq_true rfl) ?_
  refine aw_lvn (lv' := [(1, .inl 0), (0, .inr (.inr (.inl (some 0))))]) rfl ?_
  refine aw_iload_n (i := 90) K (dOf ck_mX11_init rfl rfl) rfl ?_
  refine aw_iconst (i := 91) K (n := 2) (i32 _ rfl) (dOf ck_mX11_init rfl rfl) ?_
  refine aw_icmp_ge (i := 92) K (dOf ck_mX11_init rfl rfl) (t := 109) (aJ_of (by decide +kernel)) (fun z => absurd z (by decide)) (fun _ => ?_)
  refine aw_aload_n (i := 93) K (dOf ck_mX11_init rfl rfl) rfl ?_
  refine aw_getf (i := 94) (k := 12) K (dOf ck_mX11_init rfl rfl) rfl rfl (Nat.le_of_ble_eq_true rfl) wd_472 rfl ?_
  refine aw_iload_n (i := 95) K (dOf ck_mX11_init rfl rfl) rfl ?_
  refine aw_newN (i := 96) (ci := 8) K (dOf ck_mX11_init rfl rfl) rfl wd_287 wd_175 wd_140 zt_8 (Nat.le_of_ble_eq_true rfl) (Nat.le_of_ble_eq_true rfl) 128 rfl (fun q128 => ?_)
  refine aw_dup (i := 97) K rfl (dOf ck_mX11_init rfl rfl) ?_
  refine aw_nm (sh' := sg_41) (mm' := mg_47) rfl rfl ?_
  refine aw_callI (i := 98) (as := []) (q := 128) K (dOf ck_mX11_init rfl rfl) al_OneBreath_18 rfl rfl wd_177 rfl (Nat.le_of_ble_eq_true rfl) ⟨Nat.le_of_ble_eq_true rfl, Nat.le_of_ble_eq_true rfl⟩ ⟨Nat.le_of_ble_eq_true rfl, Nat.le_of_ble_eq_true rfl⟩ (Nat.le_of_ble_eq_true rfl) ct_31 (fun bl32 => ?_)
  have hA : sg_42[125]? = some (.inr (.inr (.inl (.object "OneBreath$Tongue", [none, none])))) := rfl
  have hB : sg_42[128]? = some (.inr (.inr (.inr (8, [none, none, none, none, none, none, some (some 129), some (some 130), some (some 131), some (some 144), some (some 145), some (some 146), some (some 147), some (some 148), some (some 149)])))) := rfl
  refine aw_aast (i := 99) (rc := (RX8, TX8, 15)) (ci := 8) (q := 125) (x := 128) (rs := [none, none]) (fs := [none, none, none, none, none, none, some (some 129), some (some 130), some (some 131), some (some 144), some (some 145), some (some 146), some (some 147), some (some 148), some (some 149)]) (j := 0) K (dOf ck_mX11_init rfl rfl) hA hB rfl ⟨by decide, by decide⟩ ?_
  refine aw_aload_n (i := 100) K (dOf ck_mX11_init rfl rfl) rfl ?_
  refine aw_getf (i := 101) (k := 13) K (dOf ck_mX11_init rfl rfl) rfl rfl (Nat.le_of_ble_eq_true rfl) wd_473 rfl ?_
  refine aw_iload_n (i := 102) K (dOf ck_mX11_init rfl rfl) rfl ?_
  refine aw_newN (i := 103) (ci := 6) K (dOf ck_mX11_init rfl rfl) rfl wd_289 wd_290 wd_142 zt_6 (Nat.le_of_ble_eq_true rfl) (Nat.le_of_ble_eq_true rfl) 150 rfl (fun q150 => ?_)
  refine aw_dup (i := 104) K rfl (dOf ck_mX11_init rfl rfl) ?_
  refine aw_nm (sh' := sg_43) (mm' := mg_52) rfl rfl ?_
  refine aw_callIN (i := 105) (as := []) (q := 150) K (dOf ck_mX11_init rfl rfl) wd_292 (List.mem_append_right _ (List.mem_append_left _ (List.mem_of_getElem? (i := 206) rfl))) wd_142 (by decide +kernel) rfl rfl wd_291 rfl (Nat.le_of_ble_eq_true rfl) ⟨Nat.le_of_ble_eq_true rfl, Nat.le_of_ble_eq_true rfl⟩ ⟨Nat.le_of_ble_eq_true rfl, Nat.le_of_ble_eq_true rfl⟩ (Nat.le_of_ble_eq_true rfl) ct_32 (fun bl33 => ?_)
  have hA : sg_44[126]? = some (.inr (.inr (.inl (.object "OneBreath$Sounds", [none, none])))) := rfl
  have hB : sg_44[150]? = some (.inr (.inr (.inr (6, [some (some 151), none])))) := rfl
  refine aw_aast (i := 106) (rc := (RX6, TX6, 2)) (ci := 6) (q := 126) (x := 150) (rs := [none, none]) (fs := [some (some 151), none]) (j := 0) K (dOf ck_mX11_init rfl rfl) hA hB rfl ⟨by decide, by decide⟩ ?_
  refine aw_iinc (i := 107) K (dOf ck_mX11_init rfl rfl) (Nat.le_of_ble_eq_true rfl) rfl ?_
  refine aw_lvn (lv' := [(1, .inl 1), (0, .inr (.inr (.inl (some 0))))]) rfl ?_
  refine aw_goto (i := 108) K (dOf ck_mX11_init rfl rfl).1 (t := 90) (aJ_of (by decide +kernel)) ?_
  refine aw_iload_n (i := 90) K (dOf ck_mX11_init rfl rfl) rfl ?_
  refine aw_iconst (i := 91) K (n := 2) (i32 _ rfl) (dOf ck_mX11_init rfl rfl) ?_
  refine aw_icmp_ge (i := 92) K (dOf ck_mX11_init rfl rfl) (t := 109) (aJ_of (by decide +kernel)) (fun z => absurd z (by decide)) (fun _ => ?_)
  refine aw_aload_n (i := 93) K (dOf ck_mX11_init rfl rfl) rfl ?_
  refine aw_getf (i := 94) (k := 12) K (dOf ck_mX11_init rfl rfl) rfl rfl (Nat.le_of_ble_eq_true rfl) wd_472 rfl ?_
  refine aw_iload_n (i := 95) K (dOf ck_mX11_init rfl rfl) rfl ?_
  refine aw_newN (i := 96) (ci := 8) K (dOf ck_mX11_init rfl rfl) rfl wd_287 wd_175 wd_140 zt_8 (Nat.le_of_ble_eq_true rfl) (Nat.le_of_ble_eq_true rfl) 152 rfl (fun q152 => ?_)
  refine aw_dup (i := 97) K rfl (dOf ck_mX11_init rfl rfl) ?_
  refine aw_nm (sh' := sg_45) (mm' := mg_54) rfl rfl ?_
  refine aw_callI (i := 98) (as := []) (q := 152) K (dOf ck_mX11_init rfl rfl) al_OneBreath_18 rfl rfl wd_177 rfl (Nat.le_of_ble_eq_true rfl) ⟨Nat.le_of_ble_eq_true rfl, Nat.le_of_ble_eq_true rfl⟩ ⟨Nat.le_of_ble_eq_true rfl, Nat.le_of_ble_eq_true rfl⟩ (Nat.le_of_ble_eq_true rfl) ct_36 (fun bl37 => ?_)
  have hA : sg_46[125]? = some (.inr (.inr (.inl (.object "OneBreath$Tongue", [some 128, none])))) := rfl
  have hB : sg_46[152]? = some (.inr (.inr (.inr (8, [none, none, none, none, none, none, some (some 153), some (some 154), some (some 155), some (some 168), some (some 169), some (some 170), some (some 171), some (some 172), some (some 173)])))) := rfl
  refine aw_aast (i := 99) (rc := (RX8, TX8, 15)) (ci := 8) (q := 125) (x := 152) (rs := [some 128, none]) (fs := [none, none, none, none, none, none, some (some 153), some (some 154), some (some 155), some (some 168), some (some 169), some (some 170), some (some 171), some (some 172), some (some 173)]) (j := 1) K (dOf ck_mX11_init rfl rfl) hA hB rfl ⟨by decide, by decide⟩ ?_
  refine aw_aload_n (i := 100) K (dOf ck_mX11_init rfl rfl) rfl ?_
  refine aw_getf (i := 101) (k := 13) K (dOf ck_mX11_init rfl rfl) rfl rfl (Nat.le_of_ble_eq_true rfl) wd_473 rfl ?_
  refine aw_iload_n (i := 102) K (dOf ck_mX11_init rfl rfl) rfl ?_
  refine aw_newN (i := 103) (ci := 6) K (dOf ck_mX11_init rfl rfl) rfl wd_289 wd_290 wd_142 zt_6 (Nat.le_of_ble_eq_true rfl) (Nat.le_of_ble_eq_true rfl) 174 rfl (fun q174 => ?_)
  refine aw_dup (i := 104) K rfl (dOf ck_mX11_init rfl rfl) ?_
  refine aw_nm (sh' := sg_47) (mm' := mg_59) rfl rfl ?_
  refine aw_callIN (i := 105) (as := []) (q := 174) K (dOf ck_mX11_init rfl rfl) wd_292 (List.mem_append_right _ (List.mem_append_left _ (List.mem_of_getElem? (i := 206) rfl))) wd_142 (by decide +kernel) rfl rfl wd_291 rfl (Nat.le_of_ble_eq_true rfl) ⟨Nat.le_of_ble_eq_true rfl, Nat.le_of_ble_eq_true rfl⟩ ⟨Nat.le_of_ble_eq_true rfl, Nat.le_of_ble_eq_true rfl⟩ (Nat.le_of_ble_eq_true rfl) ct_37 (fun bl38 => ?_)
  have hA : sg_48[126]? = some (.inr (.inr (.inl (.object "OneBreath$Sounds", [some 150, none])))) := rfl
  have hB : sg_48[174]? = some (.inr (.inr (.inr (6, [some (some 175), none])))) := rfl
  refine aw_aast (i := 106) (rc := (RX6, TX6, 2)) (ci := 6) (q := 126) (x := 174) (rs := [some 150, none]) (fs := [some (some 175), none]) (j := 1) K (dOf ck_mX11_init rfl rfl) hA hB rfl ⟨by decide, by decide⟩ ?_
  refine aw_iinc (i := 107) K (dOf ck_mX11_init rfl rfl) (Nat.le_of_ble_eq_true rfl) rfl ?_
  refine aw_lvn (lv' := [(1, .inl 2), (0, .inr (.inr (.inl (some 0))))]) rfl ?_
  refine aw_goto (i := 108) K (dOf ck_mX11_init rfl rfl).1 (t := 90) (aJ_of (by decide +kernel)) ?_
  refine aw_iload_n (i := 90) K (dOf ck_mX11_init rfl rfl) rfl ?_
  refine aw_iconst (i := 91) K (n := 2) (i32 _ rfl) (dOf ck_mX11_init rfl rfl) ?_
  refine aw_icmp_ge (i := 92) K (dOf ck_mX11_init rfl rfl) (t := 109) (aJ_of (by decide +kernel)) (fun _ => ?_) (fun z => absurd (by decide) z)
  refine aw_nm (sh' := sg_49) (mm' := mg_60) rfl rfl ?_
  exact aw_vretA K (by decide +kernel) rfl (Nat.le_of_ble_eq_true rfl) (Nat.le_of_ble_eq_true rfl) (pre_app (pre_app (pre_app (pre_app (pre_app (pre_app (pre_app (pre_app (pre_app (pre_app (pre_app (pre_app (pre_app (pre_app (pre_app (pre_app (pre_app (pre_app (pre_app (pre_app (pre_app (pre_app (pre_app (pre_app (pre_app (pre_app (pre_app (pre_app (pre_app (pre_app (pre_app (pre_app (pre_app (pre_app (pre_app ⟨[], (List.append_nil _).symm⟩)))))))))))))))))))))))))))))))))))
def sg_50 : List aE := [.inr (.inr (.inr (11, [some (some 1), some (some 25), some (some 47), some (some 49), some (some 51), some (some 59), some (some 61), some (some 67), some (some 73), some (some 76), some (some 79), some (some 120), some (some 125), some (some 126), some (some 127)]))), .inr (.inr (.inr (7, [some (some 2), none, none, some (some 3), none, none, none, none, none]))), .inl (.byte, 500), .inr (.inr (.inr (8, [none, none, none, none, none, none, some (some 4), some (some 5), some (some 6), some (some 19), some (some 20), some (some 21), some (some 22), some (some 23), some (some 24)]))), .inl (.byte, 8), .inl (.int, 8), .inr (.inr (.inl (.array .byte, [some 7, some 8, some 9, some 10, some 11, some 12, some 13, some 14, some 15, some 16, some 17, some 18]))), .inl (.byte, 6), .inl (.byte, 6), .inl (.byte, 6), .inl (.byte, 6), .inl (.byte, 6), .inl (.byte, 6), .inl (.byte, 6), .inl (.byte, 6), .inl (.byte, 6), .inl (.byte, 6), .inl (.byte, 6), .inl (.byte, 6), .inl (.int, 12), .inl (.int, 12), .inl (.int, 12), .inl (.int, 4), .inl (.int, 6), .inl (.int, 6), .inr (.inr (.inr (8, [none, none, none, none, none, none, some (some 26), some (some 27), some (some 28), some (some 41), some (some 42), some (some 43), some (some 44), some (some 45), some (some 46)]))), .inl (.byte, 8), .inl (.int, 8), .inr (.inr (.inl (.array .byte, [some 29, some 30, some 31, some 32, some 33, some 34, some 35, some 36, some 37, some 38, some 39, some 40]))), .inl (.byte, 6), .inl (.byte, 6), .inl (.byte, 6), .inl (.byte, 6), .inl (.byte, 6), .inl (.byte, 6), .inl (.byte, 6), .inl (.byte, 6), .inl (.byte, 6), .inl (.byte, 6), .inl (.byte, 6), .inl (.byte, 6), .inl (.int, 12), .inl (.int, 12), .inl (.int, 12), .inl (.int, 4), .inl (.int, 6), .inl (.int, 6), .inr (.inr (.inr (6, [some (some 48), none]))), .inl (.byte, 40), .inr (.inr (.inr (6, [some (some 50), none]))), .inl (.byte, 40), .inr (.inr (.inr (5, [some (some 52), some (some 57), some (some 58)]))), .inr (.inr (.inl (.array .long, [some 53, some 54, some 55, some 56]))), .inr (.inl 40), .inr (.inl 40), .inr (.inl 40), .inr (.inl 40), .inl (.int, 4), .inl (.int, 4), .inr (.inr (.inr (10, [some (some 60), none, none, none, none, none]))), .inl (.int, 40), .inr (.inr (.inr (1, [some (some 25), none, some (some 62), some (some 63), some (some 64), none, some (some 65), some (some 66), none, none]))), .inl (.byte, 720), .inl (.int, 305), .inr (.inl 915), .inl (.int, 60), .inl (.int, 60), .inr (.inr (.inr (1, [some (some 25), none, some (some 68), some (some 69), some (some 70), none, some (some 71), some (some 72), none, none]))), .inl (.byte, 720), .inl (.int, 305), .inr (.inl 915), .inl (.int, 60), .inl (.int, 60), .inr (.inr (.inr (4, [some (some 25), some (some 67), some (some 74), none, none]))), .inr (.inr (.inr (6, [some (some 75), none]))), .inl (.byte, 40), .inr (.inr (.inr (2, [some (some 77), some (some 78)]))), .inl (.int, 6), .inl (.int, 7), .inr (.inr (.inr (3, [some (some 25), some (some 76), some (some 80), some (some 105), some (some 107), some (some 108), none, some (some 109), some (some 110), some (some 111), none, none, none, none, none, none]))), .inr (.inr (.inr (9, [none, none, none, some (some 81), some (some 95), some (some 96), some (some 97), some (some 98), some (some 99), none, none, none, none, none, some (some 100), some (some 101), none, some (some 102), some (some 103), some (some 104)]))), .inr (.inr (.inl (.array .byte, [some 82, some 83, some 84, some 85, some 86, some 87, some 88, some 89, some 90, some 91, some 92, some 93, some 94]))), .inl (.byte, 7), .inl (.byte, 7), .inl (.byte, 7), .inl (.byte, 7), .inl (.byte, 7), .inl (.byte, 7), .inl (.byte, 7), .inl (.byte, 7), .inl (.byte, 7), .inl (.byte, 7), .inl (.byte, 7), .inl (.byte, 7), .inl (.byte, 7), .inl (.int, 13), .inl (.int, 13), .inl (.int, 4), .inl (.int, 9), .inl (.int, 4), .inr (.inl 536), .inr (.inl 67), .inl (.short, 471), .inl (.short, 471), .inl (.byte, 471), .inr (.inr (.inr (6, [some (some 106), none]))), .inl (.byte, 40), .inl (.int, 3), .inl (.byte, 2826), .inl (.boolean, 4), .inr (.inr (.inl (.object "OneBreath$Sounds", [some 112, some 114, some 116, some 118]))), .inl (.int, 4), .inr (.inr (.inr (6, [some (some 113), none]))), .inl (.byte, 40), .inr (.inr (.inr (6, [some (some 115), none]))), .inl (.byte, 40), .inr (.inr (.inr (6, [some (some 117), none]))), .inl (.byte, 40), .inr (.inr (.inr (6, [some (some 119), none]))), .inl (.byte, 40), .inr (.inr (.inr (0, [some (some 25), some (some 121), none, some (some 122), some (some 123), some (some 124), none, none, none, none]))), .inl (.int, 20), .inl (.int, 4), .inl (.int, 4), .inl (.int, 4), .inr (.inr (.inl (.object "OneBreath$Tongue", [some 128, some 152]))), .inr (.inr (.inl (.object "OneBreath$Sounds", [some 150, some 174]))), .inl (.boolean, 2), .inr (.inr (.inr (8, [none, none, none, none, none, none, some (some 129), some (some 130), some (some 131), some (some 144), some (some 145), some (some 146), some (some 147), some (some 148), some (some 149)]))), .inl (.byte, 8), .inl (.int, 8), .inr (.inr (.inl (.array .byte, [some 132, some 133, some 134, some 135, some 136, some 137, some 138, some 139, some 140, some 141, some 142, some 143]))), .inl (.byte, 6), .inl (.byte, 6), .inl (.byte, 6), .inl (.byte, 6), .inl (.byte, 6), .inl (.byte, 6), .inl (.byte, 6), .inl (.byte, 6), .inl (.byte, 6), .inl (.byte, 6), .inl (.byte, 6), .inl (.byte, 6), .inl (.int, 12), .inl (.int, 12), .inl (.int, 12), .inl (.int, 4), .inl (.int, 6), .inl (.int, 6), .inr (.inr (.inr (6, [some (some 151), none]))), .inl (.byte, 40), .inr (.inr (.inr (8, [none, none, none, none, none, none, some (some 153), some (some 154), some (some 155), some (some 168), some (some 169), some (some 170), some (some 171), some (some 172), some (some 173)]))), .inl (.byte, 8), .inl (.int, 8), .inr (.inr (.inl (.array .byte, [some 156, some 157, some 158, some 159, some 160, some 161, some 162, some 163, some 164, some 165, some 166, some 167]))), .inl (.byte, 6), .inl (.byte, 6), .inl (.byte, 6), .inl (.byte, 6), .inl (.byte, 6), .inl (.byte, 6), .inl (.byte, 6), .inl (.byte, 6), .inl (.byte, 6), .inl (.byte, 6), .inl (.byte, 6), .inl (.byte, 6), .inl (.int, 12), .inl (.int, 12), .inl (.int, 12), .inl (.int, 4), .inl (.int, 6), .inl (.int, 6), .inr (.inr (.inr (6, [some (some 175), none]))), .inl (.byte, 40), .inr (.inr (.inr (12, [none, some none, some none, some none, some none, none, none, none, none, none, none, none, none, none, none, some none, some none, none, some none, some none, some none, some none, none, some none, some none, some none, some none, some none, some none, none, none, none, none, none, some none, some none, some none, some none, some none, none, none, some none, none, none, some none, some none, some none, some none, some none, some none, none, none, some none, some none, some none])))]
def mg_61 : aM := (aNew mg_60 176)
def sg_51 : List aE := [.inr (.inr (.inr (11, [some (some 1), some (some 25), some (some 47), some (some 49), some (some 51), some (some 59), some (some 61), some (some 67), some (some 73), some (some 76), some (some 79), some (some 120), some (some 125), some (some 126), some (some 127)]))), .inr (.inr (.inr (7, [some (some 2), none, none, some (some 3), none, none, none, none, none]))), .inl (.byte, 500), .inr (.inr (.inr (8, [none, none, none, none, none, none, some (some 4), some (some 5), some (some 6), some (some 19), some (some 20), some (some 21), some (some 22), some (some 23), some (some 24)]))), .inl (.byte, 8), .inl (.int, 8), .inr (.inr (.inl (.array .byte, [some 7, some 8, some 9, some 10, some 11, some 12, some 13, some 14, some 15, some 16, some 17, some 18]))), .inl (.byte, 6), .inl (.byte, 6), .inl (.byte, 6), .inl (.byte, 6), .inl (.byte, 6), .inl (.byte, 6), .inl (.byte, 6), .inl (.byte, 6), .inl (.byte, 6), .inl (.byte, 6), .inl (.byte, 6), .inl (.byte, 6), .inl (.int, 12), .inl (.int, 12), .inl (.int, 12), .inl (.int, 4), .inl (.int, 6), .inl (.int, 6), .inr (.inr (.inr (8, [none, none, none, none, none, none, some (some 26), some (some 27), some (some 28), some (some 41), some (some 42), some (some 43), some (some 44), some (some 45), some (some 46)]))), .inl (.byte, 8), .inl (.int, 8), .inr (.inr (.inl (.array .byte, [some 29, some 30, some 31, some 32, some 33, some 34, some 35, some 36, some 37, some 38, some 39, some 40]))), .inl (.byte, 6), .inl (.byte, 6), .inl (.byte, 6), .inl (.byte, 6), .inl (.byte, 6), .inl (.byte, 6), .inl (.byte, 6), .inl (.byte, 6), .inl (.byte, 6), .inl (.byte, 6), .inl (.byte, 6), .inl (.byte, 6), .inl (.int, 12), .inl (.int, 12), .inl (.int, 12), .inl (.int, 4), .inl (.int, 6), .inl (.int, 6), .inr (.inr (.inr (6, [some (some 48), none]))), .inl (.byte, 40), .inr (.inr (.inr (6, [some (some 50), none]))), .inl (.byte, 40), .inr (.inr (.inr (5, [some (some 52), some (some 57), some (some 58)]))), .inr (.inr (.inl (.array .long, [some 53, some 54, some 55, some 56]))), .inr (.inl 40), .inr (.inl 40), .inr (.inl 40), .inr (.inl 40), .inl (.int, 4), .inl (.int, 4), .inr (.inr (.inr (10, [some (some 60), none, none, none, none, none]))), .inl (.int, 40), .inr (.inr (.inr (1, [some (some 25), none, some (some 62), some (some 63), some (some 64), none, some (some 65), some (some 66), none, none]))), .inl (.byte, 720), .inl (.int, 305), .inr (.inl 915), .inl (.int, 60), .inl (.int, 60), .inr (.inr (.inr (1, [some (some 25), none, some (some 68), some (some 69), some (some 70), none, some (some 71), some (some 72), none, none]))), .inl (.byte, 720), .inl (.int, 305), .inr (.inl 915), .inl (.int, 60), .inl (.int, 60), .inr (.inr (.inr (4, [some (some 25), some (some 67), some (some 74), none, none]))), .inr (.inr (.inr (6, [some (some 75), none]))), .inl (.byte, 40), .inr (.inr (.inr (2, [some (some 77), some (some 78)]))), .inl (.int, 6), .inl (.int, 7), .inr (.inr (.inr (3, [some (some 25), some (some 76), some (some 80), some (some 105), some (some 107), some (some 108), none, some (some 109), some (some 110), some (some 111), none, none, none, none, none, none]))), .inr (.inr (.inr (9, [none, none, none, some (some 81), some (some 95), some (some 96), some (some 97), some (some 98), some (some 99), none, none, none, none, none, some (some 100), some (some 101), none, some (some 102), some (some 103), some (some 104)]))), .inr (.inr (.inl (.array .byte, [some 82, some 83, some 84, some 85, some 86, some 87, some 88, some 89, some 90, some 91, some 92, some 93, some 94]))), .inl (.byte, 7), .inl (.byte, 7), .inl (.byte, 7), .inl (.byte, 7), .inl (.byte, 7), .inl (.byte, 7), .inl (.byte, 7), .inl (.byte, 7), .inl (.byte, 7), .inl (.byte, 7), .inl (.byte, 7), .inl (.byte, 7), .inl (.byte, 7), .inl (.int, 13), .inl (.int, 13), .inl (.int, 4), .inl (.int, 9), .inl (.int, 4), .inr (.inl 536), .inr (.inl 67), .inl (.short, 471), .inl (.short, 471), .inl (.byte, 471), .inr (.inr (.inr (6, [some (some 106), none]))), .inl (.byte, 40), .inl (.int, 3), .inl (.byte, 2826), .inl (.boolean, 4), .inr (.inr (.inl (.object "OneBreath$Sounds", [some 112, some 114, some 116, some 118]))), .inl (.int, 4), .inr (.inr (.inr (6, [some (some 113), none]))), .inl (.byte, 40), .inr (.inr (.inr (6, [some (some 115), none]))), .inl (.byte, 40), .inr (.inr (.inr (6, [some (some 117), none]))), .inl (.byte, 40), .inr (.inr (.inr (6, [some (some 119), none]))), .inl (.byte, 40), .inr (.inr (.inr (0, [some (some 25), some (some 121), none, some (some 122), some (some 123), some (some 124), none, none, none, none]))), .inl (.int, 20), .inl (.int, 4), .inl (.int, 4), .inl (.int, 4), .inr (.inr (.inl (.object "OneBreath$Tongue", [some 128, some 152]))), .inr (.inr (.inl (.object "OneBreath$Sounds", [some 150, some 174]))), .inl (.boolean, 2), .inr (.inr (.inr (8, [none, none, none, none, none, none, some (some 129), some (some 130), some (some 131), some (some 144), some (some 145), some (some 146), some (some 147), some (some 148), some (some 149)]))), .inl (.byte, 8), .inl (.int, 8), .inr (.inr (.inl (.array .byte, [some 132, some 133, some 134, some 135, some 136, some 137, some 138, some 139, some 140, some 141, some 142, some 143]))), .inl (.byte, 6), .inl (.byte, 6), .inl (.byte, 6), .inl (.byte, 6), .inl (.byte, 6), .inl (.byte, 6), .inl (.byte, 6), .inl (.byte, 6), .inl (.byte, 6), .inl (.byte, 6), .inl (.byte, 6), .inl (.byte, 6), .inl (.int, 12), .inl (.int, 12), .inl (.int, 12), .inl (.int, 4), .inl (.int, 6), .inl (.int, 6), .inr (.inr (.inr (6, [some (some 151), none]))), .inl (.byte, 40), .inr (.inr (.inr (8, [none, none, none, none, none, none, some (some 153), some (some 154), some (some 155), some (some 168), some (some 169), some (some 170), some (some 171), some (some 172), some (some 173)]))), .inl (.byte, 8), .inl (.int, 8), .inr (.inr (.inl (.array .byte, [some 156, some 157, some 158, some 159, some 160, some 161, some 162, some 163, some 164, some 165, some 166, some 167]))), .inl (.byte, 6), .inl (.byte, 6), .inl (.byte, 6), .inl (.byte, 6), .inl (.byte, 6), .inl (.byte, 6), .inl (.byte, 6), .inl (.byte, 6), .inl (.byte, 6), .inl (.byte, 6), .inl (.byte, 6), .inl (.byte, 6), .inl (.int, 12), .inl (.int, 12), .inl (.int, 12), .inl (.int, 4), .inl (.int, 6), .inl (.int, 6), .inr (.inr (.inr (6, [some (some 175), none]))), .inl (.byte, 40), .inr (.inr (.inr (12, [none, some (some 177), some (some 178), some (some 179), some (some 180), none, none, none, none, none, none, none, none, none, none, some (some 181), some (some 182), none, some (some 183), some (some 184), some (some 185), some (some 186), none, some (some 187), some (some 188), some (some 189), some (some 190), some (some 191), some (some 192), none, none, none, none, none, some (some 193), some (some 194), some (some 195), some (some 196), some (some 197), none, none, some (some 198), none, none, some (some 199), some (some 200), some (some 201), some (some 202), some (some 203), some (some 204), none, none, some (some 205), some (some 206), some (some 207)]))), .inl (.int, 588), .inl (.boolean, 2), .inl (.int, 500), .inl (.int, 155), .inl (.int, 200), .inl (.int, 40), .inr (.inl 1722), .inl (.int, 574), .inl (.int, 574), .inl (.int, 40), .inl (.int, 574), .inr (.inl 533), .inl (.int, 54834), .inl (.int, 54834), .inl (.boolean, 54834), .inl (.boolean, 54834), .inl (.int, 54834), .inl (.int, 13), .inl (.int, 13), .inl (.int, 54834), .inl (.int, 54834), .inl (.int, 3), .inl (.int, 24), .inl (.boolean, 24), .inr (.inl 793), .inl (.int, 13), .inl (.int, 13), .inl (.int, 854), .inl (.int, 4), .inl (.int, 4), .inr (.inl 160)]
def mg_62 : aM := (aNew (aNew (aup (aup (aup (aup (aNew (aNew (aNew (aNew (aNew (aNew (aNew (aNew (aNew (aNew (aNew (aNew (aNew (aNew (aNew (aNew (aNew (aNew (aNew (aNew (aNew (aNew (aNew (aNew (aNew (aup (aNew (aNew (aNew (aNew mg_61 177) 178) 179) 180) 176 14 (-1)) 181) 182) 183) 184) 185) 186) 187) 188) 189) 190) 191) 192) 193) 194) 195) 196) 197) 198) 199) 200) 201) 202) 203) 204) 205) 205 0 (-1)) 205 1 (-1)) 205 2 (-1)) 205 3 (-1)) 206) 207)
set_option maxHeartbeats 8000000 in
set_option maxRecDepth 20000 in
/-- OneBreathModel.<init> -/
theorem ct_39 {l : Launch} {D : va_G} {cA : FieldType → ClassId} {ad adV : Nat → Nat} {z0 : Nat} : aMet l D cA ad adV z0 mX12_init 1 20 31 391258 [.inr (.inr (.inl (some 176)))] sg_50 mg_61 none sg_51 mg_62 := by
  refine aMet_of (by decide +kernel) rfl (Nat.le_of_ble_eq_true rfl) (fun p e s m args below meth c al K => ?_)
  refine aw_aload_n (i := 0) K (dOf ck_mX12_init rfl rfl) rfl ?_
  refine aw_objInit (i := 1) K (dOf ck_mX12_init rfl rfl) ⟨wd_1203, wd_167, wd_168⟩ (Nat.le_of_ble_eq_true rfl) ⟨Nat.le_of_ble_eq_true rfl, Nat.le_of_ble_eq_true rfl⟩ ?_
  refine aw_aload_n (i := 2) K (dOf ck_mX12_init rfl rfl) rfl ?_
  refine aw_sip (i := 3) K (dOf ck_mX12_init rfl rfl) (v := 588) rfl ?_
  refine aw_newaN (i := 4) (n := 588) (ty := .int) K (dOf ck_mX12_init rfl rfl) rfl (by decide) wd_273 (Nat.le_of_ble_eq_true rfl) (Nat.le_of_ble_eq_true rfl) (Nat.le_of_ble_eq_true rfl) 177 rfl (fun q177 => ?_)
  refine aw_putr (i := 5) (k := 1) K (dOf ck_mX12_init rfl rfl) rfl rfl (Nat.le_of_ble_eq_true rfl) wd_1206 rfl rfl rfl rfl (fitR (by decide +kernel)) ?_
  refine aw_aload_n (i := 6) K (dOf ck_mX12_init rfl rfl) rfl ?_
  refine aw_iconst (i := 7) K (n := 2) (i32 _ rfl) (dOf ck_mX12_init rfl rfl) ?_
  refine aw_newaN (i := 8) (n := 2) (ty := .boolean) K (dOf ck_mX12_init rfl rfl) rfl (by decide) wd_439 (Nat.le_of_ble_eq_true rfl) (Nat.le_of_ble_eq_true rfl) (Nat.le_of_ble_eq_true rfl) 178 rfl (fun q178 => ?_)
  refine aw_putr (i := 9) (k := 2) K (dOf ck_mX12_init rfl rfl) rfl rfl (Nat.le_of_ble_eq_true rfl) wd_1207 rfl rfl rfl rfl (fitR (by decide +kernel)) ?_
  refine aw_aload_n (i := 10) K (dOf ck_mX12_init rfl rfl) rfl ?_
  refine aw_sip (i := 11) K (dOf ck_mX12_init rfl rfl) (v := 500) rfl ?_
  refine aw_newaN (i := 12) (n := 500) (ty := .int) K (dOf ck_mX12_init rfl rfl) rfl (by decide) wd_273 (Nat.le_of_ble_eq_true rfl) (Nat.le_of_ble_eq_true rfl) (Nat.le_of_ble_eq_true rfl) 179 rfl (fun q179 => ?_)
  refine aw_putr (i := 13) (k := 3) K (dOf ck_mX12_init rfl rfl) rfl rfl (Nat.le_of_ble_eq_true rfl) wd_1208 rfl rfl rfl rfl (fitR (by decide +kernel)) ?_
  refine aw_aload_n (i := 14) K (dOf ck_mX12_init rfl rfl) rfl ?_
  refine aw_sip (i := 15) K (dOf ck_mX12_init rfl rfl) (v := 155) rfl ?_
  refine aw_newaN (i := 16) (n := 155) (ty := .int) K (dOf ck_mX12_init rfl rfl) rfl (by decide) wd_273 (Nat.le_of_ble_eq_true rfl) (Nat.le_of_ble_eq_true rfl) (Nat.le_of_ble_eq_true rfl) 180 rfl (fun q180 => ?_)
  refine aw_putr (i := 17) (k := 4) K (dOf ck_mX12_init rfl rfl) rfl rfl (Nat.le_of_ble_eq_true rfl) wd_1209 rfl rfl rfl rfl (fitR (by decide +kernel)) ?_
  refine aw_aload_n (i := 18) K (dOf ck_mX12_init rfl rfl) rfl ?_
  refine aw_iconst (i := 19) K (n := -1) (i32 _ rfl) (dOf ck_mX12_init rfl rfl) ?_
  refine aw_putf (i := 20) (k := 14) K (dOf ck_mX12_init rfl rfl) rfl rfl (Nat.le_of_ble_eq_true rfl) wd_1219 rfl rfl (Or.inl rfl) ?_
  refine aw_aload_n (i := 21) K (dOf ck_mX12_init rfl rfl) rfl ?_
  refine aw_sip (i := 22) K (dOf ck_mX12_init rfl rfl) (v := 200) rfl ?_
  refine aw_newaN (i := 23) (n := 200) (ty := .int) K (dOf ck_mX12_init rfl rfl) rfl (by decide) wd_273 (Nat.le_of_ble_eq_true rfl) (Nat.le_of_ble_eq_true rfl) (Nat.le_of_ble_eq_true rfl) 181 rfl (fun q181 => ?_)
  refine aw_putr (i := 24) (k := 15) K (dOf ck_mX12_init rfl rfl) rfl rfl (Nat.le_of_ble_eq_true rfl) wd_1220 rfl rfl rfl rfl (fitR (by decide +kernel)) ?_
  refine aw_aload_n (i := 25) K (dOf ck_mX12_init rfl rfl) rfl ?_
  refine aw_bip (i := 26) K (dOf ck_mX12_init rfl rfl) (v := 40) rfl ?_
  refine aw_newaN (i := 27) (n := 40) (ty := .int) K (dOf ck_mX12_init rfl rfl) rfl (by decide) wd_273 (Nat.le_of_ble_eq_true rfl) (Nat.le_of_ble_eq_true rfl) (Nat.le_of_ble_eq_true rfl) 182 rfl (fun q182 => ?_)
  refine aw_putr (i := 28) (k := 16) K (dOf ck_mX12_init rfl rfl) rfl rfl (Nat.le_of_ble_eq_true rfl) wd_1221 rfl rfl rfl rfl (fitR (by decide +kernel)) ?_
  refine aw_aload_n (i := 29) K (dOf ck_mX12_init rfl rfl) rfl ?_
  refine aw_sip (i := 30) K (dOf ck_mX12_init rfl rfl) (v := 1722) rfl ?_
  refine aw_newlN (i := 31) (n := 1722) K (dOf ck_mX12_init rfl rfl) wd_318 (Nat.le_of_ble_eq_true rfl) (Nat.le_of_ble_eq_true rfl) (Nat.le_of_ble_eq_true rfl) 183 rfl (fun q183 => ?_)
  refine aw_putr (i := 32) (k := 18) K (dOf ck_mX12_init rfl rfl) rfl rfl (Nat.le_of_ble_eq_true rfl) wd_1223 rfl rfl rfl rfl (fitR (by decide +kernel)) ?_
  refine aw_aload_n (i := 33) K (dOf ck_mX12_init rfl rfl) rfl ?_
  refine aw_sip (i := 34) K (dOf ck_mX12_init rfl rfl) (v := 574) rfl ?_
  refine aw_newaN (i := 35) (n := 574) (ty := .int) K (dOf ck_mX12_init rfl rfl) rfl (by decide) wd_273 (Nat.le_of_ble_eq_true rfl) (Nat.le_of_ble_eq_true rfl) (Nat.le_of_ble_eq_true rfl) 184 rfl (fun q184 => ?_)
  refine aw_putr (i := 36) (k := 19) K (dOf ck_mX12_init rfl rfl) rfl rfl (Nat.le_of_ble_eq_true rfl) wd_1224 rfl rfl rfl rfl (fitR (by decide +kernel)) ?_
  refine aw_aload_n (i := 37) K (dOf ck_mX12_init rfl rfl) rfl ?_
  refine aw_sip (i := 38) K (dOf ck_mX12_init rfl rfl) (v := 574) rfl ?_
  refine aw_newaN (i := 39) (n := 574) (ty := .int) K (dOf ck_mX12_init rfl rfl) rfl (by decide) wd_273 (Nat.le_of_ble_eq_true rfl) (Nat.le_of_ble_eq_true rfl) (Nat.le_of_ble_eq_true rfl) 185 rfl (fun q185 => ?_)
  refine aw_putr (i := 40) (k := 20) K (dOf ck_mX12_init rfl rfl) rfl rfl (Nat.le_of_ble_eq_true rfl) wd_1225 rfl rfl rfl rfl (fitR (by decide +kernel)) ?_
  refine aw_aload_n (i := 41) K (dOf ck_mX12_init rfl rfl) rfl ?_
  refine aw_bip (i := 42) K (dOf ck_mX12_init rfl rfl) (v := 40) rfl ?_
  refine aw_newaN (i := 43) (n := 40) (ty := .int) K (dOf ck_mX12_init rfl rfl) rfl (by decide) wd_273 (Nat.le_of_ble_eq_true rfl) (Nat.le_of_ble_eq_true rfl) (Nat.le_of_ble_eq_true rfl) 186 rfl (fun q186 => ?_)
  refine aw_putr (i := 44) (k := 21) K (dOf ck_mX12_init rfl rfl) rfl rfl (Nat.le_of_ble_eq_true rfl) wd_1226 rfl rfl rfl rfl (fitR (by decide +kernel)) ?_
  refine aw_aload_n (i := 45) K (dOf ck_mX12_init rfl rfl) rfl ?_
  refine aw_sip (i := 46) K (dOf ck_mX12_init rfl rfl) (v := 574) rfl ?_
  refine aw_newaN (i := 47) (n := 574) (ty := .int) K (dOf ck_mX12_init rfl rfl) rfl (by decide) wd_273 (Nat.le_of_ble_eq_true rfl) (Nat.le_of_ble_eq_true rfl) (Nat.le_of_ble_eq_true rfl) 187 rfl (fun q187 => ?_)
  refine aw_putr (i := 48) (k := 23) K (dOf ck_mX12_init rfl rfl) rfl rfl (Nat.le_of_ble_eq_true rfl) wd_1228 rfl rfl rfl rfl (fitR (by decide +kernel)) ?_
  refine aw_aload_n (i := 49) K (dOf ck_mX12_init rfl rfl) rfl ?_
  refine aw_sip (i := 50) K (dOf ck_mX12_init rfl rfl) (v := 533) rfl ?_
  refine aw_newlN (i := 51) (n := 533) K (dOf ck_mX12_init rfl rfl) wd_318 (Nat.le_of_ble_eq_true rfl) (Nat.le_of_ble_eq_true rfl) (Nat.le_of_ble_eq_true rfl) 188 rfl (fun q188 => ?_)
  refine aw_putr (i := 52) (k := 24) K (dOf ck_mX12_init rfl rfl) rfl rfl (Nat.le_of_ble_eq_true rfl) wd_1229 rfl rfl rfl rfl (fitR (by decide +kernel)) ?_
  refine aw_aload_n (i := 53) K (dOf ck_mX12_init rfl rfl) rfl ?_
  refine aw_ldc (i := 54) K (dOf ck_mX12_init rfl rfl) (n := 54834) wd_1204 (i32 _ rfl) ?_
  refine aw_newaN (i := 55) (n := 54834) (ty := .int) K (dOf ck_mX12_init rfl rfl) rfl (by decide) wd_273 (Nat.le_of_ble_eq_true rfl) (Nat.le_of_ble_eq_true rfl) (Nat.le_of_ble_eq_true rfl) 189 rfl (fun q189 => ?_)
  refine aw_putr (i := 56) (k := 25) K (dOf ck_mX12_init rfl rfl) rfl rfl (Nat.le_of_ble_eq_true rfl) wd_1230 rfl rfl rfl rfl (fitR (by decide +kernel)) ?_
  refine aw_aload_n (i := 57) K (dOf ck_mX12_init rfl rfl) rfl ?_
  refine aw_ldc (i := 58) K (dOf ck_mX12_init rfl rfl) (n := 54834) wd_1204 (i32 _ rfl) ?_
  refine aw_newaN (i := 59) (n := 54834) (ty := .int) K (dOf ck_mX12_init rfl rfl) rfl (by decide) wd_273 (Nat.le_of_ble_eq_true rfl) (Nat.le_of_ble_eq_true rfl) (Nat.le_of_ble_eq_true rfl) 190 rfl (fun q190 => ?_)
  refine aw_putr (i := 60) (k := 26) K (dOf ck_mX12_init rfl rfl) rfl rfl (Nat.le_of_ble_eq_true rfl) wd_1231 rfl rfl rfl rfl (fitR (by decide +kernel)) ?_
  refine aw_aload_n (i := 61) K (dOf ck_mX12_init rfl rfl) rfl ?_
  refine aw_ldc (i := 62) K (dOf ck_mX12_init rfl rfl) (n := 54834) wd_1204 (i32 _ rfl) ?_
  refine aw_newaN (i := 63) (n := 54834) (ty := .boolean) K (dOf ck_mX12_init rfl rfl) rfl (by decide) wd_439 (Nat.le_of_ble_eq_true rfl) (Nat.le_of_ble_eq_true rfl) (Nat.le_of_ble_eq_true rfl) 191 rfl (fun q191 => ?_)
  refine aw_putr (i := 64) (k := 27) K (dOf ck_mX12_init rfl rfl) rfl rfl (Nat.le_of_ble_eq_true rfl) wd_1232 rfl rfl rfl rfl (fitR (by decide +kernel)) ?_
  refine aw_aload_n (i := 65) K (dOf ck_mX12_init rfl rfl) rfl ?_
  refine aw_ldc (i := 66) K (dOf ck_mX12_init rfl rfl) (n := 54834) wd_1204 (i32 _ rfl) ?_
  refine aw_newaN (i := 67) (n := 54834) (ty := .boolean) K (dOf ck_mX12_init rfl rfl) rfl (by decide) wd_439 (Nat.le_of_ble_eq_true rfl) (Nat.le_of_ble_eq_true rfl) (Nat.le_of_ble_eq_true rfl) 192 rfl (fun q192 => ?_)
  refine aw_putr (i := 68) (k := 28) K (dOf ck_mX12_init rfl rfl) rfl rfl (Nat.le_of_ble_eq_true rfl) wd_1233 rfl rfl rfl rfl (fitR (by decide +kernel)) ?_
  refine aw_aload_n (i := 69) K (dOf ck_mX12_init rfl rfl) rfl ?_
  refine aw_ldc (i := 70) K (dOf ck_mX12_init rfl rfl) (n := 54834) wd_1204 (i32 _ rfl) ?_
  refine aw_newaN (i := 71) (n := 54834) (ty := .int) K (dOf ck_mX12_init rfl rfl) rfl (by decide) wd_273 (Nat.le_of_ble_eq_true rfl) (Nat.le_of_ble_eq_true rfl) (Nat.le_of_ble_eq_true rfl) 193 rfl (fun q193 => ?_)
  refine aw_putr (i := 72) (k := 34) K (dOf ck_mX12_init rfl rfl) rfl rfl (Nat.le_of_ble_eq_true rfl) wd_1239 rfl rfl rfl rfl (fitR (by decide +kernel)) ?_
  refine aw_aload_n (i := 73) K (dOf ck_mX12_init rfl rfl) rfl ?_
  refine aw_bip (i := 74) K (dOf ck_mX12_init rfl rfl) (v := 13) rfl ?_
  refine aw_newaN (i := 75) (n := 13) (ty := .int) K (dOf ck_mX12_init rfl rfl) rfl (by decide) wd_273 (Nat.le_of_ble_eq_true rfl) (Nat.le_of_ble_eq_true rfl) (Nat.le_of_ble_eq_true rfl) 194 rfl (fun q194 => ?_)
  refine aw_putr (i := 76) (k := 35) K (dOf ck_mX12_init rfl rfl) rfl rfl (Nat.le_of_ble_eq_true rfl) wd_1240 rfl rfl rfl rfl (fitR (by decide +kernel)) ?_
  refine aw_aload_n (i := 77) K (dOf ck_mX12_init rfl rfl) rfl ?_
  refine aw_bip (i := 78) K (dOf ck_mX12_init rfl rfl) (v := 13) rfl ?_
  refine aw_newaN (i := 79) (n := 13) (ty := .int) K (dOf ck_mX12_init rfl rfl) rfl (by decide) wd_273 (Nat.le_of_ble_eq_true rfl) (Nat.le_of_ble_eq_true rfl) (Nat.le_of_ble_eq_true rfl) 195 rfl (fun q195 => ?_)
  refine aw_putr (i := 80) (k := 36) K (dOf ck_mX12_init rfl rfl) rfl rfl (Nat.le_of_ble_eq_true rfl) wd_1241 rfl rfl rfl rfl (fitR (by decide +kernel)) ?_
  refine aw_aload_n (i := 81) K (dOf ck_mX12_init rfl rfl) rfl ?_
  refine aw_ldc (i := 82) K (dOf ck_mX12_init rfl rfl) (n := 54834) wd_1204 (i32 _ rfl) ?_
  refine aw_newaN (i := 83) (n := 54834) (ty := .int) K (dOf ck_mX12_init rfl rfl) rfl (by decide) wd_273 (Nat.le_of_ble_eq_true rfl) (Nat.le_of_ble_eq_true rfl) (Nat.le_of_ble_eq_true rfl) 196 rfl (fun q196 => ?_)
  refine aw_putr (i := 84) (k := 37) K (dOf ck_mX12_init rfl rfl) rfl rfl (Nat.le_of_ble_eq_true rfl) wd_1242 rfl rfl rfl rfl (fitR (by decide +kernel)) ?_
  refine aw_aload_n (i := 85) K (dOf ck_mX12_init rfl rfl) rfl ?_
  refine aw_ldc (i := 86) K (dOf ck_mX12_init rfl rfl) (n := 54834) wd_1204 (i32 _ rfl) ?_
  refine aw_newaN (i := 87) (n := 54834) (ty := .int) K (dOf ck_mX12_init rfl rfl) rfl (by decide) wd_273 (Nat.le_of_ble_eq_true rfl) (Nat.le_of_ble_eq_true rfl) (Nat.le_of_ble_eq_true rfl) 197 rfl (fun q197 => ?_)
  refine aw_putr (i := 88) (k := 38) K (dOf ck_mX12_init rfl rfl) rfl rfl (Nat.le_of_ble_eq_true rfl) wd_1243 rfl rfl rfl rfl (fitR (by decide +kernel)) ?_
  refine aw_aload_n (i := 89) K (dOf ck_mX12_init rfl rfl) rfl ?_
  refine aw_iconst (i := 90) K (n := 3) (i32 _ rfl) (dOf ck_mX12_init rfl rfl) ?_
  refine aw_newaN (i := 91) (n := 3) (ty := .int) K (dOf ck_mX12_init rfl rfl) rfl (by decide) wd_273 (Nat.le_of_ble_eq_true rfl) (Nat.le_of_ble_eq_true rfl) (Nat.le_of_ble_eq_true rfl) 198 rfl (fun q198 => ?_)
  refine aw_putr (i := 92) (k := 41) K (dOf ck_mX12_init rfl rfl) rfl rfl (Nat.le_of_ble_eq_true rfl) wd_1246 rfl rfl rfl rfl (fitR (by decide +kernel)) ?_
  refine aw_aload_n (i := 93) K (dOf ck_mX12_init rfl rfl) rfl ?_
  refine aw_bip (i := 94) K (dOf ck_mX12_init rfl rfl) (v := 24) rfl ?_
  refine aw_newaN (i := 95) (n := 24) (ty := .int) K (dOf ck_mX12_init rfl rfl) rfl (by decide) wd_273 (Nat.le_of_ble_eq_true rfl) (Nat.le_of_ble_eq_true rfl) (Nat.le_of_ble_eq_true rfl) 199 rfl (fun q199 => ?_)
  refine aw_putr (i := 96) (k := 44) K (dOf ck_mX12_init rfl rfl) rfl rfl (Nat.le_of_ble_eq_true rfl) wd_1249 rfl rfl rfl rfl (fitR (by decide +kernel)) ?_
  refine aw_aload_n (i := 97) K (dOf ck_mX12_init rfl rfl) rfl ?_
  refine aw_bip (i := 98) K (dOf ck_mX12_init rfl rfl) (v := 24) rfl ?_
  refine aw_newaN (i := 99) (n := 24) (ty := .boolean) K (dOf ck_mX12_init rfl rfl) rfl (by decide) wd_439 (Nat.le_of_ble_eq_true rfl) (Nat.le_of_ble_eq_true rfl) (Nat.le_of_ble_eq_true rfl) 200 rfl (fun q200 => ?_)
  refine aw_putr (i := 100) (k := 45) K (dOf ck_mX12_init rfl rfl) rfl rfl (Nat.le_of_ble_eq_true rfl) wd_1250 rfl rfl rfl rfl (fitR (by decide +kernel)) ?_
  refine aw_aload_n (i := 101) K (dOf ck_mX12_init rfl rfl) rfl ?_
  refine aw_sip (i := 102) K (dOf ck_mX12_init rfl rfl) (v := 793) rfl ?_
  refine aw_newlN (i := 103) (n := 793) K (dOf ck_mX12_init rfl rfl) wd_318 (Nat.le_of_ble_eq_true rfl) (Nat.le_of_ble_eq_true rfl) (Nat.le_of_ble_eq_true rfl) 201 rfl (fun q201 => ?_)
  refine aw_putr (i := 104) (k := 46) K (dOf ck_mX12_init rfl rfl) rfl rfl (Nat.le_of_ble_eq_true rfl) wd_1251 rfl rfl rfl rfl (fitR (by decide +kernel)) ?_
  refine aw_aload_n (i := 105) K (dOf ck_mX12_init rfl rfl) rfl ?_
  refine aw_bip (i := 106) K (dOf ck_mX12_init rfl rfl) (v := 13) rfl ?_
  refine aw_newaN (i := 107) (n := 13) (ty := .int) K (dOf ck_mX12_init rfl rfl) rfl (by decide) wd_273 (Nat.le_of_ble_eq_true rfl) (Nat.le_of_ble_eq_true rfl) (Nat.le_of_ble_eq_true rfl) 202 rfl (fun q202 => ?_)
  refine aw_putr (i := 108) (k := 47) K (dOf ck_mX12_init rfl rfl) rfl rfl (Nat.le_of_ble_eq_true rfl) wd_1252 rfl rfl rfl rfl (fitR (by decide +kernel)) ?_
  refine aw_aload_n (i := 109) K (dOf ck_mX12_init rfl rfl) rfl ?_
  refine aw_bip (i := 110) K (dOf ck_mX12_init rfl rfl) (v := 13) rfl ?_
  refine aw_newaN (i := 111) (n := 13) (ty := .int) K (dOf ck_mX12_init rfl rfl) rfl (by decide) wd_273 (Nat.le_of_ble_eq_true rfl) (Nat.le_of_ble_eq_true rfl) (Nat.le_of_ble_eq_true rfl) 203 rfl (fun q203 => ?_)
  refine aw_putr (i := 112) (k := 48) K (dOf ck_mX12_init rfl rfl) rfl rfl (Nat.le_of_ble_eq_true rfl) wd_1253 rfl rfl rfl rfl (fitR (by decide +kernel)) ?_
  refine aw_aload_n (i := 113) K (dOf ck_mX12_init rfl rfl) rfl ?_
  refine aw_sip (i := 114) K (dOf ck_mX12_init rfl rfl) (v := 854) rfl ?_
  refine aw_newaN (i := 115) (n := 854) (ty := .int) K (dOf ck_mX12_init rfl rfl) rfl (by decide) wd_273 (Nat.le_of_ble_eq_true rfl) (Nat.le_of_ble_eq_true rfl) (Nat.le_of_ble_eq_true rfl) 204 rfl (fun q204 => ?_)
  refine aw_putr (i := 116) (k := 49) K (dOf ck_mX12_init rfl rfl) rfl rfl (Nat.le_of_ble_eq_true rfl) wd_1254 rfl rfl rfl rfl (fitR (by decide +kernel)) ?_
  refine aw_aload_n (i := 117) K (dOf ck_mX12_init rfl rfl) rfl ?_
  refine aw_iconst (i := 118) K (n := 4) (i32 _ rfl) (dOf ck_mX12_init rfl rfl) ?_
  refine aw_newaN (i := 119) (n := 4) (ty := .int) K (dOf ck_mX12_init rfl rfl) rfl (by decide) wd_273 (Nat.le_of_ble_eq_true rfl) (Nat.le_of_ble_eq_true rfl) (Nat.le_of_ble_eq_true rfl) 205 rfl (fun q205 => ?_)
  refine aw_dup (i := 120) K rfl (dOf ck_mX12_init rfl rfl) ?_
  refine aw_iconst (i := 121) K (n := 0) (i32 _ rfl) (dOf ck_mX12_init rfl rfl) ?_
  refine aw_iconst (i := 122) K (n := -1) (i32 _ rfl) (dOf ck_mX12_init rfl rfl) ?_
  refine aw_iast (i := 123) K (dOf ck_mX12_init rfl rfl) rfl (by decide) ?_
  refine aw_dup (i := 124) K rfl (dOf ck_mX12_init rfl rfl) ?_
  refine aw_iconst (i := 125) K (n := 1) (i32 _ rfl) (dOf ck_mX12_init rfl rfl) ?_
  refine aw_iconst (i := 126) K (n := -1) (i32 _ rfl) (dOf ck_mX12_init rfl rfl) ?_
  refine aw_iast (i := 127) K (dOf ck_mX12_init rfl rfl) rfl (by decide) ?_
  refine aw_dup (i := 128) K rfl (dOf ck_mX12_init rfl rfl) ?_
  refine aw_iconst (i := 129) K (n := 2) (i32 _ rfl) (dOf ck_mX12_init rfl rfl) ?_
  refine aw_iconst (i := 130) K (n := -1) (i32 _ rfl) (dOf ck_mX12_init rfl rfl) ?_
  refine aw_iast (i := 131) K (dOf ck_mX12_init rfl rfl) rfl (by decide) ?_
  refine aw_dup (i := 132) K rfl (dOf ck_mX12_init rfl rfl) ?_
  refine aw_iconst (i := 133) K (n := 3) (i32 _ rfl) (dOf ck_mX12_init rfl rfl) ?_
  refine aw_iconst (i := 134) K (n := -1) (i32 _ rfl) (dOf ck_mX12_init rfl rfl) ?_
  refine aw_iast (i := 135) K (dOf ck_mX12_init rfl rfl) rfl (by decide) ?_
  refine aw_putr (i := 136) (k := 52) K (dOf ck_mX12_init rfl rfl) rfl rfl (Nat.le_of_ble_eq_true rfl) wd_1257 rfl rfl rfl rfl (fitR (by decide +kernel)) ?_
  refine aw_aload_n (i := 137) K (dOf ck_mX12_init rfl rfl) rfl ?_
  refine aw_iconst (i := 138) K (n := 4) (i32 _ rfl) (dOf ck_mX12_init rfl rfl) ?_
  refine aw_newaN (i := 139) (n := 4) (ty := .int) K (dOf ck_mX12_init rfl rfl) rfl (by decide) wd_273 (Nat.le_of_ble_eq_true rfl) (Nat.le_of_ble_eq_true rfl) (Nat.le_of_ble_eq_true rfl) 206 rfl (fun q206 => ?_)
  refine aw_putr (i := 140) (k := 53) K (dOf ck_mX12_init rfl rfl) rfl rfl (Nat.le_of_ble_eq_true rfl) wd_1258 rfl rfl rfl rfl (fitR (by decide +kernel)) ?_
  refine aw_aload_n (i := 141) K (dOf ck_mX12_init rfl rfl) rfl ?_
  refine aw_sip (i := 142) K (dOf ck_mX12_init rfl rfl) (v := 160) rfl ?_
  refine aw_newlN (i := 143) (n := 160) K (dOf ck_mX12_init rfl rfl) wd_318 (Nat.le_of_ble_eq_true rfl) (Nat.le_of_ble_eq_true rfl) (Nat.le_of_ble_eq_true rfl) 207 rfl (fun q207 => ?_)
  refine aw_putr (i := 144) (k := 54) K (dOf ck_mX12_init rfl rfl) rfl rfl (Nat.le_of_ble_eq_true rfl) wd_1259 rfl rfl rfl rfl (fitR (by decide +kernel)) ?_
  refine aw_nm (sh' := sg_51) (mm' := mg_62) rfl rfl ?_
  exact aw_vretA K (by decide +kernel) rfl (Nat.le_of_ble_eq_true rfl) (Nat.le_of_ble_eq_true rfl) (pre_app (pre_app (pre_app (pre_app (pre_app (pre_app (pre_app (pre_app (pre_app (pre_app (pre_app (pre_app (pre_app (pre_app (pre_app (pre_app (pre_app (pre_app (pre_app (pre_app (pre_app (pre_app (pre_app (pre_app (pre_app (pre_app (pre_app (pre_app (pre_app (pre_app (pre_app ⟨[], (List.append_nil _).symm⟩)))))))))))))))))))))))))))))))
