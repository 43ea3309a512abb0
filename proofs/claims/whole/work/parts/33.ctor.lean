/-! THE CONSTRUCTORS, along their one run -/
theorem fitR {ty : FieldType} (h : ty.isReference = true) : narrow ty (.ref 0) = .ref 0 ∧ (∀ x : Nat, narrow ty (.ref x) = .ref x) ∧ ∀ x : Nat, fits ty (.ref x) = true := by
  cases ty <;> first | exact ⟨rfl, fun _ => rfl, fun _ => rfl⟩ | cases h
theorem pre_app {al a x : List Nat} (h : ∃ bl, a = al ++ bl) : ∃ bl, a ++ x = al ++ bl := by
  obtain ⟨bl, rfl⟩ := h
  exact ⟨bl ++ x, List.append_assoc _ _ _⟩
theorem aw_vretA {p : Program} {l : Launch} {e : Env} {R : Room} {s : State} {m : MethodId} {args : Array Value} {below : List Frame} {meth : Method} {c : Code} {D : va_G} {cA : FieldType → ClassId} {ad adV : Nat → Nat} {z0 : Nat} {M : aMI} {al al' : List Nat} {i : Nat} {lv : List (Nat × aV)} {sh : List aE} {mm : aM} {nc ns mc ms : Nat} (K : aK p s m args meth c M D cA ad adV z0) (hd : decode M.2.1 (aPc M i) = .ok (.return_, 1)) (hr : M.2.2.2.1 = none) (hc : nc ≤ mc) (hs : ns ≤ ms) (ha : ∃ bl, al' = al ++ bl) : AW p l e R s m args below meth c (MQ below (aQc D cA ad z0 al none sh mm) args s mc ms (aA z0)) D cA ad z0 M al' i lv [] sh mm nc ns := by
  obtain ⟨bl, rfl⟩ := ha
  exact aw_vret K hd hr hc hs
theorem zt_0 : ∀ k, k < 10 → defaultValue (clTy 0 k) = if (clTy 0 k).isReference = true then .null else .int 0 := by decide +kernel
theorem zt_1 : ∀ k, k < 10 → defaultValue (clTy 1 k) = if (clTy 1 k).isReference = true then .null else .int 0 := by decide +kernel
theorem zt_2 : ∀ k, k < 2 → defaultValue (clTy 2 k) = if (clTy 2 k).isReference = true then .null else .int 0 := by decide +kernel
theorem zt_3 : ∀ k, k < 16 → defaultValue (clTy 3 k) = if (clTy 3 k).isReference = true then .null else .int 0 := by decide +kernel
theorem zt_4 : ∀ k, k < 5 → defaultValue (clTy 4 k) = if (clTy 4 k).isReference = true then .null else .int 0 := by decide +kernel
theorem zt_5 : ∀ k, k < 3 → defaultValue (clTy 5 k) = if (clTy 5 k).isReference = true then .null else .int 0 := by decide +kernel
theorem zt_6 : ∀ k, k < 2 → defaultValue (clTy 6 k) = if (clTy 6 k).isReference = true then .null else .int 0 := by decide +kernel
theorem zt_7 : ∀ k, k < 9 → defaultValue (clTy 7 k) = if (clTy 7 k).isReference = true then .null else .int 0 := by decide +kernel
theorem zt_8 : ∀ k, k < 15 → defaultValue (clTy 8 k) = if (clTy 8 k).isReference = true then .null else .int 0 := by decide +kernel
theorem zt_9 : ∀ k, k < 20 → defaultValue (clTy 9 k) = if (clTy 9 k).isReference = true then .null else .int 0 := by decide +kernel
theorem zt_10 : ∀ k, k < 6 → defaultValue (clTy 10 k) = if (clTy 10 k).isReference = true then .null else .int 0 := by decide +kernel
theorem zt_11 : ∀ k, k < 15 → defaultValue (clTy 11 k) = if (clTy 11 k).isReference = true then .null else .int 0 := by decide +kernel
theorem zt_12 : ∀ k, k < 55 → defaultValue (clTy 12 k) = if (clTy 12 k).isReference = true then .null else .int 0 := by decide +kernel
def mg_start : aM := fun _ _ => 0
def sg_0 : List aE := [.inr (.inr (.inr (11, [some none, some none, some none, some none, some none, some none, some none, some none, some none, some none, some none, some none, some none, some none, some none])))]
def mg_0 : aM := (aNew mg_start 0)
def sg_1 : List aE := [.inr (.inr (.inr (11, [some none, some none, some none, some none, some none, some none, some none, some none, some none, some none, some none, some none, some none, some none, some none]))), .inr (.inr (.inr (7, [some none, none, none, some none, none, none, none, none, none])))]
def mg_1 : aM := (aNew mg_0 1)
def sg_2 : List aE := [.inr (.inr (.inr (11, [some none, some none, some none, some none, some none, some none, some none, some none, some none, some none, some none, some none, some none, some none, some none]))), .inr (.inr (.inr (7, [some (some 2), none, none, some none, none, none, none, none, none]))), .inl (.byte, 500), .inr (.inr (.inr (8, [none, none, none, none, none, none, some none, some none, some none, some none, some none, some none, some none, some none, some none])))]
def mg_2 : aM := (aNew (aNew mg_1 2) 3)
def sg_3 : List aE := [.inr (.inr (.inr (11, [some none, some none, some none, some none, some none, some none, some none, some none, some none, some none, some none, some none, some none, some none, some none]))), .inr (.inr (.inr (7, [some (some 2), none, none, some none, none, none, none, none, none]))), .inl (.byte, 500), .inr (.inr (.inr (8, [none, none, none, none, none, none, some (some 4), some (some 5), some (some 6), some (some 19), some (some 20), some (some 21), some (some 22), some (some 23), some (some 24)]))), .inl (.byte, 8), .inl (.int, 8), .inr (.inr (.inl (.array .byte, [some 7, some 8, some 9, some 10, some 11, some 12, some 13, some 14, some 15, some 16, some 17, some 18]))), .inl (.byte, 6), .inl (.byte, 6), .inl (.byte, 6), .inl (.byte, 6), .inl (.byte, 6), .inl (.byte, 6), .inl (.byte, 6), .inl (.byte, 6), .inl (.byte, 6), .inl (.byte, 6), .inl (.byte, 6), .inl (.byte, 6), .inl (.int, 12), .inl (.int, 12), .inl (.int, 12), .inl (.int, 4), .inl (.int, 6), .inl (.int, 6)]
def mg_3 : aM := (aNew (aNew (aNew (aNew (aNew (aNew (aNewR (aNew (aNew mg_2 4) 5) 6 13) 19) 20) 21) 22) 23) 24)
def mg_4 : aM := (aup (aup (aup (aup (aup (aup mg_3 3 0 0) 3 1 0) 3 2 0) 3 3 0) 3 4 0) 3 5 15)
def mg_5 : aM := (aup (aup (aup (aup (aup (aup (aup (aup mg_4 5 0 0) 5 1 0) 5 2 0) 5 3 0) 5 4 0) 5 5 0) 5 6 0) 5 7 0)
set_option maxHeartbeats 8000000 in
set_option maxRecDepth 20000 in
/-- java/util/Arrays.fill -/
theorem ct_0 {l : Launch} {D : va_G} {cA : FieldType → ClassId} {ad adV : Nat → Nat} {z0 : Nat} : aMet l D cA ad adV z0 mJ7_fill_53178 0 0 0 0 [.inr (.inr (.inl (some 5))), .inl 0] sg_3 mg_4 none sg_3 mg_5 := by
  refine aMet_of (by decide +kernel) rfl (Nat.le_of_ble_eq_true rfl) (fun p e s m args below meth c al K => ?_)
  refine aw_iconst (i := 0) K (n := 0) (i32 _ rfl) (dOf ck_mJ7_fill_53178 rfl rfl) ?_
  refine aw_istore_n (i := 1) K (dOf ck_mJ7_fill_53178 rfl rfl) (Nat.le_of_ble_eq_true rfl) ?_
  refine aw_lvn (lv' := [(2, .inl 0), (0, .inr (.inr (.inl (some 5)))), (1, .inl 0)]) rfl ?_
  refine aw_aload_n (i := 2) K (dOf ck_mJ7_fill_53178 rfl rfl) rfl ?_
  refine aw_alen (i := 3) (n := 8) K (dOf ck_mJ7_fill_53178 rfl rfl) rfl rfl (by decide) ?_
  refine aw_istore_n (i := 4) K (dOf ck_mJ7_fill_53178 rfl rfl) (Nat.le_of_ble_eq_true rfl) ?_
  refine aw_lvn (lv' := [(3, .inl 8), (2, .inl 0), (0, .inr (.inr (.inl (some 5)))), (1, .inl 0)]) rfl ?_
  refine aw_iload_n (i := 5) K (dOf ck_mJ7_fill_53178 rfl rfl) rfl ?_
  refine aw_iload_n (i := 6) K (dOf ck_mJ7_fill_53178 rfl rfl) rfl ?_
  refine aw_icmp_ge (i := 7) K (dOf ck_mJ7_fill_53178 rfl rfl) (t := 14) (aJ_of (by decide +kernel)) (fun z => absurd z (by decide)) (fun _ => ?_)
  refine aw_aload_n (i := 8) K (dOf ck_mJ7_fill_53178 rfl rfl) rfl ?_
  refine aw_iload_n (i := 9) K (dOf ck_mJ7_fill_53178 rfl rfl) rfl ?_
  refine aw_iload_n (i := 10) K (dOf ck_mJ7_fill_53178 rfl rfl) rfl ?_
  refine aw_iast (i := 11) K (dOf ck_mJ7_fill_53178 rfl rfl) rfl (by decide) ?_
  refine aw_iinc (i := 12) K (dOf ck_mJ7_fill_53178 rfl rfl) (Nat.le_of_ble_eq_true rfl) rfl ?_
  refine aw_lvn (lv' := [(2, .inl 1), (3, .inl 8), (0, .inr (.inr (.inl (some 5)))), (1, .inl 0)]) rfl ?_
  refine aw_goto (i := 13) K (dOf ck_mJ7_fill_53178 rfl rfl).1 (t := 5) (aJ_of (by decide +kernel)) ?_
  refine aw_iload_n (i := 5) K (dOf ck_mJ7_fill_53178 rfl rfl) rfl ?_
  refine aw_iload_n (i := 6) K (dOf ck_mJ7_fill_53178 rfl rfl) rfl ?_
  refine aw_icmp_ge (i := 7) K (dOf ck_mJ7_fill_53178 rfl rfl) (t := 14) (aJ_of (by decide +kernel)) (fun z => absurd z (by decide)) (fun _ => ?_)
  refine aw_aload_n (i := 8) K (dOf ck_mJ7_fill_53178 rfl rfl) rfl ?_
  refine aw_iload_n (i := 9) K (dOf ck_mJ7_fill_53178 rfl rfl) rfl ?_
  refine aw_iload_n (i := 10) K (dOf ck_mJ7_fill_53178 rfl rfl) rfl ?_
  refine aw_iast (i := 11) K (dOf ck_mJ7_fill_53178 rfl rfl) rfl (by decide) ?_
  refine aw_iinc (i := 12) K (dOf ck_mJ7_fill_53178 rfl rfl) (Nat.le_of_ble_eq_true rfl) rfl ?_
  refine aw_lvn (lv' := [(2, .inl 2), (3, .inl 8), (0, .inr (.inr (.inl (some 5)))), (1, .inl 0)]) rfl ?_
  refine aw_goto (i := 13) K (dOf ck_mJ7_fill_53178 rfl rfl).1 (t := 5) (aJ_of (by decide +kernel)) ?_
  refine aw_iload_n (i := 5) K (dOf ck_mJ7_fill_53178 rfl rfl) rfl ?_
  refine aw_iload_n (i := 6) K (dOf ck_mJ7_fill_53178 rfl rfl) rfl ?_
  refine aw_icmp_ge (i := 7) K (dOf ck_mJ7_fill_53178 rfl rfl) (t := 14) (aJ_of (by decide +kernel)) (fun z => absurd z (by decide)) (fun _ => ?_)
  refine aw_aload_n (i := 8) K (dOf ck_mJ7_fill_53178 rfl rfl) rfl ?_
  refine aw_iload_n (i := 9) K (dOf ck_mJ7_fill_53178 rfl rfl) rfl ?_
  refine aw_iload_n (i := 10) K (dOf ck_mJ7_fill_53178 rfl rfl) rfl ?_
  refine aw_iast (i := 11) K (dOf ck_mJ7_fill_53178 rfl rfl) rfl (by decide) ?_
  refine aw_iinc (i := 12) K (dOf ck_mJ7_fill_53178 rfl rfl) (Nat.le_of_ble_eq_true rfl) rfl ?_
  refine aw_lvn (lv' := [(2, .inl 3), (3, .inl 8), (0, .inr (.inr (.inl (some 5)))), (1, .inl 0)]) rfl ?_
  refine aw_goto (i := 13) K (dOf ck_mJ7_fill_53178 rfl rfl).1 (t := 5) (aJ_of (by decide +kernel)) ?_
  refine aw_iload_n (i := 5) K (dOf ck_mJ7_fill_53178 rfl rfl) rfl ?_
  refine aw_iload_n (i := 6) K (dOf ck_mJ7_fill_53178 rfl rfl) rfl ?_
  refine aw_icmp_ge (i := 7) K (dOf ck_mJ7_fill_53178 rfl rfl) (t := 14) (aJ_of (by decide +kernel)) (fun z => absurd z (by decide)) (fun _ => ?_)
  refine aw_aload_n (i := 8) K (dOf ck_mJ7_fill_53178 rfl rfl) rfl ?_
  refine aw_iload_n (i := 9) K (dOf ck_mJ7_fill_53178 rfl rfl) rfl ?_
  refine aw_iload_n (i := 10) K (dOf ck_mJ7_fill_53178 rfl rfl) rfl ?_
  refine aw_iast (i := 11) K (dOf ck_mJ7_fill_53178 rfl rfl) rfl (by decide) ?_
  refine aw_iinc (i := 12) K (dOf ck_mJ7_fill_53178 rfl rfl) (Nat.le_of_ble_eq_true rfl) rfl ?_
  refine aw_lvn (lv' := [(2, .inl 4), (3, .inl 8), (0, .inr (.inr (.inl (some 5)))), (1, .inl 0)]) rfl ?_
  refine aw_goto (i := 13) K (dOf ck_mJ7_fill_53178 rfl rfl).1 (t := 5) (aJ_of (by decide +kernel)) ?_
  refine aw_iload_n (i := 5) K (dOf ck_mJ7_fill_53178 rfl rfl) rfl ?_
  refine aw_iload_n (i := 6) K (dOf ck_mJ7_fill_53178 rfl rfl) rfl ?_
  refine aw_icmp_ge (i := 7) K (dOf ck_mJ7_fill_53178 rfl rfl) (t := 14) (aJ_of (by decide +kernel)) (fun z => absurd z (by decide)) (fun _ => ?_)
  refine aw_aload_n (i := 8) K (dOf ck_mJ7_fill_53178 rfl rfl) rfl ?_
  refine aw_iload_n (i := 9) K (dOf ck_mJ7_fill_53178 rfl rfl) rfl ?_
  refine aw_iload_n (i := 10) K (dOf ck_mJ7_fill_53178 rfl rfl) rfl ?_
  refine aw_iast (i := 11) K (dOf ck_mJ7_fill_53178 rfl rfl) rfl (by decide) ?_
  refine aw_iinc (i := 12) K (dOf ck_mJ7_fill_53178 rfl rfl) (Nat.le_of_ble_eq_true rfl) rfl ?_
  refine aw_lvn (lv' := [(2, .inl 5), (3, .inl 8), (0, .inr (.inr (.inl (some 5)))), (1, .inl 0)]) rfl ?_
  refine aw_goto (i := 13) K (dOf ck_mJ7_fill_53178 rfl rfl).1 (t := 5) (aJ_of (by decide +kernel)) ?_
  refine aw_iload_n (i := 5) K (dOf ck_mJ7_fill_53178 rfl rfl) rfl ?_
  refine aw_iload_n (i := 6) K (dOf ck_mJ7_fill_53178 rfl rfl) rfl ?_
  refine aw_icmp_ge (i := 7) K (dOf ck_mJ7_fill_53178 rfl rfl) (t := 14) (aJ_of (by decide +kernel)) (fun z => absurd z (by decide)) (fun _ => ?_)
  refine aw_aload_n (i := 8) K (dOf ck_mJ7_fill_53178 rfl rfl) rfl ?_
  refine aw_iload_n (i := 9) K (dOf ck_mJ7_fill_53178 rfl rfl) rfl ?_
  refine aw_iload_n (i := 10) K (dOf ck_mJ7_fill_53178 rfl rfl) rfl ?_
  refine aw_iast (i := 11) K (dOf ck_mJ7_fill_53178 rfl rfl) rfl (by decide) ?_
  refine aw_iinc (i := 12) K (dOf ck_mJ7_fill_53178 rfl rfl) (Nat.le_of_ble_eq_true rfl) rfl ?_
  refine aw_lvn (lv' := [(2, .inl 6), (3, .inl 8), (0, .inr (.inr (.inl (some 5)))), (1, .inl 0)]) rfl ?_
  refine aw_goto (i := 13) K (dOf ck_mJ7_fill_53178 rfl rfl).1 (t := 5) (aJ_of (by decide +kernel)) ?_
  refine aw_iload_n (i := 5) K (dOf ck_mJ7_fill_53178 rfl rfl) rfl ?_
  refine aw_iload_n (i := 6) K (dOf ck_mJ7_fill_53178 rfl rfl) rfl ?_
  refine aw_icmp_ge (i := 7) K (dOf ck_mJ7_fill_53178 rfl rfl) (t := 14) (aJ_of (by decide +kernel)) (fun z => absurd z (by decide)) (fun _ => ?_)
  refine aw_aload_n (i := 8) K (dOf ck_mJ7_fill_53178 rfl rfl) rfl ?_
  refine aw_iload_n (i := 9) K (dOf ck_mJ7_fill_53178 rfl rfl) rfl ?_
  refine aw_iload_n (i := 10) K (dOf ck_mJ7_fill_53178 rfl rfl) rfl ?_
  refine aw_iast (i := 11) K (dOf ck_mJ7_fill_53178 rfl rfl) rfl (by decide) ?_
  refine aw_iinc (i := 12) K (dOf ck_mJ7_fill_53178 rfl rfl) (Nat.le_of_ble_eq_true rfl) rfl ?_
  refine aw_lvn (lv' := [(2, .inl 7), (3, .inl 8), (0, .inr (.inr (.inl (some 5)))), (1, .inl 0)]) rfl ?_
  refine aw_goto (i := 13) K (dOf ck_mJ7_fill_53178 rfl rfl).1 (t := 5) (aJ_of (by decide +kernel)) ?_
  refine aw_iload_n (i := 5) K (dOf ck_mJ7_fill_53178 rfl rfl) rfl ?_
  refine aw_iload_n (i := 6) K (dOf ck_mJ7_fill_53178 rfl rfl) rfl ?_
  refine aw_icmp_ge (i := 7) K (dOf ck_mJ7_fill_53178 rfl rfl) (t := 14) (aJ_of (by decide +kernel)) (fun z => absurd z (by decide)) (fun _ => ?_)
  refine aw_aload_n (i := 8) K (dOf ck_mJ7_fill_53178 rfl rfl) rfl ?_
  refine aw_iload_n (i := 9) K (dOf ck_mJ7_fill_53178 rfl rfl) rfl ?_
  refine aw_iload_n (i := 10) K (dOf ck_mJ7_fill_53178 rfl rfl) rfl ?_
  refine aw_iast (i := 11) K (dOf ck_mJ7_fill_53178 rfl rfl) rfl (by decide) ?_
  refine aw_iinc (i := 12) K (dOf ck_mJ7_fill_53178 rfl rfl) (Nat.le_of_ble_eq_true rfl) rfl ?_
  refine aw_lvn (lv' := [(2, .inl 8), (3, .inl 8), (0, .inr (.inr (.inl (some 5)))), (1, .inl 0)]) rfl ?_
  refine aw_goto (i := 13) K (dOf ck_mJ7_fill_53178 rfl rfl).1 (t := 5) (aJ_of (by decide +kernel)) ?_
  refine aw_iload_n (i := 5) K (dOf ck_mJ7_fill_53178 rfl rfl) rfl ?_
  refine aw_iload_n (i := 6) K (dOf ck_mJ7_fill_53178 rfl rfl) rfl ?_
  refine aw_icmp_ge (i := 7) K (dOf ck_mJ7_fill_53178 rfl rfl) (t := 14) (aJ_of (by decide +kernel)) (fun _ => ?_) (fun z => absurd (by decide) z)
  refine aw_nm (sh' := sg_3) (mm' := mg_5) rfl rfl ?_
  exact aw_vretA K (by decide +kernel) rfl (Nat.le_of_ble_eq_true rfl) (Nat.le_of_ble_eq_true rfl) (by repeat (first | exact ⟨[], (List.append_nil _).symm⟩ | exact ⟨_, rfl⟩ | apply pre_app))
def mg_6 : aM := (aup (aup (aup (aup mg_5 22 0 15) 22 1 15) 22 2 15) 22 3 15)
set_option maxHeartbeats 8000000 in
set_option maxRecDepth 20000 in
/-- java/util/Arrays.fill -/
theorem ct_1 {l : Launch} {D : va_G} {cA : FieldType → ClassId} {ad adV : Nat → Nat} {z0 : Nat} : aMet l D cA ad adV z0 mJ7_fill_53178 0 0 0 0 [.inr (.inr (.inl (some 22))), .inl 15] sg_3 mg_5 none sg_3 mg_6 := by
  refine aMet_of (by decide +kernel) rfl (Nat.le_of_ble_eq_true rfl) (fun p e s m args below meth c al K => ?_)
  refine aw_iconst (i := 0) K (n := 0) (i32 _ rfl) (dOf ck_mJ7_fill_53178 rfl rfl) ?_
  refine aw_istore_n (i := 1) K (dOf ck_mJ7_fill_53178 rfl rfl) (Nat.le_of_ble_eq_true rfl) ?_
  refine aw_lvn (lv' := [(2, .inl 0), (0, .inr (.inr (.inl (some 22)))), (1, .inl 15)]) rfl ?_
  refine aw_aload_n (i := 2) K (dOf ck_mJ7_fill_53178 rfl rfl) rfl ?_
  refine aw_alen (i := 3) (n := 4) K (dOf ck_mJ7_fill_53178 rfl rfl) rfl rfl (by decide) ?_
  refine aw_istore_n (i := 4) K (dOf ck_mJ7_fill_53178 rfl rfl) (Nat.le_of_ble_eq_true rfl) ?_
  refine aw_lvn (lv' := [(3, .inl 4), (2, .inl 0), (0, .inr (.inr (.inl (some 22)))), (1, .inl 15)]) rfl ?_
  refine aw_iload_n (i := 5) K (dOf ck_mJ7_fill_53178 rfl rfl) rfl ?_
  refine aw_iload_n (i := 6) K (dOf ck_mJ7_fill_53178 rfl rfl) rfl ?_
  refine aw_icmp_ge (i := 7) K (dOf ck_mJ7_fill_53178 rfl rfl) (t := 14) (aJ_of (by decide +kernel)) (fun z => absurd z (by decide)) (fun _ => ?_)
  refine aw_aload_n (i := 8) K (dOf ck_mJ7_fill_53178 rfl rfl) rfl ?_
  refine aw_iload_n (i := 9) K (dOf ck_mJ7_fill_53178 rfl rfl) rfl ?_
  refine aw_iload_n (i := 10) K (dOf ck_mJ7_fill_53178 rfl rfl) rfl ?_
  refine aw_iast (i := 11) K (dOf ck_mJ7_fill_53178 rfl rfl) rfl (by decide) ?_
  refine aw_iinc (i := 12) K (dOf ck_mJ7_fill_53178 rfl rfl) (Nat.le_of_ble_eq_true rfl) rfl ?_
  refine aw_lvn (lv' := [(2, .inl 1), (3, .inl 4), (0, .inr (.inr (.inl (some 22)))), (1, .inl 15)]) rfl ?_
  refine aw_goto (i := 13) K (dOf ck_mJ7_fill_53178 rfl rfl).1 (t := 5) (aJ_of (by decide +kernel)) ?_
  refine aw_iload_n (i := 5) K (dOf ck_mJ7_fill_53178 rfl rfl) rfl ?_
  refine aw_iload_n (i := 6) K (dOf ck_mJ7_fill_53178 rfl rfl) rfl ?_
  refine aw_icmp_ge (i := 7) K (dOf ck_mJ7_fill_53178 rfl rfl) (t := 14) (aJ_of (by decide +kernel)) (fun z => absurd z (by decide)) (fun _ => ?_)
  refine aw_aload_n (i := 8) K (dOf ck_mJ7_fill_53178 rfl rfl) rfl ?_
  refine aw_iload_n (i := 9) K (dOf ck_mJ7_fill_53178 rfl rfl) rfl ?_
  refine aw_iload_n (i := 10) K (dOf ck_mJ7_fill_53178 rfl rfl) rfl ?_
  refine aw_iast (i := 11) K (dOf ck_mJ7_fill_53178 rfl rfl) rfl (by decide) ?_
  refine aw_iinc (i := 12) K (dOf ck_mJ7_fill_53178 rfl rfl) (Nat.le_of_ble_eq_true rfl) rfl ?_
  refine aw_lvn (lv' := [(2, .inl 2), (3, .inl 4), (0, .inr (.inr (.inl (some 22)))), (1, .inl 15)]) rfl ?_
  refine aw_goto (i := 13) K (dOf ck_mJ7_fill_53178 rfl rfl).1 (t := 5) (aJ_of (by decide +kernel)) ?_
  refine aw_iload_n (i := 5) K (dOf ck_mJ7_fill_53178 rfl rfl) rfl ?_
  refine aw_iload_n (i := 6) K (dOf ck_mJ7_fill_53178 rfl rfl) rfl ?_
  refine aw_icmp_ge (i := 7) K (dOf ck_mJ7_fill_53178 rfl rfl) (t := 14) (aJ_of (by decide +kernel)) (fun z => absurd z (by decide)) (fun _ => ?_)
  refine aw_aload_n (i := 8) K (dOf ck_mJ7_fill_53178 rfl rfl) rfl ?_
  refine aw_iload_n (i := 9) K (dOf ck_mJ7_fill_53178 rfl rfl) rfl ?_
  refine aw_iload_n (i := 10) K (dOf ck_mJ7_fill_53178 rfl rfl) rfl ?_
  refine aw_iast (i := 11) K (dOf ck_mJ7_fill_53178 rfl rfl) rfl (by decide) ?_
  refine aw_iinc (i := 12) K (dOf ck_mJ7_fill_53178 rfl rfl) (Nat.le_of_ble_eq_true rfl) rfl ?_
  refine aw_lvn (lv' := [(2, .inl 3), (3, .inl 4), (0, .inr (.inr (.inl (some 22)))), (1, .inl 15)]) rfl ?_
  refine aw_goto (i := 13) K (dOf ck_mJ7_fill_53178 rfl rfl).1 (t := 5) (aJ_of (by decide +kernel)) ?_
  refine aw_iload_n (i := 5) K (dOf ck_mJ7_fill_53178 rfl rfl) rfl ?_
  refine aw_iload_n (i := 6) K (dOf ck_mJ7_fill_53178 rfl rfl) rfl ?_
  refine aw_icmp_ge (i := 7) K (dOf ck_mJ7_fill_53178 rfl rfl) (t := 14) (aJ_of (by decide +kernel)) (fun z => absurd z (by decide)) (fun _ => ?_)
  refine aw_aload_n (i := 8) K (dOf ck_mJ7_fill_53178 rfl rfl) rfl ?_
  refine aw_iload_n (i := 9) K (dOf ck_mJ7_fill_53178 rfl rfl) rfl ?_
  refine aw_iload_n (i := 10) K (dOf ck_mJ7_fill_53178 rfl rfl) rfl ?_
  refine aw_iast (i := 11) K (dOf ck_mJ7_fill_53178 rfl rfl) rfl (by decide) ?_
  refine aw_iinc (i := 12) K (dOf ck_mJ7_fill_53178 rfl rfl) (Nat.le_of_ble_eq_true rfl) rfl ?_
  refine aw_lvn (lv' := [(2, .inl 4), (3, .inl 4), (0, .inr (.inr (.inl (some 22)))), (1, .inl 15)]) rfl ?_
  refine aw_goto (i := 13) K (dOf ck_mJ7_fill_53178 rfl rfl).1 (t := 5) (aJ_of (by decide +kernel)) ?_
  refine aw_iload_n (i := 5) K (dOf ck_mJ7_fill_53178 rfl rfl) rfl ?_
  refine aw_iload_n (i := 6) K (dOf ck_mJ7_fill_53178 rfl rfl) rfl ?_
  refine aw_icmp_ge (i := 7) K (dOf ck_mJ7_fill_53178 rfl rfl) (t := 14) (aJ_of (by decide +kernel)) (fun _ => ?_) (fun z => absurd (by decide) z)
  refine aw_nm (sh' := sg_3) (mm' := mg_6) rfl rfl ?_
  exact aw_vretA K (by decide +kernel) rfl (Nat.le_of_ble_eq_true rfl) (Nat.le_of_ble_eq_true rfl) (by repeat (first | exact ⟨[], (List.append_nil _).symm⟩ | exact ⟨_, rfl⟩ | apply pre_app))
set_option maxHeartbeats 8000000 in
set_option maxRecDepth 20000 in
/-- Tongue.empty -/
theorem ct_2 {l : Launch} {D : va_G} {cA : FieldType → ClassId} {ad adV : Nat → Nat} {z0 : Nat} : aMet l D cA ad adV z0 mX8_empty 1 23 0 0 [.inr (.inr (.inl (some 3)))] sg_3 mg_3 none sg_3 mg_6 := by
  refine aMet_of (by decide +kernel) rfl (Nat.le_of_ble_eq_true rfl) (fun p e s m args below meth c al K => ?_)
  refine aw_aload_n (i := 0) K (dOf ck_mX8_empty rfl rfl) rfl ?_
  refine aw_iconst (i := 1) K (n := 0) (i32 _ rfl) (dOf ck_mX8_empty rfl rfl) ?_
  refine aw_putf (i := 2) (k := 0) K (dOf ck_mX8_empty rfl rfl) rfl rfl (Nat.le_of_ble_eq_true rfl) wd_188 rfl rfl (Or.inl rfl) ?_
  refine aw_aload_n (i := 3) K (dOf ck_mX8_empty rfl rfl) rfl ?_
  refine aw_iconst (i := 4) K (n := 0) (i32 _ rfl) (dOf ck_mX8_empty rfl rfl) ?_
  refine aw_putf (i := 5) (k := 1) K (dOf ck_mX8_empty rfl rfl) rfl rfl (Nat.le_of_ble_eq_true rfl) wd_191 rfl rfl (Or.inl rfl) ?_
  refine aw_aload_n (i := 6) K (dOf ck_mX8_empty rfl rfl) rfl ?_
  refine aw_iconst (i := 7) K (n := 0) (i32 _ rfl) (dOf ck_mX8_empty rfl rfl) ?_
  refine aw_putf (i := 8) (k := 2) K (dOf ck_mX8_empty rfl rfl) rfl rfl (Nat.le_of_ble_eq_true rfl) wd_198 rfl rfl (Or.inl rfl) ?_
  refine aw_aload_n (i := 9) K (dOf ck_mX8_empty rfl rfl) rfl ?_
  refine aw_iconst (i := 10) K (n := 0) (i32 _ rfl) (dOf ck_mX8_empty rfl rfl) ?_
  refine aw_putf (i := 11) (k := 3) K (dOf ck_mX8_empty rfl rfl) rfl rfl (Nat.le_of_ble_eq_true rfl) wd_203 rfl rfl (Or.inl rfl) ?_
  refine aw_aload_n (i := 12) K (dOf ck_mX8_empty rfl rfl) rfl ?_
  refine aw_iconst (i := 13) K (n := 0) (i32 _ rfl) (dOf ck_mX8_empty rfl rfl) ?_
  refine aw_putf (i := 14) (k := 4) K (dOf ck_mX8_empty rfl rfl) rfl rfl (Nat.le_of_ble_eq_true rfl) wd_207 rfl rfl (Or.inl rfl) ?_
  refine aw_aload_n (i := 15) K (dOf ck_mX8_empty rfl rfl) rfl ?_
  refine aw_bip (i := 16) K (dOf ck_mX8_empty rfl rfl) (v := 15) rfl ?_
  refine aw_putf (i := 17) (k := 5) K (dOf ck_mX8_empty rfl rfl) rfl rfl (Nat.le_of_ble_eq_true rfl) wd_213 rfl rfl (Or.inl rfl) ?_
  refine aw_aload_n (i := 18) K (dOf ck_mX8_empty rfl rfl) rfl ?_
  refine aw_getf (i := 19) (k := 7) K (dOf ck_mX8_empty rfl rfl) rfl rfl (Nat.le_of_ble_eq_true rfl) wd_219 rfl ?_
  refine aw_iconst (i := 20) K (n := 0) (i32 _ rfl) (dOf ck_mX8_empty rfl rfl) ?_
  refine aw_nm (sh' := sg_3) (mm' := mg_4) rfl rfl ?_
  refine aw_callS (i := 21) (as := [.inr (.inr (.inl (some 5))), .inl 0]) K (dOf ck_mX8_empty rfl rfl) al_OneBreath_Tongue_64 wd_186 rfl (Nat.le_of_ble_eq_true rfl) ⟨Nat.le_of_ble_eq_true rfl, Nat.le_of_ble_eq_true rfl⟩ ⟨Nat.le_of_ble_eq_true rfl, Nat.le_of_ble_eq_true rfl⟩ (Nat.le_of_ble_eq_true rfl) ct_0 (fun bl1 => ?_)
  refine aw_aload_n (i := 22) K (dOf ck_mX8_empty rfl rfl) rfl ?_
  refine aw_getf (i := 23) (k := 12) K (dOf ck_mX8_empty rfl rfl) rfl rfl (Nat.le_of_ble_eq_true rfl) wd_257 rfl ?_
  refine aw_bip (i := 24) K (dOf ck_mX8_empty rfl rfl) (v := 15) rfl ?_
  refine aw_nm (sh' := sg_3) (mm' := mg_5) rfl rfl ?_
  refine aw_callS (i := 25) (as := [.inr (.inr (.inl (some 22))), .inl 15]) K (dOf ck_mX8_empty rfl rfl) al_OneBreath_Tongue_64 wd_186 rfl (Nat.le_of_ble_eq_true rfl) ⟨Nat.le_of_ble_eq_true rfl, Nat.le_of_ble_eq_true rfl⟩ ⟨Nat.le_of_ble_eq_true rfl, Nat.le_of_ble_eq_true rfl⟩ (Nat.le_of_ble_eq_true rfl) ct_1 (fun bl2 => ?_)
  refine aw_nm (sh' := sg_3) (mm' := mg_6) rfl rfl ?_
  exact aw_vretA K (by decide +kernel) rfl (Nat.le_of_ble_eq_true rfl) (Nat.le_of_ble_eq_true rfl) (by repeat (first | exact ⟨[], (List.append_nil _).symm⟩ | exact ⟨_, rfl⟩ | apply pre_app))
set_option maxHeartbeats 8000000 in
set_option maxRecDepth 20000 in
/-- Tongue.<init> -/
theorem ct_3 {l : Launch} {D : va_G} {cA : FieldType → ClassId} {ad adV : Nat → Nat} {z0 : Nat} : aMet l D cA ad adV z0 mX8_init 2 43 21 152 [.inr (.inr (.inl (some 3)))] sg_2 mg_2 none sg_3 mg_6 := by
  refine aMet_of (by decide +kernel) rfl (Nat.le_of_ble_eq_true rfl) (fun p e s m args below meth c al K => ?_)
  refine aw_aload_n (i := 0) K (dOf ck_mX8_init rfl rfl) rfl ?_
  refine aw_objInit (i := 1) K (dOf ck_mX8_init rfl rfl) ⟨wd_179, wd_167, wd_168⟩ (Nat.le_of_ble_eq_true rfl) ⟨Nat.le_of_ble_eq_true rfl, Nat.le_of_ble_eq_true rfl⟩ ?_
  refine aw_aload_n (i := 2) K (dOf ck_mX8_init rfl rfl) rfl ?_
  refine aw_bip (i := 3) K (dOf ck_mX8_init rfl rfl) (v := 8) rfl ?_
  refine aw_newaN (i := 4) (n := 8) (ty := .byte) K (dOf ck_mX8_init rfl rfl) rfl (by decide) wd_272 (Nat.le_of_ble_eq_true rfl) (Nat.le_of_ble_eq_true rfl) (Nat.le_of_ble_eq_true rfl) 4 rfl (fun q4 => ?_)
  refine aw_putr (i := 5) (k := 6) K (dOf ck_mX8_init rfl rfl) rfl rfl (Nat.le_of_ble_eq_true rfl) wd_216 rfl rfl rfl rfl (fitR (by decide +kernel)) ?_
  refine aw_aload_n (i := 6) K (dOf ck_mX8_init rfl rfl) rfl ?_
  refine aw_bip (i := 7) K (dOf ck_mX8_init rfl rfl) (v := 8) rfl ?_
  refine aw_newaN (i := 8) (n := 8) (ty := .int) K (dOf ck_mX8_init rfl rfl) rfl (by decide) wd_273 (Nat.le_of_ble_eq_true rfl) (Nat.le_of_ble_eq_true rfl) (Nat.le_of_ble_eq_true rfl) 5 rfl (fun q5 => ?_)
  refine aw_putr (i := 9) (k := 7) K (dOf ck_mX8_init rfl rfl) rfl rfl (Nat.le_of_ble_eq_true rfl) wd_219 rfl rfl rfl rfl (fitR (by decide +kernel)) ?_
  refine aw_aload_n (i := 10) K (dOf ck_mX8_init rfl rfl) rfl ?_
  refine aw_bip (i := 11) K (dOf ck_mX8_init rfl rfl) (v := 12) rfl ?_
  refine aw_bip (i := 12) K (dOf ck_mX8_init rfl rfl) (v := 6) rfl ?_
  refine aw_mnaN (i := 13) (n := 12) (k := 6) (ty := .byte) K (dOf ck_mX8_init rfl rfl) wd_180 (Or.inl ⟨rfl, rfl⟩) wd_272 (Nat.le_of_ble_eq_true rfl) (Nat.le_of_ble_eq_true rfl) (Nat.le_of_ble_eq_true rfl) (Nat.le_of_ble_eq_true rfl) 6 rfl (fun bl6 => ?_)
  refine aw_putr (i := 14) (k := 8) K (dOf ck_mX8_init rfl rfl) rfl rfl (Nat.le_of_ble_eq_true rfl) wd_226 rfl rfl rfl rfl (fitR (by decide +kernel)) ?_
  refine aw_aload_n (i := 15) K (dOf ck_mX8_init rfl rfl) rfl ?_
  refine aw_bip (i := 16) K (dOf ck_mX8_init rfl rfl) (v := 12) rfl ?_
  refine aw_newaN (i := 17) (n := 12) (ty := .int) K (dOf ck_mX8_init rfl rfl) rfl (by decide) wd_273 (Nat.le_of_ble_eq_true rfl) (Nat.le_of_ble_eq_true rfl) (Nat.le_of_ble_eq_true rfl) 19 rfl (fun q19 => ?_)
  refine aw_putr (i := 18) (k := 9) K (dOf ck_mX8_init rfl rfl) rfl rfl (Nat.le_of_ble_eq_true rfl) wd_235 rfl rfl rfl rfl (fitR (by decide +kernel)) ?_
  refine aw_aload_n (i := 19) K (dOf ck_mX8_init rfl rfl) rfl ?_
  refine aw_bip (i := 20) K (dOf ck_mX8_init rfl rfl) (v := 12) rfl ?_
  refine aw_newaN (i := 21) (n := 12) (ty := .int) K (dOf ck_mX8_init rfl rfl) rfl (by decide) wd_273 (Nat.le_of_ble_eq_true rfl) (Nat.le_of_ble_eq_true rfl) (Nat.le_of_ble_eq_true rfl) 20 rfl (fun q20 => ?_)
  refine aw_putr (i := 22) (k := 10) K (dOf ck_mX8_init rfl rfl) rfl rfl (Nat.le_of_ble_eq_true rfl) wd_244 rfl rfl rfl rfl (fitR (by decide +kernel)) ?_
  refine aw_aload_n (i := 23) K (dOf ck_mX8_init rfl rfl) rfl ?_
  refine aw_bip (i := 24) K (dOf ck_mX8_init rfl rfl) (v := 12) rfl ?_
  refine aw_newaN (i := 25) (n := 12) (ty := .int) K (dOf ck_mX8_init rfl rfl) rfl (by decide) wd_273 (Nat.le_of_ble_eq_true rfl) (Nat.le_of_ble_eq_true rfl) (Nat.le_of_ble_eq_true rfl) 21 rfl (fun q21 => ?_)
  refine aw_putr (i := 26) (k := 11) K (dOf ck_mX8_init rfl rfl) rfl rfl (Nat.le_of_ble_eq_true rfl) wd_250 rfl rfl rfl rfl (fitR (by decide +kernel)) ?_
  refine aw_aload_n (i := 27) K (dOf ck_mX8_init rfl rfl) rfl ?_
  refine aw_iconst (i := 28) K (n := 4) (i32 _ rfl) (dOf ck_mX8_init rfl rfl) ?_
  refine aw_newaN (i := 29) (n := 4) (ty := .int) K (dOf ck_mX8_init rfl rfl) rfl (by decide) wd_273 (Nat.le_of_ble_eq_true rfl) (Nat.le_of_ble_eq_true rfl) (Nat.le_of_ble_eq_true rfl) 22 rfl (fun q22 => ?_)
  refine aw_putr (i := 30) (k := 12) K (dOf ck_mX8_init rfl rfl) rfl rfl (Nat.le_of_ble_eq_true rfl) wd_257 rfl rfl rfl rfl (fitR (by decide +kernel)) ?_
  refine aw_aload_n (i := 31) K (dOf ck_mX8_init rfl rfl) rfl ?_
  refine aw_bip (i := 32) K (dOf ck_mX8_init rfl rfl) (v := 6) rfl ?_
  refine aw_newaN (i := 33) (n := 6) (ty := .int) K (dOf ck_mX8_init rfl rfl) rfl (by decide) wd_273 (Nat.le_of_ble_eq_true rfl) (Nat.le_of_ble_eq_true rfl) (Nat.le_of_ble_eq_true rfl) 23 rfl (fun q23 => ?_)
  refine aw_putr (i := 34) (k := 13) K (dOf ck_mX8_init rfl rfl) rfl rfl (Nat.le_of_ble_eq_true rfl) wd_262 rfl rfl rfl rfl (fitR (by decide +kernel)) ?_
  refine aw_aload_n (i := 35) K (dOf ck_mX8_init rfl rfl) rfl ?_
  refine aw_bip (i := 36) K (dOf ck_mX8_init rfl rfl) (v := 6) rfl ?_
  refine aw_newaN (i := 37) (n := 6) (ty := .int) K (dOf ck_mX8_init rfl rfl) rfl (by decide) wd_273 (Nat.le_of_ble_eq_true rfl) (Nat.le_of_ble_eq_true rfl) (Nat.le_of_ble_eq_true rfl) 24 rfl (fun q24 => ?_)
  refine aw_putr (i := 38) (k := 14) K (dOf ck_mX8_init rfl rfl) rfl rfl (Nat.le_of_ble_eq_true rfl) wd_267 rfl rfl rfl rfl (fitR (by decide +kernel)) ?_
  refine aw_aload_n (i := 39) K (dOf ck_mX8_init rfl rfl) rfl ?_
  refine aw_nm (sh' := sg_3) (mm' := mg_3) rfl rfl ?_
  refine aw_callV (i := 40) (as := []) (q := 3) K (dOf ck_mX8_init rfl rfl) al_OneBreath_Tongue_42 rfl rfl ⟨wd_182, wd_183⟩ rfl (Nat.le_of_ble_eq_true rfl) ⟨Nat.le_of_ble_eq_true rfl, Nat.le_of_ble_eq_true rfl⟩ ⟨Nat.le_of_ble_eq_true rfl, Nat.le_of_ble_eq_true rfl⟩ (Nat.le_of_ble_eq_true rfl) ct_2 (fun bl3 => ?_)
  refine aw_nm (sh' := sg_3) (mm' := mg_6) rfl rfl ?_
  exact aw_vretA K (by decide +kernel) rfl (Nat.le_of_ble_eq_true rfl) (Nat.le_of_ble_eq_true rfl) (by repeat (first | exact ⟨[], (List.append_nil _).symm⟩ | exact ⟨_, rfl⟩ | apply pre_app))
def sg_4 : List aE := [.inr (.inr (.inr (11, [some none, some none, some none, some none, some none, some none, some none, some none, some none, some none, some none, some none, some none, some none, some none]))), .inr (.inr (.inr (7, [some (some 2), none, none, some (some 3), none, none, none, none, none]))), .inl (.byte, 500), .inr (.inr (.inr (8, [none, none, none, none, none, none, some (some 4), some (some 5), some (some 6), some (some 19), some (some 20), some (some 21), some (some 22), some (some 23), some (some 24)]))), .inl (.byte, 8), .inl (.int, 8), .inr (.inr (.inl (.array .byte, [some 7, some 8, some 9, some 10, some 11, some 12, some 13, some 14, some 15, some 16, some 17, some 18]))), .inl (.byte, 6), .inl (.byte, 6), .inl (.byte, 6), .inl (.byte, 6), .inl (.byte, 6), .inl (.byte, 6), .inl (.byte, 6), .inl (.byte, 6), .inl (.byte, 6), .inl (.byte, 6), .inl (.byte, 6), .inl (.byte, 6), .inl (.int, 12), .inl (.int, 12), .inl (.int, 12), .inl (.int, 4), .inl (.int, 6), .inl (.int, 6)]
def mg_7 : aM := (aup mg_6 1 8 (-1))
