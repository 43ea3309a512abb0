/-! THE CONSTRUCTORS, along their one run -/
theorem fitR {ty : FieldType} (h : ty.isReference = true) : narrow ty (.ref 0) = .ref 0 ∧ (∀ x : Nat, narrow ty (.ref x) = .ref x) ∧ ∀ x : Nat, fits ty (.ref x) = true := by
  cases ty <;> first | exact ⟨rfl, fun _ => rfl, fun _ => rfl⟩ | cases h
theorem pre_app {al a x : List Nat} (h : ∃ bl, a = al ++ bl) : ∃ bl, a ++ x = al ++ bl := by
  obtain ⟨bl, rfl⟩ := h
  exact ⟨bl ++ x, List.append_assoc _ _ _⟩
theorem aw_vretA {p : Program} {l : Launch} {e : Env} {R : Room} {s : State} {m : MethodId} {args : Array Value} {below : List Frame} {meth : Method} {c : Code} {D : va_G} {cA : FieldType → ClassId} {ad adV : Nat → Nat} {z0 : Nat} {M : aMI} {al al' : List Nat} {i : Nat} {lv : List (Nat × aV)} {sh : List aE} {mm : aM} {nc ns mc ms : Nat} (K : aK p s m args meth c M D cA ad adV z0) (hd : decode M.2.1 (aPc M i) = .ok (.return_, 1)) (hr : M.2.2.2.1 = none) (hc : nc ≤ mc) (hs : ns ≤ ms) (ha : ∃ bl, al' = al ++ bl) : AW p l e R s m args below meth c (MQ below (aQc D cA ad z0 al none sh mm) args s mc ms (aA z0)) D cA ad z0 M al' i lv [] sh mm nc ns := by
  obtain ⟨bl, rfl⟩ := ha
  exact aw_vret K hd hr hc hs
theorem zt_0 : ∀ k, k < 10 → defaultValue (clTy 0 k) = if (clTy 0 k).isReference = true then .null else .int 0 := by decide +kernel
theorem zt_1 : ∀ k, k < 10 → defaultValue (clTy 1 k) = if (clTy 1 k).isReference = true then .null else .int 0 := by decide +kernel
theorem zt_2 : ∀ k, k < 2 → defaultValue (clTy 2 k) = if (clTy 2 k).isReference = true then .null else .int 0 := by decide +kernel
theorem zt_3 : ∀ k, k < 16 → defaultValue (clTy 3 k) = if (clTy 3 k).isReference = true then .null else .int 0 := by decide +kernel
theorem zt_4 : ∀ k, k < 5 → defaultValue (clTy 4 k) = if (clTy 4 k).isReference = true then .null else .int 0 := by decide +kernel
theorem zt_5 : ∀ k, k < 3 → defaultValue (clTy 5 k) = if (clTy 5 k).isReference = true then .null else .int 0 := by decide +kernel
theorem zt_6 : ∀ k, k < 2 → defaultValue (clTy 6 k) = if (clTy 6 k).isReference = true then .null else .int 0 := by decide +kernel
theorem zt_7 : ∀ k, k < 9 → defaultValue (clTy 7 k) = if (clTy 7 k).isReference = true then .null else .int 0 := by decide +kernel
theorem zt_8 : ∀ k, k < 15 → defaultValue (clTy 8 k) = if (clTy 8 k).isReference = true then .null else .int 0 := by decide +kernel
theorem zt_9 : ∀ k, k < 20 → defaultValue (clTy 9 k) = if (clTy 9 k).isReference = true then .null else .int 0 := by decide +kernel
theorem zt_10 : ∀ k, k < 6 → defaultValue (clTy 10 k) = if (clTy 10 k).isReference = true then .null else .int 0 := by decide +kernel
theorem zt_11 : ∀ k, k < 15 → defaultValue (clTy 11 k) = if (clTy 11 k).isReference = true then .null else .int 0 := by decide +kernel
theorem zt_12 : ∀ k, k < 55 → defaultValue (clTy 12 k) = if (clTy 12 k).isReference = true then .null else .int 0 := by decide +kernel
def mg_start : aM := fun _ _ => 0
def sg_0 : List aE := [.inr (.inr (.inr (11, [some none, some none, some none, some none, some none, some none, some none, some none, some none, some none, some none, some none, some none, some none, some none])))]
def mg_0 : aM := (aNew mg_start 0)
def sg_1 : List aE := [.inr (.inr (.inr (11, [some none, some none, some none, some none, some none, some none, some none, some none, some none, some none, some none, some none, some none, some none, some none]))), .inr (.inr (.inr (7, [some none, none, none, some none, none, none, none, none, none])))]
def mg_1 : aM := (aNew mg_0 1)
def sg_2 : List aE := [.inr (.inr (.inr (11, [some none, some none, some none, some none, some none, some none, some none, some none, some none, some none, some none, some none, some none, some none, some none]))), .inr (.inr (.inr (7, [some (some 2), none, none, some none, none, none, none, none, none]))), .inl (.byte, 500), .inr (.inr (.inr (8, [none, none, none, none, none, none, some none, some none, some none, some none, some none, some none, some none, some none, some none])))]
def mg_2 : aM := (aNew (aNew mg_1 2) 3)
def sg_3 : List aE := [.inr (.inr (.inr (11, [some none, some none, some none, some none, some none, some none, some none, some none, some none, some none, some none, some none, some none, some none, some none]))), .inr (.inr (.inr (7, [some (some 2), none, none, some none, none, none, none, none, none]))), .inl (.byte, 500), .inr (.inr (.inr (8, [none, none, none, none, none, none, some (some 4), some (some 5), some (some 6), some (some 19), some (some 20), some (some 21), some (some 22), some (some 23), some (some 24)]))), .inl (.byte, 8), .inl (.int, 8), .inr (.inr (.inl (.array .byte, [some 7, some 8, some 9, some 10, some 11, some 12, some 13, some 14, some 15, some 16, some 17, some 18]))), .inl (.byte, 6), .inl (.byte, 6), .inl (.byte, 6), .inl (.byte, 6), .inl (.byte, 6), .inl (.byte, 6), .inl (.byte, 6), .inl (.byte, 6), .inl (.byte, 6), .inl (.byte, 6), .inl (.byte, 6), .inl (.byte, 6), .inl (.int, 12), .inl (.int, 12), .inl (.int, 12), .inl (.int, 4), .inl (.int, 6), .inl (.int, 6)]
def mg_3 : aM := (aNew (aNew (aNew (aNew (aNew (aNew (aNewR (aNew (aNew mg_2 4) 5) 6 13) 19) 20) 21) 22) 23) 24)
def mg_4 : aM := (aup (aup (aup (aup (aup (aup mg_3 3 0 0) 3 1 0) 3 2 0) 3 3 0) 3 4 0) 3 5 15)
def mg_5 : aM := (aup (aup (aup (aup (aup (aup (aup (aup mg_4 5 0 0) 5 1 0) 5 2 0) 5 3 0) 5 4 0) 5 5 0) 5 6 0) 5 7 0)
set_option maxHeartbeats 8000000 in
set_option maxRecDepth 20000 in
/-- java/util/Arrays.fill -/
theorem ct_0 {l : Launch} {D : va_G} {cA : FieldType → ClassId} {ad adV : Nat → Nat} {z0 : Nat} : aMet l D cA ad adV z0 mJ7_fill_53178 0 0 0 0 [.inr (.inr (.inl (some 5))), .inl 0] sg_3 mg_4 none sg_3 mg_5 := by
  refine aMet_of (by decide +kernel) rfl (Nat.le_of_ble_eq_true rfl) (fun p e s m args below meth c al K => ?_)
  refine aw_iconst (i := 0) K (n := 0) (i32 _ rfl) (dOf ck_mJ7_fill_53178 rfl rfl) ?_
  refine aw_istore_n (i := 1) K (dOf ck_mJ7_fill_53178 rfl rfl) (Nat.le_of_ble_eq_true rfl) ?_
  refine aw_lvn (lv' := [(2, .inl 0), (0, .inr (.inr (.inl (some 5)))), (1, .inl 0)]) rfl ?_
  refine aw_aload_n (i := 2) K (dOf ck_mJ7_fill_53178 rfl rfl) rfl ?_
  refine aw_alen (i := 3) (n := 8) K (dOf ck_mJ7_fill_53178 rfl rfl) rfl rfl (by decide) ?_
  refine aw_istore_n (i := 4) K (dOf ck_mJ7_fill_53178 rfl rfl) (Nat.le_of_ble_eq_true rfl) ?_
  refine aw_lvn (lv' := [(3, .inl 8), (2, .inl 0), (0, .inr (.inr (.inl (some 5)))), (1, .inl 0)]) rfl ?_
  refine aw_iload_n (i := 5) K (dOf ck_mJ7_fill_53178 rfl rfl) rfl ?_
  refine aw_iload_n (i := 6) K (dOf ck_mJ7_fill_53178 rfl rfl) rfl ?_
  refine aw_icmp_ge (i := 7) K (dOf ck_mJ7_fill_53178 rfl rfl) (t := 14) (aJ_of (by decide +kernel)) (fun z => absurd z (by decide)) (fun _ => ?_)
  refine aw_aload_n (i := 8) K (dOf ck_mJ7_fill_53178 rfl rfl) rfl ?_
  refine aw_iload_n (i := 9) K (dOf ck_mJ7_fill_53178 rfl rfl) rfl ?_
  refine aw_iload_n (i := 10) K (dOf ck_mJ7_fill_53178 rfl rfl) rfl ?_
  refine aw_iast (i := 11) K (dOf ck_mJ7_fill_53178 rfl rfl) rfl (by decide) ?_
  refine aw_iinc (i := 12) K (dOf ck_mJ7_fill_53178 rfl rfl) (Nat.le_of_ble_eq_true rfl) rfl ?_
  refine aw_lvn (lv' := [(2, .inl 1), (3, .inl 8), (0, .inr (.inr (.inl (some 5)))), (1, .inl 0)]) rfl ?_
  refine aw_goto (i := 13) K (dOf ck_mJ7_fill_53178 rfl rfl).1 (t := 5) (aJ_of (by decide +kernel)) ?_
  refine aw_iload_n (i := 5) K (dOf ck_mJ7_fill_53178 rfl rfl) rfl ?_
  refine aw_iload_n (i := 6) K (dOf ck_mJ7_fill_53178 rfl rfl) rfl ?_
  refine aw_icmp_ge (i := 7) K (dOf ck_mJ7_fill_53178 rfl rfl) (t := 14) (aJ_of (by decide +kernel)) (fun z => absurd z (by decide)) (fun _ => ?_)
  refine aw_aload_n (i := 8) K (dOf ck_mJ7_fill_53178 rfl rfl) rfl ?_
  refine aw_iload_n (i := 9) K (dOf ck_mJ7_fill_53178 rfl rfl) rfl ?_
  refine aw_iload_n (i := 10) K (dOf ck_mJ7_fill_53178 rfl rfl) rfl ?_
  refine aw_iast (i := 11) K (dOf ck_mJ7_fill_53178 rfl rfl) rfl (by decide) ?_
  refine aw_iinc (i := 12) K (dOf ck_mJ7_fill_53178 rfl rfl) (Nat.le_of_ble_eq_true rfl) rfl ?_
  refine aw_lvn (lv' := [(2, .inl 2), (3, .inl 8), (0, .inr (.inr (.inl (some 5)))), (1, .inl 0)]) rfl ?_
  refine aw_goto (i := 13) K (dOf ck_mJ7_fill_53178 rfl rfl).1 (t := 5) (aJ_of (by decide +kernel)) ?_
  refine aw_iload_n (i := 5) K (dOf ck_mJ7_fill_53178 rfl rfl) rfl ?_
  refine aw_iload_n (i := 6) K (dOf ck_mJ7_fill_53178 rfl rfl) rfl ?_
  refine aw_icmp_ge (i := 7) K (dOf ck_mJ7_fill_53178 rfl rfl) (t := 14) (aJ_of (by decide +kernel)) (fun z => absurd z (by decide)) (fun _ => ?_)
  refine aw_aload_n (i := 8) K (dOf ck_mJ7_fill_53178 rfl rfl) rfl ?_
  refine aw_iload_n (i := 9) K (dOf ck_mJ7_fill_53178 rfl rfl) rfl ?_
  refine aw_iload_n (i := 10) K (dOf ck_mJ7_fill_53178 rfl rfl) rfl ?_
  refine aw_iast (i := 11) K (dOf ck_mJ7_fill_53178 rfl rfl) rfl (by decide) ?_
  refine aw_iinc (i := 12) K (dOf ck_mJ7_fill_53178 rfl rfl) (Nat.le_of_ble_eq_true rfl) rfl ?_
  refine aw_lvn (lv' := [(2, .inl 3), (3, .inl 8), (0, .inr (.inr (.inl (some 5)))), (1, .inl 0)]) rfl ?_
  refine aw_goto (i := 13) K (dOf ck_mJ7_fill_53178 rfl rfl).1 (t := 5) (aJ_of (by decide +kernel)) ?_
  refine aw_iload_n (i := 5) K (dOf ck_mJ7_fill_53178 rfl rfl) rfl ?_
  refine aw_iload_n (i := 6) K (dOf ck_mJ7_fill_53178 rfl rfl) rfl ?_
  refine aw_icmp_ge (i := 7) K (dOf ck_mJ7_fill_53178 rfl rfl) (t := 14) (aJ_of (by decide +kernel)) (fun z => absurd z (by decide)) (fun _ => ?_)
  refine aw_aload_n (i := 8) K (dOf ck_mJ7_fill_53178 rfl rfl) rfl ?_
  refine aw_iload_n (i := 9) K (dOf ck_mJ7_fill_53178 rfl rfl) rfl ?_
  refine aw_iload_n (i := 10) K (dOf ck_mJ7_fill_53178 rfl rfl) rfl ?_
  refine aw_iast (i := 11) K (dOf ck_mJ7_fill_53178 rfl rfl) rfl (by decide) ?_
  refine aw_iinc (i := 12) K (dOf ck_mJ7_fill_53178 rfl rfl) (Nat.le_of_ble_eq_true rfl) rfl ?_
  refine aw_lvn (lv' := [(2, .inl 4), (3, .inl 8), (0, .inr (.inr (.inl (some 5)))), (1, .inl 0)]) rfl ?_
  refine aw_goto (i := 13) K (dOf ck_mJ7_fill_53178 rfl rfl).1 (t := 5) (aJ_of (by decide +kernel)) ?_
  refine aw_iload_n (i := 5) K (dOf ck_mJ7_fill_53178 rfl rfl) rfl ?_
  refine aw_iload_n (i := 6) K (dOf ck_mJ7_fill_53178 rfl rfl) rfl ?_
  refine aw_icmp_ge (i := 7) K (dOf ck_mJ7_fill_53178 rfl rfl) (t := 14) (aJ_of (by decide +kernel)) (fun z => absurd z (by decide)) (fun _ => ?_)
  refine aw_aload_n (i := 8) K (dOf ck_mJ7_fill_53178 rfl rfl) rfl ?_
  refine aw_iload_n (i := 9) K (dOf ck_mJ7_fill_53178 rfl rfl) rfl ?_
  refine aw_iload_n (i := 10) K (dOf ck_mJ7_fill_53178 rfl rfl) rfl ?_
  refine aw_iast (i := 11) K (dOf ck_mJ7_fill_53178 rfl rfl) rfl (by decide) ?_
  refine aw_iinc (i := 12) K (dOf ck_mJ7_fill_53178 rfl rfl) (Nat.le_of_ble_eq_true rfl) rfl ?_
  refine aw_lvn (lv' := [(2, .inl 5), (3, .inl 8), (0, .inr (.inr (.inl (some 5)))), (1, .inl 0)]) rfl ?_
  refine aw_goto (i := 13) K (dOf ck_mJ7_fill_53178 rfl rfl).1 (t := 5) (aJ_of (by decide +kernel)) ?_
  refine aw_iload_n (i := 5) K (dOf ck_mJ7_fill_53178 rfl rfl) rfl ?_
  refine aw_iload_n (i := 6) K (dOf ck_mJ7_fill_53178 rfl rfl) rfl ?_
  refine aw_icmp_ge (i := 7) K (dOf ck_mJ7_fill_53178 rfl rfl) (t := 14) (aJ_of (by decide +kernel)) (fun z => absurd z (by decide)) (fun _ => ?_)
  refine aw_aload_n (i := 8) K (dOf ck_mJ7_fill_53178 rfl rfl) rfl ?_
  refine aw_iload_n (i := 9) K (dOf ck_mJ7_fill_53178 rfl rfl) rfl ?_
  refine aw_iload_n (i := 10) K (dOf ck_mJ7_fill_53178 rfl rfl) rfl ?_
  refine aw_iast (i := 11) K (dOf ck_mJ7_fill_53178 rfl rfl) rfl (by decide) ?_
  refine aw_iinc (i := 12) K (dOf ck_mJ7_fill_53178 rfl rfl) (Nat.le_of_ble_eq_true rfl) rfl ?_
  refine aw_lvn (lv' := [(2, .inl 6), (3, .inl 8), (0, .inr (.inr (.inl (some 5)))), (1, .inl 0)]) rfl ?_
  refine aw_goto (i := 13) K (dOf ck_mJ7_fill_53178 rfl rfl).1 (t := 5) (aJ_of (by decide +kernel)) ?_
  refine aw_iload_n (i := 5) K (dOf ck_mJ7_fill_53178 rfl rfl) rfl ?_
  refine aw_iload_n (i := 6) K (dOf ck_mJ7_fill_53178 rfl rfl) rfl ?_
  refine aw_icmp_ge (i := 7) K (dOf ck_mJ7_fill_53178 rfl rfl) (t := 14) (aJ_of (by decide +kernel)) (fun z => absurd z (by decide)) (fun _ => ?_)
  refine aw_aload_n (i := 8) K (dOf ck_mJ7_fill_53178 rfl rfl) rfl ?_
  refine aw_iload_n (i := 9) K (dOf ck_mJ7_fill_53178 rfl rfl) rfl ?_
  refine aw_iload_n (i := 10) K (dOf ck_mJ7_fill_53178 rfl rfl) rfl ?_
  refine aw_iast (i := 11) K (dOf ck_mJ7_fill_53178 rfl rfl) rfl (by decide) ?_
  refine aw_iinc (i := 12) K (dOf ck_mJ7_fill_53178 rfl rfl) (Nat.le_of_ble_eq_true rfl) rfl ?_
  refine aw_lvn (lv' := [(2, .inl 7), (3, .inl 8), (0, .inr (.inr (.inl (some 5)))), (1, .inl 0)]) rfl ?_
  refine aw_goto (i := 13) K (dOf ck_mJ7_fill_53178 rfl rfl).1 (t := 5) (aJ_of (by decide +kernel)) ?_
  refine aw_iload_n (i := 5) K (dOf ck_mJ7_fill_53178 rfl rfl) rfl ?_
  refine aw_iload_n (i := 6) K (dOf ck_mJ7_fill_53178 rfl rfl) rfl ?_
  refine aw_icmp_ge (i := 7) K (dOf ck_mJ7_fill_53178 rfl rfl) (t := 14) (aJ_of (by decide +kernel)) (fun z => absurd z (by decide)) (fun _ => ?_)
  refine aw_aload_n (i := 8) K (dOf ck_mJ7_fill_53178 rfl rfl) rfl ?_
  refine aw_iload_n (i := 9) K (dOf ck_mJ7_fill_53178 rfl rfl) rfl ?_
  refine aw_iload_n (i := 10) K (dOf ck_mJ7_fill_53178 rfl rfl) rfl ?_
  refine aw_iast (i := 11) K (dOf ck_mJ7_fill_53178 rfl rfl) rfl (by decide) ?_
  refine aw_iinc (i := 12) K (dOf ck_mJ7_fill_53178 rfl rfl) (Nat.le_of_ble_eq_true rfl) rfl ?_
  refine aw_lvn (lv' := [(2, .inl 8), (3, .inl 8), (0, .inr (.inr (.inl (some 5)))), (1, .inl 0)]) rfl ?_
  refine aw_goto (i := 13) K (dOf ck_mJ7_fill_53178 rfl rfl).1 (t := 5) (aJ_of (by decide +kernel)) ?_
  refine aw_iload_n (i := 5) K (dOf ck_mJ7_fill_53178 rfl rfl) rfl ?_
  refine aw_iload_n (i := 6) K (dOf ck_mJ7_fill_53178 rfl rfl) rfl ?_
  refine aw_icmp_ge (i := 7) K (dOf ck_mJ7_fill_53178 rfl rfl) (t := 14) (aJ_of (by decide +kernel)) (fun _ => ?_) (fun z => absurd (by decide) z)
  refine aw_nm (sh' := sg_3) (mm' := mg_5) rfl rfl ?_
  exact aw_vretA K (by decide +kernel) rfl (Nat.le_of_ble_eq_true rfl) (Nat.le_of_ble_eq_true rfl) (by repeat (first | exact ⟨[], (List.append_nil _).symm⟩ | exact ⟨_, rfl⟩ | apply pre_app))
def mg_6 : aM := (aup (aup (aup (aup mg_5 22 0 15) 22 1 15) 22 2 15) 22 3 15)
set_option maxHeartbeats 8000000 in
set_option maxRecDepth 20000 in
/-- java/util/Arrays.fill -/
theorem ct_1 {l : Launch} {D : va_G} {cA : FieldType → ClassId} {ad adV : Nat → Nat} {z0 : Nat} : aMet l D cA ad adV z0 mJ7_fill_53178 0 0 0 0 [.inr (.inr (.inl (some 22))), .inl 15] sg_3 mg_5 none sg_3 mg_6 := by
  refine aMet_of (by decide +kernel) rfl (Nat.le_of_ble_eq_true rfl) (fun p e s m args below meth c al K => ?_)
  refine aw_iconst (i := 0) K (n := 0) (i32 _ rfl) (dOf ck_mJ7_fill_53178 rfl rfl) ?_
  refine aw_istore_n (i := 1) K (dOf ck_mJ7_fill_53178 rfl rfl) (Nat.le_of_ble_eq_true rfl) ?_
  refine aw_lvn (lv' := [(2, .inl 0), (0, .inr (.inr (.inl (some 22)))), (1, .inl 15)]) rfl ?_
  refine aw_aload_n (i := 2) K (dOf ck_mJ7_fill_53178 rfl rfl) rfl ?_
  refine aw_alen (i := 3) (n := 4) K (dOf ck_mJ7_fill_53178 rfl rfl) rfl rfl (by decide) ?_
  refine aw_istore_n (i := 4) K (dOf ck_mJ7_fill_53178 rfl rfl) (Nat.le_of_ble_eq_true rfl) ?_
  refine aw_lvn (lv' := [(3, .inl 4), (2, .inl 0), (0, .inr (.inr (.inl (some 22)))), (1, .inl 15)]) rfl ?_
  refine aw_iload_n (i := 5) K (dOf ck_mJ7_fill_53178 rfl rfl) rfl ?_
  refine aw_iload_n (i := 6) K (dOf ck_mJ7_fill_53178 rfl rfl) rfl ?_
  refine aw_icmp_ge (i := 7) K (dOf ck_mJ7_fill_53178 rfl rfl) (t := 14) (aJ_of (by decide +kernel)) (fun z => absurd z (by decide)) (fun _ => ?_)
  refine aw_aload_n (i := 8) K (dOf ck_mJ7_fill_53178 rfl rfl) rfl ?_
  refine aw_iload_n (i := 9) K (dOf ck_mJ7_fill_53178 rfl rfl) rfl ?_
  refine aw_iload_n (i := 10) K (dOf ck_mJ7_fill_53178 rfl rfl) rfl ?_
  refine aw_iast (i := 11) K (dOf ck_mJ7_fill_53178 rfl rfl) rfl (by decide) ?_
  refine aw_iinc (i := 12) K (dOf ck_mJ7_fill_53178 rfl rfl) (Nat.le_of_ble_eq_true rfl) rfl ?_
  refine aw_lvn (lv' := [(2, .inl 1), (3, .inl 4), (0, .inr (.inr (.inl (some 22)))), (1, .inl 15)]) rfl ?_
  refine aw_goto (i := 13) K (dOf ck_mJ7_fill_53178 rfl rfl).1 (t := 5) (aJ_of (by decide +kernel)) ?_
  refine aw_iload_n (i := 5) K (dOf ck_mJ7_fill_53178 rfl rfl) rfl ?_
  refine aw_iload_n (i := 6) K (dOf ck_mJ7_fill_53178 rfl rfl) rfl ?_
  refine aw_icmp_ge (i := 7) K (dOf ck_mJ7_fill_53178 rfl rfl) (t := 14) (aJ_of (by decide +kernel)) (fun z => absurd z (by decide)) (fun _ => ?_)
  refine aw_aload_n (i := 8) K (dOf ck_mJ7_fill_53178 rfl rfl) rfl ?_
  refine aw_iload_n (i := 9) K (dOf ck_mJ7_fill_53178 rfl rfl) rfl ?_
  refine aw_iload_n (i := 10) K (dOf ck_mJ7_fill_53178 rfl rfl) rfl ?_
  refine aw_iast (i := 11) K (dOf ck_mJ7_fill_53178 rfl rfl) rfl (by decide) ?_
  refine aw_iinc (i := 12) K (dOf ck_mJ7_fill_53178 rfl rfl) (Nat.le_of_ble_eq_true rfl) rfl ?_
  refine aw_lvn (lv' := [(2, .inl 2), (3, .inl 4), (0, .inr (.inr (.inl (some 22)))), (1, .inl 15)]) rfl ?_
  refine aw_goto (i := 13) K (dOf ck_mJ7_fill_53178 rfl rfl).1 (t := 5) (aJ_of (by decide +kernel)) ?_
  refine aw_iload_n (i := 5) K (dOf ck_mJ7_fill_53178 rfl rfl) rfl ?_
  refine aw_iload_n (i := 6) K (dOf ck_mJ7_fill_53178 rfl rfl) rfl ?_
  refine aw_icmp_ge (i := 7) K (dOf ck_mJ7_fill_53178 rfl rfl) (t := 14) (aJ_of (by decide +kernel)) (fun z => absurd z (by decide)) (fun _ => ?_)
  refine aw_aload_n (i := 8) K (dOf ck_mJ7_fill_53178 rfl rfl) rfl ?_
  refine aw_iload_n (i := 9) K (dOf ck_mJ7_fill_53178 rfl rfl) rfl ?_
  refine aw_iload_n (i := 10) K (dOf ck_mJ7_fill_53178 rfl rfl) rfl ?_
  refine aw_iast (i := 11) K (dOf ck_mJ7_fill_53178 rfl rfl) rfl (by decide) ?_
  refine aw_iinc (i := 12) K (dOf ck_mJ7_fill_53178 rfl rfl) (Nat.le_of_ble_eq_true rfl) rfl ?_
  refine aw_lvn (lv' := [(2, .inl 3), (3, .inl 4), (0, .inr (.inr (.inl (some 22)))), (1, .inl 15)]) rfl ?_
  refine aw_goto (i := 13) K (dOf ck_mJ7_fill_53178 rfl rfl).1 (t := 5) (aJ_of (by decide +kernel)) ?_
  refine aw_iload_n (i := 5) K (dOf ck_mJ7_fill_53178 rfl rfl) rfl ?_
  refine aw_iload_n (i := 6) K (dOf ck_mJ7_fill_53178 rfl rfl) rfl ?_
  refine aw_icmp_ge (i := 7) K (dOf ck_mJ7_fill_53178 rfl rfl) (t := 14) (aJ_of (by decide +kernel)) (fun z => absurd z (by decide)) (fun _ => ?_)
  refine aw_aload_n (i := 8) K (dOf ck_mJ7_fill_53178 rfl rfl) rfl ?_
  refine aw_iload_n (i := 9) K (dOf ck_mJ7_fill_53178 rfl rfl) rfl ?_
  refine aw_iload_n (i := 10) K (dOf ck_mJ7_fill_53178 rfl rfl) rfl ?_
  refine aw_iast (i := 11) K (dOf ck_mJ7_fill_53178 rfl rfl) rfl (by decide) ?_
  refine aw_iinc (i := 12) K (dOf ck_mJ7_fill_53178 rfl rfl) (Nat.le_of_ble_eq_true rfl) rfl ?_
  refine aw_lvn (lv' := [(2, .inl 4), (3, .inl 4), (0, .inr (.inr (.inl (some 22)))), (1, .inl 15)]) rfl ?_
  refine aw_goto (i := 13) K (dOf ck_mJ7_fill_53178 rfl rfl).1 (t := 5) (aJ_of (by decide +kernel)) ?_
  refine aw_iload_n (i := 5) K (dOf ck_mJ7_fill_53178 rfl rfl) rfl ?_
  refine aw_iload_n (i := 6) K (dOf ck_mJ7_fill_53178 rfl rfl) rfl ?_
  refine aw_icmp_ge (i := 7) K (dOf ck_mJ7_fill_53178 rfl rfl) (t := 14) (aJ_of (by decide +kernel)) (fun _ => ?_) (fun z => absurd (by decide) z)
  refine aw_nm (sh' := sg_3) (mm' := mg_6) rfl rfl ?_
  exact aw_vretA K (by decide +kernel) rfl (Nat.le_of_ble_eq_true rfl) (Nat.le_of_ble_eq_true rfl) (by repeat (first | exact ⟨[], (List.append_nil _).symm⟩ | exact ⟨_, rfl⟩ | apply pre_app))
set_option maxHeartbeats 8000000 in
set_option maxRecDepth 20000 in
/-- Tongue.empty -/
theorem ct_2 {l : Launch} {D : va_G} {cA : FieldType → ClassId} {ad adV : Nat → Nat} {z0 : Nat} : aMet l D cA ad adV z0 mX8_empty 1 23 0 0 [.inr (.inr (.inl (some 3)))] sg_3 mg_3 none sg_3 mg_6 := by
  refine aMet_of (by decide +kernel) rfl (Nat.le_of_ble_eq_true rfl) (fun p e s m args below meth c al K => ?_)
  refine aw_aload_n (i := 0) K (dOf ck_mX8_empty rfl rfl) rfl ?_
  refine aw_iconst (i := 1) K (n := 0) (i32 _ rfl) (dOf ck_mX8_empty rfl rfl) ?_
  refine aw_putf (i := 2) (k := 0) K (dOf ck_mX8_empty rfl rfl) rfl rfl (Nat.le_of_ble_eq_true rfl) wd_188 rfl rfl (Or.inl rfl) ?_
  refine aw_aload_n (i := 3) K (dOf ck_mX8_empty rfl rfl) rfl ?_
  refine aw_iconst (i := 4) K (n := 0) (i32 _ rfl) (dOf ck_mX8_empty rfl rfl) ?_
  refine aw_putf (i := 5) (k := 1) K (dOf ck_mX8_empty rfl rfl) rfl rfl (Nat.le_of_ble_eq_true rfl) wd_191 rfl rfl (Or.inl rfl) ?_
  refine aw_aload_n (i := 6) K (dOf ck_mX8_empty rfl rfl) rfl ?_
  refine aw_iconst (i := 7) K (n := 0) (i32 _ rfl) (dOf ck_mX8_empty rfl rfl) ?_
  refine aw_putf (i := 8) (k := 2) K (dOf ck_mX8_empty rfl rfl) rfl rfl (Nat.le_of_ble_eq_true rfl) wd_198 rfl rfl (Or.inl rfl) ?_
  refine aw_aload_n (i := 9) K (dOf ck_mX8_empty rfl rfl) rfl ?_
  refine aw_iconst (i := 10) K (n := 0) (i32 _ rfl) (dOf ck_mX8_empty rfl rfl) ?_
  refine aw_putf (i := 11) (k := 3) K (dOf ck_mX8_empty rfl rfl) rfl rfl (Nat.le_of_ble_eq_true rfl) wd_203 rfl rfl (Or.inl rfl) ?_
  refine aw_aload_n (i := 12) K (dOf ck_mX8_empty rfl rfl) rfl ?_
  refine aw_iconst (i := 13) K (n := 0) (i32 _ rfl) (dOf ck_mX8_empty rfl rfl) ?_
  refine aw_putf (i := 14) (k := 4) K (dOf ck_mX8_empty rfl rfl) rfl rfl (Nat.le_of_ble_eq_true rfl) wd_207 rfl rfl (Or.inl rfl) ?_
  refine aw_aload_n (i := 15) K (dOf ck_mX8_empty rfl rfl) rfl ?_
  refine aw_bip (i := 16) K (dOf ck_mX8_empty rfl rfl) (v := 15) rfl ?_
  refine aw_putf (i := 17) (k := 5) K (dOf ck_mX8_empty rfl rfl) rfl rfl (Nat.le_of_ble_eq_true rfl) wd_213 rfl rfl (Or.inl rfl) ?_
  refine aw_aload_n (i := 18) K (dOf ck_mX8_empty rfl rfl) rfl ?_
  refine aw_getf (i := 19) (k := 7) K (dOf ck_mX8_empty rfl rfl) rfl rfl (Nat.le_of_ble_eq_true rfl) wd_219 rfl ?_
  refine aw_iconst (i := 20) K (n := 0) (i32 _ rfl) (dOf ck_mX8_empty rfl rfl) ?_
  refine aw_nm (sh' := sg_3) (mm' := mg_4) rfl rfl ?_
  refine aw_callS (i := 21) (as := [.inr (.inr (.inl (some 5))), .inl 0]) K (dOf ck_mX8_empty rfl rfl) al_OneBreath_Tongue_64 wd_186 rfl (Nat.le_of_ble_eq_true rfl) ⟨Nat.le_of_ble_eq_true rfl, Nat.le_of_ble_eq_true rfl⟩ ⟨Nat.le_of_ble_eq_true rfl, Nat.le_of_ble_eq_true rfl⟩ (Nat.le_of_ble_eq_true rfl) ct_0 (fun bl1 => ?_)
  refine aw_aload_n (i := 22) K (dOf ck_mX8_empty rfl rfl) rfl ?_
  refine aw_getf (i := 23) (k := 12) K (dOf ck_mX8_empty rfl rfl) rfl rfl (Nat.le_of_ble_eq_true rfl) wd_257 rfl ?_
  refine aw_bip (i := 24) K (dOf ck_mX8_empty rfl rfl) (v := 15) rfl ?_
  refine aw_nm (sh' := sg_3) (mm' := mg_5) rfl rfl ?_
  refine aw_callS (i := 25) (as := [.inr (.inr (.inl (some 22))), .inl 15]) K (dOf ck_mX8_empty rfl rfl) al_OneBreath_Tongue_64 wd_186 rfl (Nat.le_of_ble_eq_true rfl) ⟨Nat.le_of_ble_eq_true rfl, Nat.le_of_ble_eq_true rfl⟩ ⟨Nat.le_of_ble_eq_true rfl, Nat.le_of_ble_eq_true rfl⟩ (Nat.le_of_ble_eq_true rfl) ct_1 (fun bl2 => ?_)
  refine aw_nm (sh' := sg_3) (mm' := mg_6) rfl rfl ?_
  exact aw_vretA K (by decide +kernel) rfl (Nat.le_of_ble_eq_true rfl) (Nat.le_of_ble_eq_true rfl) (by repeat (first | exact ⟨[], (List.append_nil _).symm⟩ | exact ⟨_, rfl⟩ | apply pre_app))
set_option maxHeartbeats 8000000 in
set_option maxRecDepth 20000 in
/-- Tongue.<init> -/
theorem ct_3 {l : Launch} {D : va_G} {cA : FieldType → ClassId} {ad adV : Nat → Nat} {z0 : Nat} : aMet l D cA ad adV z0 mX8_init 2 43 21 152 [.inr (.inr (.inl (some 3)))] sg_2 mg_2 none sg_3 mg_6 := by
  refine aMet_of (by decide +kernel) rfl (Nat.le_of_ble_eq_true rfl) (fun p e s m args below meth c al K => ?_)
  refine aw_aload_n (i := 0) K (dOf ck_mX8_init rfl rfl) rfl ?_
  refine aw_objInit (i := 1) K (dOf ck_mX8_init rfl rfl) ⟨wd_179, wd_167, wd_168⟩ (Nat.le_of_ble_eq_true rfl) ⟨Nat.le_of_ble_eq_true rfl, Nat.le_of_ble_eq_true rfl⟩ ?_
  refine aw_aload_n (i := 2) K (dOf ck_mX8_init rfl rfl) rfl ?_
  refine aw_bip (i := 3) K (dOf ck_mX8_init rfl rfl) (v := 8) rfl ?_
  refine aw_newaN (i := 4) (n := 8) (ty := .byte) K (dOf ck_mX8_init rfl rfl) rfl (by decide) wd_272 (Nat.le_of_ble_eq_true rfl) (Nat.le_of_ble_eq_true rfl) (Nat.le_of_ble_eq_true rfl) 4 rfl (fun q4 => ?_)
  refine aw_putr (i := 5) (k := 6) K (dOf ck_mX8_init rfl rfl) rfl rfl (Nat.le_of_ble_eq_true rfl) wd_216 rfl rfl rfl rfl (fitR (by decide +kernel)) ?_
  refine aw_aload_n (i := 6) K (dOf ck_mX8_init rfl rfl) rfl ?_
  refine aw_bip (i := 7) K (dOf ck_mX8_init rfl rfl) (v := 8) rfl ?_
  refine aw_newaN (i := 8) (n := 8) (ty := .int) K (dOf ck_mX8_init rfl rfl) rfl (by decide) wd_273 (Nat.le_of_ble_eq_true rfl) (Nat.le_of_ble_eq_true rfl) (Nat.le_of_ble_eq_true rfl) 5 rfl (fun q5 => ?_)
  refine aw_putr (i := 9) (k := 7) K (dOf ck_mX8_init rfl rfl) rfl rfl (Nat.le_of_ble_eq_true rfl) wd_219 rfl rfl rfl rfl (fitR (by decide +kernel)) ?_
  refine aw_aload_n (i := 10) K (dOf ck_mX8_init rfl rfl) rfl ?_
  refine aw_bip (i := 11) K (dOf ck_mX8_init rfl rfl) (v := 12) rfl ?_
  refine aw_bip (i := 12) K (dOf ck_mX8_init rfl rfl) (v := 6) rfl ?_
  refine aw_mnaN (i := 13) (n := 12) (k := 6) (ty := .byte) K (dOf ck_mX8_init rfl rfl) wd_180 (Or.inl ⟨rfl, rfl⟩) wd_272 (Nat.le_of_ble_eq_true rfl) (Nat.le_of_ble_eq_true rfl) (Nat.le_of_ble_eq_true rfl) (Nat.le_of_ble_eq_true rfl) 6 rfl (fun bl6 => ?_)
  refine aw_putr (i := 14) (k := 8) K (dOf ck_mX8_init rfl rfl) rfl rfl (Nat.le_of_ble_eq_true rfl) wd_226 rfl rfl rfl rfl (fitR (by decide +kernel)) ?_
  refine aw_aload_n (i := 15) K (dOf ck_mX8_init rfl rfl) rfl ?_
  refine aw_bip (i := 16) K (dOf ck_mX8_init rfl rfl) (v := 12) rfl ?_
  refine aw_newaN (i := 17) (n := 12) (ty := .int) K (dOf ck_mX8_init rfl rfl) rfl (by decide) wd_273 (Nat.le_of_ble_eq_true rfl) (Nat.le_of_ble_eq_true rfl) (Nat.le_of_ble_eq_true rfl) 19 rfl (fun q19 => ?_)
  refine aw_putr (i := 18) (k := 9) K (dOf ck_mX8_init rfl rfl) rfl rfl (Nat.le_of_ble_eq_true rfl) wd_235 rfl rfl rfl rfl (fitR (by decide +kernel)) ?_
  refine aw_aload_n (i := 19) K (dOf ck_mX8_init rfl rfl) rfl ?_
  refine aw_bip (i := 20) K (dOf ck_mX8_init rfl rfl) (v := 12) rfl ?_
  refine aw_newaN (i := 21) (n := 12) (ty := .int) K (dOf ck_mX8_init rfl rfl) rfl (by decide) wd_273 (Nat.le_of_ble_eq_true rfl) (Nat.le_of_ble_eq_true rfl) (Nat.le_of_ble_eq_true rfl) 20 rfl (fun q20 => ?_)
  refine aw_putr (i := 22) (k := 10) K (dOf ck_mX8_init rfl rfl) rfl rfl (Nat.le_of_ble_eq_true rfl) wd_244 rfl rfl rfl rfl (fitR (by decide +kernel)) ?_
  refine aw_aload_n (i := 23) K (dOf ck_mX8_init rfl rfl) rfl ?_
  refine aw_bip (i := 24) K (dOf ck_mX8_init rfl rfl) (v := 12) rfl ?_
  refine aw_newaN (i := 25) (n := 12) (ty := .int) K (dOf ck_mX8_init rfl rfl) rfl (by decide) wd_273 (Nat.le_of_ble_eq_true rfl) (Nat.le_of_ble_eq_true rfl) (Nat.le_of_ble_eq_true rfl) 21 rfl (fun q21 => ?_)
  refine aw_putr (i := 26) (k := 11) K (dOf ck_mX8_init rfl rfl) rfl rfl (Nat.le_of_ble_eq_true rfl) wd_250 rfl rfl rfl rfl (fitR (by decide +kernel)) ?_
  refine aw_aload_n (i := 27) K (dOf ck_mX8_init rfl rfl) rfl ?_
  refine aw_iconst (i := 28) K (n := 4) (i32 _ rfl) (dOf ck_mX8_init rfl rfl) ?_
  refine aw_newaN (i := 29) (n := 4) (ty := .int) K (dOf ck_mX8_init rfl rfl) rfl (by decide) wd_273 (Nat.le_of_ble_eq_true rfl) (Nat.le_of_ble_eq_true rfl) (Nat.le_of_ble_eq_true rfl) 22 rfl (fun q22 => ?_)
  refine aw_putr (i := 30) (k := 12) K (dOf ck_mX8_init rfl rfl) rfl rfl (Nat.le_of_ble_eq_true rfl) wd_257 rfl rfl rfl rfl (fitR (by decide +kernel)) ?_
  refine aw_aload_n (i := 31) K (dOf ck_mX8_init rfl rfl) rfl ?_
  refine aw_bip (i := 32) K (dOf ck_mX8_init rfl rfl) (v := 6) rfl ?_
  refine aw_newaN (i := 33) (n := 6) (ty := .int) K (dOf ck_mX8_init rfl rfl) rfl (by decide) wd_273 (Nat.le_of_ble_eq_true rfl) (Nat.le_of_ble_eq_true rfl) (Nat.le_of_ble_eq_true rfl) 23 rfl (fun q23 => ?_)
  refine aw_putr (i := 34) (k := 13) K (dOf ck_mX8_init rfl rfl) rfl rfl (Nat.le_of_ble_eq_true rfl) wd_262 rfl rfl rfl rfl (fitR (by decide +kernel)) ?_
  refine aw_aload_n (i := 35) K (dOf ck_mX8_init rfl rfl) rfl ?_
  refine aw_bip (i := 36) K (dOf ck_mX8_init rfl rfl) (v := 6) rfl ?_
  refine aw_newaN (i := 37) (n := 6) (ty := .int) K (dOf ck_mX8_init rfl rfl) rfl (by decide) wd_273 (Nat.le_of_ble_eq_true rfl) (Nat.le_of_ble_eq_true rfl) (Nat.le_of_ble_eq_true rfl) 24 rfl (fun q24 => ?_)
  refine aw_putr (i := 38) (k := 14) K (dOf ck_mX8_init rfl rfl) rfl rfl (Nat.le_of_ble_eq_true rfl) wd_267 rfl rfl rfl rfl (fitR (by decide +kernel)) ?_
  refine aw_aload_n (i := 39) K (dOf ck_mX8_init rfl rfl) rfl ?_
  refine aw_nm (sh' := sg_3) (mm' := mg_3) rfl rfl ?_
  refine aw_callV (i := 40) (as := []) (q := 3) K (dOf ck_mX8_init rfl rfl) al_OneBreath_Tongue_42 rfl rfl ⟨wd_182, wd_183⟩ rfl (Nat.le_of_ble_eq_true rfl) ⟨Nat.le_of_ble_eq_true rfl, Nat.le_of_ble_eq_true rfl⟩ ⟨Nat.le_of_ble_eq_true rfl, Nat.le_of_ble_eq_true rfl⟩ (Nat.le_of_ble_eq_true rfl) ct_2 (fun bl3 => ?_)
  refine aw_nm (sh' := sg_3) (mm' := mg_6) rfl rfl ?_
  exact aw_vretA K (by decide +kernel) rfl (Nat.le_of_ble_eq_true rfl) (Nat.le_of_ble_eq_true rfl) (by repeat (first | exact ⟨[], (List.append_nil _).symm⟩ | exact ⟨_, rfl⟩ | apply pre_app))
def sg_4 : List aE := [.inr (.inr (.inr (11, [some none, some none, some none, some none, some none, some none, some none, some none, some none, some none, some none, some none, some none, some none, some none]))), .inr (.inr (.inr (7, [some (some 2), none, none, some (some 3), none, none, none, none, none]))), .inl (.byte, 500), .inr (.inr (.inr (8, [none, none, none, none, none, none, some (some 4), some (some 5), some (some 6), some (some 19), some (some 20), some (some 21), some (some 22), some (some 23), some (some 24)]))), .inl (.byte, 8), .inl (.int, 8), .inr (.inr (.inl (.array .byte, [some 7, some 8, some 9, some 10, some 11, some 12, some 13, some 14, some 15, some 16, some 17, some 18]))), .inl (.byte, 6), .inl (.byte, 6), .inl (.byte, 6), .inl (.byte, 6), .inl (.byte, 6), .inl (.byte, 6), .inl (.byte, 6), .inl (.byte, 6), .inl (.byte, 6), .inl (.byte, 6), .inl (.byte, 6), .inl (.byte, 6), .inl (.int, 12), .inl (.int, 12), .inl (.int, 12), .inl (.int, 4), .inl (.int, 6), .inl (.int, 6)]
def mg_7 : aM := (aup mg_6 1 8 (-1))
set_option maxHeartbeats 8000000 in
set_option maxRecDepth 20000 in
/-- Tape.<init> -/
theorem ct_4 {l : Launch} {D : va_G} {cA : FieldType → ClassId} {ad adV : Nat → Nat} {z0 : Nat} : aMet l D cA ad adV z0 mX7_init 3 63 23 667 [.inr (.inr (.inl (some 1)))] sg_1 mg_1 none sg_4 mg_7 := by
  refine aMet_of (by decide +kernel) rfl (Nat.le_of_ble_eq_true rfl) (fun p e s m args below meth c al K => ?_)
  refine aw_aload_n (i := 0) K (dOf ck_mX7_init rfl rfl) rfl ?_
  refine aw_objInit (i := 1) K (dOf ck_mX7_init rfl rfl) ⟨wd_173, wd_167, wd_168⟩ (Nat.le_of_ble_eq_true rfl) ⟨Nat.le_of_ble_eq_true rfl, Nat.le_of_ble_eq_true rfl⟩ ?_
  refine aw_aload_n (i := 2) K (dOf ck_mX7_init rfl rfl) rfl ?_
  refine aw_sip (i := 3) K (dOf ck_mX7_init rfl rfl) (v := 500) rfl ?_
  refine aw_newaN (i := 4) (n := 500) (ty := .byte) K (dOf ck_mX7_init rfl rfl) rfl (by decide) wd_272 (Nat.le_of_ble_eq_true rfl) (Nat.le_of_ble_eq_true rfl) (Nat.le_of_ble_eq_true rfl) 2 rfl (fun q2 => ?_)
  refine aw_putr (i := 5) (k := 0) K (dOf ck_mX7_init rfl rfl) rfl rfl (Nat.le_of_ble_eq_true rfl) wd_274 rfl rfl rfl rfl (fitR (by decide +kernel)) ?_
  refine aw_aload_n (i := 6) K (dOf ck_mX7_init rfl rfl) rfl ?_
  refine aw_newN (i := 7) (ci := 8) K (dOf ck_mX7_init rfl rfl) rfl wd_174 wd_175 wd_140 zt_8 (Nat.le_of_ble_eq_true rfl) (Nat.le_of_ble_eq_true rfl) 3 rfl (fun q3 => ?_)
  refine aw_dup (i := 8) K rfl (dOf ck_mX7_init rfl rfl) ?_
  refine aw_nm (sh' := sg_2) (mm' := mg_2) rfl rfl ?_
  refine aw_callI (i := 9) (as := []) (q := 3) K (dOf ck_mX7_init rfl rfl) al_OneBreath_Tape_17 rfl rfl wd_177 rfl (Nat.le_of_ble_eq_true rfl) ⟨Nat.le_of_ble_eq_true rfl, Nat.le_of_ble_eq_true rfl⟩ ⟨Nat.le_of_ble_eq_true rfl, Nat.le_of_ble_eq_true rfl⟩ (Nat.le_of_ble_eq_true rfl) ct_3 (fun bl4 => ?_)
  refine aw_putr (i := 10) (k := 3) K (dOf ck_mX7_init rfl rfl) rfl rfl (Nat.le_of_ble_eq_true rfl) wd_278 rfl rfl rfl rfl (fitR (by decide +kernel)) ?_
  refine aw_aload_n (i := 11) K (dOf ck_mX7_init rfl rfl) rfl ?_
  refine aw_iconst (i := 12) K (n := -1) (i32 _ rfl) (dOf ck_mX7_init rfl rfl) ?_
  refine aw_putf (i := 13) (k := 8) K (dOf ck_mX7_init rfl rfl) rfl rfl (Nat.le_of_ble_eq_true rfl) wd_285 rfl rfl (Or.inl rfl) ?_
  refine aw_nm (sh' := sg_4) (mm' := mg_7) rfl rfl ?_
  exact aw_vretA K (by decide +kernel) rfl (Nat.le_of_ble_eq_true rfl) (Nat.le_of_ble_eq_true rfl) (by repeat (first | exact ⟨[], (List.append_nil _).symm⟩ | exact ⟨_, rfl⟩ | apply pre_app))
def sg_5 : List aE := [.inr (.inr (.inr (11, [some (some 1), some none, some none, some none, some none, some none, some none, some none, some none, some none, some none, some none, some none, some none, some none]))), .inr (.inr (.inr (7, [some (some 2), none, none, some (some 3), none, none, none, none, none]))), .inl (.byte, 500), .inr (.inr (.inr (8, [none, none, none, none, none, none, some (some 4), some (some 5), some (some 6), some (some 19), some (some 20), some (some 21), some (some 22), some (some 23), some (some 24)]))), .inl (.byte, 8), .inl (.int, 8), .inr (.inr (.inl (.array .byte, [some 7, some 8, some 9, some 10, some 11, some 12, some 13, some 14, some 15, some 16, some 17, some 18]))), .inl (.byte, 6), .inl (.byte, 6), .inl (.byte, 6), .inl (.byte, 6), .inl (.byte, 6), .inl (.byte, 6), .inl (.byte, 6), .inl (.byte, 6), .inl (.byte, 6), .inl (.byte, 6), .inl (.byte, 6), .inl (.byte, 6), .inl (.int, 12), .inl (.int, 12), .inl (.int, 12), .inl (.int, 4), .inl (.int, 6), .inl (.int, 6), .inr (.inr (.inr (8, [none, none, none, none, none, none, some none, some none, some none, some none, some none, some none, some none, some none, some none])))]
def mg_8 : aM := (aNew mg_7 25)
def sg_6 : List aE := [.inr (.inr (.inr (11, [some (some 1), some none, some none, some none, some none, some none, some none, some none, some none, some none, some none, some none, some none, some none, some none]))), .inr (.inr (.inr (7, [some (some 2), none, none, some (some 3), none, none, none, none, none]))), .inl (.byte, 500), .inr (.inr (.inr (8, [none, none, none, none, none, none, some (some 4), some (some 5), some (some 6), some (some 19), some (some 20), some (some 21), some (some 22), some (some 23), some (some 24)]))), .inl (.byte, 8), .inl (.int, 8), .inr (.inr (.inl (.array .byte, [some 7, some 8, some 9, some 10, some 11, some 12, some 13, some 14, some 15, some 16, some 17, some 18]))), .inl (.byte, 6), .inl (.byte, 6), .inl (.byte, 6), .inl (.byte, 6), .inl (.byte, 6), .inl (.byte, 6), .inl (.byte, 6), .inl (.byte, 6), .inl (.byte, 6), .inl (.byte, 6), .inl (.byte, 6), .inl (.byte, 6), .inl (.int, 12), .inl (.int, 12), .inl (.int, 12), .inl (.int, 4), .inl (.int, 6), .inl (.int, 6), .inr (.inr (.inr (8, [none, none, none, none, none, none, some (some 26), some (some 27), some (some 28), some (some 41), some (some 42), some (some 43), some (some 44), some (some 45), some (some 46)]))), .inl (.byte, 8), .inl (.int, 8), .inr (.inr (.inl (.array .byte, [some 29, some 30, some 31, some 32, some 33, some 34, some 35, some 36, some 37, some 38, some 39, some 40]))), .inl (.byte, 6), .inl (.byte, 6), .inl (.byte, 6), .inl (.byte, 6), .inl (.byte, 6), .inl (.byte, 6), .inl (.byte, 6), .inl (.byte, 6), .inl (.byte, 6), .inl (.byte, 6), .inl (.byte, 6), .inl (.byte, 6), .inl (.int, 12), .inl (.int, 12), .inl (.int, 12), .inl (.int, 4), .inl (.int, 6), .inl (.int, 6)]
def mg_9 : aM := (aNew (aNew (aNew (aNew (aNew (aNew (aNewR (aNew (aNew mg_8 26) 27) 28 13) 41) 42) 43) 44) 45) 46)
def mg_10 : aM := (aup (aup (aup (aup (aup (aup mg_9 25 0 0) 25 1 0) 25 2 0) 25 3 0) 25 4 0) 25 5 15)
def mg_11 : aM := (aup (aup (aup (aup (aup (aup (aup (aup mg_10 27 0 0) 27 1 0) 27 2 0) 27 3 0) 27 4 0) 27 5 0) 27 6 0) 27 7 0)
set_option maxHeartbeats 8000000 in
set_option maxRecDepth 20000 in
/-- java/util/Arrays.fill -/
theorem ct_5 {l : Launch} {D : va_G} {cA : FieldType → ClassId} {ad adV : Nat → Nat} {z0 : Nat} : aMet l D cA ad adV z0 mJ7_fill_53178 0 0 0 0 [.inr (.inr (.inl (some 27))), .inl 0] sg_6 mg_10 none sg_6 mg_11 := by
  refine aMet_of (by decide +kernel) rfl (Nat.le_of_ble_eq_true rfl) (fun p e s m args below meth c al K => ?_)
  refine aw_iconst (i := 0) K (n := 0) (i32 _ rfl) (dOf ck_mJ7_fill_53178 rfl rfl) ?_
  refine aw_istore_n (i := 1) K (dOf ck_mJ7_fill_53178 rfl rfl) (Nat.le_of_ble_eq_true rfl) ?_
  refine aw_lvn (lv' := [(2, .inl 0), (0, .inr (.inr (.inl (some 27)))), (1, .inl 0)]) rfl ?_
  refine aw_aload_n (i := 2) K (dOf ck_mJ7_fill_53178 rfl rfl) rfl ?_
  refine aw_alen (i := 3) (n := 8) K (dOf ck_mJ7_fill_53178 rfl rfl) rfl rfl (by decide) ?_
  refine aw_istore_n (i := 4) K (dOf ck_mJ7_fill_53178 rfl rfl) (Nat.le_of_ble_eq_true rfl) ?_
  refine aw_lvn (lv' := [(3, .inl 8), (2, .inl 0), (0, .inr (.inr (.inl (some 27)))), (1, .inl 0)]) rfl ?_
  refine aw_iload_n (i := 5) K (dOf ck_mJ7_fill_53178 rfl rfl) rfl ?_
  refine aw_iload_n (i := 6) K (dOf ck_mJ7_fill_53178 rfl rfl) rfl ?_
  refine aw_icmp_ge (i := 7) K (dOf ck_mJ7_fill_53178 rfl rfl) (t := 14) (aJ_of (by decide +kernel)) (fun z => absurd z (by decide)) (fun _ => ?_)
  refine aw_aload_n (i := 8) K (dOf ck_mJ7_fill_53178 rfl rfl) rfl ?_
  refine aw_iload_n (i := 9) K (dOf ck_mJ7_fill_53178 rfl rfl) rfl ?_
  refine aw_iload_n (i := 10) K (dOf ck_mJ7_fill_53178 rfl rfl) rfl ?_
  refine aw_iast (i := 11) K (dOf ck_mJ7_fill_53178 rfl rfl) rfl (by decide) ?_
  refine aw_iinc (i := 12) K (dOf ck_mJ7_fill_53178 rfl rfl) (Nat.le_of_ble_eq_true rfl) rfl ?_
  refine aw_lvn (lv' := [(2, .inl 1), (3, .inl 8), (0, .inr (.inr (.inl (some 27)))), (1, .inl 0)]) rfl ?_
  refine aw_goto (i := 13) K (dOf ck_mJ7_fill_53178 rfl rfl).1 (t := 5) (aJ_of (by decide +kernel)) ?_
  refine aw_iload_n (i := 5) K (dOf ck_mJ7_fill_53178 rfl rfl) rfl ?_
  refine aw_iload_n (i := 6) K (dOf ck_mJ7_fill_53178 rfl rfl) rfl ?_
  refine aw_icmp_ge (i := 7) K (dOf ck_mJ7_fill_53178 rfl rfl) (t := 14) (aJ_of (by decide +kernel)) (fun z => absurd z (by decide)) (fun _ => ?_)
  refine aw_aload_n (i := 8) K (dOf ck_mJ7_fill_53178 rfl rfl) rfl ?_
  refine aw_iload_n (i := 9) K (dOf ck_mJ7_fill_53178 rfl rfl) rfl ?_
  refine aw_iload_n (i := 10) K (dOf ck_mJ7_fill_53178 rfl rfl) rfl ?_
  refine aw_iast (i := 11) K (dOf ck_mJ7_fill_53178 rfl rfl) rfl (by decide) ?_
  refine aw_iinc (i := 12) K (dOf ck_mJ7_fill_53178 rfl rfl) (Nat.le_of_ble_eq_true rfl) rfl ?_
  refine aw_lvn (lv' := [(2, .inl 2), (3, .inl 8), (0, .inr (.inr (.inl (some 27)))), (1, .inl 0)]) rfl ?_
  refine aw_goto (i := 13) K (dOf ck_mJ7_fill_53178 rfl rfl).1 (t := 5) (aJ_of (by decide +kernel)) ?_
  refine aw_iload_n (i := 5) K (dOf ck_mJ7_fill_53178 rfl rfl) rfl ?_
  refine aw_iload_n (i := 6) K (dOf ck_mJ7_fill_53178 rfl rfl) rfl ?_
  refine aw_icmp_ge (i := 7) K (dOf ck_mJ7_fill_53178 rfl rfl) (t := 14) (aJ_of (by decide +kernel)) (fun z => absurd z (by decide)) (fun _ => ?_)
  refine aw_aload_n (i := 8) K (dOf ck_mJ7_fill_53178 rfl rfl) rfl ?_
  refine aw_iload_n (i := 9) K (dOf ck_mJ7_fill_53178 rfl rfl) rfl ?_
  refine aw_iload_n (i := 10) K (dOf ck_mJ7_fill_53178 rfl rfl) rfl ?_
  refine aw_iast (i := 11) K (dOf ck_mJ7_fill_53178 rfl rfl) rfl (by decide) ?_
  refine aw_iinc (i := 12) K (dOf ck_mJ7_fill_53178 rfl rfl) (Nat.le_of_ble_eq_true rfl) rfl ?_
  refine aw_lvn (lv' := [(2, .inl 3), (3, .inl 8), (0, .inr (.inr (.inl (some 27)))), (1, .inl 0)]) rfl ?_
  refine aw_goto (i := 13) K (dOf ck_mJ7_fill_53178 rfl rfl).1 (t := 5) (aJ_of (by decide +kernel)) ?_
  refine aw_iload_n (i := 5) K (dOf ck_mJ7_fill_53178 rfl rfl) rfl ?_
  refine aw_iload_n (i := 6) K (dOf ck_mJ7_fill_53178 rfl rfl) rfl ?_
  refine aw_icmp_ge (i := 7) K (dOf ck_mJ7_fill_53178 rfl rfl) (t := 14) (aJ_of (by decide +kernel)) (fun z => absurd z (by decide)) (fun _ => ?_)
  refine aw_aload_n (i := 8) K (dOf ck_mJ7_fill_53178 rfl rfl) rfl ?_
  refine aw_iload_n (i := 9) K (dOf ck_mJ7_fill_53178 rfl rfl) rfl ?_
  refine aw_iload_n (i := 10) K (dOf ck_mJ7_fill_53178 rfl rfl) rfl ?_
  refine aw_iast (i := 11) K (dOf ck_mJ7_fill_53178 rfl rfl) rfl (by decide) ?_
  refine aw_iinc (i := 12) K (dOf ck_mJ7_fill_53178 rfl rfl) (Nat.le_of_ble_eq_true rfl) rfl ?_
  refine aw_lvn (lv' := [(2, .inl 4), (3, .inl 8), (0, .inr (.inr (.inl (some 27)))), (1, .inl 0)]) rfl ?_
  refine aw_goto (i := 13) K (dOf ck_mJ7_fill_53178 rfl rfl).1 (t := 5) (aJ_of (by decide +kernel)) ?_
  refine aw_iload_n (i := 5) K (dOf ck_mJ7_fill_53178 rfl rfl) rfl ?_
  refine aw_iload_n (i := 6) K (dOf ck_mJ7_fill_53178 rfl rfl) rfl ?_
  refine aw_icmp_ge (i := 7) K (dOf ck_mJ7_fill_53178 rfl rfl) (t := 14) (aJ_of (by decide +kernel)) (fun z => absurd z (by decide)) (fun _ => ?_)
  refine aw_aload_n (i := 8) K (dOf ck_mJ7_fill_53178 rfl rfl) rfl ?_
  refine aw_iload_n (i := 9) K (dOf ck_mJ7_fill_53178 rfl rfl) rfl ?_
  refine aw_iload_n (i := 10) K (dOf ck_mJ7_fill_53178 rfl rfl) rfl ?_
  refine aw_iast (i := 11) K (dOf ck_mJ7_fill_53178 rfl rfl) rfl (by decide) ?_
  refine aw_iinc (i := 12) K (dOf ck_mJ7_fill_53178 rfl rfl) (Nat.le_of_ble_eq_true rfl) rfl ?_
  refine aw_lvn (lv' := [(2, .inl 5), (3, .inl 8), (0, .inr (.inr (.inl (some 27)))), (1, .inl 0)]) rfl ?_
  refine aw_goto (i := 13) K (dOf ck_mJ7_fill_53178 rfl rfl).1 (t := 5) (aJ_of (by decide +kernel)) ?_
  refine aw_iload_n (i := 5) K (dOf ck_mJ7_fill_53178 rfl rfl) rfl ?_
  refine aw_iload_n (i := 6) K (dOf ck_mJ7_fill_53178 rfl rfl) rfl ?_
  refine aw_icmp_ge (i := 7) K (dOf ck_mJ7_fill_53178 rfl rfl) (t := 14) (aJ_of (by decide +kernel)) (fun z => absurd z (by decide)) (fun _ => ?_)
  refine aw_aload_n (i := 8) K (dOf ck_mJ7_fill_53178 rfl rfl) rfl ?_
  refine aw_iload_n (i := 9) K (dOf ck_mJ7_fill_53178 rfl rfl) rfl ?_
  refine aw_iload_n (i := 10) K (dOf ck_mJ7_fill_53178 rfl rfl) rfl ?_
  refine aw_iast (i := 11) K (dOf ck_mJ7_fill_53178 rfl rfl) rfl (by decide) ?_
  refine aw_iinc (i := 12) K (dOf ck_mJ7_fill_53178 rfl rfl) (Nat.le_of_ble_eq_true rfl) rfl ?_
  refine aw_lvn (lv' := [(2, .inl 6), (3, .inl 8), (0, .inr (.inr (.inl (some 27)))), (1, .inl 0)]) rfl ?_
  refine aw_goto (i := 13) K (dOf ck_mJ7_fill_53178 rfl rfl).1 (t := 5) (aJ_of (by decide +kernel)) ?_
  refine aw_iload_n (i := 5) K (dOf ck_mJ7_fill_53178 rfl rfl) rfl ?_
  refine aw_iload_n (i := 6) K (dOf ck_mJ7_fill_53178 rfl rfl) rfl ?_
  refine aw_icmp_ge (i := 7) K (dOf ck_mJ7_fill_53178 rfl rfl) (t := 14) (aJ_of (by decide +kernel)) (fun z => absurd z (by decide)) (fun _ => ?_)
  refine aw_aload_n (i := 8) K (dOf ck_mJ7_fill_53178 rfl rfl) rfl ?_
  refine aw_iload_n (i := 9) K (dOf ck_mJ7_fill_53178 rfl rfl) rfl ?_
  refine aw_iload_n (i := 10) K (dOf ck_mJ7_fill_53178 rfl rfl) rfl ?_
  refine aw_iast (i := 11) K (dOf ck_mJ7_fill_53178 rfl rfl) rfl (by decide) ?_
  refine aw_iinc (i := 12) K (dOf ck_mJ7_fill_53178 rfl rfl) (Nat.le_of_ble_eq_true rfl) rfl ?_
  refine aw_lvn (lv' := [(2, .inl 7), (3, .inl 8), (0, .inr (.inr (.inl (some 27)))), (1, .inl 0)]) rfl ?_
  refine aw_goto (i := 13) K (dOf ck_mJ7_fill_53178 rfl rfl).1 (t := 5) (aJ_of (by decide +kernel)) ?_
  refine aw_iload_n (i := 5) K (dOf ck_mJ7_fill_53178 rfl rfl) rfl ?_
  refine aw_iload_n (i := 6) K (dOf ck_mJ7_fill_53178 rfl rfl) rfl ?_
  refine aw_icmp_ge (i := 7) K (dOf ck_mJ7_fill_53178 rfl rfl) (t := 14) (aJ_of (by decide +kernel)) (fun z => absurd z (by decide)) (fun _ => ?_)
  refine aw_aload_n (i := 8) K (dOf ck_mJ7_fill_53178 rfl rfl) rfl ?_
  refine aw_iload_n (i := 9) K (dOf ck_mJ7_fill_53178 rfl rfl) rfl ?_
  refine aw_iload_n (i := 10) K (dOf ck_mJ7_fill_53178 rfl rfl) rfl ?_
  refine aw_iast (i := 11) K (dOf ck_mJ7_fill_53178 rfl rfl) rfl (by decide) ?_
  refine aw_iinc (i := 12) K (dOf ck_mJ7_fill_53178 rfl rfl) (Nat.le_of_ble_eq_true rfl) rfl ?_
  refine aw_lvn (lv' := [(2, .inl 8), (3, .inl 8), (0, .inr (.inr (.inl (some 27)))), (1, .inl 0)]) rfl ?_
  refine aw_goto (i := 13) K (dOf ck_mJ7_fill_53178 rfl rfl).1 (t := 5) (aJ_of (by decide +kernel)) ?_
  refine aw_iload_n (i := 5) K (dOf ck_mJ7_fill_53178 rfl rfl) rfl ?_
  refine aw_iload_n (i := 6) K (dOf ck_mJ7_fill_53178 rfl rfl) rfl ?_
  refine aw_icmp_ge (i := 7) K (dOf ck_mJ7_fill_53178 rfl rfl) (t := 14) (aJ_of (by decide +kernel)) (fun _ => ?_) (fun z => absurd (by decide) z)
  refine aw_nm (sh' := sg_6) (mm' := mg_11) rfl rfl ?_
  exact aw_vretA K (by decide +kernel) rfl (Nat.le_of_ble_eq_true rfl) (Nat.le_of_ble_eq_true rfl) (by repeat (first | exact ⟨[], (List.append_nil _).symm⟩ | exact ⟨_, rfl⟩ | apply pre_app))
def mg_12 : aM := (aup (aup (aup (aup mg_11 44 0 15) 44 1 15) 44 2 15) 44 3 15)
set_option maxHeartbeats 8000000 in
set_option maxRecDepth 20000 in
/-- java/util/Arrays.fill -/
theorem ct_6 {l : Launch} {D : va_G} {cA : FieldType → ClassId} {ad adV : Nat → Nat} {z0 : Nat} : aMet l D cA ad adV z0 mJ7_fill_53178 0 0 0 0 [.inr (.inr (.inl (some 44))), .inl 15] sg_6 mg_11 none sg_6 mg_12 := by
  refine aMet_of (by decide +kernel) rfl (Nat.le_of_ble_eq_true rfl) (fun p e s m args below meth c al K => ?_)
  refine aw_iconst (i := 0) K (n := 0) (i32 _ rfl) (dOf ck_mJ7_fill_53178 rfl rfl) ?_
  refine aw_istore_n (i := 1) K (dOf ck_mJ7_fill_53178 rfl rfl) (Nat.le_of_ble_eq_true rfl) ?_
  refine aw_lvn (lv' := [(2, .inl 0), (0, .inr (.inr (.inl (some 44)))), (1, .inl 15)]) rfl ?_
  refine aw_aload_n (i := 2) K (dOf ck_mJ7_fill_53178 rfl rfl) rfl ?_
  refine aw_alen (i := 3) (n := 4) K (dOf ck_mJ7_fill_53178 rfl rfl) rfl rfl (by decide) ?_
  refine aw_istore_n (i := 4) K (dOf ck_mJ7_fill_53178 rfl rfl) (Nat.le_of_ble_eq_true rfl) ?_
  refine aw_lvn (lv' := [(3, .inl 4), (2, .inl 0), (0, .inr (.inr (.inl (some 44)))), (1, .inl 15)]) rfl ?_
  refine aw_iload_n (i := 5) K (dOf ck_mJ7_fill_53178 rfl rfl) rfl ?_
  refine aw_iload_n (i := 6) K (dOf ck_mJ7_fill_53178 rfl rfl) rfl ?_
  refine aw_icmp_ge (i := 7) K (dOf ck_mJ7_fill_53178 rfl rfl) (t := 14) (aJ_of (by decide +kernel)) (fun z => absurd z (by decide)) (fun _ => ?_)
  refine aw_aload_n (i := 8) K (dOf ck_mJ7_fill_53178 rfl rfl) rfl ?_
  refine aw_iload_n (i := 9) K (dOf ck_mJ7_fill_53178 rfl rfl) rfl ?_
  refine aw_iload_n (i := 10) K (dOf ck_mJ7_fill_53178 rfl rfl) rfl ?_
  refine aw_iast (i := 11) K (dOf ck_mJ7_fill_53178 rfl rfl) rfl (by decide) ?_
  refine aw_iinc (i := 12) K (dOf ck_mJ7_fill_53178 rfl rfl) (Nat.le_of_ble_eq_true rfl) rfl ?_
  refine aw_lvn (lv' := [(2, .inl 1), (3, .inl 4), (0, .inr (.inr (.inl (some 44)))), (1, .inl 15)]) rfl ?_
  refine aw_goto (i := 13) K (dOf ck_mJ7_fill_53178 rfl rfl).1 (t := 5) (aJ_of (by decide +kernel)) ?_
  refine aw_iload_n (i := 5) K (dOf ck_mJ7_fill_53178 rfl rfl) rfl ?_
  refine aw_iload_n (i := 6) K (dOf ck_mJ7_fill_53178 rfl rfl) rfl ?_
  refine aw_icmp_ge (i := 7) K (dOf ck_mJ7_fill_53178 rfl rfl) (t := 14) (aJ_of (by decide +kernel)) (fun z => absurd z (by decide)) (fun _ => ?_)
  refine aw_aload_n (i := 8) K (dOf ck_mJ7_fill_53178 rfl rfl) rfl ?_
  refine aw_iload_n (i := 9) K (dOf ck_mJ7_fill_53178 rfl rfl) rfl ?_
  refine aw_iload_n (i := 10) K (dOf ck_mJ7_fill_53178 rfl rfl) rfl ?_
  refine aw_iast (i := 11) K (dOf ck_mJ7_fill_53178 rfl rfl) rfl (by decide) ?_
  refine aw_iinc (i := 12) K (dOf ck_mJ7_fill_53178 rfl rfl) (Nat.le_of_ble_eq_true rfl) rfl ?_
  refine aw_lvn (lv' := [(2, .inl 2), (3, .inl 4), (0, .inr (.inr (.inl (some 44)))), (1, .inl 15)]) rfl ?_
  refine aw_goto (i := 13) K (dOf ck_mJ7_fill_53178 rfl rfl).1 (t := 5) (aJ_of (by decide +kernel)) ?_
  refine aw_iload_n (i := 5) K (dOf ck_mJ7_fill_53178 rfl rfl) rfl ?_
  refine aw_iload_n (i := 6) K (dOf ck_mJ7_fill_53178 rfl rfl) rfl ?_
  refine aw_icmp_ge (i := 7) K (dOf ck_mJ7_fill_53178 rfl rfl) (t := 14) (aJ_of (by decide +kernel)) (fun z => absurd z (by decide)) (fun _ => ?_)
  refine aw_aload_n (i := 8) K (dOf ck_mJ7_fill_53178 rfl rfl) rfl ?_
  refine aw_iload_n (i := 9) K (dOf ck_mJ7_fill_53178 rfl rfl) rfl ?_
  refine aw_iload_n (i := 10) K (dOf ck_mJ7_fill_53178 rfl rfl) rfl ?_
  refine aw_iast (i := 11) K (dOf ck_mJ7_fill_53178 rfl rfl) rfl (by decide) ?_
  refine aw_iinc (i := 12) K (dOf ck_mJ7_fill_53178 rfl rfl) (Nat.le_of_ble_eq_true rfl) rfl ?_
  refine aw_lvn (lv' := [(2, .inl 3), (3, .inl 4), (0, .inr (.inr (.inl (some 44)))), (1, .inl 15)]) rfl ?_
  refine aw_goto (i := 13) K (dOf ck_mJ7_fill_53178 rfl rfl).1 (t := 5) (aJ_of (by decide +kernel)) ?_
  refine aw_iload_n (i := 5) K (dOf ck_mJ7_fill_53178 rfl rfl) rfl ?_
  refine aw_iload_n (i := 6) K (dOf ck_mJ7_fill_53178 rfl rfl) rfl ?_
  refine aw_icmp_ge (i := 7) K (dOf ck_mJ7_fill_53178 rfl rfl) (t := 14) (aJ_of (by decide +kernel)) (fun z => absurd z (by decide)) (fun _ => ?_)
  refine aw_aload_n (i := 8) K (dOf ck_mJ7_fill_53178 rfl rfl) rfl ?_
  refine aw_iload_n (i := 9) K (dOf ck_mJ7_fill_53178 rfl rfl) rfl ?_
  refine aw_iload_n (i := 10) K (dOf ck_mJ7_fill_53178 rfl rfl) rfl ?_
  refine aw_iast (i := 11) K (dOf ck_mJ7_fill_53178 rfl rfl) rfl (by decide) ?_
  refine aw_iinc (i := 12) K (dOf ck_mJ7_fill_53178 rfl rfl) (Nat.le_of_ble_eq_true rfl) rfl ?_
  refine aw_lvn (lv' := [(2, .inl 4), (3, .inl 4), (0, .inr (.inr (.inl (some 44)))), (1, .inl 15)]) rfl ?_
  refine aw_goto (i := 13) K (dOf ck_mJ7_fill_53178 rfl rfl).1 (t := 5) (aJ_of (by decide +kernel)) ?_
  refine aw_iload_n (i := 5) K (dOf ck_mJ7_fill_53178 rfl rfl) rfl ?_
  refine aw_iload_n (i := 6) K (dOf ck_mJ7_fill_53178 rfl rfl) rfl ?_
  refine aw_icmp_ge (i := 7) K (dOf ck_mJ7_fill_53178 rfl rfl) (t := 14) (aJ_of (by decide +kernel)) (fun _ => ?_) (fun z => absurd (by decide) z)
  refine aw_nm (sh' := sg_6) (mm' := mg_12) rfl rfl ?_
  exact aw_vretA K (by decide +kernel) rfl (Nat.le_of_ble_eq_true rfl) (Nat.le_of_ble_eq_true rfl) (by repeat (first | exact ⟨[], (List.append_nil _).symm⟩ | exact ⟨_, rfl⟩ | apply pre_app))
set_option maxHeartbeats 8000000 in
set_option maxRecDepth 20000 in
/-- Tongue.empty -/
theorem ct_7 {l : Launch} {D : va_G} {cA : FieldType → ClassId} {ad adV : Nat → Nat} {z0 : Nat} : aMet l D cA ad adV z0 mX8_empty 1 23 0 0 [.inr (.inr (.inl (some 25)))] sg_6 mg_9 none sg_6 mg_12 := by
  refine aMet_of (by decide +kernel) rfl (Nat.le_of_ble_eq_true rfl) (fun p e s m args below meth c al K => ?_)
  refine aw_aload_n (i := 0) K (dOf ck_mX8_empty rfl rfl) rfl ?_
  refine aw_iconst (i := 1) K (n := 0) (i32 _ rfl) (dOf ck_mX8_empty rfl rfl) ?_
  refine aw_putf (i := 2) (k := 0) K (dOf ck_mX8_empty rfl rfl) rfl rfl (Nat.le_of_ble_eq_true rfl) wd_188 rfl rfl (Or.inl rfl) ?_
  refine aw_aload_n (i := 3) K (dOf ck_mX8_empty rfl rfl) rfl ?_
  refine aw_iconst (i := 4) K (n := 0) (i32 _ rfl) (dOf ck_mX8_empty rfl rfl) ?_
  refine aw_putf (i := 5) (k := 1) K (dOf ck_mX8_empty rfl rfl) rfl rfl (Nat.le_of_ble_eq_true rfl) wd_191 rfl rfl (Or.inl rfl) ?_
  refine aw_aload_n (i := 6) K (dOf ck_mX8_empty rfl rfl) rfl ?_
  refine aw_iconst (i := 7) K (n := 0) (i32 _ rfl) (dOf ck_mX8_empty rfl rfl) ?_
  refine aw_putf (i := 8) (k := 2) K (dOf ck_mX8_empty rfl rfl) rfl rfl (Nat.le_of_ble_eq_true rfl) wd_198 rfl rfl (Or.inl rfl) ?_
  refine aw_aload_n (i := 9) K (dOf ck_mX8_empty rfl rfl) rfl ?_
  refine aw_iconst (i := 10) K (n := 0) (i32 _ rfl) (dOf ck_mX8_empty rfl rfl) ?_
  refine aw_putf (i := 11) (k := 3) K (dOf ck_mX8_empty rfl rfl) rfl rfl (Nat.le_of_ble_eq_true rfl) wd_203 rfl rfl (Or.inl rfl) ?_
  refine aw_aload_n (i := 12) K (dOf ck_mX8_empty rfl rfl) rfl ?_
  refine aw_iconst (i := 13) K (n := 0) (i32 _ rfl) (dOf ck_mX8_empty rfl rfl) ?_
  refine aw_putf (i := 14) (k := 4) K (dOf ck_mX8_empty rfl rfl) rfl rfl (Nat.le_of_ble_eq_true rfl) wd_207 rfl rfl (Or.inl rfl) ?_
  refine aw_aload_n (i := 15) K (dOf ck_mX8_empty rfl rfl) rfl ?_
  refine aw_bip (i := 16) K (dOf ck_mX8_empty rfl rfl) (v := 15) rfl ?_
  refine aw_putf (i := 17) (k := 5) K (dOf ck_mX8_empty rfl rfl) rfl rfl (Nat.le_of_ble_eq_true rfl) wd_213 rfl rfl (Or.inl rfl) ?_
  refine aw_aload_n (i := 18) K (dOf ck_mX8_empty rfl rfl) rfl ?_
  refine aw_getf (i := 19) (k := 7) K (dOf ck_mX8_empty rfl rfl) rfl rfl (Nat.le_of_ble_eq_true rfl) wd_219 rfl ?_
  refine aw_iconst (i := 20) K (n := 0) (i32 _ rfl) (dOf ck_mX8_empty rfl rfl) ?_
  refine aw_nm (sh' := sg_6) (mm' := mg_10) rfl rfl ?_
  refine aw_callS (i := 21) (as := [.inr (.inr (.inl (some 27))), .inl 0]) K (dOf ck_mX8_empty rfl rfl) al_OneBreath_Tongue_64 wd_186 rfl (Nat.le_of_ble_eq_true rfl) ⟨Nat.le_of_ble_eq_true rfl, Nat.le_of_ble_eq_true rfl⟩ ⟨Nat.le_of_ble_eq_true rfl, Nat.le_of_ble_eq_true rfl⟩ (Nat.le_of_ble_eq_true rfl) ct_5 (fun bl6 => ?_)
  refine aw_aload_n (i := 22) K (dOf ck_mX8_empty rfl rfl) rfl ?_
  refine aw_getf (i := 23) (k := 12) K (dOf ck_mX8_empty rfl rfl) rfl rfl (Nat.le_of_ble_eq_true rfl) wd_257 rfl ?_
  refine aw_bip (i := 24) K (dOf ck_mX8_empty rfl rfl) (v := 15) rfl ?_
  refine aw_nm (sh' := sg_6) (mm' := mg_11) rfl rfl ?_
  refine aw_callS (i := 25) (as := [.inr (.inr (.inl (some 44))), .inl 15]) K (dOf ck_mX8_empty rfl rfl) al_OneBreath_Tongue_64 wd_186 rfl (Nat.le_of_ble_eq_true rfl) ⟨Nat.le_of_ble_eq_true rfl, Nat.le_of_ble_eq_true rfl⟩ ⟨Nat.le_of_ble_eq_true rfl, Nat.le_of_ble_eq_true rfl⟩ (Nat.le_of_ble_eq_true rfl) ct_6 (fun bl7 => ?_)
  refine aw_nm (sh' := sg_6) (mm' := mg_12) rfl rfl ?_
  exact aw_vretA K (by decide +kernel) rfl (Nat.le_of_ble_eq_true rfl) (Nat.le_of_ble_eq_true rfl) (by repeat (first | exact ⟨[], (List.append_nil _).symm⟩ | exact ⟨_, rfl⟩ | apply pre_app))
set_option maxHeartbeats 8000000 in
set_option maxRecDepth 20000 in
/-- Tongue.<init> -/
theorem ct_8 {l : Launch} {D : va_G} {cA : FieldType → ClassId} {ad adV : Nat → Nat} {z0 : Nat} : aMet l D cA ad adV z0 mX8_init 2 43 21 152 [.inr (.inr (.inl (some 25)))] sg_5 mg_8 none sg_6 mg_12 := by
  refine aMet_of (by decide +kernel) rfl (Nat.le_of_ble_eq_true rfl) (fun p e s m args below meth c al K => ?_)
  refine aw_aload_n (i := 0) K (dOf ck_mX8_init rfl rfl) rfl ?_
  refine aw_objInit (i := 1) K (dOf ck_mX8_init rfl rfl) ⟨wd_179, wd_167, wd_168⟩ (Nat.le_of_ble_eq_true rfl) ⟨Nat.le_of_ble_eq_true rfl, Nat.le_of_ble_eq_true rfl⟩ ?_
  refine aw_aload_n (i := 2) K (dOf ck_mX8_init rfl rfl) rfl ?_
  refine aw_bip (i := 3) K (dOf ck_mX8_init rfl rfl) (v := 8) rfl ?_
  refine aw_newaN (i := 4) (n := 8) (ty := .byte) K (dOf ck_mX8_init rfl rfl) rfl (by decide) wd_272 (Nat.le_of_ble_eq_true rfl) (Nat.le_of_ble_eq_true rfl) (Nat.le_of_ble_eq_true rfl) 26 rfl (fun q26 => ?_)
  refine aw_putr (i := 5) (k := 6) K (dOf ck_mX8_init rfl rfl) rfl rfl (Nat.le_of_ble_eq_true rfl) wd_216 rfl rfl rfl rfl (fitR (by decide +kernel)) ?_
  refine aw_aload_n (i := 6) K (dOf ck_mX8_init rfl rfl) rfl ?_
  refine aw_bip (i := 7) K (dOf ck_mX8_init rfl rfl) (v := 8) rfl ?_
  refine aw_newaN (i := 8) (n := 8) (ty := .int) K (dOf ck_mX8_init rfl rfl) rfl (by decide) wd_273 (Nat.le_of_ble_eq_true rfl) (Nat.le_of_ble_eq_true rfl) (Nat.le_of_ble_eq_true rfl) 27 rfl (fun q27 => ?_)
  refine aw_putr (i := 9) (k := 7) K (dOf ck_mX8_init rfl rfl) rfl rfl (Nat.le_of_ble_eq_true rfl) wd_219 rfl rfl rfl rfl (fitR (by decide +kernel)) ?_
  refine aw_aload_n (i := 10) K (dOf ck_mX8_init rfl rfl) rfl ?_
  refine aw_bip (i := 11) K (dOf ck_mX8_init rfl rfl) (v := 12) rfl ?_
  refine aw_bip (i := 12) K (dOf ck_mX8_init rfl rfl) (v := 6) rfl ?_
  refine aw_mnaN (i := 13) (n := 12) (k := 6) (ty := .byte) K (dOf ck_mX8_init rfl rfl) wd_180 (Or.inl ⟨rfl, rfl⟩) wd_272 (Nat.le_of_ble_eq_true rfl) (Nat.le_of_ble_eq_true rfl) (Nat.le_of_ble_eq_true rfl) (Nat.le_of_ble_eq_true rfl) 28 rfl (fun bl28 => ?_)
  refine aw_putr (i := 14) (k := 8) K (dOf ck_mX8_init rfl rfl) rfl rfl (Nat.le_of_ble_eq_true rfl) wd_226 rfl rfl rfl rfl (fitR (by decide +kernel)) ?_
  refine aw_aload_n (i := 15) K (dOf ck_mX8_init rfl rfl) rfl ?_
  refine aw_bip (i := 16) K (dOf ck_mX8_init rfl rfl) (v := 12) rfl ?_
  refine aw_newaN (i := 17) (n := 12) (ty := .int) K (dOf ck_mX8_init rfl rfl) rfl (by decide) wd_273 (Nat.le_of_ble_eq_true rfl) (Nat.le_of_ble_eq_true rfl) (Nat.le_of_ble_eq_true rfl) 41 rfl (fun q41 => ?_)
  refine aw_putr (i := 18) (k := 9) K (dOf ck_mX8_init rfl rfl) rfl rfl (Nat.le_of_ble_eq_true rfl) wd_235 rfl rfl rfl rfl (fitR (by decide +kernel)) ?_
  refine aw_aload_n (i := 19) K (dOf ck_mX8_init rfl rfl) rfl ?_
  refine aw_bip (i := 20) K (dOf ck_mX8_init rfl rfl) (v := 12) rfl ?_
  refine aw_newaN (i := 21) (n := 12) (ty := .int) K (dOf ck_mX8_init rfl rfl) rfl (by decide) wd_273 (Nat.le_of_ble_eq_true rfl) (Nat.le_of_ble_eq_true rfl) (Nat.le_of_ble_eq_true rfl) 42 rfl (fun q42 => ?_)
  refine aw_putr (i := 22) (k := 10) K (dOf ck_mX8_init rfl rfl) rfl rfl (Nat.le_of_ble_eq_true rfl) wd_244 rfl rfl rfl rfl (fitR (by decide +kernel)) ?_
  refine aw_aload_n (i := 23) K (dOf ck_mX8_init rfl rfl) rfl ?_
  refine aw_bip (i := 24) K (dOf ck_mX8_init rfl rfl) (v := 12) rfl ?_
  refine aw_newaN (i := 25) (n := 12) (ty := .int) K (dOf ck_mX8_init rfl rfl) rfl (by decide) wd_273 (Nat.le_of_ble_eq_true rfl) (Nat.le_of_ble_eq_true rfl) (Nat.le_of_ble_eq_true rfl) 43 rfl (fun q43 => ?_)
  refine aw_putr (i := 26) (k := 11) K (dOf ck_mX8_init rfl rfl) rfl rfl (Nat.le_of_ble_eq_true rfl) wd_250 rfl rfl rfl rfl (fitR (by decide +kernel)) ?_
  refine aw_aload_n (i := 27) K (dOf ck_mX8_init rfl rfl) rfl ?_
  refine aw_iconst (i := 28) K (n := 4) (i32 _ rfl) (dOf ck_mX8_init rfl rfl) ?_
  refine aw_newaN (i := 29) (n := 4) (ty := .int) K (dOf ck_mX8_init rfl rfl) rfl (by decide) wd_273 (Nat.le_of_ble_eq_true rfl) (Nat.le_of_ble_eq_true rfl) (Nat.le_of_ble_eq_true rfl) 44 rfl (fun q44 => ?_)
  refine aw_putr (i := 30) (k := 12) K (dOf ck_mX8_init rfl rfl) rfl rfl (Nat.le_of_ble_eq_true rfl) wd_257 rfl rfl rfl rfl (fitR (by decide +kernel)) ?_
  refine aw_aload_n (i := 31) K (dOf ck_mX8_init rfl rfl) rfl ?_
  refine aw_bip (i := 32) K (dOf ck_mX8_init rfl rfl) (v := 6) rfl ?_
  refine aw_newaN (i := 33) (n := 6) (ty := .int) K (dOf ck_mX8_init rfl rfl) rfl (by decide) wd_273 (Nat.le_of_ble_eq_true rfl) (Nat.le_of_ble_eq_true rfl) (Nat.le_of_ble_eq_true rfl) 45 rfl (fun q45 => ?_)
  refine aw_putr (i := 34) (k := 13) K (dOf ck_mX8_init rfl rfl) rfl rfl (Nat.le_of_ble_eq_true rfl) wd_262 rfl rfl rfl rfl (fitR (by decide +kernel)) ?_
  refine aw_aload_n (i := 35) K (dOf ck_mX8_init rfl rfl) rfl ?_
  refine aw_bip (i := 36) K (dOf ck_mX8_init rfl rfl) (v := 6) rfl ?_
  refine aw_newaN (i := 37) (n := 6) (ty := .int) K (dOf ck_mX8_init rfl rfl) rfl (by decide) wd_273 (Nat.le_of_ble_eq_true rfl) (Nat.le_of_ble_eq_true rfl) (Nat.le_of_ble_eq_true rfl) 46 rfl (fun q46 => ?_)
  refine aw_putr (i := 38) (k := 14) K (dOf ck_mX8_init rfl rfl) rfl rfl (Nat.le_of_ble_eq_true rfl) wd_267 rfl rfl rfl rfl (fitR (by decide +kernel)) ?_
  refine aw_aload_n (i := 39) K (dOf ck_mX8_init rfl rfl) rfl ?_
  refine aw_nm (sh' := sg_6) (mm' := mg_9) rfl rfl ?_
  refine aw_callV (i := 40) (as := []) (q := 25) K (dOf ck_mX8_init rfl rfl) al_OneBreath_Tongue_42 rfl rfl ⟨wd_182, wd_183⟩ rfl (Nat.le_of_ble_eq_true rfl) ⟨Nat.le_of_ble_eq_true rfl, Nat.le_of_ble_eq_true rfl⟩ ⟨Nat.le_of_ble_eq_true rfl, Nat.le_of_ble_eq_true rfl⟩ (Nat.le_of_ble_eq_true rfl) ct_7 (fun bl8 => ?_)
  refine aw_nm (sh' := sg_6) (mm' := mg_12) rfl rfl ?_
  exact aw_vretA K (by decide +kernel) rfl (Nat.le_of_ble_eq_true rfl) (Nat.le_of_ble_eq_true rfl) (by repeat (first | exact ⟨[], (List.append_nil _).symm⟩ | exact ⟨_, rfl⟩ | apply pre_app))
def sg_7 : List aE := [.inr (.inr (.inr (11, [some (some 1), some (some 25), some none, some none, some none, some none, some none, some none, some none, some none, some none, some none, some none, some none, some none]))), .inr (.inr (.inr (7, [some (some 2), none, none, some (some 3), none, none, none, none, none]))), .inl (.byte, 500), .inr (.inr (.inr (8, [none, none, none, none, none, none, some (some 4), some (some 5), some (some 6), some (some 19), some (some 20), some (some 21), some (some 22), some (some 23), some (some 24)]))), .inl (.byte, 8), .inl (.int, 8), .inr (.inr (.inl (.array .byte, [some 7, some 8, some 9, some 10, some 11, some 12, some 13, some 14, some 15, some 16, some 17, some 18]))), .inl (.byte, 6), .inl (.byte, 6), .inl (.byte, 6), .inl (.byte, 6), .inl (.byte, 6), .inl (.byte, 6), .inl (.byte, 6), .inl (.byte, 6), .inl (.byte, 6), .inl (.byte, 6), .inl (.byte, 6), .inl (.byte, 6), .inl (.int, 12), .inl (.int, 12), .inl (.int, 12), .inl (.int, 4), .inl (.int, 6), .inl (.int, 6), .inr (.inr (.inr (8, [none, none, none, none, none, none, some (some 26), some (some 27), some (some 28), some (some 41), some (some 42), some (some 43), some (some 44), some (some 45), some (some 46)]))), .inl (.byte, 8), .inl (.int, 8), .inr (.inr (.inl (.array .byte, [some 29, some 30, some 31, some 32, some 33, some 34, some 35, some 36, some 37, some 38, some 39, some 40]))), .inl (.byte, 6), .inl (.byte, 6), .inl (.byte, 6), .inl (.byte, 6), .inl (.byte, 6), .inl (.byte, 6), .inl (.byte, 6), .inl (.byte, 6), .inl (.byte, 6), .inl (.byte, 6), .inl (.byte, 6), .inl (.byte, 6), .inl (.int, 12), .inl (.int, 12), .inl (.int, 12), .inl (.int, 4), .inl (.int, 6), .inl (.int, 6), .inr (.inr (.inr (6, [some none, none])))]
def mg_13 : aM := (aNew mg_12 47)
def sg_8 : List aE := [.inr (.inr (.inr (11, [some (some 1), some (some 25), some none, some none, some none, some none, some none, some none, some none, some none, some none, some none, some none, some none, some none]))), .inr (.inr (.inr (7, [some (some 2), none, none, some (some 3), none, none, none, none, none]))), .inl (.byte, 500), .inr (.inr (.inr (8, [none, none, none, none, none, none, some (some 4), some (some 5), some (some 6), some (some 19), some (some 20), some (some 21), some (some 22), some (some 23), some (some 24)]))), .inl (.byte, 8), .inl (.int, 8), .inr (.inr (.inl (.array .byte, [some 7, some 8, some 9, some 10, some 11, some 12, some 13, some 14, some 15, some 16, some 17, some 18]))), .inl (.byte, 6), .inl (.byte, 6), .inl (.byte, 6), .inl (.byte, 6), .inl (.byte, 6), .inl (.byte, 6), .inl (.byte, 6), .inl (.byte, 6), .inl (.byte, 6), .inl (.byte, 6), .inl (.byte, 6), .inl (.byte, 6), .inl (.int, 12), .inl (.int, 12), .inl (.int, 12), .inl (.int, 4), .inl (.int, 6), .inl (.int, 6), .inr (.inr (.inr (8, [none, none, none, none, none, none, some (some 26), some (some 27), some (some 28), some (some 41), some (some 42), some (some 43), some (some 44), some (some 45), some (some 46)]))), .inl (.byte, 8), .inl (.int, 8), .inr (.inr (.inl (.array .byte, [some 29, some 30, some 31, some 32, some 33, some 34, some 35, some 36, some 37, some 38, some 39, some 40]))), .inl (.byte, 6), .inl (.byte, 6), .inl (.byte, 6), .inl (.byte, 6), .inl (.byte, 6), .inl (.byte, 6), .inl (.byte, 6), .inl (.byte, 6), .inl (.byte, 6), .inl (.byte, 6), .inl (.byte, 6), .inl (.byte, 6), .inl (.int, 12), .inl (.int, 12), .inl (.int, 12), .inl (.int, 4), .inl (.int, 6), .inl (.int, 6), .inr (.inr (.inr (6, [some (some 48), none]))), .inl (.byte, 40)]
def mg_14 : aM := (aNew mg_13 48)
set_option maxHeartbeats 8000000 in
set_option maxRecDepth 20000 in
/-- Sounds.<init> -/
theorem ct_9 {l : Launch} {D : va_G} {cA : FieldType → ClassId} {ad adV : Nat → Nat} {z0 : Nat} : aMet l D cA ad adV z0 mX6_init 1 20 1 40 [.inr (.inr (.inl (some 47)))] sg_7 mg_13 none sg_8 mg_14 := by
  refine aMet_of (by decide +kernel) rfl (Nat.le_of_ble_eq_true rfl) (fun p e s m args below meth c al K => ?_)
  refine aw_aload_n (i := 0) K (dOf ck_mX6_init rfl rfl) rfl ?_
  refine aw_objInit (i := 1) K (dOf ck_mX6_init rfl rfl) ⟨wd_293, wd_167, wd_168⟩ (Nat.le_of_ble_eq_true rfl) ⟨Nat.le_of_ble_eq_true rfl, Nat.le_of_ble_eq_true rfl⟩ ?_
  refine aw_aload_n (i := 2) K (dOf ck_mX6_init rfl rfl) rfl ?_
  refine aw_bip (i := 3) K (dOf ck_mX6_init rfl rfl) (v := 40) rfl ?_
  refine aw_newaN (i := 4) (n := 40) (ty := .byte) K (dOf ck_mX6_init rfl rfl) rfl (by decide) wd_272 (Nat.le_of_ble_eq_true rfl) (Nat.le_of_ble_eq_true rfl) (Nat.le_of_ble_eq_true rfl) 48 rfl (fun q48 => ?_)
  refine aw_putr (i := 5) (k := 0) K (dOf ck_mX6_init rfl rfl) rfl rfl (Nat.le_of_ble_eq_true rfl) wd_294 rfl rfl rfl rfl (fitR (by decide +kernel)) ?_
  refine aw_nm (sh' := sg_8) (mm' := mg_14) rfl rfl ?_
  exact aw_vretA K (by decide +kernel) rfl (Nat.le_of_ble_eq_true rfl) (Nat.le_of_ble_eq_true rfl) (by repeat (first | exact ⟨[], (List.append_nil _).symm⟩ | exact ⟨_, rfl⟩ | apply pre_app))
def sg_9 : List aE := [.inr (.inr (.inr (11, [some (some 1), some (some 25), some (some 47), some none, some none, some none, some none, some none, some none, some none, some none, some none, some none, some none, some none]))), .inr (.inr (.inr (7, [some (some 2), none, none, some (some 3), none, none, none, none, none]))), .inl (.byte, 500), .inr (.inr (.inr (8, [none, none, none, none, none, none, some (some 4), some (some 5), some (some 6), some (some 19), some (some 20), some (some 21), some (some 22), some (some 23), some (some 24)]))), .inl (.byte, 8), .inl (.int, 8), .inr (.inr (.inl (.array .byte, [some 7, some 8, some 9, some 10, some 11, some 12, some 13, some 14, some 15, some 16, some 17, some 18]))), .inl (.byte, 6), .inl (.byte, 6), .inl (.byte, 6), .inl (.byte, 6), .inl (.byte, 6), .inl (.byte, 6), .inl (.byte, 6), .inl (.byte, 6), .inl (.byte, 6), .inl (.byte, 6), .inl (.byte, 6), .inl (.byte, 6), .inl (.int, 12), .inl (.int, 12), .inl (.int, 12), .inl (.int, 4), .inl (.int, 6), .inl (.int, 6), .inr (.inr (.inr (8, [none, none, none, none, none, none, some (some 26), some (some 27), some (some 28), some (some 41), some (some 42), some (some 43), some (some 44), some (some 45), some (some 46)]))), .inl (.byte, 8), .inl (.int, 8), .inr (.inr (.inl (.array .byte, [some 29, some 30, some 31, some 32, some 33, some 34, some 35, some 36, some 37, some 38, some 39, some 40]))), .inl (.byte, 6), .inl (.byte, 6), .inl (.byte, 6), .inl (.byte, 6), .inl (.byte, 6), .inl (.byte, 6), .inl (.byte, 6), .inl (.byte, 6), .inl (.byte, 6), .inl (.byte, 6), .inl (.byte, 6), .inl (.byte, 6), .inl (.int, 12), .inl (.int, 12), .inl (.int, 12), .inl (.int, 4), .inl (.int, 6), .inl (.int, 6), .inr (.inr (.inr (6, [some (some 48), none]))), .inl (.byte, 40), .inr (.inr (.inr (6, [some none, none])))]
def mg_15 : aM := (aNew mg_14 49)
def sg_10 : List aE := [.inr (.inr (.inr (11, [some (some 1), some (some 25), some (some 47), some none, some none, some none, some none, some none, some none, some none, some none, some none, some none, some none, some none]))), .inr (.inr (.inr (7, [some (some 2), none, none, some (some 3), none, none, none, none, none]))), .inl (.byte, 500), .inr (.inr (.inr (8, [none, none, none, none, none, none, some (some 4), some (some 5), some (some 6), some (some 19), some (some 20), some (some 21), some (some 22), some (some 23), some (some 24)]))), .inl (.byte, 8), .inl (.int, 8), .inr (.inr (.inl (.array .byte, [some 7, some 8, some 9, some 10, some 11, some 12, some 13, some 14, some 15, some 16, some 17, some 18]))), .inl (.byte, 6), .inl (.byte, 6), .inl (.byte, 6), .inl (.byte, 6), .inl (.byte, 6), .inl (.byte, 6), .inl (.byte, 6), .inl (.byte, 6), .inl (.byte, 6), .inl (.byte, 6), .inl (.byte, 6), .inl (.byte, 6), .inl (.int, 12), .inl (.int, 12), .inl (.int, 12), .inl (.int, 4), .inl (.int, 6), .inl (.int, 6), .inr (.inr (.inr (8, [none, none, none, none, none, none, some (some 26), some (some 27), some (some 28), some (some 41), some (some 42), some (some 43), some (some 44), some (some 45), some (some 46)]))), .inl (.byte, 8), .inl (.int, 8), .inr (.inr (.inl (.array .byte, [some 29, some 30, some 31, some 32, some 33, some 34, some 35, some 36, some 37, some 38, some 39, some 40]))), .inl (.byte, 6), .inl (.byte, 6), .inl (.byte, 6), .inl (.byte, 6), .inl (.byte, 6), .inl (.byte, 6), .inl (.byte, 6), .inl (.byte, 6), .inl (.byte, 6), .inl (.byte, 6), .inl (.byte, 6), .inl (.byte, 6), .inl (.int, 12), .inl (.int, 12), .inl (.int, 12), .inl (.int, 4), .inl (.int, 6), .inl (.int, 6), .inr (.inr (.inr (6, [some (some 48), none]))), .inl (.byte, 40), .inr (.inr (.inr (6, [some (some 50), none]))), .inl (.byte, 40)]
def mg_16 : aM := (aNew mg_15 50)
set_option maxHeartbeats 8000000 in
set_option maxRecDepth 20000 in
/-- Sounds.<init> -/
theorem ct_10 {l : Launch} {D : va_G} {cA : FieldType → ClassId} {ad adV : Nat → Nat} {z0 : Nat} : aMet l D cA ad adV z0 mX6_init 1 20 1 40 [.inr (.inr (.inl (some 49)))] sg_9 mg_15 none sg_10 mg_16 := by
  refine aMet_of (by decide +kernel) rfl (Nat.le_of_ble_eq_true rfl) (fun p e s m args below meth c al K => ?_)
  refine aw_aload_n (i := 0) K (dOf ck_mX6_init rfl rfl) rfl ?_
  refine aw_objInit (i := 1) K (dOf ck_mX6_init rfl rfl) ⟨wd_293, wd_167, wd_168⟩ (Nat.le_of_ble_eq_true rfl) ⟨Nat.le_of_ble_eq_true rfl, Nat.le_of_ble_eq_true rfl⟩ ?_
  refine aw_aload_n (i := 2) K (dOf ck_mX6_init rfl rfl) rfl ?_
  refine aw_bip (i := 3) K (dOf ck_mX6_init rfl rfl) (v := 40) rfl ?_
  refine aw_newaN (i := 4) (n := 40) (ty := .byte) K (dOf ck_mX6_init rfl rfl) rfl (by decide) wd_272 (Nat.le_of_ble_eq_true rfl) (Nat.le_of_ble_eq_true rfl) (Nat.le_of_ble_eq_true rfl) 50 rfl (fun q50 => ?_)
  refine aw_putr (i := 5) (k := 0) K (dOf ck_mX6_init rfl rfl) rfl rfl (Nat.le_of_ble_eq_true rfl) wd_294 rfl rfl rfl rfl (fitR (by decide +kernel)) ?_
  refine aw_nm (sh' := sg_10) (mm' := mg_16) rfl rfl ?_
  exact aw_vretA K (by decide +kernel) rfl (Nat.le_of_ble_eq_true rfl) (Nat.le_of_ble_eq_true rfl) (by repeat (first | exact ⟨[], (List.append_nil _).symm⟩ | exact ⟨_, rfl⟩ | apply pre_app))
def sg_11 : List aE := [.inr (.inr (.inr (11, [some (some 1), some (some 25), some (some 47), some (some 49), some none, some none, some none, some none, some none, some none, some none, some none, some none, some none, some none]))), .inr (.inr (.inr (7, [some (some 2), none, none, some (some 3), none, none, none, none, none]))), .inl (.byte, 500), .inr (.inr (.inr (8, [none, none, none, none, none, none, some (some 4), some (some 5), some (some 6), some (some 19), some (some 20), some (some 21), some (some 22), some (some 23), some (some 24)]))), .inl (.byte, 8), .inl (.int, 8), .inr (.inr (.inl (.array .byte, [some 7, some 8, some 9, some 10, some 11, some 12, some 13, some 14, some 15, some 16, some 17, some 18]))), .inl (.byte, 6), .inl (.byte, 6), .inl (.byte, 6), .inl (.byte, 6), .inl (.byte, 6), .inl (.byte, 6), .inl (.byte, 6), .inl (.byte, 6), .inl (.byte, 6), .inl (.byte, 6), .inl (.byte, 6), .inl (.byte, 6), .inl (.int, 12), .inl (.int, 12), .inl (.int, 12), .inl (.int, 4), .inl (.int, 6), .inl (.int, 6), .inr (.inr (.inr (8, [none, none, none, none, none, none, some (some 26), some (some 27), some (some 28), some (some 41), some (some 42), some (some 43), some (some 44), some (some 45), some (some 46)]))), .inl (.byte, 8), .inl (.int, 8), .inr (.inr (.inl (.array .byte, [some 29, some 30, some 31, some 32, some 33, some 34, some 35, some 36, some 37, some 38, some 39, some 40]))), .inl (.byte, 6), .inl (.byte, 6), .inl (.byte, 6), .inl (.byte, 6), .inl (.byte, 6), .inl (.byte, 6), .inl (.byte, 6), .inl (.byte, 6), .inl (.byte, 6), .inl (.byte, 6), .inl (.byte, 6), .inl (.byte, 6), .inl (.int, 12), .inl (.int, 12), .inl (.int, 12), .inl (.int, 4), .inl (.int, 6), .inl (.int, 6), .inr (.inr (.inr (6, [some (some 48), none]))), .inl (.byte, 40), .inr (.inr (.inr (6, [some (some 50), none]))), .inl (.byte, 40), .inr (.inr (.inr (5, [some none, some none, some none])))]
def mg_17 : aM := (aNew mg_16 51)
def sg_12 : List aE := [.inr (.inr (.inr (11, [some (some 1), some (some 25), some (some 47), some (some 49), some none, some none, some none, some none, some none, some none, some none, some none, some none, some none, some none]))), .inr (.inr (.inr (7, [some (some 2), none, none, some (some 3), none, none, none, none, none]))), .inl (.byte, 500), .inr (.inr (.inr (8, [none, none, none, none, none, none, some (some 4), some (some 5), some (some 6), some (some 19), some (some 20), some (some 21), some (some 22), some (some 23), some (some 24)]))), .inl (.byte, 8), .inl (.int, 8), .inr (.inr (.inl (.array .byte, [some 7, some 8, some 9, some 10, some 11, some 12, some 13, some 14, some 15, some 16, some 17, some 18]))), .inl (.byte, 6), .inl (.byte, 6), .inl (.byte, 6), .inl (.byte, 6), .inl (.byte, 6), .inl (.byte, 6), .inl (.byte, 6), .inl (.byte, 6), .inl (.byte, 6), .inl (.byte, 6), .inl (.byte, 6), .inl (.byte, 6), .inl (.int, 12), .inl (.int, 12), .inl (.int, 12), .inl (.int, 4), .inl (.int, 6), .inl (.int, 6), .inr (.inr (.inr (8, [none, none, none, none, none, none, some (some 26), some (some 27), some (some 28), some (some 41), some (some 42), some (some 43), some (some 44), some (some 45), some (some 46)]))), .inl (.byte, 8), .inl (.int, 8), .inr (.inr (.inl (.array .byte, [some 29, some 30, some 31, some 32, some 33, some 34, some 35, some 36, some 37, some 38, some 39, some 40]))), .inl (.byte, 6), .inl (.byte, 6), .inl (.byte, 6), .inl (.byte, 6), .inl (.byte, 6), .inl (.byte, 6), .inl (.byte, 6), .inl (.byte, 6), .inl (.byte, 6), .inl (.byte, 6), .inl (.byte, 6), .inl (.byte, 6), .inl (.int, 12), .inl (.int, 12), .inl (.int, 12), .inl (.int, 4), .inl (.int, 6), .inl (.int, 6), .inr (.inr (.inr (6, [some (some 48), none]))), .inl (.byte, 40), .inr (.inr (.inr (6, [some (some 50), none]))), .inl (.byte, 40), .inr (.inr (.inr (5, [some (some 52), some (some 57), some (some 58)]))), .inr (.inr (.inl (.array .long, [some 53, some 54, some 55, some 56]))), .inr (.inl 40), .inr (.inl 40), .inr (.inl 40), .inr (.inl 40), .inl (.int, 4), .inl (.int, 4)]
def mg_18 : aM := (aNew (aup (aup (aup (aup (aNew (aNewR mg_17 52 5) 57) 57 0 (-1)) 57 1 (-1)) 57 2 (-1)) 57 3 (-1)) 58)
set_option maxHeartbeats 8000000 in
set_option maxRecDepth 20000 in
/-- Rows.<init> -/
theorem ct_11 {l : Launch} {D : va_G} {cA : FieldType → ClassId} {ad adV : Nat → Nat} {z0 : Nat} : aMet l D cA ad adV z0 mX5_init 1 20 7 172 [.inr (.inr (.inl (some 51)))] sg_11 mg_17 none sg_12 mg_18 := by
  refine aMet_of (by decide +kernel) rfl (Nat.le_of_ble_eq_true rfl) (fun p e s m args below meth c al K => ?_)
  refine aw_aload_n (i := 0) K (dOf ck_mX5_init rfl rfl) rfl ?_
  refine aw_objInit (i := 1) K (dOf ck_mX5_init rfl rfl) ⟨wd_310, wd_167, wd_168⟩ (Nat.le_of_ble_eq_true rfl) ⟨Nat.le_of_ble_eq_true rfl, Nat.le_of_ble_eq_true rfl⟩ ?_
  refine aw_aload_n (i := 2) K (dOf ck_mX5_init rfl rfl) rfl ?_
  refine aw_iconst (i := 3) K (n := 4) (i32 _ rfl) (dOf ck_mX5_init rfl rfl) ?_
  refine aw_bip (i := 4) K (dOf ck_mX5_init rfl rfl) (v := 40) rfl ?_
  refine aw_mnaN (i := 5) (n := 4) (k := 40) (ty := .long) K (dOf ck_mX5_init rfl rfl) wd_311 (Or.inr ⟨rfl, rfl⟩) wd_318 (Nat.le_of_ble_eq_true rfl) (Nat.le_of_ble_eq_true rfl) (Nat.le_of_ble_eq_true rfl) (Nat.le_of_ble_eq_true rfl) 52 rfl (fun bl52 => ?_)
  refine aw_putr (i := 6) (k := 0) K (dOf ck_mX5_init rfl rfl) rfl rfl (Nat.le_of_ble_eq_true rfl) wd_312 rfl rfl rfl rfl (fitR (by decide +kernel)) ?_
  refine aw_aload_n (i := 7) K (dOf ck_mX5_init rfl rfl) rfl ?_
  refine aw_iconst (i := 8) K (n := 4) (i32 _ rfl) (dOf ck_mX5_init rfl rfl) ?_
  refine aw_newaN (i := 9) (n := 4) (ty := .int) K (dOf ck_mX5_init rfl rfl) rfl (by decide) wd_273 (Nat.le_of_ble_eq_true rfl) (Nat.le_of_ble_eq_true rfl) (Nat.le_of_ble_eq_true rfl) 57 rfl (fun q57 => ?_)
  refine aw_dup (i := 10) K rfl (dOf ck_mX5_init rfl rfl) ?_
  refine aw_iconst (i := 11) K (n := 0) (i32 _ rfl) (dOf ck_mX5_init rfl rfl) ?_
  refine aw_iconst (i := 12) K (n := -1) (i32 _ rfl) (dOf ck_mX5_init rfl rfl) ?_
  refine aw_iast (i := 13) K (dOf ck_mX5_init rfl rfl) rfl (by decide) ?_
  refine aw_dup (i := 14) K rfl (dOf ck_mX5_init rfl rfl) ?_
  refine aw_iconst (i := 15) K (n := 1) (i32 _ rfl) (dOf ck_mX5_init rfl rfl) ?_
  refine aw_iconst (i := 16) K (n := -1) (i32 _ rfl) (dOf ck_mX5_init rfl rfl) ?_
  refine aw_iast (i := 17) K (dOf ck_mX5_init rfl rfl) rfl (by decide) ?_
  refine aw_dup (i := 18) K rfl (dOf ck_mX5_init rfl rfl) ?_
  refine aw_iconst (i := 19) K (n := 2) (i32 _ rfl) (dOf ck_mX5_init rfl rfl) ?_
  refine aw_iconst (i := 20) K (n := -1) (i32 _ rfl) (dOf ck_mX5_init rfl rfl) ?_
  refine aw_iast (i := 21) K (dOf ck_mX5_init rfl rfl) rfl (by decide) ?_
  refine aw_dup (i := 22) K rfl (dOf ck_mX5_init rfl rfl) ?_
  refine aw_iconst (i := 23) K (n := 3) (i32 _ rfl) (dOf ck_mX5_init rfl rfl) ?_
  refine aw_iconst (i := 24) K (n := -1) (i32 _ rfl) (dOf ck_mX5_init rfl rfl) ?_
  refine aw_iast (i := 25) K (dOf ck_mX5_init rfl rfl) rfl (by decide) ?_
  refine aw_putr (i := 26) (k := 1) K (dOf ck_mX5_init rfl rfl) rfl rfl (Nat.le_of_ble_eq_true rfl) wd_314 rfl rfl rfl rfl (fitR (by decide +kernel)) ?_
  refine aw_aload_n (i := 27) K (dOf ck_mX5_init rfl rfl) rfl ?_
  refine aw_iconst (i := 28) K (n := 4) (i32 _ rfl) (dOf ck_mX5_init rfl rfl) ?_
  refine aw_newaN (i := 29) (n := 4) (ty := .int) K (dOf ck_mX5_init rfl rfl) rfl (by decide) wd_273 (Nat.le_of_ble_eq_true rfl) (Nat.le_of_ble_eq_true rfl) (Nat.le_of_ble_eq_true rfl) 58 rfl (fun q58 => ?_)
  refine aw_putr (i := 30) (k := 2) K (dOf ck_mX5_init rfl rfl) rfl rfl (Nat.le_of_ble_eq_true rfl) wd_317 rfl rfl rfl rfl (fitR (by decide +kernel)) ?_
  refine aw_nm (sh' := sg_12) (mm' := mg_18) rfl rfl ?_
  exact aw_vretA K (by decide +kernel) rfl (Nat.le_of_ble_eq_true rfl) (Nat.le_of_ble_eq_true rfl) (by repeat (first | exact ⟨[], (List.append_nil _).symm⟩ | exact ⟨_, rfl⟩ | apply pre_app))
def sg_13 : List aE := [.inr (.inr (.inr (11, [some (some 1), some (some 25), some (some 47), some (some 49), some (some 51), some none, some none, some none, some none, some none, some none, some none, some none, some none, some none]))), .inr (.inr (.inr (7, [some (some 2), none, none, some (some 3), none, none, none, none, none]))), .inl (.byte, 500), .inr (.inr (.inr (8, [none, none, none, none, none, none, some (some 4), some (some 5), some (some 6), some (some 19), some (some 20), some (some 21), some (some 22), some (some 23), some (some 24)]))), .inl (.byte, 8), .inl (.int, 8), .inr (.inr (.inl (.array .byte, [some 7, some 8, some 9, some 10, some 11, some 12, some 13, some 14, some 15, some 16, some 17, some 18]))), .inl (.byte, 6), .inl (.byte, 6), .inl (.byte, 6), .inl (.byte, 6), .inl (.byte, 6), .inl (.byte, 6), .inl (.byte, 6), .inl (.byte, 6), .inl (.byte, 6), .inl (.byte, 6), .inl (.byte, 6), .inl (.byte, 6), .inl (.int, 12), .inl (.int, 12), .inl (.int, 12), .inl (.int, 4), .inl (.int, 6), .inl (.int, 6), .inr (.inr (.inr (8, [none, none, none, none, none, none, some (some 26), some (some 27), some (some 28), some (some 41), some (some 42), some (some 43), some (some 44), some (some 45), some (some 46)]))), .inl (.byte, 8), .inl (.int, 8), .inr (.inr (.inl (.array .byte, [some 29, some 30, some 31, some 32, some 33, some 34, some 35, some 36, some 37, some 38, some 39, some 40]))), .inl (.byte, 6), .inl (.byte, 6), .inl (.byte, 6), .inl (.byte, 6), .inl (.byte, 6), .inl (.byte, 6), .inl (.byte, 6), .inl (.byte, 6), .inl (.byte, 6), .inl (.byte, 6), .inl (.byte, 6), .inl (.byte, 6), .inl (.int, 12), .inl (.int, 12), .inl (.int, 12), .inl (.int, 4), .inl (.int, 6), .inl (.int, 6), .inr (.inr (.inr (6, [some (some 48), none]))), .inl (.byte, 40), .inr (.inr (.inr (6, [some (some 50), none]))), .inl (.byte, 40), .inr (.inr (.inr (5, [some (some 52), some (some 57), some (some 58)]))), .inr (.inr (.inl (.array .long, [some 53, some 54, some 55, some 56]))), .inr (.inl 40), .inr (.inl 40), .inr (.inl 40), .inr (.inl 40), .inl (.int, 4), .inl (.int, 4), .inr (.inr (.inr (10, [some none, none, none, none, none, none])))]
def mg_19 : aM := (aNew mg_18 59)
def sg_14 : List aE := [.inr (.inr (.inr (11, [some (some 1), some (some 25), some (some 47), some (some 49), some (some 51), some none, some none, some none, some none, some none, some none, some none, some none, some none, some none]))), .inr (.inr (.inr (7, [some (some 2), none, none, some (some 3), none, none, none, none, none]))), .inl (.byte, 500), .inr (.inr (.inr (8, [none, none, none, none, none, none, some (some 4), some (some 5), some (some 6), some (some 19), some (some 20), some (some 21), some (some 22), some (some 23), some (some 24)]))), .inl (.byte, 8), .inl (.int, 8), .inr (.inr (.inl (.array .byte, [some 7, some 8, some 9, some 10, some 11, some 12, some 13, some 14, some 15, some 16, some 17, some 18]))), .inl (.byte, 6), .inl (.byte, 6), .inl (.byte, 6), .inl (.byte, 6), .inl (.byte, 6), .inl (.byte, 6), .inl (.byte, 6), .inl (.byte, 6), .inl (.byte, 6), .inl (.byte, 6), .inl (.byte, 6), .inl (.byte, 6), .inl (.int, 12), .inl (.int, 12), .inl (.int, 12), .inl (.int, 4), .inl (.int, 6), .inl (.int, 6), .inr (.inr (.inr (8, [none, none, none, none, none, none, some (some 26), some (some 27), some (some 28), some (some 41), some (some 42), some (some 43), some (some 44), some (some 45), some (some 46)]))), .inl (.byte, 8), .inl (.int, 8), .inr (.inr (.inl (.array .byte, [some 29, some 30, some 31, some 32, some 33, some 34, some 35, some 36, some 37, some 38, some 39, some 40]))), .inl (.byte, 6), .inl (.byte, 6), .inl (.byte, 6), .inl (.byte, 6), .inl (.byte, 6), .inl (.byte, 6), .inl (.byte, 6), .inl (.byte, 6), .inl (.byte, 6), .inl (.byte, 6), .inl (.byte, 6), .inl (.byte, 6), .inl (.int, 12), .inl (.int, 12), .inl (.int, 12), .inl (.int, 4), .inl (.int, 6), .inl (.int, 6), .inr (.inr (.inr (6, [some (some 48), none]))), .inl (.byte, 40), .inr (.inr (.inr (6, [some (some 50), none]))), .inl (.byte, 40), .inr (.inr (.inr (5, [some (some 52), some (some 57), some (some 58)]))), .inr (.inr (.inl (.array .long, [some 53, some 54, some 55, some 56]))), .inr (.inl 40), .inr (.inl 40), .inr (.inl 40), .inr (.inl 40), .inl (.int, 4), .inl (.int, 4), .inr (.inr (.inr (10, [some (some 60), none, none, none, none, none]))), .inl (.int, 40)]
def mg_20 : aM := (aNew mg_19 60)
set_option maxHeartbeats 8000000 in
set_option maxRecDepth 20000 in
/-- Verdict.<init> -/
theorem ct_12 {l : Launch} {D : va_G} {cA : FieldType → ClassId} {ad adV : Nat → Nat} {z0 : Nat} : aMet l D cA ad adV z0 mX10_init 1 20 1 40 [.inr (.inr (.inl (some 59)))] sg_13 mg_19 none sg_14 mg_20 := by
  refine aMet_of (by decide +kernel) rfl (Nat.le_of_ble_eq_true rfl) (fun p e s m args below meth c al K => ?_)
  refine aw_aload_n (i := 0) K (dOf ck_mX10_init rfl rfl) rfl ?_
  refine aw_objInit (i := 1) K (dOf ck_mX10_init rfl rfl) ⟨wd_323, wd_167, wd_168⟩ (Nat.le_of_ble_eq_true rfl) ⟨Nat.le_of_ble_eq_true rfl, Nat.le_of_ble_eq_true rfl⟩ ?_
  refine aw_aload_n (i := 2) K (dOf ck_mX10_init rfl rfl) rfl ?_
  refine aw_bip (i := 3) K (dOf ck_mX10_init rfl rfl) (v := 40) rfl ?_
  refine aw_newaN (i := 4) (n := 40) (ty := .int) K (dOf ck_mX10_init rfl rfl) rfl (by decide) wd_273 (Nat.le_of_ble_eq_true rfl) (Nat.le_of_ble_eq_true rfl) (Nat.le_of_ble_eq_true rfl) 60 rfl (fun q60 => ?_)
  refine aw_putr (i := 5) (k := 0) K (dOf ck_mX10_init rfl rfl) rfl rfl (Nat.le_of_ble_eq_true rfl) wd_324 rfl rfl rfl rfl (fitR (by decide +kernel)) ?_
  refine aw_nm (sh' := sg_14) (mm' := mg_20) rfl rfl ?_
  exact aw_vretA K (by decide +kernel) rfl (Nat.le_of_ble_eq_true rfl) (Nat.le_of_ble_eq_true rfl) (by repeat (first | exact ⟨[], (List.append_nil _).symm⟩ | exact ⟨_, rfl⟩ | apply pre_app))
def sg_15 : List aE := [.inr (.inr (.inr (11, [some (some 1), some (some 25), some (some 47), some (some 49), some (some 51), some (some 59), some none, some none, some none, some none, some none, some none, some none, some none, some none]))), .inr (.inr (.inr (7, [some (some 2), none, none, some (some 3), none, none, none, none, none]))), .inl (.byte, 500), .inr (.inr (.inr (8, [none, none, none, none, none, none, some (some 4), some (some 5), some (some 6), some (some 19), some (some 20), some (some 21), some (some 22), some (some 23), some (some 24)]))), .inl (.byte, 8), .inl (.int, 8), .inr (.inr (.inl (.array .byte, [some 7, some 8, some 9, some 10, some 11, some 12, some 13, some 14, some 15, some 16, some 17, some 18]))), .inl (.byte, 6), .inl (.byte, 6), .inl (.byte, 6), .inl (.byte, 6), .inl (.byte, 6), .inl (.byte, 6), .inl (.byte, 6), .inl (.byte, 6), .inl (.byte, 6), .inl (.byte, 6), .inl (.byte, 6), .inl (.byte, 6), .inl (.int, 12), .inl (.int, 12), .inl (.int, 12), .inl (.int, 4), .inl (.int, 6), .inl (.int, 6), .inr (.inr (.inr (8, [none, none, none, none, none, none, some (some 26), some (some 27), some (some 28), some (some 41), some (some 42), some (some 43), some (some 44), some (some 45), some (some 46)]))), .inl (.byte, 8), .inl (.int, 8), .inr (.inr (.inl (.array .byte, [some 29, some 30, some 31, some 32, some 33, some 34, some 35, some 36, some 37, some 38, some 39, some 40]))), .inl (.byte, 6), .inl (.byte, 6), .inl (.byte, 6), .inl (.byte, 6), .inl (.byte, 6), .inl (.byte, 6), .inl (.byte, 6), .inl (.byte, 6), .inl (.byte, 6), .inl (.byte, 6), .inl (.byte, 6), .inl (.byte, 6), .inl (.int, 12), .inl (.int, 12), .inl (.int, 12), .inl (.int, 4), .inl (.int, 6), .inl (.int, 6), .inr (.inr (.inr (6, [some (some 48), none]))), .inl (.byte, 40), .inr (.inr (.inr (6, [some (some 50), none]))), .inl (.byte, 40), .inr (.inr (.inr (5, [some (some 52), some (some 57), some (some 58)]))), .inr (.inr (.inl (.array .long, [some 53, some 54, some 55, some 56]))), .inr (.inl 40), .inr (.inl 40), .inr (.inl 40), .inr (.inl 40), .inl (.int, 4), .inl (.int, 4), .inr (.inr (.inr (10, [some (some 60), none, none, none, none, none]))), .inl (.int, 40), .inr (.inr (.inr (1, [some none, none, some none, some none, some none, none, some none, some none, none, none])))]
def mg_21 : aM := (aNew mg_20 61)
def sg_16 : List aE := [.inr (.inr (.inr (11, [some (some 1), some (some 25), some (some 47), some (some 49), some (some 51), some (some 59), some none, some none, some none, some none, some none, some none, some none, some none, some none]))), .inr (.inr (.inr (7, [some (some 2), none, none, some (some 3), none, none, none, none, none]))), .inl (.byte, 500), .inr (.inr (.inr (8, [none, none, none, none, none, none, some (some 4), some (some 5), some (some 6), some (some 19), some (some 20), some (some 21), some (some 22), some (some 23), some (some 24)]))), .inl (.byte, 8), .inl (.int, 8), .inr (.inr (.inl (.array .byte, [some 7, some 8, some 9, some 10, some 11, some 12, some 13, some 14, some 15, some 16, some 17, some 18]))), .inl (.byte, 6), .inl (.byte, 6), .inl (.byte, 6), .inl (.byte, 6), .inl (.byte, 6), .inl (.byte, 6), .inl (.byte, 6), .inl (.byte, 6), .inl (.byte, 6), .inl (.byte, 6), .inl (.byte, 6), .inl (.byte, 6), .inl (.int, 12), .inl (.int, 12), .inl (.int, 12), .inl (.int, 4), .inl (.int, 6), .inl (.int, 6), .inr (.inr (.inr (8, [none, none, none, none, none, none, some (some 26), some (some 27), some (some 28), some (some 41), some (some 42), some (some 43), some (some 44), some (some 45), some (some 46)]))), .inl (.byte, 8), .inl (.int, 8), .inr (.inr (.inl (.array .byte, [some 29, some 30, some 31, some 32, some 33, some 34, some 35, some 36, some 37, some 38, some 39, some 40]))), .inl (.byte, 6), .inl (.byte, 6), .inl (.byte, 6), .inl (.byte, 6), .inl (.byte, 6), .inl (.byte, 6), .inl (.byte, 6), .inl (.byte, 6), .inl (.byte, 6), .inl (.byte, 6), .inl (.byte, 6), .inl (.byte, 6), .inl (.int, 12), .inl (.int, 12), .inl (.int, 12), .inl (.int, 4), .inl (.int, 6), .inl (.int, 6), .inr (.inr (.inr (6, [some (some 48), none]))), .inl (.byte, 40), .inr (.inr (.inr (6, [some (some 50), none]))), .inl (.byte, 40), .inr (.inr (.inr (5, [some (some 52), some (some 57), some (some 58)]))), .inr (.inr (.inl (.array .long, [some 53, some 54, some 55, some 56]))), .inr (.inl 40), .inr (.inl 40), .inr (.inl 40), .inr (.inl 40), .inl (.int, 4), .inl (.int, 4), .inr (.inr (.inr (10, [some (some 60), none, none, none, none, none]))), .inl (.int, 40), .inr (.inr (.inr (1, [some (some 25), none, some (some 62), some (some 63), some (some 64), none, some (some 65), some (some 66), none, none]))), .inl (.byte, 720), .inl (.int, 305), .inr (.inl 915), .inl (.int, 60), .inl (.int, 60)]
def mg_22 : aM := (aup (aNew (aNew (aNew (aNew (aNew mg_21 62) 63) 64) 65) 66) 61 9 (-1))
set_option maxHeartbeats 8000000 in
set_option maxRecDepth 20000 in
/-- Cutter.<init> -/
theorem ct_13 {l : Launch} {D : va_G} {cA : FieldType → ClassId} {ad adV : Nat → Nat} {z0 : Nat} : aMet l D cA ad adV z0 mX1_init 1 20 5 2060 [.inr (.inr (.inl (some 61))), .inr (.inr (.inl (some 25)))] sg_15 mg_21 none sg_16 mg_22 := by
  refine aMet_of (by decide +kernel) rfl (Nat.le_of_ble_eq_true rfl) (fun p e s m args below meth c al K => ?_)
  refine aw_aload_n (i := 0) K (dOf ck_mX1_init rfl rfl) rfl ?_
  refine aw_objInit (i := 1) K (dOf ck_mX1_init rfl rfl) ⟨wd_341, wd_167, wd_168⟩ (Nat.le_of_ble_eq_true rfl) ⟨Nat.le_of_ble_eq_true rfl, Nat.le_of_ble_eq_true rfl⟩ ?_
  refine aw_aload_n (i := 2) K (dOf ck_mX1_init rfl rfl) rfl ?_
  refine aw_sip (i := 3) K (dOf ck_mX1_init rfl rfl) (v := 720) rfl ?_
  refine aw_newaN (i := 4) (n := 720) (ty := .byte) K (dOf ck_mX1_init rfl rfl) rfl (by decide) wd_272 (Nat.le_of_ble_eq_true rfl) (Nat.le_of_ble_eq_true rfl) (Nat.le_of_ble_eq_true rfl) 62 rfl (fun q62 => ?_)
  refine aw_putr (i := 5) (k := 2) K (dOf ck_mX1_init rfl rfl) rfl rfl (Nat.le_of_ble_eq_true rfl) wd_344 rfl rfl rfl rfl (fitR (by decide +kernel)) ?_
  refine aw_aload_n (i := 6) K (dOf ck_mX1_init rfl rfl) rfl ?_
  refine aw_sip (i := 7) K (dOf ck_mX1_init rfl rfl) (v := 305) rfl ?_
  refine aw_newaN (i := 8) (n := 305) (ty := .int) K (dOf ck_mX1_init rfl rfl) rfl (by decide) wd_273 (Nat.le_of_ble_eq_true rfl) (Nat.le_of_ble_eq_true rfl) (Nat.le_of_ble_eq_true rfl) 63 rfl (fun q63 => ?_)
  refine aw_putr (i := 9) (k := 3) K (dOf ck_mX1_init rfl rfl) rfl rfl (Nat.le_of_ble_eq_true rfl) wd_345 rfl rfl rfl rfl (fitR (by decide +kernel)) ?_
  refine aw_aload_n (i := 10) K (dOf ck_mX1_init rfl rfl) rfl ?_
  refine aw_sip (i := 11) K (dOf ck_mX1_init rfl rfl) (v := 915) rfl ?_
  refine aw_newlN (i := 12) (n := 915) K (dOf ck_mX1_init rfl rfl) wd_318 (Nat.le_of_ble_eq_true rfl) (Nat.le_of_ble_eq_true rfl) (Nat.le_of_ble_eq_true rfl) 64 rfl (fun q64 => ?_)
  refine aw_putr (i := 13) (k := 4) K (dOf ck_mX1_init rfl rfl) rfl rfl (Nat.le_of_ble_eq_true rfl) wd_346 rfl rfl rfl rfl (fitR (by decide +kernel)) ?_
  refine aw_aload_n (i := 14) K (dOf ck_mX1_init rfl rfl) rfl ?_
  refine aw_bip (i := 15) K (dOf ck_mX1_init rfl rfl) (v := 60) rfl ?_
  refine aw_newaN (i := 16) (n := 60) (ty := .int) K (dOf ck_mX1_init rfl rfl) rfl (by decide) wd_273 (Nat.le_of_ble_eq_true rfl) (Nat.le_of_ble_eq_true rfl) (Nat.le_of_ble_eq_true rfl) 65 rfl (fun q65 => ?_)
  refine aw_putr (i := 17) (k := 6) K (dOf ck_mX1_init rfl rfl) rfl rfl (Nat.le_of_ble_eq_true rfl) wd_348 rfl rfl rfl rfl (fitR (by decide +kernel)) ?_
  refine aw_aload_n (i := 18) K (dOf ck_mX1_init rfl rfl) rfl ?_
  refine aw_bip (i := 19) K (dOf ck_mX1_init rfl rfl) (v := 60) rfl ?_
  refine aw_newaN (i := 20) (n := 60) (ty := .int) K (dOf ck_mX1_init rfl rfl) rfl (by decide) wd_273 (Nat.le_of_ble_eq_true rfl) (Nat.le_of_ble_eq_true rfl) (Nat.le_of_ble_eq_true rfl) 66 rfl (fun q66 => ?_)
  refine aw_putr (i := 21) (k := 7) K (dOf ck_mX1_init rfl rfl) rfl rfl (Nat.le_of_ble_eq_true rfl) wd_351 rfl rfl rfl rfl (fitR (by decide +kernel)) ?_
  refine aw_aload_n (i := 22) K (dOf ck_mX1_init rfl rfl) rfl ?_
  refine aw_iconst (i := 23) K (n := -1) (i32 _ rfl) (dOf ck_mX1_init rfl rfl) ?_
  refine aw_putf (i := 24) (k := 9) K (dOf ck_mX1_init rfl rfl) rfl rfl (Nat.le_of_ble_eq_true rfl) wd_355 rfl rfl (Or.inl rfl) ?_
  refine aw_aload_n (i := 25) K (dOf ck_mX1_init rfl rfl) rfl ?_
  refine aw_aload_n (i := 26) K (dOf ck_mX1_init rfl rfl) rfl ?_
  refine aw_putr (i := 27) (k := 0) K (dOf ck_mX1_init rfl rfl) rfl rfl (Nat.le_of_ble_eq_true rfl) wd_342 rfl rfl rfl rfl (fitR (by decide +kernel)) ?_
  refine aw_nm (sh' := sg_16) (mm' := mg_22) rfl rfl ?_
  exact aw_vretA K (by decide +kernel) rfl (Nat.le_of_ble_eq_true rfl) (Nat.le_of_ble_eq_true rfl) (by repeat (first | exact ⟨[], (List.append_nil _).symm⟩ | exact ⟨_, rfl⟩ | apply pre_app))
def sg_17 : List aE := [.inr (.inr (.inr (11, [some (some 1), some (some 25), some (some 47), some (some 49), some (some 51), some (some 59), some (some 61), some none, some none, some none, some none, some none, some none, some none, some none]))), .inr (.inr (.inr (7, [some (some 2), none, none, some (some 3), none, none, none, none, none]))), .inl (.byte, 500), .inr (.inr (.inr (8, [none, none, none, none, none, none, some (some 4), some (some 5), some (some 6), some (some 19), some (some 20), some (some 21), some (some 22), some (some 23), some (some 24)]))), .inl (.byte, 8), .inl (.int, 8), .inr (.inr (.inl (.array .byte, [some 7, some 8, some 9, some 10, some 11, some 12, some 13, some 14, some 15, some 16, some 17, some 18]))), .inl (.byte, 6), .inl (.byte, 6), .inl (.byte, 6), .inl (.byte, 6), .inl (.byte, 6), .inl (.byte, 6), .inl (.byte, 6), .inl (.byte, 6), .inl (.byte, 6), .inl (.byte, 6), .inl (.byte, 6), .inl (.byte, 6), .inl (.int, 12), .inl (.int, 12), .inl (.int, 12), .inl (.int, 4), .inl (.int, 6), .inl (.int, 6), .inr (.inr (.inr (8, [none, none, none, none, none, none, some (some 26), some (some 27), some (some 28), some (some 41), some (some 42), some (some 43), some (some 44), some (some 45), some (some 46)]))), .inl (.byte, 8), .inl (.int, 8), .inr (.inr (.inl (.array .byte, [some 29, some 30, some 31, some 32, some 33, some 34, some 35, some 36, some 37, some 38, some 39, some 40]))), .inl (.byte, 6), .inl (.byte, 6), .inl (.byte, 6), .inl (.byte, 6), .inl (.byte, 6), .inl (.byte, 6), .inl (.byte, 6), .inl (.byte, 6), .inl (.byte, 6), .inl (.byte, 6), .inl (.byte, 6), .inl (.byte, 6), .inl (.int, 12), .inl (.int, 12), .inl (.int, 12), .inl (.int, 4), .inl (.int, 6), .inl (.int, 6), .inr (.inr (.inr (6, [some (some 48), none]))), .inl (.byte, 40), .inr (.inr (.inr (6, [some (some 50), none]))), .inl (.byte, 40), .inr (.inr (.inr (5, [some (some 52), some (some 57), some (some 58)]))), .inr (.inr (.inl (.array .long, [some 53, some 54, some 55, some 56]))), .inr (.inl 40), .inr (.inl 40), .inr (.inl 40), .inr (.inl 40), .inl (.int, 4), .inl (.int, 4), .inr (.inr (.inr (10, [some (some 60), none, none, none, none, none]))), .inl (.int, 40), .inr (.inr (.inr (1, [some (some 25), none, some (some 62), some (some 63), some (some 64), none, some (some 65), some (some 66), none, none]))), .inl (.byte, 720), .inl (.int, 305), .inr (.inl 915), .inl (.int, 60), .inl (.int, 60), .inr (.inr (.inr (1, [some none, none, some none, some none, some none, none, some none, some none, none, none])))]
def mg_23 : aM := (aNew mg_22 67)
def sg_18 : List aE := [.inr (.inr (.inr (11, [some (some 1), some (some 25), some (some 47), some (some 49), some (some 51), some (some 59), some (some 61), some none, some none, some none, some none, some none, some none, some none, some none]))), .inr (.inr (.inr (7, [some (some 2), none, none, some (some 3), none, none, none, none, none]))), .inl (.byte, 500), .inr (.inr (.inr (8, [none, none, none, none, none, none, some (some 4), some (some 5), some (some 6), some (some 19), some (some 20), some (some 21), some (some 22), some (some 23), some (some 24)]))), .inl (.byte, 8), .inl (.int, 8), .inr (.inr (.inl (.array .byte, [some 7, some 8, some 9, some 10, some 11, some 12, some 13, some 14, some 15, some 16, some 17, some 18]))), .inl (.byte, 6), .inl (.byte, 6), .inl (.byte, 6), .inl (.byte, 6), .inl (.byte, 6), .inl (.byte, 6), .inl (.byte, 6), .inl (.byte, 6), .inl (.byte, 6), .inl (.byte, 6), .inl (.byte, 6), .inl (.byte, 6), .inl (.int, 12), .inl (.int, 12), .inl (.int, 12), .inl (.int, 4), .inl (.int, 6), .inl (.int, 6), .inr (.inr (.inr (8, [none, none, none, none, none, none, some (some 26), some (some 27), some (some 28), some (some 41), some (some 42), some (some 43), some (some 44), some (some 45), some (some 46)]))), .inl (.byte, 8), .inl (.int, 8), .inr (.inr (.inl (.array .byte, [some 29, some 30, some 31, some 32, some 33, some 34, some 35, some 36, some 37, some 38, some 39, some 40]))), .inl (.byte, 6), .inl (.byte, 6), .inl (.byte, 6), .inl (.byte, 6), .inl (.byte, 6), .inl (.byte, 6), .inl (.byte, 6), .inl (.byte, 6), .inl (.byte, 6), .inl (.byte, 6), .inl (.byte, 6), .inl (.byte, 6), .inl (.int, 12), .inl (.int, 12), .inl (.int, 12), .inl (.int, 4), .inl (.int, 6), .inl (.int, 6), .inr (.inr (.inr (6, [some (some 48), none]))), .inl (.byte, 40), .inr (.inr (.inr (6, [some (some 50), none]))), .inl (.byte, 40), .inr (.inr (.inr (5, [some (some 52), some (some 57), some (some 58)]))), .inr (.inr (.inl (.array .long, [some 53, some 54, some 55, some 56]))), .inr (.inl 40), .inr (.inl 40), .inr (.inl 40), .inr (.inl 40), .inl (.int, 4), .inl (.int, 4), .inr (.inr (.inr (10, [some (some 60), none, none, none, none, none]))), .inl (.int, 40), .inr (.inr (.inr (1, [some (some 25), none, some (some 62), some (some 63), some (some 64), none, some (some 65), some (some 66), none, none]))), .inl (.byte, 720), .inl (.int, 305), .inr (.inl 915), .inl (.int, 60), .inl (.int, 60), .inr (.inr (.inr (1, [some (some 25), none, some (some 68), some (some 69), some (some 70), none, some (some 71), some (some 72), none, none]))), .inl (.byte, 720), .inl (.int, 305), .inr (.inl 915), .inl (.int, 60), .inl (.int, 60)]
def mg_24 : aM := (aup (aNew (aNew (aNew (aNew (aNew mg_23 68) 69) 70) 71) 72) 67 9 (-1))
set_option maxHeartbeats 8000000 in
set_option maxRecDepth 20000 in
/-- Cutter.<init> -/
theorem ct_14 {l : Launch} {D : va_G} {cA : FieldType → ClassId} {ad adV : Nat → Nat} {z0 : Nat} : aMet l D cA ad adV z0 mX1_init 1 20 5 2060 [.inr (.inr (.inl (some 67))), .inr (.inr (.inl (some 25)))] sg_17 mg_23 none sg_18 mg_24 := by
  refine aMet_of (by decide +kernel) rfl (Nat.le_of_ble_eq_true rfl) (fun p e s m args below meth c al K => ?_)
  refine aw_aload_n (i := 0) K (dOf ck_mX1_init rfl rfl) rfl ?_
  refine aw_objInit (i := 1) K (dOf ck_mX1_init rfl rfl) ⟨wd_341, wd_167, wd_168⟩ (Nat.le_of_ble_eq_true rfl) ⟨Nat.le_of_ble_eq_true rfl, Nat.le_of_ble_eq_true rfl⟩ ?_
  refine aw_aload_n (i := 2) K (dOf ck_mX1_init rfl rfl) rfl ?_
  refine aw_sip (i := 3) K (dOf ck_mX1_init rfl rfl) (v := 720) rfl ?_
  refine aw_newaN (i := 4) (n := 720) (ty := .byte) K (dOf ck_mX1_init rfl rfl) rfl (by decide) wd_272 (Nat.le_of_ble_eq_true rfl) (Nat.le_of_ble_eq_true rfl) (Nat.le_of_ble_eq_true rfl) 68 rfl (fun q68 => ?_)
  refine aw_putr (i := 5) (k := 2) K (dOf ck_mX1_init rfl rfl) rfl rfl (Nat.le_of_ble_eq_true rfl) wd_344 rfl rfl rfl rfl (fitR (by decide +kernel)) ?_
  refine aw_aload_n (i := 6) K (dOf ck_mX1_init rfl rfl) rfl ?_
  refine aw_sip (i := 7) K (dOf ck_mX1_init rfl rfl) (v := 305) rfl ?_
  refine aw_newaN (i := 8) (n := 305) (ty := .int) K (dOf ck_mX1_init rfl rfl) rfl (by decide) wd_273 (Nat.le_of_ble_eq_true rfl) (Nat.le_of_ble_eq_true rfl) (Nat.le_of_ble_eq_true rfl) 69 rfl (fun q69 => ?_)
  refine aw_putr (i := 9) (k := 3) K (dOf ck_mX1_init rfl rfl) rfl rfl (Nat.le_of_ble_eq_true rfl) wd_345 rfl rfl rfl rfl (fitR (by decide +kernel)) ?_
  refine aw_aload_n (i := 10) K (dOf ck_mX1_init rfl rfl) rfl ?_
  refine aw_sip (i := 11) K (dOf ck_mX1_init rfl rfl) (v := 915) rfl ?_
  refine aw_newlN (i := 12) (n := 915) K (dOf ck_mX1_init rfl rfl) wd_318 (Nat.le_of_ble_eq_true rfl) (Nat.le_of_ble_eq_true rfl) (Nat.le_of_ble_eq_true rfl) 70 rfl (fun q70 => ?_)
  refine aw_putr (i := 13) (k := 4) K (dOf ck_mX1_init rfl rfl) rfl rfl (Nat.le_of_ble_eq_true rfl) wd_346 rfl rfl rfl rfl (fitR (by decide +kernel)) ?_
  refine aw_aload_n (i := 14) K (dOf ck_mX1_init rfl rfl) rfl ?_
  refine aw_bip (i := 15) K (dOf ck_mX1_init rfl rfl) (v := 60) rfl ?_
  refine aw_newaN (i := 16) (n := 60) (ty := .int) K (dOf ck_mX1_init rfl rfl) rfl (by decide) wd_273 (Nat.le_of_ble_eq_true rfl) (Nat.le_of_ble_eq_true rfl) (Nat.le_of_ble_eq_true rfl) 71 rfl (fun q71 => ?_)
  refine aw_putr (i := 17) (k := 6) K (dOf ck_mX1_init rfl rfl) rfl rfl (Nat.le_of_ble_eq_true rfl) wd_348 rfl rfl rfl rfl (fitR (by decide +kernel)) ?_
  refine aw_aload_n (i := 18) K (dOf ck_mX1_init rfl rfl) rfl ?_
  refine aw_bip (i := 19) K (dOf ck_mX1_init rfl rfl) (v := 60) rfl ?_
  refine aw_newaN (i := 20) (n := 60) (ty := .int) K (dOf ck_mX1_init rfl rfl) rfl (by decide) wd_273 (Nat.le_of_ble_eq_true rfl) (Nat.le_of_ble_eq_true rfl) (Nat.le_of_ble_eq_true rfl) 72 rfl (fun q72 => ?_)
  refine aw_putr (i := 21) (k := 7) K (dOf ck_mX1_init rfl rfl) rfl rfl (Nat.le_of_ble_eq_true rfl) wd_351 rfl rfl rfl rfl (fitR (by decide +kernel)) ?_
  refine aw_aload_n (i := 22) K (dOf ck_mX1_init rfl rfl) rfl ?_
  refine aw_iconst (i := 23) K (n := -1) (i32 _ rfl) (dOf ck_mX1_init rfl rfl) ?_
  refine aw_putf (i := 24) (k := 9) K (dOf ck_mX1_init rfl rfl) rfl rfl (Nat.le_of_ble_eq_true rfl) wd_355 rfl rfl (Or.inl rfl) ?_
  refine aw_aload_n (i := 25) K (dOf ck_mX1_init rfl rfl) rfl ?_
  refine aw_aload_n (i := 26) K (dOf ck_mX1_init rfl rfl) rfl ?_
  refine aw_putr (i := 27) (k := 0) K (dOf ck_mX1_init rfl rfl) rfl rfl (Nat.le_of_ble_eq_true rfl) wd_342 rfl rfl rfl rfl (fitR (by decide +kernel)) ?_
  refine aw_nm (sh' := sg_18) (mm' := mg_24) rfl rfl ?_
  exact aw_vretA K (by decide +kernel) rfl (Nat.le_of_ble_eq_true rfl) (Nat.le_of_ble_eq_true rfl) (by repeat (first | exact ⟨[], (List.append_nil _).symm⟩ | exact ⟨_, rfl⟩ | apply pre_app))
def sg_19 : List aE := [.inr (.inr (.inr (11, [some (some 1), some (some 25), some (some 47), some (some 49), some (some 51), some (some 59), some (some 61), some (some 67), some none, some none, some none, some none, some none, some none, some none]))), .inr (.inr (.inr (7, [some (some 2), none, none, some (some 3), none, none, none, none, none]))), .inl (.byte, 500), .inr (.inr (.inr (8, [none, none, none, none, none, none, some (some 4), some (some 5), some (some 6), some (some 19), some (some 20), some (some 21), some (some 22), some (some 23), some (some 24)]))), .inl (.byte, 8), .inl (.int, 8), .inr (.inr (.inl (.array .byte, [some 7, some 8, some 9, some 10, some 11, some 12, some 13, some 14, some 15, some 16, some 17, some 18]))), .inl (.byte, 6), .inl (.byte, 6), .inl (.byte, 6), .inl (.byte, 6), .inl (.byte, 6), .inl (.byte, 6), .inl (.byte, 6), .inl (.byte, 6), .inl (.byte, 6), .inl (.byte, 6), .inl (.byte, 6), .inl (.byte, 6), .inl (.int, 12), .inl (.int, 12), .inl (.int, 12), .inl (.int, 4), .inl (.int, 6), .inl (.int, 6), .inr (.inr (.inr (8, [none, none, none, none, none, none, some (some 26), some (some 27), some (some 28), some (some 41), some (some 42), some (some 43), some (some 44), some (some 45), some (some 46)]))), .inl (.byte, 8), .inl (.int, 8), .inr (.inr (.inl (.array .byte, [some 29, some 30, some 31, some 32, some 33, some 34, some 35, some 36, some 37, some 38, some 39, some 40]))), .inl (.byte, 6), .inl (.byte, 6), .inl (.byte, 6), .inl (.byte, 6), .inl (.byte, 6), .inl (.byte, 6), .inl (.byte, 6), .inl (.byte, 6), .inl (.byte, 6), .inl (.byte, 6), .inl (.byte, 6), .inl (.byte, 6), .inl (.int, 12), .inl (.int, 12), .inl (.int, 12), .inl (.int, 4), .inl (.int, 6), .inl (.int, 6), .inr (.inr (.inr (6, [some (some 48), none]))), .inl (.byte, 40), .inr (.inr (.inr (6, [some (some 50), none]))), .inl (.byte, 40), .inr (.inr (.inr (5, [some (some 52), some (some 57), some (some 58)]))), .inr (.inr (.inl (.array .long, [some 53, some 54, some 55, some 56]))), .inr (.inl 40), .inr (.inl 40), .inr (.inl 40), .inr (.inl 40), .inl (.int, 4), .inl (.int, 4), .inr (.inr (.inr (10, [some (some 60), none, none, none, none, none]))), .inl (.int, 40), .inr (.inr (.inr (1, [some (some 25), none, some (some 62), some (some 63), some (some 64), none, some (some 65), some (some 66), none, none]))), .inl (.byte, 720), .inl (.int, 305), .inr (.inl 915), .inl (.int, 60), .inl (.int, 60), .inr (.inr (.inr (1, [some (some 25), none, some (some 68), some (some 69), some (some 70), none, some (some 71), some (some 72), none, none]))), .inl (.byte, 720), .inl (.int, 305), .inr (.inl 915), .inl (.int, 60), .inl (.int, 60), .inr (.inr (.inr (4, [some none, some none, some none, none, none])))]
def mg_25 : aM := (aNew mg_24 73)
def sg_20 : List aE := [.inr (.inr (.inr (11, [some (some 1), some (some 25), some (some 47), some (some 49), some (some 51), some (some 59), some (some 61), some (some 67), some none, some none, some none, some none, some none, some none, some none]))), .inr (.inr (.inr (7, [some (some 2), none, none, some (some 3), none, none, none, none, none]))), .inl (.byte, 500), .inr (.inr (.inr (8, [none, none, none, none, none, none, some (some 4), some (some 5), some (some 6), some (some 19), some (some 20), some (some 21), some (some 22), some (some 23), some (some 24)]))), .inl (.byte, 8), .inl (.int, 8), .inr (.inr (.inl (.array .byte, [some 7, some 8, some 9, some 10, some 11, some 12, some 13, some 14, some 15, some 16, some 17, some 18]))), .inl (.byte, 6), .inl (.byte, 6), .inl (.byte, 6), .inl (.byte, 6), .inl (.byte, 6), .inl (.byte, 6), .inl (.byte, 6), .inl (.byte, 6), .inl (.byte, 6), .inl (.byte, 6), .inl (.byte, 6), .inl (.byte, 6), .inl (.int, 12), .inl (.int, 12), .inl (.int, 12), .inl (.int, 4), .inl (.int, 6), .inl (.int, 6), .inr (.inr (.inr (8, [none, none, none, none, none, none, some (some 26), some (some 27), some (some 28), some (some 41), some (some 42), some (some 43), some (some 44), some (some 45), some (some 46)]))), .inl (.byte, 8), .inl (.int, 8), .inr (.inr (.inl (.array .byte, [some 29, some 30, some 31, some 32, some 33, some 34, some 35, some 36, some 37, some 38, some 39, some 40]))), .inl (.byte, 6), .inl (.byte, 6), .inl (.byte, 6), .inl (.byte, 6), .inl (.byte, 6), .inl (.byte, 6), .inl (.byte, 6), .inl (.byte, 6), .inl (.byte, 6), .inl (.byte, 6), .inl (.byte, 6), .inl (.byte, 6), .inl (.int, 12), .inl (.int, 12), .inl (.int, 12), .inl (.int, 4), .inl (.int, 6), .inl (.int, 6), .inr (.inr (.inr (6, [some (some 48), none]))), .inl (.byte, 40), .inr (.inr (.inr (6, [some (some 50), none]))), .inl (.byte, 40), .inr (.inr (.inr (5, [some (some 52), some (some 57), some (some 58)]))), .inr (.inr (.inl (.array .long, [some 53, some 54, some 55, some 56]))), .inr (.inl 40), .inr (.inl 40), .inr (.inl 40), .inr (.inl 40), .inl (.int, 4), .inl (.int, 4), .inr (.inr (.inr (10, [some (some 60), none, none, none, none, none]))), .inl (.int, 40), .inr (.inr (.inr (1, [some (some 25), none, some (some 62), some (some 63), some (some 64), none, some (some 65), some (some 66), none, none]))), .inl (.byte, 720), .inl (.int, 305), .inr (.inl 915), .inl (.int, 60), .inl (.int, 60), .inr (.inr (.inr (1, [some (some 25), none, some (some 68), some (some 69), some (some 70), none, some (some 71), some (some 72), none, none]))), .inl (.byte, 720), .inl (.int, 305), .inr (.inl 915), .inl (.int, 60), .inl (.int, 60), .inr (.inr (.inr (4, [some none, some none, some none, none, none]))), .inr (.inr (.inr (6, [some none, none])))]
def mg_26 : aM := (aNew mg_25 74)
def sg_21 : List aE := [.inr (.inr (.inr (11, [some (some 1), some (some 25), some (some 47), some (some 49), some (some 51), some (some 59), some (some 61), some (some 67), some none, some none, some none, some none, some none, some none, some none]))), .inr (.inr (.inr (7, [some (some 2), none, none, some (some 3), none, none, none, none, none]))), .inl (.byte, 500), .inr (.inr (.inr (8, [none, none, none, none, none, none, some (some 4), some (some 5), some (some 6), some (some 19), some (some 20), some (some 21), some (some 22), some (some 23), some (some 24)]))), .inl (.byte, 8), .inl (.int, 8), .inr (.inr (.inl (.array .byte, [some 7, some 8, some 9, some 10, some 11, some 12, some 13, some 14, some 15, some 16, some 17, some 18]))), .inl (.byte, 6), .inl (.byte, 6), .inl (.byte, 6), .inl (.byte, 6), .inl (.byte, 6), .inl (.byte, 6), .inl (.byte, 6), .inl (.byte, 6), .inl (.byte, 6), .inl (.byte, 6), .inl (.byte, 6), .inl (.byte, 6), .inl (.int, 12), .inl (.int, 12), .inl (.int, 12), .inl (.int, 4), .inl (.int, 6), .inl (.int, 6), .inr (.inr (.inr (8, [none, none, none, none, none, none, some (some 26), some (some 27), some (some 28), some (some 41), some (some 42), some (some 43), some (some 44), some (some 45), some (some 46)]))), .inl (.byte, 8), .inl (.int, 8), .inr (.inr (.inl (.array .byte, [some 29, some 30, some 31, some 32, some 33, some 34, some 35, some 36, some 37, some 38, some 39, some 40]))), .inl (.byte, 6), .inl (.byte, 6), .inl (.byte, 6), .inl (.byte, 6), .inl (.byte, 6), .inl (.byte, 6), .inl (.byte, 6), .inl (.byte, 6), .inl (.byte, 6), .inl (.byte, 6), .inl (.byte, 6), .inl (.byte, 6), .inl (.int, 12), .inl (.int, 12), .inl (.int, 12), .inl (.int, 4), .inl (.int, 6), .inl (.int, 6), .inr (.inr (.inr (6, [some (some 48), none]))), .inl (.byte, 40), .inr (.inr (.inr (6, [some (some 50), none]))), .inl (.byte, 40), .inr (.inr (.inr (5, [some (some 52), some (some 57), some (some 58)]))), .inr (.inr (.inl (.array .long, [some 53, some 54, some 55, some 56]))), .inr (.inl 40), .inr (.inl 40), .inr (.inl 40), .inr (.inl 40), .inl (.int, 4), .inl (.int, 4), .inr (.inr (.inr (10, [some (some 60), none, none, none, none, none]))), .inl (.int, 40), .inr (.inr (.inr (1, [some (some 25), none, some (some 62), some (some 63), some (some 64), none, some (some 65), some (some 66), none, none]))), .inl (.byte, 720), .inl (.int, 305), .inr (.inl 915), .inl (.int, 60), .inl (.int, 60), .inr (.inr (.inr (1, [some (some 25), none, some (some 68), some (some 69), some (some 70), none, some (some 71), some (some 72), none, none]))), .inl (.byte, 720), .inl (.int, 305), .inr (.inl 915), .inl (.int, 60), .inl (.int, 60), .inr (.inr (.inr (4, [some none, some none, some none, none, none]))), .inr (.inr (.inr (6, [some (some 75), none]))), .inl (.byte, 40)]
def mg_27 : aM := (aNew mg_26 75)
set_option maxHeartbeats 8000000 in
set_option maxRecDepth 20000 in
/-- Sounds.<init> -/
theorem ct_15 {l : Launch} {D : va_G} {cA : FieldType → ClassId} {ad adV : Nat → Nat} {z0 : Nat} : aMet l D cA ad adV z0 mX6_init 1 20 1 40 [.inr (.inr (.inl (some 74)))] sg_20 mg_26 none sg_21 mg_27 := by
  refine aMet_of (by decide +kernel) rfl (Nat.le_of_ble_eq_true rfl) (fun p e s m args below meth c al K => ?_)
  refine aw_aload_n (i := 0) K (dOf ck_mX6_init rfl rfl) rfl ?_
  refine aw_objInit (i := 1) K (dOf ck_mX6_init rfl rfl) ⟨wd_293, wd_167, wd_168⟩ (Nat.le_of_ble_eq_true rfl) ⟨Nat.le_of_ble_eq_true rfl, Nat.le_of_ble_eq_true rfl⟩ ?_
  refine aw_aload_n (i := 2) K (dOf ck_mX6_init rfl rfl) rfl ?_
  refine aw_bip (i := 3) K (dOf ck_mX6_init rfl rfl) (v := 40) rfl ?_
  refine aw_newaN (i := 4) (n := 40) (ty := .byte) K (dOf ck_mX6_init rfl rfl) rfl (by decide) wd_272 (Nat.le_of_ble_eq_true rfl) (Nat.le_of_ble_eq_true rfl) (Nat.le_of_ble_eq_true rfl) 75 rfl (fun q75 => ?_)
  refine aw_putr (i := 5) (k := 0) K (dOf ck_mX6_init rfl rfl) rfl rfl (Nat.le_of_ble_eq_true rfl) wd_294 rfl rfl rfl rfl (fitR (by decide +kernel)) ?_
  refine aw_nm (sh' := sg_21) (mm' := mg_27) rfl rfl ?_
  exact aw_vretA K (by decide +kernel) rfl (Nat.le_of_ble_eq_true rfl) (Nat.le_of_ble_eq_true rfl) (by repeat (first | exact ⟨[], (List.append_nil _).symm⟩ | exact ⟨_, rfl⟩ | apply pre_app))
def sg_22 : List aE := [.inr (.inr (.inr (11, [some (some 1), some (some 25), some (some 47), some (some 49), some (some 51), some (some 59), some (some 61), some (some 67), some none, some none, some none, some none, some none, some none, some none]))), .inr (.inr (.inr (7, [some (some 2), none, none, some (some 3), none, none, none, none, none]))), .inl (.byte, 500), .inr (.inr (.inr (8, [none, none, none, none, none, none, some (some 4), some (some 5), some (some 6), some (some 19), some (some 20), some (some 21), some (some 22), some (some 23), some (some 24)]))), .inl (.byte, 8), .inl (.int, 8), .inr (.inr (.inl (.array .byte, [some 7, some 8, some 9, some 10, some 11, some 12, some 13, some 14, some 15, some 16, some 17, some 18]))), .inl (.byte, 6), .inl (.byte, 6), .inl (.byte, 6), .inl (.byte, 6), .inl (.byte, 6), .inl (.byte, 6), .inl (.byte, 6), .inl (.byte, 6), .inl (.byte, 6), .inl (.byte, 6), .inl (.byte, 6), .inl (.byte, 6), .inl (.int, 12), .inl (.int, 12), .inl (.int, 12), .inl (.int, 4), .inl (.int, 6), .inl (.int, 6), .inr (.inr (.inr (8, [none, none, none, none, none, none, some (some 26), some (some 27), some (some 28), some (some 41), some (some 42), some (some 43), some (some 44), some (some 45), some (some 46)]))), .inl (.byte, 8), .inl (.int, 8), .inr (.inr (.inl (.array .byte, [some 29, some 30, some 31, some 32, some 33, some 34, some 35, some 36, some 37, some 38, some 39, some 40]))), .inl (.byte, 6), .inl (.byte, 6), .inl (.byte, 6), .inl (.byte, 6), .inl (.byte, 6), .inl (.byte, 6), .inl (.byte, 6), .inl (.byte, 6), .inl (.byte, 6), .inl (.byte, 6), .inl (.byte, 6), .inl (.byte, 6), .inl (.int, 12), .inl (.int, 12), .inl (.int, 12), .inl (.int, 4), .inl (.int, 6), .inl (.int, 6), .inr (.inr (.inr (6, [some (some 48), none]))), .inl (.byte, 40), .inr (.inr (.inr (6, [some (some 50), none]))), .inl (.byte, 40), .inr (.inr (.inr (5, [some (some 52), some (some 57), some (some 58)]))), .inr (.inr (.inl (.array .long, [some 53, some 54, some 55, some 56]))), .inr (.inl 40), .inr (.inl 40), .inr (.inl 40), .inr (.inl 40), .inl (.int, 4), .inl (.int, 4), .inr (.inr (.inr (10, [some (some 60), none, none, none, none, none]))), .inl (.int, 40), .inr (.inr (.inr (1, [some (some 25), none, some (some 62), some (some 63), some (some 64), none, some (some 65), some (some 66), none, none]))), .inl (.byte, 720), .inl (.int, 305), .inr (.inl 915), .inl (.int, 60), .inl (.int, 60), .inr (.inr (.inr (1, [some (some 25), none, some (some 68), some (some 69), some (some 70), none, some (some 71), some (some 72), none, none]))), .inl (.byte, 720), .inl (.int, 305), .inr (.inl 915), .inl (.int, 60), .inl (.int, 60), .inr (.inr (.inr (4, [some (some 25), some (some 67), some (some 74), none, none]))), .inr (.inr (.inr (6, [some (some 75), none]))), .inl (.byte, 40)]
set_option maxHeartbeats 8000000 in
set_option maxRecDepth 20000 in
/-- Noise.<init> -/
theorem ct_16 {l : Launch} {D : va_G} {cA : FieldType → ClassId} {ad adV : Nat → Nat} {z0 : Nat} : aMet l D cA ad adV z0 mX4_init 2 40 2 42 [.inr (.inr (.inl (some 73))), .inr (.inr (.inl (some 25))), .inr (.inr (.inl (some 67)))] sg_19 mg_25 none sg_22 mg_27 := by
  refine aMet_of (by decide +kernel) rfl (Nat.le_of_ble_eq_true rfl) (fun p e s m args below meth c al K => ?_)
  refine aw_aload_n (i := 0) K (dOf ck_mX4_init rfl rfl) rfl ?_
  refine aw_objInit (i := 1) K (dOf ck_mX4_init rfl rfl) ⟨wd_362, wd_167, wd_168⟩ (Nat.le_of_ble_eq_true rfl) ⟨Nat.le_of_ble_eq_true rfl, Nat.le_of_ble_eq_true rfl⟩ ?_
  refine aw_aload_n (i := 2) K (dOf ck_mX4_init rfl rfl) rfl ?_
  refine aw_newN (i := 3) (ci := 6) K (dOf ck_mX4_init rfl rfl) rfl wd_363 wd_290 wd_142 zt_6 (Nat.le_of_ble_eq_true rfl) (Nat.le_of_ble_eq_true rfl) 74 rfl (fun q74 => ?_)
  refine aw_dup (i := 4) K rfl (dOf ck_mX4_init rfl rfl) ?_
  refine aw_nm (sh' := sg_20) (mm' := mg_26) rfl rfl ?_
  refine aw_callIN (i := 5) (as := []) (q := 74) K (dOf ck_mX4_init rfl rfl) wd_292 (List.mem_append_right _ (List.mem_append_right _ (List.mem_append_left _ (List.mem_of_getElem? (i := 89) rfl)))) wd_142 (by decide +kernel) rfl rfl wd_291 rfl (Nat.le_of_ble_eq_true rfl) ⟨Nat.le_of_ble_eq_true rfl, Nat.le_of_ble_eq_true rfl⟩ ⟨Nat.le_of_ble_eq_true rfl, Nat.le_of_ble_eq_true rfl⟩ (Nat.le_of_ble_eq_true rfl) ct_15 (fun bl16 => ?_)
  refine aw_putr (i := 6) (k := 2) K (dOf ck_mX4_init rfl rfl) rfl rfl (Nat.le_of_ble_eq_true rfl) wd_366 rfl rfl rfl rfl (fitR (by decide +kernel)) ?_
  refine aw_aload_n (i := 7) K (dOf ck_mX4_init rfl rfl) rfl ?_
  refine aw_aload_n (i := 8) K (dOf ck_mX4_init rfl rfl) rfl ?_
  refine aw_putr (i := 9) (k := 0) K (dOf ck_mX4_init rfl rfl) rfl rfl (Nat.le_of_ble_eq_true rfl) wd_364 rfl rfl rfl rfl (fitR (by decide +kernel)) ?_
  refine aw_aload_n (i := 10) K (dOf ck_mX4_init rfl rfl) rfl ?_
  refine aw_aload_n (i := 11) K (dOf ck_mX4_init rfl rfl) rfl ?_
  refine aw_putr (i := 12) (k := 1) K (dOf ck_mX4_init rfl rfl) rfl rfl (Nat.le_of_ble_eq_true rfl) wd_365 rfl rfl rfl rfl (fitR (by decide +kernel)) ?_
  refine aw_nm (sh' := sg_22) (mm' := mg_27) rfl rfl ?_
  exact aw_vretA K (by decide +kernel) rfl (Nat.le_of_ble_eq_true rfl) (Nat.le_of_ble_eq_true rfl) (by repeat (first | exact ⟨[], (List.append_nil _).symm⟩ | exact ⟨_, rfl⟩ | apply pre_app))
def sg_23 : List aE := [.inr (.inr (.inr (11, [some (some 1), some (some 25), some (some 47), some (some 49), some (some 51), some (some 59), some (some 61), some (some 67), some (some 73), some none, some none, some none, some none, some none, some none]))), .inr (.inr (.inr (7, [some (some 2), none, none, some (some 3), none, none, none, none, none]))), .inl (.byte, 500), .inr (.inr (.inr (8, [none, none, none, none, none, none, some (some 4), some (some 5), some (some 6), some (some 19), some (some 20), some (some 21), some (some 22), some (some 23), some (some 24)]))), .inl (.byte, 8), .inl (.int, 8), .inr (.inr (.inl (.array .byte, [some 7, some 8, some 9, some 10, some 11, some 12, some 13, some 14, some 15, some 16, some 17, some 18]))), .inl (.byte, 6), .inl (.byte, 6), .inl (.byte, 6), .inl (.byte, 6), .inl (.byte, 6), .inl (.byte, 6), .inl (.byte, 6), .inl (.byte, 6), .inl (.byte, 6), .inl (.byte, 6), .inl (.byte, 6), .inl (.byte, 6), .inl (.int, 12), .inl (.int, 12), .inl (.int, 12), .inl (.int, 4), .inl (.int, 6), .inl (.int, 6), .inr (.inr (.inr (8, [none, none, none, none, none, none, some (some 26), some (some 27), some (some 28), some (some 41), some (some 42), some (some 43), some (some 44), some (some 45), some (some 46)]))), .inl (.byte, 8), .inl (.int, 8), .inr (.inr (.inl (.array .byte, [some 29, some 30, some 31, some 32, some 33, some 34, some 35, some 36, some 37, some 38, some 39, some 40]))), .inl (.byte, 6), .inl (.byte, 6), .inl (.byte, 6), .inl (.byte, 6), .inl (.byte, 6), .inl (.byte, 6), .inl (.byte, 6), .inl (.byte, 6), .inl (.byte, 6), .inl (.byte, 6), .inl (.byte, 6), .inl (.byte, 6), .inl (.int, 12), .inl (.int, 12), .inl (.int, 12), .inl (.int, 4), .inl (.int, 6), .inl (.int, 6), .inr (.inr (.inr (6, [some (some 48), none]))), .inl (.byte, 40), .inr (.inr (.inr (6, [some (some 50), none]))), .inl (.byte, 40), .inr (.inr (.inr (5, [some (some 52), some (some 57), some (some 58)]))), .inr (.inr (.inl (.array .long, [some 53, some 54, some 55, some 56]))), .inr (.inl 40), .inr (.inl 40), .inr (.inl 40), .inr (.inl 40), .inl (.int, 4), .inl (.int, 4), .inr (.inr (.inr (10, [some (some 60), none, none, none, none, none]))), .inl (.int, 40), .inr (.inr (.inr (1, [some (some 25), none, some (some 62), some (some 63), some (some 64), none, some (some 65), some (some 66), none, none]))), .inl (.byte, 720), .inl (.int, 305), .inr (.inl 915), .inl (.int, 60), .inl (.int, 60), .inr (.inr (.inr (1, [some (some 25), none, some (some 68), some (some 69), some (some 70), none, some (some 71), some (some 72), none, none]))), .inl (.byte, 720), .inl (.int, 305), .inr (.inl 915), .inl (.int, 60), .inl (.int, 60), .inr (.inr (.inr (4, [some (some 25), some (some 67), some (some 74), none, none]))), .inr (.inr (.inr (6, [some (some 75), none]))), .inl (.byte, 40), .inr (.inr (.inr (2, [some none, some none])))]
def mg_28 : aM := (aNew mg_27 76)
def sg_24 : List aE := [.inr (.inr (.inr (11, [some (some 1), some (some 25), some (some 47), some (some 49), some (some 51), some (some 59), some (some 61), some (some 67), some (some 73), some none, some none, some none, some none, some none, some none]))), .inr (.inr (.inr (7, [some (some 2), none, none, some (some 3), none, none, none, none, none]))), .inl (.byte, 500), .inr (.inr (.inr (8, [none, none, none, none, none, none, some (some 4), some (some 5), some (some 6), some (some 19), some (some 20), some (some 21), some (some 22), some (some 23), some (some 24)]))), .inl (.byte, 8), .inl (.int, 8), .inr (.inr (.inl (.array .byte, [some 7, some 8, some 9, some 10, some 11, some 12, some 13, some 14, some 15, some 16, some 17, some 18]))), .inl (.byte, 6), .inl (.byte, 6), .inl (.byte, 6), .inl (.byte, 6), .inl (.byte, 6), .inl (.byte, 6), .inl (.byte, 6), .inl (.byte, 6), .inl (.byte, 6), .inl (.byte, 6), .inl (.byte, 6), .inl (.byte, 6), .inl (.int, 12), .inl (.int, 12), .inl (.int, 12), .inl (.int, 4), .inl (.int, 6), .inl (.int, 6), .inr (.inr (.inr (8, [none, none, none, none, none, none, some (some 26), some (some 27), some (some 28), some (some 41), some (some 42), some (some 43), some (some 44), some (some 45), some (some 46)]))), .inl (.byte, 8), .inl (.int, 8), .inr (.inr (.inl (.array .byte, [some 29, some 30, some 31, some 32, some 33, some 34, some 35, some 36, some 37, some 38, some 39, some 40]))), .inl (.byte, 6), .inl (.byte, 6), .inl (.byte, 6), .inl (.byte, 6), .inl (.byte, 6), .inl (.byte, 6), .inl (.byte, 6), .inl (.byte, 6), .inl (.byte, 6), .inl (.byte, 6), .inl (.byte, 6), .inl (.byte, 6), .inl (.int, 12), .inl (.int, 12), .inl (.int, 12), .inl (.int, 4), .inl (.int, 6), .inl (.int, 6), .inr (.inr (.inr (6, [some (some 48), none]))), .inl (.byte, 40), .inr (.inr (.inr (6, [some (some 50), none]))), .inl (.byte, 40), .inr (.inr (.inr (5, [some (some 52), some (some 57), some (some 58)]))), .inr (.inr (.inl (.array .long, [some 53, some 54, some 55, some 56]))), .inr (.inl 40), .inr (.inl 40), .inr (.inl 40), .inr (.inl 40), .inl (.int, 4), .inl (.int, 4), .inr (.inr (.inr (10, [some (some 60), none, none, none, none, none]))), .inl (.int, 40), .inr (.inr (.inr (1, [some (some 25), none, some (some 62), some (some 63), some (some 64), none, some (some 65), some (some 66), none, none]))), .inl (.byte, 720), .inl (.int, 305), .inr (.inl 915), .inl (.int, 60), .inl (.int, 60), .inr (.inr (.inr (1, [some (some 25), none, some (some 68), some (some 69), some (some 70), none, some (some 71), some (some 72), none, none]))), .inl (.byte, 720), .inl (.int, 305), .inr (.inl 915), .inl (.int, 60), .inl (.int, 60), .inr (.inr (.inr (4, [some (some 25), some (some 67), some (some 74), none, none]))), .inr (.inr (.inr (6, [some (some 75), none]))), .inl (.byte, 40), .inr (.inr (.inr (2, [some (some 77), some (some 78)]))), .inl (.int, 6), .inl (.int, 7)]
def mg_29 : aM := (aNew (aNew mg_28 77) 78)
set_option maxHeartbeats 8000000 in
set_option maxRecDepth 20000 in
/-- Measure.<init> -/
theorem ct_17 {l : Launch} {D : va_G} {cA : FieldType → ClassId} {ad adV : Nat → Nat} {z0 : Nat} : aMet l D cA ad adV z0 mX2_init 1 20 2 13 [.inr (.inr (.inl (some 76)))] sg_23 mg_28 none sg_24 mg_29 := by
  refine aMet_of (by decide +kernel) rfl (Nat.le_of_ble_eq_true rfl) (fun p e s m args below meth c al K => ?_)
  refine aw_aload_n (i := 0) K (dOf ck_mX2_init rfl rfl) rfl ?_
  refine aw_objInit (i := 1) K (dOf ck_mX2_init rfl rfl) ⟨wd_376, wd_167, wd_168⟩ (Nat.le_of_ble_eq_true rfl) ⟨Nat.le_of_ble_eq_true rfl, Nat.le_of_ble_eq_true rfl⟩ ?_
  refine aw_aload_n (i := 2) K (dOf ck_mX2_init rfl rfl) rfl ?_
  refine aw_bip (i := 3) K (dOf ck_mX2_init rfl rfl) (v := 6) rfl ?_
  refine aw_newaN (i := 4) (n := 6) (ty := .int) K (dOf ck_mX2_init rfl rfl) rfl (by decide) wd_273 (Nat.le_of_ble_eq_true rfl) (Nat.le_of_ble_eq_true rfl) (Nat.le_of_ble_eq_true rfl) 77 rfl (fun q77 => ?_)
  refine aw_putr (i := 5) (k := 0) K (dOf ck_mX2_init rfl rfl) rfl rfl (Nat.le_of_ble_eq_true rfl) wd_377 rfl rfl rfl rfl (fitR (by decide +kernel)) ?_
  refine aw_aload_n (i := 6) K (dOf ck_mX2_init rfl rfl) rfl ?_
  refine aw_bip (i := 7) K (dOf ck_mX2_init rfl rfl) (v := 7) rfl ?_
  refine aw_newaN (i := 8) (n := 7) (ty := .int) K (dOf ck_mX2_init rfl rfl) rfl (by decide) wd_273 (Nat.le_of_ble_eq_true rfl) (Nat.le_of_ble_eq_true rfl) (Nat.le_of_ble_eq_true rfl) 78 rfl (fun q78 => ?_)
  refine aw_putr (i := 9) (k := 1) K (dOf ck_mX2_init rfl rfl) rfl rfl (Nat.le_of_ble_eq_true rfl) wd_378 rfl rfl rfl rfl (fitR (by decide +kernel)) ?_
  refine aw_nm (sh' := sg_24) (mm' := mg_29) rfl rfl ?_
  exact aw_vretA K (by decide +kernel) rfl (Nat.le_of_ble_eq_true rfl) (Nat.le_of_ble_eq_true rfl) (by repeat (first | exact ⟨[], (List.append_nil _).symm⟩ | exact ⟨_, rfl⟩ | apply pre_app))
def sg_25 : List aE := [.inr (.inr (.inr (11, [some (some 1), some (some 25), some (some 47), some (some 49), some (some 51), some (some 59), some (some 61), some (some 67), some (some 73), some (some 76), some none, some none, some none, some none, some none]))), .inr (.inr (.inr (7, [some (some 2), none, none, some (some 3), none, none, none, none, none]))), .inl (.byte, 500), .inr (.inr (.inr (8, [none, none, none, none, none, none, some (some 4), some (some 5), some (some 6), some (some 19), some (some 20), some (some 21), some (some 22), some (some 23), some (some 24)]))), .inl (.byte, 8), .inl (.int, 8), .inr (.inr (.inl (.array .byte, [some 7, some 8, some 9, some 10, some 11, some 12, some 13, some 14, some 15, some 16, some 17, some 18]))), .inl (.byte, 6), .inl (.byte, 6), .inl (.byte, 6), .inl (.byte, 6), .inl (.byte, 6), .inl (.byte, 6), .inl (.byte, 6), .inl (.byte, 6), .inl (.byte, 6), .inl (.byte, 6), .inl (.byte, 6), .inl (.byte, 6), .inl (.int, 12), .inl (.int, 12), .inl (.int, 12), .inl (.int, 4), .inl (.int, 6), .inl (.int, 6), .inr (.inr (.inr (8, [none, none, none, none, none, none, some (some 26), some (some 27), some (some 28), some (some 41), some (some 42), some (some 43), some (some 44), some (some 45), some (some 46)]))), .inl (.byte, 8), .inl (.int, 8), .inr (.inr (.inl (.array .byte, [some 29, some 30, some 31, some 32, some 33, some 34, some 35, some 36, some 37, some 38, some 39, some 40]))), .inl (.byte, 6), .inl (.byte, 6), .inl (.byte, 6), .inl (.byte, 6), .inl (.byte, 6), .inl (.byte, 6), .inl (.byte, 6), .inl (.byte, 6), .inl (.byte, 6), .inl (.byte, 6), .inl (.byte, 6), .inl (.byte, 6), .inl (.int, 12), .inl (.int, 12), .inl (.int, 12), .inl (.int, 4), .inl (.int, 6), .inl (.int, 6), .inr (.inr (.inr (6, [some (some 48), none]))), .inl (.byte, 40), .inr (.inr (.inr (6, [some (some 50), none]))), .inl (.byte, 40), .inr (.inr (.inr (5, [some (some 52), some (some 57), some (some 58)]))), .inr (.inr (.inl (.array .long, [some 53, some 54, some 55, some 56]))), .inr (.inl 40), .inr (.inl 40), .inr (.inl 40), .inr (.inl 40), .inl (.int, 4), .inl (.int, 4), .inr (.inr (.inr (10, [some (some 60), none, none, none, none, none]))), .inl (.int, 40), .inr (.inr (.inr (1, [some (some 25), none, some (some 62), some (some 63), some (some 64), none, some (some 65), some (some 66), none, none]))), .inl (.byte, 720), .inl (.int, 305), .inr (.inl 915), .inl (.int, 60), .inl (.int, 60), .inr (.inr (.inr (1, [some (some 25), none, some (some 68), some (some 69), some (some 70), none, some (some 71), some (some 72), none, none]))), .inl (.byte, 720), .inl (.int, 305), .inr (.inl 915), .inl (.int, 60), .inl (.int, 60), .inr (.inr (.inr (4, [some (some 25), some (some 67), some (some 74), none, none]))), .inr (.inr (.inr (6, [some (some 75), none]))), .inl (.byte, 40), .inr (.inr (.inr (2, [some (some 77), some (some 78)]))), .inl (.int, 6), .inl (.int, 7), .inr (.inr (.inr (3, [some none, some none, some none, some none, some none, some none, none, some none, some none, some none, none, none, none, none, none, none])))]
def mg_30 : aM := (aNew mg_29 79)
def sg_26 : List aE := [.inr (.inr (.inr (11, [some (some 1), some (some 25), some (some 47), some (some 49), some (some 51), some (some 59), some (some 61), some (some 67), some (some 73), some (some 76), some none, some none, some none, some none, some none]))), .inr (.inr (.inr (7, [some (some 2), none, none, some (some 3), none, none, none, none, none]))), .inl (.byte, 500), .inr (.inr (.inr (8, [none, none, none, none, none, none, some (some 4), some (some 5), some (some 6), some (some 19), some (some 20), some (some 21), some (some 22), some (some 23), some (some 24)]))), .inl (.byte, 8), .inl (.int, 8), .inr (.inr (.inl (.array .byte, [some 7, some 8, some 9, some 10, some 11, some 12, some 13, some 14, some 15, some 16, some 17, some 18]))), .inl (.byte, 6), .inl (.byte, 6), .inl (.byte, 6), .inl (.byte, 6), .inl (.byte, 6), .inl (.byte, 6), .inl (.byte, 6), .inl (.byte, 6), .inl (.byte, 6), .inl (.byte, 6), .inl (.byte, 6), .inl (.byte, 6), .inl (.int, 12), .inl (.int, 12), .inl (.int, 12), .inl (.int, 4), .inl (.int, 6), .inl (.int, 6), .inr (.inr (.inr (8, [none, none, none, none, none, none, some (some 26), some (some 27), some (some 28), some (some 41), some (some 42), some (some 43), some (some 44), some (some 45), some (some 46)]))), .inl (.byte, 8), .inl (.int, 8), .inr (.inr (.inl (.array .byte, [some 29, some 30, some 31, some 32, some 33, some 34, some 35, some 36, some 37, some 38, some 39, some 40]))), .inl (.byte, 6), .inl (.byte, 6), .inl (.byte, 6), .inl (.byte, 6), .inl (.byte, 6), .inl (.byte, 6), .inl (.byte, 6), .inl (.byte, 6), .inl (.byte, 6), .inl (.byte, 6), .inl (.byte, 6), .inl (.byte, 6), .inl (.int, 12), .inl (.int, 12), .inl (.int, 12), .inl (.int, 4), .inl (.int, 6), .inl (.int, 6), .inr (.inr (.inr (6, [some (some 48), none]))), .inl (.byte, 40), .inr (.inr (.inr (6, [some (some 50), none]))), .inl (.byte, 40), .inr (.inr (.inr (5, [some (some 52), some (some 57), some (some 58)]))), .inr (.inr (.inl (.array .long, [some 53, some 54, some 55, some 56]))), .inr (.inl 40), .inr (.inl 40), .inr (.inl 40), .inr (.inl 40), .inl (.int, 4), .inl (.int, 4), .inr (.inr (.inr (10, [some (some 60), none, none, none, none, none]))), .inl (.int, 40), .inr (.inr (.inr (1, [some (some 25), none, some (some 62), some (some 63), some (some 64), none, some (some 65), some (some 66), none, none]))), .inl (.byte, 720), .inl (.int, 305), .inr (.inl 915), .inl (.int, 60), .inl (.int, 60), .inr (.inr (.inr (1, [some (some 25), none, some (some 68), some (some 69), some (some 70), none, some (some 71), some (some 72), none, none]))), .inl (.byte, 720), .inl (.int, 305), .inr (.inl 915), .inl (.int, 60), .inl (.int, 60), .inr (.inr (.inr (4, [some (some 25), some (some 67), some (some 74), none, none]))), .inr (.inr (.inr (6, [some (some 75), none]))), .inl (.byte, 40), .inr (.inr (.inr (2, [some (some 77), some (some 78)]))), .inl (.int, 6), .inl (.int, 7), .inr (.inr (.inr (3, [some none, some none, some none, some none, some none, some none, none, some none, some none, some none, none, none, none, none, none, none]))), .inr (.inr (.inr (9, [none, none, none, some none, some none, some none, some none, some none, some none, none, none, none, none, none, some none, some none, none, some none, some none, some none])))]
def mg_31 : aM := (aNew mg_30 80)
def sg_27 : List aE := [.inr (.inr (.inr (11, [some (some 1), some (some 25), some (some 47), some (some 49), some (some 51), some (some 59), some (some 61), some (some 67), some (some 73), some (some 76), some none, some none, some none, some none, some none]))), .inr (.inr (.inr (7, [some (some 2), none, none, some (some 3), none, none, none, none, none]))), .inl (.byte, 500), .inr (.inr (.inr (8, [none, none, none, none, none, none, some (some 4), some (some 5), some (some 6), some (some 19), some (some 20), some (some 21), some (some 22), some (some 23), some (some 24)]))), .inl (.byte, 8), .inl (.int, 8), .inr (.inr (.inl (.array .byte, [some 7, some 8, some 9, some 10, some 11, some 12, some 13, some 14, some 15, some 16, some 17, some 18]))), .inl (.byte, 6), .inl (.byte, 6), .inl (.byte, 6), .inl (.byte, 6), .inl (.byte, 6), .inl (.byte, 6), .inl (.byte, 6), .inl (.byte, 6), .inl (.byte, 6), .inl (.byte, 6), .inl (.byte, 6), .inl (.byte, 6), .inl (.int, 12), .inl (.int, 12), .inl (.int, 12), .inl (.int, 4), .inl (.int, 6), .inl (.int, 6), .inr (.inr (.inr (8, [none, none, none, none, none, none, some (some 26), some (some 27), some (some 28), some (some 41), some (some 42), some (some 43), some (some 44), some (some 45), some (some 46)]))), .inl (.byte, 8), .inl (.int, 8), .inr (.inr (.inl (.array .byte, [some 29, some 30, some 31, some 32, some 33, some 34, some 35, some 36, some 37, some 38, some 39, some 40]))), .inl (.byte, 6), .inl (.byte, 6), .inl (.byte, 6), .inl (.byte, 6), .inl (.byte, 6), .inl (.byte, 6), .inl (.byte, 6), .inl (.byte, 6), .inl (.byte, 6), .inl (.byte, 6), .inl (.byte, 6), .inl (.byte, 6), .inl (.int, 12), .inl (.int, 12), .inl (.int, 12), .inl (.int, 4), .inl (.int, 6), .inl (.int, 6), .inr (.inr (.inr (6, [some (some 48), none]))), .inl (.byte, 40), .inr (.inr (.inr (6, [some (some 50), none]))), .inl (.byte, 40), .inr (.inr (.inr (5, [some (some 52), some (some 57), some (some 58)]))), .inr (.inr (.inl (.array .long, [some 53, some 54, some 55, some 56]))), .inr (.inl 40), .inr (.inl 40), .inr (.inl 40), .inr (.inl 40), .inl (.int, 4), .inl (.int, 4), .inr (.inr (.inr (10, [some (some 60), none, none, none, none, none]))), .inl (.int, 40), .inr (.inr (.inr (1, [some (some 25), none, some (some 62), some (some 63), some (some 64), none, some (some 65), some (some 66), none, none]))), .inl (.byte, 720), .inl (.int, 305), .inr (.inl 915), .inl (.int, 60), .inl (.int, 60), .inr (.inr (.inr (1, [some (some 25), none, some (some 68), some (some 69), some (some 70), none, some (some 71), some (some 72), none, none]))), .inl (.byte, 720), .inl (.int, 305), .inr (.inl 915), .inl (.int, 60), .inl (.int, 60), .inr (.inr (.inr (4, [some (some 25), some (some 67), some (some 74), none, none]))), .inr (.inr (.inr (6, [some (some 75), none]))), .inl (.byte, 40), .inr (.inr (.inr (2, [some (some 77), some (some 78)]))), .inl (.int, 6), .inl (.int, 7), .inr (.inr (.inr (3, [some none, some none, some none, some none, some none, some none, none, some none, some none, some none, none, none, none, none, none, none]))), .inr (.inr (.inr (9, [none, none, none, some (some 81), some (some 95), some (some 96), some (some 97), some (some 98), some (some 99), none, none, none, none, none, some (some 100), some (some 101), none, some (some 102), some (some 103), some (some 104)]))), .inr (.inr (.inl (.array .byte, [some 82, some 83, some 84, some 85, some 86, some 87, some 88, some 89, some 90, some 91, some 92, some 93, some 94]))), .inl (.byte, 7), .inl (.byte, 7), .inl (.byte, 7), .inl (.byte, 7), .inl (.byte, 7), .inl (.byte, 7), .inl (.byte, 7), .inl (.byte, 7), .inl (.byte, 7), .inl (.byte, 7), .inl (.byte, 7), .inl (.byte, 7), .inl (.byte, 7), .inl (.int, 13), .inl (.int, 13), .inl (.int, 4), .inl (.int, 9), .inl (.int, 4), .inr (.inl 536), .inr (.inl 67), .inl (.short, 471), .inl (.short, 471), .inl (.byte, 471)]
def mg_32 : aM := (aNew (aNew (aNew (aNew (aNew (aup (aNew (aNew (aNew (aNew (aNew (aNewR mg_31 81 14) 95) 96) 97) 98) 99) 80 10 1) 100) 101) 102) 103) 104)
set_option maxHeartbeats 8000000 in
set_option maxRecDepth 20000 in
/-- Twins.<init> -/
theorem ct_18 {l : Launch} {D : va_G} {cA : FieldType → ClassId} {ad adV : Nat → Nat} {z0 : Nat} : aMet l D cA ad adV z0 mX9_init 1 20 24 2163 [.inr (.inr (.inl (some 80)))] sg_26 mg_31 none sg_27 mg_32 := by
  refine aMet_of (by decide +kernel) rfl (Nat.le_of_ble_eq_true rfl) (fun p e s m args below meth c al K => ?_)
  refine aw_aload_n (i := 0) K (dOf ck_mX9_init rfl rfl) rfl ?_
  refine aw_objInit (i := 1) K (dOf ck_mX9_init rfl rfl) ⟨wd_389, wd_167, wd_168⟩ (Nat.le_of_ble_eq_true rfl) ⟨Nat.le_of_ble_eq_true rfl, Nat.le_of_ble_eq_true rfl⟩ ?_
  refine aw_aload_n (i := 2) K (dOf ck_mX9_init rfl rfl) rfl ?_
  refine aw_bip (i := 3) K (dOf ck_mX9_init rfl rfl) (v := 13) rfl ?_
  refine aw_bip (i := 4) K (dOf ck_mX9_init rfl rfl) (v := 7) rfl ?_
  refine aw_mnaN (i := 5) (n := 13) (k := 7) (ty := .byte) K (dOf ck_mX9_init rfl rfl) wd_390 (Or.inl ⟨rfl, rfl⟩) wd_272 (Nat.le_of_ble_eq_true rfl) (Nat.le_of_ble_eq_true rfl) (Nat.le_of_ble_eq_true rfl) (Nat.le_of_ble_eq_true rfl) 81 rfl (fun bl81 => ?_)
  refine aw_putr (i := 6) (k := 3) K (dOf ck_mX9_init rfl rfl) rfl rfl (Nat.le_of_ble_eq_true rfl) wd_394 rfl rfl rfl rfl (fitR (by decide +kernel)) ?_
  refine aw_aload_n (i := 7) K (dOf ck_mX9_init rfl rfl) rfl ?_
  refine aw_bip (i := 8) K (dOf ck_mX9_init rfl rfl) (v := 13) rfl ?_
  refine aw_newaN (i := 9) (n := 13) (ty := .int) K (dOf ck_mX9_init rfl rfl) rfl (by decide) wd_273 (Nat.le_of_ble_eq_true rfl) (Nat.le_of_ble_eq_true rfl) (Nat.le_of_ble_eq_true rfl) 95 rfl (fun q95 => ?_)
  refine aw_putr (i := 10) (k := 4) K (dOf ck_mX9_init rfl rfl) rfl rfl (Nat.le_of_ble_eq_true rfl) wd_395 rfl rfl rfl rfl (fitR (by decide +kernel)) ?_
  refine aw_aload_n (i := 11) K (dOf ck_mX9_init rfl rfl) rfl ?_
  refine aw_bip (i := 12) K (dOf ck_mX9_init rfl rfl) (v := 13) rfl ?_
  refine aw_newaN (i := 13) (n := 13) (ty := .int) K (dOf ck_mX9_init rfl rfl) rfl (by decide) wd_273 (Nat.le_of_ble_eq_true rfl) (Nat.le_of_ble_eq_true rfl) (Nat.le_of_ble_eq_true rfl) 96 rfl (fun q96 => ?_)
  refine aw_putr (i := 14) (k := 5) K (dOf ck_mX9_init rfl rfl) rfl rfl (Nat.le_of_ble_eq_true rfl) wd_396 rfl rfl rfl rfl (fitR (by decide +kernel)) ?_
  refine aw_aload_n (i := 15) K (dOf ck_mX9_init rfl rfl) rfl ?_
  refine aw_iconst (i := 16) K (n := 4) (i32 _ rfl) (dOf ck_mX9_init rfl rfl) ?_
  refine aw_newaN (i := 17) (n := 4) (ty := .int) K (dOf ck_mX9_init rfl rfl) rfl (by decide) wd_273 (Nat.le_of_ble_eq_true rfl) (Nat.le_of_ble_eq_true rfl) (Nat.le_of_ble_eq_true rfl) 97 rfl (fun q97 => ?_)
  refine aw_putr (i := 18) (k := 6) K (dOf ck_mX9_init rfl rfl) rfl rfl (Nat.le_of_ble_eq_true rfl) wd_397 rfl rfl rfl rfl (fitR (by decide +kernel)) ?_
  refine aw_aload_n (i := 19) K (dOf ck_mX9_init rfl rfl) rfl ?_
  refine aw_bip (i := 20) K (dOf ck_mX9_init rfl rfl) (v := 9) rfl ?_
  refine aw_newaN (i := 21) (n := 9) (ty := .int) K (dOf ck_mX9_init rfl rfl) rfl (by decide) wd_273 (Nat.le_of_ble_eq_true rfl) (Nat.le_of_ble_eq_true rfl) (Nat.le_of_ble_eq_true rfl) 98 rfl (fun q98 => ?_)
  refine aw_putr (i := 22) (k := 7) K (dOf ck_mX9_init rfl rfl) rfl rfl (Nat.le_of_ble_eq_true rfl) wd_398 rfl rfl rfl rfl (fitR (by decide +kernel)) ?_
  refine aw_aload_n (i := 23) K (dOf ck_mX9_init rfl rfl) rfl ?_
  refine aw_iconst (i := 24) K (n := 4) (i32 _ rfl) (dOf ck_mX9_init rfl rfl) ?_
  refine aw_newaN (i := 25) (n := 4) (ty := .int) K (dOf ck_mX9_init rfl rfl) rfl (by decide) wd_273 (Nat.le_of_ble_eq_true rfl) (Nat.le_of_ble_eq_true rfl) (Nat.le_of_ble_eq_true rfl) 99 rfl (fun q99 => ?_)
  refine aw_putr (i := 26) (k := 8) K (dOf ck_mX9_init rfl rfl) rfl rfl (Nat.le_of_ble_eq_true rfl) wd_399 rfl rfl rfl rfl (fitR (by decide +kernel)) ?_
  refine aw_aload_n (i := 27) K (dOf ck_mX9_init rfl rfl) rfl ?_
  refine aw_iconst (i := 28) K (n := 1) (i32 _ rfl) (dOf ck_mX9_init rfl rfl) ?_
  refine aw_putf (i := 29) (k := 10) K (dOf ck_mX9_init rfl rfl) rfl rfl (Nat.le_of_ble_eq_true rfl) wd_401 rfl rfl (Or.inl rfl) ?_
  refine aw_aload_n (i := 30) K (dOf ck_mX9_init rfl rfl) rfl ?_
  refine aw_sip (i := 31) K (dOf ck_mX9_init rfl rfl) (v := 536) rfl ?_
  refine aw_newlN (i := 32) (n := 536) K (dOf ck_mX9_init rfl rfl) wd_318 (Nat.le_of_ble_eq_true rfl) (Nat.le_of_ble_eq_true rfl) (Nat.le_of_ble_eq_true rfl) 100 rfl (fun q100 => ?_)
  refine aw_putr (i := 33) (k := 14) K (dOf ck_mX9_init rfl rfl) rfl rfl (Nat.le_of_ble_eq_true rfl) wd_405 rfl rfl rfl rfl (fitR (by decide +kernel)) ?_
  refine aw_aload_n (i := 34) K (dOf ck_mX9_init rfl rfl) rfl ?_
  refine aw_bip (i := 35) K (dOf ck_mX9_init rfl rfl) (v := 67) rfl ?_
  refine aw_newlN (i := 36) (n := 67) K (dOf ck_mX9_init rfl rfl) wd_318 (Nat.le_of_ble_eq_true rfl) (Nat.le_of_ble_eq_true rfl) (Nat.le_of_ble_eq_true rfl) 101 rfl (fun q101 => ?_)
  refine aw_putr (i := 37) (k := 15) K (dOf ck_mX9_init rfl rfl) rfl rfl (Nat.le_of_ble_eq_true rfl) wd_406 rfl rfl rfl rfl (fitR (by decide +kernel)) ?_
  refine aw_aload_n (i := 38) K (dOf ck_mX9_init rfl rfl) rfl ?_
  refine aw_sip (i := 39) K (dOf ck_mX9_init rfl rfl) (v := 471) rfl ?_
  refine aw_newaN (i := 40) (n := 471) (ty := .short) K (dOf ck_mX9_init rfl rfl) rfl (by decide) wd_411 (Nat.le_of_ble_eq_true rfl) (Nat.le_of_ble_eq_true rfl) (Nat.le_of_ble_eq_true rfl) 102 rfl (fun q102 => ?_)
  refine aw_putr (i := 41) (k := 17) K (dOf ck_mX9_init rfl rfl) rfl rfl (Nat.le_of_ble_eq_true rfl) wd_408 rfl rfl rfl rfl (fitR (by decide +kernel)) ?_
  refine aw_aload_n (i := 42) K (dOf ck_mX9_init rfl rfl) rfl ?_
  refine aw_sip (i := 43) K (dOf ck_mX9_init rfl rfl) (v := 471) rfl ?_
  refine aw_newaN (i := 44) (n := 471) (ty := .short) K (dOf ck_mX9_init rfl rfl) rfl (by decide) wd_411 (Nat.le_of_ble_eq_true rfl) (Nat.le_of_ble_eq_true rfl) (Nat.le_of_ble_eq_true rfl) 103 rfl (fun q103 => ?_)
  refine aw_putr (i := 45) (k := 18) K (dOf ck_mX9_init rfl rfl) rfl rfl (Nat.le_of_ble_eq_true rfl) wd_409 rfl rfl rfl rfl (fitR (by decide +kernel)) ?_
  refine aw_aload_n (i := 46) K (dOf ck_mX9_init rfl rfl) rfl ?_
  refine aw_sip (i := 47) K (dOf ck_mX9_init rfl rfl) (v := 471) rfl ?_
  refine aw_newaN (i := 48) (n := 471) (ty := .byte) K (dOf ck_mX9_init rfl rfl) rfl (by decide) wd_272 (Nat.le_of_ble_eq_true rfl) (Nat.le_of_ble_eq_true rfl) (Nat.le_of_ble_eq_true rfl) 104 rfl (fun q104 => ?_)
  refine aw_putr (i := 49) (k := 19) K (dOf ck_mX9_init rfl rfl) rfl rfl (Nat.le_of_ble_eq_true rfl) wd_410 rfl rfl rfl rfl (fitR (by decide +kernel)) ?_
  refine aw_nm (sh' := sg_27) (mm' := mg_32) rfl rfl ?_
  exact aw_vretA K (by decide +kernel) rfl (Nat.le_of_ble_eq_true rfl) (Nat.le_of_ble_eq_true rfl) (by repeat (first | exact ⟨[], (List.append_nil _).symm⟩ | exact ⟨_, rfl⟩ | apply pre_app))
def sg_28 : List aE := [.inr (.inr (.inr (11, [some (some 1), some (some 25), some (some 47), some (some 49), some (some 51), some (some 59), some (some 61), some (some 67), some (some 73), some (some 76), some none, some none, some none, some none, some none]))), .inr (.inr (.inr (7, [some (some 2), none, none, some (some 3), none, none, none, none, none]))), .inl (.byte, 500), .inr (.inr (.inr (8, [none, none, none, none, none, none, some (some 4), some (some 5), some (some 6), some (some 19), some (some 20), some (some 21), some (some 22), some (some 23), some (some 24)]))), .inl (.byte, 8), .inl (.int, 8), .inr (.inr (.inl (.array .byte, [some 7, some 8, some 9, some 10, some 11, some 12, some 13, some 14, some 15, some 16, some 17, some 18]))), .inl (.byte, 6), .inl (.byte, 6), .inl (.byte, 6), .inl (.byte, 6), .inl (.byte, 6), .inl (.byte, 6), .inl (.byte, 6), .inl (.byte, 6), .inl (.byte, 6), .inl (.byte, 6), .inl (.byte, 6), .inl (.byte, 6), .inl (.int, 12), .inl (.int, 12), .inl (.int, 12), .inl (.int, 4), .inl (.int, 6), .inl (.int, 6), .inr (.inr (.inr (8, [none, none, none, none, none, none, some (some 26), some (some 27), some (some 28), some (some 41), some (some 42), some (some 43), some (some 44), some (some 45), some (some 46)]))), .inl (.byte, 8), .inl (.int, 8), .inr (.inr (.inl (.array .byte, [some 29, some 30, some 31, some 32, some 33, some 34, some 35, some 36, some 37, some 38, some 39, some 40]))), .inl (.byte, 6), .inl (.byte, 6), .inl (.byte, 6), .inl (.byte, 6), .inl (.byte, 6), .inl (.byte, 6), .inl (.byte, 6), .inl (.byte, 6), .inl (.byte, 6), .inl (.byte, 6), .inl (.byte, 6), .inl (.byte, 6), .inl (.int, 12), .inl (.int, 12), .inl (.int, 12), .inl (.int, 4), .inl (.int, 6), .inl (.int, 6), .inr (.inr (.inr (6, [some (some 48), none]))), .inl (.byte, 40), .inr (.inr (.inr (6, [some (some 50), none]))), .inl (.byte, 40), .inr (.inr (.inr (5, [some (some 52), some (some 57), some (some 58)]))), .inr (.inr (.inl (.array .long, [some 53, some 54, some 55, some 56]))), .inr (.inl 40), .inr (.inl 40), .inr (.inl 40), .inr (.inl 40), .inl (.int, 4), .inl (.int, 4), .inr (.inr (.inr (10, [some (some 60), none, none, none, none, none]))), .inl (.int, 40), .inr (.inr (.inr (1, [some (some 25), none, some (some 62), some (some 63), some (some 64), none, some (some 65), some (some 66), none, none]))), .inl (.byte, 720), .inl (.int, 305), .inr (.inl 915), .inl (.int, 60), .inl (.int, 60), .inr (.inr (.inr (1, [some (some 25), none, some (some 68), some (some 69), some (some 70), none, some (some 71), some (some 72), none, none]))), .inl (.byte, 720), .inl (.int, 305), .inr (.inl 915), .inl (.int, 60), .inl (.int, 60), .inr (.inr (.inr (4, [some (some 25), some (some 67), some (some 74), none, none]))), .inr (.inr (.inr (6, [some (some 75), none]))), .inl (.byte, 40), .inr (.inr (.inr (2, [some (some 77), some (some 78)]))), .inl (.int, 6), .inl (.int, 7), .inr (.inr (.inr (3, [some none, some none, some (some 80), some none, some none, some none, none, some none, some none, some none, none, none, none, none, none, none]))), .inr (.inr (.inr (9, [none, none, none, some (some 81), some (some 95), some (some 96), some (some 97), some (some 98), some (some 99), none, none, none, none, none, some (some 100), some (some 101), none, some (some 102), some (some 103), some (some 104)]))), .inr (.inr (.inl (.array .byte, [some 82, some 83, some 84, some 85, some 86, some 87, some 88, some 89, some 90, some 91, some 92, some 93, some 94]))), .inl (.byte, 7), .inl (.byte, 7), .inl (.byte, 7), .inl (.byte, 7), .inl (.byte, 7), .inl (.byte, 7), .inl (.byte, 7), .inl (.byte, 7), .inl (.byte, 7), .inl (.byte, 7), .inl (.byte, 7), .inl (.byte, 7), .inl (.byte, 7), .inl (.int, 13), .inl (.int, 13), .inl (.int, 4), .inl (.int, 9), .inl (.int, 4), .inr (.inl 536), .inr (.inl 67), .inl (.short, 471), .inl (.short, 471), .inl (.byte, 471), .inr (.inr (.inr (6, [some none, none])))]
def mg_33 : aM := (aNew mg_32 105)
def sg_29 : List aE := [.inr (.inr (.inr (11, [some (some 1), some (some 25), some (some 47), some (some 49), some (some 51), some (some 59), some (some 61), some (some 67), some (some 73), some (some 76), some none, some none, some none, some none, some none]))), .inr (.inr (.inr (7, [some (some 2), none, none, some (some 3), none, none, none, none, none]))), .inl (.byte, 500), .inr (.inr (.inr (8, [none, none, none, none, none, none, some (some 4), some (some 5), some (some 6), some (some 19), some (some 20), some (some 21), some (some 22), some (some 23), some (some 24)]))), .inl (.byte, 8), .inl (.int, 8), .inr (.inr (.inl (.array .byte, [some 7, some 8, some 9, some 10, some 11, some 12, some 13, some 14, some 15, some 16, some 17, some 18]))), .inl (.byte, 6), .inl (.byte, 6), .inl (.byte, 6), .inl (.byte, 6), .inl (.byte, 6), .inl (.byte, 6), .inl (.byte, 6), .inl (.byte, 6), .inl (.byte, 6), .inl (.byte, 6), .inl (.byte, 6), .inl (.byte, 6), .inl (.int, 12), .inl (.int, 12), .inl (.int, 12), .inl (.int, 4), .inl (.int, 6), .inl (.int, 6), .inr (.inr (.inr (8, [none, none, none, none, none, none, some (some 26), some (some 27), some (some 28), some (some 41), some (some 42), some (some 43), some (some 44), some (some 45), some (some 46)]))), .inl (.byte, 8), .inl (.int, 8), .inr (.inr (.inl (.array .byte, [some 29, some 30, some 31, some 32, some 33, some 34, some 35, some 36, some 37, some 38, some 39, some 40]))), .inl (.byte, 6), .inl (.byte, 6), .inl (.byte, 6), .inl (.byte, 6), .inl (.byte, 6), .inl (.byte, 6), .inl (.byte, 6), .inl (.byte, 6), .inl (.byte, 6), .inl (.byte, 6), .inl (.byte, 6), .inl (.byte, 6), .inl (.int, 12), .inl (.int, 12), .inl (.int, 12), .inl (.int, 4), .inl (.int, 6), .inl (.int, 6), .inr (.inr (.inr (6, [some (some 48), none]))), .inl (.byte, 40), .inr (.inr (.inr (6, [some (some 50), none]))), .inl (.byte, 40), .inr (.inr (.inr (5, [some (some 52), some (some 57), some (some 58)]))), .inr (.inr (.inl (.array .long, [some 53, some 54, some 55, some 56]))), .inr (.inl 40), .inr (.inl 40), .inr (.inl 40), .inr (.inl 40), .inl (.int, 4), .inl (.int, 4), .inr (.inr (.inr (10, [some (some 60), none, none, none, none, none]))), .inl (.int, 40), .inr (.inr (.inr (1, [some (some 25), none, some (some 62), some (some 63), some (some 64), none, some (some 65), some (some 66), none, none]))), .inl (.byte, 720), .inl (.int, 305), .inr (.inl 915), .inl (.int, 60), .inl (.int, 60), .inr (.inr (.inr (1, [some (some 25), none, some (some 68), some (some 69), some (some 70), none, some (some 71), some (some 72), none, none]))), .inl (.byte, 720), .inl (.int, 305), .inr (.inl 915), .inl (.int, 60), .inl (.int, 60), .inr (.inr (.inr (4, [some (some 25), some (some 67), some (some 74), none, none]))), .inr (.inr (.inr (6, [some (some 75), none]))), .inl (.byte, 40), .inr (.inr (.inr (2, [some (some 77), some (some 78)]))), .inl (.int, 6), .inl (.int, 7), .inr (.inr (.inr (3, [some none, some none, some (some 80), some none, some none, some none, none, some none, some none, some none, none, none, none, none, none, none]))), .inr (.inr (.inr (9, [none, none, none, some (some 81), some (some 95), some (some 96), some (some 97), some (some 98), some (some 99), none, none, none, none, none, some (some 100), some (some 101), none, some (some 102), some (some 103), some (some 104)]))), .inr (.inr (.inl (.array .byte, [some 82, some 83, some 84, some 85, some 86, some 87, some 88, some 89, some 90, some 91, some 92, some 93, some 94]))), .inl (.byte, 7), .inl (.byte, 7), .inl (.byte, 7), .inl (.byte, 7), .inl (.byte, 7), .inl (.byte, 7), .inl (.byte, 7), .inl (.byte, 7), .inl (.byte, 7), .inl (.byte, 7), .inl (.byte, 7), .inl (.byte, 7), .inl (.byte, 7), .inl (.int, 13), .inl (.int, 13), .inl (.int, 4), .inl (.int, 9), .inl (.int, 4), .inr (.inl 536), .inr (.inl 67), .inl (.short, 471), .inl (.short, 471), .inl (.byte, 471), .inr (.inr (.inr (6, [some (some 106), none]))), .inl (.byte, 40)]
def mg_34 : aM := (aNew mg_33 106)
set_option maxHeartbeats 8000000 in
set_option maxRecDepth 20000 in
/-- Sounds.<init> -/
theorem ct_19 {l : Launch} {D : va_G} {cA : FieldType → ClassId} {ad adV : Nat → Nat} {z0 : Nat} : aMet l D cA ad adV z0 mX6_init 1 20 1 40 [.inr (.inr (.inl (some 105)))] sg_28 mg_33 none sg_29 mg_34 := by
  refine aMet_of (by decide +kernel) rfl (Nat.le_of_ble_eq_true rfl) (fun p e s m args below meth c al K => ?_)
  refine aw_aload_n (i := 0) K (dOf ck_mX6_init rfl rfl) rfl ?_
  refine aw_objInit (i := 1) K (dOf ck_mX6_init rfl rfl) ⟨wd_293, wd_167, wd_168⟩ (Nat.le_of_ble_eq_true rfl) ⟨Nat.le_of_ble_eq_true rfl, Nat.le_of_ble_eq_true rfl⟩ ?_
  refine aw_aload_n (i := 2) K (dOf ck_mX6_init rfl rfl) rfl ?_
  refine aw_bip (i := 3) K (dOf ck_mX6_init rfl rfl) (v := 40) rfl ?_
  refine aw_newaN (i := 4) (n := 40) (ty := .byte) K (dOf ck_mX6_init rfl rfl) rfl (by decide) wd_272 (Nat.le_of_ble_eq_true rfl) (Nat.le_of_ble_eq_true rfl) (Nat.le_of_ble_eq_true rfl) 106 rfl (fun q106 => ?_)
  refine aw_putr (i := 5) (k := 0) K (dOf ck_mX6_init rfl rfl) rfl rfl (Nat.le_of_ble_eq_true rfl) wd_294 rfl rfl rfl rfl (fitR (by decide +kernel)) ?_
  refine aw_nm (sh' := sg_29) (mm' := mg_34) rfl rfl ?_
  exact aw_vretA K (by decide +kernel) rfl (Nat.le_of_ble_eq_true rfl) (Nat.le_of_ble_eq_true rfl) (by repeat (first | exact ⟨[], (List.append_nil _).symm⟩ | exact ⟨_, rfl⟩ | apply pre_app))
def sg_30 : List aE := [.inr (.inr (.inr (11, [some (some 1), some (some 25), some (some 47), some (some 49), some (some 51), some (some 59), some (some 61), some (some 67), some (some 73), some (some 76), some none, some none, some none, some none, some none]))), .inr (.inr (.inr (7, [some (some 2), none, none, some (some 3), none, none, none, none, none]))), .inl (.byte, 500), .inr (.inr (.inr (8, [none, none, none, none, none, none, some (some 4), some (some 5), some (some 6), some (some 19), some (some 20), some (some 21), some (some 22), some (some 23), some (some 24)]))), .inl (.byte, 8), .inl (.int, 8), .inr (.inr (.inl (.array .byte, [some 7, some 8, some 9, some 10, some 11, some 12, some 13, some 14, some 15, some 16, some 17, some 18]))), .inl (.byte, 6), .inl (.byte, 6), .inl (.byte, 6), .inl (.byte, 6), .inl (.byte, 6), .inl (.byte, 6), .inl (.byte, 6), .inl (.byte, 6), .inl (.byte, 6), .inl (.byte, 6), .inl (.byte, 6), .inl (.byte, 6), .inl (.int, 12), .inl (.int, 12), .inl (.int, 12), .inl (.int, 4), .inl (.int, 6), .inl (.int, 6), .inr (.inr (.inr (8, [none, none, none, none, none, none, some (some 26), some (some 27), some (some 28), some (some 41), some (some 42), some (some 43), some (some 44), some (some 45), some (some 46)]))), .inl (.byte, 8), .inl (.int, 8), .inr (.inr (.inl (.array .byte, [some 29, some 30, some 31, some 32, some 33, some 34, some 35, some 36, some 37, some 38, some 39, some 40]))), .inl (.byte, 6), .inl (.byte, 6), .inl (.byte, 6), .inl (.byte, 6), .inl (.byte, 6), .inl (.byte, 6), .inl (.byte, 6), .inl (.byte, 6), .inl (.byte, 6), .inl (.byte, 6), .inl (.byte, 6), .inl (.byte, 6), .inl (.int, 12), .inl (.int, 12), .inl (.int, 12), .inl (.int, 4), .inl (.int, 6), .inl (.int, 6), .inr (.inr (.inr (6, [some (some 48), none]))), .inl (.byte, 40), .inr (.inr (.inr (6, [some (some 50), none]))), .inl (.byte, 40), .inr (.inr (.inr (5, [some (some 52), some (some 57), some (some 58)]))), .inr (.inr (.inl (.array .long, [some 53, some 54, some 55, some 56]))), .inr (.inl 40), .inr (.inl 40), .inr (.inl 40), .inr (.inl 40), .inl (.int, 4), .inl (.int, 4), .inr (.inr (.inr (10, [some (some 60), none, none, none, none, none]))), .inl (.int, 40), .inr (.inr (.inr (1, [some (some 25), none, some (some 62), some (some 63), some (some 64), none, some (some 65), some (some 66), none, none]))), .inl (.byte, 720), .inl (.int, 305), .inr (.inl 915), .inl (.int, 60), .inl (.int, 60), .inr (.inr (.inr (1, [some (some 25), none, some (some 68), some (some 69), some (some 70), none, some (some 71), some (some 72), none, none]))), .inl (.byte, 720), .inl (.int, 305), .inr (.inl 915), .inl (.int, 60), .inl (.int, 60), .inr (.inr (.inr (4, [some (some 25), some (some 67), some (some 74), none, none]))), .inr (.inr (.inr (6, [some (some 75), none]))), .inl (.byte, 40), .inr (.inr (.inr (2, [some (some 77), some (some 78)]))), .inl (.int, 6), .inl (.int, 7), .inr (.inr (.inr (3, [some (some 25), some (some 76), some (some 80), some (some 105), some (some 107), some (some 108), none, some (some 109), some (some 110), some (some 111), none, none, none, none, none, none]))), .inr (.inr (.inr (9, [none, none, none, some (some 81), some (some 95), some (some 96), some (some 97), some (some 98), some (some 99), none, none, none, none, none, some (some 100), some (some 101), none, some (some 102), some (some 103), some (some 104)]))), .inr (.inr (.inl (.array .byte, [some 82, some 83, some 84, some 85, some 86, some 87, some 88, some 89, some 90, some 91, some 92, some 93, some 94]))), .inl (.byte, 7), .inl (.byte, 7), .inl (.byte, 7), .inl (.byte, 7), .inl (.byte, 7), .inl (.byte, 7), .inl (.byte, 7), .inl (.byte, 7), .inl (.byte, 7), .inl (.byte, 7), .inl (.byte, 7), .inl (.byte, 7), .inl (.byte, 7), .inl (.int, 13), .inl (.int, 13), .inl (.int, 4), .inl (.int, 9), .inl (.int, 4), .inr (.inl 536), .inr (.inl 67), .inl (.short, 471), .inl (.short, 471), .inl (.byte, 471), .inr (.inr (.inr (6, [some (some 106), none]))), .inl (.byte, 40), .inl (.int, 3), .inl (.byte, 2826), .inl (.boolean, 4), .inr (.inr (.inl (.object "OneBreath$Sounds", [none, none, none, none]))), .inl (.int, 4), .inr (.inr (.inr (6, [some none, none])))]
def mg_35 : aM := (aNew (aNew (aNew (aNew (aNew (aNew mg_34 107) 108) 109) 110) 111) 112)
def sg_31 : List aE := [.inr (.inr (.inr (11, [some (some 1), some (some 25), some (some 47), some (some 49), some (some 51), some (some 59), some (some 61), some (some 67), some (some 73), some (some 76), some none, some none, some none, some none, some none]))), .inr (.inr (.inr (7, [some (some 2), none, none, some (some 3), none, none, none, none, none]))), .inl (.byte, 500), .inr (.inr (.inr (8, [none, none, none, none, none, none, some (some 4), some (some 5), some (some 6), some (some 19), some (some 20), some (some 21), some (some 22), some (some 23), some (some 24)]))), .inl (.byte, 8), .inl (.int, 8), .inr (.inr (.inl (.array .byte, [some 7, some 8, some 9, some 10, some 11, some 12, some 13, some 14, some 15, some 16, some 17, some 18]))), .inl (.byte, 6), .inl (.byte, 6), .inl (.byte, 6), .inl (.byte, 6), .inl (.byte, 6), .inl (.byte, 6), .inl (.byte, 6), .inl (.byte, 6), .inl (.byte, 6), .inl (.byte, 6), .inl (.byte, 6), .inl (.byte, 6), .inl (.int, 12), .inl (.int, 12), .inl (.int, 12), .inl (.int, 4), .inl (.int, 6), .inl (.int, 6), .inr (.inr (.inr (8, [none, none, none, none, none, none, some (some 26), some (some 27), some (some 28), some (some 41), some (some 42), some (some 43), some (some 44), some (some 45), some (some 46)]))), .inl (.byte, 8), .inl (.int, 8), .inr (.inr (.inl (.array .byte, [some 29, some 30, some 31, some 32, some 33, some 34, some 35, some 36, some 37, some 38, some 39, some 40]))), .inl (.byte, 6), .inl (.byte, 6), .inl (.byte, 6), .inl (.byte, 6), .inl (.byte, 6), .inl (.byte, 6), .inl (.byte, 6), .inl (.byte, 6), .inl (.byte, 6), .inl (.byte, 6), .inl (.byte, 6), .inl (.byte, 6), .inl (.int, 12), .inl (.int, 12), .inl (.int, 12), .inl (.int, 4), .inl (.int, 6), .inl (.int, 6), .inr (.inr (.inr (6, [some (some 48), none]))), .inl (.byte, 40), .inr (.inr (.inr (6, [some (some 50), none]))), .inl (.byte, 40), .inr (.inr (.inr (5, [some (some 52), some (some 57), some (some 58)]))), .inr (.inr (.inl (.array .long, [some 53, some 54, some 55, some 56]))), .inr (.inl 40), .inr (.inl 40), .inr (.inl 40), .inr (.inl 40), .inl (.int, 4), .inl (.int, 4), .inr (.inr (.inr (10, [some (some 60), none, none, none, none, none]))), .inl (.int, 40), .inr (.inr (.inr (1, [some (some 25), none, some (some 62), some (some 63), some (some 64), none, some (some 65), some (some 66), none, none]))), .inl (.byte, 720), .inl (.int, 305), .inr (.inl 915), .inl (.int, 60), .inl (.int, 60), .inr (.inr (.inr (1, [some (some 25), none, some (some 68), some (some 69), some (some 70), none, some (some 71), some (some 72), none, none]))), .inl (.byte, 720), .inl (.int, 305), .inr (.inl 915), .inl (.int, 60), .inl (.int, 60), .inr (.inr (.inr (4, [some (some 25), some (some 67), some (some 74), none, none]))), .inr (.inr (.inr (6, [some (some 75), none]))), .inl (.byte, 40), .inr (.inr (.inr (2, [some (some 77), some (some 78)]))), .inl (.int, 6), .inl (.int, 7), .inr (.inr (.inr (3, [some (some 25), some (some 76), some (some 80), some (some 105), some (some 107), some (some 108), none, some (some 109), some (some 110), some (some 111), none, none, none, none, none, none]))), .inr (.inr (.inr (9, [none, none, none, some (some 81), some (some 95), some (some 96), some (some 97), some (some 98), some (some 99), none, none, none, none, none, some (some 100), some (some 101), none, some (some 102), some (some 103), some (some 104)]))), .inr (.inr (.inl (.array .byte, [some 82, some 83, some 84, some 85, some 86, some 87, some 88, some 89, some 90, some 91, some 92, some 93, some 94]))), .inl (.byte, 7), .inl (.byte, 7), .inl (.byte, 7), .inl (.byte, 7), .inl (.byte, 7), .inl (.byte, 7), .inl (.byte, 7), .inl (.byte, 7), .inl (.byte, 7), .inl (.byte, 7), .inl (.byte, 7), .inl (.byte, 7), .inl (.byte, 7), .inl (.int, 13), .inl (.int, 13), .inl (.int, 4), .inl (.int, 9), .inl (.int, 4), .inr (.inl 536), .inr (.inl 67), .inl (.short, 471), .inl (.short, 471), .inl (.byte, 471), .inr (.inr (.inr (6, [some (some 106), none]))), .inl (.byte, 40), .inl (.int, 3), .inl (.byte, 2826), .inl (.boolean, 4), .inr (.inr (.inl (.object "OneBreath$Sounds", [none, none, none, none]))), .inl (.int, 4), .inr (.inr (.inr (6, [some (some 113), none]))), .inl (.byte, 40)]
def mg_36 : aM := (aNew mg_35 113)
set_option maxHeartbeats 8000000 in
set_option maxRecDepth 20000 in
/-- Sounds.<init> -/
theorem ct_20 {l : Launch} {D : va_G} {cA : FieldType → ClassId} {ad adV : Nat → Nat} {z0 : Nat} : aMet l D cA ad adV z0 mX6_init 1 20 1 40 [.inr (.inr (.inl (some 112)))] sg_30 mg_35 none sg_31 mg_36 := by
  refine aMet_of (by decide +kernel) rfl (Nat.le_of_ble_eq_true rfl) (fun p e s m args below meth c al K => ?_)
  refine aw_aload_n (i := 0) K (dOf ck_mX6_init rfl rfl) rfl ?_
  refine aw_objInit (i := 1) K (dOf ck_mX6_init rfl rfl) ⟨wd_293, wd_167, wd_168⟩ (Nat.le_of_ble_eq_true rfl) ⟨Nat.le_of_ble_eq_true rfl, Nat.le_of_ble_eq_true rfl⟩ ?_
  refine aw_aload_n (i := 2) K (dOf ck_mX6_init rfl rfl) rfl ?_
  refine aw_bip (i := 3) K (dOf ck_mX6_init rfl rfl) (v := 40) rfl ?_
  refine aw_newaN (i := 4) (n := 40) (ty := .byte) K (dOf ck_mX6_init rfl rfl) rfl (by decide) wd_272 (Nat.le_of_ble_eq_true rfl) (Nat.le_of_ble_eq_true rfl) (Nat.le_of_ble_eq_true rfl) 113 rfl (fun q113 => ?_)
  refine aw_putr (i := 5) (k := 0) K (dOf ck_mX6_init rfl rfl) rfl rfl (Nat.le_of_ble_eq_true rfl) wd_294 rfl rfl rfl rfl (fitR (by decide +kernel)) ?_
  refine aw_nm (sh' := sg_31) (mm' := mg_36) rfl rfl ?_
  exact aw_vretA K (by decide +kernel) rfl (Nat.le_of_ble_eq_true rfl) (Nat.le_of_ble_eq_true rfl) (by repeat (first | exact ⟨[], (List.append_nil _).symm⟩ | exact ⟨_, rfl⟩ | apply pre_app))
def sg_32 : List aE := [.inr (.inr (.inr (11, [some (some 1), some (some 25), some (some 47), some (some 49), some (some 51), some (some 59), some (some 61), some (some 67), some (some 73), some (some 76), some none, some none, some none, some none, some none]))), .inr (.inr (.inr (7, [some (some 2), none, none, some (some 3), none, none, none, none, none]))), .inl (.byte, 500), .inr (.inr (.inr (8, [none, none, none, none, none, none, some (some 4), some (some 5), some (some 6), some (some 19), some (some 20), some (some 21), some (some 22), some (some 23), some (some 24)]))), .inl (.byte, 8), .inl (.int, 8), .inr (.inr (.inl (.array .byte, [some 7, some 8, some 9, some 10, some 11, some 12, some 13, some 14, some 15, some 16, some 17, some 18]))), .inl (.byte, 6), .inl (.byte, 6), .inl (.byte, 6), .inl (.byte, 6), .inl (.byte, 6), .inl (.byte, 6), .inl (.byte, 6), .inl (.byte, 6), .inl (.byte, 6), .inl (.byte, 6), .inl (.byte, 6), .inl (.byte, 6), .inl (.int, 12), .inl (.int, 12), .inl (.int, 12), .inl (.int, 4), .inl (.int, 6), .inl (.int, 6), .inr (.inr (.inr (8, [none, none, none, none, none, none, some (some 26), some (some 27), some (some 28), some (some 41), some (some 42), some (some 43), some (some 44), some (some 45), some (some 46)]))), .inl (.byte, 8), .inl (.int, 8), .inr (.inr (.inl (.array .byte, [some 29, some 30, some 31, some 32, some 33, some 34, some 35, some 36, some 37, some 38, some 39, some 40]))), .inl (.byte, 6), .inl (.byte, 6), .inl (.byte, 6), .inl (.byte, 6), .inl (.byte, 6), .inl (.byte, 6), .inl (.byte, 6), .inl (.byte, 6), .inl (.byte, 6), .inl (.byte, 6), .inl (.byte, 6), .inl (.byte, 6), .inl (.int, 12), .inl (.int, 12), .inl (.int, 12), .inl (.int, 4), .inl (.int, 6), .inl (.int, 6), .inr (.inr (.inr (6, [some (some 48), none]))), .inl (.byte, 40), .inr (.inr (.inr (6, [some (some 50), none]))), .inl (.byte, 40), .inr (.inr (.inr (5, [some (some 52), some (some 57), some (some 58)]))), .inr (.inr (.inl (.array .long, [some 53, some 54, some 55, some 56]))), .inr (.inl 40), .inr (.inl 40), .inr (.inl 40), .inr (.inl 40), .inl (.int, 4), .inl (.int, 4), .inr (.inr (.inr (10, [some (some 60), none, none, none, none, none]))), .inl (.int, 40), .inr (.inr (.inr (1, [some (some 25), none, some (some 62), some (some 63), some (some 64), none, some (some 65), some (some 66), none, none]))), .inl (.byte, 720), .inl (.int, 305), .inr (.inl 915), .inl (.int, 60), .inl (.int, 60), .inr (.inr (.inr (1, [some (some 25), none, some (some 68), some (some 69), some (some 70), none, some (some 71), some (some 72), none, none]))), .inl (.byte, 720), .inl (.int, 305), .inr (.inl 915), .inl (.int, 60), .inl (.int, 60), .inr (.inr (.inr (4, [some (some 25), some (some 67), some (some 74), none, none]))), .inr (.inr (.inr (6, [some (some 75), none]))), .inl (.byte, 40), .inr (.inr (.inr (2, [some (some 77), some (some 78)]))), .inl (.int, 6), .inl (.int, 7), .inr (.inr (.inr (3, [some (some 25), some (some 76), some (some 80), some (some 105), some (some 107), some (some 108), none, some (some 109), some (some 110), some (some 111), none, none, none, none, none, none]))), .inr (.inr (.inr (9, [none, none, none, some (some 81), some (some 95), some (some 96), some (some 97), some (some 98), some (some 99), none, none, none, none, none, some (some 100), some (some 101), none, some (some 102), some (some 103), some (some 104)]))), .inr (.inr (.inl (.array .byte, [some 82, some 83, some 84, some 85, some 86, some 87, some 88, some 89, some 90, some 91, some 92, some 93, some 94]))), .inl (.byte, 7), .inl (.byte, 7), .inl (.byte, 7), .inl (.byte, 7), .inl (.byte, 7), .inl (.byte, 7), .inl (.byte, 7), .inl (.byte, 7), .inl (.byte, 7), .inl (.byte, 7), .inl (.byte, 7), .inl (.byte, 7), .inl (.byte, 7), .inl (.int, 13), .inl (.int, 13), .inl (.int, 4), .inl (.int, 9), .inl (.int, 4), .inr (.inl 536), .inr (.inl 67), .inl (.short, 471), .inl (.short, 471), .inl (.byte, 471), .inr (.inr (.inr (6, [some (some 106), none]))), .inl (.byte, 40), .inl (.int, 3), .inl (.byte, 2826), .inl (.boolean, 4), .inr (.inr (.inl (.object "OneBreath$Sounds", [some 112, none, none, none]))), .inl (.int, 4), .inr (.inr (.inr (6, [some (some 113), none]))), .inl (.byte, 40), .inr (.inr (.inr (6, [some none, none])))]
def mg_37 : aM := (aNew mg_36 114)
def sg_33 : List aE := [.inr (.inr (.inr (11, [some (some 1), some (some 25), some (some 47), some (some 49), some (some 51), some (some 59), some (some 61), some (some 67), some (some 73), some (some 76), some none, some none, some none, some none, some none]))), .inr (.inr (.inr (7, [some (some 2), none, none, some (some 3), none, none, none, none, none]))), .inl (.byte, 500), .inr (.inr (.inr (8, [none, none, none, none, none, none, some (some 4), some (some 5), some (some 6), some (some 19), some (some 20), some (some 21), some (some 22), some (some 23), some (some 24)]))), .inl (.byte, 8), .inl (.int, 8), .inr (.inr (.inl (.array .byte, [some 7, some 8, some 9, some 10, some 11, some 12, some 13, some 14, some 15, some 16, some 17, some 18]))), .inl (.byte, 6), .inl (.byte, 6), .inl (.byte, 6), .inl (.byte, 6), .inl (.byte, 6), .inl (.byte, 6), .inl (.byte, 6), .inl (.byte, 6), .inl (.byte, 6), .inl (.byte, 6), .inl (.byte, 6), .inl (.byte, 6), .inl (.int, 12), .inl (.int, 12), .inl (.int, 12), .inl (.int, 4), .inl (.int, 6), .inl (.int, 6), .inr (.inr (.inr (8, [none, none, none, none, none, none, some (some 26), some (some 27), some (some 28), some (some 41), some (some 42), some (some 43), some (some 44), some (some 45), some (some 46)]))), .inl (.byte, 8), .inl (.int, 8), .inr (.inr (.inl (.array .byte, [some 29, some 30, some 31, some 32, some 33, some 34, some 35, some 36, some 37, some 38, some 39, some 40]))), .inl (.byte, 6), .inl (.byte, 6), .inl (.byte, 6), .inl (.byte, 6), .inl (.byte, 6), .inl (.byte, 6), .inl (.byte, 6), .inl (.byte, 6), .inl (.byte, 6), .inl (.byte, 6), .inl (.byte, 6), .inl (.byte, 6), .inl (.int, 12), .inl (.int, 12), .inl (.int, 12), .inl (.int, 4), .inl (.int, 6), .inl (.int, 6), .inr (.inr (.inr (6, [some (some 48), none]))), .inl (.byte, 40), .inr (.inr (.inr (6, [some (some 50), none]))), .inl (.byte, 40), .inr (.inr (.inr (5, [some (some 52), some (some 57), some (some 58)]))), .inr (.inr (.inl (.array .long, [some 53, some 54, some 55, some 56]))), .inr (.inl 40), .inr (.inl 40), .inr (.inl 40), .inr (.inl 40), .inl (.int, 4), .inl (.int, 4), .inr (.inr (.inr (10, [some (some 60), none, none, none, none, none]))), .inl (.int, 40), .inr (.inr (.inr (1, [some (some 25), none, some (some 62), some (some 63), some (some 64), none, some (some 65), some (some 66), none, none]))), .inl (.byte, 720), .inl (.int, 305), .inr (.inl 915), .inl (.int, 60), .inl (.int, 60), .inr (.inr (.inr (1, [some (some 25), none, some (some 68), some (some 69), some (some 70), none, some (some 71), some (some 72), none, none]))), .inl (.byte, 720), .inl (.int, 305), .inr (.inl 915), .inl (.int, 60), .inl (.int, 60), .inr (.inr (.inr (4, [some (some 25), some (some 67), some (some 74), none, none]))), .inr (.inr (.inr (6, [some (some 75), none]))), .inl (.byte, 40), .inr (.inr (.inr (2, [some (some 77), some (some 78)]))), .inl (.int, 6), .inl (.int, 7), .inr (.inr (.inr (3, [some (some 25), some (some 76), some (some 80), some (some 105), some (some 107), some (some 108), none, some (some 109), some (some 110), some (some 111), none, none, none, none, none, none]))), .inr (.inr (.inr (9, [none, none, none, some (some 81), some (some 95), some (some 96), some (some 97), some (some 98), some (some 99), none, none, none, none, none, some (some 100), some (some 101), none, some (some 102), some (some 103), some (some 104)]))), .inr (.inr (.inl (.array .byte, [some 82, some 83, some 84, some 85, some 86, some 87, some 88, some 89, some 90, some 91, some 92, some 93, some 94]))), .inl (.byte, 7), .inl (.byte, 7), .inl (.byte, 7), .inl (.byte, 7), .inl (.byte, 7), .inl (.byte, 7), .inl (.byte, 7), .inl (.byte, 7), .inl (.byte, 7), .inl (.byte, 7), .inl (.byte, 7), .inl (.byte, 7), .inl (.byte, 7), .inl (.int, 13), .inl (.int, 13), .inl (.int, 4), .inl (.int, 9), .inl (.int, 4), .inr (.inl 536), .inr (.inl 67), .inl (.short, 471), .inl (.short, 471), .inl (.byte, 471), .inr (.inr (.inr (6, [some (some 106), none]))), .inl (.byte, 40), .inl (.int, 3), .inl (.byte, 2826), .inl (.boolean, 4), .inr (.inr (.inl (.object "OneBreath$Sounds", [some 112, none, none, none]))), .inl (.int, 4), .inr (.inr (.inr (6, [some (some 113), none]))), .inl (.byte, 40), .inr (.inr (.inr (6, [some (some 115), none]))), .inl (.byte, 40)]
def mg_38 : aM := (aNew mg_37 115)
set_option maxHeartbeats 8000000 in
set_option maxRecDepth 20000 in
/-- Sounds.<init> -/
theorem ct_21 {l : Launch} {D : va_G} {cA : FieldType → ClassId} {ad adV : Nat → Nat} {z0 : Nat} : aMet l D cA ad adV z0 mX6_init 1 20 1 40 [.inr (.inr (.inl (some 114)))] sg_32 mg_37 none sg_33 mg_38 := by
  refine aMet_of (by decide +kernel) rfl (Nat.le_of_ble_eq_true rfl) (fun p e s m args below meth c al K => ?_)
  refine aw_aload_n (i := 0) K (dOf ck_mX6_init rfl rfl) rfl ?_
  refine aw_objInit (i := 1) K (dOf ck_mX6_init rfl rfl) ⟨wd_293, wd_167, wd_168⟩ (Nat.le_of_ble_eq_true rfl) ⟨Nat.le_of_ble_eq_true rfl, Nat.le_of_ble_eq_true rfl⟩ ?_
  refine aw_aload_n (i := 2) K (dOf ck_mX6_init rfl rfl) rfl ?_
  refine aw_bip (i := 3) K (dOf ck_mX6_init rfl rfl) (v := 40) rfl ?_
  refine aw_newaN (i := 4) (n := 40) (ty := .byte) K (dOf ck_mX6_init rfl rfl) rfl (by decide) wd_272 (Nat.le_of_ble_eq_true rfl) (Nat.le_of_ble_eq_true rfl) (Nat.le_of_ble_eq_true rfl) 115 rfl (fun q115 => ?_)
  refine aw_putr (i := 5) (k := 0) K (dOf ck_mX6_init rfl rfl) rfl rfl (Nat.le_of_ble_eq_true rfl) wd_294 rfl rfl rfl rfl (fitR (by decide +kernel)) ?_
  refine aw_nm (sh' := sg_33) (mm' := mg_38) rfl rfl ?_
  exact aw_vretA K (by decide +kernel) rfl (Nat.le_of_ble_eq_true rfl) (Nat.le_of_ble_eq_true rfl) (by repeat (first | exact ⟨[], (List.append_nil _).symm⟩ | exact ⟨_, rfl⟩ | apply pre_app))
def sg_34 : List aE := [.inr (.inr (.inr (11, [some (some 1), some (some 25), some (some 47), some (some 49), some (some 51), some (some 59), some (some 61), some (some 67), some (some 73), some (some 76), some none, some none, some none, some none, some none]))), .inr (.inr (.inr (7, [some (some 2), none, none, some (some 3), none, none, none, none, none]))), .inl (.byte, 500), .inr (.inr (.inr (8, [none, none, none, none, none, none, some (some 4), some (some 5), some (some 6), some (some 19), some (some 20), some (some 21), some (some 22), some (some 23), some (some 24)]))), .inl (.byte, 8), .inl (.int, 8), .inr (.inr (.inl (.array .byte, [some 7, some 8, some 9, some 10, some 11, some 12, some 13, some 14, some 15, some 16, some 17, some 18]))), .inl (.byte, 6), .inl (.byte, 6), .inl (.byte, 6), .inl (.byte, 6), .inl (.byte, 6), .inl (.byte, 6), .inl (.byte, 6), .inl (.byte, 6), .inl (.byte, 6), .inl (.byte, 6), .inl (.byte, 6), .inl (.byte, 6), .inl (.int, 12), .inl (.int, 12), .inl (.int, 12), .inl (.int, 4), .inl (.int, 6), .inl (.int, 6), .inr (.inr (.inr (8, [none, none, none, none, none, none, some (some 26), some (some 27), some (some 28), some (some 41), some (some 42), some (some 43), some (some 44), some (some 45), some (some 46)]))), .inl (.byte, 8), .inl (.int, 8), .inr (.inr (.inl (.array .byte, [some 29, some 30, some 31, some 32, some 33, some 34, some 35, some 36, some 37, some 38, some 39, some 40]))), .inl (.byte, 6), .inl (.byte, 6), .inl (.byte, 6), .inl (.byte, 6), .inl (.byte, 6), .inl (.byte, 6), .inl (.byte, 6), .inl (.byte, 6), .inl (.byte, 6), .inl (.byte, 6), .inl (.byte, 6), .inl (.byte, 6), .inl (.int, 12), .inl (.int, 12), .inl (.int, 12), .inl (.int, 4), .inl (.int, 6), .inl (.int, 6), .inr (.inr (.inr (6, [some (some 48), none]))), .inl (.byte, 40), .inr (.inr (.inr (6, [some (some 50), none]))), .inl (.byte, 40), .inr (.inr (.inr (5, [some (some 52), some (some 57), some (some 58)]))), .inr (.inr (.inl (.array .long, [some 53, some 54, some 55, some 56]))), .inr (.inl 40), .inr (.inl 40), .inr (.inl 40), .inr (.inl 40), .inl (.int, 4), .inl (.int, 4), .inr (.inr (.inr (10, [some (some 60), none, none, none, none, none]))), .inl (.int, 40), .inr (.inr (.inr (1, [some (some 25), none, some (some 62), some (some 63), some (some 64), none, some (some 65), some (some 66), none, none]))), .inl (.byte, 720), .inl (.int, 305), .inr (.inl 915), .inl (.int, 60), .inl (.int, 60), .inr (.inr (.inr (1, [some (some 25), none, some (some 68), some (some 69), some (some 70), none, some (some 71), some (some 72), none, none]))), .inl (.byte, 720), .inl (.int, 305), .inr (.inl 915), .inl (.int, 60), .inl (.int, 60), .inr (.inr (.inr (4, [some (some 25), some (some 67), some (some 74), none, none]))), .inr (.inr (.inr (6, [some (some 75), none]))), .inl (.byte, 40), .inr (.inr (.inr (2, [some (some 77), some (some 78)]))), .inl (.int, 6), .inl (.int, 7), .inr (.inr (.inr (3, [some (some 25), some (some 76), some (some 80), some (some 105), some (some 107), some (some 108), none, some (some 109), some (some 110), some (some 111), none, none, none, none, none, none]))), .inr (.inr (.inr (9, [none, none, none, some (some 81), some (some 95), some (some 96), some (some 97), some (some 98), some (some 99), none, none, none, none, none, some (some 100), some (some 101), none, some (some 102), some (some 103), some (some 104)]))), .inr (.inr (.inl (.array .byte, [some 82, some 83, some 84, some 85, some 86, some 87, some 88, some 89, some 90, some 91, some 92, some 93, some 94]))), .inl (.byte, 7), .inl (.byte, 7), .inl (.byte, 7), .inl (.byte, 7), .inl (.byte, 7), .inl (.byte, 7), .inl (.byte, 7), .inl (.byte, 7), .inl (.byte, 7), .inl (.byte, 7), .inl (.byte, 7), .inl (.byte, 7), .inl (.byte, 7), .inl (.int, 13), .inl (.int, 13), .inl (.int, 4), .inl (.int, 9), .inl (.int, 4), .inr (.inl 536), .inr (.inl 67), .inl (.short, 471), .inl (.short, 471), .inl (.byte, 471), .inr (.inr (.inr (6, [some (some 106), none]))), .inl (.byte, 40), .inl (.int, 3), .inl (.byte, 2826), .inl (.boolean, 4), .inr (.inr (.inl (.object "OneBreath$Sounds", [some 112, some 114, none, none]))), .inl (.int, 4), .inr (.inr (.inr (6, [some (some 113), none]))), .inl (.byte, 40), .inr (.inr (.inr (6, [some (some 115), none]))), .inl (.byte, 40), .inr (.inr (.inr (6, [some none, none])))]
def mg_39 : aM := (aNew mg_38 116)
def sg_35 : List aE := [.inr (.inr (.inr (11, [some (some 1), some (some 25), some (some 47), some (some 49), some (some 51), some (some 59), some (some 61), some (some 67), some (some 73), some (some 76), some none, some none, some none, some none, some none]))), .inr (.inr (.inr (7, [some (some 2), none, none, some (some 3), none, none, none, none, none]))), .inl (.byte, 500), .inr (.inr (.inr (8, [none, none, none, none, none, none, some (some 4), some (some 5), some (some 6), some (some 19), some (some 20), some (some 21), some (some 22), some (some 23), some (some 24)]))), .inl (.byte, 8), .inl (.int, 8), .inr (.inr (.inl (.array .byte, [some 7, some 8, some 9, some 10, some 11, some 12, some 13, some 14, some 15, some 16, some 17, some 18]))), .inl (.byte, 6), .inl (.byte, 6), .inl (.byte, 6), .inl (.byte, 6), .inl (.byte, 6), .inl (.byte, 6), .inl (.byte, 6), .inl (.byte, 6), .inl (.byte, 6), .inl (.byte, 6), .inl (.byte, 6), .inl (.byte, 6), .inl (.int, 12), .inl (.int, 12), .inl (.int, 12), .inl (.int, 4), .inl (.int, 6), .inl (.int, 6), .inr (.inr (.inr (8, [none, none, none, none, none, none, some (some 26), some (some 27), some (some 28), some (some 41), some (some 42), some (some 43), some (some 44), some (some 45), some (some 46)]))), .inl (.byte, 8), .inl (.int, 8), .inr (.inr (.inl (.array .byte, [some 29, some 30, some 31, some 32, some 33, some 34, some 35, some 36, some 37, some 38, some 39, some 40]))), .inl (.byte, 6), .inl (.byte, 6), .inl (.byte, 6), .inl (.byte, 6), .inl (.byte, 6), .inl (.byte, 6), .inl (.byte, 6), .inl (.byte, 6), .inl (.byte, 6), .inl (.byte, 6), .inl (.byte, 6), .inl (.byte, 6), .inl (.int, 12), .inl (.int, 12), .inl (.int, 12), .inl (.int, 4), .inl (.int, 6), .inl (.int, 6), .inr (.inr (.inr (6, [some (some 48), none]))), .inl (.byte, 40), .inr (.inr (.inr (6, [some (some 50), none]))), .inl (.byte, 40), .inr (.inr (.inr (5, [some (some 52), some (some 57), some (some 58)]))), .inr (.inr (.inl (.array .long, [some 53, some 54, some 55, some 56]))), .inr (.inl 40), .inr (.inl 40), .inr (.inl 40), .inr (.inl 40), .inl (.int, 4), .inl (.int, 4), .inr (.inr (.inr (10, [some (some 60), none, none, none, none, none]))), .inl (.int, 40), .inr (.inr (.inr (1, [some (some 25), none, some (some 62), some (some 63), some (some 64), none, some (some 65), some (some 66), none, none]))), .inl (.byte, 720), .inl (.int, 305), .inr (.inl 915), .inl (.int, 60), .inl (.int, 60), .inr (.inr (.inr (1, [some (some 25), none, some (some 68), some (some 69), some (some 70), none, some (some 71), some (some 72), none, none]))), .inl (.byte, 720), .inl (.int, 305), .inr (.inl 915), .inl (.int, 60), .inl (.int, 60), .inr (.inr (.inr (4, [some (some 25), some (some 67), some (some 74), none, none]))), .inr (.inr (.inr (6, [some (some 75), none]))), .inl (.byte, 40), .inr (.inr (.inr (2, [some (some 77), some (some 78)]))), .inl (.int, 6), .inl (.int, 7), .inr (.inr (.inr (3, [some (some 25), some (some 76), some (some 80), some (some 105), some (some 107), some (some 108), none, some (some 109), some (some 110), some (some 111), none, none, none, none, none, none]))), .inr (.inr (.inr (9, [none, none, none, some (some 81), some (some 95), some (some 96), some (some 97), some (some 98), some (some 99), none, none, none, none, none, some (some 100), some (some 101), none, some (some 102), some (some 103), some (some 104)]))), .inr (.inr (.inl (.array .byte, [some 82, some 83, some 84, some 85, some 86, some 87, some 88, some 89, some 90, some 91, some 92, some 93, some 94]))), .inl (.byte, 7), .inl (.byte, 7), .inl (.byte, 7), .inl (.byte, 7), .inl (.byte, 7), .inl (.byte, 7), .inl (.byte, 7), .inl (.byte, 7), .inl (.byte, 7), .inl (.byte, 7), .inl (.byte, 7), .inl (.byte, 7), .inl (.byte, 7), .inl (.int, 13), .inl (.int, 13), .inl (.int, 4), .inl (.int, 9), .inl (.int, 4), .inr (.inl 536), .inr (.inl 67), .inl (.short, 471), .inl (.short, 471), .inl (.byte, 471), .inr (.inr (.inr (6, [some (some 106), none]))), .inl (.byte, 40), .inl (.int, 3), .inl (.byte, 2826), .inl (.boolean, 4), .inr (.inr (.inl (.object "OneBreath$Sounds", [some 112, some 114, none, none]))), .inl (.int, 4), .inr (.inr (.inr (6, [some (some 113), none]))), .inl (.byte, 40), .inr (.inr (.inr (6, [some (some 115), none]))), .inl (.byte, 40), .inr (.inr (.inr (6, [some (some 117), none]))), .inl (.byte, 40)]
def mg_40 : aM := (aNew mg_39 117)
set_option maxHeartbeats 8000000 in
set_option maxRecDepth 20000 in
/-- Sounds.<init> -/
theorem ct_22 {l : Launch} {D : va_G} {cA : FieldType → ClassId} {ad adV : Nat → Nat} {z0 : Nat} : aMet l D cA ad adV z0 mX6_init 1 20 1 40 [.inr (.inr (.inl (some 116)))] sg_34 mg_39 none sg_35 mg_40 := by
  refine aMet_of (by decide +kernel) rfl (Nat.le_of_ble_eq_true rfl) (fun p e s m args below meth c al K => ?_)
  refine aw_aload_n (i := 0) K (dOf ck_mX6_init rfl rfl) rfl ?_
  refine aw_objInit (i := 1) K (dOf ck_mX6_init rfl rfl) ⟨wd_293, wd_167, wd_168⟩ (Nat.le_of_ble_eq_true rfl) ⟨Nat.le_of_ble_eq_true rfl, Nat.le_of_ble_eq_true rfl⟩ ?_
  refine aw_aload_n (i := 2) K (dOf ck_mX6_init rfl rfl) rfl ?_
  refine aw_bip (i := 3) K (dOf ck_mX6_init rfl rfl) (v := 40) rfl ?_
  refine aw_newaN (i := 4) (n := 40) (ty := .byte) K (dOf ck_mX6_init rfl rfl) rfl (by decide) wd_272 (Nat.le_of_ble_eq_true rfl) (Nat.le_of_ble_eq_true rfl) (Nat.le_of_ble_eq_true rfl) 117 rfl (fun q117 => ?_)
  refine aw_putr (i := 5) (k := 0) K (dOf ck_mX6_init rfl rfl) rfl rfl (Nat.le_of_ble_eq_true rfl) wd_294 rfl rfl rfl rfl (fitR (by decide +kernel)) ?_
  refine aw_nm (sh' := sg_35) (mm' := mg_40) rfl rfl ?_
  exact aw_vretA K (by decide +kernel) rfl (Nat.le_of_ble_eq_true rfl) (Nat.le_of_ble_eq_true rfl) (by repeat (first | exact ⟨[], (List.append_nil _).symm⟩ | exact ⟨_, rfl⟩ | apply pre_app))
def sg_36 : List aE := [.inr (.inr (.inr (11, [some (some 1), some (some 25), some (some 47), some (some 49), some (some 51), some (some 59), some (some 61), some (some 67), some (some 73), some (some 76), some none, some none, some none, some none, some none]))), .inr (.inr (.inr (7, [some (some 2), none, none, some (some 3), none, none, none, none, none]))), .inl (.byte, 500), .inr (.inr (.inr (8, [none, none, none, none, none, none, some (some 4), some (some 5), some (some 6), some (some 19), some (some 20), some (some 21), some (some 22), some (some 23), some (some 24)]))), .inl (.byte, 8), .inl (.int, 8), .inr (.inr (.inl (.array .byte, [some 7, some 8, some 9, some 10, some 11, some 12, some 13, some 14, some 15, some 16, some 17, some 18]))), .inl (.byte, 6), .inl (.byte, 6), .inl (.byte, 6), .inl (.byte, 6), .inl (.byte, 6), .inl (.byte, 6), .inl (.byte, 6), .inl (.byte, 6), .inl (.byte, 6), .inl (.byte, 6), .inl (.byte, 6), .inl (.byte, 6), .inl (.int, 12), .inl (.int, 12), .inl (.int, 12), .inl (.int, 4), .inl (.int, 6), .inl (.int, 6), .inr (.inr (.inr (8, [none, none, none, none, none, none, some (some 26), some (some 27), some (some 28), some (some 41), some (some 42), some (some 43), some (some 44), some (some 45), some (some 46)]))), .inl (.byte, 8), .inl (.int, 8), .inr (.inr (.inl (.array .byte, [some 29, some 30, some 31, some 32, some 33, some 34, some 35, some 36, some 37, some 38, some 39, some 40]))), .inl (.byte, 6), .inl (.byte, 6), .inl (.byte, 6), .inl (.byte, 6), .inl (.byte, 6), .inl (.byte, 6), .inl (.byte, 6), .inl (.byte, 6), .inl (.byte, 6), .inl (.byte, 6), .inl (.byte, 6), .inl (.byte, 6), .inl (.int, 12), .inl (.int, 12), .inl (.int, 12), .inl (.int, 4), .inl (.int, 6), .inl (.int, 6), .inr (.inr (.inr (6, [some (some 48), none]))), .inl (.byte, 40), .inr (.inr (.inr (6, [some (some 50), none]))), .inl (.byte, 40), .inr (.inr (.inr (5, [some (some 52), some (some 57), some (some 58)]))), .inr (.inr (.inl (.array .long, [some 53, some 54, some 55, some 56]))), .inr (.inl 40), .inr (.inl 40), .inr (.inl 40), .inr (.inl 40), .inl (.int, 4), .inl (.int, 4), .inr (.inr (.inr (10, [some (some 60), none, none, none, none, none]))), .inl (.int, 40), .inr (.inr (.inr (1, [some (some 25), none, some (some 62), some (some 63), some (some 64), none, some (some 65), some (some 66), none, none]))), .inl (.byte, 720), .inl (.int, 305), .inr (.inl 915), .inl (.int, 60), .inl (.int, 60), .inr (.inr (.inr (1, [some (some 25), none, some (some 68), some (some 69), some (some 70), none, some (some 71), some (some 72), none, none]))), .inl (.byte, 720), .inl (.int, 305), .inr (.inl 915), .inl (.int, 60), .inl (.int, 60), .inr (.inr (.inr (4, [some (some 25), some (some 67), some (some 74), none, none]))), .inr (.inr (.inr (6, [some (some 75), none]))), .inl (.byte, 40), .inr (.inr (.inr (2, [some (some 77), some (some 78)]))), .inl (.int, 6), .inl (.int, 7), .inr (.inr (.inr (3, [some (some 25), some (some 76), some (some 80), some (some 105), some (some 107), some (some 108), none, some (some 109), some (some 110), some (some 111), none, none, none, none, none, none]))), .inr (.inr (.inr (9, [none, none, none, some (some 81), some (some 95), some (some 96), some (some 97), some (some 98), some (some 99), none, none, none, none, none, some (some 100), some (some 101), none, some (some 102), some (some 103), some (some 104)]))), .inr (.inr (.inl (.array .byte, [some 82, some 83, some 84, some 85, some 86, some 87, some 88, some 89, some 90, some 91, some 92, some 93, some 94]))), .inl (.byte, 7), .inl (.byte, 7), .inl (.byte, 7), .inl (.byte, 7), .inl (.byte, 7), .inl (.byte, 7), .inl (.byte, 7), .inl (.byte, 7), .inl (.byte, 7), .inl (.byte, 7), .inl (.byte, 7), .inl (.byte, 7), .inl (.byte, 7), .inl (.int, 13), .inl (.int, 13), .inl (.int, 4), .inl (.int, 9), .inl (.int, 4), .inr (.inl 536), .inr (.inl 67), .inl (.short, 471), .inl (.short, 471), .inl (.byte, 471), .inr (.inr (.inr (6, [some (some 106), none]))), .inl (.byte, 40), .inl (.int, 3), .inl (.byte, 2826), .inl (.boolean, 4), .inr (.inr (.inl (.object "OneBreath$Sounds", [some 112, some 114, some 116, none]))), .inl (.int, 4), .inr (.inr (.inr (6, [some (some 113), none]))), .inl (.byte, 40), .inr (.inr (.inr (6, [some (some 115), none]))), .inl (.byte, 40), .inr (.inr (.inr (6, [some (some 117), none]))), .inl (.byte, 40), .inr (.inr (.inr (6, [some none, none])))]
def mg_41 : aM := (aNew mg_40 118)
def sg_37 : List aE := [.inr (.inr (.inr (11, [some (some 1), some (some 25), some (some 47), some (some 49), some (some 51), some (some 59), some (some 61), some (some 67), some (some 73), some (some 76), some none, some none, some none, some none, some none]))), .inr (.inr (.inr (7, [some (some 2), none, none, some (some 3), none, none, none, none, none]))), .inl (.byte, 500), .inr (.inr (.inr (8, [none, none, none, none, none, none, some (some 4), some (some 5), some (some 6), some (some 19), some (some 20), some (some 21), some (some 22), some (some 23), some (some 24)]))), .inl (.byte, 8), .inl (.int, 8), .inr (.inr (.inl (.array .byte, [some 7, some 8, some 9, some 10, some 11, some 12, some 13, some 14, some 15, some 16, some 17, some 18]))), .inl (.byte, 6), .inl (.byte, 6), .inl (.byte, 6), .inl (.byte, 6), .inl (.byte, 6), .inl (.byte, 6), .inl (.byte, 6), .inl (.byte, 6), .inl (.byte, 6), .inl (.byte, 6), .inl (.byte, 6), .inl (.byte, 6), .inl (.int, 12), .inl (.int, 12), .inl (.int, 12), .inl (.int, 4), .inl (.int, 6), .inl (.int, 6), .inr (.inr (.inr (8, [none, none, none, none, none, none, some (some 26), some (some 27), some (some 28), some (some 41), some (some 42), some (some 43), some (some 44), some (some 45), some (some 46)]))), .inl (.byte, 8), .inl (.int, 8), .inr (.inr (.inl (.array .byte, [some 29, some 30, some 31, some 32, some 33, some 34, some 35, some 36, some 37, some 38, some 39, some 40]))), .inl (.byte, 6), .inl (.byte, 6), .inl (.byte, 6), .inl (.byte, 6), .inl (.byte, 6), .inl (.byte, 6), .inl (.byte, 6), .inl (.byte, 6), .inl (.byte, 6), .inl (.byte, 6), .inl (.byte, 6), .inl (.byte, 6), .inl (.int, 12), .inl (.int, 12), .inl (.int, 12), .inl (.int, 4), .inl (.int, 6), .inl (.int, 6), .inr (.inr (.inr (6, [some (some 48), none]))), .inl (.byte, 40), .inr (.inr (.inr (6, [some (some 50), none]))), .inl (.byte, 40), .inr (.inr (.inr (5, [some (some 52), some (some 57), some (some 58)]))), .inr (.inr (.inl (.array .long, [some 53, some 54, some 55, some 56]))), .inr (.inl 40), .inr (.inl 40), .inr (.inl 40), .inr (.inl 40), .inl (.int, 4), .inl (.int, 4), .inr (.inr (.inr (10, [some (some 60), none, none, none, none, none]))), .inl (.int, 40), .inr (.inr (.inr (1, [some (some 25), none, some (some 62), some (some 63), some (some 64), none, some (some 65), some (some 66), none, none]))), .inl (.byte, 720), .inl (.int, 305), .inr (.inl 915), .inl (.int, 60), .inl (.int, 60), .inr (.inr (.inr (1, [some (some 25), none, some (some 68), some (some 69), some (some 70), none, some (some 71), some (some 72), none, none]))), .inl (.byte, 720), .inl (.int, 305), .inr (.inl 915), .inl (.int, 60), .inl (.int, 60), .inr (.inr (.inr (4, [some (some 25), some (some 67), some (some 74), none, none]))), .inr (.inr (.inr (6, [some (some 75), none]))), .inl (.byte, 40), .inr (.inr (.inr (2, [some (some 77), some (some 78)]))), .inl (.int, 6), .inl (.int, 7), .inr (.inr (.inr (3, [some (some 25), some (some 76), some (some 80), some (some 105), some (some 107), some (some 108), none, some (some 109), some (some 110), some (some 111), none, none, none, none, none, none]))), .inr (.inr (.inr (9, [none, none, none, some (some 81), some (some 95), some (some 96), some (some 97), some (some 98), some (some 99), none, none, none, none, none, some (some 100), some (some 101), none, some (some 102), some (some 103), some (some 104)]))), .inr (.inr (.inl (.array .byte, [some 82, some 83, some 84, some 85, some 86, some 87, some 88, some 89, some 90, some 91, some 92, some 93, some 94]))), .inl (.byte, 7), .inl (.byte, 7), .inl (.byte, 7), .inl (.byte, 7), .inl (.byte, 7), .inl (.byte, 7), .inl (.byte, 7), .inl (.byte, 7), .inl (.byte, 7), .inl (.byte, 7), .inl (.byte, 7), .inl (.byte, 7), .inl (.byte, 7), .inl (.int, 13), .inl (.int, 13), .inl (.int, 4), .inl (.int, 9), .inl (.int, 4), .inr (.inl 536), .inr (.inl 67), .inl (.short, 471), .inl (.short, 471), .inl (.byte, 471), .inr (.inr (.inr (6, [some (some 106), none]))), .inl (.byte, 40), .inl (.int, 3), .inl (.byte, 2826), .inl (.boolean, 4), .inr (.inr (.inl (.object "OneBreath$Sounds", [some 112, some 114, some 116, none]))), .inl (.int, 4), .inr (.inr (.inr (6, [some (some 113), none]))), .inl (.byte, 40), .inr (.inr (.inr (6, [some (some 115), none]))), .inl (.byte, 40), .inr (.inr (.inr (6, [some (some 117), none]))), .inl (.byte, 40), .inr (.inr (.inr (6, [some (some 119), none]))), .inl (.byte, 40)]
def mg_42 : aM := (aNew mg_41 119)
set_option maxHeartbeats 8000000 in
set_option maxRecDepth 20000 in
/-- Sounds.<init> -/
theorem ct_23 {l : Launch} {D : va_G} {cA : FieldType → ClassId} {ad adV : Nat → Nat} {z0 : Nat} : aMet l D cA ad adV z0 mX6_init 1 20 1 40 [.inr (.inr (.inl (some 118)))] sg_36 mg_41 none sg_37 mg_42 := by
  refine aMet_of (by decide +kernel) rfl (Nat.le_of_ble_eq_true rfl) (fun p e s m args below meth c al K => ?_)
  refine aw_aload_n (i := 0) K (dOf ck_mX6_init rfl rfl) rfl ?_
  refine aw_objInit (i := 1) K (dOf ck_mX6_init rfl rfl) ⟨wd_293, wd_167, wd_168⟩ (Nat.le_of_ble_eq_true rfl) ⟨Nat.le_of_ble_eq_true rfl, Nat.le_of_ble_eq_true rfl⟩ ?_
  refine aw_aload_n (i := 2) K (dOf ck_mX6_init rfl rfl) rfl ?_
  refine aw_bip (i := 3) K (dOf ck_mX6_init rfl rfl) (v := 40) rfl ?_
  refine aw_newaN (i := 4) (n := 40) (ty := .byte) K (dOf ck_mX6_init rfl rfl) rfl (by decide) wd_272 (Nat.le_of_ble_eq_true rfl) (Nat.le_of_ble_eq_true rfl) (Nat.le_of_ble_eq_true rfl) 119 rfl (fun q119 => ?_)
  refine aw_putr (i := 5) (k := 0) K (dOf ck_mX6_init rfl rfl) rfl rfl (Nat.le_of_ble_eq_true rfl) wd_294 rfl rfl rfl rfl (fitR (by decide +kernel)) ?_
  refine aw_nm (sh' := sg_37) (mm' := mg_42) rfl rfl ?_
  exact aw_vretA K (by decide +kernel) rfl (Nat.le_of_ble_eq_true rfl) (Nat.le_of_ble_eq_true rfl) (by repeat (first | exact ⟨[], (List.append_nil _).symm⟩ | exact ⟨_, rfl⟩ | apply pre_app))
def sg_38 : List aE := [.inr (.inr (.inr (11, [some (some 1), some (some 25), some (some 47), some (some 49), some (some 51), some (some 59), some (some 61), some (some 67), some (some 73), some (some 76), some none, some none, some none, some none, some none]))), .inr (.inr (.inr (7, [some (some 2), none, none, some (some 3), none, none, none, none, none]))), .inl (.byte, 500), .inr (.inr (.inr (8, [none, none, none, none, none, none, some (some 4), some (some 5), some (some 6), some (some 19), some (some 20), some (some 21), some (some 22), some (some 23), some (some 24)]))), .inl (.byte, 8), .inl (.int, 8), .inr (.inr (.inl (.array .byte, [some 7, some 8, some 9, some 10, some 11, some 12, some 13, some 14, some 15, some 16, some 17, some 18]))), .inl (.byte, 6), .inl (.byte, 6), .inl (.byte, 6), .inl (.byte, 6), .inl (.byte, 6), .inl (.byte, 6), .inl (.byte, 6), .inl (.byte, 6), .inl (.byte, 6), .inl (.byte, 6), .inl (.byte, 6), .inl (.byte, 6), .inl (.int, 12), .inl (.int, 12), .inl (.int, 12), .inl (.int, 4), .inl (.int, 6), .inl (.int, 6), .inr (.inr (.inr (8, [none, none, none, none, none, none, some (some 26), some (some 27), some (some 28), some (some 41), some (some 42), some (some 43), some (some 44), some (some 45), some (some 46)]))), .inl (.byte, 8), .inl (.int, 8), .inr (.inr (.inl (.array .byte, [some 29, some 30, some 31, some 32, some 33, some 34, some 35, some 36, some 37, some 38, some 39, some 40]))), .inl (.byte, 6), .inl (.byte, 6), .inl (.byte, 6), .inl (.byte, 6), .inl (.byte, 6), .inl (.byte, 6), .inl (.byte, 6), .inl (.byte, 6), .inl (.byte, 6), .inl (.byte, 6), .inl (.byte, 6), .inl (.byte, 6), .inl (.int, 12), .inl (.int, 12), .inl (.int, 12), .inl (.int, 4), .inl (.int, 6), .inl (.int, 6), .inr (.inr (.inr (6, [some (some 48), none]))), .inl (.byte, 40), .inr (.inr (.inr (6, [some (some 50), none]))), .inl (.byte, 40), .inr (.inr (.inr (5, [some (some 52), some (some 57), some (some 58)]))), .inr (.inr (.inl (.array .long, [some 53, some 54, some 55, some 56]))), .inr (.inl 40), .inr (.inl 40), .inr (.inl 40), .inr (.inl 40), .inl (.int, 4), .inl (.int, 4), .inr (.inr (.inr (10, [some (some 60), none, none, none, none, none]))), .inl (.int, 40), .inr (.inr (.inr (1, [some (some 25), none, some (some 62), some (some 63), some (some 64), none, some (some 65), some (some 66), none, none]))), .inl (.byte, 720), .inl (.int, 305), .inr (.inl 915), .inl (.int, 60), .inl (.int, 60), .inr (.inr (.inr (1, [some (some 25), none, some (some 68), some (some 69), some (some 70), none, some (some 71), some (some 72), none, none]))), .inl (.byte, 720), .inl (.int, 305), .inr (.inl 915), .inl (.int, 60), .inl (.int, 60), .inr (.inr (.inr (4, [some (some 25), some (some 67), some (some 74), none, none]))), .inr (.inr (.inr (6, [some (some 75), none]))), .inl (.byte, 40), .inr (.inr (.inr (2, [some (some 77), some (some 78)]))), .inl (.int, 6), .inl (.int, 7), .inr (.inr (.inr (3, [some (some 25), some (some 76), some (some 80), some (some 105), some (some 107), some (some 108), none, some (some 109), some (some 110), some (some 111), none, none, none, none, none, none]))), .inr (.inr (.inr (9, [none, none, none, some (some 81), some (some 95), some (some 96), some (some 97), some (some 98), some (some 99), none, none, none, none, none, some (some 100), some (some 101), none, some (some 102), some (some 103), some (some 104)]))), .inr (.inr (.inl (.array .byte, [some 82, some 83, some 84, some 85, some 86, some 87, some 88, some 89, some 90, some 91, some 92, some 93, some 94]))), .inl (.byte, 7), .inl (.byte, 7), .inl (.byte, 7), .inl (.byte, 7), .inl (.byte, 7), .inl (.byte, 7), .inl (.byte, 7), .inl (.byte, 7), .inl (.byte, 7), .inl (.byte, 7), .inl (.byte, 7), .inl (.byte, 7), .inl (.byte, 7), .inl (.int, 13), .inl (.int, 13), .inl (.int, 4), .inl (.int, 9), .inl (.int, 4), .inr (.inl 536), .inr (.inl 67), .inl (.short, 471), .inl (.short, 471), .inl (.byte, 471), .inr (.inr (.inr (6, [some (some 106), none]))), .inl (.byte, 40), .inl (.int, 3), .inl (.byte, 2826), .inl (.boolean, 4), .inr (.inr (.inl (.object "OneBreath$Sounds", [some 112, some 114, some 116, some 118]))), .inl (.int, 4), .inr (.inr (.inr (6, [some (some 113), none]))), .inl (.byte, 40), .inr (.inr (.inr (6, [some (some 115), none]))), .inl (.byte, 40), .inr (.inr (.inr (6, [some (some 117), none]))), .inl (.byte, 40), .inr (.inr (.inr (6, [some (some 119), none]))), .inl (.byte, 40)]
def mg_43 : aM := (aup (aup (aup mg_42 107 0 (-2)) 107 1 (-2)) 107 2 (-2))
set_option maxHeartbeats 8000000 in
set_option maxRecDepth 20000 in
/-- java/util/Arrays.fill -/
theorem ct_24 {l : Launch} {D : va_G} {cA : FieldType → ClassId} {ad adV : Nat → Nat} {z0 : Nat} : aMet l D cA ad adV z0 mJ7_fill_53178 0 0 0 0 [.inr (.inr (.inl (some 107))), .inl (-2)] sg_38 mg_42 none sg_38 mg_43 := by
  refine aMet_of (by decide +kernel) rfl (Nat.le_of_ble_eq_true rfl) (fun p e s m args below meth c al K => ?_)
  refine aw_iconst (i := 0) K (n := 0) (i32 _ rfl) (dOf ck_mJ7_fill_53178 rfl rfl) ?_
  refine aw_istore_n (i := 1) K (dOf ck_mJ7_fill_53178 rfl rfl) (Nat.le_of_ble_eq_true rfl) ?_
  refine aw_lvn (lv' := [(2, .inl 0), (0, .inr (.inr (.inl (some 107)))), (1, .inl (-2))]) rfl ?_
  refine aw_aload_n (i := 2) K (dOf ck_mJ7_fill_53178 rfl rfl) rfl ?_
  refine aw_alen (i := 3) (n := 3) K (dOf ck_mJ7_fill_53178 rfl rfl) rfl rfl (by decide) ?_
  refine aw_istore_n (i := 4) K (dOf ck_mJ7_fill_53178 rfl rfl) (Nat.le_of_ble_eq_true rfl) ?_
  refine aw_lvn (lv' := [(3, .inl 3), (2, .inl 0), (0, .inr (.inr (.inl (some 107)))), (1, .inl (-2))]) rfl ?_
  refine aw_iload_n (i := 5) K (dOf ck_mJ7_fill_53178 rfl rfl) rfl ?_
  refine aw_iload_n (i := 6) K (dOf ck_mJ7_fill_53178 rfl rfl) rfl ?_
  refine aw_icmp_ge (i := 7) K (dOf ck_mJ7_fill_53178 rfl rfl) (t := 14) (aJ_of (by decide +kernel)) (fun z => absurd z (by decide)) (fun _ => ?_)
  refine aw_aload_n (i := 8) K (dOf ck_mJ7_fill_53178 rfl rfl) rfl ?_
  refine aw_iload_n (i := 9) K (dOf ck_mJ7_fill_53178 rfl rfl) rfl ?_
  refine aw_iload_n (i := 10) K (dOf ck_mJ7_fill_53178 rfl rfl) rfl ?_
  refine aw_iast (i := 11) K (dOf ck_mJ7_fill_53178 rfl rfl) rfl (by decide) ?_
  refine aw_iinc (i := 12) K (dOf ck_mJ7_fill_53178 rfl rfl) (Nat.le_of_ble_eq_true rfl) rfl ?_
  refine aw_lvn (lv' := [(2, .inl 1), (3, .inl 3), (0, .inr (.inr (.inl (some 107)))), (1, .inl (-2))]) rfl ?_
  refine aw_goto (i := 13) K (dOf ck_mJ7_fill_53178 rfl rfl).1 (t := 5) (aJ_of (by decide +kernel)) ?_
  refine aw_iload_n (i := 5) K (dOf ck_mJ7_fill_53178 rfl rfl) rfl ?_
  refine aw_iload_n (i := 6) K (dOf ck_mJ7_fill_53178 rfl rfl) rfl ?_
  refine aw_icmp_ge (i := 7) K (dOf ck_mJ7_fill_53178 rfl rfl) (t := 14) (aJ_of (by decide +kernel)) (fun z => absurd z (by decide)) (fun _ => ?_)
  refine aw_aload_n (i := 8) K (dOf ck_mJ7_fill_53178 rfl rfl) rfl ?_
  refine aw_iload_n (i := 9) K (dOf ck_mJ7_fill_53178 rfl rfl) rfl ?_
  refine aw_iload_n (i := 10) K (dOf ck_mJ7_fill_53178 rfl rfl) rfl ?_
  refine aw_iast (i := 11) K (dOf ck_mJ7_fill_53178 rfl rfl) rfl (by decide) ?_
  refine aw_iinc (i := 12) K (dOf ck_mJ7_fill_53178 rfl rfl) (Nat.le_of_ble_eq_true rfl) rfl ?_
  refine aw_lvn (lv' := [(2, .inl 2), (3, .inl 3), (0, .inr (.inr (.inl (some 107)))), (1, .inl (-2))]) rfl ?_
  refine aw_goto (i := 13) K (dOf ck_mJ7_fill_53178 rfl rfl).1 (t := 5) (aJ_of (by decide +kernel)) ?_
  refine aw_iload_n (i := 5) K (dOf ck_mJ7_fill_53178 rfl rfl) rfl ?_
  refine aw_iload_n (i := 6) K (dOf ck_mJ7_fill_53178 rfl rfl) rfl ?_
  refine aw_icmp_ge (i := 7) K (dOf ck_mJ7_fill_53178 rfl rfl) (t := 14) (aJ_of (by decide +kernel)) (fun z => absurd z (by decide)) (fun _ => ?_)
  refine aw_aload_n (i := 8) K (dOf ck_mJ7_fill_53178 rfl rfl) rfl ?_
  refine aw_iload_n (i := 9) K (dOf ck_mJ7_fill_53178 rfl rfl) rfl ?_
  refine aw_iload_n (i := 10) K (dOf ck_mJ7_fill_53178 rfl rfl) rfl ?_
  refine aw_iast (i := 11) K (dOf ck_mJ7_fill_53178 rfl rfl) rfl (by decide) ?_
  refine aw_iinc (i := 12) K (dOf ck_mJ7_fill_53178 rfl rfl) (Nat.le_of_ble_eq_true rfl) rfl ?_
  refine aw_lvn (lv' := [(2, .inl 3), (3, .inl 3), (0, .inr (.inr (.inl (some 107)))), (1, .inl (-2))]) rfl ?_
  refine aw_goto (i := 13) K (dOf ck_mJ7_fill_53178 rfl rfl).1 (t := 5) (aJ_of (by decide +kernel)) ?_
  refine aw_iload_n (i := 5) K (dOf ck_mJ7_fill_53178 rfl rfl) rfl ?_
  refine aw_iload_n (i := 6) K (dOf ck_mJ7_fill_53178 rfl rfl) rfl ?_
  refine aw_icmp_ge (i := 7) K (dOf ck_mJ7_fill_53178 rfl rfl) (t := 14) (aJ_of (by decide +kernel)) (fun _ => ?_) (fun z => absurd (by decide) z)
  refine aw_nm (sh' := sg_38) (mm' := mg_43) rfl rfl ?_
  exact aw_vretA K (by decide +kernel) rfl (Nat.le_of_ble_eq_true rfl) (Nat.le_of_ble_eq_true rfl) (by repeat (first | exact ⟨[], (List.append_nil _).symm⟩ | exact ⟨_, rfl⟩ | apply pre_app))
def mg_44 : aM := (aup (aup (aup (aup (aup (aup (aup (aup mg_43 79 6 0) 109 0 0) 109 1 0) 109 2 0) 109 3 0) 79 10 (-2)) 79 11 0) 79 15 (-2))
set_option maxHeartbeats 8000000 in
set_option maxRecDepth 20000 in
/-- Mender.forget -/
theorem ct_25 {l : Launch} {D : va_G} {cA : FieldType → ClassId} {ad adV : Nat → Nat} {z0 : Nat} : aMet l D cA ad adV z0 mX3_forget 1 23 0 0 [.inr (.inr (.inl (some 79)))] sg_38 mg_42 none sg_38 mg_44 := by
  refine aMet_of (by decide +kernel) rfl (Nat.le_of_ble_eq_true rfl) (fun p e s m args below meth c al K => ?_)
  refine aw_aload_n (i := 0) K (dOf ck_mX3_forget rfl rfl) rfl ?_
  refine aw_getf (i := 1) (k := 4) K (dOf ck_mX3_forget rfl rfl) rfl rfl (Nat.le_of_ble_eq_true rfl) wd_422 rfl ?_
  refine aw_bip (i := 2) K (dOf ck_mX3_forget rfl rfl) (v := -2) rfl ?_
  refine aw_nm (sh' := sg_38) (mm' := mg_42) rfl rfl ?_
  refine aw_callS (i := 3) (as := [.inr (.inr (.inl (some 107))), .inl (-2)]) K (dOf ck_mX3_forget rfl rfl) al_OneBreath_Mender_55 wd_186 rfl (Nat.le_of_ble_eq_true rfl) ⟨Nat.le_of_ble_eq_true rfl, Nat.le_of_ble_eq_true rfl⟩ ⟨Nat.le_of_ble_eq_true rfl, Nat.le_of_ble_eq_true rfl⟩ (Nat.le_of_ble_eq_true rfl) ct_24 (fun bl25 => ?_)
  refine aw_aload_n (i := 4) K (dOf ck_mX3_forget rfl rfl) rfl ?_
  refine aw_iconst (i := 5) K (n := 0) (i32 _ rfl) (dOf ck_mX3_forget rfl rfl) ?_
  refine aw_putf (i := 6) (k := 6) K (dOf ck_mX3_forget rfl rfl) rfl rfl (Nat.le_of_ble_eq_true rfl) wd_424 rfl rfl (Or.inr ⟨rfl, by decide⟩) ?_
  refine aw_iconst (i := 7) K (n := 0) (i32 _ rfl) (dOf ck_mX3_forget rfl rfl) ?_
  refine aw_istore_n (i := 8) K (dOf ck_mX3_forget rfl rfl) (Nat.le_of_ble_eq_true rfl) ?_
  refine aw_lvn (lv' := [(1, .inl 0), (0, .inr (.inr (.inl (some 79))))]) rfl ?_
  refine aw_iload_n (i := 9) K (dOf ck_mX3_forget rfl rfl) rfl ?_
  refine aw_iconst (i := 10) K (n := 4) (i32 _ rfl) (dOf ck_mX3_forget rfl rfl) ?_
  refine aw_icmp_ge (i := 11) K (dOf ck_mX3_forget rfl rfl) (t := 19) (aJ_of (by decide +kernel)) (fun z => absurd z (by decide)) (fun _ => ?_)
  refine aw_aload_n (i := 12) K (dOf ck_mX3_forget rfl rfl) rfl ?_
  refine aw_getf (i := 13) (k := 7) K (dOf ck_mX3_forget rfl rfl) rfl rfl (Nat.le_of_ble_eq_true rfl) wd_425 rfl ?_
  refine aw_iload_n (i := 14) K (dOf ck_mX3_forget rfl rfl) rfl ?_
  refine aw_iconst (i := 15) K (n := 0) (i32 _ rfl) (dOf ck_mX3_forget rfl rfl) ?_
  refine aw_zast (i := 16) K (dOf ck_mX3_forget rfl rfl) rfl (by decide) (by decide) ?_
  refine aw_iinc (i := 17) K (dOf ck_mX3_forget rfl rfl) (Nat.le_of_ble_eq_true rfl) rfl ?_
  refine aw_lvn (lv' := [(1, .inl 1), (0, .inr (.inr (.inl (some 79))))]) rfl ?_
  refine aw_goto (i := 18) K (dOf ck_mX3_forget rfl rfl).1 (t := 9) (aJ_of (by decide +kernel)) ?_
  refine aw_iload_n (i := 9) K (dOf ck_mX3_forget rfl rfl) rfl ?_
  refine aw_iconst (i := 10) K (n := 4) (i32 _ rfl) (dOf ck_mX3_forget rfl rfl) ?_
  refine aw_icmp_ge (i := 11) K (dOf ck_mX3_forget rfl rfl) (t := 19) (aJ_of (by decide +kernel)) (fun z => absurd z (by decide)) (fun _ => ?_)
  refine aw_aload_n (i := 12) K (dOf ck_mX3_forget rfl rfl) rfl ?_
  refine aw_getf (i := 13) (k := 7) K (dOf ck_mX3_forget rfl rfl) rfl rfl (Nat.le_of_ble_eq_true rfl) wd_425 rfl ?_
  refine aw_iload_n (i := 14) K (dOf ck_mX3_forget rfl rfl) rfl ?_
  refine aw_iconst (i := 15) K (n := 0) (i32 _ rfl) (dOf ck_mX3_forget rfl rfl) ?_
  refine aw_zast (i := 16) K (dOf ck_mX3_forget rfl rfl) rfl (by decide) (by decide) ?_
  refine aw_iinc (i := 17) K (dOf ck_mX3_forget rfl rfl) (Nat.le_of_ble_eq_true rfl) rfl ?_
  refine aw_lvn (lv' := [(1, .inl 2), (0, .inr (.inr (.inl (some 79))))]) rfl ?_
  refine aw_goto (i := 18) K (dOf ck_mX3_forget rfl rfl).1 (t := 9) (aJ_of (by decide +kernel)) ?_
  refine aw_iload_n (i := 9) K (dOf ck_mX3_forget rfl rfl) rfl ?_
  refine aw_iconst (i := 10) K (n := 4) (i32 _ rfl) (dOf ck_mX3_forget rfl rfl) ?_
  refine aw_icmp_ge (i := 11) K (dOf ck_mX3_forget rfl rfl) (t := 19) (aJ_of (by decide +kernel)) (fun z => absurd z (by decide)) (fun _ => ?_)
  refine aw_aload_n (i := 12) K (dOf ck_mX3_forget rfl rfl) rfl ?_
  refine aw_getf (i := 13) (k := 7) K (dOf ck_mX3_forget rfl rfl) rfl rfl (Nat.le_of_ble_eq_true rfl) wd_425 rfl ?_
  refine aw_iload_n (i := 14) K (dOf ck_mX3_forget rfl rfl) rfl ?_
  refine aw_iconst (i := 15) K (n := 0) (i32 _ rfl) (dOf ck_mX3_forget rfl rfl) ?_
  refine aw_zast (i := 16) K (dOf ck_mX3_forget rfl rfl) rfl (by decide) (by decide) ?_
  refine aw_iinc (i := 17) K (dOf ck_mX3_forget rfl rfl) (Nat.le_of_ble_eq_true rfl) rfl ?_
  refine aw_lvn (lv' := [(1, .inl 3), (0, .inr (.inr (.inl (some 79))))]) rfl ?_
  refine aw_goto (i := 18) K (dOf ck_mX3_forget rfl rfl).1 (t := 9) (aJ_of (by decide +kernel)) ?_
  refine aw_iload_n (i := 9) K (dOf ck_mX3_forget rfl rfl) rfl ?_
  refine aw_iconst (i := 10) K (n := 4) (i32 _ rfl) (dOf ck_mX3_forget rfl rfl) ?_
  refine aw_icmp_ge (i := 11) K (dOf ck_mX3_forget rfl rfl) (t := 19) (aJ_of (by decide +kernel)) (fun z => absurd z (by decide)) (fun _ => ?_)
  refine aw_aload_n (i := 12) K (dOf ck_mX3_forget rfl rfl) rfl ?_
  refine aw_getf (i := 13) (k := 7) K (dOf ck_mX3_forget rfl rfl) rfl rfl (Nat.le_of_ble_eq_true rfl) wd_425 rfl ?_
  refine aw_iload_n (i := 14) K (dOf ck_mX3_forget rfl rfl) rfl ?_
  refine aw_iconst (i := 15) K (n := 0) (i32 _ rfl) (dOf ck_mX3_forget rfl rfl) ?_
  refine aw_zast (i := 16) K (dOf ck_mX3_forget rfl rfl) rfl (by decide) (by decide) ?_
  refine aw_iinc (i := 17) K (dOf ck_mX3_forget rfl rfl) (Nat.le_of_ble_eq_true rfl) rfl ?_
  refine aw_lvn (lv' := [(1, .inl 4), (0, .inr (.inr (.inl (some 79))))]) rfl ?_
  refine aw_goto (i := 18) K (dOf ck_mX3_forget rfl rfl).1 (t := 9) (aJ_of (by decide +kernel)) ?_
  refine aw_iload_n (i := 9) K (dOf ck_mX3_forget rfl rfl) rfl ?_
  refine aw_iconst (i := 10) K (n := 4) (i32 _ rfl) (dOf ck_mX3_forget rfl rfl) ?_
  refine aw_icmp_ge (i := 11) K (dOf ck_mX3_forget rfl rfl) (t := 19) (aJ_of (by decide +kernel)) (fun _ => ?_) (fun z => absurd (by decide) z)
  refine aw_aload_n (i := 19) K (dOf ck_mX3_forget rfl rfl) rfl ?_
  refine aw_bip (i := 20) K (dOf ck_mX3_forget rfl rfl) (v := -2) rfl ?_
  refine aw_putf (i := 21) (k := 10) K (dOf ck_mX3_forget rfl rfl) rfl rfl (Nat.le_of_ble_eq_true rfl) wd_430 rfl rfl (Or.inl rfl) ?_
  refine aw_aload_n (i := 22) K (dOf ck_mX3_forget rfl rfl) rfl ?_
  refine aw_iconst (i := 23) K (n := 0) (i32 _ rfl) (dOf ck_mX3_forget rfl rfl) ?_
  refine aw_putf (i := 24) (k := 11) K (dOf ck_mX3_forget rfl rfl) rfl rfl (Nat.le_of_ble_eq_true rfl) wd_431 rfl rfl (Or.inr ⟨rfl, by decide⟩) ?_
  refine aw_aload_n (i := 25) K (dOf ck_mX3_forget rfl rfl) rfl ?_
  refine aw_bip (i := 26) K (dOf ck_mX3_forget rfl rfl) (v := -2) rfl ?_
  refine aw_putf (i := 27) (k := 15) K (dOf ck_mX3_forget rfl rfl) rfl rfl (Nat.le_of_ble_eq_true rfl) wd_438 rfl rfl (Or.inl rfl) ?_
  refine aw_nm (sh' := sg_38) (mm' := mg_44) rfl rfl ?_
  exact aw_vretA K (by decide +kernel) rfl (Nat.le_of_ble_eq_true rfl) (Nat.le_of_ble_eq_true rfl) (by repeat (first | exact ⟨[], (List.append_nil _).symm⟩ | exact ⟨_, rfl⟩ | apply pre_app))
