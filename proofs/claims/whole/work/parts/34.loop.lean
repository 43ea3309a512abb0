/-! THE LAW: its start, its loop, over what holds between two calls -/
def lawS_0 (I : Nat → aM → Prop) : Prop := ∀ (n : Nat) (mm : aM), n < 64 → I n mm → ∀ (x1 x2 x3 x4 x5 : Int), in32 x1 → in32 x2 → in32 x3 → in32 x4 → in32 x5 → ∃ (r : Int) (mm1 mm2 : aM), B_feed x1 x2 x3 x4 x5 mm = some (r, mm1) ∧ R_feed x1 x2 x3 x4 x5 mm1 = some (r, mm2) ∧ I (n + 1) mm2
def lawS_1 (I : Nat → aM → Prop) : Prop := ∀ (n : Nat) (mm : aM), n < 64 → I n mm → ∀ (x1 : Int), in32 x1 → ∃ (r : Int) (mm1 mm2 : aM), B_tongue x1 mm = some (r, mm1) ∧ R_tongue x1 mm1 = some (r, mm2) ∧ I (n + 1) mm2
def lawS_2 (I : Nat → aM → Prop) : Prop := ∀ (n : Nat) (mm : aM), n < 64 → I n mm → ∀ (x1 : Int), in32 x1 → ∃ (r : Int) (mm2 : aM), B_fault x1 mm = some r ∧ R_fault x1 mm = some (r, mm2) ∧ I (n + 1) mm2
def lawS_3 (I : Nat → aM → Prop) : Prop := ∀ (n : Nat) (mm : aM), n < 64 → I n mm → ∀ (x1 x2 : Int), in32 x1 → in32 x2 → ∃ (r : Int) (mm2 : aM), B_sound x1 x2 mm = some r ∧ R_sound x1 x2 mm = some (r, mm2) ∧ I (n + 1) mm2
def lawS_4 (I : Nat → aM → Prop) : Prop := ∀ (n : Nat) (mm : aM), n < 64 → I n mm → ∀ (x1 x2 : Int), in32 x1 → in32 x2 → ∃ (r : Int) (mm2 : aM), B_word x1 x2 mm = some r ∧ R_word x1 x2 mm = some (r, mm2) ∧ I (n + 1) mm2
def lawS_5 (I : Nat → aM → Prop) : Prop := ∀ (n : Nat) (mm : aM), n < 64 → I n mm → ∀ (x1 x2 : Int), in32 x1 → in32 x2 → ∃ (r : Int) (mm2 : aM), B_shape x1 x2 mm = some r ∧ R_shape x1 x2 mm = some (r, mm2) ∧ I (n + 1) mm2
def lawS_6 (I : Nat → aM → Prop) : Prop := ∀ (n : Nat) (mm : aM), n < 64 → I n mm → ∀ (x1 : Int), in32 x1 → ∃ (r : Int) (mm2 : aM), B_behind x1 mm = some r ∧ R_behind x1 mm = some (r, mm2) ∧ I (n + 1) mm2
def lawS_7 (I : Nat → aM → Prop) : Prop := ∀ (n : Nat) (mm : aM), n < 64 → I n mm → ∀ (x1 : Int), in32 x1 → ∃ (r : Int) (mm2 : aM), B_ends x1 mm = some r ∧ R_ends x1 mm = some (r, mm2) ∧ I (n + 1) mm2
def lawS_8 (I : Nat → aM → Prop) : Prop := ∀ (n : Nat) (mm : aM), n < 64 → I n mm → ∀ (x1 : Int), in32 x1 → ∃ (r : Int) (mm1 mm2 : aM), B_spelt x1 mm = some (r, mm1) ∧ R_spelt x1 mm1 = some (r, mm2) ∧ I (n + 1) mm2
def lawS_9 (I : Nat → aM → Prop) : Prop := ∀ (n : Nat) (mm : aM), n < 64 → I n mm → ∀ (x1 x2 : Int), in32 x1 → in32 x2 → ∃ (r : Int) (mm1 mm2 : aM), B_unlike x1 x2 mm = some (r, mm1) ∧ R_unlike x1 x2 mm1 = some (r, mm2) ∧ I (n + 1) mm2
def lawS_10 (I : Nat → aM → Prop) : Prop := ∀ (n : Nat) (mm : aM), n < 64 → I n mm → ∀ (x1 : Int), in32 x1 → ∃ (r : Int) (mm1 mm2 : aM), B_near x1 mm = some (r, mm1) ∧ R_near x1 mm1 = some (r, mm2) ∧ I (n + 1) mm2
def lawS_11 (I : Nat → aM → Prop) : Prop := ∀ (n : Nat) (mm : aM), n < 64 → I n mm → ∀ (x1 x2 : Int), in32 x1 → in32 x2 → ∃ (r : Int) (mm1 mm2 : aM), B_judge x1 x2 mm = some (r, mm1) ∧ R_judge x1 x2 mm1 = some (r, mm2) ∧ I (n + 1) mm2
def lawS_12 (I : Nat → aM → Prop) : Prop := ∀ (n : Nat) (mm : aM), n < 64 → I n mm → ∀ (x1 : Int), in32 x1 → ∃ (r : Int) (mm1 mm2 : aM), B_say x1 mm = some (r, mm1) ∧ R_say x1 mm1 = some (r, mm2) ∧ I (n + 1) mm2
def lawS_13 (I : Nat → aM → Prop) : Prop := ∀ (n : Nat) (mm : aM), n < 64 → I n mm → ∀ (x1 : Int), in32 x1 → ∃ (r : Int) (mm1 mm2 : aM), B_line x1 mm = some (r, mm1) ∧ R_line x1 mm1 = some (r, mm2) ∧ I (n + 1) mm2
def lawS_14 (I : Nat → aM → Prop) : Prop := ∀ (n : Nat) (mm : aM), n < 64 → I n mm → ∀ (x1 : Int), in32 x1 → ∃ (r : Int) (mm2 : aM), B_at x1 mm = some r ∧ R_at x1 mm = some (r, mm2) ∧ I (n + 1) mm2
def lawS_15 (I : Nat → aM → Prop) : Prop := ∀ (n : Nat) (mm : aM), n < 64 → I n mm → ∀ (x1 : Int), in32 x1 → ∃ (r : Int) (mm1 mm2 : aM), B_cuts x1 mm = some (r, mm1) ∧ R_cuts x1 mm1 = some (r, mm2) ∧ I (n + 1) mm2
def lawS_16 (I : Nat → aM → Prop) : Prop := ∀ (n : Nat) (mm : aM), n < 64 → I n mm → ∀ (x1 x2 : Int), in32 x1 → in32 x2 → ∃ (r : Int) (mm1 mm2 : aM), B_cut x1 x2 mm = some (r, mm1) ∧ R_cut x1 x2 mm1 = some (r, mm2) ∧ I (n + 1) mm2
def lawS_17 (I : Nat → aM → Prop) : Prop := ∀ (n : Nat) (mm : aM), n < 64 → I n mm → ∃ (r : Int) (mm1 mm2 : aM), B_mistakes mm = some (r, mm1) ∧ R_mistakes mm1 = some (r, mm2) ∧ I (n + 1) mm2
def lawS_18 (I : Nat → aM → Prop) : Prop := ∀ (n : Nat) (mm : aM), n < 64 → I n mm → ∀ (x1 : Int), in32 x1 → ∃ (r : Int) (mm1 mm2 : aM), B_bound x1 mm = some (r, mm1) ∧ R_bound x1 mm1 = some (r, mm2) ∧ I (n + 1) mm2
def lawS_19 (I : Nat → aM → Prop) : Prop := ∀ (n : Nat) (mm : aM), n < 64 → I n mm → ∀ (x1 : Int), in32 x1 → ∃ (r : Int) (mm1 mm2 : aM), B_unsure x1 mm = some (r, mm1) ∧ R_unsure x1 mm1 = some (r, mm2) ∧ I (n + 1) mm2
def lawS_20 (I : Nat → aM → Prop) : Prop := ∀ (n : Nat) (mm : aM), n < 64 → I n mm → ∀ (x1 : Int), in32 x1 → ∃ (r : Int) (mm1 mm2 : aM), B_unsureAt x1 mm = some (r, mm1) ∧ R_unsureAt x1 mm1 = some (r, mm2) ∧ I (n + 1) mm2
def lawS_21 (I : Nat → aM → Prop) : Prop := ∀ (n : Nat) (mm : aM), n < 64 → I n mm → ∃ (r : Int) (mm1 mm2 : aM), B_bears mm = some (r, mm1) ∧ R_bears mm1 = some (r, mm2) ∧ I (n + 1) mm2
def lawS_22 (I : Nat → aM → Prop) : Prop := ∀ (n : Nat) (mm : aM), n < 64 → I n mm → ∀ (x1 x2 : Int), in32 x1 → in32 x2 → ∃ (r : Int) (mm1 mm2 : aM), B_added x1 x2 mm = some (r, mm1) ∧ R_added x1 x2 mm1 = some (r, mm2) ∧ I (n + 1) mm2
def lawS_23 (I : Nat → aM → Prop) : Prop := ∀ (n : Nat) (mm : aM), n < 64 → I n mm → ∀ (x1 x2 x3 : Int), in32 x1 → in32 x2 → in32 x3 → ∃ (r : Int) (mm1 mm2 : aM), B_adds x1 x2 x3 mm = some (r, mm1) ∧ R_adds x1 x2 x3 mm1 = some (r, mm2) ∧ I (n + 1) mm2
def lawS_24 (I : Nat → aM → Prop) : Prop := ∀ (n : Nat) (mm : aM), n < 64 → I n mm → ∀ (x1 : Int), in32 x1 → ∃ (r : Int) (mm1 mm2 : aM), B_mended x1 mm = some (r, mm1) ∧ R_mended x1 mm1 = some (r, mm2) ∧ I (n + 1) mm2
def lawS_25 (I : Nat → aM → Prop) : Prop := ∀ (n : Nat) (mm : aM), n < 64 → I n mm → ∀ (x1 : Int), in32 x1 → ∃ (r : Int) (mm1 mm2 : aM), B_changed x1 mm = some (r, mm1) ∧ R_changed x1 mm1 = some (r, mm2) ∧ I (n + 1) mm2
def lawS_26 (I : Nat → aM → Prop) : Prop := ∀ (n : Nat) (mm : aM), n < 64 → I n mm → ∀ (x1 : Int), in32 x1 → ∃ (r : Int) (mm1 mm2 : aM), B_paused x1 mm = some (r, mm1) ∧ R_paused x1 mm1 = some (r, mm2) ∧ I (n + 1) mm2
def lawS_27 (I : Nat → aM → Prop) : Prop := ∀ (n : Nat) (mm : aM), n < 64 → I n mm → ∀ (x1 : Int), in32 x1 → ∃ (r : Int) (mm2 : aM), B_begun x1 mm = some r ∧ R_begun x1 mm = some (r, mm2) ∧ I (n + 1) mm2
def lawS_28 (I : Nat → aM → Prop) : Prop := ∀ (n : Nat) (mm : aM), n < 64 → I n mm → ∀ (x1 x2 : Int), in32 x1 → in32 x2 → ∃ (r : Int) (mm1 mm2 : aM), B_fitted x1 x2 mm = some (r, mm1) ∧ R_fitted x1 x2 mm1 = some (r, mm2) ∧ I (n + 1) mm2
def lawS_29 (I : Nat → aM → Prop) : Prop := ∀ (n : Nat) (mm : aM), n < 64 → I n mm → ∃ (r : Int) (mm2 : aM), B_talk mm = some r ∧ R_talk mm = some (r, mm2) ∧ I (n + 1) mm2
def lawS_30 (I : Nat → aM → Prop) : Prop := ∀ (n : Nat) (mm : aM), n < 64 → I n mm → ∀ (x1 : Int), in32 x1 → ∃ (r : Int) (mm1 mm2 : aM), B_code x1 mm = some (r, mm1) ∧ R_code x1 mm1 = some (r, mm2) ∧ I (n + 1) mm2
def lawS_31 (I : Nat → aM → Prop) : Prop := ∀ (n : Nat) (mm : aM), n < 64 → I n mm → ∀ (x1 : Int), in32 x1 → ∃ (r : Int) (mm1 mm2 : aM), B_said x1 mm = some (r, mm1) ∧ R_said x1 mm1 = some (r, mm2) ∧ I (n + 1) mm2
def lawS_32 (I : Nat → aM → Prop) : Prop := ∀ (n : Nat) (mm : aM), n < 64 → I n mm → ∀ (x1 x2 : Int), in32 x1 → in32 x2 → ∃ (r : Int) (mm1 mm2 : aM), B_richest x1 x2 mm = some (r, mm1) ∧ R_richest x1 x2 mm1 = some (r, mm2) ∧ I (n + 1) mm2
def lawS_33 (I : Nat → aM → Prop) : Prop := ∀ (n : Nat) (mm : aM), n < 64 → I n mm → ∃ (r : Int) (mm1 mm2 : aM), B_endless mm = some (r, mm1) ∧ R_endless mm1 = some (r, mm2) ∧ I (n + 1) mm2
def lawS_34 (I : Nat → aM → Prop) : Prop := ∀ (n : Nat) (mm : aM), n < 64 → I n mm → ∃ (r : Int) (mm1 mm2 : aM), B_longest mm = some (r, mm1) ∧ R_longest mm1 = some (r, mm2) ∧ I (n + 1) mm2
def lawS_35 (I : Nat → aM → Prop) : Prop := ∀ (n : Nat) (mm : aM), n < 64 → I n mm → ∀ (x1 x2 x3 x4 : Int), in32 x1 → in32 x2 → in32 x3 → in32 x4 → ∃ (r : Int) (mm1 mm2 : aM), B_noise x1 x2 x3 x4 mm = some (r, mm1) ∧ R_noise x1 x2 x3 x4 mm1 = some (r, mm2) ∧ I (n + 1) mm2
def lawS_36 (I : Nat → aM → Prop) : Prop := ∀ (n : Nat) (mm : aM), n < 64 → I n mm → ∀ (x1 x2 x3 : Int), in32 x1 → in32 x2 → in32 x3 → ∃ (r : Int) (mm1 mm2 : aM), B_asked x1 x2 x3 mm = some (r, mm1) ∧ R_asked x1 x2 x3 mm1 = some (r, mm2) ∧ I (n + 1) mm2
def lawS_37 (I : Nat → aM → Prop) : Prop := ∀ (n : Nat) (mm : aM), n < 64 → I n mm → ∃ (r : Int) (mm2 : aM), B_tree mm = some r ∧ R_tree mm = some (r, mm2) ∧ I (n + 1) mm2
def lawS_38 (I : Nat → aM → Prop) : Prop := ∀ (n : Nat) (mm : aM), n < 64 → I n mm → ∀ (x1 x2 : Int), in32 x1 → in32 x2 → ∃ (r : Int) (mm1 mm2 : aM), B_limb x1 x2 mm = some (r, mm1) ∧ R_limb x1 x2 mm1 = some (r, mm2) ∧ I (n + 1) mm2
def lawS_39 (I : Nat → aM → Prop) : Prop := ∀ (n : Nat) (mm : aM), n < 64 → I n mm → ∀ (x1 x2 x3 : Int), in32 x1 → in32 x2 → in32 x3 → ∃ (r : Int) (mm1 mm2 : aM), B_numbers x1 x2 x3 mm = some (r, mm1) ∧ R_numbers x1 x2 x3 mm1 = some (r, mm2) ∧ I (n + 1) mm2
def lawS_40 (I : Nat → aM → Prop) : Prop := ∀ (n : Nat) (mm : aM), n < 64 → I n mm → ∀ (x1 x2 x3 : Int), in32 x1 → in32 x2 → ∃ (r : Int) (mm1 mm2 : aM), B_write x1 x2 x3 mm = some (r, mm1) ∧ R_write x1 x2 x3 mm1 = some (r, mm2) ∧ I (n + 1) mm2
def lawS_41 (I : Nat → aM → Prop) : Prop := ∀ (n : Nat) (mm : aM), n < 64 → I n mm → ∀ (x1 x2 : Int), in32 x1 → in32 x2 → ∃ (r : Int) (mm1 mm2 : aM), B_copy x1 x2 mm = some (r, mm1) ∧ R_copy x1 x2 mm1 = some (r, mm2) ∧ I (n + 1) mm2
def lawS_42 (I : Nat → aM → Prop) : Prop := ∀ (n : Nat) (mm : aM), n < 64 → I n mm → ∀ (x1 : Int), in32 x1 → ∃ (r : Int) (mm1 mm2 : aM), B_image x1 mm = some (r, mm1) ∧ R_image x1 mm1 = some (r, mm2) ∧ I (n + 1) mm2
def lawS_43 (I : Nat → aM → Prop) : Prop := ∀ (n : Nat) (mm : aM), n < 64 → I n mm → ∀ (x1 : Int), in32 x1 → ∃ (r : Int) (mm1 mm2 : aM), B_restore x1 mm = some (r, mm1) ∧ R_restore x1 mm1 = some (r, mm2) ∧ I (n + 1) mm2
def lawS_44 (I : Nat → aM → Prop) : Prop := ∀ (n : Nat) (mm : aM), n < 64 → I n mm → ∀ (x1 : Int), in32 x1 → ∃ (r : Int) (mm2 : aM), B_count x1 mm = some r ∧ R_count x1 mm = some (r, mm2) ∧ I (n + 1) mm2
def lawS (I : Nat → aM → Prop) : Prop := lawS_0 I ∧ lawS_1 I ∧ lawS_2 I ∧ lawS_3 I ∧ lawS_4 I ∧ lawS_5 I ∧ lawS_6 I ∧ lawS_7 I ∧ lawS_8 I ∧ lawS_9 I ∧ lawS_10 I ∧ lawS_11 I ∧ lawS_12 I ∧ lawS_13 I ∧ lawS_14 I ∧ lawS_15 I ∧ lawS_16 I ∧ lawS_17 I ∧ lawS_18 I ∧ lawS_19 I ∧ lawS_20 I ∧ lawS_21 I ∧ lawS_22 I ∧ lawS_23 I ∧ lawS_24 I ∧ lawS_25 I ∧ lawS_26 I ∧ lawS_27 I ∧ lawS_28 I ∧ lawS_29 I ∧ lawS_30 I ∧ lawS_31 I ∧ lawS_32 I ∧ lawS_33 I ∧ lawS_34 I ∧ lawS_35 I ∧ lawS_36 I ∧ lawS_37 I ∧ lawS_38 I ∧ lawS_39 I ∧ lawS_40 I ∧ lawS_41 I ∧ lawS_42 I ∧ lawS_43 I ∧ lawS_44 I
theorem law_dr : decode code 1501 = .ok (.ireturn, 1) := by decide +kernel
set_option maxRecDepth 100000 in
theorem law_end {p : Program} {l : Launch} {e : Env} {s : State} {m : MethodId} {below : List Frame} {meth : Method} {c : Code} {D : va_G} {cA : FieldType → ClassId} {ad adV : Nat → Nat} {nm : String} {b : Nat} (K : aK p s m #[Value.ref b] meth c (mL_law nm) D cA ad adV s.heap.size) {al : List Nat} {lv : List (Nat × aV)} {mm : aM} : AW p l e room_1 s m #[Value.ref b] below meth c (lw_Z below #[Value.ref b] s) D cA ad s.heap.size (mL_law nm) al 1014 lv [] SH mm 208 402394 := by
  refine aw_iconst (i := 1014) K (n := 1) (i32 _ rfl) (dOf ck_mL_law rfl rfl) ?_
  intro H locs ls hW hst hlv hl
  refine va_forget (fun q hq => hW.2.2.1.2.2 q hq) ?_
  refine W.widen (k := 600000) (n := 7302250) (by decide) (by decide) ?_
  exact lw_ret K.1 K.2.1 K.2.2.2.2.2.2.1 K.2.2.2.2.2.1 law_dr
def law_offs : Array Int := #[195, 258, 281, 304, 337, 370, 403, 426, 449, 472, 505, 528, 561, 584, 607, 630, 653, 686, 699, 722, 745, 768, 781, 814, 857, 880, 903, 926, 949, 982, 995, 1018, 1041, 1074, 1087, 1100, 1153, 1196, 1209, 1242, 1285, 1359, 1392, 1415, 1438]
set_option maxRecDepth 100000 in
theorem law_sw {nm : String} : decode (mL_law nm).2.1 (aPc (mL_law nm) 21) = .ok (.tableswitch 1461 0 44 law_offs, 195) := (dOf ck_mL_law rfl rfl).1
set_option maxHeartbeats 8000000 in
set_option maxRecDepth 100000 in
theorem law_disp {p : Program} {l : Launch} {e : Env} {s : State} {m : MethodId} {below : List Frame} {meth : Method} {c : Code} {D : va_G} {cA : FieldType → ClassId} {ad adV : Nat → Nat} {nm : String} {b L : Nat} {xs : Nat → Int32} (K : aK p s m #[Value.ref b] meth c (mL_law nm) D cA ad adV s.heap.size) (hX : va_X (ad 21) L xs s s.heap) (hb : ad 21 < s.heap.size) (hL : L ≤ 384) {I : Nat → aM → Prop} (hS : lawS I) (hI : ∀ n mm, I n mm → I (n + 1) mm) {n : Nat} {al : List Nat} {mm : aM} (hi : I n mm) (hn : 6 * n + 6 ≤ L)
    (kk : ∀ (bl : List Nat) (mm2 : aM), I (n + 1) mm2 → AW p l e room_1 s m #[Value.ref b] below meth c (lw_Z below #[Value.ref b] s) D cA ad s.heap.size (mL_law nm) (al ++ bl) 1012 (lawLv n) [] SH mm2 208 402394) {a : Int} : AW p l e room_1 s m #[Value.ref b] below meth c (lw_Z below #[Value.ref b] s) D cA ad s.heap.size (mL_law nm) al 21 (lawLv n) [.inl a] SH mm 208 402394 := by
  have h64 : n < 64 := by omega
  have hr : 208 + 0 ≤ 600000 ∧ 402394 + 0 ≤ 7302250 := by decide
  obtain ⟨s0, s1, s2, s3, s4, s5, s6, s7, s8, s9, s10, s11, s12, s13, s14, s15, s16, s17, s18, s19, s20, s21, s22, s23, s24, s25, s26, s27, s28, s29, s30, s31, s32, s33, s34, s35, s36, s37, s38, s39, s40, s41, s42, s43, s44⟩ := hS
  by_cases ho : a < 0 ∨ 44 < a
  · have k9 := kk [] mm (hI n mm hi)
    rw [List.append_nil] at k9
    exact aw_tableOut (i := 21) K law_sw ho (t := 1012) (aJl (aJ_of (by decide +kernel))) k9
  have ha : a = 0 ∨ a = 1 ∨ a = 2 ∨ a = 3 ∨ a = 4 ∨ a = 5 ∨ a = 6 ∨ a = 7 ∨ a = 8 ∨ a = 9 ∨ a = 10 ∨ a = 11 ∨ a = 12 ∨ a = 13 ∨ a = 14 ∨ a = 15 ∨ a = 16 ∨ a = 17 ∨ a = 18 ∨ a = 19 ∨ a = 20 ∨ a = 21 ∨ a = 22 ∨ a = 23 ∨ a = 24 ∨ a = 25 ∨ a = 26 ∨ a = 27 ∨ a = 28 ∨ a = 29 ∨ a = 30 ∨ a = 31 ∨ a = 32 ∨ a = 33 ∨ a = 34 ∨ a = 35 ∨ a = 36 ∨ a = 37 ∨ a = 38 ∨ a = 39 ∨ a = 40 ∨ a = 41 ∨ a = 42 ∨ a = 43 ∨ a = 44 := by omega
  rcases ha with rfl | rfl | rfl | rfl | rfl | rfl | rfl | rfl | rfl | rfl | rfl | rfl | rfl | rfl | rfl | rfl | rfl | rfl | rfl | rfl | rfl | rfl | rfl | rfl | rfl | rfl | rfl | rfl | rfl | rfl | rfl | rfl | rfl | rfl | rfl | rfl | rfl | rfl | rfl | rfl | rfl | rfl | rfl | rfl | rfl
  · obtain ⟨r, mm1, mm2, h1, h2, h3⟩ := s0 n mm h64 hi ((xs (6 * n + 1)).toInt) ((xs (6 * n + 2)).toInt) ((xs (6 * n + 3)).toInt) ((xs (6 * n + 4)).toInt) ((xs (6 * n + 5)).toInt) (toInt_in32 _) (toInt_in32 _) (toInt_in32 _) (toInt_in32 _) (toInt_in32 _)
    exact aw_tableIn (i := 21) K law_sw (by decide) (by decide) (off := 195) rfl (t := 22) (aJl (aJ_of (by decide +kernel))) (lc_0 K hX hb hn hL hr h1 h2 (fun bl => kk bl mm2 h3))
  · obtain ⟨r, mm1, mm2, h1, h2, h3⟩ := s1 n mm h64 hi ((xs (6 * n + 1)).toInt) (toInt_in32 _)
    exact aw_tableIn (i := 21) K law_sw (by decide) (by decide) (off := 258) rfl (t := 79) (aJl (aJ_of (by decide +kernel))) (lc_1 K hX hb hn hL hr h1 h2 (fun bl => kk bl mm2 h3))
  · obtain ⟨r, mm2, h1, h2, h3⟩ := s2 n mm h64 hi ((xs (6 * n + 1)).toInt) (toInt_in32 _)
    exact aw_tableIn (i := 21) K law_sw (by decide) (by decide) (off := 281) rfl (t := 96) (aJl (aJ_of (by decide +kernel))) (lc_2 K hX hb hn hL hr h1 h2 (fun bl => kk bl mm2 h3))
  · obtain ⟨r, mm2, h1, h2, h3⟩ := s3 n mm h64 hi ((xs (6 * n + 1)).toInt) ((xs (6 * n + 2)).toInt) (toInt_in32 _) (toInt_in32 _)
    exact aw_tableIn (i := 21) K law_sw (by decide) (by decide) (off := 304) rfl (t := 113) (aJl (aJ_of (by decide +kernel))) (lc_3 K hX hb hn hL hr h1 h2 (fun bl => kk bl mm2 h3))
  · obtain ⟨r, mm2, h1, h2, h3⟩ := s4 n mm h64 hi ((xs (6 * n + 1)).toInt) ((xs (6 * n + 2)).toInt) (toInt_in32 _) (toInt_in32 _)
    exact aw_tableIn (i := 21) K law_sw (by decide) (by decide) (off := 337) rfl (t := 140) (aJl (aJ_of (by decide +kernel))) (lc_4 K hX hb hn hL hr h1 h2 (fun bl => kk bl mm2 h3))
  · obtain ⟨r, mm2, h1, h2, h3⟩ := s5 n mm h64 hi ((xs (6 * n + 1)).toInt) ((xs (6 * n + 2)).toInt) (toInt_in32 _) (toInt_in32 _)
    exact aw_tableIn (i := 21) K law_sw (by decide) (by decide) (off := 370) rfl (t := 167) (aJl (aJ_of (by decide +kernel))) (lc_5 K hX hb hn hL hr h1 h2 (fun bl => kk bl mm2 h3))
  · obtain ⟨r, mm2, h1, h2, h3⟩ := s6 n mm h64 hi ((xs (6 * n + 1)).toInt) (toInt_in32 _)
    exact aw_tableIn (i := 21) K law_sw (by decide) (by decide) (off := 403) rfl (t := 194) (aJl (aJ_of (by decide +kernel))) (lc_6 K hX hb hn hL hr h1 h2 (fun bl => kk bl mm2 h3))
  · obtain ⟨r, mm2, h1, h2, h3⟩ := s7 n mm h64 hi ((xs (6 * n + 1)).toInt) (toInt_in32 _)
    exact aw_tableIn (i := 21) K law_sw (by decide) (by decide) (off := 426) rfl (t := 211) (aJl (aJ_of (by decide +kernel))) (lc_7 K hX hb hn hL hr h1 h2 (fun bl => kk bl mm2 h3))
  · obtain ⟨r, mm1, mm2, h1, h2, h3⟩ := s8 n mm h64 hi ((xs (6 * n + 1)).toInt) (toInt_in32 _)
    exact aw_tableIn (i := 21) K law_sw (by decide) (by decide) (off := 449) rfl (t := 228) (aJl (aJ_of (by decide +kernel))) (lc_8 K hX hb hn hL hr h1 h2 (fun bl => kk bl mm2 h3))
  · obtain ⟨r, mm1, mm2, h1, h2, h3⟩ := s9 n mm h64 hi ((xs (6 * n + 1)).toInt) ((xs (6 * n + 2)).toInt) (toInt_in32 _) (toInt_in32 _)
    exact aw_tableIn (i := 21) K law_sw (by decide) (by decide) (off := 472) rfl (t := 245) (aJl (aJ_of (by decide +kernel))) (lc_9 K hX hb hn hL hr h1 h2 (fun bl => kk bl mm2 h3))
  · obtain ⟨r, mm1, mm2, h1, h2, h3⟩ := s10 n mm h64 hi ((xs (6 * n + 1)).toInt) (toInt_in32 _)
    exact aw_tableIn (i := 21) K law_sw (by decide) (by decide) (off := 505) rfl (t := 272) (aJl (aJ_of (by decide +kernel))) (lc_10 K hX hb hn hL hr h1 h2 (fun bl => kk bl mm2 h3))
  · obtain ⟨r, mm1, mm2, h1, h2, h3⟩ := s11 n mm h64 hi ((xs (6 * n + 1)).toInt) ((xs (6 * n + 2)).toInt) (toInt_in32 _) (toInt_in32 _)
    exact aw_tableIn (i := 21) K law_sw (by decide) (by decide) (off := 528) rfl (t := 289) (aJl (aJ_of (by decide +kernel))) (lc_11 K hX hb hn hL hr h1 h2 (fun bl => kk bl mm2 h3))
  · obtain ⟨r, mm1, mm2, h1, h2, h3⟩ := s12 n mm h64 hi ((xs (6 * n + 1)).toInt) (toInt_in32 _)
    exact aw_tableIn (i := 21) K law_sw (by decide) (by decide) (off := 561) rfl (t := 316) (aJl (aJ_of (by decide +kernel))) (lc_12 K hX hb hn hL hr h1 h2 (fun bl => kk bl mm2 h3))
  · obtain ⟨r, mm1, mm2, h1, h2, h3⟩ := s13 n mm h64 hi ((xs (6 * n + 1)).toInt) (toInt_in32 _)
    exact aw_tableIn (i := 21) K law_sw (by decide) (by decide) (off := 584) rfl (t := 333) (aJl (aJ_of (by decide +kernel))) (lc_13 K hX hb hn hL hr h1 h2 (fun bl => kk bl mm2 h3))
  · obtain ⟨r, mm2, h1, h2, h3⟩ := s14 n mm h64 hi ((xs (6 * n + 1)).toInt) (toInt_in32 _)
    exact aw_tableIn (i := 21) K law_sw (by decide) (by decide) (off := 607) rfl (t := 350) (aJl (aJ_of (by decide +kernel))) (lc_14 K hX hb hn hL hr h1 h2 (fun bl => kk bl mm2 h3))
  · obtain ⟨r, mm1, mm2, h1, h2, h3⟩ := s15 n mm h64 hi ((xs (6 * n + 1)).toInt) (toInt_in32 _)
    exact aw_tableIn (i := 21) K law_sw (by decide) (by decide) (off := 630) rfl (t := 367) (aJl (aJ_of (by decide +kernel))) (lc_15 K hX hb hn hL hr h1 h2 (fun bl => kk bl mm2 h3))
  · obtain ⟨r, mm1, mm2, h1, h2, h3⟩ := s16 n mm h64 hi ((xs (6 * n + 1)).toInt) ((xs (6 * n + 2)).toInt) (toInt_in32 _) (toInt_in32 _)
    exact aw_tableIn (i := 21) K law_sw (by decide) (by decide) (off := 653) rfl (t := 384) (aJl (aJ_of (by decide +kernel))) (lc_16 K hX hb hn hL hr h1 h2 (fun bl => kk bl mm2 h3))
  · obtain ⟨r, mm1, mm2, h1, h2, h3⟩ := s17 n mm h64 hi  
    exact aw_tableIn (i := 21) K law_sw (by decide) (by decide) (off := 686) rfl (t := 411) (aJl (aJ_of (by decide +kernel))) (lc_17 K hX hb hn hL hr h1 h2 (fun bl => kk bl mm2 h3))
  · obtain ⟨r, mm1, mm2, h1, h2, h3⟩ := s18 n mm h64 hi ((xs (6 * n + 1)).toInt) (toInt_in32 _)
    exact aw_tableIn (i := 21) K law_sw (by decide) (by decide) (off := 699) rfl (t := 418) (aJl (aJ_of (by decide +kernel))) (lc_18 K hX hb hn hL hr h1 h2 (fun bl => kk bl mm2 h3))
  · obtain ⟨r, mm1, mm2, h1, h2, h3⟩ := s19 n mm h64 hi ((xs (6 * n + 1)).toInt) (toInt_in32 _)
    exact aw_tableIn (i := 21) K law_sw (by decide) (by decide) (off := 722) rfl (t := 435) (aJl (aJ_of (by decide +kernel))) (lc_19 K hX hb hn hL hr h1 h2 (fun bl => kk bl mm2 h3))
  · obtain ⟨r, mm1, mm2, h1, h2, h3⟩ := s20 n mm h64 hi ((xs (6 * n + 1)).toInt) (toInt_in32 _)
    exact aw_tableIn (i := 21) K law_sw (by decide) (by decide) (off := 745) rfl (t := 452) (aJl (aJ_of (by decide +kernel))) (lc_20 K hX hb hn hL hr h1 h2 (fun bl => kk bl mm2 h3))
  · obtain ⟨r, mm1, mm2, h1, h2, h3⟩ := s21 n mm h64 hi  
    exact aw_tableIn (i := 21) K law_sw (by decide) (by decide) (off := 768) rfl (t := 469) (aJl (aJ_of (by decide +kernel))) (lc_21 K hX hb hn hL hr h1 h2 (fun bl => kk bl mm2 h3))
  · obtain ⟨r, mm1, mm2, h1, h2, h3⟩ := s22 n mm h64 hi ((xs (6 * n + 1)).toInt) ((xs (6 * n + 2)).toInt) (toInt_in32 _) (toInt_in32 _)
    exact aw_tableIn (i := 21) K law_sw (by decide) (by decide) (off := 781) rfl (t := 476) (aJl (aJ_of (by decide +kernel))) (lc_22 K hX hb hn hL hr h1 h2 (fun bl => kk bl mm2 h3))
  · obtain ⟨r, mm1, mm2, h1, h2, h3⟩ := s23 n mm h64 hi ((xs (6 * n + 1)).toInt) ((xs (6 * n + 2)).toInt) ((xs (6 * n + 3)).toInt) (toInt_in32 _) (toInt_in32 _) (toInt_in32 _)
    exact aw_tableIn (i := 21) K law_sw (by decide) (by decide) (off := 814) rfl (t := 503) (aJl (aJ_of (by decide +kernel))) (lc_23 K hX hb hn hL hr h1 h2 (fun bl => kk bl mm2 h3))
  · obtain ⟨r, mm1, mm2, h1, h2, h3⟩ := s24 n mm h64 hi ((xs (6 * n + 1)).toInt) (toInt_in32 _)
    exact aw_tableIn (i := 21) K law_sw (by decide) (by decide) (off := 857) rfl (t := 540) (aJl (aJ_of (by decide +kernel))) (lc_24 K hX hb hn hL hr h1 h2 (fun bl => kk bl mm2 h3))
  · obtain ⟨r, mm1, mm2, h1, h2, h3⟩ := s25 n mm h64 hi ((xs (6 * n + 1)).toInt) (toInt_in32 _)
    exact aw_tableIn (i := 21) K law_sw (by decide) (by decide) (off := 880) rfl (t := 557) (aJl (aJ_of (by decide +kernel))) (lc_25 K hX hb hn hL hr h1 h2 (fun bl => kk bl mm2 h3))
  · obtain ⟨r, mm1, mm2, h1, h2, h3⟩ := s26 n mm h64 hi ((xs (6 * n + 1)).toInt) (toInt_in32 _)
    exact aw_tableIn (i := 21) K law_sw (by decide) (by decide) (off := 903) rfl (t := 574) (aJl (aJ_of (by decide +kernel))) (lc_26 K hX hb hn hL hr h1 h2 (fun bl => kk bl mm2 h3))
  · obtain ⟨r, mm2, h1, h2, h3⟩ := s27 n mm h64 hi ((xs (6 * n + 1)).toInt) (toInt_in32 _)
    exact aw_tableIn (i := 21) K law_sw (by decide) (by decide) (off := 926) rfl (t := 591) (aJl (aJ_of (by decide +kernel))) (lc_27 K hX hb hn hL hr h1 h2 (fun bl => kk bl mm2 h3))
  · obtain ⟨r, mm1, mm2, h1, h2, h3⟩ := s28 n mm h64 hi ((xs (6 * n + 1)).toInt) ((xs (6 * n + 2)).toInt) (toInt_in32 _) (toInt_in32 _)
    exact aw_tableIn (i := 21) K law_sw (by decide) (by decide) (off := 949) rfl (t := 608) (aJl (aJ_of (by decide +kernel))) (lc_28 K hX hb hn hL hr h1 h2 (fun bl => kk bl mm2 h3))
  · obtain ⟨r, mm2, h1, h2, h3⟩ := s29 n mm h64 hi  
    exact aw_tableIn (i := 21) K law_sw (by decide) (by decide) (off := 982) rfl (t := 635) (aJl (aJ_of (by decide +kernel))) (lc_29 K hX hb hn hL hr h1 h2 (fun bl => kk bl mm2 h3))
  · obtain ⟨r, mm1, mm2, h1, h2, h3⟩ := s30 n mm h64 hi ((xs (6 * n + 1)).toInt) (toInt_in32 _)
    exact aw_tableIn (i := 21) K law_sw (by decide) (by decide) (off := 995) rfl (t := 642) (aJl (aJ_of (by decide +kernel))) (lc_30 K hX hb hn hL hr h1 h2 (fun bl => kk bl mm2 h3))
  · obtain ⟨r, mm1, mm2, h1, h2, h3⟩ := s31 n mm h64 hi ((xs (6 * n + 1)).toInt) (toInt_in32 _)
    exact aw_tableIn (i := 21) K law_sw (by decide) (by decide) (off := 1018) rfl (t := 659) (aJl (aJ_of (by decide +kernel))) (lc_31 K hX hb hn hL hr h1 h2 (fun bl => kk bl mm2 h3))
  · obtain ⟨r, mm1, mm2, h1, h2, h3⟩ := s32 n mm h64 hi ((xs (6 * n + 1)).toInt) ((xs (6 * n + 2)).toInt) (toInt_in32 _) (toInt_in32 _)
    exact aw_tableIn (i := 21) K law_sw (by decide) (by decide) (off := 1041) rfl (t := 676) (aJl (aJ_of (by decide +kernel))) (lc_32 K hX hb hn hL hr h1 h2 (fun bl => kk bl mm2 h3))
  · obtain ⟨r, mm1, mm2, h1, h2, h3⟩ := s33 n mm h64 hi  
    exact aw_tableIn (i := 21) K law_sw (by decide) (by decide) (off := 1074) rfl (t := 703) (aJl (aJ_of (by decide +kernel))) (lc_33 K hX hb hn hL hr h1 h2 (fun bl => kk bl mm2 h3))
  · obtain ⟨r, mm1, mm2, h1, h2, h3⟩ := s34 n mm h64 hi  
    exact aw_tableIn (i := 21) K law_sw (by decide) (by decide) (off := 1087) rfl (t := 710) (aJl (aJ_of (by decide +kernel))) (lc_34 K hX hb hn hL hr h1 h2 (fun bl => kk bl mm2 h3))
  · obtain ⟨r, mm1, mm2, h1, h2, h3⟩ := s35 n mm h64 hi ((xs (6 * n + 1)).toInt) ((xs (6 * n + 2)).toInt) ((xs (6 * n + 3)).toInt) ((xs (6 * n + 4)).toInt) (toInt_in32 _) (toInt_in32 _) (toInt_in32 _) (toInt_in32 _)
    exact aw_tableIn (i := 21) K law_sw (by decide) (by decide) (off := 1100) rfl (t := 717) (aJl (aJ_of (by decide +kernel))) (lc_35 K hX hb hn hL hr h1 h2 (fun bl => kk bl mm2 h3))
  · obtain ⟨r, mm1, mm2, h1, h2, h3⟩ := s36 n mm h64 hi ((xs (6 * n + 1)).toInt) ((xs (6 * n + 2)).toInt) ((xs (6 * n + 3)).toInt) (toInt_in32 _) (toInt_in32 _) (toInt_in32 _)
    exact aw_tableIn (i := 21) K law_sw (by decide) (by decide) (off := 1153) rfl (t := 764) (aJl (aJ_of (by decide +kernel))) (lc_36 K hX hb hn hL hr h1 h2 (fun bl => kk bl mm2 h3))
  · obtain ⟨r, mm2, h1, h2, h3⟩ := s37 n mm h64 hi  
    exact aw_tableIn (i := 21) K law_sw (by decide) (by decide) (off := 1196) rfl (t := 801) (aJl (aJ_of (by decide +kernel))) (lc_37 K hX hb hn hL hr h1 h2 (fun bl => kk bl mm2 h3))
  · obtain ⟨r, mm1, mm2, h1, h2, h3⟩ := s38 n mm h64 hi ((xs (6 * n + 1)).toInt) ((xs (6 * n + 2)).toInt) (toInt_in32 _) (toInt_in32 _)
    exact aw_tableIn (i := 21) K law_sw (by decide) (by decide) (off := 1209) rfl (t := 808) (aJl (aJ_of (by decide +kernel))) (lc_38 K hX hb hn hL hr h1 h2 (fun bl => kk bl mm2 h3))
  · obtain ⟨r, mm1, mm2, h1, h2, h3⟩ := s39 n mm h64 hi ((xs (6 * n + 1)).toInt) ((xs (6 * n + 2)).toInt) ((xs (6 * n + 3)).toInt) (toInt_in32 _) (toInt_in32 _) (toInt_in32 _)
    exact aw_tableIn (i := 21) K law_sw (by decide) (by decide) (off := 1242) rfl (t := 835) (aJl (aJ_of (by decide +kernel))) (lc_39 K hX hb hn hL hr h1 h2 (fun bl => kk bl mm2 h3))
  · obtain ⟨r, mm1, mm2, h1, h2, h3⟩ := s40 n mm h64 hi ((xs (6 * n + 1)).toInt) ((xs (6 * n + 2)).toInt) (lor (lshl ((xs (6 * n + 3)).toInt) 32) (land ((xs (6 * n + 4)).toInt) 4294967295)) (toInt_in32 _) (toInt_in32 _)
    exact aw_tableIn (i := 21) K law_sw (by decide) (by decide) (off := 1285) rfl (t := 872) (aJl (aJ_of (by decide +kernel))) (lc_40 K hX hb hn hL hr h1 h2 (fun bl => kk bl mm2 h3))
  · obtain ⟨r, mm1, mm2, h1, h2, h3⟩ := s41 n mm h64 hi ((xs (6 * n + 1)).toInt) ((xs (6 * n + 2)).toInt) (toInt_in32 _) (toInt_in32 _)
    exact aw_tableIn (i := 21) K law_sw (by decide) (by decide) (off := 1359) rfl (t := 934) (aJl (aJ_of (by decide +kernel))) (lc_41 K hX hb hn hL hr h1 h2 (fun bl => kk bl mm2 h3))
  · obtain ⟨r, mm1, mm2, h1, h2, h3⟩ := s42 n mm h64 hi ((xs (6 * n + 1)).toInt) (toInt_in32 _)
    exact aw_tableIn (i := 21) K law_sw (by decide) (by decide) (off := 1392) rfl (t := 961) (aJl (aJ_of (by decide +kernel))) (lc_42 K hX hb hn hL hr h1 h2 (fun bl => kk bl mm2 h3))
  · obtain ⟨r, mm1, mm2, h1, h2, h3⟩ := s43 n mm h64 hi ((xs (6 * n + 1)).toInt) (toInt_in32 _)
    exact aw_tableIn (i := 21) K law_sw (by decide) (by decide) (off := 1415) rfl (t := 978) (aJl (aJ_of (by decide +kernel))) (lc_43 K hX hb hn hL hr h1 h2 (fun bl => kk bl mm2 h3))
  · obtain ⟨r, mm2, h1, h2, h3⟩ := s44 n mm h64 hi ((xs (6 * n + 1)).toInt) (toInt_in32 _)
    exact aw_tableIn (i := 21) K law_sw (by decide) (by decide) (off := 1438) rfl (t := 995) (aJl (aJ_of (by decide +kernel))) (lc_44 K hX hb hn hL hr h1 h2 (fun bl => kk bl mm2 h3))
theorem lawLv_s (n : Nat) (h : n ≤ 64) : aPut (lawLv n) 3 (.inl (w32 (((6 * n : Nat) : Int) + 6))) = lawLv (n + 1) := by
  have e : w32 (((6 * n : Nat) : Int) + 6) = ((6 * (n + 1) : Nat) : Int) := by
    rw [w32_id (by unfold in32; omega)]; omega
  rw [e]
  rfl
set_option maxHeartbeats 8000000 in
set_option maxRecDepth 100000 in
theorem law_loop {p : Program} {l : Launch} {e : Env} {s : State} {m : MethodId} {below : List Frame} {meth : Method} {c : Code} {D : va_G} {cA : FieldType → ClassId} {ad adV : Nat → Nat} {nm : String} {b L : Nat} {xs : Nat → Int32} (K : aK p s m #[Value.ref b] meth c (mL_law nm) D cA ad adV s.heap.size) (hX : va_X (ad 21) L xs s s.heap) (hb : ad 21 < s.heap.size) (hL : L ≤ 384) {I : Nat → aM → Prop} (hS : lawS I) (hI : ∀ n mm, I n mm → I (n + 1) mm) : ∀ (d n : Nat) (al : List Nat) (mm : aM), L < 6 * n + 6 * d → n ≤ 65 → I n mm → AW p l e room_1 s m #[Value.ref b] below meth c (lw_Z below #[Value.ref b] s) D cA ad s.heap.size (mL_law nm) al 10 (lawLv n) [] SH mm 208 402394 := by
  intro d
  induction d with
  | zero => 
    intro n al mm hd hn hi
    unfold lawLv
    refine aw_iload_n (i := 10) K (dOf ck_mL_law rfl rfl) rfl ?_
    refine aw_sload_n (i := 11) K (dOf ck_mL_law rfl rfl) rfl ?_
    refine aw_scrlen (i := 12) K hX hb (by omega) (dOf ck_mL_law rfl rfl) ?_
    refine aw_bip (i := 13) K (dOf ck_mL_law rfl rfl) (v := 6) rfl ?_
    refine aw_isub (i := 14) K (dOf ck_mL_law rfl rfl) ?_
    refine aw_icmp_gt (i := 15) K (dOf ck_mL_law rfl rfl) (t := 1014) (aJl (aJ_of (by decide +kernel))) (fun _ => law_end K) (fun z => absurd ?_ z)
    rw [w32_id (by unfold in32; omega)]; omega
  | succ d ih =>
    intro n al mm hd hn hi
    have e0 : lawLv n = lawLv n := rfl
    unfold lawLv
    refine aw_iload_n (i := 10) K (dOf ck_mL_law rfl rfl) rfl ?_
    refine aw_sload_n (i := 11) K (dOf ck_mL_law rfl rfl) rfl ?_
    refine aw_scrlen (i := 12) K hX hb (by omega) (dOf ck_mL_law rfl rfl) ?_
    refine aw_bip (i := 13) K (dOf ck_mL_law rfl rfl) (v := 6) rfl ?_
    refine aw_isub (i := 14) K (dOf ck_mL_law rfl rfl) ?_
    refine aw_icmp_gt (i := 15) K (dOf ck_mL_law rfl rfl) (t := 1014) (aJl (aJ_of (by decide +kernel))) (fun _ => law_end K) (fun z => ?_)
    have hn6 : 6 * n + 6 ≤ L := by
      rw [w32_id (by unfold in32; omega)] at z
      omega
    refine aw_sload_n (i := 16) K (dOf ck_mL_law rfl rfl) rfl ?_
    refine aw_iload_n (i := 17) K (dOf ck_mL_law rfl rfl) rfl ?_
    refine aw_scrld (i := 18) K hX hb (dOf ck_mL_law rfl rfl) (j := ((6 * n : Nat) : Int)) (by omega) ?_
    refine aw_bip (i := 19) K (dOf ck_mL_law rfl rfl) (v := 63) rfl ?_
    refine aw_iand (i := 20) K (dOf ck_mL_law rfl rfl) ?_
    refine law_disp K hX hb hL hS hI hi hn6 (fun bl mm2 h2 => ?_)
    refine aw_iinc (i := 1012) K (dOf ck_mL_law rfl rfl) (Nat.le_of_ble_eq_true rfl) rfl ?_
    refine aw_lvn (lv' := lawLv (n + 1)) (lawLv_s n (by omega)) ?_
    refine aw_goto (i := 1013) K (dOf ck_mL_law rfl rfl).1 (t := 10) (aJl (aJ_of (by decide +kernel))) ?_
    exact ih (n + 1) _ mm2 (by omega) (by omega) h2
theorem al_OneBreathLaw_9 : aLk "OneBreathLaw" 9 mX11_init 0 := ⟨wd_165, wd_163, wd_138, by decide +kernel⟩
theorem al_OneBreathLaw_12 : aLk "OneBreathLaw" 12 mX12_init 0 := ⟨wd_1202, wd_1200, wd_151, by decide +kernel⟩
theorem sg_end : sg_51 = SH := rfl
set_option maxHeartbeats 8000000 in
set_option maxRecDepth 100000 in
theorem law_go {p : Program} {l : Launch} {e : Env} {s : State} {m : MethodId} {below : List Frame} {meth : Method} {c : Code} {D : va_G} {cA : FieldType → ClassId} {ad adV : Nat → Nat} {nm : String} {b L : Nat} {xs : Nat → Int32} (K : aK p s m #[Value.ref b] meth c (mL_law nm) D cA ad adV s.heap.size) (hX : va_X (ad 21) L xs s s.heap) (hb : ad 21 < s.heap.size) (hL : L ≤ 384) {I : Nat → aM → Prop} (hS : lawS I) (hI : ∀ n mm, I n mm → I (n + 1) mm) (h0 : I 0 mg_62) : AW p l e room_1 s m #[Value.ref b] below meth c (lw_Z below #[Value.ref b] s) D cA ad s.heap.size (mL_law nm) [] 0 [(0, .inr (.inr (.inr 21)))] [] [] mg_start 0 0 := by
  refine aw_newN (i := 0) (ci := 11) K (dOf ck_mL_law rfl rfl) rfl wd_161 wd_162 wd_138 zt_11 (Nat.le_of_ble_eq_true rfl) (Nat.le_of_ble_eq_true rfl) 0 rfl (fun q0 => ?_)
  refine aw_dup (i := 1) K rfl (dOf ck_mL_law rfl rfl) ?_
  refine aw_nm (sh' := sg_0) (mm' := mg_0) rfl rfl ?_
  refine aw_callI (i := 2) (as := []) (q := 0) K (dOf ck_mL_law rfl rfl) al_OneBreathLaw_9 rfl rfl wd_164 rfl (Nat.le_of_ble_eq_true rfl) ⟨(Nat.le_of_ble_eq_true rfl), (Nat.le_of_ble_eq_true rfl)⟩ ⟨(Nat.le_of_ble_eq_true rfl), (Nat.le_of_ble_eq_true rfl)⟩ (Nat.le_of_ble_eq_true rfl) ct_38 (fun bl1 => ?_)
  refine aw_astore_n (i := 3) K (dOf ck_mL_law rfl rfl) (Nat.le_of_ble_eq_true rfl) ?_
  refine aw_lvn (lv' := [(1, .inr (.inr (.inl (some 0)))), (0, .inr (.inr (.inr 21)))]) rfl ?_
  refine aw_newN (i := 4) (ci := 12) K (dOf ck_mL_law rfl rfl) rfl wd_1198 wd_1199 wd_151 zt_12 (Nat.le_of_ble_eq_true rfl) (Nat.le_of_ble_eq_true rfl) 176 rfl (fun q1 => ?_)
  refine aw_dup (i := 5) K rfl (dOf ck_mL_law rfl rfl) ?_
  refine aw_nm (sh' := sg_50) (mm' := mg_61) rfl rfl ?_
  refine aw_callI (i := 6) (as := []) (q := 176) K (dOf ck_mL_law rfl rfl) al_OneBreathLaw_12 rfl rfl wd_1201 rfl (Nat.le_of_ble_eq_true rfl) ⟨(Nat.le_of_ble_eq_true rfl), (Nat.le_of_ble_eq_true rfl)⟩ ⟨(Nat.le_of_ble_eq_true rfl), (Nat.le_of_ble_eq_true rfl)⟩ (Nat.le_of_ble_eq_true rfl) ct_39 (fun bl2 => ?_)
  refine aw_astore_n (i := 7) K (dOf ck_mL_law rfl rfl) (Nat.le_of_ble_eq_true rfl) ?_
  refine aw_lvn (lv' := [(2, .inr (.inr (.inl (some 176)))), (1, .inr (.inr (.inl (some 0)))), (0, .inr (.inr (.inr 21)))]) rfl ?_
  refine aw_iconst (i := 8) K (n := 0) (i32 _ rfl) (dOf ck_mL_law rfl rfl) ?_
  refine aw_istore_n (i := 9) K (dOf ck_mL_law rfl rfl) (Nat.le_of_ble_eq_true rfl) ?_
  refine aw_lvn (lv' := lawLv 0) rfl ?_
  rw [sg_end]
  exact law_loop K hX hb hL hS hI 65 0 _ _ (by omega) (by omega) h0
theorem whole_of {I : Nat → aM → Prop} (hS : lawS I) (hI : ∀ n mm, I n mm → I (n + 1) mm) (h0 : I 0 mg_62) {p : Program} {e : Env} {s : State} {m : MethodId} {below : List Frame} {meth : Method} {c : Code} (l : Launch) {b L : Nat} {xs : Nat → Int32} (hL : L ≤ 384) (C0 : lw_At p s m meth c b L xs) : W p l e room_1 s m #[Value.ref b] below meth c s.heap [] 0 0 (lw_Z below #[Value.ref b] s) (entryFrame m ([Value.ref b] : List Value).toArray 4) := by
  obtain ⟨D, cA, ad, adV, K, hb⟩ := start_K C0
  obtain ⟨hx, hcb, hr, hml, hown, hts, hX, hbl, hlocks, hgv⟩ := C0
  subst hb
  have k := law_go (l := l) (e := e) (below := below) K hX hbl hL hS hI h0 s.heap [] _ ⟨fun k q h => by simp [cW] at h, ⟨fun i j p q h => by simp [cW] at h, fun k q h => by simp [cW] at h⟩, va_S.rf, rfl, fun k e h => by simp at h⟩ (fun v hv => by cases hv) (fun q hq => by rw [List.mem_singleton.mp hq]; trivial) (lv_entry [Value.ref (ad 21)] (n := 4) (Nat.le_of_ble_eq_true rfl))
  rw [lg_entry_eq]
  exact k
