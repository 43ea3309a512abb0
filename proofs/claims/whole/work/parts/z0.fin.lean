/-! ALL STEPS, THE CLAIM -/
theorem ls_0 : lawS_0 mInv := fun n m hn h x1 x2 x3 x4 x5 i_x1 i_x2 i_x3 i_x4 i_x5 => st_feed h x1 x2 x3 x4 x5 i_x1 i_x2 i_x3 i_x4 i_x5
theorem ls_1 : lawS_1 mInv := fun n m hn h x1 i_x1 => st_tongue h x1
theorem ls_2 : lawS_2 mInv := fun n m hn h x1 i_x1 => st_fault h x1
theorem ls_3 : lawS_3 mInv := fun n m hn h x1 x2 i_x1 i_x2 => st_sound h x1 x2 i_x1 i_x2
theorem ls_4 : lawS_4 mInv := fun n m hn h x1 x2 i_x1 i_x2 => st_word h x1 x2 i_x1 i_x2
theorem ls_5 : lawS_5 mInv := fun n m hn h x1 x2 i_x1 i_x2 => st_shape h x1 x2 i_x1 i_x2
theorem ls_6 : lawS_6 mInv := fun n m hn h x1 i_x1 => st_behind h x1 i_x1
theorem ls_7 : lawS_7 mInv := fun n m hn h x1 i_x1 => st_ends h x1 i_x1
theorem ls_8 : lawS_8 mInv := fun n m hn h x1 i_x1 => st_spelt h x1
theorem ls_9 : lawS_9 mInv := fun n m hn h x1 x2 i_x1 i_x2 => st_unlike h x1 x2
theorem ls_10 : lawS_10 mInv := fun n m hn h x1 i_x1 => st_near h x1
theorem ls_11 : lawS_11 mInv := fun n m hn h x1 x2 i_x1 i_x2 => st_judge h x1 x2
theorem ls_12 : lawS_12 mInv := fun n m hn h x1 i_x1 => st_say h x1
theorem ls_13 : lawS_13 mInv := fun n m hn h x1 i_x1 => st_line h x1
theorem ls_14 : lawS_14 mInv := fun n m hn h x1 i_x1 => st_at h x1 i_x1
theorem ls_15 : lawS_15 mInv := fun n m hn h x1 i_x1 => st_cuts h x1
theorem ls_16 : lawS_16 mInv := fun n m hn h x1 x2 i_x1 i_x2 => st_cut h x1 x2
theorem ls_17 : lawS_17 mInv := fun n m hn h  => st_mistakes h
theorem ls_18 : lawS_18 mInv := fun n m hn h x1 i_x1 => st_bound h x1
theorem ls_19 : lawS_19 mInv := fun n m hn h x1 i_x1 => st_unsure hn h x1
theorem ls_20 : lawS_20 mInv := fun n m hn h x1 i_x1 => st_unsureAt hn h x1
theorem ls_21 : lawS_21 mInv := fun n m hn h  => st_bears hn h
theorem ls_22 : lawS_22 mInv := fun n m hn h x1 x2 i_x1 i_x2 => st_added hn h x1 x2
theorem ls_23 : lawS_23 mInv := fun n m hn h x1 x2 x3 i_x1 i_x2 i_x3 => st_adds hn h x1 x2 x3
theorem ls_24 : lawS_24 mInv := fun n m hn h x1 i_x1 => st_mended hn h x1
theorem ls_25 : lawS_25 mInv := fun n m hn h x1 i_x1 => st_changed hn h x1
theorem ls_26 : lawS_26 mInv := fun n m hn h x1 i_x1 => st_paused hn h x1
theorem ls_27 : lawS_27 mInv := fun n m hn h x1 i_x1 => st_begun h x1
theorem ls_28 : lawS_28 mInv := fun n m hn h x1 x2 i_x1 i_x2 => st_fitted h x1 x2
theorem ls_29 : lawS_29 mInv := fun n m hn h  => st_talk h
theorem ls_30 : lawS_30 mInv := fun n m hn h x1 i_x1 => st_code h x1
theorem ls_31 : lawS_31 mInv := fun n m hn h x1 i_x1 => st_said h x1
theorem ls_32 : lawS_32 mInv := fun n m hn h x1 x2 i_x1 i_x2 => st_richest h x1 x2 i_x2
theorem ls_33 : lawS_33 mInv := fun n m hn h  => st_endless h
theorem ls_34 : lawS_34 mInv := fun n m hn h  => st_longest h
theorem ls_35 : lawS_35 mInv := fun n m hn h x1 x2 x3 x4 i_x1 i_x2 i_x3 i_x4 => st_noise h x1 x2 x3 x4 i_x4
theorem ls_36 : lawS_36 mInv := fun n m hn h x1 x2 x3 i_x1 i_x2 i_x3 => st_asked h x1 x2 x3
theorem ls_37 : lawS_37 mInv := fun n m hn h  => st_tree h
theorem ls_38 : lawS_38 mInv := fun n m hn h x1 x2 i_x1 i_x2 => st_limb h x1 x2
theorem ls_39 : lawS_39 mInv := fun n m hn h x1 x2 x3 i_x1 i_x2 i_x3 => st_numbers h x1 x2 x3
theorem ls_40 : lawS_40 mInv := fun n m hn h x1 x2 x3 i_x1 i_x2 => st_write h x1 x2 x3
theorem ls_41 : lawS_41 mInv := fun n m hn h x1 x2 i_x1 i_x2 => st_copy h x1 x2
theorem ls_42 : lawS_42 mInv := fun n m hn h x1 i_x1 => st_image h x1
theorem ls_43 : lawS_43 mInv := fun n m hn h x1 i_x1 => st_restore h x1
theorem ls_44 : lawS_44 mInv := fun n m hn h x1 i_x1 => st_count h x1
theorem ls_all : lawS mInv := ⟨ls_0, ls_1, ls_2, ls_3, ls_4, ls_5, ls_6, ls_7, ls_8, ls_9, ls_10, ls_11, ls_12, ls_13, ls_14, ls_15, ls_16, ls_17, ls_18, ls_19, ls_20, ls_21, ls_22, ls_23, ls_24, ls_25, ls_26, ls_27, ls_28, ls_29, ls_30, ls_31, ls_32, ls_33, ls_34, ls_35, ls_36, ls_37, ls_38, ls_39, ls_40, ls_41, ls_42, ls_43, ls_44⟩
theorem mInv_upp : ∀ n m, mInv n m → mInv (n + 1) m := fun n m h => mInv_same (Nat.le_succ n) (mSame.refl m) h
theorem whole_start {p : Program} {e : Env} {s : State} {m : MethodId} {below : List Frame} {meth : Method} {c : Code} (l : Launch) {b L : Nat} {xs : Nat → Int32} (hL : L ≤ 384) (C0 : lw_At p s m meth c b L xs) : W p l e room_1 s m #[Value.ref b] below meth c s.heap [] 0 0 (lw_Z below #[Value.ref b] s) (entryFrame m ([Value.ref b] : List Value).toArray 4) := whole_of ls_all mInv_upp mInv_start l hL C0
