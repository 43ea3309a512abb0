set_option maxHeartbeats 4000000 in
set_option maxRecDepth 100000 in
theorem lc_0 {nm : String} {p : Program} {l : Launch} {e : Env} {s : State} {m : MethodId} {args : Array Value} {below : List Frame} {meth : Method} {c : Code} {Q : State → Prop} {D : va_G} {cA : FieldType → ClassId} {ad adV : Nat → Nat} {z0 : Nat} {al : List Nat} {mm : aM} {nc ns : Nat} (K : aK p s m args meth c (mL_law nm) D cA ad adV z0) {n L : Nat} {xs : Nat → Int32} (hX : va_X (ad 21) L xs s s.heap) (hb : ad 21 < z0) (hn : 6 * n + 6 ≤ L) (hL : L ≤ 384) (hr : nc + 0 ≤ 600000 ∧ ns + 0 ≤ 7302250) {r : Int} {mm1 mm2 : aM} (h1 : B_feed ((xs (6 * n + 1)).toInt) ((xs (6 * n + 2)).toInt) ((xs (6 * n + 3)).toInt) ((xs (6 * n + 4)).toInt) ((xs (6 * n + 5)).toInt) mm = some (r, mm1)) (h2 : R_feed ((xs (6 * n + 1)).toInt) ((xs (6 * n + 2)).toInt) ((xs (6 * n + 3)).toInt) ((xs (6 * n + 4)).toInt) ((xs (6 * n + 5)).toInt) mm1 = some (r, mm2)) (kk : ∀ bl, AW p l e room_1 s m args below meth c Q D cA ad z0 (mL_law nm) (al ++ bl) 1012 (lawLv n) [] SH mm2 nc ns) : AW p l e room_1 s m args below meth c Q D cA ad z0 (mL_law nm) al 22 (lawLv n) [] SH mm nc ns := by
  unfold lawLv
  refine aw_aload_n (i := 22) K (dOf ck_mL_law rfl rfl) rfl ?_
  refine aw_sload_n (i := 23) K (dOf ck_mL_law rfl rfl) rfl ?_
  refine aw_iload_n (i := 24) K (dOf ck_mL_law rfl rfl) rfl ?_
  refine aw_iconst (i := 25) K (n := 1) (i32 _ rfl) (dOf ck_mL_law rfl rfl) ?_
  refine aw_iadd (i := 26) K (dOf ck_mL_law rfl rfl) ?_
  refine aw_eqi (b := ((6 * n + 1 : Nat) : Int)) (ix_ok hn hL 1 (by decide)) ?_
  refine aw_scrld (i := 27) K hX hb (dOf ck_mL_law rfl rfl) (ix_in hn 1 (by decide)) ?_
  refine aw_sload_n (i := 28) K (dOf ck_mL_law rfl rfl) rfl ?_
  refine aw_iload_n (i := 29) K (dOf ck_mL_law rfl rfl) rfl ?_
  refine aw_iconst (i := 30) K (n := 2) (i32 _ rfl) (dOf ck_mL_law rfl rfl) ?_
  refine aw_iadd (i := 31) K (dOf ck_mL_law rfl rfl) ?_
  refine aw_eqi (b := ((6 * n + 2 : Nat) : Int)) (ix_ok hn hL 2 (by decide)) ?_
  refine aw_scrld (i := 32) K hX hb (dOf ck_mL_law rfl rfl) (ix_in hn 2 (by decide)) ?_
  refine aw_sload_n (i := 33) K (dOf ck_mL_law rfl rfl) rfl ?_
  refine aw_iload_n (i := 34) K (dOf ck_mL_law rfl rfl) rfl ?_
  refine aw_iconst (i := 35) K (n := 3) (i32 _ rfl) (dOf ck_mL_law rfl rfl) ?_
  refine aw_iadd (i := 36) K (dOf ck_mL_law rfl rfl) ?_
  refine aw_eqi (b := ((6 * n + 3 : Nat) : Int)) (ix_ok hn hL 3 (by decide)) ?_
  refine aw_scrld (i := 37) K hX hb (dOf ck_mL_law rfl rfl) (ix_in hn 3 (by decide)) ?_
  refine aw_sload_n (i := 38) K (dOf ck_mL_law rfl rfl) rfl ?_
  refine aw_iload_n (i := 39) K (dOf ck_mL_law rfl rfl) rfl ?_
  refine aw_iconst (i := 40) K (n := 4) (i32 _ rfl) (dOf ck_mL_law rfl rfl) ?_
  refine aw_iadd (i := 41) K (dOf ck_mL_law rfl rfl) ?_
  refine aw_eqi (b := ((6 * n + 4 : Nat) : Int)) (ix_ok hn hL 4 (by decide)) ?_
  refine aw_scrld (i := 42) K hX hb (dOf ck_mL_law rfl rfl) (ix_in hn 4 (by decide)) ?_
  refine aw_sload_n (i := 43) K (dOf ck_mL_law rfl rfl) rfl ?_
  refine aw_iload_n (i := 44) K (dOf ck_mL_law rfl rfl) rfl ?_
  refine aw_iconst (i := 45) K (n := 5) (i32 _ rfl) (dOf ck_mL_law rfl rfl) ?_
  refine aw_iadd (i := 46) K (dOf ck_mL_law rfl rfl) ?_
  refine aw_eqi (b := ((6 * n + 5 : Nat) : Int)) (ix_ok hn hL 5 (by decide)) ?_
  refine aw_scrld (i := 47) K hX hb (dOf ck_mL_law rfl rfl) (ix_in hn 5 (by decide)) ?_
  refine aw_callV (i := 48) (as := [.inl _, .inl _, .inl _, .inl _, .inl _]) (q := 0) K (dOf ck_mL_law rfl rfl) al_OneBreathLaw_13 rfl rfl ⟨wd_476, wd_477⟩ rfl (Nat.le_of_ble_eq_true rfl) ⟨Nat.le_of_ble_eq_true rfl, Nat.le_of_ble_eq_true rfl⟩ hr (Nat.le_refl _) (met_B_feed h1) (fun bl1 => ?_)
  refine aw_aload_n (i := 49) K (dOf ck_mL_law rfl rfl) rfl ?_
  refine aw_sload_n (i := 50) K (dOf ck_mL_law rfl rfl) rfl ?_
  refine aw_iload_n (i := 51) K (dOf ck_mL_law rfl rfl) rfl ?_
  refine aw_iconst (i := 52) K (n := 1) (i32 _ rfl) (dOf ck_mL_law rfl rfl) ?_
  refine aw_iadd (i := 53) K (dOf ck_mL_law rfl rfl) ?_
  refine aw_eqi (b := ((6 * n + 1 : Nat) : Int)) (ix_ok hn hL 1 (by decide)) ?_
  refine aw_scrld (i := 54) K hX hb (dOf ck_mL_law rfl rfl) (ix_in hn 1 (by decide)) ?_
  refine aw_sload_n (i := 55) K (dOf ck_mL_law rfl rfl) rfl ?_
  refine aw_iload_n (i := 56) K (dOf ck_mL_law rfl rfl) rfl ?_
  refine aw_iconst (i := 57) K (n := 2) (i32 _ rfl) (dOf ck_mL_law rfl rfl) ?_
  refine aw_iadd (i := 58) K (dOf ck_mL_law rfl rfl) ?_
  refine aw_eqi (b := ((6 * n + 2 : Nat) : Int)) (ix_ok hn hL 2 (by decide)) ?_
  refine aw_scrld (i := 59) K hX hb (dOf ck_mL_law rfl rfl) (ix_in hn 2 (by decide)) ?_
  refine aw_sload_n (i := 60) K (dOf ck_mL_law rfl rfl) rfl ?_
  refine aw_iload_n (i := 61) K (dOf ck_mL_law rfl rfl) rfl ?_
  refine aw_iconst (i := 62) K (n := 3) (i32 _ rfl) (dOf ck_mL_law rfl rfl) ?_
  refine aw_iadd (i := 63) K (dOf ck_mL_law rfl rfl) ?_
  refine aw_eqi (b := ((6 * n + 3 : Nat) : Int)) (ix_ok hn hL 3 (by decide)) ?_
  refine aw_scrld (i := 64) K hX hb (dOf ck_mL_law rfl rfl) (ix_in hn 3 (by decide)) ?_
  refine aw_sload_n (i := 65) K (dOf ck_mL_law rfl rfl) rfl ?_
  refine aw_iload_n (i := 66) K (dOf ck_mL_law rfl rfl) rfl ?_
  refine aw_iconst (i := 67) K (n := 4) (i32 _ rfl) (dOf ck_mL_law rfl rfl) ?_
  refine aw_iadd (i := 68) K (dOf ck_mL_law rfl rfl) ?_
  refine aw_eqi (b := ((6 * n + 4 : Nat) : Int)) (ix_ok hn hL 4 (by decide)) ?_
  refine aw_scrld (i := 69) K hX hb (dOf ck_mL_law rfl rfl) (ix_in hn 4 (by decide)) ?_
  refine aw_sload_n (i := 70) K (dOf ck_mL_law rfl rfl) rfl ?_
  refine aw_iload_n (i := 71) K (dOf ck_mL_law rfl rfl) rfl ?_
  refine aw_iconst (i := 72) K (n := 5) (i32 _ rfl) (dOf ck_mL_law rfl rfl) ?_
  refine aw_iadd (i := 73) K (dOf ck_mL_law rfl rfl) ?_
  refine aw_eqi (b := ((6 * n + 5 : Nat) : Int)) (ix_ok hn hL 5 (by decide)) ?_
  refine aw_scrld (i := 74) K hX hb (dOf ck_mL_law rfl rfl) (ix_in hn 5 (by decide)) ?_
  refine aw_callV (i := 75) (as := [.inl _, .inl _, .inl _, .inl _, .inl _]) (q := 176) K (dOf ck_mL_law rfl rfl) al_OneBreathLaw_17 rfl rfl ⟨wd_1261, wd_1262⟩ rfl (Nat.le_of_ble_eq_true rfl) ⟨Nat.le_of_ble_eq_true rfl, Nat.le_of_ble_eq_true rfl⟩ hr (Nat.le_refl _) (met_R_feed h2) (fun bl2 => ?_)
  refine aw_icmp_eq (i := 76) K (dOf ck_mL_law rfl rfl) (t := 1012) (aJl (aJ_of (by decide +kernel))) (fun _ => ?_) (fun z => absurd rfl z)
  have k9 := kk (bl1 ++ bl2)
  rw [← List.append_assoc] at k9
  exact k9
set_option maxHeartbeats 4000000 in
set_option maxRecDepth 100000 in
theorem lc_1 {nm : String} {p : Program} {l : Launch} {e : Env} {s : State} {m : MethodId} {args : Array Value} {below : List Frame} {meth : Method} {c : Code} {Q : State → Prop} {D : va_G} {cA : FieldType → ClassId} {ad adV : Nat → Nat} {z0 : Nat} {al : List Nat} {mm : aM} {nc ns : Nat} (K : aK p s m args meth c (mL_law nm) D cA ad adV z0) {n L : Nat} {xs : Nat → Int32} (hX : va_X (ad 21) L xs s s.heap) (hb : ad 21 < z0) (hn : 6 * n + 6 ≤ L) (hL : L ≤ 384) (hr : nc + 0 ≤ 600000 ∧ ns + 0 ≤ 7302250) {r : Int} {mm1 mm2 : aM} (h1 : B_tongue ((xs (6 * n + 1)).toInt) mm = some (r, mm1)) (h2 : R_tongue ((xs (6 * n + 1)).toInt) mm1 = some (r, mm2)) (kk : ∀ bl, AW p l e room_1 s m args below meth c Q D cA ad z0 (mL_law nm) (al ++ bl) 1012 (lawLv n) [] SH mm2 nc ns) : AW p l e room_1 s m args below meth c Q D cA ad z0 (mL_law nm) al 79 (lawLv n) [] SH mm nc ns := by
  unfold lawLv
  refine aw_aload_n (i := 79) K (dOf ck_mL_law rfl rfl) rfl ?_
  refine aw_sload_n (i := 80) K (dOf ck_mL_law rfl rfl) rfl ?_
  refine aw_iload_n (i := 81) K (dOf ck_mL_law rfl rfl) rfl ?_
  refine aw_iconst (i := 82) K (n := 1) (i32 _ rfl) (dOf ck_mL_law rfl rfl) ?_
  refine aw_iadd (i := 83) K (dOf ck_mL_law rfl rfl) ?_
  refine aw_eqi (b := ((6 * n + 1 : Nat) : Int)) (ix_ok hn hL 1 (by decide)) ?_
  refine aw_scrld (i := 84) K hX hb (dOf ck_mL_law rfl rfl) (ix_in hn 1 (by decide)) ?_
  refine aw_callV (i := 85) (as := [.inl _]) (q := 0) K (dOf ck_mL_law rfl rfl) al_OneBreathLaw_18 rfl rfl ⟨wd_484, wd_485⟩ rfl (Nat.le_of_ble_eq_true rfl) ⟨Nat.le_of_ble_eq_true rfl, Nat.le_of_ble_eq_true rfl⟩ hr (Nat.le_refl _) (met_B_tongue h1) (fun bl1 => ?_)
  refine aw_aload_n (i := 86) K (dOf ck_mL_law rfl rfl) rfl ?_
  refine aw_sload_n (i := 87) K (dOf ck_mL_law rfl rfl) rfl ?_
  refine aw_iload_n (i := 88) K (dOf ck_mL_law rfl rfl) rfl ?_
  refine aw_iconst (i := 89) K (n := 1) (i32 _ rfl) (dOf ck_mL_law rfl rfl) ?_
  refine aw_iadd (i := 90) K (dOf ck_mL_law rfl rfl) ?_
  refine aw_eqi (b := ((6 * n + 1 : Nat) : Int)) (ix_ok hn hL 1 (by decide)) ?_
  refine aw_scrld (i := 91) K hX hb (dOf ck_mL_law rfl rfl) (ix_in hn 1 (by decide)) ?_
  refine aw_callV (i := 92) (as := [.inl _]) (q := 176) K (dOf ck_mL_law rfl rfl) al_OneBreathLaw_22 rfl rfl ⟨wd_1265, wd_1266⟩ rfl (Nat.le_of_ble_eq_true rfl) ⟨Nat.le_of_ble_eq_true rfl, Nat.le_of_ble_eq_true rfl⟩ hr (Nat.le_refl _) (met_R_tongue h2) (fun bl2 => ?_)
  refine aw_icmp_eq (i := 93) K (dOf ck_mL_law rfl rfl) (t := 1012) (aJl (aJ_of (by decide +kernel))) (fun _ => ?_) (fun z => absurd rfl z)
  have k9 := kk (bl1 ++ bl2)
  rw [← List.append_assoc] at k9
  exact k9
set_option maxHeartbeats 4000000 in
set_option maxRecDepth 100000 in
theorem lc_2 {nm : String} {p : Program} {l : Launch} {e : Env} {s : State} {m : MethodId} {args : Array Value} {below : List Frame} {meth : Method} {c : Code} {Q : State → Prop} {D : va_G} {cA : FieldType → ClassId} {ad adV : Nat → Nat} {z0 : Nat} {al : List Nat} {mm : aM} {nc ns : Nat} (K : aK p s m args meth c (mL_law nm) D cA ad adV z0) {n L : Nat} {xs : Nat → Int32} (hX : va_X (ad 21) L xs s s.heap) (hb : ad 21 < z0) (hn : 6 * n + 6 ≤ L) (hL : L ≤ 384) (hr : nc + 0 ≤ 600000 ∧ ns + 0 ≤ 7302250) {r : Int} {mm2 : aM} (h1 : B_fault ((xs (6 * n + 1)).toInt) mm = some r) (h2 : R_fault ((xs (6 * n + 1)).toInt) mm = some (r, mm2)) (kk : ∀ bl, AW p l e room_1 s m args below meth c Q D cA ad z0 (mL_law nm) (al ++ bl) 1012 (lawLv n) [] SH mm2 nc ns) : AW p l e room_1 s m args below meth c Q D cA ad z0 (mL_law nm) al 96 (lawLv n) [] SH mm nc ns := by
  unfold lawLv
  refine aw_aload_n (i := 96) K (dOf ck_mL_law rfl rfl) rfl ?_
  refine aw_sload_n (i := 97) K (dOf ck_mL_law rfl rfl) rfl ?_
  refine aw_iload_n (i := 98) K (dOf ck_mL_law rfl rfl) rfl ?_
  refine aw_iconst (i := 99) K (n := 1) (i32 _ rfl) (dOf ck_mL_law rfl rfl) ?_
  refine aw_iadd (i := 100) K (dOf ck_mL_law rfl rfl) ?_
  refine aw_eqi (b := ((6 * n + 1 : Nat) : Int)) (ix_ok hn hL 1 (by decide)) ?_
  refine aw_scrld (i := 101) K hX hb (dOf ck_mL_law rfl rfl) (ix_in hn 1 (by decide)) ?_
  refine aw_callV (i := 102) (as := [.inl _]) (q := 0) K (dOf ck_mL_law rfl rfl) al_OneBreathLaw_23 rfl rfl ⟨wd_621, wd_622⟩ rfl (Nat.le_of_ble_eq_true rfl) ⟨Nat.le_of_ble_eq_true rfl, Nat.le_of_ble_eq_true rfl⟩ hr (Nat.le_refl _) (met_B_fault h1) (fun bl1 => ?_)
  refine aw_aload_n (i := 103) K (dOf ck_mL_law rfl rfl) rfl ?_
  refine aw_sload_n (i := 104) K (dOf ck_mL_law rfl rfl) rfl ?_
  refine aw_iload_n (i := 105) K (dOf ck_mL_law rfl rfl) rfl ?_
  refine aw_iconst (i := 106) K (n := 1) (i32 _ rfl) (dOf ck_mL_law rfl rfl) ?_
  refine aw_iadd (i := 107) K (dOf ck_mL_law rfl rfl) ?_
  refine aw_eqi (b := ((6 * n + 1 : Nat) : Int)) (ix_ok hn hL 1 (by decide)) ?_
  refine aw_scrld (i := 108) K hX hb (dOf ck_mL_law rfl rfl) (ix_in hn 1 (by decide)) ?_
  refine aw_callV (i := 109) (as := [.inl _]) (q := 176) K (dOf ck_mL_law rfl rfl) al_OneBreathLaw_26 rfl rfl ⟨wd_1340, wd_1341⟩ rfl (Nat.le_of_ble_eq_true rfl) ⟨Nat.le_of_ble_eq_true rfl, Nat.le_of_ble_eq_true rfl⟩ hr (Nat.le_refl _) (met_R_fault h2) (fun bl2 => ?_)
  refine aw_icmp_eq (i := 110) K (dOf ck_mL_law rfl rfl) (t := 1012) (aJl (aJ_of (by decide +kernel))) (fun _ => ?_) (fun z => absurd rfl z)
  have k9 := kk (bl1 ++ bl2)
  rw [← List.append_assoc] at k9
  exact k9
set_option maxHeartbeats 4000000 in
set_option maxRecDepth 100000 in
theorem lc_3 {nm : String} {p : Program} {l : Launch} {e : Env} {s : State} {m : MethodId} {args : Array Value} {below : List Frame} {meth : Method} {c : Code} {Q : State → Prop} {D : va_G} {cA : FieldType → ClassId} {ad adV : Nat → Nat} {z0 : Nat} {al : List Nat} {mm : aM} {nc ns : Nat} (K : aK p s m args meth c (mL_law nm) D cA ad adV z0) {n L : Nat} {xs : Nat → Int32} (hX : va_X (ad 21) L xs s s.heap) (hb : ad 21 < z0) (hn : 6 * n + 6 ≤ L) (hL : L ≤ 384) (hr : nc + 0 ≤ 600000 ∧ ns + 0 ≤ 7302250) {r : Int} {mm2 : aM} (h1 : B_sound ((xs (6 * n + 1)).toInt) ((xs (6 * n + 2)).toInt) mm = some r) (h2 : R_sound ((xs (6 * n + 1)).toInt) ((xs (6 * n + 2)).toInt) mm = some (r, mm2)) (kk : ∀ bl, AW p l e room_1 s m args below meth c Q D cA ad z0 (mL_law nm) (al ++ bl) 1012 (lawLv n) [] SH mm2 nc ns) : AW p l e room_1 s m args below meth c Q D cA ad z0 (mL_law nm) al 113 (lawLv n) [] SH mm nc ns := by
  unfold lawLv
  refine aw_aload_n (i := 113) K (dOf ck_mL_law rfl rfl) rfl ?_
  refine aw_sload_n (i := 114) K (dOf ck_mL_law rfl rfl) rfl ?_
  refine aw_iload_n (i := 115) K (dOf ck_mL_law rfl rfl) rfl ?_
  refine aw_iconst (i := 116) K (n := 1) (i32 _ rfl) (dOf ck_mL_law rfl rfl) ?_
  refine aw_iadd (i := 117) K (dOf ck_mL_law rfl rfl) ?_
  refine aw_eqi (b := ((6 * n + 1 : Nat) : Int)) (ix_ok hn hL 1 (by decide)) ?_
  refine aw_scrld (i := 118) K hX hb (dOf ck_mL_law rfl rfl) (ix_in hn 1 (by decide)) ?_
  refine aw_sload_n (i := 119) K (dOf ck_mL_law rfl rfl) rfl ?_
  refine aw_iload_n (i := 120) K (dOf ck_mL_law rfl rfl) rfl ?_
  refine aw_iconst (i := 121) K (n := 2) (i32 _ rfl) (dOf ck_mL_law rfl rfl) ?_
  refine aw_iadd (i := 122) K (dOf ck_mL_law rfl rfl) ?_
  refine aw_eqi (b := ((6 * n + 2 : Nat) : Int)) (ix_ok hn hL 2 (by decide)) ?_
  refine aw_scrld (i := 123) K hX hb (dOf ck_mL_law rfl rfl) (ix_in hn 2 (by decide)) ?_
  refine aw_callV (i := 124) (as := [.inl _, .inl _]) (q := 0) K (dOf ck_mL_law rfl rfl) al_OneBreathLaw_27 rfl rfl ⟨wd_625, wd_626⟩ rfl (Nat.le_of_ble_eq_true rfl) ⟨Nat.le_of_ble_eq_true rfl, Nat.le_of_ble_eq_true rfl⟩ hr (Nat.le_refl _) (met_B_sound h1) (fun bl1 => ?_)
  refine aw_aload_n (i := 125) K (dOf ck_mL_law rfl rfl) rfl ?_
  refine aw_sload_n (i := 126) K (dOf ck_mL_law rfl rfl) rfl ?_
  refine aw_iload_n (i := 127) K (dOf ck_mL_law rfl rfl) rfl ?_
  refine aw_iconst (i := 128) K (n := 1) (i32 _ rfl) (dOf ck_mL_law rfl rfl) ?_
  refine aw_iadd (i := 129) K (dOf ck_mL_law rfl rfl) ?_
  refine aw_eqi (b := ((6 * n + 1 : Nat) : Int)) (ix_ok hn hL 1 (by decide)) ?_
  refine aw_scrld (i := 130) K hX hb (dOf ck_mL_law rfl rfl) (ix_in hn 1 (by decide)) ?_
  refine aw_sload_n (i := 131) K (dOf ck_mL_law rfl rfl) rfl ?_
  refine aw_iload_n (i := 132) K (dOf ck_mL_law rfl rfl) rfl ?_
  refine aw_iconst (i := 133) K (n := 2) (i32 _ rfl) (dOf ck_mL_law rfl rfl) ?_
  refine aw_iadd (i := 134) K (dOf ck_mL_law rfl rfl) ?_
  refine aw_eqi (b := ((6 * n + 2 : Nat) : Int)) (ix_ok hn hL 2 (by decide)) ?_
  refine aw_scrld (i := 135) K hX hb (dOf ck_mL_law rfl rfl) (ix_in hn 2 (by decide)) ?_
  refine aw_callV (i := 136) (as := [.inl _, .inl _]) (q := 176) K (dOf ck_mL_law rfl rfl) al_OneBreathLaw_31 rfl rfl ⟨wd_1344, wd_1345⟩ rfl (Nat.le_of_ble_eq_true rfl) ⟨Nat.le_of_ble_eq_true rfl, Nat.le_of_ble_eq_true rfl⟩ hr (Nat.le_refl _) (met_R_sound h2) (fun bl2 => ?_)
  refine aw_icmp_eq (i := 137) K (dOf ck_mL_law rfl rfl) (t := 1012) (aJl (aJ_of (by decide +kernel))) (fun _ => ?_) (fun z => absurd rfl z)
  have k9 := kk (bl1 ++ bl2)
  rw [← List.append_assoc] at k9
  exact k9
set_option maxHeartbeats 4000000 in
set_option maxRecDepth 100000 in
theorem lc_4 {nm : String} {p : Program} {l : Launch} {e : Env} {s : State} {m : MethodId} {args : Array Value} {below : List Frame} {meth : Method} {c : Code} {Q : State → Prop} {D : va_G} {cA : FieldType → ClassId} {ad adV : Nat → Nat} {z0 : Nat} {al : List Nat} {mm : aM} {nc ns : Nat} (K : aK p s m args meth c (mL_law nm) D cA ad adV z0) {n L : Nat} {xs : Nat → Int32} (hX : va_X (ad 21) L xs s s.heap) (hb : ad 21 < z0) (hn : 6 * n + 6 ≤ L) (hL : L ≤ 384) (hr : nc + 0 ≤ 600000 ∧ ns + 0 ≤ 7302250) {r : Int} {mm2 : aM} (h1 : B_word ((xs (6 * n + 1)).toInt) ((xs (6 * n + 2)).toInt) mm = some r) (h2 : R_word ((xs (6 * n + 1)).toInt) ((xs (6 * n + 2)).toInt) mm = some (r, mm2)) (kk : ∀ bl, AW p l e room_1 s m args below meth c Q D cA ad z0 (mL_law nm) (al ++ bl) 1012 (lawLv n) [] SH mm2 nc ns) : AW p l e room_1 s m args below meth c Q D cA ad z0 (mL_law nm) al 140 (lawLv n) [] SH mm nc ns := by
  unfold lawLv
  refine aw_aload_n (i := 140) K (dOf ck_mL_law rfl rfl) rfl ?_
  refine aw_sload_n (i := 141) K (dOf ck_mL_law rfl rfl) rfl ?_
  refine aw_iload_n (i := 142) K (dOf ck_mL_law rfl rfl) rfl ?_
  refine aw_iconst (i := 143) K (n := 1) (i32 _ rfl) (dOf ck_mL_law rfl rfl) ?_
  refine aw_iadd (i := 144) K (dOf ck_mL_law rfl rfl) ?_
  refine aw_eqi (b := ((6 * n + 1 : Nat) : Int)) (ix_ok hn hL 1 (by decide)) ?_
  refine aw_scrld (i := 145) K hX hb (dOf ck_mL_law rfl rfl) (ix_in hn 1 (by decide)) ?_
  refine aw_sload_n (i := 146) K (dOf ck_mL_law rfl rfl) rfl ?_
  refine aw_iload_n (i := 147) K (dOf ck_mL_law rfl rfl) rfl ?_
  refine aw_iconst (i := 148) K (n := 2) (i32 _ rfl) (dOf ck_mL_law rfl rfl) ?_
  refine aw_iadd (i := 149) K (dOf ck_mL_law rfl rfl) ?_
  refine aw_eqi (b := ((6 * n + 2 : Nat) : Int)) (ix_ok hn hL 2 (by decide)) ?_
  refine aw_scrld (i := 150) K hX hb (dOf ck_mL_law rfl rfl) (ix_in hn 2 (by decide)) ?_
  refine aw_callV (i := 151) (as := [.inl _, .inl _]) (q := 0) K (dOf ck_mL_law rfl rfl) al_OneBreathLaw_32 rfl rfl ⟨wd_629, wd_630⟩ rfl (Nat.le_of_ble_eq_true rfl) ⟨Nat.le_of_ble_eq_true rfl, Nat.le_of_ble_eq_true rfl⟩ hr (Nat.le_refl _) (met_B_word h1) (fun bl1 => ?_)
  refine aw_aload_n (i := 152) K (dOf ck_mL_law rfl rfl) rfl ?_
  refine aw_sload_n (i := 153) K (dOf ck_mL_law rfl rfl) rfl ?_
  refine aw_iload_n (i := 154) K (dOf ck_mL_law rfl rfl) rfl ?_
  refine aw_iconst (i := 155) K (n := 1) (i32 _ rfl) (dOf ck_mL_law rfl rfl) ?_
  refine aw_iadd (i := 156) K (dOf ck_mL_law rfl rfl) ?_
  refine aw_eqi (b := ((6 * n + 1 : Nat) : Int)) (ix_ok hn hL 1 (by decide)) ?_
  refine aw_scrld (i := 157) K hX hb (dOf ck_mL_law rfl rfl) (ix_in hn 1 (by decide)) ?_
  refine aw_sload_n (i := 158) K (dOf ck_mL_law rfl rfl) rfl ?_
  refine aw_iload_n (i := 159) K (dOf ck_mL_law rfl rfl) rfl ?_
  refine aw_iconst (i := 160) K (n := 2) (i32 _ rfl) (dOf ck_mL_law rfl rfl) ?_
  refine aw_iadd (i := 161) K (dOf ck_mL_law rfl rfl) ?_
  refine aw_eqi (b := ((6 * n + 2 : Nat) : Int)) (ix_ok hn hL 2 (by decide)) ?_
  refine aw_scrld (i := 162) K hX hb (dOf ck_mL_law rfl rfl) (ix_in hn 2 (by decide)) ?_
  refine aw_callV (i := 163) (as := [.inl _, .inl _]) (q := 176) K (dOf ck_mL_law rfl rfl) al_OneBreathLaw_35 rfl rfl ⟨wd_1349, wd_1350⟩ rfl (Nat.le_of_ble_eq_true rfl) ⟨Nat.le_of_ble_eq_true rfl, Nat.le_of_ble_eq_true rfl⟩ hr (Nat.le_refl _) (met_R_word h2) (fun bl2 => ?_)
  refine aw_icmp_eq (i := 164) K (dOf ck_mL_law rfl rfl) (t := 1012) (aJl (aJ_of (by decide +kernel))) (fun _ => ?_) (fun z => absurd rfl z)
  have k9 := kk (bl1 ++ bl2)
  rw [← List.append_assoc] at k9
  exact k9
set_option maxHeartbeats 4000000 in
set_option maxRecDepth 100000 in
theorem lc_5 {nm : String} {p : Program} {l : Launch} {e : Env} {s : State} {m : MethodId} {args : Array Value} {below : List Frame} {meth : Method} {c : Code} {Q : State → Prop} {D : va_G} {cA : FieldType → ClassId} {ad adV : Nat → Nat} {z0 : Nat} {al : List Nat} {mm : aM} {nc ns : Nat} (K : aK p s m args meth c (mL_law nm) D cA ad adV z0) {n L : Nat} {xs : Nat → Int32} (hX : va_X (ad 21) L xs s s.heap) (hb : ad 21 < z0) (hn : 6 * n + 6 ≤ L) (hL : L ≤ 384) (hr : nc + 0 ≤ 600000 ∧ ns + 0 ≤ 7302250) {r : Int} {mm2 : aM} (h1 : B_shape ((xs (6 * n + 1)).toInt) ((xs (6 * n + 2)).toInt) mm = some r) (h2 : R_shape ((xs (6 * n + 1)).toInt) ((xs (6 * n + 2)).toInt) mm = some (r, mm2)) (kk : ∀ bl, AW p l e room_1 s m args below meth c Q D cA ad z0 (mL_law nm) (al ++ bl) 1012 (lawLv n) [] SH mm2 nc ns) : AW p l e room_1 s m args below meth c Q D cA ad z0 (mL_law nm) al 167 (lawLv n) [] SH mm nc ns := by
  unfold lawLv
  refine aw_aload_n (i := 167) K (dOf ck_mL_law rfl rfl) rfl ?_
  refine aw_sload_n (i := 168) K (dOf ck_mL_law rfl rfl) rfl ?_
  refine aw_iload_n (i := 169) K (dOf ck_mL_law rfl rfl) rfl ?_
  refine aw_iconst (i := 170) K (n := 1) (i32 _ rfl) (dOf ck_mL_law rfl rfl) ?_
  refine aw_iadd (i := 171) K (dOf ck_mL_law rfl rfl) ?_
  refine aw_eqi (b := ((6 * n + 1 : Nat) : Int)) (ix_ok hn hL 1 (by decide)) ?_
  refine aw_scrld (i := 172) K hX hb (dOf ck_mL_law rfl rfl) (ix_in hn 1 (by decide)) ?_
  refine aw_sload_n (i := 173) K (dOf ck_mL_law rfl rfl) rfl ?_
  refine aw_iload_n (i := 174) K (dOf ck_mL_law rfl rfl) rfl ?_
  refine aw_iconst (i := 175) K (n := 2) (i32 _ rfl) (dOf ck_mL_law rfl rfl) ?_
  refine aw_iadd (i := 176) K (dOf ck_mL_law rfl rfl) ?_
  refine aw_eqi (b := ((6 * n + 2 : Nat) : Int)) (ix_ok hn hL 2 (by decide)) ?_
  refine aw_scrld (i := 177) K hX hb (dOf ck_mL_law rfl rfl) (ix_in hn 2 (by decide)) ?_
  refine aw_callV (i := 178) (as := [.inl _, .inl _]) (q := 0) K (dOf ck_mL_law rfl rfl) al_OneBreathLaw_36 rfl rfl ⟨wd_637, wd_638⟩ rfl (Nat.le_of_ble_eq_true rfl) ⟨Nat.le_of_ble_eq_true rfl, Nat.le_of_ble_eq_true rfl⟩ hr (Nat.le_refl _) (met_B_shape h1) (fun bl1 => ?_)
  refine aw_aload_n (i := 179) K (dOf ck_mL_law rfl rfl) rfl ?_
  refine aw_sload_n (i := 180) K (dOf ck_mL_law rfl rfl) rfl ?_
  refine aw_iload_n (i := 181) K (dOf ck_mL_law rfl rfl) rfl ?_
  refine aw_iconst (i := 182) K (n := 1) (i32 _ rfl) (dOf ck_mL_law rfl rfl) ?_
  refine aw_iadd (i := 183) K (dOf ck_mL_law rfl rfl) ?_
  refine aw_eqi (b := ((6 * n + 1 : Nat) : Int)) (ix_ok hn hL 1 (by decide)) ?_
  refine aw_scrld (i := 184) K hX hb (dOf ck_mL_law rfl rfl) (ix_in hn 1 (by decide)) ?_
  refine aw_sload_n (i := 185) K (dOf ck_mL_law rfl rfl) rfl ?_
  refine aw_iload_n (i := 186) K (dOf ck_mL_law rfl rfl) rfl ?_
  refine aw_iconst (i := 187) K (n := 2) (i32 _ rfl) (dOf ck_mL_law rfl rfl) ?_
  refine aw_iadd (i := 188) K (dOf ck_mL_law rfl rfl) ?_
  refine aw_eqi (b := ((6 * n + 2 : Nat) : Int)) (ix_ok hn hL 2 (by decide)) ?_
  refine aw_scrld (i := 189) K hX hb (dOf ck_mL_law rfl rfl) (ix_in hn 2 (by decide)) ?_
  refine aw_callV (i := 190) (as := [.inl _, .inl _]) (q := 176) K (dOf ck_mL_law rfl rfl) al_OneBreathLaw_39 rfl rfl ⟨wd_1357, wd_1358⟩ rfl (Nat.le_of_ble_eq_true rfl) ⟨Nat.le_of_ble_eq_true rfl, Nat.le_of_ble_eq_true rfl⟩ hr (Nat.le_refl _) (met_R_shape h2) (fun bl2 => ?_)
  refine aw_icmp_eq (i := 191) K (dOf ck_mL_law rfl rfl) (t := 1012) (aJl (aJ_of (by decide +kernel))) (fun _ => ?_) (fun z => absurd rfl z)
  have k9 := kk (bl1 ++ bl2)
  rw [← List.append_assoc] at k9
  exact k9
set_option maxHeartbeats 4000000 in
set_option maxRecDepth 100000 in
theorem lc_6 {nm : String} {p : Program} {l : Launch} {e : Env} {s : State} {m : MethodId} {args : Array Value} {below : List Frame} {meth : Method} {c : Code} {Q : State → Prop} {D : va_G} {cA : FieldType → ClassId} {ad adV : Nat → Nat} {z0 : Nat} {al : List Nat} {mm : aM} {nc ns : Nat} (K : aK p s m args meth c (mL_law nm) D cA ad adV z0) {n L : Nat} {xs : Nat → Int32} (hX : va_X (ad 21) L xs s s.heap) (hb : ad 21 < z0) (hn : 6 * n + 6 ≤ L) (hL : L ≤ 384) (hr : nc + 0 ≤ 600000 ∧ ns + 0 ≤ 7302250) {r : Int} {mm2 : aM} (h1 : B_behind ((xs (6 * n + 1)).toInt) mm = some r) (h2 : R_behind ((xs (6 * n + 1)).toInt) mm = some (r, mm2)) (kk : ∀ bl, AW p l e room_1 s m args below meth c Q D cA ad z0 (mL_law nm) (al ++ bl) 1012 (lawLv n) [] SH mm2 nc ns) : AW p l e room_1 s m args below meth c Q D cA ad z0 (mL_law nm) al 194 (lawLv n) [] SH mm nc ns := by
  unfold lawLv
  refine aw_aload_n (i := 194) K (dOf ck_mL_law rfl rfl) rfl ?_
  refine aw_sload_n (i := 195) K (dOf ck_mL_law rfl rfl) rfl ?_
  refine aw_iload_n (i := 196) K (dOf ck_mL_law rfl rfl) rfl ?_
  refine aw_iconst (i := 197) K (n := 1) (i32 _ rfl) (dOf ck_mL_law rfl rfl) ?_
  refine aw_iadd (i := 198) K (dOf ck_mL_law rfl rfl) ?_
  refine aw_eqi (b := ((6 * n + 1 : Nat) : Int)) (ix_ok hn hL 1 (by decide)) ?_
  refine aw_scrld (i := 199) K hX hb (dOf ck_mL_law rfl rfl) (ix_in hn 1 (by decide)) ?_
  refine aw_callV (i := 200) (as := [.inl _]) (q := 0) K (dOf ck_mL_law rfl rfl) al_OneBreathLaw_40 rfl rfl ⟨wd_641, wd_642⟩ rfl (Nat.le_of_ble_eq_true rfl) ⟨Nat.le_of_ble_eq_true rfl, Nat.le_of_ble_eq_true rfl⟩ hr (Nat.le_refl _) (met_B_behind h1) (fun bl1 => ?_)
  refine aw_aload_n (i := 201) K (dOf ck_mL_law rfl rfl) rfl ?_
  refine aw_sload_n (i := 202) K (dOf ck_mL_law rfl rfl) rfl ?_
  refine aw_iload_n (i := 203) K (dOf ck_mL_law rfl rfl) rfl ?_
  refine aw_iconst (i := 204) K (n := 1) (i32 _ rfl) (dOf ck_mL_law rfl rfl) ?_
  refine aw_iadd (i := 205) K (dOf ck_mL_law rfl rfl) ?_
  refine aw_eqi (b := ((6 * n + 1 : Nat) : Int)) (ix_ok hn hL 1 (by decide)) ?_
  refine aw_scrld (i := 206) K hX hb (dOf ck_mL_law rfl rfl) (ix_in hn 1 (by decide)) ?_
  refine aw_callV (i := 207) (as := [.inl _]) (q := 176) K (dOf ck_mL_law rfl rfl) al_OneBreathLaw_43 rfl rfl ⟨wd_1362, wd_1363⟩ rfl (Nat.le_of_ble_eq_true rfl) ⟨Nat.le_of_ble_eq_true rfl, Nat.le_of_ble_eq_true rfl⟩ hr (Nat.le_refl _) (met_R_behind h2) (fun bl2 => ?_)
  refine aw_icmp_eq (i := 208) K (dOf ck_mL_law rfl rfl) (t := 1012) (aJl (aJ_of (by decide +kernel))) (fun _ => ?_) (fun z => absurd rfl z)
  have k9 := kk (bl1 ++ bl2)
  rw [← List.append_assoc] at k9
  exact k9
set_option maxHeartbeats 4000000 in
set_option maxRecDepth 100000 in
theorem lc_7 {nm : String} {p : Program} {l : Launch} {e : Env} {s : State} {m : MethodId} {args : Array Value} {below : List Frame} {meth : Method} {c : Code} {Q : State → Prop} {D : va_G} {cA : FieldType → ClassId} {ad adV : Nat → Nat} {z0 : Nat} {al : List Nat} {mm : aM} {nc ns : Nat} (K : aK p s m args meth c (mL_law nm) D cA ad adV z0) {n L : Nat} {xs : Nat → Int32} (hX : va_X (ad 21) L xs s s.heap) (hb : ad 21 < z0) (hn : 6 * n + 6 ≤ L) (hL : L ≤ 384) (hr : nc + 0 ≤ 600000 ∧ ns + 0 ≤ 7302250) {r : Int} {mm2 : aM} (h1 : B_ends ((xs (6 * n + 1)).toInt) mm = some r) (h2 : R_ends ((xs (6 * n + 1)).toInt) mm = some (r, mm2)) (kk : ∀ bl, AW p l e room_1 s m args below meth c Q D cA ad z0 (mL_law nm) (al ++ bl) 1012 (lawLv n) [] SH mm2 nc ns) : AW p l e room_1 s m args below meth c Q D cA ad z0 (mL_law nm) al 211 (lawLv n) [] SH mm nc ns := by
  unfold lawLv
  refine aw_aload_n (i := 211) K (dOf ck_mL_law rfl rfl) rfl ?_
  refine aw_sload_n (i := 212) K (dOf ck_mL_law rfl rfl) rfl ?_
  refine aw_iload_n (i := 213) K (dOf ck_mL_law rfl rfl) rfl ?_
  refine aw_iconst (i := 214) K (n := 1) (i32 _ rfl) (dOf ck_mL_law rfl rfl) ?_
  refine aw_iadd (i := 215) K (dOf ck_mL_law rfl rfl) ?_
  refine aw_eqi (b := ((6 * n + 1 : Nat) : Int)) (ix_ok hn hL 1 (by decide)) ?_
  refine aw_scrld (i := 216) K hX hb (dOf ck_mL_law rfl rfl) (ix_in hn 1 (by decide)) ?_
  refine aw_callV (i := 217) (as := [.inl _]) (q := 0) K (dOf ck_mL_law rfl rfl) al_OneBreathLaw_44 rfl rfl ⟨wd_648, wd_649⟩ rfl (Nat.le_of_ble_eq_true rfl) ⟨Nat.le_of_ble_eq_true rfl, Nat.le_of_ble_eq_true rfl⟩ hr (Nat.le_refl _) (met_B_ends h1) (fun bl1 => ?_)
  refine aw_aload_n (i := 218) K (dOf ck_mL_law rfl rfl) rfl ?_
  refine aw_sload_n (i := 219) K (dOf ck_mL_law rfl rfl) rfl ?_
  refine aw_iload_n (i := 220) K (dOf ck_mL_law rfl rfl) rfl ?_
  refine aw_iconst (i := 221) K (n := 1) (i32 _ rfl) (dOf ck_mL_law rfl rfl) ?_
  refine aw_iadd (i := 222) K (dOf ck_mL_law rfl rfl) ?_
  refine aw_eqi (b := ((6 * n + 1 : Nat) : Int)) (ix_ok hn hL 1 (by decide)) ?_
  refine aw_scrld (i := 223) K hX hb (dOf ck_mL_law rfl rfl) (ix_in hn 1 (by decide)) ?_
  refine aw_callV (i := 224) (as := [.inl _]) (q := 176) K (dOf ck_mL_law rfl rfl) al_OneBreathLaw_47 rfl rfl ⟨wd_1367, wd_1368⟩ rfl (Nat.le_of_ble_eq_true rfl) ⟨Nat.le_of_ble_eq_true rfl, Nat.le_of_ble_eq_true rfl⟩ hr (Nat.le_refl _) (met_R_ends h2) (fun bl2 => ?_)
  refine aw_icmp_eq (i := 225) K (dOf ck_mL_law rfl rfl) (t := 1012) (aJl (aJ_of (by decide +kernel))) (fun _ => ?_) (fun z => absurd rfl z)
  have k9 := kk (bl1 ++ bl2)
  rw [← List.append_assoc] at k9
  exact k9
set_option maxHeartbeats 4000000 in
set_option maxRecDepth 100000 in
theorem lc_8 {nm : String} {p : Program} {l : Launch} {e : Env} {s : State} {m : MethodId} {args : Array Value} {below : List Frame} {meth : Method} {c : Code} {Q : State → Prop} {D : va_G} {cA : FieldType → ClassId} {ad adV : Nat → Nat} {z0 : Nat} {al : List Nat} {mm : aM} {nc ns : Nat} (K : aK p s m args meth c (mL_law nm) D cA ad adV z0) {n L : Nat} {xs : Nat → Int32} (hX : va_X (ad 21) L xs s s.heap) (hb : ad 21 < z0) (hn : 6 * n + 6 ≤ L) (hL : L ≤ 384) (hr : nc + 0 ≤ 600000 ∧ ns + 0 ≤ 7302250) {r : Int} {mm1 mm2 : aM} (h1 : B_spelt ((xs (6 * n + 1)).toInt) mm = some (r, mm1)) (h2 : R_spelt ((xs (6 * n + 1)).toInt) mm1 = some (r, mm2)) (kk : ∀ bl, AW p l e room_1 s m args below meth c Q D cA ad z0 (mL_law nm) (al ++ bl) 1012 (lawLv n) [] SH mm2 nc ns) : AW p l e room_1 s m args below meth c Q D cA ad z0 (mL_law nm) al 228 (lawLv n) [] SH mm nc ns := by
  unfold lawLv
  refine aw_aload_n (i := 228) K (dOf ck_mL_law rfl rfl) rfl ?_
  refine aw_sload_n (i := 229) K (dOf ck_mL_law rfl rfl) rfl ?_
  refine aw_iload_n (i := 230) K (dOf ck_mL_law rfl rfl) rfl ?_
  refine aw_iconst (i := 231) K (n := 1) (i32 _ rfl) (dOf ck_mL_law rfl rfl) ?_
  refine aw_iadd (i := 232) K (dOf ck_mL_law rfl rfl) ?_
  refine aw_eqi (b := ((6 * n + 1 : Nat) : Int)) (ix_ok hn hL 1 (by decide)) ?_
  refine aw_scrld (i := 233) K hX hb (dOf ck_mL_law rfl rfl) (ix_in hn 1 (by decide)) ?_
  refine aw_callV (i := 234) (as := [.inl _]) (q := 0) K (dOf ck_mL_law rfl rfl) al_OneBreathLaw_48 rfl rfl ⟨wd_652, wd_653⟩ rfl (Nat.le_of_ble_eq_true rfl) ⟨Nat.le_of_ble_eq_true rfl, Nat.le_of_ble_eq_true rfl⟩ hr (Nat.le_refl _) (met_B_spelt h1) (fun bl1 => ?_)
  refine aw_aload_n (i := 235) K (dOf ck_mL_law rfl rfl) rfl ?_
  refine aw_sload_n (i := 236) K (dOf ck_mL_law rfl rfl) rfl ?_
  refine aw_iload_n (i := 237) K (dOf ck_mL_law rfl rfl) rfl ?_
  refine aw_iconst (i := 238) K (n := 1) (i32 _ rfl) (dOf ck_mL_law rfl rfl) ?_
  refine aw_iadd (i := 239) K (dOf ck_mL_law rfl rfl) ?_
  refine aw_eqi (b := ((6 * n + 1 : Nat) : Int)) (ix_ok hn hL 1 (by decide)) ?_
  refine aw_scrld (i := 240) K hX hb (dOf ck_mL_law rfl rfl) (ix_in hn 1 (by decide)) ?_
  refine aw_callV (i := 241) (as := [.inl _]) (q := 176) K (dOf ck_mL_law rfl rfl) al_OneBreathLaw_51 rfl rfl ⟨wd_1371, wd_1372⟩ rfl (Nat.le_of_ble_eq_true rfl) ⟨Nat.le_of_ble_eq_true rfl, Nat.le_of_ble_eq_true rfl⟩ hr (Nat.le_refl _) (met_R_spelt h2) (fun bl2 => ?_)
  refine aw_icmp_eq (i := 242) K (dOf ck_mL_law rfl rfl) (t := 1012) (aJl (aJ_of (by decide +kernel))) (fun _ => ?_) (fun z => absurd rfl z)
  have k9 := kk (bl1 ++ bl2)
  rw [← List.append_assoc] at k9
  exact k9
set_option maxHeartbeats 4000000 in
set_option maxRecDepth 100000 in
theorem lc_9 {nm : String} {p : Program} {l : Launch} {e : Env} {s : State} {m : MethodId} {args : Array Value} {below : List Frame} {meth : Method} {c : Code} {Q : State → Prop} {D : va_G} {cA : FieldType → ClassId} {ad adV : Nat → Nat} {z0 : Nat} {al : List Nat} {mm : aM} {nc ns : Nat} (K : aK p s m args meth c (mL_law nm) D cA ad adV z0) {n L : Nat} {xs : Nat → Int32} (hX : va_X (ad 21) L xs s s.heap) (hb : ad 21 < z0) (hn : 6 * n + 6 ≤ L) (hL : L ≤ 384) (hr : nc + 0 ≤ 600000 ∧ ns + 0 ≤ 7302250) {r : Int} {mm1 mm2 : aM} (h1 : B_unlike ((xs (6 * n + 1)).toInt) ((xs (6 * n + 2)).toInt) mm = some (r, mm1)) (h2 : R_unlike ((xs (6 * n + 1)).toInt) ((xs (6 * n + 2)).toInt) mm1 = some (r, mm2)) (kk : ∀ bl, AW p l e room_1 s m args below meth c Q D cA ad z0 (mL_law nm) (al ++ bl) 1012 (lawLv n) [] SH mm2 nc ns) : AW p l e room_1 s m args below meth c Q D cA ad z0 (mL_law nm) al 245 (lawLv n) [] SH mm nc ns := by
  unfold lawLv
  refine aw_aload_n (i := 245) K (dOf ck_mL_law rfl rfl) rfl ?_
  refine aw_sload_n (i := 246) K (dOf ck_mL_law rfl rfl) rfl ?_
  refine aw_iload_n (i := 247) K (dOf ck_mL_law rfl rfl) rfl ?_
  refine aw_iconst (i := 248) K (n := 1) (i32 _ rfl) (dOf ck_mL_law rfl rfl) ?_
  refine aw_iadd (i := 249) K (dOf ck_mL_law rfl rfl) ?_
  refine aw_eqi (b := ((6 * n + 1 : Nat) : Int)) (ix_ok hn hL 1 (by decide)) ?_
  refine aw_scrld (i := 250) K hX hb (dOf ck_mL_law rfl rfl) (ix_in hn 1 (by decide)) ?_
  refine aw_sload_n (i := 251) K (dOf ck_mL_law rfl rfl) rfl ?_
  refine aw_iload_n (i := 252) K (dOf ck_mL_law rfl rfl) rfl ?_
  refine aw_iconst (i := 253) K (n := 2) (i32 _ rfl) (dOf ck_mL_law rfl rfl) ?_
  refine aw_iadd (i := 254) K (dOf ck_mL_law rfl rfl) ?_
  refine aw_eqi (b := ((6 * n + 2 : Nat) : Int)) (ix_ok hn hL 2 (by decide)) ?_
  refine aw_scrld (i := 255) K hX hb (dOf ck_mL_law rfl rfl) (ix_in hn 2 (by decide)) ?_
  refine aw_callV (i := 256) (as := [.inl _, .inl _]) (q := 0) K (dOf ck_mL_law rfl rfl) al_OneBreathLaw_52 rfl rfl ⟨wd_665, wd_666⟩ rfl (Nat.le_of_ble_eq_true rfl) ⟨Nat.le_of_ble_eq_true rfl, Nat.le_of_ble_eq_true rfl⟩ hr (Nat.le_refl _) (met_B_unlike h1) (fun bl1 => ?_)
  refine aw_aload_n (i := 257) K (dOf ck_mL_law rfl rfl) rfl ?_
  refine aw_sload_n (i := 258) K (dOf ck_mL_law rfl rfl) rfl ?_
  refine aw_iload_n (i := 259) K (dOf ck_mL_law rfl rfl) rfl ?_
  refine aw_iconst (i := 260) K (n := 1) (i32 _ rfl) (dOf ck_mL_law rfl rfl) ?_
  refine aw_iadd (i := 261) K (dOf ck_mL_law rfl rfl) ?_
  refine aw_eqi (b := ((6 * n + 1 : Nat) : Int)) (ix_ok hn hL 1 (by decide)) ?_
  refine aw_scrld (i := 262) K hX hb (dOf ck_mL_law rfl rfl) (ix_in hn 1 (by decide)) ?_
  refine aw_sload_n (i := 263) K (dOf ck_mL_law rfl rfl) rfl ?_
  refine aw_iload_n (i := 264) K (dOf ck_mL_law rfl rfl) rfl ?_
  refine aw_iconst (i := 265) K (n := 2) (i32 _ rfl) (dOf ck_mL_law rfl rfl) ?_
  refine aw_iadd (i := 266) K (dOf ck_mL_law rfl rfl) ?_
  refine aw_eqi (b := ((6 * n + 2 : Nat) : Int)) (ix_ok hn hL 2 (by decide)) ?_
  refine aw_scrld (i := 267) K hX hb (dOf ck_mL_law rfl rfl) (ix_in hn 2 (by decide)) ?_
  refine aw_callV (i := 268) (as := [.inl _, .inl _]) (q := 176) K (dOf ck_mL_law rfl rfl) al_OneBreathLaw_55 rfl rfl ⟨wd_1375, wd_1376⟩ rfl (Nat.le_of_ble_eq_true rfl) ⟨Nat.le_of_ble_eq_true rfl, Nat.le_of_ble_eq_true rfl⟩ hr (Nat.le_refl _) (met_R_unlike h2) (fun bl2 => ?_)
  refine aw_icmp_eq (i := 269) K (dOf ck_mL_law rfl rfl) (t := 1012) (aJl (aJ_of (by decide +kernel))) (fun _ => ?_) (fun z => absurd rfl z)
  have k9 := kk (bl1 ++ bl2)
  rw [← List.append_assoc] at k9
  exact k9
set_option maxHeartbeats 4000000 in
set_option maxRecDepth 100000 in
theorem lc_10 {nm : String} {p : Program} {l : Launch} {e : Env} {s : State} {m : MethodId} {args : Array Value} {below : List Frame} {meth : Method} {c : Code} {Q : State → Prop} {D : va_G} {cA : FieldType → ClassId} {ad adV : Nat → Nat} {z0 : Nat} {al : List Nat} {mm : aM} {nc ns : Nat} (K : aK p s m args meth c (mL_law nm) D cA ad adV z0) {n L : Nat} {xs : Nat → Int32} (hX : va_X (ad 21) L xs s s.heap) (hb : ad 21 < z0) (hn : 6 * n + 6 ≤ L) (hL : L ≤ 384) (hr : nc + 0 ≤ 600000 ∧ ns + 0 ≤ 7302250) {r : Int} {mm1 mm2 : aM} (h1 : B_near ((xs (6 * n + 1)).toInt) mm = some (r, mm1)) (h2 : R_near ((xs (6 * n + 1)).toInt) mm1 = some (r, mm2)) (kk : ∀ bl, AW p l e room_1 s m args below meth c Q D cA ad z0 (mL_law nm) (al ++ bl) 1012 (lawLv n) [] SH mm2 nc ns) : AW p l e room_1 s m args below meth c Q D cA ad z0 (mL_law nm) al 272 (lawLv n) [] SH mm nc ns := by
  unfold lawLv
  refine aw_aload_n (i := 272) K (dOf ck_mL_law rfl rfl) rfl ?_
  refine aw_sload_n (i := 273) K (dOf ck_mL_law rfl rfl) rfl ?_
  refine aw_iload_n (i := 274) K (dOf ck_mL_law rfl rfl) rfl ?_
  refine aw_iconst (i := 275) K (n := 1) (i32 _ rfl) (dOf ck_mL_law rfl rfl) ?_
  refine aw_iadd (i := 276) K (dOf ck_mL_law rfl rfl) ?_
  refine aw_eqi (b := ((6 * n + 1 : Nat) : Int)) (ix_ok hn hL 1 (by decide)) ?_
  refine aw_scrld (i := 277) K hX hb (dOf ck_mL_law rfl rfl) (ix_in hn 1 (by decide)) ?_
  refine aw_callV (i := 278) (as := [.inl _]) (q := 0) K (dOf ck_mL_law rfl rfl) al_OneBreathLaw_56 rfl rfl ⟨wd_680, wd_681⟩ rfl (Nat.le_of_ble_eq_true rfl) ⟨Nat.le_of_ble_eq_true rfl, Nat.le_of_ble_eq_true rfl⟩ hr (Nat.le_refl _) (met_B_near h1) (fun bl1 => ?_)
  refine aw_aload_n (i := 279) K (dOf ck_mL_law rfl rfl) rfl ?_
  refine aw_sload_n (i := 280) K (dOf ck_mL_law rfl rfl) rfl ?_
  refine aw_iload_n (i := 281) K (dOf ck_mL_law rfl rfl) rfl ?_
  refine aw_iconst (i := 282) K (n := 1) (i32 _ rfl) (dOf ck_mL_law rfl rfl) ?_
  refine aw_iadd (i := 283) K (dOf ck_mL_law rfl rfl) ?_
  refine aw_eqi (b := ((6 * n + 1 : Nat) : Int)) (ix_ok hn hL 1 (by decide)) ?_
  refine aw_scrld (i := 284) K hX hb (dOf ck_mL_law rfl rfl) (ix_in hn 1 (by decide)) ?_
  refine aw_callV (i := 285) (as := [.inl _]) (q := 176) K (dOf ck_mL_law rfl rfl) al_OneBreathLaw_59 rfl rfl ⟨wd_1385, wd_1386⟩ rfl (Nat.le_of_ble_eq_true rfl) ⟨Nat.le_of_ble_eq_true rfl, Nat.le_of_ble_eq_true rfl⟩ hr (Nat.le_refl _) (met_R_near h2) (fun bl2 => ?_)
  refine aw_icmp_eq (i := 286) K (dOf ck_mL_law rfl rfl) (t := 1012) (aJl (aJ_of (by decide +kernel))) (fun _ => ?_) (fun z => absurd rfl z)
  have k9 := kk (bl1 ++ bl2)
  rw [← List.append_assoc] at k9
  exact k9
set_option maxHeartbeats 4000000 in
set_option maxRecDepth 100000 in
theorem lc_11 {nm : String} {p : Program} {l : Launch} {e : Env} {s : State} {m : MethodId} {args : Array Value} {below : List Frame} {meth : Method} {c : Code} {Q : State → Prop} {D : va_G} {cA : FieldType → ClassId} {ad adV : Nat → Nat} {z0 : Nat} {al : List Nat} {mm : aM} {nc ns : Nat} (K : aK p s m args meth c (mL_law nm) D cA ad adV z0) {n L : Nat} {xs : Nat → Int32} (hX : va_X (ad 21) L xs s s.heap) (hb : ad 21 < z0) (hn : 6 * n + 6 ≤ L) (hL : L ≤ 384) (hr : nc + 0 ≤ 600000 ∧ ns + 0 ≤ 7302250) {r : Int} {mm1 mm2 : aM} (h1 : B_judge ((xs (6 * n + 1)).toInt) ((xs (6 * n + 2)).toInt) mm = some (r, mm1)) (h2 : R_judge ((xs (6 * n + 1)).toInt) ((xs (6 * n + 2)).toInt) mm1 = some (r, mm2)) (kk : ∀ bl, AW p l e room_1 s m args below meth c Q D cA ad z0 (mL_law nm) (al ++ bl) 1012 (lawLv n) [] SH mm2 nc ns) : AW p l e room_1 s m args below meth c Q D cA ad z0 (mL_law nm) al 289 (lawLv n) [] SH mm nc ns := by
  unfold lawLv
  refine aw_aload_n (i := 289) K (dOf ck_mL_law rfl rfl) rfl ?_
  refine aw_sload_n (i := 290) K (dOf ck_mL_law rfl rfl) rfl ?_
  refine aw_iload_n (i := 291) K (dOf ck_mL_law rfl rfl) rfl ?_
  refine aw_iconst (i := 292) K (n := 1) (i32 _ rfl) (dOf ck_mL_law rfl rfl) ?_
  refine aw_iadd (i := 293) K (dOf ck_mL_law rfl rfl) ?_
  refine aw_eqi (b := ((6 * n + 1 : Nat) : Int)) (ix_ok hn hL 1 (by decide)) ?_
  refine aw_scrld (i := 294) K hX hb (dOf ck_mL_law rfl rfl) (ix_in hn 1 (by decide)) ?_
  refine aw_sload_n (i := 295) K (dOf ck_mL_law rfl rfl) rfl ?_
  refine aw_iload_n (i := 296) K (dOf ck_mL_law rfl rfl) rfl ?_
  refine aw_iconst (i := 297) K (n := 2) (i32 _ rfl) (dOf ck_mL_law rfl rfl) ?_
  refine aw_iadd (i := 298) K (dOf ck_mL_law rfl rfl) ?_
  refine aw_eqi (b := ((6 * n + 2 : Nat) : Int)) (ix_ok hn hL 2 (by decide)) ?_
  refine aw_scrld (i := 299) K hX hb (dOf ck_mL_law rfl rfl) (ix_in hn 2 (by decide)) ?_
  refine aw_callV (i := 300) (as := [.inl _, .inl _]) (q := 0) K (dOf ck_mL_law rfl rfl) al_OneBreathLaw_60 rfl rfl ⟨wd_684, wd_685⟩ rfl (Nat.le_of_ble_eq_true rfl) ⟨Nat.le_of_ble_eq_true rfl, Nat.le_of_ble_eq_true rfl⟩ hr (Nat.le_refl _) (met_B_judge h1) (fun bl1 => ?_)
  refine aw_aload_n (i := 301) K (dOf ck_mL_law rfl rfl) rfl ?_
  refine aw_sload_n (i := 302) K (dOf ck_mL_law rfl rfl) rfl ?_
  refine aw_iload_n (i := 303) K (dOf ck_mL_law rfl rfl) rfl ?_
  refine aw_iconst (i := 304) K (n := 1) (i32 _ rfl) (dOf ck_mL_law rfl rfl) ?_
  refine aw_iadd (i := 305) K (dOf ck_mL_law rfl rfl) ?_
  refine aw_eqi (b := ((6 * n + 1 : Nat) : Int)) (ix_ok hn hL 1 (by decide)) ?_
  refine aw_scrld (i := 306) K hX hb (dOf ck_mL_law rfl rfl) (ix_in hn 1 (by decide)) ?_
  refine aw_sload_n (i := 307) K (dOf ck_mL_law rfl rfl) rfl ?_
  refine aw_iload_n (i := 308) K (dOf ck_mL_law rfl rfl) rfl ?_
  refine aw_iconst (i := 309) K (n := 2) (i32 _ rfl) (dOf ck_mL_law rfl rfl) ?_
  refine aw_iadd (i := 310) K (dOf ck_mL_law rfl rfl) ?_
  refine aw_eqi (b := ((6 * n + 2 : Nat) : Int)) (ix_ok hn hL 2 (by decide)) ?_
  refine aw_scrld (i := 311) K hX hb (dOf ck_mL_law rfl rfl) (ix_in hn 2 (by decide)) ?_
  refine aw_callV (i := 312) (as := [.inl _, .inl _]) (q := 176) K (dOf ck_mL_law rfl rfl) al_OneBreathLaw_63 rfl rfl ⟨wd_1389, wd_1390⟩ rfl (Nat.le_of_ble_eq_true rfl) ⟨Nat.le_of_ble_eq_true rfl, Nat.le_of_ble_eq_true rfl⟩ hr (Nat.le_refl _) (met_R_judge h2) (fun bl2 => ?_)
  refine aw_icmp_eq (i := 313) K (dOf ck_mL_law rfl rfl) (t := 1012) (aJl (aJ_of (by decide +kernel))) (fun _ => ?_) (fun z => absurd rfl z)
  have k9 := kk (bl1 ++ bl2)
  rw [← List.append_assoc] at k9
  exact k9
set_option maxHeartbeats 4000000 in
set_option maxRecDepth 100000 in
theorem lc_12 {nm : String} {p : Program} {l : Launch} {e : Env} {s : State} {m : MethodId} {args : Array Value} {below : List Frame} {meth : Method} {c : Code} {Q : State → Prop} {D : va_G} {cA : FieldType → ClassId} {ad adV : Nat → Nat} {z0 : Nat} {al : List Nat} {mm : aM} {nc ns : Nat} (K : aK p s m args meth c (mL_law nm) D cA ad adV z0) {n L : Nat} {xs : Nat → Int32} (hX : va_X (ad 21) L xs s s.heap) (hb : ad 21 < z0) (hn : 6 * n + 6 ≤ L) (hL : L ≤ 384) (hr : nc + 0 ≤ 600000 ∧ ns + 0 ≤ 7302250) {r : Int} {mm1 mm2 : aM} (h1 : B_say ((xs (6 * n + 1)).toInt) mm = some (r, mm1)) (h2 : R_say ((xs (6 * n + 1)).toInt) mm1 = some (r, mm2)) (kk : ∀ bl, AW p l e room_1 s m args below meth c Q D cA ad z0 (mL_law nm) (al ++ bl) 1012 (lawLv n) [] SH mm2 nc ns) : AW p l e room_1 s m args below meth c Q D cA ad z0 (mL_law nm) al 316 (lawLv n) [] SH mm nc ns := by
  unfold lawLv
  refine aw_aload_n (i := 316) K (dOf ck_mL_law rfl rfl) rfl ?_
  refine aw_sload_n (i := 317) K (dOf ck_mL_law rfl rfl) rfl ?_
  refine aw_iload_n (i := 318) K (dOf ck_mL_law rfl rfl) rfl ?_
  refine aw_iconst (i := 319) K (n := 1) (i32 _ rfl) (dOf ck_mL_law rfl rfl) ?_
  refine aw_iadd (i := 320) K (dOf ck_mL_law rfl rfl) ?_
  refine aw_eqi (b := ((6 * n + 1 : Nat) : Int)) (ix_ok hn hL 1 (by decide)) ?_
  refine aw_scrld (i := 321) K hX hb (dOf ck_mL_law rfl rfl) (ix_in hn 1 (by decide)) ?_
  refine aw_callV (i := 322) (as := [.inl _]) (q := 0) K (dOf ck_mL_law rfl rfl) al_OneBreathLaw_64 rfl rfl ⟨wd_709, wd_710⟩ rfl (Nat.le_of_ble_eq_true rfl) ⟨Nat.le_of_ble_eq_true rfl, Nat.le_of_ble_eq_true rfl⟩ hr (Nat.le_refl _) (met_B_say h1) (fun bl1 => ?_)
  refine aw_aload_n (i := 323) K (dOf ck_mL_law rfl rfl) rfl ?_
  refine aw_sload_n (i := 324) K (dOf ck_mL_law rfl rfl) rfl ?_
  refine aw_iload_n (i := 325) K (dOf ck_mL_law rfl rfl) rfl ?_
  refine aw_iconst (i := 326) K (n := 1) (i32 _ rfl) (dOf ck_mL_law rfl rfl) ?_
  refine aw_iadd (i := 327) K (dOf ck_mL_law rfl rfl) ?_
  refine aw_eqi (b := ((6 * n + 1 : Nat) : Int)) (ix_ok hn hL 1 (by decide)) ?_
  refine aw_scrld (i := 328) K hX hb (dOf ck_mL_law rfl rfl) (ix_in hn 1 (by decide)) ?_
  refine aw_callV (i := 329) (as := [.inl _]) (q := 176) K (dOf ck_mL_law rfl rfl) al_OneBreathLaw_67 rfl rfl ⟨wd_1408, wd_1409⟩ rfl (Nat.le_of_ble_eq_true rfl) ⟨Nat.le_of_ble_eq_true rfl, Nat.le_of_ble_eq_true rfl⟩ hr (Nat.le_refl _) (met_R_say h2) (fun bl2 => ?_)
  refine aw_icmp_eq (i := 330) K (dOf ck_mL_law rfl rfl) (t := 1012) (aJl (aJ_of (by decide +kernel))) (fun _ => ?_) (fun z => absurd rfl z)
  have k9 := kk (bl1 ++ bl2)
  rw [← List.append_assoc] at k9
  exact k9
set_option maxHeartbeats 4000000 in
set_option maxRecDepth 100000 in
theorem lc_13 {nm : String} {p : Program} {l : Launch} {e : Env} {s : State} {m : MethodId} {args : Array Value} {below : List Frame} {meth : Method} {c : Code} {Q : State → Prop} {D : va_G} {cA : FieldType → ClassId} {ad adV : Nat → Nat} {z0 : Nat} {al : List Nat} {mm : aM} {nc ns : Nat} (K : aK p s m args meth c (mL_law nm) D cA ad adV z0) {n L : Nat} {xs : Nat → Int32} (hX : va_X (ad 21) L xs s s.heap) (hb : ad 21 < z0) (hn : 6 * n + 6 ≤ L) (hL : L ≤ 384) (hr : nc + 0 ≤ 600000 ∧ ns + 0 ≤ 7302250) {r : Int} {mm1 mm2 : aM} (h1 : B_line ((xs (6 * n + 1)).toInt) mm = some (r, mm1)) (h2 : R_line ((xs (6 * n + 1)).toInt) mm1 = some (r, mm2)) (kk : ∀ bl, AW p l e room_1 s m args below meth c Q D cA ad z0 (mL_law nm) (al ++ bl) 1012 (lawLv n) [] SH mm2 nc ns) : AW p l e room_1 s m args below meth c Q D cA ad z0 (mL_law nm) al 333 (lawLv n) [] SH mm nc ns := by
  unfold lawLv
  refine aw_aload_n (i := 333) K (dOf ck_mL_law rfl rfl) rfl ?_
  refine aw_sload_n (i := 334) K (dOf ck_mL_law rfl rfl) rfl ?_
  refine aw_iload_n (i := 335) K (dOf ck_mL_law rfl rfl) rfl ?_
  refine aw_iconst (i := 336) K (n := 1) (i32 _ rfl) (dOf ck_mL_law rfl rfl) ?_
  refine aw_iadd (i := 337) K (dOf ck_mL_law rfl rfl) ?_
  refine aw_eqi (b := ((6 * n + 1 : Nat) : Int)) (ix_ok hn hL 1 (by decide)) ?_
  refine aw_scrld (i := 338) K hX hb (dOf ck_mL_law rfl rfl) (ix_in hn 1 (by decide)) ?_
  refine aw_callV (i := 339) (as := [.inl _]) (q := 0) K (dOf ck_mL_law rfl rfl) al_OneBreathLaw_68 rfl rfl ⟨wd_718, wd_719⟩ rfl (Nat.le_of_ble_eq_true rfl) ⟨Nat.le_of_ble_eq_true rfl, Nat.le_of_ble_eq_true rfl⟩ hr (Nat.le_refl _) (met_B_line h1) (fun bl1 => ?_)
  refine aw_aload_n (i := 340) K (dOf ck_mL_law rfl rfl) rfl ?_
  refine aw_sload_n (i := 341) K (dOf ck_mL_law rfl rfl) rfl ?_
  refine aw_iload_n (i := 342) K (dOf ck_mL_law rfl rfl) rfl ?_
  refine aw_iconst (i := 343) K (n := 1) (i32 _ rfl) (dOf ck_mL_law rfl rfl) ?_
  refine aw_iadd (i := 344) K (dOf ck_mL_law rfl rfl) ?_
  refine aw_eqi (b := ((6 * n + 1 : Nat) : Int)) (ix_ok hn hL 1 (by decide)) ?_
  refine aw_scrld (i := 345) K hX hb (dOf ck_mL_law rfl rfl) (ix_in hn 1 (by decide)) ?_
  refine aw_callV (i := 346) (as := [.inl _]) (q := 176) K (dOf ck_mL_law rfl rfl) al_OneBreathLaw_71 rfl rfl ⟨wd_1415, wd_1416⟩ rfl (Nat.le_of_ble_eq_true rfl) ⟨Nat.le_of_ble_eq_true rfl, Nat.le_of_ble_eq_true rfl⟩ hr (Nat.le_refl _) (met_R_line h2) (fun bl2 => ?_)
  refine aw_icmp_eq (i := 347) K (dOf ck_mL_law rfl rfl) (t := 1012) (aJl (aJ_of (by decide +kernel))) (fun _ => ?_) (fun z => absurd rfl z)
  have k9 := kk (bl1 ++ bl2)
  rw [← List.append_assoc] at k9
  exact k9
set_option maxHeartbeats 4000000 in
set_option maxRecDepth 100000 in
theorem lc_14 {nm : String} {p : Program} {l : Launch} {e : Env} {s : State} {m : MethodId} {args : Array Value} {below : List Frame} {meth : Method} {c : Code} {Q : State → Prop} {D : va_G} {cA : FieldType → ClassId} {ad adV : Nat → Nat} {z0 : Nat} {al : List Nat} {mm : aM} {nc ns : Nat} (K : aK p s m args meth c (mL_law nm) D cA ad adV z0) {n L : Nat} {xs : Nat → Int32} (hX : va_X (ad 21) L xs s s.heap) (hb : ad 21 < z0) (hn : 6 * n + 6 ≤ L) (hL : L ≤ 384) (hr : nc + 0 ≤ 600000 ∧ ns + 0 ≤ 7302250) {r : Int} {mm2 : aM} (h1 : B_at ((xs (6 * n + 1)).toInt) mm = some r) (h2 : R_at ((xs (6 * n + 1)).toInt) mm = some (r, mm2)) (kk : ∀ bl, AW p l e room_1 s m args below meth c Q D cA ad z0 (mL_law nm) (al ++ bl) 1012 (lawLv n) [] SH mm2 nc ns) : AW p l e room_1 s m args below meth c Q D cA ad z0 (mL_law nm) al 350 (lawLv n) [] SH mm nc ns := by
  unfold lawLv
  refine aw_aload_n (i := 350) K (dOf ck_mL_law rfl rfl) rfl ?_
  refine aw_sload_n (i := 351) K (dOf ck_mL_law rfl rfl) rfl ?_
  refine aw_iload_n (i := 352) K (dOf ck_mL_law rfl rfl) rfl ?_
  refine aw_iconst (i := 353) K (n := 1) (i32 _ rfl) (dOf ck_mL_law rfl rfl) ?_
  refine aw_iadd (i := 354) K (dOf ck_mL_law rfl rfl) ?_
  refine aw_eqi (b := ((6 * n + 1 : Nat) : Int)) (ix_ok hn hL 1 (by decide)) ?_
  refine aw_scrld (i := 355) K hX hb (dOf ck_mL_law rfl rfl) (ix_in hn 1 (by decide)) ?_
  refine aw_callV (i := 356) (as := [.inl _]) (q := 0) K (dOf ck_mL_law rfl rfl) al_OneBreathLaw_72 rfl rfl ⟨wd_727, wd_728⟩ rfl (Nat.le_of_ble_eq_true rfl) ⟨Nat.le_of_ble_eq_true rfl, Nat.le_of_ble_eq_true rfl⟩ hr (Nat.le_refl _) (met_B_at h1) (fun bl1 => ?_)
  refine aw_aload_n (i := 357) K (dOf ck_mL_law rfl rfl) rfl ?_
  refine aw_sload_n (i := 358) K (dOf ck_mL_law rfl rfl) rfl ?_
  refine aw_iload_n (i := 359) K (dOf ck_mL_law rfl rfl) rfl ?_
  refine aw_iconst (i := 360) K (n := 1) (i32 _ rfl) (dOf ck_mL_law rfl rfl) ?_
  refine aw_iadd (i := 361) K (dOf ck_mL_law rfl rfl) ?_
  refine aw_eqi (b := ((6 * n + 1 : Nat) : Int)) (ix_ok hn hL 1 (by decide)) ?_
  refine aw_scrld (i := 362) K hX hb (dOf ck_mL_law rfl rfl) (ix_in hn 1 (by decide)) ?_
  refine aw_callV (i := 363) (as := [.inl _]) (q := 176) K (dOf ck_mL_law rfl rfl) al_OneBreathLaw_75 rfl rfl ⟨wd_1422, wd_1423⟩ rfl (Nat.le_of_ble_eq_true rfl) ⟨Nat.le_of_ble_eq_true rfl, Nat.le_of_ble_eq_true rfl⟩ hr (Nat.le_refl _) (met_R_at h2) (fun bl2 => ?_)
  refine aw_icmp_eq (i := 364) K (dOf ck_mL_law rfl rfl) (t := 1012) (aJl (aJ_of (by decide +kernel))) (fun _ => ?_) (fun z => absurd rfl z)
  have k9 := kk (bl1 ++ bl2)
  rw [← List.append_assoc] at k9
  exact k9
set_option maxHeartbeats 4000000 in
set_option maxRecDepth 100000 in
theorem lc_15 {nm : String} {p : Program} {l : Launch} {e : Env} {s : State} {m : MethodId} {args : Array Value} {below : List Frame} {meth : Method} {c : Code} {Q : State → Prop} {D : va_G} {cA : FieldType → ClassId} {ad adV : Nat → Nat} {z0 : Nat} {al : List Nat} {mm : aM} {nc ns : Nat} (K : aK p s m args meth c (mL_law nm) D cA ad adV z0) {n L : Nat} {xs : Nat → Int32} (hX : va_X (ad 21) L xs s s.heap) (hb : ad 21 < z0) (hn : 6 * n + 6 ≤ L) (hL : L ≤ 384) (hr : nc + 0 ≤ 600000 ∧ ns + 0 ≤ 7302250) {r : Int} {mm1 mm2 : aM} (h1 : B_cuts ((xs (6 * n + 1)).toInt) mm = some (r, mm1)) (h2 : R_cuts ((xs (6 * n + 1)).toInt) mm1 = some (r, mm2)) (kk : ∀ bl, AW p l e room_1 s m args below meth c Q D cA ad z0 (mL_law nm) (al ++ bl) 1012 (lawLv n) [] SH mm2 nc ns) : AW p l e room_1 s m args below meth c Q D cA ad z0 (mL_law nm) al 367 (lawLv n) [] SH mm nc ns := by
  unfold lawLv
  refine aw_aload_n (i := 367) K (dOf ck_mL_law rfl rfl) rfl ?_
  refine aw_sload_n (i := 368) K (dOf ck_mL_law rfl rfl) rfl ?_
  refine aw_iload_n (i := 369) K (dOf ck_mL_law rfl rfl) rfl ?_
  refine aw_iconst (i := 370) K (n := 1) (i32 _ rfl) (dOf ck_mL_law rfl rfl) ?_
  refine aw_iadd (i := 371) K (dOf ck_mL_law rfl rfl) ?_
  refine aw_eqi (b := ((6 * n + 1 : Nat) : Int)) (ix_ok hn hL 1 (by decide)) ?_
  refine aw_scrld (i := 372) K hX hb (dOf ck_mL_law rfl rfl) (ix_in hn 1 (by decide)) ?_
  refine aw_callV (i := 373) (as := [.inl _]) (q := 0) K (dOf ck_mL_law rfl rfl) al_OneBreathLaw_76 rfl rfl ⟨wd_731, wd_732⟩ rfl (Nat.le_of_ble_eq_true rfl) ⟨Nat.le_of_ble_eq_true rfl, Nat.le_of_ble_eq_true rfl⟩ hr (Nat.le_refl _) (met_B_cuts h1) (fun bl1 => ?_)
  refine aw_aload_n (i := 374) K (dOf ck_mL_law rfl rfl) rfl ?_
  refine aw_sload_n (i := 375) K (dOf ck_mL_law rfl rfl) rfl ?_
  refine aw_iload_n (i := 376) K (dOf ck_mL_law rfl rfl) rfl ?_
  refine aw_iconst (i := 377) K (n := 1) (i32 _ rfl) (dOf ck_mL_law rfl rfl) ?_
  refine aw_iadd (i := 378) K (dOf ck_mL_law rfl rfl) ?_
  refine aw_eqi (b := ((6 * n + 1 : Nat) : Int)) (ix_ok hn hL 1 (by decide)) ?_
  refine aw_scrld (i := 379) K hX hb (dOf ck_mL_law rfl rfl) (ix_in hn 1 (by decide)) ?_
  refine aw_callV (i := 380) (as := [.inl _]) (q := 176) K (dOf ck_mL_law rfl rfl) al_OneBreathLaw_79 rfl rfl ⟨wd_1426, wd_1427⟩ rfl (Nat.le_of_ble_eq_true rfl) ⟨Nat.le_of_ble_eq_true rfl, Nat.le_of_ble_eq_true rfl⟩ hr (Nat.le_refl _) (met_R_cuts h2) (fun bl2 => ?_)
  refine aw_icmp_eq (i := 381) K (dOf ck_mL_law rfl rfl) (t := 1012) (aJl (aJ_of (by decide +kernel))) (fun _ => ?_) (fun z => absurd rfl z)
  have k9 := kk (bl1 ++ bl2)
  rw [← List.append_assoc] at k9
  exact k9
set_option maxHeartbeats 4000000 in
set_option maxRecDepth 100000 in
theorem lc_16 {nm : String} {p : Program} {l : Launch} {e : Env} {s : State} {m : MethodId} {args : Array Value} {below : List Frame} {meth : Method} {c : Code} {Q : State → Prop} {D : va_G} {cA : FieldType → ClassId} {ad adV : Nat → Nat} {z0 : Nat} {al : List Nat} {mm : aM} {nc ns : Nat} (K : aK p s m args meth c (mL_law nm) D cA ad adV z0) {n L : Nat} {xs : Nat → Int32} (hX : va_X (ad 21) L xs s s.heap) (hb : ad 21 < z0) (hn : 6 * n + 6 ≤ L) (hL : L ≤ 384) (hr : nc + 0 ≤ 600000 ∧ ns + 0 ≤ 7302250) {r : Int} {mm1 mm2 : aM} (h1 : B_cut ((xs (6 * n + 1)).toInt) ((xs (6 * n + 2)).toInt) mm = some (r, mm1)) (h2 : R_cut ((xs (6 * n + 1)).toInt) ((xs (6 * n + 2)).toInt) mm1 = some (r, mm2)) (kk : ∀ bl, AW p l e room_1 s m args below meth c Q D cA ad z0 (mL_law nm) (al ++ bl) 1012 (lawLv n) [] SH mm2 nc ns) : AW p l e room_1 s m args below meth c Q D cA ad z0 (mL_law nm) al 384 (lawLv n) [] SH mm nc ns := by
  unfold lawLv
  refine aw_aload_n (i := 384) K (dOf ck_mL_law rfl rfl) rfl ?_
  refine aw_sload_n (i := 385) K (dOf ck_mL_law rfl rfl) rfl ?_
  refine aw_iload_n (i := 386) K (dOf ck_mL_law rfl rfl) rfl ?_
  refine aw_iconst (i := 387) K (n := 1) (i32 _ rfl) (dOf ck_mL_law rfl rfl) ?_
  refine aw_iadd (i := 388) K (dOf ck_mL_law rfl rfl) ?_
  refine aw_eqi (b := ((6 * n + 1 : Nat) : Int)) (ix_ok hn hL 1 (by decide)) ?_
  refine aw_scrld (i := 389) K hX hb (dOf ck_mL_law rfl rfl) (ix_in hn 1 (by decide)) ?_
  refine aw_sload_n (i := 390) K (dOf ck_mL_law rfl rfl) rfl ?_
  refine aw_iload_n (i := 391) K (dOf ck_mL_law rfl rfl) rfl ?_
  refine aw_iconst (i := 392) K (n := 2) (i32 _ rfl) (dOf ck_mL_law rfl rfl) ?_
  refine aw_iadd (i := 393) K (dOf ck_mL_law rfl rfl) ?_
  refine aw_eqi (b := ((6 * n + 2 : Nat) : Int)) (ix_ok hn hL 2 (by decide)) ?_
  refine aw_scrld (i := 394) K hX hb (dOf ck_mL_law rfl rfl) (ix_in hn 2 (by decide)) ?_
  refine aw_callV (i := 395) (as := [.inl _, .inl _]) (q := 0) K (dOf ck_mL_law rfl rfl) al_OneBreathLaw_80 rfl rfl ⟨wd_756, wd_757⟩ rfl (Nat.le_of_ble_eq_true rfl) ⟨Nat.le_of_ble_eq_true rfl, Nat.le_of_ble_eq_true rfl⟩ hr (Nat.le_refl _) (met_B_cut h1) (fun bl1 => ?_)
  refine aw_aload_n (i := 396) K (dOf ck_mL_law rfl rfl) rfl ?_
  refine aw_sload_n (i := 397) K (dOf ck_mL_law rfl rfl) rfl ?_
  refine aw_iload_n (i := 398) K (dOf ck_mL_law rfl rfl) rfl ?_
  refine aw_iconst (i := 399) K (n := 1) (i32 _ rfl) (dOf ck_mL_law rfl rfl) ?_
  refine aw_iadd (i := 400) K (dOf ck_mL_law rfl rfl) ?_
  refine aw_eqi (b := ((6 * n + 1 : Nat) : Int)) (ix_ok hn hL 1 (by decide)) ?_
  refine aw_scrld (i := 401) K hX hb (dOf ck_mL_law rfl rfl) (ix_in hn 1 (by decide)) ?_
  refine aw_sload_n (i := 402) K (dOf ck_mL_law rfl rfl) rfl ?_
  refine aw_iload_n (i := 403) K (dOf ck_mL_law rfl rfl) rfl ?_
  refine aw_iconst (i := 404) K (n := 2) (i32 _ rfl) (dOf ck_mL_law rfl rfl) ?_
  refine aw_iadd (i := 405) K (dOf ck_mL_law rfl rfl) ?_
  refine aw_eqi (b := ((6 * n + 2 : Nat) : Int)) (ix_ok hn hL 2 (by decide)) ?_
  refine aw_scrld (i := 406) K hX hb (dOf ck_mL_law rfl rfl) (ix_in hn 2 (by decide)) ?_
  refine aw_callV (i := 407) (as := [.inl _, .inl _]) (q := 176) K (dOf ck_mL_law rfl rfl) al_OneBreathLaw_83 rfl rfl ⟨wd_1443, wd_1444⟩ rfl (Nat.le_of_ble_eq_true rfl) ⟨Nat.le_of_ble_eq_true rfl, Nat.le_of_ble_eq_true rfl⟩ hr (Nat.le_refl _) (met_R_cut h2) (fun bl2 => ?_)
  refine aw_icmp_eq (i := 408) K (dOf ck_mL_law rfl rfl) (t := 1012) (aJl (aJ_of (by decide +kernel))) (fun _ => ?_) (fun z => absurd rfl z)
  have k9 := kk (bl1 ++ bl2)
  rw [← List.append_assoc] at k9
  exact k9
set_option maxHeartbeats 4000000 in
set_option maxRecDepth 100000 in
theorem lc_17 {nm : String} {p : Program} {l : Launch} {e : Env} {s : State} {m : MethodId} {args : Array Value} {below : List Frame} {meth : Method} {c : Code} {Q : State → Prop} {D : va_G} {cA : FieldType → ClassId} {ad adV : Nat → Nat} {z0 : Nat} {al : List Nat} {mm : aM} {nc ns : Nat} (K : aK p s m args meth c (mL_law nm) D cA ad adV z0) {n L : Nat} {xs : Nat → Int32} (hX : va_X (ad 21) L xs s s.heap) (hb : ad 21 < z0) (hn : 6 * n + 6 ≤ L) (hL : L ≤ 384) (hr : nc + 0 ≤ 600000 ∧ ns + 0 ≤ 7302250) {r : Int} {mm1 mm2 : aM} (h1 : B_mistakes mm = some (r, mm1)) (h2 : R_mistakes mm1 = some (r, mm2)) (kk : ∀ bl, AW p l e room_1 s m args below meth c Q D cA ad z0 (mL_law nm) (al ++ bl) 1012 (lawLv n) [] SH mm2 nc ns) : AW p l e room_1 s m args below meth c Q D cA ad z0 (mL_law nm) al 411 (lawLv n) [] SH mm nc ns := by
  unfold lawLv
  refine aw_aload_n (i := 411) K (dOf ck_mL_law rfl rfl) rfl ?_
  refine aw_callV (i := 412) (as := []) (q := 0) K (dOf ck_mL_law rfl rfl) al_OneBreathLaw_84 rfl rfl ⟨wd_791, wd_792⟩ rfl (Nat.le_of_ble_eq_true rfl) ⟨Nat.le_of_ble_eq_true rfl, Nat.le_of_ble_eq_true rfl⟩ hr (Nat.le_refl _) (met_B_mistakes h1) (fun bl1 => ?_)
  refine aw_aload_n (i := 413) K (dOf ck_mL_law rfl rfl) rfl ?_
  refine aw_callV (i := 414) (as := []) (q := 176) K (dOf ck_mL_law rfl rfl) al_OneBreathLaw_88 rfl rfl ⟨wd_1468, wd_1469⟩ rfl (Nat.le_of_ble_eq_true rfl) ⟨Nat.le_of_ble_eq_true rfl, Nat.le_of_ble_eq_true rfl⟩ hr (Nat.le_refl _) (met_R_mistakes h2) (fun bl2 => ?_)
  refine aw_icmp_eq (i := 415) K (dOf ck_mL_law rfl rfl) (t := 1012) (aJl (aJ_of (by decide +kernel))) (fun _ => ?_) (fun z => absurd rfl z)
  have k9 := kk (bl1 ++ bl2)
  rw [← List.append_assoc] at k9
  exact k9
set_option maxHeartbeats 4000000 in
set_option maxRecDepth 100000 in
theorem lc_18 {nm : String} {p : Program} {l : Launch} {e : Env} {s : State} {m : MethodId} {args : Array Value} {below : List Frame} {meth : Method} {c : Code} {Q : State → Prop} {D : va_G} {cA : FieldType → ClassId} {ad adV : Nat → Nat} {z0 : Nat} {al : List Nat} {mm : aM} {nc ns : Nat} (K : aK p s m args meth c (mL_law nm) D cA ad adV z0) {n L : Nat} {xs : Nat → Int32} (hX : va_X (ad 21) L xs s s.heap) (hb : ad 21 < z0) (hn : 6 * n + 6 ≤ L) (hL : L ≤ 384) (hr : nc + 0 ≤ 600000 ∧ ns + 0 ≤ 7302250) {r : Int} {mm1 mm2 : aM} (h1 : B_bound ((xs (6 * n + 1)).toInt) mm = some (r, mm1)) (h2 : R_bound ((xs (6 * n + 1)).toInt) mm1 = some (r, mm2)) (kk : ∀ bl, AW p l e room_1 s m args below meth c Q D cA ad z0 (mL_law nm) (al ++ bl) 1012 (lawLv n) [] SH mm2 nc ns) : AW p l e room_1 s m args below meth c Q D cA ad z0 (mL_law nm) al 418 (lawLv n) [] SH mm nc ns := by
  unfold lawLv
  refine aw_aload_n (i := 418) K (dOf ck_mL_law rfl rfl) rfl ?_
  refine aw_sload_n (i := 419) K (dOf ck_mL_law rfl rfl) rfl ?_
  refine aw_iload_n (i := 420) K (dOf ck_mL_law rfl rfl) rfl ?_
  refine aw_iconst (i := 421) K (n := 1) (i32 _ rfl) (dOf ck_mL_law rfl rfl) ?_
  refine aw_iadd (i := 422) K (dOf ck_mL_law rfl rfl) ?_
  refine aw_eqi (b := ((6 * n + 1 : Nat) : Int)) (ix_ok hn hL 1 (by decide)) ?_
  refine aw_scrld (i := 423) K hX hb (dOf ck_mL_law rfl rfl) (ix_in hn 1 (by decide)) ?_
  refine aw_callV (i := 424) (as := [.inl _]) (q := 0) K (dOf ck_mL_law rfl rfl) al_OneBreathLaw_89 rfl rfl ⟨wd_799, wd_800⟩ rfl (Nat.le_of_ble_eq_true rfl) ⟨Nat.le_of_ble_eq_true rfl, Nat.le_of_ble_eq_true rfl⟩ hr (Nat.le_refl _) (met_B_bound h1) (fun bl1 => ?_)
  refine aw_aload_n (i := 425) K (dOf ck_mL_law rfl rfl) rfl ?_
  refine aw_sload_n (i := 426) K (dOf ck_mL_law rfl rfl) rfl ?_
  refine aw_iload_n (i := 427) K (dOf ck_mL_law rfl rfl) rfl ?_
  refine aw_iconst (i := 428) K (n := 1) (i32 _ rfl) (dOf ck_mL_law rfl rfl) ?_
  refine aw_iadd (i := 429) K (dOf ck_mL_law rfl rfl) ?_
  refine aw_eqi (b := ((6 * n + 1 : Nat) : Int)) (ix_ok hn hL 1 (by decide)) ?_
  refine aw_scrld (i := 430) K hX hb (dOf ck_mL_law rfl rfl) (ix_in hn 1 (by decide)) ?_
  refine aw_callV (i := 431) (as := [.inl _]) (q := 176) K (dOf ck_mL_law rfl rfl) al_OneBreathLaw_92 rfl rfl ⟨wd_1472, wd_1473⟩ rfl (Nat.le_of_ble_eq_true rfl) ⟨Nat.le_of_ble_eq_true rfl, Nat.le_of_ble_eq_true rfl⟩ hr (Nat.le_refl _) (met_R_bound h2) (fun bl2 => ?_)
  refine aw_icmp_eq (i := 432) K (dOf ck_mL_law rfl rfl) (t := 1012) (aJl (aJ_of (by decide +kernel))) (fun _ => ?_) (fun z => absurd rfl z)
  have k9 := kk (bl1 ++ bl2)
  rw [← List.append_assoc] at k9
  exact k9
set_option maxHeartbeats 4000000 in
set_option maxRecDepth 100000 in
theorem lc_19 {nm : String} {p : Program} {l : Launch} {e : Env} {s : State} {m : MethodId} {args : Array Value} {below : List Frame} {meth : Method} {c : Code} {Q : State → Prop} {D : va_G} {cA : FieldType → ClassId} {ad adV : Nat → Nat} {z0 : Nat} {al : List Nat} {mm : aM} {nc ns : Nat} (K : aK p s m args meth c (mL_law nm) D cA ad adV z0) {n L : Nat} {xs : Nat → Int32} (hX : va_X (ad 21) L xs s s.heap) (hb : ad 21 < z0) (hn : 6 * n + 6 ≤ L) (hL : L ≤ 384) (hr : nc + 0 ≤ 600000 ∧ ns + 0 ≤ 7302250) {r : Int} {mm1 mm2 : aM} (h1 : B_unsure ((xs (6 * n + 1)).toInt) mm = some (r, mm1)) (h2 : R_unsure ((xs (6 * n + 1)).toInt) mm1 = some (r, mm2)) (kk : ∀ bl, AW p l e room_1 s m args below meth c Q D cA ad z0 (mL_law nm) (al ++ bl) 1012 (lawLv n) [] SH mm2 nc ns) : AW p l e room_1 s m args below meth c Q D cA ad z0 (mL_law nm) al 435 (lawLv n) [] SH mm nc ns := by
  unfold lawLv
  refine aw_aload_n (i := 435) K (dOf ck_mL_law rfl rfl) rfl ?_
  refine aw_sload_n (i := 436) K (dOf ck_mL_law rfl rfl) rfl ?_
  refine aw_iload_n (i := 437) K (dOf ck_mL_law rfl rfl) rfl ?_
  refine aw_iconst (i := 438) K (n := 1) (i32 _ rfl) (dOf ck_mL_law rfl rfl) ?_
  refine aw_iadd (i := 439) K (dOf ck_mL_law rfl rfl) ?_
  refine aw_eqi (b := ((6 * n + 1 : Nat) : Int)) (ix_ok hn hL 1 (by decide)) ?_
  refine aw_scrld (i := 440) K hX hb (dOf ck_mL_law rfl rfl) (ix_in hn 1 (by decide)) ?_
  refine aw_callV (i := 441) (as := [.inl _]) (q := 0) K (dOf ck_mL_law rfl rfl) al_OneBreathLaw_93 rfl rfl ⟨wd_810, wd_811⟩ rfl (Nat.le_of_ble_eq_true rfl) ⟨Nat.le_of_ble_eq_true rfl, Nat.le_of_ble_eq_true rfl⟩ hr (Nat.le_refl _) (met_B_unsure h1) (fun bl1 => ?_)
  refine aw_aload_n (i := 442) K (dOf ck_mL_law rfl rfl) rfl ?_
  refine aw_sload_n (i := 443) K (dOf ck_mL_law rfl rfl) rfl ?_
  refine aw_iload_n (i := 444) K (dOf ck_mL_law rfl rfl) rfl ?_
  refine aw_iconst (i := 445) K (n := 1) (i32 _ rfl) (dOf ck_mL_law rfl rfl) ?_
  refine aw_iadd (i := 446) K (dOf ck_mL_law rfl rfl) ?_
  refine aw_eqi (b := ((6 * n + 1 : Nat) : Int)) (ix_ok hn hL 1 (by decide)) ?_
  refine aw_scrld (i := 447) K hX hb (dOf ck_mL_law rfl rfl) (ix_in hn 1 (by decide)) ?_
  refine aw_callV (i := 448) (as := [.inl _]) (q := 176) K (dOf ck_mL_law rfl rfl) al_OneBreathLaw_96 rfl rfl ⟨wd_1476, wd_1477⟩ rfl (Nat.le_of_ble_eq_true rfl) ⟨Nat.le_of_ble_eq_true rfl, Nat.le_of_ble_eq_true rfl⟩ hr (Nat.le_refl _) (met_R_unsure h2) (fun bl2 => ?_)
  refine aw_icmp_eq (i := 449) K (dOf ck_mL_law rfl rfl) (t := 1012) (aJl (aJ_of (by decide +kernel))) (fun _ => ?_) (fun z => absurd rfl z)
  have k9 := kk (bl1 ++ bl2)
  rw [← List.append_assoc] at k9
  exact k9
set_option maxHeartbeats 4000000 in
set_option maxRecDepth 100000 in
theorem lc_20 {nm : String} {p : Program} {l : Launch} {e : Env} {s : State} {m : MethodId} {args : Array Value} {below : List Frame} {meth : Method} {c : Code} {Q : State → Prop} {D : va_G} {cA : FieldType → ClassId} {ad adV : Nat → Nat} {z0 : Nat} {al : List Nat} {mm : aM} {nc ns : Nat} (K : aK p s m args meth c (mL_law nm) D cA ad adV z0) {n L : Nat} {xs : Nat → Int32} (hX : va_X (ad 21) L xs s s.heap) (hb : ad 21 < z0) (hn : 6 * n + 6 ≤ L) (hL : L ≤ 384) (hr : nc + 0 ≤ 600000 ∧ ns + 0 ≤ 7302250) {r : Int} {mm1 mm2 : aM} (h1 : B_unsureAt ((xs (6 * n + 1)).toInt) mm = some (r, mm1)) (h2 : R_unsureAt ((xs (6 * n + 1)).toInt) mm1 = some (r, mm2)) (kk : ∀ bl, AW p l e room_1 s m args below meth c Q D cA ad z0 (mL_law nm) (al ++ bl) 1012 (lawLv n) [] SH mm2 nc ns) : AW p l e room_1 s m args below meth c Q D cA ad z0 (mL_law nm) al 452 (lawLv n) [] SH mm nc ns := by
  unfold lawLv
  refine aw_aload_n (i := 452) K (dOf ck_mL_law rfl rfl) rfl ?_
  refine aw_sload_n (i := 453) K (dOf ck_mL_law rfl rfl) rfl ?_
  refine aw_iload_n (i := 454) K (dOf ck_mL_law rfl rfl) rfl ?_
  refine aw_iconst (i := 455) K (n := 1) (i32 _ rfl) (dOf ck_mL_law rfl rfl) ?_
  refine aw_iadd (i := 456) K (dOf ck_mL_law rfl rfl) ?_
  refine aw_eqi (b := ((6 * n + 1 : Nat) : Int)) (ix_ok hn hL 1 (by decide)) ?_
  refine aw_scrld (i := 457) K hX hb (dOf ck_mL_law rfl rfl) (ix_in hn 1 (by decide)) ?_
  refine aw_callV (i := 458) (as := [.inl _]) (q := 0) K (dOf ck_mL_law rfl rfl) al_OneBreathLaw_97 rfl rfl ⟨wd_896, wd_897⟩ rfl (Nat.le_of_ble_eq_true rfl) ⟨Nat.le_of_ble_eq_true rfl, Nat.le_of_ble_eq_true rfl⟩ hr (Nat.le_refl _) (met_B_unsureAt h1) (fun bl1 => ?_)
  refine aw_aload_n (i := 459) K (dOf ck_mL_law rfl rfl) rfl ?_
  refine aw_sload_n (i := 460) K (dOf ck_mL_law rfl rfl) rfl ?_
  refine aw_iload_n (i := 461) K (dOf ck_mL_law rfl rfl) rfl ?_
  refine aw_iconst (i := 462) K (n := 1) (i32 _ rfl) (dOf ck_mL_law rfl rfl) ?_
  refine aw_iadd (i := 463) K (dOf ck_mL_law rfl rfl) ?_
  refine aw_eqi (b := ((6 * n + 1 : Nat) : Int)) (ix_ok hn hL 1 (by decide)) ?_
  refine aw_scrld (i := 464) K hX hb (dOf ck_mL_law rfl rfl) (ix_in hn 1 (by decide)) ?_
  refine aw_callV (i := 465) (as := [.inl _]) (q := 176) K (dOf ck_mL_law rfl rfl) al_OneBreathLaw_100 rfl rfl ⟨wd_1522, wd_1523⟩ rfl (Nat.le_of_ble_eq_true rfl) ⟨Nat.le_of_ble_eq_true rfl, Nat.le_of_ble_eq_true rfl⟩ hr (Nat.le_refl _) (met_R_unsureAt h2) (fun bl2 => ?_)
  refine aw_icmp_eq (i := 466) K (dOf ck_mL_law rfl rfl) (t := 1012) (aJl (aJ_of (by decide +kernel))) (fun _ => ?_) (fun z => absurd rfl z)
  have k9 := kk (bl1 ++ bl2)
  rw [← List.append_assoc] at k9
  exact k9
set_option maxHeartbeats 4000000 in
set_option maxRecDepth 100000 in
theorem lc_21 {nm : String} {p : Program} {l : Launch} {e : Env} {s : State} {m : MethodId} {args : Array Value} {below : List Frame} {meth : Method} {c : Code} {Q : State → Prop} {D : va_G} {cA : FieldType → ClassId} {ad adV : Nat → Nat} {z0 : Nat} {al : List Nat} {mm : aM} {nc ns : Nat} (K : aK p s m args meth c (mL_law nm) D cA ad adV z0) {n L : Nat} {xs : Nat → Int32} (hX : va_X (ad 21) L xs s s.heap) (hb : ad 21 < z0) (hn : 6 * n + 6 ≤ L) (hL : L ≤ 384) (hr : nc + 0 ≤ 600000 ∧ ns + 0 ≤ 7302250) {r : Int} {mm1 mm2 : aM} (h1 : B_bears mm = some (r, mm1)) (h2 : R_bears mm1 = some (r, mm2)) (kk : ∀ bl, AW p l e room_1 s m args below meth c Q D cA ad z0 (mL_law nm) (al ++ bl) 1012 (lawLv n) [] SH mm2 nc ns) : AW p l e room_1 s m args below meth c Q D cA ad z0 (mL_law nm) al 469 (lawLv n) [] SH mm nc ns := by
  unfold lawLv
  refine aw_aload_n (i := 469) K (dOf ck_mL_law rfl rfl) rfl ?_
  refine aw_callV (i := 470) (as := []) (q := 0) K (dOf ck_mL_law rfl rfl) al_OneBreathLaw_101 rfl rfl ⟨wd_942, wd_943⟩ rfl (Nat.le_of_ble_eq_true rfl) ⟨Nat.le_of_ble_eq_true rfl, Nat.le_of_ble_eq_true rfl⟩ hr (Nat.le_refl _) (met_B_bears h1) (fun bl1 => ?_)
  refine aw_aload_n (i := 471) K (dOf ck_mL_law rfl rfl) rfl ?_
  refine aw_callV (i := 472) (as := []) (q := 176) K (dOf ck_mL_law rfl rfl) al_OneBreathLaw_104 rfl rfl ⟨wd_1529, wd_1530⟩ rfl (Nat.le_of_ble_eq_true rfl) ⟨Nat.le_of_ble_eq_true rfl, Nat.le_of_ble_eq_true rfl⟩ hr (Nat.le_refl _) (met_R_bears h2) (fun bl2 => ?_)
  refine aw_icmp_eq (i := 473) K (dOf ck_mL_law rfl rfl) (t := 1012) (aJl (aJ_of (by decide +kernel))) (fun _ => ?_) (fun z => absurd rfl z)
  have k9 := kk (bl1 ++ bl2)
  rw [← List.append_assoc] at k9
  exact k9
set_option maxHeartbeats 4000000 in
set_option maxRecDepth 100000 in
theorem lc_22 {nm : String} {p : Program} {l : Launch} {e : Env} {s : State} {m : MethodId} {args : Array Value} {below : List Frame} {meth : Method} {c : Code} {Q : State → Prop} {D : va_G} {cA : FieldType → ClassId} {ad adV : Nat → Nat} {z0 : Nat} {al : List Nat} {mm : aM} {nc ns : Nat} (K : aK p s m args meth c (mL_law nm) D cA ad adV z0) {n L : Nat} {xs : Nat → Int32} (hX : va_X (ad 21) L xs s s.heap) (hb : ad 21 < z0) (hn : 6 * n + 6 ≤ L) (hL : L ≤ 384) (hr : nc + 0 ≤ 600000 ∧ ns + 0 ≤ 7302250) {r : Int} {mm1 mm2 : aM} (h1 : B_added ((xs (6 * n + 1)).toInt) ((xs (6 * n + 2)).toInt) mm = some (r, mm1)) (h2 : R_added ((xs (6 * n + 1)).toInt) ((xs (6 * n + 2)).toInt) mm1 = some (r, mm2)) (kk : ∀ bl, AW p l e room_1 s m args below meth c Q D cA ad z0 (mL_law nm) (al ++ bl) 1012 (lawLv n) [] SH mm2 nc ns) : AW p l e room_1 s m args below meth c Q D cA ad z0 (mL_law nm) al 476 (lawLv n) [] SH mm nc ns := by
  unfold lawLv
  refine aw_aload_n (i := 476) K (dOf ck_mL_law rfl rfl) rfl ?_
  refine aw_sload_n (i := 477) K (dOf ck_mL_law rfl rfl) rfl ?_
  refine aw_iload_n (i := 478) K (dOf ck_mL_law rfl rfl) rfl ?_
  refine aw_iconst (i := 479) K (n := 1) (i32 _ rfl) (dOf ck_mL_law rfl rfl) ?_
  refine aw_iadd (i := 480) K (dOf ck_mL_law rfl rfl) ?_
  refine aw_eqi (b := ((6 * n + 1 : Nat) : Int)) (ix_ok hn hL 1 (by decide)) ?_
  refine aw_scrld (i := 481) K hX hb (dOf ck_mL_law rfl rfl) (ix_in hn 1 (by decide)) ?_
  refine aw_sload_n (i := 482) K (dOf ck_mL_law rfl rfl) rfl ?_
  refine aw_iload_n (i := 483) K (dOf ck_mL_law rfl rfl) rfl ?_
  refine aw_iconst (i := 484) K (n := 2) (i32 _ rfl) (dOf ck_mL_law rfl rfl) ?_
  refine aw_iadd (i := 485) K (dOf ck_mL_law rfl rfl) ?_
  refine aw_eqi (b := ((6 * n + 2 : Nat) : Int)) (ix_ok hn hL 2 (by decide)) ?_
  refine aw_scrld (i := 486) K hX hb (dOf ck_mL_law rfl rfl) (ix_in hn 2 (by decide)) ?_
  refine aw_callV (i := 487) (as := [.inl _, .inl _]) (q := 0) K (dOf ck_mL_law rfl rfl) al_OneBreathLaw_105 rfl rfl ⟨wd_946, wd_947⟩ rfl (Nat.le_of_ble_eq_true rfl) ⟨Nat.le_of_ble_eq_true rfl, Nat.le_of_ble_eq_true rfl⟩ hr (Nat.le_refl _) (met_B_added h1) (fun bl1 => ?_)
  refine aw_aload_n (i := 488) K (dOf ck_mL_law rfl rfl) rfl ?_
  refine aw_sload_n (i := 489) K (dOf ck_mL_law rfl rfl) rfl ?_
  refine aw_iload_n (i := 490) K (dOf ck_mL_law rfl rfl) rfl ?_
  refine aw_iconst (i := 491) K (n := 1) (i32 _ rfl) (dOf ck_mL_law rfl rfl) ?_
  refine aw_iadd (i := 492) K (dOf ck_mL_law rfl rfl) ?_
  refine aw_eqi (b := ((6 * n + 1 : Nat) : Int)) (ix_ok hn hL 1 (by decide)) ?_
  refine aw_scrld (i := 493) K hX hb (dOf ck_mL_law rfl rfl) (ix_in hn 1 (by decide)) ?_
  refine aw_sload_n (i := 494) K (dOf ck_mL_law rfl rfl) rfl ?_
  refine aw_iload_n (i := 495) K (dOf ck_mL_law rfl rfl) rfl ?_
  refine aw_iconst (i := 496) K (n := 2) (i32 _ rfl) (dOf ck_mL_law rfl rfl) ?_
  refine aw_iadd (i := 497) K (dOf ck_mL_law rfl rfl) ?_
  refine aw_eqi (b := ((6 * n + 2 : Nat) : Int)) (ix_ok hn hL 2 (by decide)) ?_
  refine aw_scrld (i := 498) K hX hb (dOf ck_mL_law rfl rfl) (ix_in hn 2 (by decide)) ?_
  refine aw_callV (i := 499) (as := [.inl _, .inl _]) (q := 176) K (dOf ck_mL_law rfl rfl) al_OneBreathLaw_108 rfl rfl ⟨wd_1536, wd_1537⟩ rfl (Nat.le_of_ble_eq_true rfl) ⟨Nat.le_of_ble_eq_true rfl, Nat.le_of_ble_eq_true rfl⟩ hr (Nat.le_refl _) (met_R_added h2) (fun bl2 => ?_)
  refine aw_icmp_eq (i := 500) K (dOf ck_mL_law rfl rfl) (t := 1012) (aJl (aJ_of (by decide +kernel))) (fun _ => ?_) (fun z => absurd rfl z)
  have k9 := kk (bl1 ++ bl2)
  rw [← List.append_assoc] at k9
  exact k9
set_option maxHeartbeats 4000000 in
set_option maxRecDepth 100000 in
theorem lc_23 {nm : String} {p : Program} {l : Launch} {e : Env} {s : State} {m : MethodId} {args : Array Value} {below : List Frame} {meth : Method} {c : Code} {Q : State → Prop} {D : va_G} {cA : FieldType → ClassId} {ad adV : Nat → Nat} {z0 : Nat} {al : List Nat} {mm : aM} {nc ns : Nat} (K : aK p s m args meth c (mL_law nm) D cA ad adV z0) {n L : Nat} {xs : Nat → Int32} (hX : va_X (ad 21) L xs s s.heap) (hb : ad 21 < z0) (hn : 6 * n + 6 ≤ L) (hL : L ≤ 384) (hr : nc + 0 ≤ 600000 ∧ ns + 0 ≤ 7302250) {r : Int} {mm1 mm2 : aM} (h1 : B_adds ((xs (6 * n + 1)).toInt) ((xs (6 * n + 2)).toInt) ((xs (6 * n + 3)).toInt) mm = some (r, mm1)) (h2 : R_adds ((xs (6 * n + 1)).toInt) ((xs (6 * n + 2)).toInt) ((xs (6 * n + 3)).toInt) mm1 = some (r, mm2)) (kk : ∀ bl, AW p l e room_1 s m args below meth c Q D cA ad z0 (mL_law nm) (al ++ bl) 1012 (lawLv n) [] SH mm2 nc ns) : AW p l e room_1 s m args below meth c Q D cA ad z0 (mL_law nm) al 503 (lawLv n) [] SH mm nc ns := by
  unfold lawLv
  refine aw_aload_n (i := 503) K (dOf ck_mL_law rfl rfl) rfl ?_
  refine aw_sload_n (i := 504) K (dOf ck_mL_law rfl rfl) rfl ?_
  refine aw_iload_n (i := 505) K (dOf ck_mL_law rfl rfl) rfl ?_
  refine aw_iconst (i := 506) K (n := 1) (i32 _ rfl) (dOf ck_mL_law rfl rfl) ?_
  refine aw_iadd (i := 507) K (dOf ck_mL_law rfl rfl) ?_
  refine aw_eqi (b := ((6 * n + 1 : Nat) : Int)) (ix_ok hn hL 1 (by decide)) ?_
  refine aw_scrld (i := 508) K hX hb (dOf ck_mL_law rfl rfl) (ix_in hn 1 (by decide)) ?_
  refine aw_sload_n (i := 509) K (dOf ck_mL_law rfl rfl) rfl ?_
  refine aw_iload_n (i := 510) K (dOf ck_mL_law rfl rfl) rfl ?_
  refine aw_iconst (i := 511) K (n := 2) (i32 _ rfl) (dOf ck_mL_law rfl rfl) ?_
  refine aw_iadd (i := 512) K (dOf ck_mL_law rfl rfl) ?_
  refine aw_eqi (b := ((6 * n + 2 : Nat) : Int)) (ix_ok hn hL 2 (by decide)) ?_
  refine aw_scrld (i := 513) K hX hb (dOf ck_mL_law rfl rfl) (ix_in hn 2 (by decide)) ?_
  refine aw_sload_n (i := 514) K (dOf ck_mL_law rfl rfl) rfl ?_
  refine aw_iload_n (i := 515) K (dOf ck_mL_law rfl rfl) rfl ?_
  refine aw_iconst (i := 516) K (n := 3) (i32 _ rfl) (dOf ck_mL_law rfl rfl) ?_
  refine aw_iadd (i := 517) K (dOf ck_mL_law rfl rfl) ?_
  refine aw_eqi (b := ((6 * n + 3 : Nat) : Int)) (ix_ok hn hL 3 (by decide)) ?_
  refine aw_scrld (i := 518) K hX hb (dOf ck_mL_law rfl rfl) (ix_in hn 3 (by decide)) ?_
  refine aw_callV (i := 519) (as := [.inl _, .inl _, .inl _]) (q := 0) K (dOf ck_mL_law rfl rfl) al_OneBreathLaw_109 rfl rfl ⟨wd_977, wd_978⟩ rfl (Nat.le_of_ble_eq_true rfl) ⟨Nat.le_of_ble_eq_true rfl, Nat.le_of_ble_eq_true rfl⟩ hr (Nat.le_refl _) (met_B_adds h1) (fun bl1 => ?_)
  refine aw_aload_n (i := 520) K (dOf ck_mL_law rfl rfl) rfl ?_
  refine aw_sload_n (i := 521) K (dOf ck_mL_law rfl rfl) rfl ?_
  refine aw_iload_n (i := 522) K (dOf ck_mL_law rfl rfl) rfl ?_
  refine aw_iconst (i := 523) K (n := 1) (i32 _ rfl) (dOf ck_mL_law rfl rfl) ?_
  refine aw_iadd (i := 524) K (dOf ck_mL_law rfl rfl) ?_
  refine aw_eqi (b := ((6 * n + 1 : Nat) : Int)) (ix_ok hn hL 1 (by decide)) ?_
  refine aw_scrld (i := 525) K hX hb (dOf ck_mL_law rfl rfl) (ix_in hn 1 (by decide)) ?_
  refine aw_sload_n (i := 526) K (dOf ck_mL_law rfl rfl) rfl ?_
  refine aw_iload_n (i := 527) K (dOf ck_mL_law rfl rfl) rfl ?_
  refine aw_iconst (i := 528) K (n := 2) (i32 _ rfl) (dOf ck_mL_law rfl rfl) ?_
  refine aw_iadd (i := 529) K (dOf ck_mL_law rfl rfl) ?_
  refine aw_eqi (b := ((6 * n + 2 : Nat) : Int)) (ix_ok hn hL 2 (by decide)) ?_
  refine aw_scrld (i := 530) K hX hb (dOf ck_mL_law rfl rfl) (ix_in hn 2 (by decide)) ?_
  refine aw_sload_n (i := 531) K (dOf ck_mL_law rfl rfl) rfl ?_
  refine aw_iload_n (i := 532) K (dOf ck_mL_law rfl rfl) rfl ?_
  refine aw_iconst (i := 533) K (n := 3) (i32 _ rfl) (dOf ck_mL_law rfl rfl) ?_
  refine aw_iadd (i := 534) K (dOf ck_mL_law rfl rfl) ?_
  refine aw_eqi (b := ((6 * n + 3 : Nat) : Int)) (ix_ok hn hL 3 (by decide)) ?_
  refine aw_scrld (i := 535) K hX hb (dOf ck_mL_law rfl rfl) (ix_in hn 3 (by decide)) ?_
  refine aw_callV (i := 536) (as := [.inl _, .inl _, .inl _]) (q := 176) K (dOf ck_mL_law rfl rfl) al_OneBreathLaw_113 rfl rfl ⟨wd_1556, wd_1557⟩ rfl (Nat.le_of_ble_eq_true rfl) ⟨Nat.le_of_ble_eq_true rfl, Nat.le_of_ble_eq_true rfl⟩ hr (Nat.le_refl _) (met_R_adds h2) (fun bl2 => ?_)
  refine aw_icmp_eq (i := 537) K (dOf ck_mL_law rfl rfl) (t := 1012) (aJl (aJ_of (by decide +kernel))) (fun _ => ?_) (fun z => absurd rfl z)
  have k9 := kk (bl1 ++ bl2)
  rw [← List.append_assoc] at k9
  exact k9
set_option maxHeartbeats 4000000 in
set_option maxRecDepth 100000 in
theorem lc_24 {nm : String} {p : Program} {l : Launch} {e : Env} {s : State} {m : MethodId} {args : Array Value} {below : List Frame} {meth : Method} {c : Code} {Q : State → Prop} {D : va_G} {cA : FieldType → ClassId} {ad adV : Nat → Nat} {z0 : Nat} {al : List Nat} {mm : aM} {nc ns : Nat} (K : aK p s m args meth c (mL_law nm) D cA ad adV z0) {n L : Nat} {xs : Nat → Int32} (hX : va_X (ad 21) L xs s s.heap) (hb : ad 21 < z0) (hn : 6 * n + 6 ≤ L) (hL : L ≤ 384) (hr : nc + 0 ≤ 600000 ∧ ns + 0 ≤ 7302250) {r : Int} {mm1 mm2 : aM} (h1 : B_mended ((xs (6 * n + 1)).toInt) mm = some (r, mm1)) (h2 : R_mended ((xs (6 * n + 1)).toInt) mm1 = some (r, mm2)) (kk : ∀ bl, AW p l e room_1 s m args below meth c Q D cA ad z0 (mL_law nm) (al ++ bl) 1012 (lawLv n) [] SH mm2 nc ns) : AW p l e room_1 s m args below meth c Q D cA ad z0 (mL_law nm) al 540 (lawLv n) [] SH mm nc ns := by
  unfold lawLv
  refine aw_aload_n (i := 540) K (dOf ck_mL_law rfl rfl) rfl ?_
  refine aw_sload_n (i := 541) K (dOf ck_mL_law rfl rfl) rfl ?_
  refine aw_iload_n (i := 542) K (dOf ck_mL_law rfl rfl) rfl ?_
  refine aw_iconst (i := 543) K (n := 1) (i32 _ rfl) (dOf ck_mL_law rfl rfl) ?_
  refine aw_iadd (i := 544) K (dOf ck_mL_law rfl rfl) ?_
  refine aw_eqi (b := ((6 * n + 1 : Nat) : Int)) (ix_ok hn hL 1 (by decide)) ?_
  refine aw_scrld (i := 545) K hX hb (dOf ck_mL_law rfl rfl) (ix_in hn 1 (by decide)) ?_
  refine aw_callV (i := 546) (as := [.inl _]) (q := 0) K (dOf ck_mL_law rfl rfl) al_OneBreathLaw_114 rfl rfl ⟨wd_985, wd_986⟩ rfl (Nat.le_of_ble_eq_true rfl) ⟨Nat.le_of_ble_eq_true rfl, Nat.le_of_ble_eq_true rfl⟩ hr (Nat.le_refl _) (met_B_mended h1) (fun bl1 => ?_)
  refine aw_aload_n (i := 547) K (dOf ck_mL_law rfl rfl) rfl ?_
  refine aw_sload_n (i := 548) K (dOf ck_mL_law rfl rfl) rfl ?_
  refine aw_iload_n (i := 549) K (dOf ck_mL_law rfl rfl) rfl ?_
  refine aw_iconst (i := 550) K (n := 1) (i32 _ rfl) (dOf ck_mL_law rfl rfl) ?_
  refine aw_iadd (i := 551) K (dOf ck_mL_law rfl rfl) ?_
  refine aw_eqi (b := ((6 * n + 1 : Nat) : Int)) (ix_ok hn hL 1 (by decide)) ?_
  refine aw_scrld (i := 552) K hX hb (dOf ck_mL_law rfl rfl) (ix_in hn 1 (by decide)) ?_
  refine aw_callV (i := 553) (as := [.inl _]) (q := 176) K (dOf ck_mL_law rfl rfl) al_OneBreathLaw_117 rfl rfl ⟨wd_1561, wd_1562⟩ rfl (Nat.le_of_ble_eq_true rfl) ⟨Nat.le_of_ble_eq_true rfl, Nat.le_of_ble_eq_true rfl⟩ hr (Nat.le_refl _) (met_R_mended h2) (fun bl2 => ?_)
  refine aw_icmp_eq (i := 554) K (dOf ck_mL_law rfl rfl) (t := 1012) (aJl (aJ_of (by decide +kernel))) (fun _ => ?_) (fun z => absurd rfl z)
  have k9 := kk (bl1 ++ bl2)
  rw [← List.append_assoc] at k9
  exact k9
set_option maxHeartbeats 4000000 in
set_option maxRecDepth 100000 in
theorem lc_25 {nm : String} {p : Program} {l : Launch} {e : Env} {s : State} {m : MethodId} {args : Array Value} {below : List Frame} {meth : Method} {c : Code} {Q : State → Prop} {D : va_G} {cA : FieldType → ClassId} {ad adV : Nat → Nat} {z0 : Nat} {al : List Nat} {mm : aM} {nc ns : Nat} (K : aK p s m args meth c (mL_law nm) D cA ad adV z0) {n L : Nat} {xs : Nat → Int32} (hX : va_X (ad 21) L xs s s.heap) (hb : ad 21 < z0) (hn : 6 * n + 6 ≤ L) (hL : L ≤ 384) (hr : nc + 0 ≤ 600000 ∧ ns + 0 ≤ 7302250) {r : Int} {mm1 mm2 : aM} (h1 : B_changed ((xs (6 * n + 1)).toInt) mm = some (r, mm1)) (h2 : R_changed ((xs (6 * n + 1)).toInt) mm1 = some (r, mm2)) (kk : ∀ bl, AW p l e room_1 s m args below meth c Q D cA ad z0 (mL_law nm) (al ++ bl) 1012 (lawLv n) [] SH mm2 nc ns) : AW p l e room_1 s m args below meth c Q D cA ad z0 (mL_law nm) al 557 (lawLv n) [] SH mm nc ns := by
  unfold lawLv
  refine aw_aload_n (i := 557) K (dOf ck_mL_law rfl rfl) rfl ?_
  refine aw_sload_n (i := 558) K (dOf ck_mL_law rfl rfl) rfl ?_
  refine aw_iload_n (i := 559) K (dOf ck_mL_law rfl rfl) rfl ?_
  refine aw_iconst (i := 560) K (n := 1) (i32 _ rfl) (dOf ck_mL_law rfl rfl) ?_
  refine aw_iadd (i := 561) K (dOf ck_mL_law rfl rfl) ?_
  refine aw_eqi (b := ((6 * n + 1 : Nat) : Int)) (ix_ok hn hL 1 (by decide)) ?_
  refine aw_scrld (i := 562) K hX hb (dOf ck_mL_law rfl rfl) (ix_in hn 1 (by decide)) ?_
  refine aw_callV (i := 563) (as := [.inl _]) (q := 0) K (dOf ck_mL_law rfl rfl) al_OneBreathLaw_118 rfl rfl ⟨wd_1004, wd_1005⟩ rfl (Nat.le_of_ble_eq_true rfl) ⟨Nat.le_of_ble_eq_true rfl, Nat.le_of_ble_eq_true rfl⟩ hr (Nat.le_refl _) (met_B_changed h1) (fun bl1 => ?_)
  refine aw_aload_n (i := 564) K (dOf ck_mL_law rfl rfl) rfl ?_
  refine aw_sload_n (i := 565) K (dOf ck_mL_law rfl rfl) rfl ?_
  refine aw_iload_n (i := 566) K (dOf ck_mL_law rfl rfl) rfl ?_
  refine aw_iconst (i := 567) K (n := 1) (i32 _ rfl) (dOf ck_mL_law rfl rfl) ?_
  refine aw_iadd (i := 568) K (dOf ck_mL_law rfl rfl) ?_
  refine aw_eqi (b := ((6 * n + 1 : Nat) : Int)) (ix_ok hn hL 1 (by decide)) ?_
  refine aw_scrld (i := 569) K hX hb (dOf ck_mL_law rfl rfl) (ix_in hn 1 (by decide)) ?_
  refine aw_callV (i := 570) (as := [.inl _]) (q := 176) K (dOf ck_mL_law rfl rfl) al_OneBreathLaw_121 rfl rfl ⟨wd_1568, wd_1569⟩ rfl (Nat.le_of_ble_eq_true rfl) ⟨Nat.le_of_ble_eq_true rfl, Nat.le_of_ble_eq_true rfl⟩ hr (Nat.le_refl _) (met_R_changed h2) (fun bl2 => ?_)
  refine aw_icmp_eq (i := 571) K (dOf ck_mL_law rfl rfl) (t := 1012) (aJl (aJ_of (by decide +kernel))) (fun _ => ?_) (fun z => absurd rfl z)
  have k9 := kk (bl1 ++ bl2)
  rw [← List.append_assoc] at k9
  exact k9
set_option maxHeartbeats 4000000 in
set_option maxRecDepth 100000 in
theorem lc_26 {nm : String} {p : Program} {l : Launch} {e : Env} {s : State} {m : MethodId} {args : Array Value} {below : List Frame} {meth : Method} {c : Code} {Q : State → Prop} {D : va_G} {cA : FieldType → ClassId} {ad adV : Nat → Nat} {z0 : Nat} {al : List Nat} {mm : aM} {nc ns : Nat} (K : aK p s m args meth c (mL_law nm) D cA ad adV z0) {n L : Nat} {xs : Nat → Int32} (hX : va_X (ad 21) L xs s s.heap) (hb : ad 21 < z0) (hn : 6 * n + 6 ≤ L) (hL : L ≤ 384) (hr : nc + 0 ≤ 600000 ∧ ns + 0 ≤ 7302250) {r : Int} {mm1 mm2 : aM} (h1 : B_paused ((xs (6 * n + 1)).toInt) mm = some (r, mm1)) (h2 : R_paused ((xs (6 * n + 1)).toInt) mm1 = some (r, mm2)) (kk : ∀ bl, AW p l e room_1 s m args below meth c Q D cA ad z0 (mL_law nm) (al ++ bl) 1012 (lawLv n) [] SH mm2 nc ns) : AW p l e room_1 s m args below meth c Q D cA ad z0 (mL_law nm) al 574 (lawLv n) [] SH mm nc ns := by
  unfold lawLv
  refine aw_aload_n (i := 574) K (dOf ck_mL_law rfl rfl) rfl ?_
  refine aw_sload_n (i := 575) K (dOf ck_mL_law rfl rfl) rfl ?_
  refine aw_iload_n (i := 576) K (dOf ck_mL_law rfl rfl) rfl ?_
  refine aw_iconst (i := 577) K (n := 1) (i32 _ rfl) (dOf ck_mL_law rfl rfl) ?_
  refine aw_iadd (i := 578) K (dOf ck_mL_law rfl rfl) ?_
  refine aw_eqi (b := ((6 * n + 1 : Nat) : Int)) (ix_ok hn hL 1 (by decide)) ?_
  refine aw_scrld (i := 579) K hX hb (dOf ck_mL_law rfl rfl) (ix_in hn 1 (by decide)) ?_
  refine aw_callV (i := 580) (as := [.inl _]) (q := 0) K (dOf ck_mL_law rfl rfl) al_OneBreathLaw_122 rfl rfl ⟨wd_1020, wd_1021⟩ rfl (Nat.le_of_ble_eq_true rfl) ⟨Nat.le_of_ble_eq_true rfl, Nat.le_of_ble_eq_true rfl⟩ hr (Nat.le_refl _) (met_B_paused h1) (fun bl1 => ?_)
  refine aw_aload_n (i := 581) K (dOf ck_mL_law rfl rfl) rfl ?_
  refine aw_sload_n (i := 582) K (dOf ck_mL_law rfl rfl) rfl ?_
  refine aw_iload_n (i := 583) K (dOf ck_mL_law rfl rfl) rfl ?_
  refine aw_iconst (i := 584) K (n := 1) (i32 _ rfl) (dOf ck_mL_law rfl rfl) ?_
  refine aw_iadd (i := 585) K (dOf ck_mL_law rfl rfl) ?_
  refine aw_eqi (b := ((6 * n + 1 : Nat) : Int)) (ix_ok hn hL 1 (by decide)) ?_
  refine aw_scrld (i := 586) K hX hb (dOf ck_mL_law rfl rfl) (ix_in hn 1 (by decide)) ?_
  refine aw_callV (i := 587) (as := [.inl _]) (q := 176) K (dOf ck_mL_law rfl rfl) al_OneBreathLaw_125 rfl rfl ⟨wd_1572, wd_1573⟩ rfl (Nat.le_of_ble_eq_true rfl) ⟨Nat.le_of_ble_eq_true rfl, Nat.le_of_ble_eq_true rfl⟩ hr (Nat.le_refl _) (met_R_paused h2) (fun bl2 => ?_)
  refine aw_icmp_eq (i := 588) K (dOf ck_mL_law rfl rfl) (t := 1012) (aJl (aJ_of (by decide +kernel))) (fun _ => ?_) (fun z => absurd rfl z)
  have k9 := kk (bl1 ++ bl2)
  rw [← List.append_assoc] at k9
  exact k9
set_option maxHeartbeats 4000000 in
set_option maxRecDepth 100000 in
theorem lc_27 {nm : String} {p : Program} {l : Launch} {e : Env} {s : State} {m : MethodId} {args : Array Value} {below : List Frame} {meth : Method} {c : Code} {Q : State → Prop} {D : va_G} {cA : FieldType → ClassId} {ad adV : Nat → Nat} {z0 : Nat} {al : List Nat} {mm : aM} {nc ns : Nat} (K : aK p s m args meth c (mL_law nm) D cA ad adV z0) {n L : Nat} {xs : Nat → Int32} (hX : va_X (ad 21) L xs s s.heap) (hb : ad 21 < z0) (hn : 6 * n + 6 ≤ L) (hL : L ≤ 384) (hr : nc + 0 ≤ 600000 ∧ ns + 0 ≤ 7302250) {r : Int} {mm2 : aM} (h1 : B_begun ((xs (6 * n + 1)).toInt) mm = some r) (h2 : R_begun ((xs (6 * n + 1)).toInt) mm = some (r, mm2)) (kk : ∀ bl, AW p l e room_1 s m args below meth c Q D cA ad z0 (mL_law nm) (al ++ bl) 1012 (lawLv n) [] SH mm2 nc ns) : AW p l e room_1 s m args below meth c Q D cA ad z0 (mL_law nm) al 591 (lawLv n) [] SH mm nc ns := by
  unfold lawLv
  refine aw_aload_n (i := 591) K (dOf ck_mL_law rfl rfl) rfl ?_
  refine aw_sload_n (i := 592) K (dOf ck_mL_law rfl rfl) rfl ?_
  refine aw_iload_n (i := 593) K (dOf ck_mL_law rfl rfl) rfl ?_
  refine aw_iconst (i := 594) K (n := 1) (i32 _ rfl) (dOf ck_mL_law rfl rfl) ?_
  refine aw_iadd (i := 595) K (dOf ck_mL_law rfl rfl) ?_
  refine aw_eqi (b := ((6 * n + 1 : Nat) : Int)) (ix_ok hn hL 1 (by decide)) ?_
  refine aw_scrld (i := 596) K hX hb (dOf ck_mL_law rfl rfl) (ix_in hn 1 (by decide)) ?_
  refine aw_callV (i := 597) (as := [.inl _]) (q := 0) K (dOf ck_mL_law rfl rfl) al_OneBreathLaw_126 rfl rfl ⟨wd_1028, wd_1029⟩ rfl (Nat.le_of_ble_eq_true rfl) ⟨Nat.le_of_ble_eq_true rfl, Nat.le_of_ble_eq_true rfl⟩ hr (Nat.le_refl _) (met_B_begun h1) (fun bl1 => ?_)
  refine aw_aload_n (i := 598) K (dOf ck_mL_law rfl rfl) rfl ?_
  refine aw_sload_n (i := 599) K (dOf ck_mL_law rfl rfl) rfl ?_
  refine aw_iload_n (i := 600) K (dOf ck_mL_law rfl rfl) rfl ?_
  refine aw_iconst (i := 601) K (n := 1) (i32 _ rfl) (dOf ck_mL_law rfl rfl) ?_
  refine aw_iadd (i := 602) K (dOf ck_mL_law rfl rfl) ?_
  refine aw_eqi (b := ((6 * n + 1 : Nat) : Int)) (ix_ok hn hL 1 (by decide)) ?_
  refine aw_scrld (i := 603) K hX hb (dOf ck_mL_law rfl rfl) (ix_in hn 1 (by decide)) ?_
  refine aw_callV (i := 604) (as := [.inl _]) (q := 176) K (dOf ck_mL_law rfl rfl) al_OneBreathLaw_129 rfl rfl ⟨wd_1576, wd_1577⟩ rfl (Nat.le_of_ble_eq_true rfl) ⟨Nat.le_of_ble_eq_true rfl, Nat.le_of_ble_eq_true rfl⟩ hr (Nat.le_refl _) (met_R_begun h2) (fun bl2 => ?_)
  refine aw_icmp_eq (i := 605) K (dOf ck_mL_law rfl rfl) (t := 1012) (aJl (aJ_of (by decide +kernel))) (fun _ => ?_) (fun z => absurd rfl z)
  have k9 := kk (bl1 ++ bl2)
  rw [← List.append_assoc] at k9
  exact k9
set_option maxHeartbeats 4000000 in
set_option maxRecDepth 100000 in
theorem lc_28 {nm : String} {p : Program} {l : Launch} {e : Env} {s : State} {m : MethodId} {args : Array Value} {below : List Frame} {meth : Method} {c : Code} {Q : State → Prop} {D : va_G} {cA : FieldType → ClassId} {ad adV : Nat → Nat} {z0 : Nat} {al : List Nat} {mm : aM} {nc ns : Nat} (K : aK p s m args meth c (mL_law nm) D cA ad adV z0) {n L : Nat} {xs : Nat → Int32} (hX : va_X (ad 21) L xs s s.heap) (hb : ad 21 < z0) (hn : 6 * n + 6 ≤ L) (hL : L ≤ 384) (hr : nc + 0 ≤ 600000 ∧ ns + 0 ≤ 7302250) {r : Int} {mm1 mm2 : aM} (h1 : B_fitted ((xs (6 * n + 1)).toInt) ((xs (6 * n + 2)).toInt) mm = some (r, mm1)) (h2 : R_fitted ((xs (6 * n + 1)).toInt) ((xs (6 * n + 2)).toInt) mm1 = some (r, mm2)) (kk : ∀ bl, AW p l e room_1 s m args below meth c Q D cA ad z0 (mL_law nm) (al ++ bl) 1012 (lawLv n) [] SH mm2 nc ns) : AW p l e room_1 s m args below meth c Q D cA ad z0 (mL_law nm) al 608 (lawLv n) [] SH mm nc ns := by
  unfold lawLv
  refine aw_aload_n (i := 608) K (dOf ck_mL_law rfl rfl) rfl ?_
  refine aw_sload_n (i := 609) K (dOf ck_mL_law rfl rfl) rfl ?_
  refine aw_iload_n (i := 610) K (dOf ck_mL_law rfl rfl) rfl ?_
  refine aw_iconst (i := 611) K (n := 1) (i32 _ rfl) (dOf ck_mL_law rfl rfl) ?_
  refine aw_iadd (i := 612) K (dOf ck_mL_law rfl rfl) ?_
  refine aw_eqi (b := ((6 * n + 1 : Nat) : Int)) (ix_ok hn hL 1 (by decide)) ?_
  refine aw_scrld (i := 613) K hX hb (dOf ck_mL_law rfl rfl) (ix_in hn 1 (by decide)) ?_
  refine aw_sload_n (i := 614) K (dOf ck_mL_law rfl rfl) rfl ?_
  refine aw_iload_n (i := 615) K (dOf ck_mL_law rfl rfl) rfl ?_
  refine aw_iconst (i := 616) K (n := 2) (i32 _ rfl) (dOf ck_mL_law rfl rfl) ?_
  refine aw_iadd (i := 617) K (dOf ck_mL_law rfl rfl) ?_
  refine aw_eqi (b := ((6 * n + 2 : Nat) : Int)) (ix_ok hn hL 2 (by decide)) ?_
  refine aw_scrld (i := 618) K hX hb (dOf ck_mL_law rfl rfl) (ix_in hn 2 (by decide)) ?_
  refine aw_callV (i := 619) (as := [.inl _, .inl _]) (q := 0) K (dOf ck_mL_law rfl rfl) al_OneBreathLaw_130 rfl rfl ⟨wd_1037, wd_1038⟩ rfl (Nat.le_of_ble_eq_true rfl) ⟨Nat.le_of_ble_eq_true rfl, Nat.le_of_ble_eq_true rfl⟩ hr (Nat.le_refl _) (met_B_fitted h1) (fun bl1 => ?_)
  refine aw_aload_n (i := 620) K (dOf ck_mL_law rfl rfl) rfl ?_
  refine aw_sload_n (i := 621) K (dOf ck_mL_law rfl rfl) rfl ?_
  refine aw_iload_n (i := 622) K (dOf ck_mL_law rfl rfl) rfl ?_
  refine aw_iconst (i := 623) K (n := 1) (i32 _ rfl) (dOf ck_mL_law rfl rfl) ?_
  refine aw_iadd (i := 624) K (dOf ck_mL_law rfl rfl) ?_
  refine aw_eqi (b := ((6 * n + 1 : Nat) : Int)) (ix_ok hn hL 1 (by decide)) ?_
  refine aw_scrld (i := 625) K hX hb (dOf ck_mL_law rfl rfl) (ix_in hn 1 (by decide)) ?_
  refine aw_sload_n (i := 626) K (dOf ck_mL_law rfl rfl) rfl ?_
  refine aw_iload_n (i := 627) K (dOf ck_mL_law rfl rfl) rfl ?_
  refine aw_iconst (i := 628) K (n := 2) (i32 _ rfl) (dOf ck_mL_law rfl rfl) ?_
  refine aw_iadd (i := 629) K (dOf ck_mL_law rfl rfl) ?_
  refine aw_eqi (b := ((6 * n + 2 : Nat) : Int)) (ix_ok hn hL 2 (by decide)) ?_
  refine aw_scrld (i := 630) K hX hb (dOf ck_mL_law rfl rfl) (ix_in hn 2 (by decide)) ?_
  refine aw_callV (i := 631) (as := [.inl _, .inl _]) (q := 176) K (dOf ck_mL_law rfl rfl) al_OneBreathLaw_133 rfl rfl ⟨wd_1583, wd_1584⟩ rfl (Nat.le_of_ble_eq_true rfl) ⟨Nat.le_of_ble_eq_true rfl, Nat.le_of_ble_eq_true rfl⟩ hr (Nat.le_refl _) (met_R_fitted h2) (fun bl2 => ?_)
  refine aw_icmp_eq (i := 632) K (dOf ck_mL_law rfl rfl) (t := 1012) (aJl (aJ_of (by decide +kernel))) (fun _ => ?_) (fun z => absurd rfl z)
  have k9 := kk (bl1 ++ bl2)
  rw [← List.append_assoc] at k9
  exact k9
set_option maxHeartbeats 4000000 in
set_option maxRecDepth 100000 in
theorem lc_29 {nm : String} {p : Program} {l : Launch} {e : Env} {s : State} {m : MethodId} {args : Array Value} {below : List Frame} {meth : Method} {c : Code} {Q : State → Prop} {D : va_G} {cA : FieldType → ClassId} {ad adV : Nat → Nat} {z0 : Nat} {al : List Nat} {mm : aM} {nc ns : Nat} (K : aK p s m args meth c (mL_law nm) D cA ad adV z0) {n L : Nat} {xs : Nat → Int32} (hX : va_X (ad 21) L xs s s.heap) (hb : ad 21 < z0) (hn : 6 * n + 6 ≤ L) (hL : L ≤ 384) (hr : nc + 0 ≤ 600000 ∧ ns + 0 ≤ 7302250) {r : Int} {mm2 : aM} (h1 : B_talk mm = some r) (h2 : R_talk mm = some (r, mm2)) (kk : ∀ bl, AW p l e room_1 s m args below meth c Q D cA ad z0 (mL_law nm) (al ++ bl) 1012 (lawLv n) [] SH mm2 nc ns) : AW p l e room_1 s m args below meth c Q D cA ad z0 (mL_law nm) al 635 (lawLv n) [] SH mm nc ns := by
  unfold lawLv
  refine aw_aload_n (i := 635) K (dOf ck_mL_law rfl rfl) rfl ?_
  refine aw_callV (i := 636) (as := []) (q := 0) K (dOf ck_mL_law rfl rfl) al_OneBreathLaw_134 rfl rfl ⟨wd_1045, wd_1046⟩ rfl (Nat.le_of_ble_eq_true rfl) ⟨Nat.le_of_ble_eq_true rfl, Nat.le_of_ble_eq_true rfl⟩ hr (Nat.le_refl _) (met_B_talk h1) (fun bl1 => ?_)
  refine aw_aload_n (i := 637) K (dOf ck_mL_law rfl rfl) rfl ?_
  refine aw_callV (i := 638) (as := []) (q := 176) K (dOf ck_mL_law rfl rfl) al_OneBreathLaw_137 rfl rfl ⟨wd_1593, wd_1594⟩ rfl (Nat.le_of_ble_eq_true rfl) ⟨Nat.le_of_ble_eq_true rfl, Nat.le_of_ble_eq_true rfl⟩ hr (Nat.le_refl _) (met_R_talk h2) (fun bl2 => ?_)
  refine aw_icmp_eq (i := 639) K (dOf ck_mL_law rfl rfl) (t := 1012) (aJl (aJ_of (by decide +kernel))) (fun _ => ?_) (fun z => absurd rfl z)
  have k9 := kk (bl1 ++ bl2)
  rw [← List.append_assoc] at k9
  exact k9
set_option maxHeartbeats 4000000 in
set_option maxRecDepth 100000 in
theorem lc_30 {nm : String} {p : Program} {l : Launch} {e : Env} {s : State} {m : MethodId} {args : Array Value} {below : List Frame} {meth : Method} {c : Code} {Q : State → Prop} {D : va_G} {cA : FieldType → ClassId} {ad adV : Nat → Nat} {z0 : Nat} {al : List Nat} {mm : aM} {nc ns : Nat} (K : aK p s m args meth c (mL_law nm) D cA ad adV z0) {n L : Nat} {xs : Nat → Int32} (hX : va_X (ad 21) L xs s s.heap) (hb : ad 21 < z0) (hn : 6 * n + 6 ≤ L) (hL : L ≤ 384) (hr : nc + 0 ≤ 600000 ∧ ns + 0 ≤ 7302250) {r : Int} {mm1 mm2 : aM} (h1 : B_code ((xs (6 * n + 1)).toInt) mm = some (r, mm1)) (h2 : R_code ((xs (6 * n + 1)).toInt) mm1 = some (r, mm2)) (kk : ∀ bl, AW p l e room_1 s m args below meth c Q D cA ad z0 (mL_law nm) (al ++ bl) 1012 (lawLv n) [] SH mm2 nc ns) : AW p l e room_1 s m args below meth c Q D cA ad z0 (mL_law nm) al 642 (lawLv n) [] SH mm nc ns := by
  unfold lawLv
  refine aw_aload_n (i := 642) K (dOf ck_mL_law rfl rfl) rfl ?_
  refine aw_sload_n (i := 643) K (dOf ck_mL_law rfl rfl) rfl ?_
  refine aw_iload_n (i := 644) K (dOf ck_mL_law rfl rfl) rfl ?_
  refine aw_iconst (i := 645) K (n := 1) (i32 _ rfl) (dOf ck_mL_law rfl rfl) ?_
  refine aw_iadd (i := 646) K (dOf ck_mL_law rfl rfl) ?_
  refine aw_eqi (b := ((6 * n + 1 : Nat) : Int)) (ix_ok hn hL 1 (by decide)) ?_
  refine aw_scrld (i := 647) K hX hb (dOf ck_mL_law rfl rfl) (ix_in hn 1 (by decide)) ?_
  refine aw_callV (i := 648) (as := [.inl _]) (q := 0) K (dOf ck_mL_law rfl rfl) al_OneBreathLaw_138 rfl rfl ⟨wd_1049, wd_1050⟩ rfl (Nat.le_of_ble_eq_true rfl) ⟨Nat.le_of_ble_eq_true rfl, Nat.le_of_ble_eq_true rfl⟩ hr (Nat.le_refl _) (met_B_code h1) (fun bl1 => ?_)
  refine aw_aload_n (i := 649) K (dOf ck_mL_law rfl rfl) rfl ?_
  refine aw_sload_n (i := 650) K (dOf ck_mL_law rfl rfl) rfl ?_
  refine aw_iload_n (i := 651) K (dOf ck_mL_law rfl rfl) rfl ?_
  refine aw_iconst (i := 652) K (n := 1) (i32 _ rfl) (dOf ck_mL_law rfl rfl) ?_
  refine aw_iadd (i := 653) K (dOf ck_mL_law rfl rfl) ?_
  refine aw_eqi (b := ((6 * n + 1 : Nat) : Int)) (ix_ok hn hL 1 (by decide)) ?_
  refine aw_scrld (i := 654) K hX hb (dOf ck_mL_law rfl rfl) (ix_in hn 1 (by decide)) ?_
  refine aw_callV (i := 655) (as := [.inl _]) (q := 176) K (dOf ck_mL_law rfl rfl) al_OneBreathLaw_141 rfl rfl ⟨wd_1597, wd_1598⟩ rfl (Nat.le_of_ble_eq_true rfl) ⟨Nat.le_of_ble_eq_true rfl, Nat.le_of_ble_eq_true rfl⟩ hr (Nat.le_refl _) (met_R_code h2) (fun bl2 => ?_)
  refine aw_icmp_eq (i := 656) K (dOf ck_mL_law rfl rfl) (t := 1012) (aJl (aJ_of (by decide +kernel))) (fun _ => ?_) (fun z => absurd rfl z)
  have k9 := kk (bl1 ++ bl2)
  rw [← List.append_assoc] at k9
  exact k9
set_option maxHeartbeats 4000000 in
set_option maxRecDepth 100000 in
theorem lc_31 {nm : String} {p : Program} {l : Launch} {e : Env} {s : State} {m : MethodId} {args : Array Value} {below : List Frame} {meth : Method} {c : Code} {Q : State → Prop} {D : va_G} {cA : FieldType → ClassId} {ad adV : Nat → Nat} {z0 : Nat} {al : List Nat} {mm : aM} {nc ns : Nat} (K : aK p s m args meth c (mL_law nm) D cA ad adV z0) {n L : Nat} {xs : Nat → Int32} (hX : va_X (ad 21) L xs s s.heap) (hb : ad 21 < z0) (hn : 6 * n + 6 ≤ L) (hL : L ≤ 384) (hr : nc + 0 ≤ 600000 ∧ ns + 0 ≤ 7302250) {r : Int} {mm1 mm2 : aM} (h1 : B_said ((xs (6 * n + 1)).toInt) mm = some (r, mm1)) (h2 : R_said ((xs (6 * n + 1)).toInt) mm1 = some (r, mm2)) (kk : ∀ bl, AW p l e room_1 s m args below meth c Q D cA ad z0 (mL_law nm) (al ++ bl) 1012 (lawLv n) [] SH mm2 nc ns) : AW p l e room_1 s m args below meth c Q D cA ad z0 (mL_law nm) al 659 (lawLv n) [] SH mm nc ns := by
  unfold lawLv
  refine aw_aload_n (i := 659) K (dOf ck_mL_law rfl rfl) rfl ?_
  refine aw_sload_n (i := 660) K (dOf ck_mL_law rfl rfl) rfl ?_
  refine aw_iload_n (i := 661) K (dOf ck_mL_law rfl rfl) rfl ?_
  refine aw_iconst (i := 662) K (n := 1) (i32 _ rfl) (dOf ck_mL_law rfl rfl) ?_
  refine aw_iadd (i := 663) K (dOf ck_mL_law rfl rfl) ?_
  refine aw_eqi (b := ((6 * n + 1 : Nat) : Int)) (ix_ok hn hL 1 (by decide)) ?_
  refine aw_scrld (i := 664) K hX hb (dOf ck_mL_law rfl rfl) (ix_in hn 1 (by decide)) ?_
  refine aw_callV (i := 665) (as := [.inl _]) (q := 0) K (dOf ck_mL_law rfl rfl) al_OneBreathLaw_142 rfl rfl ⟨wd_1064, wd_1065⟩ rfl (Nat.le_of_ble_eq_true rfl) ⟨Nat.le_of_ble_eq_true rfl, Nat.le_of_ble_eq_true rfl⟩ hr (Nat.le_refl _) (met_B_said h1) (fun bl1 => ?_)
  refine aw_aload_n (i := 666) K (dOf ck_mL_law rfl rfl) rfl ?_
  refine aw_sload_n (i := 667) K (dOf ck_mL_law rfl rfl) rfl ?_
  refine aw_iload_n (i := 668) K (dOf ck_mL_law rfl rfl) rfl ?_
  refine aw_iconst (i := 669) K (n := 1) (i32 _ rfl) (dOf ck_mL_law rfl rfl) ?_
  refine aw_iadd (i := 670) K (dOf ck_mL_law rfl rfl) ?_
  refine aw_eqi (b := ((6 * n + 1 : Nat) : Int)) (ix_ok hn hL 1 (by decide)) ?_
  refine aw_scrld (i := 671) K hX hb (dOf ck_mL_law rfl rfl) (ix_in hn 1 (by decide)) ?_
  refine aw_callV (i := 672) (as := [.inl _]) (q := 176) K (dOf ck_mL_law rfl rfl) al_OneBreathLaw_145 rfl rfl ⟨wd_1602, wd_1603⟩ rfl (Nat.le_of_ble_eq_true rfl) ⟨Nat.le_of_ble_eq_true rfl, Nat.le_of_ble_eq_true rfl⟩ hr (Nat.le_refl _) (met_R_said h2) (fun bl2 => ?_)
  refine aw_icmp_eq (i := 673) K (dOf ck_mL_law rfl rfl) (t := 1012) (aJl (aJ_of (by decide +kernel))) (fun _ => ?_) (fun z => absurd rfl z)
  have k9 := kk (bl1 ++ bl2)
  rw [← List.append_assoc] at k9
  exact k9
set_option maxHeartbeats 4000000 in
set_option maxRecDepth 100000 in
theorem lc_32 {nm : String} {p : Program} {l : Launch} {e : Env} {s : State} {m : MethodId} {args : Array Value} {below : List Frame} {meth : Method} {c : Code} {Q : State → Prop} {D : va_G} {cA : FieldType → ClassId} {ad adV : Nat → Nat} {z0 : Nat} {al : List Nat} {mm : aM} {nc ns : Nat} (K : aK p s m args meth c (mL_law nm) D cA ad adV z0) {n L : Nat} {xs : Nat → Int32} (hX : va_X (ad 21) L xs s s.heap) (hb : ad 21 < z0) (hn : 6 * n + 6 ≤ L) (hL : L ≤ 384) (hr : nc + 0 ≤ 600000 ∧ ns + 0 ≤ 7302250) {r : Int} {mm1 mm2 : aM} (h1 : B_richest ((xs (6 * n + 1)).toInt) ((xs (6 * n + 2)).toInt) mm = some (r, mm1)) (h2 : R_richest ((xs (6 * n + 1)).toInt) ((xs (6 * n + 2)).toInt) mm1 = some (r, mm2)) (kk : ∀ bl, AW p l e room_1 s m args below meth c Q D cA ad z0 (mL_law nm) (al ++ bl) 1012 (lawLv n) [] SH mm2 nc ns) : AW p l e room_1 s m args below meth c Q D cA ad z0 (mL_law nm) al 676 (lawLv n) [] SH mm nc ns := by
  unfold lawLv
  refine aw_aload_n (i := 676) K (dOf ck_mL_law rfl rfl) rfl ?_
  refine aw_sload_n (i := 677) K (dOf ck_mL_law rfl rfl) rfl ?_
  refine aw_iload_n (i := 678) K (dOf ck_mL_law rfl rfl) rfl ?_
  refine aw_iconst (i := 679) K (n := 1) (i32 _ rfl) (dOf ck_mL_law rfl rfl) ?_
  refine aw_iadd (i := 680) K (dOf ck_mL_law rfl rfl) ?_
  refine aw_eqi (b := ((6 * n + 1 : Nat) : Int)) (ix_ok hn hL 1 (by decide)) ?_
  refine aw_scrld (i := 681) K hX hb (dOf ck_mL_law rfl rfl) (ix_in hn 1 (by decide)) ?_
  refine aw_sload_n (i := 682) K (dOf ck_mL_law rfl rfl) rfl ?_
  refine aw_iload_n (i := 683) K (dOf ck_mL_law rfl rfl) rfl ?_
  refine aw_iconst (i := 684) K (n := 2) (i32 _ rfl) (dOf ck_mL_law rfl rfl) ?_
  refine aw_iadd (i := 685) K (dOf ck_mL_law rfl rfl) ?_
  refine aw_eqi (b := ((6 * n + 2 : Nat) : Int)) (ix_ok hn hL 2 (by decide)) ?_
  refine aw_scrld (i := 686) K hX hb (dOf ck_mL_law rfl rfl) (ix_in hn 2 (by decide)) ?_
  refine aw_callV (i := 687) (as := [.inl _, .inl _]) (q := 0) K (dOf ck_mL_law rfl rfl) al_OneBreathLaw_146 rfl rfl ⟨wd_1072, wd_1073⟩ rfl (Nat.le_of_ble_eq_true rfl) ⟨Nat.le_of_ble_eq_true rfl, Nat.le_of_ble_eq_true rfl⟩ hr (Nat.le_refl _) (met_B_richest h1) (fun bl1 => ?_)
  refine aw_aload_n (i := 688) K (dOf ck_mL_law rfl rfl) rfl ?_
  refine aw_sload_n (i := 689) K (dOf ck_mL_law rfl rfl) rfl ?_
  refine aw_iload_n (i := 690) K (dOf ck_mL_law rfl rfl) rfl ?_
  refine aw_iconst (i := 691) K (n := 1) (i32 _ rfl) (dOf ck_mL_law rfl rfl) ?_
  refine aw_iadd (i := 692) K (dOf ck_mL_law rfl rfl) ?_
  refine aw_eqi (b := ((6 * n + 1 : Nat) : Int)) (ix_ok hn hL 1 (by decide)) ?_
  refine aw_scrld (i := 693) K hX hb (dOf ck_mL_law rfl rfl) (ix_in hn 1 (by decide)) ?_
  refine aw_sload_n (i := 694) K (dOf ck_mL_law rfl rfl) rfl ?_
  refine aw_iload_n (i := 695) K (dOf ck_mL_law rfl rfl) rfl ?_
  refine aw_iconst (i := 696) K (n := 2) (i32 _ rfl) (dOf ck_mL_law rfl rfl) ?_
  refine aw_iadd (i := 697) K (dOf ck_mL_law rfl rfl) ?_
  refine aw_eqi (b := ((6 * n + 2 : Nat) : Int)) (ix_ok hn hL 2 (by decide)) ?_
  refine aw_scrld (i := 698) K hX hb (dOf ck_mL_law rfl rfl) (ix_in hn 2 (by decide)) ?_
  refine aw_callV (i := 699) (as := [.inl _, .inl _]) (q := 176) K (dOf ck_mL_law rfl rfl) al_OneBreathLaw_149 rfl rfl ⟨wd_1621, wd_1622⟩ rfl (Nat.le_of_ble_eq_true rfl) ⟨Nat.le_of_ble_eq_true rfl, Nat.le_of_ble_eq_true rfl⟩ hr (Nat.le_refl _) (met_R_richest h2) (fun bl2 => ?_)
  refine aw_icmp_eq (i := 700) K (dOf ck_mL_law rfl rfl) (t := 1012) (aJl (aJ_of (by decide +kernel))) (fun _ => ?_) (fun z => absurd rfl z)
  have k9 := kk (bl1 ++ bl2)
  rw [← List.append_assoc] at k9
  exact k9
set_option maxHeartbeats 4000000 in
set_option maxRecDepth 100000 in
theorem lc_33 {nm : String} {p : Program} {l : Launch} {e : Env} {s : State} {m : MethodId} {args : Array Value} {below : List Frame} {meth : Method} {c : Code} {Q : State → Prop} {D : va_G} {cA : FieldType → ClassId} {ad adV : Nat → Nat} {z0 : Nat} {al : List Nat} {mm : aM} {nc ns : Nat} (K : aK p s m args meth c (mL_law nm) D cA ad adV z0) {n L : Nat} {xs : Nat → Int32} (hX : va_X (ad 21) L xs s s.heap) (hb : ad 21 < z0) (hn : 6 * n + 6 ≤ L) (hL : L ≤ 384) (hr : nc + 0 ≤ 600000 ∧ ns + 0 ≤ 7302250) {r : Int} {mm1 mm2 : aM} (h1 : B_endless mm = some (r, mm1)) (h2 : R_endless mm1 = some (r, mm2)) (kk : ∀ bl, AW p l e room_1 s m args below meth c Q D cA ad z0 (mL_law nm) (al ++ bl) 1012 (lawLv n) [] SH mm2 nc ns) : AW p l e room_1 s m args below meth c Q D cA ad z0 (mL_law nm) al 703 (lawLv n) [] SH mm nc ns := by
  unfold lawLv
  refine aw_aload_n (i := 703) K (dOf ck_mL_law rfl rfl) rfl ?_
  refine aw_callV (i := 704) (as := []) (q := 0) K (dOf ck_mL_law rfl rfl) al_OneBreathLaw_150 rfl rfl ⟨wd_1080, wd_1081⟩ rfl (Nat.le_of_ble_eq_true rfl) ⟨Nat.le_of_ble_eq_true rfl, Nat.le_of_ble_eq_true rfl⟩ hr (Nat.le_refl _) (met_B_endless h1) (fun bl1 => ?_)
  refine aw_aload_n (i := 705) K (dOf ck_mL_law rfl rfl) rfl ?_
  refine aw_callV (i := 706) (as := []) (q := 176) K (dOf ck_mL_law rfl rfl) al_OneBreathLaw_153 rfl rfl ⟨wd_1607, wd_1608⟩ rfl (Nat.le_of_ble_eq_true rfl) ⟨Nat.le_of_ble_eq_true rfl, Nat.le_of_ble_eq_true rfl⟩ hr (Nat.le_refl _) (met_R_endless h2) (fun bl2 => ?_)
  refine aw_icmp_eq (i := 707) K (dOf ck_mL_law rfl rfl) (t := 1012) (aJl (aJ_of (by decide +kernel))) (fun _ => ?_) (fun z => absurd rfl z)
  have k9 := kk (bl1 ++ bl2)
  rw [← List.append_assoc] at k9
  exact k9
set_option maxHeartbeats 4000000 in
set_option maxRecDepth 100000 in
theorem lc_34 {nm : String} {p : Program} {l : Launch} {e : Env} {s : State} {m : MethodId} {args : Array Value} {below : List Frame} {meth : Method} {c : Code} {Q : State → Prop} {D : va_G} {cA : FieldType → ClassId} {ad adV : Nat → Nat} {z0 : Nat} {al : List Nat} {mm : aM} {nc ns : Nat} (K : aK p s m args meth c (mL_law nm) D cA ad adV z0) {n L : Nat} {xs : Nat → Int32} (hX : va_X (ad 21) L xs s s.heap) (hb : ad 21 < z0) (hn : 6 * n + 6 ≤ L) (hL : L ≤ 384) (hr : nc + 0 ≤ 600000 ∧ ns + 0 ≤ 7302250) {r : Int} {mm1 mm2 : aM} (h1 : B_longest mm = some (r, mm1)) (h2 : R_longest mm1 = some (r, mm2)) (kk : ∀ bl, AW p l e room_1 s m args below meth c Q D cA ad z0 (mL_law nm) (al ++ bl) 1012 (lawLv n) [] SH mm2 nc ns) : AW p l e room_1 s m args below meth c Q D cA ad z0 (mL_law nm) al 710 (lawLv n) [] SH mm nc ns := by
  unfold lawLv
  refine aw_aload_n (i := 710) K (dOf ck_mL_law rfl rfl) rfl ?_
  refine aw_callV (i := 711) (as := []) (q := 0) K (dOf ck_mL_law rfl rfl) al_OneBreathLaw_154 rfl rfl ⟨wd_1097, wd_1098⟩ rfl (Nat.le_of_ble_eq_true rfl) ⟨Nat.le_of_ble_eq_true rfl, Nat.le_of_ble_eq_true rfl⟩ hr (Nat.le_refl _) (met_B_longest h1) (fun bl1 => ?_)
  refine aw_aload_n (i := 712) K (dOf ck_mL_law rfl rfl) rfl ?_
  refine aw_callV (i := 713) (as := []) (q := 176) K (dOf ck_mL_law rfl rfl) al_OneBreathLaw_157 rfl rfl ⟨wd_1617, wd_1618⟩ rfl (Nat.le_of_ble_eq_true rfl) ⟨Nat.le_of_ble_eq_true rfl, Nat.le_of_ble_eq_true rfl⟩ hr (Nat.le_refl _) (met_R_longest h2) (fun bl2 => ?_)
  refine aw_icmp_eq (i := 714) K (dOf ck_mL_law rfl rfl) (t := 1012) (aJl (aJ_of (by decide +kernel))) (fun _ => ?_) (fun z => absurd rfl z)
  have k9 := kk (bl1 ++ bl2)
  rw [← List.append_assoc] at k9
  exact k9
set_option maxHeartbeats 4000000 in
set_option maxRecDepth 100000 in
theorem lc_35 {nm : String} {p : Program} {l : Launch} {e : Env} {s : State} {m : MethodId} {args : Array Value} {below : List Frame} {meth : Method} {c : Code} {Q : State → Prop} {D : va_G} {cA : FieldType → ClassId} {ad adV : Nat → Nat} {z0 : Nat} {al : List Nat} {mm : aM} {nc ns : Nat} (K : aK p s m args meth c (mL_law nm) D cA ad adV z0) {n L : Nat} {xs : Nat → Int32} (hX : va_X (ad 21) L xs s s.heap) (hb : ad 21 < z0) (hn : 6 * n + 6 ≤ L) (hL : L ≤ 384) (hr : nc + 0 ≤ 600000 ∧ ns + 0 ≤ 7302250) {r : Int} {mm1 mm2 : aM} (h1 : B_noise ((xs (6 * n + 1)).toInt) ((xs (6 * n + 2)).toInt) ((xs (6 * n + 3)).toInt) ((xs (6 * n + 4)).toInt) mm = some (r, mm1)) (h2 : R_noise ((xs (6 * n + 1)).toInt) ((xs (6 * n + 2)).toInt) ((xs (6 * n + 3)).toInt) ((xs (6 * n + 4)).toInt) mm1 = some (r, mm2)) (kk : ∀ bl, AW p l e room_1 s m args below meth c Q D cA ad z0 (mL_law nm) (al ++ bl) 1012 (lawLv n) [] SH mm2 nc ns) : AW p l e room_1 s m args below meth c Q D cA ad z0 (mL_law nm) al 717 (lawLv n) [] SH mm nc ns := by
  unfold lawLv
  refine aw_aload_n (i := 717) K (dOf ck_mL_law rfl rfl) rfl ?_
  refine aw_sload_n (i := 718) K (dOf ck_mL_law rfl rfl) rfl ?_
  refine aw_iload_n (i := 719) K (dOf ck_mL_law rfl rfl) rfl ?_
  refine aw_iconst (i := 720) K (n := 1) (i32 _ rfl) (dOf ck_mL_law rfl rfl) ?_
  refine aw_iadd (i := 721) K (dOf ck_mL_law rfl rfl) ?_
  refine aw_eqi (b := ((6 * n + 1 : Nat) : Int)) (ix_ok hn hL 1 (by decide)) ?_
  refine aw_scrld (i := 722) K hX hb (dOf ck_mL_law rfl rfl) (ix_in hn 1 (by decide)) ?_
  refine aw_sload_n (i := 723) K (dOf ck_mL_law rfl rfl) rfl ?_
  refine aw_iload_n (i := 724) K (dOf ck_mL_law rfl rfl) rfl ?_
  refine aw_iconst (i := 725) K (n := 2) (i32 _ rfl) (dOf ck_mL_law rfl rfl) ?_
  refine aw_iadd (i := 726) K (dOf ck_mL_law rfl rfl) ?_
  refine aw_eqi (b := ((6 * n + 2 : Nat) : Int)) (ix_ok hn hL 2 (by decide)) ?_
  refine aw_scrld (i := 727) K hX hb (dOf ck_mL_law rfl rfl) (ix_in hn 2 (by decide)) ?_
  refine aw_sload_n (i := 728) K (dOf ck_mL_law rfl rfl) rfl ?_
  refine aw_iload_n (i := 729) K (dOf ck_mL_law rfl rfl) rfl ?_
  refine aw_iconst (i := 730) K (n := 3) (i32 _ rfl) (dOf ck_mL_law rfl rfl) ?_
  refine aw_iadd (i := 731) K (dOf ck_mL_law rfl rfl) ?_
  refine aw_eqi (b := ((6 * n + 3 : Nat) : Int)) (ix_ok hn hL 3 (by decide)) ?_
  refine aw_scrld (i := 732) K hX hb (dOf ck_mL_law rfl rfl) (ix_in hn 3 (by decide)) ?_
  refine aw_sload_n (i := 733) K (dOf ck_mL_law rfl rfl) rfl ?_
  refine aw_iload_n (i := 734) K (dOf ck_mL_law rfl rfl) rfl ?_
  refine aw_iconst (i := 735) K (n := 4) (i32 _ rfl) (dOf ck_mL_law rfl rfl) ?_
  refine aw_iadd (i := 736) K (dOf ck_mL_law rfl rfl) ?_
  refine aw_eqi (b := ((6 * n + 4 : Nat) : Int)) (ix_ok hn hL 4 (by decide)) ?_
  refine aw_scrld (i := 737) K hX hb (dOf ck_mL_law rfl rfl) (ix_in hn 4 (by decide)) ?_
  refine aw_callV (i := 738) (as := [.inl _, .inl _, .inl _, .inl _]) (q := 0) K (dOf ck_mL_law rfl rfl) al_OneBreathLaw_158 rfl rfl ⟨wd_1101, wd_1102⟩ rfl (Nat.le_of_ble_eq_true rfl) ⟨Nat.le_of_ble_eq_true rfl, Nat.le_of_ble_eq_true rfl⟩ hr (Nat.le_refl _) (met_B_noise h1) (fun bl1 => ?_)
  refine aw_aload_n (i := 739) K (dOf ck_mL_law rfl rfl) rfl ?_
  refine aw_sload_n (i := 740) K (dOf ck_mL_law rfl rfl) rfl ?_
  refine aw_iload_n (i := 741) K (dOf ck_mL_law rfl rfl) rfl ?_
  refine aw_iconst (i := 742) K (n := 1) (i32 _ rfl) (dOf ck_mL_law rfl rfl) ?_
  refine aw_iadd (i := 743) K (dOf ck_mL_law rfl rfl) ?_
  refine aw_eqi (b := ((6 * n + 1 : Nat) : Int)) (ix_ok hn hL 1 (by decide)) ?_
  refine aw_scrld (i := 744) K hX hb (dOf ck_mL_law rfl rfl) (ix_in hn 1 (by decide)) ?_
  refine aw_sload_n (i := 745) K (dOf ck_mL_law rfl rfl) rfl ?_
  refine aw_iload_n (i := 746) K (dOf ck_mL_law rfl rfl) rfl ?_
  refine aw_iconst (i := 747) K (n := 2) (i32 _ rfl) (dOf ck_mL_law rfl rfl) ?_
  refine aw_iadd (i := 748) K (dOf ck_mL_law rfl rfl) ?_
  refine aw_eqi (b := ((6 * n + 2 : Nat) : Int)) (ix_ok hn hL 2 (by decide)) ?_
  refine aw_scrld (i := 749) K hX hb (dOf ck_mL_law rfl rfl) (ix_in hn 2 (by decide)) ?_
  refine aw_sload_n (i := 750) K (dOf ck_mL_law rfl rfl) rfl ?_
  refine aw_iload_n (i := 751) K (dOf ck_mL_law rfl rfl) rfl ?_
  refine aw_iconst (i := 752) K (n := 3) (i32 _ rfl) (dOf ck_mL_law rfl rfl) ?_
  refine aw_iadd (i := 753) K (dOf ck_mL_law rfl rfl) ?_
  refine aw_eqi (b := ((6 * n + 3 : Nat) : Int)) (ix_ok hn hL 3 (by decide)) ?_
  refine aw_scrld (i := 754) K hX hb (dOf ck_mL_law rfl rfl) (ix_in hn 3 (by decide)) ?_
  refine aw_sload_n (i := 755) K (dOf ck_mL_law rfl rfl) rfl ?_
  refine aw_iload_n (i := 756) K (dOf ck_mL_law rfl rfl) rfl ?_
  refine aw_iconst (i := 757) K (n := 4) (i32 _ rfl) (dOf ck_mL_law rfl rfl) ?_
  refine aw_iadd (i := 758) K (dOf ck_mL_law rfl rfl) ?_
  refine aw_eqi (b := ((6 * n + 4 : Nat) : Int)) (ix_ok hn hL 4 (by decide)) ?_
  refine aw_scrld (i := 759) K hX hb (dOf ck_mL_law rfl rfl) (ix_in hn 4 (by decide)) ?_
  refine aw_callV (i := 760) (as := [.inl _, .inl _, .inl _, .inl _]) (q := 176) K (dOf ck_mL_law rfl rfl) al_OneBreathLaw_162 rfl rfl ⟨wd_1631, wd_1632⟩ rfl (Nat.le_of_ble_eq_true rfl) ⟨Nat.le_of_ble_eq_true rfl, Nat.le_of_ble_eq_true rfl⟩ hr (Nat.le_refl _) (met_R_noise h2) (fun bl2 => ?_)
  refine aw_icmp_eq (i := 761) K (dOf ck_mL_law rfl rfl) (t := 1012) (aJl (aJ_of (by decide +kernel))) (fun _ => ?_) (fun z => absurd rfl z)
  have k9 := kk (bl1 ++ bl2)
  rw [← List.append_assoc] at k9
  exact k9
set_option maxHeartbeats 4000000 in
set_option maxRecDepth 100000 in
theorem lc_36 {nm : String} {p : Program} {l : Launch} {e : Env} {s : State} {m : MethodId} {args : Array Value} {below : List Frame} {meth : Method} {c : Code} {Q : State → Prop} {D : va_G} {cA : FieldType → ClassId} {ad adV : Nat → Nat} {z0 : Nat} {al : List Nat} {mm : aM} {nc ns : Nat} (K : aK p s m args meth c (mL_law nm) D cA ad adV z0) {n L : Nat} {xs : Nat → Int32} (hX : va_X (ad 21) L xs s s.heap) (hb : ad 21 < z0) (hn : 6 * n + 6 ≤ L) (hL : L ≤ 384) (hr : nc + 0 ≤ 600000 ∧ ns + 0 ≤ 7302250) {r : Int} {mm1 mm2 : aM} (h1 : B_asked ((xs (6 * n + 1)).toInt) ((xs (6 * n + 2)).toInt) ((xs (6 * n + 3)).toInt) mm = some (r, mm1)) (h2 : R_asked ((xs (6 * n + 1)).toInt) ((xs (6 * n + 2)).toInt) ((xs (6 * n + 3)).toInt) mm1 = some (r, mm2)) (kk : ∀ bl, AW p l e room_1 s m args below meth c Q D cA ad z0 (mL_law nm) (al ++ bl) 1012 (lawLv n) [] SH mm2 nc ns) : AW p l e room_1 s m args below meth c Q D cA ad z0 (mL_law nm) al 764 (lawLv n) [] SH mm nc ns := by
  unfold lawLv
  refine aw_aload_n (i := 764) K (dOf ck_mL_law rfl rfl) rfl ?_
  refine aw_sload_n (i := 765) K (dOf ck_mL_law rfl rfl) rfl ?_
  refine aw_iload_n (i := 766) K (dOf ck_mL_law rfl rfl) rfl ?_
  refine aw_iconst (i := 767) K (n := 1) (i32 _ rfl) (dOf ck_mL_law rfl rfl) ?_
  refine aw_iadd (i := 768) K (dOf ck_mL_law rfl rfl) ?_
  refine aw_eqi (b := ((6 * n + 1 : Nat) : Int)) (ix_ok hn hL 1 (by decide)) ?_
  refine aw_scrld (i := 769) K hX hb (dOf ck_mL_law rfl rfl) (ix_in hn 1 (by decide)) ?_
  refine aw_sload_n (i := 770) K (dOf ck_mL_law rfl rfl) rfl ?_
  refine aw_iload_n (i := 771) K (dOf ck_mL_law rfl rfl) rfl ?_
  refine aw_iconst (i := 772) K (n := 2) (i32 _ rfl) (dOf ck_mL_law rfl rfl) ?_
  refine aw_iadd (i := 773) K (dOf ck_mL_law rfl rfl) ?_
  refine aw_eqi (b := ((6 * n + 2 : Nat) : Int)) (ix_ok hn hL 2 (by decide)) ?_
  refine aw_scrld (i := 774) K hX hb (dOf ck_mL_law rfl rfl) (ix_in hn 2 (by decide)) ?_
  refine aw_sload_n (i := 775) K (dOf ck_mL_law rfl rfl) rfl ?_
  refine aw_iload_n (i := 776) K (dOf ck_mL_law rfl rfl) rfl ?_
  refine aw_iconst (i := 777) K (n := 3) (i32 _ rfl) (dOf ck_mL_law rfl rfl) ?_
  refine aw_iadd (i := 778) K (dOf ck_mL_law rfl rfl) ?_
  refine aw_eqi (b := ((6 * n + 3 : Nat) : Int)) (ix_ok hn hL 3 (by decide)) ?_
  refine aw_scrld (i := 779) K hX hb (dOf ck_mL_law rfl rfl) (ix_in hn 3 (by decide)) ?_
  refine aw_callV (i := 780) (as := [.inl _, .inl _, .inl _]) (q := 0) K (dOf ck_mL_law rfl rfl) al_OneBreathLaw_163 rfl rfl ⟨wd_1127, wd_1128⟩ rfl (Nat.le_of_ble_eq_true rfl) ⟨Nat.le_of_ble_eq_true rfl, Nat.le_of_ble_eq_true rfl⟩ hr (Nat.le_refl _) (met_B_asked h1) (fun bl1 => ?_)
  refine aw_aload_n (i := 781) K (dOf ck_mL_law rfl rfl) rfl ?_
  refine aw_sload_n (i := 782) K (dOf ck_mL_law rfl rfl) rfl ?_
  refine aw_iload_n (i := 783) K (dOf ck_mL_law rfl rfl) rfl ?_
  refine aw_iconst (i := 784) K (n := 1) (i32 _ rfl) (dOf ck_mL_law rfl rfl) ?_
  refine aw_iadd (i := 785) K (dOf ck_mL_law rfl rfl) ?_
  refine aw_eqi (b := ((6 * n + 1 : Nat) : Int)) (ix_ok hn hL 1 (by decide)) ?_
  refine aw_scrld (i := 786) K hX hb (dOf ck_mL_law rfl rfl) (ix_in hn 1 (by decide)) ?_
  refine aw_sload_n (i := 787) K (dOf ck_mL_law rfl rfl) rfl ?_
  refine aw_iload_n (i := 788) K (dOf ck_mL_law rfl rfl) rfl ?_
  refine aw_iconst (i := 789) K (n := 2) (i32 _ rfl) (dOf ck_mL_law rfl rfl) ?_
  refine aw_iadd (i := 790) K (dOf ck_mL_law rfl rfl) ?_
  refine aw_eqi (b := ((6 * n + 2 : Nat) : Int)) (ix_ok hn hL 2 (by decide)) ?_
  refine aw_scrld (i := 791) K hX hb (dOf ck_mL_law rfl rfl) (ix_in hn 2 (by decide)) ?_
  refine aw_sload_n (i := 792) K (dOf ck_mL_law rfl rfl) rfl ?_
  refine aw_iload_n (i := 793) K (dOf ck_mL_law rfl rfl) rfl ?_
  refine aw_iconst (i := 794) K (n := 3) (i32 _ rfl) (dOf ck_mL_law rfl rfl) ?_
  refine aw_iadd (i := 795) K (dOf ck_mL_law rfl rfl) ?_
  refine aw_eqi (b := ((6 * n + 3 : Nat) : Int)) (ix_ok hn hL 3 (by decide)) ?_
  refine aw_scrld (i := 796) K hX hb (dOf ck_mL_law rfl rfl) (ix_in hn 3 (by decide)) ?_
  refine aw_callV (i := 797) (as := [.inl _, .inl _, .inl _]) (q := 176) K (dOf ck_mL_law rfl rfl) al_OneBreathLaw_166 rfl rfl ⟨wd_1650, wd_1651⟩ rfl (Nat.le_of_ble_eq_true rfl) ⟨Nat.le_of_ble_eq_true rfl, Nat.le_of_ble_eq_true rfl⟩ hr (Nat.le_refl _) (met_R_asked h2) (fun bl2 => ?_)
  refine aw_icmp_eq (i := 798) K (dOf ck_mL_law rfl rfl) (t := 1012) (aJl (aJ_of (by decide +kernel))) (fun _ => ?_) (fun z => absurd rfl z)
  have k9 := kk (bl1 ++ bl2)
  rw [← List.append_assoc] at k9
  exact k9
set_option maxHeartbeats 4000000 in
set_option maxRecDepth 100000 in
theorem lc_37 {nm : String} {p : Program} {l : Launch} {e : Env} {s : State} {m : MethodId} {args : Array Value} {below : List Frame} {meth : Method} {c : Code} {Q : State → Prop} {D : va_G} {cA : FieldType → ClassId} {ad adV : Nat → Nat} {z0 : Nat} {al : List Nat} {mm : aM} {nc ns : Nat} (K : aK p s m args meth c (mL_law nm) D cA ad adV z0) {n L : Nat} {xs : Nat → Int32} (hX : va_X (ad 21) L xs s s.heap) (hb : ad 21 < z0) (hn : 6 * n + 6 ≤ L) (hL : L ≤ 384) (hr : nc + 0 ≤ 600000 ∧ ns + 0 ≤ 7302250) {r : Int} {mm2 : aM} (h1 : B_tree mm = some r) (h2 : R_tree mm = some (r, mm2)) (kk : ∀ bl, AW p l e room_1 s m args below meth c Q D cA ad z0 (mL_law nm) (al ++ bl) 1012 (lawLv n) [] SH mm2 nc ns) : AW p l e room_1 s m args below meth c Q D cA ad z0 (mL_law nm) al 801 (lawLv n) [] SH mm nc ns := by
  unfold lawLv
  refine aw_aload_n (i := 801) K (dOf ck_mL_law rfl rfl) rfl ?_
  refine aw_callV (i := 802) (as := []) (q := 0) K (dOf ck_mL_law rfl rfl) al_OneBreathLaw_167 rfl rfl ⟨wd_1131, wd_1132⟩ rfl (Nat.le_of_ble_eq_true rfl) ⟨Nat.le_of_ble_eq_true rfl, Nat.le_of_ble_eq_true rfl⟩ hr (Nat.le_refl _) (met_B_tree h1) (fun bl1 => ?_)
  refine aw_aload_n (i := 803) K (dOf ck_mL_law rfl rfl) rfl ?_
  refine aw_callV (i := 804) (as := []) (q := 176) K (dOf ck_mL_law rfl rfl) al_OneBreathLaw_170 rfl rfl ⟨wd_1654, wd_1655⟩ rfl (Nat.le_of_ble_eq_true rfl) ⟨Nat.le_of_ble_eq_true rfl, Nat.le_of_ble_eq_true rfl⟩ hr (Nat.le_refl _) (met_R_tree h2) (fun bl2 => ?_)
  refine aw_icmp_eq (i := 805) K (dOf ck_mL_law rfl rfl) (t := 1012) (aJl (aJ_of (by decide +kernel))) (fun _ => ?_) (fun z => absurd rfl z)
  have k9 := kk (bl1 ++ bl2)
  rw [← List.append_assoc] at k9
  exact k9
set_option maxHeartbeats 4000000 in
set_option maxRecDepth 100000 in
theorem lc_38 {nm : String} {p : Program} {l : Launch} {e : Env} {s : State} {m : MethodId} {args : Array Value} {below : List Frame} {meth : Method} {c : Code} {Q : State → Prop} {D : va_G} {cA : FieldType → ClassId} {ad adV : Nat → Nat} {z0 : Nat} {al : List Nat} {mm : aM} {nc ns : Nat} (K : aK p s m args meth c (mL_law nm) D cA ad adV z0) {n L : Nat} {xs : Nat → Int32} (hX : va_X (ad 21) L xs s s.heap) (hb : ad 21 < z0) (hn : 6 * n + 6 ≤ L) (hL : L ≤ 384) (hr : nc + 0 ≤ 600000 ∧ ns + 0 ≤ 7302250) {r : Int} {mm1 mm2 : aM} (h1 : B_limb ((xs (6 * n + 1)).toInt) ((xs (6 * n + 2)).toInt) mm = some (r, mm1)) (h2 : R_limb ((xs (6 * n + 1)).toInt) ((xs (6 * n + 2)).toInt) mm1 = some (r, mm2)) (kk : ∀ bl, AW p l e room_1 s m args below meth c Q D cA ad z0 (mL_law nm) (al ++ bl) 1012 (lawLv n) [] SH mm2 nc ns) : AW p l e room_1 s m args below meth c Q D cA ad z0 (mL_law nm) al 808 (lawLv n) [] SH mm nc ns := by
  unfold lawLv
  refine aw_aload_n (i := 808) K (dOf ck_mL_law rfl rfl) rfl ?_
  refine aw_sload_n (i := 809) K (dOf ck_mL_law rfl rfl) rfl ?_
  refine aw_iload_n (i := 810) K (dOf ck_mL_law rfl rfl) rfl ?_
  refine aw_iconst (i := 811) K (n := 1) (i32 _ rfl) (dOf ck_mL_law rfl rfl) ?_
  refine aw_iadd (i := 812) K (dOf ck_mL_law rfl rfl) ?_
  refine aw_eqi (b := ((6 * n + 1 : Nat) : Int)) (ix_ok hn hL 1 (by decide)) ?_
  refine aw_scrld (i := 813) K hX hb (dOf ck_mL_law rfl rfl) (ix_in hn 1 (by decide)) ?_
  refine aw_sload_n (i := 814) K (dOf ck_mL_law rfl rfl) rfl ?_
  refine aw_iload_n (i := 815) K (dOf ck_mL_law rfl rfl) rfl ?_
  refine aw_iconst (i := 816) K (n := 2) (i32 _ rfl) (dOf ck_mL_law rfl rfl) ?_
  refine aw_iadd (i := 817) K (dOf ck_mL_law rfl rfl) ?_
  refine aw_eqi (b := ((6 * n + 2 : Nat) : Int)) (ix_ok hn hL 2 (by decide)) ?_
  refine aw_scrld (i := 818) K hX hb (dOf ck_mL_law rfl rfl) (ix_in hn 2 (by decide)) ?_
  refine aw_callV (i := 819) (as := [.inl _, .inl _]) (q := 0) K (dOf ck_mL_law rfl rfl) al_OneBreathLaw_171 rfl rfl ⟨wd_1142, wd_1143⟩ rfl (Nat.le_of_ble_eq_true rfl) ⟨Nat.le_of_ble_eq_true rfl, Nat.le_of_ble_eq_true rfl⟩ hr (Nat.le_refl _) (met_B_limb h1) (fun bl1 => ?_)
  refine aw_aload_n (i := 820) K (dOf ck_mL_law rfl rfl) rfl ?_
  refine aw_sload_n (i := 821) K (dOf ck_mL_law rfl rfl) rfl ?_
  refine aw_iload_n (i := 822) K (dOf ck_mL_law rfl rfl) rfl ?_
  refine aw_iconst (i := 823) K (n := 1) (i32 _ rfl) (dOf ck_mL_law rfl rfl) ?_
  refine aw_iadd (i := 824) K (dOf ck_mL_law rfl rfl) ?_
  refine aw_eqi (b := ((6 * n + 1 : Nat) : Int)) (ix_ok hn hL 1 (by decide)) ?_
  refine aw_scrld (i := 825) K hX hb (dOf ck_mL_law rfl rfl) (ix_in hn 1 (by decide)) ?_
  refine aw_sload_n (i := 826) K (dOf ck_mL_law rfl rfl) rfl ?_
  refine aw_iload_n (i := 827) K (dOf ck_mL_law rfl rfl) rfl ?_
  refine aw_iconst (i := 828) K (n := 2) (i32 _ rfl) (dOf ck_mL_law rfl rfl) ?_
  refine aw_iadd (i := 829) K (dOf ck_mL_law rfl rfl) ?_
  refine aw_eqi (b := ((6 * n + 2 : Nat) : Int)) (ix_ok hn hL 2 (by decide)) ?_
  refine aw_scrld (i := 830) K hX hb (dOf ck_mL_law rfl rfl) (ix_in hn 2 (by decide)) ?_
  refine aw_callV (i := 831) (as := [.inl _, .inl _]) (q := 176) K (dOf ck_mL_law rfl rfl) al_OneBreathLaw_174 rfl rfl ⟨wd_1658, wd_1659⟩ rfl (Nat.le_of_ble_eq_true rfl) ⟨Nat.le_of_ble_eq_true rfl, Nat.le_of_ble_eq_true rfl⟩ hr (Nat.le_refl _) (met_R_limb h2) (fun bl2 => ?_)
  refine aw_icmp_eq (i := 832) K (dOf ck_mL_law rfl rfl) (t := 1012) (aJl (aJ_of (by decide +kernel))) (fun _ => ?_) (fun z => absurd rfl z)
  have k9 := kk (bl1 ++ bl2)
  rw [← List.append_assoc] at k9
  exact k9
set_option maxHeartbeats 4000000 in
set_option maxRecDepth 100000 in
theorem lc_39 {nm : String} {p : Program} {l : Launch} {e : Env} {s : State} {m : MethodId} {args : Array Value} {below : List Frame} {meth : Method} {c : Code} {Q : State → Prop} {D : va_G} {cA : FieldType → ClassId} {ad adV : Nat → Nat} {z0 : Nat} {al : List Nat} {mm : aM} {nc ns : Nat} (K : aK p s m args meth c (mL_law nm) D cA ad adV z0) {n L : Nat} {xs : Nat → Int32} (hX : va_X (ad 21) L xs s s.heap) (hb : ad 21 < z0) (hn : 6 * n + 6 ≤ L) (hL : L ≤ 384) (hr : nc + 0 ≤ 600000 ∧ ns + 0 ≤ 7302250) {r : Int} {mm1 mm2 : aM} (h1 : B_numbers ((xs (6 * n + 1)).toInt) ((xs (6 * n + 2)).toInt) ((xs (6 * n + 3)).toInt) mm = some (r, mm1)) (h2 : R_numbers ((xs (6 * n + 1)).toInt) ((xs (6 * n + 2)).toInt) ((xs (6 * n + 3)).toInt) mm1 = some (r, mm2)) (kk : ∀ bl, AW p l e room_1 s m args below meth c Q D cA ad z0 (mL_law nm) (al ++ bl) 1012 (lawLv n) [] SH mm2 nc ns) : AW p l e room_1 s m args below meth c Q D cA ad z0 (mL_law nm) al 835 (lawLv n) [] SH mm nc ns := by
  unfold lawLv
  refine aw_aload_n (i := 835) K (dOf ck_mL_law rfl rfl) rfl ?_
  refine aw_sload_n (i := 836) K (dOf ck_mL_law rfl rfl) rfl ?_
  refine aw_iload_n (i := 837) K (dOf ck_mL_law rfl rfl) rfl ?_
  refine aw_iconst (i := 838) K (n := 1) (i32 _ rfl) (dOf ck_mL_law rfl rfl) ?_
  refine aw_iadd (i := 839) K (dOf ck_mL_law rfl rfl) ?_
  refine aw_eqi (b := ((6 * n + 1 : Nat) : Int)) (ix_ok hn hL 1 (by decide)) ?_
  refine aw_scrld (i := 840) K hX hb (dOf ck_mL_law rfl rfl) (ix_in hn 1 (by decide)) ?_
  refine aw_sload_n (i := 841) K (dOf ck_mL_law rfl rfl) rfl ?_
  refine aw_iload_n (i := 842) K (dOf ck_mL_law rfl rfl) rfl ?_
  refine aw_iconst (i := 843) K (n := 2) (i32 _ rfl) (dOf ck_mL_law rfl rfl) ?_
  refine aw_iadd (i := 844) K (dOf ck_mL_law rfl rfl) ?_
  refine aw_eqi (b := ((6 * n + 2 : Nat) : Int)) (ix_ok hn hL 2 (by decide)) ?_
  refine aw_scrld (i := 845) K hX hb (dOf ck_mL_law rfl rfl) (ix_in hn 2 (by decide)) ?_
  refine aw_sload_n (i := 846) K (dOf ck_mL_law rfl rfl) rfl ?_
  refine aw_iload_n (i := 847) K (dOf ck_mL_law rfl rfl) rfl ?_
  refine aw_iconst (i := 848) K (n := 3) (i32 _ rfl) (dOf ck_mL_law rfl rfl) ?_
  refine aw_iadd (i := 849) K (dOf ck_mL_law rfl rfl) ?_
  refine aw_eqi (b := ((6 * n + 3 : Nat) : Int)) (ix_ok hn hL 3 (by decide)) ?_
  refine aw_scrld (i := 850) K hX hb (dOf ck_mL_law rfl rfl) (ix_in hn 3 (by decide)) ?_
  refine aw_callV (i := 851) (as := [.inl _, .inl _, .inl _]) (q := 0) K (dOf ck_mL_law rfl rfl) al_OneBreathLaw_175 rfl rfl ⟨wd_1158, wd_1159⟩ rfl (Nat.le_of_ble_eq_true rfl) ⟨Nat.le_of_ble_eq_true rfl, Nat.le_of_ble_eq_true rfl⟩ hr (Nat.le_refl _) (met_B_numbers h1) (fun bl1 => ?_)
  refine aw_aload_n (i := 852) K (dOf ck_mL_law rfl rfl) rfl ?_
  refine aw_sload_n (i := 853) K (dOf ck_mL_law rfl rfl) rfl ?_
  refine aw_iload_n (i := 854) K (dOf ck_mL_law rfl rfl) rfl ?_
  refine aw_iconst (i := 855) K (n := 1) (i32 _ rfl) (dOf ck_mL_law rfl rfl) ?_
  refine aw_iadd (i := 856) K (dOf ck_mL_law rfl rfl) ?_
  refine aw_eqi (b := ((6 * n + 1 : Nat) : Int)) (ix_ok hn hL 1 (by decide)) ?_
  refine aw_scrld (i := 857) K hX hb (dOf ck_mL_law rfl rfl) (ix_in hn 1 (by decide)) ?_
  refine aw_sload_n (i := 858) K (dOf ck_mL_law rfl rfl) rfl ?_
  refine aw_iload_n (i := 859) K (dOf ck_mL_law rfl rfl) rfl ?_
  refine aw_iconst (i := 860) K (n := 2) (i32 _ rfl) (dOf ck_mL_law rfl rfl) ?_
  refine aw_iadd (i := 861) K (dOf ck_mL_law rfl rfl) ?_
  refine aw_eqi (b := ((6 * n + 2 : Nat) : Int)) (ix_ok hn hL 2 (by decide)) ?_
  refine aw_scrld (i := 862) K hX hb (dOf ck_mL_law rfl rfl) (ix_in hn 2 (by decide)) ?_
  refine aw_sload_n (i := 863) K (dOf ck_mL_law rfl rfl) rfl ?_
  refine aw_iload_n (i := 864) K (dOf ck_mL_law rfl rfl) rfl ?_
  refine aw_iconst (i := 865) K (n := 3) (i32 _ rfl) (dOf ck_mL_law rfl rfl) ?_
  refine aw_iadd (i := 866) K (dOf ck_mL_law rfl rfl) ?_
  refine aw_eqi (b := ((6 * n + 3 : Nat) : Int)) (ix_ok hn hL 3 (by decide)) ?_
  refine aw_scrld (i := 867) K hX hb (dOf ck_mL_law rfl rfl) (ix_in hn 3 (by decide)) ?_
  refine aw_callV (i := 868) (as := [.inl _, .inl _, .inl _]) (q := 176) K (dOf ck_mL_law rfl rfl) al_OneBreathLaw_178 rfl rfl ⟨wd_1669, wd_1670⟩ rfl (Nat.le_of_ble_eq_true rfl) ⟨Nat.le_of_ble_eq_true rfl, Nat.le_of_ble_eq_true rfl⟩ hr (Nat.le_refl _) (met_R_numbers h2) (fun bl2 => ?_)
  refine aw_icmp_eq (i := 869) K (dOf ck_mL_law rfl rfl) (t := 1012) (aJl (aJ_of (by decide +kernel))) (fun _ => ?_) (fun z => absurd rfl z)
  have k9 := kk (bl1 ++ bl2)
  rw [← List.append_assoc] at k9
  exact k9
set_option maxHeartbeats 4000000 in
set_option maxRecDepth 100000 in
theorem lc_40 {nm : String} {p : Program} {l : Launch} {e : Env} {s : State} {m : MethodId} {args : Array Value} {below : List Frame} {meth : Method} {c : Code} {Q : State → Prop} {D : va_G} {cA : FieldType → ClassId} {ad adV : Nat → Nat} {z0 : Nat} {al : List Nat} {mm : aM} {nc ns : Nat} (K : aK p s m args meth c (mL_law nm) D cA ad adV z0) {n L : Nat} {xs : Nat → Int32} (hX : va_X (ad 21) L xs s s.heap) (hb : ad 21 < z0) (hn : 6 * n + 6 ≤ L) (hL : L ≤ 384) (hr : nc + 0 ≤ 600000 ∧ ns + 0 ≤ 7302250) {r : Int} {mm1 mm2 : aM} (h1 : B_write ((xs (6 * n + 1)).toInt) ((xs (6 * n + 2)).toInt) (lor (lshl ((xs (6 * n + 3)).toInt) 32) (land ((xs (6 * n + 4)).toInt) 4294967295)) mm = some (r, mm1)) (h2 : R_write ((xs (6 * n + 1)).toInt) ((xs (6 * n + 2)).toInt) (lor (lshl ((xs (6 * n + 3)).toInt) 32) (land ((xs (6 * n + 4)).toInt) 4294967295)) mm1 = some (r, mm2)) (kk : ∀ bl, AW p l e room_1 s m args below meth c Q D cA ad z0 (mL_law nm) (al ++ bl) 1012 (lawLv n) [] SH mm2 nc ns) : AW p l e room_1 s m args below meth c Q D cA ad z0 (mL_law nm) al 872 (lawLv n) [] SH mm nc ns := by
  unfold lawLv
  refine aw_aload_n (i := 872) K (dOf ck_mL_law rfl rfl) rfl ?_
  refine aw_sload_n (i := 873) K (dOf ck_mL_law rfl rfl) rfl ?_
  refine aw_iload_n (i := 874) K (dOf ck_mL_law rfl rfl) rfl ?_
  refine aw_iconst (i := 875) K (n := 1) (i32 _ rfl) (dOf ck_mL_law rfl rfl) ?_
  refine aw_iadd (i := 876) K (dOf ck_mL_law rfl rfl) ?_
  refine aw_eqi (b := ((6 * n + 1 : Nat) : Int)) (ix_ok hn hL 1 (by decide)) ?_
  refine aw_scrld (i := 877) K hX hb (dOf ck_mL_law rfl rfl) (ix_in hn 1 (by decide)) ?_
  refine aw_sload_n (i := 878) K (dOf ck_mL_law rfl rfl) rfl ?_
  refine aw_iload_n (i := 879) K (dOf ck_mL_law rfl rfl) rfl ?_
  refine aw_iconst (i := 880) K (n := 2) (i32 _ rfl) (dOf ck_mL_law rfl rfl) ?_
  refine aw_iadd (i := 881) K (dOf ck_mL_law rfl rfl) ?_
  refine aw_eqi (b := ((6 * n + 2 : Nat) : Int)) (ix_ok hn hL 2 (by decide)) ?_
  refine aw_scrld (i := 882) K hX hb (dOf ck_mL_law rfl rfl) (ix_in hn 2 (by decide)) ?_
  refine aw_sload_n (i := 883) K (dOf ck_mL_law rfl rfl) rfl ?_
  refine aw_iload_n (i := 884) K (dOf ck_mL_law rfl rfl) rfl ?_
  refine aw_iconst (i := 885) K (n := 3) (i32 _ rfl) (dOf ck_mL_law rfl rfl) ?_
  refine aw_iadd (i := 886) K (dOf ck_mL_law rfl rfl) ?_
  refine aw_eqi (b := ((6 * n + 3 : Nat) : Int)) (ix_ok hn hL 3 (by decide)) ?_
  refine aw_scrld (i := 887) K hX hb (dOf ck_mL_law rfl rfl) (ix_in hn 3 (by decide)) ?_
  refine aw_i2l (i := 888) K (dOf ck_mL_law rfl rfl) ?_
  refine aw_bip (i := 889) K (dOf ck_mL_law rfl rfl) (v := 32) rfl ?_
  refine aw_lshl (i := 890) K (dOf ck_mL_law rfl rfl) ?_
  refine aw_sload_n (i := 891) K (dOf ck_mL_law rfl rfl) rfl ?_
  refine aw_iload_n (i := 892) K (dOf ck_mL_law rfl rfl) rfl ?_
  refine aw_iconst (i := 893) K (n := 4) (i32 _ rfl) (dOf ck_mL_law rfl rfl) ?_
  refine aw_iadd (i := 894) K (dOf ck_mL_law rfl rfl) ?_
  refine aw_eqi (b := ((6 * n + 4 : Nat) : Int)) (ix_ok hn hL 4 (by decide)) ?_
  refine aw_scrld (i := 895) K hX hb (dOf ck_mL_law rfl rfl) (ix_in hn 4 (by decide)) ?_
  refine aw_i2l (i := 896) K (dOf ck_mL_law rfl rfl) ?_
  refine aw_ldc2 (i := 897) K (dOf ck_mL_law rfl rfl) (n := 4294967295) wd_1699 (i64 _ rfl) ?_
  refine aw_land (i := 898) K (dOf ck_mL_law rfl rfl) ?_
  refine aw_lor (i := 899) K (dOf ck_mL_law rfl rfl) ?_
  refine aw_callV (i := 900) (as := [.inl _, .inl _, .inr (.inl _)]) (q := 0) K (dOf ck_mL_law rfl rfl) al_OneBreathLaw_181 rfl rfl ⟨wd_1169, wd_1170⟩ rfl (Nat.le_of_ble_eq_true rfl) ⟨Nat.le_of_ble_eq_true rfl, Nat.le_of_ble_eq_true rfl⟩ hr (Nat.le_refl _) (met_B_write h1) (fun bl1 => ?_)
  refine aw_aload_n (i := 901) K (dOf ck_mL_law rfl rfl) rfl ?_
  refine aw_sload_n (i := 902) K (dOf ck_mL_law rfl rfl) rfl ?_
  refine aw_iload_n (i := 903) K (dOf ck_mL_law rfl rfl) rfl ?_
  refine aw_iconst (i := 904) K (n := 1) (i32 _ rfl) (dOf ck_mL_law rfl rfl) ?_
  refine aw_iadd (i := 905) K (dOf ck_mL_law rfl rfl) ?_
  refine aw_eqi (b := ((6 * n + 1 : Nat) : Int)) (ix_ok hn hL 1 (by decide)) ?_
  refine aw_scrld (i := 906) K hX hb (dOf ck_mL_law rfl rfl) (ix_in hn 1 (by decide)) ?_
  refine aw_sload_n (i := 907) K (dOf ck_mL_law rfl rfl) rfl ?_
  refine aw_iload_n (i := 908) K (dOf ck_mL_law rfl rfl) rfl ?_
  refine aw_iconst (i := 909) K (n := 2) (i32 _ rfl) (dOf ck_mL_law rfl rfl) ?_
  refine aw_iadd (i := 910) K (dOf ck_mL_law rfl rfl) ?_
  refine aw_eqi (b := ((6 * n + 2 : Nat) : Int)) (ix_ok hn hL 2 (by decide)) ?_
  refine aw_scrld (i := 911) K hX hb (dOf ck_mL_law rfl rfl) (ix_in hn 2 (by decide)) ?_
  refine aw_sload_n (i := 912) K (dOf ck_mL_law rfl rfl) rfl ?_
  refine aw_iload_n (i := 913) K (dOf ck_mL_law rfl rfl) rfl ?_
  refine aw_iconst (i := 914) K (n := 3) (i32 _ rfl) (dOf ck_mL_law rfl rfl) ?_
  refine aw_iadd (i := 915) K (dOf ck_mL_law rfl rfl) ?_
  refine aw_eqi (b := ((6 * n + 3 : Nat) : Int)) (ix_ok hn hL 3 (by decide)) ?_
  refine aw_scrld (i := 916) K hX hb (dOf ck_mL_law rfl rfl) (ix_in hn 3 (by decide)) ?_
  refine aw_i2l (i := 917) K (dOf ck_mL_law rfl rfl) ?_
  refine aw_bip (i := 918) K (dOf ck_mL_law rfl rfl) (v := 32) rfl ?_
  refine aw_lshl (i := 919) K (dOf ck_mL_law rfl rfl) ?_
  refine aw_sload_n (i := 920) K (dOf ck_mL_law rfl rfl) rfl ?_
  refine aw_iload_n (i := 921) K (dOf ck_mL_law rfl rfl) rfl ?_
  refine aw_iconst (i := 922) K (n := 4) (i32 _ rfl) (dOf ck_mL_law rfl rfl) ?_
  refine aw_iadd (i := 923) K (dOf ck_mL_law rfl rfl) ?_
  refine aw_eqi (b := ((6 * n + 4 : Nat) : Int)) (ix_ok hn hL 4 (by decide)) ?_
  refine aw_scrld (i := 924) K hX hb (dOf ck_mL_law rfl rfl) (ix_in hn 4 (by decide)) ?_
  refine aw_i2l (i := 925) K (dOf ck_mL_law rfl rfl) ?_
  refine aw_ldc2 (i := 926) K (dOf ck_mL_law rfl rfl) (n := 4294967295) wd_1699 (i64 _ rfl) ?_
  refine aw_land (i := 927) K (dOf ck_mL_law rfl rfl) ?_
  refine aw_lor (i := 928) K (dOf ck_mL_law rfl rfl) ?_
  refine aw_callV (i := 929) (as := [.inl _, .inl _, .inr (.inl _)]) (q := 176) K (dOf ck_mL_law rfl rfl) al_OneBreathLaw_185 rfl rfl ⟨wd_1674, wd_1675⟩ rfl (Nat.le_of_ble_eq_true rfl) ⟨Nat.le_of_ble_eq_true rfl, Nat.le_of_ble_eq_true rfl⟩ hr (Nat.le_refl _) (met_R_write h2) (fun bl2 => ?_)
  refine aw_lcmp (i := 930) K (dOf ck_mL_law rfl rfl) ?_
  refine aw_if_eq (i := 931) K (dOf ck_mL_law rfl rfl) (t := 1012) (aJl (aJ_of (by decide +kernel))) (fun _ => ?_) (fun z => absurd (by simp) z)
  have k9 := kk (bl1 ++ bl2)
  rw [← List.append_assoc] at k9
  exact k9
set_option maxHeartbeats 4000000 in
set_option maxRecDepth 100000 in
theorem lc_41 {nm : String} {p : Program} {l : Launch} {e : Env} {s : State} {m : MethodId} {args : Array Value} {below : List Frame} {meth : Method} {c : Code} {Q : State → Prop} {D : va_G} {cA : FieldType → ClassId} {ad adV : Nat → Nat} {z0 : Nat} {al : List Nat} {mm : aM} {nc ns : Nat} (K : aK p s m args meth c (mL_law nm) D cA ad adV z0) {n L : Nat} {xs : Nat → Int32} (hX : va_X (ad 21) L xs s s.heap) (hb : ad 21 < z0) (hn : 6 * n + 6 ≤ L) (hL : L ≤ 384) (hr : nc + 0 ≤ 600000 ∧ ns + 0 ≤ 7302250) {r : Int} {mm1 mm2 : aM} (h1 : B_copy ((xs (6 * n + 1)).toInt) ((xs (6 * n + 2)).toInt) mm = some (r, mm1)) (h2 : R_copy ((xs (6 * n + 1)).toInt) ((xs (6 * n + 2)).toInt) mm1 = some (r, mm2)) (kk : ∀ bl, AW p l e room_1 s m args below meth c Q D cA ad z0 (mL_law nm) (al ++ bl) 1012 (lawLv n) [] SH mm2 nc ns) : AW p l e room_1 s m args below meth c Q D cA ad z0 (mL_law nm) al 934 (lawLv n) [] SH mm nc ns := by
  unfold lawLv
  refine aw_aload_n (i := 934) K (dOf ck_mL_law rfl rfl) rfl ?_
  refine aw_sload_n (i := 935) K (dOf ck_mL_law rfl rfl) rfl ?_
  refine aw_iload_n (i := 936) K (dOf ck_mL_law rfl rfl) rfl ?_
  refine aw_iconst (i := 937) K (n := 1) (i32 _ rfl) (dOf ck_mL_law rfl rfl) ?_
  refine aw_iadd (i := 938) K (dOf ck_mL_law rfl rfl) ?_
  refine aw_eqi (b := ((6 * n + 1 : Nat) : Int)) (ix_ok hn hL 1 (by decide)) ?_
  refine aw_scrld (i := 939) K hX hb (dOf ck_mL_law rfl rfl) (ix_in hn 1 (by decide)) ?_
  refine aw_sload_n (i := 940) K (dOf ck_mL_law rfl rfl) rfl ?_
  refine aw_iload_n (i := 941) K (dOf ck_mL_law rfl rfl) rfl ?_
  refine aw_iconst (i := 942) K (n := 2) (i32 _ rfl) (dOf ck_mL_law rfl rfl) ?_
  refine aw_iadd (i := 943) K (dOf ck_mL_law rfl rfl) ?_
  refine aw_eqi (b := ((6 * n + 2 : Nat) : Int)) (ix_ok hn hL 2 (by decide)) ?_
  refine aw_scrld (i := 944) K hX hb (dOf ck_mL_law rfl rfl) (ix_in hn 2 (by decide)) ?_
  refine aw_callV (i := 945) (as := [.inl _, .inl _]) (q := 0) K (dOf ck_mL_law rfl rfl) al_OneBreathLaw_186 rfl rfl ⟨wd_1183, wd_1184⟩ rfl (Nat.le_of_ble_eq_true rfl) ⟨Nat.le_of_ble_eq_true rfl, Nat.le_of_ble_eq_true rfl⟩ hr (Nat.le_refl _) (met_B_copy h1) (fun bl1 => ?_)
  refine aw_aload_n (i := 946) K (dOf ck_mL_law rfl rfl) rfl ?_
  refine aw_sload_n (i := 947) K (dOf ck_mL_law rfl rfl) rfl ?_
  refine aw_iload_n (i := 948) K (dOf ck_mL_law rfl rfl) rfl ?_
  refine aw_iconst (i := 949) K (n := 1) (i32 _ rfl) (dOf ck_mL_law rfl rfl) ?_
  refine aw_iadd (i := 950) K (dOf ck_mL_law rfl rfl) ?_
  refine aw_eqi (b := ((6 * n + 1 : Nat) : Int)) (ix_ok hn hL 1 (by decide)) ?_
  refine aw_scrld (i := 951) K hX hb (dOf ck_mL_law rfl rfl) (ix_in hn 1 (by decide)) ?_
  refine aw_sload_n (i := 952) K (dOf ck_mL_law rfl rfl) rfl ?_
  refine aw_iload_n (i := 953) K (dOf ck_mL_law rfl rfl) rfl ?_
  refine aw_iconst (i := 954) K (n := 2) (i32 _ rfl) (dOf ck_mL_law rfl rfl) ?_
  refine aw_iadd (i := 955) K (dOf ck_mL_law rfl rfl) ?_
  refine aw_eqi (b := ((6 * n + 2 : Nat) : Int)) (ix_ok hn hL 2 (by decide)) ?_
  refine aw_scrld (i := 956) K hX hb (dOf ck_mL_law rfl rfl) (ix_in hn 2 (by decide)) ?_
  refine aw_callV (i := 957) (as := [.inl _, .inl _]) (q := 176) K (dOf ck_mL_law rfl rfl) al_OneBreathLaw_189 rfl rfl ⟨wd_1684, wd_1685⟩ rfl (Nat.le_of_ble_eq_true rfl) ⟨Nat.le_of_ble_eq_true rfl, Nat.le_of_ble_eq_true rfl⟩ hr (Nat.le_refl _) (met_R_copy h2) (fun bl2 => ?_)
  refine aw_icmp_eq (i := 958) K (dOf ck_mL_law rfl rfl) (t := 1012) (aJl (aJ_of (by decide +kernel))) (fun _ => ?_) (fun z => absurd rfl z)
  have k9 := kk (bl1 ++ bl2)
  rw [← List.append_assoc] at k9
  exact k9
set_option maxHeartbeats 4000000 in
set_option maxRecDepth 100000 in
theorem lc_42 {nm : String} {p : Program} {l : Launch} {e : Env} {s : State} {m : MethodId} {args : Array Value} {below : List Frame} {meth : Method} {c : Code} {Q : State → Prop} {D : va_G} {cA : FieldType → ClassId} {ad adV : Nat → Nat} {z0 : Nat} {al : List Nat} {mm : aM} {nc ns : Nat} (K : aK p s m args meth c (mL_law nm) D cA ad adV z0) {n L : Nat} {xs : Nat → Int32} (hX : va_X (ad 21) L xs s s.heap) (hb : ad 21 < z0) (hn : 6 * n + 6 ≤ L) (hL : L ≤ 384) (hr : nc + 0 ≤ 600000 ∧ ns + 0 ≤ 7302250) {r : Int} {mm1 mm2 : aM} (h1 : B_image ((xs (6 * n + 1)).toInt) mm = some (r, mm1)) (h2 : R_image ((xs (6 * n + 1)).toInt) mm1 = some (r, mm2)) (kk : ∀ bl, AW p l e room_1 s m args below meth c Q D cA ad z0 (mL_law nm) (al ++ bl) 1012 (lawLv n) [] SH mm2 nc ns) : AW p l e room_1 s m args below meth c Q D cA ad z0 (mL_law nm) al 961 (lawLv n) [] SH mm nc ns := by
  unfold lawLv
  refine aw_aload_n (i := 961) K (dOf ck_mL_law rfl rfl) rfl ?_
  refine aw_sload_n (i := 962) K (dOf ck_mL_law rfl rfl) rfl ?_
  refine aw_iload_n (i := 963) K (dOf ck_mL_law rfl rfl) rfl ?_
  refine aw_iconst (i := 964) K (n := 1) (i32 _ rfl) (dOf ck_mL_law rfl rfl) ?_
  refine aw_iadd (i := 965) K (dOf ck_mL_law rfl rfl) ?_
  refine aw_eqi (b := ((6 * n + 1 : Nat) : Int)) (ix_ok hn hL 1 (by decide)) ?_
  refine aw_scrld (i := 966) K hX hb (dOf ck_mL_law rfl rfl) (ix_in hn 1 (by decide)) ?_
  refine aw_callV (i := 967) (as := [.inl _]) (q := 0) K (dOf ck_mL_law rfl rfl) al_OneBreathLaw_190 rfl rfl ⟨wd_1187, wd_1188⟩ rfl (Nat.le_of_ble_eq_true rfl) ⟨Nat.le_of_ble_eq_true rfl, Nat.le_of_ble_eq_true rfl⟩ hr (Nat.le_refl _) (met_B_image h1) (fun bl1 => ?_)
  refine aw_aload_n (i := 968) K (dOf ck_mL_law rfl rfl) rfl ?_
  refine aw_sload_n (i := 969) K (dOf ck_mL_law rfl rfl) rfl ?_
  refine aw_iload_n (i := 970) K (dOf ck_mL_law rfl rfl) rfl ?_
  refine aw_iconst (i := 971) K (n := 1) (i32 _ rfl) (dOf ck_mL_law rfl rfl) ?_
  refine aw_iadd (i := 972) K (dOf ck_mL_law rfl rfl) ?_
  refine aw_eqi (b := ((6 * n + 1 : Nat) : Int)) (ix_ok hn hL 1 (by decide)) ?_
  refine aw_scrld (i := 973) K hX hb (dOf ck_mL_law rfl rfl) (ix_in hn 1 (by decide)) ?_
  refine aw_callV (i := 974) (as := [.inl _]) (q := 176) K (dOf ck_mL_law rfl rfl) al_OneBreathLaw_193 rfl rfl ⟨wd_1688, wd_1689⟩ rfl (Nat.le_of_ble_eq_true rfl) ⟨Nat.le_of_ble_eq_true rfl, Nat.le_of_ble_eq_true rfl⟩ hr (Nat.le_refl _) (met_R_image h2) (fun bl2 => ?_)
  refine aw_icmp_eq (i := 975) K (dOf ck_mL_law rfl rfl) (t := 1012) (aJl (aJ_of (by decide +kernel))) (fun _ => ?_) (fun z => absurd rfl z)
  have k9 := kk (bl1 ++ bl2)
  rw [← List.append_assoc] at k9
  exact k9
set_option maxHeartbeats 4000000 in
set_option maxRecDepth 100000 in
theorem lc_43 {nm : String} {p : Program} {l : Launch} {e : Env} {s : State} {m : MethodId} {args : Array Value} {below : List Frame} {meth : Method} {c : Code} {Q : State → Prop} {D : va_G} {cA : FieldType → ClassId} {ad adV : Nat → Nat} {z0 : Nat} {al : List Nat} {mm : aM} {nc ns : Nat} (K : aK p s m args meth c (mL_law nm) D cA ad adV z0) {n L : Nat} {xs : Nat → Int32} (hX : va_X (ad 21) L xs s s.heap) (hb : ad 21 < z0) (hn : 6 * n + 6 ≤ L) (hL : L ≤ 384) (hr : nc + 0 ≤ 600000 ∧ ns + 0 ≤ 7302250) {r : Int} {mm1 mm2 : aM} (h1 : B_restore ((xs (6 * n + 1)).toInt) mm = some (r, mm1)) (h2 : R_restore ((xs (6 * n + 1)).toInt) mm1 = some (r, mm2)) (kk : ∀ bl, AW p l e room_1 s m args below meth c Q D cA ad z0 (mL_law nm) (al ++ bl) 1012 (lawLv n) [] SH mm2 nc ns) : AW p l e room_1 s m args below meth c Q D cA ad z0 (mL_law nm) al 978 (lawLv n) [] SH mm nc ns := by
  unfold lawLv
  refine aw_aload_n (i := 978) K (dOf ck_mL_law rfl rfl) rfl ?_
  refine aw_sload_n (i := 979) K (dOf ck_mL_law rfl rfl) rfl ?_
  refine aw_iload_n (i := 980) K (dOf ck_mL_law rfl rfl) rfl ?_
  refine aw_iconst (i := 981) K (n := 1) (i32 _ rfl) (dOf ck_mL_law rfl rfl) ?_
  refine aw_iadd (i := 982) K (dOf ck_mL_law rfl rfl) ?_
  refine aw_eqi (b := ((6 * n + 1 : Nat) : Int)) (ix_ok hn hL 1 (by decide)) ?_
  refine aw_scrld (i := 983) K hX hb (dOf ck_mL_law rfl rfl) (ix_in hn 1 (by decide)) ?_
  refine aw_callV (i := 984) (as := [.inl _]) (q := 0) K (dOf ck_mL_law rfl rfl) al_OneBreathLaw_194 rfl rfl ⟨wd_1191, wd_1192⟩ rfl (Nat.le_of_ble_eq_true rfl) ⟨Nat.le_of_ble_eq_true rfl, Nat.le_of_ble_eq_true rfl⟩ hr (Nat.le_refl _) (met_B_restore h1) (fun bl1 => ?_)
  refine aw_aload_n (i := 985) K (dOf ck_mL_law rfl rfl) rfl ?_
  refine aw_sload_n (i := 986) K (dOf ck_mL_law rfl rfl) rfl ?_
  refine aw_iload_n (i := 987) K (dOf ck_mL_law rfl rfl) rfl ?_
  refine aw_iconst (i := 988) K (n := 1) (i32 _ rfl) (dOf ck_mL_law rfl rfl) ?_
  refine aw_iadd (i := 989) K (dOf ck_mL_law rfl rfl) ?_
  refine aw_eqi (b := ((6 * n + 1 : Nat) : Int)) (ix_ok hn hL 1 (by decide)) ?_
  refine aw_scrld (i := 990) K hX hb (dOf ck_mL_law rfl rfl) (ix_in hn 1 (by decide)) ?_
  refine aw_callV (i := 991) (as := [.inl _]) (q := 176) K (dOf ck_mL_law rfl rfl) al_OneBreathLaw_197 rfl rfl ⟨wd_1692, wd_1693⟩ rfl (Nat.le_of_ble_eq_true rfl) ⟨Nat.le_of_ble_eq_true rfl, Nat.le_of_ble_eq_true rfl⟩ hr (Nat.le_refl _) (met_R_restore h2) (fun bl2 => ?_)
  refine aw_icmp_eq (i := 992) K (dOf ck_mL_law rfl rfl) (t := 1012) (aJl (aJ_of (by decide +kernel))) (fun _ => ?_) (fun z => absurd rfl z)
  have k9 := kk (bl1 ++ bl2)
  rw [← List.append_assoc] at k9
  exact k9
set_option maxHeartbeats 4000000 in
set_option maxRecDepth 100000 in
theorem lc_44 {nm : String} {p : Program} {l : Launch} {e : Env} {s : State} {m : MethodId} {args : Array Value} {below : List Frame} {meth : Method} {c : Code} {Q : State → Prop} {D : va_G} {cA : FieldType → ClassId} {ad adV : Nat → Nat} {z0 : Nat} {al : List Nat} {mm : aM} {nc ns : Nat} (K : aK p s m args meth c (mL_law nm) D cA ad adV z0) {n L : Nat} {xs : Nat → Int32} (hX : va_X (ad 21) L xs s s.heap) (hb : ad 21 < z0) (hn : 6 * n + 6 ≤ L) (hL : L ≤ 384) (hr : nc + 0 ≤ 600000 ∧ ns + 0 ≤ 7302250) {r : Int} {mm2 : aM} (h1 : B_count ((xs (6 * n + 1)).toInt) mm = some r) (h2 : R_count ((xs (6 * n + 1)).toInt) mm = some (r, mm2)) (kk : ∀ bl, AW p l e room_1 s m args below meth c Q D cA ad z0 (mL_law nm) (al ++ bl) 1012 (lawLv n) [] SH mm2 nc ns) : AW p l e room_1 s m args below meth c Q D cA ad z0 (mL_law nm) al 995 (lawLv n) [] SH mm nc ns := by
  unfold lawLv
  refine aw_aload_n (i := 995) K (dOf ck_mL_law rfl rfl) rfl ?_
  refine aw_sload_n (i := 996) K (dOf ck_mL_law rfl rfl) rfl ?_
  refine aw_iload_n (i := 997) K (dOf ck_mL_law rfl rfl) rfl ?_
  refine aw_iconst (i := 998) K (n := 1) (i32 _ rfl) (dOf ck_mL_law rfl rfl) ?_
  refine aw_iadd (i := 999) K (dOf ck_mL_law rfl rfl) ?_
  refine aw_eqi (b := ((6 * n + 1 : Nat) : Int)) (ix_ok hn hL 1 (by decide)) ?_
  refine aw_scrld (i := 1000) K hX hb (dOf ck_mL_law rfl rfl) (ix_in hn 1 (by decide)) ?_
  refine aw_callV (i := 1001) (as := [.inl _]) (q := 0) K (dOf ck_mL_law rfl rfl) al_OneBreathLaw_198 rfl rfl ⟨wd_1195, wd_1196⟩ rfl (Nat.le_of_ble_eq_true rfl) ⟨Nat.le_of_ble_eq_true rfl, Nat.le_of_ble_eq_true rfl⟩ hr (Nat.le_refl _) (met_B_count h1) (fun bl1 => ?_)
  refine aw_aload_n (i := 1002) K (dOf ck_mL_law rfl rfl) rfl ?_
  refine aw_sload_n (i := 1003) K (dOf ck_mL_law rfl rfl) rfl ?_
  refine aw_iload_n (i := 1004) K (dOf ck_mL_law rfl rfl) rfl ?_
  refine aw_iconst (i := 1005) K (n := 1) (i32 _ rfl) (dOf ck_mL_law rfl rfl) ?_
  refine aw_iadd (i := 1006) K (dOf ck_mL_law rfl rfl) ?_
  refine aw_eqi (b := ((6 * n + 1 : Nat) : Int)) (ix_ok hn hL 1 (by decide)) ?_
  refine aw_scrld (i := 1007) K hX hb (dOf ck_mL_law rfl rfl) (ix_in hn 1 (by decide)) ?_
  refine aw_callV (i := 1008) (as := [.inl _]) (q := 176) K (dOf ck_mL_law rfl rfl) al_OneBreathLaw_201 rfl rfl ⟨wd_1696, wd_1697⟩ rfl (Nat.le_of_ble_eq_true rfl) ⟨Nat.le_of_ble_eq_true rfl, Nat.le_of_ble_eq_true rfl⟩ hr (Nat.le_refl _) (met_R_count h2) (fun bl2 => ?_)
  refine aw_icmp_eq (i := 1009) K (dOf ck_mL_law rfl rfl) (t := 1012) (aJl (aJ_of (by decide +kernel))) (fun _ => ?_) (fun z => absurd rfl z)
  have k9 := kk (bl1 ++ bl2)
  rw [← List.append_assoc] at k9
  exact k9
