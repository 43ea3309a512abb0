/-! ROWS OVER THE WORLD: arrays -/
theorem nar_b {v : Int} (h : in32 v) : vp_nar .byte (Int32.ofInt v) = Int32.ofInt (w8 v) := by
  rw [vp_nar_byte, ofI_b h]
theorem nar_s {v : Int} (h : in32 v) : vp_nar .short (Int32.ofInt v) = Int32.ofInt (w16 v) := by
  rw [vp_nar_short, ofI_s h]
theorem nar_z {v : Int} (h : v = 0 ∨ v = 1) : vp_nar .boolean (Int32.ofInt v) = Int32.ofInt v := by
  rcases h with rfl | rfl <;> decide +kernel
theorem upd_of (f : Nat → Int) (k : Nat) (v : Int) : upd (fun j => Int32.ofInt (f j)) k (Int32.ofInt v) = fun j => Int32.ofInt (if j = k then v else f j) := by
  funext j
  unfold upd
  split <;> rfl
theorem updL_of (f : Nat → Int) (k : Nat) (v : Int) : vp_updL (fun j => Int64.ofInt (f j)) k (Int64.ofInt v) = fun j => Int64.ofInt (if j = k then v else f j) := by
  funext j
  unfold vp_updL
  split <;> rfl
section AWA
variable {p : Program} {l : Launch} {e : Env} {R : Room} {s : State} {m : MethodId} {args : Array Value} {below : List Frame} {meth : Method} {c : Code} {Q : State → Prop} {D : va_G} {cA : FieldType → ClassId} {ad adV : Nat → Nat} {z0 : Nat} {M : aMI} {al : List Nat} {i : Nat} {lv : List (Nat × aV)} {st : List aV} {sh : List aE} {mm : aM} {nc ns : Nat}
theorem aw_iald (K : aK p s m args meth c M D cA ad adV z0) {q n : Nat} {j : Int} (hd : aD M i .iaload 1) (he : sh[q]? = some (.inl (.int, n))) (hj : 0 ≤ j ∧ j < n)
    (kk : AW p l e R s m args below meth c Q D cA ad z0 M al (i + 1) lv (.inl (mm q j.toNat) :: st) sh mm nc ns) : AW p l e R s m args below meth c Q D cA ad z0 M al i lv (.inl j :: .inr (.inr (.inl (some q))) :: st) sh mm nc ns := by
  intro H locs ls hW h hlv hl
  have hw := hW.2.2.2.2 q _ he
  have k2 := kk H locs ls hW (in_c (aNin_in (hw.1 j.toNat)) (in_t (in_t h))) hlv hl
  rw [hd.2] at k2
  have hji : in32 j := in_1 h
  refine va_iald (D := D) K.1 K.2.1 K.2.2.2.2.2.2.2.2.1 hW.1 q 0 (cW_get he) rfl (ofI_vp hji hj) hd.1 ?_
  rw [ofI_clamp hji]
  exact k2
theorem aw_bald (K : aK p s m args meth c M D cA ad adV z0) {q n : Nat} {j : Int} (hd : aD M i .baload 1) (he : sh[q]? = some (.inl (.byte, n))) (hj : 0 ≤ j ∧ j < n)
    (kk : AW p l e R s m args below meth c Q D cA ad z0 M al (i + 1) lv (.inl (mm q j.toNat) :: st) sh mm nc ns) : AW p l e R s m args below meth c Q D cA ad z0 M al i lv (.inl j :: .inr (.inr (.inl (some q))) :: st) sh mm nc ns := by
  intro H locs ls hW h hlv hl
  have hw := hW.2.2.2.2 q _ he
  have k2 := kk H locs ls hW (in_c (aNin_in (hw.1 j.toNat)) (in_t (in_t h))) hlv hl
  rw [hd.2] at k2
  have hji : in32 j := in_1 h
  refine va_bald (D := D) K.1 K.2.1 K.2.2.2.2.2.2.2.2.1 hW.1 q 1 (cW_get he) rfl (ofI_vp hji hj) hd.1 ?_
  rw [ofI_clamp hji]
  exact k2
theorem aw_zald (K : aK p s m args meth c M D cA ad adV z0) {q n : Nat} {j : Int} (hd : aD M i .baload 1) (he : sh[q]? = some (.inl (.boolean, n))) (hj : 0 ≤ j ∧ j < n)
    (kk : AW p l e R s m args below meth c Q D cA ad z0 M al (i + 1) lv (.inl (mm q j.toNat) :: st) sh mm nc ns) : AW p l e R s m args below meth c Q D cA ad z0 M al i lv (.inl j :: .inr (.inr (.inl (some q))) :: st) sh mm nc ns := by
  intro H locs ls hW h hlv hl
  have hw := hW.2.2.2.2 q _ he
  have k2 := kk H locs ls hW (in_c (aNin_in (hw.1 j.toNat)) (in_t (in_t h))) hlv hl
  rw [hd.2] at k2
  have hji : in32 j := in_1 h
  refine va_zald (D := D) K.1 K.2.1 K.2.2.2.2.2.2.2.2.1 hW.1 q 2 (cW_get he) rfl (ofI_vp hji hj) hd.1 ?_
  rw [ofI_clamp hji]
  exact k2
theorem aw_sald (K : aK p s m args meth c M D cA ad adV z0) {q n : Nat} {j : Int} (hd : aD M i .saload 1) (he : sh[q]? = some (.inl (.short, n))) (hj : 0 ≤ j ∧ j < n)
    (kk : AW p l e R s m args below meth c Q D cA ad z0 M al (i + 1) lv (.inl (mm q j.toNat) :: st) sh mm nc ns) : AW p l e R s m args below meth c Q D cA ad z0 M al i lv (.inl j :: .inr (.inr (.inl (some q))) :: st) sh mm nc ns := by
  intro H locs ls hW h hlv hl
  have hw := hW.2.2.2.2 q _ he
  have k2 := kk H locs ls hW (in_c (aNin_in (hw.1 j.toNat)) (in_t (in_t h))) hlv hl
  rw [hd.2] at k2
  have hji : in32 j := in_1 h
  refine va_sald (D := D) K.1 K.2.1 K.2.2.2.2.2.2.2.2.1 hW.1 q 3 (cW_get he) rfl (ofI_vp hji hj) hd.1 ?_
  rw [ofI_clamp hji]
  exact k2
theorem aw_lald (K : aK p s m args meth c M D cA ad adV z0) {q n : Nat} {j : Int} (hd : aD M i .laload 1) (he : sh[q]? = some (.inr (.inl n))) (hj : 0 ≤ j ∧ j < n)
    (kk : AW p l e R s m args below meth c Q D cA ad z0 M al (i + 1) lv (.inr (.inl (mm q j.toNat)) :: st) sh mm nc ns) : AW p l e R s m args below meth c Q D cA ad z0 M al i lv (.inl j :: .inr (.inr (.inl (some q))) :: st) sh mm nc ns := by
  intro H locs ls hW h hlv hl
  have hw := hW.2.2.2.2 q _ he
  have k2 := kk H locs ls hW (in_c (hw.1 j.toNat) (in_t (in_t h))) hlv hl
  rw [hd.2] at k2
  have hji : in32 j := in_1 h
  refine va_lald (D := D) K.1 K.2.1 K.2.2.2.2.2.2.2.2.1 hW.1 q 4 (cW_get he) rfl (ofI_vp hji hj) hd.1 ?_
  rw [ofI_clamp hji]
  exact k2
theorem aw_iast (K : aK p s m args meth c M D cA ad adV z0) {q n : Nat} {j v : Int} (hd : aD M i .iastore 1) (he : sh[q]? = some (.inl (.int, n))) (hj : 0 ≤ j ∧ j < n) 
    (kk : AW p l e R s m args below meth c Q D cA ad z0 M al (i + 1) lv st sh (aup mm q j.toNat v) nc ns) : AW p l e R s m args below meth c Q D cA ad z0 M al i lv (.inl v :: .inl j :: .inr (.inr (.inl (some q))) :: st) sh mm nc ns := by
  intro H locs ls hW h hlv hl
  have hji : in32 j := in_1 (in_t h)
  refine va_iast (D := D) K.1 K.2.1 K.2.2.2.2.2.2.2.2.1 hW.1 hW.2.1 hW.2.2.1 q 0 (cW_get he) rfl (ofI_vp hji hj) hd.1 (fun H1 locs1 hP hD hS => ?_)
  have e1 : (cW cA al sh mm).set q (al.getD q 0, .inl (cA .int, n, .inl (upd (fun j => Int32.ofInt (mm q j)) (Int32.ofInt j).toNatClampNeg (Int32.ofInt v)))) = cW cA al sh (aup mm q j.toNat v) := by
    refine cW_set he ?_ (fun k' h' => aup_off mm j.toNat v h')
    rw [ofI_clamp hji, upd_of, aup_row]
    rfl
  rw [e1] at hP hD
  have k2 := kk H1 locs1 ls ⟨hP, hD, hS, hW.2.2.2.1, aWf_up hW.2.2.2.2 he (aEin_arr (in_1 h : in32 v))⟩ (in_t (in_t (in_t h))) hlv hl
  rw [hd.2] at k2
  exact k2
theorem aw_bast (K : aK p s m args meth c M D cA ad adV z0) {q n : Nat} {j v : Int} (hd : aD M i .bastore 1) (he : sh[q]? = some (.inl (.byte, n))) (hj : 0 ≤ j ∧ j < n) 
    (kk : AW p l e R s m args below meth c Q D cA ad z0 M al (i + 1) lv st sh (aup mm q j.toNat (w8 v)) nc ns) : AW p l e R s m args below meth c Q D cA ad z0 M al i lv (.inl v :: .inl j :: .inr (.inr (.inl (some q))) :: st) sh mm nc ns := by
  intro H locs ls hW h hlv hl
  have hji : in32 j := in_1 (in_t h)
  refine va_bast (D := D) K.1 K.2.1 K.2.2.2.2.2.2.2.2.1 hW.1 hW.2.1 hW.2.2.1 q 1 (cW_get he) rfl (ofI_vp hji hj) hd.1 (fun H1 locs1 hP hD hS => ?_)
  have e1 : (cW cA al sh mm).set q (al.getD q 0, .inl (cA .byte, n, .inl (upd (fun j => Int32.ofInt (mm q j)) (Int32.ofInt j).toNatClampNeg (vp_nar .byte (Int32.ofInt v))))) = cW cA al sh (aup mm q j.toNat (w8 v)) := by
    refine cW_set he ?_ (fun k' h' => aup_off mm j.toNat (w8 v) h')
    rw [nar_b (in_1 h)]
    rw [ofI_clamp hji, upd_of, aup_row]
    rfl
  rw [e1] at hP hD
  have k2 := kk H1 locs1 ls ⟨hP, hD, hS, hW.2.2.2.1, aWf_up hW.2.2.2.2 he (aEin_arr (w8_in v : aNin .byte (w8 v)))⟩ (in_t (in_t (in_t h))) hlv hl
  rw [hd.2] at k2
  exact k2
theorem aw_zast (K : aK p s m args meth c M D cA ad adV z0) {q n : Nat} {j v : Int} (hd : aD M i .bastore 1) (he : sh[q]? = some (.inl (.boolean, n))) (hj : 0 ≤ j ∧ j < n) (hv : v = 0 ∨ v = 1)
    (kk : AW p l e R s m args below meth c Q D cA ad z0 M al (i + 1) lv st sh (aup mm q j.toNat v) nc ns) : AW p l e R s m args below meth c Q D cA ad z0 M al i lv (.inl v :: .inl j :: .inr (.inr (.inl (some q))) :: st) sh mm nc ns := by
  intro H locs ls hW h hlv hl
  have hji : in32 j := in_1 (in_t h)
  refine va_zast (D := D) K.1 K.2.1 K.2.2.2.2.2.2.2.2.1 hW.1 hW.2.1 hW.2.2.1 q 2 (cW_get he) rfl (ofI_vp hji hj) hd.1 (fun H1 locs1 hP hD hS => ?_)
  have e1 : (cW cA al sh mm).set q (al.getD q 0, .inl (cA .boolean, n, .inl (upd (fun j => Int32.ofInt (mm q j)) (Int32.ofInt j).toNatClampNeg (vp_nar .boolean (Int32.ofInt v))))) = cW cA al sh (aup mm q j.toNat v) := by
    refine cW_set he ?_ (fun k' h' => aup_off mm j.toNat v h')
    rw [nar_z hv]
    rw [ofI_clamp hji, upd_of, aup_row]
    rfl
  rw [e1] at hP hD
  have k2 := kk H1 locs1 ls ⟨hP, hD, hS, hW.2.2.2.1, aWf_up hW.2.2.2.2 he (aEin_arr (hv : aNin .boolean v))⟩ (in_t (in_t (in_t h))) hlv hl
  rw [hd.2] at k2
  exact k2
theorem aw_sast (K : aK p s m args meth c M D cA ad adV z0) {q n : Nat} {j v : Int} (hd : aD M i .sastore 1) (he : sh[q]? = some (.inl (.short, n))) (hj : 0 ≤ j ∧ j < n) 
    (kk : AW p l e R s m args below meth c Q D cA ad z0 M al (i + 1) lv st sh (aup mm q j.toNat (w16 v)) nc ns) : AW p l e R s m args below meth c Q D cA ad z0 M al i lv (.inl v :: .inl j :: .inr (.inr (.inl (some q))) :: st) sh mm nc ns := by
  intro H locs ls hW h hlv hl
  have hji : in32 j := in_1 (in_t h)
  refine va_sast (D := D) K.1 K.2.1 K.2.2.2.2.2.2.2.2.1 hW.1 hW.2.1 hW.2.2.1 q 3 (cW_get he) rfl (ofI_vp hji hj) hd.1 (fun H1 locs1 hP hD hS => ?_)
  have e1 : (cW cA al sh mm).set q (al.getD q 0, .inl (cA .short, n, .inl (upd (fun j => Int32.ofInt (mm q j)) (Int32.ofInt j).toNatClampNeg (vp_nar .short (Int32.ofInt v))))) = cW cA al sh (aup mm q j.toNat (w16 v)) := by
    refine cW_set he ?_ (fun k' h' => aup_off mm j.toNat (w16 v) h')
    rw [nar_s (in_1 h)]
    rw [ofI_clamp hji, upd_of, aup_row]
    rfl
  rw [e1] at hP hD
  have k2 := kk H1 locs1 ls ⟨hP, hD, hS, hW.2.2.2.1, aWf_up hW.2.2.2.2 he (aEin_arr (w16_in v : aNin .short (w16 v)))⟩ (in_t (in_t (in_t h))) hlv hl
  rw [hd.2] at k2
  exact k2
theorem aw_last (K : aK p s m args meth c M D cA ad adV z0) {q n : Nat} {j v : Int} (hd : aD M i .lastore 1) (he : sh[q]? = some (.inr (.inl n))) (hj : 0 ≤ j ∧ j < n)
    (kk : AW p l e R s m args below meth c Q D cA ad z0 M al (i + 1) lv st sh (aup mm q j.toNat v) nc ns) : AW p l e R s m args below meth c Q D cA ad z0 M al i lv (.inr (.inl v) :: .inl j :: .inr (.inr (.inl (some q))) :: st) sh mm nc ns := by
  intro H locs ls hW h hlv hl
  have hji : in32 j := in_1 (in_t h)
  refine va_last (D := D) K.1 K.2.1 K.2.2.2.2.2.2.2.2.1 hW.1 hW.2.1 hW.2.2.1 q 4 (cW_get he) rfl (ofI_vp hji hj) hd.1 (fun H1 locs1 hP hD hS => ?_)
  have e1 : (cW cA al sh mm).set q (al.getD q 0, .inl (cA .long, n, .inr (.inl (vp_updL (fun j => Int64.ofInt (mm q j)) (Int32.ofInt j).toNatClampNeg (Int64.ofInt v))))) = cW cA al sh (aup mm q j.toNat v) := by
    refine cW_set he ?_ (fun k' h' => aup_off mm j.toNat v h')
    rw [ofI_clamp hji, updL_of, aup_row]
    rfl
  rw [e1] at hP hD
  have k2 := kk H1 locs1 ls ⟨hP, hD, hS, hW.2.2.2.1, aWf_up hW.2.2.2.2 he (aEin_long (in_1 h))⟩ (in_t (in_t (in_t h))) hlv hl
  rw [hd.2] at k2
  exact k2
/-- an array's length -/
def aLn : aE → Option Nat
  | .inl (_, n) => some n
  | .inr (.inl n) => some n
  | .inr (.inr (.inl (_, rs))) => some rs.length
  | .inr (.inr (.inr _)) => none
theorem aw_alen (K : aK p s m args meth c M D cA ad adV z0) {q n : Nat} {x : aE} (hd : aD M i .arraylength 1) (he : sh[q]? = some x) (hn : aLn x = some n) (hs : (n : Int) < 2147483648)
    (kk : AW p l e R s m args below meth c Q D cA ad z0 M al (i + 1) lv (.inl (n : Int) :: st) sh mm nc ns) : AW p l e R s m args below meth c Q D cA ad z0 M al i lv (.inr (.inr (.inl (some q))) :: st) sh mm nc ns := by
  intro H locs ls hW h hlv hl
  have hw := hW.2.2.2.2 q _ he
  have k2 := kk H locs ls hW (in_c (by change in32 (n : Int); unfold in32; omega) (in_t h)) hlv hl
  rw [hd.2] at k2
  have en : Int32.ofNat n = Int32.ofInt (n : Int) := (Int32.ofInt_eq_ofNat).symm
  rcases x with ⟨ty, n'⟩ | n' | ⟨ty, rs⟩ | o
  · cases hn
    have hty : ty ∈ aTL := by rcases hw.2.1 with h | h | h | h <;> subst h <;> decide
    obtain ⟨t0, ht0⟩ := aTys_at cA hty
    exact va_alen (D := D) K.1 K.2.1 K.2.2.2.2.2.2.2.2.1 hW.1 q t0 (cW_get he) ht0 en hd.1 k2
  · cases hn
    exact va_alen (D := D) K.1 K.2.1 K.2.2.2.2.2.2.2.2.1 hW.1 q 4 (cW_get he) rfl en hd.1 k2
  · cases hn
    obtain ⟨t0, ht0⟩ := aTys_at cA hw.2.1.1
    exact va_alen (D := D) K.1 K.2.1 K.2.2.2.2.2.2.2.2.1 hW.1 q t0 (cW_get he) ht0 en hd.1 k2
  · cases hn
theorem aw_aald (K : aK p s m args meth c M D cA ad adV z0) {q : Nat} {ty : FieldType} {rs : List (Option Nat)} {j : Int} {x : Nat} (hd : aD M i .aaload 1) (he : sh[q]? = some (.inr (.inr (.inl (ty, rs))))) (hj : 0 ≤ j ∧ j < rs.length) (hx : rs[j.toNat]? = some (some x))
    (kk : AW p l e R s m args below meth c Q D cA ad z0 M al (i + 1) lv (.inr (.inr (.inl (some x))) :: st) sh mm nc ns) : AW p l e R s m args below meth c Q D cA ad z0 M al i lv (.inl j :: .inr (.inr (.inl (some q))) :: st) sh mm nc ns := by
  intro H locs ls hW h hlv hl
  have hw := hW.2.2.2.2 q _ he
  have k2 := kk H locs ls hW (in_c (hw.2.2 _ (List.mem_of_getElem? hx)) (in_t (in_t h))) hlv hl
  rw [hd.2] at k2
  have hji : in32 j := in_1 h
  obtain ⟨t0, ht0⟩ := aTys_at cA hw.2.1.1
  have hin : vp_in (Int32.ofInt j) rs.length := ofI_vp hji hj
  have hlt : (Int32.ofInt j).toNatClampNeg < rs.length := Nat.not_le.mp fun q => hin (Or.inr q)
  have hP := hW.1 q _ (cW_get he)
  refine W.aald (v := .ref (al.getD x 0)) (ty := ty) K.1 K.2.1 hP ((K.2.2.2.2.2.2.2.2.1.2 t0 _ ht0).1 rs.length (fun j => va_rf ((rs.getD j none).map (fun k => al.getD k 0)))) hw.2.1.2 (fun q => by cases q) (by show ¬ (Int32.ofInt j < 0 ∨ (arrV _ _ _).slots.size ≤ _); rw [arrV_size]; exact hin) ?_ rfl rfl hd.1 k2
  show (arrV _ _ _).slots[_]? = _
  have e2 : rs.getD j.toNat none = some x := by rw [List.getD_eq_getElem?_getD, hx]; rfl
  rw [arrV_read _ _ hlt, ofI_clamp hji]
  show some (va_rf ((rs.getD j.toNat none).map (fun k => al.getD k 0))) = _
  rw [e2]
  rfl
end AWA
