/-! STRINGS: length() and charAt() of the String constants -/
section AWT
variable {p : Program} {l : Launch} {e : Env} {R : Room} {s : State} {m : MethodId} {args : Array Value} {below : List Frame} {meth : Method} {c : Code} {Q : State → Prop} {D : va_G} {cA : FieldType → ClassId} {ad adV : Nat → Nat} {z0 : Nat} {M : aMI} {al : List Nat} {i : Nat} {lv : List (Nat × aV)} {st : List aV} {sh : List aE} {mm : aM} {nc ns : Nat}
theorem aK_str (K : aK p s m args meth c M D cA ad adV z0) : vk_S 10 aLen aByt ad adV (aA z0) s s.heap := K.2.2.2.2.2.2.2.2.2.2.2.2.2.2.2.2.2.2.1
theorem aK_adV (K : aK p s m args meth c M D cA ad adV z0) (k : Nat) : adV k = ad (k + 10) := K.2.2.2.2.2.2.2.2.2.2.2.2.2.2.2.2.2.1 k
theorem aw_gets (K : aK p s m args meth c M D cA ad adV z0) {idx : Nat} (hd : aD M i (.getstatic idx) 3) (hlink : Cond.fieldLink M.1.cls idx "java/lang/String" "COMPACT_STRINGS" "Z" ∈ aTbl)
    (kk : AW p l e R s m args below meth c Q D cA ad z0 M al (i + 1) lv (.inl 1 :: st) sh mm nc ns) : AW p l e R s m args below meth c Q D cA ad z0 M al i lv st sh mm nc ns := by
  intro H locs ls hW h hlv hl
  have k2 := kk H locs ls hW (in_c (by change in32 1; unfold in32; omega) h) hlv hl
  rw [hd.2] at k2
  exact va_gets K.1 K.2.1 K.2.2.2.2.2.2.2.2.2.2.2.2.2.2.2.1 hW.2.2.1 K.2.2.2.1 (K.2.2.2.2.1 _ hlink) (fun _ h9 => h9) hd.1 k2
theorem aw_sgetv (K : aK p s m args meth c M D cA ad adV z0) {idx k : Nat} (hk : k < 10) (hd : aD M i (.getfield idx) 3) (hlink : Cond.fieldLink M.1.cls idx "java/lang/String" "value" "[B" ∈ aTbl)
    (kk : AW p l e R s m args below meth c Q D cA ad z0 M al (i + 1) lv (.inr (.inr (.inr (k + 10))) :: st) sh mm nc ns) : AW p l e R s m args below meth c Q D cA ad z0 M al i lv (.inr (.inr (.inr k)) :: st) sh mm nc ns := by
  intro H locs ls hW h hlv hl
  have k2 := kk H locs ls hW (in_c trivial (in_t h)) hlv hl
  rw [hd.2] at k2
  refine vk_getf K.1 K.2.1 ((aK_str K).1 k hk).2.2.1 hW.2.2.1 K.2.2.2.1 (K.2.2.2.2.1 _ hlink) (fun _ h9 => h9) hd.1 ?_
  rw [aK_adV K]
  exact k2
theorem aw_sgetc (K : aK p s m args meth c M D cA ad adV z0) {idx k : Nat} (hk : k < 10) (hd : aD M i (.getfield idx) 3) (hlink : Cond.fieldLink M.1.cls idx "java/lang/String" "coder" "B" ∈ aTbl)
    (kk : AW p l e R s m args below meth c Q D cA ad z0 M al (i + 1) lv (.inl 0 :: st) sh mm nc ns) : AW p l e R s m args below meth c Q D cA ad z0 M al i lv (.inr (.inr (.inr k)) :: st) sh mm nc ns := by
  intro H locs ls hW h hlv hl
  have k2 := kk H locs ls hW (in_c in32_0 (in_t h)) hlv hl
  rw [hd.2] at k2
  exact vk_getf K.1 K.2.1 ((aK_str K).1 k hk).2.1 hW.2.2.1 K.2.2.2.1 (K.2.2.2.2.1 _ hlink) (fun _ h9 => h9) hd.1 k2
/-- the formatter: null or a reference, nobody looks at it -/
def aFmt (v : aV) : Prop := v = .inr (.inr (.inl none)) ∨ v = .inr (.inr (.inr 20))
theorem aw_getsq (K : aK p s m args meth c M D cA ad adV z0) {idx : Nat} (hd : aD M i (.getstatic idx) 3) (hlink : Cond.fieldLink M.1.cls idx "jdk/internal/util/Preconditions" "SIOOBE_FORMATTER" "Ljava/util/function/BiFunction;" ∈ aTbl)
    (kk : ∀ v, aFmt v → AW p l e R s m args below meth c Q D cA ad z0 M al (i + 1) lv (v :: st) sh mm nc ns) : AW p l e R s m args below meth c Q D cA ad z0 M al i lv st sh mm nc ns := by
  intro H locs ls hW h hlv hl
  rcases K.2.2.2.2.2.2.2.2.2.2.2.2.2.2.2.2.1 with hz | hz
  · have k2 := kk _ (Or.inl rfl) H locs ls hW (in_c (fun k hk => by cases hk) h) hlv hl
    rw [hd.2] at k2
    exact va_gets K.1 K.2.1 hz hW.2.2.1 K.2.2.2.1 (K.2.2.2.2.1 _ hlink) (fun _ h9 => h9) hd.1 k2
  · have k2 := kk _ (Or.inr rfl) H locs ls hW (in_c trivial h) hlv hl
    rw [hd.2] at k2
    exact va_gets K.1 K.2.1 hz hW.2.2.1 K.2.2.2.1 (K.2.2.2.2.1 _ hlink) (fun _ h9 => h9) hd.1 k2
theorem aLen_s : ∀ k, k < 10 → aLen.getD k 0 < 60 := by decide +kernel
theorem aw_salen (K : aK p s m args meth c M D cA ad adV z0) {k : Nat} (hk : k < 10) (hd : aD M i .arraylength 1)
    (kk : AW p l e R s m args below meth c Q D cA ad z0 M al (i + 1) lv (.inl ((aLen.getD k 0 : Nat) : Int) :: st) sh mm nc ns) : AW p l e R s m args below meth c Q D cA ad z0 M al i lv (.inr (.inr (.inr (k + 10))) :: st) sh mm nc ns := by
  intro H locs ls hW h hlv hl
  have h60 := aLen_s k hk
  have k2 := kk H locs ls hW (in_c (by change in32 _; unfold in32; omega) (in_t h)) hlv hl
  rw [hd.2] at k2
  have hT := ((aK_str K).1 k hk).2.2.2
  rw [aK_adV K] at hT
  have en : Int32.ofNat (aLen.getD k 0) = Int32.ofInt ((aLen.getD k 0 : Nat) : Int) := (Int32.ofInt_eq_ofNat).symm
  exact va_tlen K.1 K.2.1 hT hW.2.2.1 en hd.1 k2
/-- the k-th constant's j-th byte -/
def aChr (k j : Nat) : Int := ((aByt.getD k []).getD j 0).toInt
theorem aw_sbald (K : aK p s m args meth c M D cA ad adV z0) {k : Nat} {j : Int} (hk : k < 10) (hd : aD M i .baload 1) (hj : 0 ≤ j ∧ j < (aLen.getD k 0 : Nat))
    (kk : AW p l e R s m args below meth c Q D cA ad z0 M al (i + 1) lv (.inl (aChr k j.toNat) :: st) sh mm nc ns) : AW p l e R s m args below meth c Q D cA ad z0 M al i lv (.inl j :: .inr (.inr (.inr (k + 10))) :: st) sh mm nc ns := by
  intro H locs ls hW h hlv hl
  have k2 := kk H locs ls hW (in_c (toInt_in32 _) (in_t (in_t h))) hlv hl
  rw [hd.2] at k2
  have hji : in32 j := in_1 h
  have hT := ((aK_str K).1 k hk).2.2.2
  rw [aK_adV K] at hT
  refine va_tb K.1 K.2.1 hT hW.2.2.1 (ofI_vp hji hj) (v := .int (Int32.ofInt (aChr k j.toNat))) ?_ hd.1 k2
  rw [ofI_clamp hji]
  unfold aChr
  rw [Int32.ofInt_toInt]
theorem aw_callT (K : aK p s m args meth c M D cA ad adV z0) {idx n k : Nat} {N : aMI} {fr lo : Nat} {as : List aV} {r : Option aV} (hk10 : k < 10) (hd : aD M i (.invokevirtual idx) 3) (hk : aLk M.1.cls idx N n) (hv : Cond.instanceMethod N.1 ∈ aTbl ∧ Cond.selects "java/lang/String" N.1 N.1 ∈ aTbl) (hn : as.length = n) (hrest : (st.map aCat).sum ≤ 8) (hR : fr + 1 ≤ R.frames ∧ 8 + (N.2.2.1 + 11) + lo ≤ R.locals) (hf : nc ≤ R.cells ∧ ns ≤ R.slots)
    (hM : aMet l D cA ad adV z0 N fr lo 0 0 (.inr (.inr (.inr k)) :: as) sh mm r sh mm)
    (kk : ∀ bl, AW p l e R s m args below meth c Q D cA ad z0 M (al ++ bl) (i + 1) lv (r.toList ++ st) sh mm nc ns) : AW p l e R s m args below meth c Q D cA ad z0 M al i lv (as.reverse ++ .inr (.inr (.inr k)) :: st) sh mm nc ns := by
  intro H locs ls hW h hlv hl
  have hq : aVin sh.length (.inr (.inr (.inr k))) := h _ (List.mem_append_right _ List.mem_cons_self)
  have has : ∀ v ∈ (.inr (.inr (.inr k)) :: as : List aV), aVin sh.length v := in_c hq (fun v hv => h v (List.mem_append_left _ (List.mem_reverse.mpr hv)))
  have hst : ∀ v ∈ st, aVin sh.length v := fun v hv => h v (List.mem_append_right _ (List.mem_cons_of_mem _ hv))
  have cb := callB_of (R := R) (rm := { frames := fr, cells := 0, slots := 0, locals := lo }) (mc := 0) (ms := 0) n K.2.2.2.2.1 (aWs_good hk.1) rfl rfl rfl (K.2.2.2.2.1 _ hk.2.2.1) (K.2.2.2.2.1 _ hk.2.1) hk.2.2.2 hR
  refine aw_callG (mc := 0) (ms := 0) (a := (Value.ref (ad k) :: cS al ad as).toArray) (st0 := cS al ad (as.reverse ++ .inr (.inr (.inr k)) :: st)) hW hst hlv hl hd.2 (Nat.le_refl _) ?_ kk
  refine va_runV (C := "java/lang/String") (b := ad k) (As := cS al ad as) (rest := cS al ad st) ⟨K.1, K.2.1, K.2.2.1, K.2.2.2.1, K.2.2.2.2.1⟩ (hM al has) ⟨cb, K.2.2.2.2.1 _ hv.1, K.2.2.2.2.1 _ hv.2⟩ ⟨aPre_blind, vk_recv (aK_str K) hk10 hW.2.2.1, fun U hU hw => ⟨rfl, aPre_of (as := as) K hW hU hw⟩⟩ rfl (by unfold cS; rw [List.length_map]; exact hn) hl.1 ?_ (lv_room (by rw [aCat_sum]; exact hrest)) hd.1 ⟨hf.1, hf.2⟩
  show cS al ad (as.reverse ++ .inr (.inr (.inr k)) :: st) = (cS al ad as).reverse ++ (Value.ref (ad k)) :: cS al ad st
  unfold cS
  rw [List.map_append, List.map_reverse]
  rfl
/-- the law's own script: a reference that is no cell of the world -/
theorem aw_scrld (K : aK p s m args meth c M D cA ad adV z0) {k L : Nat} {xs : Nat → Int32} (hX : va_X (ad k) L xs s s.heap) (hb : ad k < z0) {j : Int} (hd : aD M i .iaload 1) (hj : 0 ≤ j ∧ j < L)
    (kk : AW p l e R s m args below meth c Q D cA ad z0 M al (i + 1) lv (.inl (xs j.toNat).toInt :: st) sh mm nc ns) : AW p l e R s m args below meth c Q D cA ad z0 M al i lv (.inl j :: .inr (.inr (.inr k)) :: st) sh mm nc ns := by
  intro H locs ls hW h hlv hl
  have k2 := kk H locs ls hW (in_c (toInt_in32 _) (in_t (in_t h))) hlv hl
  rw [hd.2] at k2
  have hji : in32 j := in_1 h
  have e1 : cS al ad (.inl (xs j.toNat).toInt :: st) = .int (xs j.toNat) :: cS al ad st := by
    show Value.int _ :: _ = _
    rw [Int32.ofInt_toInt]
    rfl
  rw [e1] at k2
  refine va_sld K.1 K.2.1 hX (Nat.lt_of_lt_of_le hb K.2.2.2.2.2.2.2.2.2.1) (fun h9 => absurd h9 (Nat.not_le.mpr hb)) hW.2.2.1 (ofI_vp hji hj) hd.1 ?_
  rw [ofI_clamp hji]
  exact k2
theorem aw_scrlen (K : aK p s m args meth c M D cA ad adV z0) {k L : Nat} {xs : Nat → Int32} (hX : va_X (ad k) L xs s s.heap) (hb : ad k < z0) (hL : L < 2147483648) (hd : aD M i .arraylength 1)
    (kk : AW p l e R s m args below meth c Q D cA ad z0 M al (i + 1) lv (.inl (L : Int) :: st) sh mm nc ns) : AW p l e R s m args below meth c Q D cA ad z0 M al i lv (.inr (.inr (.inr k)) :: st) sh mm nc ns := by
  intro H locs ls hW h hlv hl
  have k2 := kk H locs ls hW (in_c (by change in32 (L : Int); unfold in32; omega) (in_t h)) hlv hl
  rw [hd.2] at k2
  refine va_slen K.1 K.2.1 hX (Nat.lt_of_lt_of_le hb K.2.2.2.2.2.2.2.2.2.1) (fun h9 => absurd h9 (Nat.not_le.mpr hb)) hW.2.2.1 hd.1 ?_
  have en : Int32.ofNat L = Int32.ofInt (L : Int) := (Int32.ofInt_eq_ofNat).symm
  rw [en]
  exact k2
end AWT
