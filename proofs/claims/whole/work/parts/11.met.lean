/-! METHODS OF THE ABSTRACT MACHINE: entry, returns, constants, switches, copies -/
def aArgs : Nat → List aV → List (Nat × aV)
  | _, [] => []
  | k, v :: r => (k, v) :: aArgs (if aCat v = 2 then k + 2 else k + 1) r
theorem cL_args (al : List Nat) (ad : Nat → Nat) : ∀ (as : List aV) (k : Nat), cL al ad (aArgs k as) = lv_args k (cS al ad as)
  | [], _ => rfl
  | v :: r, k => by
    show (k, cV al ad v) :: cL al ad (aArgs _ r) = (k, cV al ad v) :: lv_args _ (cS al ad r)
    rw [cL_args al ad r, cV_cat]
def aWords (as : List aV) : Nat := (as.map aCat).sum
theorem lg_sl_len (al : List Nat) (ad : Nat → Nat) (as : List aV) : (lg_sl (cS al ad as)).length = aWords as := by
  induction as with
  | nil => rfl
  | cons v r ih =>
    show (lg_sl (cV al ad v :: cS al ad r)).length = aCat v + aWords r
    rw [← ih]
    rcases v with x | x | x | x
    · simp [lg_sl, cV, Value.category, aCat]; omega
    · simp [lg_sl, cV, Value.category, aCat]; omega
    · cases x <;> simp [lg_sl, cV, cR, Value.category, aCat] <;> omega
    · simp [lg_sl, cV, Value.category, aCat]; omega
theorem aMet_of {l : Launch} {D : va_G} {cA : FieldType → ClassId} {ad adV : Nat → Nat} {z0 : Nat} {N : aMI} {fr lo mc ms : Nat} {as : List aV} {sh : List aE} {mm : aM} {r : Option aV} {sh' : List aE} {mm' : aM} (hpl : plainName N.1.cls = true) (hpc : aPc N 0 = 0) (hw : aWords as ≤ N.2.2.1)
    (body : ∀ (p : Program) (e : Env) (s : State) (m : MethodId) (args : Array Value) (below : List Frame) (meth : Method) (c : Code) (al : List Nat), aK p s m args meth c N D cA ad adV z0 → AW p l e { frames := fr, cells := mc, slots := ms, locals := lo } s m args below meth c (MQ below (aQc D cA ad z0 al r sh' mm') args s mc ms (aA z0)) D cA ad z0 N al 0 (aArgs 0 as) [] sh mm 0 0) : aMet l D cA ad adV z0 N fr lo mc ms as sh mm r sh' mm' := by
  intro al has
  refine Met.ofW (cc := N.2.1) (maxL := N.2.2.1) (ret := N.2.2.2.1) hpl rfl ?_
  intro p e s m args below meth c s₁ B hml hv
  obtain ⟨rfl, hP, hK, hD, hz, hal, hwf, hx⟩ := hv
  have hts := atoms_spec (ws := aWs N) B.pre
  have K : aK p s m (cS al ad as).toArray meth c N D cA ad adV z0 := ⟨B.exec, B.bytes, hml, findClass_of_methodNamed B.named, fun w hw => hts w (List.mem_cons_of_mem _ hw), B.notSynchronized, B.returns, (name_of_methodNamed B.named B.method).1, hK, hz, hx⟩
  have hl := lv_entry (cS al ad as) (n := N.2.2.1) (by rw [lg_sl_len]; exact hw)
  rw [← cL_args] at hl
  rw [lg_entry_eq]
  have k2 := body p e s m (cS al ad as).toArray below meth c al K s.heap [] _ ⟨hP, hD, va_S.rf, hal, hwf⟩ (fun v hv => by cases hv) ?_ hl
  · rw [hpc] at k2
    exact k2
  · have aux : ∀ (as : List aV) (k : Nat), (∀ v ∈ as, aVin sh.length v) → ∀ q ∈ aArgs k as, aVin sh.length q.2 := by
      intro as
      induction as with
      | nil => intro k _ q hq; cases hq
      | cons v r ih =>
        intro k h q hq
        rcases List.mem_cons.mp hq with e | e
        · rw [e]; exact in_1 h
        · exact ih _ (in_t h) q e
    exact aux as 0 has
/-- what an int that is returned may be -/
def aRet (ty : FieldType) (v : Int) : Prop := ty = .int ∨ (ty = .boolean ∧ (v = 0 ∨ v = 1)) ∨ (ty = .byte ∧ v = 0) ∨ (ty = .char ∧ 0 ≤ v ∧ v < 65536)
theorem aRet_ok {ty : FieldType} {v : Int} (h : aRet ty v) : narrow ty (.int (Int32.ofInt v)) = .int (Int32.ofInt v) := by
  rcases h with rfl | ⟨rfl, rfl | rfl⟩ | ⟨rfl, rfl⟩ | ⟨rfl, h1, h2⟩
  · rfl
  · decide +kernel
  · decide +kernel
  · decide +kernel
  · obtain ⟨n, rfl⟩ := Int.eq_ofNat_of_zero_le h1
    have e : Int32.ofInt (n : Int) = nI n := Int32.ofInt_eq_ofNat
    rw [e]
    exact (pk_charN (by omega)).1
section AWM
variable {p : Program} {l : Launch} {e : Env} {R : Room} {s : State} {m : MethodId} {args : Array Value} {below : List Frame} {meth : Method} {c : Code} {Q : State → Prop} {D : va_G} {cA : FieldType → ClassId} {ad adV : Nat → Nat} {z0 : Nat} {M : aMI} {al bl : List Nat} {i : Nat} {lv : List (Nat × aV)} {st : List aV} {sh : List aE} {mm : aM} {nc ns mc ms : Nat}
theorem aw_iret (K : aK p s m args meth c M D cA ad adV z0) {v : Int} {ty : FieldType} (hd : decode M.2.1 (aPc M i) = .ok (.ireturn, 1)) (hr : M.2.2.2.1 = some ty) (hv : aRet ty v) (hc : nc ≤ mc) (hs : ns ≤ ms) : AW p l e R s m args below meth c (MQ below (aQc D cA ad z0 al (some (.inl v)) sh mm) args s mc ms (aA z0)) D cA ad z0 M (al ++ bl) i lv [.inl v] sh mm nc ns := by
  intro H locs ls hW h hlv hl
  refine W.widen hc hs ?_
  refine W.zret (v := Int32.ofInt v) (ty := ty) K.1 K.2.1 (K.2.2.2.2.2.2.1.trans hr) (aRet_ok hv) (fun t ht hw => ⟨⟨bl, rfl, by rw [ht]; exact hW.1, hW.2.1, hW.2.2.2.1, hW.2.2.2.2, fun x hx => by cases hx; exact in_1 h⟩, hW.2.2.1.F ht⟩) hW.2.2.1.2.2 hd K.2.2.2.2.2.1
theorem aw_lret (K : aK p s m args meth c M D cA ad adV z0) {v : Int} (hd : decode M.2.1 (aPc M i) = .ok (.lreturn, 1)) (hr : M.2.2.2.1 = some .long) (hc : nc ≤ mc) (hs : ns ≤ ms) : AW p l e R s m args below meth c (MQ below (aQc D cA ad z0 al (some (.inr (.inl v))) sh mm) args s mc ms (aA z0)) D cA ad z0 M (al ++ bl) i lv [.inr (.inl v)] sh mm nc ns := by
  intro H locs ls hW h hlv hl
  refine W.widen hc hs ?_
  refine W.lret (v := Int64.ofInt v) K.1 K.2.1 (K.2.2.2.2.2.2.1.trans hr) (fun t ht hw => ⟨⟨bl, rfl, by rw [ht]; exact hW.1, hW.2.1, hW.2.2.2.1, hW.2.2.2.2, fun x hx => by cases hx; exact in_1 h⟩, hW.2.2.1.F ht⟩) hW.2.2.1.2.2 hd K.2.2.2.2.2.1
theorem aw_vret (K : aK p s m args meth c M D cA ad adV z0) (hd : decode M.2.1 (aPc M i) = .ok (.return_, 1)) (hr : M.2.2.2.1 = none) (hc : nc ≤ mc) (hs : ns ≤ ms) : AW p l e R s m args below meth c (MQ below (aQc D cA ad z0 al none sh mm) args s mc ms (aA z0)) D cA ad z0 M (al ++ bl) i lv [] sh mm nc ns := by
  intro H locs ls hW h hlv hl
  refine W.widen hc hs ?_
  refine W.vret K.1 K.2.1 (K.2.2.2.2.2.2.1.trans hr) (fun t ht hw => ⟨⟨bl, rfl, by rw [ht]; exact hW.1, hW.2.1, hW.2.2.2.1, hW.2.2.2.2, fun x hx => by cases hx⟩, hW.2.2.1.F ht⟩) hW.2.2.1.2.2 hd K.2.2.2.2.2.1
theorem aw_ldc (K : aK p s m args meth c M D cA ad adV z0) {idx : Nat} {n : Int} (hd : aD M i (.ldc idx) 2) (hc : Cond.constant M.1.cls idx (Int32.ofInt n) ∈ aTbl) (hn : in32 n) (k : AW p l e R s m args below meth c Q D cA ad z0 M al (i + 1) lv (.inl n :: st) sh mm nc ns) : AW p l e R s m args below meth c Q D cA ad z0 M al i lv st sh mm nc ns := by
  refine aw_go (st' := .inl n :: st) (fun h _ => in_c hn h) (fun h H locs ls hl k => ?_) k
  rw [hd.2] at k
  exact lv_ldc K.1 K.2.1 K.2.2.2.1 (K.2.2.2.2.1 _ hc) hd.1 k
theorem aw_ldcw (K : aK p s m args meth c M D cA ad adV z0) {idx : Nat} {n : Int} (hd : aD M i (.ldc_w idx) 3) (hc : Cond.constant M.1.cls idx (Int32.ofInt n) ∈ aTbl) (hn : in32 n) (k : AW p l e R s m args below meth c Q D cA ad z0 M al (i + 1) lv (.inl n :: st) sh mm nc ns) : AW p l e R s m args below meth c Q D cA ad z0 M al i lv st sh mm nc ns := by
  refine aw_go (st' := .inl n :: st) (fun h _ => in_c hn h) (fun h H locs ls hl k => ?_) k
  rw [hd.2] at k
  exact lv_ldcw K.1 K.2.1 K.2.2.2.1 (K.2.2.2.2.1 _ hc) hd.1 k
theorem aw_ldc2 (K : aK p s m args meth c M D cA ad adV z0) {idx : Nat} {n : Int} (hd : aD M i (.ldc2_w idx) 3) (hc : Cond.constantLong M.1.cls idx (Int64.ofInt n) ∈ aTbl) (hn : in64 n) (k : AW p l e R s m args below meth c Q D cA ad z0 M al (i + 1) lv (.inr (.inl n) :: st) sh mm nc ns) : AW p l e R s m args below meth c Q D cA ad z0 M al i lv st sh mm nc ns := by
  refine aw_go (st' := .inr (.inl n) :: st) (fun h _ => in_c hn h) (fun h H locs ls hl k => ?_) k
  rw [hd.2] at k
  exact lv_ldc2 K.1 K.2.1 K.2.2.2.1 (K.2.2.2.2.1 _ hc) hd.1 k
theorem aw_ldcs (K : aK p s m args meth c M D cA ad adV z0) {idx n : Nat} {tx : String} (hd : aD M i (.ldc idx) 2) (hc : aStr[n]? = some (M.1.cls, idx, tx)) (k : AW p l e R s m args below meth c Q D cA ad z0 M al (i + 1) lv (.inr (.inr (.inr n)) :: st) sh mm nc ns) : AW p l e R s m args below meth c Q D cA ad z0 M al i lv st sh mm nc ns := by
  refine aw_go (st' := .inr (.inr (.inr n)) :: st) (fun h _ => in_c trivial h) (fun h H locs ls hl k => ?_) k
  rw [hd.2] at k
  exact va_ldcS K.1 K.2.1 K.2.2.2.1 (K.2.2.2.2.2.2.2.2.2.2.2.2.2.2.2.2.2.2.2 n _ hc) hd.1 k
theorem aw_objInit (K : aK p s m args meth c M D cA ad adV z0) {idx q : Nat} (hd : aD M i (.invokespecial idx) 3) (hk : Cond.methodLink M.1.cls idx Lib.objectInit ∈ aTbl ∧ Cond.instanceMethod Lib.objectInit ∈ aTbl ∧ Cond.code Lib.objectInit ⟨#[0xb1]⟩ 1 none ∈ aTbl) (hrest : (st.map aCat).sum ≤ 8) (hR : 1 ≤ R.frames ∧ 20 ≤ R.locals) (k : AW p l e R s m args below meth c Q D cA ad z0 M al (i + 1) lv st sh mm nc ns) : AW p l e R s m args below meth c Q D cA ad z0 M al i lv (.inr (.inr (.inl (some q))) :: st) sh mm nc ns := by
  refine aw_go (st' := st) (fun h _ => in_t h) (fun h H locs ls hl k => ?_) k
  rw [hd.2] at k
  refine W.objInit (g := F0 m (aPc M i) ls (cS al ad (.inr (.inr (.inl (some q))) :: st))) (a := al.getD q 0) (rest := cS al ad st) K.1 K.2.1 K.2.2.2.1 (K.2.2.2.2.1 _ hk.1) (K.2.2.2.2.1 _ hk.2.1) (K.2.2.2.2.1 _ hk.2.2) rfl (by rw [K.2.2.1]; exact hl.1) rfl hd.1 hR.1 ?_ k
  have h1 := lv_room (m := m) (pc := aPc M i) (ls := ls) (rest := cS al ad (.inr (.inr (.inl (some q))) :: st)) (st := cS al ad st) (by rw [aCat_sum]; exact hrest)
  omega
theorem aw_tableIn (K : aK p s m args meth c M D cA ad adV z0) {dflt lo hi : Int} {offs : Array Int} {len t : Nat} {a off : Int} (hd : decode M.2.1 (aPc M i) = .ok (.tableswitch dflt lo hi offs, len)) (h1 : ¬ a < lo) (h2 : ¬ hi < a) (ho : offs[(a - lo).toNat]? = some off) (hj : aJ M i t off) (k : AW p l e R s m args below meth c Q D cA ad z0 M al t lv st sh mm nc ns) : AW p l e R s m args below meth c Q D cA ad z0 M al i lv (.inl a :: st) sh mm nc ns := by
  intro H locs ls hW h hlv hl
  have ha : (Int32.ofInt a).toInt = a := ofI_in (in_1 h)
  exact lv_tableIn K.1 K.2.1 hd (by rw [ha]; exact h1) (by rw [ha]; exact h2) (by rw [ha]; exact ho) hj (k H locs ls hW (in_t h) hlv hl)
theorem aw_tableOut (K : aK p s m args meth c M D cA ad adV z0) {dflt lo hi : Int} {offs : Array Int} {len t : Nat} {a : Int} (hd : decode M.2.1 (aPc M i) = .ok (.tableswitch dflt lo hi offs, len)) (h1 : a < lo ∨ hi < a) (hj : aJ M i t dflt) (k : AW p l e R s m args below meth c Q D cA ad z0 M al t lv st sh mm nc ns) : AW p l e R s m args below meth c Q D cA ad z0 M al i lv (.inl a :: st) sh mm nc ns := by
  intro H locs ls hW h hlv hl
  have ha : (Int32.ofInt a).toInt = a := ofI_in (in_1 h)
  exact lv_tableOut K.1 K.2.1 hd (by rw [ha]; exact h1) hj (k H locs ls hW (in_t h) hlv hl)
theorem aw_lookup (K : aK p s m args meth c M D cA ad adV z0) {dflt : Int} {ps : Array (Int × Int)} {len t : Nat} {a off : Int} (hd : decode M.2.1 (aPc M i) = .ok (.lookupswitch dflt ps, len)) (hp : (ps.toList.zip (ps.toList.drop 1)).all (fun (a, next) => a.1 < next.1) = true) (ho : Op.lookupswitch.offset ps.toList dflt a = off) (hj : aJ M i t off) (k : AW p l e R s m args below meth c Q D cA ad z0 M al t lv st sh mm nc ns) : AW p l e R s m args below meth c Q D cA ad z0 M al i lv (.inl a :: st) sh mm nc ns := by
  intro H locs ls hW h hlv hl
  have ha : (Int32.ofInt a).toInt = a := ofI_in (in_1 h)
  exact lv_lookup K.1 K.2.1 hd hp (by rw [ha]; exact ho) hj (k H locs ls hW (in_t h) hlv hl)
/-- what a copy leaves in its row -/
def aCpy (f g : Nat → Int) (sp dp n : Nat) : Nat → Int := fun k => if dp ≤ k ∧ k < dp + n then f (sp + (k - dp)) else g k
theorem cpy_of (f g : Nat → Int) (sp dp n : Nat) : va_cpy (fun j => Int32.ofInt (f j)) (fun j => Int32.ofInt (g j)) sp dp n = fun j => Int32.ofInt (aCpy f g sp dp n j) := by
  funext j
  unfold va_cpy aCpy
  split <;> rfl
theorem aWf_row {sh : List aE} {mm : aM} {q : Nat} {f : Nat → Int} {e : aE} (h : aWf sh mm) (he : sh[q]? = some e) (hf : aEin f e) : aWf sh (aupr mm q f) := by
  intro k e' hk
  by_cases hq : k = q
  · subst hq
    cases he.symm.trans hk
    obtain ⟨h1, h2⟩ := h k e hk
    rw [aupr_self]
    exact ⟨hf, h2⟩
  · rw [aupr_ne mm f hq]
    exact h k e' hk
theorem aw_copy (K : aK p s m args meth c M D cA ad adV z0) {idx q q2 n0 n1 : Nat} {ty : FieldType} {sp dp n : Int} (hd : aD M i (.invokestatic idx) 3) (hk : Cond.methodLink M.1.cls idx arraycopyName ∈ aTbl ∧ Cond.native arraycopyName ∈ aTbl ∧ Cond.static arraycopyName ∈ aTbl ∧ Cond.initialized "java/lang/System" ∈ aTbl) (he : sh[q]? = some (.inl (ty, n0))) (he2 : sh[q2]? = some (.inl (ty, n1))) (h1 : 0 ≤ sp) (h2 : 0 ≤ dp) (h3 : 0 ≤ n) (h4 : sp + n ≤ n0) (h5 : dp + n ≤ n1) (hrest : (st.map aCat).sum ≤ 8) (hR : 1 ≤ R.frames ∧ 26 ≤ R.locals)
    (kk : AW p l e R s m args below meth c Q D cA ad z0 M al (i + 1) lv st sh (aupr mm q2 (aCpy (mm q) (mm q2) sp.toNat dp.toNat n.toNat)) nc ns) : AW p l e R s m args below meth c Q D cA ad z0 M al i lv (.inl n :: .inl dp :: .inr (.inr (.inl (some q2))) :: .inl sp :: .inr (.inr (.inl (some q))) :: st) sh mm nc ns := by
  intro H locs ls hW h hlv hl
  have hn : in32 n := in_1 h
  have hdp : in32 dp := in_1 (in_t h)
  have hsp : in32 sp := in_1 (in_t (in_t (in_t h)))
  have hw := hW.2.2.2.2 q _ he
  have hw2 := hW.2.2.2.2 q2 _ he2
  have hty : ty ∈ aTL := by rcases hw.2.1 with h | h | h | h <;> subst h <;> decide
  have hpr : refKind ty = false := by rcases hw.2.1 with h | h | h | h <;> subst h <;> rfl
  obtain ⟨t0, ht0⟩ := aTys_at cA hty
  have hfit : ∀ x : Int, aNin ty x → fits ty (.int (Int32.ofInt x)) = true := by
    intro x hx
    rcases hw.2.1 with h | h | h | h <;> subst h
    · rfl
    · have e1 : Int32.ofInt x = (Int32.ofInt x).toInt8.toInt32 := by rw [ofI_b (aNin_in hx), w8_id hx]
      rw [e1]
      exact pk_fb _
    · rcases hx with rfl | rfl <;> decide +kernel
    · have e1 : Int32.ofInt x = (Int32.ofInt x).toInt16.toInt32 := by rw [ofI_s (aNin_in hx), w16_id hx]
      rw [e1]
      exact pk_fs _
  have nl : ∀ z : Int, in32 z → 0 ≤ z → ¬ Int32.ofInt z < 0 := fun z hz h0 => by
    rw [show (0 : Int32) = Int32.ofInt 0 from rfl, ofI_lt hz in32_0]
    omega
  refine va_copyi (D := D) (ty := ty) K.1 K.2.1 (by rw [K.2.2.1]; exact hl.1.symm) K.2.2.2.1 (K.2.2.2.2.1 _ hk.1) (K.2.2.2.2.1 _ hk.2.1) (K.2.2.2.2.1 _ hk.2.2.1) (K.2.2.2.2.1 _ hk.2.2.2) K.2.2.2.2.2.2.2.2.1 hW.1 hW.2.1 hW.2.2.1 q q2 t0 t0 (cW_get he) (cW_get he2) ht0 ht0 hpr (nl sp hsp h1) (nl dp hdp h2) (nl n hn h3) (by rw [ofI_clamp hsp, ofI_clamp hn]; omega) (by rw [ofI_clamp hdp, ofI_clamp hn]; omega) (fun j hj => hfit _ (hw.1 _)) hR.1 ?_ hd.1 (fun H1 locs1 hP hD hS => ?_)
  · have h9 := aCat_sum al ad st
    unfold cS at h9
    rw [h9]
    show _ + (7 + 11) ≤ _
    omega
  · have e1 : (cW cA al sh mm).set q2 (al.getD q2 0, .inl (cA ty, n1, .inl (va_cpy (fun j => Int32.ofInt (mm q j)) (fun j => Int32.ofInt (mm q2 j)) (Int32.ofInt sp).toNatClampNeg (Int32.ofInt dp).toNatClampNeg (Int32.ofInt n).toNatClampNeg))) = cW cA al sh (aupr mm q2 (aCpy (mm q) (mm q2) sp.toNat dp.toNat n.toNat)) := by
      refine cW_set he2 ?_ (fun k' h' => aupr_ne mm _ h')
      rw [ofI_clamp hsp, ofI_clamp hdp, ofI_clamp hn, cpy_of, aupr_self]
      rfl
    rw [e1] at hP hD
    have k2 := kk H1 locs1 ls ⟨hP, hD, hS, hW.2.2.2.1, aWf_row hW.2.2.2.2 he2 (fun j => by
      show aNin ty (aCpy _ _ _ _ _ j)
      unfold aCpy
      split
      · exact hw.1 _
      · exact hw2.1 _)⟩ (in_t (in_t (in_t (in_t (in_t h))))) hlv hl
    rw [hd.2] at k2
    exact k2
end AWM
