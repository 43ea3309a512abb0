/-! ROWS for constructors: arrays of arrays, a store of a reference, a nest mate's constructor -/
/-- the world with n + 1 more cells, all numbers 0 -/
def aNewR (mm : aM) (a n : Nat) : aM := fun q => if a ≤ q ∧ q < a + n then (fun _ => 0) else mm q
theorem cW_apps {cA : FieldType → ClassId} {al bl : List Nat} {sh th : List aE} {m m' : aM} (hw : ∀ (k : Nat) (e : aE), sh[k]? = some e → ∀ r ∈ aRefs e, aRin sh.length r) (hl : al.length = sh.length) (ho : ∀ k, k < sh.length → m' k = m k) : cW cA (al ++ bl) (sh ++ th) m' = cW cA al sh m ++ th.mapIdx (fun k e => (bl.getD k 0, cE cA (al ++ bl) (m' (sh.length + k)) e)) := by
  apply List.ext_getElem?
  intro k
  by_cases hk : k < sh.length
  · rw [List.getElem?_append_left (by rw [cW_len]; exact hk), cW_get (List.getElem?_eq_getElem hk), cW_get (e := sh[k]) (by rw [List.getElem?_append_left hk]; exact List.getElem?_eq_getElem hk), getD_app (by omega), ho k hk, cE_app (fun r hr => by rw [hl]; exact hw k _ (List.getElem?_eq_getElem hk) r hr)]
  · rw [List.getElem?_append_right (by rw [cW_len]; omega), cW_len, List.getElem?_mapIdx]
    unfold cW
    rw [List.getElem?_mapIdx, List.getElem?_append_right (by omega)]
    have e1 : sh.length + (k - sh.length) = k := by omega
    rw [e1]
    have e2 : (al ++ bl).getD k 0 = bl.getD (k - sh.length) 0 := by
      rw [List.getD_eq_getElem?_getD, List.getD_eq_getElem?_getD, List.getElem?_append_right (by omega), hl]
    rw [e2]
theorem aWf_apps {sh th : List aE} {mm : aM} (h : aWf sh mm) (hx : ∀ x ∈ th, aTyOk x ∧ ∀ r ∈ aRefs x, aRin (sh.length + th.length) r) : aWf (sh ++ th) (aNewR mm sh.length th.length) := by
  intro k e hk
  rw [List.length_append]
  unfold aNewR
  by_cases h1 : k < sh.length
  · rw [List.getElem?_append_left h1] at hk
    obtain ⟨g1, g2, g3⟩ := h k e hk
    rw [if_neg (by omega)]
    exact ⟨g1, g2, fun r hr => (g3 r hr).mono (by omega)⟩
  · rw [List.getElem?_append_right (by omega)] at hk
    have h2 : k - sh.length < th.length := (List.getElem?_eq_some_iff.mp hk).1
    rw [if_pos (by omega)]
    exact ⟨aEin_0 e, hx e (List.mem_of_getElem? hk)⟩
section AWX
variable {p : Program} {l : Launch} {e : Env} {R : Room} {s : State} {m : MethodId} {args : Array Value} {below : List Frame} {meth : Method} {c : Code} {Q : State → Prop} {D : va_G} {cA : FieldType → ClassId} {ad adV : Nat → Nat} {z0 : Nat} {M : aMI} {al : List Nat} {i : Nat} {lv : List (Nat × aV)} {st : List aV} {sh : List aE} {mm : aM} {nc ns : Nat}
theorem aw_nm {sh' : List aE} {mm' : aM} (h1 : sh = sh') (h2 : mm = mm') (k : AW p l e R s m args below meth c Q D cA ad z0 M al i lv st sh' mm' nc ns) : AW p l e R s m args below meth c Q D cA ad z0 M al i lv st sh mm nc ns := by subst h1; subst h2; exact k
theorem aw_lvn {lv' : List (Nat × aV)} (h1 : lv = lv') (k : AW p l e R s m args below meth c Q D cA ad z0 M al i lv' st sh mm nc ns) : AW p l e R s m args below meth c Q D cA ad z0 M al i lv st sh mm nc ns := by subst h1; exact k
theorem aw_mna (K : aK p s m args meth c M D cA ad adV z0) {idx n k : Nat} {ty : FieldType} {row : aE} (hd : aD M i (.multianewarray idx 2) 4) (hlink : Cond.classLink M.1.cls idx ("[" ++ (FieldType.array ty).toString) ∈ aTbl) (hty : (ty = .byte ∧ row = .inl (.byte, k)) ∨ (ty = .long ∧ row = .inr (.inl k))) (hin : Cond.arrayClass ty ∈ aTbl) (hn : n ≤ 60000) (hk : k ≤ 60000) (hc : nc + (1 + n) ≤ R.cells) (hs : ns + (n + n * k) ≤ R.slots)
    (kk : ∀ bl, AW p l e R s m args below meth c Q D cA ad z0 M (al ++ bl) (i + 1) lv (.inr (.inr (.inl (some sh.length))) :: st) (sh ++ (.inr (.inr (.inl (.array ty, (List.range n).map (fun j => some (sh.length + 1 + j))))) :: List.replicate n row)) (aNewR mm sh.length (1 + n)) (nc + 1 + n) (ns + n + n * k)) : AW p l e R s m args below meth c Q D cA ad z0 M al i lv (.inl (k : Int) :: .inl (n : Int) :: st) sh mm nc ns := by
  intro H locs ls hW h hlv hl
  have hki : in32 (k : Int) := in_1 h
  have hni : in32 (n : Int) := in_1 (in_t h)
  have hov : va_AOA ty s := by
    rcases hty with ⟨rfl, -⟩ | ⟨rfl, -⟩
    · exact K.2.2.2.2.2.2.2.2.2.2.2.2.2.1
    · exact K.2.2.2.2.2.2.2.2.2.2.2.2.2.2.1
  have hmem : ty ∈ aTL := by rcases hty with ⟨rfl, -⟩ | ⟨rfl, -⟩ <;> decide
  have hmem2 : FieldType.array ty ∈ aTL := by rcases hty with ⟨rfl, -⟩ | ⟨rfl, -⟩ <;> decide
  obtain ⟨t0, ht0⟩ := aTys_at cA hmem
  have hcy : s.vm.findClass (FieldType.array ty).toString = some (cA ty) := by
    have h9 := va_RA_name (K.2.2.2.2.2.2.2.2.1.2 t0 _ ht0).2
    rcases hty with ⟨rfl, -⟩ | ⟨rfl, -⟩ <;> exact h9
  have ng : ∀ z : Int, in32 z → 0 ≤ z → ¬ Int32.ofInt z < 0 := fun z hz h0 => by
    rw [show (0 : Int32) = Int32.ofInt 0 from rfl, ofI_lt hz in32_0]
    omega
  obtain ⟨z, hz, hzr⟩ : ∃ z : vp_A, (∀ c : ClassId, Jvm.Free.Multi.innerC c k (defaultValue ty) = vp_cell c z) ∧ ∀ (al : List Nat), (.inl (cA ty, z) : va_E) = cE cA al (fun _ => 0) row := by
    rcases hty with ⟨rfl, rfl⟩ | ⟨rfl, rfl⟩
    · exact ⟨(k, .inl (fun _ => 0)), fun c => arrV_new c k (.int 0), fun al => rfl⟩
    · exact ⟨(k, .inr (.inl (fun _ => 0))), fun c => arrV_new c k (.long 0), fun al => rfl⟩
  have hX0 : cW cA al sh mm ++ va_pl [] (fun _ => Sum.inl (0, z)) = cW cA al sh mm := List.append_nil _
  refine va_mna (X := cW cA al sh mm) (L := []) (f := fun _ => Sum.inl (0, z)) (ty := ty) (cy := cA ty) (z := z) (N' := n) (K' := k) K.1 K.2.1 K.2.2.2.1 (K.2.2.2.2.1 _ hlink) hov (K.2.2.2.2.1 _ hin) hcy K.2.2.2.2.2.2.2.2.1 (by rw [hX0]; exact hW.1) (by rw [hX0]; exact hW.2.1) hW.2.2.1 (fun q hq => Nat.le_trans K.2.2.2.2.2.2.2.2.2.1 hq) (ng _ hni (by omega)) (ng _ hki (by omega)) (by rw [ofI_clamp hni]; omega) (by rw [ofI_clamp hki]; omega) (by omega) (by rcases hty with ⟨rfl, -⟩ | ⟨rfl, -⟩ <;> simp [componentBytes] <;> omega) (by omega) (by rcases hty with ⟨rfl, -⟩ | ⟨rfl, -⟩ <;> decide +kernel) (by rcases hty with ⟨rfl, -⟩ | ⟨rfl, -⟩ <;> decide +kernel) hc hs hz hd.1 (fun q r x H1 hri _ hK2 hP hD hS => ?_)
  have hx := aTys_id K.2.2.2.2.2.2.2.2.1 hmem2 hK2
  subst hx
  have hal : al.length = sh.length := hW.2.2.2.1
  have e1 : (cW cA al sh mm ++ [(q, .inl (cA (.array ty), n, .inr (.inr (.inr (.inr (fun i => if i < n then some (r i) else none))))))]) ++ va_pl ([] ++ (List.range n).map r) (vr_up (fun _ => Sum.inl (0, z)) ((List.range n).map r) (.inl (cA ty, z))) = cW cA (al ++ (q :: (List.range n).map r)) (sh ++ (.inr (.inr (.inl (.array ty, (List.range n).map (fun j => some (sh.length + 1 + j))))) :: List.replicate n row)) (aNewR mm sh.length (1 + n)) := by
    rw [cW_apps (m := mm) (fun k e9 hk => (hW.2.2.2.2 k e9 hk).2.2) hal (fun k hk => by unfold aNewR; rw [if_neg (by omega)]), List.append_assoc]
    congr 1
    apply List.ext_getElem?
    intro j
    rw [List.getElem?_mapIdx]
    cases j with
    | zero =>
      show some _ = some _
      refine congrArg some (Prod.ext rfl ?_)
      show Sum.inl (_, _, _) = Sum.inl (_, _, _)
      rw [List.length_map, List.length_range]
      congr 4
      refine congrArg Sum.inr (congrArg Sum.inr (congrArg Sum.inr (funext fun j => ?_)))
      by_cases hj : j < n
      · rw [if_pos hj]
        have : ((List.range n).map (fun j => some (sh.length + 1 + j))).getD j none = some (sh.length + 1 + j) := by
          rw [List.getD_eq_getElem?_getD, List.getElem?_map, List.getElem?_range hj]
          rfl
        rw [this]
        show some (r j) = some ((al ++ (q :: (List.range n).map r)).getD (sh.length + 1 + j) 0)
        rw [List.getD_eq_getElem?_getD, List.getElem?_append_right (by omega), show sh.length + 1 + j - al.length = j + 1 by omega, List.getElem?_cons_succ, List.getElem?_map, List.getElem?_range hj]
        rfl
      · rw [if_neg hj]
        have : ((List.range n).map (fun j => some (sh.length + 1 + j))).getD j none = none := by
          rw [List.getD_eq_getElem?_getD, List.getElem?_eq_none (by simp; omega)]
          rfl
        rw [this]
        rfl
    | succ j =>
      rw [List.nil_append]
      show (va_pl ((List.range n).map r) _)[j]? = Option.map _ ((List.replicate n row)[j]?)
      unfold va_pl
      rw [List.getElem?_map, List.getElem?_map, List.getElem?_replicate]
      by_cases hj : j < n
      · rw [List.getElem?_range hj, if_pos hj]
        show some (r j, _) = some (((q :: (List.range n).map r).getD (j + 1) 0), _)
        have e3 : (q :: (List.range n).map r).getD (j + 1) 0 = r j := by
          rw [List.getD_eq_getElem?_getD, List.getElem?_cons_succ, List.getElem?_map, List.getElem?_range hj]
          rfl
        rw [e3, vr_up_in (List.mem_map.mpr ⟨j, List.mem_range.mpr hj, rfl⟩), hzr (al ++ (q :: (List.range n).map r))]
        have e4 : aNewR mm sh.length (1 + n) (sh.length + (j + 1)) = fun _ => 0 := by
          unfold aNewR
          rw [if_pos (by omega)]
        rw [e4]
      · rw [if_neg hj, List.getElem?_eq_none (by simp; omega)]
        rfl
  rw [e1] at hP hD
  have hsl : (sh ++ (.inr (.inr (.inl (.array ty, (List.range n).map (fun j => some (sh.length + 1 + j))))) :: List.replicate n row) : List aE).length = sh.length + (1 + n) := by simp; omega
  have hwf : aWf (sh ++ (.inr (.inr (.inl (.array ty, (List.range n).map (fun j => some (sh.length + 1 + j))))) :: List.replicate n row)) (aNewR mm sh.length (1 + n)) := by
    have hlen : (.inr (.inr (.inl (.array ty, (List.range n).map (fun j => some (sh.length + 1 + j))))) :: List.replicate n row : List aE).length = 1 + n := by simp; omega
    have h9 := aWf_apps (th := .inr (.inr (.inl (.array ty, (List.range n).map (fun j => some (sh.length + 1 + j))))) :: List.replicate n row) hW.2.2.2.2 (fun x hx => by
      rw [hlen]
      rcases List.mem_cons.mp hx with h8 | h8
      · subst h8
        refine ⟨⟨hmem2, rfl⟩, fun r9 hr9 k9 hk9 => ?_⟩
        obtain ⟨j, hj, rfl⟩ := List.mem_map.mp hr9
        cases hk9
        have := List.mem_range.mp hj
        omega
      · have h7 := List.eq_of_mem_replicate h8
        subst h7
        rcases hty with ⟨-, rfl⟩ | ⟨-, rfl⟩
        · exact ⟨Or.inr (Or.inl rfl), fun r hr => by cases hr⟩
        · exact ⟨trivial, fun r hr => by cases hr⟩)
    rw [hlen] at h9
    exact h9
  have h2 := kk (q :: (List.range n).map r) H1 locs ls ⟨hP, hD, hS, by rw [hsl, List.length_append, hal]; simp; omega, hwf⟩ (by rw [hsl]; exact in_c (fun k9 hk9 => by cases hk9; omega) (fun v hv => (in_t (in_t h) v hv).mono (by omega))) (by rw [hsl]; exact fun q hq => (hlv q hq).mono (by omega)) (by rw [cL_app (by rw [hal]; exact hlv)]; exact hl)
  rw [hd.2] at h2
  have e2 : cS (al ++ (q :: (List.range n).map r)) ad (.inr (.inr (.inl (some sh.length))) :: st) = .ref q :: cS al ad st := by
    show cV _ ad _ :: cS (al ++ (q :: (List.range n).map r)) ad st = _
    rw [cS_app (by rw [hal]; exact in_t (in_t h))]
    congr 1
    show Value.ref ((al ++ (q :: (List.range n).map r)).getD sh.length 0) = Value.ref q
    rw [List.getD_eq_getElem?_getD, List.getElem?_append_right (by omega), hal, Nat.sub_self]
    rfl
  rw [e2] at h2
  exact h2
theorem aw_aast (K : aK p s m args meth c M D cA ad adV z0) {q x ci : Nat} {rc : vw_C} {fs : List (Option (Option Nat))} {rs : List (Option Nat)} {j : Int} (hd : aD M i .aastore 1) (he : sh[q]? = some (.inr (.inr (.inl (.object rc.1, rs))))) (hx : sh[x]? = some (.inr (.inr (.inr (ci, fs))))) (hc : vwCl[ci]? = some rc) (hj : 0 ≤ j ∧ j < rs.length)
    (kk : AW p l e R s m args below meth c Q D cA ad z0 M al (i + 1) lv st (sh.set q (.inr (.inr (.inl (.object rc.1, rs.set j.toNat (some x)))))) mm nc ns) : AW p l e R s m args below meth c Q D cA ad z0 M al i lv (.inr (.inr (.inl (some x))) :: .inl j :: .inr (.inr (.inl (some q))) :: st) sh mm nc ns := by
  intro H locs ls hW h hlv hl
  have hw := hW.2.2.2.2 q _ he
  have hji : in32 j := in_1 (in_t h)
  have hql : q < sh.length := (List.getElem?_eq_some_iff.mp he).1
  obtain ⟨t0, ht0⟩ := aTys_at cA hw.2.1.1
  refine va_astq (D := D) (r := rc) K.1 K.2.1 K.2.2.2.2.2.2.2.2.1 hW.1 hW.2.1 hW.2.2.1 q t0 x ci (cW_get he) ht0 (cW_get hx) hc (ofI_vp hji hj) hd.1 (fun H1 locs1 hP hD hS => ?_)
  have e1 : (cW cA al sh mm).set q (al.getD q 0, .inl (cA (.object rc.1), rs.length, .inr (.inr (.inr (.inr (va_up (fun j => (rs.getD j none).map (fun k => al.getD k 0)) (Int32.ofInt j).toNatClampNeg (some (al.getD x 0)))))))) = cW cA al (sh.set q (.inr (.inr (.inl (.object rc.1, rs.set j.toNat (some x)))))) mm := by
    refine cW_setS hql ?_
    show Sum.inl (_, _, _) = Sum.inl (_, _, _)
    rw [List.length_set, ofI_clamp hji]
    congr 4
    refine congrArg Sum.inr (congrArg Sum.inr (congrArg Sum.inr (funext fun k => ?_)))
    unfold va_up
    by_cases hk : k = j.toNat
    · subst hk
      rw [if_pos rfl]
      have : (rs.set j.toNat (some x)).getD j.toNat none = some x := by
        rw [List.getD_eq_getElem?_getD, List.getElem?_set, if_pos rfl, if_pos (by omega)]
        rfl
      rw [this]
      rfl
    · rw [if_neg hk]
      have : (rs.set j.toNat (some x)).getD k none = rs.getD k none := by
        rw [List.getD_eq_getElem?_getD, List.getD_eq_getElem?_getD, List.getElem?_set, if_neg (Ne.symm hk)]
      rw [this]
  rw [e1] at hP hD
  have hwf : aWf (sh.set q (.inr (.inr (.inl (.object rc.1, rs.set j.toNat (some x)))))) mm := by
    intro k' e' hk'
    rw [List.length_set]
    rw [List.getElem?_set] at hk'
    by_cases hq : q = k'
    · subst hq
      rw [if_pos rfl, if_pos hql] at hk'
      cases hk'
      refine ⟨trivial, hw.2.1, fun r9 hr9 => ?_⟩
      rcases List.mem_or_eq_of_mem_set hr9 with h9 | h9
      · exact hw.2.2 _ h9
      · rw [h9]
        exact in_1 h
    · rw [if_neg hq] at hk'
      exact hW.2.2.2.2 k' e' hk'
  have k2 := kk H1 locs1 ls ⟨hP, hD, hS, by rw [List.length_set]; exact hW.2.2.2.1, hwf⟩ (by rw [List.length_set]; exact in_t (in_t (in_t h))) (by rw [List.length_set]; exact hlv) hl
  rw [hd.2] at k2
  exact k2
theorem aw_callIN (K : aK p s m args meth c M D cA ad adV z0) {idx n q : Nat} {N : aMI} {host : String} {fr lo mc ms : Nat} {as : List aV} {sh' : List aE} {mm' : aM} (hd : aD M i (.invokespecial idx) 3) (hk1 : Cond.code N.1 N.2.1 N.2.2.1 N.2.2.2.1 ∈ aTbl) (hk2 : Cond.methodLinkNest M.1.cls idx N.1 host ∈ lw_tbl) (hk3 : Cond.initialized N.1.cls ∈ aTbl) (hk4 : N.1.cls ≠ "java/lang/invoke/MethodHandle" ∧ N.1.cls ≠ "java/lang/invoke/VarHandle" ∧ (parseMethodDescriptor N.1.desc).map (fun d => d.parameters.length) = some n) (hr0 : N.2.2.2.1 = none) (hnm : N.1.name = "<init>") (hv : Cond.instanceMethod N.1 ∈ aTbl) (hn : as.length = n) (hrest : (st.map aCat).sum ≤ 8) (hR : fr + 1 ≤ R.frames ∧ 8 + (N.2.2.1 + 11) + lo ≤ R.locals) (hf : nc + mc ≤ R.cells ∧ ns + ms ≤ R.slots) (hsh : sh.length ≤ sh'.length)
    (hM : aMet l D cA ad adV z0 N fr lo mc ms (.inr (.inr (.inl (some q))) :: as) sh mm none sh' mm')
    (kk : ∀ bl, AW p l e R s m args below meth c Q D cA ad z0 M (al ++ bl) (i + 1) lv st sh' mm' (nc + mc) (ns + ms)) : AW p l e R s m args below meth c Q D cA ad z0 M al i lv (as.reverse ++ .inr (.inr (.inl (some q))) :: st) sh mm nc ns := by
  intro H locs ls hW h hlv hl
  have hq : aVin sh.length (.inr (.inr (.inl (some q)))) := h _ (List.mem_append_right _ List.mem_cons_self)
  have has : ∀ v ∈ (.inr (.inr (.inl (some q))) :: as : List aV), aVin sh.length v := in_c hq (fun v hv => h v (List.mem_append_left _ (List.mem_reverse.mpr hv)))
  have hst : ∀ v ∈ st, aVin sh.length v := fun v hv => h v (List.mem_append_right _ (List.mem_cons_of_mem _ hv))
  have cb := va_cnB (R := R) (rm := { frames := fr, cells := mc, slots := ms, locals := lo }) (mc := mc) (ms := ms) (ret := none) (bytes := N.2.1) (maxL := N.2.2.1) (ws := aWs N) (ws' := aTbl) (own := M.1.cls) (index := idx) (host := host) n K.2.2.2.2.1 (aWs_good hk1) (by unfold aWs; rw [hr0]) rfl rfl (K.2.2.2.2.2.2.2.2.2.2.1 _ hk2 rfl) (K.2.2.2.2.1 _ hk3) hk4 hR
  refine aw_callG (r := none) (a := (Value.ref (al.getD q 0) :: cS al ad as).toArray) (st0 := cS al ad (as.reverse ++ .inr (.inr (.inl (some q))) :: st)) hW hst hlv hl hd.2 hsh ?_ kk
  refine va_runIN (b := al.getD q 0) (As := cS al ad as) (rest := cS al ad st) ⟨K.1, K.2.1, K.2.2.1, K.2.2.2.1, K.2.2.2.2.1⟩ (hM al has) ⟨cb, hnm, K.2.2.2.2.1 _ hv⟩ ⟨aPre_blind, fun U hU hw => ⟨rfl, aPre_of (as := as) K hW hU hw⟩⟩ rfl (by unfold cS; rw [List.length_map]; exact hn) hl.1 ?_ (lv_room (by rw [aCat_sum]; exact hrest)) hd.1 hf
  show cS al ad (as.reverse ++ .inr (.inr (.inl (some q))) :: st) = (cS al ad as).reverse ++ (Value.ref (al.getD q 0)) :: cS al ad st
  unfold cS
  rw [List.map_append, List.map_reverse]
  rfl
end AWX
