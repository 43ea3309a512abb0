/-! CONTRACTS OF THE ABSTRACT MACHINE, calls, returns -/
/-- a method's words: its own code, then all that stays -/
def aWs (M : aMI) : List Cond := Cond.code M.1 M.2.1 M.2.2.1 M.2.2.2.1 :: aTbl
def aPre (D : va_G) (cA : FieldType → ClassId) (ad adV : Nat → Nat) (z0 : Nat) (al : List Nat) (sh : List aE) (mm : aM) (U : State) : Prop :=
  va_P D vwCl (cW cA al sh mm) U.heap ∧ va_K D vwCl (aTys cA) U ∧ va_D (aA z0) (cW cA al sh mm) ∧ z0 ≤ U.heap.size ∧ al.length = sh.length ∧ aWf sh mm ∧ aExt ad adV z0 U U.heap
def aQc (D : va_G) (cA : FieldType → ClassId) (ad : Nat → Nat) (z0 : Nat) (al : List Nat) (r : Option aV) (sh' : List aE) (mm' : aM) : Array Value → State → Outcome → State → Prop := fun _ st o t =>
  (∃ bl, o = .returned (r.map (cV (al ++ bl) ad)) ∧ va_P D vwCl (cW cA (al ++ bl) sh' mm') t.heap ∧ va_D (aA z0) (cW cA (al ++ bl) sh' mm') ∧ (al ++ bl).length = sh'.length ∧ aWf sh' mm' ∧ ∀ v, r = some v → aVin sh'.length v) ∧ va_F (aA z0) st t
/-- the contract: with these arguments, in this world, with so much room, the method returns r and leaves that world -/
def aMet (l : Launch) (D : va_G) (cA : FieldType → ClassId) (ad adV : Nat → Nat) (z0 : Nat) (M : aMI) (fr lo mc ms : Nat) (as : List aV) (sh : List aE) (mm : aM) (r : Option aV) (sh' : List aE) (mm' : aM) : Prop :=
  ∀ al, (∀ v ∈ as, aVin sh.length v) → Met l M.1 (aWs M) { frames := fr, cells := mc, slots := ms, locals := lo } (va_Pc (cS al ad as) (aPre D cA ad adV z0 al sh mm)) (aQc D cA ad z0 al r sh' mm') mc ms (aA z0)
theorem ao_help {u U : Vm} (hvm : u.Alike U) {G : Class → Bool} (hG : ∀ x y : Class, x.kind = y.kind → G x = G y) {F : ClassId → Class → Bool} (hF : ∀ (c : ClassId) (x y : Class), x.kind = y.kind → F c x = F c y) :
    ((u.classes.findIdx? G).bind fun c => (u.classes[c]?).map (F c)) = ((U.classes.findIdx? G).bind fun c => (U.classes[c]?).map (F c)) := by
  have idx : ∀ V : Vm, V.bare.classes.findIdx? G = V.classes.findIdx? G := by
    intro V
    simp only [Vm.bare, Array.findIdx?_map]
    congr 1
    funext x
    exact hG _ _ rfl
  have hi : U.classes.findIdx? G = u.classes.findIdx? G := by
    rw [← idx U, ← idx u]
    first | rw [hvm.bare_eq] | rw [← hvm.bare_eq]
  rw [hi]
  cases h2 : u.classes.findIdx? G with
  | none => rfl
  | some c =>
    simp only [Option.bind_some]
    have hlt : c < u.classes.size := (Array.findIdx?_eq_some_iff_findIdx_eq.mp h2).1
    have h4 : u.classes[c]? = some u.classes[c] := Array.getElem?_eq_getElem hlt
    obtain ⟨k', hk', he⟩ := hvm.2.2 _ _ h4
    rw [h4, hk', Option.map_some, Option.map_some]
    congr 1
    exact hF c _ _ (by rw [he])
theorem va_AOA.moved {ty : FieldType} {u U : State} (hvm : u.vm.Alike U.vm) (h : va_AOA ty u) : va_AOA ty U := by
  unfold va_AOA Cond.before Cond.holds at h ⊢
  simp only [Cond.value] at h ⊢
  have hf : ∀ n, U.vm.findClass n = u.vm.findClass n := fun n => hvm.findClass n none
  rw [hf (FieldType.array ty).toString]
  cases h1 : u.vm.findClass (FieldType.array ty).toString with
  | none => rw [h1] at h; simp at h
  | some comp =>
    rw [h1] at h
    simp only [Option.bind_some] at h ⊢
    rw [hf]
    rw [← ao_help hvm (fun x y e => by simp only [e]) (fun c x y e => by simp only [e])]
    exact h
theorem va_AOA.same {ty : FieldType} {u U : State} (hv : U.vm = u.vm) (h : va_AOA ty u) : va_AOA ty U := by
  unfold va_AOA Cond.before Cond.holds at h ⊢
  simp only [Cond.value] at h ⊢
  rw [hv]
  exact h
theorem aExt_warm {ad adV : Nat → Nat} {z0 : Nat} {s U : State} {H : Heap} (hW : s.WarmedH U.vm) (hU : ∀ a : Nat, a < s.heap.size → ¬ aA z0 a → H[a]? = s.heap[a]?) (h : aExt ad adV z0 s s.heap) : aExt ad adV z0 U H := by
  obtain ⟨h1, h2, h3, h4, h5, hz0, hzq, had, h6, h7⟩ := h
  refine ⟨fun w hw hn => ?_, h2.moved hW.alike, h3.moved hW.alike, h4.moved hW.alike, h5.moved hW.alike, (hz0.moved hW.alike).kept hU, hzq.elim (fun z => Or.inl ((z.moved hW.alike).kept hU)) (fun z => Or.inr ((z.moved hW.alike).kept hU)), had, (h6.moved hW.alike).kept hU, fun k q hk => (h7 k q hk).warm hW⟩
  have hz := h1 w hw hn
  cases w with
  | methodLinkNest a b c d => exact va_Nw.warmM hW hz
  | _ => exact absurd hn (by simp [aIsNest])
theorem aExt_same {ad adV : Nat → Nat} {z0 : Nat} {u U : State} (hv : U.vm = u.vm) (hH : U.heap = u.heap) (h : aExt ad adV z0 u u.heap) : aExt ad adV z0 U U.heap := by
  obtain ⟨h1, h2, h3, h4, h5, hz0, hzq, had, h6, h7⟩ := h
  rw [hH]
  have al : u.vm.Alike U.vm := by rw [hv]; exact Vm.Alike.refl _
  refine ⟨fun w hw hn => ?_, h2.moved al, h3.moved al, h4.same hv, h5.same hv, hz0.moved al, hzq.elim (fun z => Or.inl (z.moved al)) (fun z => Or.inr (z.moved al)), had, h6.moved al, fun k q hk => (h7 k q hk).same hv⟩
  have hz := h1 w hw hn
  cases w with
  | methodLinkNest a b c d => exact va_Nw.same rfl hv.symm hz
  | _ => exact absurd hn (by simp [aIsNest])
section AWC
variable {p : Program} {l : Launch} {e : Env} {R : Room} {s : State} {m : MethodId} {args : Array Value} {below : List Frame} {meth : Method} {c : Code} {Q : State → Prop} {D : va_G} {cA : FieldType → ClassId} {ad adV : Nat → Nat} {z0 : Nat} {M : aMI} {al : List Nat} {i : Nat} {lv : List (Nat × aV)} {st : List aV} {sh : List aE} {mm : aM} {nc ns : Nat}
theorem aPre_blind {al : List Nat} {av : List Value} : FrameBlind (va_Pc av (aPre D cA ad adV z0 al sh mm)) := by
  intro a U g mk h
  obtain ⟨q0, q1, q2, q3, q4, q5, q6, q7⟩ := h
  exact ⟨q0, q1, va_K.moved (u := U) (U := U.calling g mk a) (Vm.Alike.refl U.vm) q2, q3, q4, q5, q6, aExt_same (u := U) (U := U.calling g mk a) rfl rfl q7⟩
/-- what a call comes to, given that it runs -/
theorem aw_callG {r : Option aV} {sh' : List aE} {mm' : aM} {mc ms : Nat} {H : Heap} {locs : List Loc} {ls : Array Slot} {pc : Nat} {st0 : List Value} {a : Array Value} (hW : aW D cA z0 al sh mm s.heap H locs) (hst : ∀ v ∈ st, aVin sh.length v) (hlv : ∀ q ∈ lv, aVin sh.length q.2) (hl : lv_has ls M.2.2.1 (cL al ad lv)) (hpc : aPc M (i + 1) = pc + 3) (hsh : sh.length ≤ sh'.length)
    (hr : va_Run p l e R s m args below meth c H locs nc ns mc ms (F0 m pc ls st0) (cS al ad st) (aQc D cA ad z0 al r sh' mm' a) (aA z0))
    (kk : ∀ bl, AW p l e R s m args below meth c Q D cA ad z0 M (al ++ bl) (i + 1) lv (r.toList ++ st) sh' mm' (nc + mc) (ns + ms)) : W p l e R s m args below meth c H locs nc ns Q (F0 m pc ls st0) := by
  intro T hT X
  obtain ⟨v, st₀, t, T', L, h0, X', hL, e1, e2, ⟨⟨bl, hv, hP, hD, hal, hwf, hrv⟩, hz, hk⟩, stp⟩ := hr T hT X
  cases hv
  rw [h0] at hz hk
  have hS : va_S (aA z0) s.heap T'.heap (locs ++ L) := ⟨Nat.le_trans hW.2.2.1.1 (by rw [e1]; exact hz), fun q h1 h2 => by rw [e1, hk q (Nat.lt_of_lt_of_le h1 hW.2.2.1.1) h2]; exact hW.2.2.1.2.1 q h1 h2, fun q hq => by
      rcases List.mem_append.mp hq with h | h
      · exact hW.2.2.1.2.2 q h
      · exact hL q h⟩
  have hall : al.length = sh.length := hW.2.2.2.1
  have k2 := kk bl T'.heap (locs ++ L) ls ⟨by rw [e1]; exact hP, hD, hS, hal, hwf⟩ (fun v hv => by
      rcases List.mem_append.mp hv with h | h
      · exact hrv v (by simpa using h)
      · exact (hst v h).mono hsh) (fun q hq => (hlv q hq).mono hsh) (by rw [cL_app (by rw [hall]; exact hlv)]; exact hl)
  rw [hpc] at k2
  have e3 : cS (al ++ bl) ad (r.toList ++ st) = (r.map (cV (al ++ bl) ad)).toList ++ cS al ad st := by
    unfold cS
    rw [List.map_append]
    congr 1
    · cases r <;> rfl
    · exact cS_app (by rw [hall]; exact hst)
  rw [e3] at k2
  obtain ⟨t2, a1, b1⟩ := k2 T' rfl X'
  exact ⟨t2, stp t2 a1, b1⟩
/-- what a callee finds -/
theorem aPre_of {as : List aV} {H : Heap} {locs : List Loc} (K : aK p s m args meth c M D cA ad adV z0) (hW : aW D cA z0 al sh mm s.heap H locs) {U : State} (hU : U.heap = H) (hw : s.WarmedH U.vm) : aPre D cA ad adV z0 al sh mm U := by
  refine ⟨by rw [hU]; exact hW.1, va_K.moved hw.alike K.2.2.2.2.2.2.2.2.1, hW.2.1, by rw [hU]; exact Nat.le_trans K.2.2.2.2.2.2.2.2.2.1 hW.2.2.1.1, hW.2.2.2.1, hW.2.2.2.2, ?_⟩
  rw [hU]
  exact aExt_warm hw (fun a h1 h2 => hW.2.2.1.2.1 a h1 h2) K.2.2.2.2.2.2.2.2.2.2
/-- what links a call: its rows stand in the tables -/
def aLk (own : String) (idx : Nat) (N : aMI) (n : Nat) : Prop := Cond.code N.1 N.2.1 N.2.2.1 N.2.2.2.1 ∈ aTbl ∧ Cond.methodLink own idx N.1 ∈ aTbl ∧ Cond.initialized N.1.cls ∈ aTbl ∧ (N.1.cls ≠ "java/lang/invoke/MethodHandle" ∧ N.1.cls ≠ "java/lang/invoke/VarHandle" ∧ (parseMethodDescriptor N.1.desc).map (fun d => d.parameters.length) = some n)
theorem aWs_good {N : aMI} (h : Cond.code N.1 N.2.1 N.2.2.1 N.2.2.2.1 ∈ aTbl) : GoodIn aTbl (aWs N) := fun w hw => (List.mem_cons.mp hw).elim (fun e => by rw [e]; exact aTbl_good _ h) (fun h => aTbl_good w h)
theorem aCat_sum (al : List Nat) (ad : Nat → Nat) (st : List aV) : ((cS al ad st).map fun v => v.category).sum = (st.map aCat).sum := by
  unfold cS
  rw [List.map_map]
  congr 1
  apply List.map_congr_left
  intro v _
  exact cV_cat al ad v
theorem aw_callS (K : aK p s m args meth c M D cA ad adV z0) {idx n : Nat} {N : aMI} {fr lo mc ms : Nat} {as : List aV} {r : Option aV} {sh' : List aE} {mm' : aM} (hd : aD M i (.invokestatic idx) 3) (hk : aLk M.1.cls idx N n) (hs : Cond.static N.1 ∈ aTbl) (hn : as.length = n) (hrest : (st.map aCat).sum ≤ 8) (hR : fr + 1 ≤ R.frames ∧ 8 + (N.2.2.1 + 11) + lo ≤ R.locals) (hf : nc + mc ≤ R.cells ∧ ns + ms ≤ R.slots) (hsh : sh.length ≤ sh'.length)
    (hM : aMet l D cA ad adV z0 N fr lo mc ms as sh mm r sh' mm')
    (kk : ∀ bl, AW p l e R s m args below meth c Q D cA ad z0 M (al ++ bl) (i + 1) lv (r.toList ++ st) sh' mm' (nc + mc) (ns + ms)) : AW p l e R s m args below meth c Q D cA ad z0 M al i lv (as.reverse ++ st) sh mm nc ns := by
  intro H locs ls hW h hlv hl
  have has : ∀ v ∈ as, aVin sh.length v := fun v hv => h v (List.mem_append_left _ (List.mem_reverse.mpr hv))
  have hst : ∀ v ∈ st, aVin sh.length v := fun v hv => h v (List.mem_append_right _ hv)
  have cb := callB_of (R := R) (rm := { frames := fr, cells := mc, slots := ms, locals := lo }) (mc := mc) (ms := ms) n K.2.2.2.2.1 (aWs_good hk.1) rfl rfl rfl (K.2.2.2.2.1 _ hk.2.2.1) (K.2.2.2.2.1 _ hk.2.1) hk.2.2.2 hR
  refine aw_callG (a := (cS al ad as).toArray) (st0 := cS al ad (as.reverse ++ st)) hW hst hlv hl hd.2 hsh ?_ kk
  refine va_runS (As := cS al ad as) (rest := cS al ad st) ⟨K.1, K.2.1, K.2.2.1, K.2.2.2.1, K.2.2.2.2.1⟩ (hM al has) ⟨cb, K.2.2.2.2.1 _ hs⟩ ⟨aPre_blind, fun U hU hw => ⟨rfl, aPre_of (as := as) K hW hU hw⟩⟩ rfl (by unfold cS; rw [List.length_map]; exact hn) hl.1 ?_ (lv_room (by rw [aCat_sum]; exact hrest)) hd.1 hf
  show cS al ad (as.reverse ++ st) = (cS al ad as).reverse ++ cS al ad st
  unfold cS
  rw [List.map_append, List.map_reverse]
theorem aw_callV (K : aK p s m args meth c M D cA ad adV z0) {idx n q ci : Nat} {rc : vw_C} {fs : List (Option (Option Nat))} {N : aMI} {fr lo mc ms : Nat} {as : List aV} {r : Option aV} {sh' : List aE} {mm' : aM} (hd : aD M i (.invokevirtual idx) 3) (hk : aLk M.1.cls idx N n) (he : sh[q]? = some (.inr (.inr (.inr (ci, fs))))) (hc : vwCl[ci]? = some rc) (hv : Cond.instanceMethod N.1 ∈ aTbl ∧ Cond.selects rc.1 N.1 N.1 ∈ aTbl) (hn : as.length = n) (hrest : (st.map aCat).sum ≤ 8) (hR : fr + 1 ≤ R.frames ∧ 8 + (N.2.2.1 + 11) + lo ≤ R.locals) (hf : nc + mc ≤ R.cells ∧ ns + ms ≤ R.slots) (hsh : sh.length ≤ sh'.length)
    (hM : aMet l D cA ad adV z0 N fr lo mc ms (.inr (.inr (.inl (some q))) :: as) sh mm r sh' mm')
    (kk : ∀ bl, AW p l e R s m args below meth c Q D cA ad z0 M (al ++ bl) (i + 1) lv (r.toList ++ st) sh' mm' (nc + mc) (ns + ms)) : AW p l e R s m args below meth c Q D cA ad z0 M al i lv (as.reverse ++ .inr (.inr (.inl (some q))) :: st) sh mm nc ns := by
  intro H locs ls hW h hlv hl
  have hq : aVin sh.length (.inr (.inr (.inl (some q)))) := h _ (List.mem_append_right _ List.mem_cons_self)
  have has : ∀ v ∈ (.inr (.inr (.inl (some q))) :: as : List aV), aVin sh.length v := in_c hq (fun v hv => h v (List.mem_append_left _ (List.mem_reverse.mpr hv)))
  have hst : ∀ v ∈ st, aVin sh.length v := fun v hv => h v (List.mem_append_right _ (List.mem_cons_of_mem _ hv))
  have cb := callB_of (R := R) (rm := { frames := fr, cells := mc, slots := ms, locals := lo }) (mc := mc) (ms := ms) n K.2.2.2.2.1 (aWs_good hk.1) rfl rfl rfl (K.2.2.2.2.1 _ hk.2.2.1) (K.2.2.2.2.1 _ hk.2.1) hk.2.2.2 hR
  refine aw_callG (a := (Value.ref (al.getD q 0) :: cS al ad as).toArray) (st0 := cS al ad (as.reverse ++ .inr (.inr (.inl (some q))) :: st)) hW hst hlv hl hd.2 hsh ?_ kk
  refine va_runV (C := rc.1) (b := al.getD q 0) (As := cS al ad as) (rest := cS al ad st) ⟨K.1, K.2.1, K.2.2.1, K.2.2.2.1, K.2.2.2.2.1⟩ (hM al has) ⟨cb, K.2.2.2.2.1 _ hv.1, K.2.2.2.2.1 _ hv.2⟩ ⟨aPre_blind, va_recv K.2.2.2.2.2.2.2.2.1 hW.1 hc (cW_get he), fun U hU hw => ⟨rfl, aPre_of (as := as) K hW hU hw⟩⟩ rfl (by unfold cS; rw [List.length_map]; exact hn) hl.1 ?_ (lv_room (by rw [aCat_sum]; exact hrest)) hd.1 hf
  show cS al ad (as.reverse ++ .inr (.inr (.inl (some q))) :: st) = (cS al ad as).reverse ++ (Value.ref (al.getD q 0)) :: cS al ad st
  unfold cS
  rw [List.map_append, List.map_reverse]
  rfl
theorem aw_callI (K : aK p s m args meth c M D cA ad adV z0) {idx n q : Nat} {N : aMI} {fr lo mc ms : Nat} {as : List aV} {sh' : List aE} {mm' : aM} (hd : aD M i (.invokespecial idx) 3) (hk : aLk M.1.cls idx N n) (hr0 : N.2.2.2.1 = none) (hnm : N.1.name = "<init>") (hv : Cond.instanceMethod N.1 ∈ aTbl) (hn : as.length = n) (hrest : (st.map aCat).sum ≤ 8) (hR : fr + 1 ≤ R.frames ∧ 8 + (N.2.2.1 + 11) + lo ≤ R.locals) (hf : nc + mc ≤ R.cells ∧ ns + ms ≤ R.slots) (hsh : sh.length ≤ sh'.length)
    (hM : aMet l D cA ad adV z0 N fr lo mc ms (.inr (.inr (.inl (some q))) :: as) sh mm none sh' mm')
    (kk : ∀ bl, AW p l e R s m args below meth c Q D cA ad z0 M (al ++ bl) (i + 1) lv st sh' mm' (nc + mc) (ns + ms)) : AW p l e R s m args below meth c Q D cA ad z0 M al i lv (as.reverse ++ .inr (.inr (.inl (some q))) :: st) sh mm nc ns := by
  intro H locs ls hW h hlv hl
  have hq : aVin sh.length (.inr (.inr (.inl (some q)))) := h _ (List.mem_append_right _ List.mem_cons_self)
  have has : ∀ v ∈ (.inr (.inr (.inl (some q))) :: as : List aV), aVin sh.length v := in_c hq (fun v hv => h v (List.mem_append_left _ (List.mem_reverse.mpr hv)))
  have hst : ∀ v ∈ st, aVin sh.length v := fun v hv => h v (List.mem_append_right _ (List.mem_cons_of_mem _ hv))
  have cb := callB_of (R := R) (rm := { frames := fr, cells := mc, slots := ms, locals := lo }) (mc := mc) (ms := ms) (ret := none) (bytes := N.2.1) (maxL := N.2.2.1) (ws := aWs N) (ws' := aTbl) n K.2.2.2.2.1 (aWs_good hk.1) (by unfold aWs; rw [hr0]) rfl rfl (K.2.2.2.2.1 _ hk.2.2.1) (K.2.2.2.2.1 _ hk.2.1) hk.2.2.2 hR
  refine aw_callG (r := none) (a := (Value.ref (al.getD q 0) :: cS al ad as).toArray) (st0 := cS al ad (as.reverse ++ .inr (.inr (.inl (some q))) :: st)) hW hst hlv hl hd.2 hsh ?_ kk
  refine va_runI (b := al.getD q 0) (As := cS al ad as) (rest := cS al ad st) ⟨K.1, K.2.1, K.2.2.1, K.2.2.2.1, K.2.2.2.2.1⟩ (hM al has) ⟨cb, hnm, K.2.2.2.2.1 _ hv⟩ ⟨aPre_blind, fun U hU hw => ⟨rfl, aPre_of (as := as) K hW hU hw⟩⟩ rfl (by unfold cS; rw [List.length_map]; exact hn) hl.1 ?_ (lv_room (by rw [aCat_sum]; exact hrest)) hd.1 hf
  show cS al ad (as.reverse ++ .inr (.inr (.inl (some q))) :: st) = (cS al ad as).reverse ++ (Value.ref (al.getD q 0)) :: cS al ad st
  unfold cS
  rw [List.map_append, List.map_reverse]
  rfl
end AWC
