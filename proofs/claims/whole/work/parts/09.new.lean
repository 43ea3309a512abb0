/-! ROWS OVER THE WORLD: new cells -/
theorem va_RA_name {U : State} {x : ClassId} {ty : FieldType} (h : va_RA U x ty) : U.vm.findClass ("[" ++ ty.toString) = some x := by
  cases ty with
  | object C =>
    obtain ⟨kA, comp, h1, h2, h3, h4⟩ := h
    exact h4
  | _ => exact h
theorem aTys_id {D : va_G} {cA : FieldType → ClassId} {s : State} {x : ClassId} {ty : FieldType} (hK : va_K D vwCl (aTys cA) s) (hty : ty ∈ aTL) (h : va_K D vwCl (aTys cA ++ [(x, ty)]) s) : x = cA ty := by
  obtain ⟨t0, ht0⟩ := aTys_at cA hty
  have h1 := va_RA_name (hK.2 t0 _ ht0).2
  have h2 := va_RA_name (h.2 (aTys cA).length (x, ty) (by rw [List.getElem?_append_right (Nat.le_refl _), Nat.sub_self]; rfl)).2
  exact Option.some.inj (h2.symm.trans h1)
theorem cS_app {al bl : List Nat} {ad : Nat → Nat} {st : List aV} (h : ∀ v ∈ st, aVin al.length v) : cS (al ++ bl) ad st = cS al ad st := List.map_congr_left (fun v hv => cV_app (h v hv))
theorem cL_app {al bl : List Nat} {ad : Nat → Nat} {lv : List (Nat × aV)} (h : ∀ q ∈ lv, aVin al.length q.2) : cL (al ++ bl) ad lv = cL al ad lv := List.map_congr_left (fun q hq => by rw [cV_app (h q hq)])
/-- the world with a new cell of form x, all its numbers 0 -/
def aNew (mm : aM) (n : Nat) : aM := aupr mm n (fun _ => 0)
theorem aEin_0 (x : aE) : aEin (fun _ => 0) x := by
  rcases x with ⟨ty, n⟩ | n | r | o
  · intro j
    cases ty <;> simp [aNin, in32]
  · intro j; exact in64_0
  · trivial
  · intro j; exact in32_0
theorem aWf_new {sh : List aE} {mm : aM} {x : aE} (h : aWf sh mm) (hx : aTyOk x) (hr : ∀ r ∈ aRefs x, aRin (sh.length + 1) r) : aWf (sh ++ [x]) (aNew mm sh.length) := by
  intro k e hk
  have hl : (sh ++ [x]).length = sh.length + 1 := by simp
  rw [hl]
  by_cases h1 : k < sh.length
  · rw [List.getElem?_append_left h1] at hk
    obtain ⟨g1, g2, g3⟩ := h k e hk
    unfold aNew
    rw [aupr_ne mm _ (by omega)]
    exact ⟨g1, g2, fun r hr => (g3 r hr).mono (by omega)⟩
  · rw [List.getElem?_append_right (by omega)] at hk
    have h2 : k - sh.length < 1 := (List.getElem?_eq_some_iff.mp hk).1
    have h3 : k = sh.length := by omega
    subst h3
    rw [Nat.sub_self] at hk
    cases hk
    unfold aNew
    rw [aupr_self]
    exact ⟨aEin_0 x, hx, hr⟩
section AWN
variable {p : Program} {l : Launch} {e : Env} {R : Room} {s : State} {m : MethodId} {args : Array Value} {below : List Frame} {meth : Method} {c : Code} {Q : State → Prop} {D : va_G} {cA : FieldType → ClassId} {ad adV : Nat → Nat} {z0 : Nat} {M : aMI} {al : List Nat} {i : Nat} {lv : List (Nat × aV)} {st : List aV} {sh : List aE} {mm : aM} {nc ns : Nat}
/-- what a new cell's row comes to -/
theorem aw_push {x : aE} {y : va_E} {q pc mc ms : Nat} {H H1 : Heap} {locs : List Loc} {ls : Array Slot} (hW : aW D cA z0 al sh mm s.heap H locs) (h : ∀ v ∈ st, aVin sh.length v) (hlv : ∀ q ∈ lv, aVin sh.length q.2) (hl : lv_has ls M.2.2.1 (cL al ad lv)) (hx : aTyOk x) (hr : ∀ r ∈ aRefs x, aRin sh.length r) (hy : y = cE cA (al ++ [q]) (fun _ => 0) x) (hpc : aPc M (i + 1) = pc)
    (kk : ∀ q, AW p l e R s m args below meth c Q D cA ad z0 M (al ++ [q]) (i + 1) lv (.inr (.inr (.inl (some sh.length))) :: st) (sh ++ [x]) (aNew mm sh.length) mc ms)
    (hP : va_P D vwCl (cW cA al sh mm ++ [(q, y)]) H1) (hD : va_D (aA z0) (cW cA al sh mm ++ [(q, y)])) (hS : va_S (aA z0) s.heap H1 locs) : W p l e R s m args below meth c H1 locs mc ms Q (F0 m pc ls (.ref q :: cS al ad st)) := by
  have e1 : cW cA al sh mm ++ [(q, y)] = cW cA (al ++ [q]) (sh ++ [x]) (aNew mm sh.length) := by
    refine cW_push (fun k e9 hk => (hW.2.2.2.2 k e9 hk).2.2) hW.2.2.2.1 ?_ (fun k hk => by unfold aNew; rw [aupr_ne mm _ (by omega)])
    rw [hy]
    unfold aNew
    rw [aupr_self]
  rw [e1] at hP hD
  have hsl : (sh ++ [x]).length = sh.length + 1 := by simp
  have hal : al.length = sh.length := hW.2.2.2.1
  have h2 := kk q H1 locs ls ⟨hP, hD, hS, by rw [hsl, List.length_append, hal]; rfl, aWf_new hW.2.2.2.2 hx (fun r hr9 => (hr r hr9).mono (by omega))⟩ (by rw [hsl]; exact in_c (fun k hk => by cases hk; omega) (fun v hv => (h v hv).mono (by omega))) (by rw [hsl]; exact fun q hq => (hlv q hq).mono (by omega)) (by rw [cL_app (by rw [hal]; exact hlv)]; exact hl)
  rw [hpc] at h2
  have e2 : cS (al ++ [q]) ad (.inr (.inr (.inl (some sh.length))) :: st) = .ref q :: cS al ad st := by
    show cV _ ad _ :: cS (al ++ [q]) ad st = _
    rw [cS_app (by rw [hal]; exact h)]
    congr 1
    show Value.ref ((al ++ [q]).getD sh.length 0) = Value.ref q
    rw [List.getD_eq_getElem?_getD, List.getElem?_append_right (by omega), hal, Nat.sub_self]
    rfl
  rw [e2] at h2
  exact h2
theorem aw_newa (K : aK p s m args meth c M D cA ad adV z0) {at0 : ArrayType} {ty : FieldType} {n : Nat} (hd : aD M i (.newarray at0) 2) (hty : newarray.typeOf at0 = ty) (ht : ty = .int ∨ ty = .byte ∨ ty = .boolean ∨ ty = .short) (hin : Cond.arrayClass ty ∈ aTbl) (hn : n ≤ 60000) (hc : nc + 1 ≤ R.cells) (hs : ns + n ≤ R.slots)
    (kk : ∀ q, AW p l e R s m args below meth c Q D cA ad z0 M (al ++ [q]) (i + 1) lv (.inr (.inr (.inl (some sh.length))) :: st) (sh ++ [.inl (ty, n)]) (aNew mm sh.length) (nc + 1) (ns + n)) : AW p l e R s m args below meth c Q D cA ad z0 M al i lv (.inl (n : Int) :: st) sh mm nc ns := by
  intro H locs ls hW h hlv hl
  have hni : in32 (n : Int) := in_1 h
  have hbt : n * componentBytes ty ≤ 536870912 := by rcases ht with h | h | h | h <;> subst h <;> simp [componentBytes] <;> omega
  have hdv : defaultValue ty = .int 0 := by rcases ht with h | h | h | h <;> subst h <;> rfl
  have hmem : ty ∈ aTL := by rcases ht with h | h | h | h <;> subst h <;> decide
  refine va_newa (D := D) (ty := ty) (a0 := (n, .inl (fun _ => 0))) K.1 K.2.1 (by rw [hty]; exact K.2.2.2.2.1 _ hin) hty K.2.2.2.2.2.2.2.2.1 hW.1 hW.2.1 hW.2.2.1 (fun q hq => Nat.le_trans K.2.2.2.2.2.2.2.2.2.1 hq) (fun cA => by rw [vp_cell_i, hdv]) (N' := n) (by rw [show (0 : Int32) = Int32.ofInt 0 from rfl, ofI_lt hni in32_0]; omega) (by rw [ofI_clamp hni]; omega) hbt hc hs hd.1 (fun q x H1 hK2 hP hD hS => ?_)
  have hx := aTys_id K.2.2.2.2.2.2.2.2.1 hmem hK2
  subst hx
  exact aw_push (x := .inl (ty, n)) hW (in_t h) hlv hl ht (fun r hr => by cases hr) rfl hd.2 kk hP hD hS
theorem aw_newl (K : aK p s m args meth c M D cA ad adV z0) {n : Nat} (hd : aD M i (.newarray .long) 2) (hin : Cond.arrayClass .long ∈ aTbl) (hn : n ≤ 60000) (hc : nc + 1 ≤ R.cells) (hs : ns + n ≤ R.slots)
    (kk : ∀ q, AW p l e R s m args below meth c Q D cA ad z0 M (al ++ [q]) (i + 1) lv (.inr (.inr (.inl (some sh.length))) :: st) (sh ++ [.inr (.inl n)]) (aNew mm sh.length) (nc + 1) (ns + n)) : AW p l e R s m args below meth c Q D cA ad z0 M al i lv (.inl (n : Int) :: st) sh mm nc ns := by
  intro H locs ls hW h hlv hl
  have hni : in32 (n : Int) := in_1 h
  refine va_newa (D := D) (atype := .long) (ty := .long) (a0 := (n, .inr (.inl (fun _ => 0)))) K.1 K.2.1 (K.2.2.2.2.1 _ hin) rfl K.2.2.2.2.2.2.2.2.1 hW.1 hW.2.1 hW.2.2.1 (fun q hq => Nat.le_trans K.2.2.2.2.2.2.2.2.2.1 hq) (fun cA => rfl) (N' := n) (by rw [show (0 : Int32) = Int32.ofInt 0 from rfl, ofI_lt hni in32_0]; omega) (by rw [ofI_clamp hni]; omega) (by simp [componentBytes]; omega) hc hs hd.1 (fun q x H1 hK2 hP hD hS => ?_)
  have hx := aTys_id K.2.2.2.2.2.2.2.2.1 (by decide) hK2
  subst hx
  exact aw_push (x := .inr (.inl n)) hW (in_t h) hlv hl trivial (fun r hr => by cases hr) rfl hd.2 kk hP hD hS
theorem aw_newq (K : aK p s m args meth c M D cA ad adV z0) {idx n : Nat} {C : String} (hd : aD M i (.anewarray idx) 3) (hlink : Cond.classLink M.1.cls idx C ∈ aTbl) (hC : C = "OneBreath$Tongue" ∨ C = "OneBreath$Sounds") (hn : n ≤ 60000) (hc : nc + 1 ≤ R.cells) (hs : ns + n ≤ R.slots)
    (kk : ∀ q, AW p l e R s m args below meth c Q D cA ad z0 M (al ++ [q]) (i + 1) lv (.inr (.inr (.inl (some sh.length))) :: st) (sh ++ [.inr (.inr (.inl (.object C, List.replicate n none)))]) (aNew mm sh.length) (nc + 1) (ns + n)) : AW p l e R s m args below meth c Q D cA ad z0 M al i lv (.inl (n : Int) :: st) sh mm nc ns := by
  intro H locs ls hW h hlv hl
  have hni : in32 (n : Int) := in_1 h
  have hov : va_AO C s := by
    rcases hC with h | h <;> subst h
    · exact K.2.2.2.2.2.2.2.2.2.2.2.1
    · exact K.2.2.2.2.2.2.2.2.2.2.2.2.1
  have hmem : FieldType.object C ∈ aTL := by rcases hC with h | h <;> subst h <;> decide
  refine va_newq (D := D) K.1 K.2.1 K.2.2.2.1 (K.2.2.2.2.1 _ hlink) hov K.2.2.2.2.2.2.2.2.1 hW.1 hW.2.1 hW.2.2.1 (fun q hq => Nat.le_trans K.2.2.2.2.2.2.2.2.2.1 hq) (N' := n) (by rw [show (0 : Int32) = Int32.ofInt 0 from rfl, ofI_lt hni in32_0]; omega) (by rw [ofI_clamp hni]; omega) (by omega) hc hs hd.1 (fun q x H1 hK2 hP hD hS => ?_)
  have hx := aTys_id K.2.2.2.2.2.2.2.2.1 hmem hK2
  subst hx
  refine aw_push (x := .inr (.inr (.inl (.object C, List.replicate n none)))) hW (in_t h) hlv hl ⟨hmem, rfl⟩ (fun r hr k hk => ?_) ?_ hd.2 kk hP hD hS
  · have := List.eq_of_mem_replicate hr
    rw [this] at hk
    cases hk
  · show Sum.inl (_, _, _) = Sum.inl (_, _, _)
    rw [List.length_replicate]
    congr 4
    refine congrArg Sum.inr (congrArg Sum.inr (congrArg Sum.inr (funext fun j => ?_)))
    have : (List.replicate n (none : Option Nat)).getD j none = none := by
      rw [List.getD_eq_getElem?_getD, List.getElem?_replicate]
      split <;> rfl
    rw [this]
    rfl
/-- what a new object holds, field by field -/
def aZero (ci n : Nat) : List (Option (Option Nat)) := (List.range n).map (fun k => if (clTy ci k).isReference = true then some none else none)
theorem aw_new (K : aK p s m args meth c M D cA ad adV z0) {idx ci : Nat} {r : vw_C} (hd : aD M i (.new idx) 3) (hcl : vwCl[ci]? = some r) (hlink : Cond.classLink M.1.cls idx r.1 ∈ aTbl) (hinst : Cond.instantiable r.1 r.2.2 ∈ aTbl) (hini : Cond.initialized r.1 ∈ aTbl) (hty : ∀ k, k < r.2.2 → defaultValue (clTy ci k) = if (clTy ci k).isReference = true then .null else .int 0) (hc : nc + 1 ≤ R.cells) (hs : ns + r.2.2 ≤ R.slots)
    (kk : ∀ q, AW p l e R s m args below meth c Q D cA ad z0 M (al ++ [q]) (i + 1) lv (.inr (.inr (.inl (some sh.length))) :: st) (sh ++ [.inr (.inr (.inr (ci, aZero ci r.2.2)))]) (aNew mm sh.length) (nc + 1) (ns + r.2.2)) : AW p l e R s m args below meth c Q D cA ad z0 M al i lv st sh mm nc ns := by
  intro H locs ls hW h hlv hl
  refine va_new (D := D) (ci := ci) (fs := (aZero ci r.2.2).mapIdx (cF al (fun _ => 0))) (C := r.1) (T := r.2.1) (N := r.2.2) K.1 K.2.1 K.2.2.2.2.1 (cl_in ci r hcl) (clTy ci) (cl_ty ci r hcl) K.2.2.2.1 (K.2.2.2.2.1 _ hlink) (K.2.2.2.2.1 _ hinst) (K.2.2.2.2.1 _ hini) K.2.2.2.2.2.2.2.2.1 hW.1 hW.2.1 hW.2.2.1 (fun q hq => Nat.le_trans K.2.2.2.2.2.2.2.2.2.1 hq) hcl (fun j hj => ?_) hc hs hd.1 (fun q H1 hP hD hS => ?_)
  · rw [hty j hj]
    unfold vp_V aZero
    rw [List.getD_eq_getElem?_getD, List.getElem?_mapIdx, List.getElem?_map, List.getElem?_range hj]
    simp only [Option.map_some, Option.getD_some]
    split <;> rfl
  · refine aw_push (x := .inr (.inr (.inr (ci, aZero ci r.2.2)))) hW h hlv hl trivial (fun r9 hr9 k hk => ?_) ?_ hd.2 kk hP hD hS
    · obtain ⟨f, hf, rfl⟩ := List.mem_map.mp hr9
      obtain ⟨j, -, rfl⟩ := List.mem_map.mp hf
      split at hk <;> cases hk
    · show Sum.inr (_, _) = Sum.inr (_, _)
      congr 2
      apply List.ext_getElem?
      intro j
      rw [List.getElem?_mapIdx, List.getElem?_mapIdx]
      unfold aZero
      cases hz : ((List.range r.2.2).map (fun k => if (clTy ci k).isReference = true then some none else none))[j]? with
      | none => rfl
      | some f =>
        obtain ⟨j9, -, rfl⟩ := List.mem_map.mp (List.mem_of_getElem? hz)
        show some _ = some _
        split <;> rfl
end AWN
