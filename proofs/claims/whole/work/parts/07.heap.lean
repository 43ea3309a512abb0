/-! ROWS OVER THE WORLD: fields, arrays -/
theorem aTys_at (cA : FieldType → ClassId) {ty : FieldType} (h : ty ∈ aTL) : ∃ t0 : Nat, (aTys cA)[t0]? = some (cA ty, ty) := List.getElem?_of_mem (List.mem_map.mpr ⟨ty, h, rfl⟩)
/-- a field's abstract value -/
def aFv (x : Int) : Option (Option Nat) → aV
  | none => .inl x
  | some r => .inr (.inr (.inl r))
theorem aFv_c (al : List Nat) (ad : Nat → Nat) (m : Nat → Int) (k : Nat) (f : Option (Option Nat)) : cV al ad (aFv (m k) f) = cF al m k f := by
  cases f <;> rfl
theorem aWf_up {sh : List aE} {mm : aM} {q i : Nat} {v : Int} {e : aE} (h : aWf sh mm) (he : sh[q]? = some e) (hv : ∀ f : Nat → Int, aEin f e → aEin (fun j => if j = i then v else f j) e) : aWf sh (aup mm q i v) := by
  intro k e' hk
  by_cases hq : k = q
  · subst hq
    cases he.symm.trans hk
    obtain ⟨h1, h2⟩ := h k e hk
    rw [aup_row]
    exact ⟨hv _ h1, h2⟩
  · rw [aup_off mm i v hq]
    exact h k e' hk
theorem aEin_arr {ty : FieldType} {n : Nat} {i : Nat} {v : Int} (hv : aNin ty v) : ∀ f : Nat → Int, aEin f (.inl (ty, n)) → aEin (fun j => if j = i then v else f j) (.inl (ty, n)) := fun f h j => by
  show aNin ty (if j = i then v else f j)
  split
  · exact hv
  · exact h j
theorem aEin_long {n : Nat} {i : Nat} {v : Int} (hv : in64 v) : ∀ f : Nat → Int, aEin f (.inr (.inl n)) → aEin (fun j => if j = i then v else f j) (.inr (.inl n)) := fun f h j => by
  show in64 (if j = i then v else f j)
  split
  · exact hv
  · exact h j
theorem aEin_obj {o : Nat × List (Option (Option Nat))} {i : Nat} {v : Int} (hv : in32 v) : ∀ f : Nat → Int, aEin f (.inr (.inr (.inr o))) → aEin (fun j => if j = i then v else f j) (.inr (.inr (.inr o))) := fun f h j => by
  show in32 (if j = i then v else f j)
  split
  · exact hv
  · exact h j
/-- a number's field: the machine takes it as it is -/
def aFit (ty : FieldType) (v : Int) : Prop := ty = .int ∨ (ty = .boolean ∧ (v = 0 ∨ v = 1))
theorem aFit_ok {ty : FieldType} {v : Int} (h : aFit ty v) : narrow ty (.int (Int32.ofInt v)) = .int (Int32.ofInt v) ∧ fits ty (.int (Int32.ofInt v)) = true := by
  rcases h with rfl | ⟨rfl, rfl | rfl⟩
  · exact ⟨rfl, rfl⟩
  · exact ⟨by decide +kernel, by decide +kernel⟩
  · exact ⟨by decide +kernel, by decide +kernel⟩
section AWH
variable {p : Program} {l : Launch} {e : Env} {R : Room} {s : State} {m : MethodId} {args : Array Value} {below : List Frame} {meth : Method} {c : Code} {Q : State → Prop} {D : va_G} {cA : FieldType → ClassId} {ad adV : Nat → Nat} {z0 : Nat} {M : aMI} {al : List Nat} {i : Nat} {lv : List (Nat × aV)} {st : List aV} {sh : List aE} {mm : aM} {nc ns : Nat}
theorem aw_getf (K : aK p s m args meth c M D cA ad adV z0) {idx q k : Nat} {r : vw_C} {ci : Nat} {fs : List (Option (Option Nat))} {f : Option (Option Nat)} (hd : aD M i (.getfield idx) 3) (he : sh[q]? = some (.inr (.inr (.inr (ci, fs))))) (hc : vwCl[ci]? = some r) (hk : k < r.2.2) (hlink : Cond.fieldLink M.1.cls idx (r.2.1 k).1 (r.2.1 k).2.1 (r.2.1 k).2.2.1 ∈ aTbl) (hf : fs[k]? = some f)
    (kk : AW p l e R s m args below meth c Q D cA ad z0 M al (i + 1) lv (aFv (mm q k) f :: st) sh mm nc ns) : AW p l e R s m args below meth c Q D cA ad z0 M al i lv (.inr (.inr (.inl (some q))) :: st) sh mm nc ns := by
  intro H locs ls hW h hlv hl
  have hw := hW.2.2.2.2 q _ he
  have hin : aVin sh.length (aFv (mm q k) f) := by
    cases f with
    | none => exact hw.1 k
    | some r => exact hw.2.2 r (List.mem_map.mpr ⟨some r, List.mem_of_getElem? hf, rfl⟩)
  have k2 := kk H locs ls hW (in_c hin (in_t h)) hlv hl
  rw [hd.2] at k2
  refine va_get (D := D) (ci := ci) (v := cF al (mm q) k f) (C := r.1) (T := r.2.1) (N := r.2.2) K.1 K.2.1 K.2.2.2.2.1 (cl_in ci r hc) K.2.2.2.1 K.2.2.2.2.2.2.2.2.1 hW.1 q (cW_get he) hc k hk (K.2.2.2.2.1 _ hlink) (fun _ h9 => h9) (by rw [List.getElem?_mapIdx, hf]; rfl) hd.1 ?_
  have e1 : cS al ad (aFv (mm q k) f :: st) = cF al (mm q) k f :: cS al ad st := by
    show cV al ad _ :: _ = _
    rw [aFv_c]
    rfl
  rw [e1] at k2
  exact k2
theorem aw_putf (K : aK p s m args meth c M D cA ad adV z0) {idx q k : Nat} {r : vw_C} {ci : Nat} {v : Int} {fs : List (Option (Option Nat))} (hd : aD M i (.putfield idx) 3) (he : sh[q]? = some (.inr (.inr (.inr (ci, fs))))) (hc : vwCl[ci]? = some r) (hk : k < r.2.2) (hlink : Cond.fieldLink M.1.cls idx (r.2.1 k).1 (r.2.1 k).2.1 (r.2.1 k).2.2.1 ∈ aTbl) (hf : fs[k]? = some none) (hfin : (r.2.1 k).2.2.2 = false) (hfit : aFit (clTy ci k) v)
    (kk : AW p l e R s m args below meth c Q D cA ad z0 M al (i + 1) lv st sh (aup mm q k v) nc ns) : AW p l e R s m args below meth c Q D cA ad z0 M al i lv (.inl v :: .inr (.inr (.inl (some q))) :: st) sh mm nc ns := by
  intro H locs ls hW h hlv hl
  have hkl : k < fs.length := (List.getElem?_eq_some_iff.mp hf).1
  refine va_put (D := D) (ci := ci) (v := .int (Int32.ofInt v)) (ty := clTy ci k) (C := r.1) (T := r.2.1) (N := r.2.2) K.1 K.2.1 K.2.2.2.2.1 (cl_in ci r hc) (clTy ci) (cl_ty ci r hc) (cl_nm ci r hc) K.2.2.2.1 K.2.2.2.2.2.2.2.2.1 hW.1 hW.2.1 hW.2.2.1 q (cW_get he) hc k hk (K.2.2.2.2.1 _ hlink) (fun _ h9 => h9) hfin (cl_ty ci r hc k hk) (aFit_ok hfit).1 (aFit_ok hfit).2 (by rw [List.length_mapIdx]; exact hkl) hd.1 (fun H1 locs1 hP hD hS => ?_)
  have e1 : (cW cA al sh mm).set q (al.getD q 0, .inr (ci, (fs.mapIdx (cF al (mm q))).set k (.int (Int32.ofInt v)))) = cW cA al sh (aup mm q k v) := by
    refine cW_set he ?_ (fun k' h' => aup_off mm k v h')
    show Sum.inr (_, _) = Sum.inr (_, _)
    congr 2
    apply List.ext_getElem?
    intro j
    rw [List.getElem?_set, List.getElem?_mapIdx, List.length_mapIdx]
    by_cases hj : k = j
    · subst hj
      rw [if_pos rfl, if_pos hkl, List.getElem?_mapIdx, hf]
      show some _ = some (Value.int _)
      rw [aup_self]
    · rw [if_neg hj, List.getElem?_mapIdx]
      cases hz : fs[j]? with
      | none => rfl
      | some f =>
        cases f with
        | none =>
          show some (Value.int _) = some (Value.int _)
          rw [aup_row]
          simp only [Ne.symm hj, if_false]
        | some r => rfl
  rw [e1] at hP hD
  have k2 := kk H1 locs1 ls ⟨hP, hD, hS, hW.2.2.2.1, aWf_up hW.2.2.2.2 he (aEin_obj (in_1 h))⟩ (in_t (in_t h)) hlv hl
  rw [hd.2] at k2
  exact k2
/-- a final reference's field, in a constructor -/
theorem aw_putr (K : aK p s m args meth c M D cA ad adV z0) {idx q k x : Nat} {r : vw_C} {ci : Nat} {fs : List (Option (Option Nat))} {f : Option Nat} (hd : aD M i (.putfield idx) 3) (he : sh[q]? = some (.inr (.inr (.inr (ci, fs))))) (hc : vwCl[ci]? = some r) (hk : k < r.2.2) (hlink : Cond.fieldLink M.1.cls idx (r.2.1 k).1 (r.2.1 k).2.1 (r.2.1 k).2.2.1 ∈ aTbl) (hf : fs[k]? = some (some f)) (hfin : (r.2.1 k).2.2.2 = true) (hnm : M.1.name = "<init>") (hdc : (r.2.1 k).1 = M.1.cls) (hfit : narrow (clTy ci k) (.ref 0) = .ref 0 ∧ (∀ x : Nat, narrow (clTy ci k) (.ref x) = .ref x) ∧ ∀ x : Nat, fits (clTy ci k) (.ref x) = true)
    (kk : AW p l e R s m args below meth c Q D cA ad z0 M al (i + 1) lv st (sh.set q (.inr (.inr (.inr (ci, fs.set k (some (some x))))))) mm nc ns) : AW p l e R s m args below meth c Q D cA ad z0 M al i lv (.inr (.inr (.inl (some x))) :: .inr (.inr (.inl (some q))) :: st) sh mm nc ns := by
  intro H locs ls hW h hlv hl
  have hkl : k < fs.length := (List.getElem?_eq_some_iff.mp hf).1
  have hql : q < sh.length := (List.getElem?_eq_some_iff.mp he).1
  refine va_putF (D := D) (ci := ci) (v := .ref (al.getD x 0)) (ty := clTy ci k) (C := r.1) (T := r.2.1) (N := r.2.2) K.1 K.2.1 K.2.2.2.2.1 (cl_in ci r hc) (clTy ci) (cl_ty ci r hc) (cl_nm ci r hc) K.2.2.2.1 K.2.2.2.2.2.2.2.2.1 hW.1 hW.2.1 hW.2.2.1 q (cW_get he) hc k hk (K.2.2.2.2.1 _ hlink) (fun _ h9 => h9) hfin (K.2.2.2.2.2.2.2.1.trans hnm) hdc (cl_ty ci r hc k hk) (hfit.2.1 _) (hfit.2.2 _) (by rw [List.length_mapIdx]; exact hkl) hd.1 (fun H1 locs1 hP hD hS => ?_)
  have e1 : (cW cA al sh mm).set q (al.getD q 0, .inr (ci, (fs.mapIdx (cF al (mm q))).set k (.ref (al.getD x 0)))) = cW cA al (sh.set q (.inr (.inr (.inr (ci, fs.set k (some (some x))))))) mm := by
    refine cW_setS hql ?_
    show Sum.inr (_, _) = Sum.inr (_, _)
    congr 2
    apply List.ext_getElem?
    intro j
    rw [List.getElem?_set, List.getElem?_mapIdx, List.length_mapIdx, List.getElem?_mapIdx, List.getElem?_set]
    by_cases hj : k = j
    · subst hj
      rw [if_pos rfl, if_pos hkl, if_pos rfl, if_pos hkl]
      rfl
    · rw [if_neg hj, if_neg hj]
  rw [e1] at hP hD
  have hwf : aWf (sh.set q (.inr (.inr (.inr (ci, fs.set k (some (some x))))))) mm := by
    intro k' e' hk'
    rw [List.length_set]
    rw [List.getElem?_set] at hk'
    by_cases hq : q = k'
    · subst hq
      rw [if_pos rfl, if_pos hql] at hk'
      cases hk'
      obtain ⟨h1, h2, h3⟩ := hW.2.2.2.2 q _ he
      refine ⟨h1, trivial, fun r9 hr9 => ?_⟩
      obtain ⟨f9, hf9, rfl⟩ := List.mem_map.mp hr9
      rcases List.mem_or_eq_of_mem_set hf9 with h9 | h9
      · exact h3 _ (List.mem_map.mpr ⟨f9, h9, rfl⟩)
      · rw [h9]
        exact in_1 h
    · rw [if_neg hq] at hk'
      exact hW.2.2.2.2 k' e' hk'
  have k2 := kk H1 locs1 ls ⟨hP, hD, hS, by rw [List.length_set]; exact hW.2.2.2.1, hwf⟩ (by rw [List.length_set]; exact in_t (in_t h)) (by rw [List.length_set]; exact hlv) hl
  rw [hd.2] at k2
  exact k2
end AWH
