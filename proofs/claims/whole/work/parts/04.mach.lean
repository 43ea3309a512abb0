/-! THE ABSTRACT MACHINE: its values, its cells, its states, and what they are in the machine -/
/-- a value: an int, a long, a reference (none is null, some k the k-th cell of the world), a String constant by its number -/
abbrev aV : Type := Int ⊕ (Int ⊕ (Option Nat ⊕ Nat))
/-- a cell's form: an array of whole numbers, of longs, of references, an object (a field: none is a number, some r a reference) -/
abbrev aE : Type := (FieldType × Nat) ⊕ (Nat ⊕ ((FieldType × List (Option Nat)) ⊕ (Nat × List (Option (Option Nat)))))
abbrev aM : Type := Nat → Nat → Int
def aup (m : aM) (q i : Nat) (v : Int) : aM := fun q' i' => if q' = q then (if i' = i then v else m q' i') else m q' i'
def aupr (m : aM) (q : Nat) (f : Nat → Int) : aM := fun q' => if q' = q then f else m q'
theorem aup_self (m : aM) (q i : Nat) (v : Int) : aup m q i v q i = v := by simp [aup]
theorem aup_ne (m : aM) {q q' : Nat} (i i' : Nat) (v : Int) (h : q' ≠ q) : aup m q i v q' i' = m q' i' := by simp [aup, h]
theorem aup_row (m : aM) (q i : Nat) (v : Int) : aup m q i v q = fun i' => if i' = i then v else m q i' := by funext i'; simp [aup]
theorem aup_off (m : aM) {q q' : Nat} (i : Nat) (v : Int) (h : q' ≠ q) : aup m q i v q' = m q' := by funext i'; simp [aup, h]
theorem aupr_self (m : aM) (q : Nat) (f : Nat → Int) : aupr m q f q = f := by simp [aupr]
theorem aupr_ne (m : aM) {q q' : Nat} (f : Nat → Int) (h : q' ≠ q) : aupr m q f q' = m q' := by simp [aupr, h]
/-- the value in the machine; al: the addresses of the world's cells; ad: of the String constants -/
def cR (al : List Nat) : Option Nat → Value
  | none => .null
  | some k => .ref (al.getD k 0)
def cV (al : List Nat) (ad : Nat → Nat) : aV → Value
  | .inl n => .int (Int32.ofInt n)
  | .inr (.inl n) => .long (Int64.ofInt n)
  | .inr (.inr (.inl r)) => cR al r
  | .inr (.inr (.inr k)) => .ref (ad k)
def cF (al : List Nat) (m : Nat → Int) (k : Nat) : Option (Option Nat) → Value
  | none => .int (Int32.ofInt (m k))
  | some r => cR al r
def cE (cA : FieldType → ClassId) (al : List Nat) (m : Nat → Int) : aE → va_E
  | .inl (ty, n) => .inl (cA ty, n, .inl (fun j => Int32.ofInt (m j)))
  | .inr (.inl n) => .inl (cA .long, n, .inr (.inl (fun j => Int64.ofInt (m j))))
  | .inr (.inr (.inl (ty, rs))) => .inl (cA ty, rs.length, .inr (.inr (.inr (.inr (fun j => (rs.getD j none).map (fun k => al.getD k 0))))))
  | .inr (.inr (.inr (ci, fs))) => .inr (ci, fs.mapIdx (cF al m))
def cW (cA : FieldType → ClassId) (al : List Nat) (sh : List aE) (m : aM) : va_W := sh.mapIdx (fun k e => (al.getD k 0, cE cA al (m k) e))
theorem cW_get {cA : FieldType → ClassId} {al : List Nat} {sh : List aE} {m : aM} {k : Nat} {e : aE} (h : sh[k]? = some e) : (cW cA al sh m)[k]? = some (al.getD k 0, cE cA al (m k) e) := by
  unfold cW
  rw [List.getElem?_mapIdx, h]
  rfl
theorem cW_len (cA : FieldType → ClassId) (al : List Nat) (sh : List aE) (m : aM) : (cW cA al sh m).length = sh.length := by
  unfold cW
  exact List.length_mapIdx
/-- a store: one cell's numbers change -/
theorem cW_set {cA : FieldType → ClassId} {al : List Nat} {sh : List aE} {m m' : aM} {q : Nat} {e : aE} {x : va_E} (h : sh[q]? = some e) (hx : x = cE cA al (m' q) e) (ho : ∀ k, k ≠ q → m' k = m k) : (cW cA al sh m).set q (al.getD q 0, x) = cW cA al sh m' := by
  apply List.ext_getElem?
  intro k
  rw [List.getElem?_set]
  have hq : q < sh.length := (List.getElem?_eq_some_iff.mp h).1
  by_cases hk : q = k
  · subst hk
    rw [if_pos rfl, if_pos (by rw [cW_len]; exact hq), cW_get h, hx]
  · rw [if_neg hk]
    unfold cW
    rw [List.getElem?_mapIdx, List.getElem?_mapIdx, ho k (Ne.symm hk)]
/-- a store of a reference: one cell's form changes -/
theorem cW_setS {cA : FieldType → ClassId} {al : List Nat} {sh : List aE} {m : aM} {q : Nat} {e' : aE} {x : va_E} (hq : q < sh.length) (hx : x = cE cA al (m q) e') : (cW cA al sh m).set q (al.getD q 0, x) = cW cA al (sh.set q e') m := by
  apply List.ext_getElem?
  intro k
  rw [List.getElem?_set]
  by_cases hk : q = k
  · subst hk
    rw [if_pos rfl, if_pos (by rw [cW_len]; exact hq), cW_get (e := e') (by rw [List.getElem?_set, if_pos rfl, if_pos hq]), hx]
  · rw [if_neg hk]
    unfold cW
    rw [List.getElem?_mapIdx, List.getElem?_mapIdx, List.getElem?_set, if_neg hk]
/-- what an entry's own references are -/
def aRefs : aE → List (Option Nat)
  | .inl _ => []
  | .inr (.inl _) => []
  | .inr (.inr (.inl (_, rs))) => rs
  | .inr (.inr (.inr (_, fs))) => fs.map (fun f => f.getD none)
def aRin (n : Nat) (r : Option Nat) : Prop := ∀ k, r = some k → k < n
theorem aRin.mono {n n' : Nat} {r : Option Nat} (h : aRin n r) (hn : n ≤ n') : aRin n' r := fun k hk => Nat.lt_of_lt_of_le (h k hk) hn
/-- numbers of a kind of cell -/
def aNin (ty : FieldType) (x : Int) : Prop := match ty with
  | .byte => -128 ≤ x ∧ x < 128
  | .boolean => x = 0 ∨ x = 1
  | .short => -32768 ≤ x ∧ x < 32768
  | _ => in32 x
theorem aNin_in {ty : FieldType} {x : Int} (h : aNin ty x) : in32 x := by
  unfold aNin at h
  unfold in32
  split at h
  · omega
  · omega
  · omega
  · exact h
def aEin (m : Nat → Int) : aE → Prop
  | .inl (ty, _) => ∀ j, aNin ty (m j)
  | .inr (.inl _) => ∀ j, in64 (m j)
  | .inr (.inr (.inl _)) => True
  | .inr (.inr (.inr _)) => ∀ j, in32 (m j)
/-- the world is in order: references lead into it, numbers are in range, each type of array is one of the program's -/
def aTL : List FieldType := [.int, .byte, .boolean, .short, .long, .array .byte, .array .long, .object "OneBreath$Tongue", .object "OneBreath$Sounds"]
def aTys (cA : FieldType → ClassId) : List (ClassId × FieldType) := aTL.map (fun ty => (cA ty, ty))
def aTyOk : aE → Prop
  | .inl (ty, _) => ty = .int ∨ ty = .byte ∨ ty = .boolean ∨ ty = .short
  | .inr (.inl _) => True
  | .inr (.inr (.inl (ty, _))) => ty ∈ aTL ∧ ty.isReference = true
  | .inr (.inr (.inr _)) => True
def aWf (sh : List aE) (m : aM) : Prop := ∀ (k : Nat) (e : aE), sh[k]? = some e → aEin (m k) e ∧ aTyOk e ∧ ∀ r ∈ aRefs e, aRin sh.length r
def aVin (n : Nat) : aV → Prop
  | .inl x => in32 x
  | .inr (.inl x) => in64 x
  | .inr (.inr (.inl r)) => aRin n r
  | .inr (.inr (.inr _)) => True
theorem aVin.mono {n n' : Nat} {v : aV} (h : aVin n v) (hn : n ≤ n') : aVin n' v := by
  rcases v with x | x | r | k
  · exact h
  · exact h
  · exact aRin.mono h hn
  · exact h
theorem getD_app {a b : List Nat} {k : Nat} (h : k < a.length) : (a ++ b).getD k 0 = a.getD k 0 := by
  rw [List.getD_eq_getElem?_getD, List.getD_eq_getElem?_getD, List.getElem?_append_left h]
theorem cR_app {al bl : List Nat} {r : Option Nat} (h : aRin al.length r) : cR (al ++ bl) r = cR al r := by
  cases r with
  | none => rfl
  | some k =>
    show Value.ref _ = Value.ref _
    rw [getD_app (h k rfl)]
theorem cV_app {al bl : List Nat} {ad : Nat → Nat} {v : aV} (h : aVin al.length v) : cV (al ++ bl) ad v = cV al ad v := by
  rcases v with x | x | r | k
  · rfl
  · rfl
  · exact cR_app h
  · rfl
theorem cE_app {cA : FieldType → ClassId} {al bl : List Nat} {m : Nat → Int} {e : aE} (h : ∀ r ∈ aRefs e, aRin al.length r) : cE cA (al ++ bl) m e = cE cA al m e := by
  rcases e with ⟨ty, n⟩ | n | ⟨ty, rs⟩ | ⟨ci, fs⟩
  · rfl
  · rfl
  · show Sum.inl (_, _, _) = Sum.inl (_, _, _)
    congr 4
    refine congrArg Sum.inr (congrArg Sum.inr (congrArg Sum.inr (funext fun j => ?_)))
    by_cases hj : j < rs.length
    · have hm : rs.getD j none ∈ rs := by
        rw [List.getD_eq_getElem?_getD, List.getElem?_eq_getElem hj]
        exact List.getElem_mem hj
      have h1 := h _ hm
      cases hr : rs.getD j none with
      | none => rfl
      | some k =>
        rw [hr] at h1
        show some ((al ++ bl).getD k 0) = some (al.getD k 0)
        rw [getD_app (h1 k rfl)]
    · rw [List.getD_eq_getElem?_getD, List.getElem?_eq_none (by omega)]
      rfl
  · show Sum.inr (_, _) = Sum.inr (_, _)
    congr 2
    apply List.ext_getElem?
    intro k
    rw [List.getElem?_mapIdx, List.getElem?_mapIdx]
    cases hk : fs[k]? with
    | none => rfl
    | some f =>
      show some _ = some _
      cases f with
      | none => rfl
      | some r =>
        show some (cR _ r) = some (cR _ r)
        rw [cR_app (h r (List.mem_map.mpr ⟨some r, List.mem_of_getElem? hk, rfl⟩))]
/-- a new cell comes behind the others -/
theorem cW_push {cA : FieldType → ClassId} {al : List Nat} {sh : List aE} {m m' : aM} {q : Nat} {e : aE} {x : va_E} (hw : ∀ (k : Nat) (e : aE), sh[k]? = some e → ∀ r ∈ aRefs e, aRin sh.length r) (hl : al.length = sh.length) (hx : x = cE cA (al ++ [q]) (m' sh.length) e) (ho : ∀ k, k < sh.length → m' k = m k) : cW cA al sh m ++ [(q, x)] = cW cA (al ++ [q]) (sh ++ [e]) m' := by
  apply List.ext_getElem?
  intro k
  by_cases hk : k < sh.length
  · rw [List.getElem?_append_left (by rw [cW_len]; exact hk), cW_get (List.getElem?_eq_getElem hk), cW_get (e := sh[k]) (by rw [List.getElem?_append_left hk]; exact List.getElem?_eq_getElem hk), getD_app (by omega), ho k hk, cE_app (fun r hr => by rw [hl]; exact hw k _ (List.getElem?_eq_getElem hk) r hr)]
  · by_cases h2 : k = sh.length
    · subst h2
      rw [List.getElem?_append_right (by rw [cW_len]; exact Nat.le_refl _), cW_len, Nat.sub_self, cW_get (e := e) (by rw [List.getElem?_append_right (Nat.le_refl _), Nat.sub_self]; rfl), hx]
      have h3 : (al ++ [q]).getD sh.length 0 = q := by
        rw [List.getD_eq_getElem?_getD, List.getElem?_append_right (by omega), hl, Nat.sub_self]
        rfl
      rw [h3]
      rfl
    · rw [List.getElem?_eq_none (by simp [cW_len]; omega), List.getElem?_eq_none (by simp [cW_len]; omega)]
