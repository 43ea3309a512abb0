/-! THE JUDGEMENT OVER THE ABSTRACT MACHINE: AW says W of every heap that holds the abstract world -/
/-- an instruction: itself, its pc, two numbers that are resolved for it, its targets (places in the method's list) -/
abbrev aI : Type := Instr × Nat × Nat × Int × List Nat
/-- a method: name, bytes, how many locals, what it returns, its instructions -/
abbrev aMI : Type := MethodName × ByteArray × Nat × Option FieldType × List aI
def aPc (M : aMI) (i : Nat) : Nat := (M.2.2.2.2.getD i (.nop, 0, 0, 0, [])).2.1
def aAt (M : aMI) (i : Nat) (I : Instr) (pc x : Nat) (y : Int) (tg : List Nat) : Prop := M.2.2.2.2[i]? = some (I, pc, x, y, tg)
theorem aAt.pc {M : aMI} {i : Nat} {I : Instr} {pc x : Nat} {y : Int} {tg : List Nat} (h : aAt M i I pc x y tg) : aPc M i = pc := by
  unfold aAt at h
  unfold aPc
  rw [List.getD_eq_getElem?_getD, h]
  rfl
/-- an instruction of n bytes stands at i, and the next one behind it -/
def aD (M : aMI) (i : Nat) (I : Instr) (n : Nat) : Prop := decode M.2.1 (aPc M i) = .ok (I, n) ∧ aPc M (i + 1) = aPc M i + n
/-- a branch at i: where it goes -/
def aJ (M : aMI) (i t : Nat) (off : Int) : Prop := (aPc M i : Int) + off = (aPc M t : Int)
abbrev aA (z0 : Nat) : Nat → Prop := fun q => z0 ≤ q
/-- the words that stay over calls -/
def aTbl : List Cond := lw_tbl.filter goodWord
theorem aTbl_in {w : Cond} (h : w ∈ aTbl) : w ∈ lw_tbl := (List.mem_filter.mp h).1
theorem aTbl_good : GoodIn aTbl aTbl := fun _ h => ⟨h, good_of_word (List.mem_filter.mp h).2⟩
def aIsNest : Cond → Bool
  | .methodLinkNest _ _ _ _ => true
  | _ => false
/-- the String constants: whose, which entry, text; how long, their bytes -/
def aStr : List (String × Nat × String) := [("OneBreath$Tape", 78, "sounds"), ("OneBreath$Tape", 87, "never"), ("OneBreath$Tape", 92, "last"), ("OneBreath$Tape", 99, "open"), ("OneBreath$Tape", 104, "like"), ("OneBreath$Tape", 109, "word"), ("OneBreath$Tape", 114, "shape"), ("OneBreath$Tape", 155, "use"), ("OneBreath$Tape", 167, "kind"), ("OneBreathModel", 119, " sounds open like word use kind never last shape ")]
def aByt : List (List Int32) := aStr.map (fun q => q.2.2.toList.map (fun ch => Int32.ofNat ch.toNat))
def aLen : List Nat := aByt.map List.length
/-- what the tables say beyond the words that stay -/
def aExt (ad adV : Nat → Nat) (z0 : Nat) (U : State) (H : Heap) : Prop :=
  (∀ w ∈ lw_tbl, aIsNest w = true → va_Nw w U) ∧ va_AO "OneBreath$Tongue" U ∧ va_AO "OneBreath$Sounds" U ∧ va_AOA .byte U ∧ va_AOA .long U ∧ va_Z "java/lang/String" "COMPACT_STRINGS" "Z" (.int 1) (aA z0) U H ∧ (va_Z "jdk/internal/util/Preconditions" "SIOOBE_FORMATTER" "Ljava/util/function/BiFunction;" .null (aA z0) U H ∨ va_Z "jdk/internal/util/Preconditions" "SIOOBE_FORMATTER" "Ljava/util/function/BiFunction;" (.ref (ad 20)) (aA z0) U H) ∧ (∀ k, adV k = ad (k + 10)) ∧ vk_S 10 aLen aByt ad adV (aA z0) U H ∧ ∀ k q, aStr[k]? = some q → vk_R q.1 q.2.1 q.2.2 (ad k) U
/-- what stays over a method's whole run -/
def aK (p : Program) (s : State) (m : MethodId) (args : Array Value) (meth : Method) (c : Code) (M : aMI) (D : va_G) (cA : FieldType → ClassId) (ad adV : Nat → Nat) (z0 : Nat) : Prop :=
  p.tables.exec = Jvm.exec ∧ c.code = M.2.1 ∧ c.maxLocals = M.2.2.1 ∧ s.vm.findClass M.1.cls = some m.cls ∧ (∀ w ∈ aTbl, w.before args s = true) ∧ meth.locks = false ∧ meth.sig.returnType = M.2.2.2.1 ∧ meth.name = M.1.name ∧ va_K D vwCl (aTys cA) s ∧ z0 ≤ s.heap.size ∧ aExt ad adV z0 s s.heap
def aW (D : va_G) (cA : FieldType → ClassId) (z0 : Nat) (al : List Nat) (sh : List aE) (mm : aM) (H0 H : Heap) (locs : List Loc) : Prop :=
  va_P D vwCl (cW cA al sh mm) H ∧ va_D (aA z0) (cW cA al sh mm) ∧ va_S (aA z0) H0 H locs ∧ al.length = sh.length ∧ aWf sh mm
def cL (al : List Nat) (ad : Nat → Nat) (lv : List (Nat × aV)) : List (Nat × Value) := lv.map (fun q => (q.1, cV al ad q.2))
def cS (al : List Nat) (ad : Nat → Nat) (st : List aV) : List Value := st.map (cV al ad)
def AW (p : Program) (l : Launch) (e : Env) (R : Room) (s : State) (m : MethodId) (args : Array Value) (below : List Frame) (meth : Method) (c : Code) (Q : State → Prop) (D : va_G) (cA : FieldType → ClassId) (ad : Nat → Nat) (z0 : Nat) (M : aMI) (al : List Nat) (i : Nat) (lv : List (Nat × aV)) (st : List aV) (sh : List aE) (mm : aM) (nc ns : Nat) : Prop :=
  ∀ (H : Heap) (locs : List Loc) (ls : Array Slot), aW D cA z0 al sh mm s.heap H locs → (∀ v ∈ st, aVin sh.length v) → (∀ q ∈ lv, aVin sh.length q.2) → lv_has ls M.2.2.1 (cL al ad lv) → W p l e R s m args below meth c H locs nc ns Q (F0 m (aPc M i) ls (cS al ad st))
/-- the value of a local -/
def aGet (lv : List (Nat × aV)) (i : Nat) : Option aV := (lv.find? (fun q => q.1 == i)).map (fun q => q.2)
theorem aGet_mem {lv : List (Nat × aV)} {i : Nat} {v : aV} (h : aGet lv i = some v) : (i, v) ∈ lv := by
  unfold aGet at h
  cases hf : lv.find? (fun q => q.1 == i) with
  | none => rw [hf] at h; cases h
  | some q =>
    rw [hf] at h
    have h1 := List.find?_some hf
    have h2 := List.mem_of_find?_eq_some hf
    have h3 : q.2 = v := Option.some.inj h
    have h4 : q.1 = i := by simpa using h1
    rw [← h3, ← h4]
    exact h2
theorem aGet_at {al : List Nat} {ad : Nat → Nat} {lv : List (Nat × aV)} {i n : Nat} {v : aV} {ls : Array Slot} (h : aGet lv i = some v) (hl : lv_has ls n (cL al ad lv)) : ls[i]? = some (.val (cV al ad v)) :=
  hl.2.2 (i, cV al ad v) (List.mem_map.mpr ⟨(i, v), aGet_mem h, rfl⟩)
def aCat : aV → Nat
  | .inr (.inl _) => 2
  | _ => 1
theorem cV_cat (al : List Nat) (ad : Nat → Nat) (v : aV) : (cV al ad v).category = aCat v := by
  rcases v with x | x | r | k
  · rfl
  · rfl
  · cases r <;> rfl
  · rfl
/-- a store into a local of one word, of two -/
def aPut (lv : List (Nat × aV)) (i : Nat) (v : aV) : List (Nat × aV) := (i, v) :: lv.filter (fun q => !(q.1 == i) && !(q.1 + 1 == i && aCat q.2 == 2))
def aPut2 (lv : List (Nat × aV)) (i : Nat) (v : aV) : List (Nat × aV) := (i, v) :: lv.filter (fun q => !(q.1 == i) && (!(q.1 == i + 1) && !(q.1 + 1 == i && aCat q.2 == 2)))
theorem cL_put (al : List Nat) (ad : Nat → Nat) (lv : List (Nat × aV)) (i : Nat) (v : aV) : (i, cV al ad v) :: (cL al ad lv).filter (fun q => !(q.1 == i) && !(q.1 + 1 == i && q.2.category == 2)) = cL al ad (aPut lv i v) := by
  unfold cL aPut
  rw [List.map_cons, List.filter_map]
  congr 3
  funext q
  simp only [Function.comp, cV_cat]
theorem cL_put2 (al : List Nat) (ad : Nat → Nat) (lv : List (Nat × aV)) (i : Nat) (v : aV) : (i, cV al ad v) :: (cL al ad lv).filter (fun q => !(q.1 == i) && (!(q.1 == i + 1) && !(q.1 + 1 == i && q.2.category == 2))) = cL al ad (aPut2 lv i v) := by
  unfold cL aPut2
  rw [List.map_cons, List.filter_map]
  congr 3
  funext q
  simp only [Function.comp, cV_cat]
theorem aPut_in {n : Nat} {lv : List (Nat × aV)} {i : Nat} {v : aV} (h : ∀ q ∈ lv, aVin n q.2) (hv : aVin n v) : ∀ q ∈ aPut lv i v, aVin n q.2 := by
  intro q hq
  rcases List.mem_cons.mp hq with h1 | h1
  · rw [h1]; exact hv
  · exact h q (List.mem_filter.mp h1).1
theorem aPut2_in {n : Nat} {lv : List (Nat × aV)} {i : Nat} {v : aV} (h : ∀ q ∈ lv, aVin n q.2) (hv : aVin n v) : ∀ q ∈ aPut2 lv i v, aVin n q.2 := by
  intro q hq
  rcases List.mem_cons.mp hq with h1 | h1
  · rw [h1]; exact hv
  · exact h q (List.mem_filter.mp h1).1
theorem in_c {n : Nat} {v : aV} {st : List aV} (hv : aVin n v) (h : ∀ x ∈ st, aVin n x) : ∀ x ∈ v :: st, aVin n x := List.forall_mem_cons.mpr ⟨hv, h⟩
theorem in_1 {n : Nat} {v : aV} {st : List aV} (h : ∀ x ∈ v :: st, aVin n x) : aVin n v := (List.forall_mem_cons.mp h).1
theorem in_t {n : Nat} {v : aV} {st : List aV} (h : ∀ x ∈ v :: st, aVin n x) : ∀ x ∈ st, aVin n x := (List.forall_mem_cons.mp h).2
section AWR
variable {p : Program} {l : Launch} {e : Env} {R : Room} {s : State} {m : MethodId} {args : Array Value} {below : List Frame} {meth : Method} {c : Code} {Q : State → Prop} {D : va_G} {cA : FieldType → ClassId} {ad adV : Nat → Nat} {z0 : Nat} {M : aMI} {al : List Nat} {i : Nat} {lv : List (Nat × aV)} {st : List aV} {sh : List aE} {mm : aM} {nc ns : Nat}
/-- a step that touches the stack alone -/
theorem aw_go {st st' : List aV} {i' : Nat} (hok : (∀ v ∈ st, aVin sh.length v) → (∀ q ∈ lv, aVin sh.length q.2) → ∀ v ∈ st', aVin sh.length v)
    (hrow : (∀ v ∈ st, aVin sh.length v) → ∀ (H : Heap) (locs : List Loc) (ls : Array Slot), lv_has ls M.2.2.1 (cL al ad lv) → W p l e R s m args below meth c H locs nc ns Q (F0 m (aPc M i') ls (cS al ad st')) → W p l e R s m args below meth c H locs nc ns Q (F0 m (aPc M i) ls (cS al ad st)))
    (k : AW p l e R s m args below meth c Q D cA ad z0 M al i' lv st' sh mm nc ns) : AW p l e R s m args below meth c Q D cA ad z0 M al i lv st sh mm nc ns := by
  intro H locs ls hW hst hlv hl
  exact hrow hst H locs ls hl (k H locs ls hW (hok hst hlv) hlv hl)
/-- a step that stores a local -/
theorem aw_lv {st st' : List aV} {lv lv' : List (Nat × aV)} {i' : Nat} (hok : (∀ v ∈ st, aVin sh.length v) → (∀ q ∈ lv, aVin sh.length q.2) → (∀ v ∈ st', aVin sh.length v) ∧ ∀ q ∈ lv', aVin sh.length q.2)
    (hrow : ∀ (H : Heap) (locs : List Loc) (ls : Array Slot), lv_has ls M.2.2.1 (cL al ad lv) → (∀ ls' : Array Slot, lv_has ls' M.2.2.1 (cL al ad lv') → W p l e R s m args below meth c H locs nc ns Q (F0 m (aPc M i') ls' (cS al ad st'))) → W p l e R s m args below meth c H locs nc ns Q (F0 m (aPc M i) ls (cS al ad st)))
    (k : AW p l e R s m args below meth c Q D cA ad z0 M al i' lv' st' sh mm nc ns) : AW p l e R s m args below meth c Q D cA ad z0 M al i lv st sh mm nc ns := by
  intro H locs ls hW hst hlv hl
  exact hrow H locs ls hl (fun ls' hl' => k H locs ls' hW (hok hst hlv).1 (hok hst hlv).2 hl')
end AWR
