/-! METHODS of java.lang.Math: the class has natives, these methods are plain -/
theorem Met.ofWF {l : Launch} {y : MethodName} {ws ws' : List Cond} {rm : Room} {Pc : Array Value → State → Prop} {Qc : Array Value → State → Outcome → State → Prop} {mc ms : Nat} {free : Addr → Prop} {cc : ByteArray} {maxL : Nat} {ret : Option FieldType}
    (hy : plainFor y = true) (hw : ws = Cond.code y cc maxL ret :: ws')
    (body : ∀ p e s m args below meth c s₁, BodyLoose p l y (headSpec ws rm) cc maxL ret e s m args below meth c s₁ → c.maxLocals = maxL → Pc args s →
      W p l e (headSpec ws rm).room s m args below meth c s.heap [] 0 0 (MQ below Qc args s mc ms free) (entryFrame m args maxL)) : Met l y ws rm Pc Qc mc ms free := by
  refine MetFree.of_bodySF (code := cc) (maxLocals := maxL) (ret := ret) hy ?_ ?_
  · intro args s m h hn
    obtain ⟨meth, c, h1, h2, h3, h4, h5, h6, -, -⟩ := Cond.code_spec hn (atoms_spec (ws := ws) h _ (by rw [hw]; exact List.mem_cons_self))
    exact ⟨meth, c, h1, h2, h3, h4, h5, h6⟩
  · intro p e s m args below meth c s₁ B hml hP _
    have hh0 : s₁.heap = s.heap := by rw [B.state]; rfl
    obtain ⟨t, a1, o, b1, b2, b3⟩ := body p e s m args below meth c s₁ B hml hP s₁ hh0 (Stand.of_body B)
    exact ⟨t, o, a1, b1, b2, ⟨b3.1, b3.2⟩⟩
theorem aMet_ofF {l : Launch} {D : va_G} {cA : FieldType → ClassId} {ad adV : Nat → Nat} {z0 : Nat} {N : aMI} {fr lo mc ms : Nat} {as : List aV} {sh : List aE} {mm : aM} {r : Option aV} {sh' : List aE} {mm' : aM} (hpl : plainFor N.1 = true) (hpc : aPc N 0 = 0) (hw : aWords as ≤ N.2.2.1)
    (body : ∀ (p : Program) (e : Env) (s : State) (m : MethodId) (args : Array Value) (below : List Frame) (meth : Method) (c : Code) (al : List Nat), aK p s m args meth c N D cA ad adV z0 → AW p l e { frames := fr, cells := mc, slots := ms, locals := lo } s m args below meth c (MQ below (aQc D cA ad z0 al r sh' mm') args s mc ms (aA z0)) D cA ad z0 N al 0 (aArgs 0 as) [] sh mm 0 0) : aMet l D cA ad adV z0 N fr lo mc ms as sh mm r sh' mm' := by
  intro al has
  refine Met.ofWF (cc := N.2.1) (maxL := N.2.2.1) (ret := N.2.2.2.1) hpl rfl ?_
  intro p e s m args below meth c s₁ B hml hv
  obtain ⟨rfl, hP, hK, hD, hz, hal, hwf, hx⟩ := hv
  have hts := atoms_spec (ws := aWs N) B.pre
  have K : aK p s m (cS al ad as).toArray meth c N D cA ad adV z0 := ⟨B.exec, B.bytes, hml, findClass_of_methodNamed B.named, fun w hw => hts w (List.mem_cons_of_mem _ hw), B.notSynchronized, B.returns, (name_of_methodNamed B.named B.method).1, hK, hz, hx⟩
  have hl := lv_entry (cS al ad as) (n := N.2.2.1) (by rw [lg_sl_len]; exact hw)
  rw [← cL_args] at hl
  rw [lg_entry_eq]
  have k2 := body p e s m (cS al ad as).toArray below meth c al K s.heap [] _ ⟨hP, hD, va_S.rf, hal, hwf⟩ (fun v hv => by cases hv) ?_ hl
  · rw [hpc] at k2
    exact k2
  · have aux : ∀ (as : List aV) (k : Nat), (∀ v ∈ as, aVin sh.length v) → ∀ q ∈ aArgs k as, aVin sh.length q.2 := by
      intro as
      induction as with
      | nil => intro k _ q hq; cases hq
      | cons v r ih =>
        intro k h q hq
        rcases List.mem_cons.mp hq with e | e
        · rw [e]; exact in_1 h
        · exact ih _ (in_t h) q e
    exact aux as 0 has
theorem aMet_ofGF {l : Launch} {D : va_G} {cA : FieldType → ClassId} {ad adV : Nat → Nat} {z0 : Nat} {N : aMI} {fr lo : Nat} {as : List aV} {mm : aM} {α : Type} {ρ : α → Option aV × aM} {code : Option α} {r : α} (hpl : plainFor N.1 = true) (hpc : aPc N 0 = 0) (hw : aWords as ≤ N.2.2.1) (h : code = some r)
    (body : ∀ (p : Program) (e : Env) (s : State) (m : MethodId) (args : Array Value) (below : List Frame) (meth : Method) (c : Code) (al : List Nat), aK p s m args meth c N D cA ad adV z0 → aG p l e { frames := fr, cells := 0, slots := 0, locals := lo } s m args below meth c D cA ad z0 N al ρ code 0 (aArgs 0 as) [] mm) : aMet l D cA ad adV z0 N fr lo 0 0 as SH mm (ρ r).1 SH (ρ r).2 :=
  aMet_ofF hpl hpc hw (fun p e s m args below meth c al K => by
    have h2 := body p e s m args below meth c al K [] r h
    rw [List.append_nil] at h2
    exact h2)
