theorem xT : (Jvm.Cond.arrayOver (Jvm.ClassFile.FieldType.object "OneBreath$Tongue")) ∈ lw_tbl := List.mem_append_right _ (List.mem_append_right _ (List.mem_append_right _ (List.mem_append_left _ (List.mem_of_getElem? (i := 61) rfl))))
theorem xS : (Jvm.Cond.arrayOver (Jvm.ClassFile.FieldType.object "OneBreath$Sounds")) ∈ lw_tbl := List.mem_append_right _ (List.mem_append_right _ (List.mem_append_left _ (List.mem_of_getElem? (i := 199) rfl)))
theorem xB : (Jvm.Cond.arrayOver (Jvm.ClassFile.FieldType.array Jvm.ClassFile.FieldType.byte)) ∈ lw_tbl := List.mem_append_right _ (List.mem_append_left _ (List.mem_of_getElem? (i := 45) rfl))
theorem xL : (Jvm.Cond.arrayOver (Jvm.ClassFile.FieldType.array Jvm.ClassFile.FieldType.long)) ∈ lw_tbl := List.mem_append_right _ (List.mem_append_left _ (List.mem_of_getElem? (i := 234) rfl))
theorem xC : (Jvm.Cond.laysStatic "java/lang/String" "COMPACT_STRINGS" "Z") ∈ lw_tbl := List.mem_append_right _ (List.mem_append_right _ (List.mem_append_right _ (List.mem_append_left _ (List.mem_of_getElem? (i := 158) rfl))))
theorem xF : (Jvm.Cond.laysStatic "jdk/internal/util/Preconditions" "SIOOBE_FORMATTER" "Ljava/util/function/BiFunction;") ∈ lw_tbl := List.mem_append_right _ (List.mem_append_right _ (List.mem_append_right _ (List.mem_append_left _ (List.mem_of_getElem? (i := 174) rfl))))
theorem xr0 : (Jvm.Cond.stringRef "OneBreath$Tape" (78 : Nat) "sounds") ∈ lw_tbl := List.mem_append_right _ (List.mem_append_right _ (List.mem_append_right _ (List.mem_append_left _ (List.mem_of_getElem? (i := 144) rfl))))
theorem xr1 : (Jvm.Cond.stringRef "OneBreath$Tape" (87 : Nat) "never") ∈ lw_tbl := List.mem_append_right _ (List.mem_append_right _ (List.mem_append_right _ (List.mem_append_left _ (List.mem_of_getElem? (i := 209) rfl))))
theorem xr2 : (Jvm.Cond.stringRef "OneBreath$Tape" (92 : Nat) "last") ∈ lw_tbl := List.mem_append_right _ (List.mem_append_right _ (List.mem_append_right _ (List.mem_append_left _ (List.mem_of_getElem? (i := 218) rfl))))
theorem xr3 : (Jvm.Cond.stringRef "OneBreath$Tape" (99 : Nat) "open") ∈ lw_tbl := List.mem_append_right _ (List.mem_append_right _ (List.mem_append_right _ (List.mem_append_left _ (List.mem_of_getElem? (i := 223) rfl))))
theorem xr4 : (Jvm.Cond.stringRef "OneBreath$Tape" (104 : Nat) "like") ∈ lw_tbl := List.mem_append_right _ (List.mem_append_right _ (List.mem_append_right _ (List.mem_append_left _ (List.mem_of_getElem? (i := 236) rfl))))
theorem xr5 : (Jvm.Cond.stringRef "OneBreath$Tape" (109 : Nat) "word") ∈ lw_tbl := List.mem_append_right _ (List.mem_append_right _ (List.mem_append_right _ (List.mem_append_right _ (List.mem_append_left _ (List.mem_of_getElem? (i := 5) rfl)))))
theorem xr6 : (Jvm.Cond.stringRef "OneBreath$Tape" (114 : Nat) "shape") ∈ lw_tbl := List.mem_append_right _ (List.mem_append_right _ (List.mem_append_right _ (List.mem_append_right _ (List.mem_append_left _ (List.mem_of_getElem? (i := 24) rfl)))))
theorem xr7 : (Jvm.Cond.stringRef "OneBreath$Tape" (155 : Nat) "use") ∈ lw_tbl := List.mem_append_right _ (List.mem_append_right _ (List.mem_append_right _ (List.mem_append_right _ (List.mem_append_left _ (List.mem_of_getElem? (i := 18) rfl)))))
theorem xr8 : (Jvm.Cond.stringRef "OneBreath$Tape" (167 : Nat) "kind") ∈ lw_tbl := List.mem_append_right _ (List.mem_append_right _ (List.mem_append_right _ (List.mem_append_right _ (List.mem_append_left _ (List.mem_of_getElem? (i := 23) rfl)))))
theorem xr9 : (Jvm.Cond.stringRef "OneBreathModel" (119 : Nat) " sounds open like word use kind never last shape ") ∈ lw_tbl := List.mem_append_right _ (List.mem_append_right _ (List.mem_append_right _ (List.mem_append_right _ (List.mem_append_right _ (List.mem_append_right _ (List.mem_append_right _ (List.mem_append_left _ (List.mem_of_getElem? (i := 147) rfl))))))))
theorem cl_inst : ∀ (ci : Nat) (q : vw_C), vwCl[ci]? = some q → Cond.instantiable q.1 q.2.2 ∈ aTbl := by
  intro ci q hq
  match ci, hq with
  | 0, hq => cases hq; exact wd_441
  | 1, hq => cases hq; exact wd_337
  | 2, hq => cases hq; exact wd_373
  | 3, hq => cases hq; exact wd_380
  | 4, hq => cases hq; exact wd_358
  | 5, hq => cases hq; exact wd_307
  | 6, hq => cases hq; exact wd_290
  | 7, hq => cases hq; exact wd_170
  | 8, hq => cases hq; exact wd_175
  | 9, hq => cases hq; exact wd_386
  | 10, hq => cases hq; exact wd_320
  | 11, hq => cases hq; exact wd_162
  | 12, hq => cases hq; exact wd_1199
  | n + 13, hq => simp [vwCl] at hq
def R_law : String := "OneBreathLaw"
def lw_P (b : Addr) (xs : List Int32) (args : Array Value) (s : State) : Prop := args = #[.ref b] ∧ s.IntsAt b xs ∧ xs.length ≤ 384 ∧ (Jvm.Cond.and given_1 narrow_1).before args s = true
def lw_Q (_ : Array Value) (s : State) (o : Outcome) (t : State) : Prop := o = .returned (some (.int 1)) ∧ Framed s o t [] 600000 7302250
def lw_Z (below : List Frame) (a : Array Value) (s : State) : State → Prop := fun t => ∃ o, t.status = .running ∧ Ended t below o ∧ lw_Q a s o t
/-- the law's own end, with 1 on the stack, nothing written that was there before, its room as the claim has it -/
theorem lw_ret {p : Program} {l : Launch} {e : Env} {s : State} {m : MethodId} {below : List Frame} {meth : Method} {c : Code} {b : Nat} (hx : p.tables.exec = Jvm.exec) (hb : c.code = code) (hr : meth.sig.returnType = ret) (hlocks : meth.locks = false) {pc : Nat} {H : Heap} {ls : Array Slot} (hdg : decode code pc = .ok (.ireturn, 1)) : W p l e room_1 s m #[Value.ref b] below meth c H [] 600000 7302250 (lw_Z below #[Value.ref b] s) (F0 m pc ls [.int 1]) := by
  intro T hT X
  obtain ⟨fs, hret, hrun, hended, hW, hframe⟩ := X.leave (v := some (.int 1)) (hlocks := hlocks) (fun h => by rw [hr] at h; cases h)
  have hmeth' : T.vm.method? m = some meth := X.method'
  refine ⟨T.setFrames fs, ?_, .returned (some (.int 1)), hrun, hended, rfl, ⟨_, rfl⟩, hW, hframe⟩
  jvm_step X.here [X.here.top, hx, hb, hdg, hmeth', hr, ret, narrow_b1]
  (try refine ⟨rfl, ?_⟩); (try refine ⟨rfl, ?_⟩)
  first | (intro acts; rw [hret _ acts rfl rfl rfl]) | rw [hret _ _ rfl rfl rfl]
  exact Steps.refl _
/-- what holds at the law's entry: the machine, the code, the tables' words (any of lw_tbl by 'hts w (by decide +kernel)'), the script of L ints xs at the cell b, what the Statement gives of the start (any of its parts by flat_of_before) -/
def lw_At (p : Program) (s : State) (m : MethodId) (meth : Method) (c : Code) (b L : Nat) (xs : Nat → Int32) : Prop :=
  p.tables.exec = Jvm.exec ∧ c.code = code ∧ meth.sig.returnType = ret ∧ c.maxLocals = 4 ∧ s.vm.findClass R_law = some m.cls ∧ (∀ w ∈ lw_tbl, w.before #[Value.ref b] s = true) ∧ va_X b L xs s s.heap ∧ b < s.heap.size ∧ meth.locks = false ∧ (Jvm.Cond.and given_1 narrow_1).before #[Value.ref b] s = true
theorem start_cls {s : State} {args : Array Value} (hts : ∀ w ∈ aTbl, w.before args s = true) : ∃ D : va_G, ∀ (k : Nat) (q : vw_C), vwCl[k]? = some q → u_Kn s q.1 q.2.1 q.2.2 (D.1 k) (D.2 k) := by
  have h0 : ∀ k : Nat, ∃ d : ClassId × (Nat → Nat), ∀ q : vw_C, vwCl[k]? = some q → u_Kn s q.1 q.2.1 q.2.2 d.1 d.2 := by
    intro k
    cases hq : vwCl[k]? with
    | none => exact ⟨(0, fun _ => 0), fun q h => by cases h⟩
    | some q =>
      obtain ⟨cC, iS, h⟩ := u_known (C := q.1) (T := q.2.1) (N := q.2.2) (n := q.2.2) hts (cl_in k q hq) (hts _ (cl_inst k q hq))
      exact ⟨(cC, iS), fun q' h' => by cases h'; exact h⟩
  obtain ⟨d, hd⟩ := Classical.axiomOfChoice h0
  exact ⟨(fun k => (d k).1, fun k => (d k).2), fun k q h => hd k q h⟩
theorem start_arr {s : State} {args : Array Value} (hts : ∀ w ∈ lw_tbl, w.before args s = true) : ∃ cA : FieldType → ClassId, ∀ ty ∈ aTL, ArrOfT s (cA ty) ty ∧ va_RA s (cA ty) ty := by
  have h0 : ∀ ty : FieldType, ∃ x : ClassId, ty ∈ aTL → ArrOfT s x ty ∧ va_RA s x ty := by
    intro ty
    by_cases hty : ty ∈ aTL
    · have prim : ∀ t : FieldType, (Cond.arrayClass t).before args s = true → ∃ x, ArrOfT s x t ∧ s.vm.findClass ("[" ++ t.toString) = some x := by
        intro t h
        obtain ⟨x, k, comp, h1, h2, h3⟩ := Cond.arrayClass_spec h
        exact ⟨x, fun n z => ⟨fun k h => (by cases h), k, h2, comp, h3⟩, h1⟩
      have arr : ∀ t : FieldType, (Cond.arrayOver (.array t)).before args s = true → ∃ x, ArrOfT s x (.array t) ∧ s.vm.findClass ("[" ++ (FieldType.array t).toString) = some x := by
        intro t h
        obtain ⟨comp, x, k, h1, h2, h3, h4⟩ := Cond.arrayOver_specA h
        exact ⟨x, fun n z => ⟨fun k h => (by cases h), k, h2, comp, h3⟩, h4⟩
      have obj : ∀ C : String, (Cond.arrayOver (.object C)).before args s = true → ∃ x, ArrOfT s x (.object C) ∧ va_RA s x (.object C) := by
        intro C h
        obtain ⟨comp, x, k, h1, h2, h3, h4, h5⟩ := Cond.arrayOver_spec h
        exact ⟨x, fun n z => ⟨fun k h => (by cases h), k, h3, comp, h4⟩, k, comp, h3, h4, h1, h5⟩
      simp only [aTL, List.mem_cons, List.not_mem_nil, or_false] at hty
      rcases hty with rfl | rfl | rfl | rfl | rfl | rfl | rfl | rfl | rfl
      · obtain ⟨x, h1, h2⟩ := prim .int (hts _ (aTbl_in wd_273)); exact ⟨x, fun _ => ⟨h1, h2⟩⟩
      · obtain ⟨x, h1, h2⟩ := prim .byte (hts _ (aTbl_in wd_272)); exact ⟨x, fun _ => ⟨h1, h2⟩⟩
      · obtain ⟨x, h1, h2⟩ := prim .boolean (hts _ (aTbl_in wd_439)); exact ⟨x, fun _ => ⟨h1, h2⟩⟩
      · obtain ⟨x, h1, h2⟩ := prim .short (hts _ (aTbl_in wd_411)); exact ⟨x, fun _ => ⟨h1, h2⟩⟩
      · obtain ⟨x, h1, h2⟩ := prim .long (hts _ (aTbl_in wd_318)); exact ⟨x, fun _ => ⟨h1, h2⟩⟩
      · obtain ⟨x, h1, h2⟩ := arr .byte (hts _ xB); exact ⟨x, fun _ => ⟨h1, h2⟩⟩
      · obtain ⟨x, h1, h2⟩ := arr .long (hts _ xL); exact ⟨x, fun _ => ⟨h1, h2⟩⟩
      · obtain ⟨x, h1, h2⟩ := obj _ (hts _ xT); exact ⟨x, fun _ => ⟨h1, h2⟩⟩
      · obtain ⟨x, h1, h2⟩ := obj _ (hts _ xS); exact ⟨x, fun _ => ⟨h1, h2⟩⟩
    · exact ⟨0, fun h => absurd h hty⟩
  obtain ⟨cA, h⟩ := Classical.axiomOfChoice h0
  exact ⟨cA, fun ty hty => h ty hty⟩
def aTm (i : Nat) : Term := match aStr[i]? with
  | some q => .string q.1 q.2.1
  | none => .string "" 0
theorem start_str {s : State} {args : Array Value} {A : Nat → Prop} (hgv : (Jvm.Cond.and given_1 narrow_1).before args s = true) (hA : ∀ a : Nat, a < s.heap.size → ¬ A a) : ∃ adK adV : Nat → Nat, vk_S 10 aLen aByt adK adV A s s.heap ∧ ∀ i : Nat, i < 10 → (aTm i).eval args s none [] s = some (.ref (adK i)) := by
  have hs := flat_of_before _ hgv
  have q1 : ∀ i : Nat, i < 10 → Cond.exactly (aTm i) "java/lang/String" ∈ flatC (Jvm.Cond.and given_1 narrow_1) := by decide +kernel
  have q2 : ∀ i : Nat, i < 10 → Cond.eq (.field (aTm i) "java/lang/String" "coder" "B") (.int 0) ∈ flatC (Jvm.Cond.and given_1 narrow_1) := by decide +kernel
  have q3 : ∀ i : Nat, i < 10 → Cond.arrayOf (.field (aTm i) "java/lang/String" "value" "[B") .byte ∈ flatC (Jvm.Cond.and given_1 narrow_1) := by decide +kernel
  have q4 : ∀ i : Nat, i < 10 → Cond.eq (.length (.field (aTm i) "java/lang/String" "value" "[B")) (.int (Int32.ofNat (aLen.getD i 0))) ∈ flatC (Jvm.Cond.and given_1 narrow_1) := by decide +kernel
  have q5 : ∀ i : Nat, i < 10 → ∀ j : Nat, j < aLen.getD i 0 → Cond.eq (.elem (.field (aTm i) "java/lang/String" "value" "[B") (.int (Int32.ofNat j))) (.int ((aByt.getD i []).getD j 0)) ∈ flatC (Jvm.Cond.and given_1 narrow_1) := by decide +kernel
  have q6 : ∀ i : Nat, i < 10 → ∀ j : Nat, j < 10 → i ≠ j → (Cond.not (Cond.eq (aTm i) (aTm j)) ∈ flatC (Jvm.Cond.and given_1 narrow_1) ∨ Cond.not (Cond.eq (aTm j) (aTm i)) ∈ flatC (Jvm.Cond.and given_1 narrow_1)) := by decide +kernel
  exact vk_Sof (tm := aTm) (by decide +kernel) (fun i hi => hs _ (q1 i hi)) (fun i hi => hs _ (q2 i hi)) (fun i hi => hs _ (q3 i hi)) (fun i hi => hs _ (q4 i hi)) (fun i hi j hj => hs _ (q5 i hi j hj)) (fun i j hi hj hij => (q6 i hi j hj hij).imp (hs _) (hs _)) hA
set_option maxRecDepth 20000 in
theorem start_K {p : Program} {s : State} {m : MethodId} {meth : Method} {c : Code} {b L : Nat} {xs : Nat → Int32} (C0 : lw_At p s m meth c b L xs) : ∃ (D : va_G) (cA : FieldType → ClassId) (ad adV : Nat → Nat), aK p s m #[Value.ref b] meth c (mL_law meth.name) D cA ad adV s.heap.size ∧ ad 21 = b := by
  obtain ⟨hx, hb, hr, hml, hown, hts, hX, hbl, hlocks, hgv⟩ := C0
  have hta : ∀ w ∈ aTbl, w.before #[Value.ref b] s = true := fun w h => hts w (aTbl_in h)
  have hA : ∀ a : Nat, a < s.heap.size → ¬ aA s.heap.size a := fun a h h2 => absurd h2 (Nat.not_le.mpr h)
  obtain ⟨D, hD⟩ := start_cls hta
  obtain ⟨cA, hcA⟩ := start_arr hts
  obtain ⟨adK, adV, hS, hT⟩ := start_str (A := aA s.heap.size) hgv hA
  have hZ : va_Z "java/lang/String" "COMPACT_STRINGS" "Z" (.int 1) (aA s.heap.size) s s.heap := va_Zof (hts _ xC) (hta _ wd_153) (va_eqi (flat_of_before _ hgv _ (by decide +kernel))) hA
  have hQ : va_Zq "jdk/internal/util/Preconditions" "SIOOBE_FORMATTER" "Ljava/util/function/BiFunction;" (aA s.heap.size) s s.heap := va_Zqof (hts _ xF) (hta _ wd_155) (flat_of_before _ hgv _ (by decide +kernel)) hA
  obtain ⟨tq, hQ⟩ : ∃ tq : Nat, va_Z "jdk/internal/util/Preconditions" "SIOOBE_FORMATTER" "Ljava/util/function/BiFunction;" .null (aA s.heap.size) s s.heap ∨ va_Z "jdk/internal/util/Preconditions" "SIOOBE_FORMATTER" "Ljava/util/function/BiFunction;" (.ref tq) (aA s.heap.size) s s.heap := by
    rcases hQ with h | ⟨t, h⟩
    · exact ⟨0, Or.inl h⟩
    · exact ⟨t, Or.inr h⟩
  refine ⟨D, cA, fun k => if k < 10 then adK k else if k < 20 then adV (k - 10) else if k = 20 then tq else b, fun k => if k < 10 then adV k else if k = 10 then tq else b, ⟨hx, hb, hml, hown, hta, hlocks, hr, rfl, ⟨hD, fun k q hk => ?_⟩, Nat.le_refl _, fun w hw hn => ?_, hts _ xT, hts _ xS, hts _ xB, hts _ xL, hZ, hQ, fun k => ?_, ?_, ?_⟩, rfl⟩
  · obtain ⟨ty, hty, rfl⟩ := List.mem_map.mp (List.mem_of_getElem? hk)
    exact hcA ty hty
  · have h := hts w hw
    cases w with
    | methodLinkNest a b c d => exact va_Nw.of rfl h
    | _ => exact absurd hn (by simp [aIsNest])
  · show (if k < 10 then adV k else if k = 10 then tq else b) = (if k + 10 < 10 then adK (k + 10) else if k + 10 < 20 then adV (k + 10 - 10) else if k + 10 = 20 then tq else b)
    have n1 : ¬ k + 10 < 10 := by omega
    by_cases h1 : k < 10
    · have n2 : k + 10 < 20 := by omega
      simp only [h1, n1, n2, if_true, if_false, Nat.add_sub_cancel]
    · have n2 : ¬ k + 10 < 20 := by omega
      by_cases h2 : k = 10
      · have n3 : k + 10 = 20 := by omega
        simp only [h1, n1, n2, h2, n3, if_true, if_false]
        rfl
      · have n3 : ¬ k + 10 = 20 := by omega
        simp only [h1, n1, n2, h2, n3, if_false]
  · refine ⟨fun i hi => ?_, fun i j hi hj he => ?_⟩
    · have h := hS.1 i hi
      simp only [hi, if_true]
      exact h
    · simp only [hi, hj, if_true] at he
      exact hS.2 i j hi hj he
  · intro k q hk
    have hk10 : k < 10 := (List.getElem?_eq_some_iff.mp hk).1
    simp only [hk10, if_true]
    refine vk_R.of (A := #[Value.ref b]) ?_ ?_
    · match k, hk with
      | 0, hk => cases hk; exact hts _ xr0
      | 1, hk => cases hk; exact hts _ xr1
      | 2, hk => cases hk; exact hts _ xr2
      | 3, hk => cases hk; exact hts _ xr3
      | 4, hk => cases hk; exact hts _ xr4
      | 5, hk => cases hk; exact hts _ xr5
      | 6, hk => cases hk; exact hts _ xr6
      | 7, hk => cases hk; exact hts _ xr7
      | 8, hk => cases hk; exact hts _ xr8
      | 9, hk => cases hk; exact hts _ xr9
    · have h := hT k hk10
      unfold aTm at h
      rw [hk] at h
      exact h
