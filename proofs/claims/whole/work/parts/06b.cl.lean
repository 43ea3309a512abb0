/-- each class's rows stand in the tables -/
theorem cl_in : ∀ (ci : Nat) (q : vw_C), vwCl[ci]? = some q → ∀ w ∈ u_ws q.1 q.2.1 q.2.2, w ∈ aTbl := by
  have h : vwCl.all (fun q => (u_ws q.1 q.2.1 q.2.2).all (fun w => decide (w ∈ aTbl))) = true := by decide +kernel
  intro ci q hq w hw
  have h1 := List.all_eq_true.mp h q (List.mem_of_getElem? hq)
  exact of_decide_eq_true (List.all_eq_true.mp h1 w hw)
def clTy (ci k : Nat) : FieldType := match vwCl[ci]? with
  | none => .int
  | some q => (parseFieldDescriptor (q.2.1 k).2.2.1).getD .int
theorem cl_ty : ∀ (ci : Nat) (q : vw_C), vwCl[ci]? = some q → ∀ k, k < q.2.2 → parseFieldDescriptor (q.2.1 k).2.2.1 = some (clTy ci k) := by
  have h : vwCl.all (fun q => (List.range q.2.2).all (fun k => (parseFieldDescriptor (q.2.1 k).2.2.1).isSome)) = true := by decide +kernel
  intro ci q hq k hk
  have h1 := List.all_eq_true.mp (List.all_eq_true.mp h q (List.mem_of_getElem? hq)) k (List.mem_range.mpr hk)
  unfold clTy
  rw [hq]
  cases hp : parseFieldDescriptor (q.2.1 k).2.2.1 with
  | none => rw [hp] at h1; cases h1
  | some ty => simp [hp]
theorem cl_nm : ∀ (ci : Nat) (q : vw_C), vwCl[ci]? = some q → ∀ a, a < q.2.2 → ∀ b, b < q.2.2 → a ≠ b → (q.2.1 a).2.1 ≠ (q.2.1 b).2.1 := by
  have h : vwCl.all (fun q => (List.range q.2.2).all (fun a => (List.range q.2.2).all (fun b => decide (a ≠ b → (q.2.1 a).2.1 ≠ (q.2.1 b).2.1)))) = true := by decide +kernel
  intro ci q hq a ha b hb
  exact of_decide_eq_true (List.all_eq_true.mp (List.all_eq_true.mp (List.all_eq_true.mp h q (List.mem_of_getElem? hq)) a (List.mem_range.mpr ha)) b (List.mem_range.mpr hb))
