/-! SMALL ROWS that the printed texts use -/
theorem i32 (n : Int) (h : decide (-2147483648 ≤ n ∧ n < 2147483648) = true) : in32 n := (of_decide_eq_true h : -2147483648 ≤ n ∧ n < 2147483648)
theorem i64 (n : Int) (h : decide (-9223372036854775808 ≤ n ∧ n < 9223372036854775808) = true) : in64 n := (of_decide_eq_true h : -9223372036854775808 ≤ n ∧ n < 9223372036854775808)
theorem aln_lt (r : Nat) : ((aln r : Nat) : Int) < 2147483648 := by
  unfold aln
  split
  · next ty n h =>
    have : SH.all (fun e => match e with | .inl (_, n) => decide (n < 100000) | .inr (.inl n) => decide (n < 100000) | _ => true) = true := by decide +kernel
    have h2 := List.all_eq_true.mp this _ (List.mem_of_getElem? h)
    simp at h2
    omega
  · next n h =>
    have : SH.all (fun e => match e with | .inl (_, n) => decide (n < 100000) | .inr (.inl n) => decide (n < 100000) | _ => true) = true := by decide +kernel
    have h2 := List.all_eq_true.mp this _ (List.mem_of_getElem? h)
    simp at h2
    omega
  · decide
section AH
variable {p : Program} {l : Launch} {e : Env} {R : Room} {s : State} {m : MethodId} {args : Array Value} {below : List Frame} {meth : Method} {c : Code} {Q : State → Prop} {D : va_G} {cA : FieldType → ClassId} {ad adV : Nat → Nat} {z0 : Nat} {M : aMI} {al al0 : List Nat} {i : Nat} {lv : List (Nat × aV)} {st : List aV} {sh : List aE} {mm : aM} {nc ns : Nat} {α : Type} {ρ : α → Option aV × aM}
theorem aw_bip (K : aK p s m args meth c M D cA ad adV z0) {n v : Int} (hd : aD M i (.bipush n) 2) (hv : w8 n = v) (k : AW p l e R s m args below meth c Q D cA ad z0 M al (i + 1) lv (.inl v :: st) sh mm nc ns) : AW p l e R s m args below meth c Q D cA ad z0 M al i lv st sh mm nc ns := by
  subst hv
  exact aw_bipush K hd k
theorem aw_sip (K : aK p s m args meth c M D cA ad adV z0) {n v : Int} (hd : aD M i (.sipush n) 3) (hv : w16 n = v) (k : AW p l e R s m args below meth c Q D cA ad z0 M al (i + 1) lv (.inl v :: st) sh mm nc ns) : AW p l e R s m args below meth c Q D cA ad z0 M al i lv st sh mm nc ns := by
  subst hv
  exact aw_sipush K hd k
theorem aw_lcn (K : aK p s m args meth c M D cA ad adV z0) {n : Fin 2} {v : Int} (hd : aD M i (.lconst n) 1) (hv : ((n : Nat) : Int) = v) (k : AW p l e R s m args below meth c Q D cA ad z0 M al (i + 1) lv (.inr (.inl v) :: st) sh mm nc ns) : AW p l e R s m args below meth c Q D cA ad z0 M al i lv st sh mm nc ns := by
  subst hv
  exact aw_lconst K hd k
theorem g_st1 {m' : aM} {k : aM → Option α} (h : aG p l e R s m args below meth c D cA ad z0 M al0 ρ (k m') i lv st mm) : aG p l e R s m args below meth c D cA ad z0 M al0 ρ (st1 m' k) i lv st mm := h
end AH
/-! strings -/
def sLen (k : Nat) : Option Int := some ((aLen.getD k 0 : Nat) : Int)
def sChr (k : Nat) (j : Int) : Option Int := if 0 ≤ j ∧ j < (aLen.getD k 0 : Nat) then some (aChr k j.toNat) else none
theorem aJ_of {M : aMI} {i t : Nat} {off : Int} (h : (aPc M i : Int) + off = (aPc M t : Int)) : aJ M i t off := h
