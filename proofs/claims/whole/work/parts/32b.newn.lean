/-! NEW CELLS by their number -/
section AWY
variable {p : Program} {l : Launch} {e : Env} {R : Room} {s : State} {m : MethodId} {args : Array Value} {below : List Frame} {meth : Method} {c : Code} {Q : State → Prop} {D : va_G} {cA : FieldType → ClassId} {ad adV : Nat → Nat} {z0 : Nat} {M : aMI} {al : List Nat} {i : Nat} {lv : List (Nat × aV)} {st : List aV} {sh : List aE} {mm : aM} {nc ns : Nat}
theorem aw_newaN (K : aK p s m args meth c M D cA ad adV z0) {at0 : ArrayType} {ty : FieldType} {n : Nat} (hd : aD M i (.newarray at0) 2) (hty : newarray.typeOf at0 = ty) (ht : ty = .int ∨ ty = .byte ∨ ty = .boolean ∨ ty = .short) (hin : Cond.arrayClass ty ∈ aTbl) (hn : n ≤ 60000) (hc : nc + 1 ≤ R.cells) (hs : ns + n ≤ R.slots) (n0 : Nat) (h0 : sh.length = n0)
    (kk : ∀ q, AW p l e R s m args below meth c Q D cA ad z0 M (al ++ [q]) (i + 1) lv (.inr (.inr (.inl (some n0))) :: st) (sh ++ [.inl (ty, n)]) (aNew mm n0) (nc + 1) (ns + n)) : AW p l e R s m args below meth c Q D cA ad z0 M al i lv (.inl (n : Int) :: st) sh mm nc ns := by
  subst h0
  exact aw_newa K hd hty ht hin hn hc hs kk
theorem aw_newlN (K : aK p s m args meth c M D cA ad adV z0) {n : Nat} (hd : aD M i (.newarray .long) 2) (hin : Cond.arrayClass .long ∈ aTbl) (hn : n ≤ 60000) (hc : nc + 1 ≤ R.cells) (hs : ns + n ≤ R.slots) (n0 : Nat) (h0 : sh.length = n0)
    (kk : ∀ q, AW p l e R s m args below meth c Q D cA ad z0 M (al ++ [q]) (i + 1) lv (.inr (.inr (.inl (some n0))) :: st) (sh ++ [.inr (.inl n)]) (aNew mm n0) (nc + 1) (ns + n)) : AW p l e R s m args below meth c Q D cA ad z0 M al i lv (.inl (n : Int) :: st) sh mm nc ns := by
  subst h0
  exact aw_newl K hd hin hn hc hs kk
theorem aw_newqN (K : aK p s m args meth c M D cA ad adV z0) {idx n : Nat} {C : String} (hd : aD M i (.anewarray idx) 3) (hlink : Cond.classLink M.1.cls idx C ∈ aTbl) (hC : C = "OneBreath$Tongue" ∨ C = "OneBreath$Sounds") (hn : n ≤ 60000) (hc : nc + 1 ≤ R.cells) (hs : ns + n ≤ R.slots) (n0 : Nat) (h0 : sh.length = n0)
    (kk : ∀ q, AW p l e R s m args below meth c Q D cA ad z0 M (al ++ [q]) (i + 1) lv (.inr (.inr (.inl (some n0))) :: st) (sh ++ [.inr (.inr (.inl (.object C, List.replicate n none)))]) (aNew mm n0) (nc + 1) (ns + n)) : AW p l e R s m args below meth c Q D cA ad z0 M al i lv (.inl (n : Int) :: st) sh mm nc ns := by
  subst h0
  exact aw_newq K hd hlink hC hn hc hs kk
theorem aw_newN (K : aK p s m args meth c M D cA ad adV z0) {idx ci : Nat} {r : vw_C} (hd : aD M i (.new idx) 3) (hcl : vwCl[ci]? = some r) (hlink : Cond.classLink M.1.cls idx r.1 ∈ aTbl) (hinst : Cond.instantiable r.1 r.2.2 ∈ aTbl) (hini : Cond.initialized r.1 ∈ aTbl) (hty : ∀ k, k < r.2.2 → defaultValue (clTy ci k) = if (clTy ci k).isReference = true then .null else .int 0) (hc : nc + 1 ≤ R.cells) (hs : ns + r.2.2 ≤ R.slots) (n0 : Nat) (h0 : sh.length = n0)
    (kk : ∀ q, AW p l e R s m args below meth c Q D cA ad z0 M (al ++ [q]) (i + 1) lv (.inr (.inr (.inl (some n0))) :: st) (sh ++ [.inr (.inr (.inr (ci, aZero ci r.2.2)))]) (aNew mm n0) (nc + 1) (ns + r.2.2)) : AW p l e R s m args below meth c Q D cA ad z0 M al i lv st sh mm nc ns := by
  subst h0
  exact aw_new K hd hcl hlink hinst hini hty hc hs kk
theorem aw_mnaN (K : aK p s m args meth c M D cA ad adV z0) {idx n k : Nat} {ty : FieldType} {row : aE} (hd : aD M i (.multianewarray idx 2) 4) (hlink : Cond.classLink M.1.cls idx ("[" ++ (FieldType.array ty).toString) ∈ aTbl) (hty : (ty = .byte ∧ row = .inl (.byte, k)) ∨ (ty = .long ∧ row = .inr (.inl k))) (hin : Cond.arrayClass ty ∈ aTbl) (hn : n ≤ 60000) (hk : k ≤ 60000) (hc : nc + (1 + n) ≤ R.cells) (hs : ns + (n + n * k) ≤ R.slots) (n0 : Nat) (h0 : sh.length = n0)
    (kk : ∀ bl, AW p l e R s m args below meth c Q D cA ad z0 M (al ++ bl) (i + 1) lv (.inr (.inr (.inl (some n0))) :: st) (sh ++ (.inr (.inr (.inl (.array ty, (List.range n).map (fun j => some (n0 + 1 + j))))) :: List.replicate n row)) (aNewR mm n0 (1 + n)) (nc + 1 + n) (ns + n + n * k)) : AW p l e R s m args below meth c Q D cA ad z0 M al i lv (.inl (k : Int) :: .inl (n : Int) :: st) sh mm nc ns := by
  subst h0
  exact aw_mna K hd hlink hty hin hn hk hc hs kk
end AWY
