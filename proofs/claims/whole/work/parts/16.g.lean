/-! THE JUDGEMENT aG: where the program text 'code' answers r, the machine comes to a return of r -/
def FU : Nat := 1000000
def st1 {α : Type} (m : aM) (k : aM → Option α) : Option α := k m
def rI (mm : aM) (v : Int) : Option aV × aM := (some (.inl v), mm)
def rIM (r : Int × aM) : Option aV × aM := (some (.inl r.1), r.2)
def rL (mm : aM) (v : Int) : Option aV × aM := (some (.inr (.inl v)), mm)
def rLM (r : Int × aM) : Option aV × aM := (some (.inr (.inl r.1)), r.2)
def rM (m : aM) : Option aV × aM := (none, m)
def aG (p : Program) (l : Launch) (e : Env) (R : Room) (s : State) (m : MethodId) (args : Array Value) (below : List Frame) (meth : Method) (c : Code) (D : va_G) (cA : FieldType → ClassId) (ad : Nat → Nat) (z0 : Nat) (M : aMI) (al0 : List Nat) {α : Type} (ρ : α → Option aV × aM) (code : Option α) (i : Nat) (lv : List (Nat × aV)) (st : List aV) (mm : aM) : Prop :=
  ∀ (bl : List Nat) (r : α), code = some r → AW p l e R s m args below meth c (MQ below (aQc D cA ad z0 al0 (ρ r).1 SH (ρ r).2) args s 0 0 (aA z0)) D cA ad z0 M (al0 ++ bl) i lv st SH mm 0 0
section AG
variable {p : Program} {l : Launch} {e : Env} {R : Room} {s : State} {m : MethodId} {args : Array Value} {below : List Frame} {meth : Method} {c : Code} {D : va_G} {cA : FieldType → ClassId} {ad adV : Nat → Nat} {z0 : Nat} {M : aMI} {al0 : List Nat} {i : Nat} {lv : List (Nat × aV)} {st : List aV} {mm : aM} {α β : Type} {ρ : α → Option aV × aM}
theorem gl {code : Option α} {i' : Nat} {lv' : List (Nat × aV)} {st' : List aV} {mm' : aM} (h : ∀ (al : List Nat) (Q : State → Prop), AW p l e R s m args below meth c Q D cA ad z0 M al i' lv' st' SH mm' 0 0 → AW p l e R s m args below meth c Q D cA ad z0 M al i lv st SH mm 0 0) (k : aG p l e R s m args below meth c D cA ad z0 M al0 ρ code i' lv' st' mm') : aG p l e R s m args below meth c D cA ad z0 M al0 ρ code i lv st mm := fun bl r hr => h _ _ (k bl r hr)
theorem g_none : aG p l e R s m args below meth c D cA ad z0 M al0 ρ none i lv st mm := fun _ _ h => by cases h
theorem g_gd {q : Prop} [Decidable q] {A : Option α} (h : q → aG p l e R s m args below meth c D cA ad z0 M al0 ρ (A) i lv st mm) : aG p l e R s m args below meth c D cA ad z0 M al0 ρ (if q then A else none) i lv st mm := fun bl r hr => by
  by_cases hq : q
  · rw [if_pos hq] at hr
    exact h hq bl r hr
  · rw [if_neg hq] at hr
    cases hr
theorem g_if {q : Prop} [Decidable q] {A B : Option α} (h : q → aG p l e R s m args below meth c D cA ad z0 M al0 ρ (A) i lv st mm) (h2 : ¬ q → aG p l e R s m args below meth c D cA ad z0 M al0 ρ (B) i lv st mm) : aG p l e R s m args below meth c D cA ad z0 M al0 ρ (if q then A else B) i lv st mm := fun bl r hr => by
  by_cases hq : q
  · rw [if_pos hq] at hr
    exact h hq bl r hr
  · rw [if_neg hq] at hr
    exact h2 hq bl r hr
theorem g_st {m' : aM} {k : aM → Option α} {lv' : List (Nat × aV)} (h : aG p l e R s m args below meth c D cA ad z0 M al0 ρ (k m') i lv st mm) : aG p l e R s m args below meth c D cA ad z0 M al0 ρ (st1 m' k) i lv st mm := h
/-- fewer locals -/
theorem aw_sub {Q : State → Prop} {al : List Nat} {lv' : List (Nat × aV)} (ks : List Nat) (hl : ks.filterMap (fun k => lv[k]?) = lv') (k : AW p l e R s m args below meth c Q D cA ad z0 M al i lv' st SH mm 0 0) : AW p l e R s m args below meth c Q D cA ad z0 M al i lv st SH mm 0 0 := by
  intro H locs ls hW hst hlv hls
  have hsub : ∀ q ∈ lv', q ∈ lv := by
    intro q hq
    rw [← hl] at hq
    obtain ⟨k9, -, hk9⟩ := List.mem_filterMap.mp hq
    exact List.mem_of_getElem? hk9
  refine k H locs ls hW hst (fun q hq => hlv q (hsub q hq)) ⟨hls.1, hls.2.1, fun q hq => ?_⟩
  obtain ⟨q9, h9, rfl⟩ := List.mem_map.mp hq
  exact hls.2.2 _ (List.mem_map.mpr ⟨q9, hsub q9 h9, rfl⟩)
theorem g_sub {code : Option α} {lv' : List (Nat × aV)} (ks : List Nat) (hl : ks.filterMap (fun k => lv[k]?) = lv') (k : aG p l e R s m args below meth c D cA ad z0 M al0 ρ code i lv' st mm) : aG p l e R s m args below meth c D cA ad z0 M al0 ρ code i lv st mm := fun bl r hr => aw_sub ks hl (k bl r hr)
theorem g_lv {code : Option α} {lv' : List (Nat × aV)} (h : lv = lv') (k : aG p l e R s m args below meth c D cA ad z0 M al0 ρ code i lv' st mm) : aG p l e R s m args below meth c D cA ad z0 M al0 ρ code i lv st mm := by subst h; exact k
theorem g_eq {code : Option α} {i' : Nat} {lv' : List (Nat × aV)} {st' : List aV} {mm' : aM} (h1 : i = i') (h2 : lv = lv') (h3 : st = st') (h4 : mm = mm') (k : aG p l e R s m args below meth c D cA ad z0 M al0 ρ code i' lv' st' mm') : aG p l e R s m args below meth c D cA ad z0 M al0 ρ code i lv st mm := by subst h1; subst h2; subst h3; subst h4; exact k
theorem g_if_eq (K : aK p s m args meth c M D cA ad adV z0) {off : Int} {t : Nat} (hd : aD M i (.ifCond .eq off) 3) (hj : aJ M i t off) {a : Int} {T F : Option α} (kt : a = 0 → aG p l e R s m args below meth c D cA ad z0 M al0 ρ (T) t lv st mm) (kf : ¬ (a = 0) → aG p l e R s m args below meth c D cA ad z0 M al0 ρ (F) (i + 1) lv st mm) : aG p l e R s m args below meth c D cA ad z0 M al0 ρ (if a = 0 then T else F) i lv (.inl a :: st) mm := fun bl r hr => by
  refine aw_if_eq K hd hj (fun z => ?_) (fun z => ?_)
  · have hc : a = 0 := by omega
    rw [if_pos hc] at hr
    exact kt hc bl r hr
  · have hc : ¬ (a = 0) := by omega
    rw [if_neg hc] at hr
    exact kf hc bl r hr
theorem g_if_ne (K : aK p s m args meth c M D cA ad adV z0) {off : Int} {t : Nat} (hd : aD M i (.ifCond .ne off) 3) (hj : aJ M i t off) {a : Int} {T F : Option α} (kf : a = 0 → aG p l e R s m args below meth c D cA ad z0 M al0 ρ (F) (i + 1) lv st mm) (kt : ¬ (a = 0) → aG p l e R s m args below meth c D cA ad z0 M al0 ρ (T) t lv st mm) : aG p l e R s m args below meth c D cA ad z0 M al0 ρ (if a = 0 then F else T) i lv (.inl a :: st) mm := fun bl r hr => by
  refine aw_if_ne K hd hj (fun z => ?_) (fun z => ?_)
  · have hc : ¬ (a = 0) := by omega
    rw [if_neg hc] at hr
    exact kt hc bl r hr
  · have hc : a = 0 := by omega
    rw [if_pos hc] at hr
    exact kf hc bl r hr
theorem g_if_lt (K : aK p s m args meth c M D cA ad adV z0) {off : Int} {t : Nat} (hd : aD M i (.ifCond .lt off) 3) (hj : aJ M i t off) {a : Int} {T F : Option α} (kt : a < 0 → aG p l e R s m args below meth c D cA ad z0 M al0 ρ (T) t lv st mm) (kf : ¬ (a < 0) → aG p l e R s m args below meth c D cA ad z0 M al0 ρ (F) (i + 1) lv st mm) : aG p l e R s m args below meth c D cA ad z0 M al0 ρ (if a < 0 then T else F) i lv (.inl a :: st) mm := fun bl r hr => by
  refine aw_if_lt K hd hj (fun z => ?_) (fun z => ?_)
  · have hc : a < 0 := by omega
    rw [if_pos hc] at hr
    exact kt hc bl r hr
  · have hc : ¬ (a < 0) := by omega
    rw [if_neg hc] at hr
    exact kf hc bl r hr
theorem g_if_ge (K : aK p s m args meth c M D cA ad adV z0) {off : Int} {t : Nat} (hd : aD M i (.ifCond .ge off) 3) (hj : aJ M i t off) {a : Int} {T F : Option α} (kf : a < 0 → aG p l e R s m args below meth c D cA ad z0 M al0 ρ (F) (i + 1) lv st mm) (kt : ¬ (a < 0) → aG p l e R s m args below meth c D cA ad z0 M al0 ρ (T) t lv st mm) : aG p l e R s m args below meth c D cA ad z0 M al0 ρ (if a < 0 then F else T) i lv (.inl a :: st) mm := fun bl r hr => by
  refine aw_if_ge K hd hj (fun z => ?_) (fun z => ?_)
  · have hc : ¬ (a < 0) := by omega
    rw [if_neg hc] at hr
    exact kt hc bl r hr
  · have hc : a < 0 := by omega
    rw [if_pos hc] at hr
    exact kf hc bl r hr
theorem g_if_gt (K : aK p s m args meth c M D cA ad adV z0) {off : Int} {t : Nat} (hd : aD M i (.ifCond .gt off) 3) (hj : aJ M i t off) {a : Int} {T F : Option α} (kt : 0 < a → aG p l e R s m args below meth c D cA ad z0 M al0 ρ (T) t lv st mm) (kf : ¬ (0 < a) → aG p l e R s m args below meth c D cA ad z0 M al0 ρ (F) (i + 1) lv st mm) : aG p l e R s m args below meth c D cA ad z0 M al0 ρ (if 0 < a then T else F) i lv (.inl a :: st) mm := fun bl r hr => by
  refine aw_if_gt K hd hj (fun z => ?_) (fun z => ?_)
  · have hc : 0 < a := by omega
    rw [if_pos hc] at hr
    exact kt hc bl r hr
  · have hc : ¬ (0 < a) := by omega
    rw [if_neg hc] at hr
    exact kf hc bl r hr
theorem g_if_le (K : aK p s m args meth c M D cA ad adV z0) {off : Int} {t : Nat} (hd : aD M i (.ifCond .le off) 3) (hj : aJ M i t off) {a : Int} {T F : Option α} (kf : 0 < a → aG p l e R s m args below meth c D cA ad z0 M al0 ρ (F) (i + 1) lv st mm) (kt : ¬ (0 < a) → aG p l e R s m args below meth c D cA ad z0 M al0 ρ (T) t lv st mm) : aG p l e R s m args below meth c D cA ad z0 M al0 ρ (if 0 < a then F else T) i lv (.inl a :: st) mm := fun bl r hr => by
  refine aw_if_le K hd hj (fun z => ?_) (fun z => ?_)
  · have hc : ¬ (0 < a) := by omega
    rw [if_neg hc] at hr
    exact kt hc bl r hr
  · have hc : 0 < a := by omega
    rw [if_pos hc] at hr
    exact kf hc bl r hr
theorem g_icmp_eq (K : aK p s m args meth c M D cA ad adV z0) {off : Int} {t : Nat} (hd : aD M i (.if_icmp .eq off) 3) (hj : aJ M i t off) {a b : Int} {T F : Option α} (kt : a = b → aG p l e R s m args below meth c D cA ad z0 M al0 ρ (T) t lv st mm) (kf : ¬ (a = b) → aG p l e R s m args below meth c D cA ad z0 M al0 ρ (F) (i + 1) lv st mm) : aG p l e R s m args below meth c D cA ad z0 M al0 ρ (if a = b then T else F) i lv (.inl b :: .inl a :: st) mm := fun bl r hr => by
  refine aw_icmp_eq K hd hj (fun z => ?_) (fun z => ?_)
  · have hc : a = b := by omega
    rw [if_pos hc] at hr
    exact kt hc bl r hr
  · have hc : ¬ (a = b) := by omega
    rw [if_neg hc] at hr
    exact kf hc bl r hr
theorem g_icmp_ne (K : aK p s m args meth c M D cA ad adV z0) {off : Int} {t : Nat} (hd : aD M i (.if_icmp .ne off) 3) (hj : aJ M i t off) {a b : Int} {T F : Option α} (kf : a = b → aG p l e R s m args below meth c D cA ad z0 M al0 ρ (F) (i + 1) lv st mm) (kt : ¬ (a = b) → aG p l e R s m args below meth c D cA ad z0 M al0 ρ (T) t lv st mm) : aG p l e R s m args below meth c D cA ad z0 M al0 ρ (if a = b then F else T) i lv (.inl b :: .inl a :: st) mm := fun bl r hr => by
  refine aw_icmp_ne K hd hj (fun z => ?_) (fun z => ?_)
  · have hc : ¬ (a = b) := by omega
    rw [if_neg hc] at hr
    exact kt hc bl r hr
  · have hc : a = b := by omega
    rw [if_pos hc] at hr
    exact kf hc bl r hr
theorem g_icmp_lt (K : aK p s m args meth c M D cA ad adV z0) {off : Int} {t : Nat} (hd : aD M i (.if_icmp .lt off) 3) (hj : aJ M i t off) {a b : Int} {T F : Option α} (kt : a < b → aG p l e R s m args below meth c D cA ad z0 M al0 ρ (T) t lv st mm) (kf : ¬ (a < b) → aG p l e R s m args below meth c D cA ad z0 M al0 ρ (F) (i + 1) lv st mm) : aG p l e R s m args below meth c D cA ad z0 M al0 ρ (if a < b then T else F) i lv (.inl b :: .inl a :: st) mm := fun bl r hr => by
  refine aw_icmp_lt K hd hj (fun z => ?_) (fun z => ?_)
  · have hc : a < b := by omega
    rw [if_pos hc] at hr
    exact kt hc bl r hr
  · have hc : ¬ (a < b) := by omega
    rw [if_neg hc] at hr
    exact kf hc bl r hr
theorem g_icmp_ge (K : aK p s m args meth c M D cA ad adV z0) {off : Int} {t : Nat} (hd : aD M i (.if_icmp .ge off) 3) (hj : aJ M i t off) {a b : Int} {T F : Option α} (kf : a < b → aG p l e R s m args below meth c D cA ad z0 M al0 ρ (F) (i + 1) lv st mm) (kt : ¬ (a < b) → aG p l e R s m args below meth c D cA ad z0 M al0 ρ (T) t lv st mm) : aG p l e R s m args below meth c D cA ad z0 M al0 ρ (if a < b then F else T) i lv (.inl b :: .inl a :: st) mm := fun bl r hr => by
  refine aw_icmp_ge K hd hj (fun z => ?_) (fun z => ?_)
  · have hc : ¬ (a < b) := by omega
    rw [if_neg hc] at hr
    exact kt hc bl r hr
  · have hc : a < b := by omega
    rw [if_pos hc] at hr
    exact kf hc bl r hr
theorem g_icmp_gt (K : aK p s m args meth c M D cA ad adV z0) {off : Int} {t : Nat} (hd : aD M i (.if_icmp .gt off) 3) (hj : aJ M i t off) {a b : Int} {T F : Option α} (kt : b < a → aG p l e R s m args below meth c D cA ad z0 M al0 ρ (T) t lv st mm) (kf : ¬ (b < a) → aG p l e R s m args below meth c D cA ad z0 M al0 ρ (F) (i + 1) lv st mm) : aG p l e R s m args below meth c D cA ad z0 M al0 ρ (if b < a then T else F) i lv (.inl b :: .inl a :: st) mm := fun bl r hr => by
  refine aw_icmp_gt K hd hj (fun z => ?_) (fun z => ?_)
  · have hc : b < a := by omega
    rw [if_pos hc] at hr
    exact kt hc bl r hr
  · have hc : ¬ (b < a) := by omega
    rw [if_neg hc] at hr
    exact kf hc bl r hr
theorem g_icmp_le (K : aK p s m args meth c M D cA ad adV z0) {off : Int} {t : Nat} (hd : aD M i (.if_icmp .le off) 3) (hj : aJ M i t off) {a b : Int} {T F : Option α} (kf : b < a → aG p l e R s m args below meth c D cA ad z0 M al0 ρ (F) (i + 1) lv st mm) (kt : ¬ (b < a) → aG p l e R s m args below meth c D cA ad z0 M al0 ρ (T) t lv st mm) : aG p l e R s m args below meth c D cA ad z0 M al0 ρ (if b < a then F else T) i lv (.inl b :: .inl a :: st) mm := fun bl r hr => by
  refine aw_icmp_le K hd hj (fun z => ?_) (fun z => ?_)
  · have hc : ¬ (b < a) := by omega
    rw [if_neg hc] at hr
    exact kt hc bl r hr
  · have hc : b < a := by omega
    rw [if_pos hc] at hr
    exact kf hc bl r hr
theorem g_lcmp_eq (K : aK p s m args meth c M D cA ad adV z0) {off : Int} {t : Nat} (hd0 : aD M i .lcmp 1) (hd : aD M (i + 1) (.ifCond .eq off) 3) (hj : aJ M (i + 1) t off) {a b : Int} {T F : Option α} (kt : a = b → aG p l e R s m args below meth c D cA ad z0 M al0 ρ (T) t lv st mm) (kf : ¬ (a = b) → aG p l e R s m args below meth c D cA ad z0 M al0 ρ (F) (i + 2) lv st mm) : aG p l e R s m args below meth c D cA ad z0 M al0 ρ (if a = b then T else F) i lv (.inr (.inl b) :: .inr (.inl a) :: st) mm := fun bl r hr => by
  refine aw_lcmp K hd0 ?_
  refine aw_if_eq K hd hj (fun z => ?_) (fun z => ?_)
  · have hc : a = b := by
      split at z
      · omega
      · split at z <;> omega
    rw [if_pos hc] at hr
    exact kt hc bl r hr
  · have hc : ¬ (a = b) := by
      split at z
      · omega
      · split at z <;> omega
    rw [if_neg hc] at hr
    exact kf hc bl r hr
theorem g_lcmp_ne (K : aK p s m args meth c M D cA ad adV z0) {off : Int} {t : Nat} (hd0 : aD M i .lcmp 1) (hd : aD M (i + 1) (.ifCond .ne off) 3) (hj : aJ M (i + 1) t off) {a b : Int} {T F : Option α} (kf : a = b → aG p l e R s m args below meth c D cA ad z0 M al0 ρ (F) (i + 2) lv st mm) (kt : ¬ (a = b) → aG p l e R s m args below meth c D cA ad z0 M al0 ρ (T) t lv st mm) : aG p l e R s m args below meth c D cA ad z0 M al0 ρ (if a = b then F else T) i lv (.inr (.inl b) :: .inr (.inl a) :: st) mm := fun bl r hr => by
  refine aw_lcmp K hd0 ?_
  refine aw_if_ne K hd hj (fun z => ?_) (fun z => ?_)
  · have hc : ¬ (a = b) := by
      split at z
      · omega
      · split at z <;> omega
    rw [if_neg hc] at hr
    exact kt hc bl r hr
  · have hc : a = b := by
      split at z
      · omega
      · split at z <;> omega
    rw [if_pos hc] at hr
    exact kf hc bl r hr
theorem g_lcmp_lt (K : aK p s m args meth c M D cA ad adV z0) {off : Int} {t : Nat} (hd0 : aD M i .lcmp 1) (hd : aD M (i + 1) (.ifCond .lt off) 3) (hj : aJ M (i + 1) t off) {a b : Int} {T F : Option α} (kt : a < b → aG p l e R s m args below meth c D cA ad z0 M al0 ρ (T) t lv st mm) (kf : ¬ (a < b) → aG p l e R s m args below meth c D cA ad z0 M al0 ρ (F) (i + 2) lv st mm) : aG p l e R s m args below meth c D cA ad z0 M al0 ρ (if a < b then T else F) i lv (.inr (.inl b) :: .inr (.inl a) :: st) mm := fun bl r hr => by
  refine aw_lcmp K hd0 ?_
  refine aw_if_lt K hd hj (fun z => ?_) (fun z => ?_)
  · have hc : a < b := by
      split at z
      · omega
      · split at z <;> omega
    rw [if_pos hc] at hr
    exact kt hc bl r hr
  · have hc : ¬ (a < b) := by
      split at z
      · omega
      · split at z <;> omega
    rw [if_neg hc] at hr
    exact kf hc bl r hr
theorem g_lcmp_ge (K : aK p s m args meth c M D cA ad adV z0) {off : Int} {t : Nat} (hd0 : aD M i .lcmp 1) (hd : aD M (i + 1) (.ifCond .ge off) 3) (hj : aJ M (i + 1) t off) {a b : Int} {T F : Option α} (kf : a < b → aG p l e R s m args below meth c D cA ad z0 M al0 ρ (F) (i + 2) lv st mm) (kt : ¬ (a < b) → aG p l e R s m args below meth c D cA ad z0 M al0 ρ (T) t lv st mm) : aG p l e R s m args below meth c D cA ad z0 M al0 ρ (if a < b then F else T) i lv (.inr (.inl b) :: .inr (.inl a) :: st) mm := fun bl r hr => by
  refine aw_lcmp K hd0 ?_
  refine aw_if_ge K hd hj (fun z => ?_) (fun z => ?_)
  · have hc : ¬ (a < b) := by
      split at z
      · omega
      · split at z <;> omega
    rw [if_neg hc] at hr
    exact kt hc bl r hr
  · have hc : a < b := by
      split at z
      · omega
      · split at z <;> omega
    rw [if_pos hc] at hr
    exact kf hc bl r hr
theorem g_lcmp_gt (K : aK p s m args meth c M D cA ad adV z0) {off : Int} {t : Nat} (hd0 : aD M i .lcmp 1) (hd : aD M (i + 1) (.ifCond .gt off) 3) (hj : aJ M (i + 1) t off) {a b : Int} {T F : Option α} (kt : b < a → aG p l e R s m args below meth c D cA ad z0 M al0 ρ (T) t lv st mm) (kf : ¬ (b < a) → aG p l e R s m args below meth c D cA ad z0 M al0 ρ (F) (i + 2) lv st mm) : aG p l e R s m args below meth c D cA ad z0 M al0 ρ (if b < a then T else F) i lv (.inr (.inl b) :: .inr (.inl a) :: st) mm := fun bl r hr => by
  refine aw_lcmp K hd0 ?_
  refine aw_if_gt K hd hj (fun z => ?_) (fun z => ?_)
  · have hc : b < a := by
      split at z
      · omega
      · split at z <;> omega
    rw [if_pos hc] at hr
    exact kt hc bl r hr
  · have hc : ¬ (b < a) := by
      split at z
      · omega
      · split at z <;> omega
    rw [if_neg hc] at hr
    exact kf hc bl r hr
theorem g_lcmp_le (K : aK p s m args meth c M D cA ad adV z0) {off : Int} {t : Nat} (hd0 : aD M i .lcmp 1) (hd : aD M (i + 1) (.ifCond .le off) 3) (hj : aJ M (i + 1) t off) {a b : Int} {T F : Option α} (kf : b < a → aG p l e R s m args below meth c D cA ad z0 M al0 ρ (F) (i + 2) lv st mm) (kt : ¬ (b < a) → aG p l e R s m args below meth c D cA ad z0 M al0 ρ (T) t lv st mm) : aG p l e R s m args below meth c D cA ad z0 M al0 ρ (if b < a then F else T) i lv (.inr (.inl b) :: .inr (.inl a) :: st) mm := fun bl r hr => by
  refine aw_lcmp K hd0 ?_
  refine aw_if_le K hd hj (fun z => ?_) (fun z => ?_)
  · have hc : ¬ (b < a) := by
      split at z
      · omega
      · split at z <;> omega
    rw [if_neg hc] at hr
    exact kt hc bl r hr
  · have hc : b < a := by
      split at z
      · omega
      · split at z <;> omega
    rw [if_pos hc] at hr
    exact kf hc bl r hr
theorem g_iret (K : aK p s m args meth c M D cA ad adV z0) {x : α} {v : Int} {ty : FieldType} (hd : decode M.2.1 (aPc M i) = .ok (.ireturn, 1)) (hr : M.2.2.2.1 = some ty) (hv : aRet ty v) (hρ : ρ x = (some (.inl v), mm)) : aG p l e R s m args below meth c D cA ad z0 M al0 ρ (some x) i lv [.inl v] mm := fun bl r hr9 => by
  cases hr9
  rw [hρ]
  exact aw_iret K hd hr hv (Nat.zero_le _) (Nat.zero_le _)
theorem g_lret (K : aK p s m args meth c M D cA ad adV z0) {x : α} {v : Int} (hd : decode M.2.1 (aPc M i) = .ok (.lreturn, 1)) (hr : M.2.2.2.1 = some .long) (hρ : ρ x = (some (.inr (.inl v)), mm)) : aG p l e R s m args below meth c D cA ad z0 M al0 ρ (some x) i lv [.inr (.inl v)] mm := fun bl r hr9 => by
  cases hr9
  rw [hρ]
  exact aw_lret K hd hr (Nat.zero_le _) (Nat.zero_le _)
theorem g_vret (K : aK p s m args meth c M D cA ad adV z0) {x : α} (hd : decode M.2.1 (aPc M i) = .ok (.return_, 1)) (hr : M.2.2.2.1 = none) (hρ : ρ x = (none, mm)) : aG p l e R s m args below meth c D cA ad z0 M al0 ρ (some x) i lv [] mm := fun bl r hr9 => by
  cases hr9
  rw [hρ]
  exact aw_vret K hd hr (Nat.zero_le _) (Nat.zero_le _)
theorem g_goto (K : aK p s m args meth c M D cA ad adV z0) {code : Option α} {off : Int} {t : Nat} (hd : decode M.2.1 (aPc M i) = .ok (.goto off, 3)) (hj : aJ M i t off) (k : aG p l e R s m args below meth c D cA ad z0 M al0 ρ (code) t lv st mm) : aG p l e R s m args below meth c D cA ad z0 M al0 ρ (code) i lv st mm := gl (fun _ _ => aw_goto K hd hj) k
theorem g_callSI (K : aK p s m args meth c M D cA ad adV z0) {idx n : Nat} {N : aMI} {fr lo : Nat} {st0 : List aV} {f : Option (Int)} {k : Int → Option α} (as : List aV) (hst : as.reverse ++ st = st0) (hd : aD M i (.invokestatic idx) 3) (hk : aLk M.1.cls idx N n) (hs : Cond.static N.1 ∈ aTbl) (hn : as.length = n) (hrest : (st.map aCat).sum ≤ 8) (hR : fr + 1 ≤ R.frames ∧ 8 + (N.2.2.1 + 11) + lo ≤ R.locals)
    (hM : ∀ b, f = some b → aMet l D cA ad adV z0 N fr lo 0 0 (as) SH mm (rI mm b).1 SH (rI mm b).2) (kk : ∀ b : Int, f = some b → aG p l e R s m args below meth c D cA ad z0 M al0 ρ (k b) (i + 1) lv (.inl b :: st) mm) : aG p l e R s m args below meth c D cA ad z0 M al0 ρ (f.bind k) i lv st0 mm := fun bl r hr => by
  obtain ⟨b, hb, hr⟩ := Option.bind_eq_some_iff.mp hr
  subst hst
  refine aw_callS K hd hk hs hn hrest hR ⟨Nat.zero_le _, Nat.zero_le _⟩ (Nat.le_refl _) (hM b hb) (fun bl2 => ?_)
  have h := kk b hb (bl ++ bl2) r hr
  rw [← List.append_assoc] at h
  exact h
theorem g_callVI (K : aK p s m args meth c M D cA ad adV z0) {idx n q : Nat} {N : aMI} {fr lo : Nat} {st0 : List aV} {f : Option (Int)} {k : Int → Option α} (as : List aV) (hst : as.reverse ++ .inr (.inr (.inl (some q))) :: st = st0) (hd : aD M i (.invokevirtual idx) 3) (hk : aLk M.1.cls idx N n) {ci : Nat} {rc : vw_C} {fs : List (Option (Option Nat))} (he : SH[q]? = some (.inr (.inr (.inr (ci, fs))))) (hc : vwCl[ci]? = some rc) (hv : Cond.instanceMethod N.1 ∈ aTbl ∧ Cond.selects rc.1 N.1 N.1 ∈ aTbl) (hn : as.length = n) (hrest : (st.map aCat).sum ≤ 8) (hR : fr + 1 ≤ R.frames ∧ 8 + (N.2.2.1 + 11) + lo ≤ R.locals)
    (hM : ∀ b, f = some b → aMet l D cA ad adV z0 N fr lo 0 0 (.inr (.inr (.inl (some q))) :: as) SH mm (rI mm b).1 SH (rI mm b).2) (kk : ∀ b : Int, f = some b → aG p l e R s m args below meth c D cA ad z0 M al0 ρ (k b) (i + 1) lv (.inl b :: st) mm) : aG p l e R s m args below meth c D cA ad z0 M al0 ρ (f.bind k) i lv st0 mm := fun bl r hr => by
  obtain ⟨b, hb, hr⟩ := Option.bind_eq_some_iff.mp hr
  subst hst
  refine aw_callV K hd hk he hc hv hn hrest hR ⟨Nat.zero_le _, Nat.zero_le _⟩ (Nat.le_refl _) (hM b hb) (fun bl2 => ?_)
  have h := kk b hb (bl ++ bl2) r hr
  rw [← List.append_assoc] at h
  exact h
theorem g_callTI (K : aK p s m args meth c M D cA ad adV z0) {idx n q : Nat} {N : aMI} {fr lo : Nat} {st0 : List aV} {f : Option (Int)} {k : Int → Option α} (as : List aV) (hst : as.reverse ++ .inr (.inr (.inr q)) :: st = st0) (hd : aD M i (.invokevirtual idx) 3) (hk : aLk M.1.cls idx N n) (hq : q < 10) (hv : Cond.instanceMethod N.1 ∈ aTbl ∧ Cond.selects "java/lang/String" N.1 N.1 ∈ aTbl) (hn : as.length = n) (hrest : (st.map aCat).sum ≤ 8) (hR : fr + 1 ≤ R.frames ∧ 8 + (N.2.2.1 + 11) + lo ≤ R.locals)
    (hM : ∀ b, f = some b → aMet l D cA ad adV z0 N fr lo 0 0 (.inr (.inr (.inr q)) :: as) SH mm (rI mm b).1 SH (rI mm b).2) (kk : ∀ b : Int, f = some b → aG p l e R s m args below meth c D cA ad z0 M al0 ρ (k b) (i + 1) lv (.inl b :: st) mm) : aG p l e R s m args below meth c D cA ad z0 M al0 ρ (f.bind k) i lv st0 mm := fun bl r hr => by
  obtain ⟨b, hb, hr⟩ := Option.bind_eq_some_iff.mp hr
  subst hst
  refine aw_callT K hq hd hk hv hn hrest hR ⟨Nat.zero_le _, Nat.zero_le _⟩ (hM b hb) (fun bl2 => ?_)
  have h := kk b hb (bl ++ bl2) r hr
  rw [← List.append_assoc] at h
  exact h
theorem g_callSIM (K : aK p s m args meth c M D cA ad adV z0) {idx n : Nat} {N : aMI} {fr lo : Nat} {st0 : List aV} {f : Option (Int × aM)} {k : Int × aM → Option α} (as : List aV) (hst : as.reverse ++ st = st0) (hd : aD M i (.invokestatic idx) 3) (hk : aLk M.1.cls idx N n) (hs : Cond.static N.1 ∈ aTbl) (hn : as.length = n) (hrest : (st.map aCat).sum ≤ 8) (hR : fr + 1 ≤ R.frames ∧ 8 + (N.2.2.1 + 11) + lo ≤ R.locals)
    (hM : ∀ b, f = some b → aMet l D cA ad adV z0 N fr lo 0 0 (as) SH mm (rIM b).1 SH (rIM b).2) (kk : ∀ b : Int × aM, f = some b → aG p l e R s m args below meth c D cA ad z0 M al0 ρ (k b) (i + 1) lv (.inl b.1 :: st) b.2) : aG p l e R s m args below meth c D cA ad z0 M al0 ρ (f.bind k) i lv st0 mm := fun bl r hr => by
  obtain ⟨b, hb, hr⟩ := Option.bind_eq_some_iff.mp hr
  subst hst
  refine aw_callS K hd hk hs hn hrest hR ⟨Nat.zero_le _, Nat.zero_le _⟩ (Nat.le_refl _) (hM b hb) (fun bl2 => ?_)
  have h := kk b hb (bl ++ bl2) r hr
  rw [← List.append_assoc] at h
  exact h
theorem g_callVIM (K : aK p s m args meth c M D cA ad adV z0) {idx n q : Nat} {N : aMI} {fr lo : Nat} {st0 : List aV} {f : Option (Int × aM)} {k : Int × aM → Option α} (as : List aV) (hst : as.reverse ++ .inr (.inr (.inl (some q))) :: st = st0) (hd : aD M i (.invokevirtual idx) 3) (hk : aLk M.1.cls idx N n) {ci : Nat} {rc : vw_C} {fs : List (Option (Option Nat))} (he : SH[q]? = some (.inr (.inr (.inr (ci, fs))))) (hc : vwCl[ci]? = some rc) (hv : Cond.instanceMethod N.1 ∈ aTbl ∧ Cond.selects rc.1 N.1 N.1 ∈ aTbl) (hn : as.length = n) (hrest : (st.map aCat).sum ≤ 8) (hR : fr + 1 ≤ R.frames ∧ 8 + (N.2.2.1 + 11) + lo ≤ R.locals)
    (hM : ∀ b, f = some b → aMet l D cA ad adV z0 N fr lo 0 0 (.inr (.inr (.inl (some q))) :: as) SH mm (rIM b).1 SH (rIM b).2) (kk : ∀ b : Int × aM, f = some b → aG p l e R s m args below meth c D cA ad z0 M al0 ρ (k b) (i + 1) lv (.inl b.1 :: st) b.2) : aG p l e R s m args below meth c D cA ad z0 M al0 ρ (f.bind k) i lv st0 mm := fun bl r hr => by
  obtain ⟨b, hb, hr⟩ := Option.bind_eq_some_iff.mp hr
  subst hst
  refine aw_callV K hd hk he hc hv hn hrest hR ⟨Nat.zero_le _, Nat.zero_le _⟩ (Nat.le_refl _) (hM b hb) (fun bl2 => ?_)
  have h := kk b hb (bl ++ bl2) r hr
  rw [← List.append_assoc] at h
  exact h
theorem g_callSM (K : aK p s m args meth c M D cA ad adV z0) {idx n : Nat} {N : aMI} {fr lo : Nat} {st0 : List aV} {f : Option (aM)} {k : aM → Option α} (as : List aV) (hst : as.reverse ++ st = st0) (hd : aD M i (.invokestatic idx) 3) (hk : aLk M.1.cls idx N n) (hs : Cond.static N.1 ∈ aTbl) (hn : as.length = n) (hrest : (st.map aCat).sum ≤ 8) (hR : fr + 1 ≤ R.frames ∧ 8 + (N.2.2.1 + 11) + lo ≤ R.locals)
    (hM : ∀ b, f = some b → aMet l D cA ad adV z0 N fr lo 0 0 (as) SH mm (rM b).1 SH (rM b).2) (kk : ∀ b : aM, f = some b → aG p l e R s m args below meth c D cA ad z0 M al0 ρ (k b) (i + 1) lv st b) : aG p l e R s m args below meth c D cA ad z0 M al0 ρ (f.bind k) i lv st0 mm := fun bl r hr => by
  obtain ⟨b, hb, hr⟩ := Option.bind_eq_some_iff.mp hr
  subst hst
  refine aw_callS K hd hk hs hn hrest hR ⟨Nat.zero_le _, Nat.zero_le _⟩ (Nat.le_refl _) (hM b hb) (fun bl2 => ?_)
  have h := kk b hb (bl ++ bl2) r hr
  rw [← List.append_assoc] at h
  exact h
theorem g_callVM (K : aK p s m args meth c M D cA ad adV z0) {idx n q : Nat} {N : aMI} {fr lo : Nat} {st0 : List aV} {f : Option (aM)} {k : aM → Option α} (as : List aV) (hst : as.reverse ++ .inr (.inr (.inl (some q))) :: st = st0) (hd : aD M i (.invokevirtual idx) 3) (hk : aLk M.1.cls idx N n) {ci : Nat} {rc : vw_C} {fs : List (Option (Option Nat))} (he : SH[q]? = some (.inr (.inr (.inr (ci, fs))))) (hc : vwCl[ci]? = some rc) (hv : Cond.instanceMethod N.1 ∈ aTbl ∧ Cond.selects rc.1 N.1 N.1 ∈ aTbl) (hn : as.length = n) (hrest : (st.map aCat).sum ≤ 8) (hR : fr + 1 ≤ R.frames ∧ 8 + (N.2.2.1 + 11) + lo ≤ R.locals)
    (hM : ∀ b, f = some b → aMet l D cA ad adV z0 N fr lo 0 0 (.inr (.inr (.inl (some q))) :: as) SH mm (rM b).1 SH (rM b).2) (kk : ∀ b : aM, f = some b → aG p l e R s m args below meth c D cA ad z0 M al0 ρ (k b) (i + 1) lv st b) : aG p l e R s m args below meth c D cA ad z0 M al0 ρ (f.bind k) i lv st0 mm := fun bl r hr => by
  obtain ⟨b, hb, hr⟩ := Option.bind_eq_some_iff.mp hr
  subst hst
  refine aw_callV K hd hk he hc hv hn hrest hR ⟨Nat.zero_le _, Nat.zero_le _⟩ (Nat.le_refl _) (hM b hb) (fun bl2 => ?_)
  have h := kk b hb (bl ++ bl2) r hr
  rw [← List.append_assoc] at h
  exact h
theorem g_callSL (K : aK p s m args meth c M D cA ad adV z0) {idx n : Nat} {N : aMI} {fr lo : Nat} {st0 : List aV} {f : Option (Int)} {k : Int → Option α} (as : List aV) (hst : as.reverse ++ st = st0) (hd : aD M i (.invokestatic idx) 3) (hk : aLk M.1.cls idx N n) (hs : Cond.static N.1 ∈ aTbl) (hn : as.length = n) (hrest : (st.map aCat).sum ≤ 8) (hR : fr + 1 ≤ R.frames ∧ 8 + (N.2.2.1 + 11) + lo ≤ R.locals)
    (hM : ∀ b, f = some b → aMet l D cA ad adV z0 N fr lo 0 0 (as) SH mm (rL mm b).1 SH (rL mm b).2) (kk : ∀ b : Int, f = some b → aG p l e R s m args below meth c D cA ad z0 M al0 ρ (k b) (i + 1) lv (.inr (.inl b) :: st) mm) : aG p l e R s m args below meth c D cA ad z0 M al0 ρ (f.bind k) i lv st0 mm := fun bl r hr => by
  obtain ⟨b, hb, hr⟩ := Option.bind_eq_some_iff.mp hr
  subst hst
  refine aw_callS K hd hk hs hn hrest hR ⟨Nat.zero_le _, Nat.zero_le _⟩ (Nat.le_refl _) (hM b hb) (fun bl2 => ?_)
  have h := kk b hb (bl ++ bl2) r hr
  rw [← List.append_assoc] at h
  exact h
theorem g_callVL (K : aK p s m args meth c M D cA ad adV z0) {idx n q : Nat} {N : aMI} {fr lo : Nat} {st0 : List aV} {f : Option (Int)} {k : Int → Option α} (as : List aV) (hst : as.reverse ++ .inr (.inr (.inl (some q))) :: st = st0) (hd : aD M i (.invokevirtual idx) 3) (hk : aLk M.1.cls idx N n) {ci : Nat} {rc : vw_C} {fs : List (Option (Option Nat))} (he : SH[q]? = some (.inr (.inr (.inr (ci, fs))))) (hc : vwCl[ci]? = some rc) (hv : Cond.instanceMethod N.1 ∈ aTbl ∧ Cond.selects rc.1 N.1 N.1 ∈ aTbl) (hn : as.length = n) (hrest : (st.map aCat).sum ≤ 8) (hR : fr + 1 ≤ R.frames ∧ 8 + (N.2.2.1 + 11) + lo ≤ R.locals)
    (hM : ∀ b, f = some b → aMet l D cA ad adV z0 N fr lo 0 0 (.inr (.inr (.inl (some q))) :: as) SH mm (rL mm b).1 SH (rL mm b).2) (kk : ∀ b : Int, f = some b → aG p l e R s m args below meth c D cA ad z0 M al0 ρ (k b) (i + 1) lv (.inr (.inl b) :: st) mm) : aG p l e R s m args below meth c D cA ad z0 M al0 ρ (f.bind k) i lv st0 mm := fun bl r hr => by
  obtain ⟨b, hb, hr⟩ := Option.bind_eq_some_iff.mp hr
  subst hst
  refine aw_callV K hd hk he hc hv hn hrest hR ⟨Nat.zero_le _, Nat.zero_le _⟩ (Nat.le_refl _) (hM b hb) (fun bl2 => ?_)
  have h := kk b hb (bl ++ bl2) r hr
  rw [← List.append_assoc] at h
  exact h
theorem g_callSLM (K : aK p s m args meth c M D cA ad adV z0) {idx n : Nat} {N : aMI} {fr lo : Nat} {st0 : List aV} {f : Option (Int × aM)} {k : Int × aM → Option α} (as : List aV) (hst : as.reverse ++ st = st0) (hd : aD M i (.invokestatic idx) 3) (hk : aLk M.1.cls idx N n) (hs : Cond.static N.1 ∈ aTbl) (hn : as.length = n) (hrest : (st.map aCat).sum ≤ 8) (hR : fr + 1 ≤ R.frames ∧ 8 + (N.2.2.1 + 11) + lo ≤ R.locals)
    (hM : ∀ b, f = some b → aMet l D cA ad adV z0 N fr lo 0 0 (as) SH mm (rLM b).1 SH (rLM b).2) (kk : ∀ b : Int × aM, f = some b → aG p l e R s m args below meth c D cA ad z0 M al0 ρ (k b) (i + 1) lv (.inr (.inl b.1) :: st) b.2) : aG p l e R s m args below meth c D cA ad z0 M al0 ρ (f.bind k) i lv st0 mm := fun bl r hr => by
  obtain ⟨b, hb, hr⟩ := Option.bind_eq_some_iff.mp hr
  subst hst
  refine aw_callS K hd hk hs hn hrest hR ⟨Nat.zero_le _, Nat.zero_le _⟩ (Nat.le_refl _) (hM b hb) (fun bl2 => ?_)
  have h := kk b hb (bl ++ bl2) r hr
  rw [← List.append_assoc] at h
  exact h
theorem g_callVLM (K : aK p s m args meth c M D cA ad adV z0) {idx n q : Nat} {N : aMI} {fr lo : Nat} {st0 : List aV} {f : Option (Int × aM)} {k : Int × aM → Option α} (as : List aV) (hst : as.reverse ++ .inr (.inr (.inl (some q))) :: st = st0) (hd : aD M i (.invokevirtual idx) 3) (hk : aLk M.1.cls idx N n) {ci : Nat} {rc : vw_C} {fs : List (Option (Option Nat))} (he : SH[q]? = some (.inr (.inr (.inr (ci, fs))))) (hc : vwCl[ci]? = some rc) (hv : Cond.instanceMethod N.1 ∈ aTbl ∧ Cond.selects rc.1 N.1 N.1 ∈ aTbl) (hn : as.length = n) (hrest : (st.map aCat).sum ≤ 8) (hR : fr + 1 ≤ R.frames ∧ 8 + (N.2.2.1 + 11) + lo ≤ R.locals)
    (hM : ∀ b, f = some b → aMet l D cA ad adV z0 N fr lo 0 0 (.inr (.inr (.inl (some q))) :: as) SH mm (rLM b).1 SH (rLM b).2) (kk : ∀ b : Int × aM, f = some b → aG p l e R s m args below meth c D cA ad z0 M al0 ρ (k b) (i + 1) lv (.inr (.inl b.1) :: st) b.2) : aG p l e R s m args below meth c D cA ad z0 M al0 ρ (f.bind k) i lv st0 mm := fun bl r hr => by
  obtain ⟨b, hb, hr⟩ := Option.bind_eq_some_iff.mp hr
  subst hst
  refine aw_callV K hd hk he hc hv hn hrest hR ⟨Nat.zero_le _, Nat.zero_le _⟩ (Nat.le_refl _) (hM b hb) (fun bl2 => ?_)
  have h := kk b hb (bl ++ bl2) r hr
  rw [← List.append_assoc] at h
  exact h
end AG
theorem aMet_ofG {l : Launch} {D : va_G} {cA : FieldType → ClassId} {ad adV : Nat → Nat} {z0 : Nat} {N : aMI} {fr lo : Nat} {as : List aV} {mm : aM} {α : Type} {ρ : α → Option aV × aM} {code : Option α} {r : α} (hpl : plainName N.1.cls = true) (hpc : aPc N 0 = 0) (hw : aWords as ≤ N.2.2.1) (h : code = some r)
    (body : ∀ (p : Program) (e : Env) (s : State) (m : MethodId) (args : Array Value) (below : List Frame) (meth : Method) (c : Code) (al : List Nat), aK p s m args meth c N D cA ad adV z0 → aG p l e { frames := fr, cells := 0, slots := 0, locals := lo } s m args below meth c D cA ad z0 N al ρ code 0 (aArgs 0 as) [] mm) : aMet l D cA ad adV z0 N fr lo 0 0 as SH mm (ρ r).1 SH (ρ r).2 :=
  aMet_of hpl hpc hw (fun p e s m args below meth c al K => by
    have h2 := body p e s m args below meth c al K [] r h
    rw [List.append_nil] at h2
    exact h2)
