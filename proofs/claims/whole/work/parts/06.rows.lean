section AWR
variable {p : Program} {l : Launch} {e : Env} {R : Room} {s : State} {m : MethodId} {args : Array Value} {below : List Frame} {meth : Method} {c : Code} {Q : State → Prop} {D : va_G} {cA : FieldType → ClassId} {ad adV : Nat → Nat} {z0 : Nat} {M : aMI} {al : List Nat} {i : Nat} {lv : List (Nat × aV)} {st : List aV} {sh : List aE} {mm : aM} {nc ns : Nat}
theorem aw_iadd (K : aK p s m args meth c M D cA ad adV z0) {a b : Int} (hd : aD M i .iadd 1) (k : AW p l e R s m args below meth c Q D cA ad z0 M al (i + 1) lv (.inl (w32 (a + b)) :: st) sh mm nc ns) : AW p l e R s m args below meth c Q D cA ad z0 M al i lv (.inl b :: .inl a :: st) sh mm nc ns := by
  refine aw_go (st' := (.inl (w32 (a + b)) :: st)) (fun h _ => in_c (w32_in _) (in_t (in_t h))) (fun h H locs ls hl k => ?_) k
  rw [hd.2] at k
  have e1 : cV al ad (.inl (w32 (a + b))) = .int ((Int32.ofInt a) + (Int32.ofInt b)) := by
    show Value.int _ = Value.int _
    rw [ofI_w, Int32.ofInt_add]
  refine lv_iadd K.1 K.2.1 hd.1  ?_
  show W p l e R s m args below meth c H locs nc ns Q (F0 m (aPc M i + 1) ls (_ :: cS al ad st))
  first | rw [← e1] | skip
  exact k
theorem aw_isub (K : aK p s m args meth c M D cA ad adV z0) {a b : Int} (hd : aD M i .isub 1) (k : AW p l e R s m args below meth c Q D cA ad z0 M al (i + 1) lv (.inl (w32 (a - b)) :: st) sh mm nc ns) : AW p l e R s m args below meth c Q D cA ad z0 M al i lv (.inl b :: .inl a :: st) sh mm nc ns := by
  refine aw_go (st' := (.inl (w32 (a - b)) :: st)) (fun h _ => in_c (w32_in _) (in_t (in_t h))) (fun h H locs ls hl k => ?_) k
  rw [hd.2] at k
  have e1 : cV al ad (.inl (w32 (a - b))) = .int ((Int32.ofInt a) - (Int32.ofInt b)) := by
    show Value.int _ = Value.int _
    rw [ofI_w, Int32.ofInt_sub]
  refine lv_isub K.1 K.2.1 hd.1  ?_
  show W p l e R s m args below meth c H locs nc ns Q (F0 m (aPc M i + 1) ls (_ :: cS al ad st))
  first | rw [← e1] | skip
  exact k
theorem aw_imul (K : aK p s m args meth c M D cA ad adV z0) {a b : Int} (hd : aD M i .imul 1) (k : AW p l e R s m args below meth c Q D cA ad z0 M al (i + 1) lv (.inl (w32 (a * b)) :: st) sh mm nc ns) : AW p l e R s m args below meth c Q D cA ad z0 M al i lv (.inl b :: .inl a :: st) sh mm nc ns := by
  refine aw_go (st' := (.inl (w32 (a * b)) :: st)) (fun h _ => in_c (w32_in _) (in_t (in_t h))) (fun h H locs ls hl k => ?_) k
  rw [hd.2] at k
  have e1 : cV al ad (.inl (w32 (a * b))) = .int ((Int32.ofInt a) * (Int32.ofInt b)) := by
    show Value.int _ = Value.int _
    rw [ofI_w, Int32.ofInt_mul]
  refine lv_imul K.1 K.2.1 hd.1  ?_
  show W p l e R s m args below meth c H locs nc ns Q (F0 m (aPc M i + 1) ls (_ :: cS al ad st))
  first | rw [← e1] | skip
  exact k
theorem aw_iand (K : aK p s m args meth c M D cA ad adV z0) {a b : Int} (hd : aD M i .iand 1) (k : AW p l e R s m args below meth c Q D cA ad z0 M al (i + 1) lv (.inl (iand a b) :: st) sh mm nc ns) : AW p l e R s m args below meth c Q D cA ad z0 M al i lv (.inl b :: .inl a :: st) sh mm nc ns := by
  refine aw_go (st' := (.inl (iand a b) :: st)) (fun h _ => in_c (toInt_in32 _) (in_t (in_t h))) (fun h H locs ls hl k => ?_) k
  rw [hd.2] at k
  have e1 : cV al ad (.inl (iand a b)) = .int ((Int32.ofInt a) &&& (Int32.ofInt b)) := by
    show Value.int _ = Value.int _
    unfold iand
    rw [Int32.ofInt_toInt]
  refine lv_iand K.1 K.2.1 hd.1  ?_
  show W p l e R s m args below meth c H locs nc ns Q (F0 m (aPc M i + 1) ls (_ :: cS al ad st))
  first | rw [← e1] | skip
  exact k
theorem aw_ior (K : aK p s m args meth c M D cA ad adV z0) {a b : Int} (hd : aD M i .ior 1) (k : AW p l e R s m args below meth c Q D cA ad z0 M al (i + 1) lv (.inl (ior a b) :: st) sh mm nc ns) : AW p l e R s m args below meth c Q D cA ad z0 M al i lv (.inl b :: .inl a :: st) sh mm nc ns := by
  refine aw_go (st' := (.inl (ior a b) :: st)) (fun h _ => in_c (toInt_in32 _) (in_t (in_t h))) (fun h H locs ls hl k => ?_) k
  rw [hd.2] at k
  have e1 : cV al ad (.inl (ior a b)) = .int ((Int32.ofInt a) ||| (Int32.ofInt b)) := by
    show Value.int _ = Value.int _
    unfold ior
    rw [Int32.ofInt_toInt]
  refine lv_ior K.1 K.2.1 hd.1  ?_
  show W p l e R s m args below meth c H locs nc ns Q (F0 m (aPc M i + 1) ls (_ :: cS al ad st))
  first | rw [← e1] | skip
  exact k
theorem aw_ixor (K : aK p s m args meth c M D cA ad adV z0) {a b : Int} (hd : aD M i .ixor 1) (k : AW p l e R s m args below meth c Q D cA ad z0 M al (i + 1) lv (.inl (ixor a b) :: st) sh mm nc ns) : AW p l e R s m args below meth c Q D cA ad z0 M al i lv (.inl b :: .inl a :: st) sh mm nc ns := by
  refine aw_go (st' := (.inl (ixor a b) :: st)) (fun h _ => in_c (toInt_in32 _) (in_t (in_t h))) (fun h H locs ls hl k => ?_) k
  rw [hd.2] at k
  have e1 : cV al ad (.inl (ixor a b)) = .int ((Int32.ofInt a) ^^^ (Int32.ofInt b)) := by
    show Value.int _ = Value.int _
    unfold ixor
    rw [Int32.ofInt_toInt]
  refine lv_ixor K.1 K.2.1 hd.1  ?_
  show W p l e R s m args below meth c H locs nc ns Q (F0 m (aPc M i + 1) ls (_ :: cS al ad st))
  first | rw [← e1] | skip
  exact k
theorem aw_ishl (K : aK p s m args meth c M D cA ad adV z0) {a b : Int} (hd : aD M i .ishl 1) (k : AW p l e R s m args below meth c Q D cA ad z0 M al (i + 1) lv (.inl (ishl a b) :: st) sh mm nc ns) : AW p l e R s m args below meth c Q D cA ad z0 M al i lv (.inl b :: .inl a :: st) sh mm nc ns := by
  refine aw_go (st' := (.inl (ishl a b) :: st)) (fun h _ => in_c (toInt_in32 _) (in_t (in_t h))) (fun h H locs ls hl k => ?_) k
  rw [hd.2] at k
  have e1 : cV al ad (.inl (ishl a b)) = .int ((Int32.ofInt a) <<< ((Int32.ofInt b) &&& 31)) := by
    show Value.int _ = Value.int _
    unfold ishl
    rw [Int32.ofInt_toInt]
  refine lv_ishl K.1 K.2.1 hd.1  ?_
  show W p l e R s m args below meth c H locs nc ns Q (F0 m (aPc M i + 1) ls (_ :: cS al ad st))
  first | rw [← e1] | skip
  exact k
theorem aw_ishr (K : aK p s m args meth c M D cA ad adV z0) {a b : Int} (hd : aD M i .ishr 1) (k : AW p l e R s m args below meth c Q D cA ad z0 M al (i + 1) lv (.inl (ishr a b) :: st) sh mm nc ns) : AW p l e R s m args below meth c Q D cA ad z0 M al i lv (.inl b :: .inl a :: st) sh mm nc ns := by
  refine aw_go (st' := (.inl (ishr a b) :: st)) (fun h _ => in_c (toInt_in32 _) (in_t (in_t h))) (fun h H locs ls hl k => ?_) k
  rw [hd.2] at k
  have e1 : cV al ad (.inl (ishr a b)) = .int ((Int32.ofInt a) >>> ((Int32.ofInt b) &&& 31)) := by
    show Value.int _ = Value.int _
    unfold ishr
    rw [Int32.ofInt_toInt]
  refine lv_ishr K.1 K.2.1 hd.1  ?_
  show W p l e R s m args below meth c H locs nc ns Q (F0 m (aPc M i + 1) ls (_ :: cS al ad st))
  first | rw [← e1] | skip
  exact k
theorem aw_iushr (K : aK p s m args meth c M D cA ad adV z0) {a b : Int} (hd : aD M i .iushr 1) (k : AW p l e R s m args below meth c Q D cA ad z0 M al (i + 1) lv (.inl (iushr a b) :: st) sh mm nc ns) : AW p l e R s m args below meth c Q D cA ad z0 M al i lv (.inl b :: .inl a :: st) sh mm nc ns := by
  refine aw_go (st' := (.inl (iushr a b) :: st)) (fun h _ => in_c (toInt_in32 _) (in_t (in_t h))) (fun h H locs ls hl k => ?_) k
  rw [hd.2] at k
  exact lv_iushr K.1 K.2.1 hd.1 (v := Int32.ofInt (iushr a b)) (by unfold iushr; rw [Int32.ofInt_toInt]) k
theorem aw_idiv (K : aK p s m args meth c M D cA ad adV z0) {a b : Int} (h0 : b ≠ 0) (hd : aD M i .idiv 1) (k : AW p l e R s m args below meth c Q D cA ad z0 M al (i + 1) lv (.inl (w32 (a.tdiv b)) :: st) sh mm nc ns) : AW p l e R s m args below meth c Q D cA ad z0 M al i lv (.inl b :: .inl a :: st) sh mm nc ns := by
  refine aw_go (st' := (.inl (w32 (a.tdiv b)) :: st)) (fun h _ => in_c (w32_in _) (in_t (in_t h))) (fun h H locs ls hl k => ?_) k
  rw [hd.2] at k
  have e1 : cV al ad (.inl (w32 (a.tdiv b))) = .int ((Int32.ofInt a) / (Int32.ofInt b)) := by
    show Value.int _ = Value.int _
    rw [ofI_w, ofI_div a b (in_1 (in_t h)) (in_1 h)]
  refine lv_idiv K.1 K.2.1 hd.1 (ofI_ne0 (in_1 h) h0) ?_
  show W p l e R s m args below meth c H locs nc ns Q (F0 m (aPc M i + 1) ls (_ :: cS al ad st))
  first | rw [← e1] | skip
  exact k
theorem aw_irem (K : aK p s m args meth c M D cA ad adV z0) {a b : Int} (h0 : b ≠ 0) (hd : aD M i .irem 1) (k : AW p l e R s m args below meth c Q D cA ad z0 M al (i + 1) lv (.inl (a.tmod b) :: st) sh mm nc ns) : AW p l e R s m args below meth c Q D cA ad z0 M al i lv (.inl b :: .inl a :: st) sh mm nc ns := by
  refine aw_go (st' := (.inl (a.tmod b) :: st)) (fun h _ => in_c (tmod_in32 (in_1 h) h0) (in_t (in_t h))) (fun h H locs ls hl k => ?_) k
  rw [hd.2] at k
  have e1 : cV al ad (.inl (a.tmod b)) = .int ((Int32.ofInt a) - (Int32.ofInt a) / (Int32.ofInt b) * (Int32.ofInt b)) := by
    show Value.int _ = Value.int _
    rw [ofI_rem (in_1 (in_t h)) (in_1 h)]
  refine lv_irem K.1 K.2.1 hd.1 (ofI_ne0 (in_1 h) h0) ?_
  show W p l e R s m args below meth c H locs nc ns Q (F0 m (aPc M i + 1) ls (_ :: cS al ad st))
  first | rw [← e1] | skip
  exact k
theorem aw_ineg (K : aK p s m args meth c M D cA ad adV z0) {a : Int} (hd : aD M i .ineg 1) (k : AW p l e R s m args below meth c Q D cA ad z0 M al (i + 1) lv (.inl (w32 (-a)) :: st) sh mm nc ns) : AW p l e R s m args below meth c Q D cA ad z0 M al i lv (.inl a :: st) sh mm nc ns := by
  refine aw_go (st' := (.inl (w32 (-a)) :: st)) (fun h _ => in_c (w32_in _) (in_t h)) (fun h H locs ls hl k => ?_) k
  rw [hd.2] at k
  have e1 : cV al ad (.inl (w32 (-a))) = .int (-(Int32.ofInt a)) := by
    show Value.int _ = Value.int _
    rw [ofI_w, Int32.ofInt_neg]
  refine lv_ineg K.1 K.2.1 hd.1  ?_
  show W p l e R s m args below meth c H locs nc ns Q (F0 m (aPc M i + 1) ls (_ :: cS al ad st))
  first | rw [← e1] | skip
  exact k
theorem aw_ladd (K : aK p s m args meth c M D cA ad adV z0) {a b : Int} (hd : aD M i .ladd 1) (k : AW p l e R s m args below meth c Q D cA ad z0 M al (i + 1) lv (.inr (.inl (w64 (a + b))) :: st) sh mm nc ns) : AW p l e R s m args below meth c Q D cA ad z0 M al i lv (.inr (.inl b) :: .inr (.inl a) :: st) sh mm nc ns := by
  refine aw_go (st' := (.inr (.inl (w64 (a + b))) :: st)) (fun h _ => in_c (w64_in _) (in_t (in_t h))) (fun h H locs ls hl k => ?_) k
  rw [hd.2] at k
  have e1 : cV al ad (.inr (.inl (w64 (a + b)))) = .long ((Int64.ofInt a) + (Int64.ofInt b)) := by
    show Value.long _ = Value.long _
    rw [ofL_w, Int64.ofInt_add]
  refine lv_ladd K.1 K.2.1 hd.1  ?_
  show W p l e R s m args below meth c H locs nc ns Q (F0 m (aPc M i + 1) ls (_ :: cS al ad st))
  first | rw [← e1] | skip
  exact k
theorem aw_lsub (K : aK p s m args meth c M D cA ad adV z0) {a b : Int} (hd : aD M i .lsub 1) (k : AW p l e R s m args below meth c Q D cA ad z0 M al (i + 1) lv (.inr (.inl (w64 (a - b))) :: st) sh mm nc ns) : AW p l e R s m args below meth c Q D cA ad z0 M al i lv (.inr (.inl b) :: .inr (.inl a) :: st) sh mm nc ns := by
  refine aw_go (st' := (.inr (.inl (w64 (a - b))) :: st)) (fun h _ => in_c (w64_in _) (in_t (in_t h))) (fun h H locs ls hl k => ?_) k
  rw [hd.2] at k
  have e1 : cV al ad (.inr (.inl (w64 (a - b)))) = .long ((Int64.ofInt a) - (Int64.ofInt b)) := by
    show Value.long _ = Value.long _
    rw [ofL_w, Int64.ofInt_sub]
  refine lv_lsub K.1 K.2.1 hd.1  ?_
  show W p l e R s m args below meth c H locs nc ns Q (F0 m (aPc M i + 1) ls (_ :: cS al ad st))
  first | rw [← e1] | skip
  exact k
theorem aw_lmul (K : aK p s m args meth c M D cA ad adV z0) {a b : Int} (hd : aD M i .lmul 1) (k : AW p l e R s m args below meth c Q D cA ad z0 M al (i + 1) lv (.inr (.inl (w64 (a * b))) :: st) sh mm nc ns) : AW p l e R s m args below meth c Q D cA ad z0 M al i lv (.inr (.inl b) :: .inr (.inl a) :: st) sh mm nc ns := by
  refine aw_go (st' := (.inr (.inl (w64 (a * b))) :: st)) (fun h _ => in_c (w64_in _) (in_t (in_t h))) (fun h H locs ls hl k => ?_) k
  rw [hd.2] at k
  have e1 : cV al ad (.inr (.inl (w64 (a * b)))) = .long ((Int64.ofInt a) * (Int64.ofInt b)) := by
    show Value.long _ = Value.long _
    rw [ofL_w, Int64.ofInt_mul]
  refine lv_lmul K.1 K.2.1 hd.1  ?_
  show W p l e R s m args below meth c H locs nc ns Q (F0 m (aPc M i + 1) ls (_ :: cS al ad st))
  first | rw [← e1] | skip
  exact k
theorem aw_land (K : aK p s m args meth c M D cA ad adV z0) {a b : Int} (hd : aD M i .land 1) (k : AW p l e R s m args below meth c Q D cA ad z0 M al (i + 1) lv (.inr (.inl (land a b)) :: st) sh mm nc ns) : AW p l e R s m args below meth c Q D cA ad z0 M al i lv (.inr (.inl b) :: .inr (.inl a) :: st) sh mm nc ns := by
  refine aw_go (st' := (.inr (.inl (land a b)) :: st)) (fun h _ => in_c (toInt_in64 _) (in_t (in_t h))) (fun h H locs ls hl k => ?_) k
  rw [hd.2] at k
  have e1 : cV al ad (.inr (.inl (land a b))) = .long ((Int64.ofInt a) &&& (Int64.ofInt b)) := by
    show Value.long _ = Value.long _
    unfold land
    rw [Int64.ofInt_toInt]
  refine lv_land K.1 K.2.1 hd.1  ?_
  show W p l e R s m args below meth c H locs nc ns Q (F0 m (aPc M i + 1) ls (_ :: cS al ad st))
  first | rw [← e1] | skip
  exact k
theorem aw_lor (K : aK p s m args meth c M D cA ad adV z0) {a b : Int} (hd : aD M i .lor 1) (k : AW p l e R s m args below meth c Q D cA ad z0 M al (i + 1) lv (.inr (.inl (lor a b)) :: st) sh mm nc ns) : AW p l e R s m args below meth c Q D cA ad z0 M al i lv (.inr (.inl b) :: .inr (.inl a) :: st) sh mm nc ns := by
  refine aw_go (st' := (.inr (.inl (lor a b)) :: st)) (fun h _ => in_c (toInt_in64 _) (in_t (in_t h))) (fun h H locs ls hl k => ?_) k
  rw [hd.2] at k
  have e1 : cV al ad (.inr (.inl (lor a b))) = .long ((Int64.ofInt a) ||| (Int64.ofInt b)) := by
    show Value.long _ = Value.long _
    unfold lor
    rw [Int64.ofInt_toInt]
  refine lv_lor K.1 K.2.1 hd.1  ?_
  show W p l e R s m args below meth c H locs nc ns Q (F0 m (aPc M i + 1) ls (_ :: cS al ad st))
  first | rw [← e1] | skip
  exact k
theorem aw_lxor (K : aK p s m args meth c M D cA ad adV z0) {a b : Int} (hd : aD M i .lxor 1) (k : AW p l e R s m args below meth c Q D cA ad z0 M al (i + 1) lv (.inr (.inl (lxor a b)) :: st) sh mm nc ns) : AW p l e R s m args below meth c Q D cA ad z0 M al i lv (.inr (.inl b) :: .inr (.inl a) :: st) sh mm nc ns := by
  refine aw_go (st' := (.inr (.inl (lxor a b)) :: st)) (fun h _ => in_c (toInt_in64 _) (in_t (in_t h))) (fun h H locs ls hl k => ?_) k
  rw [hd.2] at k
  have e1 : cV al ad (.inr (.inl (lxor a b))) = .long ((Int64.ofInt a) ^^^ (Int64.ofInt b)) := by
    show Value.long _ = Value.long _
    unfold lxor
    rw [Int64.ofInt_toInt]
  refine lv_lxor K.1 K.2.1 hd.1  ?_
  show W p l e R s m args below meth c H locs nc ns Q (F0 m (aPc M i + 1) ls (_ :: cS al ad st))
  first | rw [← e1] | skip
  exact k
theorem aw_lrem (K : aK p s m args meth c M D cA ad adV z0) {a b : Int} (h0 : b ≠ 0) (hd : aD M i .lrem 1) (k : AW p l e R s m args below meth c Q D cA ad z0 M al (i + 1) lv (.inr (.inl (a.tmod b)) :: st) sh mm nc ns) : AW p l e R s m args below meth c Q D cA ad z0 M al i lv (.inr (.inl b) :: .inr (.inl a) :: st) sh mm nc ns := by
  refine aw_go (st' := (.inr (.inl (a.tmod b)) :: st)) (fun h _ => in_c (tmod_in64 (in_1 h) h0) (in_t (in_t h))) (fun h H locs ls hl k => ?_) k
  rw [hd.2] at k
  have e1 : cV al ad (.inr (.inl (a.tmod b))) = .long ((Int64.ofInt a) - (Int64.ofInt a) / (Int64.ofInt b) * (Int64.ofInt b)) := by
    show Value.long _ = Value.long _
    rw [ofL_rem (in_1 (in_t h)) (in_1 h)]
  refine lv_lrem K.1 K.2.1 hd.1 (ofL_ne0 (in_1 h) h0) ?_
  show W p l e R s m args below meth c H locs nc ns Q (F0 m (aPc M i + 1) ls (_ :: cS al ad st))
  first | rw [← e1] | skip
  exact k
theorem aw_lneg (K : aK p s m args meth c M D cA ad adV z0) {a : Int} (hd : aD M i .lneg 1) (k : AW p l e R s m args below meth c Q D cA ad z0 M al (i + 1) lv (.inr (.inl (w64 (-a))) :: st) sh mm nc ns) : AW p l e R s m args below meth c Q D cA ad z0 M al i lv (.inr (.inl a) :: st) sh mm nc ns := by
  refine aw_go (st' := (.inr (.inl (w64 (-a))) :: st)) (fun h _ => in_c (w64_in _) (in_t h)) (fun h H locs ls hl k => ?_) k
  rw [hd.2] at k
  have e1 : cV al ad (.inr (.inl (w64 (-a)))) = .long (-(Int64.ofInt a)) := by
    show Value.long _ = Value.long _
    rw [ofL_w, Int64.ofInt_neg]
  refine lv_lneg K.1 K.2.1 hd.1  ?_
  show W p l e R s m args below meth c H locs nc ns Q (F0 m (aPc M i + 1) ls (_ :: cS al ad st))
  first | rw [← e1] | skip
  exact k
theorem aw_lshl (K : aK p s m args meth c M D cA ad adV z0) {a b : Int} (hd : aD M i .lshl 1) (k : AW p l e R s m args below meth c Q D cA ad z0 M al (i + 1) lv (.inr (.inl (lshl a b)) :: st) sh mm nc ns) : AW p l e R s m args below meth c Q D cA ad z0 M al i lv (.inl b :: .inr (.inl a) :: st) sh mm nc ns := by
  refine aw_go (st' := (.inr (.inl (lshl a b)) :: st)) (fun h _ => in_c (toInt_in64 _) (in_t (in_t h))) (fun h H locs ls hl k => ?_) k
  rw [hd.2] at k
  exact lv_lshl K.1 K.2.1 hd.1 (v := Int64.ofInt (lshl a b)) (by unfold lshl; rw [Int64.ofInt_toInt]) k
theorem aw_lushr (K : aK p s m args meth c M D cA ad adV z0) {a b : Int} (hd : aD M i .lushr 1) (k : AW p l e R s m args below meth c Q D cA ad z0 M al (i + 1) lv (.inr (.inl (lushr a b)) :: st) sh mm nc ns) : AW p l e R s m args below meth c Q D cA ad z0 M al i lv (.inl b :: .inr (.inl a) :: st) sh mm nc ns := by
  refine aw_go (st' := (.inr (.inl (lushr a b)) :: st)) (fun h _ => in_c (toInt_in64 _) (in_t (in_t h))) (fun h H locs ls hl k => ?_) k
  rw [hd.2] at k
  exact lv_lushr K.1 K.2.1 hd.1 (v := Int64.ofInt (lushr a b)) (by unfold lushr; rw [Int64.ofInt_toInt]) k
theorem aw_i2l (K : aK p s m args meth c M D cA ad adV z0) {a : Int} (hd : aD M i .i2l 1) (k : AW p l e R s m args below meth c Q D cA ad z0 M al (i + 1) lv (.inr (.inl a) :: st) sh mm nc ns) : AW p l e R s m args below meth c Q D cA ad z0 M al i lv (.inl a :: st) sh mm nc ns := by
  refine aw_go (st' := (.inr (.inl a) :: st)) (fun h _ => in_c (by have := in_1 h; change in32 a at this; change in64 a; unfold in32 at this; unfold in64; omega) (in_t h)) (fun h H locs ls hl k => ?_) k
  rw [hd.2] at k
  exact lv_i2l K.1 K.2.1 hd.1 (ofI_l (in_1 h)) k
theorem aw_l2i (K : aK p s m args meth c M D cA ad adV z0) {a : Int} (hd : aD M i .l2i 1) (k : AW p l e R s m args below meth c Q D cA ad z0 M al (i + 1) lv (.inl (w32 a) :: st) sh mm nc ns) : AW p l e R s m args below meth c Q D cA ad z0 M al i lv (.inr (.inl a) :: st) sh mm nc ns := by
  refine aw_go (st' := (.inl (w32 a) :: st)) (fun h _ => in_c (w32_in _) (in_t h)) (fun h H locs ls hl k => ?_) k
  rw [hd.2] at k
  exact lv_l2i K.1 K.2.1 hd.1 (ofL_i (in_1 h)) k
theorem aw_i2b (K : aK p s m args meth c M D cA ad adV z0) {a : Int} (hd : aD M i .i2b 1) (k : AW p l e R s m args below meth c Q D cA ad z0 M al (i + 1) lv (.inl (w8 a) :: st) sh mm nc ns) : AW p l e R s m args below meth c Q D cA ad z0 M al i lv (.inl a :: st) sh mm nc ns := by
  refine aw_go (st' := (.inl (w8 a) :: st)) (fun h _ => in_c (by have := w8_in a; change in32 (w8 a); unfold in32; omega) (in_t h)) (fun h H locs ls hl k => ?_) k
  rw [hd.2] at k
  exact lv_i2b K.1 K.2.1 hd.1 (ofI_b (in_1 h)) k
theorem aw_i2s (K : aK p s m args meth c M D cA ad adV z0) {a : Int} (hd : aD M i .i2s 1) (k : AW p l e R s m args below meth c Q D cA ad z0 M al (i + 1) lv (.inl (w16 a) :: st) sh mm nc ns) : AW p l e R s m args below meth c Q D cA ad z0 M al i lv (.inl a :: st) sh mm nc ns := by
  refine aw_go (st' := (.inl (w16 a) :: st)) (fun h _ => in_c (by have := w16_in a; change in32 (w16 a); unfold in32; omega) (in_t h)) (fun h H locs ls hl k => ?_) k
  rw [hd.2] at k
  exact lv_i2s K.1 K.2.1 hd.1 (ofI_s (in_1 h)) k
theorem aw_i2c (K : aK p s m args meth c M D cA ad adV z0) {a : Int} (hd : aD M i .i2c 1) (k : AW p l e R s m args below meth c Q D cA ad z0 M al (i + 1) lv (.inl (i2c a) :: st) sh mm nc ns) : AW p l e R s m args below meth c Q D cA ad z0 M al i lv (.inl a :: st) sh mm nc ns := by
  refine aw_go (st' := (.inl (i2c a) :: st)) (fun h _ => in_c (toInt_in32 _) (in_t h)) (fun h H locs ls hl k => ?_) k
  rw [hd.2] at k
  exact lv_i2c K.1 K.2.1 hd.1 (v := Int32.ofInt (i2c a)) (by unfold i2c; rw [Int32.ofInt_toInt]) k
theorem aw_iconst (K : aK p s m args meth c M D cA ad adV z0) {n : Int} (hn : in32 n) (hd : aD M i (.iconst n) 1) (k : AW p l e R s m args below meth c Q D cA ad z0 M al (i + 1) lv (.inl n :: st) sh mm nc ns) : AW p l e R s m args below meth c Q D cA ad z0 M al i lv st sh mm nc ns := by
  refine aw_go (st' := (.inl n :: st)) (fun h _ => in_c hn h) (fun h H locs ls hl k => ?_) k
  rw [hd.2] at k
  exact lv_iconst K.1 K.2.1 hd.1 rfl k
theorem aw_bipush (K : aK p s m args meth c M D cA ad adV z0) {n : Int} (hd : aD M i (.bipush n) 2) (k : AW p l e R s m args below meth c Q D cA ad z0 M al (i + 1) lv (.inl (w8 n) :: st) sh mm nc ns) : AW p l e R s m args below meth c Q D cA ad z0 M al i lv st sh mm nc ns := by
  refine aw_go (st' := (.inl (w8 n) :: st)) (fun h _ => in_c (by have := w8_in n; change in32 (w8 n); unfold in32; omega) h) (fun h H locs ls hl k => ?_) k
  rw [hd.2] at k
  exact lv_bipush K.1 K.2.1 hd.1 (of8_b n) k
theorem aw_sipush (K : aK p s m args meth c M D cA ad adV z0) {n : Int} (hd : aD M i (.sipush n) 3) (k : AW p l e R s m args below meth c Q D cA ad z0 M al (i + 1) lv (.inl (w16 n) :: st) sh mm nc ns) : AW p l e R s m args below meth c Q D cA ad z0 M al i lv st sh mm nc ns := by
  refine aw_go (st' := (.inl (w16 n) :: st)) (fun h _ => in_c (by have := w16_in n; change in32 (w16 n); unfold in32; omega) h) (fun h H locs ls hl k => ?_) k
  rw [hd.2] at k
  exact lv_sipush K.1 K.2.1 hd.1 (of16_s n) k
theorem aw_lconst (K : aK p s m args meth c M D cA ad adV z0) {n : Fin 2} (hd : aD M i (.lconst n) 1) (k : AW p l e R s m args below meth c Q D cA ad z0 M al (i + 1) lv (.inr (.inl ((n : Nat) : Int)) :: st) sh mm nc ns) : AW p l e R s m args below meth c Q D cA ad z0 M al i lv st sh mm nc ns := by
  refine aw_go (st' := (.inr (.inl ((n : Nat) : Int)) :: st)) (fun h _ => in_c (by have := n.isLt; change in64 ((n : Nat) : Int); unfold in64; omega) h) (fun h H locs ls hl k => ?_) k
  rw [hd.2] at k
  exact lv_lconst K.1 K.2.1 hd.1 (by match n with | 0 => rfl | 1 => rfl) k
theorem aw_dup (K : aK p s m args meth c M D cA ad adV z0) {v : aV} (hv : aCat v = 1) (hd : aD M i .dup 1) (k : AW p l e R s m args below meth c Q D cA ad z0 M al (i + 1) lv (v :: v :: st) sh mm nc ns) : AW p l e R s m args below meth c Q D cA ad z0 M al i lv (v :: st) sh mm nc ns := by
  refine aw_go (st' := (v :: v :: st)) (fun h _ => in_c (in_1 h) h) (fun h H locs ls hl k => ?_) k
  rw [hd.2] at k
  exact lv_dup K.1 K.2.1 hd.1 ((cV_cat al ad v).trans hv) k
theorem aw_pop (K : aK p s m args meth c M D cA ad adV z0) {v : aV} (hv : aCat v = 1) (hd : aD M i .pop 1) (k : AW p l e R s m args below meth c Q D cA ad z0 M al (i + 1) lv st sh mm nc ns) : AW p l e R s m args below meth c Q D cA ad z0 M al i lv (v :: st) sh mm nc ns := by
  refine aw_go (st' := st) (fun h _ => in_t h) (fun h H locs ls hl k => ?_) k
  rw [hd.2] at k
  exact lv_pop K.1 K.2.1 hd.1 ((cV_cat al ad v).trans hv) k
theorem aw_dup2_11 (K : aK p s m args meth c M D cA ad adV z0) {v u : aV} (hv : aCat v = 1) (hu : aCat u = 1) (hd : aD M i .dup2 1) (k : AW p l e R s m args below meth c Q D cA ad z0 M al (i + 1) lv (v :: u :: v :: u :: st) sh mm nc ns) : AW p l e R s m args below meth c Q D cA ad z0 M al i lv (v :: u :: st) sh mm nc ns := by
  refine aw_go (st' := (v :: u :: v :: u :: st)) (fun h _ => in_c (in_1 h) (in_c (in_1 (in_t h)) h)) (fun h H locs ls hl k => ?_) k
  rw [hd.2] at k
  exact lv_dup2_11 K.1 K.2.1 hd.1 ((cV_cat al ad v).trans hv) ((cV_cat al ad u).trans hu) k
theorem aw_dup2_2 (K : aK p s m args meth c M D cA ad adV z0) {v : aV} (hv : aCat v = 2) (hd : aD M i .dup2 1) (k : AW p l e R s m args below meth c Q D cA ad z0 M al (i + 1) lv (v :: v :: st) sh mm nc ns) : AW p l e R s m args below meth c Q D cA ad z0 M al i lv (v :: st) sh mm nc ns := by
  refine aw_go (st' := (v :: v :: st)) (fun h _ => in_c (in_1 h) h) (fun h H locs ls hl k => ?_) k
  rw [hd.2] at k
  exact lv_dup2_2 K.1 K.2.1 hd.1 ((cV_cat al ad v).trans hv) k
theorem aw_pop2_11 (K : aK p s m args meth c M D cA ad adV z0) {v u : aV} (hv : aCat v = 1) (hu : aCat u = 1) (hd : aD M i .pop2 1) (k : AW p l e R s m args below meth c Q D cA ad z0 M al (i + 1) lv st sh mm nc ns) : AW p l e R s m args below meth c Q D cA ad z0 M al i lv (v :: u :: st) sh mm nc ns := by
  refine aw_go (st' := st) (fun h _ => in_t (in_t h)) (fun h H locs ls hl k => ?_) k
  rw [hd.2] at k
  exact lv_pop2_11 K.1 K.2.1 hd.1 ((cV_cat al ad v).trans hv) ((cV_cat al ad u).trans hu) k
theorem aw_pop2_2 (K : aK p s m args meth c M D cA ad adV z0) {v : aV} (hv : aCat v = 2) (hd : aD M i .pop2 1) (k : AW p l e R s m args below meth c Q D cA ad z0 M al (i + 1) lv st sh mm nc ns) : AW p l e R s m args below meth c Q D cA ad z0 M al i lv (v :: st) sh mm nc ns := by
  refine aw_go (st' := st) (fun h _ => in_t h) (fun h H locs ls hl k => ?_) k
  rw [hd.2] at k
  exact lv_pop2_2 K.1 K.2.1 hd.1 ((cV_cat al ad v).trans hv) k
theorem aw_iload_n (K : aK p s m args meth c M D cA ad adV z0) {j : Fin 4} {a : Int} (hd : aD M i (.iload_n j) 1) (hg : aGet lv (j : Nat) = some (.inl a)) (k : AW p l e R s m args below meth c Q D cA ad z0 M al (i + 1) lv ((.inl a) :: st) sh mm nc ns) : AW p l e R s m args below meth c Q D cA ad z0 M al i lv st sh mm nc ns := by
  refine aw_go (st' := (.inl a) :: st) (fun h h2 => in_c (h2 _ (aGet_mem hg)) h) (fun h H locs ls hl k => ?_) k
  rw [hd.2] at k
  exact lv_iload_n K.1 K.2.1 hd.1 rfl (aGet_at hg hl) k
theorem aw_iload (K : aK p s m args meth c M D cA ad adV z0) {j : Nat} {a : Int} (hd : aD M i (.iload j) 2) (hg : aGet lv j = some (.inl a)) (k : AW p l e R s m args below meth c Q D cA ad z0 M al (i + 1) lv ((.inl a) :: st) sh mm nc ns) : AW p l e R s m args below meth c Q D cA ad z0 M al i lv st sh mm nc ns := by
  refine aw_go (st' := (.inl a) :: st) (fun h h2 => in_c (h2 _ (aGet_mem hg)) h) (fun h H locs ls hl k => ?_) k
  rw [hd.2] at k
  exact lv_iload K.1 K.2.1 hd.1 (aGet_at hg hl) k
theorem aw_lload_n (K : aK p s m args meth c M D cA ad adV z0) {j : Fin 4} {a : Int} (hd : aD M i (.lload_n j) 1) (hg : aGet lv (j : Nat) = some (.inr (.inl a))) (k : AW p l e R s m args below meth c Q D cA ad z0 M al (i + 1) lv ((.inr (.inl a)) :: st) sh mm nc ns) : AW p l e R s m args below meth c Q D cA ad z0 M al i lv st sh mm nc ns := by
  refine aw_go (st' := (.inr (.inl a)) :: st) (fun h h2 => in_c (h2 _ (aGet_mem hg)) h) (fun h H locs ls hl k => ?_) k
  rw [hd.2] at k
  exact lv_lload_n K.1 K.2.1 hd.1 rfl (aGet_at hg hl) k
theorem aw_lload (K : aK p s m args meth c M D cA ad adV z0) {j : Nat} {a : Int} (hd : aD M i (.lload j) 2) (hg : aGet lv j = some (.inr (.inl a))) (k : AW p l e R s m args below meth c Q D cA ad z0 M al (i + 1) lv ((.inr (.inl a)) :: st) sh mm nc ns) : AW p l e R s m args below meth c Q D cA ad z0 M al i lv st sh mm nc ns := by
  refine aw_go (st' := (.inr (.inl a)) :: st) (fun h h2 => in_c (h2 _ (aGet_mem hg)) h) (fun h H locs ls hl k => ?_) k
  rw [hd.2] at k
  exact lv_lload K.1 K.2.1 hd.1 (aGet_at hg hl) k
theorem aw_aload_n (K : aK p s m args meth c M D cA ad adV z0) {j : Fin 4} {a : Nat} (hd : aD M i (.aload_n j) 1) (hg : aGet lv (j : Nat) = some (.inr (.inr (.inl (some a))))) (k : AW p l e R s m args below meth c Q D cA ad z0 M al (i + 1) lv ((.inr (.inr (.inl (some a)))) :: st) sh mm nc ns) : AW p l e R s m args below meth c Q D cA ad z0 M al i lv st sh mm nc ns := by
  refine aw_go (st' := (.inr (.inr (.inl (some a)))) :: st) (fun h h2 => in_c (h2 _ (aGet_mem hg)) h) (fun h H locs ls hl k => ?_) k
  rw [hd.2] at k
  exact lv_aload_n K.1 K.2.1 hd.1 rfl (aGet_at hg hl) k
theorem aw_aload (K : aK p s m args meth c M D cA ad adV z0) {j : Nat} {a : Nat} (hd : aD M i (.aload j) 2) (hg : aGet lv j = some (.inr (.inr (.inl (some a))))) (k : AW p l e R s m args below meth c Q D cA ad z0 M al (i + 1) lv ((.inr (.inr (.inl (some a)))) :: st) sh mm nc ns) : AW p l e R s m args below meth c Q D cA ad z0 M al i lv st sh mm nc ns := by
  refine aw_go (st' := (.inr (.inr (.inl (some a)))) :: st) (fun h h2 => in_c (h2 _ (aGet_mem hg)) h) (fun h H locs ls hl k => ?_) k
  rw [hd.2] at k
  exact lv_aload K.1 K.2.1 hd.1 (aGet_at hg hl) k
theorem aw_sload_n (K : aK p s m args meth c M D cA ad adV z0) {j : Fin 4} {a : Nat} (hd : aD M i (.aload_n j) 1) (hg : aGet lv (j : Nat) = some (.inr (.inr (.inr a)))) (k : AW p l e R s m args below meth c Q D cA ad z0 M al (i + 1) lv ((.inr (.inr (.inr a))) :: st) sh mm nc ns) : AW p l e R s m args below meth c Q D cA ad z0 M al i lv st sh mm nc ns := by
  refine aw_go (st' := (.inr (.inr (.inr a))) :: st) (fun h h2 => in_c (h2 _ (aGet_mem hg)) h) (fun h H locs ls hl k => ?_) k
  rw [hd.2] at k
  exact lv_aload_n K.1 K.2.1 hd.1 rfl (aGet_at hg hl) k
theorem aw_istore_n (K : aK p s m args meth c M D cA ad adV z0) {j : Fin 4} {a : Int} (hd : aD M i (.istore_n j) 1) (hn : (j : Nat) < M.2.2.1) (k : AW p l e R s m args below meth c Q D cA ad z0 M al (i + 1) (aPut lv (j : Nat) (.inl a)) st sh mm nc ns) : AW p l e R s m args below meth c Q D cA ad z0 M al i lv ((.inl a) :: st) sh mm nc ns := by
  refine aw_lv (lv' := aPut lv (j : Nat) (.inl a)) (st' := st) (fun h h2 => ⟨in_t h, aPut_in h2 (in_1 h)⟩) (fun H locs ls hl k => ?_) k
  rw [hd.2] at k
  exact lv_istore_n K.1 K.2.1 hd.1 rfl hl hn (cL_put al ad lv (j : Nat) (.inl a)) k
theorem aw_istore (K : aK p s m args meth c M D cA ad adV z0) {j : Nat} {a : Int} (hd : aD M i (.istore j) 2) (hn : j < M.2.2.1) (k : AW p l e R s m args below meth c Q D cA ad z0 M al (i + 1) (aPut lv j (.inl a)) st sh mm nc ns) : AW p l e R s m args below meth c Q D cA ad z0 M al i lv ((.inl a) :: st) sh mm nc ns := by
  refine aw_lv (lv' := aPut lv j (.inl a)) (st' := st) (fun h h2 => ⟨in_t h, aPut_in h2 (in_1 h)⟩) (fun H locs ls hl k => ?_) k
  rw [hd.2] at k
  exact lv_istore K.1 K.2.1 hd.1  hl hn (cL_put al ad lv j (.inl a)) k
theorem aw_lstore_n (K : aK p s m args meth c M D cA ad adV z0) {j : Fin 4} {a : Int} (hd : aD M i (.lstore_n j) 1) (hn : (j : Nat) + 1 < M.2.2.1) (k : AW p l e R s m args below meth c Q D cA ad z0 M al (i + 1) (aPut2 lv (j : Nat) (.inr (.inl a))) st sh mm nc ns) : AW p l e R s m args below meth c Q D cA ad z0 M al i lv ((.inr (.inl a)) :: st) sh mm nc ns := by
  refine aw_lv (lv' := aPut2 lv (j : Nat) (.inr (.inl a))) (st' := st) (fun h h2 => ⟨in_t h, aPut2_in h2 (in_1 h)⟩) (fun H locs ls hl k => ?_) k
  rw [hd.2] at k
  exact lv_lstore_n K.1 K.2.1 hd.1 rfl hl hn (cL_put2 al ad lv (j : Nat) (.inr (.inl a))) k
theorem aw_lstore (K : aK p s m args meth c M D cA ad adV z0) {j : Nat} {a : Int} (hd : aD M i (.lstore j) 2) (hn : j + 1 < M.2.2.1) (k : AW p l e R s m args below meth c Q D cA ad z0 M al (i + 1) (aPut2 lv j (.inr (.inl a))) st sh mm nc ns) : AW p l e R s m args below meth c Q D cA ad z0 M al i lv ((.inr (.inl a)) :: st) sh mm nc ns := by
  refine aw_lv (lv' := aPut2 lv j (.inr (.inl a))) (st' := st) (fun h h2 => ⟨in_t h, aPut2_in h2 (in_1 h)⟩) (fun H locs ls hl k => ?_) k
  rw [hd.2] at k
  exact lv_lstore K.1 K.2.1 hd.1  hl hn (cL_put2 al ad lv j (.inr (.inl a))) k
theorem aw_astore_n (K : aK p s m args meth c M D cA ad adV z0) {j : Fin 4} {a : Nat} (hd : aD M i (.astore_n j) 1) (hn : (j : Nat) < M.2.2.1) (k : AW p l e R s m args below meth c Q D cA ad z0 M al (i + 1) (aPut lv (j : Nat) (.inr (.inr (.inl (some a))))) st sh mm nc ns) : AW p l e R s m args below meth c Q D cA ad z0 M al i lv ((.inr (.inr (.inl (some a)))) :: st) sh mm nc ns := by
  refine aw_lv (lv' := aPut lv (j : Nat) (.inr (.inr (.inl (some a))))) (st' := st) (fun h h2 => ⟨in_t h, aPut_in h2 (in_1 h)⟩) (fun H locs ls hl k => ?_) k
  rw [hd.2] at k
  exact lv_astore_n K.1 K.2.1 hd.1 rfl hl hn (cL_put al ad lv (j : Nat) (.inr (.inr (.inl (some a))))) k
theorem aw_astore (K : aK p s m args meth c M D cA ad adV z0) {j : Nat} {a : Nat} (hd : aD M i (.astore j) 2) (hn : j < M.2.2.1) (k : AW p l e R s m args below meth c Q D cA ad z0 M al (i + 1) (aPut lv j (.inr (.inr (.inl (some a))))) st sh mm nc ns) : AW p l e R s m args below meth c Q D cA ad z0 M al i lv ((.inr (.inr (.inl (some a)))) :: st) sh mm nc ns := by
  refine aw_lv (lv' := aPut lv j (.inr (.inr (.inl (some a))))) (st' := st) (fun h h2 => ⟨in_t h, aPut_in h2 (in_1 h)⟩) (fun H locs ls hl k => ?_) k
  rw [hd.2] at k
  exact lv_astore K.1 K.2.1 hd.1  hl hn (cL_put al ad lv j (.inr (.inr (.inl (some a))))) k
theorem aw_iinc (K : aK p s m args meth c M D cA ad adV z0) {j : Nat} {n : Int} (hd : aD M i (.iinc j n) 3) {a : Int} (hn : j < M.2.2.1) (hg : aGet lv j = some (.inl a)) (k : AW p l e R s m args below meth c Q D cA ad z0 M al (i + 1) (aPut lv j (.inl (w32 (a + n)))) st sh mm nc ns) : AW p l e R s m args below meth c Q D cA ad z0 M al i lv st sh mm nc ns := by
  refine aw_lv (lv' := aPut lv j (.inl (w32 (a + n)))) (st' := st) (fun h h2 => ⟨h, aPut_in h2 (w32_in _)⟩) (fun H locs ls hl k => ?_) k
  rw [hd.2] at k
  obtain ⟨k9, hk9⟩ := List.getElem?_of_mem (List.mem_map.mpr ⟨(j, Sum.inl a), aGet_mem hg, rfl⟩ : (j, cV al ad (.inl a)) ∈ cL al ad lv)
  exact lv_iinc K.1 K.2.1 hd.1 hl hk9 (v := Int32.ofInt (w32 (a + n))) (by rw [ofI_w, Int32.ofInt_add]) hn (cL_put al ad lv j (.inl (w32 (a + n)))) k
theorem aw_if_eq (K : aK p s m args meth c M D cA ad adV z0) {off : Int} {t : Nat} (hd : aD M i (.ifCond .eq off) 3) (hj : aJ M i t off) {a : Int} (kt : a = 0 → AW p l e R s m args below meth c Q D cA ad z0 M al t lv st sh mm nc ns) (kf : ¬ (a = 0) → AW p l e R s m args below meth c Q D cA ad z0 M al (i + 1) lv st sh mm nc ns) : AW p l e R s m args below meth c Q D cA ad z0 M al i lv (.inl a :: st) sh mm nc ns := by
  intro H locs ls hW h hlv hl
  have q := ofI_eq (in_1 h) in32_0
  refine lv_if_eq K.1 K.2.1 hd.1 hj (fun z => ?_) (fun z => ?_)
  · exact kt (q.mp z) H locs ls hW (in_t h) hlv hl
  · have k := kf (fun y => z (q.mpr y)) H locs ls hW (in_t h) hlv hl
    rw [hd.2] at k
    exact k
theorem aw_if_ne (K : aK p s m args meth c M D cA ad adV z0) {off : Int} {t : Nat} (hd : aD M i (.ifCond .ne off) 3) (hj : aJ M i t off) {a : Int} (kt : ¬ a = 0 → AW p l e R s m args below meth c Q D cA ad z0 M al t lv st sh mm nc ns) (kf : a = 0 → AW p l e R s m args below meth c Q D cA ad z0 M al (i + 1) lv st sh mm nc ns) : AW p l e R s m args below meth c Q D cA ad z0 M al i lv (.inl a :: st) sh mm nc ns := by
  intro H locs ls hW h hlv hl
  have q := not_congr (ofI_eq (in_1 h) in32_0)
  refine lv_if_ne K.1 K.2.1 hd.1 hj (fun z => ?_) (fun z => ?_)
  · exact kt (q.mp z) H locs ls hW (in_t h) hlv hl
  · have k := kf ((Classical.not_not.mp (fun y => q.mpr y z))) H locs ls hW (in_t h) hlv hl
    rw [hd.2] at k
    exact k
theorem aw_if_lt (K : aK p s m args meth c M D cA ad adV z0) {off : Int} {t : Nat} (hd : aD M i (.ifCond .lt off) 3) (hj : aJ M i t off) {a : Int} (kt : a < 0 → AW p l e R s m args below meth c Q D cA ad z0 M al t lv st sh mm nc ns) (kf : ¬ (a < 0) → AW p l e R s m args below meth c Q D cA ad z0 M al (i + 1) lv st sh mm nc ns) : AW p l e R s m args below meth c Q D cA ad z0 M al i lv (.inl a :: st) sh mm nc ns := by
  intro H locs ls hW h hlv hl
  have q := ofI_lt (in_1 h) in32_0
  refine lv_if_lt K.1 K.2.1 hd.1 hj (fun z => ?_) (fun z => ?_)
  · exact kt (q.mp z) H locs ls hW (in_t h) hlv hl
  · have k := kf (fun y => z (q.mpr y)) H locs ls hW (in_t h) hlv hl
    rw [hd.2] at k
    exact k
theorem aw_if_ge (K : aK p s m args meth c M D cA ad adV z0) {off : Int} {t : Nat} (hd : aD M i (.ifCond .ge off) 3) (hj : aJ M i t off) {a : Int} (kt : 0 ≤ a → AW p l e R s m args below meth c Q D cA ad z0 M al t lv st sh mm nc ns) (kf : ¬ (0 ≤ a) → AW p l e R s m args below meth c Q D cA ad z0 M al (i + 1) lv st sh mm nc ns) : AW p l e R s m args below meth c Q D cA ad z0 M al i lv (.inl a :: st) sh mm nc ns := by
  intro H locs ls hW h hlv hl
  have q := ofI_le in32_0 (in_1 h)
  refine lv_if_ge K.1 K.2.1 hd.1 hj (fun z => ?_) (fun z => ?_)
  · exact kt (q.mp z) H locs ls hW (in_t h) hlv hl
  · have k := kf (fun y => z (q.mpr y)) H locs ls hW (in_t h) hlv hl
    rw [hd.2] at k
    exact k
theorem aw_if_gt (K : aK p s m args meth c M D cA ad adV z0) {off : Int} {t : Nat} (hd : aD M i (.ifCond .gt off) 3) (hj : aJ M i t off) {a : Int} (kt : 0 < a → AW p l e R s m args below meth c Q D cA ad z0 M al t lv st sh mm nc ns) (kf : ¬ (0 < a) → AW p l e R s m args below meth c Q D cA ad z0 M al (i + 1) lv st sh mm nc ns) : AW p l e R s m args below meth c Q D cA ad z0 M al i lv (.inl a :: st) sh mm nc ns := by
  intro H locs ls hW h hlv hl
  have q := ofI_lt in32_0 (in_1 h)
  refine lv_if_gt K.1 K.2.1 hd.1 hj (fun z => ?_) (fun z => ?_)
  · exact kt (q.mp z) H locs ls hW (in_t h) hlv hl
  · have k := kf (fun y => z (q.mpr y)) H locs ls hW (in_t h) hlv hl
    rw [hd.2] at k
    exact k
theorem aw_if_le (K : aK p s m args meth c M D cA ad adV z0) {off : Int} {t : Nat} (hd : aD M i (.ifCond .le off) 3) (hj : aJ M i t off) {a : Int} (kt : a ≤ 0 → AW p l e R s m args below meth c Q D cA ad z0 M al t lv st sh mm nc ns) (kf : ¬ (a ≤ 0) → AW p l e R s m args below meth c Q D cA ad z0 M al (i + 1) lv st sh mm nc ns) : AW p l e R s m args below meth c Q D cA ad z0 M al i lv (.inl a :: st) sh mm nc ns := by
  intro H locs ls hW h hlv hl
  have q := ofI_le (in_1 h) in32_0
  refine lv_if_le K.1 K.2.1 hd.1 hj (fun z => ?_) (fun z => ?_)
  · exact kt (q.mp z) H locs ls hW (in_t h) hlv hl
  · have k := kf (fun y => z (q.mpr y)) H locs ls hW (in_t h) hlv hl
    rw [hd.2] at k
    exact k
theorem aw_icmp_eq (K : aK p s m args meth c M D cA ad adV z0) {off : Int} {t : Nat} (hd : aD M i (.if_icmp .eq off) 3) (hj : aJ M i t off) {a b : Int} (kt : a = b → AW p l e R s m args below meth c Q D cA ad z0 M al t lv st sh mm nc ns) (kf : ¬ (a = b) → AW p l e R s m args below meth c Q D cA ad z0 M al (i + 1) lv st sh mm nc ns) : AW p l e R s m args below meth c Q D cA ad z0 M al i lv (.inl b :: .inl a :: st) sh mm nc ns := by
  intro H locs ls hW h hlv hl
  have q := ofI_eq (in_1 (in_t h)) (in_1 h)
  refine lv_icmp_eq K.1 K.2.1 hd.1 hj (fun z => ?_) (fun z => ?_)
  · exact kt (q.mp z) H locs ls hW (in_t (in_t h)) hlv hl
  · have k := kf (fun y => z (q.mpr y)) H locs ls hW (in_t (in_t h)) hlv hl
    rw [hd.2] at k
    exact k
theorem aw_icmp_ne (K : aK p s m args meth c M D cA ad adV z0) {off : Int} {t : Nat} (hd : aD M i (.if_icmp .ne off) 3) (hj : aJ M i t off) {a b : Int} (kt : ¬ a = b → AW p l e R s m args below meth c Q D cA ad z0 M al t lv st sh mm nc ns) (kf : a = b → AW p l e R s m args below meth c Q D cA ad z0 M al (i + 1) lv st sh mm nc ns) : AW p l e R s m args below meth c Q D cA ad z0 M al i lv (.inl b :: .inl a :: st) sh mm nc ns := by
  intro H locs ls hW h hlv hl
  have q := not_congr (ofI_eq (in_1 (in_t h)) (in_1 h))
  refine lv_icmp_ne K.1 K.2.1 hd.1 hj (fun z => ?_) (fun z => ?_)
  · exact kt (q.mp z) H locs ls hW (in_t (in_t h)) hlv hl
  · have k := kf ((Classical.not_not.mp (fun y => q.mpr y z))) H locs ls hW (in_t (in_t h)) hlv hl
    rw [hd.2] at k
    exact k
theorem aw_icmp_lt (K : aK p s m args meth c M D cA ad adV z0) {off : Int} {t : Nat} (hd : aD M i (.if_icmp .lt off) 3) (hj : aJ M i t off) {a b : Int} (kt : a < b → AW p l e R s m args below meth c Q D cA ad z0 M al t lv st sh mm nc ns) (kf : ¬ (a < b) → AW p l e R s m args below meth c Q D cA ad z0 M al (i + 1) lv st sh mm nc ns) : AW p l e R s m args below meth c Q D cA ad z0 M al i lv (.inl b :: .inl a :: st) sh mm nc ns := by
  intro H locs ls hW h hlv hl
  have q := ofI_lt (in_1 (in_t h)) (in_1 h)
  refine lv_icmp_lt K.1 K.2.1 hd.1 hj (fun z => ?_) (fun z => ?_)
  · exact kt (q.mp z) H locs ls hW (in_t (in_t h)) hlv hl
  · have k := kf (fun y => z (q.mpr y)) H locs ls hW (in_t (in_t h)) hlv hl
    rw [hd.2] at k
    exact k
theorem aw_icmp_ge (K : aK p s m args meth c M D cA ad adV z0) {off : Int} {t : Nat} (hd : aD M i (.if_icmp .ge off) 3) (hj : aJ M i t off) {a b : Int} (kt : b ≤ a → AW p l e R s m args below meth c Q D cA ad z0 M al t lv st sh mm nc ns) (kf : ¬ (b ≤ a) → AW p l e R s m args below meth c Q D cA ad z0 M al (i + 1) lv st sh mm nc ns) : AW p l e R s m args below meth c Q D cA ad z0 M al i lv (.inl b :: .inl a :: st) sh mm nc ns := by
  intro H locs ls hW h hlv hl
  have q := ofI_le (in_1 h) (in_1 (in_t h))
  refine lv_icmp_ge K.1 K.2.1 hd.1 hj (fun z => ?_) (fun z => ?_)
  · exact kt (q.mp z) H locs ls hW (in_t (in_t h)) hlv hl
  · have k := kf (fun y => z (q.mpr y)) H locs ls hW (in_t (in_t h)) hlv hl
    rw [hd.2] at k
    exact k
theorem aw_icmp_gt (K : aK p s m args meth c M D cA ad adV z0) {off : Int} {t : Nat} (hd : aD M i (.if_icmp .gt off) 3) (hj : aJ M i t off) {a b : Int} (kt : b < a → AW p l e R s m args below meth c Q D cA ad z0 M al t lv st sh mm nc ns) (kf : ¬ (b < a) → AW p l e R s m args below meth c Q D cA ad z0 M al (i + 1) lv st sh mm nc ns) : AW p l e R s m args below meth c Q D cA ad z0 M al i lv (.inl b :: .inl a :: st) sh mm nc ns := by
  intro H locs ls hW h hlv hl
  have q := ofI_lt (in_1 h) (in_1 (in_t h))
  refine lv_icmp_gt K.1 K.2.1 hd.1 hj (fun z => ?_) (fun z => ?_)
  · exact kt (q.mp z) H locs ls hW (in_t (in_t h)) hlv hl
  · have k := kf (fun y => z (q.mpr y)) H locs ls hW (in_t (in_t h)) hlv hl
    rw [hd.2] at k
    exact k
theorem aw_icmp_le (K : aK p s m args meth c M D cA ad adV z0) {off : Int} {t : Nat} (hd : aD M i (.if_icmp .le off) 3) (hj : aJ M i t off) {a b : Int} (kt : a ≤ b → AW p l e R s m args below meth c Q D cA ad z0 M al t lv st sh mm nc ns) (kf : ¬ (a ≤ b) → AW p l e R s m args below meth c Q D cA ad z0 M al (i + 1) lv st sh mm nc ns) : AW p l e R s m args below meth c Q D cA ad z0 M al i lv (.inl b :: .inl a :: st) sh mm nc ns := by
  intro H locs ls hW h hlv hl
  have q := ofI_le (in_1 (in_t h)) (in_1 h)
  refine lv_icmp_le K.1 K.2.1 hd.1 hj (fun z => ?_) (fun z => ?_)
  · exact kt (q.mp z) H locs ls hW (in_t (in_t h)) hlv hl
  · have k := kf (fun y => z (q.mpr y)) H locs ls hW (in_t (in_t h)) hlv hl
    rw [hd.2] at k
    exact k
theorem aw_goto (K : aK p s m args meth c M D cA ad adV z0) {off : Int} {t : Nat} (hd : decode M.2.1 (aPc M i) = .ok (.goto off, 3)) (hj : aJ M i t off) (k : AW p l e R s m args below meth c Q D cA ad z0 M al t lv st sh mm nc ns) : AW p l e R s m args below meth c Q D cA ad z0 M al i lv st sh mm nc ns := by
  intro H locs ls hW h hlv hl
  exact lv_goto K.1 K.2.1 hd hj (k H locs ls hW h hlv hl)
theorem aw_lcmp (K : aK p s m args meth c M D cA ad adV z0) (hd : aD M i .lcmp 1) {a b : Int} (k : AW p l e R s m args below meth c Q D cA ad z0 M al (i + 1) lv (.inl (if b < a then 1 else if a = b then 0 else -1) :: st) sh mm nc ns) : AW p l e R s m args below meth c Q D cA ad z0 M al i lv (.inr (.inl b) :: .inr (.inl a) :: st) sh mm nc ns := by
  refine aw_go (st' := .inl (if b < a then 1 else if a = b then 0 else -1) :: st) (fun h _ => in_c (by change in32 _; unfold in32; split <;> (try split) <;> omega) (in_t (in_t h))) (fun h H locs ls hl k => ?_) k
  rw [hd.2] at k
  have q1 := ofL_lt (in_1 h) (in_1 (in_t h))
  have q2 := ofL_eq (in_1 (in_t h)) (in_1 h)
  have e1 : cV al ad (.inl (if b < a then 1 else if a = b then 0 else -1)) = .int (lg_cmp (Int64.ofInt a) (Int64.ofInt b)) := by
    show Value.int _ = Value.int _
    unfold lg_cmp
    simp only [gt_iff_lt, q1, q2]
    split
    · rfl
    · split <;> rfl
  refine W.lcmp K.1 K.2.1 hd.1 ?_
  rw [← e1]
  exact k
end AWR
