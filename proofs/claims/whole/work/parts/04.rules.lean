/-! ROWS: an instruction each -/
def b_and (x y : Int) : Int := (Int32.ofInt x &&& Int32.ofInt y).toInt
def b_or (x y : Int) : Int := (Int32.ofInt x ||| Int32.ofInt y).toInt
def b_xor (x y : Int) : Int := (Int32.ofInt x ^^^ Int32.ofInt y).toInt
def b_shl (x y : Int) : Int := (Int32.ofInt x <<< (Int32.ofInt y &&& 31)).toInt
def b_shr (x y : Int) : Int := (Int32.ofInt x >>> (Int32.ofInt y &&& 31)).toInt
def b_ushr (x y : Int) : Int := ((Int32.ofInt x).toUInt32 >>> ((Int32.ofInt y).toUInt32 &&& Int32.toUInt32 31)).toInt32.toInt
theorem cls_ok : ∀ (t : Nat) (q : vw_C), vwCl[t]? = some q → (∀ w ∈ u_ws q.1 q.2.1 q.2.2, w ∈ WS) ∧ (∀ k, k < q.2.2 → parseFieldDescriptor (q.2.1 k).2.2.1 = some (px_ty t k)) ∧ (∀ a, a < q.2.2 → ∀ b, b < q.2.2 → a ≠ b → (q.2.1 a).2.1 ≠ (q.2.1 b).2.1) ∧ t < 11 := by
  intro t q hq
  match t, hq with
  | 0, hq => cases hq; exact ⟨inX0, tyX0_ok, nmX0, by omega⟩
  | 1, hq => cases hq; exact ⟨inX1, tyX1_ok, nmX1, by omega⟩
  | 2, hq => cases hq; exact ⟨inX2, tyX2_ok, nmX2, by omega⟩
  | 3, hq => cases hq; exact ⟨inX3, tyX3_ok, nmX3, by omega⟩
  | 4, hq => cases hq; exact ⟨inX4, tyX4_ok, nmX4, by omega⟩
  | 5, hq => cases hq; exact ⟨inX5, tyX5_ok, nmX5, by omega⟩
  | 6, hq => cases hq; exact ⟨inX6, tyX6_ok, nmX6, by omega⟩
  | 7, hq => cases hq; exact ⟨inX7, tyX7_ok, nmX7, by omega⟩
  | 8, hq => cases hq; exact ⟨inX8, tyX8_ok, nmX8, by omega⟩
  | 9, hq => cases hq; exact ⟨inX9, tyX9_ok, nmX9, by omega⟩
  | 10, hq => cases hq; exact ⟨inX10, tyX10_ok, nmX10, by omega⟩
  | t + 11, hq => simp [vwCl] at hq
theorem ex_iconst {M : MD} {pc : Nat} {ls : List (Option PV)} {st : List PV} {h : PH} {B : Nat × Nat} {Q : Option PV → PH → Prop} {n : Int} (pc' : Nat) (hd : decode M.2.1 pc = .ok (.iconst n, 1)) (hp : pc' = pc + 1)  (k : EX M pc' ls (vi n :: st) h B Q) : EX M pc ls (st) h B Q := by
  subst hp
  intro p l e R s m args below meth c D cy ad T0 A H locs cells slots lsA C S L
  exact lv_iconst C.1 C.2.1 hd rfl (k p l e R s m args below meth c D cy ad T0 A H locs cells slots lsA C S L)
theorem ex_bipush {M : MD} {pc : Nat} {ls : List (Option PV)} {st : List PV} {h : PH} {B : Nat × Nat} {Q : Option PV → PH → Prop} {n : Int} (pc' : Nat) (hd : decode M.2.1 pc = .ok (.bipush n, 2)) (hp : pc' = pc + 2) (hn : Int8.minValue.toInt ≤ n ∧ n ≤ Int8.maxValue.toInt) (k : EX M pc' ls (vi n :: st) h B Q) : EX M pc ls (st) h B Q := by
  subst hp
  intro p l e R s m args below meth c D cy ad T0 A H locs cells slots lsA C S L
  exact lv_bipush C.1 C.2.1 hd (Int8.toInt32_ofInt hn.1 hn.2) (k p l e R s m args below meth c D cy ad T0 A H locs cells slots lsA C S L)
theorem ex_sipush {M : MD} {pc : Nat} {ls : List (Option PV)} {st : List PV} {h : PH} {B : Nat × Nat} {Q : Option PV → PH → Prop} {n : Int} (pc' : Nat) (hd : decode M.2.1 pc = .ok (.sipush n, 3)) (hp : pc' = pc + 3) (hn : Int16.minValue.toInt ≤ n ∧ n ≤ Int16.maxValue.toInt) (k : EX M pc' ls (vi n :: st) h B Q) : EX M pc ls (st) h B Q := by
  subst hp
  intro p l e R s m args below meth c D cy ad T0 A H locs cells slots lsA C S L
  exact lv_sipush C.1 C.2.1 hd (Int16.toInt32_ofInt hn.1 hn.2) (k p l e R s m args below meth c D cy ad T0 A H locs cells slots lsA C S L)
theorem ex_ldcw {M : MD} {pc : Nat} {ls : List (Option PV)} {st : List PV} {h : PH} {B : Nat × Nat} {Q : Option PV → PH → Prop} {i : Nat} {n : Int} (pc' : Nat) (hd : decode M.2.1 pc = .ok (.ldc_w i, 3)) (hp : pc' = pc + 3) (hw : Cond.constant M.1.cls i (Int32.ofInt n) ∈ WS) (k : EX M pc' ls (vi n :: st) h B Q) : EX M pc ls (st) h B Q := by
  subst hp
  intro p l e R s m args below meth c D cy ad T0 A H locs cells slots lsA C S L
  exact lv_ldcw C.1 C.2.1 C.2.2.2.2.1 (C.2.2.2.2.2.1 _ hw) hd (k p l e R s m args below meth c D cy ad T0 A H locs cells slots lsA C S L)
theorem ex_ldc {M : MD} {pc : Nat} {ls : List (Option PV)} {st : List PV} {h : PH} {B : Nat × Nat} {Q : Option PV → PH → Prop} {i : Nat} {n : Int} (pc' : Nat) (hd : decode M.2.1 pc = .ok (.ldc i, 2)) (hp : pc' = pc + 2) (hw : Cond.constant M.1.cls i (Int32.ofInt n) ∈ WS) (k : EX M pc' ls (vi n :: st) h B Q) : EX M pc ls (st) h B Q := by
  subst hp
  intro p l e R s m args below meth c D cy ad T0 A H locs cells slots lsA C S L
  exact lv_ldc C.1 C.2.1 C.2.2.2.2.1 (C.2.2.2.2.2.1 _ hw) hd (k p l e R s m args below meth c D cy ad T0 A H locs cells slots lsA C S L)
theorem ex_ldc2 {M : MD} {pc : Nat} {ls : List (Option PV)} {st : List PV} {h : PH} {B : Nat × Nat} {Q : Option PV → PH → Prop} {i : Nat} {n : Int} (pc' : Nat) (hd : decode M.2.1 pc = .ok (.ldc2_w i, 3)) (hp : pc' = pc + 3) (hw : Cond.constantLong M.1.cls i (Int64.ofInt n) ∈ WS) (k : EX M pc' ls (vl n :: st) h B Q) : EX M pc ls (st) h B Q := by
  subst hp
  intro p l e R s m args below meth c D cy ad T0 A H locs cells slots lsA C S L
  exact lv_ldc2 C.1 C.2.1 C.2.2.2.2.1 (C.2.2.2.2.2.1 _ hw) hd (k p l e R s m args below meth c D cy ad T0 A H locs cells slots lsA C S L)
theorem ex_iload_n {M : MD} {pc : Nat} {ls : List (Option PV)} {st : List PV} {h : PH} {B : Nat × Nat} {Q : Option PV → PH → Prop} {i : Fin 4} {x : Int} (pc' : Nat) (hd : decode M.2.1 pc = .ok (.iload_n i, 1)) (hp : pc' = pc + 1) (hl : ls[(i : Nat)]? = some (some (vi x))) (k : EX M pc' ls (vi x :: st) h B Q) : EX M pc ls (st) h B Q := by
  subst hp
  intro p l e R s m args below meth c D cy ad T0 A H locs cells slots lsA C S L
  exact lv_iload_n C.1 C.2.1 hd rfl (L.2.2 _ _ hl) (k p l e R s m args below meth c D cy ad T0 A H locs cells slots lsA C S L)
theorem ex_iload {M : MD} {pc : Nat} {ls : List (Option PV)} {st : List PV} {h : PH} {B : Nat × Nat} {Q : Option PV → PH → Prop} {i : Nat} {x : Int} (pc' : Nat) (hd : decode M.2.1 pc = .ok (.iload i, 2)) (hp : pc' = pc + 2) (hl : ls[i]? = some (some (vi x))) (k : EX M pc' ls (vi x :: st) h B Q) : EX M pc ls (st) h B Q := by
  subst hp
  intro p l e R s m args below meth c D cy ad T0 A H locs cells slots lsA C S L
  exact lv_iload C.1 C.2.1 hd (L.2.2 _ _ hl) (k p l e R s m args below meth c D cy ad T0 A H locs cells slots lsA C S L)
theorem ex_lload_n {M : MD} {pc : Nat} {ls : List (Option PV)} {st : List PV} {h : PH} {B : Nat × Nat} {Q : Option PV → PH → Prop} {i : Fin 4} {x : Int} (pc' : Nat) (hd : decode M.2.1 pc = .ok (.lload_n i, 1)) (hp : pc' = pc + 1) (hl : ls[(i : Nat)]? = some (some (vl x))) (k : EX M pc' ls (vl x :: st) h B Q) : EX M pc ls (st) h B Q := by
  subst hp
  intro p l e R s m args below meth c D cy ad T0 A H locs cells slots lsA C S L
  exact lv_lload_n C.1 C.2.1 hd rfl (L.2.2 _ _ hl) (k p l e R s m args below meth c D cy ad T0 A H locs cells slots lsA C S L)
theorem ex_lload {M : MD} {pc : Nat} {ls : List (Option PV)} {st : List PV} {h : PH} {B : Nat × Nat} {Q : Option PV → PH → Prop} {i : Nat} {x : Int} (pc' : Nat) (hd : decode M.2.1 pc = .ok (.lload i, 2)) (hp : pc' = pc + 2) (hl : ls[i]? = some (some (vl x))) (k : EX M pc' ls (vl x :: st) h B Q) : EX M pc ls (st) h B Q := by
  subst hp
  intro p l e R s m args below meth c D cy ad T0 A H locs cells slots lsA C S L
  exact lv_lload C.1 C.2.1 hd (L.2.2 _ _ hl) (k p l e R s m args below meth c D cy ad T0 A H locs cells slots lsA C S L)
theorem ex_aload_n {M : MD} {pc : Nat} {ls : List (Option PV)} {st : List PV} {h : PH} {B : Nat × Nat} {Q : Option PV → PH → Prop} {i : Fin 4} {x : Nat} (pc' : Nat) (hd : decode M.2.1 pc = .ok (.aload_n i, 1)) (hp : pc' = pc + 1) (hl : ls[(i : Nat)]? = some (some (vr x))) (k : EX M pc' ls (vr x :: st) h B Q) : EX M pc ls (st) h B Q := by
  subst hp
  intro p l e R s m args below meth c D cy ad T0 A H locs cells slots lsA C S L
  exact lv_aload_n C.1 C.2.1 hd rfl (L.2.2 _ _ hl) (k p l e R s m args below meth c D cy ad T0 A H locs cells slots lsA C S L)
theorem ex_aload {M : MD} {pc : Nat} {ls : List (Option PV)} {st : List PV} {h : PH} {B : Nat × Nat} {Q : Option PV → PH → Prop} {i : Nat} {x : Nat} (pc' : Nat) (hd : decode M.2.1 pc = .ok (.aload i, 2)) (hp : pc' = pc + 2) (hl : ls[i]? = some (some (vr x))) (k : EX M pc' ls (vr x :: st) h B Q) : EX M pc ls (st) h B Q := by
  subst hp
  intro p l e R s m args below meth c D cy ad T0 A H locs cells slots lsA C S L
  exact lv_aload C.1 C.2.1 hd (L.2.2 _ _ hl) (k p l e R s m args below meth c D cy ad T0 A H locs cells slots lsA C S L)
theorem ex_istore_n {M : MD} {pc : Nat} {ls : List (Option PV)} {st : List PV} {h : PH} {B : Nat × Nat} {Q : Option PV → PH → Prop} {i : Fin 4} {x : Int} (pc' : Nat) (hd : decode M.2.1 pc = .ok (.istore_n i, 1)) (hp : pc' = pc + 1) (hi : (i : Nat) < M.2.2.1) (hk : px_ok ls i = true) (k : EX M pc' (ls.set (i : Nat) (some (vi x))) (st) h B Q) : EX M pc ls (vi x :: st) h B Q := by
  subst hp
  intro p l e R s m args below meth c D cy ad T0 A H locs cells slots lsA C S L
  refine lv_istore_n C.1 C.2.1 hd rfl L.has hi rfl (fun lsB hL => ?_)
  exact k p l e R s m args below meth c D cy ad T0 A H locs cells slots lsB C S (PL.set1 hk hL)
theorem ex_istore {M : MD} {pc : Nat} {ls : List (Option PV)} {st : List PV} {h : PH} {B : Nat × Nat} {Q : Option PV → PH → Prop} {i : Nat} {x : Int} (pc' : Nat) (hd : decode M.2.1 pc = .ok (.istore i, 2)) (hp : pc' = pc + 2) (hi : i < M.2.2.1) (hk : px_ok ls i = true) (k : EX M pc' (ls.set i (some (vi x))) (st) h B Q) : EX M pc ls (vi x :: st) h B Q := by
  subst hp
  intro p l e R s m args below meth c D cy ad T0 A H locs cells slots lsA C S L
  refine lv_istore C.1 C.2.1 hd L.has hi rfl (fun lsB hL => ?_)
  exact k p l e R s m args below meth c D cy ad T0 A H locs cells slots lsB C S (PL.set1 hk hL)
theorem ex_astore_n {M : MD} {pc : Nat} {ls : List (Option PV)} {st : List PV} {h : PH} {B : Nat × Nat} {Q : Option PV → PH → Prop} {i : Fin 4} {x : Nat} (pc' : Nat) (hd : decode M.2.1 pc = .ok (.astore_n i, 1)) (hp : pc' = pc + 1) (hi : (i : Nat) < M.2.2.1) (hk : px_ok ls i = true) (k : EX M pc' (ls.set (i : Nat) (some (vr x))) (st) h B Q) : EX M pc ls (vr x :: st) h B Q := by
  subst hp
  intro p l e R s m args below meth c D cy ad T0 A H locs cells slots lsA C S L
  refine lv_astore_n C.1 C.2.1 hd rfl L.has hi rfl (fun lsB hL => ?_)
  exact k p l e R s m args below meth c D cy ad T0 A H locs cells slots lsB C S (PL.set1 hk hL)
theorem ex_astore {M : MD} {pc : Nat} {ls : List (Option PV)} {st : List PV} {h : PH} {B : Nat × Nat} {Q : Option PV → PH → Prop} {i : Nat} {x : Nat} (pc' : Nat) (hd : decode M.2.1 pc = .ok (.astore i, 2)) (hp : pc' = pc + 2) (hi : i < M.2.2.1) (hk : px_ok ls i = true) (k : EX M pc' (ls.set i (some (vr x))) (st) h B Q) : EX M pc ls (vr x :: st) h B Q := by
  subst hp
  intro p l e R s m args below meth c D cy ad T0 A H locs cells slots lsA C S L
  refine lv_astore C.1 C.2.1 hd L.has hi rfl (fun lsB hL => ?_)
  exact k p l e R s m args below meth c D cy ad T0 A H locs cells slots lsB C S (PL.set1 hk hL)
theorem ex_lstore_n {M : MD} {pc : Nat} {ls : List (Option PV)} {st : List PV} {h : PH} {B : Nat × Nat} {Q : Option PV → PH → Prop} {i : Fin 4} {x : Int} (pc' : Nat) (hd : decode M.2.1 pc = .ok (.lstore_n i, 1)) (hp : pc' = pc + 1) (hi : (i : Nat) + 1 < M.2.2.1) (hk : px_ok ls i = true) (k : EX M pc' ((ls.set (i : Nat) (some (vl x))).set ((i : Nat) + 1) none) (st) h B Q) : EX M pc ls (vl x :: st) h B Q := by
  subst hp
  intro p l e R s m args below meth c D cy ad T0 A H locs cells slots lsA C S L
  refine lv_lstore_n C.1 C.2.1 hd rfl L.has hi rfl (fun lsB hL => ?_)
  exact k p l e R s m args below meth c D cy ad T0 A H locs cells slots lsB C S (PL.set2 hk hL)
theorem ex_iinc {M : MD} {pc : Nat} {ls : List (Option PV)} {st : List PV} {h : PH} {B : Nat × Nat} {Q : Option PV → PH → Prop} {i : Nat} {n x : Int} (pc' : Nat) (hd : decode M.2.1 pc = .ok (.iinc i n, 3)) (hp : pc' = pc + 3) (hl : ls[i]? = some (some (vi x))) (hi : i < M.2.2.1) (hk : px_ok ls i = true) (k : EX M pc' (ls.set i (some (vi (x + n)))) st h B Q) : EX M pc ls st h B Q := by
  subst hp
  intro p l e R s m args below meth c D cy ad T0 A H locs cells slots lsA C S L
  obtain ⟨j, hj⟩ := List.getElem?_of_mem (px_lv_mem (ad := ad) hl)
  refine lv_iinc C.1 C.2.1 hd L.has hj (Int32.ofInt_add x n).symm hi rfl (fun lsB hL => ?_)
  exact k p l e R s m args below meth c D cy ad T0 A H locs cells slots lsB C S (PL.set1 (v := vi (x + n)) hk hL)
theorem ex_iadd {M : MD} {pc : Nat} {ls : List (Option PV)} {st : List PV} {h : PH} {B : Nat × Nat} {Q : Option PV → PH → Prop} {x y : Int} (pc' : Nat) (hd : decode M.2.1 pc = .ok (.iadd, 1)) (hp : pc' = pc + 1)  (k : EX M pc' ls (vi (x + y) :: st) h B Q) : EX M pc ls (vi y :: vi x :: st) h B Q := by
  subst hp
  intro p l e R s m args below meth c D cy ad T0 A H locs cells slots lsA C S L
  have k := k p l e R s m args below meth c D cy ad T0 A H locs cells slots lsA C S L
  refine lv_iadd C.1 C.2.1 hd ?_
  rw [← Int32.ofInt_add]
  exact k
theorem ex_isub {M : MD} {pc : Nat} {ls : List (Option PV)} {st : List PV} {h : PH} {B : Nat × Nat} {Q : Option PV → PH → Prop} {x y : Int} (pc' : Nat) (hd : decode M.2.1 pc = .ok (.isub, 1)) (hp : pc' = pc + 1)  (k : EX M pc' ls (vi (x - y) :: st) h B Q) : EX M pc ls (vi y :: vi x :: st) h B Q := by
  subst hp
  intro p l e R s m args below meth c D cy ad T0 A H locs cells slots lsA C S L
  have k := k p l e R s m args below meth c D cy ad T0 A H locs cells slots lsA C S L
  refine lv_isub C.1 C.2.1 hd ?_
  rw [← Int32.ofInt_sub]
  exact k
theorem ex_imul {M : MD} {pc : Nat} {ls : List (Option PV)} {st : List PV} {h : PH} {B : Nat × Nat} {Q : Option PV → PH → Prop} {x y : Int} (pc' : Nat) (hd : decode M.2.1 pc = .ok (.imul, 1)) (hp : pc' = pc + 1)  (k : EX M pc' ls (vi (x * y) :: st) h B Q) : EX M pc ls (vi y :: vi x :: st) h B Q := by
  subst hp
  intro p l e R s m args below meth c D cy ad T0 A H locs cells slots lsA C S L
  have k := k p l e R s m args below meth c D cy ad T0 A H locs cells slots lsA C S L
  refine lv_imul C.1 C.2.1 hd ?_
  rw [← Int32.ofInt_mul]
  exact k
theorem ex_ladd {M : MD} {pc : Nat} {ls : List (Option PV)} {st : List PV} {h : PH} {B : Nat × Nat} {Q : Option PV → PH → Prop} {x y : Int} (pc' : Nat) (hd : decode M.2.1 pc = .ok (.ladd, 1)) (hp : pc' = pc + 1)  (k : EX M pc' ls (vl (x + y) :: st) h B Q) : EX M pc ls (vl y :: vl x :: st) h B Q := by
  subst hp
  intro p l e R s m args below meth c D cy ad T0 A H locs cells slots lsA C S L
  have k := k p l e R s m args below meth c D cy ad T0 A H locs cells slots lsA C S L
  refine lv_ladd C.1 C.2.1 hd ?_
  rw [← Int64.ofInt_add]
  exact k
theorem ex_lmul {M : MD} {pc : Nat} {ls : List (Option PV)} {st : List PV} {h : PH} {B : Nat × Nat} {Q : Option PV → PH → Prop} {x y : Int} (pc' : Nat) (hd : decode M.2.1 pc = .ok (.lmul, 1)) (hp : pc' = pc + 1)  (k : EX M pc' ls (vl (x * y) :: st) h B Q) : EX M pc ls (vl y :: vl x :: st) h B Q := by
  subst hp
  intro p l e R s m args below meth c D cy ad T0 A H locs cells slots lsA C S L
  have k := k p l e R s m args below meth c D cy ad T0 A H locs cells slots lsA C S L
  refine lv_lmul C.1 C.2.1 hd ?_
  rw [← Int64.ofInt_mul]
  exact k
theorem ex_iand {M : MD} {pc : Nat} {ls : List (Option PV)} {st : List PV} {h : PH} {B : Nat × Nat} {Q : Option PV → PH → Prop} {x y : Int} (pc' : Nat) (hd : decode M.2.1 pc = .ok (.iand, 1)) (hp : pc' = pc + 1)  (k : EX M pc' ls (vi (b_and x y) :: st) h B Q) : EX M pc ls (vi y :: vi x :: st) h B Q := by
  subst hp
  intro p l e R s m args below meth c D cy ad T0 A H locs cells slots lsA C S L
  have k := k p l e R s m args below meth c D cy ad T0 A H locs cells slots lsA C S L
  refine lv_iand C.1 C.2.1 hd ?_
  simp only [List.map_cons, px_tr, b_and, Int32.ofInt_toInt] at k ⊢
  exact k
theorem ex_ior {M : MD} {pc : Nat} {ls : List (Option PV)} {st : List PV} {h : PH} {B : Nat × Nat} {Q : Option PV → PH → Prop} {x y : Int} (pc' : Nat) (hd : decode M.2.1 pc = .ok (.ior, 1)) (hp : pc' = pc + 1)  (k : EX M pc' ls (vi (b_or x y) :: st) h B Q) : EX M pc ls (vi y :: vi x :: st) h B Q := by
  subst hp
  intro p l e R s m args below meth c D cy ad T0 A H locs cells slots lsA C S L
  have k := k p l e R s m args below meth c D cy ad T0 A H locs cells slots lsA C S L
  refine lv_ior C.1 C.2.1 hd ?_
  simp only [List.map_cons, px_tr, b_or, Int32.ofInt_toInt] at k ⊢
  exact k
theorem ex_ixor {M : MD} {pc : Nat} {ls : List (Option PV)} {st : List PV} {h : PH} {B : Nat × Nat} {Q : Option PV → PH → Prop} {x y : Int} (pc' : Nat) (hd : decode M.2.1 pc = .ok (.ixor, 1)) (hp : pc' = pc + 1)  (k : EX M pc' ls (vi (b_xor x y) :: st) h B Q) : EX M pc ls (vi y :: vi x :: st) h B Q := by
  subst hp
  intro p l e R s m args below meth c D cy ad T0 A H locs cells slots lsA C S L
  have k := k p l e R s m args below meth c D cy ad T0 A H locs cells slots lsA C S L
  refine lv_ixor C.1 C.2.1 hd ?_
  simp only [List.map_cons, px_tr, b_xor, Int32.ofInt_toInt] at k ⊢
  exact k
theorem ex_ishl {M : MD} {pc : Nat} {ls : List (Option PV)} {st : List PV} {h : PH} {B : Nat × Nat} {Q : Option PV → PH → Prop} {x y : Int} (pc' : Nat) (hd : decode M.2.1 pc = .ok (.ishl, 1)) (hp : pc' = pc + 1)  (k : EX M pc' ls (vi (b_shl x y) :: st) h B Q) : EX M pc ls (vi y :: vi x :: st) h B Q := by
  subst hp
  intro p l e R s m args below meth c D cy ad T0 A H locs cells slots lsA C S L
  have k := k p l e R s m args below meth c D cy ad T0 A H locs cells slots lsA C S L
  refine lv_ishl C.1 C.2.1 hd ?_
  simp only [List.map_cons, px_tr, b_shl, Int32.ofInt_toInt] at k ⊢
  exact k
theorem ex_ishr {M : MD} {pc : Nat} {ls : List (Option PV)} {st : List PV} {h : PH} {B : Nat × Nat} {Q : Option PV → PH → Prop} {x y : Int} (pc' : Nat) (hd : decode M.2.1 pc = .ok (.ishr, 1)) (hp : pc' = pc + 1)  (k : EX M pc' ls (vi (b_shr x y) :: st) h B Q) : EX M pc ls (vi y :: vi x :: st) h B Q := by
  subst hp
  intro p l e R s m args below meth c D cy ad T0 A H locs cells slots lsA C S L
  have k := k p l e R s m args below meth c D cy ad T0 A H locs cells slots lsA C S L
  refine lv_ishr C.1 C.2.1 hd ?_
  simp only [List.map_cons, px_tr, b_shr, Int32.ofInt_toInt] at k ⊢
  exact k
theorem ex_iushr {M : MD} {pc : Nat} {ls : List (Option PV)} {st : List PV} {h : PH} {B : Nat × Nat} {Q : Option PV → PH → Prop} {x y : Int} (pc' : Nat) (hd : decode M.2.1 pc = .ok (.iushr, 1)) (hp : pc' = pc + 1)  (k : EX M pc' ls (vi (b_ushr x y) :: st) h B Q) : EX M pc ls (vi y :: vi x :: st) h B Q := by
  subst hp
  intro p l e R s m args below meth c D cy ad T0 A H locs cells slots lsA C S L
  have k := k p l e R s m args below meth c D cy ad T0 A H locs cells slots lsA C S L
  refine lv_iushr C.1 C.2.1 hd rfl ?_
  simp only [List.map_cons, px_tr, b_ushr, Int32.ofInt_toInt] at k ⊢
  exact k
theorem ex_idiv {M : MD} {pc : Nat} {ls : List (Option PV)} {st : List PV} {h : PH} {B : Nat × Nat} {Q : Option PV → PH → Prop} {x y : Int} (pc' : Nat) (hd : decode M.2.1 pc = .ok (.idiv, 1)) (hp : pc' = pc + 1) (rx : rng x) (ry : rng y) (hy : ¬ y = 0) (k : EX M pc' ls (vi (x.tdiv y) :: st) h B Q) : EX M pc ls (vi y :: vi x :: st) h B Q := by
  subst hp
  intro p l e R s m args below meth c D cy ad T0 A H locs cells slots lsA C S L
  have k := k p l e R s m args below meth c D cy ad T0 A H locs cells slots lsA C S L
  refine lv_idiv C.1 C.2.1 hd (fun z => hy ((rng_eq ry rng_0).mp z)) ?_
  rw [← Int32.ofInt_tdiv rx.1 rx.2 ry.1 ry.2]
  exact k
theorem ex_i2l {M : MD} {pc : Nat} {ls : List (Option PV)} {st : List PV} {h : PH} {B : Nat × Nat} {Q : Option PV → PH → Prop} {x : Int} (pc' : Nat) (hd : decode M.2.1 pc = .ok (.i2l, 1)) (hp : pc' = pc + 1) (rx : rng x) (k : EX M pc' ls (vl x :: st) h B Q) : EX M pc ls (vi x :: st) h B Q := by
  subst hp
  intro p l e R s m args below meth c D cy ad T0 A H locs cells slots lsA C S L
  exact lv_i2l C.1 C.2.1 hd (Int32.toInt64_ofInt rx.1 rx.2) (k p l e R s m args below meth c D cy ad T0 A H locs cells slots lsA C S L)
theorem ex_dup {M : MD} {pc : Nat} {ls : List (Option PV)} {st : List PV} {h : PH} {B : Nat × Nat} {Q : Option PV → PH → Prop} {v : PV} (pc' : Nat) (hd : decode M.2.1 pc = .ok (.dup, 1)) (hp : pc' = pc + 1) (hv : px_cat v = 1) (k : EX M pc' ls (v :: v :: st) h B Q) : EX M pc ls (v :: st) h B Q := by
  subst hp
  intro p l e R s m args below meth c D cy ad T0 A H locs cells slots lsA C S L
  exact lv_dup C.1 C.2.1 hd (by rw [px_cat_eq]; exact hv) (k p l e R s m args below meth c D cy ad T0 A H locs cells slots lsA C S L)
theorem ex_pop {M : MD} {pc : Nat} {ls : List (Option PV)} {st : List PV} {h : PH} {B : Nat × Nat} {Q : Option PV → PH → Prop} {v : PV} (pc' : Nat) (hd : decode M.2.1 pc = .ok (.pop, 1)) (hp : pc' = pc + 1) (hv : px_cat v = 1) (k : EX M pc' ls (st) h B Q) : EX M pc ls (v :: st) h B Q := by
  subst hp
  intro p l e R s m args below meth c D cy ad T0 A H locs cells slots lsA C S L
  exact lv_pop C.1 C.2.1 hd (by rw [px_cat_eq]; exact hv) (k p l e R s m args below meth c D cy ad T0 A H locs cells slots lsA C S L)
theorem ex_dup2 {M : MD} {pc : Nat} {ls : List (Option PV)} {st : List PV} {h : PH} {B : Nat × Nat} {Q : Option PV → PH → Prop} {v u : PV} (pc' : Nat) (hd : decode M.2.1 pc = .ok (.dup2, 1)) (hp : pc' = pc + 1) (hv : px_cat v = 1) (hu : px_cat u = 1) (k : EX M pc' ls (v :: u :: v :: u :: st) h B Q) : EX M pc ls (v :: u :: st) h B Q := by
  subst hp
  intro p l e R s m args below meth c D cy ad T0 A H locs cells slots lsA C S L
  exact lv_dup2_11 C.1 C.2.1 hd (by rw [px_cat_eq]; exact hv) (by rw [px_cat_eq]; exact hu) (k p l e R s m args below meth c D cy ad T0 A H locs cells slots lsA C S L)
theorem ex_goto {M : MD} {pc : Nat} {ls : List (Option PV)} {st : List PV} {h : PH} {B : Nat × Nat} {Q : Option PV → PH → Prop} {off : Int} (tgt : Nat) (hd : decode M.2.1 pc = .ok (.goto off, 3)) (ht : (pc : Int) + off = (tgt : Int)) (k : EX M tgt ls st h B Q) : EX M pc ls st h B Q := by
  intro p l e R s m args below meth c D cy ad T0 A H locs cells slots lsA C S L
  exact lv_goto C.1 C.2.1 hd ht (k p l e R s m args below meth c D cy ad T0 A H locs cells slots lsA C S L)
theorem ex_icmp_eq {M : MD} {pc : Nat} {ls : List (Option PV)} {st : List PV} {h : PH} {B : Nat × Nat} {Q : Option PV → PH → Prop} {x y : Int} {off : Int} (tgt pc' : Nat) (hd : decode M.2.1 pc = .ok (.if_icmp .eq off, 3)) (ht : (pc : Int) + off = (tgt : Int)) (hp : pc' = pc + 3) (rx : rng x) (ry : rng y) (kt : x = y → EX M tgt ls st h B Q) (kf : ¬ x = y → EX M pc' ls st h B Q) : EX M pc ls (vi y :: vi x :: st) h B Q := by
  subst hp
  intro p l e R s m args below meth c D cy ad T0 A H locs cells slots lsA C S L
  refine lv_icmp_eq C.1 C.2.1 hd ht (fun z => kt ?_ p l e R s m args below meth c D cy ad T0 A H locs cells slots lsA C S L) (fun z => kf ?_ p l e R s m args below meth c D cy ad T0 A H locs cells slots lsA C S L)
  · first | exact (rng_eq rx ry).mp z | exact fun q => z ((rng_eq rx ry).mpr q) | exact (rng_lt rx ry).mp z | exact (rng_lt ry rx).mp z | exact (rng_le rx ry).mp z | exact (rng_le ry rx).mp z | exact Int.not_lt.mp (fun q => z ((rng_lt rx ry).mpr q)) | exact Int.not_lt.mp (fun q => z ((rng_lt ry rx).mpr q)) | exact Int.not_le.mp (fun q => z ((rng_le rx ry).mpr q)) | exact Int.not_le.mp (fun q => z ((rng_le ry rx).mpr q)) | exact Classical.byContradiction (fun q => z (fun q2 => q ((rng_eq rx ry).mp q2)))
  · first | exact (rng_eq rx ry).mp z | exact fun q => z ((rng_eq rx ry).mpr q) | exact (rng_lt rx ry).mp z | exact (rng_lt ry rx).mp z | exact (rng_le rx ry).mp z | exact (rng_le ry rx).mp z | exact Int.not_lt.mp (fun q => z ((rng_lt rx ry).mpr q)) | exact Int.not_lt.mp (fun q => z ((rng_lt ry rx).mpr q)) | exact Int.not_le.mp (fun q => z ((rng_le rx ry).mpr q)) | exact Int.not_le.mp (fun q => z ((rng_le ry rx).mpr q)) | exact Classical.byContradiction (fun q => z (fun q2 => q ((rng_eq rx ry).mp q2)))
theorem ex_if_eq {M : MD} {pc : Nat} {ls : List (Option PV)} {st : List PV} {h : PH} {B : Nat × Nat} {Q : Option PV → PH → Prop} {x : Int} {off : Int} (tgt pc' : Nat) (hd : decode M.2.1 pc = .ok (.ifCond .eq off, 3)) (ht : (pc : Int) + off = (tgt : Int)) (hp : pc' = pc + 3) (rx : rng x) (kt : x = 0 → EX M tgt ls st h B Q) (kf : ¬ x = 0 → EX M pc' ls st h B Q) : EX M pc ls (vi x :: st) h B Q := by
  subst hp
  intro p l e R s m args below meth c D cy ad T0 A H locs cells slots lsA C S L
  refine lv_if_eq C.1 C.2.1 hd ht (fun z => kt ?_ p l e R s m args below meth c D cy ad T0 A H locs cells slots lsA C S L) (fun z => kf ?_ p l e R s m args below meth c D cy ad T0 A H locs cells slots lsA C S L)
  · first | exact (rng_eq rx rng_0).mp z | exact fun q => z ((rng_eq rx rng_0).mpr q) | exact (rng_lt rx rng_0).mp z | exact (rng_lt rng_0 rx).mp z | exact (rng_le rx rng_0).mp z | exact (rng_le rng_0 rx).mp z | exact Int.not_lt.mp (fun q => z ((rng_lt rx rng_0).mpr q)) | exact Int.not_lt.mp (fun q => z ((rng_lt rng_0 rx).mpr q)) | exact Int.not_le.mp (fun q => z ((rng_le rx rng_0).mpr q)) | exact Int.not_le.mp (fun q => z ((rng_le rng_0 rx).mpr q)) | exact Classical.byContradiction (fun q => z (fun q2 => q ((rng_eq rx rng_0).mp q2)))
  · first | exact (rng_eq rx rng_0).mp z | exact fun q => z ((rng_eq rx rng_0).mpr q) | exact (rng_lt rx rng_0).mp z | exact (rng_lt rng_0 rx).mp z | exact (rng_le rx rng_0).mp z | exact (rng_le rng_0 rx).mp z | exact Int.not_lt.mp (fun q => z ((rng_lt rx rng_0).mpr q)) | exact Int.not_lt.mp (fun q => z ((rng_lt rng_0 rx).mpr q)) | exact Int.not_le.mp (fun q => z ((rng_le rx rng_0).mpr q)) | exact Int.not_le.mp (fun q => z ((rng_le rng_0 rx).mpr q)) | exact Classical.byContradiction (fun q => z (fun q2 => q ((rng_eq rx rng_0).mp q2)))
theorem ex_icmp_ne {M : MD} {pc : Nat} {ls : List (Option PV)} {st : List PV} {h : PH} {B : Nat × Nat} {Q : Option PV → PH → Prop} {x y : Int} {off : Int} (tgt pc' : Nat) (hd : decode M.2.1 pc = .ok (.if_icmp .ne off, 3)) (ht : (pc : Int) + off = (tgt : Int)) (hp : pc' = pc + 3) (rx : rng x) (ry : rng y) (kt : ¬ x = y → EX M tgt ls st h B Q) (kf : x = y → EX M pc' ls st h B Q) : EX M pc ls (vi y :: vi x :: st) h B Q := by
  subst hp
  intro p l e R s m args below meth c D cy ad T0 A H locs cells slots lsA C S L
  refine lv_icmp_ne C.1 C.2.1 hd ht (fun z => kt ?_ p l e R s m args below meth c D cy ad T0 A H locs cells slots lsA C S L) (fun z => kf ?_ p l e R s m args below meth c D cy ad T0 A H locs cells slots lsA C S L)
  · first | exact (rng_eq rx ry).mp z | exact fun q => z ((rng_eq rx ry).mpr q) | exact (rng_lt rx ry).mp z | exact (rng_lt ry rx).mp z | exact (rng_le rx ry).mp z | exact (rng_le ry rx).mp z | exact Int.not_lt.mp (fun q => z ((rng_lt rx ry).mpr q)) | exact Int.not_lt.mp (fun q => z ((rng_lt ry rx).mpr q)) | exact Int.not_le.mp (fun q => z ((rng_le rx ry).mpr q)) | exact Int.not_le.mp (fun q => z ((rng_le ry rx).mpr q)) | exact Classical.byContradiction (fun q => z (fun q2 => q ((rng_eq rx ry).mp q2)))
  · first | exact (rng_eq rx ry).mp z | exact fun q => z ((rng_eq rx ry).mpr q) | exact (rng_lt rx ry).mp z | exact (rng_lt ry rx).mp z | exact (rng_le rx ry).mp z | exact (rng_le ry rx).mp z | exact Int.not_lt.mp (fun q => z ((rng_lt rx ry).mpr q)) | exact Int.not_lt.mp (fun q => z ((rng_lt ry rx).mpr q)) | exact Int.not_le.mp (fun q => z ((rng_le rx ry).mpr q)) | exact Int.not_le.mp (fun q => z ((rng_le ry rx).mpr q)) | exact Classical.byContradiction (fun q => z (fun q2 => q ((rng_eq rx ry).mp q2)))
theorem ex_if_ne {M : MD} {pc : Nat} {ls : List (Option PV)} {st : List PV} {h : PH} {B : Nat × Nat} {Q : Option PV → PH → Prop} {x : Int} {off : Int} (tgt pc' : Nat) (hd : decode M.2.1 pc = .ok (.ifCond .ne off, 3)) (ht : (pc : Int) + off = (tgt : Int)) (hp : pc' = pc + 3) (rx : rng x) (kt : ¬ x = 0 → EX M tgt ls st h B Q) (kf : x = 0 → EX M pc' ls st h B Q) : EX M pc ls (vi x :: st) h B Q := by
  subst hp
  intro p l e R s m args below meth c D cy ad T0 A H locs cells slots lsA C S L
  refine lv_if_ne C.1 C.2.1 hd ht (fun z => kt ?_ p l e R s m args below meth c D cy ad T0 A H locs cells slots lsA C S L) (fun z => kf ?_ p l e R s m args below meth c D cy ad T0 A H locs cells slots lsA C S L)
  · first | exact (rng_eq rx rng_0).mp z | exact fun q => z ((rng_eq rx rng_0).mpr q) | exact (rng_lt rx rng_0).mp z | exact (rng_lt rng_0 rx).mp z | exact (rng_le rx rng_0).mp z | exact (rng_le rng_0 rx).mp z | exact Int.not_lt.mp (fun q => z ((rng_lt rx rng_0).mpr q)) | exact Int.not_lt.mp (fun q => z ((rng_lt rng_0 rx).mpr q)) | exact Int.not_le.mp (fun q => z ((rng_le rx rng_0).mpr q)) | exact Int.not_le.mp (fun q => z ((rng_le rng_0 rx).mpr q)) | exact Classical.byContradiction (fun q => z (fun q2 => q ((rng_eq rx rng_0).mp q2)))
  · first | exact (rng_eq rx rng_0).mp z | exact fun q => z ((rng_eq rx rng_0).mpr q) | exact (rng_lt rx rng_0).mp z | exact (rng_lt rng_0 rx).mp z | exact (rng_le rx rng_0).mp z | exact (rng_le rng_0 rx).mp z | exact Int.not_lt.mp (fun q => z ((rng_lt rx rng_0).mpr q)) | exact Int.not_lt.mp (fun q => z ((rng_lt rng_0 rx).mpr q)) | exact Int.not_le.mp (fun q => z ((rng_le rx rng_0).mpr q)) | exact Int.not_le.mp (fun q => z ((rng_le rng_0 rx).mpr q)) | exact Classical.byContradiction (fun q => z (fun q2 => q ((rng_eq rx rng_0).mp q2)))
theorem ex_icmp_lt {M : MD} {pc : Nat} {ls : List (Option PV)} {st : List PV} {h : PH} {B : Nat × Nat} {Q : Option PV → PH → Prop} {x y : Int} {off : Int} (tgt pc' : Nat) (hd : decode M.2.1 pc = .ok (.if_icmp .lt off, 3)) (ht : (pc : Int) + off = (tgt : Int)) (hp : pc' = pc + 3) (rx : rng x) (ry : rng y) (kt : x < y → EX M tgt ls st h B Q) (kf : y ≤ x → EX M pc' ls st h B Q) : EX M pc ls (vi y :: vi x :: st) h B Q := by
  subst hp
  intro p l e R s m args below meth c D cy ad T0 A H locs cells slots lsA C S L
  refine lv_icmp_lt C.1 C.2.1 hd ht (fun z => kt ?_ p l e R s m args below meth c D cy ad T0 A H locs cells slots lsA C S L) (fun z => kf ?_ p l e R s m args below meth c D cy ad T0 A H locs cells slots lsA C S L)
  · first | exact (rng_eq rx ry).mp z | exact fun q => z ((rng_eq rx ry).mpr q) | exact (rng_lt rx ry).mp z | exact (rng_lt ry rx).mp z | exact (rng_le rx ry).mp z | exact (rng_le ry rx).mp z | exact Int.not_lt.mp (fun q => z ((rng_lt rx ry).mpr q)) | exact Int.not_lt.mp (fun q => z ((rng_lt ry rx).mpr q)) | exact Int.not_le.mp (fun q => z ((rng_le rx ry).mpr q)) | exact Int.not_le.mp (fun q => z ((rng_le ry rx).mpr q)) | exact Classical.byContradiction (fun q => z (fun q2 => q ((rng_eq rx ry).mp q2)))
  · first | exact (rng_eq rx ry).mp z | exact fun q => z ((rng_eq rx ry).mpr q) | exact (rng_lt rx ry).mp z | exact (rng_lt ry rx).mp z | exact (rng_le rx ry).mp z | exact (rng_le ry rx).mp z | exact Int.not_lt.mp (fun q => z ((rng_lt rx ry).mpr q)) | exact Int.not_lt.mp (fun q => z ((rng_lt ry rx).mpr q)) | exact Int.not_le.mp (fun q => z ((rng_le rx ry).mpr q)) | exact Int.not_le.mp (fun q => z ((rng_le ry rx).mpr q)) | exact Classical.byContradiction (fun q => z (fun q2 => q ((rng_eq rx ry).mp q2)))
theorem ex_if_lt {M : MD} {pc : Nat} {ls : List (Option PV)} {st : List PV} {h : PH} {B : Nat × Nat} {Q : Option PV → PH → Prop} {x : Int} {off : Int} (tgt pc' : Nat) (hd : decode M.2.1 pc = .ok (.ifCond .lt off, 3)) (ht : (pc : Int) + off = (tgt : Int)) (hp : pc' = pc + 3) (rx : rng x) (kt : x < 0 → EX M tgt ls st h B Q) (kf : 0 ≤ x → EX M pc' ls st h B Q) : EX M pc ls (vi x :: st) h B Q := by
  subst hp
  intro p l e R s m args below meth c D cy ad T0 A H locs cells slots lsA C S L
  refine lv_if_lt C.1 C.2.1 hd ht (fun z => kt ?_ p l e R s m args below meth c D cy ad T0 A H locs cells slots lsA C S L) (fun z => kf ?_ p l e R s m args below meth c D cy ad T0 A H locs cells slots lsA C S L)
  · first | exact (rng_eq rx rng_0).mp z | exact fun q => z ((rng_eq rx rng_0).mpr q) | exact (rng_lt rx rng_0).mp z | exact (rng_lt rng_0 rx).mp z | exact (rng_le rx rng_0).mp z | exact (rng_le rng_0 rx).mp z | exact Int.not_lt.mp (fun q => z ((rng_lt rx rng_0).mpr q)) | exact Int.not_lt.mp (fun q => z ((rng_lt rng_0 rx).mpr q)) | exact Int.not_le.mp (fun q => z ((rng_le rx rng_0).mpr q)) | exact Int.not_le.mp (fun q => z ((rng_le rng_0 rx).mpr q)) | exact Classical.byContradiction (fun q => z (fun q2 => q ((rng_eq rx rng_0).mp q2)))
  · first | exact (rng_eq rx rng_0).mp z | exact fun q => z ((rng_eq rx rng_0).mpr q) | exact (rng_lt rx rng_0).mp z | exact (rng_lt rng_0 rx).mp z | exact (rng_le rx rng_0).mp z | exact (rng_le rng_0 rx).mp z | exact Int.not_lt.mp (fun q => z ((rng_lt rx rng_0).mpr q)) | exact Int.not_lt.mp (fun q => z ((rng_lt rng_0 rx).mpr q)) | exact Int.not_le.mp (fun q => z ((rng_le rx rng_0).mpr q)) | exact Int.not_le.mp (fun q => z ((rng_le rng_0 rx).mpr q)) | exact Classical.byContradiction (fun q => z (fun q2 => q ((rng_eq rx rng_0).mp q2)))
theorem ex_icmp_ge {M : MD} {pc : Nat} {ls : List (Option PV)} {st : List PV} {h : PH} {B : Nat × Nat} {Q : Option PV → PH → Prop} {x y : Int} {off : Int} (tgt pc' : Nat) (hd : decode M.2.1 pc = .ok (.if_icmp .ge off, 3)) (ht : (pc : Int) + off = (tgt : Int)) (hp : pc' = pc + 3) (rx : rng x) (ry : rng y) (kt : y ≤ x → EX M tgt ls st h B Q) (kf : x < y → EX M pc' ls st h B Q) : EX M pc ls (vi y :: vi x :: st) h B Q := by
  subst hp
  intro p l e R s m args below meth c D cy ad T0 A H locs cells slots lsA C S L
  refine lv_icmp_ge C.1 C.2.1 hd ht (fun z => kt ?_ p l e R s m args below meth c D cy ad T0 A H locs cells slots lsA C S L) (fun z => kf ?_ p l e R s m args below meth c D cy ad T0 A H locs cells slots lsA C S L)
  · first | exact (rng_eq rx ry).mp z | exact fun q => z ((rng_eq rx ry).mpr q) | exact (rng_lt rx ry).mp z | exact (rng_lt ry rx).mp z | exact (rng_le rx ry).mp z | exact (rng_le ry rx).mp z | exact Int.not_lt.mp (fun q => z ((rng_lt rx ry).mpr q)) | exact Int.not_lt.mp (fun q => z ((rng_lt ry rx).mpr q)) | exact Int.not_le.mp (fun q => z ((rng_le rx ry).mpr q)) | exact Int.not_le.mp (fun q => z ((rng_le ry rx).mpr q)) | exact Classical.byContradiction (fun q => z (fun q2 => q ((rng_eq rx ry).mp q2)))
  · first | exact (rng_eq rx ry).mp z | exact fun q => z ((rng_eq rx ry).mpr q) | exact (rng_lt rx ry).mp z | exact (rng_lt ry rx).mp z | exact (rng_le rx ry).mp z | exact (rng_le ry rx).mp z | exact Int.not_lt.mp (fun q => z ((rng_lt rx ry).mpr q)) | exact Int.not_lt.mp (fun q => z ((rng_lt ry rx).mpr q)) | exact Int.not_le.mp (fun q => z ((rng_le rx ry).mpr q)) | exact Int.not_le.mp (fun q => z ((rng_le ry rx).mpr q)) | exact Classical.byContradiction (fun q => z (fun q2 => q ((rng_eq rx ry).mp q2)))
theorem ex_if_ge {M : MD} {pc : Nat} {ls : List (Option PV)} {st : List PV} {h : PH} {B : Nat × Nat} {Q : Option PV → PH → Prop} {x : Int} {off : Int} (tgt pc' : Nat) (hd : decode M.2.1 pc = .ok (.ifCond .ge off, 3)) (ht : (pc : Int) + off = (tgt : Int)) (hp : pc' = pc + 3) (rx : rng x) (kt : 0 ≤ x → EX M tgt ls st h B Q) (kf : x < 0 → EX M pc' ls st h B Q) : EX M pc ls (vi x :: st) h B Q := by
  subst hp
  intro p l e R s m args below meth c D cy ad T0 A H locs cells slots lsA C S L
  refine lv_if_ge C.1 C.2.1 hd ht (fun z => kt ?_ p l e R s m args below meth c D cy ad T0 A H locs cells slots lsA C S L) (fun z => kf ?_ p l e R s m args below meth c D cy ad T0 A H locs cells slots lsA C S L)
  · first | exact (rng_eq rx rng_0).mp z | exact fun q => z ((rng_eq rx rng_0).mpr q) | exact (rng_lt rx rng_0).mp z | exact (rng_lt rng_0 rx).mp z | exact (rng_le rx rng_0).mp z | exact (rng_le rng_0 rx).mp z | exact Int.not_lt.mp (fun q => z ((rng_lt rx rng_0).mpr q)) | exact Int.not_lt.mp (fun q => z ((rng_lt rng_0 rx).mpr q)) | exact Int.not_le.mp (fun q => z ((rng_le rx rng_0).mpr q)) | exact Int.not_le.mp (fun q => z ((rng_le rng_0 rx).mpr q)) | exact Classical.byContradiction (fun q => z (fun q2 => q ((rng_eq rx rng_0).mp q2)))
  · first | exact (rng_eq rx rng_0).mp z | exact fun q => z ((rng_eq rx rng_0).mpr q) | exact (rng_lt rx rng_0).mp z | exact (rng_lt rng_0 rx).mp z | exact (rng_le rx rng_0).mp z | exact (rng_le rng_0 rx).mp z | exact Int.not_lt.mp (fun q => z ((rng_lt rx rng_0).mpr q)) | exact Int.not_lt.mp (fun q => z ((rng_lt rng_0 rx).mpr q)) | exact Int.not_le.mp (fun q => z ((rng_le rx rng_0).mpr q)) | exact Int.not_le.mp (fun q => z ((rng_le rng_0 rx).mpr q)) | exact Classical.byContradiction (fun q => z (fun q2 => q ((rng_eq rx rng_0).mp q2)))
theorem ex_icmp_gt {M : MD} {pc : Nat} {ls : List (Option PV)} {st : List PV} {h : PH} {B : Nat × Nat} {Q : Option PV → PH → Prop} {x y : Int} {off : Int} (tgt pc' : Nat) (hd : decode M.2.1 pc = .ok (.if_icmp .gt off, 3)) (ht : (pc : Int) + off = (tgt : Int)) (hp : pc' = pc + 3) (rx : rng x) (ry : rng y) (kt : y < x → EX M tgt ls st h B Q) (kf : x ≤ y → EX M pc' ls st h B Q) : EX M pc ls (vi y :: vi x :: st) h B Q := by
  subst hp
  intro p l e R s m args below meth c D cy ad T0 A H locs cells slots lsA C S L
  refine lv_icmp_gt C.1 C.2.1 hd ht (fun z => kt ?_ p l e R s m args below meth c D cy ad T0 A H locs cells slots lsA C S L) (fun z => kf ?_ p l e R s m args below meth c D cy ad T0 A H locs cells slots lsA C S L)
  · first | exact (rng_eq rx ry).mp z | exact fun q => z ((rng_eq rx ry).mpr q) | exact (rng_lt rx ry).mp z | exact (rng_lt ry rx).mp z | exact (rng_le rx ry).mp z | exact (rng_le ry rx).mp z | exact Int.not_lt.mp (fun q => z ((rng_lt rx ry).mpr q)) | exact Int.not_lt.mp (fun q => z ((rng_lt ry rx).mpr q)) | exact Int.not_le.mp (fun q => z ((rng_le rx ry).mpr q)) | exact Int.not_le.mp (fun q => z ((rng_le ry rx).mpr q)) | exact Classical.byContradiction (fun q => z (fun q2 => q ((rng_eq rx ry).mp q2)))
  · first | exact (rng_eq rx ry).mp z | exact fun q => z ((rng_eq rx ry).mpr q) | exact (rng_lt rx ry).mp z | exact (rng_lt ry rx).mp z | exact (rng_le rx ry).mp z | exact (rng_le ry rx).mp z | exact Int.not_lt.mp (fun q => z ((rng_lt rx ry).mpr q)) | exact Int.not_lt.mp (fun q => z ((rng_lt ry rx).mpr q)) | exact Int.not_le.mp (fun q => z ((rng_le rx ry).mpr q)) | exact Int.not_le.mp (fun q => z ((rng_le ry rx).mpr q)) | exact Classical.byContradiction (fun q => z (fun q2 => q ((rng_eq rx ry).mp q2)))
theorem ex_if_gt {M : MD} {pc : Nat} {ls : List (Option PV)} {st : List PV} {h : PH} {B : Nat × Nat} {Q : Option PV → PH → Prop} {x : Int} {off : Int} (tgt pc' : Nat) (hd : decode M.2.1 pc = .ok (.ifCond .gt off, 3)) (ht : (pc : Int) + off = (tgt : Int)) (hp : pc' = pc + 3) (rx : rng x) (kt : 0 < x → EX M tgt ls st h B Q) (kf : x ≤ 0 → EX M pc' ls st h B Q) : EX M pc ls (vi x :: st) h B Q := by
  subst hp
  intro p l e R s m args below meth c D cy ad T0 A H locs cells slots lsA C S L
  refine lv_if_gt C.1 C.2.1 hd ht (fun z => kt ?_ p l e R s m args below meth c D cy ad T0 A H locs cells slots lsA C S L) (fun z => kf ?_ p l e R s m args below meth c D cy ad T0 A H locs cells slots lsA C S L)
  · first | exact (rng_eq rx rng_0).mp z | exact fun q => z ((rng_eq rx rng_0).mpr q) | exact (rng_lt rx rng_0).mp z | exact (rng_lt rng_0 rx).mp z | exact (rng_le rx rng_0).mp z | exact (rng_le rng_0 rx).mp z | exact Int.not_lt.mp (fun q => z ((rng_lt rx rng_0).mpr q)) | exact Int.not_lt.mp (fun q => z ((rng_lt rng_0 rx).mpr q)) | exact Int.not_le.mp (fun q => z ((rng_le rx rng_0).mpr q)) | exact Int.not_le.mp (fun q => z ((rng_le rng_0 rx).mpr q)) | exact Classical.byContradiction (fun q => z (fun q2 => q ((rng_eq rx rng_0).mp q2)))
  · first | exact (rng_eq rx rng_0).mp z | exact fun q => z ((rng_eq rx rng_0).mpr q) | exact (rng_lt rx rng_0).mp z | exact (rng_lt rng_0 rx).mp z | exact (rng_le rx rng_0).mp z | exact (rng_le rng_0 rx).mp z | exact Int.not_lt.mp (fun q => z ((rng_lt rx rng_0).mpr q)) | exact Int.not_lt.mp (fun q => z ((rng_lt rng_0 rx).mpr q)) | exact Int.not_le.mp (fun q => z ((rng_le rx rng_0).mpr q)) | exact Int.not_le.mp (fun q => z ((rng_le rng_0 rx).mpr q)) | exact Classical.byContradiction (fun q => z (fun q2 => q ((rng_eq rx rng_0).mp q2)))
theorem ex_icmp_le {M : MD} {pc : Nat} {ls : List (Option PV)} {st : List PV} {h : PH} {B : Nat × Nat} {Q : Option PV → PH → Prop} {x y : Int} {off : Int} (tgt pc' : Nat) (hd : decode M.2.1 pc = .ok (.if_icmp .le off, 3)) (ht : (pc : Int) + off = (tgt : Int)) (hp : pc' = pc + 3) (rx : rng x) (ry : rng y) (kt : x ≤ y → EX M tgt ls st h B Q) (kf : y < x → EX M pc' ls st h B Q) : EX M pc ls (vi y :: vi x :: st) h B Q := by
  subst hp
  intro p l e R s m args below meth c D cy ad T0 A H locs cells slots lsA C S L
  refine lv_icmp_le C.1 C.2.1 hd ht (fun z => kt ?_ p l e R s m args below meth c D cy ad T0 A H locs cells slots lsA C S L) (fun z => kf ?_ p l e R s m args below meth c D cy ad T0 A H locs cells slots lsA C S L)
  · first | exact (rng_eq rx ry).mp z | exact fun q => z ((rng_eq rx ry).mpr q) | exact (rng_lt rx ry).mp z | exact (rng_lt ry rx).mp z | exact (rng_le rx ry).mp z | exact (rng_le ry rx).mp z | exact Int.not_lt.mp (fun q => z ((rng_lt rx ry).mpr q)) | exact Int.not_lt.mp (fun q => z ((rng_lt ry rx).mpr q)) | exact Int.not_le.mp (fun q => z ((rng_le rx ry).mpr q)) | exact Int.not_le.mp (fun q => z ((rng_le ry rx).mpr q)) | exact Classical.byContradiction (fun q => z (fun q2 => q ((rng_eq rx ry).mp q2)))
  · first | exact (rng_eq rx ry).mp z | exact fun q => z ((rng_eq rx ry).mpr q) | exact (rng_lt rx ry).mp z | exact (rng_lt ry rx).mp z | exact (rng_le rx ry).mp z | exact (rng_le ry rx).mp z | exact Int.not_lt.mp (fun q => z ((rng_lt rx ry).mpr q)) | exact Int.not_lt.mp (fun q => z ((rng_lt ry rx).mpr q)) | exact Int.not_le.mp (fun q => z ((rng_le rx ry).mpr q)) | exact Int.not_le.mp (fun q => z ((rng_le ry rx).mpr q)) | exact Classical.byContradiction (fun q => z (fun q2 => q ((rng_eq rx ry).mp q2)))
theorem ex_if_le {M : MD} {pc : Nat} {ls : List (Option PV)} {st : List PV} {h : PH} {B : Nat × Nat} {Q : Option PV → PH → Prop} {x : Int} {off : Int} (tgt pc' : Nat) (hd : decode M.2.1 pc = .ok (.ifCond .le off, 3)) (ht : (pc : Int) + off = (tgt : Int)) (hp : pc' = pc + 3) (rx : rng x) (kt : x ≤ 0 → EX M tgt ls st h B Q) (kf : 0 < x → EX M pc' ls st h B Q) : EX M pc ls (vi x :: st) h B Q := by
  subst hp
  intro p l e R s m args below meth c D cy ad T0 A H locs cells slots lsA C S L
  refine lv_if_le C.1 C.2.1 hd ht (fun z => kt ?_ p l e R s m args below meth c D cy ad T0 A H locs cells slots lsA C S L) (fun z => kf ?_ p l e R s m args below meth c D cy ad T0 A H locs cells slots lsA C S L)
  · first | exact (rng_eq rx rng_0).mp z | exact fun q => z ((rng_eq rx rng_0).mpr q) | exact (rng_lt rx rng_0).mp z | exact (rng_lt rng_0 rx).mp z | exact (rng_le rx rng_0).mp z | exact (rng_le rng_0 rx).mp z | exact Int.not_lt.mp (fun q => z ((rng_lt rx rng_0).mpr q)) | exact Int.not_lt.mp (fun q => z ((rng_lt rng_0 rx).mpr q)) | exact Int.not_le.mp (fun q => z ((rng_le rx rng_0).mpr q)) | exact Int.not_le.mp (fun q => z ((rng_le rng_0 rx).mpr q)) | exact Classical.byContradiction (fun q => z (fun q2 => q ((rng_eq rx rng_0).mp q2)))
  · first | exact (rng_eq rx rng_0).mp z | exact fun q => z ((rng_eq rx rng_0).mpr q) | exact (rng_lt rx rng_0).mp z | exact (rng_lt rng_0 rx).mp z | exact (rng_le rx rng_0).mp z | exact (rng_le rng_0 rx).mp z | exact Int.not_lt.mp (fun q => z ((rng_lt rx rng_0).mpr q)) | exact Int.not_lt.mp (fun q => z ((rng_lt rng_0 rx).mpr q)) | exact Int.not_le.mp (fun q => z ((rng_le rx rng_0).mpr q)) | exact Int.not_le.mp (fun q => z ((rng_le rng_0 rx).mpr q)) | exact Classical.byContradiction (fun q => z (fun q2 => q ((rng_eq rx rng_0).mp q2)))
theorem ex_tswOut {M : MD} {pc : Nat} {ls : List (Option PV)} {st : List PV} {h : PH} {B : Nat × Nat} {Q : Option PV → PH → Prop} {x dflt lo hi : Int} {offs : Array Int} {len : Nat} (tgt : Nat) (hd : decode M.2.1 pc = .ok (.tableswitch dflt lo hi offs, len)) (rx : rng x) (hx : x < lo ∨ hi < x) (ht : (pc : Int) + dflt = (tgt : Int)) (k : EX M tgt ls st h B Q) : EX M pc ls (vi x :: st) h B Q := by
  intro p l e R s m args below meth c D cy ad T0 A H locs cells slots lsA C S L
  exact lv_tableOut C.1 C.2.1 hd (by rw [rng_to rx]; exact hx) ht (k p l e R s m args below meth c D cy ad T0 A H locs cells slots lsA C S L)
theorem ex_tswIn {M : MD} {pc : Nat} {ls : List (Option PV)} {st : List PV} {h : PH} {B : Nat × Nat} {Q : Option PV → PH → Prop} {x dflt lo hi off : Int} {offs : Array Int} {len : Nat} (v : Int) (tgt : Nat) (hd : decode M.2.1 pc = .ok (.tableswitch dflt lo hi offs, len)) (hx : x = v) (rv : rng v) (h1 : lo ≤ v) (h2 : v ≤ hi) (ho : offs[(v - lo).toNat]? = some off) (ht : (pc : Int) + off = (tgt : Int)) (k : EX M tgt ls st h B Q) : EX M pc ls (vi x :: st) h B Q := by
  subst hx
  intro p l e R s m args below meth c D cy ad T0 A H locs cells slots lsA C S L
  exact lv_tableIn C.1 C.2.1 hd (by rw [rng_to rv]; omega) (by rw [rng_to rv]; omega) (by rw [rng_to rv]; exact ho) ht (k p l e R s m args below meth c D cy ad T0 A H locs cells slots lsA C S L)
theorem ex_getV {M : MD} {pc : Nat} {ls : List (Option PV)} {st : List PV} {h : PH} {B : Nat × Nat} {Q : Option PV → PH → Prop} {i c0 k0 : Nat} {idx : Nat} {q : vw_C} (pc' : Nat) (hd : decode M.2.1 pc = .ok (.getfield idx, 3)) (hp : pc' = pc + 3) (hO : OB h c0 i) (hc : vwCl[c0]? = some q) (hk : k0 < q.2.2) (hw : Cond.fieldLink M.1.cls idx (q.2.1 k0).1 (q.2.1 k0).2.1 (q.2.1 k0).2.2.1 ∈ WS) {v : PV} (hv : ∀ ad : Nat → Nat, px_V (px_ty c0 k0) ad (h.2.1 i k0) (h.2.2 i k0) = px_tr ad v) (k : EX M pc' ls (v :: st) h B Q) : EX M pc ls (vr i :: st) h B Q := by
  subst hp
  intro p l e R s m args below meth c D cy ad T0 A H locs cells slots lsA C S L
  obtain ⟨n, hT⟩ := hO
  obtain ⟨a1, a2, a3, a4⟩ := cls_ok c0 q hc
  obtain ⟨q', hq', cell, q1, q2, q3, q4⟩ := px_obj S.1 hT a4
  cases hc.symm.trans hq'
  obtain ⟨hS, hfc, kC, hkC, hkind⟩ := C.2.2.2.2.2.2.2.1.1 c0 q hc
  obtain ⟨cf, kf, fi, f, hi, hsl⟩ := hS k0 hk
  refine W.getf C.1 C.2.1 C.2.2.2.2.1 (C.2.2.2.2.2.1 _ hw) hi (u_facts hfc hkC (u_lays C.2.2.2.2.2.1 a1 hk) hi).1 q1 (by rw [q3]; exact fun h => by cases h) (v := px_tr ad v) ?_ rfl rfl hd (k p l e R s m args below meth c D cy ad T0 A H locs cells slots lsA C S L)
  rw [hsl, q4 k0 hk]
  exact congrArg some (hv ad)
theorem ex_getI {M : MD} {pc : Nat} {ls : List (Option PV)} {st : List PV} {h : PH} {B : Nat × Nat} {Q : Option PV → PH → Prop} {i : Nat} {idx : Nat} {q : vw_C} (c0 k0 pc' : Nat) (hd : decode M.2.1 pc = .ok (.getfield idx, 3)) (hp : pc' = pc + 3) (hc : vwCl[c0]? = some q) (hk : k0 < q.2.2) (hw : Cond.fieldLink M.1.cls idx (q.2.1 k0).1 (q.2.1 k0).2.1 (q.2.1 k0).2.2.1 ∈ WS) (hy : px_ty c0 k0 = .int ∨ px_ty c0 k0 = .boolean) (hO : OB h c0 i) (k : EX M pc' ls (vi (h.2.1 i k0) :: st) h B Q) : EX M pc ls (vr i :: st) h B Q :=
  ex_getV pc' hd hp hO hc hk hw (fun ad => by rcases hy with e | e <;> rw [e] <;> rfl) k
theorem ex_getL {M : MD} {pc : Nat} {ls : List (Option PV)} {st : List PV} {h : PH} {B : Nat × Nat} {Q : Option PV → PH → Prop} {i : Nat} {idx : Nat} {q : vw_C} (c0 k0 pc' : Nat) (hd : decode M.2.1 pc = .ok (.getfield idx, 3)) (hp : pc' = pc + 3) (hc : vwCl[c0]? = some q) (hk : k0 < q.2.2) (hw : Cond.fieldLink M.1.cls idx (q.2.1 k0).1 (q.2.1 k0).2.1 (q.2.1 k0).2.2.1 ∈ WS) (hy : px_ty c0 k0 = .long) (hO : OB h c0 i) (k : EX M pc' ls (vl (h.2.1 i k0) :: st) h B Q) : EX M pc ls (vr i :: st) h B Q :=
  ex_getV pc' hd hp hO hc hk hw (fun ad => by rw [hy]; rfl) k
def px_isR (ty : FieldType) : Bool := match ty with
  | .object _ => true
  | .array _ => true
  | _ => false
theorem ex_getR {M : MD} {pc : Nat} {ls : List (Option PV)} {st : List PV} {h : PH} {B : Nat × Nat} {Q : Option PV → PH → Prop} {i a : Nat} {idx : Nat} {q : vw_C} (c0 k0 pc' : Nat) (hd : decode M.2.1 pc = .ok (.getfield idx, 3)) (hp : pc' = pc + 3) (hc : vwCl[c0]? = some q) (hk : k0 < q.2.2) (hw : Cond.fieldLink M.1.cls idx (q.2.1 k0).1 (q.2.1 k0).2.1 (q.2.1 k0).2.2.1 ∈ WS) (hy : px_isR (px_ty c0 k0) = true) (hO : OB h c0 i) (ha : h.2.2 i k0 = some a) (k : EX M pc' ls (vr a :: st) h B Q) : EX M pc ls (vr i :: st) h B Q :=
  ex_getV pc' hd hp hO hc hk hw (fun ad => by
    rw [ha]
    revert hy
    cases px_ty c0 k0 <;> intro hy <;> first | rfl | (cases hy)) k
theorem ex_putV {M : MD} {pc : Nat} {ls : List (Option PV)} {st : List PV} {h : PH} {B : Nat × Nat} {Q : Option PV → PH → Prop} {i c0 k0 : Nat} {idx : Nat} {q : vw_C} (pc' : Nat) (hd : decode M.2.1 pc = .ok (.putfield idx, 3)) (hp : pc' = pc + 3) (hO : OB h c0 i) (hc : vwCl[c0]? = some q) (hk : k0 < q.2.2) (hw : Cond.fieldLink M.1.cls idx (q.2.1 k0).1 (q.2.1 k0).2.1 (q.2.1 k0).2.2.1 ∈ WS) (hf : (q.2.1 k0).2.2.2 = false) {v : PV} {h1 : PH}
    (hn : ∀ ad, narrow (px_ty c0 k0) (px_tr ad v) = px_tr ad v) (hfit : ∀ ad, fits (px_ty c0 k0) (px_tr ad v) = true) (e1 : h1.1 = h.1) (eo : ∀ a, a ≠ i → ∀ j, h1.2.1 a j = h.2.1 a j ∧ h1.2.2 a j = h.2.2 a j) (en : ∀ j, j ≠ k0 → h1.2.1 i j = h.2.1 i j ∧ h1.2.2 i j = h.2.2 i j) (ev : ∀ ad, px_V (px_ty c0 k0) ad (h1.2.1 i k0) (h1.2.2 i k0) = px_tr ad v)
    (k : EX M pc' ls st h1 B Q) : EX M pc ls (v :: vr i :: st) h B Q := by
  subst hp
  intro p l e R s m args below meth c D cy ad T0 A H locs cells slots lsA C S L
  obtain ⟨n, hT⟩ := hO
  obtain ⟨a1, a2, a3, a4⟩ := cls_ok c0 q hc
  obtain ⟨q', hq', hob⟩ := px_obj S.1 hT a4
  cases hc.symm.trans hq'
  obtain ⟨cell, q1, q2, q3, q4⟩ := id hob
  have hap := va_apart (own := M.1.cls) (C := q.1) (T := q.2.1) (N := q.2.2) C.2.2.2.2.2.1 a1 (px_ty c0) a2 a3 C.2.2.2.2.2.2.2.1 hc
  obtain ⟨hS, hfc, kC, hkC, hkind⟩ := C.2.2.2.2.2.2.2.1.1 c0 q hc
  obtain ⟨cf, kf, fi, f, hi, hsl⟩ := hS k0 hk
  have hlay := C.2.2.2.2.2.1 _ (a1 _ (u_in_lay hk))
  unfold u_lay at hlay
  rw [if_neg (by rw [hf]; decide)] at hlay
  have hst := (u_facts hfc hkC (u_lays C.2.2.2.2.2.1 a1 hk) hi).1
  have h6 := u_store hfc hkC hkind hlay hi (a2 k0 hk) (hn ad) (hfit ad)
  refine W.putK C.1 C.2.1 (f := f) ⟨C.2.2.2.2.1, C.2.2.2.2.2.1 _ hw, ⟨_, _, _, hi⟩, hst⟩ (by rw [q2]; exact h6) q1 q3 (by rw [hsl]; exact k2_hasslot (q4 k0 hk)) rfl rfl hd fun H1 ez z oq => ?_
  rw [hsl] at ez
  have hS1 : SIM D cy ad h1 H1 := S.1.setO S.2.1 hT a4 hc hk ⟨_, ez, q2, q3, t_set q4 hap hk (px_tr ad v)⟩ oq e1 eo en (ev ad)
  have hJ : ADJ A ad h1.1.length := by rw [e1]; exact S.2.1
  exact k p l e R s m args below meth c D cy ad T0 A H1 _ cells slots lsA C ⟨hS1, hJ, S.2.2.1.put z oq (S.2.1.2 _ (px_len hT)), S.2.2.2.1, S.2.2.2.2.1, S.2.2.2.2.2.1, z.trans S.2.2.2.2.2.2.1, (by rw [e1]; exact S.2.2.2.2.2.2.2.1), fun j hj => by rw [e1, z]; exact S.2.2.2.2.2.2.2.2 j hj⟩ L
theorem ex_putVF {M : MD} {pc : Nat} {ls : List (Option PV)} {st : List PV} {h : PH} {B : Nat × Nat} {Q : Option PV → PH → Prop} {i c0 k0 : Nat} {idx : Nat} {q : vw_C} (pc' : Nat) (hd : decode M.2.1 pc = .ok (.putfield idx, 3)) (hp : pc' = pc + 3) (hO : OB h c0 i) (hc : vwCl[c0]? = some q) (hk : k0 < q.2.2) (hw : Cond.fieldLink M.1.cls idx (q.2.1 k0).1 (q.2.1 k0).2.1 (q.2.1 k0).2.2.1 ∈ WS) (hf : (q.2.1 k0).2.2.2 = true) (hM : M.1.name = "<init>") (hde : (q.2.1 k0).1 = M.1.cls) {v : PV} {h1 : PH}
    (hn : ∀ ad, narrow (px_ty c0 k0) (px_tr ad v) = px_tr ad v) (hfit : ∀ ad, fits (px_ty c0 k0) (px_tr ad v) = true) (e1 : h1.1 = h.1) (eo : ∀ a, a ≠ i → ∀ j, h1.2.1 a j = h.2.1 a j ∧ h1.2.2 a j = h.2.2 a j) (en : ∀ j, j ≠ k0 → h1.2.1 i j = h.2.1 i j ∧ h1.2.2 i j = h.2.2 i j) (ev : ∀ ad, px_V (px_ty c0 k0) ad (h1.2.1 i k0) (h1.2.2 i k0) = px_tr ad v)
    (k : EX M pc' ls st h1 B Q) : EX M pc ls (v :: vr i :: st) h B Q := by
  subst hp
  intro p l e R s m args below meth c D cy ad T0 A H locs cells slots lsA C S L
  obtain ⟨n, hT⟩ := hO
  obtain ⟨a1, a2, a3, a4⟩ := cls_ok c0 q hc
  obtain ⟨q', hq', hob⟩ := px_obj S.1 hT a4
  cases hc.symm.trans hq'
  obtain ⟨cell, q1, q2, q3, q4⟩ := id hob
  have hap := va_apart (own := M.1.cls) (C := q.1) (T := q.2.1) (N := q.2.2) C.2.2.2.2.2.1 a1 (px_ty c0) a2 a3 C.2.2.2.2.2.2.2.1 hc
  obtain ⟨hS, hfc, kC, hkC, hkind⟩ := C.2.2.2.2.2.2.2.1.1 c0 q hc
  obtain ⟨cf, kf, fi, f, hi, hsl⟩ := hS k0 hk
  have hlay := C.2.2.2.2.2.1 _ (a1 _ (u_in_lay hk))
  unfold u_lay at hlay
  rw [if_pos hf] at hlay
  have hst := (u_facts hfc hkC (u_lays C.2.2.2.2.2.1 a1 hk) hi).1
  have hcf : m.cls = cf := by
    obtain ⟨_, _, c', _, _, _, -, -, hf', -, -, -, hown2, -⟩ := Cond.laysFinal_spec hlay
    have e1 : c' = cf := by have := hi.symm.trans hf'; simp at this; exact this.1.symm
    rw [hde] at hown2
    rw [← e1]; exact Option.some.inj (C.2.2.2.2.1.symm.trans hown2)
  have h6 := u_fits hfc hkC hkind (Or.inr hlay) hi (a2 k0 hk) (hn ad) (hfit ad)
  refine W.putFinK C.1 C.2.1 C.2.2.2.2.1 (C.2.2.2.2.2.1 _ hw) hi hst hcf (C.2.2.2.2.2.2.2.2.2.2.1.trans hM) (by rw [q2]; exact h6) q1 q3 (by rw [hsl]; exact k2_hasslot (q4 k0 hk)) rfl rfl hd fun H1 ez z oq => ?_
  rw [hsl] at ez
  have hS1 : SIM D cy ad h1 H1 := S.1.setO S.2.1 hT a4 hc hk ⟨_, ez, q2, q3, t_set q4 hap hk (px_tr ad v)⟩ oq e1 eo en (ev ad)
  have hJ : ADJ A ad h1.1.length := by rw [e1]; exact S.2.1
  exact k p l e R s m args below meth c D cy ad T0 A H1 _ cells slots lsA C ⟨hS1, hJ, S.2.2.1.put z oq (S.2.1.2 _ (px_len hT)), S.2.2.2.1, S.2.2.2.2.1, S.2.2.2.2.2.1, z.trans S.2.2.2.2.2.2.1, (by rw [e1]; exact S.2.2.2.2.2.2.2.1), fun j hj => by rw [e1, z]; exact S.2.2.2.2.2.2.2.2 j hj⟩ L
theorem ex_putI {M : MD} {pc : Nat} {ls : List (Option PV)} {st : List PV} {h : PH} {B : Nat × Nat} {Q : Option PV → PH → Prop} {x : Int} {i : Nat} {idx : Nat} {q : vw_C} (c0 k0 pc' : Nat) (hd : decode M.2.1 pc = .ok (.putfield idx, 3)) (hp : pc' = pc + 3) (hc : vwCl[c0]? = some q) (hk : k0 < q.2.2) (hw : Cond.fieldLink M.1.cls idx (q.2.1 k0).1 (q.2.1 k0).2.1 (q.2.1 k0).2.2.1 ∈ WS) (hf : (q.2.1 k0).2.2.2 = false) (hy : px_ty c0 k0 = .int) (hO : OB h c0 i) (k : ∀ h1, h1 = px_upI h i k0 x → EX M pc' ls st h1 B Q) : EX M pc ls (vi x :: vr i :: st) h B Q :=
  ex_putV (v := vi x) (h1 := px_upI h i k0 x) pc' hd hp hO hc hk hw hf (fun ad => by rw [hy]; rfl) (fun ad => by rw [hy]; rfl) rfl (fun a ha j => ⟨by simp [px_upI, ha], rfl⟩) (fun j hj => ⟨by simp [px_upI, hj], rfl⟩) (fun ad => by rw [hy]; simp [px_upI, px_V, px_tr]) (k _ rfl)
theorem ex_putZ {M : MD} {pc : Nat} {ls : List (Option PV)} {st : List PV} {h : PH} {B : Nat × Nat} {Q : Option PV → PH → Prop} {x : Int} {i : Nat} {idx : Nat} {q : vw_C} (c0 k0 pc' : Nat) (hd : decode M.2.1 pc = .ok (.putfield idx, 3)) (hp : pc' = pc + 3) (hc : vwCl[c0]? = some q) (hk : k0 < q.2.2) (hw : Cond.fieldLink M.1.cls idx (q.2.1 k0).1 (q.2.1 k0).2.1 (q.2.1 k0).2.2.1 ∈ WS) (hf : (q.2.1 k0).2.2.2 = false) (hy : px_ty c0 k0 = .boolean) (hO : OB h c0 i) (hx : x = 0 ∨ x = 1) (k : ∀ h1, h1 = px_upI h i k0 x → EX M pc' ls st h1 B Q) : EX M pc ls (vi x :: vr i :: st) h B Q :=
  ex_putV (v := vi x) (h1 := px_upI h i k0 x) pc' hd hp hO hc hk hw hf (fun ad => by rw [hy]; rcases hx with rfl | rfl <;> rfl) (fun ad => by rw [hy]; rcases hx with rfl | rfl <;> rfl) rfl (fun a ha j => ⟨by simp [px_upI, ha], rfl⟩) (fun j hj => ⟨by simp [px_upI, hj], rfl⟩) (fun ad => by rw [hy]; simp [px_upI, px_V, px_tr]) (k _ rfl)
theorem ex_putL {M : MD} {pc : Nat} {ls : List (Option PV)} {st : List PV} {h : PH} {B : Nat × Nat} {Q : Option PV → PH → Prop} {x : Int} {i : Nat} {idx : Nat} {q : vw_C} (c0 k0 pc' : Nat) (hd : decode M.2.1 pc = .ok (.putfield idx, 3)) (hp : pc' = pc + 3) (hc : vwCl[c0]? = some q) (hk : k0 < q.2.2) (hw : Cond.fieldLink M.1.cls idx (q.2.1 k0).1 (q.2.1 k0).2.1 (q.2.1 k0).2.2.1 ∈ WS) (hf : (q.2.1 k0).2.2.2 = false) (hy : px_ty c0 k0 = .long) (hO : OB h c0 i) (k : ∀ h1, h1 = px_upI h i k0 x → EX M pc' ls st h1 B Q) : EX M pc ls (vl x :: vr i :: st) h B Q :=
  ex_putV (v := vl x) (h1 := px_upI h i k0 x) pc' hd hp hO hc hk hw hf (fun ad => by rw [hy]; rfl) (fun ad => by rw [hy]; rfl) rfl (fun a ha j => ⟨by simp [px_upI, ha], rfl⟩) (fun j hj => ⟨by simp [px_upI, hj], rfl⟩) (fun ad => by rw [hy]; simp [px_upI, px_V, px_tr]) (k _ rfl)
theorem ex_putR {M : MD} {pc : Nat} {ls : List (Option PV)} {st : List PV} {h : PH} {B : Nat × Nat} {Q : Option PV → PH → Prop} {a : Nat} {i : Nat} {idx : Nat} {q : vw_C} (c0 k0 pc' : Nat) (hd : decode M.2.1 pc = .ok (.putfield idx, 3)) (hp : pc' = pc + 3) (hc : vwCl[c0]? = some q) (hk : k0 < q.2.2) (hw : Cond.fieldLink M.1.cls idx (q.2.1 k0).1 (q.2.1 k0).2.1 (q.2.1 k0).2.2.1 ∈ WS) (hf : (q.2.1 k0).2.2.2 = false) (hy : px_isR (px_ty c0 k0) = true) (hO : OB h c0 i) (k : ∀ h1, h1 = px_upR h i k0 (some a) → EX M pc' ls st h1 B Q) : EX M pc ls (vr a :: vr i :: st) h B Q :=
  ex_putV (v := vr a) (h1 := px_upR h i k0 (some a)) pc' hd hp hO hc hk hw hf (fun ad => by revert hy; cases px_ty c0 k0 <;> intro hy <;> first | rfl | (cases hy)) (fun ad => by revert hy; cases px_ty c0 k0 <;> intro hy <;> first | rfl | (cases hy)) rfl (fun a ha j => ⟨rfl, by simp [px_upR, ha]⟩) (fun j hj => ⟨rfl, by simp [px_upR, hj]⟩) (fun ad => by revert hy; cases px_ty c0 k0 <;> intro hy <;> first | (simp [px_upR, px_V, px_tr]; done) | (cases hy)) (k _ rfl)
theorem ex_putIF {M : MD} {pc : Nat} {ls : List (Option PV)} {st : List PV} {h : PH} {B : Nat × Nat} {Q : Option PV → PH → Prop} {x : Int} {i : Nat} {idx : Nat} {q : vw_C} (c0 k0 pc' : Nat) (hd : decode M.2.1 pc = .ok (.putfield idx, 3)) (hp : pc' = pc + 3) (hc : vwCl[c0]? = some q) (hk : k0 < q.2.2) (hw : Cond.fieldLink M.1.cls idx (q.2.1 k0).1 (q.2.1 k0).2.1 (q.2.1 k0).2.2.1 ∈ WS) (hf : (q.2.1 k0).2.2.2 = true) (hM : M.1.name = "<init>") (hde : (q.2.1 k0).1 = M.1.cls) (hy : px_ty c0 k0 = .int) (hO : OB h c0 i) (k : ∀ h1, h1 = px_upI h i k0 x → EX M pc' ls st h1 B Q) : EX M pc ls (vi x :: vr i :: st) h B Q :=
  ex_putVF (v := vi x) (h1 := px_upI h i k0 x) pc' hd hp hO hc hk hw hf hM hde (fun ad => by rw [hy]; rfl) (fun ad => by rw [hy]; rfl) rfl (fun a ha j => ⟨by simp [px_upI, ha], rfl⟩) (fun j hj => ⟨by simp [px_upI, hj], rfl⟩) (fun ad => by rw [hy]; simp [px_upI, px_V, px_tr]) (k _ rfl)
theorem ex_putZF {M : MD} {pc : Nat} {ls : List (Option PV)} {st : List PV} {h : PH} {B : Nat × Nat} {Q : Option PV → PH → Prop} {x : Int} {i : Nat} {idx : Nat} {q : vw_C} (c0 k0 pc' : Nat) (hd : decode M.2.1 pc = .ok (.putfield idx, 3)) (hp : pc' = pc + 3) (hc : vwCl[c0]? = some q) (hk : k0 < q.2.2) (hw : Cond.fieldLink M.1.cls idx (q.2.1 k0).1 (q.2.1 k0).2.1 (q.2.1 k0).2.2.1 ∈ WS) (hf : (q.2.1 k0).2.2.2 = true) (hM : M.1.name = "<init>") (hde : (q.2.1 k0).1 = M.1.cls) (hy : px_ty c0 k0 = .boolean) (hO : OB h c0 i) (hx : x = 0 ∨ x = 1) (k : ∀ h1, h1 = px_upI h i k0 x → EX M pc' ls st h1 B Q) : EX M pc ls (vi x :: vr i :: st) h B Q :=
  ex_putVF (v := vi x) (h1 := px_upI h i k0 x) pc' hd hp hO hc hk hw hf hM hde (fun ad => by rw [hy]; rcases hx with rfl | rfl <;> rfl) (fun ad => by rw [hy]; rcases hx with rfl | rfl <;> rfl) rfl (fun a ha j => ⟨by simp [px_upI, ha], rfl⟩) (fun j hj => ⟨by simp [px_upI, hj], rfl⟩) (fun ad => by rw [hy]; simp [px_upI, px_V, px_tr]) (k _ rfl)
theorem ex_putLF {M : MD} {pc : Nat} {ls : List (Option PV)} {st : List PV} {h : PH} {B : Nat × Nat} {Q : Option PV → PH → Prop} {x : Int} {i : Nat} {idx : Nat} {q : vw_C} (c0 k0 pc' : Nat) (hd : decode M.2.1 pc = .ok (.putfield idx, 3)) (hp : pc' = pc + 3) (hc : vwCl[c0]? = some q) (hk : k0 < q.2.2) (hw : Cond.fieldLink M.1.cls idx (q.2.1 k0).1 (q.2.1 k0).2.1 (q.2.1 k0).2.2.1 ∈ WS) (hf : (q.2.1 k0).2.2.2 = true) (hM : M.1.name = "<init>") (hde : (q.2.1 k0).1 = M.1.cls) (hy : px_ty c0 k0 = .long) (hO : OB h c0 i) (k : ∀ h1, h1 = px_upI h i k0 x → EX M pc' ls st h1 B Q) : EX M pc ls (vl x :: vr i :: st) h B Q :=
  ex_putVF (v := vl x) (h1 := px_upI h i k0 x) pc' hd hp hO hc hk hw hf hM hde (fun ad => by rw [hy]; rfl) (fun ad => by rw [hy]; rfl) rfl (fun a ha j => ⟨by simp [px_upI, ha], rfl⟩) (fun j hj => ⟨by simp [px_upI, hj], rfl⟩) (fun ad => by rw [hy]; simp [px_upI, px_V, px_tr]) (k _ rfl)
theorem ex_putRF {M : MD} {pc : Nat} {ls : List (Option PV)} {st : List PV} {h : PH} {B : Nat × Nat} {Q : Option PV → PH → Prop} {a : Nat} {i : Nat} {idx : Nat} {q : vw_C} (c0 k0 pc' : Nat) (hd : decode M.2.1 pc = .ok (.putfield idx, 3)) (hp : pc' = pc + 3) (hc : vwCl[c0]? = some q) (hk : k0 < q.2.2) (hw : Cond.fieldLink M.1.cls idx (q.2.1 k0).1 (q.2.1 k0).2.1 (q.2.1 k0).2.2.1 ∈ WS) (hf : (q.2.1 k0).2.2.2 = true) (hM : M.1.name = "<init>") (hde : (q.2.1 k0).1 = M.1.cls) (hy : px_isR (px_ty c0 k0) = true) (hO : OB h c0 i) (k : ∀ h1, h1 = px_upR h i k0 (some a) → EX M pc' ls st h1 B Q) : EX M pc ls (vr a :: vr i :: st) h B Q :=
  ex_putVF (v := vr a) (h1 := px_upR h i k0 (some a)) pc' hd hp hO hc hk hw hf hM hde (fun ad => by revert hy; cases px_ty c0 k0 <;> intro hy <;> first | rfl | (cases hy)) (fun ad => by revert hy; cases px_ty c0 k0 <;> intro hy <;> first | rfl | (cases hy)) rfl (fun a ha j => ⟨rfl, by simp [px_upR, ha]⟩) (fun j hj => ⟨rfl, by simp [px_upR, hj]⟩) (fun ad => by revert hy; cases px_ty c0 k0 <;> intro hy <;> first | (simp [px_upR, px_V, px_tr]; done) | (cases hy)) (k _ rfl)
theorem ex_iald {M : MD} {pc : Nat} {ls : List (Option PV)} {st : List PV} {h : PH} {B : Nat × Nat} {Q : Option PV → PH → Prop} {i : Nat} {j : Int} (pc' : Nat) (hd : decode M.2.1 pc = .ok (.iaload, 1)) (hp : pc' = pc + 1) (hA : AI h 20 i j) (k : EX M pc' ls (vi (h.2.1 i j.toNat) :: st) h B Q) : EX M pc ls (vi j :: vr i :: st) h B Q := by
  subst hp
  intro p l e R s m args below meth c D cy ad T0 A H locs cells slots lsA C S L
  obtain ⟨n, hT, h0, h1, h2⟩ := hA
  have hc := px_arI S.1 hT
  have hin := rng_in h0 h1 h2
  have hl : (Int32.ofInt j).toNatClampNeg < n := Nat.not_le.mp fun q => hin (Or.inr q)
  have hK := C.2.2.2.2.2.2.2.1.2 0 (cy 0, .int) rfl
  refine W.iald (v := .int (Int32.ofInt (h.2.1 i j.toNat))) C.1 C.2.1 hc (hK.1 n _) (fun q => by cases q) (by rw [arrV_size]; exact hin) (by rw [arrV_read _ _ hl, rng_cl h0 h2]) rfl rfl hd (k p l e R s m args below meth c D cy ad T0 A H locs cells slots lsA C S L)
theorem ex_alen {M : MD} {pc : Nat} {ls : List (Option PV)} {st : List PV} {h : PH} {B : Nat × Nat} {Q : Option PV → PH → Prop} {i n : Nat} {n' : Int} (pc' : Nat) (hd : decode M.2.1 pc = .ok (.arraylength, 1)) (hp : pc' = pc + 1) (hT : h.1[i]? = some (20, n)) (hn : n' = (n : Int)) (k : EX M pc' ls (vi n' :: st) h B Q) : EX M pc ls (vr i :: st) h B Q := by
  subst hp
  subst hn
  intro p l e R s m args below meth c D cy ad T0 A H locs cells slots lsA C S L
  have hc := px_arI S.1 hT
  have hK := C.2.2.2.2.2.2.2.1.2 0 (cy 0, .int) rfl
  refine W.alen (n := Int32.ofInt (n : Int)) C.1 C.2.1 hc (hK.1 n _) (by rw [arrV_size, Int32.ofInt_eq_ofNat]) rfl rfl hd (k p l e R s m args below meth c D cy ad T0 A H locs cells slots lsA C S L)
theorem ex_alenR {M : MD} {pc : Nat} {ls : List (Option PV)} {st : List PV} {h : PH} {B : Nat × Nat} {Q : Option PV → PH → Prop} {t i n : Nat} {n' : Int} (pc' : Nat) (hd : decode M.2.1 pc = .ok (.arraylength, 1)) (hp : pc' = pc + 1) (hT : h.1[i]? = some (t, n)) (ht : t = 21 ∨ t = 22 ∨ t = 23) (hn : n' = (n : Int)) (k : EX M pc' ls (vi n' :: st) h B Q) : EX M pc ls (vr i :: st) h B Q := by
  subst hp
  subst hn
  intro p l e R s m args below meth c D cy ad T0 A H locs cells slots lsA C S L
  have hc := px_arR S.1 hT (by omega)
  have hK : ∃ ty, ArrOfT s (cy (t - 20)) ty := by
    rcases ht with rfl | rfl | rfl
    · exact ⟨_, (C.2.2.2.2.2.2.2.1.2 1 (cy 1, .object RX0) rfl).1⟩
    · exact ⟨_, (C.2.2.2.2.2.2.2.1.2 2 (cy 2, .object RX1) rfl).1⟩
    · exact ⟨_, (C.2.2.2.2.2.2.2.1.2 3 (cy 3, .array .int) rfl).1⟩
  obtain ⟨ty, hK⟩ := hK
  refine W.alen (n := Int32.ofInt (n : Int)) C.1 C.2.1 hc (hK n _) (by rw [arrV_size, Int32.ofInt_eq_ofNat]) rfl rfl hd (k p l e R s m args below meth c D cy ad T0 A H locs cells slots lsA C S L)
theorem ex_aald {M : MD} {pc : Nat} {ls : List (Option PV)} {st : List PV} {h : PH} {B : Nat × Nat} {Q : Option PV → PH → Prop} {i a : Nat} {j : Int} (t pc' : Nat) (hd : decode M.2.1 pc = .ok (.aaload, 1)) (hp : pc' = pc + 1) (ht : t = 21 ∨ t = 22 ∨ t = 23) (hA : AI h t i j) (ha : h.2.2 i j.toNat = some a) (k : EX M pc' ls (vr a :: st) h B Q) : EX M pc ls (vi j :: vr i :: st) h B Q := by
  subst hp
  intro p l e R s m args below meth c D cy ad T0 A H locs cells slots lsA C S L
  obtain ⟨n, hT, h0, h1, h2⟩ := hA
  have hc := px_arR S.1 hT (by omega)
  have hin := rng_in h0 h1 h2
  have hl : (Int32.ofInt j).toNatClampNeg < n := Nat.not_le.mp fun q => hin (Or.inr q)
  have hK : ∃ ty : FieldType, ty.isReference = true ∧ ArrOfT s (cy (t - 20)) ty := by
    rcases ht with rfl | rfl | rfl
    · exact ⟨_, rfl, (C.2.2.2.2.2.2.2.1.2 1 (cy 1, .object RX0) rfl).1⟩
    · exact ⟨_, rfl, (C.2.2.2.2.2.2.2.1.2 2 (cy 2, .object RX1) rfl).1⟩
    · exact ⟨_, rfl, (C.2.2.2.2.2.2.2.1.2 3 (cy 3, .array .int) rfl).1⟩
  obtain ⟨ty, hty, hK⟩ := hK
  refine W.aald (v := .ref (ad a)) C.1 C.2.1 hc (hK n _) hty (fun q => by cases q) (by rw [arrV_size]; exact hin) (by rw [arrV_read _ _ hl, rng_cl h0 h2, ha]; rfl) rfl rfl hd (k p l e R s m args below meth c D cy ad T0 A H locs cells slots lsA C S L)
theorem ex_iast {M : MD} {pc : Nat} {ls : List (Option PV)} {st : List PV} {h : PH} {B : Nat × Nat} {Q : Option PV → PH → Prop} {i : Nat} {j x : Int} (pc' : Nat) (hd : decode M.2.1 pc = .ok (.iastore, 1)) (hp : pc' = pc + 1) (hA : AI h 20 i j) (k : ∀ h1, h1 = px_upI h i j.toNat x → EX M pc' ls st h1 B Q) : EX M pc ls (vi x :: vi j :: vr i :: st) h B Q := by
  subst hp
  intro p l e R s m args below meth c D cy ad T0 A H locs cells slots lsA C S L
  obtain ⟨n, hT, h0, h1, h2⟩ := hA
  have hc := px_arI S.1 hT
  have hin := rng_in h0 h1 h2
  have hl : (Int32.ofInt j).toNatClampNeg < n := Nat.not_le.mp fun q => hin (Or.inr q)
  have hK := C.2.2.2.2.2.2.2.1.2 0 (cy 0, .int) rfl
  refine W.iast C.1 C.2.1 hc (hK.1 n _) (fun q => by cases q) (by rw [arrV_size]; exact hin) rfl rfl hd fun H1 ez z oq => ?_
  have hS1 : SIM D cy ad (px_upI h i j.toNat x) H1 := by
    refine S.1.setA S.2.1 (px_len hT) ?_ oq rfl (fun a ha b => ⟨by simp [px_upI, ha], rfl⟩)
    have hT1 : (px_upI h i j.toNat x).1[i]? = some (20, n) := hT
    unfold px_at
    rw [hT1]
    dsimp only
    rw [if_neg (by omega), if_pos rfl, ez, arrV_store, rng_cl h0 h2]
    refine congrArg (fun f => some (arrV (cy 0) n f)) (funext fun q => ?_)
    by_cases hq : q = j.toNat
    · subst hq
      simp [updV, px_upI]
    · simp [updV, px_upI, hq]
  exact k _ rfl p l e R s m args below meth c D cy ad T0 A H1 _ cells slots lsA C ⟨hS1, S.2.1, S.2.2.1.put z oq (S.2.1.2 _ (px_len hT)), S.2.2.2.1, S.2.2.2.2.1, S.2.2.2.2.2.1, z.trans S.2.2.2.2.2.2.1, S.2.2.2.2.2.2.2.1, fun j hj => (S.2.2.2.2.2.2.2.2 j hj).trans (by rw [z])⟩ L
theorem ex_aast {M : MD} {pc : Nat} {ls : List (Option PV)} {st : List PV} {h : PH} {B : Nat × Nat} {Q : Option PV → PH → Prop} {i a c0 : Nat} {j : Int} (t pc' : Nat) (hd : decode M.2.1 pc = .ok (.aastore, 1)) (hp : pc' = pc + 1) (ht : (t = 21 ∧ c0 = 0) ∨ (t = 22 ∧ c0 = 1)) (hA : AI h t i j) (hO : OB h c0 a) (k : ∀ h1, h1 = px_upR h i j.toNat (some a) → EX M pc' ls st h1 B Q) : EX M pc ls (vr a :: vi j :: vr i :: st) h B Q := by
  subst hp
  intro p l e R s m args below meth c D cy ad T0 A H locs cells slots lsA C S L
  obtain ⟨n, hT, h0, h1, h2⟩ := hA
  obtain ⟨n2, hT2⟩ := hO
  have hc := px_arR S.1 hT (by omega)
  have hin := rng_in h0 h1 h2
  have hl : (Int32.ofInt j).toNatClampNeg < n := Nat.not_le.mp fun q => hin (Or.inr q)
  have hlo : ¬ Int32.ofInt j < 0 := fun q => hin (Or.inl q)
  obtain ⟨q, hq, cellV, g1, g2, g3, -⟩ := px_obj S.1 hT2 (by omega)
  have hcls := (C.2.2.2.2.2.2.2.1.1 c0 q hq).2
  have hkk : ∃ (kA : Class) (ty : FieldType), s.vm.classes[cy (t - 20)]? = some kA ∧ kA.kind = .array (D.1 c0) ty ∧ ty.isReference = true := by
    rcases ht with ⟨rfl, rfl⟩ | ⟨rfl, rfl⟩
    · obtain ⟨kA, comp, k1, k2, k3, -⟩ := (C.2.2.2.2.2.2.2.1.2 1 (cy 1, .object RX0) rfl).2
      cases hq
      exact ⟨kA, _, k1, by rw [k2, Option.some.inj (k3.symm.trans hcls.1)], rfl⟩
    · obtain ⟨kA, comp, k1, k2, k3, -⟩ := (C.2.2.2.2.2.2.2.1.2 2 (cy 2, .object RX1) rfl).2
      cases hq
      exact ⟨kA, _, k1, by rw [k2, Option.some.inj (k3.symm.trans hcls.1)], rfl⟩
  obtain ⟨kA, ty, k1, k2, k3⟩ := hkk
  obtain ⟨kC, hkC, -⟩ := hcls.2
  refine W.aast C.1 C.2.1 hc (fun q h => by cases h) (fun h => by cases h) k1 k2 k3 hkC ⟨hlo, by rw [arrV_size]; exact hl⟩ g1 (fun q h => by rw [g3] at h; cases h) (by rw [g2]; exact hkC) (by rw [g2]; exact va_assign hcls) rfl rfl hd fun H1 ez z oq => ?_
  have hS1 : SIM D cy ad (px_upR h i j.toNat (some a)) H1 := by
    refine S.1.setA S.2.1 (px_len hT) ?_ oq rfl (fun a ha b => ⟨rfl, by simp [px_upR, ha]⟩)
    have hT1 : (px_upR h i j.toNat (some a)).1[i]? = some (t, n) := hT
    have a1 : ¬ t < 11 := by omega
    have a2 : ¬ t = 20 := by omega
    unfold px_at
    rw [hT1]
    dsimp only
    rw [if_neg a1, if_neg a2, ez, arrV_store, rng_cl h0 h2]
    refine congrArg (fun f => some (arrV (cy (t - 20)) n f)) (funext fun q => ?_)
    by_cases hq : q = j.toNat
    · subst hq
      simp [updV, px_upR, va_rf]
    · simp [updV, px_upR, hq]
  exact k _ rfl p l e R s m args below meth c D cy ad T0 A H1 _ cells slots lsA C ⟨hS1, S.2.1, S.2.2.1.put z oq (S.2.1.2 _ (px_len hT)), S.2.2.2.1, S.2.2.2.2.1, S.2.2.2.2.2.1, z.trans S.2.2.2.2.2.2.1, S.2.2.2.2.2.2.2.1, fun j hj => (S.2.2.2.2.2.2.2.2 j hj).trans (by rw [z])⟩ L
theorem ex_iret {M : MD} {pc : Nat} {ls : List (Option PV)} {h : PH} {Q : Option PV → PH → Prop} {x : Int} {b : Nat} (hd : decode M.2.1 pc = .ok (.ireturn, 1)) (hr : M.2.2.2.1 = some .int ∨ (M.2.2.2.1 = some .boolean ∧ (x = 0 ∨ x = 1))) (q : Q (some (vi x)) h) : EX M pc ls [vi x] h (0, b) Q := by
  intro p l e R s m args below meth c D cy ad T0 A H locs cells slots lsA C S L
  refine W.widen (k := R.cells) (n := R.slots) (by have := S.2.2.2.2.1; dsimp only at this; omega) (by have := S.2.2.2.2.2.1; dsimp only at this; omega) ?_
  have fin : ∀ t : State, t.heap = H → s.WarmedH t.vm → PQ D cy ad T0 A R.cells Q args s (.returned ((some (vi x)).map (px_tr ad))) t := fun t ht hW => ⟨⟨_, h, rfl, q, by rw [ht]; exact S.1, S.2.1, va_K.moved hW.alike C.2.2.2.2.2.2.2.1, by rw [ht]; have h1 := S.2.2.2.2.1; have h2 := S.2.2.2.2.2.2.1; dsimp only at h1; omega, by have h1 := S.2.2.2.2.1; obtain ⟨r, h2, h3⟩ := S.2.2.2.2.2.2.2.1; dsimp only at h1; exact ⟨r, h2, by omega⟩⟩, S.2.2.1.F ht⟩
  rcases hr with hr | ⟨hr, hx⟩
  · exact W.iret C.1 C.2.1 (by rw [C.2.2.1, hr]) fin S.2.2.1.2.2 hd (hlocks := C.2.2.2.2.2.2.1)
  · exact W.zret C.1 C.2.1 (by rw [C.2.2.1, hr]) (by rcases hx with rfl | rfl <;> rfl) fin S.2.2.1.2.2 hd (hlocks := C.2.2.2.2.2.2.1)
theorem ex_lret {M : MD} {pc : Nat} {ls : List (Option PV)} {h : PH} {Q : Option PV → PH → Prop} {x : Int} {b : Nat} (hd : decode M.2.1 pc = .ok (.lreturn, 1)) (hr : M.2.2.2.1 = some .long) (q : Q (some (vl x)) h) : EX M pc ls [vl x] h (0, b) Q := by
  intro p l e R s m args below meth c D cy ad T0 A H locs cells slots lsA C S L
  refine W.widen (k := R.cells) (n := R.slots) (by have := S.2.2.2.2.1; dsimp only at this; omega) (by have := S.2.2.2.2.2.1; dsimp only at this; omega) ?_
  have fin : ∀ t : State, t.heap = H → s.WarmedH t.vm → PQ D cy ad T0 A R.cells Q args s (.returned ((some (vl x)).map (px_tr ad))) t := fun t ht hW => ⟨⟨_, h, rfl, q, by rw [ht]; exact S.1, S.2.1, va_K.moved hW.alike C.2.2.2.2.2.2.2.1, by rw [ht]; have h1 := S.2.2.2.2.1; have h2 := S.2.2.2.2.2.2.1; dsimp only at h1; omega, by have h1 := S.2.2.2.2.1; obtain ⟨r, h2, h3⟩ := S.2.2.2.2.2.2.2.1; dsimp only at h1; exact ⟨r, h2, by omega⟩⟩, S.2.2.1.F ht⟩
  exact W.lret C.1 C.2.1 (by rw [C.2.2.1, hr]) fin S.2.2.1.2.2 hd (hlocks := C.2.2.2.2.2.2.1)
theorem ex_vret {M : MD} {pc : Nat} {ls : List (Option PV)} {h : PH} {Q : Option PV → PH → Prop} {b : Nat} (hd : decode M.2.1 pc = .ok (.return_, 1)) (hr : M.2.2.2.1 = none) (q : Q none h) : EX M pc ls [] h (0, b) Q := by
  intro p l e R s m args below meth c D cy ad T0 A H locs cells slots lsA C S L
  refine W.widen (k := R.cells) (n := R.slots) (by have := S.2.2.2.2.1; dsimp only at this; omega) (by have := S.2.2.2.2.2.1; dsimp only at this; omega) ?_
  have fin : ∀ t : State, t.heap = H → s.WarmedH t.vm → PQ D cy ad T0 A R.cells Q args s (.returned ((none : Option PV).map (px_tr ad))) t := fun t ht hW => ⟨⟨_, h, rfl, q, by rw [ht]; exact S.1, S.2.1, va_K.moved hW.alike C.2.2.2.2.2.2.2.1, by rw [ht]; have h1 := S.2.2.2.2.1; have h2 := S.2.2.2.2.2.2.1; dsimp only at h1; omega, by have h1 := S.2.2.2.2.1; obtain ⟨r, h2, h3⟩ := S.2.2.2.2.2.2.2.1; dsimp only at h1; exact ⟨r, h2, by omega⟩⟩, S.2.2.1.F ht⟩
  exact W.vret C.1 C.2.1 (by rw [C.2.2.1, hr]) fin S.2.2.1.2.2 hd (hlocks := C.2.2.2.2.2.2.1)
/-- what a callee's words must hold -/
def NV (N : MD) (n : Nat) : Prop := Cond.code N.1 N.2.1 N.2.2.1 N.2.2.2.1 ∈ WS ∧ Cond.initialized N.1.cls ∈ WS ∧ (N.1.cls ≠ "java/lang/invoke/MethodHandle" ∧ N.1.cls ≠ "java/lang/invoke/VarHandle" ∧ (parseMethodDescriptor N.1.desc).map (fun d => d.parameters.length) = some n)
theorem NV.good {N : MD} {n : Nat} (h : NV N n) : GoodIn WS (.code N.1 N.2.1 N.2.2.1 N.2.2.2.1 :: WS) := by
  intro w hw
  have hm : w ∈ WS := by
    rcases List.mem_cons.mp hw with rfl | hw
    · exact h.1
    · exact hw
  exact ⟨hm, good_of_word (WS_good hm)⟩
theorem NV.goodV {N : MD} {n idx : Nat} {own : String} (h : NV N n) (hl : Cond.methodLink own idx N.1 ∈ WS) (hi : Cond.instanceMethod N.1 ∈ WS) (hs : Cond.selects N.1.cls N.1 N.1 ∈ WS) : GoodIn WS (wsV own idx N.1.cls N.1 (.code N.1 N.2.1 N.2.2.1 N.2.2.2.1 :: WS)) := by
  intro w hw
  have hm : w ∈ WS := by
    rcases List.mem_append.mp hw with hw | hw
    · simp only [List.mem_cons, List.not_mem_nil, or_false] at hw
      rcases hw with rfl | rfl | rfl | rfl
      · exact hl
      · exact hi
      · exact hs
      · exact h.2.1
    · exact (h.good w hw).1
  exact ⟨hm, good_of_word (WS_good hm)⟩
theorem NV.goodS {N : MD} {n idx : Nat} {own : String} (h : NV N n) (hl : Cond.methodLink own idx N.1 ∈ WS) (hi : Cond.static N.1 ∈ WS) : GoodIn WS (va_wsS own idx N.1 (.code N.1 N.2.1 N.2.2.1 N.2.2.2.1 :: WS)) := by
  intro w hw
  have hm : w ∈ WS := by
    rcases List.mem_append.mp hw with hw | hw
    · simp only [List.mem_cons, List.not_mem_nil, or_false] at hw
      rcases hw with rfl | rfl | rfl
      · exact hl
      · exact hi
      · exact h.2.1
    · exact (h.good w hw).1
  exact ⟨hm, good_of_word (WS_good hm)⟩
theorem px_gx {p : Program} {R : Room} {s U : State} {m : MethodId} {args : Array Value} {meth : Method} {c : Code} {D : va_G} {cy : Nat → ClassId} {ad : Nat → Nat} {T0 : List (Nat × Nat)} {A : Nat → Prop} {H : Heap} {locs : List Loc} {cells slots : Nat} {h : PH} {B : Nat × Nat} {M : MD} (C : CX p R s m args meth c M D cy A) (S : SX D cy ad h s A H locs R T0 cells slots B) (hW : s.WarmedH U.vm) : GX (px_A ad h.1.length H.size) U H :=
  ((C.2.2.2.2.2.2.2.2.2.2.2.warm hW).kept S.2.2.1.2.1).narrow (fun q hq => by
    rcases hq with ⟨i, hi, rfl⟩ | hq
    · exact S.2.1.2 i hi
    · exact S.2.2.2.1 q (Nat.le_trans S.2.2.1.1 hq))
section CALL
variable {p : Program} {l : Launch} {e : Env} {R : Room} {s : State} {m : MethodId} {args : Array Value} {below : List Frame} {meth : Method} {c : Code} {D : va_G} {cy : Nat → ClassId} {ad : Nat → Nat} {T0 : List (Nat × Nat)} {A : Nat → Prop} {H : Heap} {locs : List Loc} {cells slots : Nat} {lsA : Array Slot} {h : PH} {B1 B2 : Nat × Nat} {st : List PV} {pc : Nat} {ls : List (Option PV)} {M : MD} {Q Qc : Option PV → PH → Prop}
theorem px_call {st0 : List Value} {a : Array Value} (C : CX p R s m args meth c M D cy A) (S : SX D cy ad h s A H locs R T0 cells slots (B1.1 + B2.1, B1.2 + B2.2)) (L : PL ad M.2.2.1 lsA ls)
    (hr : va_Run p l e R s m args below meth c H locs cells slots B1.1 B1.2 (F0 m pc lsA st0) (st.map (px_tr ad)) (PQ D cy ad h.1 (px_A ad h.1.length H.size) B1.1 Qc a) (px_A ad h.1.length H.size))
    (k : ∀ v h1, Qc v h1 → EX M (pc + 3) ls (v.toList ++ st) h1 B2 Q) :
    W p l e R s m args below meth c H locs cells slots (MQ below (PQ D cy ad T0 A R.cells Q) args s R.cells R.slots A) (F0 m pc lsA st0) := by
  intro T hT X
  obtain ⟨v, st₀, t, T', L', h0, X', hL, e1, e2, ⟨⟨pv, h1, ho, hq, hS1, hJ1, hK1, hz1, r1, hr1, hrl1⟩, hz, hk⟩, stp⟩ := hr T hT X
  have hn1 : h1.1.length = h.1.length + B1.1 := by rw [hr1, List.length_append, hrl1]
  obtain ⟨S1, S2, S3, S4, S5, S6, S7, S8, S9⟩ := S
  dsimp only at S5 S6 S9
  rw [h0] at hz hk hz1
  have hAA : ∀ q, px_A ad h.1.length H.size q → A q := by
    intro q hq
    rcases hq with ⟨i, hi, rfl⟩ | hq
    · exact S2.2 i hi
    · exact S4 q (Nat.le_trans S3.1 hq)
  have hv : v = pv.map (px_tr ad) := by cases ho; rfl
  subst hv
  have hst : (pv.map (px_tr ad)).toList ++ st.map (px_tr ad) = (pv.toList ++ st).map (px_tr ad) := by cases pv <;> rfl
  obtain ⟨t2, a1, b1⟩ := k pv h1 hq p l e R s m args below meth c D cy ad T0 A T'.heap (locs ++ L') (cells + B1.1) (slots + B1.2) lsA C
    ⟨by rw [e1]; exact hS1, ⟨hJ1.1, fun i hi => hAA _ (hJ1.2 i hi)⟩, ⟨Nat.le_trans S3.1 (by rw [e1]; exact hz), fun q h1 h2 => by rw [e1, hk q (Nat.lt_of_lt_of_le h1 S3.1) (fun z => h2 (hAA q z))]; exact S3.2.1 q h1 h2, fun q hq => by
      rcases List.mem_append.mp hq with h | h
      · exact S3.2.2 q h
      · exact hAA _ (hL q h)⟩, S4, by omega, by omega, by rw [e1]; omega, (by obtain ⟨r, h2, h3⟩ := S8; exact ⟨r ++ r1, by rw [hr1, h2, List.append_assoc], by rw [List.length_append, h3, hrl1]⟩), fun j hj => by
        have := S9 (B1.1 + j) (by omega)
        rw [e1, hz1, hn1, Nat.add_assoc, this]
        omega⟩ L T' rfl X'
  refine ⟨t2, stp t2 ?_, b1⟩
  rw [hst]
  exact a1
end CALL
theorem px_pre {B1 : Nat × Nat} {h : PH} {D : va_G} {cy : Nat → ClassId} {ad : Nat → Nat} {sz : Nat} {av : List Value} : FrameBlind (va_Pc av (fun U => U.heap.size = sz ∧ SIM D cy ad h U.heap ∧ va_K D vwCl (px_tys cy) U ∧ GX (px_A ad h.1.length sz) U U.heap ∧ ADJ (fun _ => True) ad h.1.length ∧ ∀ j, j < B1.1 → ad (h.1.length + j) = sz + j)) := fun a U g mk q => by
  obtain ⟨q1, q2, q3, q4, q5, q6⟩ := q
  exact ⟨q1, q2, q3, va_K.moved (u := U) (U := U.calling g mk a) (Vm.Alike.refl U.vm) q4, q5.same (U := U.calling g mk a) rfl, q6⟩
theorem ex_callV {M N : MD} {pc : Nat} {ls : List (Option PV)} {st stk : List PV} {h : PH} {B B1 B2 : Nat × Nat} {Q Qc : Option PV → PH → Prop} {idx n : Nat} {b c0 : Nat} {q : vw_C} (av : List PV) (pc' : Nat) (hd : decode M.2.1 pc = .ok (.invokevirtual idx, 3)) (hp : pc' = pc + 3) (hl : Cond.methodLink M.1.cls idx N.1 ∈ WS) (hN : NV N n) (hi : Cond.instanceMethod N.1 ∈ WS) (hs : Cond.selects N.1.cls N.1 N.1 ∈ WS) (hc : vwCl[c0]? = some q) (hcl : q.1 = N.1.cls) (hO : OB h c0 b) (hk : stk = av.reverse ++ vr b :: st) (hn : av.length = n) (hfr : N.2.2.2.2.1 + 1 ≤ M.2.2.2.2.1) (hlc : 8 + (N.2.2.1 + 11) + N.2.2.2.2.2 ≤ M.2.2.2.2.2) (hw : px_sum st ≤ 8) (hB : B = (B1.1 + B2.1, B1.2 + B2.2))
    (hM : MET N (vr b :: av) h B1 Qc) (k : ∀ v h1, Qc v h1 → EX M pc' ls (v.toList ++ st) h1 B2 Q) : EX M pc ls stk h B Q := by
  subst hp
  subst hk
  subst hB
  intro p l e R s m args below meth c D cy ad T0 A H locs cells slots lsA C S L
  obtain ⟨n3, hT3⟩ := hO
  obtain ⟨q', hq', cellV, g1, g2, g3, -⟩ := px_obj S.1 hT3 (cls_ok c0 q hc).2.2.2
  cases hc.symm.trans hq'
  have cellB : ∃ cellB : Cell, H[ad b]? = some cellB ∧ cellB.vm.isStatics = false ∧ s.vm.findClass N.1.cls = some cellB.cls := ⟨cellV, g1, by rw [g3]; rfl, by rw [g2, ← hcl]; exact (C.2.2.2.2.2.2.2.1.1 c0 q hc).2.1⟩
  refine px_call (st := st) (h := h) (B1 := B1) (B2 := B2) C S L (va_runV (As := av.map (px_tr ad)) (rest := st.map (px_tr ad)) ⟨C.1, C.2.1, C.2.2.2.1, C.2.2.2.2.1, C.2.2.2.2.2.1⟩ (hM l D cy ad H.size) (cwV n C.2.2.2.2.2.1 (hN.goodV hl hi hs) rfl rfl rfl ⟨rfl, hN.2.2⟩ ⟨by rw [C.2.2.2.2.2.2.2.2.1]; exact hfr, by rw [C.2.2.2.2.2.2.2.2.2.1]; exact hlc⟩) ⟨px_pre (B1 := B1), cellB, fun U hU hW => ⟨rfl, by rw [hU], by rw [hU]; exact S.1, va_K.moved hW.alike C.2.2.2.2.2.2.2.1, by rw [hU]; exact px_gx C S hW, ⟨S.2.1.1, fun _ _ => trivial⟩, fun j hj => S.2.2.2.2.2.2.2.2 j (by show j < B1.1 + B2.1; omega)⟩⟩ rfl (by rw [List.length_map]; exact hn) L.1 (by simp [px_tr, va_rf]) (lv_room (by rw [px_sum_eq]; exact hw)) hd ⟨by have := S.2.2.2.2.1; dsimp only at this; omega, by have := S.2.2.2.2.2.1; dsimp only at this; omega⟩) k
theorem ex_callS {M N : MD} {pc : Nat} {ls : List (Option PV)} {st stk : List PV} {h : PH} {B B1 B2 : Nat × Nat} {Q Qc : Option PV → PH → Prop} {idx n : Nat}  (av : List PV) (pc' : Nat) (hd : decode M.2.1 pc = .ok (.invokestatic idx, 3)) (hp : pc' = pc + 3) (hl : Cond.methodLink M.1.cls idx N.1 ∈ WS) (hN : NV N n) (hi : Cond.static N.1 ∈ WS) (hk : stk = av.reverse ++ st) (hn : av.length = n) (hfr : N.2.2.2.2.1 + 1 ≤ M.2.2.2.2.1) (hlc : 8 + (N.2.2.1 + 11) + N.2.2.2.2.2 ≤ M.2.2.2.2.2) (hw : px_sum st ≤ 8) (hB : B = (B1.1 + B2.1, B1.2 + B2.2))
    (hM : MET N (av) h B1 Qc) (k : ∀ v h1, Qc v h1 → EX M pc' ls (v.toList ++ st) h1 B2 Q) : EX M pc ls stk h B Q := by
  subst hp
  subst hk
  subst hB
  intro p l e R s m args below meth c D cy ad T0 A H locs cells slots lsA C S L
  refine px_call (st := st) (h := h) (B1 := B1) (B2 := B2) C S L (va_runS (As := av.map (px_tr ad)) (rest := st.map (px_tr ad)) ⟨C.1, C.2.1, C.2.2.2.1, C.2.2.2.2.1, C.2.2.2.2.2.1⟩ (hM l D cy ad H.size) (va_cwS n C.2.2.2.2.2.1 (hN.goodS hl hi) rfl rfl rfl hN.2.2 ⟨by rw [C.2.2.2.2.2.2.2.2.1]; exact hfr, by rw [C.2.2.2.2.2.2.2.2.2.1]; exact hlc⟩) ⟨px_pre (B1 := B1), fun U hU hW => ⟨rfl, by rw [hU], by rw [hU]; exact S.1, va_K.moved hW.alike C.2.2.2.2.2.2.2.1, by rw [hU]; exact px_gx C S hW, ⟨S.2.1.1, fun _ _ => trivial⟩, fun j hj => S.2.2.2.2.2.2.2.2 j (by show j < B1.1 + B2.1; omega)⟩⟩ rfl (by rw [List.length_map]; exact hn) L.1 (by simp [px_tr, va_rf]) (lv_room (by rw [px_sum_eq]; exact hw)) hd ⟨by have := S.2.2.2.2.1; dsimp only at this; omega, by have := S.2.2.2.2.2.1; dsimp only at this; omega⟩) k
theorem ex_callI {M N : MD} {pc : Nat} {ls : List (Option PV)} {st stk : List PV} {h : PH} {B B1 B2 : Nat × Nat} {Q Qc : Option PV → PH → Prop} {idx n : Nat} {b : Nat} (av : List PV) (pc' : Nat) (hd : decode M.2.1 pc = .ok (.invokespecial idx, 3)) (hp : pc' = pc + 3) (hl : Cond.methodLink M.1.cls idx N.1 ∈ WS) (hN : NV N n) (hi : Cond.instanceMethod N.1 ∈ WS) (hy : N.1.name = "<init>") (hr : N.2.2.2.1 = none) (hk : stk = av.reverse ++ vr b :: st) (hn : av.length = n) (hfr : N.2.2.2.2.1 + 1 ≤ M.2.2.2.2.1) (hlc : 8 + (N.2.2.1 + 11) + N.2.2.2.2.2 ≤ M.2.2.2.2.2) (hw : px_sum st ≤ 8) (hB : B = (B1.1 + B2.1, B1.2 + B2.2))
    (hM : MET N (vr b :: av) h B1 Qc) (k : ∀ v h1, Qc v h1 → EX M pc' ls (v.toList ++ st) h1 B2 Q) : EX M pc ls stk h B Q := by
  subst hp
  subst hk
  subst hB
  intro p l e R s m args below meth c D cy ad T0 A H locs cells slots lsA C S L
  refine px_call (st := st) (h := h) (B1 := B1) (B2 := B2) C S L (va_runI (As := av.map (px_tr ad)) (rest := st.map (px_tr ad)) ⟨C.1, C.2.1, C.2.2.2.1, C.2.2.2.2.1, C.2.2.2.2.2.1⟩ (hM l D cy ad H.size) (cwI n C.2.2.2.2.2.1 hN.good (by rw [hr]) rfl rfl (C.2.2.2.2.2.1 _ hN.2.1) (C.2.2.2.2.2.1 _ hl) (C.2.2.2.2.2.1 _ hi) hy hN.2.2 ⟨by rw [C.2.2.2.2.2.2.2.2.1]; exact hfr, by rw [C.2.2.2.2.2.2.2.2.2.1]; exact hlc⟩) ⟨px_pre (B1 := B1), fun U hU hW => ⟨rfl, by rw [hU], by rw [hU]; exact S.1, va_K.moved hW.alike C.2.2.2.2.2.2.2.1, by rw [hU]; exact px_gx C S hW, ⟨S.2.1.1, fun _ _ => trivial⟩, fun j hj => S.2.2.2.2.2.2.2.2 j (by show j < B1.1 + B2.1; omega)⟩⟩ rfl (by rw [List.length_map]; exact hn) L.1 (by simp [px_tr, va_rf]) (lv_room (by rw [px_sum_eq]; exact hw)) hd ⟨by have := S.2.2.2.2.1; dsimp only at this; omega, by have := S.2.2.2.2.2.1; dsimp only at this; omega⟩) k
theorem ex_callSN {M N : MD} {pc : Nat} {ls : List (Option PV)} {st stk : List PV} {h : PH} {B B1 B2 : Nat × Nat} {Q Qc : Option PV → PH → Prop} {idx n : Nat}  (av : List PV) (pc' : Nat) (hd : decode M.2.1 pc = .ok (.invokestatic idx, 3)) (hp : pc' = pc + 3) (hl : (M.1.cls, idx, N.1) ∈ nestL) (hN : NV N n) (hi : Cond.static N.1 ∈ WS) (hk : stk = av.reverse ++ st) (hn : av.length = n) (hfr : N.2.2.2.2.1 + 1 ≤ M.2.2.2.2.1) (hlc : 8 + (N.2.2.1 + 11) + N.2.2.2.2.2 ≤ M.2.2.2.2.2) (hw : px_sum st ≤ 8) (hB : B = (B1.1 + B2.1, B1.2 + B2.2))
    (hM : MET N (av) h B1 Qc) (k : ∀ v h1, Qc v h1 → EX M pc' ls (v.toList ++ st) h1 B2 Q) : EX M pc ls stk h B Q := by
  subst hp
  subst hk
  subst hB
  intro p l e R s m args below meth c D cy ad T0 A H locs cells slots lsA C S L
  refine px_call (st := st) (h := h) (B1 := B1) (B2 := B2) C S L (va_runSN (As := av.map (px_tr ad)) (rest := st.map (px_tr ad)) ⟨C.1, C.2.1, C.2.2.2.1, C.2.2.2.2.1, C.2.2.2.2.2.1⟩ (hM l D cy ad H.size) ⟨va_cnB n C.2.2.2.2.2.1 hN.good rfl rfl rfl (C.2.2.2.2.2.2.2.2.2.2.2.2.2.2.2.2.2 _ hl) (C.2.2.2.2.2.1 _ hN.2.1) hN.2.2 ⟨by rw [C.2.2.2.2.2.2.2.2.1]; exact hfr, by rw [C.2.2.2.2.2.2.2.2.2.1]; exact hlc⟩, C.2.2.2.2.2.1 _ hi, trivial⟩ ⟨px_pre (B1 := B1), fun U hU hW => ⟨rfl, by rw [hU], by rw [hU]; exact S.1, va_K.moved hW.alike C.2.2.2.2.2.2.2.1, by rw [hU]; exact px_gx C S hW, ⟨S.2.1.1, fun _ _ => trivial⟩, fun j hj => S.2.2.2.2.2.2.2.2 j (by show j < B1.1 + B2.1; omega)⟩⟩ rfl (by rw [List.length_map]; exact hn) L.1 (by simp [px_tr, va_rf]) (lv_room (by rw [px_sum_eq]; exact hw)) hd ⟨by have := S.2.2.2.2.1; dsimp only at this; omega, by have := S.2.2.2.2.2.1; dsimp only at this; omega⟩) k
theorem ex_callIN {M N : MD} {pc : Nat} {ls : List (Option PV)} {st stk : List PV} {h : PH} {B B1 B2 : Nat × Nat} {Q Qc : Option PV → PH → Prop} {idx n : Nat} {b : Nat} (av : List PV) (pc' : Nat) (hd : decode M.2.1 pc = .ok (.invokespecial idx, 3)) (hp : pc' = pc + 3) (hl : (M.1.cls, idx, N.1) ∈ nestL) (hN : NV N n) (hi : Cond.instanceMethod N.1 ∈ WS) (hy : N.1.name = "<init>") (hr : N.2.2.2.1 = none) (hk : stk = av.reverse ++ vr b :: st) (hn : av.length = n) (hfr : N.2.2.2.2.1 + 1 ≤ M.2.2.2.2.1) (hlc : 8 + (N.2.2.1 + 11) + N.2.2.2.2.2 ≤ M.2.2.2.2.2) (hw : px_sum st ≤ 8) (hB : B = (B1.1 + B2.1, B1.2 + B2.2))
    (hM : MET N (vr b :: av) h B1 Qc) (k : ∀ v h1, Qc v h1 → EX M pc' ls (v.toList ++ st) h1 B2 Q) : EX M pc ls stk h B Q := by
  subst hp
  subst hk
  subst hB
  intro p l e R s m args below meth c D cy ad T0 A H locs cells slots lsA C S L
  refine px_call (st := st) (h := h) (B1 := B1) (B2 := B2) C S L (va_runIN (As := av.map (px_tr ad)) (rest := st.map (px_tr ad)) ⟨C.1, C.2.1, C.2.2.2.1, C.2.2.2.2.1, C.2.2.2.2.2.1⟩ (hM l D cy ad H.size) ⟨va_cnB n C.2.2.2.2.2.1 hN.good (by rw [hr]) rfl rfl (C.2.2.2.2.2.2.2.2.2.2.2.2.2.2.2.2.2 _ hl) (C.2.2.2.2.2.1 _ hN.2.1) hN.2.2 ⟨by rw [C.2.2.2.2.2.2.2.2.1]; exact hfr, by rw [C.2.2.2.2.2.2.2.2.2.1]; exact hlc⟩, hy, C.2.2.2.2.2.1 _ hi⟩ ⟨px_pre (B1 := B1), fun U hU hW => ⟨rfl, by rw [hU], by rw [hU]; exact S.1, va_K.moved hW.alike C.2.2.2.2.2.2.2.1, by rw [hU]; exact px_gx C S hW, ⟨S.2.1.1, fun _ _ => trivial⟩, fun j hj => S.2.2.2.2.2.2.2.2 j (by show j < B1.1 + B2.1; omega)⟩⟩ rfl (by rw [List.length_map]; exact hn) L.1 (by simp [px_tr, va_rf]) (lv_room (by rw [px_sum_eq]; exact hw)) hd ⟨by have := S.2.2.2.2.1; dsimp only at this; omega, by have := S.2.2.2.2.2.1; dsimp only at this; omega⟩) k
theorem ex_callVi {M N : MD} {pc : Nat} {ls : List (Option PV)} {st stk : List PV} {h : PH} {B : Nat × Nat} {Q : Option PV → PH → Prop} {idx n : Nat} {b c0 : Nat} {q : vw_C} {P : Int → PH → Prop} (av : List PV) (pc' : Nat) (hd : decode M.2.1 pc = .ok (.invokevirtual idx, 3)) (hp : pc' = pc + 3) (hl : Cond.methodLink M.1.cls idx N.1 ∈ WS) (hN : NV N n ∧ Cond.instanceMethod N.1 ∈ WS ∧ Cond.selects N.1.cls N.1 N.1 ∈ WS) (hc : vwCl[c0]? = some q) (hcl : q.1 = N.1.cls) (hk : stk = av.reverse ++ vr b :: st) (hn : av.length = n) (hfr : N.2.2.2.2.1 + 1 ≤ M.2.2.2.2.1 ∧ 8 + (N.2.2.1 + 11) + N.2.2.2.2.2 ≤ M.2.2.2.2.2) (hw : px_sum st ≤ 8) (hO : OB h c0 b)
    (hM : METi N (vr b :: av) h P) (k : ∀ x h1, P x h1 → EX M pc' ls (vi x :: st) h1 B Q) : EX M pc ls stk h B Q :=
  ex_callV (B1 := (0, 0)) (B2 := B) av pc' hd hp hl hN.1 hN.2.1 hN.2.2 hc hcl hO hk hn hfr.1 hfr.2 hw (by simp) hM (fun v h1 hq => by obtain ⟨x, rfl, hq⟩ := hq; exact k x h1 hq)
theorem ex_callSi {M N : MD} {pc : Nat} {ls : List (Option PV)} {st stk : List PV} {h : PH} {B : Nat × Nat} {Q : Option PV → PH → Prop} {idx n : Nat} {P : Int → PH → Prop} (av : List PV) (pc' : Nat) (hd : decode M.2.1 pc = .ok (.invokestatic idx, 3)) (hp : pc' = pc + 3) (hl : Cond.methodLink M.1.cls idx N.1 ∈ WS) (hN : NV N n ∧ Cond.static N.1 ∈ WS) (hk : stk = av.reverse ++ st) (hn : av.length = n) (hfr : N.2.2.2.2.1 + 1 ≤ M.2.2.2.2.1 ∧ 8 + (N.2.2.1 + 11) + N.2.2.2.2.2 ≤ M.2.2.2.2.2) (hw : px_sum st ≤ 8)
    (hM : METi N (av) h P) (k : ∀ x h1, P x h1 → EX M pc' ls (vi x :: st) h1 B Q) : EX M pc ls stk h B Q :=
  ex_callS (B1 := (0, 0)) (B2 := B) av pc' hd hp hl hN.1 hN.2 hk hn hfr.1 hfr.2 hw (by simp) hM (fun v h1 hq => by obtain ⟨x, rfl, hq⟩ := hq; exact k x h1 hq)
theorem ex_callVl {M N : MD} {pc : Nat} {ls : List (Option PV)} {st stk : List PV} {h : PH} {B : Nat × Nat} {Q : Option PV → PH → Prop} {idx n : Nat} {b c0 : Nat} {q : vw_C} {P : Int → PH → Prop} (av : List PV) (pc' : Nat) (hd : decode M.2.1 pc = .ok (.invokevirtual idx, 3)) (hp : pc' = pc + 3) (hl : Cond.methodLink M.1.cls idx N.1 ∈ WS) (hN : NV N n ∧ Cond.instanceMethod N.1 ∈ WS ∧ Cond.selects N.1.cls N.1 N.1 ∈ WS) (hc : vwCl[c0]? = some q) (hcl : q.1 = N.1.cls) (hk : stk = av.reverse ++ vr b :: st) (hn : av.length = n) (hfr : N.2.2.2.2.1 + 1 ≤ M.2.2.2.2.1 ∧ 8 + (N.2.2.1 + 11) + N.2.2.2.2.2 ≤ M.2.2.2.2.2) (hw : px_sum st ≤ 8) (hO : OB h c0 b)
    (hM : METl N (vr b :: av) h P) (k : ∀ x h1, P x h1 → EX M pc' ls (vl x :: st) h1 B Q) : EX M pc ls stk h B Q :=
  ex_callV (B1 := (0, 0)) (B2 := B) av pc' hd hp hl hN.1 hN.2.1 hN.2.2 hc hcl hO hk hn hfr.1 hfr.2 hw (by simp) hM (fun v h1 hq => by obtain ⟨x, rfl, hq⟩ := hq; exact k x h1 hq)
theorem ex_callSl {M N : MD} {pc : Nat} {ls : List (Option PV)} {st stk : List PV} {h : PH} {B : Nat × Nat} {Q : Option PV → PH → Prop} {idx n : Nat} {P : Int → PH → Prop} (av : List PV) (pc' : Nat) (hd : decode M.2.1 pc = .ok (.invokestatic idx, 3)) (hp : pc' = pc + 3) (hl : Cond.methodLink M.1.cls idx N.1 ∈ WS) (hN : NV N n ∧ Cond.static N.1 ∈ WS) (hk : stk = av.reverse ++ st) (hn : av.length = n) (hfr : N.2.2.2.2.1 + 1 ≤ M.2.2.2.2.1 ∧ 8 + (N.2.2.1 + 11) + N.2.2.2.2.2 ≤ M.2.2.2.2.2) (hw : px_sum st ≤ 8)
    (hM : METl N (av) h P) (k : ∀ x h1, P x h1 → EX M pc' ls (vl x :: st) h1 B Q) : EX M pc ls stk h B Q :=
  ex_callS (B1 := (0, 0)) (B2 := B) av pc' hd hp hl hN.1 hN.2 hk hn hfr.1 hfr.2 hw (by simp) hM (fun v h1 hq => by obtain ⟨x, rfl, hq⟩ := hq; exact k x h1 hq)
theorem ex_callVv {M N : MD} {pc : Nat} {ls : List (Option PV)} {st stk : List PV} {h : PH} {B : Nat × Nat} {Q : Option PV → PH → Prop} {idx n : Nat} {b c0 : Nat} {q : vw_C} {P : PH → Prop} (av : List PV) (pc' : Nat) (hd : decode M.2.1 pc = .ok (.invokevirtual idx, 3)) (hp : pc' = pc + 3) (hl : Cond.methodLink M.1.cls idx N.1 ∈ WS) (hN : NV N n ∧ Cond.instanceMethod N.1 ∈ WS ∧ Cond.selects N.1.cls N.1 N.1 ∈ WS) (hc : vwCl[c0]? = some q) (hcl : q.1 = N.1.cls) (hk : stk = av.reverse ++ vr b :: st) (hn : av.length = n) (hfr : N.2.2.2.2.1 + 1 ≤ M.2.2.2.2.1 ∧ 8 + (N.2.2.1 + 11) + N.2.2.2.2.2 ≤ M.2.2.2.2.2) (hw : px_sum st ≤ 8) (hO : OB h c0 b)
    (hM : METv N (vr b :: av) h (0, 0) P) (k : ∀ h1, P h1 → EX M pc' ls st h1 B Q) : EX M pc ls stk h B Q :=
  ex_callV (B1 := (0, 0)) (B2 := B) av pc' hd hp hl hN.1 hN.2.1 hN.2.2 hc hcl hO hk hn hfr.1 hfr.2 hw (by simp) hM (fun v h1 hq => by obtain ⟨rfl, hq⟩ := hq; exact k h1 hq)
theorem ex_callSv {M N : MD} {pc : Nat} {ls : List (Option PV)} {st stk : List PV} {h : PH} {B : Nat × Nat} {Q : Option PV → PH → Prop} {idx n : Nat} {P : PH → Prop} (av : List PV) (pc' : Nat) (hd : decode M.2.1 pc = .ok (.invokestatic idx, 3)) (hp : pc' = pc + 3) (hl : Cond.methodLink M.1.cls idx N.1 ∈ WS) (hN : NV N n ∧ Cond.static N.1 ∈ WS) (hk : stk = av.reverse ++ st) (hn : av.length = n) (hfr : N.2.2.2.2.1 + 1 ≤ M.2.2.2.2.1 ∧ 8 + (N.2.2.1 + 11) + N.2.2.2.2.2 ≤ M.2.2.2.2.2) (hw : px_sum st ≤ 8)
    (hM : METv N (av) h (0, 0) P) (k : ∀ h1, P h1 → EX M pc' ls st h1 B Q) : EX M pc ls stk h B Q :=
  ex_callS (B1 := (0, 0)) (B2 := B) av pc' hd hp hl hN.1 hN.2 hk hn hfr.1 hfr.2 hw (by simp) hM (fun v h1 hq => by obtain ⟨rfl, hq⟩ := hq; exact k h1 hq)
