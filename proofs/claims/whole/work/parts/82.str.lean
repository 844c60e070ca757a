/-! STRINGS: the library's methods on the String constant of Names, over raw values; they change nothing -/
def SGX (q v : Nat) (A : Nat → Prop) (U : State) (H : Heap) : Prop := vk_S 1 [26] [by40] (fun _ => q) (fun _ => v) A U H ∧ va_Z "java/lang/String" "COMPACT_STRINGS" "Z" (.int 1) A U H ∧ va_Zq "jdk/internal/util/Preconditions" "SIOOBE_FORMATTER" "Ljava/util/function/BiFunction;" A U H
theorem SGX.kept {q v : Nat} {A : Nat → Prop} {U : State} {H H1 : Heap} (h : SGX q v A U H) (hq : ∀ a : Nat, a < H.size → ¬ A a → H1[a]? = H[a]?) : SGX q v A U H1 := ⟨h.1.kept hq, h.2.1.kept hq, h.2.2.kept hq⟩
theorem SGX.narrow {q v : Nat} {A B : Nat → Prop} {U : State} {H : Heap} (h : SGX q v A U H) (hAB : ∀ q, B q → A q) : SGX q v B U H := ⟨h.1.narrow hAB, h.2.1.narrow hAB, h.2.2.narrow hAB⟩
theorem SGX.moved {q v : Nat} {A : Nat → Prop} {u U : State} {H : Heap} (hvm : u.vm.Alike U.vm) (h : SGX q v A u H) : SGX q v A U H := ⟨vk_S.moved hvm h.1, va_Z.moved hvm h.2.1, va_Zq.moved hvm h.2.2⟩
def PRQ (Q : Option Value → Prop) : Array Value → State → Outcome → State → Prop := fun _ st o t => ∃ w, o = .returned w ∧ Q w ∧ t.heap = st.heap
def CR (p : Program) (R : Room) (s : State) (m : MethodId) (args : Array Value) (meth : Method) (c : Code) (M : MD) (q v : Nat) : Prop :=
  p.tables.exec = Jvm.exec ∧ c.code = M.2.1 ∧ meth.sig.returnType = M.2.2.2.1 ∧ c.maxLocals = M.2.2.1 ∧ s.vm.findClass M.1.cls = some m.cls ∧ (∀ w ∈ WS, w.before args s = true) ∧ meth.locks = false ∧ R.frames = M.2.2.2.2.1 ∧ R.locals = M.2.2.2.2.2 ∧ SGX q v (fun x => s.heap.size ≤ x) s s.heap
def PRL (nL : Nat) (lsA : Array Slot) (ls : List (Option Value)) : Prop := lsA.size = nL ∧ ∀ (i : Nat) (v : Value), ls[i]? = some (some v) → lsA[i]? = some (.val v)
def ER (M : MD) (pc : Nat) (ls : List (Option Value)) (st : List Value) (q v : Nat) (Q : Option Value → Prop) : Prop :=
  ∀ (p : Program) (l : Launch) (e : Env) (R : Room) (s : State) (m : MethodId) (args : Array Value) (below : List Frame) (meth : Method) (c : Code) (locs : List Loc) (lsA : Array Slot),
    CR p R s m args meth c M q v → (∀ x ∈ locs, s.heap.size ≤ x.base) → PRL M.2.2.1 lsA ls →
    W p l e R s m args below meth c s.heap locs 0 0 (MQ below (PRQ Q) args s 0 0 (fun x => s.heap.size ≤ x)) (F0 m pc lsA st)
def METR (M : MD) (av : List Value) (q v : Nat) (Q : Option Value → Prop) : Prop :=
  ∀ (l : Launch) (sz : Nat), Met l M.1 (.code M.1 M.2.1 M.2.2.1 M.2.2.2.1 :: WS) ({ frames := M.2.2.2.2.1, cells := 0, slots := 0, locals := M.2.2.2.2.2 } : Room) (va_Pc av (fun U => U.heap.size = sz ∧ SGX q v (fun x => sz ≤ x) U U.heap)) (PRQ Q) 0 0 (fun x => sz ≤ x)
theorem metr_of {M : MD} {av : List Value} {q v : Nat} {Q : Option Value → Prop} {ls : List (Option Value)} (hy : plainName M.1.cls = true) (hl : (lg_sl av).length ≤ M.2.2.1) (hls : ∀ (i : Nat) (w : Value), ls[i]? = some (some w) → (i, w) ∈ lv_args 0 av) (hE : ER M 0 ls [] q v Q) : METR M av q v Q := by
  intro l sz
  refine Met.ofW (cc := M.2.1) (maxL := M.2.2.1) (ret := M.2.2.2.1) (ws' := WS) hy rfl ?_
  intro p e s m args below meth c s₁ B0 hml hv
  obtain ⟨rfl, hsz, hG⟩ := hv
  have hts := atoms_spec (ws := .code M.1 M.2.1 M.2.2.1 M.2.2.2.1 :: WS) B0.pre
  have hown : s.vm.findClass M.1.cls = some m.cls := findClass_of_methodNamed B0.named
  subst hsz
  have hle := lv_entry av (n := M.2.2.1) hl
  rw [lg_entry_eq]
  revert hle
  generalize (lg_sl av ++ List.replicate (M.2.2.1 - (lg_sl av).length) Slot.unset).toArray = lsA
  intro hle
  exact hE p l e _ s m _ below meth c [] lsA ⟨B0.exec, B0.bytes, B0.returns, hml, hown, fun w hw => hts w (List.mem_cons_of_mem _ hw), B0.notSynchronized, rfl, rfl, hG⟩ (fun x hx => by cases hx) ⟨hle.1, fun i w hw => hle.2.2 _ (hls i w hw)⟩
section ERR
variable {M N : MD} {pc : Nat} {ls : List (Option Value)} {st : List Value} {q v : Nat} {Q : Option Value → Prop}
theorem er_aload {i : Fin 4} {x : Nat} (pc' : Nat) (hd : decode M.2.1 pc = .ok (.aload_n i, 1)) (hp : pc' = pc + 1) (hl : ls[(i : Nat)]? = some (some (.ref x))) (k : ER M pc' ls (.ref x :: st) q v Q) : ER M pc ls st q v Q := by
  subst hp
  intro p l e R s m args below meth c locs lsA C hL L
  exact lv_aload_n C.1 C.2.1 hd rfl (L.2 _ _ hl) (k p l e R s m args below meth c locs lsA C hL L)
theorem er_iload {i : Fin 4} {x : Int32} (pc' : Nat) (hd : decode M.2.1 pc = .ok (.iload_n i, 1)) (hp : pc' = pc + 1) (hl : ls[(i : Nat)]? = some (some (.int x))) (k : ER M pc' ls (.int x :: st) q v Q) : ER M pc ls st q v Q := by
  subst hp
  intro p l e R s m args below meth c locs lsA C hL L
  exact lv_iload_n C.1 C.2.1 hd rfl (L.2 _ _ hl) (k p l e R s m args below meth c locs lsA C hL L)
theorem er_vS {s : State} {locs : List Loc} (hL : ∀ x ∈ locs, s.heap.size ≤ x.base) : va_S (fun x => s.heap.size ≤ x) s.heap s.heap locs := ⟨Nat.le_refl _, fun _ _ _ => rfl, hL⟩
theorem er_coder {idx : Nat} (pc' : Nat) (hd : decode M.2.1 pc = .ok (.getfield idx, 3)) (hp : pc' = pc + 3) (hw : Cond.fieldLink M.1.cls idx "java/lang/String" "coder" "B" ∈ WS) (k : ER M pc' ls (.int 0 :: st) q v Q) : ER M pc ls (.ref q :: st) q v Q := by
  subst hp
  intro p l e R s m args below meth c locs lsA C hL L
  exact vk_getf C.1 C.2.1 (C.2.2.2.2.2.2.2.2.2.1.1 0 (by omega)).2.1 (er_vS hL) C.2.2.2.2.1 (C.2.2.2.2.2.1 _ hw) (fun _ h => h) hd (k p l e R s m args below meth c locs lsA C hL L)
theorem er_value {idx : Nat} (pc' : Nat) (hd : decode M.2.1 pc = .ok (.getfield idx, 3)) (hp : pc' = pc + 3) (hw : Cond.fieldLink M.1.cls idx "java/lang/String" "value" "[B" ∈ WS) (k : ER M pc' ls (.ref v :: st) q v Q) : ER M pc ls (.ref q :: st) q v Q := by
  subst hp
  intro p l e R s m args below meth c locs lsA C hL L
  exact vk_getf C.1 C.2.1 (C.2.2.2.2.2.2.2.2.2.1.1 0 (by omega)).2.2.1 (er_vS hL) C.2.2.2.2.1 (C.2.2.2.2.2.1 _ hw) (fun _ h => h) hd (k p l e R s m args below meth c locs lsA C hL L)
theorem er_len (pc' : Nat) (hd : decode M.2.1 pc = .ok (.arraylength, 1)) (hp : pc' = pc + 1) (k : ER M pc' ls (.int 26 :: st) q v Q) : ER M pc ls (.ref v :: st) q v Q := by
  subst hp
  intro p l e R s m args below meth c locs lsA C hL L
  exact va_tlen C.1 C.2.1 (C.2.2.2.2.2.2.2.2.2.1.1 0 (by omega)).2.2.2 (er_vS hL) (by decide) hd (k p l e R s m args below meth c locs lsA C hL L)
theorem er_bald {i : Int32} (pc' : Nat) (hd : decode M.2.1 pc = .ok (.baload, 1)) (hp : pc' = pc + 1) (hin : vp_in i 26) (k : ER M pc' ls (.int (by40.getD i.toNatClampNeg 0) :: st) q v Q) : ER M pc ls (.int i :: .ref v :: st) q v Q := by
  subst hp
  intro p l e R s m args below meth c locs lsA C hL L
  exact va_tb C.1 C.2.1 (C.2.2.2.2.2.2.2.2.2.1.1 0 (by omega)).2.2.2 (er_vS hL) hin rfl hd (k p l e R s m args below meth c locs lsA C hL L)
theorem er_compact {idx : Nat} (pc' : Nat) (hd : decode M.2.1 pc = .ok (.getstatic idx, 3)) (hp : pc' = pc + 3) (hw : Cond.fieldLink M.1.cls idx "java/lang/String" "COMPACT_STRINGS" "Z" ∈ WS) (k : ER M pc' ls (.int 1 :: st) q v Q) : ER M pc ls st q v Q := by
  subst hp
  intro p l e R s m args below meth c locs lsA C hL L
  exact va_gets C.1 C.2.1 C.2.2.2.2.2.2.2.2.2.2.1 (er_vS hL) C.2.2.2.2.1 (C.2.2.2.2.2.1 _ hw) (fun _ h => h) hd (k p l e R s m args below meth c locs lsA C hL L)
theorem er_form {idx : Nat} (pc' : Nat) (hd : decode M.2.1 pc = .ok (.getstatic idx, 3)) (hp : pc' = pc + 3) (hw : Cond.fieldLink M.1.cls idx "jdk/internal/util/Preconditions" "SIOOBE_FORMATTER" "Ljava/util/function/BiFunction;" ∈ WS) (k : ∀ w : Value, (w = .null ∨ ∃ t, w = .ref t) → ER M pc' ls (w :: st) q v Q) : ER M pc ls st q v Q := by
  subst hp
  intro p l e R s m args below meth c locs lsA C hL L
  rcases C.2.2.2.2.2.2.2.2.2.2.2 with hz | ⟨t, hz⟩
  · exact va_gets C.1 C.2.1 hz (er_vS hL) C.2.2.2.2.1 (C.2.2.2.2.2.1 _ hw) (fun _ h => h) hd (k .null (Or.inl rfl) p l e R s m args below meth c locs lsA C hL L)
  · exact va_gets C.1 C.2.1 hz (er_vS hL) C.2.2.2.2.1 (C.2.2.2.2.2.1 _ hw) (fun _ h => h) hd (k (.ref t) (Or.inr ⟨t, rfl⟩) p l e R s m args below meth c locs lsA C hL L)
theorem er_iconst {n : Int} (pc' : Nat) (hd : decode M.2.1 pc = .ok (.iconst n, 1)) (hp : pc' = pc + 1) (k : ER M pc' ls (.int (Int32.ofInt n) :: st) q v Q) : ER M pc ls st q v Q := by
  subst hp
  intro p l e R s m args below meth c locs lsA C hL L
  exact lv_iconst C.1 C.2.1 hd rfl (k p l e R s m args below meth c locs lsA C hL L)
theorem er_sipush {n : Int} (pc' : Nat) (hd : decode M.2.1 pc = .ok (.sipush n, 3)) (hp : pc' = pc + 3) (k : ER M pc' ls (.int (Int16.ofInt n).toInt32 :: st) q v Q) : ER M pc ls st q v Q := by
  subst hp
  intro p l e R s m args below meth c locs lsA C hL L
  exact lv_sipush C.1 C.2.1 hd rfl (k p l e R s m args below meth c locs lsA C hL L)
theorem er_iand {x y : Int32} (pc' : Nat) (hd : decode M.2.1 pc = .ok (.iand, 1)) (hp : pc' = pc + 1) (k : ER M pc' ls (.int (x &&& y) :: st) q v Q) : ER M pc ls (.int y :: .int x :: st) q v Q := by
  subst hp
  intro p l e R s m args below meth c locs lsA C hL L
  exact lv_iand C.1 C.2.1 hd (k p l e R s m args below meth c locs lsA C hL L)
theorem er_i2c {x y : Int32} (pc' : Nat) (hd : decode M.2.1 pc = .ok (.i2c, 1)) (hp : pc' = pc + 1) (hy : (x.toUInt32 % 65536).toInt32 = y) (k : ER M pc' ls (.int y :: st) q v Q) : ER M pc ls (.int x :: st) q v Q := by
  subst hp
  intro p l e R s m args below meth c locs lsA C hL L
  exact lv_i2c C.1 C.2.1 hd hy (k p l e R s m args below meth c locs lsA C hL L)
theorem er_ishr {x y : Int32} (pc' : Nat) (hd : decode M.2.1 pc = .ok (.ishr, 1)) (hp : pc' = pc + 1) (k : ER M pc' ls (.int (x >>> (y &&& 31)) :: st) q v Q) : ER M pc ls (.int y :: .int x :: st) q v Q := by
  subst hp
  intro p l e R s m args below meth c locs lsA C hL L
  exact lv_ishr C.1 C.2.1 hd (k p l e R s m args below meth c locs lsA C hL L)
theorem er_goto {off : Int} (tgt : Nat) (hd : decode M.2.1 pc = .ok (.goto off, 3)) (ht : (pc : Int) + off = (tgt : Int)) (k : ER M tgt ls st q v Q) : ER M pc ls st q v Q := by
  intro p l e R s m args below meth c locs lsA C hL L
  exact lv_goto C.1 C.2.1 hd ht (k p l e R s m args below meth c locs lsA C hL L)
theorem er_if_eq {x : Int32} {off : Int} (tgt pc' : Nat) (hd : decode M.2.1 pc = .ok (.ifCond .eq off, 3)) (ht : (pc : Int) + off = (tgt : Int)) (hp : pc' = pc + 3) (kt : x = 0 → ER M tgt ls st q v Q) (kf : ¬ x = 0 → ER M pc' ls st q v Q) : ER M pc ls (.int x :: st) q v Q := by
  subst hp
  intro p l e R s m args below meth c locs lsA C hL L
  exact lv_if_eq C.1 C.2.1 hd ht (fun z => kt z p l e R s m args below meth c locs lsA C hL L) (fun z => kf z p l e R s m args below meth c locs lsA C hL L)
theorem er_if_ne {x : Int32} {off : Int} (tgt pc' : Nat) (hd : decode M.2.1 pc = .ok (.ifCond .ne off, 3)) (ht : (pc : Int) + off = (tgt : Int)) (hp : pc' = pc + 3) (kt : ¬ x = 0 → ER M tgt ls st q v Q) (kf : x = 0 → ER M pc' ls st q v Q) : ER M pc ls (.int x :: st) q v Q := by
  subst hp
  intro p l e R s m args below meth c locs lsA C hL L
  exact lv_if_ne C.1 C.2.1 hd ht (fun z => kt z p l e R s m args below meth c locs lsA C hL L) (fun z => kf (by first | exact z | exact Classical.byContradiction z) p l e R s m args below meth c locs lsA C hL L)
theorem er_if_lt {x : Int32} {off : Int} (tgt pc' : Nat) (hd : decode M.2.1 pc = .ok (.ifCond .lt off, 3)) (ht : (pc : Int) + off = (tgt : Int)) (hp : pc' = pc + 3) (hx : ¬ x < 0) (kf : ER M pc' ls st q v Q) : ER M pc ls (.int x :: st) q v Q := by
  subst hp
  intro p l e R s m args below meth c locs lsA C hL L
  exact lv_if_lt C.1 C.2.1 hd ht (fun z => absurd z hx) (fun z => kf p l e R s m args below meth c locs lsA C hL L)
theorem er_icmp_lt {x y : Int32} {off : Int} (tgt : Nat) (hd : decode M.2.1 pc = .ok (.if_icmp .lt off, 3)) (ht : (pc : Int) + off = (tgt : Int)) (hx : x < y) (kt : ER M tgt ls st q v Q) : ER M pc ls (.int y :: .int x :: st) q v Q := by
  intro p l e R s m args below meth c locs lsA C hL L
  exact lv_icmp_lt C.1 C.2.1 hd ht (fun z => kt p l e R s m args below meth c locs lsA C hL L) (fun z => absurd hx z)
theorem er_pop {w : Value} (pc' : Nat) (hd : decode M.2.1 pc = .ok (.pop, 1)) (hp : pc' = pc + 1) (hw : w.category = 1) (k : ER M pc' ls st q v Q) : ER M pc ls (w :: st) q v Q := by
  subst hp
  intro p l e R s m args below meth c locs lsA C hL L
  exact lv_pop C.1 C.2.1 hd hw (k p l e R s m args below meth c locs lsA C hL L)
theorem er_ret {x : Int32} {ty : FieldType} (hd : decode M.2.1 pc = .ok (.ireturn, 1)) (hr : M.2.2.2.1 = some ty) (hn : narrow ty (.int x) = .int x) (hq : Q (some (.int x))) : ER M pc ls [.int x] q v Q := by
  intro p l e R s m args below meth c locs lsA C hL L
  exact W.zret C.1 C.2.1 (by rw [C.2.2.1, hr]) hn (fun t ht _ => ⟨_, rfl, hq, ht⟩) hL hd (hlocks := C.2.2.2.2.2.2.1)
theorem er_vret (hd : decode M.2.1 pc = .ok (.return_, 1)) (hr : M.2.2.2.1 = none) (hq : Q none) : ER M pc ls [] q v Q := by
  intro p l e R s m args below meth c locs lsA C hL L
  exact W.vret C.1 C.2.1 (by rw [C.2.2.1, hr]) (fun t ht _ => ⟨_, rfl, hq, ht⟩) hL hd (hlocks := C.2.2.2.2.2.2.1)
theorem er_pre {av : List Value} {sz : Nat} : FrameBlind (va_Pc av (fun U => U.heap.size = sz ∧ SGX q v (fun x => sz ≤ x) U U.heap)) := fun a U g mk z => by
  obtain ⟨q1, q2, q3⟩ := z
  exact ⟨q1, q2, SGX.moved (u := U) (U := U.calling g mk a) (Vm.Alike.refl U.vm) q3⟩
theorem er_end {p : Program} {l : Launch} {e : Env} {R : Room} {s : State} {m : MethodId} {args : Array Value} {below : List Frame} {meth : Method} {c : Code} {locs : List Loc} {lsA : Array Slot} {st0 rest : List Value} {a : Array Value} {Qc : Option Value → Prop} (C : CR p R s m args meth c M q v) (hL : ∀ x ∈ locs, s.heap.size ≤ x.base) (L : PRL M.2.2.1 lsA ls)
    (hr : va_Run p l e R s m args below meth c s.heap locs 0 0 0 0 (F0 m pc lsA st0) rest (PRQ Qc a) (fun x => s.heap.size ≤ x)) (k : ∀ w, Qc w → ER M (pc + 3) ls (w.toList ++ rest) q v Q) : W p l e R s m args below meth c s.heap locs 0 0 (MQ below (PRQ Q) args s 0 0 (fun x => s.heap.size ≤ x)) (F0 m pc lsA st0) := by
  intro T hT X
  obtain ⟨w, st₀, t, T', L', h0, X', hL', e1, e2, ⟨w', ho, hq, hh⟩, stp⟩ := hr T hT X
  have hv : w = w' := by cases ho; rfl
  subst hv
  obtain ⟨t2, a1, b1⟩ := k w hq p l e R s m args below meth c (locs ++ L') lsA C (fun x hx => by
    rcases List.mem_append.mp hx with h | h
    · exact hL x h
    · exact hL' x h) L T' (by rw [e1, hh, h0]) X'
  exact ⟨t2, stp t2 a1, b1⟩
theorem er_callV {idx n : Nat} {Qc : Option Value → Prop} (av : List Value) (pc' : Nat) (hd : decode M.2.1 pc = .ok (.invokevirtual idx, 3)) (hp : pc' = pc + 3) (hl : Cond.methodLink M.1.cls idx N.1 ∈ WS) (hN : NV N n) (hi : Cond.instanceMethod N.1 ∈ WS) (hs : Cond.selects N.1.cls N.1 N.1 ∈ WS) (hc : N.1.cls = "java/lang/String") (hn : av.length = n) (hfr : N.2.2.2.2.1 + 1 ≤ M.2.2.2.2.1) (hlc : 8 + (N.2.2.1 + 11) + N.2.2.2.2.2 ≤ M.2.2.2.2.2) (hw : (st.map fun w => w.category).sum ≤ 8) (hM : METR N (.ref q :: av) q v Qc) (k : ∀ w, Qc w → ER M pc' ls (w.toList ++ st) q v Q) : ER M pc ls (av.reverse ++ .ref q :: st) q v Q := by
  subst hp
  intro p l e R s m args below meth c locs lsA C hL L
  have cellB : ∃ cellB : Cell, s.heap[q]? = some cellB ∧ cellB.vm.isStatics = false ∧ s.vm.findClass N.1.cls = some cellB.cls := by rw [hc]; exact vk_recv (i := 0) C.2.2.2.2.2.2.2.2.2.1 (by omega) (er_vS hL)
  refine er_end C hL L (va_runV (As := av) (rest := st) ⟨C.1, C.2.1, C.2.2.2.1, C.2.2.2.2.1, C.2.2.2.2.2.1⟩ (hM l s.heap.size) (cwV n C.2.2.2.2.2.1 (hN.goodV hl hi hs) rfl rfl rfl ⟨rfl, hN.2.2⟩ ⟨by rw [C.2.2.2.2.2.2.2.1]; exact hfr, by rw [C.2.2.2.2.2.2.2.2.1]; exact hlc⟩) ⟨er_pre, cellB, fun U hU hW => ⟨rfl, by rw [hU], by rw [hU]; exact SGX.moved hW.alike C.2.2.2.2.2.2.2.2.2⟩⟩ rfl hn L.1 rfl (lv_room hw) hd ⟨Nat.zero_le _, Nat.zero_le _⟩) k
theorem er_callS {idx n : Nat} {Qc : Option Value → Prop} (av : List Value) (pc' : Nat) (hd : decode M.2.1 pc = .ok (.invokestatic idx, 3)) (hp : pc' = pc + 3) (hl : Cond.methodLink M.1.cls idx N.1 ∈ WS) (hN : NV N n) (hi : Cond.static N.1 ∈ WS) (hn : av.length = n) (hfr : N.2.2.2.2.1 + 1 ≤ M.2.2.2.2.1) (hlc : 8 + (N.2.2.1 + 11) + N.2.2.2.2.2 ≤ M.2.2.2.2.2) (hw : (st.map fun w => w.category).sum ≤ 8) (hM : METR N av q v Qc) (k : ∀ w, Qc w → ER M pc' ls (w.toList ++ st) q v Q) : ER M pc ls (av.reverse ++ st) q v Q := by
  subst hp
  intro p l e R s m args below meth c locs lsA C hL L
  refine er_end C hL L (va_runS (As := av) (rest := st) ⟨C.1, C.2.1, C.2.2.2.1, C.2.2.2.2.1, C.2.2.2.2.2.1⟩ (hM l s.heap.size) (va_cwS n C.2.2.2.2.2.1 (hN.goodS hl hi) rfl rfl rfl hN.2.2 ⟨by rw [C.2.2.2.2.2.2.2.1]; exact hfr, by rw [C.2.2.2.2.2.2.2.2.1]; exact hlc⟩) ⟨er_pre, fun U hU hW => ⟨rfl, by rw [hU], by rw [hU]; exact SGX.moved hW.alike C.2.2.2.2.2.2.2.2.2⟩⟩ rfl hn L.1 rfl (lv_room hw) hd ⟨Nat.zero_le _, Nat.zero_le _⟩) k
end ERR
