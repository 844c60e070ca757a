/-! THE PURE MACHINE. Values are integers (as they are before they wrap) or places of objects; the heap is a list of kinds and two functions; EX says that the machine, at this place of this method, comes to the method's end with an answer and a heap of which Q holds. -/
abbrev PV : Type := Int ⊕ (Int ⊕ Option Nat)
abbrev vi (x : Int) : PV := Sum.inl x
abbrev vl (x : Int) : PV := Sum.inr (Sum.inl x)
abbrev vq (r : Option Nat) : PV := Sum.inr (Sum.inr r)
abbrev vr (a : Nat) : PV := Sum.inr (Sum.inr (some a))
def px_tr (ad : Nat → Nat) (v : PV) : Value := match v with
  | .inl x => .int (Int32.ofInt x)
  | .inr (.inl x) => .long (Int64.ofInt x)
  | .inr (.inr r) => va_rf (r.map ad)
abbrev PH : Type := List (Nat × Nat) × (Nat → Nat → Int) × (Nat → Nat → Option Nat)
def px_ty (c k : Nat) : FieldType := match c with
  | 0 => tyX0 k
  | 1 => tyX1 k
  | 2 => tyX2 k
  | 3 => tyX3 k
  | 4 => tyX4 k
  | 5 => tyX5 k
  | 6 => tyX6 k
  | 7 => tyX7 k
  | 8 => tyX8 k
  | 9 => tyX9 k
  | _ => tyX10 k
def px_V (ty : FieldType) (ad : Nat → Nat) (x : Int) (r : Option Nat) : Value := match ty with
  | .long => .long (Int64.ofInt x)
  | .object _ => va_rf (r.map ad)
  | .array _ => va_rf (r.map ad)
  | _ => .int (Int32.ofInt x)
def px_tys (cy : Nat → ClassId) : List (ClassId × FieldType) := [(cy 0, .int), (cy 1, .object RX0), (cy 2, .object RX1), (cy 3, .array .int)]
def px_at (D : va_G) (cy : Nat → ClassId) (ad : Nat → Nat) (h : PH) (H : Heap) (i : Nat) : Prop := match h.1[i]? with
  | none => True
  | some (t, n) => if t < 11 then ∃ q : vw_C, vwCl[t]? = some q ∧ t_OB (ad i) (D.1 t) q.2.2 (D.2 t) H (fun k => px_V (px_ty t k) ad (h.2.1 i k) (h.2.2 i k))
    else if t = 20 then H[ad i]? = some (arrV (cy 0) n (fun j => .int (Int32.ofInt (h.2.1 i j))))
    else H[ad i]? = some (arrV (cy (t - 20)) n (fun j => va_rf ((h.2.2 i j).map ad)))
def SIM (D : va_G) (cy : Nat → ClassId) (ad : Nat → Nat) (h : PH) (H : Heap) : Prop := ∀ i, px_at D cy ad h H i
def ADJ (A : Nat → Prop) (ad : Nat → Nat) (n : Nat) : Prop := (∀ i j, i < n → j < n → ad i = ad j → i = j) ∧ ∀ i, i < n → A (ad i)
def px_A (ad : Nat → Nat) (n sz : Nat) : Nat → Prop := fun q => (∃ i, i < n ∧ q = ad i) ∨ sz ≤ q
/-! what holds outside the world: the String constant of Names, two statics, nest mates, arrays' classes -/
def tx40 : String := "abcdafghigclmmabcrsdaffsis"
def by40 : List Int32 := [97, 98, 99, 100, 97, 102, 103, 104, 105, 103, 99, 108, 109, 109, 97, 98, 99, 114, 115, 100, 97, 102, 102, 115, 105, 115]
def STX (A : Nat → Prop) (U : State) (H : Heap) : Prop := ∃ q v : Nat, vk_R "LifeLinks$Names" 40 tx40 q U ∧ vk_S 1 [26] [by40] (fun _ => q) (fun _ => v) A U H
def nestL : List (String × Nat × MethodName) := [(RX9, 9, yX5_init), (RX9, 18, yX7_init), (RX9, 25, yX4_init), (RX9, 39, yX6_init), (RX9, 46, yX3_init), (RX2, 24, yX1_init), (RX7, 73, yX9_mayHaveAge), (RX7, 69, yX9_leastAge)]
def aoa (U : State) : Prop := (Cond.arrayOver (.array .int)).before #[] U = true
theorem aoa.moved {u U : State} (hvm : u.vm.Alike U.vm) (h : aoa u) : aoa U := by
  obtain ⟨comp, c, k, h1, h2, h3, h4, h5⟩ := arrayOverA_spec h
  obtain ⟨k', hk', he⟩ := hvm.2.2 _ _ h3
  have hi : (U.vm.classes.findIdx? fun (x : Class) => match x.kind with | .array component _ => component == comp | _ => false) = some c := by
    have e1 := va_idx_bare U.vm comp
    have e2 := va_idx_bare u.vm comp
    have e3 : U.vm.bare = u.vm.bare := by first | exact hvm.bare_eq | exact hvm.bare_eq.symm
    rw [e3] at e1
    exact (e1.symm.trans e2).trans h2
  have hkind : k'.kind = .array comp (.array .int) := by rw [he]; exact h4
  have f1 : U.vm.findClass (FieldType.array .int).toString = some comp := by rw [hvm.findClass]; exact h1
  have f2 : U.vm.findClass ("[" ++ (FieldType.array .int).toString) = some c := by rw [hvm.findClass]; exact h5
  unfold aoa Cond.before Cond.holds
  simp only [Cond.value]
  rw [f1, Option.bind_some]
  refine (congrArg (fun o : Option Nat => (o.bind (fun c => (U.vm.classes[c]?).map fun (k : Class) => match k.kind with | .array _ ty => decide (ty = FieldType.array .int) && decide (U.vm.findClass ("[" ++ (FieldType.array .int).toString) = some c) | _ => false) == some true)) hi).trans ?_
  simp [hk', hkind, f2]
def GX (A : Nat → Prop) (U : State) (H : Heap) : Prop := STX A U H ∧ va_Z "java/lang/String" "COMPACT_STRINGS" "Z" (.int 1) A U H ∧ va_Zq "jdk/internal/util/Preconditions" "SIOOBE_FORMATTER" "Ljava/util/function/BiFunction;" A U H ∧ va_AO RX0 U ∧ va_AO RX1 U ∧ aoa U ∧ ∀ w ∈ nestL, va_Nw (.methodLinkNest w.1 w.2.1 w.2.2 RX9) U
theorem GX.kept {A : Nat → Prop} {U : State} {H H1 : Heap} (h : GX A U H) (hq : ∀ a : Nat, a < H.size → ¬ A a → H1[a]? = H[a]?) : GX A U H1 := by
  obtain ⟨⟨q, v, h1, h2⟩, h3, h4, h5⟩ := h
  exact ⟨⟨q, v, h1, h2.kept hq⟩, h3.kept hq, h4.kept hq, h5⟩
theorem GX.narrow {A B : Nat → Prop} {U : State} {H : Heap} (h : GX A U H) (hAB : ∀ q, B q → A q) : GX B U H := by
  obtain ⟨⟨q, v, h1, h2⟩, h3, h4, h5⟩ := h
  exact ⟨⟨q, v, h1, h2.narrow hAB⟩, h3.narrow hAB, h4.narrow hAB, h5⟩
theorem GX.warm {A : Nat → Prop} {s U : State} {H : Heap} (hW : s.WarmedH U.vm) (h : GX A s H) : GX A U H := by
  obtain ⟨⟨q, v, h1, h2⟩, h3, h4, h5, h6, h7, h8⟩ := h
  exact ⟨⟨q, v, h1.warm hW, vk_S.moved hW.alike h2⟩, va_Z.moved hW.alike h3, va_Zq.moved hW.alike h4, va_AO.moved hW.alike h5, va_AO.moved hW.alike h6, h7.moved hW.alike, fun w hw => va_Nw.warmM hW (h8 w hw)⟩
theorem GX.same {A : Nat → Prop} {u U : State} {H : Heap} (hv : U.vm = u.vm) (h : GX A u H) : GX A U H := by
  obtain ⟨⟨q, v, h1, h2⟩, h3, h4, h5, h6, h7, h8⟩ := h
  have al : u.vm.Alike U.vm := by rw [hv]; exact Vm.Alike.refl u.vm
  exact ⟨⟨q, v, h1.same hv, vk_S.moved al h2⟩, va_Z.moved al h3, va_Zq.moved al h4, va_AO.moved al h5, va_AO.moved al h6, h7.moved al, fun w hw => va_Nw.same rfl hv.symm (h8 w hw)⟩
abbrev MD : Type := MethodName × ByteArray × Nat × Option FieldType × Nat × Nat
def CX (p : Program) (R : Room) (s : State) (m : MethodId) (args : Array Value) (meth : Method) (c : Code) (M : MD) (D : va_G) (cy : Nat → ClassId) (A : Nat → Prop) : Prop :=
  p.tables.exec = Jvm.exec ∧ c.code = M.2.1 ∧ meth.sig.returnType = M.2.2.2.1 ∧ c.maxLocals = M.2.2.1 ∧ s.vm.findClass M.1.cls = some m.cls ∧ (∀ w ∈ WS, w.before args s = true) ∧ meth.locks = false ∧ va_K D vwCl (px_tys cy) s ∧ R.frames = M.2.2.2.2.1 ∧ R.locals = M.2.2.2.2.2 ∧ meth.name = M.1.name ∧ GX A s s.heap
def PL (ad : Nat → Nat) (nL : Nat) (lsA : Array Slot) (ls : List (Option PV)) : Prop := lsA.size = nL ∧ lv_wf lsA ∧ ∀ (i : Nat) (v : PV), ls[i]? = some (some v) → lsA[i]? = some (.val (px_tr ad v))
def SX (D : va_G) (cy : Nat → ClassId) (ad : Nat → Nat) (h : PH) (s : State) (A : Nat → Prop) (H : Heap) (locs : List Loc) (R : Room) (T0 : List (Nat × Nat)) (cells slots : Nat) (B : Nat × Nat) : Prop :=
  SIM D cy ad h H ∧ ADJ A ad h.1.length ∧ va_S A s.heap H locs ∧ (∀ q, s.heap.size ≤ q → A q) ∧ cells + B.1 = R.cells ∧ slots + B.2 = R.slots ∧ H.size = s.heap.size + cells ∧ (∃ r, h.1 = T0 ++ r ∧ r.length = cells) ∧ ∀ j, j < B.1 → ad (h.1.length + j) = H.size + j
def PQ (D : va_G) (cy : Nat → ClassId) (ad : Nat → Nat) (T0 : List (Nat × Nat)) (A : Nat → Prop) (mc : Nat) (Q : Option PV → PH → Prop) : Array Value → State → Outcome → State → Prop := fun _ st o t =>
  (∃ (v : Option PV) (h : PH), o = .returned (v.map (px_tr ad)) ∧ Q v h ∧ SIM D cy ad h t.heap ∧ ADJ A ad h.1.length ∧ va_K D vwCl (px_tys cy) t ∧ t.heap.size = st.heap.size + mc ∧ ∃ r, h.1 = T0 ++ r ∧ r.length = mc) ∧ va_F A st t
def EX (M : MD) (pc : Nat) (ls : List (Option PV)) (st : List PV) (h : PH) (B : Nat × Nat) (Q : Option PV → PH → Prop) : Prop :=
  ∀ (p : Program) (l : Launch) (e : Env) (R : Room) (s : State) (m : MethodId) (args : Array Value) (below : List Frame) (meth : Method) (c : Code) (D : va_G) (cy : Nat → ClassId) (ad : Nat → Nat) (T0 : List (Nat × Nat)) (A : Nat → Prop) (H : Heap) (locs : List Loc) (cells slots : Nat) (lsA : Array Slot),
    CX p R s m args meth c M D cy A → SX D cy ad h s A H locs R T0 cells slots B → PL ad M.2.2.1 lsA ls →
    W p l e R s m args below meth c H locs cells slots (MQ below (PQ D cy ad T0 A R.cells Q) args s R.cells R.slots A) (F0 m pc lsA (st.map (px_tr ad)))
def MET (M : MD) (av : List PV) (h : PH) (B : Nat × Nat) (Q : Option PV → PH → Prop) : Prop :=
  ∀ (l : Launch) (D : va_G) (cy : Nat → ClassId) (ad : Nat → Nat) (sz : Nat), Met l M.1 (.code M.1 M.2.1 M.2.2.1 M.2.2.2.1 :: WS) ({ frames := M.2.2.2.2.1, cells := B.1, slots := B.2, locals := M.2.2.2.2.2 } : Room)
    (va_Pc (av.map (px_tr ad)) (fun U => U.heap.size = sz ∧ SIM D cy ad h U.heap ∧ va_K D vwCl (px_tys cy) U ∧ GX (px_A ad h.1.length sz) U U.heap ∧ ADJ (fun _ => True) ad h.1.length ∧ ∀ j, j < B.1 → ad (h.1.length + j) = sz + j))
    (PQ D cy ad h.1 (px_A ad h.1.length sz) B.1 Q) B.1 B.2 (px_A ad h.1.length sz)
abbrev METi (M : MD) (av : List PV) (h : PH) (P : Int → PH → Prop) : Prop := MET M av h (0, 0) (fun v h1 => ∃ x, v = some (vi x) ∧ P x h1)
abbrev METl (M : MD) (av : List PV) (h : PH) (P : Int → PH → Prop) : Prop := MET M av h (0, 0) (fun v h1 => ∃ x, v = some (vl x) ∧ P x h1)
abbrev METv (M : MD) (av : List PV) (h : PH) (B : Nat × Nat) (P : PH → Prop) : Prop := MET M av h B (fun v h1 => v = none ∧ P h1)
abbrev EXi (M : MD) (pc : Nat) (ls : List (Option PV)) (st : List PV) (h : PH) (P : Int → PH → Prop) : Prop := EX M pc ls st h (0, 0) (fun v h1 => ∃ x, v = some (vi x) ∧ P x h1)
abbrev EXl (M : MD) (pc : Nat) (ls : List (Option PV)) (st : List PV) (h : PH) (P : Int → PH → Prop) : Prop := EX M pc ls st h (0, 0) (fun v h1 => ∃ x, v = some (vl x) ∧ P x h1)
abbrev EXv (M : MD) (pc : Nat) (ls : List (Option PV)) (st : List PV) (h : PH) (B : Nat × Nat) (P : PH → Prop) : Prop := EX M pc ls st h B (fun v h1 => v = none ∧ P h1)
/-! the pure heap's changes -/
def px_upI (h : PH) (i k : Nat) (x : Int) : PH := (h.1, fun a j => if a = i ∧ j = k then x else h.2.1 a j, h.2.2)
def px_upR (h : PH) (i k : Nat) (r : Option Nat) : PH := (h.1, h.2.1, fun a j => if a = i ∧ j = k then r else h.2.2 a j)
def px_new (h : PH) (t n : Nat) : PH := (h.1 ++ [(t, n)], fun a j => if a = h.1.length then 0 else h.2.1 a j, fun a j => if a = h.1.length then none else h.2.2 a j)
def rng (x : Int) : Prop := -2147483648 ≤ x ∧ x ≤ 2147483647
def OB (h : PH) (c i : Nat) : Prop := ∃ n : Nat, h.1[i]? = some (c, n)
def AI (h : PH) (t i : Nat) (k : Int) : Prop := ∃ n : Nat, h.1[i]? = some (t, n) ∧ 0 ≤ k ∧ k < (n : Int) ∧ k ≤ 2147483647
/-! numbers -/
theorem rng_lo {x : Int} (h : rng x) : Int32.minValue.toInt ≤ x := h.1
theorem rng_hi {x : Int} (h : rng x) : x ≤ Int32.maxValue.toInt := h.2
theorem rng_to {x : Int} (h : rng x) : (Int32.ofInt x).toInt = x := Int32.toInt_ofInt_of_le (by have := h.1; omega) (by have := h.2; omega)
theorem rng_lt {x y : Int} (hx : rng x) (hy : rng y) : Int32.ofInt x < Int32.ofInt y ↔ x < y := by rw [Int32.lt_iff_toInt_lt, rng_to hx, rng_to hy]
theorem rng_le {x y : Int} (hx : rng x) (hy : rng y) : Int32.ofInt x ≤ Int32.ofInt y ↔ x ≤ y := by rw [Int32.le_iff_toInt_le, rng_to hx, rng_to hy]
theorem rng_eq {x y : Int} (hx : rng x) (hy : rng y) : Int32.ofInt x = Int32.ofInt y ↔ x = y := by rw [← Int32.toInt_inj, rng_to hx, rng_to hy]
theorem rng_0 : rng 0 := ⟨by decide, by decide⟩
theorem rng_of (x : Int32) : rng x.toInt := ⟨by have := Int32.le_toInt x; omega, by have := Int32.toInt_lt x; omega⟩
theorem rng_in {k : Int} {n : Nat} (h0 : 0 ≤ k) (h1 : k < (n : Int)) (h2 : k ≤ 2147483647) : vp_in (Int32.ofInt k) n := by
  have hr : rng k := ⟨by omega, h2⟩
  exact vp_in_iff.mpr (by rw [rng_to hr]; exact ⟨h0, h1⟩)
theorem rng_cl {k : Int} (h0 : 0 ≤ k) (h2 : k ≤ 2147483647) : (Int32.ofInt k).toNatClampNeg = k.toNat := by
  rw [Int32.toNatClampNeg_ofInt_of_le (by omega) (by omega)]
/-! the real heap as the pure one says -/
section PX
variable {D : va_G} {cy : Nat → ClassId} {ad : Nat → Nat} {h : PH} {H H1 : Heap}
theorem px_obj {i t n : Nat} (hS : SIM D cy ad h H) (hT : h.1[i]? = some (t, n)) (ht : t < 11) : ∃ q : vw_C, vwCl[t]? = some q ∧ t_OB (ad i) (D.1 t) q.2.2 (D.2 t) H (fun k => px_V (px_ty t k) ad (h.2.1 i k) (h.2.2 i k)) := by
  have h1 := hS i
  unfold px_at at h1
  rw [hT] at h1
  simpa [ht] using h1
theorem px_arI {i n : Nat} (hS : SIM D cy ad h H) (hT : h.1[i]? = some (20, n)) : H[ad i]? = some (arrV (cy 0) n (fun j => .int (Int32.ofInt (h.2.1 i j)))) := by
  have h1 := hS i
  unfold px_at at h1
  rw [hT] at h1
  simpa using h1
theorem px_arR {i t n : Nat} (hS : SIM D cy ad h H) (hT : h.1[i]? = some (t, n)) (ht : 21 ≤ t) : H[ad i]? = some (arrV (cy (t - 20)) n (fun j => va_rf ((h.2.2 i j).map ad))) := by
  have h1 := hS i
  unfold px_at at h1
  rw [hT] at h1
  have a : ¬ t < 11 := by omega
  have b : ¬ t = 20 := by omega
  simpa [a, b] using h1
theorem px_len {i t n : Nat} (hT : h.1[i]? = some (t, n)) : i < h.1.length := (List.getElem?_eq_some_iff.mp hT).1
theorem px_lt {i : Nat} (hS : SIM D cy ad h H) (hi : i < h.1.length) : ad i < H.size := by
  have h1 := hS i
  unfold px_at at h1
  have hT : h.1[i]? = some h.1[i] := List.getElem?_eq_getElem hi
  rw [hT] at h1
  revert h1
  generalize h.1[i] = q
  obtain ⟨t, n⟩ := q
  intro h1
  dsimp only at h1
  split at h1
  · obtain ⟨q, -, cell, h2, -⟩ := h1
    exact (Array.getElem?_eq_some_iff.mp h2).1
  · split at h1
    · exact (Array.getElem?_eq_some_iff.mp h1).1
    · exact (Array.getElem?_eq_some_iff.mp h1).1
theorem px_kept {i : Nat} {h' : PH} (hp : px_at D cy ad h H i) (h1 : h'.1[i]? = h.1[i]?) (h2 : ∀ k, h'.2.1 i k = h.2.1 i k) (h3 : ∀ k, h'.2.2 i k = h.2.2 i k) (hq : i < h.1.length → H1[ad i]? = H[ad i]?) : px_at D cy ad h' H1 i := by
  unfold px_at at hp ⊢
  rw [h1]
  revert hp
  cases hT : h.1[i]? with
  | none => intro _; trivial
  | some q =>
    obtain ⟨t, n⟩ := q
    have hq := hq (px_len hT)
    intro hp
    dsimp only at hp ⊢
    split at hp
    next ht =>
      rw [if_pos ht]
      obtain ⟨q, e1, e2⟩ := hp
      refine ⟨q, e1, (e2.kept hq).to (fun k _ => ?_)⟩
      rw [h2, h3]
    next ht =>
      rw [if_neg ht]
      split at hp
      next h20 =>
        rw [if_pos h20, hq, hp]
        simp only [h2]
      next h20 =>
        rw [if_neg h20, hq, hp]
        simp only [h3]
theorem SIM.keep (hS : SIM D cy ad h H) (hq : ∀ i, i < h.1.length → H1[ad i]? = H[ad i]?) : SIM D cy ad h H1 := fun i => px_kept (hS i) rfl (fun _ => rfl) (fun _ => rfl) (hq i)
theorem ADJ.ne {A : Nat → Prop} {n i j : Nat} (hA : ADJ A ad n) (hi : i < n) (hj : j < n) (hne : j ≠ i) : ad j ≠ ad i := fun e => hne (hA.1 j i hj hi e)
/-- a field's new value -/
theorem SIM.setO {A : Nat → Prop} {h' : PH} {i t n k : Nat} {q : vw_C} {v : Value} (hS : SIM D cy ad h H) (hJ : ADJ A ad h.1.length) (hT : h.1[i]? = some (t, n)) (ht : t < 11) (hc : vwCl[t]? = some q) (hk : k < q.2.2)
    (hob : t_OB (ad i) (D.1 t) q.2.2 (D.2 t) H1 (updV (fun k => px_V (px_ty t k) ad (h.2.1 i k) (h.2.2 i k)) k v)) (oq : ∀ x : Nat, x ≠ ad i → H1[x]? = H[x]?)
    (e1 : h'.1 = h.1) (eo : ∀ a, a ≠ i → ∀ j, h'.2.1 a j = h.2.1 a j ∧ h'.2.2 a j = h.2.2 a j) (en : ∀ j, j ≠ k → h'.2.1 i j = h.2.1 i j ∧ h'.2.2 i j = h.2.2 i j) (ev : px_V (px_ty t k) ad (h'.2.1 i k) (h'.2.2 i k) = v) : SIM D cy ad h' H1 := by
  intro a
  by_cases ha : a = i
  · subst ha
    unfold px_at
    rw [e1, hT]
    dsimp only
    rw [if_pos ht]
    refine ⟨q, hc, hob.to (fun j _ => ?_)⟩
    by_cases hj : j = k
    · subst hj
      simp [updV, ev]
    · simp [updV, hj, (en j hj).1, (en j hj).2]
  · exact px_kept (hS a) (by rw [e1]) (fun j => (eo a ha j).1) (fun j => (eo a ha j).2) (fun hl => oq _ (hJ.ne (px_len hT) hl ha))
theorem SIM.setA {A : Nat → Prop} {h' : PH} {i : Nat} (hS : SIM D cy ad h H) (hJ : ADJ A ad h.1.length) (hi : i < h.1.length) (hn : px_at D cy ad h' H1 i) (oq : ∀ x : Nat, x ≠ ad i → H1[x]? = H[x]?)
    (e1 : h'.1 = h.1) (eo : ∀ a, a ≠ i → ∀ j, h'.2.1 a j = h.2.1 a j ∧ h'.2.2 a j = h.2.2 a j) : SIM D cy ad h' H1 := by
  intro a
  by_cases ha : a = i
  · subst ha; exact hn
  · exact px_kept (hS a) (by rw [e1]) (fun j => (eo a ha j).1) (fun j => (eo a ha j).2) (fun hl => oq _ (hJ.ne hi hl ha))
end PX
/-! locals -/
def px_cat (v : PV) : Nat := match v with
  | .inl _ => 1
  | .inr (.inl _) => 2
  | .inr (.inr _) => 1
theorem px_cat_eq (ad : Nat → Nat) (v : PV) : (px_tr ad v).category = px_cat v := by
  rcases v with x | x | r
  · rfl
  · rfl
  · cases r <;> rfl
def px_sum (st : List PV) : Nat := match st with
  | [] => 0
  | v :: st => px_cat v + px_sum st
theorem px_sum_eq (ad : Nat → Nat) (st : List PV) : ((st.map (px_tr ad)).map fun v => v.category).sum = px_sum st := by
  induction st with
  | nil => rfl
  | cons v st ih =>
    simp only [List.map_cons, List.sum_cons, px_cat_eq, px_sum]
    rw [← ih]
def px_ok (ls : List (Option PV)) (i : Nat) : Bool := match i with
  | 0 => true
  | j + 1 => match ls[j]? with
    | some (some (.inr (.inl _))) => false
    | _ => true
theorem px_ok_spec {ls : List (Option PV)} {i j : Nat} {v : PV} (h : px_ok ls i = true) (hj : j + 1 = i) (hv : ls[j]? = some (some v)) : ¬ px_cat v = 2 := by
  subst hj
  have h' : (match ls[j]? with
    | some (some (.inr (.inl _))) => false
    | _ => true) = true := h
  rw [hv] at h'
  rcases v with x | x | r
  · simp [px_cat]
  · simp at h'
  · simp [px_cat]
def px_lv (ad : Nat → Nat) (ls : List (Option PV)) : List (Nat × Value) := (List.range ls.length).filterMap fun j => match ls[j]? with
  | some (some v) => some (j, px_tr ad v)
  | _ => none
theorem px_lv_mem {ad : Nat → Nat} {ls : List (Option PV)} {j : Nat} {v : PV} (h : ls[j]? = some (some v)) : (j, px_tr ad v) ∈ px_lv ad ls := by
  refine List.mem_filterMap.mpr ⟨j, List.mem_range.mpr (List.getElem?_eq_some_iff.mp h).1, ?_⟩
  rw [h]
theorem PL.has {ad : Nat → Nat} {nL : Nat} {lsA : Array Slot} {ls : List (Option PV)} (h : PL ad nL lsA ls) : lv_has lsA nL (px_lv ad ls) := by
  refine ⟨h.1, h.2.1, fun q hq => ?_⟩
  obtain ⟨j, -, hj⟩ := List.mem_filterMap.mp hq
  revert hj
  cases hl : ls[j]? with
  | none => intro hj; cases hj
  | some x => cases x with
    | none => intro hj; cases hj
    | some v =>
      intro hj
      cases hj
      exact h.2.2 j v hl
theorem PL.set1 {ad : Nat → Nat} {nL i : Nat} {lsA : Array Slot} {ls : List (Option PV)} {v : PV} (hk : px_ok ls i = true) (h : lv_has lsA nL ((i, px_tr ad v) :: (px_lv ad ls).filter (fun q => !(q.1 == i) && !(q.1 + 1 == i && q.2.category == 2)))) : PL ad nL lsA (ls.set i (some v)) := by
  refine ⟨h.1, h.2.1, fun j u hj => ?_⟩
  by_cases e : j = i
  · subst e
    have hl : j < ls.length := by
      have := (List.getElem?_eq_some_iff.mp hj).1
      simpa using this
    rw [List.getElem?_set_self hl] at hj
    cases hj
    exact h.2.2 (j, _) List.mem_cons_self
  · rw [List.getElem?_set_ne (Ne.symm e)] at hj
    refine h.2.2 (j, _) (List.mem_cons_of_mem _ (List.mem_filter.mpr ⟨px_lv_mem hj, ?_⟩))
    have h2 : ¬ (j + 1 = i ∧ (px_tr ad u).category = 2) := fun z => px_ok_spec hk z.1 hj (by rw [← px_cat_eq ad]; exact z.2)
    simp only [Bool.and_eq_true, Bool.not_eq_true', beq_eq_false_iff_ne, ne_eq, e, not_false_eq_true, true_and, Bool.and_eq_false_iff]
    by_cases e2 : j + 1 = i
    · exact Or.inr (fun z => h2 ⟨e2, z⟩)
    · exact Or.inl e2
theorem PL.set2 {ad : Nat → Nat} {nL i : Nat} {lsA : Array Slot} {ls : List (Option PV)} {v : PV} (hk : px_ok ls i = true) (h : lv_has lsA nL ((i, px_tr ad v) :: (px_lv ad ls).filter (fun q => !(q.1 == i) && (!(q.1 == i + 1) && !(q.1 + 1 == i && q.2.category == 2))))) : PL ad nL lsA ((ls.set i (some v)).set (i + 1) none) := by
  refine ⟨h.1, h.2.1, fun j u hj => ?_⟩
  have e1 : j ≠ i + 1 := by
    intro e
    subst e
    by_cases hl : i + 1 < (ls.set i (some v)).length
    · rw [List.getElem?_set_self hl] at hj; cases hj
    · rw [List.getElem?_eq_none (by simpa using hl)] at hj; cases hj
  rw [List.getElem?_set_ne (Ne.symm e1)] at hj
  by_cases e : j = i
  · subst e
    have hl : j < ls.length := by
      have := (List.getElem?_eq_some_iff.mp hj).1
      simpa using this
    rw [List.getElem?_set_self hl] at hj
    cases hj
    exact h.2.2 (j, _) List.mem_cons_self
  · rw [List.getElem?_set_ne (Ne.symm e)] at hj
    refine h.2.2 (j, _) (List.mem_cons_of_mem _ (List.mem_filter.mpr ⟨px_lv_mem hj, ?_⟩))
    have h2 : ¬ (j + 1 = i ∧ (px_tr ad u).category = 2) := fun z => px_ok_spec hk z.1 hj (by rw [← px_cat_eq ad]; exact z.2)
    simp only [Bool.and_eq_true, Bool.not_eq_true', beq_eq_false_iff_ne, ne_eq, e, e1, not_false_eq_true, true_and, Bool.and_eq_false_iff]
    by_cases e2 : j + 1 = i
    · exact Or.inr (fun z => h2 ⟨e2, z⟩)
    · exact Or.inl e2
def px_in (av : List PV) : List (Option PV) := match av with
  | [] => []
  | v :: av => if px_cat v = 2 then some v :: none :: px_in av else some v :: px_in av
def plocs (av : List PV) (n : Nat) : List (Option PV) := px_in av ++ List.replicate (n - (px_in av).length) none
theorem px_in_args (ad : Nat → Nat) (av : List PV) : ∀ (off i : Nat) (v : PV), (px_in av)[i]? = some (some v) → (off + i, px_tr ad v) ∈ lv_args off (av.map (px_tr ad)) := by
  induction av with
  | nil => intro off i v h; simp [px_in] at h
  | cons u av ih =>
    intro off i v h
    unfold px_in at h
    simp only [List.map_cons, lv_args, px_cat_eq]
    by_cases hc : px_cat u = 2
    · rw [if_pos hc] at h ⊢
      match i, h with
      | 0, h => simp at h; subst h; exact List.mem_cons_self
      | 1, h => simp at h
      | i + 2, h =>
        have h' : (px_in av)[i]? = some (some v) := by simpa using h
        have := ih (off + 2) i v h'
        rw [show off + (i + 2) = off + 2 + i by omega]
        exact List.mem_cons_of_mem _ this
    · rw [if_neg hc] at h ⊢
      match i, h with
      | 0, h => simp at h; subst h; exact List.mem_cons_self
      | i + 1, h =>
        have h' : (px_in av)[i]? = some (some v) := by simpa using h
        have := ih (off + 1) i v h'
        rw [show off + (i + 1) = off + 1 + i by omega]
        exact List.mem_cons_of_mem _ this
theorem px_in_len (ad : Nat → Nat) (av : List PV) : (lg_sl (av.map (px_tr ad))).length = (px_in av).length := by
  induction av with
  | nil => rfl
  | cons v av ih =>
    have e : lg_sl ((v :: av).map (px_tr ad)) = (if (px_tr ad v).category = 2 then [Slot.val (px_tr ad v), .second] else [.val (px_tr ad v)]) ++ lg_sl (av.map (px_tr ad)) := rfl
    rw [e, px_cat_eq]
    unfold px_in
    by_cases hc : px_cat v = 2
    · rw [if_pos hc, if_pos hc]; simp [ih]
    · rw [if_neg hc, if_neg hc]; simp [ih]
/-! a method by its body, a body's end -/
theorem met_of_ex {M : MD} {av : List PV} {h : PH} {B : Nat × Nat} {Q : Option PV → PH → Prop} (hy : plainName M.1.cls = true) (hl : (px_in av).length ≤ M.2.2.1) (hE : EX M 0 (plocs av M.2.2.1) [] h B Q) : MET M av h B Q := by
  intro l D cy ad sz
  refine Met.ofW (cc := M.2.1) (maxL := M.2.2.1) (ret := M.2.2.2.1) (ws' := WS) hy rfl ?_
  intro p e s m args below meth c s₁ B0 hml hv
  obtain ⟨rfl, hsz, hS, hK, hG, hJ, had⟩ := hv
  have hts := atoms_spec (ws := .code M.1 M.2.1 M.2.2.1 M.2.2.2.1 :: WS) B0.pre
  have hown : s.vm.findClass M.1.cls = some m.cls := findClass_of_methodNamed B0.named
  have hn := (name_of_methodNamed B0.named B0.method).1
  subst hsz
  have hle := lv_entry (av.map (px_tr ad)) (n := M.2.2.1) (by rw [px_in_len]; exact hl)
  rw [lg_entry_eq]
  revert hle
  generalize (lg_sl (av.map (px_tr ad)) ++ List.replicate (M.2.2.1 - (lg_sl (av.map (px_tr ad))).length) Slot.unset).toArray = lsA
  intro hle
  refine hE p l e _ s m _ below meth c D cy ad h.1 (px_A ad h.1.length s.heap.size) s.heap [] 0 0 lsA ⟨B0.exec, B0.bytes, B0.returns, hml, hown, fun w hw => hts w (List.mem_cons_of_mem _ hw), B0.notSynchronized, hK, rfl, rfl, hn, hG⟩
    ⟨hS, ⟨hJ.1, fun i hi => Or.inl ⟨i, hi, rfl⟩⟩, va_S.rf, fun q hq => Or.inr hq, Nat.zero_add _, Nat.zero_add _, rfl, ⟨[], by simp, rfl⟩, had⟩ ⟨hle.1, hle.2.1, fun i v hv => ?_⟩
  by_cases hi : i < (px_in av).length
  · unfold plocs at hv
    rw [List.getElem?_append_left hi] at hv
    have := hle.2.2 _ (px_in_args ad av 0 i v hv)
    simpa using this
  · unfold plocs at hv
    rw [List.getElem?_append_right (by omega)] at hv
    have := List.eq_of_mem_replicate (List.mem_of_getElem? hv)
    cases this
theorem MET.mono {M : MD} {av : List PV} {h : PH} {B : Nat × Nat} {Q Q' : Option PV → PH → Prop} (hM : MET M av h B Q) (hq : ∀ v h1, Q v h1 → Q' v h1) : MET M av h B Q' := by
  intro l D cy ad sz p e ha hc hk s m args below hf hfit hh hP
  obtain ⟨n, o, a0, a1, a2, ⟨⟨⟨v, h1, e1, e2, e3⟩, e4⟩, e5⟩⟩ := hM l D cy ad sz p e ha hc hk s m args below hf hfit hh hP
  exact ⟨n, o, a0, a1, a2, ⟨⟨v, h1, e1, hq v h1 e2, e3⟩, e4⟩, e5⟩
theorem EX.mono {M : MD} {pc : Nat} {ls : List (Option PV)} {st : List PV} {h : PH} {B : Nat × Nat} {Q Q' : Option PV → PH → Prop} (hM : EX M pc ls st h B Q) (hq : ∀ v h1, Q v h1 → Q' v h1) : EX M pc ls st h B Q' := by
  intro p l e R s m args below meth c D cy ad T0 A H locs cells slots lsA C S L T hT X
  obtain ⟨t, a1, o, b1, b2, ⟨⟨v, h1, e1, e2, e3⟩, e4⟩, e5⟩ := hM p l e R s m args below meth c D cy ad T0 A H locs cells slots lsA C S L T hT X
  exact ⟨t, a1, o, b1, b2, ⟨⟨v, h1, e1, hq v h1 e2, e3⟩, e4⟩, e5⟩
/-- a method that makes nothing leaves every kind as it was -/
theorem MET.kinds {M : MD} {av : List PV} {h : PH} {b : Nat} {Q : Option PV → PH → Prop} (hM : MET M av h (0, b) Q) : MET M av h (0, b) (fun v h1 => h1.1 = h.1 ∧ Q v h1) := by
  intro l D cy ad sz p e ha hc hk s m args below hf hfit hh hP
  obtain ⟨n, o, a0, a1, a2, ⟨⟨⟨v, h1, e1, e2, e3, e4, e5, e6, r, e7, e8⟩, e9⟩, e10⟩⟩ := hM l D cy ad sz p e ha hc hk s m args below hf hfit hh hP
  have hr : r = [] := List.length_eq_zero_iff.mp e8
  exact ⟨n, o, a0, a1, a2, ⟨⟨v, h1, e1, ⟨by rw [e7, hr, List.append_nil], e2⟩, e3, e4, e5, e6, r, e7, e8⟩, e9⟩, e10⟩
