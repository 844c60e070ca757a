/-! THE LAW: two worlds, side by side, behind all that was there before -/
def R_law : String := "LifeLinksLaw"
def lw_P (b : Addr) (xs : List Int32) (args : Array Value) (s : State) : Prop := args = #[.ref b] ∧ s.IntsAt b xs ∧ xs.length ≤ 2048 ∧ (Jvm.Cond.and given_1 narrow_1).before args s = true
def lw_Q (_ : Array Value) (s : State) (o : Outcome) (t : State) : Prop := o = .returned (some (.int 1)) ∧ Framed s o t [] 600000 7302250
def lw_Z (below : List Frame) (a : Array Value) (s : State) : State → Prop := fun t => ∃ o, t.status = .running ∧ Ended t below o ∧ lw_Q a s o t
/-- the law's own end, with 1 on the stack, nothing written that was there before, its room as the claim has it -/
theorem lw_ret {p : Program} {l : Launch} {e : Env} {s : State} {m : MethodId} {below : List Frame} {meth : Method} {c : Code} {b : Nat} (hx : p.tables.exec = Jvm.exec) (hb : c.code = code) (hr : meth.sig.returnType = ret) (hlocks : meth.locks = false) {pc : Nat} {H : Heap} {ls : Array Slot} (hdg : decode code pc = .ok (.ireturn, 1)) : W p l e room_1 s m #[Value.ref b] below meth c H [] 600000 7302250 (lw_Z below #[Value.ref b] s) (F0 m pc ls [.int 1]) := by
  intro T hT X
  obtain ⟨fs, hret, hrun, hended, hW, hframe⟩ := X.leave (v := some (.int 1)) (hlocks := hlocks) (fun h => by rw [hr] at h; cases h)
  have hmeth' : T.vm.method? m = some meth := X.method'
  refine ⟨T.setFrames fs, ?_, .returned (some (.int 1)), hrun, hended, rfl, ⟨_, rfl⟩, hW, hframe⟩
  jvm_step X.here [X.here.top, hx, hb, hdg, hmeth', hr, ret, narrow_b1]
  (try refine ⟨rfl, ?_⟩); (try refine ⟨rfl, ?_⟩)
  first | (intro acts; rw [hret _ acts rfl rfl rfl]) | rw [hret _ _ rfl rfl rfl]
  exact Steps.refl _
/-- what holds at the law's entry: the machine, the code, the tables' words (any of lw_tbl by 'hts w (by decide +kernel)'), the script of L ints xs at the cell b, what the Statement gives of the start (any of its parts by flat_of_before) -/
def lw_At (p : Program) (s : State) (m : MethodId) (meth : Method) (c : Code) (b L : Nat) (xs : Nat → Int32) : Prop :=
  p.tables.exec = Jvm.exec ∧ c.code = code ∧ meth.sig.returnType = ret ∧ c.maxLocals = 4 ∧ s.vm.findClass R_law = some m.cls ∧ (∀ w ∈ lw_tbl, w.before #[Value.ref b] s = true) ∧ va_X b L xs s s.heap ∧ b < s.heap.size ∧ meth.locks = false ∧ (Jvm.Cond.and given_1 narrow_1).before #[Value.ref b] s = true
def LA (s : State) : Nat → Prop := fun q => s.heap.size ≤ q
def LC (p : Program) (s : State) (m : MethodId) (meth : Method) (c : Code) (b L : Nat) (xs : Nat → Int32) (D : va_G) (cy : Nat → ClassId) : Prop := lw_At p s m meth c b L xs ∧ va_K D vwCl (px_tys cy) s ∧ GX (LA s) s s.heap
def adX (s : State) : Nat → Nat := fun i => s.heap.size + i
def adM (s : State) : Nat → Nat := fun i => s.heap.size + 157 + i
def L2 (D : va_G) (cy : Nat → ClassId) (s : State) (H : Heap) (locs : List Loc) (g : GS) (mm : MS) : Prop := SIM D cy (adX s) (hX g) H ∧ SIM D cy (adM s) (hM mm) H ∧ va_S (LA s) s.heap H locs ∧ H.size = s.heap.size + 180
section LAW
variable {p : Program} {l : Launch} {e : Env} {s : State} {m : MethodId} {below : List Frame} {meth : Method} {c : Code} {b L : Nat} {xs : Nat → Int32} {D : va_G} {cy : Nat → ClassId} {H : Heap} {locs : List Loc} {cells slots : Nat} {QQ : State → Prop} {pc : Nat} {ls : Array Slot}
theorem lw_run {ad : Nat → Nat} {h : PH} {B1 : Nat × Nat} {Qc : Option PV → PH → Prop} {st0 st : List Value} {a : Array Value} (hA : ∀ i, i < h.1.length → s.heap.size ≤ ad i) (hV : va_S (LA s) s.heap H locs)
    (hr : va_Run p l e room_1 s m #[Value.ref b] below meth c H locs cells slots B1.1 B1.2 (F0 m pc ls st0) st (PQ D cy ad h.1 (px_A ad h.1.length H.size) B1.1 Qc a) (px_A ad h.1.length H.size))
    (k : ∀ v h1 H1 locs1, Qc v h1 → SIM D cy ad h1 H1 → H1.size = H.size + B1.1 → (∀ q, q < H.size → ¬ px_A ad h.1.length H.size q → H1[q]? = H[q]?) → va_S (LA s) s.heap H1 locs1 → W p l e room_1 s m #[Value.ref b] below meth c H1 locs1 (cells + B1.1) (slots + B1.2) QQ (F0 m (pc + 3) ls ((v.map (px_tr ad)).toList ++ st))) :
    W p l e room_1 s m #[Value.ref b] below meth c H locs cells slots QQ (F0 m pc ls st0) := by
  intro T hT X
  obtain ⟨v, st₀, t, T', L', h0, X', hL, e1, e2, ⟨⟨pv, h1, ho, hq, hS1, hJ1, hK1, hz1, r1, hr1, hrl1⟩, hz, hk⟩, stp⟩ := hr T hT X
  rw [h0] at hz hk hz1
  have hAA : ∀ q, px_A ad h.1.length H.size q → LA s q := by
    intro q hq
    rcases hq with ⟨i, hi, rfl⟩ | hq
    · exact hA i hi
    · exact Nat.le_trans hV.1 hq
  have hv : v = pv.map (px_tr ad) := by cases ho; rfl
  subst hv
  obtain ⟨t2, a1, b1⟩ := k pv h1 T'.heap (locs ++ L') hq (by rw [e1]; exact hS1) (by rw [e1]; exact hz1) (fun q h1 h2 => by rw [e1]; exact hk q h1 h2) ⟨Nat.le_trans hV.1 (by rw [e1]; exact hz), fun q h1 h2 => by rw [e1, hk q (Nat.lt_of_lt_of_le h1 hV.1) (fun z => h2 (hAA q z))]; exact hV.2.1 q h1 h2, fun q hq => by
      rcases List.mem_append.mp hq with h | h
      · exact hV.2.2 q h
      · exact hAA _ (hL q h)⟩ T' rfl X'
  exact ⟨t2, stp t2 a1, b1⟩
theorem lw_ws (C : LC p s m meth c b L xs D cy) : ∀ w ∈ WS, w.before #[Value.ref b] s = true := fun w hw => C.1.2.2.2.2.2.1 w (WS_tbl hw)
theorem lw_gx {ad : Nat → Nat} {n : Nat} {U : State} (C : LC p s m meth c b L xs D cy) (hV : va_S (LA s) s.heap H locs) (hA : ∀ i, i < n → s.heap.size ≤ ad i) (hW : s.WarmedH U.vm) : GX (px_A ad n H.size) U H :=
  ((C.2.2.warm hW).kept hV.2.1).narrow (fun q hq => by
    rcases hq with ⟨i, hi, rfl⟩ | hq
    · exact hA i hi
    · exact Nat.le_trans hV.1 hq)
theorem lw_callV {N : MD} {idx n b0 c0 : Nat} {q : vw_C} {h : PH} {ad : Nat → Nat} {Qc : Option PV → PH → Prop} {stk st : List Value} (av : List PV) (C : LC p s m meth c b L xs D cy) (hV : va_S (LA s) s.heap H locs) (hS : SIM D cy ad h H) (hJ : ADJ (LA s) ad h.1.length) (hl : ls.size = 4)
    (hd : decode code pc = .ok (.invokevirtual idx, 3)) (hml : Cond.methodLink RL idx N.1 ∈ WS) (hN : NV N n) (hi : Cond.instanceMethod N.1 ∈ WS) (hs : Cond.selects N.1.cls N.1 N.1 ∈ WS) (hc : vwCl[c0]? = some q) (hcl : q.1 = N.1.cls) (hO : OB h c0 b0) (hn : av.length = n) (hk : stk = (av.map (px_tr ad)).reverse ++ px_tr ad (vr b0) :: st)
    (hfr : N.2.2.2.2.1 + 1 ≤ 17) (hlc : 8 + (N.2.2.1 + 11) + N.2.2.2.2.2 ≤ 664) (hw : (st.map fun v => v.category).sum ≤ 8) (hcs : cells ≤ 600000 ∧ slots ≤ 7302250)
    (hM : MET N (vr b0 :: av) h (0, 0) Qc)
    (k : ∀ v h1 H1 locs1, Qc v h1 → SIM D cy ad h1 H1 → H1.size = H.size → (∀ q, q < H.size → ¬ px_A ad h.1.length H.size q → H1[q]? = H[q]?) → va_S (LA s) s.heap H1 locs1 → W p l e room_1 s m #[Value.ref b] below meth c H1 locs1 cells slots QQ (F0 m (pc + 3) ls ((v.map (px_tr ad)).toList ++ st))) :
    W p l e room_1 s m #[Value.ref b] below meth c H locs cells slots QQ (F0 m pc ls stk) := by
  subst hk
  obtain ⟨n3, hT3⟩ := hO
  obtain ⟨q', hq', cellV, g1, g2, g3, -⟩ := px_obj hS hT3 (cls_ok c0 q hc).2.2.2
  cases hc.symm.trans hq'
  have hts := lw_ws C
  have cellB : ∃ cellB : Cell, H[ad b0]? = some cellB ∧ cellB.vm.isStatics = false ∧ s.vm.findClass N.1.cls = some cellB.cls := ⟨cellV, g1, by rw [g3]; rfl, by rw [g2, ← hcl]; exact (C.2.1.1 c0 q hc).2.1⟩
  refine lw_run (B1 := (0, 0)) (ad := ad) (h := h) (Qc := Qc) (st := st) hJ.2 hV (va_runV (As := av.map (px_tr ad)) (rest := st) (own := RL) ⟨C.1.1, C.1.2.1, C.1.2.2.2.1, C.1.2.2.2.2.1, hts⟩ (hM l D cy ad H.size) (cwV n hts (hN.goodV hml hi hs) rfl rfl rfl ⟨rfl, hN.2.2⟩ ⟨hfr, hlc⟩) ⟨px_pre (B1 := (0, 0)), cellB, fun U hU hW => ⟨rfl, by rw [hU], by rw [hU]; exact hS, va_K.moved hW.alike C.2.1, by rw [hU]; exact lw_gx C hV hJ.2 hW, ⟨hJ.1, fun _ _ => trivial⟩, fun j hj => absurd hj (Nat.not_lt_zero j)⟩⟩ rfl (by rw [List.length_map]; exact hn) hl (by simp [px_tr, va_rf]) (lv_room hw) hd ⟨hcs.1, hcs.2⟩) k
theorem lw_callI {N : MD} {idx n b0 : Nat} {h : PH} {ad : Nat → Nat} {B1 : Nat × Nat} {Qc : Option PV → PH → Prop} {stk st : List Value} (av : List PV) (C : LC p s m meth c b L xs D cy) (hV : va_S (LA s) s.heap H locs) (hS : SIM D cy ad h H) (hJ : ADJ (LA s) ad h.1.length) (hl : ls.size = 4)
    (hd : decode code pc = .ok (.invokespecial idx, 3)) (hml : Cond.methodLink RL idx N.1 ∈ WS) (hN : NV N n) (hi : Cond.instanceMethod N.1 ∈ WS) (hy : N.1.name = "<init>") (hr : N.2.2.2.1 = none) (hn : av.length = n) (hk : stk = (av.map (px_tr ad)).reverse ++ px_tr ad (vr b0) :: st)
    (hfr : N.2.2.2.2.1 + 1 ≤ 17) (hlc : 8 + (N.2.2.1 + 11) + N.2.2.2.2.2 ≤ 664) (hw : (st.map fun v => v.category).sum ≤ 8) (hcs : cells + B1.1 ≤ 600000 ∧ slots + B1.2 ≤ 7302250) (had : ∀ j, j < B1.1 → ad (h.1.length + j) = H.size + j)
    (hM : MET N (vr b0 :: av) h B1 Qc)
    (k : ∀ v h1 H1 locs1, Qc v h1 → SIM D cy ad h1 H1 → H1.size = H.size + B1.1 → (∀ q, q < H.size → ¬ px_A ad h.1.length H.size q → H1[q]? = H[q]?) → va_S (LA s) s.heap H1 locs1 → W p l e room_1 s m #[Value.ref b] below meth c H1 locs1 (cells + B1.1) (slots + B1.2) QQ (F0 m (pc + 3) ls ((v.map (px_tr ad)).toList ++ st))) :
    W p l e room_1 s m #[Value.ref b] below meth c H locs cells slots QQ (F0 m pc ls stk) := by
  subst hk
  have hts := lw_ws C
  refine lw_run (B1 := B1) (ad := ad) (h := h) (Qc := Qc) (st := st) hJ.2 hV (va_runI (As := av.map (px_tr ad)) (rest := st) (own := RL) ⟨C.1.1, C.1.2.1, C.1.2.2.2.1, C.1.2.2.2.2.1, hts⟩ (hM l D cy ad H.size) (cwI n hts hN.good (by rw [hr]) rfl rfl (hts _ hN.2.1) (hts _ hml) (hts _ hi) hy hN.2.2 ⟨hfr, hlc⟩) ⟨px_pre (B1 := B1), fun U hU hW => ⟨rfl, by rw [hU], by rw [hU]; exact hS, va_K.moved hW.alike C.2.1, by rw [hU]; exact lw_gx C hV hJ.2 hW, ⟨hJ.1, fun _ _ => trivial⟩, had⟩⟩ rfl (by rw [List.length_map]; exact hn) hl (by simp [px_tr, va_rf]) (lv_room hw) hd ⟨hcs.1, hcs.2⟩) k
end LAW
